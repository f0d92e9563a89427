theorem dX0_init_0 : decode cX0_init 0 = .ok (.aload_n 0, 1) := by decide +kernel
theorem dX0_init_1 : decode cX0_init 1 = .ok (.invokespecial 3, 3) := by decide +kernel
theorem dX0_init_4 : decode cX0_init 4 = .ok (.aload_n 0, 1) := by decide +kernel
theorem dX0_init_5 : decode cX0_init 5 = .ok (.bipush 96, 2) := by decide +kernel
theorem dX0_init_7 : decode cX0_init 7 = .ok (.newarray .int, 2) := by decide +kernel
theorem dX0_init_9 : decode cX0_init 9 = .ok (.putfield 9, 3) := by decide +kernel
theorem dX0_init_12 : decode cX0_init 12 = .ok (.aload_n 0, 1) := by decide +kernel
theorem dX0_init_13 : decode cX0_init 13 = .ok (.bipush 6, 2) := by decide +kernel
theorem dX0_init_15 : decode cX0_init 15 = .ok (.newarray .int, 2) := by decide +kernel
theorem dX0_init_17 : decode cX0_init 17 = .ok (.putfield 15, 3) := by decide +kernel
theorem dX0_init_20 : decode cX0_init 20 = .ok (.aload_n 0, 1) := by decide +kernel
theorem dX0_init_21 : decode cX0_init 21 = .ok (.iconst 3, 1) := by decide +kernel
theorem dX0_init_22 : decode cX0_init 22 = .ok (.anewarray 18, 3) := by decide +kernel
theorem dX0_init_25 : decode cX0_init 25 = .ok (.putfield 20, 3) := by decide +kernel
theorem dX0_init_28 : decode cX0_init 28 = .ok (.aload_n 0, 1) := by decide +kernel
theorem dX0_init_29 : decode cX0_init 29 = .ok (.iload_n 1, 1) := by decide +kernel
theorem dX0_init_30 : decode cX0_init 30 = .ok (.putfield 24, 3) := by decide +kernel
theorem dX0_init_33 : decode cX0_init 33 = .ok (.aload_n 0, 1) := by decide +kernel
theorem dX0_init_34 : decode cX0_init 34 = .ok (.iload_n 2, 1) := by decide +kernel
theorem dX0_init_35 : decode cX0_init 35 = .ok (.putfield 28, 3) := by decide +kernel
theorem dX0_init_38 : decode cX0_init 38 = .ok (.aload_n 0, 1) := by decide +kernel
theorem dX0_init_39 : decode cX0_init 39 = .ok (.iload_n 3, 1) := by decide +kernel
theorem dX0_init_40 : decode cX0_init 40 = .ok (.putfield 31, 3) := by decide +kernel
theorem dX0_init_43 : decode cX0_init 43 = .ok (.aload_n 0, 1) := by decide +kernel
theorem dX0_init_44 : decode cX0_init 44 = .ok (.iload 4, 2) := by decide +kernel
theorem dX0_init_46 : decode cX0_init 46 = .ok (.putfield 34, 3) := by decide +kernel
theorem dX0_init_49 : decode cX0_init 49 = .ok (.aload_n 0, 1) := by decide +kernel
theorem dX0_init_50 : decode cX0_init 50 = .ok (.iload 5, 2) := by decide +kernel
theorem dX0_init_52 : decode cX0_init 52 = .ok (.putfield 37, 3) := by decide +kernel
theorem dX0_init_55 : decode cX0_init 55 = .ok (.aload_n 0, 1) := by decide +kernel
theorem dX0_init_56 : decode cX0_init 56 = .ok (.iconst 1, 1) := by decide +kernel
theorem dX0_init_57 : decode cX0_init 57 = .ok (.putfield 40, 3) := by decide +kernel
theorem dX0_init_60 : decode cX0_init 60 = .ok (.aload_n 0, 1) := by decide +kernel
theorem dX0_init_61 : decode cX0_init 61 = .ok (.lload 6, 2) := by decide +kernel
theorem dX0_init_63 : decode cX0_init 63 = .ok (.putfield 44, 3) := by decide +kernel
theorem dX0_init_66 : decode cX0_init 66 = .ok (.iconst 0, 1) := by decide +kernel
theorem dX0_init_67 : decode cX0_init 67 = .ok (.istore 8, 2) := by decide +kernel
theorem dX0_init_69 : decode cX0_init 69 = .ok (.iload 8, 2) := by decide +kernel
theorem dX0_init_71 : decode cX0_init 71 = .ok (.aload_n 0, 1) := by decide +kernel
theorem dX0_init_72 : decode cX0_init 72 = .ok (.getfield 15, 3) := by decide +kernel
theorem dX0_init_75 : decode cX0_init 75 = .ok (.arraylength, 1) := by decide +kernel
theorem dX0_init_76 : decode cX0_init 76 = .ok (.if_icmp .ge 23, 3) := by decide +kernel
theorem dX0_init_79 : decode cX0_init 79 = .ok (.aload_n 0, 1) := by decide +kernel
theorem dX0_init_80 : decode cX0_init 80 = .ok (.getfield 15, 3) := by decide +kernel
theorem dX0_init_83 : decode cX0_init 83 = .ok (.iload 8, 2) := by decide +kernel
theorem dX0_init_85 : decode cX0_init 85 = .ok (.bipush 60, 2) := by decide +kernel
theorem dX0_init_87 : decode cX0_init 87 = .ok (.iconst 2, 1) := by decide +kernel
theorem dX0_init_88 : decode cX0_init 88 = .ok (.iload 8, 2) := by decide +kernel
theorem dX0_init_90 : decode cX0_init 90 = .ok (.imul, 1) := by decide +kernel
theorem dX0_init_91 : decode cX0_init 91 = .ok (.iadd, 1) := by decide +kernel
theorem dX0_init_92 : decode cX0_init 92 = .ok (.iastore, 1) := by decide +kernel
theorem dX0_init_93 : decode cX0_init 93 = .ok (.iinc 8 1, 3) := by decide +kernel
theorem dX0_init_96 : decode cX0_init 96 = .ok (.goto (-27), 3) := by decide +kernel
theorem dX0_init_99 : decode cX0_init 99 = .ok (.iconst 0, 1) := by decide +kernel
theorem dX0_init_100 : decode cX0_init 100 = .ok (.istore 8, 2) := by decide +kernel
theorem dX0_init_102 : decode cX0_init 102 = .ok (.iload 8, 2) := by decide +kernel
theorem dX0_init_104 : decode cX0_init 104 = .ok (.aload_n 0, 1) := by decide +kernel
theorem dX0_init_105 : decode cX0_init 105 = .ok (.getfield 20, 3) := by decide +kernel
theorem dX0_init_108 : decode cX0_init 108 = .ok (.arraylength, 1) := by decide +kernel
theorem dX0_init_109 : decode cX0_init 109 = .ok (.if_icmp .ge 23, 3) := by decide +kernel
theorem dX0_init_112 : decode cX0_init 112 = .ok (.aload_n 0, 1) := by decide +kernel
theorem dX0_init_113 : decode cX0_init 113 = .ok (.getfield 20, 3) := by decide +kernel
theorem dX0_init_116 : decode cX0_init 116 = .ok (.iload 8, 2) := by decide +kernel
theorem dX0_init_118 : decode cX0_init 118 = .ok (.new 18, 3) := by decide +kernel
theorem dX0_init_121 : decode cX0_init 121 = .ok (.dup, 1) := by decide +kernel
theorem dX0_init_122 : decode cX0_init 122 = .ok (.invokespecial 48, 3) := by decide +kernel
theorem dX0_init_125 : decode cX0_init 125 = .ok (.aastore, 1) := by decide +kernel
theorem dX0_init_126 : decode cX0_init 126 = .ok (.iinc 8 1, 3) := by decide +kernel
theorem dX0_init_129 : decode cX0_init 129 = .ok (.goto (-27), 3) := by decide +kernel
theorem dX0_init_132 : decode cX0_init 132 = .ok (.return_, 1) := by decide +kernel
theorem dX0_remember_0 : decode cX0_remember 0 = .ok (.aload_n 0, 1) := by decide +kernel
theorem dX0_remember_1 : decode cX0_remember 1 = .ok (.aload_n 0, 1) := by decide +kernel
theorem dX0_remember_2 : decode cX0_remember 2 = .ok (.getfield 49, 3) := by decide +kernel
theorem dX0_remember_5 : decode cX0_remember 5 = .ok (.putfield 52, 3) := by decide +kernel
theorem dX0_remember_8 : decode cX0_remember 8 = .ok (.aload_n 0, 1) := by decide +kernel
theorem dX0_remember_9 : decode cX0_remember 9 = .ok (.aload_n 0, 1) := by decide +kernel
theorem dX0_remember_10 : decode cX0_remember 10 = .ok (.getfield 55, 3) := by decide +kernel
theorem dX0_remember_13 : decode cX0_remember 13 = .ok (.putfield 58, 3) := by decide +kernel
theorem dX0_remember_16 : decode cX0_remember 16 = .ok (.return_, 1) := by decide +kernel
theorem dX0_recall_0 : decode cX0_recall 0 = .ok (.aload_n 0, 1) := by decide +kernel
theorem dX0_recall_1 : decode cX0_recall 1 = .ok (.aload_n 0, 1) := by decide +kernel
theorem dX0_recall_2 : decode cX0_recall 2 = .ok (.getfield 52, 3) := by decide +kernel
theorem dX0_recall_5 : decode cX0_recall 5 = .ok (.putfield 49, 3) := by decide +kernel
theorem dX0_recall_8 : decode cX0_recall 8 = .ok (.aload_n 0, 1) := by decide +kernel
theorem dX0_recall_9 : decode cX0_recall 9 = .ok (.aload_n 0, 1) := by decide +kernel
theorem dX0_recall_10 : decode cX0_recall 10 = .ok (.getfield 58, 3) := by decide +kernel
theorem dX0_recall_13 : decode cX0_recall 13 = .ok (.putfield 55, 3) := by decide +kernel
theorem dX0_recall_16 : decode cX0_recall 16 = .ok (.return_, 1) := by decide +kernel
theorem dX0_isDrivenBy_0 : decode cX0_isDrivenBy 0 = .ok (.aload_n 0, 1) := by decide +kernel
theorem dX0_isDrivenBy_1 : decode cX0_isDrivenBy 1 = .ok (.getfield 40, 3) := by decide +kernel
theorem dX0_isDrivenBy_4 : decode cX0_isDrivenBy 4 = .ok (.ifCond .eq 15, 3) := by decide +kernel
theorem dX0_isDrivenBy_7 : decode cX0_isDrivenBy 7 = .ok (.aload_n 0, 1) := by decide +kernel
theorem dX0_isDrivenBy_8 : decode cX0_isDrivenBy 8 = .ok (.getfield 24, 3) := by decide +kernel
theorem dX0_isDrivenBy_11 : decode cX0_isDrivenBy 11 = .ok (.iload_n 1, 1) := by decide +kernel
theorem dX0_isDrivenBy_12 : decode cX0_isDrivenBy 12 = .ok (.if_icmp .ne 7, 3) := by decide +kernel
theorem dX0_isDrivenBy_15 : decode cX0_isDrivenBy 15 = .ok (.iconst 1, 1) := by decide +kernel
theorem dX0_isDrivenBy_16 : decode cX0_isDrivenBy 16 = .ok (.goto 4, 3) := by decide +kernel
theorem dX0_isDrivenBy_19 : decode cX0_isDrivenBy 19 = .ok (.iconst 0, 1) := by decide +kernel
theorem dX0_isDrivenBy_20 : decode cX0_isDrivenBy 20 = .ok (.ireturn, 1) := by decide +kernel
theorem dX0_startAnew_0 : decode cX0_startAnew 0 = .ok (.aload_n 0, 1) := by decide +kernel
theorem dX0_startAnew_1 : decode cX0_startAnew 1 = .ok (.lload_n 1, 1) := by decide +kernel
theorem dX0_startAnew_2 : decode cX0_startAnew 2 = .ok (.putfield 44, 3) := by decide +kernel
theorem dX0_startAnew_5 : decode cX0_startAnew 5 = .ok (.aload_n 0, 1) := by decide +kernel
theorem dX0_startAnew_6 : decode cX0_startAnew 6 = .ok (.lconst 0, 1) := by decide +kernel
theorem dX0_startAnew_7 : decode cX0_startAnew 7 = .ok (.putfield 49, 3) := by decide +kernel
theorem dX0_startAnew_10 : decode cX0_startAnew 10 = .ok (.return_, 1) := by decide +kernel
theorem dX0_goneWhen_0 : decode cX0_goneWhen 0 = .ok (.ldc2_w 61, 3) := by decide +kernel
theorem dX0_goneWhen_3 : decode cX0_goneWhen 3 = .ok (.aload_n 0, 1) := by decide +kernel
theorem dX0_goneWhen_4 : decode cX0_goneWhen 4 = .ok (.getfield 37, 3) := by decide +kernel
theorem dX0_goneWhen_7 : decode cX0_goneWhen 7 = .ok (.i2l, 1) := by decide +kernel
theorem dX0_goneWhen_8 : decode cX0_goneWhen 8 = .ok (.lmul, 1) := by decide +kernel
theorem dX0_goneWhen_9 : decode cX0_goneWhen 9 = .ok (.lstore_n 3, 1) := by decide +kernel
theorem dX0_goneWhen_10 : decode cX0_goneWhen 10 = .ok (.lload_n 3, 1) := by decide +kernel
theorem dX0_goneWhen_11 : decode cX0_goneWhen 11 = .ok (.lconst 0, 1) := by decide +kernel
theorem dX0_goneWhen_12 : decode cX0_goneWhen 12 = .ok (.lcmp, 1) := by decide +kernel
theorem dX0_goneWhen_13 : decode cX0_goneWhen 13 = .ok (.ifCond .le 26, 3) := by decide +kernel
theorem dX0_goneWhen_16 : decode cX0_goneWhen 16 = .ok (.lload_n 1, 1) := by decide +kernel
theorem dX0_goneWhen_17 : decode cX0_goneWhen 17 = .ok (.aload_n 0, 1) := by decide +kernel
theorem dX0_goneWhen_18 : decode cX0_goneWhen 18 = .ok (.getfield 44, 3) := by decide +kernel
theorem dX0_goneWhen_21 : decode cX0_goneWhen 21 = .ok (.lsub, 1) := by decide +kernel
theorem dX0_goneWhen_22 : decode cX0_goneWhen 22 = .ok (.aload_n 0, 1) := by decide +kernel
theorem dX0_goneWhen_23 : decode cX0_goneWhen 23 = .ok (.getfield 34, 3) := by decide +kernel
theorem dX0_goneWhen_26 : decode cX0_goneWhen 26 = .ok (.i2l, 1) := by decide +kernel
theorem dX0_goneWhen_27 : decode cX0_goneWhen 27 = .ok (.lmul, 1) := by decide +kernel
theorem dX0_goneWhen_28 : decode cX0_goneWhen 28 = .ok (.aload_n 0, 1) := by decide +kernel
theorem dX0_goneWhen_29 : decode cX0_goneWhen 29 = .ok (.getfield 31, 3) := by decide +kernel
theorem dX0_goneWhen_32 : decode cX0_goneWhen 32 = .ok (.i2l, 1) := by decide +kernel
theorem dX0_goneWhen_33 : decode cX0_goneWhen 33 = .ok (.lmul, 1) := by decide +kernel
theorem dX0_goneWhen_34 : decode cX0_goneWhen 34 = .ok (.lload_n 3, 1) := by decide +kernel
theorem dX0_goneWhen_35 : decode cX0_goneWhen 35 = .ok (.ldiv, 1) := by decide +kernel
theorem dX0_goneWhen_36 : decode cX0_goneWhen 36 = .ok (.goto 4, 3) := by decide +kernel
theorem dX0_goneWhen_39 : decode cX0_goneWhen 39 = .ok (.lconst 0, 1) := by decide +kernel
theorem dX0_goneWhen_40 : decode cX0_goneWhen 40 = .ok (.lreturn, 1) := by decide +kernel
theorem dX0_placeWhenGone_0 : decode cX0_placeWhenGone 0 = .ok (.aload_n 0, 1) := by decide +kernel
theorem dX0_placeWhenGone_1 : decode cX0_placeWhenGone 1 = .ok (.getfield 31, 3) := by decide +kernel
theorem dX0_placeWhenGone_4 : decode cX0_placeWhenGone 4 = .ok (.ifCond .le 14, 3) := by decide +kernel
theorem dX0_placeWhenGone_7 : decode cX0_placeWhenGone 7 = .ok (.lload_n 1, 1) := by decide +kernel
theorem dX0_placeWhenGone_8 : decode cX0_placeWhenGone 8 = .ok (.aload_n 0, 1) := by decide +kernel
theorem dX0_placeWhenGone_9 : decode cX0_placeWhenGone 9 = .ok (.getfield 31, 3) := by decide +kernel
theorem dX0_placeWhenGone_12 : decode cX0_placeWhenGone 12 = .ok (.i2l, 1) := by decide +kernel
theorem dX0_placeWhenGone_13 : decode cX0_placeWhenGone 13 = .ok (.lrem, 1) := by decide +kernel
theorem dX0_placeWhenGone_14 : decode cX0_placeWhenGone 14 = .ok (.l2i, 1) := by decide +kernel
theorem dX0_placeWhenGone_15 : decode cX0_placeWhenGone 15 = .ok (.goto 4, 3) := by decide +kernel
theorem dX0_placeWhenGone_18 : decode cX0_placeWhenGone 18 = .ok (.iconst 0, 1) := by decide +kernel
theorem dX0_placeWhenGone_19 : decode cX0_placeWhenGone 19 = .ok (.ireturn, 1) := by decide +kernel
theorem dX0_placeNow_0 : decode cX0_placeNow 0 = .ok (.aload_n 0, 1) := by decide +kernel
theorem dX0_placeNow_1 : decode cX0_placeNow 1 = .ok (.aload_n 0, 1) := by decide +kernel
theorem dX0_placeNow_2 : decode cX0_placeNow 2 = .ok (.getfield 49, 3) := by decide +kernel
theorem dX0_placeNow_5 : decode cX0_placeNow 5 = .ok (.invokevirtual 63, 3) := by decide +kernel
theorem dX0_placeNow_8 : decode cX0_placeNow 8 = .ok (.ireturn, 1) := by decide +kernel
theorem dX0_hasPlace_0 : decode cX0_hasPlace 0 = .ok (.iload_n 1, 1) := by decide +kernel
theorem dX0_hasPlace_1 : decode cX0_hasPlace 1 = .ok (.iconst 0, 1) := by decide +kernel
theorem dX0_hasPlace_2 : decode cX0_hasPlace 2 = .ok (.aload_n 0, 1) := by decide +kernel
theorem dX0_hasPlace_3 : decode cX0_hasPlace 3 = .ok (.getfield 31, 3) := by decide +kernel
theorem dX0_hasPlace_6 : decode cX0_hasPlace 6 = .ok (.iconst 1, 1) := by decide +kernel
theorem dX0_hasPlace_7 : decode cX0_hasPlace 7 = .ok (.isub, 1) := by decide +kernel
theorem dX0_hasPlace_8 : decode cX0_hasPlace 8 = .ok (.invokestatic 67, 3) := by decide +kernel
theorem dX0_hasPlace_11 : decode cX0_hasPlace 11 = .ok (.ireturn, 1) := by decide +kernel
theorem dX0_hasPin_0 : decode cX0_hasPin 0 = .ok (.aload_n 0, 1) := by decide +kernel
theorem dX0_hasPin_1 : decode cX0_hasPin 1 = .ok (.getfield 9, 3) := by decide +kernel
theorem dX0_hasPin_4 : decode cX0_hasPin 4 = .ok (.iload_n 1, 1) := by decide +kernel
theorem dX0_hasPin_5 : decode cX0_hasPin 5 = .ok (.invokestatic 71, 3) := by decide +kernel
theorem dX0_hasPin_8 : decode cX0_hasPin 8 = .ok (.iload_n 2, 1) := by decide +kernel
theorem dX0_hasPin_9 : decode cX0_hasPin 9 = .ok (.ishr, 1) := by decide +kernel
theorem dX0_hasPin_10 : decode cX0_hasPin 10 = .ok (.iconst 1, 1) := by decide +kernel
theorem dX0_hasPin_11 : decode cX0_hasPin 11 = .ok (.iand, 1) := by decide +kernel
theorem dX0_hasPin_12 : decode cX0_hasPin 12 = .ok (.iconst 1, 1) := by decide +kernel
theorem dX0_hasPin_13 : decode cX0_hasPin 13 = .ok (.if_icmp .ne 7, 3) := by decide +kernel
theorem dX0_hasPin_16 : decode cX0_hasPin 16 = .ok (.iconst 1, 1) := by decide +kernel
theorem dX0_hasPin_17 : decode cX0_hasPin 17 = .ok (.goto 4, 3) := by decide +kernel
theorem dX0_hasPin_20 : decode cX0_hasPin 20 = .ok (.iconst 0, 1) := by decide +kernel
theorem dX0_hasPin_21 : decode cX0_hasPin 21 = .ok (.ireturn, 1) := by decide +kernel
theorem dX0_turnPin_0 : decode cX0_turnPin 0 = .ok (.aload_n 0, 1) := by decide +kernel
theorem dX0_turnPin_1 : decode cX0_turnPin 1 = .ok (.dup, 1) := by decide +kernel
theorem dX0_turnPin_2 : decode cX0_turnPin 2 = .ok (.getfield 75, 3) := by decide +kernel
theorem dX0_turnPin_5 : decode cX0_turnPin 5 = .ok (.aload_n 0, 1) := by decide +kernel
theorem dX0_turnPin_6 : decode cX0_turnPin 6 = .ok (.iload_n 1, 1) := by decide +kernel
theorem dX0_turnPin_7 : decode cX0_turnPin 7 = .ok (.iload_n 2, 1) := by decide +kernel
theorem dX0_turnPin_8 : decode cX0_turnPin 8 = .ok (.invokevirtual 78, 3) := by decide +kernel
theorem dX0_turnPin_11 : decode cX0_turnPin 11 = .ok (.ifCond .eq 7, 3) := by decide +kernel
theorem dX0_turnPin_14 : decode cX0_turnPin 14 = .ok (.iconst (-1), 1) := by decide +kernel
theorem dX0_turnPin_15 : decode cX0_turnPin 15 = .ok (.goto 4, 3) := by decide +kernel
theorem dX0_turnPin_18 : decode cX0_turnPin 18 = .ok (.iconst 1, 1) := by decide +kernel
theorem dX0_turnPin_19 : decode cX0_turnPin 19 = .ok (.iadd, 1) := by decide +kernel
theorem dX0_turnPin_20 : decode cX0_turnPin 20 = .ok (.putfield 75, 3) := by decide +kernel
theorem dX0_turnPin_23 : decode cX0_turnPin 23 = .ok (.aload_n 0, 1) := by decide +kernel
theorem dX0_turnPin_24 : decode cX0_turnPin 24 = .ok (.getfield 9, 3) := by decide +kernel
theorem dX0_turnPin_27 : decode cX0_turnPin 27 = .ok (.iload_n 1, 1) := by decide +kernel
theorem dX0_turnPin_28 : decode cX0_turnPin 28 = .ok (.aload_n 0, 1) := by decide +kernel
theorem dX0_turnPin_29 : decode cX0_turnPin 29 = .ok (.getfield 9, 3) := by decide +kernel
theorem dX0_turnPin_32 : decode cX0_turnPin 32 = .ok (.iload_n 1, 1) := by decide +kernel
theorem dX0_turnPin_33 : decode cX0_turnPin 33 = .ok (.invokestatic 71, 3) := by decide +kernel
theorem dX0_turnPin_36 : decode cX0_turnPin 36 = .ok (.iconst 1, 1) := by decide +kernel
theorem dX0_turnPin_37 : decode cX0_turnPin 37 = .ok (.iload_n 2, 1) := by decide +kernel
theorem dX0_turnPin_38 : decode cX0_turnPin 38 = .ok (.ishl, 1) := by decide +kernel
theorem dX0_turnPin_39 : decode cX0_turnPin 39 = .ok (.ixor, 1) := by decide +kernel
theorem dX0_turnPin_40 : decode cX0_turnPin 40 = .ok (.invokestatic 82, 3) := by decide +kernel
theorem dX0_turnPin_43 : decode cX0_turnPin 43 = .ok (.return_, 1) := by decide +kernel
theorem dX0_camAt_0 : decode cX0_camAt 0 = .ok (.iload_n 1, 1) := by decide +kernel
theorem dX0_camAt_1 : decode cX0_camAt 1 = .ok (.ifCond .lt 21, 3) := by decide +kernel
theorem dX0_camAt_4 : decode cX0_camAt 4 = .ok (.iload_n 1, 1) := by decide +kernel
theorem dX0_camAt_5 : decode cX0_camAt 5 = .ok (.aload_n 0, 1) := by decide +kernel
theorem dX0_camAt_6 : decode cX0_camAt 6 = .ok (.getfield 20, 3) := by decide +kernel
theorem dX0_camAt_9 : decode cX0_camAt 9 = .ok (.arraylength, 1) := by decide +kernel
theorem dX0_camAt_10 : decode cX0_camAt 10 = .ok (.if_icmp .ge 12, 3) := by decide +kernel
theorem dX0_camAt_13 : decode cX0_camAt 13 = .ok (.aload_n 0, 1) := by decide +kernel
theorem dX0_camAt_14 : decode cX0_camAt 14 = .ok (.getfield 20, 3) := by decide +kernel
theorem dX0_camAt_17 : decode cX0_camAt 17 = .ok (.iload_n 1, 1) := by decide +kernel
theorem dX0_camAt_18 : decode cX0_camAt 18 = .ok (.aaload, 1) := by decide +kernel
theorem dX0_camAt_19 : decode cX0_camAt 19 = .ok (.goto 4, 3) := by decide +kernel
theorem dX0_camAt_22 : decode cX0_camAt 22 = .ok (.aconst_null, 1) := by decide +kernel
theorem dX0_camAt_23 : decode cX0_camAt 23 = .ok (.areturn, 1) := by decide +kernel
theorem dX0_burden_0 : decode cX0_burden 0 = .ok (.aload_n 0, 1) := by decide +kernel
theorem dX0_burden_1 : decode cX0_burden 1 = .ok (.invokevirtual 86, 3) := by decide +kernel
theorem dX0_burden_4 : decode cX0_burden 4 = .ok (.istore_n 1, 1) := by decide +kernel
theorem dX0_burden_5 : decode cX0_burden 5 = .ok (.iconst 0, 1) := by decide +kernel
theorem dX0_burden_6 : decode cX0_burden 6 = .ok (.istore_n 2, 1) := by decide +kernel
theorem dX0_burden_7 : decode cX0_burden 7 = .ok (.aload_n 0, 1) := by decide +kernel
theorem dX0_burden_8 : decode cX0_burden 8 = .ok (.getfield 20, 3) := by decide +kernel
theorem dX0_burden_11 : decode cX0_burden 11 = .ok (.astore_n 3, 1) := by decide +kernel
theorem dX0_burden_12 : decode cX0_burden 12 = .ok (.aload_n 3, 1) := by decide +kernel
theorem dX0_burden_13 : decode cX0_burden 13 = .ok (.arraylength, 1) := by decide +kernel
theorem dX0_burden_14 : decode cX0_burden 14 = .ok (.istore 4, 2) := by decide +kernel
theorem dX0_burden_16 : decode cX0_burden 16 = .ok (.iconst 0, 1) := by decide +kernel
theorem dX0_burden_17 : decode cX0_burden 17 = .ok (.istore 5, 2) := by decide +kernel
theorem dX0_burden_19 : decode cX0_burden 19 = .ok (.iload 5, 2) := by decide +kernel
theorem dX0_burden_21 : decode cX0_burden 21 = .ok (.iload 4, 2) := by decide +kernel
theorem dX0_burden_23 : decode cX0_burden 23 = .ok (.if_icmp .ge 32, 3) := by decide +kernel
theorem dX0_burden_26 : decode cX0_burden 26 = .ok (.aload_n 3, 1) := by decide +kernel
theorem dX0_burden_27 : decode cX0_burden 27 = .ok (.iload 5, 2) := by decide +kernel
theorem dX0_burden_29 : decode cX0_burden 29 = .ok (.aaload, 1) := by decide +kernel
theorem dX0_burden_30 : decode cX0_burden 30 = .ok (.astore 6, 2) := by decide +kernel
theorem dX0_burden_32 : decode cX0_burden 32 = .ok (.aload 6, 2) := by decide +kernel
theorem dX0_burden_34 : decode cX0_burden 34 = .ok (.ifnull 15, 3) := by decide +kernel
theorem dX0_burden_37 : decode cX0_burden 37 = .ok (.iload_n 2, 1) := by decide +kernel
theorem dX0_burden_38 : decode cX0_burden 38 = .ok (.aload 6, 2) := by decide +kernel
theorem dX0_burden_40 : decode cX0_burden 40 = .ok (.getfield 90, 3) := by decide +kernel
theorem dX0_burden_43 : decode cX0_burden 43 = .ok (.iload_n 1, 1) := by decide +kernel
theorem dX0_burden_44 : decode cX0_burden 44 = .ok (.invokestatic 71, 3) := by decide +kernel
theorem dX0_burden_47 : decode cX0_burden 47 = .ok (.iadd, 1) := by decide +kernel
theorem dX0_burden_48 : decode cX0_burden 48 = .ok (.istore_n 2, 1) := by decide +kernel
theorem dX0_burden_49 : decode cX0_burden 49 = .ok (.iinc 5 1, 3) := by decide +kernel
theorem dX0_burden_52 : decode cX0_burden 52 = .ok (.goto (-33), 3) := by decide +kernel
theorem dX0_burden_55 : decode cX0_burden 55 = .ok (.aload_n 0, 1) := by decide +kernel
theorem dX0_burden_56 : decode cX0_burden 56 = .ok (.getfield 28, 3) := by decide +kernel
theorem dX0_burden_59 : decode cX0_burden 59 = .ok (.iload_n 2, 1) := by decide +kernel
theorem dX0_burden_60 : decode cX0_burden 60 = .ok (.iconst 5, 1) := by decide +kernel
theorem dX0_burden_61 : decode cX0_burden 61 = .ok (.idiv, 1) := by decide +kernel
theorem dX0_burden_62 : decode cX0_burden 62 = .ok (.iadd, 1) := by decide +kernel
theorem dX0_burden_63 : decode cX0_burden 63 = .ok (.ireturn, 1) := by decide +kernel
theorem dX1_init_0 : decode cX1_init 0 = .ok (.aload_n 0, 1) := by decide +kernel
theorem dX1_init_1 : decode cX1_init 1 = .ok (.invokespecial 3, 3) := by decide +kernel
theorem dX1_init_4 : decode cX1_init 4 = .ok (.aload_n 0, 1) := by decide +kernel
theorem dX1_init_5 : decode cX1_init 5 = .ok (.bipush 96, 2) := by decide +kernel
theorem dX1_init_7 : decode cX1_init 7 = .ok (.newarray .int, 2) := by decide +kernel
theorem dX1_init_9 : decode cX1_init 9 = .ok (.putfield 9, 3) := by decide +kernel
theorem dX1_init_12 : decode cX1_init 12 = .ok (.aload_n 0, 1) := by decide +kernel
theorem dX1_init_13 : decode cX1_init 13 = .ok (.bipush 96, 2) := by decide +kernel
theorem dX1_init_15 : decode cX1_init 15 = .ok (.newarray .int, 2) := by decide +kernel
theorem dX1_init_17 : decode cX1_init 17 = .ok (.putfield 15, 3) := by decide +kernel
theorem dX1_init_20 : decode cX1_init 20 = .ok (.return_, 1) := by decide +kernel
theorem dX1_hasPoint_0 : decode cX1_hasPoint 0 = .ok (.aload_n 0, 1) := by decide +kernel
theorem dX1_hasPoint_1 : decode cX1_hasPoint 1 = .ok (.getfield 9, 3) := by decide +kernel
theorem dX1_hasPoint_4 : decode cX1_hasPoint 4 = .ok (.iload_n 1, 1) := by decide +kernel
theorem dX1_hasPoint_5 : decode cX1_hasPoint 5 = .ok (.invokestatic 18, 3) := by decide +kernel
theorem dX1_hasPoint_8 : decode cX1_hasPoint 8 = .ok (.iconst 1, 1) := by decide +kernel
theorem dX1_hasPoint_9 : decode cX1_hasPoint 9 = .ok (.if_icmp .ne 7, 3) := by decide +kernel
theorem dX1_hasPoint_12 : decode cX1_hasPoint 12 = .ok (.iconst 1, 1) := by decide +kernel
theorem dX1_hasPoint_13 : decode cX1_hasPoint 13 = .ok (.goto 4, 3) := by decide +kernel
theorem dX1_hasPoint_16 : decode cX1_hasPoint 16 = .ok (.iconst 0, 1) := by decide +kernel
theorem dX1_hasPoint_17 : decode cX1_hasPoint 17 = .ok (.ireturn, 1) := by decide +kernel
theorem dX1_layPoint_0 : decode cX1_layPoint 0 = .ok (.aload_n 0, 1) := by decide +kernel
theorem dX1_layPoint_1 : decode cX1_layPoint 1 = .ok (.iload_n 1, 1) := by decide +kernel
theorem dX1_layPoint_2 : decode cX1_layPoint 2 = .ok (.invokevirtual 22, 3) := by decide +kernel
theorem dX1_layPoint_5 : decode cX1_layPoint 5 = .ok (.ifCond .ne 13, 3) := by decide +kernel
theorem dX1_layPoint_8 : decode cX1_layPoint 8 = .ok (.aload_n 0, 1) := by decide +kernel
theorem dX1_layPoint_9 : decode cX1_layPoint 9 = .ok (.dup, 1) := by decide +kernel
theorem dX1_layPoint_10 : decode cX1_layPoint 10 = .ok (.getfield 26, 3) := by decide +kernel
theorem dX1_layPoint_13 : decode cX1_layPoint 13 = .ok (.iconst 1, 1) := by decide +kernel
theorem dX1_layPoint_14 : decode cX1_layPoint 14 = .ok (.iadd, 1) := by decide +kernel
theorem dX1_layPoint_15 : decode cX1_layPoint 15 = .ok (.putfield 26, 3) := by decide +kernel
theorem dX1_layPoint_18 : decode cX1_layPoint 18 = .ok (.aload_n 0, 1) := by decide +kernel
theorem dX1_layPoint_19 : decode cX1_layPoint 19 = .ok (.getfield 9, 3) := by decide +kernel
theorem dX1_layPoint_22 : decode cX1_layPoint 22 = .ok (.iload_n 1, 1) := by decide +kernel
theorem dX1_layPoint_23 : decode cX1_layPoint 23 = .ok (.iconst 1, 1) := by decide +kernel
theorem dX1_layPoint_24 : decode cX1_layPoint 24 = .ok (.invokestatic 30, 3) := by decide +kernel
theorem dX1_layPoint_27 : decode cX1_layPoint 27 = .ok (.aload_n 0, 1) := by decide +kernel
theorem dX1_layPoint_28 : decode cX1_layPoint 28 = .ok (.getfield 15, 3) := by decide +kernel
theorem dX1_layPoint_31 : decode cX1_layPoint 31 = .ok (.iload_n 1, 1) := by decide +kernel
theorem dX1_layPoint_32 : decode cX1_layPoint 32 = .ok (.iload_n 2, 1) := by decide +kernel
theorem dX1_layPoint_33 : decode cX1_layPoint 33 = .ok (.invokestatic 30, 3) := by decide +kernel
theorem dX1_layPoint_36 : decode cX1_layPoint 36 = .ok (.aload_n 0, 1) := by decide +kernel
theorem dX1_layPoint_37 : decode cX1_layPoint 37 = .ok (.iload_n 3, 1) := by decide +kernel
theorem dX1_layPoint_38 : decode cX1_layPoint 38 = .ok (.invokevirtual 34, 3) := by decide +kernel
theorem dX1_layPoint_41 : decode cX1_layPoint 41 = .ok (.return_, 1) := by decide +kernel
theorem dX1_takePoint_0 : decode cX1_takePoint 0 = .ok (.aload_n 0, 1) := by decide +kernel
theorem dX1_takePoint_1 : decode cX1_takePoint 1 = .ok (.iload_n 1, 1) := by decide +kernel
theorem dX1_takePoint_2 : decode cX1_takePoint 2 = .ok (.invokevirtual 22, 3) := by decide +kernel
theorem dX1_takePoint_5 : decode cX1_takePoint 5 = .ok (.ifCond .eq 13, 3) := by decide +kernel
theorem dX1_takePoint_8 : decode cX1_takePoint 8 = .ok (.aload_n 0, 1) := by decide +kernel
theorem dX1_takePoint_9 : decode cX1_takePoint 9 = .ok (.dup, 1) := by decide +kernel
theorem dX1_takePoint_10 : decode cX1_takePoint 10 = .ok (.getfield 26, 3) := by decide +kernel
theorem dX1_takePoint_13 : decode cX1_takePoint 13 = .ok (.iconst 1, 1) := by decide +kernel
theorem dX1_takePoint_14 : decode cX1_takePoint 14 = .ok (.isub, 1) := by decide +kernel
theorem dX1_takePoint_15 : decode cX1_takePoint 15 = .ok (.putfield 26, 3) := by decide +kernel
theorem dX1_takePoint_18 : decode cX1_takePoint 18 = .ok (.aload_n 0, 1) := by decide +kernel
theorem dX1_takePoint_19 : decode cX1_takePoint 19 = .ok (.getfield 9, 3) := by decide +kernel
theorem dX1_takePoint_22 : decode cX1_takePoint 22 = .ok (.iload_n 1, 1) := by decide +kernel
theorem dX1_takePoint_23 : decode cX1_takePoint 23 = .ok (.iconst 0, 1) := by decide +kernel
theorem dX1_takePoint_24 : decode cX1_takePoint 24 = .ok (.invokestatic 30, 3) := by decide +kernel
theorem dX1_takePoint_27 : decode cX1_takePoint 27 = .ok (.aload_n 0, 1) := by decide +kernel
theorem dX1_takePoint_28 : decode cX1_takePoint 28 = .ok (.iload_n 2, 1) := by decide +kernel
theorem dX1_takePoint_29 : decode cX1_takePoint 29 = .ok (.invokevirtual 34, 3) := by decide +kernel
theorem dX1_takePoint_32 : decode cX1_takePoint 32 = .ok (.return_, 1) := by decide +kernel
theorem dX1_draw_0 : decode cX1_draw 0 = .ok (.iconst 0, 1) := by decide +kernel
theorem dX1_draw_1 : decode cX1_draw 1 = .ok (.istore_n 2, 1) := by decide +kernel
theorem dX1_draw_2 : decode cX1_draw 2 = .ok (.iload_n 2, 1) := by decide +kernel
theorem dX1_draw_3 : decode cX1_draw 3 = .ok (.iload_n 1, 1) := by decide +kernel
theorem dX1_draw_4 : decode cX1_draw 4 = .ok (.if_icmp .ge 42, 3) := by decide +kernel
theorem dX1_draw_7 : decode cX1_draw 7 = .ok (.aload_n 0, 1) := by decide +kernel
theorem dX1_draw_8 : decode cX1_draw 8 = .ok (.iload_n 2, 1) := by decide +kernel
theorem dX1_draw_9 : decode cX1_draw 9 = .ok (.invokevirtual 22, 3) := by decide +kernel
theorem dX1_draw_12 : decode cX1_draw 12 = .ok (.ifCond .eq 12, 3) := by decide +kernel
theorem dX1_draw_15 : decode cX1_draw 15 = .ok (.aload_n 0, 1) := by decide +kernel
theorem dX1_draw_16 : decode cX1_draw 16 = .ok (.iload_n 2, 1) := by decide +kernel
theorem dX1_draw_17 : decode cX1_draw 17 = .ok (.iload_n 1, 1) := by decide +kernel
theorem dX1_draw_18 : decode cX1_draw 18 = .ok (.invokevirtual 38, 3) := by decide +kernel
theorem dX1_draw_21 : decode cX1_draw 21 = .ok (.goto 19, 3) := by decide +kernel
theorem dX1_draw_24 : decode cX1_draw 24 = .ok (.aload_n 0, 1) := by decide +kernel
theorem dX1_draw_25 : decode cX1_draw 25 = .ok (.getfield 26, 3) := by decide +kernel
theorem dX1_draw_28 : decode cX1_draw 28 = .ok (.ifCond .ne 12, 3) := by decide +kernel
theorem dX1_draw_31 : decode cX1_draw 31 = .ok (.aload_n 0, 1) := by decide +kernel
theorem dX1_draw_32 : decode cX1_draw 32 = .ok (.getfield 15, 3) := by decide +kernel
theorem dX1_draw_35 : decode cX1_draw 35 = .ok (.iload_n 2, 1) := by decide +kernel
theorem dX1_draw_36 : decode cX1_draw 36 = .ok (.iconst 0, 1) := by decide +kernel
theorem dX1_draw_37 : decode cX1_draw 37 = .ok (.invokestatic 30, 3) := by decide +kernel
theorem dX1_draw_40 : decode cX1_draw 40 = .ok (.iinc 2 1, 3) := by decide +kernel
theorem dX1_draw_43 : decode cX1_draw 43 = .ok (.goto (-41), 3) := by decide +kernel
theorem dX1_draw_46 : decode cX1_draw 46 = .ok (.return_, 1) := by decide +kernel
theorem dX1_drawBehind_0 : decode cX1_drawBehind 0 = .ok (.iconst 1, 1) := by decide +kernel
theorem dX1_drawBehind_1 : decode cX1_drawBehind 1 = .ok (.istore_n 3, 1) := by decide +kernel
theorem dX1_drawBehind_2 : decode cX1_drawBehind 2 = .ok (.iload_n 3, 1) := by decide +kernel
theorem dX1_drawBehind_3 : decode cX1_drawBehind 3 = .ok (.iload_n 2, 1) := by decide +kernel
theorem dX1_drawBehind_4 : decode cX1_drawBehind 4 = .ok (.if_icmp .ge 23, 3) := by decide +kernel
theorem dX1_drawBehind_7 : decode cX1_drawBehind 7 = .ok (.aload_n 0, 1) := by decide +kernel
theorem dX1_drawBehind_8 : decode cX1_drawBehind 8 = .ok (.iload_n 1, 1) := by decide +kernel
theorem dX1_drawBehind_9 : decode cX1_drawBehind 9 = .ok (.iload_n 3, 1) := by decide +kernel
theorem dX1_drawBehind_10 : decode cX1_drawBehind 10 = .ok (.iadd, 1) := by decide +kernel
theorem dX1_drawBehind_11 : decode cX1_drawBehind 11 = .ok (.iload_n 2, 1) := by decide +kernel
theorem dX1_drawBehind_12 : decode cX1_drawBehind 12 = .ok (.invokestatic 42, 3) := by decide +kernel
theorem dX1_drawBehind_15 : decode cX1_drawBehind 15 = .ok (.invokevirtual 22, 3) := by decide +kernel
theorem dX1_drawBehind_18 : decode cX1_drawBehind 18 = .ok (.ifCond .ne 9, 3) := by decide +kernel
theorem dX1_drawBehind_21 : decode cX1_drawBehind 21 = .ok (.iinc 3 1, 3) := by decide +kernel
theorem dX1_drawBehind_24 : decode cX1_drawBehind 24 = .ok (.goto (-22), 3) := by decide +kernel
theorem dX1_drawBehind_27 : decode cX1_drawBehind 27 = .ok (.aload_n 0, 1) := by decide +kernel
theorem dX1_drawBehind_28 : decode cX1_drawBehind 28 = .ok (.getfield 15, 3) := by decide +kernel
theorem dX1_drawBehind_31 : decode cX1_drawBehind 31 = .ok (.iload_n 1, 1) := by decide +kernel
theorem dX1_drawBehind_32 : decode cX1_drawBehind 32 = .ok (.invokestatic 18, 3) := by decide +kernel
theorem dX1_drawBehind_35 : decode cX1_drawBehind 35 = .ok (.istore 4, 2) := by decide +kernel
theorem dX1_drawBehind_37 : decode cX1_drawBehind 37 = .ok (.aload_n 0, 1) := by decide +kernel
theorem dX1_drawBehind_38 : decode cX1_drawBehind 38 = .ok (.getfield 15, 3) := by decide +kernel
theorem dX1_drawBehind_41 : decode cX1_drawBehind 41 = .ok (.iload_n 1, 1) := by decide +kernel
theorem dX1_drawBehind_42 : decode cX1_drawBehind 42 = .ok (.iload_n 3, 1) := by decide +kernel
theorem dX1_drawBehind_43 : decode cX1_drawBehind 43 = .ok (.iadd, 1) := by decide +kernel
theorem dX1_drawBehind_44 : decode cX1_drawBehind 44 = .ok (.iload_n 2, 1) := by decide +kernel
theorem dX1_drawBehind_45 : decode cX1_drawBehind 45 = .ok (.invokestatic 42, 3) := by decide +kernel
theorem dX1_drawBehind_48 : decode cX1_drawBehind 48 = .ok (.invokestatic 18, 3) := by decide +kernel
theorem dX1_drawBehind_51 : decode cX1_drawBehind 51 = .ok (.iload 4, 2) := by decide +kernel
theorem dX1_drawBehind_53 : decode cX1_drawBehind 53 = .ok (.isub, 1) := by decide +kernel
theorem dX1_drawBehind_54 : decode cX1_drawBehind 54 = .ok (.istore 5, 2) := by decide +kernel
theorem dX1_drawBehind_56 : decode cX1_drawBehind 56 = .ok (.iconst 1, 1) := by decide +kernel
theorem dX1_drawBehind_57 : decode cX1_drawBehind 57 = .ok (.istore 6, 2) := by decide +kernel
theorem dX1_drawBehind_59 : decode cX1_drawBehind 59 = .ok (.iload 6, 2) := by decide +kernel
theorem dX1_drawBehind_61 : decode cX1_drawBehind 61 = .ok (.iload_n 3, 1) := by decide +kernel
theorem dX1_drawBehind_62 : decode cX1_drawBehind 62 = .ok (.if_icmp .ge 36, 3) := by decide +kernel
theorem dX1_drawBehind_65 : decode cX1_drawBehind 65 = .ok (.aload_n 0, 1) := by decide +kernel
theorem dX1_drawBehind_66 : decode cX1_drawBehind 66 = .ok (.getfield 15, 3) := by decide +kernel
theorem dX1_drawBehind_69 : decode cX1_drawBehind 69 = .ok (.iload_n 1, 1) := by decide +kernel
theorem dX1_drawBehind_70 : decode cX1_drawBehind 70 = .ok (.iload 6, 2) := by decide +kernel
theorem dX1_drawBehind_72 : decode cX1_drawBehind 72 = .ok (.iadd, 1) := by decide +kernel
theorem dX1_drawBehind_73 : decode cX1_drawBehind 73 = .ok (.iload_n 2, 1) := by decide +kernel
theorem dX1_drawBehind_74 : decode cX1_drawBehind 74 = .ok (.invokestatic 42, 3) := by decide +kernel
theorem dX1_drawBehind_77 : decode cX1_drawBehind 77 = .ok (.iload 4, 2) := by decide +kernel
theorem dX1_drawBehind_79 : decode cX1_drawBehind 79 = .ok (.iload 5, 2) := by decide +kernel
theorem dX1_drawBehind_81 : decode cX1_drawBehind 81 = .ok (.iload 6, 2) := by decide +kernel
theorem dX1_drawBehind_83 : decode cX1_drawBehind 83 = .ok (.imul, 1) := by decide +kernel
theorem dX1_drawBehind_84 : decode cX1_drawBehind 84 = .ok (.iload_n 3, 1) := by decide +kernel
theorem dX1_drawBehind_85 : decode cX1_drawBehind 85 = .ok (.invokestatic 46, 3) := by decide +kernel
theorem dX1_drawBehind_88 : decode cX1_drawBehind 88 = .ok (.iadd, 1) := by decide +kernel
theorem dX1_drawBehind_89 : decode cX1_drawBehind 89 = .ok (.invokestatic 30, 3) := by decide +kernel
theorem dX1_drawBehind_92 : decode cX1_drawBehind 92 = .ok (.iinc 6 1, 3) := by decide +kernel
theorem dX1_drawBehind_95 : decode cX1_drawBehind 95 = .ok (.goto (-36), 3) := by decide +kernel
theorem dX1_drawBehind_98 : decode cX1_drawBehind 98 = .ok (.return_, 1) := by decide +kernel
theorem dX2_init_0 : decode cX2_init 0 = .ok (.aload_n 0, 1) := by decide +kernel
theorem dX2_init_1 : decode cX2_init 1 = .ok (.invokespecial 3, 3) := by decide +kernel
theorem dX2_init_4 : decode cX2_init 4 = .ok (.aload_n 0, 1) := by decide +kernel
theorem dX2_init_5 : decode cX2_init 5 = .ok (.sipush 1000, 3) := by decide +kernel
theorem dX2_init_8 : decode cX2_init 8 = .ok (.newarray .int, 2) := by decide +kernel
theorem dX2_init_10 : decode cX2_init 10 = .ok (.putfield 9, 3) := by decide +kernel
theorem dX2_init_13 : decode cX2_init 13 = .ok (.return_, 1) := by decide +kernel
theorem dX2_remember_0 : decode cX2_remember 0 = .ok (.aload_n 0, 1) := by decide +kernel
theorem dX2_remember_1 : decode cX2_remember 1 = .ok (.aload_n 0, 1) := by decide +kernel
theorem dX2_remember_2 : decode cX2_remember 2 = .ok (.getfield 15, 3) := by decide +kernel
theorem dX2_remember_5 : decode cX2_remember 5 = .ok (.putfield 19, 3) := by decide +kernel
theorem dX2_remember_8 : decode cX2_remember 8 = .ok (.aload_n 0, 1) := by decide +kernel
theorem dX2_remember_9 : decode cX2_remember 9 = .ok (.aload_n 0, 1) := by decide +kernel
theorem dX2_remember_10 : decode cX2_remember 10 = .ok (.getfield 22, 3) := by decide +kernel
theorem dX2_remember_13 : decode cX2_remember 13 = .ok (.putfield 25, 3) := by decide +kernel
theorem dX2_remember_16 : decode cX2_remember 16 = .ok (.return_, 1) := by decide +kernel
theorem dX2_recall_0 : decode cX2_recall 0 = .ok (.aload_n 0, 1) := by decide +kernel
theorem dX2_recall_1 : decode cX2_recall 1 = .ok (.aload_n 0, 1) := by decide +kernel
theorem dX2_recall_2 : decode cX2_recall 2 = .ok (.getfield 19, 3) := by decide +kernel
theorem dX2_recall_5 : decode cX2_recall 5 = .ok (.putfield 15, 3) := by decide +kernel
theorem dX2_recall_8 : decode cX2_recall 8 = .ok (.aload_n 0, 1) := by decide +kernel
theorem dX2_recall_9 : decode cX2_recall 9 = .ok (.aload_n 0, 1) := by decide +kernel
theorem dX2_recall_10 : decode cX2_recall 10 = .ok (.getfield 25, 3) := by decide +kernel
theorem dX2_recall_13 : decode cX2_recall 13 = .ok (.putfield 22, 3) := by decide +kernel
theorem dX2_recall_16 : decode cX2_recall 16 = .ok (.return_, 1) := by decide +kernel
theorem dX2_hear_0 : decode cX2_hear 0 = .ok (.aload_n 0, 1) := by decide +kernel
theorem dX2_hear_1 : decode cX2_hear 1 = .ok (.dup, 1) := by decide +kernel
theorem dX2_hear_2 : decode cX2_hear 2 = .ok (.getfield 22, 3) := by decide +kernel
theorem dX2_hear_5 : decode cX2_hear 5 = .ok (.iconst 1, 1) := by decide +kernel
theorem dX2_hear_6 : decode cX2_hear 6 = .ok (.iadd, 1) := by decide +kernel
theorem dX2_hear_7 : decode cX2_hear 7 = .ok (.putfield 22, 3) := by decide +kernel
theorem dX2_hear_10 : decode cX2_hear 10 = .ok (.aload_n 0, 1) := by decide +kernel
theorem dX2_hear_11 : decode cX2_hear 11 = .ok (.getfield 15, 3) := by decide +kernel
theorem dX2_hear_14 : decode cX2_hear 14 = .ok (.sipush 250, 3) := by decide +kernel
theorem dX2_hear_17 : decode cX2_hear 17 = .ok (.if_icmp .ge 68, 3) := by decide +kernel
theorem dX2_hear_20 : decode cX2_hear 20 = .ok (.aload_n 0, 1) := by decide +kernel
theorem dX2_hear_21 : decode cX2_hear 21 = .ok (.getfield 15, 3) := by decide +kernel
theorem dX2_hear_24 : decode cX2_hear 24 = .ok (.iconst 4, 1) := by decide +kernel
theorem dX2_hear_25 : decode cX2_hear 25 = .ok (.imul, 1) := by decide +kernel
theorem dX2_hear_26 : decode cX2_hear 26 = .ok (.istore 5, 2) := by decide +kernel
theorem dX2_hear_28 : decode cX2_hear 28 = .ok (.aload_n 0, 1) := by decide +kernel
theorem dX2_hear_29 : decode cX2_hear 29 = .ok (.getfield 9, 3) := by decide +kernel
theorem dX2_hear_32 : decode cX2_hear 32 = .ok (.iload 5, 2) := by decide +kernel
theorem dX2_hear_34 : decode cX2_hear 34 = .ok (.iload_n 1, 1) := by decide +kernel
theorem dX2_hear_35 : decode cX2_hear 35 = .ok (.invokestatic 28, 3) := by decide +kernel
theorem dX2_hear_38 : decode cX2_hear 38 = .ok (.aload_n 0, 1) := by decide +kernel
theorem dX2_hear_39 : decode cX2_hear 39 = .ok (.getfield 9, 3) := by decide +kernel
theorem dX2_hear_42 : decode cX2_hear 42 = .ok (.iload 5, 2) := by decide +kernel
theorem dX2_hear_44 : decode cX2_hear 44 = .ok (.iconst 1, 1) := by decide +kernel
theorem dX2_hear_45 : decode cX2_hear 45 = .ok (.iadd, 1) := by decide +kernel
theorem dX2_hear_46 : decode cX2_hear 46 = .ok (.iload_n 2, 1) := by decide +kernel
theorem dX2_hear_47 : decode cX2_hear 47 = .ok (.invokestatic 28, 3) := by decide +kernel
theorem dX2_hear_50 : decode cX2_hear 50 = .ok (.aload_n 0, 1) := by decide +kernel
theorem dX2_hear_51 : decode cX2_hear 51 = .ok (.getfield 9, 3) := by decide +kernel
theorem dX2_hear_54 : decode cX2_hear 54 = .ok (.iload 5, 2) := by decide +kernel
theorem dX2_hear_56 : decode cX2_hear 56 = .ok (.iconst 2, 1) := by decide +kernel
theorem dX2_hear_57 : decode cX2_hear 57 = .ok (.iadd, 1) := by decide +kernel
theorem dX2_hear_58 : decode cX2_hear 58 = .ok (.iload_n 3, 1) := by decide +kernel
theorem dX2_hear_59 : decode cX2_hear 59 = .ok (.invokestatic 28, 3) := by decide +kernel
theorem dX2_hear_62 : decode cX2_hear 62 = .ok (.aload_n 0, 1) := by decide +kernel
theorem dX2_hear_63 : decode cX2_hear 63 = .ok (.getfield 9, 3) := by decide +kernel
theorem dX2_hear_66 : decode cX2_hear 66 = .ok (.iload 5, 2) := by decide +kernel
theorem dX2_hear_68 : decode cX2_hear 68 = .ok (.iconst 3, 1) := by decide +kernel
theorem dX2_hear_69 : decode cX2_hear 69 = .ok (.iadd, 1) := by decide +kernel
theorem dX2_hear_70 : decode cX2_hear 70 = .ok (.iload 4, 2) := by decide +kernel
theorem dX2_hear_72 : decode cX2_hear 72 = .ok (.invokestatic 28, 3) := by decide +kernel
theorem dX2_hear_75 : decode cX2_hear 75 = .ok (.aload_n 0, 1) := by decide +kernel
theorem dX2_hear_76 : decode cX2_hear 76 = .ok (.dup, 1) := by decide +kernel
theorem dX2_hear_77 : decode cX2_hear 77 = .ok (.getfield 15, 3) := by decide +kernel
theorem dX2_hear_80 : decode cX2_hear 80 = .ok (.iconst 1, 1) := by decide +kernel
theorem dX2_hear_81 : decode cX2_hear 81 = .ok (.iadd, 1) := by decide +kernel
theorem dX2_hear_82 : decode cX2_hear 82 = .ok (.putfield 15, 3) := by decide +kernel
theorem dX2_hear_85 : decode cX2_hear 85 = .ok (.return_, 1) := by decide +kernel
theorem dX2_told_0 : decode cX2_told 0 = .ok (.aload_n 0, 1) := by decide +kernel
theorem dX2_told_1 : decode cX2_told 1 = .ok (.getfield 9, 3) := by decide +kernel
theorem dX2_told_4 : decode cX2_told 4 = .ok (.iload_n 1, 1) := by decide +kernel
theorem dX2_told_5 : decode cX2_told 5 = .ok (.iconst 4, 1) := by decide +kernel
theorem dX2_told_6 : decode cX2_told 6 = .ok (.imul, 1) := by decide +kernel
theorem dX2_told_7 : decode cX2_told 7 = .ok (.iload_n 2, 1) := by decide +kernel
theorem dX2_told_8 : decode cX2_told 8 = .ok (.iadd, 1) := by decide +kernel
theorem dX2_told_9 : decode cX2_told 9 = .ok (.invokestatic 32, 3) := by decide +kernel
theorem dX2_told_12 : decode cX2_told 12 = .ok (.ireturn, 1) := by decide +kernel
theorem dX2_clearAll_0 : decode cX2_clearAll 0 = .ok (.aload_n 0, 1) := by decide +kernel
theorem dX2_clearAll_1 : decode cX2_clearAll 1 = .ok (.iconst 0, 1) := by decide +kernel
theorem dX2_clearAll_2 : decode cX2_clearAll 2 = .ok (.putfield 15, 3) := by decide +kernel
theorem dX2_clearAll_5 : decode cX2_clearAll 5 = .ok (.aload_n 0, 1) := by decide +kernel
theorem dX2_clearAll_6 : decode cX2_clearAll 6 = .ok (.iconst 0, 1) := by decide +kernel
theorem dX2_clearAll_7 : decode cX2_clearAll 7 = .ok (.putfield 22, 3) := by decide +kernel
theorem dX2_clearAll_10 : decode cX2_clearAll 10 = .ok (.return_, 1) := by decide +kernel
theorem dX3_init_0 : decode cX3_init 0 = .ok (.aload_n 0, 1) := by decide +kernel
theorem dX3_init_1 : decode cX3_init 1 = .ok (.invokespecial 3, 3) := by decide +kernel
theorem dX3_init_4 : decode cX3_init 4 = .ok (.aload_n 0, 1) := by decide +kernel
theorem dX3_init_5 : decode cX3_init 5 = .ok (.iload_n 1, 1) := by decide +kernel
theorem dX3_init_6 : decode cX3_init 6 = .ok (.putfield 9, 3) := by decide +kernel
theorem dX3_init_9 : decode cX3_init 9 = .ok (.return_, 1) := by decide +kernel
theorem dX3_remember_0 : decode cX3_remember 0 = .ok (.aload_n 0, 1) := by decide +kernel
theorem dX3_remember_1 : decode cX3_remember 1 = .ok (.aload_n 0, 1) := by decide +kernel
theorem dX3_remember_2 : decode cX3_remember 2 = .ok (.getfield 15, 3) := by decide +kernel
theorem dX3_remember_5 : decode cX3_remember 5 = .ok (.putfield 18, 3) := by decide +kernel
theorem dX3_remember_8 : decode cX3_remember 8 = .ok (.aload_n 0, 1) := by decide +kernel
theorem dX3_remember_9 : decode cX3_remember 9 = .ok (.aload_n 0, 1) := by decide +kernel
theorem dX3_remember_10 : decode cX3_remember 10 = .ok (.getfield 21, 3) := by decide +kernel
theorem dX3_remember_13 : decode cX3_remember 13 = .ok (.putfield 25, 3) := by decide +kernel
theorem dX3_remember_16 : decode cX3_remember 16 = .ok (.aload_n 0, 1) := by decide +kernel
theorem dX3_remember_17 : decode cX3_remember 17 = .ok (.aload_n 0, 1) := by decide +kernel
theorem dX3_remember_18 : decode cX3_remember 18 = .ok (.getfield 28, 3) := by decide +kernel
theorem dX3_remember_21 : decode cX3_remember 21 = .ok (.putfield 31, 3) := by decide +kernel
theorem dX3_remember_24 : decode cX3_remember 24 = .ok (.return_, 1) := by decide +kernel
theorem dX3_recall_0 : decode cX3_recall 0 = .ok (.aload_n 0, 1) := by decide +kernel
theorem dX3_recall_1 : decode cX3_recall 1 = .ok (.aload_n 0, 1) := by decide +kernel
theorem dX3_recall_2 : decode cX3_recall 2 = .ok (.getfield 18, 3) := by decide +kernel
theorem dX3_recall_5 : decode cX3_recall 5 = .ok (.putfield 15, 3) := by decide +kernel
theorem dX3_recall_8 : decode cX3_recall 8 = .ok (.aload_n 0, 1) := by decide +kernel
theorem dX3_recall_9 : decode cX3_recall 9 = .ok (.aload_n 0, 1) := by decide +kernel
theorem dX3_recall_10 : decode cX3_recall 10 = .ok (.getfield 25, 3) := by decide +kernel
theorem dX3_recall_13 : decode cX3_recall 13 = .ok (.putfield 21, 3) := by decide +kernel
theorem dX3_recall_16 : decode cX3_recall 16 = .ok (.aload_n 0, 1) := by decide +kernel
theorem dX3_recall_17 : decode cX3_recall 17 = .ok (.aload_n 0, 1) := by decide +kernel
theorem dX3_recall_18 : decode cX3_recall 18 = .ok (.getfield 31, 3) := by decide +kernel
theorem dX3_recall_21 : decode cX3_recall 21 = .ok (.putfield 28, 3) := by decide +kernel
theorem dX3_recall_24 : decode cX3_recall 24 = .ok (.return_, 1) := by decide +kernel
theorem dX3_speedUnder_0 : decode cX3_speedUnder 0 = .ok (.sipush 200, 3) := by decide +kernel
theorem dX3_speedUnder_3 : decode cX3_speedUnder 3 = .ok (.iload_n 1, 1) := by decide +kernel
theorem dX3_speedUnder_4 : decode cX3_speedUnder 4 = .ok (.imul, 1) := by decide +kernel
theorem dX3_speedUnder_5 : decode cX3_speedUnder 5 = .ok (.istore_n 2, 1) := by decide +kernel
theorem dX3_speedUnder_6 : decode cX3_speedUnder 6 = .ok (.iload_n 2, 1) := by decide +kernel
theorem dX3_speedUnder_7 : decode cX3_speedUnder 7 = .ok (.ifCond .le 17, 3) := by decide +kernel
theorem dX3_speedUnder_10 : decode cX3_speedUnder 10 = .ok (.aload_n 0, 1) := by decide +kernel
theorem dX3_speedUnder_11 : decode cX3_speedUnder 11 = .ok (.getfield 9, 3) := by decide +kernel
theorem dX3_speedUnder_14 : decode cX3_speedUnder 14 = .ok (.aload_n 0, 1) := by decide +kernel
theorem dX3_speedUnder_15 : decode cX3_speedUnder 15 = .ok (.getfield 15, 3) := by decide +kernel
theorem dX3_speedUnder_18 : decode cX3_speedUnder 18 = .ok (.imul, 1) := by decide +kernel
theorem dX3_speedUnder_19 : decode cX3_speedUnder 19 = .ok (.iload_n 2, 1) := by decide +kernel
theorem dX3_speedUnder_20 : decode cX3_speedUnder 20 = .ok (.idiv, 1) := by decide +kernel
theorem dX3_speedUnder_21 : decode cX3_speedUnder 21 = .ok (.goto 4, 3) := by decide +kernel
theorem dX3_speedUnder_24 : decode cX3_speedUnder 24 = .ok (.iconst 0, 1) := by decide +kernel
theorem dX3_speedUnder_25 : decode cX3_speedUnder 25 = .ok (.istore_n 3, 1) := by decide +kernel
theorem dX3_speedUnder_26 : decode cX3_speedUnder 26 = .ok (.iload_n 3, 1) := by decide +kernel
theorem dX3_speedUnder_27 : decode cX3_speedUnder 27 = .ok (.iconst 1, 1) := by decide +kernel
theorem dX3_speedUnder_28 : decode cX3_speedUnder 28 = .ok (.invokestatic 34, 3) := by decide +kernel
theorem dX3_speedUnder_31 : decode cX3_speedUnder 31 = .ok (.sipush 400, 3) := by decide +kernel
theorem dX3_speedUnder_34 : decode cX3_speedUnder 34 = .ok (.invokestatic 40, 3) := by decide +kernel
theorem dX3_speedUnder_37 : decode cX3_speedUnder 37 = .ok (.aload_n 0, 1) := by decide +kernel
theorem dX3_speedUnder_38 : decode cX3_speedUnder 38 = .ok (.getfield 15, 3) := by decide +kernel
theorem dX3_speedUnder_41 : decode cX3_speedUnder 41 = .ok (.invokestatic 40, 3) := by decide +kernel
theorem dX3_speedUnder_44 : decode cX3_speedUnder 44 = .ok (.ireturn, 1) := by decide +kernel
theorem dX3_turn_0 : decode cX3_turn 0 = .ok (.aload_n 0, 1) := by decide +kernel
theorem dX3_turn_1 : decode cX3_turn 1 = .ok (.iload_n 1, 1) := by decide +kernel
theorem dX3_turn_2 : decode cX3_turn 2 = .ok (.putfield 28, 3) := by decide +kernel
theorem dX3_turn_5 : decode cX3_turn 5 = .ok (.aload_n 0, 1) := by decide +kernel
theorem dX3_turn_6 : decode cX3_turn 6 = .ok (.dup, 1) := by decide +kernel
theorem dX3_turn_7 : decode cX3_turn 7 = .ok (.getfield 21, 3) := by decide +kernel
theorem dX3_turn_10 : decode cX3_turn 10 = .ok (.iload_n 1, 1) := by decide +kernel
theorem dX3_turn_11 : decode cX3_turn 11 = .ok (.i2l, 1) := by decide +kernel
theorem dX3_turn_12 : decode cX3_turn 12 = .ok (.ladd, 1) := by decide +kernel
theorem dX3_turn_13 : decode cX3_turn 13 = .ok (.putfield 21, 3) := by decide +kernel
theorem dX3_turn_16 : decode cX3_turn 16 = .ok (.aload_n 0, 1) := by decide +kernel
theorem dX3_turn_17 : decode cX3_turn 17 = .ok (.dup, 1) := by decide +kernel
theorem dX3_turn_18 : decode cX3_turn 18 = .ok (.getfield 15, 3) := by decide +kernel
theorem dX3_turn_21 : decode cX3_turn 21 = .ok (.iload_n 1, 1) := by decide +kernel
theorem dX3_turn_22 : decode cX3_turn 22 = .ok (.isub, 1) := by decide +kernel
theorem dX3_turn_23 : decode cX3_turn 23 = .ok (.putfield 15, 3) := by decide +kernel
theorem dX3_turn_26 : decode cX3_turn 26 = .ok (.return_, 1) := by decide +kernel
theorem dX3_payForNote_0 : decode cX3_payForNote 0 = .ok (.aload_n 0, 1) := by decide +kernel
theorem dX3_payForNote_1 : decode cX3_payForNote 1 = .ok (.dup, 1) := by decide +kernel
theorem dX3_payForNote_2 : decode cX3_payForNote 2 = .ok (.getfield 15, 3) := by decide +kernel
theorem dX3_payForNote_5 : decode cX3_payForNote 5 = .ok (.bipush 10, 2) := by decide +kernel
theorem dX3_payForNote_7 : decode cX3_payForNote 7 = .ok (.aload_n 0, 1) := by decide +kernel
theorem dX3_payForNote_8 : decode cX3_payForNote 8 = .ok (.getfield 15, 3) := by decide +kernel
theorem dX3_payForNote_11 : decode cX3_payForNote 11 = .ok (.invokestatic 40, 3) := by decide +kernel
theorem dX3_payForNote_14 : decode cX3_payForNote 14 = .ok (.isub, 1) := by decide +kernel
theorem dX3_payForNote_15 : decode cX3_payForNote 15 = .ok (.putfield 15, 3) := by decide +kernel
theorem dX3_payForNote_18 : decode cX3_payForNote 18 = .ok (.return_, 1) := by decide +kernel
theorem dX4_init_0 : decode cX4_init 0 = .ok (.aload_n 0, 1) := by decide +kernel
theorem dX4_init_1 : decode cX4_init 1 = .ok (.invokespecial 1, 3) := by decide +kernel
theorem dX4_init_4 : decode cX4_init 4 = .ok (.aload_n 0, 1) := by decide +kernel
theorem dX4_init_5 : decode cX4_init 5 = .ok (.iconst 4, 1) := by decide +kernel
theorem dX4_init_6 : decode cX4_init 6 = .ok (.anewarray 9, 3) := by decide +kernel
theorem dX4_init_9 : decode cX4_init 9 = .ok (.putfield 11, 3) := by decide +kernel
theorem dX4_init_12 : decode cX4_init 12 = .ok (.aload_n 0, 1) := by decide +kernel
theorem dX4_init_13 : decode cX4_init 13 = .ok (.bipush 8, 2) := by decide +kernel
theorem dX4_init_15 : decode cX4_init 15 = .ok (.anewarray 15, 3) := by decide +kernel
theorem dX4_init_18 : decode cX4_init 18 = .ok (.putfield 17, 3) := by decide +kernel
theorem dX4_init_21 : decode cX4_init 21 = .ok (.aload_n 0, 1) := by decide +kernel
theorem dX4_init_22 : decode cX4_init 22 = .ok (.new 21, 3) := by decide +kernel
theorem dX4_init_25 : decode cX4_init 25 = .ok (.dup, 1) := by decide +kernel
theorem dX4_init_26 : decode cX4_init 26 = .ok (.invokespecial 23, 3) := by decide +kernel
theorem dX4_init_29 : decode cX4_init 29 = .ok (.putfield 24, 3) := by decide +kernel
theorem dX4_init_32 : decode cX4_init 32 = .ok (.return_, 1) := by decide +kernel
theorem dX4_addSpring_0 : decode cX4_addSpring 0 = .ok (.iload_n 1, 1) := by decide +kernel
theorem dX4_addSpring_1 : decode cX4_addSpring 1 = .ok (.iconst 1, 1) := by decide +kernel
theorem dX4_addSpring_2 : decode cX4_addSpring 2 = .ok (.bipush 50, 2) := by decide +kernel
theorem dX4_addSpring_4 : decode cX4_addSpring 4 = .ok (.invokestatic 28, 3) := by decide +kernel
theorem dX4_addSpring_7 : decode cX4_addSpring 7 = .ok (.ifCond .ne 13, 3) := by decide +kernel
theorem dX4_addSpring_10 : decode cX4_addSpring 10 = .ok (.new 32, 3) := by decide +kernel
theorem dX4_addSpring_13 : decode cX4_addSpring 13 = .ok (.dup, 1) := by decide +kernel
theorem dX4_addSpring_14 : decode cX4_addSpring 14 = .ok (.ldc 34, 2) := by decide +kernel
theorem dX4_addSpring_16 : decode cX4_addSpring 16 = .ok (.invokespecial 36, 3) := by decide +kernel
theorem dX4_addSpring_19 : decode cX4_addSpring 19 = .ok (.athrow, 1) := by decide +kernel
theorem dX4_addSpring_20 : decode cX4_addSpring 20 = .ok (.aload_n 0, 1) := by decide +kernel
theorem dX4_addSpring_21 : decode cX4_addSpring 21 = .ok (.getfield 39, 3) := by decide +kernel
theorem dX4_addSpring_24 : decode cX4_addSpring 24 = .ok (.istore_n 2, 1) := by decide +kernel
theorem dX4_addSpring_25 : decode cX4_addSpring 25 = .ok (.iload_n 2, 1) := by decide +kernel
theorem dX4_addSpring_26 : decode cX4_addSpring 26 = .ok (.ifCond .lt 12, 3) := by decide +kernel
theorem dX4_addSpring_29 : decode cX4_addSpring 29 = .ok (.iload_n 2, 1) := by decide +kernel
theorem dX4_addSpring_30 : decode cX4_addSpring 30 = .ok (.aload_n 0, 1) := by decide +kernel
theorem dX4_addSpring_31 : decode cX4_addSpring 31 = .ok (.getfield 11, 3) := by decide +kernel
theorem dX4_addSpring_34 : decode cX4_addSpring 34 = .ok (.arraylength, 1) := by decide +kernel
theorem dX4_addSpring_35 : decode cX4_addSpring 35 = .ok (.if_icmp .lt 13, 3) := by decide +kernel
theorem dX4_addSpring_38 : decode cX4_addSpring 38 = .ok (.new 43, 3) := by decide +kernel
theorem dX4_addSpring_41 : decode cX4_addSpring 41 = .ok (.dup, 1) := by decide +kernel
theorem dX4_addSpring_42 : decode cX4_addSpring 42 = .ok (.ldc 45, 2) := by decide +kernel
theorem dX4_addSpring_44 : decode cX4_addSpring 44 = .ok (.invokespecial 47, 3) := by decide +kernel
theorem dX4_addSpring_47 : decode cX4_addSpring 47 = .ok (.athrow, 1) := by decide +kernel
theorem dX4_addSpring_48 : decode cX4_addSpring 48 = .ok (.aload_n 0, 1) := by decide +kernel
theorem dX4_addSpring_49 : decode cX4_addSpring 49 = .ok (.getfield 11, 3) := by decide +kernel
theorem dX4_addSpring_52 : decode cX4_addSpring 52 = .ok (.iload_n 2, 1) := by decide +kernel
theorem dX4_addSpring_53 : decode cX4_addSpring 53 = .ok (.new 9, 3) := by decide +kernel
theorem dX4_addSpring_56 : decode cX4_addSpring 56 = .ok (.dup, 1) := by decide +kernel
theorem dX4_addSpring_57 : decode cX4_addSpring 57 = .ok (.iload_n 1, 1) := by decide +kernel
theorem dX4_addSpring_58 : decode cX4_addSpring 58 = .ok (.invokespecial 48, 3) := by decide +kernel
theorem dX4_addSpring_61 : decode cX4_addSpring 61 = .ok (.aastore, 1) := by decide +kernel
theorem dX4_addSpring_62 : decode cX4_addSpring 62 = .ok (.aload_n 0, 1) := by decide +kernel
theorem dX4_addSpring_63 : decode cX4_addSpring 63 = .ok (.dup, 1) := by decide +kernel
theorem dX4_addSpring_64 : decode cX4_addSpring 64 = .ok (.getfield 39, 3) := by decide +kernel
theorem dX4_addSpring_67 : decode cX4_addSpring 67 = .ok (.iconst 1, 1) := by decide +kernel
theorem dX4_addSpring_68 : decode cX4_addSpring 68 = .ok (.iadd, 1) := by decide +kernel
theorem dX4_addSpring_69 : decode cX4_addSpring 69 = .ok (.putfield 39, 3) := by decide +kernel
theorem dX4_addSpring_72 : decode cX4_addSpring 72 = .ok (.iload_n 2, 1) := by decide +kernel
theorem dX4_addSpring_73 : decode cX4_addSpring 73 = .ok (.ireturn, 1) := by decide +kernel
theorem dX4_wind_0 : decode cX4_wind 0 = .ok (.aload_n 0, 1) := by decide +kernel
theorem dX4_wind_1 : decode cX4_wind 1 = .ok (.iload_n 1, 1) := by decide +kernel
theorem dX4_wind_2 : decode cX4_wind 2 = .ok (.invokevirtual 51, 3) := by decide +kernel
theorem dX4_wind_5 : decode cX4_wind 5 = .ok (.astore_n 3, 1) := by decide +kernel
theorem dX4_wind_6 : decode cX4_wind 6 = .ok (.aload_n 3, 1) := by decide +kernel
theorem dX4_wind_7 : decode cX4_wind 7 = .ok (.ifnonnull 13, 3) := by decide +kernel
theorem dX4_wind_10 : decode cX4_wind 10 = .ok (.new 55, 3) := by decide +kernel
theorem dX4_wind_13 : decode cX4_wind 13 = .ok (.dup, 1) := by decide +kernel
theorem dX4_wind_14 : decode cX4_wind 14 = .ok (.ldc 57, 2) := by decide +kernel
theorem dX4_wind_16 : decode cX4_wind 16 = .ok (.invokespecial 59, 3) := by decide +kernel
theorem dX4_wind_19 : decode cX4_wind 19 = .ok (.athrow, 1) := by decide +kernel
theorem dX4_wind_20 : decode cX4_wind 20 = .ok (.iload_n 2, 1) := by decide +kernel
theorem dX4_wind_21 : decode cX4_wind 21 = .ok (.iconst 1, 1) := by decide +kernel
theorem dX4_wind_22 : decode cX4_wind 22 = .ok (.ldc 60, 2) := by decide +kernel
theorem dX4_wind_24 : decode cX4_wind 24 = .ok (.invokestatic 28, 3) := by decide +kernel
theorem dX4_wind_27 : decode cX4_wind 27 = .ok (.ifCond .ne 13, 3) := by decide +kernel
theorem dX4_wind_30 : decode cX4_wind 30 = .ok (.new 32, 3) := by decide +kernel
theorem dX4_wind_33 : decode cX4_wind 33 = .ok (.dup, 1) := by decide +kernel
theorem dX4_wind_34 : decode cX4_wind 34 = .ok (.ldc 61, 2) := by decide +kernel
theorem dX4_wind_36 : decode cX4_wind 36 = .ok (.invokespecial 36, 3) := by decide +kernel
theorem dX4_wind_39 : decode cX4_wind 39 = .ok (.athrow, 1) := by decide +kernel
theorem dX4_wind_40 : decode cX4_wind 40 = .ok (.aload_n 3, 1) := by decide +kernel
theorem dX4_wind_41 : decode cX4_wind 41 = .ok (.aload_n 3, 1) := by decide +kernel
theorem dX4_wind_42 : decode cX4_wind 42 = .ok (.getfield 63, 3) := by decide +kernel
theorem dX4_wind_45 : decode cX4_wind 45 = .ok (.iload_n 2, 1) := by decide +kernel
theorem dX4_wind_46 : decode cX4_wind 46 = .ok (.iadd, 1) := by decide +kernel
theorem dX4_wind_47 : decode cX4_wind 47 = .ok (.ldc 60, 2) := by decide +kernel
theorem dX4_wind_49 : decode cX4_wind 49 = .ok (.invokestatic 66, 3) := by decide +kernel
theorem dX4_wind_52 : decode cX4_wind 52 = .ok (.putfield 63, 3) := by decide +kernel
theorem dX4_wind_55 : decode cX4_wind 55 = .ok (.aload_n 3, 1) := by decide +kernel
theorem dX4_wind_56 : decode cX4_wind 56 = .ok (.getfield 63, 3) := by decide +kernel
theorem dX4_wind_59 : decode cX4_wind 59 = .ok (.ireturn, 1) := by decide +kernel
theorem dX4_brake_0 : decode cX4_brake 0 = .ok (.aload_n 0, 1) := by decide +kernel
theorem dX4_brake_1 : decode cX4_brake 1 = .ok (.iload_n 1, 1) := by decide +kernel
theorem dX4_brake_2 : decode cX4_brake 2 = .ok (.invokevirtual 51, 3) := by decide +kernel
theorem dX4_brake_5 : decode cX4_brake 5 = .ok (.astore_n 3, 1) := by decide +kernel
theorem dX4_brake_6 : decode cX4_brake 6 = .ok (.aload_n 3, 1) := by decide +kernel
theorem dX4_brake_7 : decode cX4_brake 7 = .ok (.ifnonnull 13, 3) := by decide +kernel
theorem dX4_brake_10 : decode cX4_brake 10 = .ok (.new 55, 3) := by decide +kernel
theorem dX4_brake_13 : decode cX4_brake 13 = .ok (.dup, 1) := by decide +kernel
theorem dX4_brake_14 : decode cX4_brake 14 = .ok (.ldc 57, 2) := by decide +kernel
theorem dX4_brake_16 : decode cX4_brake 16 = .ok (.invokespecial 59, 3) := by decide +kernel
theorem dX4_brake_19 : decode cX4_brake 19 = .ok (.athrow, 1) := by decide +kernel
theorem dX4_brake_20 : decode cX4_brake 20 = .ok (.aload_n 3, 1) := by decide +kernel
theorem dX4_brake_21 : decode cX4_brake 21 = .ok (.getfield 72, 3) := by decide +kernel
theorem dX4_brake_24 : decode cX4_brake 24 = .ok (.istore 4, 2) := by decide +kernel
theorem dX4_brake_26 : decode cX4_brake 26 = .ok (.aload_n 3, 1) := by decide +kernel
theorem dX4_brake_27 : decode cX4_brake 27 = .ok (.iload_n 2, 1) := by decide +kernel
theorem dX4_brake_28 : decode cX4_brake 28 = .ok (.putfield 72, 3) := by decide +kernel
theorem dX4_brake_31 : decode cX4_brake 31 = .ok (.iload 4, 2) := by decide +kernel
theorem dX4_brake_33 : decode cX4_brake 33 = .ok (.ireturn, 1) := by decide +kernel
theorem dX4_couple_0 : decode cX4_couple 0 = .ok (.aload_n 0, 1) := by decide +kernel
theorem dX4_couple_1 : decode cX4_couple 1 = .ok (.iload_n 1, 1) := by decide +kernel
theorem dX4_couple_2 : decode cX4_couple 2 = .ok (.invokevirtual 51, 3) := by decide +kernel
theorem dX4_couple_5 : decode cX4_couple 5 = .ok (.ifnull 11, 3) := by decide +kernel
theorem dX4_couple_8 : decode cX4_couple 8 = .ok (.aload_n 0, 1) := by decide +kernel
theorem dX4_couple_9 : decode cX4_couple 9 = .ok (.iload_n 2, 1) := by decide +kernel
theorem dX4_couple_10 : decode cX4_couple 10 = .ok (.invokevirtual 51, 3) := by decide +kernel
theorem dX4_couple_13 : decode cX4_couple 13 = .ok (.ifnonnull 13, 3) := by decide +kernel
theorem dX4_couple_16 : decode cX4_couple 16 = .ok (.new 55, 3) := by decide +kernel
theorem dX4_couple_19 : decode cX4_couple 19 = .ok (.dup, 1) := by decide +kernel
theorem dX4_couple_20 : decode cX4_couple 20 = .ok (.ldc 57, 2) := by decide +kernel
theorem dX4_couple_22 : decode cX4_couple 22 = .ok (.invokespecial 59, 3) := by decide +kernel
theorem dX4_couple_25 : decode cX4_couple 25 = .ok (.athrow, 1) := by decide +kernel
theorem dX4_couple_26 : decode cX4_couple 26 = .ok (.iload_n 1, 1) := by decide +kernel
theorem dX4_couple_27 : decode cX4_couple 27 = .ok (.iload_n 2, 1) := by decide +kernel
theorem dX4_couple_28 : decode cX4_couple 28 = .ok (.if_icmp .ne 13, 3) := by decide +kernel
theorem dX4_couple_31 : decode cX4_couple 31 = .ok (.new 32, 3) := by decide +kernel
theorem dX4_couple_34 : decode cX4_couple 34 = .ok (.dup, 1) := by decide +kernel
theorem dX4_couple_35 : decode cX4_couple 35 = .ok (.ldc 76, 2) := by decide +kernel
theorem dX4_couple_37 : decode cX4_couple 37 = .ok (.invokespecial 36, 3) := by decide +kernel
theorem dX4_couple_40 : decode cX4_couple 40 = .ok (.athrow, 1) := by decide +kernel
theorem dX4_couple_41 : decode cX4_couple 41 = .ok (.iload_n 1, 1) := by decide +kernel
theorem dX4_couple_42 : decode cX4_couple 42 = .ok (.iload_n 2, 1) := by decide +kernel
theorem dX4_couple_43 : decode cX4_couple 43 = .ok (.invokestatic 78, 3) := by decide +kernel
theorem dX4_couple_46 : decode cX4_couple 46 = .ok (.istore 4, 2) := by decide +kernel
theorem dX4_couple_48 : decode cX4_couple 48 = .ok (.aload_n 0, 1) := by decide +kernel
theorem dX4_couple_49 : decode cX4_couple 49 = .ok (.iload_n 3, 1) := by decide +kernel
theorem dX4_couple_50 : decode cX4_couple 50 = .ok (.ifCond .eq 13, 3) := by decide +kernel
theorem dX4_couple_53 : decode cX4_couple 53 = .ok (.aload_n 0, 1) := by decide +kernel
theorem dX4_couple_54 : decode cX4_couple 54 = .ok (.getfield 81, 3) := by decide +kernel
theorem dX4_couple_57 : decode cX4_couple 57 = .ok (.iload 4, 2) := by decide +kernel
theorem dX4_couple_59 : decode cX4_couple 59 = .ok (.ior, 1) := by decide +kernel
theorem dX4_couple_60 : decode cX4_couple 60 = .ok (.goto 12, 3) := by decide +kernel
theorem dX4_couple_63 : decode cX4_couple 63 = .ok (.aload_n 0, 1) := by decide +kernel
theorem dX4_couple_64 : decode cX4_couple 64 = .ok (.getfield 81, 3) := by decide +kernel
theorem dX4_couple_67 : decode cX4_couple 67 = .ok (.iload 4, 2) := by decide +kernel
theorem dX4_couple_69 : decode cX4_couple 69 = .ok (.iconst (-1), 1) := by decide +kernel
theorem dX4_couple_70 : decode cX4_couple 70 = .ok (.ixor, 1) := by decide +kernel
theorem dX4_couple_71 : decode cX4_couple 71 = .ok (.iand, 1) := by decide +kernel
theorem dX4_couple_72 : decode cX4_couple 72 = .ok (.putfield 81, 3) := by decide +kernel
theorem dX4_couple_75 : decode cX4_couple 75 = .ok (.aload_n 0, 1) := by decide +kernel
theorem dX4_couple_76 : decode cX4_couple 76 = .ok (.getfield 81, 3) := by decide +kernel
theorem dX4_couple_79 : decode cX4_couple 79 = .ok (.invokestatic 84, 3) := by decide +kernel
theorem dX4_couple_82 : decode cX4_couple 82 = .ok (.ireturn, 1) := by decide +kernel
theorem dX4_spring_0 : decode cX4_spring 0 = .ok (.aload_n 0, 1) := by decide +kernel
theorem dX4_spring_1 : decode cX4_spring 1 = .ok (.iload_n 1, 1) := by decide +kernel
theorem dX4_spring_2 : decode cX4_spring 2 = .ok (.invokevirtual 51, 3) := by decide +kernel
theorem dX4_spring_5 : decode cX4_spring 5 = .ok (.astore_n 3, 1) := by decide +kernel
theorem dX4_spring_6 : decode cX4_spring 6 = .ok (.aload_n 3, 1) := by decide +kernel
theorem dX4_spring_7 : decode cX4_spring 7 = .ok (.ifnonnull 13, 3) := by decide +kernel
theorem dX4_spring_10 : decode cX4_spring 10 = .ok (.new 55, 3) := by decide +kernel
theorem dX4_spring_13 : decode cX4_spring 13 = .ok (.dup, 1) := by decide +kernel
theorem dX4_spring_14 : decode cX4_spring 14 = .ok (.ldc 57, 2) := by decide +kernel
theorem dX4_spring_16 : decode cX4_spring 16 = .ok (.invokespecial 59, 3) := by decide +kernel
theorem dX4_spring_19 : decode cX4_spring 19 = .ok (.athrow, 1) := by decide +kernel
theorem dX4_spring_20 : decode cX4_spring 20 = .ok (.iload_n 2, 1) := by decide +kernel
theorem dX4_spring_21 : decode cX4_spring 21 = .ok (.tableswitch 89 0 6 #[43, 48, 53, 59, 64, 77, 83], 43) := by decide +kernel
theorem dX4_spring_64 : decode cX4_spring 64 = .ok (.aload_n 3, 1) := by decide +kernel
theorem dX4_spring_65 : decode cX4_spring 65 = .ok (.getfield 90, 3) := by decide +kernel
theorem dX4_spring_68 : decode cX4_spring 68 = .ok (.ireturn, 1) := by decide +kernel
theorem dX4_spring_69 : decode cX4_spring 69 = .ok (.aload_n 3, 1) := by decide +kernel
theorem dX4_spring_70 : decode cX4_spring 70 = .ok (.getfield 63, 3) := by decide +kernel
theorem dX4_spring_73 : decode cX4_spring 73 = .ok (.ireturn, 1) := by decide +kernel
theorem dX4_spring_74 : decode cX4_spring 74 = .ok (.aload_n 3, 1) := by decide +kernel
theorem dX4_spring_75 : decode cX4_spring 75 = .ok (.getfield 93, 3) := by decide +kernel
theorem dX4_spring_78 : decode cX4_spring 78 = .ok (.l2i, 1) := by decide +kernel
theorem dX4_spring_79 : decode cX4_spring 79 = .ok (.ireturn, 1) := by decide +kernel
theorem dX4_spring_80 : decode cX4_spring 80 = .ok (.aload_n 3, 1) := by decide +kernel
theorem dX4_spring_81 : decode cX4_spring 81 = .ok (.getfield 97, 3) := by decide +kernel
theorem dX4_spring_84 : decode cX4_spring 84 = .ok (.ireturn, 1) := by decide +kernel
theorem dX4_spring_85 : decode cX4_spring 85 = .ok (.aload_n 3, 1) := by decide +kernel
theorem dX4_spring_86 : decode cX4_spring 86 = .ok (.getfield 72, 3) := by decide +kernel
theorem dX4_spring_89 : decode cX4_spring 89 = .ok (.ifCond .eq 7, 3) := by decide +kernel
theorem dX4_spring_92 : decode cX4_spring 92 = .ok (.iconst 1, 1) := by decide +kernel
theorem dX4_spring_93 : decode cX4_spring 93 = .ok (.goto 4, 3) := by decide +kernel
theorem dX4_spring_96 : decode cX4_spring 96 = .ok (.iconst 0, 1) := by decide +kernel
theorem dX4_spring_97 : decode cX4_spring 97 = .ok (.ireturn, 1) := by decide +kernel
theorem dX4_spring_98 : decode cX4_spring 98 = .ok (.aload_n 0, 1) := by decide +kernel
theorem dX4_spring_99 : decode cX4_spring 99 = .ok (.iload_n 1, 1) := by decide +kernel
theorem dX4_spring_100 : decode cX4_spring 100 = .ok (.invokevirtual 100, 3) := by decide +kernel
theorem dX4_spring_103 : decode cX4_spring 103 = .ok (.ireturn, 1) := by decide +kernel
theorem dX4_spring_104 : decode cX4_spring 104 = .ok (.aload_n 0, 1) := by decide +kernel
theorem dX4_spring_105 : decode cX4_spring 105 = .ok (.iload_n 1, 1) := by decide +kernel
theorem dX4_spring_106 : decode cX4_spring 106 = .ok (.invokevirtual 103, 3) := by decide +kernel
theorem dX4_spring_109 : decode cX4_spring 109 = .ok (.ireturn, 1) := by decide +kernel
theorem dX4_spring_110 : decode cX4_spring 110 = .ok (.new 55, 3) := by decide +kernel
theorem dX4_spring_113 : decode cX4_spring 113 = .ok (.dup, 1) := by decide +kernel
theorem dX4_spring_114 : decode cX4_spring 114 = .ok (.ldc 106, 2) := by decide +kernel
theorem dX4_spring_116 : decode cX4_spring 116 = .ok (.invokespecial 59, 3) := by decide +kernel
theorem dX4_spring_119 : decode cX4_spring 119 = .ok (.athrow, 1) := by decide +kernel
theorem dX4_addBird_0 : decode cX4_addBird 0 = .ok (.aload_n 0, 1) := by decide +kernel
theorem dX4_addBird_1 : decode cX4_addBird 1 = .ok (.iload_n 1, 1) := by decide +kernel
theorem dX4_addBird_2 : decode cX4_addBird 2 = .ok (.invokevirtual 51, 3) := by decide +kernel
theorem dX4_addBird_5 : decode cX4_addBird 5 = .ok (.astore 6, 2) := by decide +kernel
theorem dX4_addBird_7 : decode cX4_addBird 7 = .ok (.aload 6, 2) := by decide +kernel
theorem dX4_addBird_9 : decode cX4_addBird 9 = .ok (.ifnonnull 13, 3) := by decide +kernel
theorem dX4_addBird_12 : decode cX4_addBird 12 = .ok (.new 55, 3) := by decide +kernel
theorem dX4_addBird_15 : decode cX4_addBird 15 = .ok (.dup, 1) := by decide +kernel
theorem dX4_addBird_16 : decode cX4_addBird 16 = .ok (.ldc 57, 2) := by decide +kernel
theorem dX4_addBird_18 : decode cX4_addBird 18 = .ok (.invokespecial 59, 3) := by decide +kernel
theorem dX4_addBird_21 : decode cX4_addBird 21 = .ok (.athrow, 1) := by decide +kernel
theorem dX4_addBird_22 : decode cX4_addBird 22 = .ok (.iload_n 2, 1) := by decide +kernel
theorem dX4_addBird_23 : decode cX4_addBird 23 = .ok (.iconst 0, 1) := by decide +kernel
theorem dX4_addBird_24 : decode cX4_addBird 24 = .ok (.bipush 20, 2) := by decide +kernel
theorem dX4_addBird_26 : decode cX4_addBird 26 = .ok (.invokestatic 28, 3) := by decide +kernel
theorem dX4_addBird_29 : decode cX4_addBird 29 = .ok (.ifCond .ne 13, 3) := by decide +kernel
theorem dX4_addBird_32 : decode cX4_addBird 32 = .ok (.new 32, 3) := by decide +kernel
theorem dX4_addBird_35 : decode cX4_addBird 35 = .ok (.dup, 1) := by decide +kernel
theorem dX4_addBird_36 : decode cX4_addBird 36 = .ok (.ldc 108, 2) := by decide +kernel
theorem dX4_addBird_38 : decode cX4_addBird 38 = .ok (.invokespecial 36, 3) := by decide +kernel
theorem dX4_addBird_41 : decode cX4_addBird 41 = .ok (.athrow, 1) := by decide +kernel
theorem dX4_addBird_42 : decode cX4_addBird 42 = .ok (.iload_n 3, 1) := by decide +kernel
theorem dX4_addBird_43 : decode cX4_addBird 43 = .ok (.bipush 8, 2) := by decide +kernel
theorem dX4_addBird_45 : decode cX4_addBird 45 = .ok (.bipush 96, 2) := by decide +kernel
theorem dX4_addBird_47 : decode cX4_addBird 47 = .ok (.invokestatic 28, 3) := by decide +kernel
theorem dX4_addBird_50 : decode cX4_addBird 50 = .ok (.ifCond .ne 13, 3) := by decide +kernel
theorem dX4_addBird_53 : decode cX4_addBird 53 = .ok (.new 32, 3) := by decide +kernel
theorem dX4_addBird_56 : decode cX4_addBird 56 = .ok (.dup, 1) := by decide +kernel
theorem dX4_addBird_57 : decode cX4_addBird 57 = .ok (.ldc 110, 2) := by decide +kernel
theorem dX4_addBird_59 : decode cX4_addBird 59 = .ok (.invokespecial 36, 3) := by decide +kernel
theorem dX4_addBird_62 : decode cX4_addBird 62 = .ok (.athrow, 1) := by decide +kernel
theorem dX4_addBird_63 : decode cX4_addBird 63 = .ok (.iload 4, 2) := by decide +kernel
theorem dX4_addBird_65 : decode cX4_addBird 65 = .ok (.iconst 1, 1) := by decide +kernel
theorem dX4_addBird_66 : decode cX4_addBird 66 = .ok (.bipush 12, 2) := by decide +kernel
theorem dX4_addBird_68 : decode cX4_addBird 68 = .ok (.invokestatic 28, 3) := by decide +kernel
theorem dX4_addBird_71 : decode cX4_addBird 71 = .ok (.ifCond .eq 14, 3) := by decide +kernel
theorem dX4_addBird_74 : decode cX4_addBird 74 = .ok (.iload 5, 2) := by decide +kernel
theorem dX4_addBird_76 : decode cX4_addBird 76 = .ok (.iconst 1, 1) := by decide +kernel
theorem dX4_addBird_77 : decode cX4_addBird 77 = .ok (.bipush 12, 2) := by decide +kernel
theorem dX4_addBird_79 : decode cX4_addBird 79 = .ok (.invokestatic 28, 3) := by decide +kernel
theorem dX4_addBird_82 : decode cX4_addBird 82 = .ok (.ifCond .ne 13, 3) := by decide +kernel
theorem dX4_addBird_85 : decode cX4_addBird 85 = .ok (.new 32, 3) := by decide +kernel
theorem dX4_addBird_88 : decode cX4_addBird 88 = .ok (.dup, 1) := by decide +kernel
theorem dX4_addBird_89 : decode cX4_addBird 89 = .ok (.ldc 112, 2) := by decide +kernel
theorem dX4_addBird_91 : decode cX4_addBird 91 = .ok (.invokespecial 36, 3) := by decide +kernel
theorem dX4_addBird_94 : decode cX4_addBird 94 = .ok (.athrow, 1) := by decide +kernel
theorem dX4_addBird_95 : decode cX4_addBird 95 = .ok (.aload_n 0, 1) := by decide +kernel
theorem dX4_addBird_96 : decode cX4_addBird 96 = .ok (.getfield 114, 3) := by decide +kernel
theorem dX4_addBird_99 : decode cX4_addBird 99 = .ok (.istore 7, 2) := by decide +kernel
theorem dX4_addBird_101 : decode cX4_addBird 101 = .ok (.iload 7, 2) := by decide +kernel
theorem dX4_addBird_103 : decode cX4_addBird 103 = .ok (.ifCond .lt 13, 3) := by decide +kernel
theorem dX4_addBird_106 : decode cX4_addBird 106 = .ok (.iload 7, 2) := by decide +kernel
theorem dX4_addBird_108 : decode cX4_addBird 108 = .ok (.aload_n 0, 1) := by decide +kernel
theorem dX4_addBird_109 : decode cX4_addBird 109 = .ok (.getfield 17, 3) := by decide +kernel
theorem dX4_addBird_112 : decode cX4_addBird 112 = .ok (.arraylength, 1) := by decide +kernel
theorem dX4_addBird_113 : decode cX4_addBird 113 = .ok (.if_icmp .lt 13, 3) := by decide +kernel
theorem dX4_addBird_116 : decode cX4_addBird 116 = .ok (.new 43, 3) := by decide +kernel
theorem dX4_addBird_119 : decode cX4_addBird 119 = .ok (.dup, 1) := by decide +kernel
theorem dX4_addBird_120 : decode cX4_addBird 120 = .ok (.ldc 117, 2) := by decide +kernel
theorem dX4_addBird_122 : decode cX4_addBird 122 = .ok (.invokespecial 47, 3) := by decide +kernel
theorem dX4_addBird_125 : decode cX4_addBird 125 = .ok (.athrow, 1) := by decide +kernel
theorem dX4_addBird_126 : decode cX4_addBird 126 = .ok (.aload_n 0, 1) := by decide +kernel
theorem dX4_addBird_127 : decode cX4_addBird 127 = .ok (.getfield 17, 3) := by decide +kernel
theorem dX4_addBird_130 : decode cX4_addBird 130 = .ok (.iload 7, 2) := by decide +kernel
theorem dX4_addBird_132 : decode cX4_addBird 132 = .ok (.new 15, 3) := by decide +kernel
theorem dX4_addBird_135 : decode cX4_addBird 135 = .ok (.dup, 1) := by decide +kernel
theorem dX4_addBird_136 : decode cX4_addBird 136 = .ok (.iload_n 1, 1) := by decide +kernel
theorem dX4_addBird_137 : decode cX4_addBird 137 = .ok (.iload_n 2, 1) := by decide +kernel
theorem dX4_addBird_138 : decode cX4_addBird 138 = .ok (.iload_n 3, 1) := by decide +kernel
theorem dX4_addBird_139 : decode cX4_addBird 139 = .ok (.iload 4, 2) := by decide +kernel
theorem dX4_addBird_141 : decode cX4_addBird 141 = .ok (.iload 5, 2) := by decide +kernel
theorem dX4_addBird_143 : decode cX4_addBird 143 = .ok (.aload 6, 2) := by decide +kernel
theorem dX4_addBird_145 : decode cX4_addBird 145 = .ok (.getfield 93, 3) := by decide +kernel
theorem dX4_addBird_148 : decode cX4_addBird 148 = .ok (.invokespecial 119, 3) := by decide +kernel
theorem dX4_addBird_151 : decode cX4_addBird 151 = .ok (.aastore, 1) := by decide +kernel
theorem dX4_addBird_152 : decode cX4_addBird 152 = .ok (.aload_n 0, 1) := by decide +kernel
theorem dX4_addBird_153 : decode cX4_addBird 153 = .ok (.dup, 1) := by decide +kernel
theorem dX4_addBird_154 : decode cX4_addBird 154 = .ok (.getfield 114, 3) := by decide +kernel
theorem dX4_addBird_157 : decode cX4_addBird 157 = .ok (.iconst 1, 1) := by decide +kernel
theorem dX4_addBird_158 : decode cX4_addBird 158 = .ok (.iadd, 1) := by decide +kernel
theorem dX4_addBird_159 : decode cX4_addBird 159 = .ok (.putfield 114, 3) := by decide +kernel
theorem dX4_addBird_162 : decode cX4_addBird 162 = .ok (.iload 7, 2) := by decide +kernel
theorem dX4_addBird_164 : decode cX4_addBird 164 = .ok (.ireturn, 1) := by decide +kernel
theorem dX4_engage_0 : decode cX4_engage 0 = .ok (.aload_n 0, 1) := by decide +kernel
theorem dX4_engage_1 : decode cX4_engage 1 = .ok (.iload_n 1, 1) := by decide +kernel
theorem dX4_engage_2 : decode cX4_engage 2 = .ok (.invokevirtual 122, 3) := by decide +kernel
theorem dX4_engage_5 : decode cX4_engage 5 = .ok (.astore_n 3, 1) := by decide +kernel
theorem dX4_engage_6 : decode cX4_engage 6 = .ok (.aload_n 3, 1) := by decide +kernel
theorem dX4_engage_7 : decode cX4_engage 7 = .ok (.ifnonnull 13, 3) := by decide +kernel
theorem dX4_engage_10 : decode cX4_engage 10 = .ok (.new 55, 3) := by decide +kernel
theorem dX4_engage_13 : decode cX4_engage 13 = .ok (.dup, 1) := by decide +kernel
theorem dX4_engage_14 : decode cX4_engage 14 = .ok (.ldc 126, 2) := by decide +kernel
theorem dX4_engage_16 : decode cX4_engage 16 = .ok (.invokespecial 59, 3) := by decide +kernel
theorem dX4_engage_19 : decode cX4_engage 19 = .ok (.athrow, 1) := by decide +kernel
theorem dX4_engage_20 : decode cX4_engage 20 = .ok (.aload_n 3, 1) := by decide +kernel
theorem dX4_engage_21 : decode cX4_engage 21 = .ok (.getfield 128, 3) := by decide +kernel
theorem dX4_engage_24 : decode cX4_engage 24 = .ok (.istore 4, 2) := by decide +kernel
theorem dX4_engage_26 : decode cX4_engage 26 = .ok (.iload_n 2, 1) := by decide +kernel
theorem dX4_engage_27 : decode cX4_engage 27 = .ok (.ifCond .eq 36, 3) := by decide +kernel
theorem dX4_engage_30 : decode cX4_engage 30 = .ok (.iload 4, 2) := by decide +kernel
theorem dX4_engage_32 : decode cX4_engage 32 = .ok (.ifCond .ne 31, 3) := by decide +kernel
theorem dX4_engage_35 : decode cX4_engage 35 = .ok (.aload_n 0, 1) := by decide +kernel
theorem dX4_engage_36 : decode cX4_engage 36 = .ok (.aload_n 3, 1) := by decide +kernel
theorem dX4_engage_37 : decode cX4_engage 37 = .ok (.getfield 131, 3) := by decide +kernel
theorem dX4_engage_40 : decode cX4_engage 40 = .ok (.invokevirtual 51, 3) := by decide +kernel
theorem dX4_engage_43 : decode cX4_engage 43 = .ok (.astore 5, 2) := by decide +kernel
theorem dX4_engage_45 : decode cX4_engage 45 = .ok (.aload_n 3, 1) := by decide +kernel
theorem dX4_engage_46 : decode cX4_engage 46 = .ok (.aload 5, 2) := by decide +kernel
theorem dX4_engage_48 : decode cX4_engage 48 = .ok (.ifnonnull 7, 3) := by decide +kernel
theorem dX4_engage_51 : decode cX4_engage 51 = .ok (.lconst 0, 1) := by decide +kernel
theorem dX4_engage_52 : decode cX4_engage 52 = .ok (.goto 8, 3) := by decide +kernel
theorem dX4_engage_55 : decode cX4_engage 55 = .ok (.aload 5, 2) := by decide +kernel
theorem dX4_engage_57 : decode cX4_engage 57 = .ok (.getfield 93, 3) := by decide +kernel
theorem dX4_engage_60 : decode cX4_engage 60 = .ok (.invokevirtual 134, 3) := by decide +kernel
theorem dX4_engage_63 : decode cX4_engage 63 = .ok (.aload_n 3, 1) := by decide +kernel
theorem dX4_engage_64 : decode cX4_engage 64 = .ok (.iload_n 2, 1) := by decide +kernel
theorem dX4_engage_65 : decode cX4_engage 65 = .ok (.putfield 128, 3) := by decide +kernel
theorem dX4_engage_68 : decode cX4_engage 68 = .ok (.iload 4, 2) := by decide +kernel
theorem dX4_engage_70 : decode cX4_engage 70 = .ok (.ireturn, 1) := by decide +kernel
theorem dX4_pin_0 : decode cX4_pin 0 = .ok (.aload_n 0, 1) := by decide +kernel
theorem dX4_pin_1 : decode cX4_pin 1 = .ok (.iload_n 1, 1) := by decide +kernel
theorem dX4_pin_2 : decode cX4_pin 2 = .ok (.invokevirtual 122, 3) := by decide +kernel
theorem dX4_pin_5 : decode cX4_pin 5 = .ok (.astore 4, 2) := by decide +kernel
theorem dX4_pin_7 : decode cX4_pin 7 = .ok (.aload 4, 2) := by decide +kernel
theorem dX4_pin_9 : decode cX4_pin 9 = .ok (.ifnonnull 13, 3) := by decide +kernel
theorem dX4_pin_12 : decode cX4_pin 12 = .ok (.new 55, 3) := by decide +kernel
theorem dX4_pin_15 : decode cX4_pin 15 = .ok (.dup, 1) := by decide +kernel
theorem dX4_pin_16 : decode cX4_pin 16 = .ok (.ldc 126, 2) := by decide +kernel
theorem dX4_pin_18 : decode cX4_pin 18 = .ok (.invokespecial 59, 3) := by decide +kernel
theorem dX4_pin_21 : decode cX4_pin 21 = .ok (.athrow, 1) := by decide +kernel
theorem dX4_pin_22 : decode cX4_pin 22 = .ok (.aload 4, 2) := by decide +kernel
theorem dX4_pin_24 : decode cX4_pin 24 = .ok (.iload_n 2, 1) := by decide +kernel
theorem dX4_pin_25 : decode cX4_pin 25 = .ok (.invokevirtual 138, 3) := by decide +kernel
theorem dX4_pin_28 : decode cX4_pin 28 = .ok (.ifCond .ne 13, 3) := by decide +kernel
theorem dX4_pin_31 : decode cX4_pin 31 = .ok (.new 32, 3) := by decide +kernel
theorem dX4_pin_34 : decode cX4_pin 34 = .ok (.dup, 1) := by decide +kernel
theorem dX4_pin_35 : decode cX4_pin 35 = .ok (.ldc 142, 2) := by decide +kernel
theorem dX4_pin_37 : decode cX4_pin 37 = .ok (.invokespecial 36, 3) := by decide +kernel
theorem dX4_pin_40 : decode cX4_pin 40 = .ok (.athrow, 1) := by decide +kernel
theorem dX4_pin_41 : decode cX4_pin 41 = .ok (.iload_n 3, 1) := by decide +kernel
theorem dX4_pin_42 : decode cX4_pin 42 = .ok (.iconst 0, 1) := by decide +kernel
theorem dX4_pin_43 : decode cX4_pin 43 = .ok (.iconst 5, 1) := by decide +kernel
theorem dX4_pin_44 : decode cX4_pin 44 = .ok (.invokestatic 28, 3) := by decide +kernel
theorem dX4_pin_47 : decode cX4_pin 47 = .ok (.ifCond .ne 13, 3) := by decide +kernel
theorem dX4_pin_50 : decode cX4_pin 50 = .ok (.new 32, 3) := by decide +kernel
theorem dX4_pin_53 : decode cX4_pin 53 = .ok (.dup, 1) := by decide +kernel
theorem dX4_pin_54 : decode cX4_pin 54 = .ok (.ldc 144, 2) := by decide +kernel
theorem dX4_pin_56 : decode cX4_pin 56 = .ok (.invokespecial 36, 3) := by decide +kernel
theorem dX4_pin_59 : decode cX4_pin 59 = .ok (.athrow, 1) := by decide +kernel
theorem dX4_pin_60 : decode cX4_pin 60 = .ok (.aload 4, 2) := by decide +kernel
theorem dX4_pin_62 : decode cX4_pin 62 = .ok (.iload_n 2, 1) := by decide +kernel
theorem dX4_pin_63 : decode cX4_pin 63 = .ok (.iload_n 3, 1) := by decide +kernel
theorem dX4_pin_64 : decode cX4_pin 64 = .ok (.invokevirtual 146, 3) := by decide +kernel
theorem dX4_pin_67 : decode cX4_pin 67 = .ok (.ifCond .ne 23, 3) := by decide +kernel
theorem dX4_pin_70 : decode cX4_pin 70 = .ok (.aload 4, 2) := by decide +kernel
theorem dX4_pin_72 : decode cX4_pin 72 = .ok (.getfield 150, 3) := by decide +kernel
theorem dX4_pin_75 : decode cX4_pin 75 = .ok (.bipush 24, 2) := by decide +kernel
theorem dX4_pin_77 : decode cX4_pin 77 = .ok (.if_icmp .lt 13, 3) := by decide +kernel
theorem dX4_pin_80 : decode cX4_pin 80 = .ok (.new 43, 3) := by decide +kernel
theorem dX4_pin_83 : decode cX4_pin 83 = .ok (.dup, 1) := by decide +kernel
theorem dX4_pin_84 : decode cX4_pin 84 = .ok (.ldc 153, 2) := by decide +kernel
theorem dX4_pin_86 : decode cX4_pin 86 = .ok (.invokespecial 47, 3) := by decide +kernel
theorem dX4_pin_89 : decode cX4_pin 89 = .ok (.athrow, 1) := by decide +kernel
theorem dX4_pin_90 : decode cX4_pin 90 = .ok (.aload 4, 2) := by decide +kernel
theorem dX4_pin_92 : decode cX4_pin 92 = .ok (.iload_n 2, 1) := by decide +kernel
theorem dX4_pin_93 : decode cX4_pin 93 = .ok (.iload_n 3, 1) := by decide +kernel
theorem dX4_pin_94 : decode cX4_pin 94 = .ok (.invokevirtual 155, 3) := by decide +kernel
theorem dX4_pin_97 : decode cX4_pin 97 = .ok (.aload 4, 2) := by decide +kernel
theorem dX4_pin_99 : decode cX4_pin 99 = .ok (.getfield 150, 3) := by decide +kernel
theorem dX4_pin_102 : decode cX4_pin 102 = .ok (.ireturn, 1) := by decide +kernel
theorem dX4_tune_0 : decode cX4_tune 0 = .ok (.aload_n 0, 1) := by decide +kernel
theorem dX4_tune_1 : decode cX4_tune 1 = .ok (.iload_n 1, 1) := by decide +kernel
theorem dX4_tune_2 : decode cX4_tune 2 = .ok (.invokevirtual 122, 3) := by decide +kernel
theorem dX4_tune_5 : decode cX4_tune 5 = .ok (.astore 4, 2) := by decide +kernel
theorem dX4_tune_7 : decode cX4_tune 7 = .ok (.aload 4, 2) := by decide +kernel
theorem dX4_tune_9 : decode cX4_tune 9 = .ok (.ifnonnull 13, 3) := by decide +kernel
theorem dX4_tune_12 : decode cX4_tune 12 = .ok (.new 55, 3) := by decide +kernel
theorem dX4_tune_15 : decode cX4_tune 15 = .ok (.dup, 1) := by decide +kernel
theorem dX4_tune_16 : decode cX4_tune 16 = .ok (.ldc 126, 2) := by decide +kernel
theorem dX4_tune_18 : decode cX4_tune 18 = .ok (.invokespecial 59, 3) := by decide +kernel
theorem dX4_tune_21 : decode cX4_tune 21 = .ok (.athrow, 1) := by decide +kernel
theorem dX4_tune_22 : decode cX4_tune 22 = .ok (.iload_n 2, 1) := by decide +kernel
theorem dX4_tune_23 : decode cX4_tune 23 = .ok (.iconst 0, 1) := by decide +kernel
theorem dX4_tune_24 : decode cX4_tune 24 = .ok (.iconst 5, 1) := by decide +kernel
theorem dX4_tune_25 : decode cX4_tune 25 = .ok (.invokestatic 28, 3) := by decide +kernel
theorem dX4_tune_28 : decode cX4_tune 28 = .ok (.ifCond .ne 13, 3) := by decide +kernel
theorem dX4_tune_31 : decode cX4_tune 31 = .ok (.new 55, 3) := by decide +kernel
theorem dX4_tune_34 : decode cX4_tune 34 = .ok (.dup, 1) := by decide +kernel
theorem dX4_tune_35 : decode cX4_tune 35 = .ok (.ldc 144, 2) := by decide +kernel
theorem dX4_tune_37 : decode cX4_tune 37 = .ok (.invokespecial 59, 3) := by decide +kernel
theorem dX4_tune_40 : decode cX4_tune 40 = .ok (.athrow, 1) := by decide +kernel
theorem dX4_tune_41 : decode cX4_tune 41 = .ok (.iload_n 3, 1) := by decide +kernel
theorem dX4_tune_42 : decode cX4_tune 42 = .ok (.iconst 0, 1) := by decide +kernel
theorem dX4_tune_43 : decode cX4_tune 43 = .ok (.bipush 87, 2) := by decide +kernel
theorem dX4_tune_45 : decode cX4_tune 45 = .ok (.invokestatic 28, 3) := by decide +kernel
theorem dX4_tune_48 : decode cX4_tune 48 = .ok (.ifCond .ne 13, 3) := by decide +kernel
theorem dX4_tune_51 : decode cX4_tune 51 = .ok (.new 32, 3) := by decide +kernel
theorem dX4_tune_54 : decode cX4_tune 54 = .ok (.dup, 1) := by decide +kernel
theorem dX4_tune_55 : decode cX4_tune 55 = .ok (.ldc 159, 2) := by decide +kernel
theorem dX4_tune_57 : decode cX4_tune 57 = .ok (.invokespecial 36, 3) := by decide +kernel
theorem dX4_tune_60 : decode cX4_tune 60 = .ok (.athrow, 1) := by decide +kernel
theorem dX4_tune_61 : decode cX4_tune 61 = .ok (.aload 4, 2) := by decide +kernel
theorem dX4_tune_63 : decode cX4_tune 63 = .ok (.getfield 161, 3) := by decide +kernel
theorem dX4_tune_66 : decode cX4_tune 66 = .ok (.iload_n 2, 1) := by decide +kernel
theorem dX4_tune_67 : decode cX4_tune 67 = .ok (.invokestatic 165, 3) := by decide +kernel
theorem dX4_tune_70 : decode cX4_tune 70 = .ok (.istore 5, 2) := by decide +kernel
theorem dX4_tune_72 : decode cX4_tune 72 = .ok (.aload 4, 2) := by decide +kernel
theorem dX4_tune_74 : decode cX4_tune 74 = .ok (.getfield 161, 3) := by decide +kernel
theorem dX4_tune_77 : decode cX4_tune 77 = .ok (.iload_n 2, 1) := by decide +kernel
theorem dX4_tune_78 : decode cX4_tune 78 = .ok (.iload_n 3, 1) := by decide +kernel
theorem dX4_tune_79 : decode cX4_tune 79 = .ok (.invokestatic 169, 3) := by decide +kernel
theorem dX4_tune_82 : decode cX4_tune 82 = .ok (.iload 5, 2) := by decide +kernel
theorem dX4_tune_84 : decode cX4_tune 84 = .ok (.ireturn, 1) := by decide +kernel
theorem dX4_point_0 : decode cX4_point 0 = .ok (.aload_n 0, 1) := by decide +kernel
theorem dX4_point_1 : decode cX4_point 1 = .ok (.iload_n 1, 1) := by decide +kernel
theorem dX4_point_2 : decode cX4_point 2 = .ok (.invokevirtual 122, 3) := by decide +kernel
theorem dX4_point_5 : decode cX4_point 5 = .ok (.astore 5, 2) := by decide +kernel
theorem dX4_point_7 : decode cX4_point 7 = .ok (.aload 5, 2) := by decide +kernel
theorem dX4_point_9 : decode cX4_point 9 = .ok (.ifnonnull 7, 3) := by decide +kernel
theorem dX4_point_12 : decode cX4_point 12 = .ok (.aconst_null, 1) := by decide +kernel
theorem dX4_point_13 : decode cX4_point 13 = .ok (.goto 9, 3) := by decide +kernel
theorem dX4_point_16 : decode cX4_point 16 = .ok (.aload 5, 2) := by decide +kernel
theorem dX4_point_18 : decode cX4_point 18 = .ok (.iload_n 2, 1) := by decide +kernel
theorem dX4_point_19 : decode cX4_point 19 = .ok (.invokevirtual 173, 3) := by decide +kernel
theorem dX4_point_22 : decode cX4_point 22 = .ok (.astore 6, 2) := by decide +kernel
theorem dX4_point_24 : decode cX4_point 24 = .ok (.aload 5, 2) := by decide +kernel
theorem dX4_point_26 : decode cX4_point 26 = .ok (.ifnull 8, 3) := by decide +kernel
theorem dX4_point_29 : decode cX4_point 29 = .ok (.aload 6, 2) := by decide +kernel
theorem dX4_point_31 : decode cX4_point 31 = .ok (.ifnonnull 13, 3) := by decide +kernel
theorem dX4_point_34 : decode cX4_point 34 = .ok (.new 55, 3) := by decide +kernel
theorem dX4_point_37 : decode cX4_point 37 = .ok (.dup, 1) := by decide +kernel
theorem dX4_point_38 : decode cX4_point 38 = .ok (.ldc 177, 2) := by decide +kernel
theorem dX4_point_40 : decode cX4_point 40 = .ok (.invokespecial 59, 3) := by decide +kernel
theorem dX4_point_43 : decode cX4_point 43 = .ok (.athrow, 1) := by decide +kernel
theorem dX4_point_44 : decode cX4_point 44 = .ok (.aload 5, 2) := by decide +kernel
theorem dX4_point_46 : decode cX4_point 46 = .ok (.iload_n 3, 1) := by decide +kernel
theorem dX4_point_47 : decode cX4_point 47 = .ok (.invokevirtual 138, 3) := by decide +kernel
theorem dX4_point_50 : decode cX4_point 50 = .ok (.ifCond .ne 13, 3) := by decide +kernel
theorem dX4_point_53 : decode cX4_point 53 = .ok (.new 32, 3) := by decide +kernel
theorem dX4_point_56 : decode cX4_point 56 = .ok (.dup, 1) := by decide +kernel
theorem dX4_point_57 : decode cX4_point 57 = .ok (.ldc 142, 2) := by decide +kernel
theorem dX4_point_59 : decode cX4_point 59 = .ok (.invokespecial 36, 3) := by decide +kernel
theorem dX4_point_62 : decode cX4_point 62 = .ok (.athrow, 1) := by decide +kernel
theorem dX4_point_63 : decode cX4_point 63 = .ok (.iload 4, 2) := by decide +kernel
theorem dX4_point_65 : decode cX4_point 65 = .ok (.iconst (-1), 1) := by decide +kernel
theorem dX4_point_66 : decode cX4_point 66 = .ok (.bipush 100, 2) := by decide +kernel
theorem dX4_point_68 : decode cX4_point 68 = .ok (.invokestatic 28, 3) := by decide +kernel
theorem dX4_point_71 : decode cX4_point 71 = .ok (.ifCond .ne 13, 3) := by decide +kernel
theorem dX4_point_74 : decode cX4_point 74 = .ok (.new 32, 3) := by decide +kernel
theorem dX4_point_77 : decode cX4_point 77 = .ok (.dup, 1) := by decide +kernel
theorem dX4_point_78 : decode cX4_point 78 = .ok (.ldc 179, 2) := by decide +kernel
theorem dX4_point_80 : decode cX4_point 80 = .ok (.invokespecial 36, 3) := by decide +kernel
theorem dX4_point_83 : decode cX4_point 83 = .ok (.athrow, 1) := by decide +kernel
theorem dX4_point_84 : decode cX4_point 84 = .ok (.aload 6, 2) := by decide +kernel
theorem dX4_point_86 : decode cX4_point 86 = .ok (.iload_n 3, 1) := by decide +kernel
theorem dX4_point_87 : decode cX4_point 87 = .ok (.invokevirtual 181, 3) := by decide +kernel
theorem dX4_point_90 : decode cX4_point 90 = .ok (.istore 7, 2) := by decide +kernel
theorem dX4_point_92 : decode cX4_point 92 = .ok (.iload 4, 2) := by decide +kernel
theorem dX4_point_94 : decode cX4_point 94 = .ok (.iconst (-1), 1) := by decide +kernel
theorem dX4_point_95 : decode cX4_point 95 = .ok (.if_icmp .ne 18, 3) := by decide +kernel
theorem dX4_point_98 : decode cX4_point 98 = .ok (.iload 7, 2) := by decide +kernel
theorem dX4_point_100 : decode cX4_point 100 = .ok (.ifCond .ne 13, 3) := by decide +kernel
theorem dX4_point_103 : decode cX4_point 103 = .ok (.new 43, 3) := by decide +kernel
theorem dX4_point_106 : decode cX4_point 106 = .ok (.dup, 1) := by decide +kernel
theorem dX4_point_107 : decode cX4_point 107 = .ok (.ldc 186, 2) := by decide +kernel
theorem dX4_point_109 : decode cX4_point 109 = .ok (.invokespecial 47, 3) := by decide +kernel
theorem dX4_point_112 : decode cX4_point 112 = .ok (.athrow, 1) := by decide +kernel
theorem dX4_point_113 : decode cX4_point 113 = .ok (.iload 7, 2) := by decide +kernel
theorem dX4_point_115 : decode cX4_point 115 = .ok (.ifCond .ne 23, 3) := by decide +kernel
theorem dX4_point_118 : decode cX4_point 118 = .ok (.aload 6, 2) := by decide +kernel
theorem dX4_point_120 : decode cX4_point 120 = .ok (.getfield 188, 3) := by decide +kernel
theorem dX4_point_123 : decode cX4_point 123 = .ok (.bipush 8, 2) := by decide +kernel
theorem dX4_point_125 : decode cX4_point 125 = .ok (.if_icmp .lt 13, 3) := by decide +kernel
theorem dX4_point_128 : decode cX4_point 128 = .ok (.new 43, 3) := by decide +kernel
theorem dX4_point_131 : decode cX4_point 131 = .ok (.dup, 1) := by decide +kernel
theorem dX4_point_132 : decode cX4_point 132 = .ok (.ldc 191, 2) := by decide +kernel
theorem dX4_point_134 : decode cX4_point 134 = .ok (.invokespecial 47, 3) := by decide +kernel
theorem dX4_point_137 : decode cX4_point 137 = .ok (.athrow, 1) := by decide +kernel
theorem dX4_point_138 : decode cX4_point 138 = .ok (.iload 4, 2) := by decide +kernel
theorem dX4_point_140 : decode cX4_point 140 = .ok (.iconst (-1), 1) := by decide +kernel
theorem dX4_point_141 : decode cX4_point 141 = .ok (.if_icmp .ne 17, 3) := by decide +kernel
theorem dX4_point_144 : decode cX4_point 144 = .ok (.aload 6, 2) := by decide +kernel
theorem dX4_point_146 : decode cX4_point 146 = .ok (.iload_n 3, 1) := by decide +kernel
theorem dX4_point_147 : decode cX4_point 147 = .ok (.aload 5, 2) := by decide +kernel
theorem dX4_point_149 : decode cX4_point 149 = .ok (.getfield 193, 3) := by decide +kernel
theorem dX4_point_152 : decode cX4_point 152 = .ok (.invokevirtual 196, 3) := by decide +kernel
theorem dX4_point_155 : decode cX4_point 155 = .ok (.goto 16, 3) := by decide +kernel
theorem dX4_point_158 : decode cX4_point 158 = .ok (.aload 6, 2) := by decide +kernel
theorem dX4_point_160 : decode cX4_point 160 = .ok (.iload_n 3, 1) := by decide +kernel
theorem dX4_point_161 : decode cX4_point 161 = .ok (.iload 4, 2) := by decide +kernel
theorem dX4_point_163 : decode cX4_point 163 = .ok (.aload 5, 2) := by decide +kernel
theorem dX4_point_165 : decode cX4_point 165 = .ok (.getfield 193, 3) := by decide +kernel
theorem dX4_point_168 : decode cX4_point 168 = .ok (.invokevirtual 199, 3) := by decide +kernel
theorem dX4_point_171 : decode cX4_point 171 = .ok (.aload 6, 2) := by decide +kernel
theorem dX4_point_173 : decode cX4_point 173 = .ok (.getfield 188, 3) := by decide +kernel
theorem dX4_point_176 : decode cX4_point 176 = .ok (.ireturn, 1) := by decide +kernel
theorem dX4_bird_0 : decode cX4_bird 0 = .ok (.aload_n 0, 1) := by decide +kernel
theorem dX4_bird_1 : decode cX4_bird 1 = .ok (.iload_n 1, 1) := by decide +kernel
theorem dX4_bird_2 : decode cX4_bird 2 = .ok (.invokevirtual 122, 3) := by decide +kernel
theorem dX4_bird_5 : decode cX4_bird 5 = .ok (.astore_n 3, 1) := by decide +kernel
theorem dX4_bird_6 : decode cX4_bird 6 = .ok (.aload_n 3, 1) := by decide +kernel
theorem dX4_bird_7 : decode cX4_bird 7 = .ok (.ifnonnull 13, 3) := by decide +kernel
theorem dX4_bird_10 : decode cX4_bird 10 = .ok (.new 55, 3) := by decide +kernel
theorem dX4_bird_13 : decode cX4_bird 13 = .ok (.dup, 1) := by decide +kernel
theorem dX4_bird_14 : decode cX4_bird 14 = .ok (.ldc 126, 2) := by decide +kernel
theorem dX4_bird_16 : decode cX4_bird 16 = .ok (.invokespecial 59, 3) := by decide +kernel
theorem dX4_bird_19 : decode cX4_bird 19 = .ok (.athrow, 1) := by decide +kernel
theorem dX4_bird_20 : decode cX4_bird 20 = .ok (.iload_n 2, 1) := by decide +kernel
theorem dX4_bird_21 : decode cX4_bird 21 = .ok (.tableswitch 114 0 9 #[55, 60, 65, 70, 75, 80, 85, 98, 103, 109], 55) := by decide +kernel
theorem dX4_bird_76 : decode cX4_bird 76 = .ok (.aload_n 3, 1) := by decide +kernel
theorem dX4_bird_77 : decode cX4_bird 77 = .ok (.getfield 131, 3) := by decide +kernel
theorem dX4_bird_80 : decode cX4_bird 80 = .ok (.ireturn, 1) := by decide +kernel
theorem dX4_bird_81 : decode cX4_bird 81 = .ok (.aload_n 3, 1) := by decide +kernel
theorem dX4_bird_82 : decode cX4_bird 82 = .ok (.getfield 203, 3) := by decide +kernel
theorem dX4_bird_85 : decode cX4_bird 85 = .ok (.ireturn, 1) := by decide +kernel
theorem dX4_bird_86 : decode cX4_bird 86 = .ok (.aload_n 3, 1) := by decide +kernel
theorem dX4_bird_87 : decode cX4_bird 87 = .ok (.getfield 193, 3) := by decide +kernel
theorem dX4_bird_90 : decode cX4_bird 90 = .ok (.ireturn, 1) := by decide +kernel
theorem dX4_bird_91 : decode cX4_bird 91 = .ok (.aload_n 3, 1) := by decide +kernel
theorem dX4_bird_92 : decode cX4_bird 92 = .ok (.getfield 206, 3) := by decide +kernel
theorem dX4_bird_95 : decode cX4_bird 95 = .ok (.ireturn, 1) := by decide +kernel
theorem dX4_bird_96 : decode cX4_bird 96 = .ok (.aload_n 3, 1) := by decide +kernel
theorem dX4_bird_97 : decode cX4_bird 97 = .ok (.getfield 209, 3) := by decide +kernel
theorem dX4_bird_100 : decode cX4_bird 100 = .ok (.ireturn, 1) := by decide +kernel
theorem dX4_bird_101 : decode cX4_bird 101 = .ok (.aload_n 3, 1) := by decide +kernel
theorem dX4_bird_102 : decode cX4_bird 102 = .ok (.invokevirtual 212, 3) := by decide +kernel
theorem dX4_bird_105 : decode cX4_bird 105 = .ok (.ireturn, 1) := by decide +kernel
theorem dX4_bird_106 : decode cX4_bird 106 = .ok (.aload_n 3, 1) := by decide +kernel
theorem dX4_bird_107 : decode cX4_bird 107 = .ok (.getfield 128, 3) := by decide +kernel
theorem dX4_bird_110 : decode cX4_bird 110 = .ok (.ifCond .eq 7, 3) := by decide +kernel
theorem dX4_bird_113 : decode cX4_bird 113 = .ok (.iconst 1, 1) := by decide +kernel
theorem dX4_bird_114 : decode cX4_bird 114 = .ok (.goto 4, 3) := by decide +kernel
theorem dX4_bird_117 : decode cX4_bird 117 = .ok (.iconst 0, 1) := by decide +kernel
theorem dX4_bird_118 : decode cX4_bird 118 = .ok (.ireturn, 1) := by decide +kernel
theorem dX4_bird_119 : decode cX4_bird 119 = .ok (.aload_n 3, 1) := by decide +kernel
theorem dX4_bird_120 : decode cX4_bird 120 = .ok (.getfield 150, 3) := by decide +kernel
theorem dX4_bird_123 : decode cX4_bird 123 = .ok (.ireturn, 1) := by decide +kernel
theorem dX4_bird_124 : decode cX4_bird 124 = .ok (.aload_n 3, 1) := by decide +kernel
theorem dX4_bird_125 : decode cX4_bird 125 = .ok (.getfield 216, 3) := by decide +kernel
theorem dX4_bird_128 : decode cX4_bird 128 = .ok (.l2i, 1) := by decide +kernel
theorem dX4_bird_129 : decode cX4_bird 129 = .ok (.ireturn, 1) := by decide +kernel
theorem dX4_bird_130 : decode cX4_bird 130 = .ok (.aload_n 3, 1) := by decide +kernel
theorem dX4_bird_131 : decode cX4_bird 131 = .ok (.getfield 219, 3) := by decide +kernel
theorem dX4_bird_134 : decode cX4_bird 134 = .ok (.ireturn, 1) := by decide +kernel
theorem dX4_bird_135 : decode cX4_bird 135 = .ok (.new 55, 3) := by decide +kernel
theorem dX4_bird_138 : decode cX4_bird 138 = .ok (.dup, 1) := by decide +kernel
theorem dX4_bird_139 : decode cX4_bird 139 = .ok (.ldc 222, 2) := by decide +kernel
theorem dX4_bird_141 : decode cX4_bird 141 = .ok (.invokespecial 59, 3) := by decide +kernel
theorem dX4_bird_144 : decode cX4_bird 144 = .ok (.athrow, 1) := by decide +kernel
theorem dX4_lift_0 : decode cX4_lift 0 = .ok (.aload_n 0, 1) := by decide +kernel
theorem dX4_lift_1 : decode cX4_lift 1 = .ok (.iload_n 1, 1) := by decide +kernel
theorem dX4_lift_2 : decode cX4_lift 2 = .ok (.invokevirtual 122, 3) := by decide +kernel
theorem dX4_lift_5 : decode cX4_lift 5 = .ok (.astore 4, 2) := by decide +kernel
theorem dX4_lift_7 : decode cX4_lift 7 = .ok (.aload 4, 2) := by decide +kernel
theorem dX4_lift_9 : decode cX4_lift 9 = .ok (.ifnonnull 7, 3) := by decide +kernel
theorem dX4_lift_12 : decode cX4_lift 12 = .ok (.aconst_null, 1) := by decide +kernel
theorem dX4_lift_13 : decode cX4_lift 13 = .ok (.goto 9, 3) := by decide +kernel
theorem dX4_lift_16 : decode cX4_lift 16 = .ok (.aload 4, 2) := by decide +kernel
theorem dX4_lift_18 : decode cX4_lift 18 = .ok (.iload_n 2, 1) := by decide +kernel
theorem dX4_lift_19 : decode cX4_lift 19 = .ok (.invokevirtual 173, 3) := by decide +kernel
theorem dX4_lift_22 : decode cX4_lift 22 = .ok (.astore 5, 2) := by decide +kernel
theorem dX4_lift_24 : decode cX4_lift 24 = .ok (.aload 4, 2) := by decide +kernel
theorem dX4_lift_26 : decode cX4_lift 26 = .ok (.ifnull 8, 3) := by decide +kernel
theorem dX4_lift_29 : decode cX4_lift 29 = .ok (.aload 5, 2) := by decide +kernel
theorem dX4_lift_31 : decode cX4_lift 31 = .ok (.ifnonnull 13, 3) := by decide +kernel
theorem dX4_lift_34 : decode cX4_lift 34 = .ok (.new 55, 3) := by decide +kernel
theorem dX4_lift_37 : decode cX4_lift 37 = .ok (.dup, 1) := by decide +kernel
theorem dX4_lift_38 : decode cX4_lift 38 = .ok (.ldc 177, 2) := by decide +kernel
theorem dX4_lift_40 : decode cX4_lift 40 = .ok (.invokespecial 59, 3) := by decide +kernel
theorem dX4_lift_43 : decode cX4_lift 43 = .ok (.athrow, 1) := by decide +kernel
theorem dX4_lift_44 : decode cX4_lift 44 = .ok (.iload_n 3, 1) := by decide +kernel
theorem dX4_lift_45 : decode cX4_lift 45 = .ok (.iconst (-1), 1) := by decide +kernel
theorem dX4_lift_46 : decode cX4_lift 46 = .ok (.if_icmp .eq 22, 3) := by decide +kernel
theorem dX4_lift_49 : decode cX4_lift 49 = .ok (.aload 4, 2) := by decide +kernel
theorem dX4_lift_51 : decode cX4_lift 51 = .ok (.iload_n 3, 1) := by decide +kernel
theorem dX4_lift_52 : decode cX4_lift 52 = .ok (.invokevirtual 138, 3) := by decide +kernel
theorem dX4_lift_55 : decode cX4_lift 55 = .ok (.ifCond .ne 13, 3) := by decide +kernel
theorem dX4_lift_58 : decode cX4_lift 58 = .ok (.new 32, 3) := by decide +kernel
theorem dX4_lift_61 : decode cX4_lift 61 = .ok (.dup, 1) := by decide +kernel
theorem dX4_lift_62 : decode cX4_lift 62 = .ok (.ldc 224, 2) := by decide +kernel
theorem dX4_lift_64 : decode cX4_lift 64 = .ok (.invokespecial 36, 3) := by decide +kernel
theorem dX4_lift_67 : decode cX4_lift 67 = .ok (.athrow, 1) := by decide +kernel
theorem dX4_lift_68 : decode cX4_lift 68 = .ok (.aload 5, 2) := by decide +kernel
theorem dX4_lift_70 : decode cX4_lift 70 = .ok (.getfield 226, 3) := by decide +kernel
theorem dX4_lift_73 : decode cX4_lift 73 = .ok (.iload_n 3, 1) := by decide +kernel
theorem dX4_lift_74 : decode cX4_lift 74 = .ok (.iconst (-1), 1) := by decide +kernel
theorem dX4_lift_75 : decode cX4_lift 75 = .ok (.if_icmp .ne 11, 3) := by decide +kernel
theorem dX4_lift_78 : decode cX4_lift 78 = .ok (.aload 4, 2) := by decide +kernel
theorem dX4_lift_80 : decode cX4_lift 80 = .ok (.invokevirtual 212, 3) := by decide +kernel
theorem dX4_lift_83 : decode cX4_lift 83 = .ok (.goto 4, 3) := by decide +kernel
theorem dX4_lift_86 : decode cX4_lift 86 = .ok (.iload_n 3, 1) := by decide +kernel
theorem dX4_lift_87 : decode cX4_lift 87 = .ok (.invokestatic 165, 3) := by decide +kernel
theorem dX4_lift_90 : decode cX4_lift 90 = .ok (.ireturn, 1) := by decide +kernel
theorem dX4_run_0 : decode cX4_run 0 = .ok (.iload_n 1, 1) := by decide +kernel
theorem dX4_run_1 : decode cX4_run 1 = .ok (.iconst 1, 1) := by decide +kernel
theorem dX4_run_2 : decode cX4_run 2 = .ok (.sipush 500, 3) := by decide +kernel
theorem dX4_run_5 : decode cX4_run 5 = .ok (.invokestatic 28, 3) := by decide +kernel
theorem dX4_run_8 : decode cX4_run 8 = .ok (.ifCond .ne 13, 3) := by decide +kernel
theorem dX4_run_11 : decode cX4_run 11 = .ok (.new 32, 3) := by decide +kernel
theorem dX4_run_14 : decode cX4_run 14 = .ok (.dup, 1) := by decide +kernel
theorem dX4_run_15 : decode cX4_run 15 = .ok (.ldc 229, 2) := by decide +kernel
theorem dX4_run_17 : decode cX4_run 17 = .ok (.invokespecial 36, 3) := by decide +kernel
theorem dX4_run_20 : decode cX4_run 20 = .ok (.athrow, 1) := by decide +kernel
theorem dX4_run_21 : decode cX4_run 21 = .ok (.iconst 0, 1) := by decide +kernel
theorem dX4_run_22 : decode cX4_run 22 = .ok (.istore_n 2, 1) := by decide +kernel
theorem dX4_run_23 : decode cX4_run 23 = .ok (.iconst 0, 1) := by decide +kernel
theorem dX4_run_24 : decode cX4_run 24 = .ok (.istore_n 3, 1) := by decide +kernel
theorem dX4_run_25 : decode cX4_run 25 = .ok (.iload_n 3, 1) := by decide +kernel
theorem dX4_run_26 : decode cX4_run 26 = .ok (.iload_n 1, 1) := by decide +kernel
theorem dX4_run_27 : decode cX4_run 27 = .ok (.if_icmp .ge 16, 3) := by decide +kernel
theorem dX4_run_30 : decode cX4_run 30 = .ok (.iload_n 2, 1) := by decide +kernel
theorem dX4_run_31 : decode cX4_run 31 = .ok (.aload_n 0, 1) := by decide +kernel
theorem dX4_run_32 : decode cX4_run 32 = .ok (.invokevirtual 231, 3) := by decide +kernel
theorem dX4_run_35 : decode cX4_run 35 = .ok (.iadd, 1) := by decide +kernel
theorem dX4_run_36 : decode cX4_run 36 = .ok (.istore_n 2, 1) := by decide +kernel
theorem dX4_run_37 : decode cX4_run 37 = .ok (.iinc 3 1, 3) := by decide +kernel
theorem dX4_run_40 : decode cX4_run 40 = .ok (.goto (-15), 3) := by decide +kernel
theorem dX4_run_43 : decode cX4_run 43 = .ok (.iload_n 2, 1) := by decide +kernel
theorem dX4_run_44 : decode cX4_run 44 = .ok (.ireturn, 1) := by decide +kernel
theorem dX4_count_0 : decode cX4_count 0 = .ok (.iload_n 1, 1) := by decide +kernel
theorem dX4_count_1 : decode cX4_count 1 = .ok (.tableswitch 75 0 5 #[39, 44, 49, 54, 62, 70], 39) := by decide +kernel
theorem dX4_count_40 : decode cX4_count 40 = .ok (.aload_n 0, 1) := by decide +kernel
theorem dX4_count_41 : decode cX4_count 41 = .ok (.getfield 234, 3) := by decide +kernel
theorem dX4_count_44 : decode cX4_count 44 = .ok (.ireturn, 1) := by decide +kernel
theorem dX4_count_45 : decode cX4_count 45 = .ok (.aload_n 0, 1) := by decide +kernel
theorem dX4_count_46 : decode cX4_count 46 = .ok (.getfield 39, 3) := by decide +kernel
theorem dX4_count_49 : decode cX4_count 49 = .ok (.ireturn, 1) := by decide +kernel
theorem dX4_count_50 : decode cX4_count 50 = .ok (.aload_n 0, 1) := by decide +kernel
theorem dX4_count_51 : decode cX4_count 51 = .ok (.getfield 114, 3) := by decide +kernel
theorem dX4_count_54 : decode cX4_count 54 = .ok (.ireturn, 1) := by decide +kernel
theorem dX4_count_55 : decode cX4_count 55 = .ok (.aload_n 0, 1) := by decide +kernel
theorem dX4_count_56 : decode cX4_count 56 = .ok (.getfield 81, 3) := by decide +kernel
theorem dX4_count_59 : decode cX4_count 59 = .ok (.invokestatic 84, 3) := by decide +kernel
theorem dX4_count_62 : decode cX4_count 62 = .ok (.ireturn, 1) := by decide +kernel
theorem dX4_count_63 : decode cX4_count 63 = .ok (.aload_n 0, 1) := by decide +kernel
theorem dX4_count_64 : decode cX4_count 64 = .ok (.getfield 24, 3) := by decide +kernel
theorem dX4_count_67 : decode cX4_count 67 = .ok (.getfield 237, 3) := by decide +kernel
theorem dX4_count_70 : decode cX4_count 70 = .ok (.ireturn, 1) := by decide +kernel
theorem dX4_count_71 : decode cX4_count 71 = .ok (.aload_n 0, 1) := by decide +kernel
theorem dX4_count_72 : decode cX4_count 72 = .ok (.invokevirtual 240, 3) := by decide +kernel
theorem dX4_count_75 : decode cX4_count 75 = .ok (.ireturn, 1) := by decide +kernel
theorem dX4_count_76 : decode cX4_count 76 = .ok (.new 55, 3) := by decide +kernel
theorem dX4_count_79 : decode cX4_count 79 = .ok (.dup, 1) := by decide +kernel
theorem dX4_count_80 : decode cX4_count 80 = .ok (.ldc 243, 2) := by decide +kernel
theorem dX4_count_82 : decode cX4_count 82 = .ok (.invokespecial 59, 3) := by decide +kernel
theorem dX4_count_85 : decode cX4_count 85 = .ok (.athrow, 1) := by decide +kernel
theorem dX4_sung_0 : decode cX4_sung 0 = .ok (.iload_n 1, 1) := by decide +kernel
theorem dX4_sung_1 : decode cX4_sung 1 = .ok (.iconst 0, 1) := by decide +kernel
theorem dX4_sung_2 : decode cX4_sung 2 = .ok (.aload_n 0, 1) := by decide +kernel
theorem dX4_sung_3 : decode cX4_sung 3 = .ok (.getfield 24, 3) := by decide +kernel
theorem dX4_sung_6 : decode cX4_sung 6 = .ok (.getfield 245, 3) := by decide +kernel
theorem dX4_sung_9 : decode cX4_sung 9 = .ok (.iconst 1, 1) := by decide +kernel
theorem dX4_sung_10 : decode cX4_sung 10 = .ok (.isub, 1) := by decide +kernel
theorem dX4_sung_11 : decode cX4_sung 11 = .ok (.invokestatic 28, 3) := by decide +kernel
theorem dX4_sung_14 : decode cX4_sung 14 = .ok (.ifCond .ne 13, 3) := by decide +kernel
theorem dX4_sung_17 : decode cX4_sung 17 = .ok (.new 55, 3) := by decide +kernel
theorem dX4_sung_20 : decode cX4_sung 20 = .ok (.dup, 1) := by decide +kernel
theorem dX4_sung_21 : decode cX4_sung 21 = .ok (.ldc 248, 2) := by decide +kernel
theorem dX4_sung_23 : decode cX4_sung 23 = .ok (.invokespecial 59, 3) := by decide +kernel
theorem dX4_sung_26 : decode cX4_sung 26 = .ok (.athrow, 1) := by decide +kernel
theorem dX4_sung_27 : decode cX4_sung 27 = .ok (.iload_n 2, 1) := by decide +kernel
theorem dX4_sung_28 : decode cX4_sung 28 = .ok (.iconst 0, 1) := by decide +kernel
theorem dX4_sung_29 : decode cX4_sung 29 = .ok (.iconst 3, 1) := by decide +kernel
theorem dX4_sung_30 : decode cX4_sung 30 = .ok (.invokestatic 28, 3) := by decide +kernel
theorem dX4_sung_33 : decode cX4_sung 33 = .ok (.ifCond .ne 13, 3) := by decide +kernel
theorem dX4_sung_36 : decode cX4_sung 36 = .ok (.new 55, 3) := by decide +kernel
theorem dX4_sung_39 : decode cX4_sung 39 = .ok (.dup, 1) := by decide +kernel
theorem dX4_sung_40 : decode cX4_sung 40 = .ok (.ldc 250, 2) := by decide +kernel
theorem dX4_sung_42 : decode cX4_sung 42 = .ok (.invokespecial 59, 3) := by decide +kernel
theorem dX4_sung_45 : decode cX4_sung 45 = .ok (.athrow, 1) := by decide +kernel
theorem dX4_sung_46 : decode cX4_sung 46 = .ok (.aload_n 0, 1) := by decide +kernel
theorem dX4_sung_47 : decode cX4_sung 47 = .ok (.getfield 24, 3) := by decide +kernel
theorem dX4_sung_50 : decode cX4_sung 50 = .ok (.iload_n 1, 1) := by decide +kernel
theorem dX4_sung_51 : decode cX4_sung 51 = .ok (.iload_n 2, 1) := by decide +kernel
theorem dX4_sung_52 : decode cX4_sung 52 = .ok (.invokevirtual 252, 3) := by decide +kernel
theorem dX4_sung_55 : decode cX4_sung 55 = .ok (.ireturn, 1) := by decide +kernel
theorem dX4_chord_0 : decode cX4_chord 0 = .ok (.iload_n 1, 1) := by decide +kernel
theorem dX4_chord_1 : decode cX4_chord 1 = .ok (.ifCond .ge 13, 3) := by decide +kernel
theorem dX4_chord_4 : decode cX4_chord 4 = .ok (.new 32, 3) := by decide +kernel
theorem dX4_chord_7 : decode cX4_chord 7 = .ok (.dup, 1) := by decide +kernel
theorem dX4_chord_8 : decode cX4_chord 8 = .ok (.ldc 255, 2) := by decide +kernel
theorem dX4_chord_10 : decode cX4_chord 10 = .ok (.invokespecial 36, 3) := by decide +kernel
theorem dX4_chord_13 : decode cX4_chord 13 = .ok (.athrow, 1) := by decide +kernel
theorem dX4_chord_14 : decode cX4_chord 14 = .ok (.lconst 0, 1) := by decide +kernel
theorem dX4_chord_15 : decode cX4_chord 15 = .ok (.lstore_n 2, 1) := by decide +kernel
theorem dX4_chord_16 : decode cX4_chord 16 = .ok (.lconst 0, 1) := by decide +kernel
theorem dX4_chord_17 : decode cX4_chord 17 = .ok (.lstore 4, 2) := by decide +kernel
theorem dX4_chord_19 : decode cX4_chord 19 = .ok (.iconst 0, 1) := by decide +kernel
theorem dX4_chord_20 : decode cX4_chord 20 = .ok (.istore 6, 2) := by decide +kernel
theorem dX4_chord_22 : decode cX4_chord 22 = .ok (.iload 6, 2) := by decide +kernel
theorem dX4_chord_24 : decode cX4_chord 24 = .ok (.aload_n 0, 1) := by decide +kernel
theorem dX4_chord_25 : decode cX4_chord 25 = .ok (.getfield 24, 3) := by decide +kernel
theorem dX4_chord_28 : decode cX4_chord 28 = .ok (.getfield 245, 3) := by decide +kernel
theorem dX4_chord_31 : decode cX4_chord 31 = .ok (.if_icmp .ge 64, 3) := by decide +kernel
theorem dX4_chord_34 : decode cX4_chord 34 = .ok (.aload_n 0, 1) := by decide +kernel
theorem dX4_chord_35 : decode cX4_chord 35 = .ok (.getfield 24, 3) := by decide +kernel
theorem dX4_chord_38 : decode cX4_chord 38 = .ok (.iload 6, 2) := by decide +kernel
theorem dX4_chord_40 : decode cX4_chord 40 = .ok (.iconst 0, 1) := by decide +kernel
theorem dX4_chord_41 : decode cX4_chord 41 = .ok (.invokevirtual 252, 3) := by decide +kernel
theorem dX4_chord_44 : decode cX4_chord 44 = .ok (.iload_n 1, 1) := by decide +kernel
theorem dX4_chord_45 : decode cX4_chord 45 = .ok (.if_icmp .ne 44, 3) := by decide +kernel
theorem dX4_chord_48 : decode cX4_chord 48 = .ok (.aload_n 0, 1) := by decide +kernel
theorem dX4_chord_49 : decode cX4_chord 49 = .ok (.getfield 24, 3) := by decide +kernel
theorem dX4_chord_52 : decode cX4_chord 52 = .ok (.iload 6, 2) := by decide +kernel
theorem dX4_chord_54 : decode cX4_chord 54 = .ok (.iconst 3, 1) := by decide +kernel
theorem dX4_chord_55 : decode cX4_chord 55 = .ok (.invokevirtual 252, 3) := by decide +kernel
theorem dX4_chord_58 : decode cX4_chord 58 = .ok (.istore 7, 2) := by decide +kernel
theorem dX4_chord_60 : decode cX4_chord 60 = .ok (.iload 7, 2) := by decide +kernel
theorem dX4_chord_62 : decode cX4_chord 62 = .ok (.bipush 64, 2) := by decide +kernel
theorem dX4_chord_64 : decode cX4_chord 64 = .ok (.if_icmp .ge 13, 3) := by decide +kernel
theorem dX4_chord_67 : decode cX4_chord 67 = .ok (.lload_n 2, 1) := by decide +kernel
theorem dX4_chord_68 : decode cX4_chord 68 = .ok (.lconst 1, 1) := by decide +kernel
theorem dX4_chord_69 : decode cX4_chord 69 = .ok (.iload 7, 2) := by decide +kernel
theorem dX4_chord_71 : decode cX4_chord 71 = .ok (.lshl, 1) := by decide +kernel
theorem dX4_chord_72 : decode cX4_chord 72 = .ok (.lor, 1) := by decide +kernel
theorem dX4_chord_73 : decode cX4_chord 73 = .ok (.lstore_n 2, 1) := by decide +kernel
theorem dX4_chord_74 : decode cX4_chord 74 = .ok (.goto 15, 3) := by decide +kernel
theorem dX4_chord_77 : decode cX4_chord 77 = .ok (.lload 4, 2) := by decide +kernel
theorem dX4_chord_79 : decode cX4_chord 79 = .ok (.lconst 1, 1) := by decide +kernel
theorem dX4_chord_80 : decode cX4_chord 80 = .ok (.iload 7, 2) := by decide +kernel
theorem dX4_chord_82 : decode cX4_chord 82 = .ok (.bipush 64, 2) := by decide +kernel
theorem dX4_chord_84 : decode cX4_chord 84 = .ok (.isub, 1) := by decide +kernel
theorem dX4_chord_85 : decode cX4_chord 85 = .ok (.lshl, 1) := by decide +kernel
theorem dX4_chord_86 : decode cX4_chord 86 = .ok (.lor, 1) := by decide +kernel
theorem dX4_chord_87 : decode cX4_chord 87 = .ok (.lstore 4, 2) := by decide +kernel
theorem dX4_chord_89 : decode cX4_chord 89 = .ok (.iinc 6 1, 3) := by decide +kernel
theorem dX4_chord_92 : decode cX4_chord 92 = .ok (.goto (-70), 3) := by decide +kernel
theorem dX4_chord_95 : decode cX4_chord 95 = .ok (.lload_n 2, 1) := by decide +kernel
theorem dX4_chord_96 : decode cX4_chord 96 = .ok (.invokestatic 257, 3) := by decide +kernel
theorem dX4_chord_99 : decode cX4_chord 99 = .ok (.lload 4, 2) := by decide +kernel
theorem dX4_chord_101 : decode cX4_chord 101 = .ok (.invokestatic 257, 3) := by decide +kernel
theorem dX4_chord_104 : decode cX4_chord 104 = .ok (.iadd, 1) := by decide +kernel
theorem dX4_chord_105 : decode cX4_chord 105 = .ok (.ireturn, 1) := by decide +kernel
theorem dX4_longest_0 : decode cX4_longest 0 = .ok (.iconst 0, 1) := by decide +kernel
theorem dX4_longest_1 : decode cX4_longest 1 = .ok (.istore_n 1, 1) := by decide +kernel
theorem dX4_longest_2 : decode cX4_longest 2 = .ok (.iconst 0, 1) := by decide +kernel
theorem dX4_longest_3 : decode cX4_longest 3 = .ok (.istore_n 2, 1) := by decide +kernel
theorem dX4_longest_4 : decode cX4_longest 4 = .ok (.iconst (-1), 1) := by decide +kernel
theorem dX4_longest_5 : decode cX4_longest 5 = .ok (.istore_n 3, 1) := by decide +kernel
theorem dX4_longest_6 : decode cX4_longest 6 = .ok (.iconst 0, 1) := by decide +kernel
theorem dX4_longest_7 : decode cX4_longest 7 = .ok (.istore 4, 2) := by decide +kernel
theorem dX4_longest_9 : decode cX4_longest 9 = .ok (.iload 4, 2) := by decide +kernel
theorem dX4_longest_11 : decode cX4_longest 11 = .ok (.aload_n 0, 1) := by decide +kernel
theorem dX4_longest_12 : decode cX4_longest 12 = .ok (.getfield 24, 3) := by decide +kernel
theorem dX4_longest_15 : decode cX4_longest 15 = .ok (.getfield 245, 3) := by decide +kernel
theorem dX4_longest_18 : decode cX4_longest 18 = .ok (.if_icmp .ge 44, 3) := by decide +kernel
theorem dX4_longest_21 : decode cX4_longest 21 = .ok (.aload_n 0, 1) := by decide +kernel
theorem dX4_longest_22 : decode cX4_longest 22 = .ok (.getfield 24, 3) := by decide +kernel
theorem dX4_longest_25 : decode cX4_longest 25 = .ok (.iload 4, 2) := by decide +kernel
theorem dX4_longest_27 : decode cX4_longest 27 = .ok (.iconst 1, 1) := by decide +kernel
theorem dX4_longest_28 : decode cX4_longest 28 = .ok (.invokevirtual 252, 3) := by decide +kernel
theorem dX4_longest_31 : decode cX4_longest 31 = .ok (.istore 5, 2) := by decide +kernel
theorem dX4_longest_33 : decode cX4_longest 33 = .ok (.iload 5, 2) := by decide +kernel
theorem dX4_longest_35 : decode cX4_longest 35 = .ok (.iload_n 3, 1) := by decide +kernel
theorem dX4_longest_36 : decode cX4_longest 36 = .ok (.if_icmp .ne 9, 3) := by decide +kernel
theorem dX4_longest_39 : decode cX4_longest 39 = .ok (.iload_n 2, 1) := by decide +kernel
theorem dX4_longest_40 : decode cX4_longest 40 = .ok (.iconst 1, 1) := by decide +kernel
theorem dX4_longest_41 : decode cX4_longest 41 = .ok (.iadd, 1) := by decide +kernel
theorem dX4_longest_42 : decode cX4_longest 42 = .ok (.goto 4, 3) := by decide +kernel
theorem dX4_longest_45 : decode cX4_longest 45 = .ok (.iconst 1, 1) := by decide +kernel
theorem dX4_longest_46 : decode cX4_longest 46 = .ok (.istore_n 2, 1) := by decide +kernel
theorem dX4_longest_47 : decode cX4_longest 47 = .ok (.iload 5, 2) := by decide +kernel
theorem dX4_longest_49 : decode cX4_longest 49 = .ok (.istore_n 3, 1) := by decide +kernel
theorem dX4_longest_50 : decode cX4_longest 50 = .ok (.iload_n 1, 1) := by decide +kernel
theorem dX4_longest_51 : decode cX4_longest 51 = .ok (.iload_n 2, 1) := by decide +kernel
theorem dX4_longest_52 : decode cX4_longest 52 = .ok (.invokestatic 262, 3) := by decide +kernel
theorem dX4_longest_55 : decode cX4_longest 55 = .ok (.istore_n 1, 1) := by decide +kernel
theorem dX4_longest_56 : decode cX4_longest 56 = .ok (.iinc 4 1, 3) := by decide +kernel
theorem dX4_longest_59 : decode cX4_longest 59 = .ok (.goto (-50), 3) := by decide +kernel
theorem dX4_longest_62 : decode cX4_longest 62 = .ok (.iload_n 1, 1) := by decide +kernel
theorem dX4_longest_63 : decode cX4_longest 63 = .ok (.ireturn, 1) := by decide +kernel
theorem dX4_emptySongs_0 : decode cX4_emptySongs 0 = .ok (.aload_n 0, 1) := by decide +kernel
theorem dX4_emptySongs_1 : decode cX4_emptySongs 1 = .ok (.getfield 24, 3) := by decide +kernel
theorem dX4_emptySongs_4 : decode cX4_emptySongs 4 = .ok (.getfield 245, 3) := by decide +kernel
theorem dX4_emptySongs_7 : decode cX4_emptySongs 7 = .ok (.istore_n 1, 1) := by decide +kernel
theorem dX4_emptySongs_8 : decode cX4_emptySongs 8 = .ok (.aload_n 0, 1) := by decide +kernel
theorem dX4_emptySongs_9 : decode cX4_emptySongs 9 = .ok (.getfield 24, 3) := by decide +kernel
theorem dX4_emptySongs_12 : decode cX4_emptySongs 12 = .ok (.invokevirtual 265, 3) := by decide +kernel
theorem dX4_emptySongs_15 : decode cX4_emptySongs 15 = .ok (.iload_n 1, 1) := by decide +kernel
theorem dX4_emptySongs_16 : decode cX4_emptySongs 16 = .ok (.ireturn, 1) := by decide +kernel
theorem dX4_runsDown_0 : decode cX4_runsDown 0 = .ok (.iload_n 1, 1) := by decide +kernel
theorem dX4_runsDown_1 : decode cX4_runsDown 1 = .ok (.iconst 1, 1) := by decide +kernel
theorem dX4_runsDown_2 : decode cX4_runsDown 2 = .ok (.sipush 2000, 3) := by decide +kernel
theorem dX4_runsDown_5 : decode cX4_runsDown 5 = .ok (.invokestatic 28, 3) := by decide +kernel
theorem dX4_runsDown_8 : decode cX4_runsDown 8 = .ok (.ifCond .ne 14, 3) := by decide +kernel
theorem dX4_runsDown_11 : decode cX4_runsDown 11 = .ok (.new 32, 3) := by decide +kernel
theorem dX4_runsDown_14 : decode cX4_runsDown 14 = .ok (.dup, 1) := by decide +kernel
theorem dX4_runsDown_15 : decode cX4_runsDown 15 = .ok (.ldc_w 268, 3) := by decide +kernel
theorem dX4_runsDown_18 : decode cX4_runsDown 18 = .ok (.invokespecial 36, 3) := by decide +kernel
theorem dX4_runsDown_21 : decode cX4_runsDown 21 = .ok (.athrow, 1) := by decide +kernel
theorem dX4_runsDown_22 : decode cX4_runsDown 22 = .ok (.aload_n 0, 1) := by decide +kernel
theorem dX4_runsDown_23 : decode cX4_runsDown 23 = .ok (.getfield 234, 3) := by decide +kernel
theorem dX4_runsDown_26 : decode cX4_runsDown 26 = .ok (.istore_n 2, 1) := by decide +kernel
theorem dX4_runsDown_27 : decode cX4_runsDown 27 = .ok (.aload_n 0, 1) := by decide +kernel
theorem dX4_runsDown_28 : decode cX4_runsDown 28 = .ok (.invokevirtual 270, 3) := by decide +kernel
theorem dX4_runsDown_31 : decode cX4_runsDown 31 = .ok (.aload_n 0, 1) := by decide +kernel
theorem dX4_runsDown_32 : decode cX4_runsDown 32 = .ok (.invokevirtual 273, 3) := by decide +kernel
theorem dX4_runsDown_35 : decode cX4_runsDown 35 = .ok (.istore_n 3, 1) := by decide +kernel
theorem dX4_runsDown_36 : decode cX4_runsDown 36 = .ok (.iconst 0, 1) := by decide +kernel
theorem dX4_runsDown_37 : decode cX4_runsDown 37 = .ok (.istore 4, 2) := by decide +kernel
theorem dX4_runsDown_39 : decode cX4_runsDown 39 = .ok (.iload 4, 2) := by decide +kernel
theorem dX4_runsDown_41 : decode cX4_runsDown 41 = .ok (.iload_n 1, 1) := by decide +kernel
theorem dX4_runsDown_42 : decode cX4_runsDown 42 = .ok (.if_icmp .ge 23, 3) := by decide +kernel
theorem dX4_runsDown_45 : decode cX4_runsDown 45 = .ok (.iload_n 3, 1) := by decide +kernel
theorem dX4_runsDown_46 : decode cX4_runsDown 46 = .ok (.ifCond .ne 19, 3) := by decide +kernel
theorem dX4_runsDown_49 : decode cX4_runsDown 49 = .ok (.aload_n 0, 1) := by decide +kernel
theorem dX4_runsDown_50 : decode cX4_runsDown 50 = .ok (.invokevirtual 231, 3) := by decide +kernel
theorem dX4_runsDown_53 : decode cX4_runsDown 53 = .ok (.pop, 1) := by decide +kernel
theorem dX4_runsDown_54 : decode cX4_runsDown 54 = .ok (.aload_n 0, 1) := by decide +kernel
theorem dX4_runsDown_55 : decode cX4_runsDown 55 = .ok (.invokevirtual 273, 3) := by decide +kernel
theorem dX4_runsDown_58 : decode cX4_runsDown 58 = .ok (.istore_n 3, 1) := by decide +kernel
theorem dX4_runsDown_59 : decode cX4_runsDown 59 = .ok (.iinc 4 1, 3) := by decide +kernel
theorem dX4_runsDown_62 : decode cX4_runsDown 62 = .ok (.goto (-23), 3) := by decide +kernel
theorem dX4_runsDown_65 : decode cX4_runsDown 65 = .ok (.aload_n 0, 1) := by decide +kernel
theorem dX4_runsDown_66 : decode cX4_runsDown 66 = .ok (.getfield 234, 3) := by decide +kernel
theorem dX4_runsDown_69 : decode cX4_runsDown 69 = .ok (.istore 4, 2) := by decide +kernel
theorem dX4_runsDown_71 : decode cX4_runsDown 71 = .ok (.aload_n 0, 1) := by decide +kernel
theorem dX4_runsDown_72 : decode cX4_runsDown 72 = .ok (.invokevirtual 277, 3) := by decide +kernel
theorem dX4_runsDown_75 : decode cX4_runsDown 75 = .ok (.aload_n 0, 1) := by decide +kernel
theorem dX4_runsDown_76 : decode cX4_runsDown 76 = .ok (.iload_n 2, 1) := by decide +kernel
theorem dX4_runsDown_77 : decode cX4_runsDown 77 = .ok (.putfield 234, 3) := by decide +kernel
theorem dX4_runsDown_80 : decode cX4_runsDown 80 = .ok (.iload_n 3, 1) := by decide +kernel
theorem dX4_runsDown_81 : decode cX4_runsDown 81 = .ok (.ifCond .eq 8, 3) := by decide +kernel
theorem dX4_runsDown_84 : decode cX4_runsDown 84 = .ok (.iload 4, 2) := by decide +kernel
theorem dX4_runsDown_86 : decode cX4_runsDown 86 = .ok (.goto 4, 3) := by decide +kernel
theorem dX4_runsDown_89 : decode cX4_runsDown 89 = .ok (.iconst (-1), 1) := by decide +kernel
theorem dX4_runsDown_90 : decode cX4_runsDown 90 = .ok (.ireturn, 1) := by decide +kernel
theorem dX4_tension_0 : decode cX4_tension 0 = .ok (.aload_n 0, 1) := by decide +kernel
theorem dX4_tension_1 : decode cX4_tension 1 = .ok (.getfield 39, 3) := by decide +kernel
theorem dX4_tension_4 : decode cX4_tension 4 = .ok (.ifCond .gt 5, 3) := by decide +kernel
theorem dX4_tension_7 : decode cX4_tension 7 = .ok (.dconst 0, 1) := by decide +kernel
theorem dX4_tension_8 : decode cX4_tension 8 = .ok (.dreturn, 1) := by decide +kernel
theorem dX4_tension_9 : decode cX4_tension 9 = .ok (.aload_n 0, 1) := by decide +kernel
theorem dX4_tension_10 : decode cX4_tension 10 = .ok (.invokevirtual 240, 3) := by decide +kernel
theorem dX4_tension_13 : decode cX4_tension 13 = .ok (.i2d, 1) := by decide +kernel
theorem dX4_tension_14 : decode cX4_tension 14 = .ok (.sipush 1000, 3) := by decide +kernel
theorem dX4_tension_17 : decode cX4_tension 17 = .ok (.aload_n 0, 1) := by decide +kernel
theorem dX4_tension_18 : decode cX4_tension 18 = .ok (.getfield 39, 3) := by decide +kernel
theorem dX4_tension_21 : decode cX4_tension 21 = .ok (.imul, 1) := by decide +kernel
theorem dX4_tension_22 : decode cX4_tension 22 = .ok (.i2d, 1) := by decide +kernel
theorem dX4_tension_23 : decode cX4_tension 23 = .ok (.ddiv, 1) := by decide +kernel
theorem dX4_tension_24 : decode cX4_tension 24 = .ok (.dreturn, 1) := by decide +kernel
theorem dX4_digest_0 : decode cX4_digest 0 = .ok (.ldc2_w 280, 3) := by decide +kernel
theorem dX4_digest_3 : decode cX4_digest 3 = .ok (.lstore_n 1, 1) := by decide +kernel
theorem dX4_digest_4 : decode cX4_digest 4 = .ok (.iconst 0, 1) := by decide +kernel
theorem dX4_digest_5 : decode cX4_digest 5 = .ok (.istore_n 3, 1) := by decide +kernel
theorem dX4_digest_6 : decode cX4_digest 6 = .ok (.iload_n 3, 1) := by decide +kernel
theorem dX4_digest_7 : decode cX4_digest 7 = .ok (.bipush 6, 2) := by decide +kernel
theorem dX4_digest_9 : decode cX4_digest 9 = .ok (.if_icmp .ge 19, 3) := by decide +kernel
theorem dX4_digest_12 : decode cX4_digest 12 = .ok (.lload_n 1, 1) := by decide +kernel
theorem dX4_digest_13 : decode cX4_digest 13 = .ok (.aload_n 0, 1) := by decide +kernel
theorem dX4_digest_14 : decode cX4_digest 14 = .ok (.iload_n 3, 1) := by decide +kernel
theorem dX4_digest_15 : decode cX4_digest 15 = .ok (.invokevirtual 282, 3) := by decide +kernel
theorem dX4_digest_18 : decode cX4_digest 18 = .ok (.invokestatic 285, 3) := by decide +kernel
theorem dX4_digest_21 : decode cX4_digest 21 = .ok (.lstore_n 1, 1) := by decide +kernel
theorem dX4_digest_22 : decode cX4_digest 22 = .ok (.iinc 3 1, 3) := by decide +kernel
theorem dX4_digest_25 : decode cX4_digest 25 = .ok (.goto (-19), 3) := by decide +kernel
theorem dX4_digest_28 : decode cX4_digest 28 = .ok (.iconst 0, 1) := by decide +kernel
theorem dX4_digest_29 : decode cX4_digest 29 = .ok (.istore_n 3, 1) := by decide +kernel
theorem dX4_digest_30 : decode cX4_digest 30 = .ok (.iload_n 3, 1) := by decide +kernel
theorem dX4_digest_31 : decode cX4_digest 31 = .ok (.aload_n 0, 1) := by decide +kernel
theorem dX4_digest_32 : decode cX4_digest 32 = .ok (.getfield 39, 3) := by decide +kernel
theorem dX4_digest_35 : decode cX4_digest 35 = .ok (.if_icmp .ge 37, 3) := by decide +kernel
theorem dX4_digest_38 : decode cX4_digest 38 = .ok (.iconst 0, 1) := by decide +kernel
theorem dX4_digest_39 : decode cX4_digest 39 = .ok (.istore 4, 2) := by decide +kernel
theorem dX4_digest_41 : decode cX4_digest 41 = .ok (.iload 4, 2) := by decide +kernel
theorem dX4_digest_43 : decode cX4_digest 43 = .ok (.bipush 7, 2) := by decide +kernel
theorem dX4_digest_45 : decode cX4_digest 45 = .ok (.if_icmp .ge 21, 3) := by decide +kernel
theorem dX4_digest_48 : decode cX4_digest 48 = .ok (.lload_n 1, 1) := by decide +kernel
theorem dX4_digest_49 : decode cX4_digest 49 = .ok (.aload_n 0, 1) := by decide +kernel
theorem dX4_digest_50 : decode cX4_digest 50 = .ok (.iload_n 3, 1) := by decide +kernel
theorem dX4_digest_51 : decode cX4_digest 51 = .ok (.iload 4, 2) := by decide +kernel
theorem dX4_digest_53 : decode cX4_digest 53 = .ok (.invokevirtual 289, 3) := by decide +kernel
theorem dX4_digest_56 : decode cX4_digest 56 = .ok (.invokestatic 285, 3) := by decide +kernel
theorem dX4_digest_59 : decode cX4_digest 59 = .ok (.lstore_n 1, 1) := by decide +kernel
theorem dX4_digest_60 : decode cX4_digest 60 = .ok (.iinc 4 1, 3) := by decide +kernel
theorem dX4_digest_63 : decode cX4_digest 63 = .ok (.goto (-22), 3) := by decide +kernel
theorem dX4_digest_66 : decode cX4_digest 66 = .ok (.iinc 3 1, 3) := by decide +kernel
theorem dX4_digest_69 : decode cX4_digest 69 = .ok (.goto (-39), 3) := by decide +kernel
theorem dX4_digest_72 : decode cX4_digest 72 = .ok (.iconst 0, 1) := by decide +kernel
theorem dX4_digest_73 : decode cX4_digest 73 = .ok (.istore_n 3, 1) := by decide +kernel
theorem dX4_digest_74 : decode cX4_digest 74 = .ok (.iload_n 3, 1) := by decide +kernel
theorem dX4_digest_75 : decode cX4_digest 75 = .ok (.aload_n 0, 1) := by decide +kernel
theorem dX4_digest_76 : decode cX4_digest 76 = .ok (.getfield 114, 3) := by decide +kernel
theorem dX4_digest_79 : decode cX4_digest 79 = .ok (.if_icmp .ge 16, 3) := by decide +kernel
theorem dX4_digest_82 : decode cX4_digest 82 = .ok (.aload_n 0, 1) := by decide +kernel
theorem dX4_digest_83 : decode cX4_digest 83 = .ok (.lload_n 1, 1) := by decide +kernel
theorem dX4_digest_84 : decode cX4_digest 84 = .ok (.iload_n 3, 1) := by decide +kernel
theorem dX4_digest_85 : decode cX4_digest 85 = .ok (.invokevirtual 291, 3) := by decide +kernel
theorem dX4_digest_88 : decode cX4_digest 88 = .ok (.lstore_n 1, 1) := by decide +kernel
theorem dX4_digest_89 : decode cX4_digest 89 = .ok (.iinc 3 1, 3) := by decide +kernel
theorem dX4_digest_92 : decode cX4_digest 92 = .ok (.goto (-18), 3) := by decide +kernel
theorem dX4_digest_95 : decode cX4_digest 95 = .ok (.iconst 0, 1) := by decide +kernel
theorem dX4_digest_96 : decode cX4_digest 96 = .ok (.istore_n 3, 1) := by decide +kernel
theorem dX4_digest_97 : decode cX4_digest 97 = .ok (.iload_n 3, 1) := by decide +kernel
theorem dX4_digest_98 : decode cX4_digest 98 = .ok (.aload_n 0, 1) := by decide +kernel
theorem dX4_digest_99 : decode cX4_digest 99 = .ok (.getfield 24, 3) := by decide +kernel
theorem dX4_digest_102 : decode cX4_digest 102 = .ok (.getfield 245, 3) := by decide +kernel
theorem dX4_digest_105 : decode cX4_digest 105 = .ok (.if_icmp .ge 36, 3) := by decide +kernel
theorem dX4_digest_108 : decode cX4_digest 108 = .ok (.iconst 0, 1) := by decide +kernel
theorem dX4_digest_109 : decode cX4_digest 109 = .ok (.istore 4, 2) := by decide +kernel
theorem dX4_digest_111 : decode cX4_digest 111 = .ok (.iload 4, 2) := by decide +kernel
theorem dX4_digest_113 : decode cX4_digest 113 = .ok (.iconst 4, 1) := by decide +kernel
theorem dX4_digest_114 : decode cX4_digest 114 = .ok (.if_icmp .ge 21, 3) := by decide +kernel
theorem dX4_digest_117 : decode cX4_digest 117 = .ok (.lload_n 1, 1) := by decide +kernel
theorem dX4_digest_118 : decode cX4_digest 118 = .ok (.aload_n 0, 1) := by decide +kernel
theorem dX4_digest_119 : decode cX4_digest 119 = .ok (.iload_n 3, 1) := by decide +kernel
theorem dX4_digest_120 : decode cX4_digest 120 = .ok (.iload 4, 2) := by decide +kernel
theorem dX4_digest_122 : decode cX4_digest 122 = .ok (.invokevirtual 294, 3) := by decide +kernel
theorem dX4_digest_125 : decode cX4_digest 125 = .ok (.invokestatic 285, 3) := by decide +kernel
theorem dX4_digest_128 : decode cX4_digest 128 = .ok (.lstore_n 1, 1) := by decide +kernel
theorem dX4_digest_129 : decode cX4_digest 129 = .ok (.iinc 4 1, 3) := by decide +kernel
theorem dX4_digest_132 : decode cX4_digest 132 = .ok (.goto (-21), 3) := by decide +kernel
theorem dX4_digest_135 : decode cX4_digest 135 = .ok (.iinc 3 1, 3) := by decide +kernel
theorem dX4_digest_138 : decode cX4_digest 138 = .ok (.goto (-41), 3) := by decide +kernel
theorem dX4_digest_141 : decode cX4_digest 141 = .ok (.lload_n 1, 1) := by decide +kernel
theorem dX4_digest_142 : decode cX4_digest 142 = .ok (.lreturn, 1) := by decide +kernel
theorem dX4_goOneTick_0 : decode cX4_goOneTick 0 = .ok (.aload_n 0, 1) := by decide +kernel
theorem dX4_goOneTick_1 : decode cX4_goOneTick 1 = .ok (.dup, 1) := by decide +kernel
theorem dX4_goOneTick_2 : decode cX4_goOneTick 2 = .ok (.getfield 234, 3) := by decide +kernel
theorem dX4_goOneTick_5 : decode cX4_goOneTick 5 = .ok (.iconst 1, 1) := by decide +kernel
theorem dX4_goOneTick_6 : decode cX4_goOneTick 6 = .ok (.iadd, 1) := by decide +kernel
theorem dX4_goOneTick_7 : decode cX4_goOneTick 7 = .ok (.putfield 234, 3) := by decide +kernel
theorem dX4_goOneTick_10 : decode cX4_goOneTick 10 = .ok (.aload_n 0, 1) := by decide +kernel
theorem dX4_goOneTick_11 : decode cX4_goOneTick 11 = .ok (.invokevirtual 297, 3) := by decide +kernel
theorem dX4_goOneTick_14 : decode cX4_goOneTick 14 = .ok (.iconst 0, 1) := by decide +kernel
theorem dX4_goOneTick_15 : decode cX4_goOneTick 15 = .ok (.istore_n 1, 1) := by decide +kernel
theorem dX4_goOneTick_16 : decode cX4_goOneTick 16 = .ok (.iconst 0, 1) := by decide +kernel
theorem dX4_goOneTick_17 : decode cX4_goOneTick 17 = .ok (.istore_n 2, 1) := by decide +kernel
theorem dX4_goOneTick_18 : decode cX4_goOneTick 18 = .ok (.iload_n 2, 1) := by decide +kernel
theorem dX4_goOneTick_19 : decode cX4_goOneTick 19 = .ok (.aload_n 0, 1) := by decide +kernel
theorem dX4_goOneTick_20 : decode cX4_goOneTick 20 = .ok (.getfield 11, 3) := by decide +kernel
theorem dX4_goOneTick_23 : decode cX4_goOneTick 23 = .ok (.arraylength, 1) := by decide +kernel
theorem dX4_goOneTick_24 : decode cX4_goOneTick 24 = .ok (.if_icmp .ge 29, 3) := by decide +kernel
theorem dX4_goOneTick_27 : decode cX4_goOneTick 27 = .ok (.aload_n 0, 1) := by decide +kernel
theorem dX4_goOneTick_28 : decode cX4_goOneTick 28 = .ok (.getfield 11, 3) := by decide +kernel
theorem dX4_goOneTick_31 : decode cX4_goOneTick 31 = .ok (.iload_n 2, 1) := by decide +kernel
theorem dX4_goOneTick_32 : decode cX4_goOneTick 32 = .ok (.aaload, 1) := by decide +kernel
theorem dX4_goOneTick_33 : decode cX4_goOneTick 33 = .ok (.astore_n 3, 1) := by decide +kernel
theorem dX4_goOneTick_34 : decode cX4_goOneTick 34 = .ok (.aload_n 3, 1) := by decide +kernel
theorem dX4_goOneTick_35 : decode cX4_goOneTick 35 = .ok (.ifnull 12, 3) := by decide +kernel
theorem dX4_goOneTick_38 : decode cX4_goOneTick 38 = .ok (.iload_n 1, 1) := by decide +kernel
theorem dX4_goOneTick_39 : decode cX4_goOneTick 39 = .ok (.aload_n 0, 1) := by decide +kernel
theorem dX4_goOneTick_40 : decode cX4_goOneTick 40 = .ok (.iload_n 2, 1) := by decide +kernel
theorem dX4_goOneTick_41 : decode cX4_goOneTick 41 = .ok (.aload_n 3, 1) := by decide +kernel
theorem dX4_goOneTick_42 : decode cX4_goOneTick 42 = .ok (.invokevirtual 300, 3) := by decide +kernel
theorem dX4_goOneTick_45 : decode cX4_goOneTick 45 = .ok (.iadd, 1) := by decide +kernel
theorem dX4_goOneTick_46 : decode cX4_goOneTick 46 = .ok (.istore_n 1, 1) := by decide +kernel
theorem dX4_goOneTick_47 : decode cX4_goOneTick 47 = .ok (.iinc 2 1, 3) := by decide +kernel
theorem dX4_goOneTick_50 : decode cX4_goOneTick 50 = .ok (.goto (-32), 3) := by decide +kernel
theorem dX4_goOneTick_53 : decode cX4_goOneTick 53 = .ok (.iload_n 1, 1) := by decide +kernel
theorem dX4_goOneTick_54 : decode cX4_goOneTick 54 = .ok (.ireturn, 1) := by decide +kernel
theorem dX4_shareBetweenCoupled_0 : decode cX4_shareBetweenCoupled 0 = .ok (.iconst 0, 1) := by decide +kernel
theorem dX4_shareBetweenCoupled_1 : decode cX4_shareBetweenCoupled 1 = .ok (.istore_n 1, 1) := by decide +kernel
theorem dX4_shareBetweenCoupled_2 : decode cX4_shareBetweenCoupled 2 = .ok (.iload_n 1, 1) := by decide +kernel
theorem dX4_shareBetweenCoupled_3 : decode cX4_shareBetweenCoupled 3 = .ok (.aload_n 0, 1) := by decide +kernel
theorem dX4_shareBetweenCoupled_4 : decode cX4_shareBetweenCoupled 4 = .ok (.getfield 11, 3) := by decide +kernel
theorem dX4_shareBetweenCoupled_7 : decode cX4_shareBetweenCoupled 7 = .ok (.arraylength, 1) := by decide +kernel
theorem dX4_shareBetweenCoupled_8 : decode cX4_shareBetweenCoupled 8 = .ok (.if_icmp .ge 54, 3) := by decide +kernel
theorem dX4_shareBetweenCoupled_11 : decode cX4_shareBetweenCoupled 11 = .ok (.iload_n 1, 1) := by decide +kernel
theorem dX4_shareBetweenCoupled_12 : decode cX4_shareBetweenCoupled 12 = .ok (.iconst 1, 1) := by decide +kernel
theorem dX4_shareBetweenCoupled_13 : decode cX4_shareBetweenCoupled 13 = .ok (.iadd, 1) := by decide +kernel
theorem dX4_shareBetweenCoupled_14 : decode cX4_shareBetweenCoupled 14 = .ok (.istore_n 2, 1) := by decide +kernel
theorem dX4_shareBetweenCoupled_15 : decode cX4_shareBetweenCoupled 15 = .ok (.iload_n 2, 1) := by decide +kernel
theorem dX4_shareBetweenCoupled_16 : decode cX4_shareBetweenCoupled 16 = .ok (.aload_n 0, 1) := by decide +kernel
theorem dX4_shareBetweenCoupled_17 : decode cX4_shareBetweenCoupled 17 = .ok (.getfield 11, 3) := by decide +kernel
theorem dX4_shareBetweenCoupled_20 : decode cX4_shareBetweenCoupled 20 = .ok (.arraylength, 1) := by decide +kernel
theorem dX4_shareBetweenCoupled_21 : decode cX4_shareBetweenCoupled 21 = .ok (.if_icmp .ge 35, 3) := by decide +kernel
theorem dX4_shareBetweenCoupled_24 : decode cX4_shareBetweenCoupled 24 = .ok (.aload_n 0, 1) := by decide +kernel
theorem dX4_shareBetweenCoupled_25 : decode cX4_shareBetweenCoupled 25 = .ok (.getfield 81, 3) := by decide +kernel
theorem dX4_shareBetweenCoupled_28 : decode cX4_shareBetweenCoupled 28 = .ok (.iload_n 1, 1) := by decide +kernel
theorem dX4_shareBetweenCoupled_29 : decode cX4_shareBetweenCoupled 29 = .ok (.iload_n 2, 1) := by decide +kernel
theorem dX4_shareBetweenCoupled_30 : decode cX4_shareBetweenCoupled 30 = .ok (.invokestatic 78, 3) := by decide +kernel
theorem dX4_shareBetweenCoupled_33 : decode cX4_shareBetweenCoupled 33 = .ok (.iand, 1) := by decide +kernel
theorem dX4_shareBetweenCoupled_34 : decode cX4_shareBetweenCoupled 34 = .ok (.ifCond .eq 16, 3) := by decide +kernel
theorem dX4_shareBetweenCoupled_37 : decode cX4_shareBetweenCoupled 37 = .ok (.aload_n 0, 1) := by decide +kernel
theorem dX4_shareBetweenCoupled_38 : decode cX4_shareBetweenCoupled 38 = .ok (.iload_n 1, 1) := by decide +kernel
theorem dX4_shareBetweenCoupled_39 : decode cX4_shareBetweenCoupled 39 = .ok (.invokevirtual 51, 3) := by decide +kernel
theorem dX4_shareBetweenCoupled_42 : decode cX4_shareBetweenCoupled 42 = .ok (.aload_n 0, 1) := by decide +kernel
theorem dX4_shareBetweenCoupled_43 : decode cX4_shareBetweenCoupled 43 = .ok (.iload_n 2, 1) := by decide +kernel
theorem dX4_shareBetweenCoupled_44 : decode cX4_shareBetweenCoupled 44 = .ok (.invokevirtual 51, 3) := by decide +kernel
theorem dX4_shareBetweenCoupled_47 : decode cX4_shareBetweenCoupled 47 = .ok (.invokestatic 304, 3) := by decide +kernel
theorem dX4_shareBetweenCoupled_50 : decode cX4_shareBetweenCoupled 50 = .ok (.iinc 2 1, 3) := by decide +kernel
theorem dX4_shareBetweenCoupled_53 : decode cX4_shareBetweenCoupled 53 = .ok (.goto (-38), 3) := by decide +kernel
theorem dX4_shareBetweenCoupled_56 : decode cX4_shareBetweenCoupled 56 = .ok (.iinc 1 1, 3) := by decide +kernel
theorem dX4_shareBetweenCoupled_59 : decode cX4_shareBetweenCoupled 59 = .ok (.goto (-57), 3) := by decide +kernel
theorem dX4_shareBetweenCoupled_62 : decode cX4_shareBetweenCoupled 62 = .ok (.return_, 1) := by decide +kernel
theorem dX4_shareBetween_0 : decode cX4_shareBetween 0 = .ok (.aload_n 0, 1) := by decide +kernel
theorem dX4_shareBetween_1 : decode cX4_shareBetween 1 = .ok (.ifnull 40, 3) := by decide +kernel
theorem dX4_shareBetween_4 : decode cX4_shareBetween 4 = .ok (.aload_n 1, 1) := by decide +kernel
theorem dX4_shareBetween_5 : decode cX4_shareBetween 5 = .ok (.ifnull 36, 3) := by decide +kernel
theorem dX4_shareBetween_8 : decode cX4_shareBetween 8 = .ok (.aload_n 0, 1) := by decide +kernel
theorem dX4_shareBetween_9 : decode cX4_shareBetween 9 = .ok (.getfield 63, 3) := by decide +kernel
theorem dX4_shareBetween_12 : decode cX4_shareBetween 12 = .ok (.aload_n 1, 1) := by decide +kernel
theorem dX4_shareBetween_13 : decode cX4_shareBetween 13 = .ok (.getfield 63, 3) := by decide +kernel
theorem dX4_shareBetween_16 : decode cX4_shareBetween 16 = .ok (.isub, 1) := by decide +kernel
theorem dX4_shareBetween_17 : decode cX4_shareBetween 17 = .ok (.bipush 10, 2) := by decide +kernel
theorem dX4_shareBetween_19 : decode cX4_shareBetween 19 = .ok (.idiv, 1) := by decide +kernel
theorem dX4_shareBetween_20 : decode cX4_shareBetween 20 = .ok (.istore_n 2, 1) := by decide +kernel
theorem dX4_shareBetween_21 : decode cX4_shareBetween 21 = .ok (.aload_n 0, 1) := by decide +kernel
theorem dX4_shareBetween_22 : decode cX4_shareBetween 22 = .ok (.dup, 1) := by decide +kernel
theorem dX4_shareBetween_23 : decode cX4_shareBetween 23 = .ok (.getfield 63, 3) := by decide +kernel
theorem dX4_shareBetween_26 : decode cX4_shareBetween 26 = .ok (.iload_n 2, 1) := by decide +kernel
theorem dX4_shareBetween_27 : decode cX4_shareBetween 27 = .ok (.isub, 1) := by decide +kernel
theorem dX4_shareBetween_28 : decode cX4_shareBetween 28 = .ok (.putfield 63, 3) := by decide +kernel
theorem dX4_shareBetween_31 : decode cX4_shareBetween 31 = .ok (.aload_n 1, 1) := by decide +kernel
theorem dX4_shareBetween_32 : decode cX4_shareBetween 32 = .ok (.dup, 1) := by decide +kernel
theorem dX4_shareBetween_33 : decode cX4_shareBetween 33 = .ok (.getfield 63, 3) := by decide +kernel
theorem dX4_shareBetween_36 : decode cX4_shareBetween 36 = .ok (.iload_n 2, 1) := by decide +kernel
theorem dX4_shareBetween_37 : decode cX4_shareBetween 37 = .ok (.iadd, 1) := by decide +kernel
theorem dX4_shareBetween_38 : decode cX4_shareBetween 38 = .ok (.putfield 63, 3) := by decide +kernel
theorem dX4_shareBetween_41 : decode cX4_shareBetween 41 = .ok (.return_, 1) := by decide +kernel
theorem dX4_goShaft_0 : decode cX4_goShaft 0 = .ok (.aload_n 2, 1) := by decide +kernel
theorem dX4_goShaft_1 : decode cX4_goShaft 1 = .ok (.getfield 72, 3) := by decide +kernel
theorem dX4_goShaft_4 : decode cX4_goShaft 4 = .ok (.ifCond .ne 10, 3) := by decide +kernel
theorem dX4_goShaft_7 : decode cX4_goShaft 7 = .ok (.aload_n 2, 1) := by decide +kernel
theorem dX4_goShaft_8 : decode cX4_goShaft 8 = .ok (.getfield 63, 3) := by decide +kernel
theorem dX4_goShaft_11 : decode cX4_goShaft 11 = .ok (.ifCond .gt 10, 3) := by decide +kernel
theorem dX4_goShaft_14 : decode cX4_goShaft 14 = .ok (.aload_n 2, 1) := by decide +kernel
theorem dX4_goShaft_15 : decode cX4_goShaft 15 = .ok (.iconst 0, 1) := by decide +kernel
theorem dX4_goShaft_16 : decode cX4_goShaft 16 = .ok (.putfield 97, 3) := by decide +kernel
theorem dX4_goShaft_19 : decode cX4_goShaft 19 = .ok (.iconst 0, 1) := by decide +kernel
theorem dX4_goShaft_20 : decode cX4_goShaft 20 = .ok (.ireturn, 1) := by decide +kernel
theorem dX4_goShaft_21 : decode cX4_goShaft 21 = .ok (.aload_n 2, 1) := by decide +kernel
theorem dX4_goShaft_22 : decode cX4_goShaft 22 = .ok (.aload_n 2, 1) := by decide +kernel
theorem dX4_goShaft_23 : decode cX4_goShaft 23 = .ok (.aload_n 0, 1) := by decide +kernel
theorem dX4_goShaft_24 : decode cX4_goShaft 24 = .ok (.iload_n 1, 1) := by decide +kernel
theorem dX4_goShaft_25 : decode cX4_goShaft 25 = .ok (.invokevirtual 103, 3) := by decide +kernel
theorem dX4_goShaft_28 : decode cX4_goShaft 28 = .ok (.invokevirtual 308, 3) := by decide +kernel
theorem dX4_goShaft_31 : decode cX4_goShaft 31 = .ok (.invokevirtual 311, 3) := by decide +kernel
theorem dX4_goShaft_34 : decode cX4_goShaft 34 = .ok (.iconst 0, 1) := by decide +kernel
theorem dX4_goShaft_35 : decode cX4_goShaft 35 = .ok (.istore_n 3, 1) := by decide +kernel
theorem dX4_goShaft_36 : decode cX4_goShaft 36 = .ok (.iconst 0, 1) := by decide +kernel
theorem dX4_goShaft_37 : decode cX4_goShaft 37 = .ok (.istore 4, 2) := by decide +kernel
theorem dX4_goShaft_39 : decode cX4_goShaft 39 = .ok (.iload 4, 2) := by decide +kernel
theorem dX4_goShaft_41 : decode cX4_goShaft 41 = .ok (.aload_n 0, 1) := by decide +kernel
theorem dX4_goShaft_42 : decode cX4_goShaft 42 = .ok (.getfield 17, 3) := by decide +kernel
theorem dX4_goShaft_45 : decode cX4_goShaft 45 = .ok (.arraylength, 1) := by decide +kernel
theorem dX4_goShaft_46 : decode cX4_goShaft 46 = .ok (.if_icmp .ge 44, 3) := by decide +kernel
theorem dX4_goShaft_49 : decode cX4_goShaft 49 = .ok (.aload_n 0, 1) := by decide +kernel
theorem dX4_goShaft_50 : decode cX4_goShaft 50 = .ok (.getfield 17, 3) := by decide +kernel
theorem dX4_goShaft_53 : decode cX4_goShaft 53 = .ok (.iload 4, 2) := by decide +kernel
theorem dX4_goShaft_55 : decode cX4_goShaft 55 = .ok (.aaload, 1) := by decide +kernel
theorem dX4_goShaft_56 : decode cX4_goShaft 56 = .ok (.astore 5, 2) := by decide +kernel
theorem dX4_goShaft_58 : decode cX4_goShaft 58 = .ok (.aload 5, 2) := by decide +kernel
theorem dX4_goShaft_60 : decode cX4_goShaft 60 = .ok (.ifnull 24, 3) := by decide +kernel
theorem dX4_goShaft_63 : decode cX4_goShaft 63 = .ok (.aload 5, 2) := by decide +kernel
theorem dX4_goShaft_65 : decode cX4_goShaft 65 = .ok (.iload_n 1, 1) := by decide +kernel
theorem dX4_goShaft_66 : decode cX4_goShaft 66 = .ok (.invokevirtual 314, 3) := by decide +kernel
theorem dX4_goShaft_69 : decode cX4_goShaft 69 = .ok (.ifCond .eq 15, 3) := by decide +kernel
theorem dX4_goShaft_72 : decode cX4_goShaft 72 = .ok (.iload_n 3, 1) := by decide +kernel
theorem dX4_goShaft_73 : decode cX4_goShaft 73 = .ok (.aload_n 0, 1) := by decide +kernel
theorem dX4_goShaft_74 : decode cX4_goShaft 74 = .ok (.iload 4, 2) := by decide +kernel
theorem dX4_goShaft_76 : decode cX4_goShaft 76 = .ok (.aload 5, 2) := by decide +kernel
theorem dX4_goShaft_78 : decode cX4_goShaft 78 = .ok (.aload_n 2, 1) := by decide +kernel
theorem dX4_goShaft_79 : decode cX4_goShaft 79 = .ok (.invokevirtual 317, 3) := by decide +kernel
theorem dX4_goShaft_82 : decode cX4_goShaft 82 = .ok (.iadd, 1) := by decide +kernel
theorem dX4_goShaft_83 : decode cX4_goShaft 83 = .ok (.istore_n 3, 1) := by decide +kernel
theorem dX4_goShaft_84 : decode cX4_goShaft 84 = .ok (.iinc 4 1, 3) := by decide +kernel
theorem dX4_goShaft_87 : decode cX4_goShaft 87 = .ok (.goto (-48), 3) := by decide +kernel
theorem dX4_goShaft_90 : decode cX4_goShaft 90 = .ok (.iload_n 3, 1) := by decide +kernel
theorem dX4_goShaft_91 : decode cX4_goShaft 91 = .ok (.ireturn, 1) := by decide +kernel
theorem dX4_goBarrel_0 : decode cX4_goBarrel 0 = .ok (.aload_n 2, 1) := by decide +kernel
theorem dX4_goBarrel_1 : decode cX4_goBarrel 1 = .ok (.getfield 216, 3) := by decide +kernel
theorem dX4_goBarrel_4 : decode cX4_goBarrel 4 = .ok (.lstore 4, 2) := by decide +kernel
theorem dX4_goBarrel_6 : decode cX4_goBarrel 6 = .ok (.aload_n 2, 1) := by decide +kernel
theorem dX4_goBarrel_7 : decode cX4_goBarrel 7 = .ok (.aload_n 2, 1) := by decide +kernel
theorem dX4_goBarrel_8 : decode cX4_goBarrel 8 = .ok (.aload_n 3, 1) := by decide +kernel
theorem dX4_goBarrel_9 : decode cX4_goBarrel 9 = .ok (.getfield 93, 3) := by decide +kernel
theorem dX4_goBarrel_12 : decode cX4_goBarrel 12 = .ok (.invokevirtual 321, 3) := by decide +kernel
theorem dX4_goBarrel_15 : decode cX4_goBarrel 15 = .ok (.putfield 216, 3) := by decide +kernel
theorem dX4_goBarrel_18 : decode cX4_goBarrel 18 = .ok (.iconst 0, 1) := by decide +kernel
theorem dX4_goBarrel_19 : decode cX4_goBarrel 19 = .ok (.istore 6, 2) := by decide +kernel
theorem dX4_goBarrel_21 : decode cX4_goBarrel 21 = .ok (.aload_n 2, 1) := by decide +kernel
theorem dX4_goBarrel_22 : decode cX4_goBarrel 22 = .ok (.getfield 216, 3) := by decide +kernel
theorem dX4_goBarrel_25 : decode cX4_goBarrel 25 = .ok (.lload 4, 2) := by decide +kernel
theorem dX4_goBarrel_27 : decode cX4_goBarrel 27 = .ok (.lsub, 1) := by decide +kernel
theorem dX4_goBarrel_28 : decode cX4_goBarrel 28 = .ok (.aload_n 2, 1) := by decide +kernel
theorem dX4_goBarrel_29 : decode cX4_goBarrel 29 = .ok (.getfield 193, 3) := by decide +kernel
theorem dX4_goBarrel_32 : decode cX4_goBarrel 32 = .ok (.i2l, 1) := by decide +kernel
theorem dX4_goBarrel_33 : decode cX4_goBarrel 33 = .ok (.invokestatic 325, 3) := by decide +kernel
theorem dX4_goBarrel_36 : decode cX4_goBarrel 36 = .ok (.lstore 7, 2) := by decide +kernel
theorem dX4_goBarrel_38 : decode cX4_goBarrel 38 = .ok (.lload 7, 2) := by decide +kernel
theorem dX4_goBarrel_40 : decode cX4_goBarrel 40 = .ok (.lconst 0, 1) := by decide +kernel
theorem dX4_goBarrel_41 : decode cX4_goBarrel 41 = .ok (.lcmp, 1) := by decide +kernel
theorem dX4_goBarrel_42 : decode cX4_goBarrel 42 = .ok (.ifCond .le 53, 3) := by decide +kernel
theorem dX4_goBarrel_45 : decode cX4_goBarrel 45 = .ok (.aload_n 2, 1) := by decide +kernel
theorem dX4_goBarrel_46 : decode cX4_goBarrel 46 = .ok (.aload_n 2, 1) := by decide +kernel
theorem dX4_goBarrel_47 : decode cX4_goBarrel 47 = .ok (.getfield 216, 3) := by decide +kernel
theorem dX4_goBarrel_50 : decode cX4_goBarrel 50 = .ok (.lload 7, 2) := by decide +kernel
theorem dX4_goBarrel_52 : decode cX4_goBarrel 52 = .ok (.lsub, 1) := by decide +kernel
theorem dX4_goBarrel_53 : decode cX4_goBarrel 53 = .ok (.lconst 1, 1) := by decide +kernel
theorem dX4_goBarrel_54 : decode cX4_goBarrel 54 = .ok (.ladd, 1) := by decide +kernel
theorem dX4_goBarrel_55 : decode cX4_goBarrel 55 = .ok (.invokevirtual 328, 3) := by decide +kernel
theorem dX4_goBarrel_58 : decode cX4_goBarrel 58 = .ok (.istore 9, 2) := by decide +kernel
theorem dX4_goBarrel_60 : decode cX4_goBarrel 60 = .ok (.aload_n 2, 1) := by decide +kernel
theorem dX4_goBarrel_61 : decode cX4_goBarrel 61 = .ok (.getfield 331, 3) := by decide +kernel
theorem dX4_goBarrel_64 : decode cX4_goBarrel 64 = .ok (.iload 9, 2) := by decide +kernel
theorem dX4_goBarrel_66 : decode cX4_goBarrel 66 = .ok (.invokestatic 165, 3) := by decide +kernel
theorem dX4_goBarrel_69 : decode cX4_goBarrel 69 = .ok (.ifCond .eq 17, 3) := by decide +kernel
theorem dX4_goBarrel_72 : decode cX4_goBarrel 72 = .ok (.iload 6, 2) := by decide +kernel
theorem dX4_goBarrel_74 : decode cX4_goBarrel 74 = .ok (.aload_n 0, 1) := by decide +kernel
theorem dX4_goBarrel_75 : decode cX4_goBarrel 75 = .ok (.iload_n 1, 1) := by decide +kernel
theorem dX4_goBarrel_76 : decode cX4_goBarrel 76 = .ok (.aload_n 2, 1) := by decide +kernel
theorem dX4_goBarrel_77 : decode cX4_goBarrel 77 = .ok (.aload_n 3, 1) := by decide +kernel
theorem dX4_goBarrel_78 : decode cX4_goBarrel 78 = .ok (.iload 9, 2) := by decide +kernel
theorem dX4_goBarrel_80 : decode cX4_goBarrel 80 = .ok (.invokevirtual 334, 3) := by decide +kernel
theorem dX4_goBarrel_83 : decode cX4_goBarrel 83 = .ok (.iadd, 1) := by decide +kernel
theorem dX4_goBarrel_84 : decode cX4_goBarrel 84 = .ok (.istore 6, 2) := by decide +kernel
theorem dX4_goBarrel_86 : decode cX4_goBarrel 86 = .ok (.lload 7, 2) := by decide +kernel
theorem dX4_goBarrel_88 : decode cX4_goBarrel 88 = .ok (.lconst 1, 1) := by decide +kernel
theorem dX4_goBarrel_89 : decode cX4_goBarrel 89 = .ok (.lsub, 1) := by decide +kernel
theorem dX4_goBarrel_90 : decode cX4_goBarrel 90 = .ok (.lstore 7, 2) := by decide +kernel
theorem dX4_goBarrel_92 : decode cX4_goBarrel 92 = .ok (.goto (-54), 3) := by decide +kernel
theorem dX4_goBarrel_95 : decode cX4_goBarrel 95 = .ok (.iload 6, 2) := by decide +kernel
theorem dX4_goBarrel_97 : decode cX4_goBarrel 97 = .ok (.ireturn, 1) := by decide +kernel
theorem dX4_soundPlace_0 : decode cX4_soundPlace 0 = .ok (.iconst 0, 1) := by decide +kernel
theorem dX4_soundPlace_1 : decode cX4_soundPlace 1 = .ok (.istore 5, 2) := by decide +kernel
theorem dX4_soundPlace_3 : decode cX4_soundPlace 3 = .ok (.iconst 0, 1) := by decide +kernel
theorem dX4_soundPlace_4 : decode cX4_soundPlace 4 = .ok (.istore 6, 2) := by decide +kernel
theorem dX4_soundPlace_6 : decode cX4_soundPlace 6 = .ok (.iload 6, 2) := by decide +kernel
theorem dX4_soundPlace_8 : decode cX4_soundPlace 8 = .ok (.bipush 6, 2) := by decide +kernel
theorem dX4_soundPlace_10 : decode cX4_soundPlace 10 = .ok (.if_icmp .ge 50, 3) := by decide +kernel
theorem dX4_soundPlace_13 : decode cX4_soundPlace 13 = .ok (.aload_n 2, 1) := by decide +kernel
theorem dX4_soundPlace_14 : decode cX4_soundPlace 14 = .ok (.iload 4, 2) := by decide +kernel
theorem dX4_soundPlace_16 : decode cX4_soundPlace 16 = .ok (.iload 6, 2) := by decide +kernel
theorem dX4_soundPlace_18 : decode cX4_soundPlace 18 = .ok (.invokevirtual 146, 3) := by decide +kernel
theorem dX4_soundPlace_21 : decode cX4_soundPlace 21 = .ok (.ifCond .eq 33, 3) := by decide +kernel
theorem dX4_soundPlace_24 : decode cX4_soundPlace 24 = .ok (.aload_n 3, 1) := by decide +kernel
theorem dX4_soundPlace_25 : decode cX4_soundPlace 25 = .ok (.invokevirtual 338, 3) := by decide +kernel
theorem dX4_soundPlace_28 : decode cX4_soundPlace 28 = .ok (.aload_n 0, 1) := by decide +kernel
theorem dX4_soundPlace_29 : decode cX4_soundPlace 29 = .ok (.getfield 24, 3) := by decide +kernel
theorem dX4_soundPlace_32 : decode cX4_soundPlace 32 = .ok (.aload_n 0, 1) := by decide +kernel
theorem dX4_soundPlace_33 : decode cX4_soundPlace 33 = .ok (.getfield 234, 3) := by decide +kernel
theorem dX4_soundPlace_36 : decode cX4_soundPlace 36 = .ok (.iload_n 1, 1) := by decide +kernel
theorem dX4_soundPlace_37 : decode cX4_soundPlace 37 = .ok (.iload 6, 2) := by decide +kernel
theorem dX4_soundPlace_39 : decode cX4_soundPlace 39 = .ok (.aload_n 2, 1) := by decide +kernel
theorem dX4_soundPlace_40 : decode cX4_soundPlace 40 = .ok (.getfield 161, 3) := by decide +kernel
theorem dX4_soundPlace_43 : decode cX4_soundPlace 43 = .ok (.iload 6, 2) := by decide +kernel
theorem dX4_soundPlace_45 : decode cX4_soundPlace 45 = .ok (.invokestatic 165, 3) := by decide +kernel
theorem dX4_soundPlace_48 : decode cX4_soundPlace 48 = .ok (.invokevirtual 341, 3) := by decide +kernel
theorem dX4_soundPlace_51 : decode cX4_soundPlace 51 = .ok (.iinc 5 1, 3) := by decide +kernel
theorem dX4_soundPlace_54 : decode cX4_soundPlace 54 = .ok (.iinc 6 1, 3) := by decide +kernel
theorem dX4_soundPlace_57 : decode cX4_soundPlace 57 = .ok (.goto (-51), 3) := by decide +kernel
theorem dX4_soundPlace_60 : decode cX4_soundPlace 60 = .ok (.aload_n 2, 1) := by decide +kernel
theorem dX4_soundPlace_61 : decode cX4_soundPlace 61 = .ok (.dup, 1) := by decide +kernel
theorem dX4_soundPlace_62 : decode cX4_soundPlace 62 = .ok (.getfield 219, 3) := by decide +kernel
theorem dX4_soundPlace_65 : decode cX4_soundPlace 65 = .ok (.iload 5, 2) := by decide +kernel
theorem dX4_soundPlace_67 : decode cX4_soundPlace 67 = .ok (.iadd, 1) := by decide +kernel
theorem dX4_soundPlace_68 : decode cX4_soundPlace 68 = .ok (.putfield 219, 3) := by decide +kernel
theorem dX4_soundPlace_71 : decode cX4_soundPlace 71 = .ok (.iload 5, 2) := by decide +kernel
theorem dX4_soundPlace_73 : decode cX4_soundPlace 73 = .ok (.ireturn, 1) := by decide +kernel
theorem dX4_springAt_0 : decode cX4_springAt 0 = .ok (.iload_n 1, 1) := by decide +kernel
theorem dX4_springAt_1 : decode cX4_springAt 1 = .ok (.ifCond .lt 21, 3) := by decide +kernel
theorem dX4_springAt_4 : decode cX4_springAt 4 = .ok (.iload_n 1, 1) := by decide +kernel
theorem dX4_springAt_5 : decode cX4_springAt 5 = .ok (.aload_n 0, 1) := by decide +kernel
theorem dX4_springAt_6 : decode cX4_springAt 6 = .ok (.getfield 11, 3) := by decide +kernel
theorem dX4_springAt_9 : decode cX4_springAt 9 = .ok (.arraylength, 1) := by decide +kernel
theorem dX4_springAt_10 : decode cX4_springAt 10 = .ok (.if_icmp .ge 12, 3) := by decide +kernel
theorem dX4_springAt_13 : decode cX4_springAt 13 = .ok (.aload_n 0, 1) := by decide +kernel
theorem dX4_springAt_14 : decode cX4_springAt 14 = .ok (.getfield 11, 3) := by decide +kernel
theorem dX4_springAt_17 : decode cX4_springAt 17 = .ok (.iload_n 1, 1) := by decide +kernel
theorem dX4_springAt_18 : decode cX4_springAt 18 = .ok (.aaload, 1) := by decide +kernel
theorem dX4_springAt_19 : decode cX4_springAt 19 = .ok (.goto 4, 3) := by decide +kernel
theorem dX4_springAt_22 : decode cX4_springAt 22 = .ok (.aconst_null, 1) := by decide +kernel
theorem dX4_springAt_23 : decode cX4_springAt 23 = .ok (.areturn, 1) := by decide +kernel
theorem dX4_birdAt_0 : decode cX4_birdAt 0 = .ok (.iload_n 1, 1) := by decide +kernel
theorem dX4_birdAt_1 : decode cX4_birdAt 1 = .ok (.ifCond .lt 21, 3) := by decide +kernel
theorem dX4_birdAt_4 : decode cX4_birdAt 4 = .ok (.iload_n 1, 1) := by decide +kernel
theorem dX4_birdAt_5 : decode cX4_birdAt 5 = .ok (.aload_n 0, 1) := by decide +kernel
theorem dX4_birdAt_6 : decode cX4_birdAt 6 = .ok (.getfield 17, 3) := by decide +kernel
theorem dX4_birdAt_9 : decode cX4_birdAt 9 = .ok (.arraylength, 1) := by decide +kernel
theorem dX4_birdAt_10 : decode cX4_birdAt 10 = .ok (.if_icmp .ge 12, 3) := by decide +kernel
theorem dX4_birdAt_13 : decode cX4_birdAt 13 = .ok (.aload_n 0, 1) := by decide +kernel
theorem dX4_birdAt_14 : decode cX4_birdAt 14 = .ok (.getfield 17, 3) := by decide +kernel
theorem dX4_birdAt_17 : decode cX4_birdAt 17 = .ok (.iload_n 1, 1) := by decide +kernel
theorem dX4_birdAt_18 : decode cX4_birdAt 18 = .ok (.aaload, 1) := by decide +kernel
theorem dX4_birdAt_19 : decode cX4_birdAt 19 = .ok (.goto 4, 3) := by decide +kernel
theorem dX4_birdAt_22 : decode cX4_birdAt 22 = .ok (.aconst_null, 1) := by decide +kernel
theorem dX4_birdAt_23 : decode cX4_birdAt 23 = .ok (.areturn, 1) := by decide +kernel
theorem dX4_birdsDrivenBy_0 : decode cX4_birdsDrivenBy 0 = .ok (.iconst 0, 1) := by decide +kernel
theorem dX4_birdsDrivenBy_1 : decode cX4_birdsDrivenBy 1 = .ok (.istore_n 2, 1) := by decide +kernel
theorem dX4_birdsDrivenBy_2 : decode cX4_birdsDrivenBy 2 = .ok (.aload_n 0, 1) := by decide +kernel
theorem dX4_birdsDrivenBy_3 : decode cX4_birdsDrivenBy 3 = .ok (.getfield 17, 3) := by decide +kernel
theorem dX4_birdsDrivenBy_6 : decode cX4_birdsDrivenBy 6 = .ok (.astore_n 3, 1) := by decide +kernel
theorem dX4_birdsDrivenBy_7 : decode cX4_birdsDrivenBy 7 = .ok (.aload_n 3, 1) := by decide +kernel
theorem dX4_birdsDrivenBy_8 : decode cX4_birdsDrivenBy 8 = .ok (.arraylength, 1) := by decide +kernel
theorem dX4_birdsDrivenBy_9 : decode cX4_birdsDrivenBy 9 = .ok (.istore 4, 2) := by decide +kernel
theorem dX4_birdsDrivenBy_11 : decode cX4_birdsDrivenBy 11 = .ok (.iconst 0, 1) := by decide +kernel
theorem dX4_birdsDrivenBy_12 : decode cX4_birdsDrivenBy 12 = .ok (.istore 5, 2) := by decide +kernel
theorem dX4_birdsDrivenBy_14 : decode cX4_birdsDrivenBy 14 = .ok (.iload 5, 2) := by decide +kernel
theorem dX4_birdsDrivenBy_16 : decode cX4_birdsDrivenBy 16 = .ok (.iload 4, 2) := by decide +kernel
theorem dX4_birdsDrivenBy_18 : decode cX4_birdsDrivenBy 18 = .ok (.if_icmp .ge 32, 3) := by decide +kernel
theorem dX4_birdsDrivenBy_21 : decode cX4_birdsDrivenBy 21 = .ok (.aload_n 3, 1) := by decide +kernel
theorem dX4_birdsDrivenBy_22 : decode cX4_birdsDrivenBy 22 = .ok (.iload 5, 2) := by decide +kernel
theorem dX4_birdsDrivenBy_24 : decode cX4_birdsDrivenBy 24 = .ok (.aaload, 1) := by decide +kernel
theorem dX4_birdsDrivenBy_25 : decode cX4_birdsDrivenBy 25 = .ok (.astore 6, 2) := by decide +kernel
theorem dX4_birdsDrivenBy_27 : decode cX4_birdsDrivenBy 27 = .ok (.aload 6, 2) := by decide +kernel
theorem dX4_birdsDrivenBy_29 : decode cX4_birdsDrivenBy 29 = .ok (.ifnull 15, 3) := by decide +kernel
theorem dX4_birdsDrivenBy_32 : decode cX4_birdsDrivenBy 32 = .ok (.aload 6, 2) := by decide +kernel
theorem dX4_birdsDrivenBy_34 : decode cX4_birdsDrivenBy 34 = .ok (.iload_n 1, 1) := by decide +kernel
theorem dX4_birdsDrivenBy_35 : decode cX4_birdsDrivenBy 35 = .ok (.invokevirtual 314, 3) := by decide +kernel
theorem dX4_birdsDrivenBy_38 : decode cX4_birdsDrivenBy 38 = .ok (.ifCond .eq 6, 3) := by decide +kernel
theorem dX4_birdsDrivenBy_41 : decode cX4_birdsDrivenBy 41 = .ok (.iinc 2 1, 3) := by decide +kernel
theorem dX4_birdsDrivenBy_44 : decode cX4_birdsDrivenBy 44 = .ok (.iinc 5 1, 3) := by decide +kernel
theorem dX4_birdsDrivenBy_47 : decode cX4_birdsDrivenBy 47 = .ok (.goto (-33), 3) := by decide +kernel
theorem dX4_birdsDrivenBy_50 : decode cX4_birdsDrivenBy 50 = .ok (.iload_n 2, 1) := by decide +kernel
theorem dX4_birdsDrivenBy_51 : decode cX4_birdsDrivenBy 51 = .ok (.ireturn, 1) := by decide +kernel
theorem dX4_loadOn_0 : decode cX4_loadOn 0 = .ok (.bipush 10, 2) := by decide +kernel
theorem dX4_loadOn_2 : decode cX4_loadOn 2 = .ok (.istore_n 2, 1) := by decide +kernel
theorem dX4_loadOn_3 : decode cX4_loadOn 3 = .ok (.aload_n 0, 1) := by decide +kernel
theorem dX4_loadOn_4 : decode cX4_loadOn 4 = .ok (.getfield 17, 3) := by decide +kernel
theorem dX4_loadOn_7 : decode cX4_loadOn 7 = .ok (.astore_n 3, 1) := by decide +kernel
theorem dX4_loadOn_8 : decode cX4_loadOn 8 = .ok (.aload_n 3, 1) := by decide +kernel
theorem dX4_loadOn_9 : decode cX4_loadOn 9 = .ok (.arraylength, 1) := by decide +kernel
theorem dX4_loadOn_10 : decode cX4_loadOn 10 = .ok (.istore 4, 2) := by decide +kernel
theorem dX4_loadOn_12 : decode cX4_loadOn 12 = .ok (.iconst 0, 1) := by decide +kernel
theorem dX4_loadOn_13 : decode cX4_loadOn 13 = .ok (.istore 5, 2) := by decide +kernel
theorem dX4_loadOn_15 : decode cX4_loadOn 15 = .ok (.iload 5, 2) := by decide +kernel
theorem dX4_loadOn_17 : decode cX4_loadOn 17 = .ok (.iload 4, 2) := by decide +kernel
theorem dX4_loadOn_19 : decode cX4_loadOn 19 = .ok (.if_icmp .ge 37, 3) := by decide +kernel
theorem dX4_loadOn_22 : decode cX4_loadOn 22 = .ok (.aload_n 3, 1) := by decide +kernel
theorem dX4_loadOn_23 : decode cX4_loadOn 23 = .ok (.iload 5, 2) := by decide +kernel
theorem dX4_loadOn_25 : decode cX4_loadOn 25 = .ok (.aaload, 1) := by decide +kernel
theorem dX4_loadOn_26 : decode cX4_loadOn 26 = .ok (.astore 6, 2) := by decide +kernel
theorem dX4_loadOn_28 : decode cX4_loadOn 28 = .ok (.aload 6, 2) := by decide +kernel
theorem dX4_loadOn_30 : decode cX4_loadOn 30 = .ok (.ifnull 20, 3) := by decide +kernel
theorem dX4_loadOn_33 : decode cX4_loadOn 33 = .ok (.aload 6, 2) := by decide +kernel
theorem dX4_loadOn_35 : decode cX4_loadOn 35 = .ok (.iload_n 1, 1) := by decide +kernel
theorem dX4_loadOn_36 : decode cX4_loadOn 36 = .ok (.invokevirtual 314, 3) := by decide +kernel
theorem dX4_loadOn_39 : decode cX4_loadOn 39 = .ok (.ifCond .eq 11, 3) := by decide +kernel
theorem dX4_loadOn_42 : decode cX4_loadOn 42 = .ok (.iload_n 2, 1) := by decide +kernel
theorem dX4_loadOn_43 : decode cX4_loadOn 43 = .ok (.aload 6, 2) := by decide +kernel
theorem dX4_loadOn_45 : decode cX4_loadOn 45 = .ok (.invokevirtual 345, 3) := by decide +kernel
theorem dX4_loadOn_48 : decode cX4_loadOn 48 = .ok (.iadd, 1) := by decide +kernel
theorem dX4_loadOn_49 : decode cX4_loadOn 49 = .ok (.istore_n 2, 1) := by decide +kernel
theorem dX4_loadOn_50 : decode cX4_loadOn 50 = .ok (.iinc 5 1, 3) := by decide +kernel
theorem dX4_loadOn_53 : decode cX4_loadOn 53 = .ok (.goto (-38), 3) := by decide +kernel
theorem dX4_loadOn_56 : decode cX4_loadOn 56 = .ok (.iload_n 2, 1) := by decide +kernel
theorem dX4_loadOn_57 : decode cX4_loadOn 57 = .ok (.ireturn, 1) := by decide +kernel
theorem dX4_heldByAll_0 : decode cX4_heldByAll 0 = .ok (.iconst 0, 1) := by decide +kernel
theorem dX4_heldByAll_1 : decode cX4_heldByAll 1 = .ok (.istore_n 1, 1) := by decide +kernel
theorem dX4_heldByAll_2 : decode cX4_heldByAll 2 = .ok (.aload_n 0, 1) := by decide +kernel
theorem dX4_heldByAll_3 : decode cX4_heldByAll 3 = .ok (.getfield 11, 3) := by decide +kernel
theorem dX4_heldByAll_6 : decode cX4_heldByAll 6 = .ok (.astore_n 2, 1) := by decide +kernel
theorem dX4_heldByAll_7 : decode cX4_heldByAll 7 = .ok (.aload_n 2, 1) := by decide +kernel
theorem dX4_heldByAll_8 : decode cX4_heldByAll 8 = .ok (.arraylength, 1) := by decide +kernel
theorem dX4_heldByAll_9 : decode cX4_heldByAll 9 = .ok (.istore_n 3, 1) := by decide +kernel
theorem dX4_heldByAll_10 : decode cX4_heldByAll 10 = .ok (.iconst 0, 1) := by decide +kernel
theorem dX4_heldByAll_11 : decode cX4_heldByAll 11 = .ok (.istore 4, 2) := by decide +kernel
theorem dX4_heldByAll_13 : decode cX4_heldByAll 13 = .ok (.iload 4, 2) := by decide +kernel
theorem dX4_heldByAll_15 : decode cX4_heldByAll 15 = .ok (.iload_n 3, 1) := by decide +kernel
theorem dX4_heldByAll_16 : decode cX4_heldByAll 16 = .ok (.if_icmp .ge 28, 3) := by decide +kernel
theorem dX4_heldByAll_19 : decode cX4_heldByAll 19 = .ok (.aload_n 2, 1) := by decide +kernel
theorem dX4_heldByAll_20 : decode cX4_heldByAll 20 = .ok (.iload 4, 2) := by decide +kernel
theorem dX4_heldByAll_22 : decode cX4_heldByAll 22 = .ok (.aaload, 1) := by decide +kernel
theorem dX4_heldByAll_23 : decode cX4_heldByAll 23 = .ok (.astore 5, 2) := by decide +kernel
theorem dX4_heldByAll_25 : decode cX4_heldByAll 25 = .ok (.aload 5, 2) := by decide +kernel
theorem dX4_heldByAll_27 : decode cX4_heldByAll 27 = .ok (.ifnull 11, 3) := by decide +kernel
theorem dX4_heldByAll_30 : decode cX4_heldByAll 30 = .ok (.iload_n 1, 1) := by decide +kernel
theorem dX4_heldByAll_31 : decode cX4_heldByAll 31 = .ok (.aload 5, 2) := by decide +kernel
theorem dX4_heldByAll_33 : decode cX4_heldByAll 33 = .ok (.getfield 63, 3) := by decide +kernel
theorem dX4_heldByAll_36 : decode cX4_heldByAll 36 = .ok (.iadd, 1) := by decide +kernel
theorem dX4_heldByAll_37 : decode cX4_heldByAll 37 = .ok (.istore_n 1, 1) := by decide +kernel
theorem dX4_heldByAll_38 : decode cX4_heldByAll 38 = .ok (.iinc 4 1, 3) := by decide +kernel
theorem dX4_heldByAll_41 : decode cX4_heldByAll 41 = .ok (.goto (-28), 3) := by decide +kernel
theorem dX4_heldByAll_44 : decode cX4_heldByAll 44 = .ok (.iload_n 1, 1) := by decide +kernel
theorem dX4_heldByAll_45 : decode cX4_heldByAll 45 = .ok (.ireturn, 1) := by decide +kernel
theorem dX4_areAllDown_0 : decode cX4_areAllDown 0 = .ok (.aload_n 0, 1) := by decide +kernel
theorem dX4_areAllDown_1 : decode cX4_areAllDown 1 = .ok (.getfield 11, 3) := by decide +kernel
theorem dX4_areAllDown_4 : decode cX4_areAllDown 4 = .ok (.astore_n 1, 1) := by decide +kernel
theorem dX4_areAllDown_5 : decode cX4_areAllDown 5 = .ok (.aload_n 1, 1) := by decide +kernel
theorem dX4_areAllDown_6 : decode cX4_areAllDown 6 = .ok (.arraylength, 1) := by decide +kernel
theorem dX4_areAllDown_7 : decode cX4_areAllDown 7 = .ok (.istore_n 2, 1) := by decide +kernel
theorem dX4_areAllDown_8 : decode cX4_areAllDown 8 = .ok (.iconst 0, 1) := by decide +kernel
theorem dX4_areAllDown_9 : decode cX4_areAllDown 9 = .ok (.istore_n 3, 1) := by decide +kernel
theorem dX4_areAllDown_10 : decode cX4_areAllDown 10 = .ok (.iload_n 3, 1) := by decide +kernel
theorem dX4_areAllDown_11 : decode cX4_areAllDown 11 = .ok (.iload_n 2, 1) := by decide +kernel
theorem dX4_areAllDown_12 : decode cX4_areAllDown 12 = .ok (.if_icmp .ge 37, 3) := by decide +kernel
theorem dX4_areAllDown_15 : decode cX4_areAllDown 15 = .ok (.aload_n 1, 1) := by decide +kernel
theorem dX4_areAllDown_16 : decode cX4_areAllDown 16 = .ok (.iload_n 3, 1) := by decide +kernel
theorem dX4_areAllDown_17 : decode cX4_areAllDown 17 = .ok (.aaload, 1) := by decide +kernel
theorem dX4_areAllDown_18 : decode cX4_areAllDown 18 = .ok (.astore 4, 2) := by decide +kernel
theorem dX4_areAllDown_20 : decode cX4_areAllDown 20 = .ok (.aload 4, 2) := by decide +kernel
theorem dX4_areAllDown_22 : decode cX4_areAllDown 22 = .ok (.ifnull 21, 3) := by decide +kernel
theorem dX4_areAllDown_25 : decode cX4_areAllDown 25 = .ok (.aload 4, 2) := by decide +kernel
theorem dX4_areAllDown_27 : decode cX4_areAllDown 27 = .ok (.getfield 72, 3) := by decide +kernel
theorem dX4_areAllDown_30 : decode cX4_areAllDown 30 = .ok (.ifCond .ne 13, 3) := by decide +kernel
theorem dX4_areAllDown_33 : decode cX4_areAllDown 33 = .ok (.aload 4, 2) := by decide +kernel
theorem dX4_areAllDown_35 : decode cX4_areAllDown 35 = .ok (.getfield 63, 3) := by decide +kernel
theorem dX4_areAllDown_38 : decode cX4_areAllDown 38 = .ok (.ifCond .le 5, 3) := by decide +kernel
theorem dX4_areAllDown_41 : decode cX4_areAllDown 41 = .ok (.iconst 0, 1) := by decide +kernel
theorem dX4_areAllDown_42 : decode cX4_areAllDown 42 = .ok (.ireturn, 1) := by decide +kernel
theorem dX4_areAllDown_43 : decode cX4_areAllDown 43 = .ok (.iinc 3 1, 3) := by decide +kernel
theorem dX4_areAllDown_46 : decode cX4_areAllDown 46 = .ok (.goto (-36), 3) := by decide +kernel
theorem dX4_areAllDown_49 : decode cX4_areAllDown 49 = .ok (.iconst 1, 1) := by decide +kernel
theorem dX4_areAllDown_50 : decode cX4_areAllDown 50 = .ok (.ireturn, 1) := by decide +kernel
theorem dX4_rememberAll_0 : decode cX4_rememberAll 0 = .ok (.aload_n 0, 1) := by decide +kernel
theorem dX4_rememberAll_1 : decode cX4_rememberAll 1 = .ok (.getfield 11, 3) := by decide +kernel
theorem dX4_rememberAll_4 : decode cX4_rememberAll 4 = .ok (.astore_n 1, 1) := by decide +kernel
theorem dX4_rememberAll_5 : decode cX4_rememberAll 5 = .ok (.aload_n 1, 1) := by decide +kernel
theorem dX4_rememberAll_6 : decode cX4_rememberAll 6 = .ok (.arraylength, 1) := by decide +kernel
theorem dX4_rememberAll_7 : decode cX4_rememberAll 7 = .ok (.istore_n 2, 1) := by decide +kernel
theorem dX4_rememberAll_8 : decode cX4_rememberAll 8 = .ok (.iconst 0, 1) := by decide +kernel
theorem dX4_rememberAll_9 : decode cX4_rememberAll 9 = .ok (.istore_n 3, 1) := by decide +kernel
theorem dX4_rememberAll_10 : decode cX4_rememberAll 10 = .ok (.iload_n 3, 1) := by decide +kernel
theorem dX4_rememberAll_11 : decode cX4_rememberAll 11 = .ok (.iload_n 2, 1) := by decide +kernel
theorem dX4_rememberAll_12 : decode cX4_rememberAll 12 = .ok (.if_icmp .ge 24, 3) := by decide +kernel
theorem dX4_rememberAll_15 : decode cX4_rememberAll 15 = .ok (.aload_n 1, 1) := by decide +kernel
theorem dX4_rememberAll_16 : decode cX4_rememberAll 16 = .ok (.iload_n 3, 1) := by decide +kernel
theorem dX4_rememberAll_17 : decode cX4_rememberAll 17 = .ok (.aaload, 1) := by decide +kernel
theorem dX4_rememberAll_18 : decode cX4_rememberAll 18 = .ok (.astore 4, 2) := by decide +kernel
theorem dX4_rememberAll_20 : decode cX4_rememberAll 20 = .ok (.aload 4, 2) := by decide +kernel
theorem dX4_rememberAll_22 : decode cX4_rememberAll 22 = .ok (.ifnull 8, 3) := by decide +kernel
theorem dX4_rememberAll_25 : decode cX4_rememberAll 25 = .ok (.aload 4, 2) := by decide +kernel
theorem dX4_rememberAll_27 : decode cX4_rememberAll 27 = .ok (.invokevirtual 348, 3) := by decide +kernel
theorem dX4_rememberAll_30 : decode cX4_rememberAll 30 = .ok (.iinc 3 1, 3) := by decide +kernel
theorem dX4_rememberAll_33 : decode cX4_rememberAll 33 = .ok (.goto (-23), 3) := by decide +kernel
theorem dX4_rememberAll_36 : decode cX4_rememberAll 36 = .ok (.aload_n 0, 1) := by decide +kernel
theorem dX4_rememberAll_37 : decode cX4_rememberAll 37 = .ok (.getfield 17, 3) := by decide +kernel
theorem dX4_rememberAll_40 : decode cX4_rememberAll 40 = .ok (.astore_n 1, 1) := by decide +kernel
theorem dX4_rememberAll_41 : decode cX4_rememberAll 41 = .ok (.aload_n 1, 1) := by decide +kernel
theorem dX4_rememberAll_42 : decode cX4_rememberAll 42 = .ok (.arraylength, 1) := by decide +kernel
theorem dX4_rememberAll_43 : decode cX4_rememberAll 43 = .ok (.istore_n 2, 1) := by decide +kernel
theorem dX4_rememberAll_44 : decode cX4_rememberAll 44 = .ok (.iconst 0, 1) := by decide +kernel
theorem dX4_rememberAll_45 : decode cX4_rememberAll 45 = .ok (.istore_n 3, 1) := by decide +kernel
theorem dX4_rememberAll_46 : decode cX4_rememberAll 46 = .ok (.iload_n 3, 1) := by decide +kernel
theorem dX4_rememberAll_47 : decode cX4_rememberAll 47 = .ok (.iload_n 2, 1) := by decide +kernel
theorem dX4_rememberAll_48 : decode cX4_rememberAll 48 = .ok (.if_icmp .ge 24, 3) := by decide +kernel
theorem dX4_rememberAll_51 : decode cX4_rememberAll 51 = .ok (.aload_n 1, 1) := by decide +kernel
theorem dX4_rememberAll_52 : decode cX4_rememberAll 52 = .ok (.iload_n 3, 1) := by decide +kernel
theorem dX4_rememberAll_53 : decode cX4_rememberAll 53 = .ok (.aaload, 1) := by decide +kernel
theorem dX4_rememberAll_54 : decode cX4_rememberAll 54 = .ok (.astore 4, 2) := by decide +kernel
theorem dX4_rememberAll_56 : decode cX4_rememberAll 56 = .ok (.aload 4, 2) := by decide +kernel
theorem dX4_rememberAll_58 : decode cX4_rememberAll 58 = .ok (.ifnull 8, 3) := by decide +kernel
theorem dX4_rememberAll_61 : decode cX4_rememberAll 61 = .ok (.aload 4, 2) := by decide +kernel
theorem dX4_rememberAll_63 : decode cX4_rememberAll 63 = .ok (.invokevirtual 351, 3) := by decide +kernel
theorem dX4_rememberAll_66 : decode cX4_rememberAll 66 = .ok (.iinc 3 1, 3) := by decide +kernel
theorem dX4_rememberAll_69 : decode cX4_rememberAll 69 = .ok (.goto (-23), 3) := by decide +kernel
theorem dX4_rememberAll_72 : decode cX4_rememberAll 72 = .ok (.aload_n 0, 1) := by decide +kernel
theorem dX4_rememberAll_73 : decode cX4_rememberAll 73 = .ok (.getfield 24, 3) := by decide +kernel
theorem dX4_rememberAll_76 : decode cX4_rememberAll 76 = .ok (.invokevirtual 352, 3) := by decide +kernel
theorem dX4_rememberAll_79 : decode cX4_rememberAll 79 = .ok (.return_, 1) := by decide +kernel
theorem dX4_recallAll_0 : decode cX4_recallAll 0 = .ok (.aload_n 0, 1) := by decide +kernel
theorem dX4_recallAll_1 : decode cX4_recallAll 1 = .ok (.getfield 11, 3) := by decide +kernel
theorem dX4_recallAll_4 : decode cX4_recallAll 4 = .ok (.astore_n 1, 1) := by decide +kernel
theorem dX4_recallAll_5 : decode cX4_recallAll 5 = .ok (.aload_n 1, 1) := by decide +kernel
theorem dX4_recallAll_6 : decode cX4_recallAll 6 = .ok (.arraylength, 1) := by decide +kernel
theorem dX4_recallAll_7 : decode cX4_recallAll 7 = .ok (.istore_n 2, 1) := by decide +kernel
theorem dX4_recallAll_8 : decode cX4_recallAll 8 = .ok (.iconst 0, 1) := by decide +kernel
theorem dX4_recallAll_9 : decode cX4_recallAll 9 = .ok (.istore_n 3, 1) := by decide +kernel
theorem dX4_recallAll_10 : decode cX4_recallAll 10 = .ok (.iload_n 3, 1) := by decide +kernel
theorem dX4_recallAll_11 : decode cX4_recallAll 11 = .ok (.iload_n 2, 1) := by decide +kernel
theorem dX4_recallAll_12 : decode cX4_recallAll 12 = .ok (.if_icmp .ge 24, 3) := by decide +kernel
theorem dX4_recallAll_15 : decode cX4_recallAll 15 = .ok (.aload_n 1, 1) := by decide +kernel
theorem dX4_recallAll_16 : decode cX4_recallAll 16 = .ok (.iload_n 3, 1) := by decide +kernel
theorem dX4_recallAll_17 : decode cX4_recallAll 17 = .ok (.aaload, 1) := by decide +kernel
theorem dX4_recallAll_18 : decode cX4_recallAll 18 = .ok (.astore 4, 2) := by decide +kernel
theorem dX4_recallAll_20 : decode cX4_recallAll 20 = .ok (.aload 4, 2) := by decide +kernel
theorem dX4_recallAll_22 : decode cX4_recallAll 22 = .ok (.ifnull 8, 3) := by decide +kernel
theorem dX4_recallAll_25 : decode cX4_recallAll 25 = .ok (.aload 4, 2) := by decide +kernel
theorem dX4_recallAll_27 : decode cX4_recallAll 27 = .ok (.invokevirtual 353, 3) := by decide +kernel
theorem dX4_recallAll_30 : decode cX4_recallAll 30 = .ok (.iinc 3 1, 3) := by decide +kernel
theorem dX4_recallAll_33 : decode cX4_recallAll 33 = .ok (.goto (-23), 3) := by decide +kernel
theorem dX4_recallAll_36 : decode cX4_recallAll 36 = .ok (.aload_n 0, 1) := by decide +kernel
theorem dX4_recallAll_37 : decode cX4_recallAll 37 = .ok (.getfield 17, 3) := by decide +kernel
theorem dX4_recallAll_40 : decode cX4_recallAll 40 = .ok (.astore_n 1, 1) := by decide +kernel
theorem dX4_recallAll_41 : decode cX4_recallAll 41 = .ok (.aload_n 1, 1) := by decide +kernel
theorem dX4_recallAll_42 : decode cX4_recallAll 42 = .ok (.arraylength, 1) := by decide +kernel
theorem dX4_recallAll_43 : decode cX4_recallAll 43 = .ok (.istore_n 2, 1) := by decide +kernel
theorem dX4_recallAll_44 : decode cX4_recallAll 44 = .ok (.iconst 0, 1) := by decide +kernel
theorem dX4_recallAll_45 : decode cX4_recallAll 45 = .ok (.istore_n 3, 1) := by decide +kernel
theorem dX4_recallAll_46 : decode cX4_recallAll 46 = .ok (.iload_n 3, 1) := by decide +kernel
theorem dX4_recallAll_47 : decode cX4_recallAll 47 = .ok (.iload_n 2, 1) := by decide +kernel
theorem dX4_recallAll_48 : decode cX4_recallAll 48 = .ok (.if_icmp .ge 24, 3) := by decide +kernel
theorem dX4_recallAll_51 : decode cX4_recallAll 51 = .ok (.aload_n 1, 1) := by decide +kernel
theorem dX4_recallAll_52 : decode cX4_recallAll 52 = .ok (.iload_n 3, 1) := by decide +kernel
theorem dX4_recallAll_53 : decode cX4_recallAll 53 = .ok (.aaload, 1) := by decide +kernel
theorem dX4_recallAll_54 : decode cX4_recallAll 54 = .ok (.astore 4, 2) := by decide +kernel
theorem dX4_recallAll_56 : decode cX4_recallAll 56 = .ok (.aload 4, 2) := by decide +kernel
theorem dX4_recallAll_58 : decode cX4_recallAll 58 = .ok (.ifnull 8, 3) := by decide +kernel
theorem dX4_recallAll_61 : decode cX4_recallAll 61 = .ok (.aload 4, 2) := by decide +kernel
theorem dX4_recallAll_63 : decode cX4_recallAll 63 = .ok (.invokevirtual 356, 3) := by decide +kernel
theorem dX4_recallAll_66 : decode cX4_recallAll 66 = .ok (.iinc 3 1, 3) := by decide +kernel
theorem dX4_recallAll_69 : decode cX4_recallAll 69 = .ok (.goto (-23), 3) := by decide +kernel
theorem dX4_recallAll_72 : decode cX4_recallAll 72 = .ok (.aload_n 0, 1) := by decide +kernel
theorem dX4_recallAll_73 : decode cX4_recallAll 73 = .ok (.getfield 24, 3) := by decide +kernel
theorem dX4_recallAll_76 : decode cX4_recallAll 76 = .ok (.invokevirtual 357, 3) := by decide +kernel
theorem dX4_recallAll_79 : decode cX4_recallAll 79 = .ok (.return_, 1) := by decide +kernel
theorem dX4_mixBird_0 : decode cX4_mixBird 0 = .ok (.lload_n 1, 1) := by decide +kernel
theorem dX4_mixBird_1 : decode cX4_mixBird 1 = .ok (.lstore 4, 2) := by decide +kernel
theorem dX4_mixBird_3 : decode cX4_mixBird 3 = .ok (.iconst 0, 1) := by decide +kernel
theorem dX4_mixBird_4 : decode cX4_mixBird 4 = .ok (.istore 6, 2) := by decide +kernel
theorem dX4_mixBird_6 : decode cX4_mixBird 6 = .ok (.iload 6, 2) := by decide +kernel
theorem dX4_mixBird_8 : decode cX4_mixBird 8 = .ok (.bipush 10, 2) := by decide +kernel
theorem dX4_mixBird_10 : decode cX4_mixBird 10 = .ok (.if_icmp .ge 23, 3) := by decide +kernel
theorem dX4_mixBird_13 : decode cX4_mixBird 13 = .ok (.lload 4, 2) := by decide +kernel
theorem dX4_mixBird_15 : decode cX4_mixBird 15 = .ok (.aload_n 0, 1) := by decide +kernel
theorem dX4_mixBird_16 : decode cX4_mixBird 16 = .ok (.iload_n 3, 1) := by decide +kernel
theorem dX4_mixBird_17 : decode cX4_mixBird 17 = .ok (.iload 6, 2) := by decide +kernel
theorem dX4_mixBird_19 : decode cX4_mixBird 19 = .ok (.invokevirtual 358, 3) := by decide +kernel
theorem dX4_mixBird_22 : decode cX4_mixBird 22 = .ok (.invokestatic 285, 3) := by decide +kernel
theorem dX4_mixBird_25 : decode cX4_mixBird 25 = .ok (.lstore 4, 2) := by decide +kernel
theorem dX4_mixBird_27 : decode cX4_mixBird 27 = .ok (.iinc 6 1, 3) := by decide +kernel
theorem dX4_mixBird_30 : decode cX4_mixBird 30 = .ok (.goto (-24), 3) := by decide +kernel
theorem dX4_mixBird_33 : decode cX4_mixBird 33 = .ok (.aload_n 0, 1) := by decide +kernel
theorem dX4_mixBird_34 : decode cX4_mixBird 34 = .ok (.iload_n 3, 1) := by decide +kernel
theorem dX4_mixBird_35 : decode cX4_mixBird 35 = .ok (.invokevirtual 122, 3) := by decide +kernel
theorem dX4_mixBird_38 : decode cX4_mixBird 38 = .ok (.astore 6, 2) := by decide +kernel
theorem dX4_mixBird_40 : decode cX4_mixBird 40 = .ok (.aload 6, 2) := by decide +kernel
theorem dX4_mixBird_42 : decode cX4_mixBird 42 = .ok (.ifnull 47, 3) := by decide +kernel
theorem dX4_mixBird_45 : decode cX4_mixBird 45 = .ok (.aload 6, 2) := by decide +kernel
theorem dX4_mixBird_47 : decode cX4_mixBird 47 = .ok (.getfield 161, 3) := by decide +kernel
theorem dX4_mixBird_50 : decode cX4_mixBird 50 = .ok (.astore 7, 2) := by decide +kernel
theorem dX4_mixBird_52 : decode cX4_mixBird 52 = .ok (.aload 7, 2) := by decide +kernel
theorem dX4_mixBird_54 : decode cX4_mixBird 54 = .ok (.arraylength, 1) := by decide +kernel
theorem dX4_mixBird_55 : decode cX4_mixBird 55 = .ok (.istore 8, 2) := by decide +kernel
theorem dX4_mixBird_57 : decode cX4_mixBird 57 = .ok (.iconst 0, 1) := by decide +kernel
theorem dX4_mixBird_58 : decode cX4_mixBird 58 = .ok (.istore 9, 2) := by decide +kernel
theorem dX4_mixBird_60 : decode cX4_mixBird 60 = .ok (.iload 9, 2) := by decide +kernel
theorem dX4_mixBird_62 : decode cX4_mixBird 62 = .ok (.iload 8, 2) := by decide +kernel
theorem dX4_mixBird_64 : decode cX4_mixBird 64 = .ok (.if_icmp .ge 25, 3) := by decide +kernel
theorem dX4_mixBird_67 : decode cX4_mixBird 67 = .ok (.aload 7, 2) := by decide +kernel
theorem dX4_mixBird_69 : decode cX4_mixBird 69 = .ok (.iload 9, 2) := by decide +kernel
theorem dX4_mixBird_71 : decode cX4_mixBird 71 = .ok (.iaload, 1) := by decide +kernel
theorem dX4_mixBird_72 : decode cX4_mixBird 72 = .ok (.istore 10, 2) := by decide +kernel
theorem dX4_mixBird_74 : decode cX4_mixBird 74 = .ok (.lload 4, 2) := by decide +kernel
theorem dX4_mixBird_76 : decode cX4_mixBird 76 = .ok (.iload 10, 2) := by decide +kernel
theorem dX4_mixBird_78 : decode cX4_mixBird 78 = .ok (.invokestatic 285, 3) := by decide +kernel
theorem dX4_mixBird_81 : decode cX4_mixBird 81 = .ok (.lstore 4, 2) := by decide +kernel
theorem dX4_mixBird_83 : decode cX4_mixBird 83 = .ok (.iinc 9 1, 3) := by decide +kernel
theorem dX4_mixBird_86 : decode cX4_mixBird 86 = .ok (.goto (-26), 3) := by decide +kernel
theorem dX4_mixBird_89 : decode cX4_mixBird 89 = .ok (.iconst 0, 1) := by decide +kernel
theorem dX4_mixBird_90 : decode cX4_mixBird 90 = .ok (.istore 7, 2) := by decide +kernel
theorem dX4_mixBird_92 : decode cX4_mixBird 92 = .ok (.iload 7, 2) := by decide +kernel
theorem dX4_mixBird_94 : decode cX4_mixBird 94 = .ok (.iconst 3, 1) := by decide +kernel
theorem dX4_mixBird_95 : decode cX4_mixBird 95 = .ok (.if_icmp .ge 24, 3) := by decide +kernel
theorem dX4_mixBird_98 : decode cX4_mixBird 98 = .ok (.lload 4, 2) := by decide +kernel
theorem dX4_mixBird_100 : decode cX4_mixBird 100 = .ok (.aload_n 0, 1) := by decide +kernel
theorem dX4_mixBird_101 : decode cX4_mixBird 101 = .ok (.iload_n 3, 1) := by decide +kernel
theorem dX4_mixBird_102 : decode cX4_mixBird 102 = .ok (.iload 7, 2) := by decide +kernel
theorem dX4_mixBird_104 : decode cX4_mixBird 104 = .ok (.iconst (-1), 1) := by decide +kernel
theorem dX4_mixBird_105 : decode cX4_mixBird 105 = .ok (.invokevirtual 361, 3) := by decide +kernel
theorem dX4_mixBird_108 : decode cX4_mixBird 108 = .ok (.invokestatic 285, 3) := by decide +kernel
theorem dX4_mixBird_111 : decode cX4_mixBird 111 = .ok (.lstore 4, 2) := by decide +kernel
theorem dX4_mixBird_113 : decode cX4_mixBird 113 = .ok (.iinc 7 1, 3) := by decide +kernel
theorem dX4_mixBird_116 : decode cX4_mixBird 116 = .ok (.goto (-24), 3) := by decide +kernel
theorem dX4_mixBird_119 : decode cX4_mixBird 119 = .ok (.lload 4, 2) := by decide +kernel
theorem dX4_mixBird_121 : decode cX4_mixBird 121 = .ok (.lreturn, 1) := by decide +kernel
theorem dX4_mix_0 : decode cX4_mix 0 = .ok (.lload_n 0, 1) := by decide +kernel
theorem dX4_mix_1 : decode cX4_mix 1 = .ok (.ldc2_w 365, 3) := by decide +kernel
theorem dX4_mix_4 : decode cX4_mix 4 = .ok (.lmul, 1) := by decide +kernel
theorem dX4_mix_5 : decode cX4_mix 5 = .ok (.iload_n 2, 1) := by decide +kernel
theorem dX4_mix_6 : decode cX4_mix 6 = .ok (.i2l, 1) := by decide +kernel
theorem dX4_mix_7 : decode cX4_mix 7 = .ok (.ladd, 1) := by decide +kernel
theorem dX4_mix_8 : decode cX4_mix 8 = .ok (.lreturn, 1) := by decide +kernel
theorem dX4_pairBit_0 : decode cX4_pairBit 0 = .ok (.iconst 1, 1) := by decide +kernel
theorem dX4_pairBit_1 : decode cX4_pairBit 1 = .ok (.iload_n 0, 1) := by decide +kernel
theorem dX4_pairBit_2 : decode cX4_pairBit 2 = .ok (.iload_n 1, 1) := by decide +kernel
theorem dX4_pairBit_3 : decode cX4_pairBit 3 = .ok (.invokestatic 66, 3) := by decide +kernel
theorem dX4_pairBit_6 : decode cX4_pairBit 6 = .ok (.iconst 4, 1) := by decide +kernel
theorem dX4_pairBit_7 : decode cX4_pairBit 7 = .ok (.imul, 1) := by decide +kernel
theorem dX4_pairBit_8 : decode cX4_pairBit 8 = .ok (.iload_n 0, 1) := by decide +kernel
theorem dX4_pairBit_9 : decode cX4_pairBit 9 = .ok (.iload_n 1, 1) := by decide +kernel
theorem dX4_pairBit_10 : decode cX4_pairBit 10 = .ok (.invokestatic 262, 3) := by decide +kernel
theorem dX4_pairBit_13 : decode cX4_pairBit 13 = .ok (.iadd, 1) := by decide +kernel
theorem dX4_pairBit_14 : decode cX4_pairBit 14 = .ok (.ishl, 1) := by decide +kernel
theorem dX4_pairBit_15 : decode cX4_pairBit 15 = .ok (.ireturn, 1) := by decide +kernel
theorem dX4_isIn_0 : decode cX4_isIn 0 = .ok (.iload_n 0, 1) := by decide +kernel
theorem dX4_isIn_1 : decode cX4_isIn 1 = .ok (.iload_n 1, 1) := by decide +kernel
theorem dX4_isIn_2 : decode cX4_isIn 2 = .ok (.if_icmp .lt 12, 3) := by decide +kernel
theorem dX4_isIn_5 : decode cX4_isIn 5 = .ok (.iload_n 0, 1) := by decide +kernel
theorem dX4_isIn_6 : decode cX4_isIn 6 = .ok (.iload_n 2, 1) := by decide +kernel
theorem dX4_isIn_7 : decode cX4_isIn 7 = .ok (.if_icmp .gt 7, 3) := by decide +kernel
theorem dX4_isIn_10 : decode cX4_isIn 10 = .ok (.iconst 1, 1) := by decide +kernel
theorem dX4_isIn_11 : decode cX4_isIn 11 = .ok (.goto 4, 3) := by decide +kernel
theorem dX4_isIn_14 : decode cX4_isIn 14 = .ok (.iconst 0, 1) := by decide +kernel
theorem dX4_isIn_15 : decode cX4_isIn 15 = .ok (.ireturn, 1) := by decide +kernel
theorem dX4_remainder_0 : decode cX4_remainder 0 = .ok (.iload_n 1, 1) := by decide +kernel
theorem dX4_remainder_1 : decode cX4_remainder 1 = .ok (.ifCond .le 9, 3) := by decide +kernel
theorem dX4_remainder_4 : decode cX4_remainder 4 = .ok (.iload_n 0, 1) := by decide +kernel
theorem dX4_remainder_5 : decode cX4_remainder 5 = .ok (.iload_n 1, 1) := by decide +kernel
theorem dX4_remainder_6 : decode cX4_remainder 6 = .ok (.irem, 1) := by decide +kernel
theorem dX4_remainder_7 : decode cX4_remainder 7 = .ok (.goto 4, 3) := by decide +kernel
theorem dX4_remainder_10 : decode cX4_remainder 10 = .ok (.iconst 0, 1) := by decide +kernel
theorem dX4_remainder_11 : decode cX4_remainder 11 = .ok (.ireturn, 1) := by decide +kernel
theorem dX4_at_0 : decode cX4_at 0 = .ok (.iload_n 1, 1) := by decide +kernel
theorem dX4_at_1 : decode cX4_at 1 = .ok (.ifCond .lt 15, 3) := by decide +kernel
theorem dX4_at_4 : decode cX4_at 4 = .ok (.iload_n 1, 1) := by decide +kernel
theorem dX4_at_5 : decode cX4_at 5 = .ok (.aload_n 0, 1) := by decide +kernel
theorem dX4_at_6 : decode cX4_at 6 = .ok (.arraylength, 1) := by decide +kernel
theorem dX4_at_7 : decode cX4_at 7 = .ok (.if_icmp .ge 9, 3) := by decide +kernel
theorem dX4_at_10 : decode cX4_at 10 = .ok (.aload_n 0, 1) := by decide +kernel
theorem dX4_at_11 : decode cX4_at 11 = .ok (.iload_n 1, 1) := by decide +kernel
theorem dX4_at_12 : decode cX4_at 12 = .ok (.iaload, 1) := by decide +kernel
theorem dX4_at_13 : decode cX4_at 13 = .ok (.goto 4, 3) := by decide +kernel
theorem dX4_at_16 : decode cX4_at 16 = .ok (.iconst 0, 1) := by decide +kernel
theorem dX4_at_17 : decode cX4_at 17 = .ok (.ireturn, 1) := by decide +kernel
theorem dX4_put_0 : decode cX4_put 0 = .ok (.iload_n 1, 1) := by decide +kernel
theorem dX4_put_1 : decode cX4_put 1 = .ok (.ifCond .lt 13, 3) := by decide +kernel
theorem dX4_put_4 : decode cX4_put 4 = .ok (.iload_n 1, 1) := by decide +kernel
theorem dX4_put_5 : decode cX4_put 5 = .ok (.aload_n 0, 1) := by decide +kernel
theorem dX4_put_6 : decode cX4_put 6 = .ok (.arraylength, 1) := by decide +kernel
theorem dX4_put_7 : decode cX4_put 7 = .ok (.if_icmp .ge 7, 3) := by decide +kernel
theorem dX4_put_10 : decode cX4_put 10 = .ok (.aload_n 0, 1) := by decide +kernel
theorem dX4_put_11 : decode cX4_put 11 = .ok (.iload_n 1, 1) := by decide +kernel
theorem dX4_put_12 : decode cX4_put 12 = .ok (.iload_n 2, 1) := by decide +kernel
theorem dX4_put_13 : decode cX4_put 13 = .ok (.iastore, 1) := by decide +kernel
theorem dX4_put_14 : decode cX4_put 14 = .ok (.return_, 1) := by decide +kernel
