theorem dX0_init_0 : decode cX0_init 0 = .ok (.aload_n 0, 1) := by decide +kernel
theorem dX0_init_1 : decode cX0_init 1 = .ok (.invokespecial 3, 3) := by decide +kernel
theorem dX0_init_4 : decode cX0_init 4 = .ok (.aload_n 0, 1) := by decide +kernel
theorem dX0_init_5 : decode cX0_init 5 = .ok (.bipush 96, 2) := by decide +kernel
theorem dX0_init_7 : decode cX0_init 7 = .ok (.newarray .int, 2) := by decide +kernel
theorem dX0_init_9 : decode cX0_init 9 = .ok (.putfield 9, 3) := by decide +kernel
theorem dX0_init_12 : decode cX0_init 12 = .ok (.aload_n 0, 1) := by decide +kernel
theorem dX0_init_13 : decode cX0_init 13 = .ok (.bipush 6, 2) := by decide +kernel
theorem dX0_init_15 : decode cX0_init 15 = .ok (.newarray .int, 2) := by decide +kernel
theorem dX0_init_17 : decode cX0_init 17 = .ok (.putfield 15, 3) := by decide +kernel
theorem dX0_init_20 : decode cX0_init 20 = .ok (.aload_n 0, 1) := by decide +kernel
theorem dX0_init_21 : decode cX0_init 21 = .ok (.iconst 3, 1) := by decide +kernel
theorem dX0_init_22 : decode cX0_init 22 = .ok (.anewarray 18, 3) := by decide +kernel
theorem dX0_init_25 : decode cX0_init 25 = .ok (.putfield 20, 3) := by decide +kernel
theorem dX0_init_28 : decode cX0_init 28 = .ok (.aload_n 0, 1) := by decide +kernel
theorem dX0_init_29 : decode cX0_init 29 = .ok (.iload_n 1, 1) := by decide +kernel
theorem dX0_init_30 : decode cX0_init 30 = .ok (.putfield 24, 3) := by decide +kernel
theorem dX0_init_33 : decode cX0_init 33 = .ok (.aload_n 0, 1) := by decide +kernel
theorem dX0_init_34 : decode cX0_init 34 = .ok (.iload_n 2, 1) := by decide +kernel
theorem dX0_init_35 : decode cX0_init 35 = .ok (.putfield 28, 3) := by decide +kernel
theorem dX0_init_38 : decode cX0_init 38 = .ok (.aload_n 0, 1) := by decide +kernel
theorem dX0_init_39 : decode cX0_init 39 = .ok (.iload_n 3, 1) := by decide +kernel
theorem dX0_init_40 : decode cX0_init 40 = .ok (.putfield 31, 3) := by decide +kernel
theorem dX0_init_43 : decode cX0_init 43 = .ok (.aload_n 0, 1) := by decide +kernel
theorem dX0_init_44 : decode cX0_init 44 = .ok (.iload 4, 2) := by decide +kernel
theorem dX0_init_46 : decode cX0_init 46 = .ok (.putfield 34, 3) := by decide +kernel
theorem dX0_init_49 : decode cX0_init 49 = .ok (.aload_n 0, 1) := by decide +kernel
theorem dX0_init_50 : decode cX0_init 50 = .ok (.iload 5, 2) := by decide +kernel
theorem dX0_init_52 : decode cX0_init 52 = .ok (.putfield 37, 3) := by decide +kernel
theorem dX0_init_55 : decode cX0_init 55 = .ok (.aload_n 0, 1) := by decide +kernel
theorem dX0_init_56 : decode cX0_init 56 = .ok (.iconst 1, 1) := by decide +kernel
theorem dX0_init_57 : decode cX0_init 57 = .ok (.putfield 40, 3) := by decide +kernel
theorem dX0_init_60 : decode cX0_init 60 = .ok (.aload_n 0, 1) := by decide +kernel
theorem dX0_init_61 : decode cX0_init 61 = .ok (.lload 6, 2) := by decide +kernel
theorem dX0_init_63 : decode cX0_init 63 = .ok (.putfield 44, 3) := by decide +kernel
theorem dX0_init_66 : decode cX0_init 66 = .ok (.iconst 0, 1) := by decide +kernel
theorem dX0_init_67 : decode cX0_init 67 = .ok (.istore 8, 2) := by decide +kernel
theorem dX0_init_69 : decode cX0_init 69 = .ok (.iload 8, 2) := by decide +kernel
theorem dX0_init_71 : decode cX0_init 71 = .ok (.aload_n 0, 1) := by decide +kernel
theorem dX0_init_72 : decode cX0_init 72 = .ok (.getfield 15, 3) := by decide +kernel
theorem dX0_init_75 : decode cX0_init 75 = .ok (.arraylength, 1) := by decide +kernel
theorem dX0_init_76 : decode cX0_init 76 = .ok (.if_icmp .ge 23, 3) := by decide +kernel
theorem dX0_init_79 : decode cX0_init 79 = .ok (.aload_n 0, 1) := by decide +kernel
theorem dX0_init_80 : decode cX0_init 80 = .ok (.getfield 15, 3) := by decide +kernel
theorem dX0_init_83 : decode cX0_init 83 = .ok (.iload 8, 2) := by decide +kernel
theorem dX0_init_85 : decode cX0_init 85 = .ok (.bipush 60, 2) := by decide +kernel
theorem dX0_init_87 : decode cX0_init 87 = .ok (.iconst 2, 1) := by decide +kernel
theorem dX0_init_88 : decode cX0_init 88 = .ok (.iload 8, 2) := by decide +kernel
theorem dX0_init_90 : decode cX0_init 90 = .ok (.imul, 1) := by decide +kernel
theorem dX0_init_91 : decode cX0_init 91 = .ok (.iadd, 1) := by decide +kernel
theorem dX0_init_92 : decode cX0_init 92 = .ok (.iastore, 1) := by decide +kernel
theorem dX0_init_93 : decode cX0_init 93 = .ok (.iinc 8 1, 3) := by decide +kernel
theorem dX0_init_96 : decode cX0_init 96 = .ok (.goto (-27), 3) := by decide +kernel
theorem dX0_init_99 : decode cX0_init 99 = .ok (.iconst 0, 1) := by decide +kernel
theorem dX0_init_100 : decode cX0_init 100 = .ok (.istore 8, 2) := by decide +kernel
theorem dX0_init_102 : decode cX0_init 102 = .ok (.iload 8, 2) := by decide +kernel
theorem dX0_init_104 : decode cX0_init 104 = .ok (.aload_n 0, 1) := by decide +kernel
theorem dX0_init_105 : decode cX0_init 105 = .ok (.getfield 20, 3) := by decide +kernel
theorem dX0_init_108 : decode cX0_init 108 = .ok (.arraylength, 1) := by decide +kernel
theorem dX0_init_109 : decode cX0_init 109 = .ok (.if_icmp .ge 23, 3) := by decide +kernel
theorem dX0_init_112 : decode cX0_init 112 = .ok (.aload_n 0, 1) := by decide +kernel
theorem dX0_init_113 : decode cX0_init 113 = .ok (.getfield 20, 3) := by decide +kernel
theorem dX0_init_116 : decode cX0_init 116 = .ok (.iload 8, 2) := by decide +kernel
theorem dX0_init_118 : decode cX0_init 118 = .ok (.new 18, 3) := by decide +kernel
theorem dX0_init_121 : decode cX0_init 121 = .ok (.dup, 1) := by decide +kernel
theorem dX0_init_122 : decode cX0_init 122 = .ok (.invokespecial 48, 3) := by decide +kernel
theorem dX0_init_125 : decode cX0_init 125 = .ok (.aastore, 1) := by decide +kernel
theorem dX0_init_126 : decode cX0_init 126 = .ok (.iinc 8 1, 3) := by decide +kernel
theorem dX0_init_129 : decode cX0_init 129 = .ok (.goto (-27), 3) := by decide +kernel
theorem dX0_init_132 : decode cX0_init 132 = .ok (.return_, 1) := by decide +kernel
theorem dX0_isDrivenBy_0 : decode cX0_isDrivenBy 0 = .ok (.aload_n 0, 1) := by decide +kernel
theorem dX0_isDrivenBy_1 : decode cX0_isDrivenBy 1 = .ok (.getfield 40, 3) := by decide +kernel
theorem dX0_isDrivenBy_4 : decode cX0_isDrivenBy 4 = .ok (.ifCond .eq 15, 3) := by decide +kernel
theorem dX0_isDrivenBy_7 : decode cX0_isDrivenBy 7 = .ok (.aload_n 0, 1) := by decide +kernel
theorem dX0_isDrivenBy_8 : decode cX0_isDrivenBy 8 = .ok (.getfield 24, 3) := by decide +kernel
theorem dX0_isDrivenBy_11 : decode cX0_isDrivenBy 11 = .ok (.iload_n 1, 1) := by decide +kernel
theorem dX0_isDrivenBy_12 : decode cX0_isDrivenBy 12 = .ok (.if_icmp .ne 7, 3) := by decide +kernel
theorem dX0_isDrivenBy_15 : decode cX0_isDrivenBy 15 = .ok (.iconst 1, 1) := by decide +kernel
theorem dX0_isDrivenBy_16 : decode cX0_isDrivenBy 16 = .ok (.goto 4, 3) := by decide +kernel
theorem dX0_isDrivenBy_19 : decode cX0_isDrivenBy 19 = .ok (.iconst 0, 1) := by decide +kernel
theorem dX0_isDrivenBy_20 : decode cX0_isDrivenBy 20 = .ok (.ireturn, 1) := by decide +kernel
theorem dX0_goneWhen_0 : decode cX0_goneWhen 0 = .ok (.ldc2_w 61, 3) := by decide +kernel
theorem dX0_goneWhen_3 : decode cX0_goneWhen 3 = .ok (.aload_n 0, 1) := by decide +kernel
theorem dX0_goneWhen_4 : decode cX0_goneWhen 4 = .ok (.getfield 37, 3) := by decide +kernel
theorem dX0_goneWhen_7 : decode cX0_goneWhen 7 = .ok (.i2l, 1) := by decide +kernel
theorem dX0_goneWhen_8 : decode cX0_goneWhen 8 = .ok (.lmul, 1) := by decide +kernel
theorem dX0_goneWhen_9 : decode cX0_goneWhen 9 = .ok (.lstore_n 3, 1) := by decide +kernel
theorem dX0_goneWhen_10 : decode cX0_goneWhen 10 = .ok (.lload_n 3, 1) := by decide +kernel
theorem dX0_goneWhen_11 : decode cX0_goneWhen 11 = .ok (.lconst 0, 1) := by decide +kernel
theorem dX0_goneWhen_12 : decode cX0_goneWhen 12 = .ok (.lcmp, 1) := by decide +kernel
theorem dX0_goneWhen_13 : decode cX0_goneWhen 13 = .ok (.ifCond .le 26, 3) := by decide +kernel
theorem dX0_goneWhen_16 : decode cX0_goneWhen 16 = .ok (.lload_n 1, 1) := by decide +kernel
theorem dX0_goneWhen_17 : decode cX0_goneWhen 17 = .ok (.aload_n 0, 1) := by decide +kernel
theorem dX0_goneWhen_18 : decode cX0_goneWhen 18 = .ok (.getfield 44, 3) := by decide +kernel
theorem dX0_goneWhen_21 : decode cX0_goneWhen 21 = .ok (.lsub, 1) := by decide +kernel
theorem dX0_goneWhen_22 : decode cX0_goneWhen 22 = .ok (.aload_n 0, 1) := by decide +kernel
theorem dX0_goneWhen_23 : decode cX0_goneWhen 23 = .ok (.getfield 34, 3) := by decide +kernel
theorem dX0_goneWhen_26 : decode cX0_goneWhen 26 = .ok (.i2l, 1) := by decide +kernel
theorem dX0_goneWhen_27 : decode cX0_goneWhen 27 = .ok (.lmul, 1) := by decide +kernel
theorem dX0_goneWhen_28 : decode cX0_goneWhen 28 = .ok (.aload_n 0, 1) := by decide +kernel
theorem dX0_goneWhen_29 : decode cX0_goneWhen 29 = .ok (.getfield 31, 3) := by decide +kernel
theorem dX0_goneWhen_32 : decode cX0_goneWhen 32 = .ok (.i2l, 1) := by decide +kernel
theorem dX0_goneWhen_33 : decode cX0_goneWhen 33 = .ok (.lmul, 1) := by decide +kernel
theorem dX0_goneWhen_34 : decode cX0_goneWhen 34 = .ok (.lload_n 3, 1) := by decide +kernel
theorem dX0_goneWhen_35 : decode cX0_goneWhen 35 = .ok (.ldiv, 1) := by decide +kernel
theorem dX0_goneWhen_36 : decode cX0_goneWhen 36 = .ok (.goto 4, 3) := by decide +kernel
theorem dX0_goneWhen_39 : decode cX0_goneWhen 39 = .ok (.lconst 0, 1) := by decide +kernel
theorem dX0_goneWhen_40 : decode cX0_goneWhen 40 = .ok (.lreturn, 1) := by decide +kernel
theorem dX0_placeWhenGone_0 : decode cX0_placeWhenGone 0 = .ok (.aload_n 0, 1) := by decide +kernel
theorem dX0_placeWhenGone_1 : decode cX0_placeWhenGone 1 = .ok (.getfield 31, 3) := by decide +kernel
theorem dX0_placeWhenGone_4 : decode cX0_placeWhenGone 4 = .ok (.ifCond .le 14, 3) := by decide +kernel
theorem dX0_placeWhenGone_7 : decode cX0_placeWhenGone 7 = .ok (.lload_n 1, 1) := by decide +kernel
theorem dX0_placeWhenGone_8 : decode cX0_placeWhenGone 8 = .ok (.aload_n 0, 1) := by decide +kernel
theorem dX0_placeWhenGone_9 : decode cX0_placeWhenGone 9 = .ok (.getfield 31, 3) := by decide +kernel
theorem dX0_placeWhenGone_12 : decode cX0_placeWhenGone 12 = .ok (.i2l, 1) := by decide +kernel
theorem dX0_placeWhenGone_13 : decode cX0_placeWhenGone 13 = .ok (.lrem, 1) := by decide +kernel
theorem dX0_placeWhenGone_14 : decode cX0_placeWhenGone 14 = .ok (.l2i, 1) := by decide +kernel
theorem dX0_placeWhenGone_15 : decode cX0_placeWhenGone 15 = .ok (.goto 4, 3) := by decide +kernel
theorem dX0_placeWhenGone_18 : decode cX0_placeWhenGone 18 = .ok (.iconst 0, 1) := by decide +kernel
theorem dX0_placeWhenGone_19 : decode cX0_placeWhenGone 19 = .ok (.ireturn, 1) := by decide +kernel
theorem dX0_placeNow_0 : decode cX0_placeNow 0 = .ok (.aload_n 0, 1) := by decide +kernel
theorem dX0_placeNow_1 : decode cX0_placeNow 1 = .ok (.aload_n 0, 1) := by decide +kernel
theorem dX0_placeNow_2 : decode cX0_placeNow 2 = .ok (.getfield 49, 3) := by decide +kernel
theorem dX0_placeNow_5 : decode cX0_placeNow 5 = .ok (.invokevirtual 63, 3) := by decide +kernel
theorem dX0_placeNow_8 : decode cX0_placeNow 8 = .ok (.ireturn, 1) := by decide +kernel
theorem dX0_hasPlace_0 : decode cX0_hasPlace 0 = .ok (.iload_n 1, 1) := by decide +kernel
theorem dX0_hasPlace_1 : decode cX0_hasPlace 1 = .ok (.iconst 0, 1) := by decide +kernel
theorem dX0_hasPlace_2 : decode cX0_hasPlace 2 = .ok (.aload_n 0, 1) := by decide +kernel
theorem dX0_hasPlace_3 : decode cX0_hasPlace 3 = .ok (.getfield 31, 3) := by decide +kernel
theorem dX0_hasPlace_6 : decode cX0_hasPlace 6 = .ok (.iconst 1, 1) := by decide +kernel
theorem dX0_hasPlace_7 : decode cX0_hasPlace 7 = .ok (.isub, 1) := by decide +kernel
theorem dX0_hasPlace_8 : decode cX0_hasPlace 8 = .ok (.invokestatic 67, 3) := by decide +kernel
theorem dX0_hasPlace_11 : decode cX0_hasPlace 11 = .ok (.ireturn, 1) := by decide +kernel
theorem dX0_hasPin_0 : decode cX0_hasPin 0 = .ok (.aload_n 0, 1) := by decide +kernel
theorem dX0_hasPin_1 : decode cX0_hasPin 1 = .ok (.getfield 9, 3) := by decide +kernel
theorem dX0_hasPin_4 : decode cX0_hasPin 4 = .ok (.iload_n 1, 1) := by decide +kernel
theorem dX0_hasPin_5 : decode cX0_hasPin 5 = .ok (.invokestatic 71, 3) := by decide +kernel
theorem dX0_hasPin_8 : decode cX0_hasPin 8 = .ok (.iload_n 2, 1) := by decide +kernel
theorem dX0_hasPin_9 : decode cX0_hasPin 9 = .ok (.ishr, 1) := by decide +kernel
theorem dX0_hasPin_10 : decode cX0_hasPin 10 = .ok (.iconst 1, 1) := by decide +kernel
theorem dX0_hasPin_11 : decode cX0_hasPin 11 = .ok (.iand, 1) := by decide +kernel
theorem dX0_hasPin_12 : decode cX0_hasPin 12 = .ok (.iconst 1, 1) := by decide +kernel
theorem dX0_hasPin_13 : decode cX0_hasPin 13 = .ok (.if_icmp .ne 7, 3) := by decide +kernel
theorem dX0_hasPin_16 : decode cX0_hasPin 16 = .ok (.iconst 1, 1) := by decide +kernel
theorem dX0_hasPin_17 : decode cX0_hasPin 17 = .ok (.goto 4, 3) := by decide +kernel
theorem dX0_hasPin_20 : decode cX0_hasPin 20 = .ok (.iconst 0, 1) := by decide +kernel
theorem dX0_hasPin_21 : decode cX0_hasPin 21 = .ok (.ireturn, 1) := by decide +kernel
theorem dX0_turnPin_0 : decode cX0_turnPin 0 = .ok (.aload_n 0, 1) := by decide +kernel
theorem dX0_turnPin_1 : decode cX0_turnPin 1 = .ok (.dup, 1) := by decide +kernel
theorem dX0_turnPin_2 : decode cX0_turnPin 2 = .ok (.getfield 75, 3) := by decide +kernel
theorem dX0_turnPin_5 : decode cX0_turnPin 5 = .ok (.aload_n 0, 1) := by decide +kernel
theorem dX0_turnPin_6 : decode cX0_turnPin 6 = .ok (.iload_n 1, 1) := by decide +kernel
theorem dX0_turnPin_7 : decode cX0_turnPin 7 = .ok (.iload_n 2, 1) := by decide +kernel
theorem dX0_turnPin_8 : decode cX0_turnPin 8 = .ok (.invokevirtual 78, 3) := by decide +kernel
theorem dX0_turnPin_11 : decode cX0_turnPin 11 = .ok (.ifCond .eq 7, 3) := by decide +kernel
theorem dX0_turnPin_14 : decode cX0_turnPin 14 = .ok (.iconst (-1), 1) := by decide +kernel
theorem dX0_turnPin_15 : decode cX0_turnPin 15 = .ok (.goto 4, 3) := by decide +kernel
theorem dX0_turnPin_18 : decode cX0_turnPin 18 = .ok (.iconst 1, 1) := by decide +kernel
theorem dX0_turnPin_19 : decode cX0_turnPin 19 = .ok (.iadd, 1) := by decide +kernel
theorem dX0_turnPin_20 : decode cX0_turnPin 20 = .ok (.putfield 75, 3) := by decide +kernel
theorem dX0_turnPin_23 : decode cX0_turnPin 23 = .ok (.aload_n 0, 1) := by decide +kernel
theorem dX0_turnPin_24 : decode cX0_turnPin 24 = .ok (.getfield 9, 3) := by decide +kernel
theorem dX0_turnPin_27 : decode cX0_turnPin 27 = .ok (.iload_n 1, 1) := by decide +kernel
theorem dX0_turnPin_28 : decode cX0_turnPin 28 = .ok (.aload_n 0, 1) := by decide +kernel
theorem dX0_turnPin_29 : decode cX0_turnPin 29 = .ok (.getfield 9, 3) := by decide +kernel
theorem dX0_turnPin_32 : decode cX0_turnPin 32 = .ok (.iload_n 1, 1) := by decide +kernel
theorem dX0_turnPin_33 : decode cX0_turnPin 33 = .ok (.invokestatic 71, 3) := by decide +kernel
theorem dX0_turnPin_36 : decode cX0_turnPin 36 = .ok (.iconst 1, 1) := by decide +kernel
theorem dX0_turnPin_37 : decode cX0_turnPin 37 = .ok (.iload_n 2, 1) := by decide +kernel
theorem dX0_turnPin_38 : decode cX0_turnPin 38 = .ok (.ishl, 1) := by decide +kernel
theorem dX0_turnPin_39 : decode cX0_turnPin 39 = .ok (.ixor, 1) := by decide +kernel
theorem dX0_turnPin_40 : decode cX0_turnPin 40 = .ok (.invokestatic 82, 3) := by decide +kernel
theorem dX0_turnPin_43 : decode cX0_turnPin 43 = .ok (.return_, 1) := by decide +kernel
theorem dX0_camAt_0 : decode cX0_camAt 0 = .ok (.iload_n 1, 1) := by decide +kernel
theorem dX0_camAt_1 : decode cX0_camAt 1 = .ok (.ifCond .lt 21, 3) := by decide +kernel
theorem dX0_camAt_4 : decode cX0_camAt 4 = .ok (.iload_n 1, 1) := by decide +kernel
theorem dX0_camAt_5 : decode cX0_camAt 5 = .ok (.aload_n 0, 1) := by decide +kernel
theorem dX0_camAt_6 : decode cX0_camAt 6 = .ok (.getfield 20, 3) := by decide +kernel
theorem dX0_camAt_9 : decode cX0_camAt 9 = .ok (.arraylength, 1) := by decide +kernel
theorem dX0_camAt_10 : decode cX0_camAt 10 = .ok (.if_icmp .ge 12, 3) := by decide +kernel
theorem dX0_camAt_13 : decode cX0_camAt 13 = .ok (.aload_n 0, 1) := by decide +kernel
theorem dX0_camAt_14 : decode cX0_camAt 14 = .ok (.getfield 20, 3) := by decide +kernel
theorem dX0_camAt_17 : decode cX0_camAt 17 = .ok (.iload_n 1, 1) := by decide +kernel
theorem dX0_camAt_18 : decode cX0_camAt 18 = .ok (.aaload, 1) := by decide +kernel
theorem dX0_camAt_19 : decode cX0_camAt 19 = .ok (.goto 4, 3) := by decide +kernel
theorem dX0_camAt_22 : decode cX0_camAt 22 = .ok (.aconst_null, 1) := by decide +kernel
theorem dX0_camAt_23 : decode cX0_camAt 23 = .ok (.areturn, 1) := by decide +kernel
theorem dX0_burden_0 : decode cX0_burden 0 = .ok (.aload_n 0, 1) := by decide +kernel
theorem dX0_burden_1 : decode cX0_burden 1 = .ok (.invokevirtual 86, 3) := by decide +kernel
theorem dX0_burden_4 : decode cX0_burden 4 = .ok (.istore_n 1, 1) := by decide +kernel
theorem dX0_burden_5 : decode cX0_burden 5 = .ok (.iconst 0, 1) := by decide +kernel
theorem dX0_burden_6 : decode cX0_burden 6 = .ok (.istore_n 2, 1) := by decide +kernel
theorem dX0_burden_7 : decode cX0_burden 7 = .ok (.aload_n 0, 1) := by decide +kernel
theorem dX0_burden_8 : decode cX0_burden 8 = .ok (.getfield 20, 3) := by decide +kernel
theorem dX0_burden_11 : decode cX0_burden 11 = .ok (.astore_n 3, 1) := by decide +kernel
theorem dX0_burden_12 : decode cX0_burden 12 = .ok (.aload_n 3, 1) := by decide +kernel
theorem dX0_burden_13 : decode cX0_burden 13 = .ok (.arraylength, 1) := by decide +kernel
theorem dX0_burden_14 : decode cX0_burden 14 = .ok (.istore 4, 2) := by decide +kernel
theorem dX0_burden_16 : decode cX0_burden 16 = .ok (.iconst 0, 1) := by decide +kernel
theorem dX0_burden_17 : decode cX0_burden 17 = .ok (.istore 5, 2) := by decide +kernel
theorem dX0_burden_19 : decode cX0_burden 19 = .ok (.iload 5, 2) := by decide +kernel
theorem dX0_burden_21 : decode cX0_burden 21 = .ok (.iload 4, 2) := by decide +kernel
theorem dX0_burden_23 : decode cX0_burden 23 = .ok (.if_icmp .ge 32, 3) := by decide +kernel
theorem dX0_burden_26 : decode cX0_burden 26 = .ok (.aload_n 3, 1) := by decide +kernel
theorem dX0_burden_27 : decode cX0_burden 27 = .ok (.iload 5, 2) := by decide +kernel
theorem dX0_burden_29 : decode cX0_burden 29 = .ok (.aaload, 1) := by decide +kernel
theorem dX0_burden_30 : decode cX0_burden 30 = .ok (.astore 6, 2) := by decide +kernel
theorem dX0_burden_32 : decode cX0_burden 32 = .ok (.aload 6, 2) := by decide +kernel
theorem dX0_burden_34 : decode cX0_burden 34 = .ok (.ifnull 15, 3) := by decide +kernel
theorem dX0_burden_37 : decode cX0_burden 37 = .ok (.iload_n 2, 1) := by decide +kernel
theorem dX0_burden_38 : decode cX0_burden 38 = .ok (.aload 6, 2) := by decide +kernel
theorem dX0_burden_40 : decode cX0_burden 40 = .ok (.getfield 90, 3) := by decide +kernel
theorem dX0_burden_43 : decode cX0_burden 43 = .ok (.iload_n 1, 1) := by decide +kernel
theorem dX0_burden_44 : decode cX0_burden 44 = .ok (.invokestatic 71, 3) := by decide +kernel
theorem dX0_burden_47 : decode cX0_burden 47 = .ok (.iadd, 1) := by decide +kernel
theorem dX0_burden_48 : decode cX0_burden 48 = .ok (.istore_n 2, 1) := by decide +kernel
theorem dX0_burden_49 : decode cX0_burden 49 = .ok (.iinc 5 1, 3) := by decide +kernel
theorem dX0_burden_52 : decode cX0_burden 52 = .ok (.goto (-33), 3) := by decide +kernel
theorem dX0_burden_55 : decode cX0_burden 55 = .ok (.aload_n 0, 1) := by decide +kernel
theorem dX0_burden_56 : decode cX0_burden 56 = .ok (.getfield 28, 3) := by decide +kernel
theorem dX0_burden_59 : decode cX0_burden 59 = .ok (.iload_n 2, 1) := by decide +kernel
theorem dX0_burden_60 : decode cX0_burden 60 = .ok (.iconst 5, 1) := by decide +kernel
theorem dX0_burden_61 : decode cX0_burden 61 = .ok (.idiv, 1) := by decide +kernel
theorem dX0_burden_62 : decode cX0_burden 62 = .ok (.iadd, 1) := by decide +kernel
theorem dX0_burden_63 : decode cX0_burden 63 = .ok (.ireturn, 1) := by decide +kernel
theorem dX1_init_0 : decode cX1_init 0 = .ok (.aload_n 0, 1) := by decide +kernel
theorem dX1_init_1 : decode cX1_init 1 = .ok (.invokespecial 3, 3) := by decide +kernel
theorem dX1_init_4 : decode cX1_init 4 = .ok (.aload_n 0, 1) := by decide +kernel
theorem dX1_init_5 : decode cX1_init 5 = .ok (.bipush 96, 2) := by decide +kernel
theorem dX1_init_7 : decode cX1_init 7 = .ok (.newarray .int, 2) := by decide +kernel
theorem dX1_init_9 : decode cX1_init 9 = .ok (.putfield 9, 3) := by decide +kernel
theorem dX1_init_12 : decode cX1_init 12 = .ok (.aload_n 0, 1) := by decide +kernel
theorem dX1_init_13 : decode cX1_init 13 = .ok (.bipush 96, 2) := by decide +kernel
theorem dX1_init_15 : decode cX1_init 15 = .ok (.newarray .int, 2) := by decide +kernel
theorem dX1_init_17 : decode cX1_init 17 = .ok (.putfield 15, 3) := by decide +kernel
theorem dX1_init_20 : decode cX1_init 20 = .ok (.return_, 1) := by decide +kernel
theorem dX1_hasPoint_0 : decode cX1_hasPoint 0 = .ok (.aload_n 0, 1) := by decide +kernel
theorem dX1_hasPoint_1 : decode cX1_hasPoint 1 = .ok (.getfield 9, 3) := by decide +kernel
theorem dX1_hasPoint_4 : decode cX1_hasPoint 4 = .ok (.iload_n 1, 1) := by decide +kernel
theorem dX1_hasPoint_5 : decode cX1_hasPoint 5 = .ok (.invokestatic 18, 3) := by decide +kernel
theorem dX1_hasPoint_8 : decode cX1_hasPoint 8 = .ok (.iconst 1, 1) := by decide +kernel
theorem dX1_hasPoint_9 : decode cX1_hasPoint 9 = .ok (.if_icmp .ne 7, 3) := by decide +kernel
theorem dX1_hasPoint_12 : decode cX1_hasPoint 12 = .ok (.iconst 1, 1) := by decide +kernel
theorem dX1_hasPoint_13 : decode cX1_hasPoint 13 = .ok (.goto 4, 3) := by decide +kernel
theorem dX1_hasPoint_16 : decode cX1_hasPoint 16 = .ok (.iconst 0, 1) := by decide +kernel
theorem dX1_hasPoint_17 : decode cX1_hasPoint 17 = .ok (.ireturn, 1) := by decide +kernel
theorem dX1_layPoint_0 : decode cX1_layPoint 0 = .ok (.aload_n 0, 1) := by decide +kernel
theorem dX1_layPoint_1 : decode cX1_layPoint 1 = .ok (.iload_n 1, 1) := by decide +kernel
theorem dX1_layPoint_2 : decode cX1_layPoint 2 = .ok (.invokevirtual 22, 3) := by decide +kernel
theorem dX1_layPoint_5 : decode cX1_layPoint 5 = .ok (.ifCond .ne 13, 3) := by decide +kernel
theorem dX1_layPoint_8 : decode cX1_layPoint 8 = .ok (.aload_n 0, 1) := by decide +kernel
theorem dX1_layPoint_9 : decode cX1_layPoint 9 = .ok (.dup, 1) := by decide +kernel
theorem dX1_layPoint_10 : decode cX1_layPoint 10 = .ok (.getfield 26, 3) := by decide +kernel
theorem dX1_layPoint_13 : decode cX1_layPoint 13 = .ok (.iconst 1, 1) := by decide +kernel
theorem dX1_layPoint_14 : decode cX1_layPoint 14 = .ok (.iadd, 1) := by decide +kernel
theorem dX1_layPoint_15 : decode cX1_layPoint 15 = .ok (.putfield 26, 3) := by decide +kernel
theorem dX1_layPoint_18 : decode cX1_layPoint 18 = .ok (.aload_n 0, 1) := by decide +kernel
theorem dX1_layPoint_19 : decode cX1_layPoint 19 = .ok (.getfield 9, 3) := by decide +kernel
theorem dX1_layPoint_22 : decode cX1_layPoint 22 = .ok (.iload_n 1, 1) := by decide +kernel
theorem dX1_layPoint_23 : decode cX1_layPoint 23 = .ok (.iconst 1, 1) := by decide +kernel
theorem dX1_layPoint_24 : decode cX1_layPoint 24 = .ok (.invokestatic 30, 3) := by decide +kernel
theorem dX1_layPoint_27 : decode cX1_layPoint 27 = .ok (.aload_n 0, 1) := by decide +kernel
theorem dX1_layPoint_28 : decode cX1_layPoint 28 = .ok (.getfield 15, 3) := by decide +kernel
theorem dX1_layPoint_31 : decode cX1_layPoint 31 = .ok (.iload_n 1, 1) := by decide +kernel
theorem dX1_layPoint_32 : decode cX1_layPoint 32 = .ok (.iload_n 2, 1) := by decide +kernel
theorem dX1_layPoint_33 : decode cX1_layPoint 33 = .ok (.invokestatic 30, 3) := by decide +kernel
theorem dX1_layPoint_36 : decode cX1_layPoint 36 = .ok (.aload_n 0, 1) := by decide +kernel
theorem dX1_layPoint_37 : decode cX1_layPoint 37 = .ok (.iload_n 3, 1) := by decide +kernel
theorem dX1_layPoint_38 : decode cX1_layPoint 38 = .ok (.invokevirtual 34, 3) := by decide +kernel
theorem dX1_layPoint_41 : decode cX1_layPoint 41 = .ok (.return_, 1) := by decide +kernel
theorem dX1_takePoint_0 : decode cX1_takePoint 0 = .ok (.aload_n 0, 1) := by decide +kernel
theorem dX1_takePoint_1 : decode cX1_takePoint 1 = .ok (.iload_n 1, 1) := by decide +kernel
theorem dX1_takePoint_2 : decode cX1_takePoint 2 = .ok (.invokevirtual 22, 3) := by decide +kernel
theorem dX1_takePoint_5 : decode cX1_takePoint 5 = .ok (.ifCond .eq 13, 3) := by decide +kernel
theorem dX1_takePoint_8 : decode cX1_takePoint 8 = .ok (.aload_n 0, 1) := by decide +kernel
theorem dX1_takePoint_9 : decode cX1_takePoint 9 = .ok (.dup, 1) := by decide +kernel
theorem dX1_takePoint_10 : decode cX1_takePoint 10 = .ok (.getfield 26, 3) := by decide +kernel
theorem dX1_takePoint_13 : decode cX1_takePoint 13 = .ok (.iconst 1, 1) := by decide +kernel
theorem dX1_takePoint_14 : decode cX1_takePoint 14 = .ok (.isub, 1) := by decide +kernel
theorem dX1_takePoint_15 : decode cX1_takePoint 15 = .ok (.putfield 26, 3) := by decide +kernel
theorem dX1_takePoint_18 : decode cX1_takePoint 18 = .ok (.aload_n 0, 1) := by decide +kernel
theorem dX1_takePoint_19 : decode cX1_takePoint 19 = .ok (.getfield 9, 3) := by decide +kernel
theorem dX1_takePoint_22 : decode cX1_takePoint 22 = .ok (.iload_n 1, 1) := by decide +kernel
theorem dX1_takePoint_23 : decode cX1_takePoint 23 = .ok (.iconst 0, 1) := by decide +kernel
theorem dX1_takePoint_24 : decode cX1_takePoint 24 = .ok (.invokestatic 30, 3) := by decide +kernel
theorem dX1_takePoint_27 : decode cX1_takePoint 27 = .ok (.aload_n 0, 1) := by decide +kernel
theorem dX1_takePoint_28 : decode cX1_takePoint 28 = .ok (.iload_n 2, 1) := by decide +kernel
theorem dX1_takePoint_29 : decode cX1_takePoint 29 = .ok (.invokevirtual 34, 3) := by decide +kernel
theorem dX1_takePoint_32 : decode cX1_takePoint 32 = .ok (.return_, 1) := by decide +kernel
theorem dX1_draw_0 : decode cX1_draw 0 = .ok (.iconst 0, 1) := by decide +kernel
theorem dX1_draw_1 : decode cX1_draw 1 = .ok (.istore_n 2, 1) := by decide +kernel
theorem dX1_draw_2 : decode cX1_draw 2 = .ok (.iload_n 2, 1) := by decide +kernel
theorem dX1_draw_3 : decode cX1_draw 3 = .ok (.iload_n 1, 1) := by decide +kernel
theorem dX1_draw_4 : decode cX1_draw 4 = .ok (.if_icmp .ge 42, 3) := by decide +kernel
theorem dX1_draw_7 : decode cX1_draw 7 = .ok (.aload_n 0, 1) := by decide +kernel
theorem dX1_draw_8 : decode cX1_draw 8 = .ok (.iload_n 2, 1) := by decide +kernel
theorem dX1_draw_9 : decode cX1_draw 9 = .ok (.invokevirtual 22, 3) := by decide +kernel
theorem dX1_draw_12 : decode cX1_draw 12 = .ok (.ifCond .eq 12, 3) := by decide +kernel
theorem dX1_draw_15 : decode cX1_draw 15 = .ok (.aload_n 0, 1) := by decide +kernel
theorem dX1_draw_16 : decode cX1_draw 16 = .ok (.iload_n 2, 1) := by decide +kernel
theorem dX1_draw_17 : decode cX1_draw 17 = .ok (.iload_n 1, 1) := by decide +kernel
theorem dX1_draw_18 : decode cX1_draw 18 = .ok (.invokevirtual 38, 3) := by decide +kernel
theorem dX1_draw_21 : decode cX1_draw 21 = .ok (.goto 19, 3) := by decide +kernel
theorem dX1_draw_24 : decode cX1_draw 24 = .ok (.aload_n 0, 1) := by decide +kernel
theorem dX1_draw_25 : decode cX1_draw 25 = .ok (.getfield 26, 3) := by decide +kernel
theorem dX1_draw_28 : decode cX1_draw 28 = .ok (.ifCond .ne 12, 3) := by decide +kernel
theorem dX1_draw_31 : decode cX1_draw 31 = .ok (.aload_n 0, 1) := by decide +kernel
theorem dX1_draw_32 : decode cX1_draw 32 = .ok (.getfield 15, 3) := by decide +kernel
theorem dX1_draw_35 : decode cX1_draw 35 = .ok (.iload_n 2, 1) := by decide +kernel
theorem dX1_draw_36 : decode cX1_draw 36 = .ok (.iconst 0, 1) := by decide +kernel
theorem dX1_draw_37 : decode cX1_draw 37 = .ok (.invokestatic 30, 3) := by decide +kernel
theorem dX1_draw_40 : decode cX1_draw 40 = .ok (.iinc 2 1, 3) := by decide +kernel
theorem dX1_draw_43 : decode cX1_draw 43 = .ok (.goto (-41), 3) := by decide +kernel
theorem dX1_draw_46 : decode cX1_draw 46 = .ok (.return_, 1) := by decide +kernel
theorem dX1_drawBehind_0 : decode cX1_drawBehind 0 = .ok (.iconst 1, 1) := by decide +kernel
theorem dX1_drawBehind_1 : decode cX1_drawBehind 1 = .ok (.istore_n 3, 1) := by decide +kernel
theorem dX1_drawBehind_2 : decode cX1_drawBehind 2 = .ok (.iload_n 3, 1) := by decide +kernel
theorem dX1_drawBehind_3 : decode cX1_drawBehind 3 = .ok (.iload_n 2, 1) := by decide +kernel
theorem dX1_drawBehind_4 : decode cX1_drawBehind 4 = .ok (.if_icmp .ge 23, 3) := by decide +kernel
theorem dX1_drawBehind_7 : decode cX1_drawBehind 7 = .ok (.aload_n 0, 1) := by decide +kernel
theorem dX1_drawBehind_8 : decode cX1_drawBehind 8 = .ok (.iload_n 1, 1) := by decide +kernel
theorem dX1_drawBehind_9 : decode cX1_drawBehind 9 = .ok (.iload_n 3, 1) := by decide +kernel
theorem dX1_drawBehind_10 : decode cX1_drawBehind 10 = .ok (.iadd, 1) := by decide +kernel
theorem dX1_drawBehind_11 : decode cX1_drawBehind 11 = .ok (.iload_n 2, 1) := by decide +kernel
theorem dX1_drawBehind_12 : decode cX1_drawBehind 12 = .ok (.invokestatic 42, 3) := by decide +kernel
theorem dX1_drawBehind_15 : decode cX1_drawBehind 15 = .ok (.invokevirtual 22, 3) := by decide +kernel
theorem dX1_drawBehind_18 : decode cX1_drawBehind 18 = .ok (.ifCond .ne 9, 3) := by decide +kernel
theorem dX1_drawBehind_21 : decode cX1_drawBehind 21 = .ok (.iinc 3 1, 3) := by decide +kernel
theorem dX1_drawBehind_24 : decode cX1_drawBehind 24 = .ok (.goto (-22), 3) := by decide +kernel
theorem dX1_drawBehind_27 : decode cX1_drawBehind 27 = .ok (.aload_n 0, 1) := by decide +kernel
theorem dX1_drawBehind_28 : decode cX1_drawBehind 28 = .ok (.getfield 15, 3) := by decide +kernel
theorem dX1_drawBehind_31 : decode cX1_drawBehind 31 = .ok (.iload_n 1, 1) := by decide +kernel
theorem dX1_drawBehind_32 : decode cX1_drawBehind 32 = .ok (.invokestatic 18, 3) := by decide +kernel
theorem dX1_drawBehind_35 : decode cX1_drawBehind 35 = .ok (.istore 4, 2) := by decide +kernel
theorem dX1_drawBehind_37 : decode cX1_drawBehind 37 = .ok (.aload_n 0, 1) := by decide +kernel
theorem dX1_drawBehind_38 : decode cX1_drawBehind 38 = .ok (.getfield 15, 3) := by decide +kernel
theorem dX1_drawBehind_41 : decode cX1_drawBehind 41 = .ok (.iload_n 1, 1) := by decide +kernel
theorem dX1_drawBehind_42 : decode cX1_drawBehind 42 = .ok (.iload_n 3, 1) := by decide +kernel
theorem dX1_drawBehind_43 : decode cX1_drawBehind 43 = .ok (.iadd, 1) := by decide +kernel
theorem dX1_drawBehind_44 : decode cX1_drawBehind 44 = .ok (.iload_n 2, 1) := by decide +kernel
theorem dX1_drawBehind_45 : decode cX1_drawBehind 45 = .ok (.invokestatic 42, 3) := by decide +kernel
theorem dX1_drawBehind_48 : decode cX1_drawBehind 48 = .ok (.invokestatic 18, 3) := by decide +kernel
theorem dX1_drawBehind_51 : decode cX1_drawBehind 51 = .ok (.iload 4, 2) := by decide +kernel
theorem dX1_drawBehind_53 : decode cX1_drawBehind 53 = .ok (.isub, 1) := by decide +kernel
theorem dX1_drawBehind_54 : decode cX1_drawBehind 54 = .ok (.istore 5, 2) := by decide +kernel
theorem dX1_drawBehind_56 : decode cX1_drawBehind 56 = .ok (.iconst 1, 1) := by decide +kernel
theorem dX1_drawBehind_57 : decode cX1_drawBehind 57 = .ok (.istore 6, 2) := by decide +kernel
theorem dX1_drawBehind_59 : decode cX1_drawBehind 59 = .ok (.iload 6, 2) := by decide +kernel
theorem dX1_drawBehind_61 : decode cX1_drawBehind 61 = .ok (.iload_n 3, 1) := by decide +kernel
theorem dX1_drawBehind_62 : decode cX1_drawBehind 62 = .ok (.if_icmp .ge 36, 3) := by decide +kernel
theorem dX1_drawBehind_65 : decode cX1_drawBehind 65 = .ok (.aload_n 0, 1) := by decide +kernel
theorem dX1_drawBehind_66 : decode cX1_drawBehind 66 = .ok (.getfield 15, 3) := by decide +kernel
theorem dX1_drawBehind_69 : decode cX1_drawBehind 69 = .ok (.iload_n 1, 1) := by decide +kernel
theorem dX1_drawBehind_70 : decode cX1_drawBehind 70 = .ok (.iload 6, 2) := by decide +kernel
theorem dX1_drawBehind_72 : decode cX1_drawBehind 72 = .ok (.iadd, 1) := by decide +kernel
theorem dX1_drawBehind_73 : decode cX1_drawBehind 73 = .ok (.iload_n 2, 1) := by decide +kernel
theorem dX1_drawBehind_74 : decode cX1_drawBehind 74 = .ok (.invokestatic 42, 3) := by decide +kernel
theorem dX1_drawBehind_77 : decode cX1_drawBehind 77 = .ok (.iload 4, 2) := by decide +kernel
theorem dX1_drawBehind_79 : decode cX1_drawBehind 79 = .ok (.iload 5, 2) := by decide +kernel
theorem dX1_drawBehind_81 : decode cX1_drawBehind 81 = .ok (.iload 6, 2) := by decide +kernel
theorem dX1_drawBehind_83 : decode cX1_drawBehind 83 = .ok (.imul, 1) := by decide +kernel
theorem dX1_drawBehind_84 : decode cX1_drawBehind 84 = .ok (.iload_n 3, 1) := by decide +kernel
theorem dX1_drawBehind_85 : decode cX1_drawBehind 85 = .ok (.invokestatic 46, 3) := by decide +kernel
theorem dX1_drawBehind_88 : decode cX1_drawBehind 88 = .ok (.iadd, 1) := by decide +kernel
theorem dX1_drawBehind_89 : decode cX1_drawBehind 89 = .ok (.invokestatic 30, 3) := by decide +kernel
theorem dX1_drawBehind_92 : decode cX1_drawBehind 92 = .ok (.iinc 6 1, 3) := by decide +kernel
theorem dX1_drawBehind_95 : decode cX1_drawBehind 95 = .ok (.goto (-36), 3) := by decide +kernel
theorem dX1_drawBehind_98 : decode cX1_drawBehind 98 = .ok (.return_, 1) := by decide +kernel
theorem dX2_init_0 : decode cX2_init 0 = .ok (.aload_n 0, 1) := by decide +kernel
theorem dX2_init_1 : decode cX2_init 1 = .ok (.invokespecial 3, 3) := by decide +kernel
theorem dX2_init_4 : decode cX2_init 4 = .ok (.aload_n 0, 1) := by decide +kernel
theorem dX2_init_5 : decode cX2_init 5 = .ok (.sipush 1000, 3) := by decide +kernel
theorem dX2_init_8 : decode cX2_init 8 = .ok (.newarray .int, 2) := by decide +kernel
theorem dX2_init_10 : decode cX2_init 10 = .ok (.putfield 9, 3) := by decide +kernel
theorem dX2_init_13 : decode cX2_init 13 = .ok (.return_, 1) := by decide +kernel
theorem dX2_hear_0 : decode cX2_hear 0 = .ok (.aload_n 0, 1) := by decide +kernel
theorem dX2_hear_1 : decode cX2_hear 1 = .ok (.dup, 1) := by decide +kernel
theorem dX2_hear_2 : decode cX2_hear 2 = .ok (.getfield 22, 3) := by decide +kernel
theorem dX2_hear_5 : decode cX2_hear 5 = .ok (.iconst 1, 1) := by decide +kernel
theorem dX2_hear_6 : decode cX2_hear 6 = .ok (.iadd, 1) := by decide +kernel
theorem dX2_hear_7 : decode cX2_hear 7 = .ok (.putfield 22, 3) := by decide +kernel
theorem dX2_hear_10 : decode cX2_hear 10 = .ok (.aload_n 0, 1) := by decide +kernel
theorem dX2_hear_11 : decode cX2_hear 11 = .ok (.getfield 15, 3) := by decide +kernel
theorem dX2_hear_14 : decode cX2_hear 14 = .ok (.sipush 250, 3) := by decide +kernel
theorem dX2_hear_17 : decode cX2_hear 17 = .ok (.if_icmp .ge 68, 3) := by decide +kernel
theorem dX2_hear_20 : decode cX2_hear 20 = .ok (.aload_n 0, 1) := by decide +kernel
theorem dX2_hear_21 : decode cX2_hear 21 = .ok (.getfield 15, 3) := by decide +kernel
theorem dX2_hear_24 : decode cX2_hear 24 = .ok (.iconst 4, 1) := by decide +kernel
theorem dX2_hear_25 : decode cX2_hear 25 = .ok (.imul, 1) := by decide +kernel
theorem dX2_hear_26 : decode cX2_hear 26 = .ok (.istore 5, 2) := by decide +kernel
theorem dX2_hear_28 : decode cX2_hear 28 = .ok (.aload_n 0, 1) := by decide +kernel
theorem dX2_hear_29 : decode cX2_hear 29 = .ok (.getfield 9, 3) := by decide +kernel
theorem dX2_hear_32 : decode cX2_hear 32 = .ok (.iload 5, 2) := by decide +kernel
theorem dX2_hear_34 : decode cX2_hear 34 = .ok (.iload_n 1, 1) := by decide +kernel
theorem dX2_hear_35 : decode cX2_hear 35 = .ok (.invokestatic 28, 3) := by decide +kernel
theorem dX2_hear_38 : decode cX2_hear 38 = .ok (.aload_n 0, 1) := by decide +kernel
theorem dX2_hear_39 : decode cX2_hear 39 = .ok (.getfield 9, 3) := by decide +kernel
theorem dX2_hear_42 : decode cX2_hear 42 = .ok (.iload 5, 2) := by decide +kernel
theorem dX2_hear_44 : decode cX2_hear 44 = .ok (.iconst 1, 1) := by decide +kernel
theorem dX2_hear_45 : decode cX2_hear 45 = .ok (.iadd, 1) := by decide +kernel
theorem dX2_hear_46 : decode cX2_hear 46 = .ok (.iload_n 2, 1) := by decide +kernel
theorem dX2_hear_47 : decode cX2_hear 47 = .ok (.invokestatic 28, 3) := by decide +kernel
theorem dX2_hear_50 : decode cX2_hear 50 = .ok (.aload_n 0, 1) := by decide +kernel
theorem dX2_hear_51 : decode cX2_hear 51 = .ok (.getfield 9, 3) := by decide +kernel
theorem dX2_hear_54 : decode cX2_hear 54 = .ok (.iload 5, 2) := by decide +kernel
theorem dX2_hear_56 : decode cX2_hear 56 = .ok (.iconst 2, 1) := by decide +kernel
theorem dX2_hear_57 : decode cX2_hear 57 = .ok (.iadd, 1) := by decide +kernel
theorem dX2_hear_58 : decode cX2_hear 58 = .ok (.iload_n 3, 1) := by decide +kernel
theorem dX2_hear_59 : decode cX2_hear 59 = .ok (.invokestatic 28, 3) := by decide +kernel
theorem dX2_hear_62 : decode cX2_hear 62 = .ok (.aload_n 0, 1) := by decide +kernel
theorem dX2_hear_63 : decode cX2_hear 63 = .ok (.getfield 9, 3) := by decide +kernel
theorem dX2_hear_66 : decode cX2_hear 66 = .ok (.iload 5, 2) := by decide +kernel
theorem dX2_hear_68 : decode cX2_hear 68 = .ok (.iconst 3, 1) := by decide +kernel
theorem dX2_hear_69 : decode cX2_hear 69 = .ok (.iadd, 1) := by decide +kernel
theorem dX2_hear_70 : decode cX2_hear 70 = .ok (.iload 4, 2) := by decide +kernel
theorem dX2_hear_72 : decode cX2_hear 72 = .ok (.invokestatic 28, 3) := by decide +kernel
theorem dX2_hear_75 : decode cX2_hear 75 = .ok (.aload_n 0, 1) := by decide +kernel
theorem dX2_hear_76 : decode cX2_hear 76 = .ok (.dup, 1) := by decide +kernel
theorem dX2_hear_77 : decode cX2_hear 77 = .ok (.getfield 15, 3) := by decide +kernel
theorem dX2_hear_80 : decode cX2_hear 80 = .ok (.iconst 1, 1) := by decide +kernel
theorem dX2_hear_81 : decode cX2_hear 81 = .ok (.iadd, 1) := by decide +kernel
theorem dX2_hear_82 : decode cX2_hear 82 = .ok (.putfield 15, 3) := by decide +kernel
theorem dX2_hear_85 : decode cX2_hear 85 = .ok (.return_, 1) := by decide +kernel
theorem dX2_told_0 : decode cX2_told 0 = .ok (.aload_n 0, 1) := by decide +kernel
theorem dX2_told_1 : decode cX2_told 1 = .ok (.getfield 9, 3) := by decide +kernel
theorem dX2_told_4 : decode cX2_told 4 = .ok (.iload_n 1, 1) := by decide +kernel
theorem dX2_told_5 : decode cX2_told 5 = .ok (.iconst 4, 1) := by decide +kernel
theorem dX2_told_6 : decode cX2_told 6 = .ok (.imul, 1) := by decide +kernel
theorem dX2_told_7 : decode cX2_told 7 = .ok (.iload_n 2, 1) := by decide +kernel
theorem dX2_told_8 : decode cX2_told 8 = .ok (.iadd, 1) := by decide +kernel
theorem dX2_told_9 : decode cX2_told 9 = .ok (.invokestatic 32, 3) := by decide +kernel
theorem dX2_told_12 : decode cX2_told 12 = .ok (.ireturn, 1) := by decide +kernel
theorem dX2_clearAll_0 : decode cX2_clearAll 0 = .ok (.aload_n 0, 1) := by decide +kernel
theorem dX2_clearAll_1 : decode cX2_clearAll 1 = .ok (.iconst 0, 1) := by decide +kernel
theorem dX2_clearAll_2 : decode cX2_clearAll 2 = .ok (.putfield 15, 3) := by decide +kernel
theorem dX2_clearAll_5 : decode cX2_clearAll 5 = .ok (.aload_n 0, 1) := by decide +kernel
theorem dX2_clearAll_6 : decode cX2_clearAll 6 = .ok (.iconst 0, 1) := by decide +kernel
theorem dX2_clearAll_7 : decode cX2_clearAll 7 = .ok (.putfield 22, 3) := by decide +kernel
theorem dX2_clearAll_10 : decode cX2_clearAll 10 = .ok (.return_, 1) := by decide +kernel
theorem dX3_init_0 : decode cX3_init 0 = .ok (.aload_n 0, 1) := by decide +kernel
theorem dX3_init_1 : decode cX3_init 1 = .ok (.invokespecial 3, 3) := by decide +kernel
theorem dX3_init_4 : decode cX3_init 4 = .ok (.aload_n 0, 1) := by decide +kernel
theorem dX3_init_5 : decode cX3_init 5 = .ok (.iload_n 1, 1) := by decide +kernel
theorem dX3_init_6 : decode cX3_init 6 = .ok (.putfield 9, 3) := by decide +kernel
theorem dX3_init_9 : decode cX3_init 9 = .ok (.return_, 1) := by decide +kernel
theorem dX3_speedUnder_0 : decode cX3_speedUnder 0 = .ok (.sipush 200, 3) := by decide +kernel
theorem dX3_speedUnder_3 : decode cX3_speedUnder 3 = .ok (.iload_n 1, 1) := by decide +kernel
theorem dX3_speedUnder_4 : decode cX3_speedUnder 4 = .ok (.imul, 1) := by decide +kernel
theorem dX3_speedUnder_5 : decode cX3_speedUnder 5 = .ok (.istore_n 2, 1) := by decide +kernel
theorem dX3_speedUnder_6 : decode cX3_speedUnder 6 = .ok (.iload_n 2, 1) := by decide +kernel
theorem dX3_speedUnder_7 : decode cX3_speedUnder 7 = .ok (.ifCond .le 17, 3) := by decide +kernel
theorem dX3_speedUnder_10 : decode cX3_speedUnder 10 = .ok (.aload_n 0, 1) := by decide +kernel
theorem dX3_speedUnder_11 : decode cX3_speedUnder 11 = .ok (.getfield 9, 3) := by decide +kernel
theorem dX3_speedUnder_14 : decode cX3_speedUnder 14 = .ok (.aload_n 0, 1) := by decide +kernel
theorem dX3_speedUnder_15 : decode cX3_speedUnder 15 = .ok (.getfield 15, 3) := by decide +kernel
theorem dX3_speedUnder_18 : decode cX3_speedUnder 18 = .ok (.imul, 1) := by decide +kernel
theorem dX3_speedUnder_19 : decode cX3_speedUnder 19 = .ok (.iload_n 2, 1) := by decide +kernel
theorem dX3_speedUnder_20 : decode cX3_speedUnder 20 = .ok (.idiv, 1) := by decide +kernel
theorem dX3_speedUnder_21 : decode cX3_speedUnder 21 = .ok (.goto 4, 3) := by decide +kernel
theorem dX3_speedUnder_24 : decode cX3_speedUnder 24 = .ok (.iconst 0, 1) := by decide +kernel
theorem dX3_speedUnder_25 : decode cX3_speedUnder 25 = .ok (.istore_n 3, 1) := by decide +kernel
theorem dX3_speedUnder_26 : decode cX3_speedUnder 26 = .ok (.iload_n 3, 1) := by decide +kernel
theorem dX3_speedUnder_27 : decode cX3_speedUnder 27 = .ok (.iconst 1, 1) := by decide +kernel
theorem dX3_speedUnder_28 : decode cX3_speedUnder 28 = .ok (.invokestatic 34, 3) := by decide +kernel
theorem dX3_speedUnder_31 : decode cX3_speedUnder 31 = .ok (.sipush 400, 3) := by decide +kernel
theorem dX3_speedUnder_34 : decode cX3_speedUnder 34 = .ok (.invokestatic 40, 3) := by decide +kernel
theorem dX3_speedUnder_37 : decode cX3_speedUnder 37 = .ok (.aload_n 0, 1) := by decide +kernel
theorem dX3_speedUnder_38 : decode cX3_speedUnder 38 = .ok (.getfield 15, 3) := by decide +kernel
theorem dX3_speedUnder_41 : decode cX3_speedUnder 41 = .ok (.invokestatic 40, 3) := by decide +kernel
theorem dX3_speedUnder_44 : decode cX3_speedUnder 44 = .ok (.ireturn, 1) := by decide +kernel
theorem dX3_turn_0 : decode cX3_turn 0 = .ok (.aload_n 0, 1) := by decide +kernel
theorem dX3_turn_1 : decode cX3_turn 1 = .ok (.iload_n 1, 1) := by decide +kernel
theorem dX3_turn_2 : decode cX3_turn 2 = .ok (.putfield 28, 3) := by decide +kernel
theorem dX3_turn_5 : decode cX3_turn 5 = .ok (.aload_n 0, 1) := by decide +kernel
theorem dX3_turn_6 : decode cX3_turn 6 = .ok (.dup, 1) := by decide +kernel
theorem dX3_turn_7 : decode cX3_turn 7 = .ok (.getfield 21, 3) := by decide +kernel
theorem dX3_turn_10 : decode cX3_turn 10 = .ok (.iload_n 1, 1) := by decide +kernel
theorem dX3_turn_11 : decode cX3_turn 11 = .ok (.i2l, 1) := by decide +kernel
theorem dX3_turn_12 : decode cX3_turn 12 = .ok (.ladd, 1) := by decide +kernel
theorem dX3_turn_13 : decode cX3_turn 13 = .ok (.putfield 21, 3) := by decide +kernel
theorem dX3_turn_16 : decode cX3_turn 16 = .ok (.aload_n 0, 1) := by decide +kernel
theorem dX3_turn_17 : decode cX3_turn 17 = .ok (.dup, 1) := by decide +kernel
theorem dX3_turn_18 : decode cX3_turn 18 = .ok (.getfield 15, 3) := by decide +kernel
theorem dX3_turn_21 : decode cX3_turn 21 = .ok (.iload_n 1, 1) := by decide +kernel
theorem dX3_turn_22 : decode cX3_turn 22 = .ok (.isub, 1) := by decide +kernel
theorem dX3_turn_23 : decode cX3_turn 23 = .ok (.putfield 15, 3) := by decide +kernel
theorem dX3_turn_26 : decode cX3_turn 26 = .ok (.return_, 1) := by decide +kernel
theorem dX3_payForNote_0 : decode cX3_payForNote 0 = .ok (.aload_n 0, 1) := by decide +kernel
theorem dX3_payForNote_1 : decode cX3_payForNote 1 = .ok (.dup, 1) := by decide +kernel
theorem dX3_payForNote_2 : decode cX3_payForNote 2 = .ok (.getfield 15, 3) := by decide +kernel
theorem dX3_payForNote_5 : decode cX3_payForNote 5 = .ok (.bipush 10, 2) := by decide +kernel
theorem dX3_payForNote_7 : decode cX3_payForNote 7 = .ok (.aload_n 0, 1) := by decide +kernel
theorem dX3_payForNote_8 : decode cX3_payForNote 8 = .ok (.getfield 15, 3) := by decide +kernel
theorem dX3_payForNote_11 : decode cX3_payForNote 11 = .ok (.invokestatic 40, 3) := by decide +kernel
theorem dX3_payForNote_14 : decode cX3_payForNote 14 = .ok (.isub, 1) := by decide +kernel
theorem dX3_payForNote_15 : decode cX3_payForNote 15 = .ok (.putfield 15, 3) := by decide +kernel
theorem dX3_payForNote_18 : decode cX3_payForNote 18 = .ok (.return_, 1) := by decide +kernel
theorem dX4_init_0 : decode cX4_init 0 = .ok (.aload_n 0, 1) := by decide +kernel
theorem dX4_init_1 : decode cX4_init 1 = .ok (.invokespecial 1, 3) := by decide +kernel
theorem dX4_init_4 : decode cX4_init 4 = .ok (.aload_n 0, 1) := by decide +kernel
theorem dX4_init_5 : decode cX4_init 5 = .ok (.iconst 4, 1) := by decide +kernel
theorem dX4_init_6 : decode cX4_init 6 = .ok (.anewarray 9, 3) := by decide +kernel
theorem dX4_init_9 : decode cX4_init 9 = .ok (.putfield 11, 3) := by decide +kernel
theorem dX4_init_12 : decode cX4_init 12 = .ok (.aload_n 0, 1) := by decide +kernel
theorem dX4_init_13 : decode cX4_init 13 = .ok (.bipush 8, 2) := by decide +kernel
theorem dX4_init_15 : decode cX4_init 15 = .ok (.anewarray 15, 3) := by decide +kernel
theorem dX4_init_18 : decode cX4_init 18 = .ok (.putfield 17, 3) := by decide +kernel
theorem dX4_init_21 : decode cX4_init 21 = .ok (.aload_n 0, 1) := by decide +kernel
theorem dX4_init_22 : decode cX4_init 22 = .ok (.new 21, 3) := by decide +kernel
theorem dX4_init_25 : decode cX4_init 25 = .ok (.dup, 1) := by decide +kernel
theorem dX4_init_26 : decode cX4_init 26 = .ok (.invokespecial 23, 3) := by decide +kernel
theorem dX4_init_29 : decode cX4_init 29 = .ok (.putfield 24, 3) := by decide +kernel
theorem dX4_init_32 : decode cX4_init 32 = .ok (.return_, 1) := by decide +kernel
theorem dX4_addSpring_0 : decode cX4_addSpring 0 = .ok (.iload_n 1, 1) := by decide +kernel
theorem dX4_addSpring_1 : decode cX4_addSpring 1 = .ok (.iconst 1, 1) := by decide +kernel
theorem dX4_addSpring_2 : decode cX4_addSpring 2 = .ok (.bipush 50, 2) := by decide +kernel
theorem dX4_addSpring_4 : decode cX4_addSpring 4 = .ok (.invokestatic 28, 3) := by decide +kernel
theorem dX4_addSpring_7 : decode cX4_addSpring 7 = .ok (.ifCond .ne 13, 3) := by decide +kernel
theorem dX4_addSpring_10 : decode cX4_addSpring 10 = .ok (.new 32, 3) := by decide +kernel
theorem dX4_addSpring_13 : decode cX4_addSpring 13 = .ok (.dup, 1) := by decide +kernel
theorem dX4_addSpring_14 : decode cX4_addSpring 14 = .ok (.ldc 34, 2) := by decide +kernel
theorem dX4_addSpring_16 : decode cX4_addSpring 16 = .ok (.invokespecial 36, 3) := by decide +kernel
theorem dX4_addSpring_19 : decode cX4_addSpring 19 = .ok (.athrow, 1) := by decide +kernel
theorem dX4_addSpring_20 : decode cX4_addSpring 20 = .ok (.aload_n 0, 1) := by decide +kernel
theorem dX4_addSpring_21 : decode cX4_addSpring 21 = .ok (.getfield 39, 3) := by decide +kernel
theorem dX4_addSpring_24 : decode cX4_addSpring 24 = .ok (.istore_n 2, 1) := by decide +kernel
theorem dX4_addSpring_25 : decode cX4_addSpring 25 = .ok (.iload_n 2, 1) := by decide +kernel
theorem dX4_addSpring_26 : decode cX4_addSpring 26 = .ok (.ifCond .lt 12, 3) := by decide +kernel
theorem dX4_addSpring_29 : decode cX4_addSpring 29 = .ok (.iload_n 2, 1) := by decide +kernel
theorem dX4_addSpring_30 : decode cX4_addSpring 30 = .ok (.aload_n 0, 1) := by decide +kernel
theorem dX4_addSpring_31 : decode cX4_addSpring 31 = .ok (.getfield 11, 3) := by decide +kernel
theorem dX4_addSpring_34 : decode cX4_addSpring 34 = .ok (.arraylength, 1) := by decide +kernel
theorem dX4_addSpring_35 : decode cX4_addSpring 35 = .ok (.if_icmp .lt 13, 3) := by decide +kernel
theorem dX4_addSpring_38 : decode cX4_addSpring 38 = .ok (.new 43, 3) := by decide +kernel
theorem dX4_addSpring_41 : decode cX4_addSpring 41 = .ok (.dup, 1) := by decide +kernel
theorem dX4_addSpring_42 : decode cX4_addSpring 42 = .ok (.ldc 45, 2) := by decide +kernel
theorem dX4_addSpring_44 : decode cX4_addSpring 44 = .ok (.invokespecial 47, 3) := by decide +kernel
theorem dX4_addSpring_47 : decode cX4_addSpring 47 = .ok (.athrow, 1) := by decide +kernel
theorem dX4_addSpring_48 : decode cX4_addSpring 48 = .ok (.aload_n 0, 1) := by decide +kernel
theorem dX4_addSpring_49 : decode cX4_addSpring 49 = .ok (.getfield 11, 3) := by decide +kernel
theorem dX4_addSpring_52 : decode cX4_addSpring 52 = .ok (.iload_n 2, 1) := by decide +kernel
theorem dX4_addSpring_53 : decode cX4_addSpring 53 = .ok (.new 9, 3) := by decide +kernel
theorem dX4_addSpring_56 : decode cX4_addSpring 56 = .ok (.dup, 1) := by decide +kernel
theorem dX4_addSpring_57 : decode cX4_addSpring 57 = .ok (.iload_n 1, 1) := by decide +kernel
theorem dX4_addSpring_58 : decode cX4_addSpring 58 = .ok (.invokespecial 48, 3) := by decide +kernel
theorem dX4_addSpring_61 : decode cX4_addSpring 61 = .ok (.aastore, 1) := by decide +kernel
theorem dX4_addSpring_62 : decode cX4_addSpring 62 = .ok (.aload_n 0, 1) := by decide +kernel
theorem dX4_addSpring_63 : decode cX4_addSpring 63 = .ok (.dup, 1) := by decide +kernel
theorem dX4_addSpring_64 : decode cX4_addSpring 64 = .ok (.getfield 39, 3) := by decide +kernel
theorem dX4_addSpring_67 : decode cX4_addSpring 67 = .ok (.iconst 1, 1) := by decide +kernel
theorem dX4_addSpring_68 : decode cX4_addSpring 68 = .ok (.iadd, 1) := by decide +kernel
theorem dX4_addSpring_69 : decode cX4_addSpring 69 = .ok (.putfield 39, 3) := by decide +kernel
theorem dX4_addSpring_72 : decode cX4_addSpring 72 = .ok (.iload_n 2, 1) := by decide +kernel
theorem dX4_addSpring_73 : decode cX4_addSpring 73 = .ok (.ireturn, 1) := by decide +kernel
theorem dX4_wind_0 : decode cX4_wind 0 = .ok (.aload_n 0, 1) := by decide +kernel
theorem dX4_wind_1 : decode cX4_wind 1 = .ok (.iload_n 1, 1) := by decide +kernel
theorem dX4_wind_2 : decode cX4_wind 2 = .ok (.invokevirtual 51, 3) := by decide +kernel
theorem dX4_wind_5 : decode cX4_wind 5 = .ok (.astore_n 3, 1) := by decide +kernel
theorem dX4_wind_6 : decode cX4_wind 6 = .ok (.aload_n 3, 1) := by decide +kernel
theorem dX4_wind_7 : decode cX4_wind 7 = .ok (.ifnonnull 13, 3) := by decide +kernel
theorem dX4_wind_10 : decode cX4_wind 10 = .ok (.new 55, 3) := by decide +kernel
theorem dX4_wind_13 : decode cX4_wind 13 = .ok (.dup, 1) := by decide +kernel
theorem dX4_wind_14 : decode cX4_wind 14 = .ok (.ldc 57, 2) := by decide +kernel
theorem dX4_wind_16 : decode cX4_wind 16 = .ok (.invokespecial 59, 3) := by decide +kernel
theorem dX4_wind_19 : decode cX4_wind 19 = .ok (.athrow, 1) := by decide +kernel
theorem dX4_wind_20 : decode cX4_wind 20 = .ok (.iload_n 2, 1) := by decide +kernel
theorem dX4_wind_21 : decode cX4_wind 21 = .ok (.iconst 1, 1) := by decide +kernel
theorem dX4_wind_22 : decode cX4_wind 22 = .ok (.ldc 60, 2) := by decide +kernel
theorem dX4_wind_24 : decode cX4_wind 24 = .ok (.invokestatic 28, 3) := by decide +kernel
theorem dX4_wind_27 : decode cX4_wind 27 = .ok (.ifCond .ne 13, 3) := by decide +kernel
theorem dX4_wind_30 : decode cX4_wind 30 = .ok (.new 32, 3) := by decide +kernel
theorem dX4_wind_33 : decode cX4_wind 33 = .ok (.dup, 1) := by decide +kernel
theorem dX4_wind_34 : decode cX4_wind 34 = .ok (.ldc 61, 2) := by decide +kernel
theorem dX4_wind_36 : decode cX4_wind 36 = .ok (.invokespecial 36, 3) := by decide +kernel
theorem dX4_wind_39 : decode cX4_wind 39 = .ok (.athrow, 1) := by decide +kernel
theorem dX4_wind_40 : decode cX4_wind 40 = .ok (.aload_n 3, 1) := by decide +kernel
theorem dX4_wind_41 : decode cX4_wind 41 = .ok (.aload_n 3, 1) := by decide +kernel
theorem dX4_wind_42 : decode cX4_wind 42 = .ok (.getfield 63, 3) := by decide +kernel
theorem dX4_wind_45 : decode cX4_wind 45 = .ok (.iload_n 2, 1) := by decide +kernel
theorem dX4_wind_46 : decode cX4_wind 46 = .ok (.iadd, 1) := by decide +kernel
theorem dX4_wind_47 : decode cX4_wind 47 = .ok (.ldc 60, 2) := by decide +kernel
theorem dX4_wind_49 : decode cX4_wind 49 = .ok (.invokestatic 66, 3) := by decide +kernel
theorem dX4_wind_52 : decode cX4_wind 52 = .ok (.putfield 63, 3) := by decide +kernel
theorem dX4_wind_55 : decode cX4_wind 55 = .ok (.aload_n 3, 1) := by decide +kernel
theorem dX4_wind_56 : decode cX4_wind 56 = .ok (.getfield 63, 3) := by decide +kernel
theorem dX4_wind_59 : decode cX4_wind 59 = .ok (.ireturn, 1) := by decide +kernel
theorem dX4_couple_0 : decode cX4_couple 0 = .ok (.aload_n 0, 1) := by decide +kernel
theorem dX4_couple_1 : decode cX4_couple 1 = .ok (.iload_n 1, 1) := by decide +kernel
theorem dX4_couple_2 : decode cX4_couple 2 = .ok (.invokevirtual 51, 3) := by decide +kernel
theorem dX4_couple_5 : decode cX4_couple 5 = .ok (.ifnull 11, 3) := by decide +kernel
theorem dX4_couple_8 : decode cX4_couple 8 = .ok (.aload_n 0, 1) := by decide +kernel
theorem dX4_couple_9 : decode cX4_couple 9 = .ok (.iload_n 2, 1) := by decide +kernel
theorem dX4_couple_10 : decode cX4_couple 10 = .ok (.invokevirtual 51, 3) := by decide +kernel
theorem dX4_couple_13 : decode cX4_couple 13 = .ok (.ifnonnull 13, 3) := by decide +kernel
theorem dX4_couple_16 : decode cX4_couple 16 = .ok (.new 55, 3) := by decide +kernel
theorem dX4_couple_19 : decode cX4_couple 19 = .ok (.dup, 1) := by decide +kernel
theorem dX4_couple_20 : decode cX4_couple 20 = .ok (.ldc 57, 2) := by decide +kernel
theorem dX4_couple_22 : decode cX4_couple 22 = .ok (.invokespecial 59, 3) := by decide +kernel
theorem dX4_couple_25 : decode cX4_couple 25 = .ok (.athrow, 1) := by decide +kernel
theorem dX4_couple_26 : decode cX4_couple 26 = .ok (.iload_n 1, 1) := by decide +kernel
theorem dX4_couple_27 : decode cX4_couple 27 = .ok (.iload_n 2, 1) := by decide +kernel
theorem dX4_couple_28 : decode cX4_couple 28 = .ok (.if_icmp .ne 13, 3) := by decide +kernel
theorem dX4_couple_31 : decode cX4_couple 31 = .ok (.new 32, 3) := by decide +kernel
theorem dX4_couple_34 : decode cX4_couple 34 = .ok (.dup, 1) := by decide +kernel
theorem dX4_couple_35 : decode cX4_couple 35 = .ok (.ldc 76, 2) := by decide +kernel
theorem dX4_couple_37 : decode cX4_couple 37 = .ok (.invokespecial 36, 3) := by decide +kernel
theorem dX4_couple_40 : decode cX4_couple 40 = .ok (.athrow, 1) := by decide +kernel
theorem dX4_couple_41 : decode cX4_couple 41 = .ok (.iload_n 1, 1) := by decide +kernel
theorem dX4_couple_42 : decode cX4_couple 42 = .ok (.iload_n 2, 1) := by decide +kernel
theorem dX4_couple_43 : decode cX4_couple 43 = .ok (.invokestatic 78, 3) := by decide +kernel
theorem dX4_couple_46 : decode cX4_couple 46 = .ok (.istore 4, 2) := by decide +kernel
theorem dX4_couple_48 : decode cX4_couple 48 = .ok (.aload_n 0, 1) := by decide +kernel
theorem dX4_couple_49 : decode cX4_couple 49 = .ok (.iload_n 3, 1) := by decide +kernel
theorem dX4_couple_50 : decode cX4_couple 50 = .ok (.ifCond .eq 13, 3) := by decide +kernel
theorem dX4_couple_53 : decode cX4_couple 53 = .ok (.aload_n 0, 1) := by decide +kernel
theorem dX4_couple_54 : decode cX4_couple 54 = .ok (.getfield 81, 3) := by decide +kernel
theorem dX4_couple_57 : decode cX4_couple 57 = .ok (.iload 4, 2) := by decide +kernel
theorem dX4_couple_59 : decode cX4_couple 59 = .ok (.ior, 1) := by decide +kernel
theorem dX4_couple_60 : decode cX4_couple 60 = .ok (.goto 12, 3) := by decide +kernel
theorem dX4_couple_63 : decode cX4_couple 63 = .ok (.aload_n 0, 1) := by decide +kernel
theorem dX4_couple_64 : decode cX4_couple 64 = .ok (.getfield 81, 3) := by decide +kernel
theorem dX4_couple_67 : decode cX4_couple 67 = .ok (.iload 4, 2) := by decide +kernel
theorem dX4_couple_69 : decode cX4_couple 69 = .ok (.iconst (-1), 1) := by decide +kernel
theorem dX4_couple_70 : decode cX4_couple 70 = .ok (.ixor, 1) := by decide +kernel
theorem dX4_couple_71 : decode cX4_couple 71 = .ok (.iand, 1) := by decide +kernel
theorem dX4_couple_72 : decode cX4_couple 72 = .ok (.putfield 81, 3) := by decide +kernel
theorem dX4_couple_75 : decode cX4_couple 75 = .ok (.aload_n 0, 1) := by decide +kernel
theorem dX4_couple_76 : decode cX4_couple 76 = .ok (.getfield 81, 3) := by decide +kernel
theorem dX4_couple_79 : decode cX4_couple 79 = .ok (.invokestatic 84, 3) := by decide +kernel
theorem dX4_couple_82 : decode cX4_couple 82 = .ok (.ireturn, 1) := by decide +kernel
theorem dX4_spring_0 : decode cX4_spring 0 = .ok (.aload_n 0, 1) := by decide +kernel
theorem dX4_spring_1 : decode cX4_spring 1 = .ok (.iload_n 1, 1) := by decide +kernel
theorem dX4_spring_2 : decode cX4_spring 2 = .ok (.invokevirtual 51, 3) := by decide +kernel
theorem dX4_spring_5 : decode cX4_spring 5 = .ok (.astore_n 3, 1) := by decide +kernel
theorem dX4_spring_6 : decode cX4_spring 6 = .ok (.aload_n 3, 1) := by decide +kernel
theorem dX4_spring_7 : decode cX4_spring 7 = .ok (.ifnonnull 13, 3) := by decide +kernel
theorem dX4_spring_10 : decode cX4_spring 10 = .ok (.new 55, 3) := by decide +kernel
theorem dX4_spring_13 : decode cX4_spring 13 = .ok (.dup, 1) := by decide +kernel
theorem dX4_spring_14 : decode cX4_spring 14 = .ok (.ldc 57, 2) := by decide +kernel
theorem dX4_spring_16 : decode cX4_spring 16 = .ok (.invokespecial 59, 3) := by decide +kernel
theorem dX4_spring_19 : decode cX4_spring 19 = .ok (.athrow, 1) := by decide +kernel
theorem dX4_spring_20 : decode cX4_spring 20 = .ok (.iload_n 2, 1) := by decide +kernel
theorem dX4_spring_21 : decode cX4_spring 21 = .ok (.tableswitch 89 0 6 #[43, 48, 53, 59, 64, 77, 83], 43) := by decide +kernel
theorem dX4_spring_64 : decode cX4_spring 64 = .ok (.aload_n 3, 1) := by decide +kernel
theorem dX4_spring_65 : decode cX4_spring 65 = .ok (.getfield 90, 3) := by decide +kernel
theorem dX4_spring_68 : decode cX4_spring 68 = .ok (.ireturn, 1) := by decide +kernel
theorem dX4_spring_69 : decode cX4_spring 69 = .ok (.aload_n 3, 1) := by decide +kernel
theorem dX4_spring_70 : decode cX4_spring 70 = .ok (.getfield 63, 3) := by decide +kernel
theorem dX4_spring_73 : decode cX4_spring 73 = .ok (.ireturn, 1) := by decide +kernel
theorem dX4_spring_74 : decode cX4_spring 74 = .ok (.aload_n 3, 1) := by decide +kernel
theorem dX4_spring_75 : decode cX4_spring 75 = .ok (.getfield 93, 3) := by decide +kernel
theorem dX4_spring_78 : decode cX4_spring 78 = .ok (.l2i, 1) := by decide +kernel
theorem dX4_spring_79 : decode cX4_spring 79 = .ok (.ireturn, 1) := by decide +kernel
theorem dX4_spring_80 : decode cX4_spring 80 = .ok (.aload_n 3, 1) := by decide +kernel
theorem dX4_spring_81 : decode cX4_spring 81 = .ok (.getfield 97, 3) := by decide +kernel
theorem dX4_spring_84 : decode cX4_spring 84 = .ok (.ireturn, 1) := by decide +kernel
theorem dX4_spring_85 : decode cX4_spring 85 = .ok (.aload_n 3, 1) := by decide +kernel
theorem dX4_spring_86 : decode cX4_spring 86 = .ok (.getfield 72, 3) := by decide +kernel
theorem dX4_spring_89 : decode cX4_spring 89 = .ok (.ifCond .eq 7, 3) := by decide +kernel
theorem dX4_spring_92 : decode cX4_spring 92 = .ok (.iconst 1, 1) := by decide +kernel
theorem dX4_spring_93 : decode cX4_spring 93 = .ok (.goto 4, 3) := by decide +kernel
theorem dX4_spring_96 : decode cX4_spring 96 = .ok (.iconst 0, 1) := by decide +kernel
theorem dX4_spring_97 : decode cX4_spring 97 = .ok (.ireturn, 1) := by decide +kernel
theorem dX4_spring_98 : decode cX4_spring 98 = .ok (.aload_n 0, 1) := by decide +kernel
theorem dX4_spring_99 : decode cX4_spring 99 = .ok (.iload_n 1, 1) := by decide +kernel
theorem dX4_spring_100 : decode cX4_spring 100 = .ok (.invokevirtual 100, 3) := by decide +kernel
theorem dX4_spring_103 : decode cX4_spring 103 = .ok (.ireturn, 1) := by decide +kernel
theorem dX4_spring_104 : decode cX4_spring 104 = .ok (.aload_n 0, 1) := by decide +kernel
theorem dX4_spring_105 : decode cX4_spring 105 = .ok (.iload_n 1, 1) := by decide +kernel
theorem dX4_spring_106 : decode cX4_spring 106 = .ok (.invokevirtual 103, 3) := by decide +kernel
theorem dX4_spring_109 : decode cX4_spring 109 = .ok (.ireturn, 1) := by decide +kernel
theorem dX4_spring_110 : decode cX4_spring 110 = .ok (.new 55, 3) := by decide +kernel
theorem dX4_spring_113 : decode cX4_spring 113 = .ok (.dup, 1) := by decide +kernel
theorem dX4_spring_114 : decode cX4_spring 114 = .ok (.ldc 106, 2) := by decide +kernel
theorem dX4_spring_116 : decode cX4_spring 116 = .ok (.invokespecial 59, 3) := by decide +kernel
theorem dX4_spring_119 : decode cX4_spring 119 = .ok (.athrow, 1) := by decide +kernel
theorem dX4_addBird_0 : decode cX4_addBird 0 = .ok (.aload_n 0, 1) := by decide +kernel
theorem dX4_addBird_1 : decode cX4_addBird 1 = .ok (.iload_n 1, 1) := by decide +kernel
theorem dX4_addBird_2 : decode cX4_addBird 2 = .ok (.invokevirtual 51, 3) := by decide +kernel
theorem dX4_addBird_5 : decode cX4_addBird 5 = .ok (.astore 6, 2) := by decide +kernel
theorem dX4_addBird_7 : decode cX4_addBird 7 = .ok (.aload 6, 2) := by decide +kernel
theorem dX4_addBird_9 : decode cX4_addBird 9 = .ok (.ifnonnull 13, 3) := by decide +kernel
theorem dX4_addBird_12 : decode cX4_addBird 12 = .ok (.new 55, 3) := by decide +kernel
theorem dX4_addBird_15 : decode cX4_addBird 15 = .ok (.dup, 1) := by decide +kernel
theorem dX4_addBird_16 : decode cX4_addBird 16 = .ok (.ldc 57, 2) := by decide +kernel
theorem dX4_addBird_18 : decode cX4_addBird 18 = .ok (.invokespecial 59, 3) := by decide +kernel
theorem dX4_addBird_21 : decode cX4_addBird 21 = .ok (.athrow, 1) := by decide +kernel
theorem dX4_addBird_22 : decode cX4_addBird 22 = .ok (.iload_n 2, 1) := by decide +kernel
theorem dX4_addBird_23 : decode cX4_addBird 23 = .ok (.iconst 0, 1) := by decide +kernel
theorem dX4_addBird_24 : decode cX4_addBird 24 = .ok (.bipush 20, 2) := by decide +kernel
theorem dX4_addBird_26 : decode cX4_addBird 26 = .ok (.invokestatic 28, 3) := by decide +kernel
theorem dX4_addBird_29 : decode cX4_addBird 29 = .ok (.ifCond .ne 13, 3) := by decide +kernel
theorem dX4_addBird_32 : decode cX4_addBird 32 = .ok (.new 32, 3) := by decide +kernel
theorem dX4_addBird_35 : decode cX4_addBird 35 = .ok (.dup, 1) := by decide +kernel
theorem dX4_addBird_36 : decode cX4_addBird 36 = .ok (.ldc 108, 2) := by decide +kernel
theorem dX4_addBird_38 : decode cX4_addBird 38 = .ok (.invokespecial 36, 3) := by decide +kernel
theorem dX4_addBird_41 : decode cX4_addBird 41 = .ok (.athrow, 1) := by decide +kernel
theorem dX4_addBird_42 : decode cX4_addBird 42 = .ok (.iload_n 3, 1) := by decide +kernel
theorem dX4_addBird_43 : decode cX4_addBird 43 = .ok (.bipush 8, 2) := by decide +kernel
theorem dX4_addBird_45 : decode cX4_addBird 45 = .ok (.bipush 96, 2) := by decide +kernel
theorem dX4_addBird_47 : decode cX4_addBird 47 = .ok (.invokestatic 28, 3) := by decide +kernel
theorem dX4_addBird_50 : decode cX4_addBird 50 = .ok (.ifCond .ne 13, 3) := by decide +kernel
theorem dX4_addBird_53 : decode cX4_addBird 53 = .ok (.new 32, 3) := by decide +kernel
theorem dX4_addBird_56 : decode cX4_addBird 56 = .ok (.dup, 1) := by decide +kernel
theorem dX4_addBird_57 : decode cX4_addBird 57 = .ok (.ldc 110, 2) := by decide +kernel
theorem dX4_addBird_59 : decode cX4_addBird 59 = .ok (.invokespecial 36, 3) := by decide +kernel
theorem dX4_addBird_62 : decode cX4_addBird 62 = .ok (.athrow, 1) := by decide +kernel
theorem dX4_addBird_63 : decode cX4_addBird 63 = .ok (.iload 4, 2) := by decide +kernel
theorem dX4_addBird_65 : decode cX4_addBird 65 = .ok (.iconst 1, 1) := by decide +kernel
theorem dX4_addBird_66 : decode cX4_addBird 66 = .ok (.bipush 12, 2) := by decide +kernel
theorem dX4_addBird_68 : decode cX4_addBird 68 = .ok (.invokestatic 28, 3) := by decide +kernel
theorem dX4_addBird_71 : decode cX4_addBird 71 = .ok (.ifCond .eq 14, 3) := by decide +kernel
theorem dX4_addBird_74 : decode cX4_addBird 74 = .ok (.iload 5, 2) := by decide +kernel
theorem dX4_addBird_76 : decode cX4_addBird 76 = .ok (.iconst 1, 1) := by decide +kernel
theorem dX4_addBird_77 : decode cX4_addBird 77 = .ok (.bipush 12, 2) := by decide +kernel
theorem dX4_addBird_79 : decode cX4_addBird 79 = .ok (.invokestatic 28, 3) := by decide +kernel
theorem dX4_addBird_82 : decode cX4_addBird 82 = .ok (.ifCond .ne 13, 3) := by decide +kernel
theorem dX4_addBird_85 : decode cX4_addBird 85 = .ok (.new 32, 3) := by decide +kernel
theorem dX4_addBird_88 : decode cX4_addBird 88 = .ok (.dup, 1) := by decide +kernel
theorem dX4_addBird_89 : decode cX4_addBird 89 = .ok (.ldc 112, 2) := by decide +kernel
theorem dX4_addBird_91 : decode cX4_addBird 91 = .ok (.invokespecial 36, 3) := by decide +kernel
theorem dX4_addBird_94 : decode cX4_addBird 94 = .ok (.athrow, 1) := by decide +kernel
theorem dX4_addBird_95 : decode cX4_addBird 95 = .ok (.aload_n 0, 1) := by decide +kernel
theorem dX4_addBird_96 : decode cX4_addBird 96 = .ok (.getfield 114, 3) := by decide +kernel
theorem dX4_addBird_99 : decode cX4_addBird 99 = .ok (.istore 7, 2) := by decide +kernel
theorem dX4_addBird_101 : decode cX4_addBird 101 = .ok (.iload 7, 2) := by decide +kernel
theorem dX4_addBird_103 : decode cX4_addBird 103 = .ok (.ifCond .lt 13, 3) := by decide +kernel
theorem dX4_addBird_106 : decode cX4_addBird 106 = .ok (.iload 7, 2) := by decide +kernel
theorem dX4_addBird_108 : decode cX4_addBird 108 = .ok (.aload_n 0, 1) := by decide +kernel
theorem dX4_addBird_109 : decode cX4_addBird 109 = .ok (.getfield 17, 3) := by decide +kernel
theorem dX4_addBird_112 : decode cX4_addBird 112 = .ok (.arraylength, 1) := by decide +kernel
theorem dX4_addBird_113 : decode cX4_addBird 113 = .ok (.if_icmp .lt 13, 3) := by decide +kernel
theorem dX4_addBird_116 : decode cX4_addBird 116 = .ok (.new 43, 3) := by decide +kernel
theorem dX4_addBird_119 : decode cX4_addBird 119 = .ok (.dup, 1) := by decide +kernel
theorem dX4_addBird_120 : decode cX4_addBird 120 = .ok (.ldc 117, 2) := by decide +kernel
theorem dX4_addBird_122 : decode cX4_addBird 122 = .ok (.invokespecial 47, 3) := by decide +kernel
theorem dX4_addBird_125 : decode cX4_addBird 125 = .ok (.athrow, 1) := by decide +kernel
theorem dX4_addBird_126 : decode cX4_addBird 126 = .ok (.aload_n 0, 1) := by decide +kernel
theorem dX4_addBird_127 : decode cX4_addBird 127 = .ok (.getfield 17, 3) := by decide +kernel
theorem dX4_addBird_130 : decode cX4_addBird 130 = .ok (.iload 7, 2) := by decide +kernel
theorem dX4_addBird_132 : decode cX4_addBird 132 = .ok (.new 15, 3) := by decide +kernel
theorem dX4_addBird_135 : decode cX4_addBird 135 = .ok (.dup, 1) := by decide +kernel
theorem dX4_addBird_136 : decode cX4_addBird 136 = .ok (.iload_n 1, 1) := by decide +kernel
theorem dX4_addBird_137 : decode cX4_addBird 137 = .ok (.iload_n 2, 1) := by decide +kernel
theorem dX4_addBird_138 : decode cX4_addBird 138 = .ok (.iload_n 3, 1) := by decide +kernel
theorem dX4_addBird_139 : decode cX4_addBird 139 = .ok (.iload 4, 2) := by decide +kernel
theorem dX4_addBird_141 : decode cX4_addBird 141 = .ok (.iload 5, 2) := by decide +kernel
theorem dX4_addBird_143 : decode cX4_addBird 143 = .ok (.aload 6, 2) := by decide +kernel
theorem dX4_addBird_145 : decode cX4_addBird 145 = .ok (.getfield 93, 3) := by decide +kernel
theorem dX4_addBird_148 : decode cX4_addBird 148 = .ok (.invokespecial 119, 3) := by decide +kernel
theorem dX4_addBird_151 : decode cX4_addBird 151 = .ok (.aastore, 1) := by decide +kernel
theorem dX4_addBird_152 : decode cX4_addBird 152 = .ok (.aload_n 0, 1) := by decide +kernel
theorem dX4_addBird_153 : decode cX4_addBird 153 = .ok (.dup, 1) := by decide +kernel
theorem dX4_addBird_154 : decode cX4_addBird 154 = .ok (.getfield 114, 3) := by decide +kernel
theorem dX4_addBird_157 : decode cX4_addBird 157 = .ok (.iconst 1, 1) := by decide +kernel
theorem dX4_addBird_158 : decode cX4_addBird 158 = .ok (.iadd, 1) := by decide +kernel
theorem dX4_addBird_159 : decode cX4_addBird 159 = .ok (.putfield 114, 3) := by decide +kernel
theorem dX4_addBird_162 : decode cX4_addBird 162 = .ok (.iload 7, 2) := by decide +kernel
theorem dX4_addBird_164 : decode cX4_addBird 164 = .ok (.ireturn, 1) := by decide +kernel
theorem dX4_pin_0 : decode cX4_pin 0 = .ok (.aload_n 0, 1) := by decide +kernel
theorem dX4_pin_1 : decode cX4_pin 1 = .ok (.iload_n 1, 1) := by decide +kernel
theorem dX4_pin_2 : decode cX4_pin 2 = .ok (.invokevirtual 122, 3) := by decide +kernel
theorem dX4_pin_5 : decode cX4_pin 5 = .ok (.astore 4, 2) := by decide +kernel
theorem dX4_pin_7 : decode cX4_pin 7 = .ok (.aload 4, 2) := by decide +kernel
theorem dX4_pin_9 : decode cX4_pin 9 = .ok (.ifnonnull 13, 3) := by decide +kernel
theorem dX4_pin_12 : decode cX4_pin 12 = .ok (.new 55, 3) := by decide +kernel
theorem dX4_pin_15 : decode cX4_pin 15 = .ok (.dup, 1) := by decide +kernel
theorem dX4_pin_16 : decode cX4_pin 16 = .ok (.ldc 126, 2) := by decide +kernel
theorem dX4_pin_18 : decode cX4_pin 18 = .ok (.invokespecial 59, 3) := by decide +kernel
theorem dX4_pin_21 : decode cX4_pin 21 = .ok (.athrow, 1) := by decide +kernel
theorem dX4_pin_22 : decode cX4_pin 22 = .ok (.aload 4, 2) := by decide +kernel
theorem dX4_pin_24 : decode cX4_pin 24 = .ok (.iload_n 2, 1) := by decide +kernel
theorem dX4_pin_25 : decode cX4_pin 25 = .ok (.invokevirtual 138, 3) := by decide +kernel
theorem dX4_pin_28 : decode cX4_pin 28 = .ok (.ifCond .ne 13, 3) := by decide +kernel
theorem dX4_pin_31 : decode cX4_pin 31 = .ok (.new 32, 3) := by decide +kernel
theorem dX4_pin_34 : decode cX4_pin 34 = .ok (.dup, 1) := by decide +kernel
theorem dX4_pin_35 : decode cX4_pin 35 = .ok (.ldc 142, 2) := by decide +kernel
theorem dX4_pin_37 : decode cX4_pin 37 = .ok (.invokespecial 36, 3) := by decide +kernel
theorem dX4_pin_40 : decode cX4_pin 40 = .ok (.athrow, 1) := by decide +kernel
theorem dX4_pin_41 : decode cX4_pin 41 = .ok (.iload_n 3, 1) := by decide +kernel
theorem dX4_pin_42 : decode cX4_pin 42 = .ok (.iconst 0, 1) := by decide +kernel
theorem dX4_pin_43 : decode cX4_pin 43 = .ok (.iconst 5, 1) := by decide +kernel
theorem dX4_pin_44 : decode cX4_pin 44 = .ok (.invokestatic 28, 3) := by decide +kernel
theorem dX4_pin_47 : decode cX4_pin 47 = .ok (.ifCond .ne 13, 3) := by decide +kernel
theorem dX4_pin_50 : decode cX4_pin 50 = .ok (.new 32, 3) := by decide +kernel
theorem dX4_pin_53 : decode cX4_pin 53 = .ok (.dup, 1) := by decide +kernel
theorem dX4_pin_54 : decode cX4_pin 54 = .ok (.ldc 144, 2) := by decide +kernel
theorem dX4_pin_56 : decode cX4_pin 56 = .ok (.invokespecial 36, 3) := by decide +kernel
theorem dX4_pin_59 : decode cX4_pin 59 = .ok (.athrow, 1) := by decide +kernel
theorem dX4_pin_60 : decode cX4_pin 60 = .ok (.aload 4, 2) := by decide +kernel
theorem dX4_pin_62 : decode cX4_pin 62 = .ok (.iload_n 2, 1) := by decide +kernel
theorem dX4_pin_63 : decode cX4_pin 63 = .ok (.iload_n 3, 1) := by decide +kernel
theorem dX4_pin_64 : decode cX4_pin 64 = .ok (.invokevirtual 146, 3) := by decide +kernel
theorem dX4_pin_67 : decode cX4_pin 67 = .ok (.ifCond .ne 23, 3) := by decide +kernel
theorem dX4_pin_70 : decode cX4_pin 70 = .ok (.aload 4, 2) := by decide +kernel
theorem dX4_pin_72 : decode cX4_pin 72 = .ok (.getfield 150, 3) := by decide +kernel
theorem dX4_pin_75 : decode cX4_pin 75 = .ok (.bipush 24, 2) := by decide +kernel
theorem dX4_pin_77 : decode cX4_pin 77 = .ok (.if_icmp .lt 13, 3) := by decide +kernel
theorem dX4_pin_80 : decode cX4_pin 80 = .ok (.new 43, 3) := by decide +kernel
theorem dX4_pin_83 : decode cX4_pin 83 = .ok (.dup, 1) := by decide +kernel
theorem dX4_pin_84 : decode cX4_pin 84 = .ok (.ldc 153, 2) := by decide +kernel
theorem dX4_pin_86 : decode cX4_pin 86 = .ok (.invokespecial 47, 3) := by decide +kernel
theorem dX4_pin_89 : decode cX4_pin 89 = .ok (.athrow, 1) := by decide +kernel
theorem dX4_pin_90 : decode cX4_pin 90 = .ok (.aload 4, 2) := by decide +kernel
theorem dX4_pin_92 : decode cX4_pin 92 = .ok (.iload_n 2, 1) := by decide +kernel
theorem dX4_pin_93 : decode cX4_pin 93 = .ok (.iload_n 3, 1) := by decide +kernel
theorem dX4_pin_94 : decode cX4_pin 94 = .ok (.invokevirtual 155, 3) := by decide +kernel
theorem dX4_pin_97 : decode cX4_pin 97 = .ok (.aload 4, 2) := by decide +kernel
theorem dX4_pin_99 : decode cX4_pin 99 = .ok (.getfield 150, 3) := by decide +kernel
theorem dX4_pin_102 : decode cX4_pin 102 = .ok (.ireturn, 1) := by decide +kernel
theorem dX4_tune_0 : decode cX4_tune 0 = .ok (.aload_n 0, 1) := by decide +kernel
theorem dX4_tune_1 : decode cX4_tune 1 = .ok (.iload_n 1, 1) := by decide +kernel
