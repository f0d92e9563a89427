theorem dX5_init_0 : decode cX5_init 0 = .ok (.aload_n 0, 1) := by decide +kernel
theorem dX5_init_1 : decode cX5_init 1 = .ok (.invokespecial 1, 3) := by decide +kernel
theorem dX5_init_4 : decode cX5_init 4 = .ok (.aload_n 0, 1) := by decide +kernel
theorem dX5_init_5 : decode cX5_init 5 = .ok (.iconst 1, 1) := by decide +kernel
theorem dX5_init_6 : decode cX5_init 6 = .ok (.putfield 7, 3) := by decide +kernel
theorem dX5_init_9 : decode cX5_init 9 = .ok (.aload_n 0, 1) := by decide +kernel
theorem dX5_init_10 : decode cX5_init 10 = .ok (.iconst 0, 1) := by decide +kernel
theorem dX5_init_11 : decode cX5_init 11 = .ok (.anewarray 13, 3) := by decide +kernel
theorem dX5_init_14 : decode cX5_init 14 = .ok (.putfield 15, 3) := by decide +kernel
theorem dX5_init_17 : decode cX5_init 17 = .ok (.aload_n 0, 1) := by decide +kernel
theorem dX5_init_18 : decode cX5_init 18 = .ok (.iconst 3, 1) := by decide +kernel
theorem dX5_init_19 : decode cX5_init 19 = .ok (.iconst 0, 1) := by decide +kernel
theorem dX5_init_20 : decode cX5_init 20 = .ok (.multianewarray 19 2, 4) := by decide +kernel
theorem dX5_init_24 : decode cX5_init 24 = .ok (.putfield 21, 3) := by decide +kernel
theorem dX5_init_27 : decode cX5_init 27 = .ok (.aload_n 0, 1) := by decide +kernel
theorem dX5_init_28 : decode cX5_init 28 = .ok (.bipush 6, 2) := by decide +kernel
theorem dX5_init_30 : decode cX5_init 30 = .ok (.newarray .int, 2) := by decide +kernel
theorem dX5_init_32 : decode cX5_init 32 = .ok (.dup, 1) := by decide +kernel
theorem dX5_init_33 : decode cX5_init 33 = .ok (.iconst 0, 1) := by decide +kernel
theorem dX5_init_34 : decode cX5_init 34 = .ok (.bipush 60, 2) := by decide +kernel
theorem dX5_init_36 : decode cX5_init 36 = .ok (.iastore, 1) := by decide +kernel
theorem dX5_init_37 : decode cX5_init 37 = .ok (.dup, 1) := by decide +kernel
theorem dX5_init_38 : decode cX5_init 38 = .ok (.iconst 1, 1) := by decide +kernel
theorem dX5_init_39 : decode cX5_init 39 = .ok (.bipush 62, 2) := by decide +kernel
theorem dX5_init_41 : decode cX5_init 41 = .ok (.iastore, 1) := by decide +kernel
theorem dX5_init_42 : decode cX5_init 42 = .ok (.dup, 1) := by decide +kernel
theorem dX5_init_43 : decode cX5_init 43 = .ok (.iconst 2, 1) := by decide +kernel
theorem dX5_init_44 : decode cX5_init 44 = .ok (.bipush 64, 2) := by decide +kernel
theorem dX5_init_46 : decode cX5_init 46 = .ok (.iastore, 1) := by decide +kernel
theorem dX5_init_47 : decode cX5_init 47 = .ok (.dup, 1) := by decide +kernel
theorem dX5_init_48 : decode cX5_init 48 = .ok (.iconst 3, 1) := by decide +kernel
theorem dX5_init_49 : decode cX5_init 49 = .ok (.bipush 66, 2) := by decide +kernel
theorem dX5_init_51 : decode cX5_init 51 = .ok (.iastore, 1) := by decide +kernel
theorem dX5_init_52 : decode cX5_init 52 = .ok (.dup, 1) := by decide +kernel
theorem dX5_init_53 : decode cX5_init 53 = .ok (.iconst 4, 1) := by decide +kernel
theorem dX5_init_54 : decode cX5_init 54 = .ok (.bipush 68, 2) := by decide +kernel
theorem dX5_init_56 : decode cX5_init 56 = .ok (.iastore, 1) := by decide +kernel
theorem dX5_init_57 : decode cX5_init 57 = .ok (.dup, 1) := by decide +kernel
theorem dX5_init_58 : decode cX5_init 58 = .ok (.iconst 5, 1) := by decide +kernel
theorem dX5_init_59 : decode cX5_init 59 = .ok (.bipush 70, 2) := by decide +kernel
theorem dX5_init_61 : decode cX5_init 61 = .ok (.iastore, 1) := by decide +kernel
theorem dX5_init_62 : decode cX5_init 62 = .ok (.putfield 24, 3) := by decide +kernel
theorem dX5_init_65 : decode cX5_init 65 = .ok (.return_, 1) := by decide +kernel
theorem dX5_with_0 : decode cX5_with 0 = .ok (.aload_n 0, 1) := by decide +kernel
theorem dX5_with_1 : decode cX5_with 1 = .ok (.arraylength, 1) := by decide +kernel
theorem dX5_with_2 : decode cX5_with 2 = .ok (.iconst 1, 1) := by decide +kernel
theorem dX5_with_3 : decode cX5_with 3 = .ok (.iadd, 1) := by decide +kernel
theorem dX5_with_4 : decode cX5_with 4 = .ok (.anewarray 13, 3) := by decide +kernel
theorem dX5_with_7 : decode cX5_with 7 = .ok (.astore_n 2, 1) := by decide +kernel
theorem dX5_with_8 : decode cX5_with 8 = .ok (.iconst 0, 1) := by decide +kernel
theorem dX5_with_9 : decode cX5_with 9 = .ok (.istore_n 3, 1) := by decide +kernel
theorem dX5_with_10 : decode cX5_with 10 = .ok (.iload_n 3, 1) := by decide +kernel
theorem dX5_with_11 : decode cX5_with 11 = .ok (.aload_n 0, 1) := by decide +kernel
theorem dX5_with_12 : decode cX5_with 12 = .ok (.arraylength, 1) := by decide +kernel
theorem dX5_with_13 : decode cX5_with 13 = .ok (.if_icmp .ge 15, 3) := by decide +kernel
theorem dX5_with_16 : decode cX5_with 16 = .ok (.aload_n 2, 1) := by decide +kernel
theorem dX5_with_17 : decode cX5_with 17 = .ok (.iload_n 3, 1) := by decide +kernel
theorem dX5_with_18 : decode cX5_with 18 = .ok (.aload_n 0, 1) := by decide +kernel
theorem dX5_with_19 : decode cX5_with 19 = .ok (.iload_n 3, 1) := by decide +kernel
theorem dX5_with_20 : decode cX5_with 20 = .ok (.aaload, 1) := by decide +kernel
theorem dX5_with_21 : decode cX5_with 21 = .ok (.aastore, 1) := by decide +kernel
theorem dX5_with_22 : decode cX5_with 22 = .ok (.iinc 3 1, 3) := by decide +kernel
theorem dX5_with_25 : decode cX5_with 25 = .ok (.goto (-15), 3) := by decide +kernel
theorem dX5_with_28 : decode cX5_with 28 = .ok (.aload_n 2, 1) := by decide +kernel
theorem dX5_with_29 : decode cX5_with 29 = .ok (.aload_n 0, 1) := by decide +kernel
theorem dX5_with_30 : decode cX5_with 30 = .ok (.arraylength, 1) := by decide +kernel
theorem dX5_with_31 : decode cX5_with 31 = .ok (.aload_n 1, 1) := by decide +kernel
theorem dX5_with_32 : decode cX5_with 32 = .ok (.aastore, 1) := by decide +kernel
theorem dX5_with_33 : decode cX5_with 33 = .ok (.aload_n 2, 1) := by decide +kernel
theorem dX5_with_34 : decode cX5_with 34 = .ok (.areturn, 1) := by decide +kernel
theorem dX6_init_0 : decode cX6_init 0 = .ok (.aload_n 0, 1) := by decide +kernel
theorem dX6_init_1 : decode cX6_init 1 = .ok (.invokespecial 1, 3) := by decide +kernel
theorem dX6_init_4 : decode cX6_init 4 = .ok (.aload_n 0, 1) := by decide +kernel
theorem dX6_init_5 : decode cX6_init 5 = .ok (.iconst 0, 1) := by decide +kernel
theorem dX6_init_6 : decode cX6_init 6 = .ok (.anewarray 7, 3) := by decide +kernel
theorem dX6_init_9 : decode cX6_init 9 = .ok (.putfield 9, 3) := by decide +kernel
theorem dX6_init_12 : decode cX6_init 12 = .ok (.aload_n 0, 1) := by decide +kernel
theorem dX6_init_13 : decode cX6_init 13 = .ok (.iconst 4, 1) := by decide +kernel
theorem dX6_init_14 : decode cX6_init 14 = .ok (.iconst 4, 1) := by decide +kernel
theorem dX6_init_15 : decode cX6_init 15 = .ok (.multianewarray 15 2, 4) := by decide +kernel
theorem dX6_init_19 : decode cX6_init 19 = .ok (.putfield 17, 3) := by decide +kernel
theorem dX6_init_22 : decode cX6_init 22 = .ok (.aload_n 0, 1) := by decide +kernel
theorem dX6_init_23 : decode cX6_init 23 = .ok (.iconst 0, 1) := by decide +kernel
theorem dX6_init_24 : decode cX6_init 24 = .ok (.anewarray 20, 3) := by decide +kernel
theorem dX6_init_27 : decode cX6_init 27 = .ok (.putfield 22, 3) := by decide +kernel
theorem dX6_init_30 : decode cX6_init 30 = .ok (.aload_n 0, 1) := by decide +kernel
theorem dX6_init_31 : decode cX6_init 31 = .ok (.iconst 0, 1) := by decide +kernel
theorem dX6_init_32 : decode cX6_init 32 = .ok (.anewarray 7, 3) := by decide +kernel
theorem dX6_init_35 : decode cX6_init 35 = .ok (.putfield 26, 3) := by decide +kernel
theorem dX6_init_38 : decode cX6_init 38 = .ok (.return_, 1) := by decide +kernel
theorem dJ6_bitCount_0f7a4_0 : decode cJ6_bitCount_0f7a4 0 = .ok (.iload_n 0, 1) := by decide +kernel
theorem dJ6_bitCount_0f7a4_1 : decode cJ6_bitCount_0f7a4 1 = .ok (.iload_n 0, 1) := by decide +kernel
theorem dJ6_bitCount_0f7a4_2 : decode cJ6_bitCount_0f7a4 2 = .ok (.iconst 1, 1) := by decide +kernel
theorem dJ6_bitCount_0f7a4_3 : decode cJ6_bitCount_0f7a4 3 = .ok (.iushr, 1) := by decide +kernel
theorem dJ6_bitCount_0f7a4_4 : decode cJ6_bitCount_0f7a4 4 = .ok (.ldc_w 265, 3) := by decide +kernel
theorem dJ6_bitCount_0f7a4_7 : decode cJ6_bitCount_0f7a4 7 = .ok (.iand, 1) := by decide +kernel
theorem dJ6_bitCount_0f7a4_8 : decode cJ6_bitCount_0f7a4 8 = .ok (.isub, 1) := by decide +kernel
theorem dJ6_bitCount_0f7a4_9 : decode cJ6_bitCount_0f7a4 9 = .ok (.istore_n 0, 1) := by decide +kernel
theorem dJ6_bitCount_0f7a4_10 : decode cJ6_bitCount_0f7a4 10 = .ok (.iload_n 0, 1) := by decide +kernel
theorem dJ6_bitCount_0f7a4_11 : decode cJ6_bitCount_0f7a4 11 = .ok (.ldc_w 266, 3) := by decide +kernel
theorem dJ6_bitCount_0f7a4_14 : decode cJ6_bitCount_0f7a4 14 = .ok (.iand, 1) := by decide +kernel
theorem dJ6_bitCount_0f7a4_15 : decode cJ6_bitCount_0f7a4 15 = .ok (.iload_n 0, 1) := by decide +kernel
theorem dJ6_bitCount_0f7a4_16 : decode cJ6_bitCount_0f7a4 16 = .ok (.iconst 2, 1) := by decide +kernel
theorem dJ6_bitCount_0f7a4_17 : decode cJ6_bitCount_0f7a4 17 = .ok (.iushr, 1) := by decide +kernel
theorem dJ6_bitCount_0f7a4_18 : decode cJ6_bitCount_0f7a4 18 = .ok (.ldc_w 266, 3) := by decide +kernel
theorem dJ6_bitCount_0f7a4_21 : decode cJ6_bitCount_0f7a4 21 = .ok (.iand, 1) := by decide +kernel
theorem dJ6_bitCount_0f7a4_22 : decode cJ6_bitCount_0f7a4 22 = .ok (.iadd, 1) := by decide +kernel
theorem dJ6_bitCount_0f7a4_23 : decode cJ6_bitCount_0f7a4 23 = .ok (.istore_n 0, 1) := by decide +kernel
theorem dJ6_bitCount_0f7a4_24 : decode cJ6_bitCount_0f7a4 24 = .ok (.iload_n 0, 1) := by decide +kernel
theorem dJ6_bitCount_0f7a4_25 : decode cJ6_bitCount_0f7a4 25 = .ok (.iload_n 0, 1) := by decide +kernel
theorem dJ6_bitCount_0f7a4_26 : decode cJ6_bitCount_0f7a4 26 = .ok (.iconst 4, 1) := by decide +kernel
theorem dJ6_bitCount_0f7a4_27 : decode cJ6_bitCount_0f7a4 27 = .ok (.iushr, 1) := by decide +kernel
theorem dJ6_bitCount_0f7a4_28 : decode cJ6_bitCount_0f7a4 28 = .ok (.iadd, 1) := by decide +kernel
theorem dJ6_bitCount_0f7a4_29 : decode cJ6_bitCount_0f7a4 29 = .ok (.ldc_w 267, 3) := by decide +kernel
theorem dJ6_bitCount_0f7a4_32 : decode cJ6_bitCount_0f7a4 32 = .ok (.iand, 1) := by decide +kernel
theorem dJ6_bitCount_0f7a4_33 : decode cJ6_bitCount_0f7a4 33 = .ok (.istore_n 0, 1) := by decide +kernel
theorem dJ6_bitCount_0f7a4_34 : decode cJ6_bitCount_0f7a4 34 = .ok (.iload_n 0, 1) := by decide +kernel
theorem dJ6_bitCount_0f7a4_35 : decode cJ6_bitCount_0f7a4 35 = .ok (.iload_n 0, 1) := by decide +kernel
theorem dJ6_bitCount_0f7a4_36 : decode cJ6_bitCount_0f7a4 36 = .ok (.bipush 8, 2) := by decide +kernel
theorem dJ6_bitCount_0f7a4_38 : decode cJ6_bitCount_0f7a4 38 = .ok (.iushr, 1) := by decide +kernel
theorem dJ6_bitCount_0f7a4_39 : decode cJ6_bitCount_0f7a4 39 = .ok (.iadd, 1) := by decide +kernel
theorem dJ6_bitCount_0f7a4_40 : decode cJ6_bitCount_0f7a4 40 = .ok (.istore_n 0, 1) := by decide +kernel
theorem dJ6_bitCount_0f7a4_41 : decode cJ6_bitCount_0f7a4 41 = .ok (.iload_n 0, 1) := by decide +kernel
theorem dJ6_bitCount_0f7a4_42 : decode cJ6_bitCount_0f7a4 42 = .ok (.iload_n 0, 1) := by decide +kernel
theorem dJ6_bitCount_0f7a4_43 : decode cJ6_bitCount_0f7a4 43 = .ok (.bipush 16, 2) := by decide +kernel
theorem dJ6_bitCount_0f7a4_45 : decode cJ6_bitCount_0f7a4 45 = .ok (.iushr, 1) := by decide +kernel
theorem dJ6_bitCount_0f7a4_46 : decode cJ6_bitCount_0f7a4 46 = .ok (.iadd, 1) := by decide +kernel
theorem dJ6_bitCount_0f7a4_47 : decode cJ6_bitCount_0f7a4 47 = .ok (.istore_n 0, 1) := by decide +kernel
theorem dJ6_bitCount_0f7a4_48 : decode cJ6_bitCount_0f7a4 48 = .ok (.iload_n 0, 1) := by decide +kernel
theorem dJ6_bitCount_0f7a4_49 : decode cJ6_bitCount_0f7a4 49 = .ok (.bipush 63, 2) := by decide +kernel
theorem dJ6_bitCount_0f7a4_51 : decode cJ6_bitCount_0f7a4 51 = .ok (.iand, 1) := by decide +kernel
theorem dJ6_bitCount_0f7a4_52 : decode cJ6_bitCount_0f7a4 52 = .ok (.ireturn, 1) := by decide +kernel
theorem dJ13_bitCount_95d88_0 : decode cJ13_bitCount_95d88 0 = .ok (.lload_n 0, 1) := by decide +kernel
theorem dJ13_bitCount_95d88_1 : decode cJ13_bitCount_95d88 1 = .ok (.lload_n 0, 1) := by decide +kernel
theorem dJ13_bitCount_95d88_2 : decode cJ13_bitCount_95d88 2 = .ok (.iconst 1, 1) := by decide +kernel
theorem dJ13_bitCount_95d88_3 : decode cJ13_bitCount_95d88 3 = .ok (.lushr, 1) := by decide +kernel
theorem dJ13_bitCount_95d88_4 : decode cJ13_bitCount_95d88 4 = .ok (.ldc2_w 314, 3) := by decide +kernel
theorem dJ13_bitCount_95d88_7 : decode cJ13_bitCount_95d88 7 = .ok (.land, 1) := by decide +kernel
theorem dJ13_bitCount_95d88_8 : decode cJ13_bitCount_95d88 8 = .ok (.lsub, 1) := by decide +kernel
theorem dJ13_bitCount_95d88_9 : decode cJ13_bitCount_95d88 9 = .ok (.lstore_n 0, 1) := by decide +kernel
theorem dJ13_bitCount_95d88_10 : decode cJ13_bitCount_95d88 10 = .ok (.lload_n 0, 1) := by decide +kernel
theorem dJ13_bitCount_95d88_11 : decode cJ13_bitCount_95d88 11 = .ok (.ldc2_w 316, 3) := by decide +kernel
theorem dJ13_bitCount_95d88_14 : decode cJ13_bitCount_95d88 14 = .ok (.land, 1) := by decide +kernel
theorem dJ13_bitCount_95d88_15 : decode cJ13_bitCount_95d88 15 = .ok (.lload_n 0, 1) := by decide +kernel
theorem dJ13_bitCount_95d88_16 : decode cJ13_bitCount_95d88 16 = .ok (.iconst 2, 1) := by decide +kernel
theorem dJ13_bitCount_95d88_17 : decode cJ13_bitCount_95d88 17 = .ok (.lushr, 1) := by decide +kernel
theorem dJ13_bitCount_95d88_18 : decode cJ13_bitCount_95d88 18 = .ok (.ldc2_w 316, 3) := by decide +kernel
theorem dJ13_bitCount_95d88_21 : decode cJ13_bitCount_95d88 21 = .ok (.land, 1) := by decide +kernel
theorem dJ13_bitCount_95d88_22 : decode cJ13_bitCount_95d88 22 = .ok (.ladd, 1) := by decide +kernel
theorem dJ13_bitCount_95d88_23 : decode cJ13_bitCount_95d88 23 = .ok (.lstore_n 0, 1) := by decide +kernel
theorem dJ13_bitCount_95d88_24 : decode cJ13_bitCount_95d88 24 = .ok (.lload_n 0, 1) := by decide +kernel
theorem dJ13_bitCount_95d88_25 : decode cJ13_bitCount_95d88 25 = .ok (.lload_n 0, 1) := by decide +kernel
theorem dJ13_bitCount_95d88_26 : decode cJ13_bitCount_95d88 26 = .ok (.iconst 4, 1) := by decide +kernel
theorem dJ13_bitCount_95d88_27 : decode cJ13_bitCount_95d88 27 = .ok (.lushr, 1) := by decide +kernel
theorem dJ13_bitCount_95d88_28 : decode cJ13_bitCount_95d88 28 = .ok (.ladd, 1) := by decide +kernel
theorem dJ13_bitCount_95d88_29 : decode cJ13_bitCount_95d88 29 = .ok (.ldc2_w 318, 3) := by decide +kernel
theorem dJ13_bitCount_95d88_32 : decode cJ13_bitCount_95d88 32 = .ok (.land, 1) := by decide +kernel
theorem dJ13_bitCount_95d88_33 : decode cJ13_bitCount_95d88 33 = .ok (.lstore_n 0, 1) := by decide +kernel
theorem dJ13_bitCount_95d88_34 : decode cJ13_bitCount_95d88 34 = .ok (.lload_n 0, 1) := by decide +kernel
theorem dJ13_bitCount_95d88_35 : decode cJ13_bitCount_95d88 35 = .ok (.lload_n 0, 1) := by decide +kernel
theorem dJ13_bitCount_95d88_36 : decode cJ13_bitCount_95d88 36 = .ok (.bipush 8, 2) := by decide +kernel
theorem dJ13_bitCount_95d88_38 : decode cJ13_bitCount_95d88 38 = .ok (.lushr, 1) := by decide +kernel
theorem dJ13_bitCount_95d88_39 : decode cJ13_bitCount_95d88 39 = .ok (.ladd, 1) := by decide +kernel
theorem dJ13_bitCount_95d88_40 : decode cJ13_bitCount_95d88 40 = .ok (.lstore_n 0, 1) := by decide +kernel
theorem dJ13_bitCount_95d88_41 : decode cJ13_bitCount_95d88 41 = .ok (.lload_n 0, 1) := by decide +kernel
theorem dJ13_bitCount_95d88_42 : decode cJ13_bitCount_95d88 42 = .ok (.lload_n 0, 1) := by decide +kernel
theorem dJ13_bitCount_95d88_43 : decode cJ13_bitCount_95d88 43 = .ok (.bipush 16, 2) := by decide +kernel
theorem dJ13_bitCount_95d88_45 : decode cJ13_bitCount_95d88 45 = .ok (.lushr, 1) := by decide +kernel
theorem dJ13_bitCount_95d88_46 : decode cJ13_bitCount_95d88 46 = .ok (.ladd, 1) := by decide +kernel
theorem dJ13_bitCount_95d88_47 : decode cJ13_bitCount_95d88 47 = .ok (.lstore_n 0, 1) := by decide +kernel
theorem dJ13_bitCount_95d88_48 : decode cJ13_bitCount_95d88 48 = .ok (.lload_n 0, 1) := by decide +kernel
theorem dJ13_bitCount_95d88_49 : decode cJ13_bitCount_95d88 49 = .ok (.lload_n 0, 1) := by decide +kernel
theorem dJ13_bitCount_95d88_50 : decode cJ13_bitCount_95d88 50 = .ok (.bipush 32, 2) := by decide +kernel
theorem dJ13_bitCount_95d88_52 : decode cJ13_bitCount_95d88 52 = .ok (.lushr, 1) := by decide +kernel
theorem dJ13_bitCount_95d88_53 : decode cJ13_bitCount_95d88 53 = .ok (.ladd, 1) := by decide +kernel
theorem dJ13_bitCount_95d88_54 : decode cJ13_bitCount_95d88 54 = .ok (.lstore_n 0, 1) := by decide +kernel
theorem dJ13_bitCount_95d88_55 : decode cJ13_bitCount_95d88 55 = .ok (.lload_n 0, 1) := by decide +kernel
theorem dJ13_bitCount_95d88_56 : decode cJ13_bitCount_95d88 56 = .ok (.l2i, 1) := by decide +kernel
theorem dJ13_bitCount_95d88_57 : decode cJ13_bitCount_95d88 57 = .ok (.bipush 127, 2) := by decide +kernel
theorem dJ13_bitCount_95d88_59 : decode cJ13_bitCount_95d88 59 = .ok (.iand, 1) := by decide +kernel
theorem dJ13_bitCount_95d88_60 : decode cJ13_bitCount_95d88 60 = .ok (.ireturn, 1) := by decide +kernel
theorem dJ9_floorDiv_7cf53_0 : decode cJ9_floorDiv_7cf53 0 = .ok (.iload_n 0, 1) := by decide +kernel
theorem dJ9_floorDiv_7cf53_1 : decode cJ9_floorDiv_7cf53 1 = .ok (.iload_n 1, 1) := by decide +kernel
theorem dJ9_floorDiv_7cf53_2 : decode cJ9_floorDiv_7cf53 2 = .ok (.idiv, 1) := by decide +kernel
theorem dJ9_floorDiv_7cf53_3 : decode cJ9_floorDiv_7cf53 3 = .ok (.istore_n 2, 1) := by decide +kernel
theorem dJ9_floorDiv_7cf53_4 : decode cJ9_floorDiv_7cf53 4 = .ok (.iload_n 0, 1) := by decide +kernel
theorem dJ9_floorDiv_7cf53_5 : decode cJ9_floorDiv_7cf53 5 = .ok (.iload_n 1, 1) := by decide +kernel
theorem dJ9_floorDiv_7cf53_6 : decode cJ9_floorDiv_7cf53 6 = .ok (.ixor, 1) := by decide +kernel
theorem dJ9_floorDiv_7cf53_7 : decode cJ9_floorDiv_7cf53 7 = .ok (.ifCond .ge 14, 3) := by decide +kernel
theorem dJ9_floorDiv_7cf53_10 : decode cJ9_floorDiv_7cf53 10 = .ok (.iload_n 2, 1) := by decide +kernel
theorem dJ9_floorDiv_7cf53_11 : decode cJ9_floorDiv_7cf53 11 = .ok (.iload_n 1, 1) := by decide +kernel
theorem dJ9_floorDiv_7cf53_12 : decode cJ9_floorDiv_7cf53 12 = .ok (.imul, 1) := by decide +kernel
theorem dJ9_floorDiv_7cf53_13 : decode cJ9_floorDiv_7cf53 13 = .ok (.iload_n 0, 1) := by decide +kernel
theorem dJ9_floorDiv_7cf53_14 : decode cJ9_floorDiv_7cf53 14 = .ok (.if_icmp .eq 7, 3) := by decide +kernel
theorem dJ9_floorDiv_7cf53_17 : decode cJ9_floorDiv_7cf53 17 = .ok (.iload_n 2, 1) := by decide +kernel
theorem dJ9_floorDiv_7cf53_18 : decode cJ9_floorDiv_7cf53 18 = .ok (.iconst 1, 1) := by decide +kernel
theorem dJ9_floorDiv_7cf53_19 : decode cJ9_floorDiv_7cf53 19 = .ok (.isub, 1) := by decide +kernel
theorem dJ9_floorDiv_7cf53_20 : decode cJ9_floorDiv_7cf53 20 = .ok (.ireturn, 1) := by decide +kernel
theorem dJ9_floorDiv_7cf53_21 : decode cJ9_floorDiv_7cf53 21 = .ok (.iload_n 2, 1) := by decide +kernel
theorem dJ9_floorDiv_7cf53_22 : decode cJ9_floorDiv_7cf53 22 = .ok (.ireturn, 1) := by decide +kernel
theorem dJ9_max_7cf53_0 : decode cJ9_max_7cf53 0 = .ok (.iload_n 0, 1) := by decide +kernel
theorem dJ9_max_7cf53_1 : decode cJ9_max_7cf53 1 = .ok (.iload_n 1, 1) := by decide +kernel
theorem dJ9_max_7cf53_2 : decode cJ9_max_7cf53 2 = .ok (.if_icmp .lt 7, 3) := by decide +kernel
theorem dJ9_max_7cf53_5 : decode cJ9_max_7cf53 5 = .ok (.iload_n 0, 1) := by decide +kernel
theorem dJ9_max_7cf53_6 : decode cJ9_max_7cf53 6 = .ok (.goto 4, 3) := by decide +kernel
theorem dJ9_max_7cf53_9 : decode cJ9_max_7cf53 9 = .ok (.iload_n 1, 1) := by decide +kernel
theorem dJ9_max_7cf53_10 : decode cJ9_max_7cf53 10 = .ok (.ireturn, 1) := by decide +kernel
theorem dJ9_min_7cf53_0 : decode cJ9_min_7cf53 0 = .ok (.iload_n 0, 1) := by decide +kernel
theorem dJ9_min_7cf53_1 : decode cJ9_min_7cf53 1 = .ok (.iload_n 1, 1) := by decide +kernel
theorem dJ9_min_7cf53_2 : decode cJ9_min_7cf53 2 = .ok (.if_icmp .gt 7, 3) := by decide +kernel
theorem dJ9_min_7cf53_5 : decode cJ9_min_7cf53 5 = .ok (.iload_n 0, 1) := by decide +kernel
theorem dJ9_min_7cf53_6 : decode cJ9_min_7cf53 6 = .ok (.goto 4, 3) := by decide +kernel
theorem dJ9_min_7cf53_9 : decode cJ9_min_7cf53 9 = .ok (.iload_n 1, 1) := by decide +kernel
theorem dJ9_min_7cf53_10 : decode cJ9_min_7cf53 10 = .ok (.ireturn, 1) := by decide +kernel
theorem dJ9_min_f86c9_0 : decode cJ9_min_f86c9 0 = .ok (.lload_n 0, 1) := by decide +kernel
theorem dJ9_min_f86c9_1 : decode cJ9_min_f86c9 1 = .ok (.lload_n 2, 1) := by decide +kernel
theorem dJ9_min_f86c9_2 : decode cJ9_min_f86c9 2 = .ok (.lcmp, 1) := by decide +kernel
theorem dJ9_min_f86c9_3 : decode cJ9_min_f86c9 3 = .ok (.ifCond .gt 7, 3) := by decide +kernel
theorem dJ9_min_f86c9_6 : decode cJ9_min_f86c9 6 = .ok (.lload_n 0, 1) := by decide +kernel
theorem dJ9_min_f86c9_7 : decode cJ9_min_f86c9 7 = .ok (.goto 4, 3) := by decide +kernel
theorem dJ9_min_f86c9_10 : decode cJ9_min_f86c9 10 = .ok (.lload_n 2, 1) := by decide +kernel
theorem dJ9_min_f86c9_11 : decode cJ9_min_f86c9 11 = .ok (.lreturn, 1) := by decide +kernel
theorem dL_below_0 : decode cL_below 0 = .ok (.iload_n 0, 1) := by decide +kernel
theorem dL_below_1 : decode cL_below 1 = .ok (.ldc 7, 2) := by decide +kernel
theorem dL_below_3 : decode cL_below 3 = .ok (.iand, 1) := by decide +kernel
theorem dL_below_4 : decode cL_below 4 = .ok (.iload_n 1, 1) := by decide +kernel
theorem dL_below_5 : decode cL_below 5 = .ok (.irem, 1) := by decide +kernel
theorem dL_below_6 : decode cL_below 6 = .ok (.ireturn, 1) := by decide +kernel
theorem dL_cell_0 : decode cL_cell 0 = .ok (.iload_n 1, 1) := by decide +kernel
theorem dL_cell_1 : decode cL_cell 1 = .ok (.aload_n 0, 1) := by decide +kernel
theorem dL_cell_2 : decode cL_cell 2 = .ok (.arraylength, 1) := by decide +kernel
theorem dL_cell_3 : decode cL_cell 3 = .ok (.if_icmp .ge 9, 3) := by decide +kernel
theorem dL_cell_6 : decode cL_cell 6 = .ok (.aload_n 0, 1) := by decide +kernel
theorem dL_cell_7 : decode cL_cell 7 = .ok (.iload_n 1, 1) := by decide +kernel
theorem dL_cell_8 : decode cL_cell 8 = .ok (.iaload, 1) := by decide +kernel
theorem dL_cell_9 : decode cL_cell 9 = .ok (.goto 9, 3) := by decide +kernel
theorem dL_cell_12 : decode cL_cell 12 = .ok (.ldc 8, 2) := by decide +kernel
theorem dL_cell_14 : decode cL_cell 14 = .ok (.iload_n 1, 1) := by decide +kernel
theorem dL_cell_15 : decode cL_cell 15 = .ok (.iconst 3, 1) := by decide +kernel
theorem dL_cell_16 : decode cL_cell 16 = .ok (.iadd, 1) := by decide +kernel
theorem dL_cell_17 : decode cL_cell 17 = .ok (.imul, 1) := by decide +kernel
theorem dL_cell_18 : decode cL_cell 18 = .ok (.ireturn, 1) := by decide +kernel
theorem dL_build_0 : decode cL_build 0 = .ok (.new 9, 3) := by decide +kernel
theorem dL_build_3 : decode cL_build 3 = .ok (.dup, 1) := by decide +kernel
theorem dL_build_4 : decode cL_build 4 = .ok (.invokespecial 11, 3) := by decide +kernel
theorem dL_build_7 : decode cL_build 7 = .ok (.astore_n 3, 1) := by decide +kernel
theorem dL_build_8 : decode cL_build 8 = .ok (.iconst 1, 1) := by decide +kernel
theorem dL_build_9 : decode cL_build 9 = .ok (.aload_n 1, 1) := by decide +kernel
theorem dL_build_10 : decode cL_build 10 = .ok (.iconst 0, 1) := by decide +kernel
theorem dL_build_11 : decode cL_build 11 = .ok (.invokestatic 12, 3) := by decide +kernel
theorem dL_build_14 : decode cL_build 14 = .ok (.iconst 3, 1) := by decide +kernel
theorem dL_build_15 : decode cL_build 15 = .ok (.invokestatic 18, 3) := by decide +kernel
theorem dL_build_18 : decode cL_build 18 = .ok (.iadd, 1) := by decide +kernel
theorem dL_build_19 : decode cL_build 19 = .ok (.istore 4, 2) := by decide +kernel
theorem dL_build_21 : decode cL_build 21 = .ok (.iconst 0, 1) := by decide +kernel
theorem dL_build_22 : decode cL_build 22 = .ok (.istore 5, 2) := by decide +kernel
theorem dL_build_24 : decode cL_build 24 = .ok (.iload 5, 2) := by decide +kernel
theorem dL_build_26 : decode cL_build 26 = .ok (.iload 4, 2) := by decide +kernel
theorem dL_build_28 : decode cL_build 28 = .ok (.if_icmp .ge 110, 3) := by decide +kernel
theorem dL_build_31 : decode cL_build 31 = .ok (.iconst 5, 1) := by decide +kernel
theorem dL_build_32 : decode cL_build 32 = .ok (.newarray .int, 2) := by decide +kernel
theorem dL_build_34 : decode cL_build 34 = .ok (.dup, 1) := by decide +kernel
theorem dL_build_35 : decode cL_build 35 = .ok (.iconst 0, 1) := by decide +kernel
theorem dL_build_36 : decode cL_build 36 = .ok (.iconst 1, 1) := by decide +kernel
theorem dL_build_37 : decode cL_build 37 = .ok (.aload_n 1, 1) := by decide +kernel
theorem dL_build_38 : decode cL_build 38 = .ok (.iconst 1, 1) := by decide +kernel
theorem dL_build_39 : decode cL_build 39 = .ok (.invokestatic 12, 3) := by decide +kernel
theorem dL_build_42 : decode cL_build 42 = .ok (.iconst 3, 1) := by decide +kernel
theorem dL_build_43 : decode cL_build 43 = .ok (.iload 5, 2) := by decide +kernel
theorem dL_build_45 : decode cL_build 45 = .ok (.imul, 1) := by decide +kernel
theorem dL_build_46 : decode cL_build 46 = .ok (.ishr, 1) := by decide +kernel
theorem dL_build_47 : decode cL_build 47 = .ok (.bipush 50, 2) := by decide +kernel
theorem dL_build_49 : decode cL_build 49 = .ok (.invokestatic 18, 3) := by decide +kernel
theorem dL_build_52 : decode cL_build 52 = .ok (.iadd, 1) := by decide +kernel
theorem dL_build_53 : decode cL_build 53 = .ok (.iastore, 1) := by decide +kernel
theorem dL_build_54 : decode cL_build 54 = .ok (.dup, 1) := by decide +kernel
theorem dL_build_55 : decode cL_build 55 = .ok (.iconst 1, 1) := by decide +kernel
theorem dL_build_56 : decode cL_build 56 = .ok (.iconst 1, 1) := by decide +kernel
theorem dL_build_57 : decode cL_build 57 = .ok (.aload_n 1, 1) := by decide +kernel
theorem dL_build_58 : decode cL_build 58 = .ok (.iconst 2, 1) := by decide +kernel
theorem dL_build_59 : decode cL_build 59 = .ok (.invokestatic 12, 3) := by decide +kernel
theorem dL_build_62 : decode cL_build 62 = .ok (.iconst 2, 1) := by decide +kernel
theorem dL_build_63 : decode cL_build 63 = .ok (.iload 5, 2) := by decide +kernel
theorem dL_build_65 : decode cL_build 65 = .ok (.imul, 1) := by decide +kernel
theorem dL_build_66 : decode cL_build 66 = .ok (.ishr, 1) := by decide +kernel
theorem dL_build_67 : decode cL_build 67 = .ok (.iload_n 2, 1) := by decide +kernel
theorem dL_build_68 : decode cL_build 68 = .ok (.invokestatic 18, 3) := by decide +kernel
theorem dL_build_71 : decode cL_build 71 = .ok (.iadd, 1) := by decide +kernel
theorem dL_build_72 : decode cL_build 72 = .ok (.iastore, 1) := by decide +kernel
theorem dL_build_73 : decode cL_build 73 = .ok (.dup, 1) := by decide +kernel
theorem dL_build_74 : decode cL_build 74 = .ok (.iconst 2, 1) := by decide +kernel
theorem dL_build_75 : decode cL_build 75 = .ok (.iconst 0, 1) := by decide +kernel
theorem dL_build_76 : decode cL_build 76 = .ok (.iastore, 1) := by decide +kernel
theorem dL_build_77 : decode cL_build 77 = .ok (.dup, 1) := by decide +kernel
theorem dL_build_78 : decode cL_build 78 = .ok (.iconst 3, 1) := by decide +kernel
theorem dL_build_79 : decode cL_build 79 = .ok (.iconst 0, 1) := by decide +kernel
theorem dL_build_80 : decode cL_build 80 = .ok (.iastore, 1) := by decide +kernel
theorem dL_build_81 : decode cL_build 81 = .ok (.dup, 1) := by decide +kernel
theorem dL_build_82 : decode cL_build 82 = .ok (.iconst 4, 1) := by decide +kernel
theorem dL_build_83 : decode cL_build 83 = .ok (.iconst 0, 1) := by decide +kernel
theorem dL_build_84 : decode cL_build 84 = .ok (.iastore, 1) := by decide +kernel
theorem dL_build_85 : decode cL_build 85 = .ok (.astore 6, 2) := by decide +kernel
theorem dL_build_87 : decode cL_build 87 = .ok (.aload_n 0, 1) := by decide +kernel
theorem dL_build_88 : decode cL_build 88 = .ok (.aload 6, 2) := by decide +kernel
theorem dL_build_90 : decode cL_build 90 = .ok (.iconst 0, 1) := by decide +kernel
theorem dL_build_91 : decode cL_build 91 = .ok (.iaload, 1) := by decide +kernel
theorem dL_build_92 : decode cL_build 92 = .ok (.invokevirtual 22, 3) := by decide +kernel
theorem dL_build_95 : decode cL_build 95 = .ok (.iload 5, 2) := by decide +kernel
theorem dL_build_97 : decode cL_build 97 = .ok (.if_icmp .ne 20, 3) := by decide +kernel
theorem dL_build_100 : decode cL_build 100 = .ok (.aload_n 0, 1) := by decide +kernel
theorem dL_build_101 : decode cL_build 101 = .ok (.iload 5, 2) := by decide +kernel
theorem dL_build_103 : decode cL_build 103 = .ok (.aload 6, 2) := by decide +kernel
theorem dL_build_105 : decode cL_build 105 = .ok (.iconst 1, 1) := by decide +kernel
theorem dL_build_106 : decode cL_build 106 = .ok (.iaload, 1) := by decide +kernel
theorem dL_build_107 : decode cL_build 107 = .ok (.invokevirtual 28, 3) := by decide +kernel
theorem dL_build_110 : decode cL_build 110 = .ok (.aload 6, 2) := by decide +kernel
theorem dL_build_112 : decode cL_build 112 = .ok (.iconst 1, 1) := by decide +kernel
theorem dL_build_113 : decode cL_build 113 = .ok (.iaload, 1) := by decide +kernel
theorem dL_build_114 : decode cL_build 114 = .ok (.if_icmp .eq 5, 3) := by decide +kernel
theorem dL_build_117 : decode cL_build 117 = .ok (.aconst_null, 1) := by decide +kernel
theorem dL_build_118 : decode cL_build 118 = .ok (.areturn, 1) := by decide +kernel
theorem dL_build_119 : decode cL_build 119 = .ok (.aload_n 3, 1) := by decide +kernel
theorem dL_build_120 : decode cL_build 120 = .ok (.aload_n 3, 1) := by decide +kernel
theorem dL_build_121 : decode cL_build 121 = .ok (.getfield 31, 3) := by decide +kernel
theorem dL_build_124 : decode cL_build 124 = .ok (.aload 6, 2) := by decide +kernel
theorem dL_build_126 : decode cL_build 126 = .ok (.invokestatic 35, 3) := by decide +kernel
theorem dL_build_129 : decode cL_build 129 = .ok (.putfield 31, 3) := by decide +kernel
theorem dL_build_132 : decode cL_build 132 = .ok (.iinc 5 1, 3) := by decide +kernel
theorem dL_build_135 : decode cL_build 135 = .ok (.goto (-111), 3) := by decide +kernel
theorem dL_build_138 : decode cL_build 138 = .ok (.iconst 0, 1) := by decide +kernel
theorem dL_build_139 : decode cL_build 139 = .ok (.istore 5, 2) := by decide +kernel
theorem dL_build_141 : decode cL_build 141 = .ok (.iload 5, 2) := by decide +kernel
theorem dL_build_143 : decode cL_build 143 = .ok (.iload 4, 2) := by decide +kernel
theorem dL_build_145 : decode cL_build 145 = .ok (.if_icmp .ge 84, 3) := by decide +kernel
theorem dL_build_148 : decode cL_build 148 = .ok (.iload 5, 2) := by decide +kernel
theorem dL_build_150 : decode cL_build 150 = .ok (.iconst 1, 1) := by decide +kernel
theorem dL_build_151 : decode cL_build 151 = .ok (.iadd, 1) := by decide +kernel
theorem dL_build_152 : decode cL_build 152 = .ok (.istore 6, 2) := by decide +kernel
theorem dL_build_154 : decode cL_build 154 = .ok (.iload 6, 2) := by decide +kernel
theorem dL_build_156 : decode cL_build 156 = .ok (.iload 4, 2) := by decide +kernel
theorem dL_build_158 : decode cL_build 158 = .ok (.if_icmp .ge 65, 3) := by decide +kernel
theorem dL_build_161 : decode cL_build 161 = .ok (.aload_n 3, 1) := by decide +kernel
theorem dL_build_162 : decode cL_build 162 = .ok (.getfield 41, 3) := by decide +kernel
theorem dL_build_165 : decode cL_build 165 = .ok (.iload 5, 2) := by decide +kernel
theorem dL_build_167 : decode cL_build 167 = .ok (.aaload, 1) := by decide +kernel
theorem dL_build_168 : decode cL_build 168 = .ok (.iload 6, 2) := by decide +kernel
theorem dL_build_170 : decode cL_build 170 = .ok (.aload_n 1, 1) := by decide +kernel
theorem dL_build_171 : decode cL_build 171 = .ok (.iconst 3, 1) := by decide +kernel
theorem dL_build_172 : decode cL_build 172 = .ok (.invokestatic 12, 3) := by decide +kernel
theorem dL_build_175 : decode cL_build 175 = .ok (.iload 5, 2) := by decide +kernel
theorem dL_build_177 : decode cL_build 177 = .ok (.iload 6, 2) := by decide +kernel
theorem dL_build_179 : decode cL_build 179 = .ok (.iadd, 1) := by decide +kernel
theorem dL_build_180 : decode cL_build 180 = .ok (.ishr, 1) := by decide +kernel
theorem dL_build_181 : decode cL_build 181 = .ok (.iconst 2, 1) := by decide +kernel
theorem dL_build_182 : decode cL_build 182 = .ok (.invokestatic 18, 3) := by decide +kernel
theorem dL_build_185 : decode cL_build 185 = .ok (.ifCond .ne 7, 3) := by decide +kernel
theorem dL_build_188 : decode cL_build 188 = .ok (.iconst 1, 1) := by decide +kernel
theorem dL_build_189 : decode cL_build 189 = .ok (.goto 4, 3) := by decide +kernel
theorem dL_build_192 : decode cL_build 192 = .ok (.iconst 0, 1) := by decide +kernel
theorem dL_build_193 : decode cL_build 193 = .ok (.bastore, 1) := by decide +kernel
theorem dL_build_194 : decode cL_build 194 = .ok (.aload_n 0, 1) := by decide +kernel
theorem dL_build_195 : decode cL_build 195 = .ok (.iload 6, 2) := by decide +kernel
theorem dL_build_197 : decode cL_build 197 = .ok (.iload 5, 2) := by decide +kernel
theorem dL_build_199 : decode cL_build 199 = .ok (.aload_n 3, 1) := by decide +kernel
theorem dL_build_200 : decode cL_build 200 = .ok (.getfield 41, 3) := by decide +kernel
theorem dL_build_203 : decode cL_build 203 = .ok (.iload 5, 2) := by decide +kernel
theorem dL_build_205 : decode cL_build 205 = .ok (.aaload, 1) := by decide +kernel
theorem dL_build_206 : decode cL_build 206 = .ok (.iload 6, 2) := by decide +kernel
theorem dL_build_208 : decode cL_build 208 = .ok (.baload, 1) := by decide +kernel
theorem dL_build_209 : decode cL_build 209 = .ok (.invokevirtual 45, 3) := by decide +kernel
theorem dL_build_212 : decode cL_build 212 = .ok (.ifCond .ge 5, 3) := by decide +kernel
theorem dL_build_215 : decode cL_build 215 = .ok (.aconst_null, 1) := by decide +kernel
theorem dL_build_216 : decode cL_build 216 = .ok (.areturn, 1) := by decide +kernel
theorem dL_build_217 : decode cL_build 217 = .ok (.iinc 6 1, 3) := by decide +kernel
theorem dL_build_220 : decode cL_build 220 = .ok (.goto (-66), 3) := by decide +kernel
theorem dL_build_223 : decode cL_build 223 = .ok (.iinc 5 1, 3) := by decide +kernel
theorem dL_build_226 : decode cL_build 226 = .ok (.goto (-85), 3) := by decide +kernel
theorem dL_build_229 : decode cL_build 229 = .ok (.iconst 1, 1) := by decide +kernel
theorem dL_build_230 : decode cL_build 230 = .ok (.aload_n 1, 1) := by decide +kernel
theorem dL_build_231 : decode cL_build 231 = .ok (.iconst 0, 1) := by decide +kernel
theorem dL_build_232 : decode cL_build 232 = .ok (.invokestatic 12, 3) := by decide +kernel
theorem dL_build_235 : decode cL_build 235 = .ok (.iconst 5, 1) := by decide +kernel
theorem dL_build_236 : decode cL_build 236 = .ok (.ishr, 1) := by decide +kernel
theorem dL_build_237 : decode cL_build 237 = .ok (.iconst 4, 1) := by decide +kernel
theorem dL_build_238 : decode cL_build 238 = .ok (.invokestatic 18, 3) := by decide +kernel
theorem dL_build_241 : decode cL_build 241 = .ok (.iadd, 1) := by decide +kernel
theorem dL_build_242 : decode cL_build 242 = .ok (.istore 5, 2) := by decide +kernel
theorem dL_build_244 : decode cL_build 244 = .ok (.iconst 0, 1) := by decide +kernel
theorem dL_build_245 : decode cL_build 245 = .ok (.istore 6, 2) := by decide +kernel
theorem dL_build_247 : decode cL_build 247 = .ok (.iload 6, 2) := by decide +kernel
theorem dL_build_249 : decode cL_build 249 = .ok (.iload 5, 2) := by decide +kernel
theorem dL_build_251 : decode cL_build 251 = .ok (.if_icmp .ge 677, 3) := by decide +kernel
theorem dL_build_254 : decode cL_build 254 = .ok (.aload_n 1, 1) := by decide +kernel
theorem dL_build_255 : decode cL_build 255 = .ok (.iconst 4, 1) := by decide +kernel
theorem dL_build_256 : decode cL_build 256 = .ok (.iload 6, 2) := by decide +kernel
theorem dL_build_258 : decode cL_build 258 = .ok (.iadd, 1) := by decide +kernel
theorem dL_build_259 : decode cL_build 259 = .ok (.invokestatic 12, 3) := by decide +kernel
theorem dL_build_262 : decode cL_build 262 = .ok (.istore 7, 2) := by decide +kernel
theorem dL_build_264 : decode cL_build 264 = .ok (.new 36, 3) := by decide +kernel
theorem dL_build_267 : decode cL_build 267 = .ok (.dup, 1) := by decide +kernel
theorem dL_build_268 : decode cL_build 268 = .ok (.invokespecial 49, 3) := by decide +kernel
theorem dL_build_271 : decode cL_build 271 = .ok (.astore 8, 2) := by decide +kernel
theorem dL_build_273 : decode cL_build 273 = .ok (.aload 8, 2) := by decide +kernel
theorem dL_build_275 : decode cL_build 275 = .ok (.iload 7, 2) := by decide +kernel
theorem dL_build_277 : decode cL_build 277 = .ok (.iload 4, 2) := by decide +kernel
theorem dL_build_279 : decode cL_build 279 = .ok (.invokestatic 18, 3) := by decide +kernel
theorem dL_build_282 : decode cL_build 282 = .ok (.putfield 50, 3) := by decide +kernel
theorem dL_build_285 : decode cL_build 285 = .ok (.aload 8, 2) := by decide +kernel
theorem dL_build_287 : decode cL_build 287 = .ok (.iload 7, 2) := by decide +kernel
theorem dL_build_289 : decode cL_build 289 = .ok (.iconst 2, 1) := by decide +kernel
theorem dL_build_290 : decode cL_build 290 = .ok (.ishr, 1) := by decide +kernel
theorem dL_build_291 : decode cL_build 291 = .ok (.bipush 21, 2) := by decide +kernel
theorem dL_build_293 : decode cL_build 293 = .ok (.invokestatic 18, 3) := by decide +kernel
theorem dL_build_296 : decode cL_build 296 = .ok (.putfield 54, 3) := by decide +kernel
theorem dL_build_299 : decode cL_build 299 = .ok (.aload 8, 2) := by decide +kernel
theorem dL_build_301 : decode cL_build 301 = .ok (.bipush 8, 2) := by decide +kernel
theorem dL_build_303 : decode cL_build 303 = .ok (.iload 7, 2) := by decide +kernel
theorem dL_build_305 : decode cL_build 305 = .ok (.iconst 4, 1) := by decide +kernel
theorem dL_build_306 : decode cL_build 306 = .ok (.ishr, 1) := by decide +kernel
theorem dL_build_307 : decode cL_build 307 = .ok (.bipush 30, 2) := by decide +kernel
theorem dL_build_309 : decode cL_build 309 = .ok (.invokestatic 18, 3) := by decide +kernel
theorem dL_build_312 : decode cL_build 312 = .ok (.iadd, 1) := by decide +kernel
theorem dL_build_313 : decode cL_build 313 = .ok (.putfield 57, 3) := by decide +kernel
theorem dL_build_316 : decode cL_build 316 = .ok (.aload 8, 2) := by decide +kernel
theorem dL_build_318 : decode cL_build 318 = .ok (.iconst 1, 1) := by decide +kernel
theorem dL_build_319 : decode cL_build 319 = .ok (.iload 7, 2) := by decide +kernel
theorem dL_build_321 : decode cL_build 321 = .ok (.bipush 6, 2) := by decide +kernel
theorem dL_build_323 : decode cL_build 323 = .ok (.ishr, 1) := by decide +kernel
theorem dL_build_324 : decode cL_build 324 = .ok (.bipush 12, 2) := by decide +kernel
theorem dL_build_326 : decode cL_build 326 = .ok (.invokestatic 18, 3) := by decide +kernel
theorem dL_build_329 : decode cL_build 329 = .ok (.iadd, 1) := by decide +kernel
theorem dL_build_330 : decode cL_build 330 = .ok (.putfield 60, 3) := by decide +kernel
theorem dL_build_333 : decode cL_build 333 = .ok (.aload 8, 2) := by decide +kernel
theorem dL_build_335 : decode cL_build 335 = .ok (.iconst 1, 1) := by decide +kernel
theorem dL_build_336 : decode cL_build 336 = .ok (.iload 7, 2) := by decide +kernel
theorem dL_build_338 : decode cL_build 338 = .ok (.bipush 9, 2) := by decide +kernel
theorem dL_build_340 : decode cL_build 340 = .ok (.ishr, 1) := by decide +kernel
theorem dL_build_341 : decode cL_build 341 = .ok (.bipush 12, 2) := by decide +kernel
theorem dL_build_343 : decode cL_build 343 = .ok (.invokestatic 18, 3) := by decide +kernel
theorem dL_build_346 : decode cL_build 346 = .ok (.iadd, 1) := by decide +kernel
theorem dL_build_347 : decode cL_build 347 = .ok (.putfield 63, 3) := by decide +kernel
theorem dL_build_350 : decode cL_build 350 = .ok (.aload_n 0, 1) := by decide +kernel
theorem dL_build_351 : decode cL_build 351 = .ok (.aload 8, 2) := by decide +kernel
theorem dL_build_353 : decode cL_build 353 = .ok (.getfield 50, 3) := by decide +kernel
theorem dL_build_356 : decode cL_build 356 = .ok (.aload 8, 2) := by decide +kernel
theorem dL_build_358 : decode cL_build 358 = .ok (.getfield 54, 3) := by decide +kernel
theorem dL_build_361 : decode cL_build 361 = .ok (.aload 8, 2) := by decide +kernel
theorem dL_build_363 : decode cL_build 363 = .ok (.getfield 57, 3) := by decide +kernel
theorem dL_build_366 : decode cL_build 366 = .ok (.aload 8, 2) := by decide +kernel
theorem dL_build_368 : decode cL_build 368 = .ok (.getfield 60, 3) := by decide +kernel
theorem dL_build_371 : decode cL_build 371 = .ok (.aload 8, 2) := by decide +kernel
theorem dL_build_373 : decode cL_build 373 = .ok (.getfield 63, 3) := by decide +kernel
theorem dL_build_376 : decode cL_build 376 = .ok (.invokevirtual 66, 3) := by decide +kernel
theorem dL_build_379 : decode cL_build 379 = .ok (.iload 6, 2) := by decide +kernel
theorem dL_build_381 : decode cL_build 381 = .ok (.if_icmp .eq 5, 3) := by decide +kernel
theorem dL_build_384 : decode cL_build 384 = .ok (.aconst_null, 1) := by decide +kernel
theorem dL_build_385 : decode cL_build 385 = .ok (.areturn, 1) := by decide +kernel
theorem dL_build_386 : decode cL_build 386 = .ok (.aload_n 1, 1) := by decide +kernel
theorem dL_build_387 : decode cL_build 387 = .ok (.bipush 8, 2) := by decide +kernel
theorem dL_build_389 : decode cL_build 389 = .ok (.iload 6, 2) := by decide +kernel
theorem dL_build_391 : decode cL_build 391 = .ok (.iadd, 1) := by decide +kernel
theorem dL_build_392 : decode cL_build 392 = .ok (.invokestatic 12, 3) := by decide +kernel
theorem dL_build_395 : decode cL_build 395 = .ok (.bipush 9, 2) := by decide +kernel
theorem dL_build_397 : decode cL_build 397 = .ok (.invokestatic 18, 3) := by decide +kernel
theorem dL_build_400 : decode cL_build 400 = .ok (.istore 9, 2) := by decide +kernel
theorem dL_build_402 : decode cL_build 402 = .ok (.iconst 0, 1) := by decide +kernel
theorem dL_build_403 : decode cL_build 403 = .ok (.istore 10, 2) := by decide +kernel
theorem dL_build_405 : decode cL_build 405 = .ok (.iload 10, 2) := by decide +kernel
theorem dL_build_407 : decode cL_build 407 = .ok (.iload 9, 2) := by decide +kernel
theorem dL_build_409 : decode cL_build 409 = .ok (.if_icmp .ge 177, 3) := by decide +kernel
theorem dL_build_412 : decode cL_build 412 = .ok (.aload_n 1, 1) := by decide +kernel
theorem dL_build_413 : decode cL_build 413 = .ok (.bipush 9, 2) := by decide +kernel
theorem dL_build_415 : decode cL_build 415 = .ok (.iload 6, 2) := by decide +kernel
theorem dL_build_417 : decode cL_build 417 = .ok (.iadd, 1) := by decide +kernel
theorem dL_build_418 : decode cL_build 418 = .ok (.iload 10, 2) := by decide +kernel
theorem dL_build_420 : decode cL_build 420 = .ok (.iadd, 1) := by decide +kernel
theorem dL_build_421 : decode cL_build 421 = .ok (.bipush 16, 2) := by decide +kernel
theorem dL_build_423 : decode cL_build 423 = .ok (.irem, 1) := by decide +kernel
theorem dL_build_424 : decode cL_build 424 = .ok (.invokestatic 12, 3) := by decide +kernel
theorem dL_build_427 : decode cL_build 427 = .ok (.iconst 2, 1) := by decide +kernel
theorem dL_build_428 : decode cL_build 428 = .ok (.iload 10, 2) := by decide +kernel
theorem dL_build_430 : decode cL_build 430 = .ok (.imul, 1) := by decide +kernel
theorem dL_build_431 : decode cL_build 431 = .ok (.ishr, 1) := by decide +kernel
theorem dL_build_432 : decode cL_build 432 = .ok (.istore 11, 2) := by decide +kernel
theorem dL_build_434 : decode cL_build 434 = .ok (.iload 11, 2) := by decide +kernel
theorem dL_build_436 : decode cL_build 436 = .ok (.aload 8, 2) := by decide +kernel
theorem dL_build_438 : decode cL_build 438 = .ok (.getfield 57, 3) := by decide +kernel
theorem dL_build_441 : decode cL_build 441 = .ok (.invokestatic 18, 3) := by decide +kernel
theorem dL_build_444 : decode cL_build 444 = .ok (.istore 12, 2) := by decide +kernel
theorem dL_build_446 : decode cL_build 446 = .ok (.iload 11, 2) := by decide +kernel
theorem dL_build_448 : decode cL_build 448 = .ok (.iconst 5, 1) := by decide +kernel
theorem dL_build_449 : decode cL_build 449 = .ok (.ishr, 1) := by decide +kernel
theorem dL_build_450 : decode cL_build 450 = .ok (.bipush 6, 2) := by decide +kernel
theorem dL_build_452 : decode cL_build 452 = .ok (.invokestatic 18, 3) := by decide +kernel
theorem dL_build_455 : decode cL_build 455 = .ok (.istore 13, 2) := by decide +kernel
theorem dL_build_457 : decode cL_build 457 = .ok (.iconst 0, 1) := by decide +kernel
theorem dL_build_458 : decode cL_build 458 = .ok (.istore 14, 2) := by decide +kernel
theorem dL_build_460 : decode cL_build 460 = .ok (.aload 8, 2) := by decide +kernel
theorem dL_build_462 : decode cL_build 462 = .ok (.getfield 70, 3) := by decide +kernel
theorem dL_build_465 : decode cL_build 465 = .ok (.astore 15, 2) := by decide +kernel
theorem dL_build_467 : decode cL_build 467 = .ok (.aload 15, 2) := by decide +kernel
theorem dL_build_469 : decode cL_build 469 = .ok (.arraylength, 1) := by decide +kernel
theorem dL_build_470 : decode cL_build 470 = .ok (.istore 16, 2) := by decide +kernel
theorem dL_build_472 : decode cL_build 472 = .ok (.iconst 0, 1) := by decide +kernel
theorem dL_build_473 : decode cL_build 473 = .ok (.istore 17, 2) := by decide +kernel
theorem dL_build_475 : decode cL_build 475 = .ok (.iload 17, 2) := by decide +kernel
theorem dL_build_477 : decode cL_build 477 = .ok (.iload 16, 2) := by decide +kernel
theorem dL_build_479 : decode cL_build 479 = .ok (.if_icmp .ge 46, 3) := by decide +kernel
theorem dL_build_482 : decode cL_build 482 = .ok (.aload 15, 2) := by decide +kernel
theorem dL_build_484 : decode cL_build 484 = .ok (.iload 17, 2) := by decide +kernel
theorem dL_build_486 : decode cL_build 486 = .ok (.aaload, 1) := by decide +kernel
theorem dL_build_487 : decode cL_build 487 = .ok (.astore 18, 2) := by decide +kernel
theorem dL_build_489 : decode cL_build 489 = .ok (.iload 14, 2) := by decide +kernel
theorem dL_build_491 : decode cL_build 491 = .ok (.ifCond .ne 21, 3) := by decide +kernel
theorem dL_build_494 : decode cL_build 494 = .ok (.aload 18, 2) := by decide +kernel
theorem dL_build_496 : decode cL_build 496 = .ok (.iconst 0, 1) := by decide +kernel
theorem dL_build_497 : decode cL_build 497 = .ok (.iaload, 1) := by decide +kernel
theorem dL_build_498 : decode cL_build 498 = .ok (.iload 12, 2) := by decide +kernel
theorem dL_build_500 : decode cL_build 500 = .ok (.if_icmp .ne 16, 3) := by decide +kernel
theorem dL_build_503 : decode cL_build 503 = .ok (.aload 18, 2) := by decide +kernel
theorem dL_build_505 : decode cL_build 505 = .ok (.iconst 1, 1) := by decide +kernel
theorem dL_build_506 : decode cL_build 506 = .ok (.iaload, 1) := by decide +kernel
theorem dL_build_507 : decode cL_build 507 = .ok (.iload 13, 2) := by decide +kernel
theorem dL_build_509 : decode cL_build 509 = .ok (.if_icmp .ne 7, 3) := by decide +kernel
theorem dL_build_512 : decode cL_build 512 = .ok (.iconst 1, 1) := by decide +kernel
theorem dL_build_513 : decode cL_build 513 = .ok (.goto 4, 3) := by decide +kernel
theorem dL_build_516 : decode cL_build 516 = .ok (.iconst 0, 1) := by decide +kernel
theorem dL_build_517 : decode cL_build 517 = .ok (.istore 14, 2) := by decide +kernel
theorem dL_build_519 : decode cL_build 519 = .ok (.iinc 17 1, 3) := by decide +kernel
theorem dL_build_522 : decode cL_build 522 = .ok (.goto (-47), 3) := by decide +kernel
theorem dL_build_525 : decode cL_build 525 = .ok (.iload 14, 2) := by decide +kernel
theorem dL_build_527 : decode cL_build 527 = .ok (.ifCond .eq 6, 3) := by decide +kernel
theorem dL_build_530 : decode cL_build 530 = .ok (.goto 50, 3) := by decide +kernel
theorem dL_build_533 : decode cL_build 533 = .ok (.aload 8, 2) := by decide +kernel
theorem dL_build_535 : decode cL_build 535 = .ok (.aload 8, 2) := by decide +kernel
theorem dL_build_537 : decode cL_build 537 = .ok (.getfield 70, 3) := by decide +kernel
theorem dL_build_540 : decode cL_build 540 = .ok (.iconst 2, 1) := by decide +kernel
theorem dL_build_541 : decode cL_build 541 = .ok (.newarray .int, 2) := by decide +kernel
theorem dL_build_543 : decode cL_build 543 = .ok (.dup, 1) := by decide +kernel
theorem dL_build_544 : decode cL_build 544 = .ok (.iconst 0, 1) := by decide +kernel
theorem dL_build_545 : decode cL_build 545 = .ok (.iload 12, 2) := by decide +kernel
theorem dL_build_547 : decode cL_build 547 = .ok (.iastore, 1) := by decide +kernel
theorem dL_build_548 : decode cL_build 548 = .ok (.dup, 1) := by decide +kernel
theorem dL_build_549 : decode cL_build 549 = .ok (.iconst 1, 1) := by decide +kernel
theorem dL_build_550 : decode cL_build 550 = .ok (.iload 13, 2) := by decide +kernel
theorem dL_build_552 : decode cL_build 552 = .ok (.iastore, 1) := by decide +kernel
theorem dL_build_553 : decode cL_build 553 = .ok (.invokestatic 35, 3) := by decide +kernel
theorem dL_build_556 : decode cL_build 556 = .ok (.putfield 70, 3) := by decide +kernel
theorem dL_build_559 : decode cL_build 559 = .ok (.aload_n 0, 1) := by decide +kernel
theorem dL_build_560 : decode cL_build 560 = .ok (.iload 6, 2) := by decide +kernel
theorem dL_build_562 : decode cL_build 562 = .ok (.iload 12, 2) := by decide +kernel
theorem dL_build_564 : decode cL_build 564 = .ok (.iload 13, 2) := by decide +kernel
theorem dL_build_566 : decode cL_build 566 = .ok (.invokevirtual 73, 3) := by decide +kernel
theorem dL_build_569 : decode cL_build 569 = .ok (.aload 8, 2) := by decide +kernel
theorem dL_build_571 : decode cL_build 571 = .ok (.getfield 70, 3) := by decide +kernel
theorem dL_build_574 : decode cL_build 574 = .ok (.arraylength, 1) := by decide +kernel
theorem dL_build_575 : decode cL_build 575 = .ok (.if_icmp .eq 5, 3) := by decide +kernel
theorem dL_build_578 : decode cL_build 578 = .ok (.aconst_null, 1) := by decide +kernel
theorem dL_build_579 : decode cL_build 579 = .ok (.areturn, 1) := by decide +kernel
theorem dL_build_580 : decode cL_build 580 = .ok (.iinc 10 1, 3) := by decide +kernel
theorem dL_build_583 : decode cL_build 583 = .ok (.goto (-178), 3) := by decide +kernel
theorem dL_build_586 : decode cL_build 586 = .ok (.iconst 0, 1) := by decide +kernel
theorem dL_build_587 : decode cL_build 587 = .ok (.istore 10, 2) := by decide +kernel
theorem dL_build_589 : decode cL_build 589 = .ok (.iload 10, 2) := by decide +kernel
theorem dL_build_591 : decode cL_build 591 = .ok (.iconst 3, 1) := by decide +kernel
theorem dL_build_592 : decode cL_build 592 = .ok (.if_icmp .ge 225, 3) := by decide +kernel
theorem dL_build_595 : decode cL_build 595 = .ok (.aload_n 1, 1) := by decide +kernel
theorem dL_build_596 : decode cL_build 596 = .ok (.bipush 12, 2) := by decide +kernel
theorem dL_build_598 : decode cL_build 598 = .ok (.invokestatic 12, 3) := by decide +kernel
theorem dL_build_601 : decode cL_build 601 = .ok (.iload 6, 2) := by decide +kernel
theorem dL_build_603 : decode cL_build 603 = .ok (.iload 10, 2) := by decide +kernel
theorem dL_build_605 : decode cL_build 605 = .ok (.iadd, 1) := by decide +kernel
theorem dL_build_606 : decode cL_build 606 = .ok (.ishr, 1) := by decide +kernel
theorem dL_build_607 : decode cL_build 607 = .ok (.iconst 4, 1) := by decide +kernel
theorem dL_build_608 : decode cL_build 608 = .ok (.invokestatic 18, 3) := by decide +kernel
theorem dL_build_611 : decode cL_build 611 = .ok (.istore 11, 2) := by decide +kernel
theorem dL_build_613 : decode cL_build 613 = .ok (.iconst 0, 1) := by decide +kernel
theorem dL_build_614 : decode cL_build 614 = .ok (.istore 12, 2) := by decide +kernel
theorem dL_build_616 : decode cL_build 616 = .ok (.iload 12, 2) := by decide +kernel
theorem dL_build_618 : decode cL_build 618 = .ok (.iload 11, 2) := by decide +kernel
theorem dL_build_620 : decode cL_build 620 = .ok (.if_icmp .ge 191, 3) := by decide +kernel
theorem dL_build_623 : decode cL_build 623 = .ok (.aload_n 1, 1) := by decide +kernel
theorem dL_build_624 : decode cL_build 624 = .ok (.iconst 2, 1) := by decide +kernel
theorem dL_build_625 : decode cL_build 625 = .ok (.iload 10, 2) := by decide +kernel
theorem dL_build_627 : decode cL_build 627 = .ok (.iadd, 1) := by decide +kernel
theorem dL_build_628 : decode cL_build 628 = .ok (.iconst 5, 1) := by decide +kernel
theorem dL_build_629 : decode cL_build 629 = .ok (.iload 12, 2) := by decide +kernel
theorem dL_build_631 : decode cL_build 631 = .ok (.imul, 1) := by decide +kernel
theorem dL_build_632 : decode cL_build 632 = .ok (.iadd, 1) := by decide +kernel
theorem dL_build_633 : decode cL_build 633 = .ok (.iload 6, 2) := by decide +kernel
theorem dL_build_635 : decode cL_build 635 = .ok (.iadd, 1) := by decide +kernel
theorem dL_build_636 : decode cL_build 636 = .ok (.bipush 16, 2) := by decide +kernel
theorem dL_build_638 : decode cL_build 638 = .ok (.irem, 1) := by decide +kernel
theorem dL_build_639 : decode cL_build 639 = .ok (.invokestatic 12, 3) := by decide +kernel
theorem dL_build_642 : decode cL_build 642 = .ok (.iload 12, 2) := by decide +kernel
theorem dL_build_644 : decode cL_build 644 = .ok (.ishr, 1) := by decide +kernel
theorem dL_build_645 : decode cL_build 645 = .ok (.bipush 13, 2) := by decide +kernel
theorem dL_build_647 : decode cL_build 647 = .ok (.iload 12, 2) := by decide +kernel
theorem dL_build_649 : decode cL_build 649 = .ok (.imul, 1) := by decide +kernel
theorem dL_build_650 : decode cL_build 650 = .ok (.iadd, 1) := by decide +kernel
theorem dL_build_651 : decode cL_build 651 = .ok (.istore 13, 2) := by decide +kernel
theorem dL_build_653 : decode cL_build 653 = .ok (.iload 13, 2) := by decide +kernel
theorem dL_build_655 : decode cL_build 655 = .ok (.aload 8, 2) := by decide +kernel
theorem dL_build_657 : decode cL_build 657 = .ok (.getfield 57, 3) := by decide +kernel
theorem dL_build_660 : decode cL_build 660 = .ok (.invokestatic 18, 3) := by decide +kernel
theorem dL_build_663 : decode cL_build 663 = .ok (.istore 14, 2) := by decide +kernel
theorem dL_build_665 : decode cL_build 665 = .ok (.iload 13, 2) := by decide +kernel
theorem dL_build_667 : decode cL_build 667 = .ok (.iconst 4, 1) := by decide +kernel
theorem dL_build_668 : decode cL_build 668 = .ok (.ishr, 1) := by decide +kernel
theorem dL_build_669 : decode cL_build 669 = .ok (.bipush 101, 2) := by decide +kernel
theorem dL_build_671 : decode cL_build 671 = .ok (.invokestatic 18, 3) := by decide +kernel
theorem dL_build_674 : decode cL_build 674 = .ok (.istore 15, 2) := by decide +kernel
theorem dL_build_676 : decode cL_build 676 = .ok (.iconst (-1), 1) := by decide +kernel
theorem dL_build_677 : decode cL_build 677 = .ok (.istore 16, 2) := by decide +kernel
theorem dL_build_679 : decode cL_build 679 = .ok (.iconst 0, 1) := by decide +kernel
theorem dL_build_680 : decode cL_build 680 = .ok (.istore 17, 2) := by decide +kernel
theorem dL_build_682 : decode cL_build 682 = .ok (.iload 17, 2) := by decide +kernel
theorem dL_build_684 : decode cL_build 684 = .ok (.aload 8, 2) := by decide +kernel
theorem dL_build_686 : decode cL_build 686 = .ok (.getfield 77, 3) := by decide +kernel
theorem dL_build_689 : decode cL_build 689 = .ok (.iload 10, 2) := by decide +kernel
theorem dL_build_691 : decode cL_build 691 = .ok (.aaload, 1) := by decide +kernel
theorem dL_build_692 : decode cL_build 692 = .ok (.arraylength, 1) := by decide +kernel
theorem dL_build_693 : decode cL_build 693 = .ok (.if_icmp .ge 31, 3) := by decide +kernel
theorem dL_build_696 : decode cL_build 696 = .ok (.aload 8, 2) := by decide +kernel
theorem dL_build_698 : decode cL_build 698 = .ok (.getfield 77, 3) := by decide +kernel
theorem dL_build_701 : decode cL_build 701 = .ok (.iload 10, 2) := by decide +kernel
theorem dL_build_703 : decode cL_build 703 = .ok (.aaload, 1) := by decide +kernel
theorem dL_build_704 : decode cL_build 704 = .ok (.iload 17, 2) := by decide +kernel
theorem dL_build_706 : decode cL_build 706 = .ok (.aaload, 1) := by decide +kernel
theorem dL_build_707 : decode cL_build 707 = .ok (.iconst 0, 1) := by decide +kernel
theorem dL_build_708 : decode cL_build 708 = .ok (.iaload, 1) := by decide +kernel
theorem dL_build_709 : decode cL_build 709 = .ok (.iload 14, 2) := by decide +kernel
theorem dL_build_711 : decode cL_build 711 = .ok (.if_icmp .ne 7, 3) := by decide +kernel
theorem dL_build_714 : decode cL_build 714 = .ok (.iload 17, 2) := by decide +kernel
theorem dL_build_716 : decode cL_build 716 = .ok (.istore 16, 2) := by decide +kernel
theorem dL_build_718 : decode cL_build 718 = .ok (.iinc 17 1, 3) := by decide +kernel
theorem dL_build_721 : decode cL_build 721 = .ok (.goto (-39), 3) := by decide +kernel
theorem dL_build_724 : decode cL_build 724 = .ok (.iload 16, 2) := by decide +kernel
theorem dL_build_726 : decode cL_build 726 = .ok (.ifCond .lt 21, 3) := by decide +kernel
theorem dL_build_729 : decode cL_build 729 = .ok (.aload 8, 2) := by decide +kernel
theorem dL_build_731 : decode cL_build 731 = .ok (.getfield 77, 3) := by decide +kernel
theorem dL_build_734 : decode cL_build 734 = .ok (.iload 10, 2) := by decide +kernel
theorem dL_build_736 : decode cL_build 736 = .ok (.aaload, 1) := by decide +kernel
theorem dL_build_737 : decode cL_build 737 = .ok (.iload 16, 2) := by decide +kernel
theorem dL_build_739 : decode cL_build 739 = .ok (.aaload, 1) := by decide +kernel
theorem dL_build_740 : decode cL_build 740 = .ok (.iconst 1, 1) := by decide +kernel
theorem dL_build_741 : decode cL_build 741 = .ok (.iload 15, 2) := by decide +kernel
theorem dL_build_743 : decode cL_build 743 = .ok (.iastore, 1) := by decide +kernel
theorem dL_build_744 : decode cL_build 744 = .ok (.goto 35, 3) := by decide +kernel
theorem dL_build_747 : decode cL_build 747 = .ok (.aload 8, 2) := by decide +kernel
theorem dL_build_749 : decode cL_build 749 = .ok (.getfield 77, 3) := by decide +kernel
theorem dL_build_752 : decode cL_build 752 = .ok (.iload 10, 2) := by decide +kernel
theorem dL_build_754 : decode cL_build 754 = .ok (.aload 8, 2) := by decide +kernel
theorem dL_build_756 : decode cL_build 756 = .ok (.getfield 77, 3) := by decide +kernel
theorem dL_build_759 : decode cL_build 759 = .ok (.iload 10, 2) := by decide +kernel
theorem dL_build_761 : decode cL_build 761 = .ok (.aaload, 1) := by decide +kernel
theorem dL_build_762 : decode cL_build 762 = .ok (.iconst 2, 1) := by decide +kernel
theorem dL_build_763 : decode cL_build 763 = .ok (.newarray .int, 2) := by decide +kernel
theorem dL_build_765 : decode cL_build 765 = .ok (.dup, 1) := by decide +kernel
theorem dL_build_766 : decode cL_build 766 = .ok (.iconst 0, 1) := by decide +kernel
theorem dL_build_767 : decode cL_build 767 = .ok (.iload 14, 2) := by decide +kernel
theorem dL_build_769 : decode cL_build 769 = .ok (.iastore, 1) := by decide +kernel
theorem dL_build_770 : decode cL_build 770 = .ok (.dup, 1) := by decide +kernel
theorem dL_build_771 : decode cL_build 771 = .ok (.iconst 1, 1) := by decide +kernel
theorem dL_build_772 : decode cL_build 772 = .ok (.iload 15, 2) := by decide +kernel
theorem dL_build_774 : decode cL_build 774 = .ok (.iastore, 1) := by decide +kernel
theorem dL_build_775 : decode cL_build 775 = .ok (.invokestatic 35, 3) := by decide +kernel
theorem dL_build_778 : decode cL_build 778 = .ok (.aastore, 1) := by decide +kernel
theorem dL_build_779 : decode cL_build 779 = .ok (.aload_n 0, 1) := by decide +kernel
theorem dL_build_780 : decode cL_build 780 = .ok (.iload 6, 2) := by decide +kernel
theorem dL_build_782 : decode cL_build 782 = .ok (.iload 10, 2) := by decide +kernel
theorem dL_build_784 : decode cL_build 784 = .ok (.iload 14, 2) := by decide +kernel
theorem dL_build_786 : decode cL_build 786 = .ok (.iload 15, 2) := by decide +kernel
theorem dL_build_788 : decode cL_build 788 = .ok (.invokevirtual 81, 3) := by decide +kernel
theorem dL_build_791 : decode cL_build 791 = .ok (.aload 8, 2) := by decide +kernel
theorem dL_build_793 : decode cL_build 793 = .ok (.getfield 77, 3) := by decide +kernel
theorem dL_build_796 : decode cL_build 796 = .ok (.iload 10, 2) := by decide +kernel
theorem dL_build_798 : decode cL_build 798 = .ok (.aaload, 1) := by decide +kernel
theorem dL_build_799 : decode cL_build 799 = .ok (.arraylength, 1) := by decide +kernel
theorem dL_build_800 : decode cL_build 800 = .ok (.if_icmp .eq 5, 3) := by decide +kernel
theorem dL_build_803 : decode cL_build 803 = .ok (.aconst_null, 1) := by decide +kernel
theorem dL_build_804 : decode cL_build 804 = .ok (.areturn, 1) := by decide +kernel
theorem dL_build_805 : decode cL_build 805 = .ok (.iinc 12 1, 3) := by decide +kernel
theorem dL_build_808 : decode cL_build 808 = .ok (.goto (-192), 3) := by decide +kernel
theorem dL_build_811 : decode cL_build 811 = .ok (.iinc 10 1, 3) := by decide +kernel
theorem dL_build_814 : decode cL_build 814 = .ok (.goto (-225), 3) := by decide +kernel
theorem dL_build_817 : decode cL_build 817 = .ok (.iload 7, 2) := by decide +kernel
theorem dL_build_819 : decode cL_build 819 = .ok (.iconst 3, 1) := by decide +kernel
theorem dL_build_820 : decode cL_build 820 = .ok (.ishr, 1) := by decide +kernel
theorem dL_build_821 : decode cL_build 821 = .ok (.bipush 6, 2) := by decide +kernel
theorem dL_build_823 : decode cL_build 823 = .ok (.invokestatic 18, 3) := by decide +kernel
theorem dL_build_826 : decode cL_build 826 = .ok (.istore 10, 2) := by decide +kernel
theorem dL_build_828 : decode cL_build 828 = .ok (.iload 7, 2) := by decide +kernel
theorem dL_build_830 : decode cL_build 830 = .ok (.bipush 7, 2) := by decide +kernel
theorem dL_build_832 : decode cL_build 832 = .ok (.ishr, 1) := by decide +kernel
theorem dL_build_833 : decode cL_build 833 = .ok (.bipush 88, 2) := by decide +kernel
theorem dL_build_835 : decode cL_build 835 = .ok (.invokestatic 18, 3) := by decide +kernel
theorem dL_build_838 : decode cL_build 838 = .ok (.istore 11, 2) := by decide +kernel
theorem dL_build_840 : decode cL_build 840 = .ok (.aload_n 0, 1) := by decide +kernel
theorem dL_build_841 : decode cL_build 841 = .ok (.iload 6, 2) := by decide +kernel
theorem dL_build_843 : decode cL_build 843 = .ok (.iload 10, 2) := by decide +kernel
theorem dL_build_845 : decode cL_build 845 = .ok (.iload 11, 2) := by decide +kernel
theorem dL_build_847 : decode cL_build 847 = .ok (.invokevirtual 85, 3) := by decide +kernel
theorem dL_build_850 : decode cL_build 850 = .ok (.bipush 60, 2) := by decide +kernel
theorem dL_build_852 : decode cL_build 852 = .ok (.iconst 2, 1) := by decide +kernel
theorem dL_build_853 : decode cL_build 853 = .ok (.iload 10, 2) := by decide +kernel
theorem dL_build_855 : decode cL_build 855 = .ok (.imul, 1) := by decide +kernel
theorem dL_build_856 : decode cL_build 856 = .ok (.iadd, 1) := by decide +kernel
theorem dL_build_857 : decode cL_build 857 = .ok (.if_icmp .eq 5, 3) := by decide +kernel
theorem dL_build_860 : decode cL_build 860 = .ok (.aconst_null, 1) := by decide +kernel
theorem dL_build_861 : decode cL_build 861 = .ok (.areturn, 1) := by decide +kernel
theorem dL_build_862 : decode cL_build 862 = .ok (.aload 8, 2) := by decide +kernel
theorem dL_build_864 : decode cL_build 864 = .ok (.getfield 88, 3) := by decide +kernel
theorem dL_build_867 : decode cL_build 867 = .ok (.iload 10, 2) := by decide +kernel
theorem dL_build_869 : decode cL_build 869 = .ok (.iload 11, 2) := by decide +kernel
theorem dL_build_871 : decode cL_build 871 = .ok (.iastore, 1) := by decide +kernel
theorem dL_build_872 : decode cL_build 872 = .ok (.iload 6, 2) := by decide +kernel
theorem dL_build_874 : decode cL_build 874 = .ok (.iconst 1, 1) := by decide +kernel
theorem dL_build_875 : decode cL_build 875 = .ok (.iadd, 1) := by decide +kernel
theorem dL_build_876 : decode cL_build 876 = .ok (.anewarray 36, 3) := by decide +kernel
theorem dL_build_879 : decode cL_build 879 = .ok (.astore 12, 2) := by decide +kernel
theorem dL_build_881 : decode cL_build 881 = .ok (.iconst 0, 1) := by decide +kernel
theorem dL_build_882 : decode cL_build 882 = .ok (.istore 13, 2) := by decide +kernel
theorem dL_build_884 : decode cL_build 884 = .ok (.iload 13, 2) := by decide +kernel
theorem dL_build_886 : decode cL_build 886 = .ok (.iload 6, 2) := by decide +kernel
theorem dL_build_888 : decode cL_build 888 = .ok (.if_icmp .ge 21, 3) := by decide +kernel
theorem dL_build_891 : decode cL_build 891 = .ok (.aload 12, 2) := by decide +kernel
theorem dL_build_893 : decode cL_build 893 = .ok (.iload 13, 2) := by decide +kernel
theorem dL_build_895 : decode cL_build 895 = .ok (.aload_n 3, 1) := by decide +kernel
theorem dL_build_896 : decode cL_build 896 = .ok (.getfield 92, 3) := by decide +kernel
theorem dL_build_899 : decode cL_build 899 = .ok (.iload 13, 2) := by decide +kernel
theorem dL_build_901 : decode cL_build 901 = .ok (.aaload, 1) := by decide +kernel
theorem dL_build_902 : decode cL_build 902 = .ok (.aastore, 1) := by decide +kernel
theorem dL_build_903 : decode cL_build 903 = .ok (.iinc 13 1, 3) := by decide +kernel
theorem dL_build_906 : decode cL_build 906 = .ok (.goto (-22), 3) := by decide +kernel
theorem dL_build_909 : decode cL_build 909 = .ok (.aload 12, 2) := by decide +kernel
theorem dL_build_911 : decode cL_build 911 = .ok (.iload 6, 2) := by decide +kernel
theorem dL_build_913 : decode cL_build 913 = .ok (.aload 8, 2) := by decide +kernel
theorem dL_build_915 : decode cL_build 915 = .ok (.aastore, 1) := by decide +kernel
theorem dL_build_916 : decode cL_build 916 = .ok (.aload_n 3, 1) := by decide +kernel
theorem dL_build_917 : decode cL_build 917 = .ok (.aload 12, 2) := by decide +kernel
theorem dL_build_919 : decode cL_build 919 = .ok (.putfield 92, 3) := by decide +kernel
theorem dL_build_922 : decode cL_build 922 = .ok (.iinc 6 1, 3) := by decide +kernel
theorem dL_build_925 : decode cL_build 925 = .ok (.goto (-678), 3) := by decide +kernel
theorem dL_build_928 : decode cL_build 928 = .ok (.aload_n 3, 1) := by decide +kernel
theorem dL_build_929 : decode cL_build 929 = .ok (.areturn, 1) := by decide +kernel
theorem dL_law_0 : decode cL_law 0 = .ok (.new 23, 3) := by decide +kernel
theorem dL_law_3 : decode cL_law 3 = .ok (.dup, 1) := by decide +kernel
theorem dL_law_4 : decode cL_law 4 = .ok (.invokespecial 96, 3) := by decide +kernel
theorem dL_law_7 : decode cL_law 7 = .ok (.astore_n 1, 1) := by decide +kernel
theorem dL_law_8 : decode cL_law 8 = .ok (.aload_n 1, 1) := by decide +kernel
theorem dL_law_9 : decode cL_law 9 = .ok (.aload_n 0, 1) := by decide +kernel
theorem dL_law_10 : decode cL_law 10 = .ok (.sipush 30000, 3) := by decide +kernel
theorem dL_law_13 : decode cL_law 13 = .ok (.invokestatic 97, 3) := by decide +kernel
theorem dL_law_16 : decode cL_law 16 = .ok (.astore_n 2, 1) := by decide +kernel
theorem dL_law_17 : decode cL_law 17 = .ok (.aload_n 2, 1) := by decide +kernel
theorem dL_law_18 : decode cL_law 18 = .ok (.ifnonnull 5, 3) := by decide +kernel
theorem dL_law_21 : decode cL_law 21 = .ok (.iconst 0, 1) := by decide +kernel
theorem dL_law_22 : decode cL_law 22 = .ok (.ireturn, 1) := by decide +kernel
theorem dL_law_23 : decode cL_law 23 = .ok (.aload_n 2, 1) := by decide +kernel
theorem dL_law_24 : decode cL_law 24 = .ok (.getfield 31, 3) := by decide +kernel
theorem dL_law_27 : decode cL_law 27 = .ok (.arraylength, 1) := by decide +kernel
theorem dL_law_28 : decode cL_law 28 = .ok (.istore_n 3, 1) := by decide +kernel
theorem dL_law_29 : decode cL_law 29 = .ok (.aload_n 2, 1) := by decide +kernel
theorem dL_law_30 : decode cL_law 30 = .ok (.getfield 92, 3) := by decide +kernel
theorem dL_law_33 : decode cL_law 33 = .ok (.arraylength, 1) := by decide +kernel
theorem dL_law_34 : decode cL_law 34 = .ok (.istore 4, 2) := by decide +kernel
theorem dL_law_36 : decode cL_law 36 = .ok (.aload_n 1, 1) := by decide +kernel
theorem dL_law_37 : decode cL_law 37 = .ok (.iconst 5, 1) := by decide +kernel
theorem dL_law_38 : decode cL_law 38 = .ok (.invokevirtual 101, 3) := by decide +kernel
theorem dL_law_41 : decode cL_law 41 = .ok (.istore 5, 2) := by decide +kernel
theorem dL_law_43 : decode cL_law 43 = .ok (.iconst 0, 1) := by decide +kernel
theorem dL_law_44 : decode cL_law 44 = .ok (.istore 6, 2) := by decide +kernel
theorem dL_law_46 : decode cL_law 46 = .ok (.iconst 0, 1) := by decide +kernel
theorem dL_law_47 : decode cL_law 47 = .ok (.istore 7, 2) := by decide +kernel
theorem dL_law_49 : decode cL_law 49 = .ok (.iload 7, 2) := by decide +kernel
theorem dL_law_51 : decode cL_law 51 = .ok (.bipush 40, 2) := by decide +kernel
theorem dL_law_53 : decode cL_law 53 = .ok (.if_icmp .ge 765, 3) := by decide +kernel
theorem dL_law_56 : decode cL_law 56 = .ok (.iload_n 3, 1) := by decide +kernel
theorem dL_law_57 : decode cL_law 57 = .ok (.newarray .int, 2) := by decide +kernel
theorem dL_law_59 : decode cL_law 59 = .ok (.astore 8, 2) := by decide +kernel
theorem dL_law_61 : decode cL_law 61 = .ok (.iload_n 3, 1) := by decide +kernel
theorem dL_law_62 : decode cL_law 62 = .ok (.newarray .int, 2) := by decide +kernel
theorem dL_law_64 : decode cL_law 64 = .ok (.astore 9, 2) := by decide +kernel
theorem dL_law_66 : decode cL_law 66 = .ok (.iconst 0, 1) := by decide +kernel
theorem dL_law_67 : decode cL_law 67 = .ok (.istore 10, 2) := by decide +kernel
theorem dL_law_69 : decode cL_law 69 = .ok (.iload 10, 2) := by decide +kernel
theorem dL_law_71 : decode cL_law 71 = .ok (.iload_n 3, 1) := by decide +kernel
theorem dL_law_72 : decode cL_law 72 = .ok (.if_icmp .ge 21, 3) := by decide +kernel
theorem dL_law_75 : decode cL_law 75 = .ok (.aload 9, 2) := by decide +kernel
theorem dL_law_77 : decode cL_law 77 = .ok (.iload 10, 2) := by decide +kernel
theorem dL_law_79 : decode cL_law 79 = .ok (.aload_n 1, 1) := by decide +kernel
theorem dL_law_80 : decode cL_law 80 = .ok (.iload 10, 2) := by decide +kernel
theorem dL_law_82 : decode cL_law 82 = .ok (.iconst 2, 1) := by decide +kernel
theorem dL_law_83 : decode cL_law 83 = .ok (.invokevirtual 104, 3) := by decide +kernel
theorem dL_law_86 : decode cL_law 86 = .ok (.iastore, 1) := by decide +kernel
theorem dL_law_87 : decode cL_law 87 = .ok (.iinc 10 1, 3) := by decide +kernel
theorem dL_law_90 : decode cL_law 90 = .ok (.goto (-21), 3) := by decide +kernel
theorem dL_law_93 : decode cL_law 93 = .ok (.iload 4, 2) := by decide +kernel
theorem dL_law_95 : decode cL_law 95 = .ok (.newarray .long, 2) := by decide +kernel
theorem dL_law_97 : decode cL_law 97 = .ok (.astore 10, 2) := by decide +kernel
theorem dL_law_99 : decode cL_law 99 = .ok (.iconst 0, 1) := by decide +kernel
theorem dL_law_100 : decode cL_law 100 = .ok (.istore 11, 2) := by decide +kernel
theorem dL_law_102 : decode cL_law 102 = .ok (.iload 11, 2) := by decide +kernel
theorem dL_law_104 : decode cL_law 104 = .ok (.iload 4, 2) := by decide +kernel
theorem dL_law_106 : decode cL_law 106 = .ok (.if_icmp .ge 23, 3) := by decide +kernel
theorem dL_law_109 : decode cL_law 109 = .ok (.aload 10, 2) := by decide +kernel
theorem dL_law_111 : decode cL_law 111 = .ok (.iload 11, 2) := by decide +kernel
theorem dL_law_113 : decode cL_law 113 = .ok (.aload_n 1, 1) := by decide +kernel
theorem dL_law_114 : decode cL_law 114 = .ok (.iload 11, 2) := by decide +kernel
theorem dL_law_116 : decode cL_law 116 = .ok (.bipush 8, 2) := by decide +kernel
theorem dL_law_118 : decode cL_law 118 = .ok (.invokevirtual 106, 3) := by decide +kernel
theorem dL_law_121 : decode cL_law 121 = .ok (.i2l, 1) := by decide +kernel
theorem dL_law_122 : decode cL_law 122 = .ok (.lastore, 1) := by decide +kernel
theorem dL_law_123 : decode cL_law 123 = .ok (.iinc 11 1, 3) := by decide +kernel
theorem dL_law_126 : decode cL_law 126 = .ok (.goto (-24), 3) := by decide +kernel
theorem dL_law_129 : decode cL_law 129 = .ok (.aload_n 0, 1) := by decide +kernel
theorem dL_law_130 : decode cL_law 130 = .ok (.iload 7, 2) := by decide +kernel
theorem dL_law_132 : decode cL_law 132 = .ok (.bipush 16, 2) := by decide +kernel
theorem dL_law_134 : decode cL_law 134 = .ok (.irem, 1) := by decide +kernel
theorem dL_law_135 : decode cL_law 135 = .ok (.invokestatic 12, 3) := by decide +kernel
theorem dL_law_138 : decode cL_law 138 = .ok (.iload 7, 2) := by decide +kernel
theorem dL_law_140 : decode cL_law 140 = .ok (.bipush 16, 2) := by decide +kernel
theorem dL_law_142 : decode cL_law 142 = .ok (.idiv, 1) := by decide +kernel
theorem dL_law_143 : decode cL_law 143 = .ok (.ishr, 1) := by decide +kernel
theorem dL_law_144 : decode cL_law 144 = .ok (.iconst 5, 1) := by decide +kernel
theorem dL_law_145 : decode cL_law 145 = .ok (.invokestatic 18, 3) := by decide +kernel
theorem dL_law_148 : decode cL_law 148 = .ok (.ifCond .ne 88, 3) := by decide +kernel
theorem dL_law_151 : decode cL_law 151 = .ok (.aload_n 0, 1) := by decide +kernel
theorem dL_law_152 : decode cL_law 152 = .ok (.iload 7, 2) := by decide +kernel
theorem dL_law_154 : decode cL_law 154 = .ok (.bipush 16, 2) := by decide +kernel
theorem dL_law_156 : decode cL_law 156 = .ok (.irem, 1) := by decide +kernel
theorem dL_law_157 : decode cL_law 157 = .ok (.invokestatic 12, 3) := by decide +kernel
theorem dL_law_160 : decode cL_law 160 = .ok (.iconst 3, 1) := by decide +kernel
theorem dL_law_161 : decode cL_law 161 = .ok (.ishr, 1) := by decide +kernel
theorem dL_law_162 : decode cL_law 162 = .ok (.iload_n 3, 1) := by decide +kernel
theorem dL_law_163 : decode cL_law 163 = .ok (.invokestatic 18, 3) := by decide +kernel
theorem dL_law_166 : decode cL_law 166 = .ok (.istore 11, 2) := by decide +kernel
theorem dL_law_168 : decode cL_law 168 = .ok (.aload_n 1, 1) := by decide +kernel
theorem dL_law_169 : decode cL_law 169 = .ok (.iload 11, 2) := by decide +kernel
theorem dL_law_171 : decode cL_law 171 = .ok (.iconst 1, 1) := by decide +kernel
theorem dL_law_172 : decode cL_law 172 = .ok (.invokevirtual 104, 3) := by decide +kernel
theorem dL_law_175 : decode cL_law 175 = .ok (.istore 12, 2) := by decide +kernel
theorem dL_law_177 : decode cL_law 177 = .ok (.iconst 1, 1) := by decide +kernel
theorem dL_law_178 : decode cL_law 178 = .ok (.aload_n 0, 1) := by decide +kernel
theorem dL_law_179 : decode cL_law 179 = .ok (.iload 7, 2) := by decide +kernel
theorem dL_law_181 : decode cL_law 181 = .ok (.bipush 16, 2) := by decide +kernel
theorem dL_law_183 : decode cL_law 183 = .ok (.irem, 1) := by decide +kernel
theorem dL_law_184 : decode cL_law 184 = .ok (.invokestatic 12, 3) := by decide +kernel
theorem dL_law_187 : decode cL_law 187 = .ok (.iconst 5, 1) := by decide +kernel
theorem dL_law_188 : decode cL_law 188 = .ok (.ishr, 1) := by decide +kernel
theorem dL_law_189 : decode cL_law 189 = .ok (.sipush 5000, 3) := by decide +kernel
theorem dL_law_192 : decode cL_law 192 = .ok (.invokestatic 18, 3) := by decide +kernel
theorem dL_law_195 : decode cL_law 195 = .ok (.iadd, 1) := by decide +kernel
theorem dL_law_196 : decode cL_law 196 = .ok (.istore 13, 2) := by decide +kernel
theorem dL_law_198 : decode cL_law 198 = .ok (.aload_n 1, 1) := by decide +kernel
theorem dL_law_199 : decode cL_law 199 = .ok (.iload 11, 2) := by decide +kernel
theorem dL_law_201 : decode cL_law 201 = .ok (.iload 13, 2) := by decide +kernel
theorem dL_law_203 : decode cL_law 203 = .ok (.invokevirtual 28, 3) := by decide +kernel
theorem dL_law_206 : decode cL_law 206 = .ok (.ldc 109, 2) := by decide +kernel
theorem dL_law_208 : decode cL_law 208 = .ok (.iload 12, 2) := by decide +kernel
theorem dL_law_210 : decode cL_law 210 = .ok (.iload 13, 2) := by decide +kernel
theorem dL_law_212 : decode cL_law 212 = .ok (.iadd, 1) := by decide +kernel
theorem dL_law_213 : decode cL_law 213 = .ok (.invokestatic 110, 3) := by decide +kernel
theorem dL_law_216 : decode cL_law 216 = .ok (.if_icmp .eq 5, 3) := by decide +kernel
theorem dL_law_219 : decode cL_law 219 = .ok (.iconst 0, 1) := by decide +kernel
theorem dL_law_220 : decode cL_law 220 = .ok (.ireturn, 1) := by decide +kernel
theorem dL_law_221 : decode cL_law 221 = .ok (.iload 5, 2) := by decide +kernel
theorem dL_law_223 : decode cL_law 223 = .ok (.aload_n 1, 1) := by decide +kernel
theorem dL_law_224 : decode cL_law 224 = .ok (.iload 11, 2) := by decide +kernel
theorem dL_law_226 : decode cL_law 226 = .ok (.iconst 1, 1) := by decide +kernel
theorem dL_law_227 : decode cL_law 227 = .ok (.invokevirtual 104, 3) := by decide +kernel
theorem dL_law_230 : decode cL_law 230 = .ok (.iload 12, 2) := by decide +kernel
theorem dL_law_232 : decode cL_law 232 = .ok (.isub, 1) := by decide +kernel
theorem dL_law_233 : decode cL_law 233 = .ok (.iadd, 1) := by decide +kernel
theorem dL_law_234 : decode cL_law 234 = .ok (.istore 5, 2) := by decide +kernel
theorem dL_law_236 : decode cL_law 236 = .ok (.aload_n 1, 1) := by decide +kernel
theorem dL_law_237 : decode cL_law 237 = .ok (.iconst 1, 1) := by decide +kernel
theorem dL_law_238 : decode cL_law 238 = .ok (.invokevirtual 115, 3) := by decide +kernel
theorem dL_law_241 : decode cL_law 241 = .ok (.istore 11, 2) := by decide +kernel
theorem dL_law_243 : decode cL_law 243 = .ok (.iload 6, 2) := by decide +kernel
theorem dL_law_245 : decode cL_law 245 = .ok (.iload 11, 2) := by decide +kernel
theorem dL_law_247 : decode cL_law 247 = .ok (.iadd, 1) := by decide +kernel
theorem dL_law_248 : decode cL_law 248 = .ok (.istore 6, 2) := by decide +kernel
theorem dL_law_250 : decode cL_law 250 = .ok (.iconst 0, 1) := by decide +kernel
theorem dL_law_251 : decode cL_law 251 = .ok (.istore 12, 2) := by decide +kernel
theorem dL_law_253 : decode cL_law 253 = .ok (.iconst 0, 1) := by decide +kernel
theorem dL_law_254 : decode cL_law 254 = .ok (.istore 13, 2) := by decide +kernel
theorem dL_law_256 : decode cL_law 256 = .ok (.iconst 0, 1) := by decide +kernel
theorem dL_law_257 : decode cL_law 257 = .ok (.istore 14, 2) := by decide +kernel
theorem dL_law_259 : decode cL_law 259 = .ok (.iload 14, 2) := by decide +kernel
theorem dL_law_261 : decode cL_law 261 = .ok (.iload_n 3, 1) := by decide +kernel
theorem dL_law_262 : decode cL_law 262 = .ok (.if_icmp .ge 129, 3) := by decide +kernel
theorem dL_law_265 : decode cL_law 265 = .ok (.aload 8, 2) := by decide +kernel
theorem dL_law_267 : decode cL_law 267 = .ok (.iload 14, 2) := by decide +kernel
theorem dL_law_269 : decode cL_law 269 = .ok (.aload_n 1, 1) := by decide +kernel
theorem dL_law_270 : decode cL_law 270 = .ok (.iload 14, 2) := by decide +kernel
theorem dL_law_272 : decode cL_law 272 = .ok (.iconst 1, 1) := by decide +kernel
theorem dL_law_273 : decode cL_law 273 = .ok (.invokevirtual 104, 3) := by decide +kernel
theorem dL_law_276 : decode cL_law 276 = .ok (.iastore, 1) := by decide +kernel
theorem dL_law_277 : decode cL_law 277 = .ok (.aload_n 1, 1) := by decide +kernel
theorem dL_law_278 : decode cL_law 278 = .ok (.iload 14, 2) := by decide +kernel
theorem dL_law_280 : decode cL_law 280 = .ok (.iconst 3, 1) := by decide +kernel
theorem dL_law_281 : decode cL_law 281 = .ok (.invokevirtual 104, 3) := by decide +kernel
theorem dL_law_284 : decode cL_law 284 = .ok (.istore 15, 2) := by decide +kernel
theorem dL_law_286 : decode cL_law 286 = .ok (.aload 8, 2) := by decide +kernel
theorem dL_law_288 : decode cL_law 288 = .ok (.iload 14, 2) := by decide +kernel
theorem dL_law_290 : decode cL_law 290 = .ok (.iaload, 1) := by decide +kernel
theorem dL_law_291 : decode cL_law 291 = .ok (.ifCond .lt 70, 3) := by decide +kernel
theorem dL_law_294 : decode cL_law 294 = .ok (.aload 8, 2) := by decide +kernel
theorem dL_law_296 : decode cL_law 296 = .ok (.iload 14, 2) := by decide +kernel
theorem dL_law_298 : decode cL_law 298 = .ok (.iaload, 1) := by decide +kernel
theorem dL_law_299 : decode cL_law 299 = .ok (.ldc 109, 2) := by decide +kernel
theorem dL_law_301 : decode cL_law 301 = .ok (.if_icmp .gt 60, 3) := by decide +kernel
theorem dL_law_304 : decode cL_law 304 = .ok (.iload 15, 2) := by decide +kernel
theorem dL_law_306 : decode cL_law 306 = .ok (.ifCond .lt 55, 3) := by decide +kernel
theorem dL_law_309 : decode cL_law 309 = .ok (.iload 15, 2) := by decide +kernel
theorem dL_law_311 : decode cL_law 311 = .ok (.sipush 400, 3) := by decide +kernel
theorem dL_law_314 : decode cL_law 314 = .ok (.if_icmp .gt 47, 3) := by decide +kernel
theorem dL_law_317 : decode cL_law 317 = .ok (.aload_n 1, 1) := by decide +kernel
theorem dL_law_318 : decode cL_law 318 = .ok (.iload 14, 2) := by decide +kernel
theorem dL_law_320 : decode cL_law 320 = .ok (.iconst 2, 1) := by decide +kernel
theorem dL_law_321 : decode cL_law 321 = .ok (.invokevirtual 104, 3) := by decide +kernel
theorem dL_law_324 : decode cL_law 324 = .ok (.aload 9, 2) := by decide +kernel
theorem dL_law_326 : decode cL_law 326 = .ok (.iload 14, 2) := by decide +kernel
theorem dL_law_328 : decode cL_law 328 = .ok (.iaload, 1) := by decide +kernel
theorem dL_law_329 : decode cL_law 329 = .ok (.iload 15, 2) := by decide +kernel
theorem dL_law_331 : decode cL_law 331 = .ok (.iadd, 1) := by decide +kernel
theorem dL_law_332 : decode cL_law 332 = .ok (.if_icmp .ne 29, 3) := by decide +kernel
theorem dL_law_335 : decode cL_law 335 = .ok (.aload_n 1, 1) := by decide +kernel
theorem dL_law_336 : decode cL_law 336 = .ok (.iload 14, 2) := by decide +kernel
theorem dL_law_338 : decode cL_law 338 = .ok (.bipush 6, 2) := by decide +kernel
theorem dL_law_340 : decode cL_law 340 = .ok (.invokevirtual 104, 3) := by decide +kernel
theorem dL_law_343 : decode cL_law 343 = .ok (.bipush 10, 2) := by decide +kernel
theorem dL_law_345 : decode cL_law 345 = .ok (.if_icmp .lt 16, 3) := by decide +kernel
theorem dL_law_348 : decode cL_law 348 = .ok (.iload 15, 2) := by decide +kernel
theorem dL_law_350 : decode cL_law 350 = .ok (.ifCond .ne 13, 3) := by decide +kernel
theorem dL_law_353 : decode cL_law 353 = .ok (.aload 8, 2) := by decide +kernel
theorem dL_law_355 : decode cL_law 355 = .ok (.iload 14, 2) := by decide +kernel
theorem dL_law_357 : decode cL_law 357 = .ok (.iaload, 1) := by decide +kernel
theorem dL_law_358 : decode cL_law 358 = .ok (.ifCond .le 5, 3) := by decide +kernel
theorem dL_law_361 : decode cL_law 361 = .ok (.iconst 0, 1) := by decide +kernel
theorem dL_law_362 : decode cL_law 362 = .ok (.ireturn, 1) := by decide +kernel
theorem dL_law_363 : decode cL_law 363 = .ok (.iload 12, 2) := by decide +kernel
theorem dL_law_365 : decode cL_law 365 = .ok (.aload 8, 2) := by decide +kernel
theorem dL_law_367 : decode cL_law 367 = .ok (.iload 14, 2) := by decide +kernel
theorem dL_law_369 : decode cL_law 369 = .ok (.iaload, 1) := by decide +kernel
theorem dL_law_370 : decode cL_law 370 = .ok (.iadd, 1) := by decide +kernel
theorem dL_law_371 : decode cL_law 371 = .ok (.istore 12, 2) := by decide +kernel
theorem dL_law_373 : decode cL_law 373 = .ok (.iload 13, 2) := by decide +kernel
theorem dL_law_375 : decode cL_law 375 = .ok (.aload_n 1, 1) := by decide +kernel
theorem dL_law_376 : decode cL_law 376 = .ok (.iload 14, 2) := by decide +kernel
theorem dL_law_378 : decode cL_law 378 = .ok (.iconst 2, 1) := by decide +kernel
theorem dL_law_379 : decode cL_law 379 = .ok (.invokevirtual 104, 3) := by decide +kernel
theorem dL_law_382 : decode cL_law 382 = .ok (.iadd, 1) := by decide +kernel
theorem dL_law_383 : decode cL_law 383 = .ok (.istore 13, 2) := by decide +kernel
theorem dL_law_385 : decode cL_law 385 = .ok (.iinc 14 1, 3) := by decide +kernel
theorem dL_law_388 : decode cL_law 388 = .ok (.goto (-129), 3) := by decide +kernel
theorem dL_law_391 : decode cL_law 391 = .ok (.iload 12, 2) := by decide +kernel
theorem dL_law_393 : decode cL_law 393 = .ok (.aload_n 1, 1) := by decide +kernel
theorem dL_law_394 : decode cL_law 394 = .ok (.iconst 5, 1) := by decide +kernel
theorem dL_law_395 : decode cL_law 395 = .ok (.invokevirtual 101, 3) := by decide +kernel
theorem dL_law_398 : decode cL_law 398 = .ok (.if_icmp .ne 52, 3) := by decide +kernel
theorem dL_law_401 : decode cL_law 401 = .ok (.iload 5, 2) := by decide +kernel
theorem dL_law_403 : decode cL_law 403 = .ok (.iload 12, 2) := by decide +kernel
theorem dL_law_405 : decode cL_law 405 = .ok (.isub, 1) := by decide +kernel
theorem dL_law_406 : decode cL_law 406 = .ok (.iload 13, 2) := by decide +kernel
theorem dL_law_408 : decode cL_law 408 = .ok (.isub, 1) := by decide +kernel
theorem dL_law_409 : decode cL_law 409 = .ok (.ifCond .lt 41, 3) := by decide +kernel
theorem dL_law_412 : decode cL_law 412 = .ok (.iload 5, 2) := by decide +kernel
theorem dL_law_414 : decode cL_law 414 = .ok (.iload 12, 2) := by decide +kernel
theorem dL_law_416 : decode cL_law 416 = .ok (.isub, 1) := by decide +kernel
theorem dL_law_417 : decode cL_law 417 = .ok (.iload 13, 2) := by decide +kernel
theorem dL_law_419 : decode cL_law 419 = .ok (.isub, 1) := by decide +kernel
theorem dL_law_420 : decode cL_law 420 = .ok (.bipush 10, 2) := by decide +kernel
theorem dL_law_422 : decode cL_law 422 = .ok (.iload 6, 2) := by decide +kernel
theorem dL_law_424 : decode cL_law 424 = .ok (.imul, 1) := by decide +kernel
theorem dL_law_425 : decode cL_law 425 = .ok (.if_icmp .gt 25, 3) := by decide +kernel
theorem dL_law_428 : decode cL_law 428 = .ok (.aload_n 1, 1) := by decide +kernel
theorem dL_law_429 : decode cL_law 429 = .ok (.iconst 0, 1) := by decide +kernel
theorem dL_law_430 : decode cL_law 430 = .ok (.invokevirtual 101, 3) := by decide +kernel
theorem dL_law_433 : decode cL_law 433 = .ok (.iload 7, 2) := by decide +kernel
theorem dL_law_435 : decode cL_law 435 = .ok (.iconst 1, 1) := by decide +kernel
theorem dL_law_436 : decode cL_law 436 = .ok (.iadd, 1) := by decide +kernel
theorem dL_law_437 : decode cL_law 437 = .ok (.if_icmp .ne 13, 3) := by decide +kernel
theorem dL_law_440 : decode cL_law 440 = .ok (.aload_n 1, 1) := by decide +kernel
theorem dL_law_441 : decode cL_law 441 = .ok (.iconst 4, 1) := by decide +kernel
theorem dL_law_442 : decode cL_law 442 = .ok (.invokevirtual 101, 3) := by decide +kernel
theorem dL_law_445 : decode cL_law 445 = .ok (.iload 6, 2) := by decide +kernel
theorem dL_law_447 : decode cL_law 447 = .ok (.if_icmp .eq 5, 3) := by decide +kernel
theorem dL_law_450 : decode cL_law 450 = .ok (.iconst 0, 1) := by decide +kernel
theorem dL_law_451 : decode cL_law 451 = .ok (.ireturn, 1) := by decide +kernel
theorem dL_law_452 : decode cL_law 452 = .ok (.iconst 0, 1) := by decide +kernel
theorem dL_law_453 : decode cL_law 453 = .ok (.istore 14, 2) := by decide +kernel
theorem dL_law_455 : decode cL_law 455 = .ok (.iconst 0, 1) := by decide +kernel
theorem dL_law_456 : decode cL_law 456 = .ok (.istore 15, 2) := by decide +kernel
theorem dL_law_458 : decode cL_law 458 = .ok (.iload 15, 2) := by decide +kernel
theorem dL_law_460 : decode cL_law 460 = .ok (.iload 4, 2) := by decide +kernel
theorem dL_law_462 : decode cL_law 462 = .ok (.if_icmp .ge 293, 3) := by decide +kernel
theorem dL_law_465 : decode cL_law 465 = .ok (.aload_n 1, 1) := by decide +kernel
theorem dL_law_466 : decode cL_law 466 = .ok (.iload 15, 2) := by decide +kernel
theorem dL_law_468 : decode cL_law 468 = .ok (.iconst 0, 1) := by decide +kernel
theorem dL_law_469 : decode cL_law 469 = .ok (.invokevirtual 106, 3) := by decide +kernel
theorem dL_law_472 : decode cL_law 472 = .ok (.istore 16, 2) := by decide +kernel
theorem dL_law_474 : decode cL_law 474 = .ok (.aload_n 1, 1) := by decide +kernel
theorem dL_law_475 : decode cL_law 475 = .ok (.iload 16, 2) := by decide +kernel
theorem dL_law_477 : decode cL_law 477 = .ok (.iconst 2, 1) := by decide +kernel
theorem dL_law_478 : decode cL_law 478 = .ok (.invokevirtual 104, 3) := by decide +kernel
theorem dL_law_481 : decode cL_law 481 = .ok (.i2l, 1) := by decide +kernel
theorem dL_law_482 : decode cL_law 482 = .ok (.aload_n 1, 1) := by decide +kernel
theorem dL_law_483 : decode cL_law 483 = .ok (.iload 15, 2) := by decide +kernel
theorem dL_law_485 : decode cL_law 485 = .ok (.iconst 3, 1) := by decide +kernel
theorem dL_law_486 : decode cL_law 486 = .ok (.invokevirtual 106, 3) := by decide +kernel
theorem dL_law_489 : decode cL_law 489 = .ok (.i2l, 1) := by decide +kernel
theorem dL_law_490 : decode cL_law 490 = .ok (.lmul, 1) := by decide +kernel
theorem dL_law_491 : decode cL_law 491 = .ok (.aload_n 1, 1) := by decide +kernel
theorem dL_law_492 : decode cL_law 492 = .ok (.iload 15, 2) := by decide +kernel
theorem dL_law_494 : decode cL_law 494 = .ok (.iconst 2, 1) := by decide +kernel
theorem dL_law_495 : decode cL_law 495 = .ok (.invokevirtual 106, 3) := by decide +kernel
theorem dL_law_498 : decode cL_law 498 = .ok (.i2l, 1) := by decide +kernel
theorem dL_law_499 : decode cL_law 499 = .ok (.lmul, 1) := by decide +kernel
theorem dL_law_500 : decode cL_law 500 = .ok (.ldc2_w 118, 3) := by decide +kernel
theorem dL_law_503 : decode cL_law 503 = .ok (.aload_n 1, 1) := by decide +kernel
theorem dL_law_504 : decode cL_law 504 = .ok (.iload 15, 2) := by decide +kernel
theorem dL_law_506 : decode cL_law 506 = .ok (.iconst 4, 1) := by decide +kernel
theorem dL_law_507 : decode cL_law 507 = .ok (.invokevirtual 106, 3) := by decide +kernel
theorem dL_law_510 : decode cL_law 510 = .ok (.i2l, 1) := by decide +kernel
theorem dL_law_511 : decode cL_law 511 = .ok (.lmul, 1) := by decide +kernel
theorem dL_law_512 : decode cL_law 512 = .ok (.ldiv, 1) := by decide +kernel
theorem dL_law_513 : decode cL_law 513 = .ok (.lstore 17, 2) := by decide +kernel
theorem dL_law_515 : decode cL_law 515 = .ok (.aload_n 1, 1) := by decide +kernel
theorem dL_law_516 : decode cL_law 516 = .ok (.iload 15, 2) := by decide +kernel
theorem dL_law_518 : decode cL_law 518 = .ok (.bipush 8, 2) := by decide +kernel
theorem dL_law_520 : decode cL_law 520 = .ok (.invokevirtual 106, 3) := by decide +kernel
theorem dL_law_523 : decode cL_law 523 = .ok (.i2l, 1) := by decide +kernel
theorem dL_law_524 : decode cL_law 524 = .ok (.lload 17, 2) := by decide +kernel
theorem dL_law_526 : decode cL_law 526 = .ok (.lcmp, 1) := by decide +kernel
theorem dL_law_527 : decode cL_law 527 = .ok (.ifCond .ne 37, 3) := by decide +kernel
theorem dL_law_530 : decode cL_law 530 = .ok (.aload_n 1, 1) := by decide +kernel
theorem dL_law_531 : decode cL_law 531 = .ok (.iload 15, 2) := by decide +kernel
theorem dL_law_533 : decode cL_law 533 = .ok (.iconst 5, 1) := by decide +kernel
theorem dL_law_534 : decode cL_law 534 = .ok (.invokevirtual 106, 3) := by decide +kernel
theorem dL_law_537 : decode cL_law 537 = .ok (.i2l, 1) := by decide +kernel
theorem dL_law_538 : decode cL_law 538 = .ok (.lload 17, 2) := by decide +kernel
theorem dL_law_540 : decode cL_law 540 = .ok (.aload_n 1, 1) := by decide +kernel
theorem dL_law_541 : decode cL_law 541 = .ok (.iload 15, 2) := by decide +kernel
theorem dL_law_543 : decode cL_law 543 = .ok (.iconst 2, 1) := by decide +kernel
theorem dL_law_544 : decode cL_law 544 = .ok (.invokevirtual 106, 3) := by decide +kernel
theorem dL_law_547 : decode cL_law 547 = .ok (.i2l, 1) := by decide +kernel
theorem dL_law_548 : decode cL_law 548 = .ok (.lrem, 1) := by decide +kernel
theorem dL_law_549 : decode cL_law 549 = .ok (.lcmp, 1) := by decide +kernel
theorem dL_law_550 : decode cL_law 550 = .ok (.ifCond .ne 14, 3) := by decide +kernel
theorem dL_law_553 : decode cL_law 553 = .ok (.lload 17, 2) := by decide +kernel
theorem dL_law_555 : decode cL_law 555 = .ok (.aload 10, 2) := by decide +kernel
theorem dL_law_557 : decode cL_law 557 = .ok (.iload 15, 2) := by decide +kernel
theorem dL_law_559 : decode cL_law 559 = .ok (.laload, 1) := by decide +kernel
theorem dL_law_560 : decode cL_law 560 = .ok (.lcmp, 1) := by decide +kernel
theorem dL_law_561 : decode cL_law 561 = .ok (.ifCond .ge 5, 3) := by decide +kernel
theorem dL_law_564 : decode cL_law 564 = .ok (.iconst 0, 1) := by decide +kernel
theorem dL_law_565 : decode cL_law 565 = .ok (.ireturn, 1) := by decide +kernel
theorem dL_law_566 : decode cL_law 566 = .ok (.iload 14, 2) := by decide +kernel
theorem dL_law_568 : decode cL_law 568 = .ok (.aload_n 1, 1) := by decide +kernel
theorem dL_law_569 : decode cL_law 569 = .ok (.iload 15, 2) := by decide +kernel
theorem dL_law_571 : decode cL_law 571 = .ok (.bipush 9, 2) := by decide +kernel
theorem dL_law_573 : decode cL_law 573 = .ok (.invokevirtual 106, 3) := by decide +kernel
theorem dL_law_576 : decode cL_law 576 = .ok (.iadd, 1) := by decide +kernel
theorem dL_law_577 : decode cL_law 577 = .ok (.istore 14, 2) := by decide +kernel
theorem dL_law_579 : decode cL_law 579 = .ok (.iconst 0, 1) := by decide +kernel
theorem dL_law_580 : decode cL_law 580 = .ok (.istore 19, 2) := by decide +kernel
theorem dL_law_582 : decode cL_law 582 = .ok (.iload 19, 2) := by decide +kernel
theorem dL_law_584 : decode cL_law 584 = .ok (.iconst 3, 1) := by decide +kernel
theorem dL_law_585 : decode cL_law 585 = .ok (.if_icmp .ge 164, 3) := by decide +kernel
theorem dL_law_588 : decode cL_law 588 = .ok (.bipush 100, 2) := by decide +kernel
theorem dL_law_590 : decode cL_law 590 = .ok (.istore 20, 2) := by decide +kernel
theorem dL_law_592 : decode cL_law 592 = .ok (.iconst 0, 1) := by decide +kernel
theorem dL_law_593 : decode cL_law 593 = .ok (.istore 21, 2) := by decide +kernel
theorem dL_law_595 : decode cL_law 595 = .ok (.iconst 0, 1) := by decide +kernel
theorem dL_law_596 : decode cL_law 596 = .ok (.istore 22, 2) := by decide +kernel
theorem dL_law_598 : decode cL_law 598 = .ok (.iload 22, 2) := by decide +kernel
theorem dL_law_600 : decode cL_law 600 = .ok (.aload_n 1, 1) := by decide +kernel
theorem dL_law_601 : decode cL_law 601 = .ok (.iload 15, 2) := by decide +kernel
theorem dL_law_603 : decode cL_law 603 = .ok (.iconst 2, 1) := by decide +kernel
theorem dL_law_604 : decode cL_law 604 = .ok (.invokevirtual 106, 3) := by decide +kernel
theorem dL_law_607 : decode cL_law 607 = .ok (.if_icmp .ge 43, 3) := by decide +kernel
theorem dL_law_610 : decode cL_law 610 = .ok (.iload 20, 2) := by decide +kernel
theorem dL_law_612 : decode cL_law 612 = .ok (.aload_n 1, 1) := by decide +kernel
theorem dL_law_613 : decode cL_law 613 = .ok (.iload 15, 2) := by decide +kernel
theorem dL_law_615 : decode cL_law 615 = .ok (.iload 19, 2) := by decide +kernel
theorem dL_law_617 : decode cL_law 617 = .ok (.iload 22, 2) := by decide +kernel
theorem dL_law_619 : decode cL_law 619 = .ok (.invokevirtual 120, 3) := by decide +kernel
theorem dL_law_622 : decode cL_law 622 = .ok (.invokestatic 110, 3) := by decide +kernel
theorem dL_law_625 : decode cL_law 625 = .ok (.istore 20, 2) := by decide +kernel
theorem dL_law_627 : decode cL_law 627 = .ok (.iload 21, 2) := by decide +kernel
theorem dL_law_629 : decode cL_law 629 = .ok (.aload_n 1, 1) := by decide +kernel
theorem dL_law_630 : decode cL_law 630 = .ok (.iload 15, 2) := by decide +kernel
theorem dL_law_632 : decode cL_law 632 = .ok (.iload 19, 2) := by decide +kernel
theorem dL_law_634 : decode cL_law 634 = .ok (.iload 22, 2) := by decide +kernel
theorem dL_law_636 : decode cL_law 636 = .ok (.invokevirtual 120, 3) := by decide +kernel
theorem dL_law_639 : decode cL_law 639 = .ok (.invokestatic 123, 3) := by decide +kernel
theorem dL_law_642 : decode cL_law 642 = .ok (.istore 21, 2) := by decide +kernel
theorem dL_law_644 : decode cL_law 644 = .ok (.iinc 22 1, 3) := by decide +kernel
theorem dL_law_647 : decode cL_law 647 = .ok (.goto (-49), 3) := by decide +kernel
theorem dL_law_650 : decode cL_law 650 = .ok (.aload_n 1, 1) := by decide +kernel
theorem dL_law_651 : decode cL_law 651 = .ok (.iload 15, 2) := by decide +kernel
theorem dL_law_653 : decode cL_law 653 = .ok (.iload 19, 2) := by decide +kernel
theorem dL_law_655 : decode cL_law 655 = .ok (.iconst (-1), 1) := by decide +kernel
theorem dL_law_656 : decode cL_law 656 = .ok (.invokevirtual 120, 3) := by decide +kernel
theorem dL_law_659 : decode cL_law 659 = .ok (.iload 20, 2) := by decide +kernel
theorem dL_law_661 : decode cL_law 661 = .ok (.if_icmp .lt 17, 3) := by decide +kernel
theorem dL_law_664 : decode cL_law 664 = .ok (.aload_n 1, 1) := by decide +kernel
theorem dL_law_665 : decode cL_law 665 = .ok (.iload 15, 2) := by decide +kernel
theorem dL_law_667 : decode cL_law 667 = .ok (.iload 19, 2) := by decide +kernel
theorem dL_law_669 : decode cL_law 669 = .ok (.iconst (-1), 1) := by decide +kernel
theorem dL_law_670 : decode cL_law 670 = .ok (.invokevirtual 120, 3) := by decide +kernel
theorem dL_law_673 : decode cL_law 673 = .ok (.iload 21, 2) := by decide +kernel
theorem dL_law_675 : decode cL_law 675 = .ok (.if_icmp .le 5, 3) := by decide +kernel
theorem dL_law_678 : decode cL_law 678 = .ok (.iconst 0, 1) := by decide +kernel
theorem dL_law_679 : decode cL_law 679 = .ok (.ireturn, 1) := by decide +kernel
theorem dL_law_680 : decode cL_law 680 = .ok (.aload_n 2, 1) := by decide +kernel
theorem dL_law_681 : decode cL_law 681 = .ok (.getfield 92, 3) := by decide +kernel
theorem dL_law_684 : decode cL_law 684 = .ok (.iload 15, 2) := by decide +kernel
theorem dL_law_686 : decode cL_law 686 = .ok (.aaload, 1) := by decide +kernel
theorem dL_law_687 : decode cL_law 687 = .ok (.getfield 77, 3) := by decide +kernel
theorem dL_law_690 : decode cL_law 690 = .ok (.iload 19, 2) := by decide +kernel
theorem dL_law_692 : decode cL_law 692 = .ok (.aaload, 1) := by decide +kernel
theorem dL_law_693 : decode cL_law 693 = .ok (.astore 22, 2) := by decide +kernel
theorem dL_law_695 : decode cL_law 695 = .ok (.aload 22, 2) := by decide +kernel
theorem dL_law_697 : decode cL_law 697 = .ok (.arraylength, 1) := by decide +kernel
theorem dL_law_698 : decode cL_law 698 = .ok (.istore 23, 2) := by decide +kernel
theorem dL_law_700 : decode cL_law 700 = .ok (.iconst 0, 1) := by decide +kernel
theorem dL_law_701 : decode cL_law 701 = .ok (.istore 24, 2) := by decide +kernel
theorem dL_law_703 : decode cL_law 703 = .ok (.iload 24, 2) := by decide +kernel
theorem dL_law_705 : decode cL_law 705 = .ok (.iload 23, 2) := by decide +kernel
theorem dL_law_707 : decode cL_law 707 = .ok (.if_icmp .ge 36, 3) := by decide +kernel
theorem dL_law_710 : decode cL_law 710 = .ok (.aload 22, 2) := by decide +kernel
theorem dL_law_712 : decode cL_law 712 = .ok (.iload 24, 2) := by decide +kernel
theorem dL_law_714 : decode cL_law 714 = .ok (.aaload, 1) := by decide +kernel
theorem dL_law_715 : decode cL_law 715 = .ok (.astore 25, 2) := by decide +kernel
theorem dL_law_717 : decode cL_law 717 = .ok (.aload 25, 2) := by decide +kernel
theorem dL_law_719 : decode cL_law 719 = .ok (.iconst 1, 1) := by decide +kernel
theorem dL_law_720 : decode cL_law 720 = .ok (.iaload, 1) := by decide +kernel
theorem dL_law_721 : decode cL_law 721 = .ok (.iload 20, 2) := by decide +kernel
theorem dL_law_723 : decode cL_law 723 = .ok (.if_icmp .lt 12, 3) := by decide +kernel
theorem dL_law_726 : decode cL_law 726 = .ok (.aload 25, 2) := by decide +kernel
theorem dL_law_728 : decode cL_law 728 = .ok (.iconst 1, 1) := by decide +kernel
theorem dL_law_729 : decode cL_law 729 = .ok (.iaload, 1) := by decide +kernel
theorem dL_law_730 : decode cL_law 730 = .ok (.iload 21, 2) := by decide +kernel
theorem dL_law_732 : decode cL_law 732 = .ok (.if_icmp .le 5, 3) := by decide +kernel
theorem dL_law_735 : decode cL_law 735 = .ok (.iconst 0, 1) := by decide +kernel
theorem dL_law_736 : decode cL_law 736 = .ok (.ireturn, 1) := by decide +kernel
theorem dL_law_737 : decode cL_law 737 = .ok (.iinc 24 1, 3) := by decide +kernel
theorem dL_law_740 : decode cL_law 740 = .ok (.goto (-37), 3) := by decide +kernel
theorem dL_law_743 : decode cL_law 743 = .ok (.iinc 19 1, 3) := by decide +kernel
theorem dL_law_746 : decode cL_law 746 = .ok (.goto (-164), 3) := by decide +kernel
theorem dL_law_749 : decode cL_law 749 = .ok (.iinc 15 1, 3) := by decide +kernel
theorem dL_law_752 : decode cL_law 752 = .ok (.goto (-294), 3) := by decide +kernel
theorem dL_law_755 : decode cL_law 755 = .ok (.aload_n 1, 1) := by decide +kernel
theorem dL_law_756 : decode cL_law 756 = .ok (.iload 7, 2) := by decide +kernel
theorem dL_law_758 : decode cL_law 758 = .ok (.iconst 1, 1) := by decide +kernel
theorem dL_law_759 : decode cL_law 759 = .ok (.iadd, 1) := by decide +kernel
theorem dL_law_760 : decode cL_law 760 = .ok (.invokevirtual 126, 3) := by decide +kernel
theorem dL_law_763 : decode cL_law 763 = .ok (.istore 15, 2) := by decide +kernel
theorem dL_law_765 : decode cL_law 765 = .ok (.iload 14, 2) := by decide +kernel
theorem dL_law_767 : decode cL_law 767 = .ok (.iload 6, 2) := by decide +kernel
theorem dL_law_769 : decode cL_law 769 = .ok (.if_icmp .ne 41, 3) := by decide +kernel
theorem dL_law_772 : decode cL_law 772 = .ok (.iload 15, 2) := by decide +kernel
theorem dL_law_774 : decode cL_law 774 = .ok (.iload 11, 2) := by decide +kernel
theorem dL_law_776 : decode cL_law 776 = .ok (.if_icmp .gt 34, 3) := by decide +kernel
theorem dL_law_779 : decode cL_law 779 = .ok (.iload 6, 2) := by decide +kernel
theorem dL_law_781 : decode cL_law 781 = .ok (.sipush 250, 3) := by decide +kernel
theorem dL_law_784 : decode cL_law 784 = .ok (.if_icmp .gt 28, 3) := by decide +kernel
theorem dL_law_787 : decode cL_law 787 = .ok (.iload 15, 2) := by decide +kernel
theorem dL_law_789 : decode cL_law 789 = .ok (.ifCond .ne 7, 3) := by decide +kernel
theorem dL_law_792 : decode cL_law 792 = .ok (.iconst 1, 1) := by decide +kernel
theorem dL_law_793 : decode cL_law 793 = .ok (.goto 4, 3) := by decide +kernel
theorem dL_law_796 : decode cL_law 796 = .ok (.iconst 0, 1) := by decide +kernel
theorem dL_law_797 : decode cL_law 797 = .ok (.iload 11, 2) := by decide +kernel
theorem dL_law_799 : decode cL_law 799 = .ok (.ifCond .ne 7, 3) := by decide +kernel
theorem dL_law_802 : decode cL_law 802 = .ok (.iconst 1, 1) := by decide +kernel
theorem dL_law_803 : decode cL_law 803 = .ok (.goto 4, 3) := by decide +kernel
theorem dL_law_806 : decode cL_law 806 = .ok (.iconst 0, 1) := by decide +kernel
theorem dL_law_807 : decode cL_law 807 = .ok (.if_icmp .eq 5, 3) := by decide +kernel
theorem dL_law_810 : decode cL_law 810 = .ok (.iconst 0, 1) := by decide +kernel
theorem dL_law_811 : decode cL_law 811 = .ok (.ireturn, 1) := by decide +kernel
theorem dL_law_812 : decode cL_law 812 = .ok (.iinc 7 1, 3) := by decide +kernel
theorem dL_law_815 : decode cL_law 815 = .ok (.goto (-766), 3) := by decide +kernel
theorem dL_law_818 : decode cL_law 818 = .ok (.iconst 1, 1) := by decide +kernel
theorem dL_law_819 : decode cL_law 819 = .ok (.istore 7, 2) := by decide +kernel
theorem dL_law_821 : decode cL_law 821 = .ok (.iload 7, 2) := by decide +kernel
theorem dL_law_823 : decode cL_law 823 = .ok (.sipush 250, 3) := by decide +kernel
theorem dL_law_826 : decode cL_law 826 = .ok (.iload 6, 2) := by decide +kernel
theorem dL_law_828 : decode cL_law 828 = .ok (.invokestatic 110, 3) := by decide +kernel
theorem dL_law_831 : decode cL_law 831 = .ok (.if_icmp .ge 108, 3) := by decide +kernel
theorem dL_law_834 : decode cL_law 834 = .ok (.aload_n 1, 1) := by decide +kernel
theorem dL_law_835 : decode cL_law 835 = .ok (.iload 7, 2) := by decide +kernel
theorem dL_law_837 : decode cL_law 837 = .ok (.iconst 0, 1) := by decide +kernel
theorem dL_law_838 : decode cL_law 838 = .ok (.invokevirtual 129, 3) := by decide +kernel
theorem dL_law_841 : decode cL_law 841 = .ok (.istore 8, 2) := by decide +kernel
theorem dL_law_843 : decode cL_law 843 = .ok (.aload_n 1, 1) := by decide +kernel
theorem dL_law_844 : decode cL_law 844 = .ok (.iload 7, 2) := by decide +kernel
theorem dL_law_846 : decode cL_law 846 = .ok (.iconst 1, 1) := by decide +kernel
theorem dL_law_847 : decode cL_law 847 = .ok (.isub, 1) := by decide +kernel
theorem dL_law_848 : decode cL_law 848 = .ok (.iconst 0, 1) := by decide +kernel
theorem dL_law_849 : decode cL_law 849 = .ok (.invokevirtual 129, 3) := by decide +kernel
theorem dL_law_852 : decode cL_law 852 = .ok (.istore 9, 2) := by decide +kernel
theorem dL_law_854 : decode cL_law 854 = .ok (.aload_n 1, 1) := by decide +kernel
theorem dL_law_855 : decode cL_law 855 = .ok (.aload_n 1, 1) := by decide +kernel
theorem dL_law_856 : decode cL_law 856 = .ok (.iload 7, 2) := by decide +kernel
theorem dL_law_858 : decode cL_law 858 = .ok (.iconst 1, 1) := by decide +kernel
theorem dL_law_859 : decode cL_law 859 = .ok (.invokevirtual 129, 3) := by decide +kernel
theorem dL_law_862 : decode cL_law 862 = .ok (.iconst 0, 1) := by decide +kernel
theorem dL_law_863 : decode cL_law 863 = .ok (.invokevirtual 106, 3) := by decide +kernel
theorem dL_law_866 : decode cL_law 866 = .ok (.istore 10, 2) := by decide +kernel
theorem dL_law_868 : decode cL_law 868 = .ok (.aload_n 1, 1) := by decide +kernel
theorem dL_law_869 : decode cL_law 869 = .ok (.aload_n 1, 1) := by decide +kernel
theorem dL_law_870 : decode cL_law 870 = .ok (.iload 7, 2) := by decide +kernel
theorem dL_law_872 : decode cL_law 872 = .ok (.iconst 1, 1) := by decide +kernel
theorem dL_law_873 : decode cL_law 873 = .ok (.isub, 1) := by decide +kernel
theorem dL_law_874 : decode cL_law 874 = .ok (.iconst 1, 1) := by decide +kernel
theorem dL_law_875 : decode cL_law 875 = .ok (.invokevirtual 129, 3) := by decide +kernel
theorem dL_law_878 : decode cL_law 878 = .ok (.iconst 0, 1) := by decide +kernel
theorem dL_law_879 : decode cL_law 879 = .ok (.invokevirtual 106, 3) := by decide +kernel
theorem dL_law_882 : decode cL_law 882 = .ok (.istore 11, 2) := by decide +kernel
theorem dL_law_884 : decode cL_law 884 = .ok (.iload 8, 2) := by decide +kernel
theorem dL_law_886 : decode cL_law 886 = .ok (.iload 9, 2) := by decide +kernel
theorem dL_law_888 : decode cL_law 888 = .ok (.if_icmp .lt 43, 3) := by decide +kernel
theorem dL_law_891 : decode cL_law 891 = .ok (.iload 8, 2) := by decide +kernel
theorem dL_law_893 : decode cL_law 893 = .ok (.iload 9, 2) := by decide +kernel
theorem dL_law_895 : decode cL_law 895 = .ok (.if_icmp .ne 38, 3) := by decide +kernel
theorem dL_law_898 : decode cL_law 898 = .ok (.iload 10, 2) := by decide +kernel
theorem dL_law_900 : decode cL_law 900 = .ok (.iload 11, 2) := by decide +kernel
theorem dL_law_902 : decode cL_law 902 = .ok (.if_icmp .lt 29, 3) := by decide +kernel
theorem dL_law_905 : decode cL_law 905 = .ok (.iload 10, 2) := by decide +kernel
theorem dL_law_907 : decode cL_law 907 = .ok (.iload 11, 2) := by decide +kernel
theorem dL_law_909 : decode cL_law 909 = .ok (.if_icmp .ne 24, 3) := by decide +kernel
theorem dL_law_912 : decode cL_law 912 = .ok (.aload_n 1, 1) := by decide +kernel
theorem dL_law_913 : decode cL_law 913 = .ok (.iload 7, 2) := by decide +kernel
theorem dL_law_915 : decode cL_law 915 = .ok (.iconst 1, 1) := by decide +kernel
theorem dL_law_916 : decode cL_law 916 = .ok (.invokevirtual 129, 3) := by decide +kernel
theorem dL_law_919 : decode cL_law 919 = .ok (.aload_n 1, 1) := by decide +kernel
theorem dL_law_920 : decode cL_law 920 = .ok (.iload 7, 2) := by decide +kernel
theorem dL_law_922 : decode cL_law 922 = .ok (.iconst 1, 1) := by decide +kernel
theorem dL_law_923 : decode cL_law 923 = .ok (.isub, 1) := by decide +kernel
theorem dL_law_924 : decode cL_law 924 = .ok (.iconst 1, 1) := by decide +kernel
theorem dL_law_925 : decode cL_law 925 = .ok (.invokevirtual 129, 3) := by decide +kernel
theorem dL_law_928 : decode cL_law 928 = .ok (.if_icmp .ge 5, 3) := by decide +kernel
theorem dL_law_931 : decode cL_law 931 = .ok (.iconst 0, 1) := by decide +kernel
theorem dL_law_932 : decode cL_law 932 = .ok (.ireturn, 1) := by decide +kernel
theorem dL_law_933 : decode cL_law 933 = .ok (.iinc 7 1, 3) := by decide +kernel
theorem dL_law_936 : decode cL_law 936 = .ok (.goto (-115), 3) := by decide +kernel
theorem dL_law_939 : decode cL_law 939 = .ok (.aload_n 1, 1) := by decide +kernel
theorem dL_law_940 : decode cL_law 940 = .ok (.invokevirtual 132, 3) := by decide +kernel
theorem dL_law_943 : decode cL_law 943 = .ok (.sipush 250, 3) := by decide +kernel
theorem dL_law_946 : decode cL_law 946 = .ok (.iload 6, 2) := by decide +kernel
theorem dL_law_948 : decode cL_law 948 = .ok (.invokestatic 110, 3) := by decide +kernel
theorem dL_law_951 : decode cL_law 951 = .ok (.if_icmp .gt 29, 3) := by decide +kernel
theorem dL_law_954 : decode cL_law 954 = .ok (.aload_n 1, 1) := by decide +kernel
theorem dL_law_955 : decode cL_law 955 = .ok (.invokevirtual 136, 3) := by decide +kernel
theorem dL_law_958 : decode cL_law 958 = .ok (.sipush 250, 3) := by decide +kernel
theorem dL_law_961 : decode cL_law 961 = .ok (.iload 6, 2) := by decide +kernel
theorem dL_law_963 : decode cL_law 963 = .ok (.invokestatic 110, 3) := by decide +kernel
theorem dL_law_966 : decode cL_law 966 = .ok (.if_icmp .ne 14, 3) := by decide +kernel
theorem dL_law_969 : decode cL_law 969 = .ok (.aload_n 1, 1) := by decide +kernel
theorem dL_law_970 : decode cL_law 970 = .ok (.invokevirtual 132, 3) := by decide +kernel
theorem dL_law_973 : decode cL_law 973 = .ok (.ifCond .ne 7, 3) := by decide +kernel
theorem dL_law_976 : decode cL_law 976 = .ok (.iconst 1, 1) := by decide +kernel
theorem dL_law_977 : decode cL_law 977 = .ok (.goto 4, 3) := by decide +kernel
theorem dL_law_980 : decode cL_law 980 = .ok (.iconst 0, 1) := by decide +kernel
theorem dL_law_981 : decode cL_law 981 = .ok (.ireturn, 1) := by decide +kernel
