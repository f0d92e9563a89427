theorem dX4_tune_2 : decode cX4_tune 2 = .ok (.invokevirtual 122, 3) := by decide +kernel
theorem dX4_tune_5 : decode cX4_tune 5 = .ok (.astore 4, 2) := by decide +kernel
theorem dX4_tune_7 : decode cX4_tune 7 = .ok (.aload 4, 2) := by decide +kernel
theorem dX4_tune_9 : decode cX4_tune 9 = .ok (.ifnonnull 13, 3) := by decide +kernel
theorem dX4_tune_12 : decode cX4_tune 12 = .ok (.new 55, 3) := by decide +kernel
theorem dX4_tune_15 : decode cX4_tune 15 = .ok (.dup, 1) := by decide +kernel
theorem dX4_tune_16 : decode cX4_tune 16 = .ok (.ldc 126, 2) := by decide +kernel
theorem dX4_tune_18 : decode cX4_tune 18 = .ok (.invokespecial 59, 3) := by decide +kernel
theorem dX4_tune_21 : decode cX4_tune 21 = .ok (.athrow, 1) := by decide +kernel
theorem dX4_tune_22 : decode cX4_tune 22 = .ok (.iload_n 2, 1) := by decide +kernel
theorem dX4_tune_23 : decode cX4_tune 23 = .ok (.iconst 0, 1) := by decide +kernel
theorem dX4_tune_24 : decode cX4_tune 24 = .ok (.iconst 5, 1) := by decide +kernel
theorem dX4_tune_25 : decode cX4_tune 25 = .ok (.invokestatic 28, 3) := by decide +kernel
theorem dX4_tune_28 : decode cX4_tune 28 = .ok (.ifCond .ne 13, 3) := by decide +kernel
theorem dX4_tune_31 : decode cX4_tune 31 = .ok (.new 55, 3) := by decide +kernel
theorem dX4_tune_34 : decode cX4_tune 34 = .ok (.dup, 1) := by decide +kernel
theorem dX4_tune_35 : decode cX4_tune 35 = .ok (.ldc 144, 2) := by decide +kernel
theorem dX4_tune_37 : decode cX4_tune 37 = .ok (.invokespecial 59, 3) := by decide +kernel
theorem dX4_tune_40 : decode cX4_tune 40 = .ok (.athrow, 1) := by decide +kernel
theorem dX4_tune_41 : decode cX4_tune 41 = .ok (.iload_n 3, 1) := by decide +kernel
theorem dX4_tune_42 : decode cX4_tune 42 = .ok (.iconst 0, 1) := by decide +kernel
theorem dX4_tune_43 : decode cX4_tune 43 = .ok (.bipush 87, 2) := by decide +kernel
theorem dX4_tune_45 : decode cX4_tune 45 = .ok (.invokestatic 28, 3) := by decide +kernel
theorem dX4_tune_48 : decode cX4_tune 48 = .ok (.ifCond .ne 13, 3) := by decide +kernel
theorem dX4_tune_51 : decode cX4_tune 51 = .ok (.new 32, 3) := by decide +kernel
theorem dX4_tune_54 : decode cX4_tune 54 = .ok (.dup, 1) := by decide +kernel
theorem dX4_tune_55 : decode cX4_tune 55 = .ok (.ldc 159, 2) := by decide +kernel
theorem dX4_tune_57 : decode cX4_tune 57 = .ok (.invokespecial 36, 3) := by decide +kernel
theorem dX4_tune_60 : decode cX4_tune 60 = .ok (.athrow, 1) := by decide +kernel
theorem dX4_tune_61 : decode cX4_tune 61 = .ok (.aload 4, 2) := by decide +kernel
theorem dX4_tune_63 : decode cX4_tune 63 = .ok (.getfield 161, 3) := by decide +kernel
theorem dX4_tune_66 : decode cX4_tune 66 = .ok (.iload_n 2, 1) := by decide +kernel
theorem dX4_tune_67 : decode cX4_tune 67 = .ok (.invokestatic 165, 3) := by decide +kernel
theorem dX4_tune_70 : decode cX4_tune 70 = .ok (.istore 5, 2) := by decide +kernel
theorem dX4_tune_72 : decode cX4_tune 72 = .ok (.aload 4, 2) := by decide +kernel
theorem dX4_tune_74 : decode cX4_tune 74 = .ok (.getfield 161, 3) := by decide +kernel
theorem dX4_tune_77 : decode cX4_tune 77 = .ok (.iload_n 2, 1) := by decide +kernel
theorem dX4_tune_78 : decode cX4_tune 78 = .ok (.iload_n 3, 1) := by decide +kernel
theorem dX4_tune_79 : decode cX4_tune 79 = .ok (.invokestatic 169, 3) := by decide +kernel
theorem dX4_tune_82 : decode cX4_tune 82 = .ok (.iload 5, 2) := by decide +kernel
theorem dX4_tune_84 : decode cX4_tune 84 = .ok (.ireturn, 1) := by decide +kernel
theorem dX4_point_0 : decode cX4_point 0 = .ok (.aload_n 0, 1) := by decide +kernel
theorem dX4_point_1 : decode cX4_point 1 = .ok (.iload_n 1, 1) := by decide +kernel
theorem dX4_point_2 : decode cX4_point 2 = .ok (.invokevirtual 122, 3) := by decide +kernel
theorem dX4_point_5 : decode cX4_point 5 = .ok (.astore 5, 2) := by decide +kernel
theorem dX4_point_7 : decode cX4_point 7 = .ok (.aload 5, 2) := by decide +kernel
theorem dX4_point_9 : decode cX4_point 9 = .ok (.ifnonnull 7, 3) := by decide +kernel
theorem dX4_point_12 : decode cX4_point 12 = .ok (.aconst_null, 1) := by decide +kernel
theorem dX4_point_13 : decode cX4_point 13 = .ok (.goto 9, 3) := by decide +kernel
theorem dX4_point_16 : decode cX4_point 16 = .ok (.aload 5, 2) := by decide +kernel
theorem dX4_point_18 : decode cX4_point 18 = .ok (.iload_n 2, 1) := by decide +kernel
theorem dX4_point_19 : decode cX4_point 19 = .ok (.invokevirtual 173, 3) := by decide +kernel
theorem dX4_point_22 : decode cX4_point 22 = .ok (.astore 6, 2) := by decide +kernel
theorem dX4_point_24 : decode cX4_point 24 = .ok (.aload 5, 2) := by decide +kernel
theorem dX4_point_26 : decode cX4_point 26 = .ok (.ifnull 8, 3) := by decide +kernel
theorem dX4_point_29 : decode cX4_point 29 = .ok (.aload 6, 2) := by decide +kernel
theorem dX4_point_31 : decode cX4_point 31 = .ok (.ifnonnull 13, 3) := by decide +kernel
theorem dX4_point_34 : decode cX4_point 34 = .ok (.new 55, 3) := by decide +kernel
theorem dX4_point_37 : decode cX4_point 37 = .ok (.dup, 1) := by decide +kernel
theorem dX4_point_38 : decode cX4_point 38 = .ok (.ldc 177, 2) := by decide +kernel
theorem dX4_point_40 : decode cX4_point 40 = .ok (.invokespecial 59, 3) := by decide +kernel
theorem dX4_point_43 : decode cX4_point 43 = .ok (.athrow, 1) := by decide +kernel
theorem dX4_point_44 : decode cX4_point 44 = .ok (.aload 5, 2) := by decide +kernel
theorem dX4_point_46 : decode cX4_point 46 = .ok (.iload_n 3, 1) := by decide +kernel
theorem dX4_point_47 : decode cX4_point 47 = .ok (.invokevirtual 138, 3) := by decide +kernel
theorem dX4_point_50 : decode cX4_point 50 = .ok (.ifCond .ne 13, 3) := by decide +kernel
theorem dX4_point_53 : decode cX4_point 53 = .ok (.new 32, 3) := by decide +kernel
theorem dX4_point_56 : decode cX4_point 56 = .ok (.dup, 1) := by decide +kernel
theorem dX4_point_57 : decode cX4_point 57 = .ok (.ldc 142, 2) := by decide +kernel
theorem dX4_point_59 : decode cX4_point 59 = .ok (.invokespecial 36, 3) := by decide +kernel
theorem dX4_point_62 : decode cX4_point 62 = .ok (.athrow, 1) := by decide +kernel
theorem dX4_point_63 : decode cX4_point 63 = .ok (.iload 4, 2) := by decide +kernel
theorem dX4_point_65 : decode cX4_point 65 = .ok (.iconst (-1), 1) := by decide +kernel
theorem dX4_point_66 : decode cX4_point 66 = .ok (.bipush 100, 2) := by decide +kernel
theorem dX4_point_68 : decode cX4_point 68 = .ok (.invokestatic 28, 3) := by decide +kernel
theorem dX4_point_71 : decode cX4_point 71 = .ok (.ifCond .ne 13, 3) := by decide +kernel
theorem dX4_point_74 : decode cX4_point 74 = .ok (.new 32, 3) := by decide +kernel
theorem dX4_point_77 : decode cX4_point 77 = .ok (.dup, 1) := by decide +kernel
theorem dX4_point_78 : decode cX4_point 78 = .ok (.ldc 179, 2) := by decide +kernel
theorem dX4_point_80 : decode cX4_point 80 = .ok (.invokespecial 36, 3) := by decide +kernel
theorem dX4_point_83 : decode cX4_point 83 = .ok (.athrow, 1) := by decide +kernel
theorem dX4_point_84 : decode cX4_point 84 = .ok (.aload 6, 2) := by decide +kernel
theorem dX4_point_86 : decode cX4_point 86 = .ok (.iload_n 3, 1) := by decide +kernel
theorem dX4_point_87 : decode cX4_point 87 = .ok (.invokevirtual 181, 3) := by decide +kernel
theorem dX4_point_90 : decode cX4_point 90 = .ok (.istore 7, 2) := by decide +kernel
theorem dX4_point_92 : decode cX4_point 92 = .ok (.iload 4, 2) := by decide +kernel
theorem dX4_point_94 : decode cX4_point 94 = .ok (.iconst (-1), 1) := by decide +kernel
theorem dX4_point_95 : decode cX4_point 95 = .ok (.if_icmp .ne 18, 3) := by decide +kernel
theorem dX4_point_98 : decode cX4_point 98 = .ok (.iload 7, 2) := by decide +kernel
theorem dX4_point_100 : decode cX4_point 100 = .ok (.ifCond .ne 13, 3) := by decide +kernel
theorem dX4_point_103 : decode cX4_point 103 = .ok (.new 43, 3) := by decide +kernel
theorem dX4_point_106 : decode cX4_point 106 = .ok (.dup, 1) := by decide +kernel
theorem dX4_point_107 : decode cX4_point 107 = .ok (.ldc 186, 2) := by decide +kernel
theorem dX4_point_109 : decode cX4_point 109 = .ok (.invokespecial 47, 3) := by decide +kernel
theorem dX4_point_112 : decode cX4_point 112 = .ok (.athrow, 1) := by decide +kernel
theorem dX4_point_113 : decode cX4_point 113 = .ok (.iload 7, 2) := by decide +kernel
theorem dX4_point_115 : decode cX4_point 115 = .ok (.ifCond .ne 23, 3) := by decide +kernel
theorem dX4_point_118 : decode cX4_point 118 = .ok (.aload 6, 2) := by decide +kernel
theorem dX4_point_120 : decode cX4_point 120 = .ok (.getfield 188, 3) := by decide +kernel
theorem dX4_point_123 : decode cX4_point 123 = .ok (.bipush 8, 2) := by decide +kernel
theorem dX4_point_125 : decode cX4_point 125 = .ok (.if_icmp .lt 13, 3) := by decide +kernel
theorem dX4_point_128 : decode cX4_point 128 = .ok (.new 43, 3) := by decide +kernel
theorem dX4_point_131 : decode cX4_point 131 = .ok (.dup, 1) := by decide +kernel
theorem dX4_point_132 : decode cX4_point 132 = .ok (.ldc 191, 2) := by decide +kernel
theorem dX4_point_134 : decode cX4_point 134 = .ok (.invokespecial 47, 3) := by decide +kernel
theorem dX4_point_137 : decode cX4_point 137 = .ok (.athrow, 1) := by decide +kernel
theorem dX4_point_138 : decode cX4_point 138 = .ok (.iload 4, 2) := by decide +kernel
theorem dX4_point_140 : decode cX4_point 140 = .ok (.iconst (-1), 1) := by decide +kernel
theorem dX4_point_141 : decode cX4_point 141 = .ok (.if_icmp .ne 17, 3) := by decide +kernel
theorem dX4_point_144 : decode cX4_point 144 = .ok (.aload 6, 2) := by decide +kernel
theorem dX4_point_146 : decode cX4_point 146 = .ok (.iload_n 3, 1) := by decide +kernel
theorem dX4_point_147 : decode cX4_point 147 = .ok (.aload 5, 2) := by decide +kernel
theorem dX4_point_149 : decode cX4_point 149 = .ok (.getfield 193, 3) := by decide +kernel
theorem dX4_point_152 : decode cX4_point 152 = .ok (.invokevirtual 196, 3) := by decide +kernel
theorem dX4_point_155 : decode cX4_point 155 = .ok (.goto 16, 3) := by decide +kernel
theorem dX4_point_158 : decode cX4_point 158 = .ok (.aload 6, 2) := by decide +kernel
theorem dX4_point_160 : decode cX4_point 160 = .ok (.iload_n 3, 1) := by decide +kernel
theorem dX4_point_161 : decode cX4_point 161 = .ok (.iload 4, 2) := by decide +kernel
theorem dX4_point_163 : decode cX4_point 163 = .ok (.aload 5, 2) := by decide +kernel
theorem dX4_point_165 : decode cX4_point 165 = .ok (.getfield 193, 3) := by decide +kernel
theorem dX4_point_168 : decode cX4_point 168 = .ok (.invokevirtual 199, 3) := by decide +kernel
theorem dX4_point_171 : decode cX4_point 171 = .ok (.aload 6, 2) := by decide +kernel
theorem dX4_point_173 : decode cX4_point 173 = .ok (.getfield 188, 3) := by decide +kernel
theorem dX4_point_176 : decode cX4_point 176 = .ok (.ireturn, 1) := by decide +kernel
theorem dX4_bird_0 : decode cX4_bird 0 = .ok (.aload_n 0, 1) := by decide +kernel
theorem dX4_bird_1 : decode cX4_bird 1 = .ok (.iload_n 1, 1) := by decide +kernel
theorem dX4_bird_2 : decode cX4_bird 2 = .ok (.invokevirtual 122, 3) := by decide +kernel
theorem dX4_bird_5 : decode cX4_bird 5 = .ok (.astore_n 3, 1) := by decide +kernel
theorem dX4_bird_6 : decode cX4_bird 6 = .ok (.aload_n 3, 1) := by decide +kernel
theorem dX4_bird_7 : decode cX4_bird 7 = .ok (.ifnonnull 13, 3) := by decide +kernel
theorem dX4_bird_10 : decode cX4_bird 10 = .ok (.new 55, 3) := by decide +kernel
theorem dX4_bird_13 : decode cX4_bird 13 = .ok (.dup, 1) := by decide +kernel
theorem dX4_bird_14 : decode cX4_bird 14 = .ok (.ldc 126, 2) := by decide +kernel
theorem dX4_bird_16 : decode cX4_bird 16 = .ok (.invokespecial 59, 3) := by decide +kernel
theorem dX4_bird_19 : decode cX4_bird 19 = .ok (.athrow, 1) := by decide +kernel
theorem dX4_bird_20 : decode cX4_bird 20 = .ok (.iload_n 2, 1) := by decide +kernel
theorem dX4_bird_21 : decode cX4_bird 21 = .ok (.tableswitch 114 0 9 #[55, 60, 65, 70, 75, 80, 85, 98, 103, 109], 55) := by decide +kernel
theorem dX4_bird_76 : decode cX4_bird 76 = .ok (.aload_n 3, 1) := by decide +kernel
theorem dX4_bird_77 : decode cX4_bird 77 = .ok (.getfield 131, 3) := by decide +kernel
theorem dX4_bird_80 : decode cX4_bird 80 = .ok (.ireturn, 1) := by decide +kernel
theorem dX4_bird_81 : decode cX4_bird 81 = .ok (.aload_n 3, 1) := by decide +kernel
theorem dX4_bird_82 : decode cX4_bird 82 = .ok (.getfield 203, 3) := by decide +kernel
theorem dX4_bird_85 : decode cX4_bird 85 = .ok (.ireturn, 1) := by decide +kernel
theorem dX4_bird_86 : decode cX4_bird 86 = .ok (.aload_n 3, 1) := by decide +kernel
theorem dX4_bird_87 : decode cX4_bird 87 = .ok (.getfield 193, 3) := by decide +kernel
theorem dX4_bird_90 : decode cX4_bird 90 = .ok (.ireturn, 1) := by decide +kernel
theorem dX4_bird_91 : decode cX4_bird 91 = .ok (.aload_n 3, 1) := by decide +kernel
theorem dX4_bird_92 : decode cX4_bird 92 = .ok (.getfield 206, 3) := by decide +kernel
theorem dX4_bird_95 : decode cX4_bird 95 = .ok (.ireturn, 1) := by decide +kernel
theorem dX4_bird_96 : decode cX4_bird 96 = .ok (.aload_n 3, 1) := by decide +kernel
theorem dX4_bird_97 : decode cX4_bird 97 = .ok (.getfield 209, 3) := by decide +kernel
theorem dX4_bird_100 : decode cX4_bird 100 = .ok (.ireturn, 1) := by decide +kernel
theorem dX4_bird_101 : decode cX4_bird 101 = .ok (.aload_n 3, 1) := by decide +kernel
theorem dX4_bird_102 : decode cX4_bird 102 = .ok (.invokevirtual 212, 3) := by decide +kernel
theorem dX4_bird_105 : decode cX4_bird 105 = .ok (.ireturn, 1) := by decide +kernel
theorem dX4_bird_106 : decode cX4_bird 106 = .ok (.aload_n 3, 1) := by decide +kernel
theorem dX4_bird_107 : decode cX4_bird 107 = .ok (.getfield 128, 3) := by decide +kernel
theorem dX4_bird_110 : decode cX4_bird 110 = .ok (.ifCond .eq 7, 3) := by decide +kernel
theorem dX4_bird_113 : decode cX4_bird 113 = .ok (.iconst 1, 1) := by decide +kernel
theorem dX4_bird_114 : decode cX4_bird 114 = .ok (.goto 4, 3) := by decide +kernel
theorem dX4_bird_117 : decode cX4_bird 117 = .ok (.iconst 0, 1) := by decide +kernel
theorem dX4_bird_118 : decode cX4_bird 118 = .ok (.ireturn, 1) := by decide +kernel
theorem dX4_bird_119 : decode cX4_bird 119 = .ok (.aload_n 3, 1) := by decide +kernel
theorem dX4_bird_120 : decode cX4_bird 120 = .ok (.getfield 150, 3) := by decide +kernel
theorem dX4_bird_123 : decode cX4_bird 123 = .ok (.ireturn, 1) := by decide +kernel
theorem dX4_bird_124 : decode cX4_bird 124 = .ok (.aload_n 3, 1) := by decide +kernel
theorem dX4_bird_125 : decode cX4_bird 125 = .ok (.getfield 216, 3) := by decide +kernel
theorem dX4_bird_128 : decode cX4_bird 128 = .ok (.l2i, 1) := by decide +kernel
theorem dX4_bird_129 : decode cX4_bird 129 = .ok (.ireturn, 1) := by decide +kernel
theorem dX4_bird_130 : decode cX4_bird 130 = .ok (.aload_n 3, 1) := by decide +kernel
theorem dX4_bird_131 : decode cX4_bird 131 = .ok (.getfield 219, 3) := by decide +kernel
theorem dX4_bird_134 : decode cX4_bird 134 = .ok (.ireturn, 1) := by decide +kernel
theorem dX4_bird_135 : decode cX4_bird 135 = .ok (.new 55, 3) := by decide +kernel
theorem dX4_bird_138 : decode cX4_bird 138 = .ok (.dup, 1) := by decide +kernel
theorem dX4_bird_139 : decode cX4_bird 139 = .ok (.ldc 222, 2) := by decide +kernel
theorem dX4_bird_141 : decode cX4_bird 141 = .ok (.invokespecial 59, 3) := by decide +kernel
theorem dX4_bird_144 : decode cX4_bird 144 = .ok (.athrow, 1) := by decide +kernel
theorem dX4_lift_0 : decode cX4_lift 0 = .ok (.aload_n 0, 1) := by decide +kernel
theorem dX4_lift_1 : decode cX4_lift 1 = .ok (.iload_n 1, 1) := by decide +kernel
theorem dX4_lift_2 : decode cX4_lift 2 = .ok (.invokevirtual 122, 3) := by decide +kernel
theorem dX4_lift_5 : decode cX4_lift 5 = .ok (.astore 4, 2) := by decide +kernel
theorem dX4_lift_7 : decode cX4_lift 7 = .ok (.aload 4, 2) := by decide +kernel
theorem dX4_lift_9 : decode cX4_lift 9 = .ok (.ifnonnull 7, 3) := by decide +kernel
theorem dX4_lift_12 : decode cX4_lift 12 = .ok (.aconst_null, 1) := by decide +kernel
theorem dX4_lift_13 : decode cX4_lift 13 = .ok (.goto 9, 3) := by decide +kernel
theorem dX4_lift_16 : decode cX4_lift 16 = .ok (.aload 4, 2) := by decide +kernel
theorem dX4_lift_18 : decode cX4_lift 18 = .ok (.iload_n 2, 1) := by decide +kernel
theorem dX4_lift_19 : decode cX4_lift 19 = .ok (.invokevirtual 173, 3) := by decide +kernel
theorem dX4_lift_22 : decode cX4_lift 22 = .ok (.astore 5, 2) := by decide +kernel
theorem dX4_lift_24 : decode cX4_lift 24 = .ok (.aload 4, 2) := by decide +kernel
theorem dX4_lift_26 : decode cX4_lift 26 = .ok (.ifnull 8, 3) := by decide +kernel
theorem dX4_lift_29 : decode cX4_lift 29 = .ok (.aload 5, 2) := by decide +kernel
theorem dX4_lift_31 : decode cX4_lift 31 = .ok (.ifnonnull 13, 3) := by decide +kernel
theorem dX4_lift_34 : decode cX4_lift 34 = .ok (.new 55, 3) := by decide +kernel
theorem dX4_lift_37 : decode cX4_lift 37 = .ok (.dup, 1) := by decide +kernel
theorem dX4_lift_38 : decode cX4_lift 38 = .ok (.ldc 177, 2) := by decide +kernel
theorem dX4_lift_40 : decode cX4_lift 40 = .ok (.invokespecial 59, 3) := by decide +kernel
theorem dX4_lift_43 : decode cX4_lift 43 = .ok (.athrow, 1) := by decide +kernel
theorem dX4_lift_44 : decode cX4_lift 44 = .ok (.iload_n 3, 1) := by decide +kernel
theorem dX4_lift_45 : decode cX4_lift 45 = .ok (.iconst (-1), 1) := by decide +kernel
theorem dX4_lift_46 : decode cX4_lift 46 = .ok (.if_icmp .eq 22, 3) := by decide +kernel
theorem dX4_lift_49 : decode cX4_lift 49 = .ok (.aload 4, 2) := by decide +kernel
theorem dX4_lift_51 : decode cX4_lift 51 = .ok (.iload_n 3, 1) := by decide +kernel
theorem dX4_lift_52 : decode cX4_lift 52 = .ok (.invokevirtual 138, 3) := by decide +kernel
theorem dX4_lift_55 : decode cX4_lift 55 = .ok (.ifCond .ne 13, 3) := by decide +kernel
theorem dX4_lift_58 : decode cX4_lift 58 = .ok (.new 32, 3) := by decide +kernel
theorem dX4_lift_61 : decode cX4_lift 61 = .ok (.dup, 1) := by decide +kernel
theorem dX4_lift_62 : decode cX4_lift 62 = .ok (.ldc 224, 2) := by decide +kernel
theorem dX4_lift_64 : decode cX4_lift 64 = .ok (.invokespecial 36, 3) := by decide +kernel
theorem dX4_lift_67 : decode cX4_lift 67 = .ok (.athrow, 1) := by decide +kernel
theorem dX4_lift_68 : decode cX4_lift 68 = .ok (.aload 5, 2) := by decide +kernel
theorem dX4_lift_70 : decode cX4_lift 70 = .ok (.getfield 226, 3) := by decide +kernel
theorem dX4_lift_73 : decode cX4_lift 73 = .ok (.iload_n 3, 1) := by decide +kernel
theorem dX4_lift_74 : decode cX4_lift 74 = .ok (.iconst (-1), 1) := by decide +kernel
theorem dX4_lift_75 : decode cX4_lift 75 = .ok (.if_icmp .ne 11, 3) := by decide +kernel
theorem dX4_lift_78 : decode cX4_lift 78 = .ok (.aload 4, 2) := by decide +kernel
theorem dX4_lift_80 : decode cX4_lift 80 = .ok (.invokevirtual 212, 3) := by decide +kernel
theorem dX4_lift_83 : decode cX4_lift 83 = .ok (.goto 4, 3) := by decide +kernel
theorem dX4_lift_86 : decode cX4_lift 86 = .ok (.iload_n 3, 1) := by decide +kernel
theorem dX4_lift_87 : decode cX4_lift 87 = .ok (.invokestatic 165, 3) := by decide +kernel
theorem dX4_lift_90 : decode cX4_lift 90 = .ok (.ireturn, 1) := by decide +kernel
theorem dX4_run_0 : decode cX4_run 0 = .ok (.iload_n 1, 1) := by decide +kernel
theorem dX4_run_1 : decode cX4_run 1 = .ok (.iconst 1, 1) := by decide +kernel
theorem dX4_run_2 : decode cX4_run 2 = .ok (.sipush 500, 3) := by decide +kernel
theorem dX4_run_5 : decode cX4_run 5 = .ok (.invokestatic 28, 3) := by decide +kernel
theorem dX4_run_8 : decode cX4_run 8 = .ok (.ifCond .ne 13, 3) := by decide +kernel
theorem dX4_run_11 : decode cX4_run 11 = .ok (.new 32, 3) := by decide +kernel
theorem dX4_run_14 : decode cX4_run 14 = .ok (.dup, 1) := by decide +kernel
theorem dX4_run_15 : decode cX4_run 15 = .ok (.ldc 229, 2) := by decide +kernel
theorem dX4_run_17 : decode cX4_run 17 = .ok (.invokespecial 36, 3) := by decide +kernel
theorem dX4_run_20 : decode cX4_run 20 = .ok (.athrow, 1) := by decide +kernel
theorem dX4_run_21 : decode cX4_run 21 = .ok (.iconst 0, 1) := by decide +kernel
theorem dX4_run_22 : decode cX4_run 22 = .ok (.istore_n 2, 1) := by decide +kernel
theorem dX4_run_23 : decode cX4_run 23 = .ok (.iconst 0, 1) := by decide +kernel
theorem dX4_run_24 : decode cX4_run 24 = .ok (.istore_n 3, 1) := by decide +kernel
theorem dX4_run_25 : decode cX4_run 25 = .ok (.iload_n 3, 1) := by decide +kernel
theorem dX4_run_26 : decode cX4_run 26 = .ok (.iload_n 1, 1) := by decide +kernel
theorem dX4_run_27 : decode cX4_run 27 = .ok (.if_icmp .ge 16, 3) := by decide +kernel
theorem dX4_run_30 : decode cX4_run 30 = .ok (.iload_n 2, 1) := by decide +kernel
theorem dX4_run_31 : decode cX4_run 31 = .ok (.aload_n 0, 1) := by decide +kernel
theorem dX4_run_32 : decode cX4_run 32 = .ok (.invokevirtual 231, 3) := by decide +kernel
theorem dX4_run_35 : decode cX4_run 35 = .ok (.iadd, 1) := by decide +kernel
theorem dX4_run_36 : decode cX4_run 36 = .ok (.istore_n 2, 1) := by decide +kernel
theorem dX4_run_37 : decode cX4_run 37 = .ok (.iinc 3 1, 3) := by decide +kernel
theorem dX4_run_40 : decode cX4_run 40 = .ok (.goto (-15), 3) := by decide +kernel
theorem dX4_run_43 : decode cX4_run 43 = .ok (.iload_n 2, 1) := by decide +kernel
theorem dX4_run_44 : decode cX4_run 44 = .ok (.ireturn, 1) := by decide +kernel
theorem dX4_count_0 : decode cX4_count 0 = .ok (.iload_n 1, 1) := by decide +kernel
theorem dX4_count_1 : decode cX4_count 1 = .ok (.tableswitch 75 0 5 #[39, 44, 49, 54, 62, 70], 39) := by decide +kernel
theorem dX4_count_40 : decode cX4_count 40 = .ok (.aload_n 0, 1) := by decide +kernel
theorem dX4_count_41 : decode cX4_count 41 = .ok (.getfield 234, 3) := by decide +kernel
theorem dX4_count_44 : decode cX4_count 44 = .ok (.ireturn, 1) := by decide +kernel
theorem dX4_count_45 : decode cX4_count 45 = .ok (.aload_n 0, 1) := by decide +kernel
theorem dX4_count_46 : decode cX4_count 46 = .ok (.getfield 39, 3) := by decide +kernel
theorem dX4_count_49 : decode cX4_count 49 = .ok (.ireturn, 1) := by decide +kernel
theorem dX4_count_50 : decode cX4_count 50 = .ok (.aload_n 0, 1) := by decide +kernel
theorem dX4_count_51 : decode cX4_count 51 = .ok (.getfield 114, 3) := by decide +kernel
theorem dX4_count_54 : decode cX4_count 54 = .ok (.ireturn, 1) := by decide +kernel
theorem dX4_count_55 : decode cX4_count 55 = .ok (.aload_n 0, 1) := by decide +kernel
theorem dX4_count_56 : decode cX4_count 56 = .ok (.getfield 81, 3) := by decide +kernel
theorem dX4_count_59 : decode cX4_count 59 = .ok (.invokestatic 84, 3) := by decide +kernel
theorem dX4_count_62 : decode cX4_count 62 = .ok (.ireturn, 1) := by decide +kernel
theorem dX4_count_63 : decode cX4_count 63 = .ok (.aload_n 0, 1) := by decide +kernel
theorem dX4_count_64 : decode cX4_count 64 = .ok (.getfield 24, 3) := by decide +kernel
theorem dX4_count_67 : decode cX4_count 67 = .ok (.getfield 237, 3) := by decide +kernel
theorem dX4_count_70 : decode cX4_count 70 = .ok (.ireturn, 1) := by decide +kernel
theorem dX4_count_71 : decode cX4_count 71 = .ok (.aload_n 0, 1) := by decide +kernel
theorem dX4_count_72 : decode cX4_count 72 = .ok (.invokevirtual 240, 3) := by decide +kernel
theorem dX4_count_75 : decode cX4_count 75 = .ok (.ireturn, 1) := by decide +kernel
theorem dX4_count_76 : decode cX4_count 76 = .ok (.new 55, 3) := by decide +kernel
theorem dX4_count_79 : decode cX4_count 79 = .ok (.dup, 1) := by decide +kernel
theorem dX4_count_80 : decode cX4_count 80 = .ok (.ldc 243, 2) := by decide +kernel
theorem dX4_count_82 : decode cX4_count 82 = .ok (.invokespecial 59, 3) := by decide +kernel
theorem dX4_count_85 : decode cX4_count 85 = .ok (.athrow, 1) := by decide +kernel
theorem dX4_sung_0 : decode cX4_sung 0 = .ok (.iload_n 1, 1) := by decide +kernel
theorem dX4_sung_1 : decode cX4_sung 1 = .ok (.iconst 0, 1) := by decide +kernel
theorem dX4_sung_2 : decode cX4_sung 2 = .ok (.aload_n 0, 1) := by decide +kernel
theorem dX4_sung_3 : decode cX4_sung 3 = .ok (.getfield 24, 3) := by decide +kernel
theorem dX4_sung_6 : decode cX4_sung 6 = .ok (.getfield 245, 3) := by decide +kernel
theorem dX4_sung_9 : decode cX4_sung 9 = .ok (.iconst 1, 1) := by decide +kernel
theorem dX4_sung_10 : decode cX4_sung 10 = .ok (.isub, 1) := by decide +kernel
theorem dX4_sung_11 : decode cX4_sung 11 = .ok (.invokestatic 28, 3) := by decide +kernel
theorem dX4_sung_14 : decode cX4_sung 14 = .ok (.ifCond .ne 13, 3) := by decide +kernel
theorem dX4_sung_17 : decode cX4_sung 17 = .ok (.new 55, 3) := by decide +kernel
theorem dX4_sung_20 : decode cX4_sung 20 = .ok (.dup, 1) := by decide +kernel
theorem dX4_sung_21 : decode cX4_sung 21 = .ok (.ldc 248, 2) := by decide +kernel
theorem dX4_sung_23 : decode cX4_sung 23 = .ok (.invokespecial 59, 3) := by decide +kernel
theorem dX4_sung_26 : decode cX4_sung 26 = .ok (.athrow, 1) := by decide +kernel
theorem dX4_sung_27 : decode cX4_sung 27 = .ok (.iload_n 2, 1) := by decide +kernel
theorem dX4_sung_28 : decode cX4_sung 28 = .ok (.iconst 0, 1) := by decide +kernel
theorem dX4_sung_29 : decode cX4_sung 29 = .ok (.iconst 3, 1) := by decide +kernel
theorem dX4_sung_30 : decode cX4_sung 30 = .ok (.invokestatic 28, 3) := by decide +kernel
theorem dX4_sung_33 : decode cX4_sung 33 = .ok (.ifCond .ne 13, 3) := by decide +kernel
theorem dX4_sung_36 : decode cX4_sung 36 = .ok (.new 55, 3) := by decide +kernel
theorem dX4_sung_39 : decode cX4_sung 39 = .ok (.dup, 1) := by decide +kernel
theorem dX4_sung_40 : decode cX4_sung 40 = .ok (.ldc 250, 2) := by decide +kernel
theorem dX4_sung_42 : decode cX4_sung 42 = .ok (.invokespecial 59, 3) := by decide +kernel
theorem dX4_sung_45 : decode cX4_sung 45 = .ok (.athrow, 1) := by decide +kernel
theorem dX4_sung_46 : decode cX4_sung 46 = .ok (.aload_n 0, 1) := by decide +kernel
theorem dX4_sung_47 : decode cX4_sung 47 = .ok (.getfield 24, 3) := by decide +kernel
theorem dX4_sung_50 : decode cX4_sung 50 = .ok (.iload_n 1, 1) := by decide +kernel
theorem dX4_sung_51 : decode cX4_sung 51 = .ok (.iload_n 2, 1) := by decide +kernel
theorem dX4_sung_52 : decode cX4_sung 52 = .ok (.invokevirtual 252, 3) := by decide +kernel
theorem dX4_sung_55 : decode cX4_sung 55 = .ok (.ireturn, 1) := by decide +kernel
theorem dX4_chord_0 : decode cX4_chord 0 = .ok (.iload_n 1, 1) := by decide +kernel
theorem dX4_chord_1 : decode cX4_chord 1 = .ok (.ifCond .ge 13, 3) := by decide +kernel
theorem dX4_chord_4 : decode cX4_chord 4 = .ok (.new 32, 3) := by decide +kernel
theorem dX4_chord_7 : decode cX4_chord 7 = .ok (.dup, 1) := by decide +kernel
theorem dX4_chord_8 : decode cX4_chord 8 = .ok (.ldc 255, 2) := by decide +kernel
theorem dX4_chord_10 : decode cX4_chord 10 = .ok (.invokespecial 36, 3) := by decide +kernel
theorem dX4_chord_13 : decode cX4_chord 13 = .ok (.athrow, 1) := by decide +kernel
theorem dX4_chord_14 : decode cX4_chord 14 = .ok (.lconst 0, 1) := by decide +kernel
theorem dX4_chord_15 : decode cX4_chord 15 = .ok (.lstore_n 2, 1) := by decide +kernel
theorem dX4_chord_16 : decode cX4_chord 16 = .ok (.lconst 0, 1) := by decide +kernel
theorem dX4_chord_17 : decode cX4_chord 17 = .ok (.lstore 4, 2) := by decide +kernel
theorem dX4_chord_19 : decode cX4_chord 19 = .ok (.iconst 0, 1) := by decide +kernel
theorem dX4_chord_20 : decode cX4_chord 20 = .ok (.istore 6, 2) := by decide +kernel
theorem dX4_chord_22 : decode cX4_chord 22 = .ok (.iload 6, 2) := by decide +kernel
theorem dX4_chord_24 : decode cX4_chord 24 = .ok (.aload_n 0, 1) := by decide +kernel
theorem dX4_chord_25 : decode cX4_chord 25 = .ok (.getfield 24, 3) := by decide +kernel
theorem dX4_chord_28 : decode cX4_chord 28 = .ok (.getfield 245, 3) := by decide +kernel
theorem dX4_chord_31 : decode cX4_chord 31 = .ok (.if_icmp .ge 64, 3) := by decide +kernel
theorem dX4_chord_34 : decode cX4_chord 34 = .ok (.aload_n 0, 1) := by decide +kernel
theorem dX4_chord_35 : decode cX4_chord 35 = .ok (.getfield 24, 3) := by decide +kernel
theorem dX4_chord_38 : decode cX4_chord 38 = .ok (.iload 6, 2) := by decide +kernel
theorem dX4_chord_40 : decode cX4_chord 40 = .ok (.iconst 0, 1) := by decide +kernel
theorem dX4_chord_41 : decode cX4_chord 41 = .ok (.invokevirtual 252, 3) := by decide +kernel
theorem dX4_chord_44 : decode cX4_chord 44 = .ok (.iload_n 1, 1) := by decide +kernel
theorem dX4_chord_45 : decode cX4_chord 45 = .ok (.if_icmp .ne 44, 3) := by decide +kernel
theorem dX4_chord_48 : decode cX4_chord 48 = .ok (.aload_n 0, 1) := by decide +kernel
theorem dX4_chord_49 : decode cX4_chord 49 = .ok (.getfield 24, 3) := by decide +kernel
theorem dX4_chord_52 : decode cX4_chord 52 = .ok (.iload 6, 2) := by decide +kernel
theorem dX4_chord_54 : decode cX4_chord 54 = .ok (.iconst 3, 1) := by decide +kernel
theorem dX4_chord_55 : decode cX4_chord 55 = .ok (.invokevirtual 252, 3) := by decide +kernel
theorem dX4_chord_58 : decode cX4_chord 58 = .ok (.istore 7, 2) := by decide +kernel
theorem dX4_chord_60 : decode cX4_chord 60 = .ok (.iload 7, 2) := by decide +kernel
theorem dX4_chord_62 : decode cX4_chord 62 = .ok (.bipush 64, 2) := by decide +kernel
theorem dX4_chord_64 : decode cX4_chord 64 = .ok (.if_icmp .ge 13, 3) := by decide +kernel
theorem dX4_chord_67 : decode cX4_chord 67 = .ok (.lload_n 2, 1) := by decide +kernel
theorem dX4_chord_68 : decode cX4_chord 68 = .ok (.lconst 1, 1) := by decide +kernel
theorem dX4_chord_69 : decode cX4_chord 69 = .ok (.iload 7, 2) := by decide +kernel
theorem dX4_chord_71 : decode cX4_chord 71 = .ok (.lshl, 1) := by decide +kernel
theorem dX4_chord_72 : decode cX4_chord 72 = .ok (.lor, 1) := by decide +kernel
theorem dX4_chord_73 : decode cX4_chord 73 = .ok (.lstore_n 2, 1) := by decide +kernel
theorem dX4_chord_74 : decode cX4_chord 74 = .ok (.goto 15, 3) := by decide +kernel
theorem dX4_chord_77 : decode cX4_chord 77 = .ok (.lload 4, 2) := by decide +kernel
theorem dX4_chord_79 : decode cX4_chord 79 = .ok (.lconst 1, 1) := by decide +kernel
theorem dX4_chord_80 : decode cX4_chord 80 = .ok (.iload 7, 2) := by decide +kernel
theorem dX4_chord_82 : decode cX4_chord 82 = .ok (.bipush 64, 2) := by decide +kernel
theorem dX4_chord_84 : decode cX4_chord 84 = .ok (.isub, 1) := by decide +kernel
theorem dX4_chord_85 : decode cX4_chord 85 = .ok (.lshl, 1) := by decide +kernel
theorem dX4_chord_86 : decode cX4_chord 86 = .ok (.lor, 1) := by decide +kernel
theorem dX4_chord_87 : decode cX4_chord 87 = .ok (.lstore 4, 2) := by decide +kernel
theorem dX4_chord_89 : decode cX4_chord 89 = .ok (.iinc 6 1, 3) := by decide +kernel
theorem dX4_chord_92 : decode cX4_chord 92 = .ok (.goto (-70), 3) := by decide +kernel
theorem dX4_chord_95 : decode cX4_chord 95 = .ok (.lload_n 2, 1) := by decide +kernel
theorem dX4_chord_96 : decode cX4_chord 96 = .ok (.invokestatic 257, 3) := by decide +kernel
theorem dX4_chord_99 : decode cX4_chord 99 = .ok (.lload 4, 2) := by decide +kernel
theorem dX4_chord_101 : decode cX4_chord 101 = .ok (.invokestatic 257, 3) := by decide +kernel
theorem dX4_chord_104 : decode cX4_chord 104 = .ok (.iadd, 1) := by decide +kernel
theorem dX4_chord_105 : decode cX4_chord 105 = .ok (.ireturn, 1) := by decide +kernel
theorem dX4_longest_0 : decode cX4_longest 0 = .ok (.iconst 0, 1) := by decide +kernel
theorem dX4_longest_1 : decode cX4_longest 1 = .ok (.istore_n 1, 1) := by decide +kernel
theorem dX4_longest_2 : decode cX4_longest 2 = .ok (.iconst 0, 1) := by decide +kernel
theorem dX4_longest_3 : decode cX4_longest 3 = .ok (.istore_n 2, 1) := by decide +kernel
theorem dX4_longest_4 : decode cX4_longest 4 = .ok (.iconst (-1), 1) := by decide +kernel
theorem dX4_longest_5 : decode cX4_longest 5 = .ok (.istore_n 3, 1) := by decide +kernel
theorem dX4_longest_6 : decode cX4_longest 6 = .ok (.iconst 0, 1) := by decide +kernel
theorem dX4_longest_7 : decode cX4_longest 7 = .ok (.istore 4, 2) := by decide +kernel
theorem dX4_longest_9 : decode cX4_longest 9 = .ok (.iload 4, 2) := by decide +kernel
theorem dX4_longest_11 : decode cX4_longest 11 = .ok (.aload_n 0, 1) := by decide +kernel
theorem dX4_longest_12 : decode cX4_longest 12 = .ok (.getfield 24, 3) := by decide +kernel
theorem dX4_longest_15 : decode cX4_longest 15 = .ok (.getfield 245, 3) := by decide +kernel
theorem dX4_longest_18 : decode cX4_longest 18 = .ok (.if_icmp .ge 44, 3) := by decide +kernel
theorem dX4_longest_21 : decode cX4_longest 21 = .ok (.aload_n 0, 1) := by decide +kernel
theorem dX4_longest_22 : decode cX4_longest 22 = .ok (.getfield 24, 3) := by decide +kernel
theorem dX4_longest_25 : decode cX4_longest 25 = .ok (.iload 4, 2) := by decide +kernel
theorem dX4_longest_27 : decode cX4_longest 27 = .ok (.iconst 1, 1) := by decide +kernel
theorem dX4_longest_28 : decode cX4_longest 28 = .ok (.invokevirtual 252, 3) := by decide +kernel
theorem dX4_longest_31 : decode cX4_longest 31 = .ok (.istore 5, 2) := by decide +kernel
theorem dX4_longest_33 : decode cX4_longest 33 = .ok (.iload 5, 2) := by decide +kernel
theorem dX4_longest_35 : decode cX4_longest 35 = .ok (.iload_n 3, 1) := by decide +kernel
theorem dX4_longest_36 : decode cX4_longest 36 = .ok (.if_icmp .ne 9, 3) := by decide +kernel
theorem dX4_longest_39 : decode cX4_longest 39 = .ok (.iload_n 2, 1) := by decide +kernel
theorem dX4_longest_40 : decode cX4_longest 40 = .ok (.iconst 1, 1) := by decide +kernel
theorem dX4_longest_41 : decode cX4_longest 41 = .ok (.iadd, 1) := by decide +kernel
theorem dX4_longest_42 : decode cX4_longest 42 = .ok (.goto 4, 3) := by decide +kernel
theorem dX4_longest_45 : decode cX4_longest 45 = .ok (.iconst 1, 1) := by decide +kernel
theorem dX4_longest_46 : decode cX4_longest 46 = .ok (.istore_n 2, 1) := by decide +kernel
theorem dX4_longest_47 : decode cX4_longest 47 = .ok (.iload 5, 2) := by decide +kernel
theorem dX4_longest_49 : decode cX4_longest 49 = .ok (.istore_n 3, 1) := by decide +kernel
theorem dX4_longest_50 : decode cX4_longest 50 = .ok (.iload_n 1, 1) := by decide +kernel
theorem dX4_longest_51 : decode cX4_longest 51 = .ok (.iload_n 2, 1) := by decide +kernel
theorem dX4_longest_52 : decode cX4_longest 52 = .ok (.invokestatic 262, 3) := by decide +kernel
theorem dX4_longest_55 : decode cX4_longest 55 = .ok (.istore_n 1, 1) := by decide +kernel
theorem dX4_longest_56 : decode cX4_longest 56 = .ok (.iinc 4 1, 3) := by decide +kernel
theorem dX4_longest_59 : decode cX4_longest 59 = .ok (.goto (-50), 3) := by decide +kernel
theorem dX4_longest_62 : decode cX4_longest 62 = .ok (.iload_n 1, 1) := by decide +kernel
theorem dX4_longest_63 : decode cX4_longest 63 = .ok (.ireturn, 1) := by decide +kernel
theorem dX4_emptySongs_0 : decode cX4_emptySongs 0 = .ok (.aload_n 0, 1) := by decide +kernel
theorem dX4_emptySongs_1 : decode cX4_emptySongs 1 = .ok (.getfield 24, 3) := by decide +kernel
theorem dX4_emptySongs_4 : decode cX4_emptySongs 4 = .ok (.getfield 245, 3) := by decide +kernel
theorem dX4_emptySongs_7 : decode cX4_emptySongs 7 = .ok (.istore_n 1, 1) := by decide +kernel
theorem dX4_emptySongs_8 : decode cX4_emptySongs 8 = .ok (.aload_n 0, 1) := by decide +kernel
theorem dX4_emptySongs_9 : decode cX4_emptySongs 9 = .ok (.getfield 24, 3) := by decide +kernel
theorem dX4_emptySongs_12 : decode cX4_emptySongs 12 = .ok (.invokevirtual 265, 3) := by decide +kernel
theorem dX4_emptySongs_15 : decode cX4_emptySongs 15 = .ok (.iload_n 1, 1) := by decide +kernel
theorem dX4_emptySongs_16 : decode cX4_emptySongs 16 = .ok (.ireturn, 1) := by decide +kernel
theorem dX4_goOneTick_0 : decode cX4_goOneTick 0 = .ok (.aload_n 0, 1) := by decide +kernel
theorem dX4_goOneTick_1 : decode cX4_goOneTick 1 = .ok (.dup, 1) := by decide +kernel
theorem dX4_goOneTick_2 : decode cX4_goOneTick 2 = .ok (.getfield 234, 3) := by decide +kernel
theorem dX4_goOneTick_5 : decode cX4_goOneTick 5 = .ok (.iconst 1, 1) := by decide +kernel
theorem dX4_goOneTick_6 : decode cX4_goOneTick 6 = .ok (.iadd, 1) := by decide +kernel
theorem dX4_goOneTick_7 : decode cX4_goOneTick 7 = .ok (.putfield 234, 3) := by decide +kernel
theorem dX4_goOneTick_10 : decode cX4_goOneTick 10 = .ok (.aload_n 0, 1) := by decide +kernel
theorem dX4_goOneTick_11 : decode cX4_goOneTick 11 = .ok (.invokevirtual 297, 3) := by decide +kernel
theorem dX4_goOneTick_14 : decode cX4_goOneTick 14 = .ok (.iconst 0, 1) := by decide +kernel
theorem dX4_goOneTick_15 : decode cX4_goOneTick 15 = .ok (.istore_n 1, 1) := by decide +kernel
theorem dX4_goOneTick_16 : decode cX4_goOneTick 16 = .ok (.iconst 0, 1) := by decide +kernel
theorem dX4_goOneTick_17 : decode cX4_goOneTick 17 = .ok (.istore_n 2, 1) := by decide +kernel
theorem dX4_goOneTick_18 : decode cX4_goOneTick 18 = .ok (.iload_n 2, 1) := by decide +kernel
theorem dX4_goOneTick_19 : decode cX4_goOneTick 19 = .ok (.aload_n 0, 1) := by decide +kernel
theorem dX4_goOneTick_20 : decode cX4_goOneTick 20 = .ok (.getfield 11, 3) := by decide +kernel
theorem dX4_goOneTick_23 : decode cX4_goOneTick 23 = .ok (.arraylength, 1) := by decide +kernel
theorem dX4_goOneTick_24 : decode cX4_goOneTick 24 = .ok (.if_icmp .ge 29, 3) := by decide +kernel
theorem dX4_goOneTick_27 : decode cX4_goOneTick 27 = .ok (.aload_n 0, 1) := by decide +kernel
theorem dX4_goOneTick_28 : decode cX4_goOneTick 28 = .ok (.getfield 11, 3) := by decide +kernel
theorem dX4_goOneTick_31 : decode cX4_goOneTick 31 = .ok (.iload_n 2, 1) := by decide +kernel
theorem dX4_goOneTick_32 : decode cX4_goOneTick 32 = .ok (.aaload, 1) := by decide +kernel
theorem dX4_goOneTick_33 : decode cX4_goOneTick 33 = .ok (.astore_n 3, 1) := by decide +kernel
theorem dX4_goOneTick_34 : decode cX4_goOneTick 34 = .ok (.aload_n 3, 1) := by decide +kernel
theorem dX4_goOneTick_35 : decode cX4_goOneTick 35 = .ok (.ifnull 12, 3) := by decide +kernel
theorem dX4_goOneTick_38 : decode cX4_goOneTick 38 = .ok (.iload_n 1, 1) := by decide +kernel
theorem dX4_goOneTick_39 : decode cX4_goOneTick 39 = .ok (.aload_n 0, 1) := by decide +kernel
theorem dX4_goOneTick_40 : decode cX4_goOneTick 40 = .ok (.iload_n 2, 1) := by decide +kernel
theorem dX4_goOneTick_41 : decode cX4_goOneTick 41 = .ok (.aload_n 3, 1) := by decide +kernel
theorem dX4_goOneTick_42 : decode cX4_goOneTick 42 = .ok (.invokevirtual 300, 3) := by decide +kernel
theorem dX4_goOneTick_45 : decode cX4_goOneTick 45 = .ok (.iadd, 1) := by decide +kernel
theorem dX4_goOneTick_46 : decode cX4_goOneTick 46 = .ok (.istore_n 1, 1) := by decide +kernel
theorem dX4_goOneTick_47 : decode cX4_goOneTick 47 = .ok (.iinc 2 1, 3) := by decide +kernel
theorem dX4_goOneTick_50 : decode cX4_goOneTick 50 = .ok (.goto (-32), 3) := by decide +kernel
theorem dX4_goOneTick_53 : decode cX4_goOneTick 53 = .ok (.iload_n 1, 1) := by decide +kernel
theorem dX4_goOneTick_54 : decode cX4_goOneTick 54 = .ok (.ireturn, 1) := by decide +kernel
theorem dX4_shareBetweenCoupled_0 : decode cX4_shareBetweenCoupled 0 = .ok (.iconst 0, 1) := by decide +kernel
theorem dX4_shareBetweenCoupled_1 : decode cX4_shareBetweenCoupled 1 = .ok (.istore_n 1, 1) := by decide +kernel
theorem dX4_shareBetweenCoupled_2 : decode cX4_shareBetweenCoupled 2 = .ok (.iload_n 1, 1) := by decide +kernel
theorem dX4_shareBetweenCoupled_3 : decode cX4_shareBetweenCoupled 3 = .ok (.aload_n 0, 1) := by decide +kernel
theorem dX4_shareBetweenCoupled_4 : decode cX4_shareBetweenCoupled 4 = .ok (.getfield 11, 3) := by decide +kernel
theorem dX4_shareBetweenCoupled_7 : decode cX4_shareBetweenCoupled 7 = .ok (.arraylength, 1) := by decide +kernel
theorem dX4_shareBetweenCoupled_8 : decode cX4_shareBetweenCoupled 8 = .ok (.if_icmp .ge 54, 3) := by decide +kernel
theorem dX4_shareBetweenCoupled_11 : decode cX4_shareBetweenCoupled 11 = .ok (.iload_n 1, 1) := by decide +kernel
theorem dX4_shareBetweenCoupled_12 : decode cX4_shareBetweenCoupled 12 = .ok (.iconst 1, 1) := by decide +kernel
theorem dX4_shareBetweenCoupled_13 : decode cX4_shareBetweenCoupled 13 = .ok (.iadd, 1) := by decide +kernel
theorem dX4_shareBetweenCoupled_14 : decode cX4_shareBetweenCoupled 14 = .ok (.istore_n 2, 1) := by decide +kernel
theorem dX4_shareBetweenCoupled_15 : decode cX4_shareBetweenCoupled 15 = .ok (.iload_n 2, 1) := by decide +kernel
theorem dX4_shareBetweenCoupled_16 : decode cX4_shareBetweenCoupled 16 = .ok (.aload_n 0, 1) := by decide +kernel
theorem dX4_shareBetweenCoupled_17 : decode cX4_shareBetweenCoupled 17 = .ok (.getfield 11, 3) := by decide +kernel
theorem dX4_shareBetweenCoupled_20 : decode cX4_shareBetweenCoupled 20 = .ok (.arraylength, 1) := by decide +kernel
theorem dX4_shareBetweenCoupled_21 : decode cX4_shareBetweenCoupled 21 = .ok (.if_icmp .ge 35, 3) := by decide +kernel
theorem dX4_shareBetweenCoupled_24 : decode cX4_shareBetweenCoupled 24 = .ok (.aload_n 0, 1) := by decide +kernel
theorem dX4_shareBetweenCoupled_25 : decode cX4_shareBetweenCoupled 25 = .ok (.getfield 81, 3) := by decide +kernel
theorem dX4_shareBetweenCoupled_28 : decode cX4_shareBetweenCoupled 28 = .ok (.iload_n 1, 1) := by decide +kernel
theorem dX4_shareBetweenCoupled_29 : decode cX4_shareBetweenCoupled 29 = .ok (.iload_n 2, 1) := by decide +kernel
theorem dX4_shareBetweenCoupled_30 : decode cX4_shareBetweenCoupled 30 = .ok (.invokestatic 78, 3) := by decide +kernel
theorem dX4_shareBetweenCoupled_33 : decode cX4_shareBetweenCoupled 33 = .ok (.iand, 1) := by decide +kernel
theorem dX4_shareBetweenCoupled_34 : decode cX4_shareBetweenCoupled 34 = .ok (.ifCond .eq 16, 3) := by decide +kernel
theorem dX4_shareBetweenCoupled_37 : decode cX4_shareBetweenCoupled 37 = .ok (.aload_n 0, 1) := by decide +kernel
theorem dX4_shareBetweenCoupled_38 : decode cX4_shareBetweenCoupled 38 = .ok (.iload_n 1, 1) := by decide +kernel
theorem dX4_shareBetweenCoupled_39 : decode cX4_shareBetweenCoupled 39 = .ok (.invokevirtual 51, 3) := by decide +kernel
theorem dX4_shareBetweenCoupled_42 : decode cX4_shareBetweenCoupled 42 = .ok (.aload_n 0, 1) := by decide +kernel
theorem dX4_shareBetweenCoupled_43 : decode cX4_shareBetweenCoupled 43 = .ok (.iload_n 2, 1) := by decide +kernel
theorem dX4_shareBetweenCoupled_44 : decode cX4_shareBetweenCoupled 44 = .ok (.invokevirtual 51, 3) := by decide +kernel
theorem dX4_shareBetweenCoupled_47 : decode cX4_shareBetweenCoupled 47 = .ok (.invokestatic 304, 3) := by decide +kernel
theorem dX4_shareBetweenCoupled_50 : decode cX4_shareBetweenCoupled 50 = .ok (.iinc 2 1, 3) := by decide +kernel
theorem dX4_shareBetweenCoupled_53 : decode cX4_shareBetweenCoupled 53 = .ok (.goto (-38), 3) := by decide +kernel
theorem dX4_shareBetweenCoupled_56 : decode cX4_shareBetweenCoupled 56 = .ok (.iinc 1 1, 3) := by decide +kernel
theorem dX4_shareBetweenCoupled_59 : decode cX4_shareBetweenCoupled 59 = .ok (.goto (-57), 3) := by decide +kernel
theorem dX4_shareBetweenCoupled_62 : decode cX4_shareBetweenCoupled 62 = .ok (.return_, 1) := by decide +kernel
theorem dX4_shareBetween_0 : decode cX4_shareBetween 0 = .ok (.aload_n 0, 1) := by decide +kernel
theorem dX4_shareBetween_1 : decode cX4_shareBetween 1 = .ok (.ifnull 40, 3) := by decide +kernel
theorem dX4_shareBetween_4 : decode cX4_shareBetween 4 = .ok (.aload_n 1, 1) := by decide +kernel
theorem dX4_shareBetween_5 : decode cX4_shareBetween 5 = .ok (.ifnull 36, 3) := by decide +kernel
theorem dX4_shareBetween_8 : decode cX4_shareBetween 8 = .ok (.aload_n 0, 1) := by decide +kernel
theorem dX4_shareBetween_9 : decode cX4_shareBetween 9 = .ok (.getfield 63, 3) := by decide +kernel
theorem dX4_shareBetween_12 : decode cX4_shareBetween 12 = .ok (.aload_n 1, 1) := by decide +kernel
theorem dX4_shareBetween_13 : decode cX4_shareBetween 13 = .ok (.getfield 63, 3) := by decide +kernel
theorem dX4_shareBetween_16 : decode cX4_shareBetween 16 = .ok (.isub, 1) := by decide +kernel
theorem dX4_shareBetween_17 : decode cX4_shareBetween 17 = .ok (.bipush 10, 2) := by decide +kernel
theorem dX4_shareBetween_19 : decode cX4_shareBetween 19 = .ok (.idiv, 1) := by decide +kernel
theorem dX4_shareBetween_20 : decode cX4_shareBetween 20 = .ok (.istore_n 2, 1) := by decide +kernel
theorem dX4_shareBetween_21 : decode cX4_shareBetween 21 = .ok (.aload_n 0, 1) := by decide +kernel
theorem dX4_shareBetween_22 : decode cX4_shareBetween 22 = .ok (.dup, 1) := by decide +kernel
theorem dX4_shareBetween_23 : decode cX4_shareBetween 23 = .ok (.getfield 63, 3) := by decide +kernel
theorem dX4_shareBetween_26 : decode cX4_shareBetween 26 = .ok (.iload_n 2, 1) := by decide +kernel
theorem dX4_shareBetween_27 : decode cX4_shareBetween 27 = .ok (.isub, 1) := by decide +kernel
theorem dX4_shareBetween_28 : decode cX4_shareBetween 28 = .ok (.putfield 63, 3) := by decide +kernel
theorem dX4_shareBetween_31 : decode cX4_shareBetween 31 = .ok (.aload_n 1, 1) := by decide +kernel
theorem dX4_shareBetween_32 : decode cX4_shareBetween 32 = .ok (.dup, 1) := by decide +kernel
theorem dX4_shareBetween_33 : decode cX4_shareBetween 33 = .ok (.getfield 63, 3) := by decide +kernel
theorem dX4_shareBetween_36 : decode cX4_shareBetween 36 = .ok (.iload_n 2, 1) := by decide +kernel
theorem dX4_shareBetween_37 : decode cX4_shareBetween 37 = .ok (.iadd, 1) := by decide +kernel
theorem dX4_shareBetween_38 : decode cX4_shareBetween 38 = .ok (.putfield 63, 3) := by decide +kernel
theorem dX4_shareBetween_41 : decode cX4_shareBetween 41 = .ok (.return_, 1) := by decide +kernel
theorem dX4_goShaft_0 : decode cX4_goShaft 0 = .ok (.aload_n 2, 1) := by decide +kernel
theorem dX4_goShaft_1 : decode cX4_goShaft 1 = .ok (.getfield 72, 3) := by decide +kernel
theorem dX4_goShaft_4 : decode cX4_goShaft 4 = .ok (.ifCond .ne 10, 3) := by decide +kernel
theorem dX4_goShaft_7 : decode cX4_goShaft 7 = .ok (.aload_n 2, 1) := by decide +kernel
theorem dX4_goShaft_8 : decode cX4_goShaft 8 = .ok (.getfield 63, 3) := by decide +kernel
theorem dX4_goShaft_11 : decode cX4_goShaft 11 = .ok (.ifCond .gt 10, 3) := by decide +kernel
theorem dX4_goShaft_14 : decode cX4_goShaft 14 = .ok (.aload_n 2, 1) := by decide +kernel
theorem dX4_goShaft_15 : decode cX4_goShaft 15 = .ok (.iconst 0, 1) := by decide +kernel
theorem dX4_goShaft_16 : decode cX4_goShaft 16 = .ok (.putfield 97, 3) := by decide +kernel
theorem dX4_goShaft_19 : decode cX4_goShaft 19 = .ok (.iconst 0, 1) := by decide +kernel
theorem dX4_goShaft_20 : decode cX4_goShaft 20 = .ok (.ireturn, 1) := by decide +kernel
theorem dX4_goShaft_21 : decode cX4_goShaft 21 = .ok (.aload_n 2, 1) := by decide +kernel
theorem dX4_goShaft_22 : decode cX4_goShaft 22 = .ok (.aload_n 2, 1) := by decide +kernel
theorem dX4_goShaft_23 : decode cX4_goShaft 23 = .ok (.aload_n 0, 1) := by decide +kernel
theorem dX4_goShaft_24 : decode cX4_goShaft 24 = .ok (.iload_n 1, 1) := by decide +kernel
theorem dX4_goShaft_25 : decode cX4_goShaft 25 = .ok (.invokevirtual 103, 3) := by decide +kernel
theorem dX4_goShaft_28 : decode cX4_goShaft 28 = .ok (.invokevirtual 308, 3) := by decide +kernel
theorem dX4_goShaft_31 : decode cX4_goShaft 31 = .ok (.invokevirtual 311, 3) := by decide +kernel
theorem dX4_goShaft_34 : decode cX4_goShaft 34 = .ok (.iconst 0, 1) := by decide +kernel
theorem dX4_goShaft_35 : decode cX4_goShaft 35 = .ok (.istore_n 3, 1) := by decide +kernel
theorem dX4_goShaft_36 : decode cX4_goShaft 36 = .ok (.iconst 0, 1) := by decide +kernel
theorem dX4_goShaft_37 : decode cX4_goShaft 37 = .ok (.istore 4, 2) := by decide +kernel
theorem dX4_goShaft_39 : decode cX4_goShaft 39 = .ok (.iload 4, 2) := by decide +kernel
theorem dX4_goShaft_41 : decode cX4_goShaft 41 = .ok (.aload_n 0, 1) := by decide +kernel
theorem dX4_goShaft_42 : decode cX4_goShaft 42 = .ok (.getfield 17, 3) := by decide +kernel
theorem dX4_goShaft_45 : decode cX4_goShaft 45 = .ok (.arraylength, 1) := by decide +kernel
theorem dX4_goShaft_46 : decode cX4_goShaft 46 = .ok (.if_icmp .ge 44, 3) := by decide +kernel
theorem dX4_goShaft_49 : decode cX4_goShaft 49 = .ok (.aload_n 0, 1) := by decide +kernel
theorem dX4_goShaft_50 : decode cX4_goShaft 50 = .ok (.getfield 17, 3) := by decide +kernel
theorem dX4_goShaft_53 : decode cX4_goShaft 53 = .ok (.iload 4, 2) := by decide +kernel
theorem dX4_goShaft_55 : decode cX4_goShaft 55 = .ok (.aaload, 1) := by decide +kernel
theorem dX4_goShaft_56 : decode cX4_goShaft 56 = .ok (.astore 5, 2) := by decide +kernel
theorem dX4_goShaft_58 : decode cX4_goShaft 58 = .ok (.aload 5, 2) := by decide +kernel
theorem dX4_goShaft_60 : decode cX4_goShaft 60 = .ok (.ifnull 24, 3) := by decide +kernel
theorem dX4_goShaft_63 : decode cX4_goShaft 63 = .ok (.aload 5, 2) := by decide +kernel
theorem dX4_goShaft_65 : decode cX4_goShaft 65 = .ok (.iload_n 1, 1) := by decide +kernel
theorem dX4_goShaft_66 : decode cX4_goShaft 66 = .ok (.invokevirtual 314, 3) := by decide +kernel
theorem dX4_goShaft_69 : decode cX4_goShaft 69 = .ok (.ifCond .eq 15, 3) := by decide +kernel
theorem dX4_goShaft_72 : decode cX4_goShaft 72 = .ok (.iload_n 3, 1) := by decide +kernel
theorem dX4_goShaft_73 : decode cX4_goShaft 73 = .ok (.aload_n 0, 1) := by decide +kernel
theorem dX4_goShaft_74 : decode cX4_goShaft 74 = .ok (.iload 4, 2) := by decide +kernel
theorem dX4_goShaft_76 : decode cX4_goShaft 76 = .ok (.aload 5, 2) := by decide +kernel
theorem dX4_goShaft_78 : decode cX4_goShaft 78 = .ok (.aload_n 2, 1) := by decide +kernel
theorem dX4_goShaft_79 : decode cX4_goShaft 79 = .ok (.invokevirtual 317, 3) := by decide +kernel
theorem dX4_goShaft_82 : decode cX4_goShaft 82 = .ok (.iadd, 1) := by decide +kernel
theorem dX4_goShaft_83 : decode cX4_goShaft 83 = .ok (.istore_n 3, 1) := by decide +kernel
theorem dX4_goShaft_84 : decode cX4_goShaft 84 = .ok (.iinc 4 1, 3) := by decide +kernel
theorem dX4_goShaft_87 : decode cX4_goShaft 87 = .ok (.goto (-48), 3) := by decide +kernel
theorem dX4_goShaft_90 : decode cX4_goShaft 90 = .ok (.iload_n 3, 1) := by decide +kernel
theorem dX4_goShaft_91 : decode cX4_goShaft 91 = .ok (.ireturn, 1) := by decide +kernel
theorem dX4_goBarrel_0 : decode cX4_goBarrel 0 = .ok (.aload_n 2, 1) := by decide +kernel
theorem dX4_goBarrel_1 : decode cX4_goBarrel 1 = .ok (.getfield 216, 3) := by decide +kernel
theorem dX4_goBarrel_4 : decode cX4_goBarrel 4 = .ok (.lstore 4, 2) := by decide +kernel
theorem dX4_goBarrel_6 : decode cX4_goBarrel 6 = .ok (.aload_n 2, 1) := by decide +kernel
theorem dX4_goBarrel_7 : decode cX4_goBarrel 7 = .ok (.aload_n 2, 1) := by decide +kernel
theorem dX4_goBarrel_8 : decode cX4_goBarrel 8 = .ok (.aload_n 3, 1) := by decide +kernel
theorem dX4_goBarrel_9 : decode cX4_goBarrel 9 = .ok (.getfield 93, 3) := by decide +kernel
theorem dX4_goBarrel_12 : decode cX4_goBarrel 12 = .ok (.invokevirtual 321, 3) := by decide +kernel
theorem dX4_goBarrel_15 : decode cX4_goBarrel 15 = .ok (.putfield 216, 3) := by decide +kernel
theorem dX4_goBarrel_18 : decode cX4_goBarrel 18 = .ok (.iconst 0, 1) := by decide +kernel
theorem dX4_goBarrel_19 : decode cX4_goBarrel 19 = .ok (.istore 6, 2) := by decide +kernel
theorem dX4_goBarrel_21 : decode cX4_goBarrel 21 = .ok (.aload_n 2, 1) := by decide +kernel
theorem dX4_goBarrel_22 : decode cX4_goBarrel 22 = .ok (.getfield 216, 3) := by decide +kernel
theorem dX4_goBarrel_25 : decode cX4_goBarrel 25 = .ok (.lload 4, 2) := by decide +kernel
theorem dX4_goBarrel_27 : decode cX4_goBarrel 27 = .ok (.lsub, 1) := by decide +kernel
theorem dX4_goBarrel_28 : decode cX4_goBarrel 28 = .ok (.aload_n 2, 1) := by decide +kernel
theorem dX4_goBarrel_29 : decode cX4_goBarrel 29 = .ok (.getfield 193, 3) := by decide +kernel
theorem dX4_goBarrel_32 : decode cX4_goBarrel 32 = .ok (.i2l, 1) := by decide +kernel
theorem dX4_goBarrel_33 : decode cX4_goBarrel 33 = .ok (.invokestatic 325, 3) := by decide +kernel
theorem dX4_goBarrel_36 : decode cX4_goBarrel 36 = .ok (.lstore 7, 2) := by decide +kernel
theorem dX4_goBarrel_38 : decode cX4_goBarrel 38 = .ok (.lload 7, 2) := by decide +kernel
theorem dX4_goBarrel_40 : decode cX4_goBarrel 40 = .ok (.lconst 0, 1) := by decide +kernel
theorem dX4_goBarrel_41 : decode cX4_goBarrel 41 = .ok (.lcmp, 1) := by decide +kernel
theorem dX4_goBarrel_42 : decode cX4_goBarrel 42 = .ok (.ifCond .le 53, 3) := by decide +kernel
theorem dX4_goBarrel_45 : decode cX4_goBarrel 45 = .ok (.aload_n 2, 1) := by decide +kernel
theorem dX4_goBarrel_46 : decode cX4_goBarrel 46 = .ok (.aload_n 2, 1) := by decide +kernel
theorem dX4_goBarrel_47 : decode cX4_goBarrel 47 = .ok (.getfield 216, 3) := by decide +kernel
theorem dX4_goBarrel_50 : decode cX4_goBarrel 50 = .ok (.lload 7, 2) := by decide +kernel
theorem dX4_goBarrel_52 : decode cX4_goBarrel 52 = .ok (.lsub, 1) := by decide +kernel
theorem dX4_goBarrel_53 : decode cX4_goBarrel 53 = .ok (.lconst 1, 1) := by decide +kernel
theorem dX4_goBarrel_54 : decode cX4_goBarrel 54 = .ok (.ladd, 1) := by decide +kernel
theorem dX4_goBarrel_55 : decode cX4_goBarrel 55 = .ok (.invokevirtual 328, 3) := by decide +kernel
theorem dX4_goBarrel_58 : decode cX4_goBarrel 58 = .ok (.istore 9, 2) := by decide +kernel
theorem dX4_goBarrel_60 : decode cX4_goBarrel 60 = .ok (.aload_n 2, 1) := by decide +kernel
theorem dX4_goBarrel_61 : decode cX4_goBarrel 61 = .ok (.getfield 331, 3) := by decide +kernel
theorem dX4_goBarrel_64 : decode cX4_goBarrel 64 = .ok (.iload 9, 2) := by decide +kernel
theorem dX4_goBarrel_66 : decode cX4_goBarrel 66 = .ok (.invokestatic 165, 3) := by decide +kernel
theorem dX4_goBarrel_69 : decode cX4_goBarrel 69 = .ok (.ifCond .eq 17, 3) := by decide +kernel
theorem dX4_goBarrel_72 : decode cX4_goBarrel 72 = .ok (.iload 6, 2) := by decide +kernel
theorem dX4_goBarrel_74 : decode cX4_goBarrel 74 = .ok (.aload_n 0, 1) := by decide +kernel
theorem dX4_goBarrel_75 : decode cX4_goBarrel 75 = .ok (.iload_n 1, 1) := by decide +kernel
theorem dX4_goBarrel_76 : decode cX4_goBarrel 76 = .ok (.aload_n 2, 1) := by decide +kernel
theorem dX4_goBarrel_77 : decode cX4_goBarrel 77 = .ok (.aload_n 3, 1) := by decide +kernel
theorem dX4_goBarrel_78 : decode cX4_goBarrel 78 = .ok (.iload 9, 2) := by decide +kernel
theorem dX4_goBarrel_80 : decode cX4_goBarrel 80 = .ok (.invokevirtual 334, 3) := by decide +kernel
theorem dX4_goBarrel_83 : decode cX4_goBarrel 83 = .ok (.iadd, 1) := by decide +kernel
theorem dX4_goBarrel_84 : decode cX4_goBarrel 84 = .ok (.istore 6, 2) := by decide +kernel
theorem dX4_goBarrel_86 : decode cX4_goBarrel 86 = .ok (.lload 7, 2) := by decide +kernel
theorem dX4_goBarrel_88 : decode cX4_goBarrel 88 = .ok (.lconst 1, 1) := by decide +kernel
theorem dX4_goBarrel_89 : decode cX4_goBarrel 89 = .ok (.lsub, 1) := by decide +kernel
theorem dX4_goBarrel_90 : decode cX4_goBarrel 90 = .ok (.lstore 7, 2) := by decide +kernel
theorem dX4_goBarrel_92 : decode cX4_goBarrel 92 = .ok (.goto (-54), 3) := by decide +kernel
theorem dX4_goBarrel_95 : decode cX4_goBarrel 95 = .ok (.iload 6, 2) := by decide +kernel
theorem dX4_goBarrel_97 : decode cX4_goBarrel 97 = .ok (.ireturn, 1) := by decide +kernel
theorem dX4_soundPlace_0 : decode cX4_soundPlace 0 = .ok (.iconst 0, 1) := by decide +kernel
theorem dX4_soundPlace_1 : decode cX4_soundPlace 1 = .ok (.istore 5, 2) := by decide +kernel
theorem dX4_soundPlace_3 : decode cX4_soundPlace 3 = .ok (.iconst 0, 1) := by decide +kernel
theorem dX4_soundPlace_4 : decode cX4_soundPlace 4 = .ok (.istore 6, 2) := by decide +kernel
theorem dX4_soundPlace_6 : decode cX4_soundPlace 6 = .ok (.iload 6, 2) := by decide +kernel
theorem dX4_soundPlace_8 : decode cX4_soundPlace 8 = .ok (.bipush 6, 2) := by decide +kernel
theorem dX4_soundPlace_10 : decode cX4_soundPlace 10 = .ok (.if_icmp .ge 50, 3) := by decide +kernel
theorem dX4_soundPlace_13 : decode cX4_soundPlace 13 = .ok (.aload_n 2, 1) := by decide +kernel
theorem dX4_soundPlace_14 : decode cX4_soundPlace 14 = .ok (.iload 4, 2) := by decide +kernel
theorem dX4_soundPlace_16 : decode cX4_soundPlace 16 = .ok (.iload 6, 2) := by decide +kernel
theorem dX4_soundPlace_18 : decode cX4_soundPlace 18 = .ok (.invokevirtual 146, 3) := by decide +kernel
theorem dX4_soundPlace_21 : decode cX4_soundPlace 21 = .ok (.ifCond .eq 33, 3) := by decide +kernel
theorem dX4_soundPlace_24 : decode cX4_soundPlace 24 = .ok (.aload_n 3, 1) := by decide +kernel
theorem dX4_soundPlace_25 : decode cX4_soundPlace 25 = .ok (.invokevirtual 338, 3) := by decide +kernel
theorem dX4_soundPlace_28 : decode cX4_soundPlace 28 = .ok (.aload_n 0, 1) := by decide +kernel
theorem dX4_soundPlace_29 : decode cX4_soundPlace 29 = .ok (.getfield 24, 3) := by decide +kernel
theorem dX4_soundPlace_32 : decode cX4_soundPlace 32 = .ok (.aload_n 0, 1) := by decide +kernel
theorem dX4_soundPlace_33 : decode cX4_soundPlace 33 = .ok (.getfield 234, 3) := by decide +kernel
theorem dX4_soundPlace_36 : decode cX4_soundPlace 36 = .ok (.iload_n 1, 1) := by decide +kernel
theorem dX4_soundPlace_37 : decode cX4_soundPlace 37 = .ok (.iload 6, 2) := by decide +kernel
theorem dX4_soundPlace_39 : decode cX4_soundPlace 39 = .ok (.aload_n 2, 1) := by decide +kernel
theorem dX4_soundPlace_40 : decode cX4_soundPlace 40 = .ok (.getfield 161, 3) := by decide +kernel
theorem dX4_soundPlace_43 : decode cX4_soundPlace 43 = .ok (.iload 6, 2) := by decide +kernel
theorem dX4_soundPlace_45 : decode cX4_soundPlace 45 = .ok (.invokestatic 165, 3) := by decide +kernel
theorem dX4_soundPlace_48 : decode cX4_soundPlace 48 = .ok (.invokevirtual 341, 3) := by decide +kernel
theorem dX4_soundPlace_51 : decode cX4_soundPlace 51 = .ok (.iinc 5 1, 3) := by decide +kernel
theorem dX4_soundPlace_54 : decode cX4_soundPlace 54 = .ok (.iinc 6 1, 3) := by decide +kernel
theorem dX4_soundPlace_57 : decode cX4_soundPlace 57 = .ok (.goto (-51), 3) := by decide +kernel
theorem dX4_soundPlace_60 : decode cX4_soundPlace 60 = .ok (.aload_n 2, 1) := by decide +kernel
theorem dX4_soundPlace_61 : decode cX4_soundPlace 61 = .ok (.dup, 1) := by decide +kernel
theorem dX4_soundPlace_62 : decode cX4_soundPlace 62 = .ok (.getfield 219, 3) := by decide +kernel
theorem dX4_soundPlace_65 : decode cX4_soundPlace 65 = .ok (.iload 5, 2) := by decide +kernel
theorem dX4_soundPlace_67 : decode cX4_soundPlace 67 = .ok (.iadd, 1) := by decide +kernel
theorem dX4_soundPlace_68 : decode cX4_soundPlace 68 = .ok (.putfield 219, 3) := by decide +kernel
theorem dX4_soundPlace_71 : decode cX4_soundPlace 71 = .ok (.iload 5, 2) := by decide +kernel
theorem dX4_soundPlace_73 : decode cX4_soundPlace 73 = .ok (.ireturn, 1) := by decide +kernel
theorem dX4_springAt_0 : decode cX4_springAt 0 = .ok (.iload_n 1, 1) := by decide +kernel
theorem dX4_springAt_1 : decode cX4_springAt 1 = .ok (.ifCond .lt 21, 3) := by decide +kernel
theorem dX4_springAt_4 : decode cX4_springAt 4 = .ok (.iload_n 1, 1) := by decide +kernel
theorem dX4_springAt_5 : decode cX4_springAt 5 = .ok (.aload_n 0, 1) := by decide +kernel
theorem dX4_springAt_6 : decode cX4_springAt 6 = .ok (.getfield 11, 3) := by decide +kernel
theorem dX4_springAt_9 : decode cX4_springAt 9 = .ok (.arraylength, 1) := by decide +kernel
theorem dX4_springAt_10 : decode cX4_springAt 10 = .ok (.if_icmp .ge 12, 3) := by decide +kernel
theorem dX4_springAt_13 : decode cX4_springAt 13 = .ok (.aload_n 0, 1) := by decide +kernel
theorem dX4_springAt_14 : decode cX4_springAt 14 = .ok (.getfield 11, 3) := by decide +kernel
theorem dX4_springAt_17 : decode cX4_springAt 17 = .ok (.iload_n 1, 1) := by decide +kernel
theorem dX4_springAt_18 : decode cX4_springAt 18 = .ok (.aaload, 1) := by decide +kernel
theorem dX4_springAt_19 : decode cX4_springAt 19 = .ok (.goto 4, 3) := by decide +kernel
theorem dX4_springAt_22 : decode cX4_springAt 22 = .ok (.aconst_null, 1) := by decide +kernel
theorem dX4_springAt_23 : decode cX4_springAt 23 = .ok (.areturn, 1) := by decide +kernel
theorem dX4_birdAt_0 : decode cX4_birdAt 0 = .ok (.iload_n 1, 1) := by decide +kernel
theorem dX4_birdAt_1 : decode cX4_birdAt 1 = .ok (.ifCond .lt 21, 3) := by decide +kernel
theorem dX4_birdAt_4 : decode cX4_birdAt 4 = .ok (.iload_n 1, 1) := by decide +kernel
theorem dX4_birdAt_5 : decode cX4_birdAt 5 = .ok (.aload_n 0, 1) := by decide +kernel
theorem dX4_birdAt_6 : decode cX4_birdAt 6 = .ok (.getfield 17, 3) := by decide +kernel
theorem dX4_birdAt_9 : decode cX4_birdAt 9 = .ok (.arraylength, 1) := by decide +kernel
theorem dX4_birdAt_10 : decode cX4_birdAt 10 = .ok (.if_icmp .ge 12, 3) := by decide +kernel
theorem dX4_birdAt_13 : decode cX4_birdAt 13 = .ok (.aload_n 0, 1) := by decide +kernel
theorem dX4_birdAt_14 : decode cX4_birdAt 14 = .ok (.getfield 17, 3) := by decide +kernel
theorem dX4_birdAt_17 : decode cX4_birdAt 17 = .ok (.iload_n 1, 1) := by decide +kernel
theorem dX4_birdAt_18 : decode cX4_birdAt 18 = .ok (.aaload, 1) := by decide +kernel
theorem dX4_birdAt_19 : decode cX4_birdAt 19 = .ok (.goto 4, 3) := by decide +kernel
theorem dX4_birdAt_22 : decode cX4_birdAt 22 = .ok (.aconst_null, 1) := by decide +kernel
theorem dX4_birdAt_23 : decode cX4_birdAt 23 = .ok (.areturn, 1) := by decide +kernel
theorem dX4_birdsDrivenBy_0 : decode cX4_birdsDrivenBy 0 = .ok (.iconst 0, 1) := by decide +kernel
theorem dX4_birdsDrivenBy_1 : decode cX4_birdsDrivenBy 1 = .ok (.istore_n 2, 1) := by decide +kernel
theorem dX4_birdsDrivenBy_2 : decode cX4_birdsDrivenBy 2 = .ok (.aload_n 0, 1) := by decide +kernel
theorem dX4_birdsDrivenBy_3 : decode cX4_birdsDrivenBy 3 = .ok (.getfield 17, 3) := by decide +kernel
theorem dX4_birdsDrivenBy_6 : decode cX4_birdsDrivenBy 6 = .ok (.astore_n 3, 1) := by decide +kernel
theorem dX4_birdsDrivenBy_7 : decode cX4_birdsDrivenBy 7 = .ok (.aload_n 3, 1) := by decide +kernel
theorem dX4_birdsDrivenBy_8 : decode cX4_birdsDrivenBy 8 = .ok (.arraylength, 1) := by decide +kernel
theorem dX4_birdsDrivenBy_9 : decode cX4_birdsDrivenBy 9 = .ok (.istore 4, 2) := by decide +kernel
theorem dX4_birdsDrivenBy_11 : decode cX4_birdsDrivenBy 11 = .ok (.iconst 0, 1) := by decide +kernel
theorem dX4_birdsDrivenBy_12 : decode cX4_birdsDrivenBy 12 = .ok (.istore 5, 2) := by decide +kernel
theorem dX4_birdsDrivenBy_14 : decode cX4_birdsDrivenBy 14 = .ok (.iload 5, 2) := by decide +kernel
theorem dX4_birdsDrivenBy_16 : decode cX4_birdsDrivenBy 16 = .ok (.iload 4, 2) := by decide +kernel
theorem dX4_birdsDrivenBy_18 : decode cX4_birdsDrivenBy 18 = .ok (.if_icmp .ge 32, 3) := by decide +kernel
theorem dX4_birdsDrivenBy_21 : decode cX4_birdsDrivenBy 21 = .ok (.aload_n 3, 1) := by decide +kernel
theorem dX4_birdsDrivenBy_22 : decode cX4_birdsDrivenBy 22 = .ok (.iload 5, 2) := by decide +kernel
theorem dX4_birdsDrivenBy_24 : decode cX4_birdsDrivenBy 24 = .ok (.aaload, 1) := by decide +kernel
theorem dX4_birdsDrivenBy_25 : decode cX4_birdsDrivenBy 25 = .ok (.astore 6, 2) := by decide +kernel
theorem dX4_birdsDrivenBy_27 : decode cX4_birdsDrivenBy 27 = .ok (.aload 6, 2) := by decide +kernel
theorem dX4_birdsDrivenBy_29 : decode cX4_birdsDrivenBy 29 = .ok (.ifnull 15, 3) := by decide +kernel
theorem dX4_birdsDrivenBy_32 : decode cX4_birdsDrivenBy 32 = .ok (.aload 6, 2) := by decide +kernel
theorem dX4_birdsDrivenBy_34 : decode cX4_birdsDrivenBy 34 = .ok (.iload_n 1, 1) := by decide +kernel
theorem dX4_birdsDrivenBy_35 : decode cX4_birdsDrivenBy 35 = .ok (.invokevirtual 314, 3) := by decide +kernel
theorem dX4_birdsDrivenBy_38 : decode cX4_birdsDrivenBy 38 = .ok (.ifCond .eq 6, 3) := by decide +kernel
theorem dX4_birdsDrivenBy_41 : decode cX4_birdsDrivenBy 41 = .ok (.iinc 2 1, 3) := by decide +kernel
theorem dX4_birdsDrivenBy_44 : decode cX4_birdsDrivenBy 44 = .ok (.iinc 5 1, 3) := by decide +kernel
theorem dX4_birdsDrivenBy_47 : decode cX4_birdsDrivenBy 47 = .ok (.goto (-33), 3) := by decide +kernel
theorem dX4_birdsDrivenBy_50 : decode cX4_birdsDrivenBy 50 = .ok (.iload_n 2, 1) := by decide +kernel
theorem dX4_birdsDrivenBy_51 : decode cX4_birdsDrivenBy 51 = .ok (.ireturn, 1) := by decide +kernel
theorem dX4_loadOn_0 : decode cX4_loadOn 0 = .ok (.bipush 10, 2) := by decide +kernel
theorem dX4_loadOn_2 : decode cX4_loadOn 2 = .ok (.istore_n 2, 1) := by decide +kernel
theorem dX4_loadOn_3 : decode cX4_loadOn 3 = .ok (.aload_n 0, 1) := by decide +kernel
theorem dX4_loadOn_4 : decode cX4_loadOn 4 = .ok (.getfield 17, 3) := by decide +kernel
theorem dX4_loadOn_7 : decode cX4_loadOn 7 = .ok (.astore_n 3, 1) := by decide +kernel
theorem dX4_loadOn_8 : decode cX4_loadOn 8 = .ok (.aload_n 3, 1) := by decide +kernel
theorem dX4_loadOn_9 : decode cX4_loadOn 9 = .ok (.arraylength, 1) := by decide +kernel
theorem dX4_loadOn_10 : decode cX4_loadOn 10 = .ok (.istore 4, 2) := by decide +kernel
theorem dX4_loadOn_12 : decode cX4_loadOn 12 = .ok (.iconst 0, 1) := by decide +kernel
theorem dX4_loadOn_13 : decode cX4_loadOn 13 = .ok (.istore 5, 2) := by decide +kernel
theorem dX4_loadOn_15 : decode cX4_loadOn 15 = .ok (.iload 5, 2) := by decide +kernel
theorem dX4_loadOn_17 : decode cX4_loadOn 17 = .ok (.iload 4, 2) := by decide +kernel
theorem dX4_loadOn_19 : decode cX4_loadOn 19 = .ok (.if_icmp .ge 37, 3) := by decide +kernel
theorem dX4_loadOn_22 : decode cX4_loadOn 22 = .ok (.aload_n 3, 1) := by decide +kernel
theorem dX4_loadOn_23 : decode cX4_loadOn 23 = .ok (.iload 5, 2) := by decide +kernel
theorem dX4_loadOn_25 : decode cX4_loadOn 25 = .ok (.aaload, 1) := by decide +kernel
theorem dX4_loadOn_26 : decode cX4_loadOn 26 = .ok (.astore 6, 2) := by decide +kernel
theorem dX4_loadOn_28 : decode cX4_loadOn 28 = .ok (.aload 6, 2) := by decide +kernel
theorem dX4_loadOn_30 : decode cX4_loadOn 30 = .ok (.ifnull 20, 3) := by decide +kernel
theorem dX4_loadOn_33 : decode cX4_loadOn 33 = .ok (.aload 6, 2) := by decide +kernel
theorem dX4_loadOn_35 : decode cX4_loadOn 35 = .ok (.iload_n 1, 1) := by decide +kernel
theorem dX4_loadOn_36 : decode cX4_loadOn 36 = .ok (.invokevirtual 314, 3) := by decide +kernel
theorem dX4_loadOn_39 : decode cX4_loadOn 39 = .ok (.ifCond .eq 11, 3) := by decide +kernel
theorem dX4_loadOn_42 : decode cX4_loadOn 42 = .ok (.iload_n 2, 1) := by decide +kernel
theorem dX4_loadOn_43 : decode cX4_loadOn 43 = .ok (.aload 6, 2) := by decide +kernel
theorem dX4_loadOn_45 : decode cX4_loadOn 45 = .ok (.invokevirtual 345, 3) := by decide +kernel
theorem dX4_loadOn_48 : decode cX4_loadOn 48 = .ok (.iadd, 1) := by decide +kernel
theorem dX4_loadOn_49 : decode cX4_loadOn 49 = .ok (.istore_n 2, 1) := by decide +kernel
theorem dX4_loadOn_50 : decode cX4_loadOn 50 = .ok (.iinc 5 1, 3) := by decide +kernel
theorem dX4_loadOn_53 : decode cX4_loadOn 53 = .ok (.goto (-38), 3) := by decide +kernel
theorem dX4_loadOn_56 : decode cX4_loadOn 56 = .ok (.iload_n 2, 1) := by decide +kernel
theorem dX4_loadOn_57 : decode cX4_loadOn 57 = .ok (.ireturn, 1) := by decide +kernel
theorem dX4_heldByAll_0 : decode cX4_heldByAll 0 = .ok (.iconst 0, 1) := by decide +kernel
theorem dX4_heldByAll_1 : decode cX4_heldByAll 1 = .ok (.istore_n 1, 1) := by decide +kernel
theorem dX4_heldByAll_2 : decode cX4_heldByAll 2 = .ok (.aload_n 0, 1) := by decide +kernel
theorem dX4_heldByAll_3 : decode cX4_heldByAll 3 = .ok (.getfield 11, 3) := by decide +kernel
theorem dX4_heldByAll_6 : decode cX4_heldByAll 6 = .ok (.astore_n 2, 1) := by decide +kernel
theorem dX4_heldByAll_7 : decode cX4_heldByAll 7 = .ok (.aload_n 2, 1) := by decide +kernel
theorem dX4_heldByAll_8 : decode cX4_heldByAll 8 = .ok (.arraylength, 1) := by decide +kernel
theorem dX4_heldByAll_9 : decode cX4_heldByAll 9 = .ok (.istore_n 3, 1) := by decide +kernel
theorem dX4_heldByAll_10 : decode cX4_heldByAll 10 = .ok (.iconst 0, 1) := by decide +kernel
theorem dX4_heldByAll_11 : decode cX4_heldByAll 11 = .ok (.istore 4, 2) := by decide +kernel
theorem dX4_heldByAll_13 : decode cX4_heldByAll 13 = .ok (.iload 4, 2) := by decide +kernel
theorem dX4_heldByAll_15 : decode cX4_heldByAll 15 = .ok (.iload_n 3, 1) := by decide +kernel
theorem dX4_heldByAll_16 : decode cX4_heldByAll 16 = .ok (.if_icmp .ge 28, 3) := by decide +kernel
theorem dX4_heldByAll_19 : decode cX4_heldByAll 19 = .ok (.aload_n 2, 1) := by decide +kernel
theorem dX4_heldByAll_20 : decode cX4_heldByAll 20 = .ok (.iload 4, 2) := by decide +kernel
theorem dX4_heldByAll_22 : decode cX4_heldByAll 22 = .ok (.aaload, 1) := by decide +kernel
theorem dX4_heldByAll_23 : decode cX4_heldByAll 23 = .ok (.astore 5, 2) := by decide +kernel
theorem dX4_heldByAll_25 : decode cX4_heldByAll 25 = .ok (.aload 5, 2) := by decide +kernel
theorem dX4_heldByAll_27 : decode cX4_heldByAll 27 = .ok (.ifnull 11, 3) := by decide +kernel
theorem dX4_heldByAll_30 : decode cX4_heldByAll 30 = .ok (.iload_n 1, 1) := by decide +kernel
theorem dX4_heldByAll_31 : decode cX4_heldByAll 31 = .ok (.aload 5, 2) := by decide +kernel
theorem dX4_heldByAll_33 : decode cX4_heldByAll 33 = .ok (.getfield 63, 3) := by decide +kernel
theorem dX4_heldByAll_36 : decode cX4_heldByAll 36 = .ok (.iadd, 1) := by decide +kernel
theorem dX4_heldByAll_37 : decode cX4_heldByAll 37 = .ok (.istore_n 1, 1) := by decide +kernel
theorem dX4_heldByAll_38 : decode cX4_heldByAll 38 = .ok (.iinc 4 1, 3) := by decide +kernel
theorem dX4_heldByAll_41 : decode cX4_heldByAll 41 = .ok (.goto (-28), 3) := by decide +kernel
theorem dX4_heldByAll_44 : decode cX4_heldByAll 44 = .ok (.iload_n 1, 1) := by decide +kernel
theorem dX4_heldByAll_45 : decode cX4_heldByAll 45 = .ok (.ireturn, 1) := by decide +kernel
theorem dX4_pairBit_0 : decode cX4_pairBit 0 = .ok (.iconst 1, 1) := by decide +kernel
theorem dX4_pairBit_1 : decode cX4_pairBit 1 = .ok (.iload_n 0, 1) := by decide +kernel
theorem dX4_pairBit_2 : decode cX4_pairBit 2 = .ok (.iload_n 1, 1) := by decide +kernel
theorem dX4_pairBit_3 : decode cX4_pairBit 3 = .ok (.invokestatic 66, 3) := by decide +kernel
theorem dX4_pairBit_6 : decode cX4_pairBit 6 = .ok (.iconst 4, 1) := by decide +kernel
theorem dX4_pairBit_7 : decode cX4_pairBit 7 = .ok (.imul, 1) := by decide +kernel
theorem dX4_pairBit_8 : decode cX4_pairBit 8 = .ok (.iload_n 0, 1) := by decide +kernel
theorem dX4_pairBit_9 : decode cX4_pairBit 9 = .ok (.iload_n 1, 1) := by decide +kernel
theorem dX4_pairBit_10 : decode cX4_pairBit 10 = .ok (.invokestatic 262, 3) := by decide +kernel
theorem dX4_pairBit_13 : decode cX4_pairBit 13 = .ok (.iadd, 1) := by decide +kernel
theorem dX4_pairBit_14 : decode cX4_pairBit 14 = .ok (.ishl, 1) := by decide +kernel
theorem dX4_pairBit_15 : decode cX4_pairBit 15 = .ok (.ireturn, 1) := by decide +kernel
theorem dX4_isIn_0 : decode cX4_isIn 0 = .ok (.iload_n 0, 1) := by decide +kernel
theorem dX4_isIn_1 : decode cX4_isIn 1 = .ok (.iload_n 1, 1) := by decide +kernel
theorem dX4_isIn_2 : decode cX4_isIn 2 = .ok (.if_icmp .lt 12, 3) := by decide +kernel
theorem dX4_isIn_5 : decode cX4_isIn 5 = .ok (.iload_n 0, 1) := by decide +kernel
theorem dX4_isIn_6 : decode cX4_isIn 6 = .ok (.iload_n 2, 1) := by decide +kernel
theorem dX4_isIn_7 : decode cX4_isIn 7 = .ok (.if_icmp .gt 7, 3) := by decide +kernel
theorem dX4_isIn_10 : decode cX4_isIn 10 = .ok (.iconst 1, 1) := by decide +kernel
theorem dX4_isIn_11 : decode cX4_isIn 11 = .ok (.goto 4, 3) := by decide +kernel
theorem dX4_isIn_14 : decode cX4_isIn 14 = .ok (.iconst 0, 1) := by decide +kernel
theorem dX4_isIn_15 : decode cX4_isIn 15 = .ok (.ireturn, 1) := by decide +kernel
theorem dX4_remainder_0 : decode cX4_remainder 0 = .ok (.iload_n 1, 1) := by decide +kernel
theorem dX4_remainder_1 : decode cX4_remainder 1 = .ok (.ifCond .le 9, 3) := by decide +kernel
theorem dX4_remainder_4 : decode cX4_remainder 4 = .ok (.iload_n 0, 1) := by decide +kernel
theorem dX4_remainder_5 : decode cX4_remainder 5 = .ok (.iload_n 1, 1) := by decide +kernel
theorem dX4_remainder_6 : decode cX4_remainder 6 = .ok (.irem, 1) := by decide +kernel
theorem dX4_remainder_7 : decode cX4_remainder 7 = .ok (.goto 4, 3) := by decide +kernel
theorem dX4_remainder_10 : decode cX4_remainder 10 = .ok (.iconst 0, 1) := by decide +kernel
theorem dX4_remainder_11 : decode cX4_remainder 11 = .ok (.ireturn, 1) := by decide +kernel
theorem dX4_at_0 : decode cX4_at 0 = .ok (.iload_n 1, 1) := by decide +kernel
theorem dX4_at_1 : decode cX4_at 1 = .ok (.ifCond .lt 15, 3) := by decide +kernel
theorem dX4_at_4 : decode cX4_at 4 = .ok (.iload_n 1, 1) := by decide +kernel
theorem dX4_at_5 : decode cX4_at 5 = .ok (.aload_n 0, 1) := by decide +kernel
theorem dX4_at_6 : decode cX4_at 6 = .ok (.arraylength, 1) := by decide +kernel
theorem dX4_at_7 : decode cX4_at 7 = .ok (.if_icmp .ge 9, 3) := by decide +kernel
theorem dX4_at_10 : decode cX4_at 10 = .ok (.aload_n 0, 1) := by decide +kernel
theorem dX4_at_11 : decode cX4_at 11 = .ok (.iload_n 1, 1) := by decide +kernel
theorem dX4_at_12 : decode cX4_at 12 = .ok (.iaload, 1) := by decide +kernel
theorem dX4_at_13 : decode cX4_at 13 = .ok (.goto 4, 3) := by decide +kernel
theorem dX4_at_16 : decode cX4_at 16 = .ok (.iconst 0, 1) := by decide +kernel
theorem dX4_at_17 : decode cX4_at 17 = .ok (.ireturn, 1) := by decide +kernel
theorem dX4_put_0 : decode cX4_put 0 = .ok (.iload_n 1, 1) := by decide +kernel
theorem dX4_put_1 : decode cX4_put 1 = .ok (.ifCond .lt 13, 3) := by decide +kernel
theorem dX4_put_4 : decode cX4_put 4 = .ok (.iload_n 1, 1) := by decide +kernel
theorem dX4_put_5 : decode cX4_put 5 = .ok (.aload_n 0, 1) := by decide +kernel
theorem dX4_put_6 : decode cX4_put 6 = .ok (.arraylength, 1) := by decide +kernel
theorem dX4_put_7 : decode cX4_put 7 = .ok (.if_icmp .ge 7, 3) := by decide +kernel
theorem dX4_put_10 : decode cX4_put 10 = .ok (.aload_n 0, 1) := by decide +kernel
theorem dX4_put_11 : decode cX4_put 11 = .ok (.iload_n 1, 1) := by decide +kernel
theorem dX4_put_12 : decode cX4_put 12 = .ok (.iload_n 2, 1) := by decide +kernel
theorem dX4_put_13 : decode cX4_put 13 = .ok (.iastore, 1) := by decide +kernel
theorem dX4_put_14 : decode cX4_put 14 = .ok (.return_, 1) := by decide +kernel
