theorem dX5_init_0 : decode cX5_init 0 = .ok (.aload_n 0, 1) := by decide +kernel
theorem dX5_init_1 : decode cX5_init 1 = .ok (.invokespecial 1, 3) := by decide +kernel
theorem dX5_init_4 : decode cX5_init 4 = .ok (.aload_n 0, 1) := by decide +kernel
theorem dX5_init_5 : decode cX5_init 5 = .ok (.bipush 20, 2) := by decide +kernel
theorem dX5_init_7 : decode cX5_init 7 = .ok (.newarray .int, 2) := by decide +kernel
theorem dX5_init_9 : decode cX5_init 9 = .ok (.putfield 9, 3) := by decide +kernel
theorem dX5_init_12 : decode cX5_init 12 = .ok (.aload_n 0, 1) := by decide +kernel
theorem dX5_init_13 : decode cX5_init 13 = .ok (.bipush 88, 2) := by decide +kernel
theorem dX5_init_15 : decode cX5_init 15 = .ok (.newarray .int, 2) := by decide +kernel
theorem dX5_init_17 : decode cX5_init 17 = .ok (.putfield 13, 3) := by decide +kernel
theorem dX5_init_20 : decode cX5_init 20 = .ok (.aload_n 0, 1) := by decide +kernel
theorem dX5_init_21 : decode cX5_init 21 = .ok (.bipush 16, 2) := by decide +kernel
theorem dX5_init_23 : decode cX5_init 23 = .ok (.newarray .boolean, 2) := by decide +kernel
theorem dX5_init_25 : decode cX5_init 25 = .ok (.putfield 16, 3) := by decide +kernel
theorem dX5_init_28 : decode cX5_init 28 = .ok (.aload_n 0, 1) := by decide +kernel
theorem dX5_init_29 : decode cX5_init 29 = .ok (.sipush 768, 3) := by decide +kernel
theorem dX5_init_32 : decode cX5_init 32 = .ok (.newarray .int, 2) := by decide +kernel
theorem dX5_init_34 : decode cX5_init 34 = .ok (.putfield 20, 3) := by decide +kernel
theorem dX5_init_37 : decode cX5_init 37 = .ok (.aload_n 0, 1) := by decide +kernel
theorem dX5_init_38 : decode cX5_init 38 = .ok (.bipush 48, 2) := by decide +kernel
theorem dX5_init_40 : decode cX5_init 40 = .ok (.newarray .int, 2) := by decide +kernel
theorem dX5_init_42 : decode cX5_init 42 = .ok (.putfield 23, 3) := by decide +kernel
theorem dX5_init_45 : decode cX5_init 45 = .ok (.aload_n 0, 1) := by decide +kernel
theorem dX5_init_46 : decode cX5_init 46 = .ok (.sipush 2304, 3) := by decide +kernel
theorem dX5_init_49 : decode cX5_init 49 = .ok (.newarray .int, 2) := by decide +kernel
theorem dX5_init_51 : decode cX5_init 51 = .ok (.putfield 26, 3) := by decide +kernel
theorem dX5_init_54 : decode cX5_init 54 = .ok (.aload_n 0, 1) := by decide +kernel
theorem dX5_init_55 : decode cX5_init 55 = .ok (.sipush 1000, 3) := by decide +kernel
theorem dX5_init_58 : decode cX5_init 58 = .ok (.newarray .int, 2) := by decide +kernel
theorem dX5_init_60 : decode cX5_init 60 = .ok (.putfield 29, 3) := by decide +kernel
theorem dX5_init_63 : decode cX5_init 63 = .ok (.aload_n 0, 1) := by decide +kernel
theorem dX5_init_64 : decode cX5_init 64 = .ok (.bipush 20, 2) := by decide +kernel
theorem dX5_init_66 : decode cX5_init 66 = .ok (.newarray .int, 2) := by decide +kernel
theorem dX5_init_68 : decode cX5_init 68 = .ok (.putfield 32, 3) := by decide +kernel
theorem dX5_init_71 : decode cX5_init 71 = .ok (.aload_n 0, 1) := by decide +kernel
theorem dX5_init_72 : decode cX5_init 72 = .ok (.bipush 88, 2) := by decide +kernel
theorem dX5_init_74 : decode cX5_init 74 = .ok (.newarray .int, 2) := by decide +kernel
theorem dX5_init_76 : decode cX5_init 76 = .ok (.putfield 35, 3) := by decide +kernel
theorem dX5_init_79 : decode cX5_init 79 = .ok (.return_, 1) := by decide +kernel
theorem dX5_thrown_0 : decode cX5_thrown 0 = .ok (.aload_n 0, 1) := by decide +kernel
theorem dX5_thrown_1 : decode cX5_thrown 1 = .ok (.getfield 38, 3) := by decide +kernel
theorem dX5_thrown_4 : decode cX5_thrown 4 = .ok (.ireturn, 1) := by decide +kernel
theorem dX5_fail_0 : decode cX5_fail 0 = .ok (.aload_n 0, 1) := by decide +kernel
theorem dX5_fail_1 : decode cX5_fail 1 = .ok (.iload_n 1, 1) := by decide +kernel
theorem dX5_fail_2 : decode cX5_fail 2 = .ok (.putfield 38, 3) := by decide +kernel
theorem dX5_fail_5 : decode cX5_fail 5 = .ok (.iconst 0, 1) := by decide +kernel
theorem dX5_fail_6 : decode cX5_fail 6 = .ok (.ireturn, 1) := by decide +kernel
theorem dX5_isIn_0 : decode cX5_isIn 0 = .ok (.iload_n 0, 1) := by decide +kernel
theorem dX5_isIn_1 : decode cX5_isIn 1 = .ok (.iload_n 1, 1) := by decide +kernel
theorem dX5_isIn_2 : decode cX5_isIn 2 = .ok (.if_icmp .lt 12, 3) := by decide +kernel
theorem dX5_isIn_5 : decode cX5_isIn 5 = .ok (.iload_n 0, 1) := by decide +kernel
theorem dX5_isIn_6 : decode cX5_isIn 6 = .ok (.iload_n 2, 1) := by decide +kernel
theorem dX5_isIn_7 : decode cX5_isIn 7 = .ok (.if_icmp .gt 7, 3) := by decide +kernel
theorem dX5_isIn_10 : decode cX5_isIn 10 = .ok (.iconst 1, 1) := by decide +kernel
theorem dX5_isIn_11 : decode cX5_isIn 11 = .ok (.goto 4, 3) := by decide +kernel
theorem dX5_isIn_14 : decode cX5_isIn 14 = .ok (.iconst 0, 1) := by decide +kernel
theorem dX5_isIn_15 : decode cX5_isIn 15 = .ok (.ireturn, 1) := by decide +kernel
theorem dX5_isSpring_0 : decode cX5_isSpring 0 = .ok (.iload_n 1, 1) := by decide +kernel
theorem dX5_isSpring_1 : decode cX5_isSpring 1 = .ok (.iconst 0, 1) := by decide +kernel
theorem dX5_isSpring_2 : decode cX5_isSpring 2 = .ok (.aload_n 0, 1) := by decide +kernel
theorem dX5_isSpring_3 : decode cX5_isSpring 3 = .ok (.getfield 42, 3) := by decide +kernel
theorem dX5_isSpring_6 : decode cX5_isSpring 6 = .ok (.iconst 1, 1) := by decide +kernel
theorem dX5_isSpring_7 : decode cX5_isSpring 7 = .ok (.isub, 1) := by decide +kernel
theorem dX5_isSpring_8 : decode cX5_isSpring 8 = .ok (.invokestatic 45, 3) := by decide +kernel
theorem dX5_isSpring_11 : decode cX5_isSpring 11 = .ok (.ireturn, 1) := by decide +kernel
theorem dX5_isBird_0 : decode cX5_isBird 0 = .ok (.iload_n 1, 1) := by decide +kernel
theorem dX5_isBird_1 : decode cX5_isBird 1 = .ok (.iconst 0, 1) := by decide +kernel
theorem dX5_isBird_2 : decode cX5_isBird 2 = .ok (.aload_n 0, 1) := by decide +kernel
theorem dX5_isBird_3 : decode cX5_isBird 3 = .ok (.getfield 49, 3) := by decide +kernel
theorem dX5_isBird_6 : decode cX5_isBird 6 = .ok (.iconst 1, 1) := by decide +kernel
theorem dX5_isBird_7 : decode cX5_isBird 7 = .ok (.isub, 1) := by decide +kernel
theorem dX5_isBird_8 : decode cX5_isBird 8 = .ok (.invokestatic 45, 3) := by decide +kernel
theorem dX5_isBird_11 : decode cX5_isBird 11 = .ok (.ireturn, 1) := by decide +kernel
theorem dX5_get_0 : decode cX5_get 0 = .ok (.aload_n 0, 1) := by decide +kernel
theorem dX5_get_1 : decode cX5_get 1 = .ok (.getfield 13, 3) := by decide +kernel
theorem dX5_get_4 : decode cX5_get 4 = .ok (.bipush 11, 2) := by decide +kernel
theorem dX5_get_6 : decode cX5_get 6 = .ok (.iload_n 1, 1) := by decide +kernel
theorem dX5_get_7 : decode cX5_get 7 = .ok (.imul, 1) := by decide +kernel
theorem dX5_get_8 : decode cX5_get 8 = .ok (.iload_n 2, 1) := by decide +kernel
theorem dX5_get_9 : decode cX5_get 9 = .ok (.iadd, 1) := by decide +kernel
theorem dX5_get_10 : decode cX5_get 10 = .ok (.iaload, 1) := by decide +kernel
theorem dX5_get_11 : decode cX5_get 11 = .ok (.ireturn, 1) := by decide +kernel
theorem dX5_set_0 : decode cX5_set 0 = .ok (.aload_n 0, 1) := by decide +kernel
theorem dX5_set_1 : decode cX5_set 1 = .ok (.getfield 13, 3) := by decide +kernel
theorem dX5_set_4 : decode cX5_set 4 = .ok (.bipush 11, 2) := by decide +kernel
theorem dX5_set_6 : decode cX5_set 6 = .ok (.iload_n 1, 1) := by decide +kernel
theorem dX5_set_7 : decode cX5_set 7 = .ok (.imul, 1) := by decide +kernel
theorem dX5_set_8 : decode cX5_set 8 = .ok (.iload_n 2, 1) := by decide +kernel
theorem dX5_set_9 : decode cX5_set 9 = .ok (.iadd, 1) := by decide +kernel
theorem dX5_set_10 : decode cX5_set 10 = .ok (.iload_n 3, 1) := by decide +kernel
theorem dX5_set_11 : decode cX5_set 11 = .ok (.iastore, 1) := by decide +kernel
theorem dX5_set_12 : decode cX5_set 12 = .ok (.return_, 1) := by decide +kernel
theorem dX5_addSpring_0 : decode cX5_addSpring 0 = .ok (.aload_n 0, 1) := by decide +kernel
theorem dX5_addSpring_1 : decode cX5_addSpring 1 = .ok (.iconst 0, 1) := by decide +kernel
theorem dX5_addSpring_2 : decode cX5_addSpring 2 = .ok (.putfield 38, 3) := by decide +kernel
theorem dX5_addSpring_5 : decode cX5_addSpring 5 = .ok (.iload_n 1, 1) := by decide +kernel
theorem dX5_addSpring_6 : decode cX5_addSpring 6 = .ok (.iconst 1, 1) := by decide +kernel
theorem dX5_addSpring_7 : decode cX5_addSpring 7 = .ok (.bipush 50, 2) := by decide +kernel
theorem dX5_addSpring_9 : decode cX5_addSpring 9 = .ok (.invokestatic 45, 3) := by decide +kernel
theorem dX5_addSpring_12 : decode cX5_addSpring 12 = .ok (.ifCond .ne 9, 3) := by decide +kernel
theorem dX5_addSpring_15 : decode cX5_addSpring 15 = .ok (.aload_n 0, 1) := by decide +kernel
theorem dX5_addSpring_16 : decode cX5_addSpring 16 = .ok (.iconst 1, 1) := by decide +kernel
theorem dX5_addSpring_17 : decode cX5_addSpring 17 = .ok (.invokevirtual 52, 3) := by decide +kernel
theorem dX5_addSpring_20 : decode cX5_addSpring 20 = .ok (.ireturn, 1) := by decide +kernel
theorem dX5_addSpring_21 : decode cX5_addSpring 21 = .ok (.aload_n 0, 1) := by decide +kernel
theorem dX5_addSpring_22 : decode cX5_addSpring 22 = .ok (.getfield 42, 3) := by decide +kernel
theorem dX5_addSpring_25 : decode cX5_addSpring 25 = .ok (.iconst 4, 1) := by decide +kernel
theorem dX5_addSpring_26 : decode cX5_addSpring 26 = .ok (.if_icmp .ne 9, 3) := by decide +kernel
theorem dX5_addSpring_29 : decode cX5_addSpring 29 = .ok (.aload_n 0, 1) := by decide +kernel
theorem dX5_addSpring_30 : decode cX5_addSpring 30 = .ok (.iconst 2, 1) := by decide +kernel
theorem dX5_addSpring_31 : decode cX5_addSpring 31 = .ok (.invokevirtual 52, 3) := by decide +kernel
theorem dX5_addSpring_34 : decode cX5_addSpring 34 = .ok (.ireturn, 1) := by decide +kernel
theorem dX5_addSpring_35 : decode cX5_addSpring 35 = .ok (.aload_n 0, 1) := by decide +kernel
theorem dX5_addSpring_36 : decode cX5_addSpring 36 = .ok (.getfield 9, 3) := by decide +kernel
theorem dX5_addSpring_39 : decode cX5_addSpring 39 = .ok (.iconst 5, 1) := by decide +kernel
theorem dX5_addSpring_40 : decode cX5_addSpring 40 = .ok (.aload_n 0, 1) := by decide +kernel
theorem dX5_addSpring_41 : decode cX5_addSpring 41 = .ok (.getfield 42, 3) := by decide +kernel
theorem dX5_addSpring_44 : decode cX5_addSpring 44 = .ok (.imul, 1) := by decide +kernel
theorem dX5_addSpring_45 : decode cX5_addSpring 45 = .ok (.iload_n 1, 1) := by decide +kernel
theorem dX5_addSpring_46 : decode cX5_addSpring 46 = .ok (.iastore, 1) := by decide +kernel
theorem dX5_addSpring_47 : decode cX5_addSpring 47 = .ok (.aload_n 0, 1) := by decide +kernel
theorem dX5_addSpring_48 : decode cX5_addSpring 48 = .ok (.dup, 1) := by decide +kernel
theorem dX5_addSpring_49 : decode cX5_addSpring 49 = .ok (.getfield 42, 3) := by decide +kernel
theorem dX5_addSpring_52 : decode cX5_addSpring 52 = .ok (.iconst 1, 1) := by decide +kernel
theorem dX5_addSpring_53 : decode cX5_addSpring 53 = .ok (.iadd, 1) := by decide +kernel
theorem dX5_addSpring_54 : decode cX5_addSpring 54 = .ok (.putfield 42, 3) := by decide +kernel
theorem dX5_addSpring_57 : decode cX5_addSpring 57 = .ok (.aload_n 0, 1) := by decide +kernel
theorem dX5_addSpring_58 : decode cX5_addSpring 58 = .ok (.getfield 42, 3) := by decide +kernel
theorem dX5_addSpring_61 : decode cX5_addSpring 61 = .ok (.iconst 1, 1) := by decide +kernel
theorem dX5_addSpring_62 : decode cX5_addSpring 62 = .ok (.isub, 1) := by decide +kernel
theorem dX5_addSpring_63 : decode cX5_addSpring 63 = .ok (.ireturn, 1) := by decide +kernel
theorem dX5_wind_0 : decode cX5_wind 0 = .ok (.aload_n 0, 1) := by decide +kernel
theorem dX5_wind_1 : decode cX5_wind 1 = .ok (.iconst 0, 1) := by decide +kernel
theorem dX5_wind_2 : decode cX5_wind 2 = .ok (.putfield 38, 3) := by decide +kernel
theorem dX5_wind_5 : decode cX5_wind 5 = .ok (.aload_n 0, 1) := by decide +kernel
theorem dX5_wind_6 : decode cX5_wind 6 = .ok (.iload_n 1, 1) := by decide +kernel
theorem dX5_wind_7 : decode cX5_wind 7 = .ok (.invokevirtual 56, 3) := by decide +kernel
theorem dX5_wind_10 : decode cX5_wind 10 = .ok (.ifCond .ne 9, 3) := by decide +kernel
theorem dX5_wind_13 : decode cX5_wind 13 = .ok (.aload_n 0, 1) := by decide +kernel
theorem dX5_wind_14 : decode cX5_wind 14 = .ok (.iconst 1, 1) := by decide +kernel
theorem dX5_wind_15 : decode cX5_wind 15 = .ok (.invokevirtual 52, 3) := by decide +kernel
theorem dX5_wind_18 : decode cX5_wind 18 = .ok (.ireturn, 1) := by decide +kernel
theorem dX5_wind_19 : decode cX5_wind 19 = .ok (.iload_n 2, 1) := by decide +kernel
theorem dX5_wind_20 : decode cX5_wind 20 = .ok (.iconst 1, 1) := by decide +kernel
theorem dX5_wind_21 : decode cX5_wind 21 = .ok (.ldc 60, 2) := by decide +kernel
theorem dX5_wind_23 : decode cX5_wind 23 = .ok (.invokestatic 45, 3) := by decide +kernel
theorem dX5_wind_26 : decode cX5_wind 26 = .ok (.ifCond .ne 9, 3) := by decide +kernel
theorem dX5_wind_29 : decode cX5_wind 29 = .ok (.aload_n 0, 1) := by decide +kernel
theorem dX5_wind_30 : decode cX5_wind 30 = .ok (.iconst 2, 1) := by decide +kernel
theorem dX5_wind_31 : decode cX5_wind 31 = .ok (.invokevirtual 52, 3) := by decide +kernel
theorem dX5_wind_34 : decode cX5_wind 34 = .ok (.ireturn, 1) := by decide +kernel
theorem dX5_wind_35 : decode cX5_wind 35 = .ok (.iconst 5, 1) := by decide +kernel
theorem dX5_wind_36 : decode cX5_wind 36 = .ok (.iload_n 1, 1) := by decide +kernel
theorem dX5_wind_37 : decode cX5_wind 37 = .ok (.imul, 1) := by decide +kernel
theorem dX5_wind_38 : decode cX5_wind 38 = .ok (.iconst 1, 1) := by decide +kernel
theorem dX5_wind_39 : decode cX5_wind 39 = .ok (.iadd, 1) := by decide +kernel
theorem dX5_wind_40 : decode cX5_wind 40 = .ok (.istore_n 3, 1) := by decide +kernel
theorem dX5_wind_41 : decode cX5_wind 41 = .ok (.aload_n 0, 1) := by decide +kernel
theorem dX5_wind_42 : decode cX5_wind 42 = .ok (.getfield 9, 3) := by decide +kernel
theorem dX5_wind_45 : decode cX5_wind 45 = .ok (.iload_n 3, 1) := by decide +kernel
theorem dX5_wind_46 : decode cX5_wind 46 = .ok (.ldc 60, 2) := by decide +kernel
theorem dX5_wind_48 : decode cX5_wind 48 = .ok (.aload_n 0, 1) := by decide +kernel
theorem dX5_wind_49 : decode cX5_wind 49 = .ok (.getfield 9, 3) := by decide +kernel
theorem dX5_wind_52 : decode cX5_wind 52 = .ok (.iload_n 3, 1) := by decide +kernel
theorem dX5_wind_53 : decode cX5_wind 53 = .ok (.iaload, 1) := by decide +kernel
theorem dX5_wind_54 : decode cX5_wind 54 = .ok (.iload_n 2, 1) := by decide +kernel
theorem dX5_wind_55 : decode cX5_wind 55 = .ok (.iadd, 1) := by decide +kernel
theorem dX5_wind_56 : decode cX5_wind 56 = .ok (.invokestatic 61, 3) := by decide +kernel
theorem dX5_wind_59 : decode cX5_wind 59 = .ok (.iastore, 1) := by decide +kernel
theorem dX5_wind_60 : decode cX5_wind 60 = .ok (.aload_n 0, 1) := by decide +kernel
theorem dX5_wind_61 : decode cX5_wind 61 = .ok (.getfield 9, 3) := by decide +kernel
theorem dX5_wind_64 : decode cX5_wind 64 = .ok (.iload_n 3, 1) := by decide +kernel
theorem dX5_wind_65 : decode cX5_wind 65 = .ok (.iaload, 1) := by decide +kernel
theorem dX5_wind_66 : decode cX5_wind 66 = .ok (.ireturn, 1) := by decide +kernel
theorem dX5_brake_0 : decode cX5_brake 0 = .ok (.aload_n 0, 1) := by decide +kernel
theorem dX5_brake_1 : decode cX5_brake 1 = .ok (.aload_n 0, 1) := by decide +kernel
theorem dX5_brake_2 : decode cX5_brake 2 = .ok (.iload_n 1, 1) := by decide +kernel
theorem dX5_brake_3 : decode cX5_brake 3 = .ok (.invokevirtual 56, 3) := by decide +kernel
theorem dX5_brake_6 : decode cX5_brake 6 = .ok (.ifCond .eq 7, 3) := by decide +kernel
theorem dX5_brake_9 : decode cX5_brake 9 = .ok (.iconst 0, 1) := by decide +kernel
theorem dX5_brake_10 : decode cX5_brake 10 = .ok (.goto 4, 3) := by decide +kernel
theorem dX5_brake_13 : decode cX5_brake 13 = .ok (.iconst 1, 1) := by decide +kernel
theorem dX5_brake_14 : decode cX5_brake 14 = .ok (.putfield 38, 3) := by decide +kernel
theorem dX5_brake_17 : decode cX5_brake 17 = .ok (.aload_n 0, 1) := by decide +kernel
theorem dX5_brake_18 : decode cX5_brake 18 = .ok (.getfield 38, 3) := by decide +kernel
theorem dX5_brake_21 : decode cX5_brake 21 = .ok (.ifCond .eq 5, 3) := by decide +kernel
theorem dX5_brake_24 : decode cX5_brake 24 = .ok (.iconst 0, 1) := by decide +kernel
theorem dX5_brake_25 : decode cX5_brake 25 = .ok (.ireturn, 1) := by decide +kernel
theorem dX5_brake_26 : decode cX5_brake 26 = .ok (.aload_n 0, 1) := by decide +kernel
theorem dX5_brake_27 : decode cX5_brake 27 = .ok (.iload_n 1, 1) := by decide +kernel
theorem dX5_brake_28 : decode cX5_brake 28 = .ok (.iconst 4, 1) := by decide +kernel
theorem dX5_brake_29 : decode cX5_brake 29 = .ok (.invokevirtual 67, 3) := by decide +kernel
theorem dX5_brake_32 : decode cX5_brake 32 = .ok (.iconst 1, 1) := by decide +kernel
theorem dX5_brake_33 : decode cX5_brake 33 = .ok (.if_icmp .ne 7, 3) := by decide +kernel
theorem dX5_brake_36 : decode cX5_brake 36 = .ok (.iconst 1, 1) := by decide +kernel
theorem dX5_brake_37 : decode cX5_brake 37 = .ok (.goto 4, 3) := by decide +kernel
theorem dX5_brake_40 : decode cX5_brake 40 = .ok (.iconst 0, 1) := by decide +kernel
theorem dX5_brake_41 : decode cX5_brake 41 = .ok (.istore_n 3, 1) := by decide +kernel
theorem dX5_brake_42 : decode cX5_brake 42 = .ok (.aload_n 0, 1) := by decide +kernel
theorem dX5_brake_43 : decode cX5_brake 43 = .ok (.getfield 9, 3) := by decide +kernel
theorem dX5_brake_46 : decode cX5_brake 46 = .ok (.iconst 5, 1) := by decide +kernel
theorem dX5_brake_47 : decode cX5_brake 47 = .ok (.iload_n 1, 1) := by decide +kernel
theorem dX5_brake_48 : decode cX5_brake 48 = .ok (.imul, 1) := by decide +kernel
theorem dX5_brake_49 : decode cX5_brake 49 = .ok (.iconst 4, 1) := by decide +kernel
theorem dX5_brake_50 : decode cX5_brake 50 = .ok (.iadd, 1) := by decide +kernel
theorem dX5_brake_51 : decode cX5_brake 51 = .ok (.iload_n 2, 1) := by decide +kernel
theorem dX5_brake_52 : decode cX5_brake 52 = .ok (.ifCond .eq 7, 3) := by decide +kernel
theorem dX5_brake_55 : decode cX5_brake 55 = .ok (.iconst 1, 1) := by decide +kernel
theorem dX5_brake_56 : decode cX5_brake 56 = .ok (.goto 4, 3) := by decide +kernel
theorem dX5_brake_59 : decode cX5_brake 59 = .ok (.iconst 0, 1) := by decide +kernel
theorem dX5_brake_60 : decode cX5_brake 60 = .ok (.iastore, 1) := by decide +kernel
theorem dX5_brake_61 : decode cX5_brake 61 = .ok (.iload_n 3, 1) := by decide +kernel
theorem dX5_brake_62 : decode cX5_brake 62 = .ok (.ireturn, 1) := by decide +kernel
theorem dX5_pairs_0 : decode cX5_pairs 0 = .ok (.iconst 0, 1) := by decide +kernel
theorem dX5_pairs_1 : decode cX5_pairs 1 = .ok (.istore_n 1, 1) := by decide +kernel
theorem dX5_pairs_2 : decode cX5_pairs 2 = .ok (.iconst 0, 1) := by decide +kernel
theorem dX5_pairs_3 : decode cX5_pairs 3 = .ok (.istore_n 2, 1) := by decide +kernel
theorem dX5_pairs_4 : decode cX5_pairs 4 = .ok (.iload_n 2, 1) := by decide +kernel
theorem dX5_pairs_5 : decode cX5_pairs 5 = .ok (.bipush 16, 2) := by decide +kernel
theorem dX5_pairs_7 : decode cX5_pairs 7 = .ok (.if_icmp .ge 26, 3) := by decide +kernel
theorem dX5_pairs_10 : decode cX5_pairs 10 = .ok (.iload_n 1, 1) := by decide +kernel
theorem dX5_pairs_11 : decode cX5_pairs 11 = .ok (.aload_n 0, 1) := by decide +kernel
theorem dX5_pairs_12 : decode cX5_pairs 12 = .ok (.getfield 16, 3) := by decide +kernel
theorem dX5_pairs_15 : decode cX5_pairs 15 = .ok (.iload_n 2, 1) := by decide +kernel
theorem dX5_pairs_16 : decode cX5_pairs 16 = .ok (.baload, 1) := by decide +kernel
theorem dX5_pairs_17 : decode cX5_pairs 17 = .ok (.ifCond .eq 7, 3) := by decide +kernel
theorem dX5_pairs_20 : decode cX5_pairs 20 = .ok (.iconst 1, 1) := by decide +kernel
theorem dX5_pairs_21 : decode cX5_pairs 21 = .ok (.goto 4, 3) := by decide +kernel
theorem dX5_pairs_24 : decode cX5_pairs 24 = .ok (.iconst 0, 1) := by decide +kernel
theorem dX5_pairs_25 : decode cX5_pairs 25 = .ok (.iadd, 1) := by decide +kernel
theorem dX5_pairs_26 : decode cX5_pairs 26 = .ok (.istore_n 1, 1) := by decide +kernel
theorem dX5_pairs_27 : decode cX5_pairs 27 = .ok (.iinc 2 1, 3) := by decide +kernel
theorem dX5_pairs_30 : decode cX5_pairs 30 = .ok (.goto (-26), 3) := by decide +kernel
theorem dX5_pairs_33 : decode cX5_pairs 33 = .ok (.iload_n 1, 1) := by decide +kernel
theorem dX5_pairs_34 : decode cX5_pairs 34 = .ok (.ireturn, 1) := by decide +kernel
theorem dX5_couple_0 : decode cX5_couple 0 = .ok (.aload_n 0, 1) := by decide +kernel
theorem dX5_couple_1 : decode cX5_couple 1 = .ok (.iconst 0, 1) := by decide +kernel
theorem dX5_couple_2 : decode cX5_couple 2 = .ok (.putfield 38, 3) := by decide +kernel
theorem dX5_couple_5 : decode cX5_couple 5 = .ok (.aload_n 0, 1) := by decide +kernel
theorem dX5_couple_6 : decode cX5_couple 6 = .ok (.iload_n 1, 1) := by decide +kernel
theorem dX5_couple_7 : decode cX5_couple 7 = .ok (.invokevirtual 56, 3) := by decide +kernel
theorem dX5_couple_10 : decode cX5_couple 10 = .ok (.ifCond .eq 11, 3) := by decide +kernel
theorem dX5_couple_13 : decode cX5_couple 13 = .ok (.aload_n 0, 1) := by decide +kernel
theorem dX5_couple_14 : decode cX5_couple 14 = .ok (.iload_n 2, 1) := by decide +kernel
theorem dX5_couple_15 : decode cX5_couple 15 = .ok (.invokevirtual 56, 3) := by decide +kernel
theorem dX5_couple_18 : decode cX5_couple 18 = .ok (.ifCond .ne 9, 3) := by decide +kernel
theorem dX5_couple_21 : decode cX5_couple 21 = .ok (.aload_n 0, 1) := by decide +kernel
theorem dX5_couple_22 : decode cX5_couple 22 = .ok (.iconst 1, 1) := by decide +kernel
theorem dX5_couple_23 : decode cX5_couple 23 = .ok (.invokevirtual 52, 3) := by decide +kernel
theorem dX5_couple_26 : decode cX5_couple 26 = .ok (.ireturn, 1) := by decide +kernel
theorem dX5_couple_27 : decode cX5_couple 27 = .ok (.iload_n 1, 1) := by decide +kernel
theorem dX5_couple_28 : decode cX5_couple 28 = .ok (.iload_n 2, 1) := by decide +kernel
theorem dX5_couple_29 : decode cX5_couple 29 = .ok (.if_icmp .ne 9, 3) := by decide +kernel
theorem dX5_couple_32 : decode cX5_couple 32 = .ok (.aload_n 0, 1) := by decide +kernel
theorem dX5_couple_33 : decode cX5_couple 33 = .ok (.iconst 2, 1) := by decide +kernel
theorem dX5_couple_34 : decode cX5_couple 34 = .ok (.invokevirtual 52, 3) := by decide +kernel
theorem dX5_couple_37 : decode cX5_couple 37 = .ok (.ireturn, 1) := by decide +kernel
theorem dX5_couple_38 : decode cX5_couple 38 = .ok (.aload_n 0, 1) := by decide +kernel
theorem dX5_couple_39 : decode cX5_couple 39 = .ok (.getfield 16, 3) := by decide +kernel
theorem dX5_couple_42 : decode cX5_couple 42 = .ok (.iconst 4, 1) := by decide +kernel
theorem dX5_couple_43 : decode cX5_couple 43 = .ok (.iload_n 1, 1) := by decide +kernel
theorem dX5_couple_44 : decode cX5_couple 44 = .ok (.iload_n 2, 1) := by decide +kernel
theorem dX5_couple_45 : decode cX5_couple 45 = .ok (.invokestatic 61, 3) := by decide +kernel
theorem dX5_couple_48 : decode cX5_couple 48 = .ok (.imul, 1) := by decide +kernel
theorem dX5_couple_49 : decode cX5_couple 49 = .ok (.iload_n 1, 1) := by decide +kernel
theorem dX5_couple_50 : decode cX5_couple 50 = .ok (.iload_n 2, 1) := by decide +kernel
theorem dX5_couple_51 : decode cX5_couple 51 = .ok (.invokestatic 70, 3) := by decide +kernel
theorem dX5_couple_54 : decode cX5_couple 54 = .ok (.iadd, 1) := by decide +kernel
theorem dX5_couple_55 : decode cX5_couple 55 = .ok (.iload_n 3, 1) := by decide +kernel
theorem dX5_couple_56 : decode cX5_couple 56 = .ok (.bastore, 1) := by decide +kernel
theorem dX5_couple_57 : decode cX5_couple 57 = .ok (.aload_n 0, 1) := by decide +kernel
theorem dX5_couple_58 : decode cX5_couple 58 = .ok (.invokevirtual 73, 3) := by decide +kernel
theorem dX5_couple_61 : decode cX5_couple 61 = .ok (.ireturn, 1) := by decide +kernel
theorem dX5_load_0 : decode cX5_load 0 = .ok (.bipush 10, 2) := by decide +kernel
theorem dX5_load_2 : decode cX5_load 2 = .ok (.istore_n 2, 1) := by decide +kernel
theorem dX5_load_3 : decode cX5_load 3 = .ok (.iconst 0, 1) := by decide +kernel
theorem dX5_load_4 : decode cX5_load 4 = .ok (.istore_n 3, 1) := by decide +kernel
theorem dX5_load_5 : decode cX5_load 5 = .ok (.iload_n 3, 1) := by decide +kernel
theorem dX5_load_6 : decode cX5_load 6 = .ok (.aload_n 0, 1) := by decide +kernel
theorem dX5_load_7 : decode cX5_load 7 = .ok (.getfield 49, 3) := by decide +kernel
theorem dX5_load_10 : decode cX5_load 10 = .ok (.if_icmp .ge 82, 3) := by decide +kernel
theorem dX5_load_13 : decode cX5_load 13 = .ok (.aload_n 0, 1) := by decide +kernel
theorem dX5_load_14 : decode cX5_load 14 = .ok (.iload_n 3, 1) := by decide +kernel
theorem dX5_load_15 : decode cX5_load 15 = .ok (.iconst 0, 1) := by decide +kernel
theorem dX5_load_16 : decode cX5_load 16 = .ok (.invokevirtual 77, 3) := by decide +kernel
theorem dX5_load_19 : decode cX5_load 19 = .ok (.iload_n 1, 1) := by decide +kernel
theorem dX5_load_20 : decode cX5_load 20 = .ok (.if_icmp .ne 66, 3) := by decide +kernel
theorem dX5_load_23 : decode cX5_load 23 = .ok (.aload_n 0, 1) := by decide +kernel
theorem dX5_load_24 : decode cX5_load 24 = .ok (.iload_n 3, 1) := by decide +kernel
theorem dX5_load_25 : decode cX5_load 25 = .ok (.bipush 6, 2) := by decide +kernel
theorem dX5_load_27 : decode cX5_load 27 = .ok (.invokevirtual 77, 3) := by decide +kernel
theorem dX5_load_30 : decode cX5_load 30 = .ok (.ifCond .ne 6, 3) := by decide +kernel
theorem dX5_load_33 : decode cX5_load 33 = .ok (.goto 53, 3) := by decide +kernel
theorem dX5_load_36 : decode cX5_load 36 = .ok (.iconst 0, 1) := by decide +kernel
theorem dX5_load_37 : decode cX5_load 37 = .ok (.istore 4, 2) := by decide +kernel
theorem dX5_load_39 : decode cX5_load 39 = .ok (.iconst 0, 1) := by decide +kernel
theorem dX5_load_40 : decode cX5_load 40 = .ok (.istore 5, 2) := by decide +kernel
theorem dX5_load_42 : decode cX5_load 42 = .ok (.iload 5, 2) := by decide +kernel
theorem dX5_load_44 : decode cX5_load 44 = .ok (.iconst 3, 1) := by decide +kernel
theorem dX5_load_45 : decode cX5_load 45 = .ok (.if_icmp .ge 27, 3) := by decide +kernel
theorem dX5_load_48 : decode cX5_load 48 = .ok (.iload 4, 2) := by decide +kernel
theorem dX5_load_50 : decode cX5_load 50 = .ok (.aload_n 0, 1) := by decide +kernel
theorem dX5_load_51 : decode cX5_load 51 = .ok (.iload_n 3, 1) := by decide +kernel
theorem dX5_load_52 : decode cX5_load 52 = .ok (.iload 5, 2) := by decide +kernel
theorem dX5_load_54 : decode cX5_load 54 = .ok (.aload_n 0, 1) := by decide +kernel
theorem dX5_load_55 : decode cX5_load 55 = .ok (.iload_n 3, 1) := by decide +kernel
theorem dX5_load_56 : decode cX5_load 56 = .ok (.iconst 5, 1) := by decide +kernel
theorem dX5_load_57 : decode cX5_load 57 = .ok (.invokevirtual 77, 3) := by decide +kernel
theorem dX5_load_60 : decode cX5_load 60 = .ok (.invokevirtual 80, 3) := by decide +kernel
theorem dX5_load_63 : decode cX5_load 63 = .ok (.iadd, 1) := by decide +kernel
theorem dX5_load_64 : decode cX5_load 64 = .ok (.istore 4, 2) := by decide +kernel
theorem dX5_load_66 : decode cX5_load 66 = .ok (.iinc 5 1, 3) := by decide +kernel
theorem dX5_load_69 : decode cX5_load 69 = .ok (.goto (-27), 3) := by decide +kernel
theorem dX5_load_72 : decode cX5_load 72 = .ok (.iload_n 2, 1) := by decide +kernel
theorem dX5_load_73 : decode cX5_load 73 = .ok (.aload_n 0, 1) := by decide +kernel
theorem dX5_load_74 : decode cX5_load 74 = .ok (.iload_n 3, 1) := by decide +kernel
theorem dX5_load_75 : decode cX5_load 75 = .ok (.iconst 1, 1) := by decide +kernel
theorem dX5_load_76 : decode cX5_load 76 = .ok (.invokevirtual 77, 3) := by decide +kernel
theorem dX5_load_79 : decode cX5_load 79 = .ok (.iload 4, 2) := by decide +kernel
theorem dX5_load_81 : decode cX5_load 81 = .ok (.iconst 5, 1) := by decide +kernel
theorem dX5_load_82 : decode cX5_load 82 = .ok (.idiv, 1) := by decide +kernel
theorem dX5_load_83 : decode cX5_load 83 = .ok (.iadd, 1) := by decide +kernel
theorem dX5_load_84 : decode cX5_load 84 = .ok (.iadd, 1) := by decide +kernel
theorem dX5_load_85 : decode cX5_load 85 = .ok (.istore_n 2, 1) := by decide +kernel
theorem dX5_load_86 : decode cX5_load 86 = .ok (.iinc 3 1, 3) := by decide +kernel
theorem dX5_load_89 : decode cX5_load 89 = .ok (.goto (-84), 3) := by decide +kernel
theorem dX5_load_92 : decode cX5_load 92 = .ok (.iload_n 2, 1) := by decide +kernel
theorem dX5_load_93 : decode cX5_load 93 = .ok (.ireturn, 1) := by decide +kernel
theorem dX5_springTold_0 : decode cX5_springTold 0 = .ok (.iload_n 2, 1) := by decide +kernel
theorem dX5_springTold_1 : decode cX5_springTold 1 = .ok (.iconst 5, 1) := by decide +kernel
theorem dX5_springTold_2 : decode cX5_springTold 2 = .ok (.if_icmp .ge 10, 3) := by decide +kernel
theorem dX5_springTold_5 : decode cX5_springTold 5 = .ok (.aload_n 0, 1) := by decide +kernel
theorem dX5_springTold_6 : decode cX5_springTold 6 = .ok (.iload_n 1, 1) := by decide +kernel
theorem dX5_springTold_7 : decode cX5_springTold 7 = .ok (.iload_n 2, 1) := by decide +kernel
theorem dX5_springTold_8 : decode cX5_springTold 8 = .ok (.invokevirtual 67, 3) := by decide +kernel
theorem dX5_springTold_11 : decode cX5_springTold 11 = .ok (.ireturn, 1) := by decide +kernel
theorem dX5_springTold_12 : decode cX5_springTold 12 = .ok (.iload_n 2, 1) := by decide +kernel
theorem dX5_springTold_13 : decode cX5_springTold 13 = .ok (.bipush 6, 2) := by decide +kernel
theorem dX5_springTold_15 : decode cX5_springTold 15 = .ok (.if_icmp .ne 9, 3) := by decide +kernel
theorem dX5_springTold_18 : decode cX5_springTold 18 = .ok (.aload_n 0, 1) := by decide +kernel
theorem dX5_springTold_19 : decode cX5_springTold 19 = .ok (.iload_n 1, 1) := by decide +kernel
theorem dX5_springTold_20 : decode cX5_springTold 20 = .ok (.invokevirtual 84, 3) := by decide +kernel
theorem dX5_springTold_23 : decode cX5_springTold 23 = .ok (.ireturn, 1) := by decide +kernel
theorem dX5_springTold_24 : decode cX5_springTold 24 = .ok (.iconst 0, 1) := by decide +kernel
theorem dX5_springTold_25 : decode cX5_springTold 25 = .ok (.istore_n 3, 1) := by decide +kernel
theorem dX5_springTold_26 : decode cX5_springTold 26 = .ok (.iconst 0, 1) := by decide +kernel
theorem dX5_springTold_27 : decode cX5_springTold 27 = .ok (.istore 4, 2) := by decide +kernel
theorem dX5_springTold_29 : decode cX5_springTold 29 = .ok (.iload 4, 2) := by decide +kernel
theorem dX5_springTold_31 : decode cX5_springTold 31 = .ok (.aload_n 0, 1) := by decide +kernel
theorem dX5_springTold_32 : decode cX5_springTold 32 = .ok (.getfield 49, 3) := by decide +kernel
theorem dX5_springTold_35 : decode cX5_springTold 35 = .ok (.if_icmp .ge 35, 3) := by decide +kernel
theorem dX5_springTold_38 : decode cX5_springTold 38 = .ok (.iload_n 3, 1) := by decide +kernel
theorem dX5_springTold_39 : decode cX5_springTold 39 = .ok (.aload_n 0, 1) := by decide +kernel
theorem dX5_springTold_40 : decode cX5_springTold 40 = .ok (.iload 4, 2) := by decide +kernel
theorem dX5_springTold_42 : decode cX5_springTold 42 = .ok (.iconst 0, 1) := by decide +kernel
theorem dX5_springTold_43 : decode cX5_springTold 43 = .ok (.invokevirtual 77, 3) := by decide +kernel
theorem dX5_springTold_46 : decode cX5_springTold 46 = .ok (.iload_n 1, 1) := by decide +kernel
theorem dX5_springTold_47 : decode cX5_springTold 47 = .ok (.if_icmp .ne 14, 3) := by decide +kernel
theorem dX5_springTold_50 : decode cX5_springTold 50 = .ok (.aload_n 0, 1) := by decide +kernel
theorem dX5_springTold_51 : decode cX5_springTold 51 = .ok (.iload 4, 2) := by decide +kernel
theorem dX5_springTold_53 : decode cX5_springTold 53 = .ok (.bipush 6, 2) := by decide +kernel
theorem dX5_springTold_55 : decode cX5_springTold 55 = .ok (.invokevirtual 77, 3) := by decide +kernel
theorem dX5_springTold_58 : decode cX5_springTold 58 = .ok (.goto 4, 3) := by decide +kernel
theorem dX5_springTold_61 : decode cX5_springTold 61 = .ok (.iconst 0, 1) := by decide +kernel
theorem dX5_springTold_62 : decode cX5_springTold 62 = .ok (.iadd, 1) := by decide +kernel
theorem dX5_springTold_63 : decode cX5_springTold 63 = .ok (.istore_n 3, 1) := by decide +kernel
theorem dX5_springTold_64 : decode cX5_springTold 64 = .ok (.iinc 4 1, 3) := by decide +kernel
theorem dX5_springTold_67 : decode cX5_springTold 67 = .ok (.goto (-38), 3) := by decide +kernel
theorem dX5_springTold_70 : decode cX5_springTold 70 = .ok (.iload_n 3, 1) := by decide +kernel
theorem dX5_springTold_71 : decode cX5_springTold 71 = .ok (.ireturn, 1) := by decide +kernel
theorem dX5_spring_0 : decode cX5_spring 0 = .ok (.aload_n 0, 1) := by decide +kernel
theorem dX5_spring_1 : decode cX5_spring 1 = .ok (.iconst 0, 1) := by decide +kernel
theorem dX5_spring_2 : decode cX5_spring 2 = .ok (.putfield 38, 3) := by decide +kernel
theorem dX5_spring_5 : decode cX5_spring 5 = .ok (.aload_n 0, 1) := by decide +kernel
theorem dX5_spring_6 : decode cX5_spring 6 = .ok (.iload_n 1, 1) := by decide +kernel
theorem dX5_spring_7 : decode cX5_spring 7 = .ok (.invokevirtual 56, 3) := by decide +kernel
theorem dX5_spring_10 : decode cX5_spring 10 = .ok (.ifCond .eq 22, 3) := by decide +kernel
theorem dX5_spring_13 : decode cX5_spring 13 = .ok (.iload_n 2, 1) := by decide +kernel
theorem dX5_spring_14 : decode cX5_spring 14 = .ok (.iconst 0, 1) := by decide +kernel
theorem dX5_spring_15 : decode cX5_spring 15 = .ok (.bipush 6, 2) := by decide +kernel
theorem dX5_spring_17 : decode cX5_spring 17 = .ok (.invokestatic 45, 3) := by decide +kernel
theorem dX5_spring_20 : decode cX5_spring 20 = .ok (.ifCond .eq 12, 3) := by decide +kernel
theorem dX5_spring_23 : decode cX5_spring 23 = .ok (.aload_n 0, 1) := by decide +kernel
theorem dX5_spring_24 : decode cX5_spring 24 = .ok (.iload_n 1, 1) := by decide +kernel
theorem dX5_spring_25 : decode cX5_spring 25 = .ok (.iload_n 2, 1) := by decide +kernel
theorem dX5_spring_26 : decode cX5_spring 26 = .ok (.invokevirtual 87, 3) := by decide +kernel
theorem dX5_spring_29 : decode cX5_spring 29 = .ok (.goto 8, 3) := by decide +kernel
theorem dX5_spring_32 : decode cX5_spring 32 = .ok (.aload_n 0, 1) := by decide +kernel
theorem dX5_spring_33 : decode cX5_spring 33 = .ok (.iconst 1, 1) := by decide +kernel
theorem dX5_spring_34 : decode cX5_spring 34 = .ok (.invokevirtual 52, 3) := by decide +kernel
theorem dX5_spring_37 : decode cX5_spring 37 = .ok (.ireturn, 1) := by decide +kernel
theorem dX5_addBird_0 : decode cX5_addBird 0 = .ok (.aload_n 0, 1) := by decide +kernel
theorem dX5_addBird_1 : decode cX5_addBird 1 = .ok (.iconst 0, 1) := by decide +kernel
theorem dX5_addBird_2 : decode cX5_addBird 2 = .ok (.putfield 38, 3) := by decide +kernel
theorem dX5_addBird_5 : decode cX5_addBird 5 = .ok (.aload_n 0, 1) := by decide +kernel
theorem dX5_addBird_6 : decode cX5_addBird 6 = .ok (.iload_n 1, 1) := by decide +kernel
theorem dX5_addBird_7 : decode cX5_addBird 7 = .ok (.invokevirtual 56, 3) := by decide +kernel
theorem dX5_addBird_10 : decode cX5_addBird 10 = .ok (.ifCond .ne 9, 3) := by decide +kernel
theorem dX5_addBird_13 : decode cX5_addBird 13 = .ok (.aload_n 0, 1) := by decide +kernel
theorem dX5_addBird_14 : decode cX5_addBird 14 = .ok (.iconst 1, 1) := by decide +kernel
theorem dX5_addBird_15 : decode cX5_addBird 15 = .ok (.invokevirtual 52, 3) := by decide +kernel
theorem dX5_addBird_18 : decode cX5_addBird 18 = .ok (.ireturn, 1) := by decide +kernel
theorem dX5_addBird_19 : decode cX5_addBird 19 = .ok (.iload_n 2, 1) := by decide +kernel
theorem dX5_addBird_20 : decode cX5_addBird 20 = .ok (.iconst 0, 1) := by decide +kernel
theorem dX5_addBird_21 : decode cX5_addBird 21 = .ok (.bipush 20, 2) := by decide +kernel
theorem dX5_addBird_23 : decode cX5_addBird 23 = .ok (.invokestatic 45, 3) := by decide +kernel
theorem dX5_addBird_26 : decode cX5_addBird 26 = .ok (.ifCond .eq 36, 3) := by decide +kernel
theorem dX5_addBird_29 : decode cX5_addBird 29 = .ok (.iload_n 3, 1) := by decide +kernel
theorem dX5_addBird_30 : decode cX5_addBird 30 = .ok (.bipush 8, 2) := by decide +kernel
theorem dX5_addBird_32 : decode cX5_addBird 32 = .ok (.bipush 96, 2) := by decide +kernel
theorem dX5_addBird_34 : decode cX5_addBird 34 = .ok (.invokestatic 45, 3) := by decide +kernel
theorem dX5_addBird_37 : decode cX5_addBird 37 = .ok (.ifCond .eq 25, 3) := by decide +kernel
theorem dX5_addBird_40 : decode cX5_addBird 40 = .ok (.iload 4, 2) := by decide +kernel
theorem dX5_addBird_42 : decode cX5_addBird 42 = .ok (.iconst 1, 1) := by decide +kernel
theorem dX5_addBird_43 : decode cX5_addBird 43 = .ok (.bipush 12, 2) := by decide +kernel
theorem dX5_addBird_45 : decode cX5_addBird 45 = .ok (.invokestatic 45, 3) := by decide +kernel
theorem dX5_addBird_48 : decode cX5_addBird 48 = .ok (.ifCond .eq 14, 3) := by decide +kernel
theorem dX5_addBird_51 : decode cX5_addBird 51 = .ok (.iload 5, 2) := by decide +kernel
theorem dX5_addBird_53 : decode cX5_addBird 53 = .ok (.iconst 1, 1) := by decide +kernel
theorem dX5_addBird_54 : decode cX5_addBird 54 = .ok (.bipush 12, 2) := by decide +kernel
theorem dX5_addBird_56 : decode cX5_addBird 56 = .ok (.invokestatic 45, 3) := by decide +kernel
theorem dX5_addBird_59 : decode cX5_addBird 59 = .ok (.ifCond .ne 9, 3) := by decide +kernel
theorem dX5_addBird_62 : decode cX5_addBird 62 = .ok (.aload_n 0, 1) := by decide +kernel
theorem dX5_addBird_63 : decode cX5_addBird 63 = .ok (.iconst 2, 1) := by decide +kernel
theorem dX5_addBird_64 : decode cX5_addBird 64 = .ok (.invokevirtual 52, 3) := by decide +kernel
theorem dX5_addBird_67 : decode cX5_addBird 67 = .ok (.ireturn, 1) := by decide +kernel
theorem dX5_addBird_68 : decode cX5_addBird 68 = .ok (.aload_n 0, 1) := by decide +kernel
theorem dX5_addBird_69 : decode cX5_addBird 69 = .ok (.getfield 49, 3) := by decide +kernel
theorem dX5_addBird_72 : decode cX5_addBird 72 = .ok (.bipush 8, 2) := by decide +kernel
theorem dX5_addBird_74 : decode cX5_addBird 74 = .ok (.if_icmp .ne 9, 3) := by decide +kernel
theorem dX5_addBird_77 : decode cX5_addBird 77 = .ok (.aload_n 0, 1) := by decide +kernel
theorem dX5_addBird_78 : decode cX5_addBird 78 = .ok (.iconst 3, 1) := by decide +kernel
theorem dX5_addBird_79 : decode cX5_addBird 79 = .ok (.invokevirtual 52, 3) := by decide +kernel
theorem dX5_addBird_82 : decode cX5_addBird 82 = .ok (.ireturn, 1) := by decide +kernel
theorem dX5_addBird_83 : decode cX5_addBird 83 = .ok (.bipush 11, 2) := by decide +kernel
theorem dX5_addBird_85 : decode cX5_addBird 85 = .ok (.newarray .int, 2) := by decide +kernel
theorem dX5_addBird_87 : decode cX5_addBird 87 = .ok (.dup, 1) := by decide +kernel
theorem dX5_addBird_88 : decode cX5_addBird 88 = .ok (.iconst 0, 1) := by decide +kernel
theorem dX5_addBird_89 : decode cX5_addBird 89 = .ok (.iload_n 1, 1) := by decide +kernel
theorem dX5_addBird_90 : decode cX5_addBird 90 = .ok (.iastore, 1) := by decide +kernel
theorem dX5_addBird_91 : decode cX5_addBird 91 = .ok (.dup, 1) := by decide +kernel
theorem dX5_addBird_92 : decode cX5_addBird 92 = .ok (.iconst 1, 1) := by decide +kernel
theorem dX5_addBird_93 : decode cX5_addBird 93 = .ok (.iload_n 2, 1) := by decide +kernel
theorem dX5_addBird_94 : decode cX5_addBird 94 = .ok (.iastore, 1) := by decide +kernel
theorem dX5_addBird_95 : decode cX5_addBird 95 = .ok (.dup, 1) := by decide +kernel
theorem dX5_addBird_96 : decode cX5_addBird 96 = .ok (.iconst 2, 1) := by decide +kernel
theorem dX5_addBird_97 : decode cX5_addBird 97 = .ok (.iload_n 3, 1) := by decide +kernel
theorem dX5_addBird_98 : decode cX5_addBird 98 = .ok (.iastore, 1) := by decide +kernel
theorem dX5_addBird_99 : decode cX5_addBird 99 = .ok (.dup, 1) := by decide +kernel
theorem dX5_addBird_100 : decode cX5_addBird 100 = .ok (.iconst 3, 1) := by decide +kernel
theorem dX5_addBird_101 : decode cX5_addBird 101 = .ok (.iload 4, 2) := by decide +kernel
theorem dX5_addBird_103 : decode cX5_addBird 103 = .ok (.iastore, 1) := by decide +kernel
theorem dX5_addBird_104 : decode cX5_addBird 104 = .ok (.dup, 1) := by decide +kernel
theorem dX5_addBird_105 : decode cX5_addBird 105 = .ok (.iconst 4, 1) := by decide +kernel
theorem dX5_addBird_106 : decode cX5_addBird 106 = .ok (.iload 5, 2) := by decide +kernel
theorem dX5_addBird_108 : decode cX5_addBird 108 = .ok (.iastore, 1) := by decide +kernel
theorem dX5_addBird_109 : decode cX5_addBird 109 = .ok (.dup, 1) := by decide +kernel
theorem dX5_addBird_110 : decode cX5_addBird 110 = .ok (.iconst 5, 1) := by decide +kernel
theorem dX5_addBird_111 : decode cX5_addBird 111 = .ok (.iconst 0, 1) := by decide +kernel
theorem dX5_addBird_112 : decode cX5_addBird 112 = .ok (.iastore, 1) := by decide +kernel
theorem dX5_addBird_113 : decode cX5_addBird 113 = .ok (.dup, 1) := by decide +kernel
theorem dX5_addBird_114 : decode cX5_addBird 114 = .ok (.bipush 6, 2) := by decide +kernel
theorem dX5_addBird_116 : decode cX5_addBird 116 = .ok (.iconst 1, 1) := by decide +kernel
theorem dX5_addBird_117 : decode cX5_addBird 117 = .ok (.iastore, 1) := by decide +kernel
theorem dX5_addBird_118 : decode cX5_addBird 118 = .ok (.dup, 1) := by decide +kernel
theorem dX5_addBird_119 : decode cX5_addBird 119 = .ok (.bipush 7, 2) := by decide +kernel
theorem dX5_addBird_121 : decode cX5_addBird 121 = .ok (.iconst 0, 1) := by decide +kernel
theorem dX5_addBird_122 : decode cX5_addBird 122 = .ok (.iastore, 1) := by decide +kernel
theorem dX5_addBird_123 : decode cX5_addBird 123 = .ok (.dup, 1) := by decide +kernel
theorem dX5_addBird_124 : decode cX5_addBird 124 = .ok (.bipush 8, 2) := by decide +kernel
theorem dX5_addBird_126 : decode cX5_addBird 126 = .ok (.iconst 0, 1) := by decide +kernel
theorem dX5_addBird_127 : decode cX5_addBird 127 = .ok (.iastore, 1) := by decide +kernel
theorem dX5_addBird_128 : decode cX5_addBird 128 = .ok (.dup, 1) := by decide +kernel
theorem dX5_addBird_129 : decode cX5_addBird 129 = .ok (.bipush 9, 2) := by decide +kernel
theorem dX5_addBird_131 : decode cX5_addBird 131 = .ok (.iconst 0, 1) := by decide +kernel
theorem dX5_addBird_132 : decode cX5_addBird 132 = .ok (.iastore, 1) := by decide +kernel
theorem dX5_addBird_133 : decode cX5_addBird 133 = .ok (.dup, 1) := by decide +kernel
theorem dX5_addBird_134 : decode cX5_addBird 134 = .ok (.bipush 10, 2) := by decide +kernel
theorem dX5_addBird_136 : decode cX5_addBird 136 = .ok (.aload_n 0, 1) := by decide +kernel
theorem dX5_addBird_137 : decode cX5_addBird 137 = .ok (.iload_n 1, 1) := by decide +kernel
theorem dX5_addBird_138 : decode cX5_addBird 138 = .ok (.iconst 2, 1) := by decide +kernel
theorem dX5_addBird_139 : decode cX5_addBird 139 = .ok (.invokevirtual 67, 3) := by decide +kernel
theorem dX5_addBird_142 : decode cX5_addBird 142 = .ok (.iastore, 1) := by decide +kernel
theorem dX5_addBird_143 : decode cX5_addBird 143 = .ok (.astore 6, 2) := by decide +kernel
theorem dX5_addBird_145 : decode cX5_addBird 145 = .ok (.aload 6, 2) := by decide +kernel
theorem dX5_addBird_147 : decode cX5_addBird 147 = .ok (.iconst 0, 1) := by decide +kernel
theorem dX5_addBird_148 : decode cX5_addBird 148 = .ok (.aload_n 0, 1) := by decide +kernel
theorem dX5_addBird_149 : decode cX5_addBird 149 = .ok (.getfield 13, 3) := by decide +kernel
theorem dX5_addBird_152 : decode cX5_addBird 152 = .ok (.bipush 11, 2) := by decide +kernel
theorem dX5_addBird_154 : decode cX5_addBird 154 = .ok (.aload_n 0, 1) := by decide +kernel
theorem dX5_addBird_155 : decode cX5_addBird 155 = .ok (.getfield 49, 3) := by decide +kernel
theorem dX5_addBird_158 : decode cX5_addBird 158 = .ok (.imul, 1) := by decide +kernel
theorem dX5_addBird_159 : decode cX5_addBird 159 = .ok (.bipush 11, 2) := by decide +kernel
theorem dX5_addBird_161 : decode cX5_addBird 161 = .ok (.invokestatic 90, 3) := by decide +kernel
theorem dX5_addBird_164 : decode cX5_addBird 164 = .ok (.iconst 0, 1) := by decide +kernel
theorem dX5_addBird_165 : decode cX5_addBird 165 = .ok (.istore 7, 2) := by decide +kernel
theorem dX5_addBird_167 : decode cX5_addBird 167 = .ok (.iload 7, 2) := by decide +kernel
theorem dX5_addBird_169 : decode cX5_addBird 169 = .ok (.bipush 6, 2) := by decide +kernel
theorem dX5_addBird_171 : decode cX5_addBird 171 = .ok (.if_icmp .ge 31, 3) := by decide +kernel
theorem dX5_addBird_174 : decode cX5_addBird 174 = .ok (.aload_n 0, 1) := by decide +kernel
theorem dX5_addBird_175 : decode cX5_addBird 175 = .ok (.getfield 23, 3) := by decide +kernel
theorem dX5_addBird_178 : decode cX5_addBird 178 = .ok (.bipush 6, 2) := by decide +kernel
theorem dX5_addBird_180 : decode cX5_addBird 180 = .ok (.aload_n 0, 1) := by decide +kernel
theorem dX5_addBird_181 : decode cX5_addBird 181 = .ok (.getfield 49, 3) := by decide +kernel
theorem dX5_addBird_184 : decode cX5_addBird 184 = .ok (.imul, 1) := by decide +kernel
theorem dX5_addBird_185 : decode cX5_addBird 185 = .ok (.iload 7, 2) := by decide +kernel
theorem dX5_addBird_187 : decode cX5_addBird 187 = .ok (.iadd, 1) := by decide +kernel
theorem dX5_addBird_188 : decode cX5_addBird 188 = .ok (.bipush 60, 2) := by decide +kernel
theorem dX5_addBird_190 : decode cX5_addBird 190 = .ok (.iconst 2, 1) := by decide +kernel
theorem dX5_addBird_191 : decode cX5_addBird 191 = .ok (.iload 7, 2) := by decide +kernel
theorem dX5_addBird_193 : decode cX5_addBird 193 = .ok (.imul, 1) := by decide +kernel
theorem dX5_addBird_194 : decode cX5_addBird 194 = .ok (.iadd, 1) := by decide +kernel
theorem dX5_addBird_195 : decode cX5_addBird 195 = .ok (.iastore, 1) := by decide +kernel
theorem dX5_addBird_196 : decode cX5_addBird 196 = .ok (.iinc 7 1, 3) := by decide +kernel
theorem dX5_addBird_199 : decode cX5_addBird 199 = .ok (.goto (-32), 3) := by decide +kernel
theorem dX5_addBird_202 : decode cX5_addBird 202 = .ok (.iconst 0, 1) := by decide +kernel
theorem dX5_addBird_203 : decode cX5_addBird 203 = .ok (.istore 7, 2) := by decide +kernel
theorem dX5_addBird_205 : decode cX5_addBird 205 = .ok (.iload 7, 2) := by decide +kernel
theorem dX5_addBird_207 : decode cX5_addBird 207 = .ok (.sipush 288, 3) := by decide +kernel
theorem dX5_addBird_210 : decode cX5_addBird 210 = .ok (.if_icmp .ge 26, 3) := by decide +kernel
theorem dX5_addBird_213 : decode cX5_addBird 213 = .ok (.aload_n 0, 1) := by decide +kernel
theorem dX5_addBird_214 : decode cX5_addBird 214 = .ok (.getfield 26, 3) := by decide +kernel
theorem dX5_addBird_217 : decode cX5_addBird 217 = .ok (.sipush 288, 3) := by decide +kernel
theorem dX5_addBird_220 : decode cX5_addBird 220 = .ok (.aload_n 0, 1) := by decide +kernel
theorem dX5_addBird_221 : decode cX5_addBird 221 = .ok (.getfield 49, 3) := by decide +kernel
theorem dX5_addBird_224 : decode cX5_addBird 224 = .ok (.imul, 1) := by decide +kernel
theorem dX5_addBird_225 : decode cX5_addBird 225 = .ok (.iload 7, 2) := by decide +kernel
theorem dX5_addBird_227 : decode cX5_addBird 227 = .ok (.iadd, 1) := by decide +kernel
theorem dX5_addBird_228 : decode cX5_addBird 228 = .ok (.iconst (-1), 1) := by decide +kernel
theorem dX5_addBird_229 : decode cX5_addBird 229 = .ok (.iastore, 1) := by decide +kernel
theorem dX5_addBird_230 : decode cX5_addBird 230 = .ok (.iinc 7 1, 3) := by decide +kernel
theorem dX5_addBird_233 : decode cX5_addBird 233 = .ok (.goto (-28), 3) := by decide +kernel
theorem dX5_addBird_236 : decode cX5_addBird 236 = .ok (.aload_n 0, 1) := by decide +kernel
theorem dX5_addBird_237 : decode cX5_addBird 237 = .ok (.dup, 1) := by decide +kernel
theorem dX5_addBird_238 : decode cX5_addBird 238 = .ok (.getfield 49, 3) := by decide +kernel
theorem dX5_addBird_241 : decode cX5_addBird 241 = .ok (.iconst 1, 1) := by decide +kernel
theorem dX5_addBird_242 : decode cX5_addBird 242 = .ok (.iadd, 1) := by decide +kernel
theorem dX5_addBird_243 : decode cX5_addBird 243 = .ok (.putfield 49, 3) := by decide +kernel
theorem dX5_addBird_246 : decode cX5_addBird 246 = .ok (.aload_n 0, 1) := by decide +kernel
theorem dX5_addBird_247 : decode cX5_addBird 247 = .ok (.getfield 49, 3) := by decide +kernel
theorem dX5_addBird_250 : decode cX5_addBird 250 = .ok (.iconst 1, 1) := by decide +kernel
theorem dX5_addBird_251 : decode cX5_addBird 251 = .ok (.isub, 1) := by decide +kernel
theorem dX5_addBird_252 : decode cX5_addBird 252 = .ok (.ireturn, 1) := by decide +kernel
theorem dX5_engage_0 : decode cX5_engage 0 = .ok (.aload_n 0, 1) := by decide +kernel
theorem dX5_engage_1 : decode cX5_engage 1 = .ok (.aload_n 0, 1) := by decide +kernel
theorem dX5_engage_2 : decode cX5_engage 2 = .ok (.iload_n 1, 1) := by decide +kernel
theorem dX5_engage_3 : decode cX5_engage 3 = .ok (.invokevirtual 96, 3) := by decide +kernel
theorem dX5_engage_6 : decode cX5_engage 6 = .ok (.ifCond .eq 7, 3) := by decide +kernel
theorem dX5_engage_9 : decode cX5_engage 9 = .ok (.iconst 0, 1) := by decide +kernel
theorem dX5_engage_10 : decode cX5_engage 10 = .ok (.goto 4, 3) := by decide +kernel
theorem dX5_engage_13 : decode cX5_engage 13 = .ok (.iconst 1, 1) := by decide +kernel
theorem dX5_engage_14 : decode cX5_engage 14 = .ok (.putfield 38, 3) := by decide +kernel
theorem dX5_engage_17 : decode cX5_engage 17 = .ok (.aload_n 0, 1) := by decide +kernel
theorem dX5_engage_18 : decode cX5_engage 18 = .ok (.getfield 38, 3) := by decide +kernel
theorem dX5_engage_21 : decode cX5_engage 21 = .ok (.ifCond .eq 5, 3) := by decide +kernel
theorem dX5_engage_24 : decode cX5_engage 24 = .ok (.iconst 0, 1) := by decide +kernel
theorem dX5_engage_25 : decode cX5_engage 25 = .ok (.ireturn, 1) := by decide +kernel
theorem dX5_engage_26 : decode cX5_engage 26 = .ok (.aload_n 0, 1) := by decide +kernel
theorem dX5_engage_27 : decode cX5_engage 27 = .ok (.iload_n 1, 1) := by decide +kernel
theorem dX5_engage_28 : decode cX5_engage 28 = .ok (.bipush 6, 2) := by decide +kernel
theorem dX5_engage_30 : decode cX5_engage 30 = .ok (.invokevirtual 77, 3) := by decide +kernel
theorem dX5_engage_33 : decode cX5_engage 33 = .ok (.iconst 1, 1) := by decide +kernel
theorem dX5_engage_34 : decode cX5_engage 34 = .ok (.if_icmp .ne 7, 3) := by decide +kernel
theorem dX5_engage_37 : decode cX5_engage 37 = .ok (.iconst 1, 1) := by decide +kernel
theorem dX5_engage_38 : decode cX5_engage 38 = .ok (.goto 4, 3) := by decide +kernel
theorem dX5_engage_41 : decode cX5_engage 41 = .ok (.iconst 0, 1) := by decide +kernel
theorem dX5_engage_42 : decode cX5_engage 42 = .ok (.istore_n 3, 1) := by decide +kernel
theorem dX5_engage_43 : decode cX5_engage 43 = .ok (.iload_n 3, 1) := by decide +kernel
theorem dX5_engage_44 : decode cX5_engage 44 = .ok (.iload_n 2, 1) := by decide +kernel
theorem dX5_engage_45 : decode cX5_engage 45 = .ok (.if_icmp .ne 5, 3) := by decide +kernel
theorem dX5_engage_48 : decode cX5_engage 48 = .ok (.iload_n 3, 1) := by decide +kernel
theorem dX5_engage_49 : decode cX5_engage 49 = .ok (.ireturn, 1) := by decide +kernel
theorem dX5_engage_50 : decode cX5_engage 50 = .ok (.aload_n 0, 1) := by decide +kernel
theorem dX5_engage_51 : decode cX5_engage 51 = .ok (.iload_n 1, 1) := by decide +kernel
theorem dX5_engage_52 : decode cX5_engage 52 = .ok (.bipush 6, 2) := by decide +kernel
theorem dX5_engage_54 : decode cX5_engage 54 = .ok (.iload_n 2, 1) := by decide +kernel
theorem dX5_engage_55 : decode cX5_engage 55 = .ok (.ifCond .eq 7, 3) := by decide +kernel
theorem dX5_engage_58 : decode cX5_engage 58 = .ok (.iconst 1, 1) := by decide +kernel
theorem dX5_engage_59 : decode cX5_engage 59 = .ok (.goto 4, 3) := by decide +kernel
theorem dX5_engage_62 : decode cX5_engage 62 = .ok (.iconst 0, 1) := by decide +kernel
theorem dX5_engage_63 : decode cX5_engage 63 = .ok (.invokevirtual 99, 3) := by decide +kernel
theorem dX5_engage_66 : decode cX5_engage 66 = .ok (.iload_n 2, 1) := by decide +kernel
theorem dX5_engage_67 : decode cX5_engage 67 = .ok (.ifCond .ne 5, 3) := by decide +kernel
theorem dX5_engage_70 : decode cX5_engage 70 = .ok (.iconst 1, 1) := by decide +kernel
theorem dX5_engage_71 : decode cX5_engage 71 = .ok (.ireturn, 1) := by decide +kernel
theorem dX5_engage_72 : decode cX5_engage 72 = .ok (.aload_n 0, 1) := by decide +kernel
theorem dX5_engage_73 : decode cX5_engage 73 = .ok (.iload_n 1, 1) := by decide +kernel
theorem dX5_engage_74 : decode cX5_engage 74 = .ok (.iconst 5, 1) := by decide +kernel
theorem dX5_engage_75 : decode cX5_engage 75 = .ok (.iconst 0, 1) := by decide +kernel
theorem dX5_engage_76 : decode cX5_engage 76 = .ok (.invokevirtual 99, 3) := by decide +kernel
theorem dX5_engage_79 : decode cX5_engage 79 = .ok (.aload_n 0, 1) := by decide +kernel
theorem dX5_engage_80 : decode cX5_engage 80 = .ok (.iload_n 1, 1) := by decide +kernel
theorem dX5_engage_81 : decode cX5_engage 81 = .ok (.bipush 8, 2) := by decide +kernel
theorem dX5_engage_83 : decode cX5_engage 83 = .ok (.iconst 0, 1) := by decide +kernel
theorem dX5_engage_84 : decode cX5_engage 84 = .ok (.invokevirtual 99, 3) := by decide +kernel
theorem dX5_engage_87 : decode cX5_engage 87 = .ok (.aload_n 0, 1) := by decide +kernel
theorem dX5_engage_88 : decode cX5_engage 88 = .ok (.iload_n 1, 1) := by decide +kernel
theorem dX5_engage_89 : decode cX5_engage 89 = .ok (.bipush 10, 2) := by decide +kernel
theorem dX5_engage_91 : decode cX5_engage 91 = .ok (.aload_n 0, 1) := by decide +kernel
theorem dX5_engage_92 : decode cX5_engage 92 = .ok (.aload_n 0, 1) := by decide +kernel
theorem dX5_engage_93 : decode cX5_engage 93 = .ok (.iload_n 1, 1) := by decide +kernel
theorem dX5_engage_94 : decode cX5_engage 94 = .ok (.iconst 0, 1) := by decide +kernel
theorem dX5_engage_95 : decode cX5_engage 95 = .ok (.invokevirtual 77, 3) := by decide +kernel
theorem dX5_engage_98 : decode cX5_engage 98 = .ok (.iconst 2, 1) := by decide +kernel
theorem dX5_engage_99 : decode cX5_engage 99 = .ok (.invokevirtual 67, 3) := by decide +kernel
theorem dX5_engage_102 : decode cX5_engage 102 = .ok (.invokevirtual 99, 3) := by decide +kernel
theorem dX5_engage_105 : decode cX5_engage 105 = .ok (.iconst 0, 1) := by decide +kernel
theorem dX5_engage_106 : decode cX5_engage 106 = .ok (.ireturn, 1) := by decide +kernel
theorem dX5_pin_0 : decode cX5_pin 0 = .ok (.aload_n 0, 1) := by decide +kernel
theorem dX5_pin_1 : decode cX5_pin 1 = .ok (.iconst 0, 1) := by decide +kernel
theorem dX5_pin_2 : decode cX5_pin 2 = .ok (.putfield 38, 3) := by decide +kernel
theorem dX5_pin_5 : decode cX5_pin 5 = .ok (.aload_n 0, 1) := by decide +kernel
theorem dX5_pin_6 : decode cX5_pin 6 = .ok (.iload_n 1, 1) := by decide +kernel
theorem dX5_pin_7 : decode cX5_pin 7 = .ok (.invokevirtual 96, 3) := by decide +kernel
theorem dX5_pin_10 : decode cX5_pin 10 = .ok (.ifCond .ne 9, 3) := by decide +kernel
theorem dX5_pin_13 : decode cX5_pin 13 = .ok (.aload_n 0, 1) := by decide +kernel
theorem dX5_pin_14 : decode cX5_pin 14 = .ok (.iconst 1, 1) := by decide +kernel
theorem dX5_pin_15 : decode cX5_pin 15 = .ok (.invokevirtual 52, 3) := by decide +kernel
theorem dX5_pin_18 : decode cX5_pin 18 = .ok (.ireturn, 1) := by decide +kernel
theorem dX5_pin_19 : decode cX5_pin 19 = .ok (.iload_n 2, 1) := by decide +kernel
theorem dX5_pin_20 : decode cX5_pin 20 = .ok (.iconst 0, 1) := by decide +kernel
theorem dX5_pin_21 : decode cX5_pin 21 = .ok (.aload_n 0, 1) := by decide +kernel
theorem dX5_pin_22 : decode cX5_pin 22 = .ok (.iload_n 1, 1) := by decide +kernel
theorem dX5_pin_23 : decode cX5_pin 23 = .ok (.iconst 2, 1) := by decide +kernel
theorem dX5_pin_24 : decode cX5_pin 24 = .ok (.invokevirtual 77, 3) := by decide +kernel
theorem dX5_pin_27 : decode cX5_pin 27 = .ok (.iconst 1, 1) := by decide +kernel
theorem dX5_pin_28 : decode cX5_pin 28 = .ok (.isub, 1) := by decide +kernel
theorem dX5_pin_29 : decode cX5_pin 29 = .ok (.invokestatic 45, 3) := by decide +kernel
theorem dX5_pin_32 : decode cX5_pin 32 = .ok (.ifCond .eq 12, 3) := by decide +kernel
theorem dX5_pin_35 : decode cX5_pin 35 = .ok (.iload_n 3, 1) := by decide +kernel
theorem dX5_pin_36 : decode cX5_pin 36 = .ok (.iconst 0, 1) := by decide +kernel
theorem dX5_pin_37 : decode cX5_pin 37 = .ok (.iconst 5, 1) := by decide +kernel
theorem dX5_pin_38 : decode cX5_pin 38 = .ok (.invokestatic 45, 3) := by decide +kernel
theorem dX5_pin_41 : decode cX5_pin 41 = .ok (.ifCond .ne 9, 3) := by decide +kernel
theorem dX5_pin_44 : decode cX5_pin 44 = .ok (.aload_n 0, 1) := by decide +kernel
theorem dX5_pin_45 : decode cX5_pin 45 = .ok (.iconst 2, 1) := by decide +kernel
theorem dX5_pin_46 : decode cX5_pin 46 = .ok (.invokevirtual 52, 3) := by decide +kernel
theorem dX5_pin_49 : decode cX5_pin 49 = .ok (.ireturn, 1) := by decide +kernel
theorem dX5_pin_50 : decode cX5_pin 50 = .ok (.bipush 96, 2) := by decide +kernel
theorem dX5_pin_52 : decode cX5_pin 52 = .ok (.iload_n 1, 1) := by decide +kernel
theorem dX5_pin_53 : decode cX5_pin 53 = .ok (.imul, 1) := by decide +kernel
theorem dX5_pin_54 : decode cX5_pin 54 = .ok (.iload_n 2, 1) := by decide +kernel
theorem dX5_pin_55 : decode cX5_pin 55 = .ok (.iadd, 1) := by decide +kernel
theorem dX5_pin_56 : decode cX5_pin 56 = .ok (.istore 4, 2) := by decide +kernel
theorem dX5_pin_58 : decode cX5_pin 58 = .ok (.aload_n 0, 1) := by decide +kernel
theorem dX5_pin_59 : decode cX5_pin 59 = .ok (.getfield 20, 3) := by decide +kernel
theorem dX5_pin_62 : decode cX5_pin 62 = .ok (.iload 4, 2) := by decide +kernel
theorem dX5_pin_64 : decode cX5_pin 64 = .ok (.iaload, 1) := by decide +kernel
theorem dX5_pin_65 : decode cX5_pin 65 = .ok (.iload_n 3, 1) := by decide +kernel
theorem dX5_pin_66 : decode cX5_pin 66 = .ok (.ishr, 1) := by decide +kernel
theorem dX5_pin_67 : decode cX5_pin 67 = .ok (.iconst 1, 1) := by decide +kernel
theorem dX5_pin_68 : decode cX5_pin 68 = .ok (.iand, 1) := by decide +kernel
theorem dX5_pin_69 : decode cX5_pin 69 = .ok (.iconst 1, 1) := by decide +kernel
theorem dX5_pin_70 : decode cX5_pin 70 = .ok (.if_icmp .ne 7, 3) := by decide +kernel
theorem dX5_pin_73 : decode cX5_pin 73 = .ok (.iconst 1, 1) := by decide +kernel
theorem dX5_pin_74 : decode cX5_pin 74 = .ok (.goto 4, 3) := by decide +kernel
theorem dX5_pin_77 : decode cX5_pin 77 = .ok (.iconst 0, 1) := by decide +kernel
theorem dX5_pin_78 : decode cX5_pin 78 = .ok (.istore 5, 2) := by decide +kernel
theorem dX5_pin_80 : decode cX5_pin 80 = .ok (.iload 5, 2) := by decide +kernel
theorem dX5_pin_82 : decode cX5_pin 82 = .ok (.ifCond .ne 21, 3) := by decide +kernel
theorem dX5_pin_85 : decode cX5_pin 85 = .ok (.aload_n 0, 1) := by decide +kernel
theorem dX5_pin_86 : decode cX5_pin 86 = .ok (.iload_n 1, 1) := by decide +kernel
theorem dX5_pin_87 : decode cX5_pin 87 = .ok (.bipush 7, 2) := by decide +kernel
theorem dX5_pin_89 : decode cX5_pin 89 = .ok (.invokevirtual 77, 3) := by decide +kernel
theorem dX5_pin_92 : decode cX5_pin 92 = .ok (.bipush 24, 2) := by decide +kernel
theorem dX5_pin_94 : decode cX5_pin 94 = .ok (.if_icmp .ne 9, 3) := by decide +kernel
theorem dX5_pin_97 : decode cX5_pin 97 = .ok (.aload_n 0, 1) := by decide +kernel
theorem dX5_pin_98 : decode cX5_pin 98 = .ok (.iconst 3, 1) := by decide +kernel
theorem dX5_pin_99 : decode cX5_pin 99 = .ok (.invokevirtual 52, 3) := by decide +kernel
theorem dX5_pin_102 : decode cX5_pin 102 = .ok (.ireturn, 1) := by decide +kernel
theorem dX5_pin_103 : decode cX5_pin 103 = .ok (.aload_n 0, 1) := by decide +kernel
theorem dX5_pin_104 : decode cX5_pin 104 = .ok (.getfield 20, 3) := by decide +kernel
theorem dX5_pin_107 : decode cX5_pin 107 = .ok (.iload 4, 2) := by decide +kernel
theorem dX5_pin_109 : decode cX5_pin 109 = .ok (.dup2, 1) := by decide +kernel
theorem dX5_pin_110 : decode cX5_pin 110 = .ok (.iaload, 1) := by decide +kernel
theorem dX5_pin_111 : decode cX5_pin 111 = .ok (.iconst 1, 1) := by decide +kernel
theorem dX5_pin_112 : decode cX5_pin 112 = .ok (.iload_n 3, 1) := by decide +kernel
theorem dX5_pin_113 : decode cX5_pin 113 = .ok (.ishl, 1) := by decide +kernel
theorem dX5_pin_114 : decode cX5_pin 114 = .ok (.ixor, 1) := by decide +kernel
theorem dX5_pin_115 : decode cX5_pin 115 = .ok (.iastore, 1) := by decide +kernel
theorem dX5_pin_116 : decode cX5_pin 116 = .ok (.aload_n 0, 1) := by decide +kernel
theorem dX5_pin_117 : decode cX5_pin 117 = .ok (.iload_n 1, 1) := by decide +kernel
theorem dX5_pin_118 : decode cX5_pin 118 = .ok (.bipush 7, 2) := by decide +kernel
theorem dX5_pin_120 : decode cX5_pin 120 = .ok (.aload_n 0, 1) := by decide +kernel
theorem dX5_pin_121 : decode cX5_pin 121 = .ok (.iload_n 1, 1) := by decide +kernel
theorem dX5_pin_122 : decode cX5_pin 122 = .ok (.bipush 7, 2) := by decide +kernel
theorem dX5_pin_124 : decode cX5_pin 124 = .ok (.invokevirtual 77, 3) := by decide +kernel
theorem dX5_pin_127 : decode cX5_pin 127 = .ok (.iload 5, 2) := by decide +kernel
theorem dX5_pin_129 : decode cX5_pin 129 = .ok (.ifCond .eq 7, 3) := by decide +kernel
theorem dX5_pin_132 : decode cX5_pin 132 = .ok (.iconst (-1), 1) := by decide +kernel
theorem dX5_pin_133 : decode cX5_pin 133 = .ok (.goto 4, 3) := by decide +kernel
theorem dX5_pin_136 : decode cX5_pin 136 = .ok (.iconst 1, 1) := by decide +kernel
theorem dX5_pin_137 : decode cX5_pin 137 = .ok (.iadd, 1) := by decide +kernel
theorem dX5_pin_138 : decode cX5_pin 138 = .ok (.invokevirtual 99, 3) := by decide +kernel
theorem dX5_pin_141 : decode cX5_pin 141 = .ok (.aload_n 0, 1) := by decide +kernel
theorem dX5_pin_142 : decode cX5_pin 142 = .ok (.iload_n 1, 1) := by decide +kernel
theorem dX5_pin_143 : decode cX5_pin 143 = .ok (.bipush 7, 2) := by decide +kernel
theorem dX5_pin_145 : decode cX5_pin 145 = .ok (.invokevirtual 77, 3) := by decide +kernel
theorem dX5_pin_148 : decode cX5_pin 148 = .ok (.ireturn, 1) := by decide +kernel
theorem dX5_tune_0 : decode cX5_tune 0 = .ok (.aload_n 0, 1) := by decide +kernel
theorem dX5_tune_1 : decode cX5_tune 1 = .ok (.iconst 0, 1) := by decide +kernel
theorem dX5_tune_2 : decode cX5_tune 2 = .ok (.putfield 38, 3) := by decide +kernel
theorem dX5_tune_5 : decode cX5_tune 5 = .ok (.aload_n 0, 1) := by decide +kernel
theorem dX5_tune_6 : decode cX5_tune 6 = .ok (.iload_n 1, 1) := by decide +kernel
theorem dX5_tune_7 : decode cX5_tune 7 = .ok (.invokevirtual 96, 3) := by decide +kernel
theorem dX5_tune_10 : decode cX5_tune 10 = .ok (.ifCond .eq 12, 3) := by decide +kernel
theorem dX5_tune_13 : decode cX5_tune 13 = .ok (.iload_n 2, 1) := by decide +kernel
theorem dX5_tune_14 : decode cX5_tune 14 = .ok (.iconst 0, 1) := by decide +kernel
theorem dX5_tune_15 : decode cX5_tune 15 = .ok (.iconst 5, 1) := by decide +kernel
theorem dX5_tune_16 : decode cX5_tune 16 = .ok (.invokestatic 45, 3) := by decide +kernel
theorem dX5_tune_19 : decode cX5_tune 19 = .ok (.ifCond .ne 9, 3) := by decide +kernel
theorem dX5_tune_22 : decode cX5_tune 22 = .ok (.aload_n 0, 1) := by decide +kernel
theorem dX5_tune_23 : decode cX5_tune 23 = .ok (.iconst 1, 1) := by decide +kernel
theorem dX5_tune_24 : decode cX5_tune 24 = .ok (.invokevirtual 52, 3) := by decide +kernel
theorem dX5_tune_27 : decode cX5_tune 27 = .ok (.ireturn, 1) := by decide +kernel
theorem dX5_tune_28 : decode cX5_tune 28 = .ok (.iload_n 3, 1) := by decide +kernel
theorem dX5_tune_29 : decode cX5_tune 29 = .ok (.iconst 0, 1) := by decide +kernel
theorem dX5_tune_30 : decode cX5_tune 30 = .ok (.bipush 87, 2) := by decide +kernel
theorem dX5_tune_32 : decode cX5_tune 32 = .ok (.invokestatic 45, 3) := by decide +kernel
theorem dX5_tune_35 : decode cX5_tune 35 = .ok (.ifCond .ne 9, 3) := by decide +kernel
theorem dX5_tune_38 : decode cX5_tune 38 = .ok (.aload_n 0, 1) := by decide +kernel
theorem dX5_tune_39 : decode cX5_tune 39 = .ok (.iconst 2, 1) := by decide +kernel
theorem dX5_tune_40 : decode cX5_tune 40 = .ok (.invokevirtual 52, 3) := by decide +kernel
theorem dX5_tune_43 : decode cX5_tune 43 = .ok (.ireturn, 1) := by decide +kernel
theorem dX5_tune_44 : decode cX5_tune 44 = .ok (.aload_n 0, 1) := by decide +kernel
theorem dX5_tune_45 : decode cX5_tune 45 = .ok (.getfield 23, 3) := by decide +kernel
theorem dX5_tune_48 : decode cX5_tune 48 = .ok (.bipush 6, 2) := by decide +kernel
theorem dX5_tune_50 : decode cX5_tune 50 = .ok (.iload_n 1, 1) := by decide +kernel
theorem dX5_tune_51 : decode cX5_tune 51 = .ok (.imul, 1) := by decide +kernel
theorem dX5_tune_52 : decode cX5_tune 52 = .ok (.iload_n 2, 1) := by decide +kernel
theorem dX5_tune_53 : decode cX5_tune 53 = .ok (.iadd, 1) := by decide +kernel
theorem dX5_tune_54 : decode cX5_tune 54 = .ok (.iaload, 1) := by decide +kernel
theorem dX5_tune_55 : decode cX5_tune 55 = .ok (.istore 4, 2) := by decide +kernel
theorem dX5_tune_57 : decode cX5_tune 57 = .ok (.aload_n 0, 1) := by decide +kernel
theorem dX5_tune_58 : decode cX5_tune 58 = .ok (.getfield 23, 3) := by decide +kernel
theorem dX5_tune_61 : decode cX5_tune 61 = .ok (.bipush 6, 2) := by decide +kernel
theorem dX5_tune_63 : decode cX5_tune 63 = .ok (.iload_n 1, 1) := by decide +kernel
theorem dX5_tune_64 : decode cX5_tune 64 = .ok (.imul, 1) := by decide +kernel
theorem dX5_tune_65 : decode cX5_tune 65 = .ok (.iload_n 2, 1) := by decide +kernel
theorem dX5_tune_66 : decode cX5_tune 66 = .ok (.iadd, 1) := by decide +kernel
theorem dX5_tune_67 : decode cX5_tune 67 = .ok (.iload_n 3, 1) := by decide +kernel
theorem dX5_tune_68 : decode cX5_tune 68 = .ok (.iastore, 1) := by decide +kernel
theorem dX5_tune_69 : decode cX5_tune 69 = .ok (.iload 4, 2) := by decide +kernel
theorem dX5_tune_71 : decode cX5_tune 71 = .ok (.ireturn, 1) := by decide +kernel
theorem dX5_cam_0 : decode cX5_cam 0 = .ok (.bipush 96, 2) := by decide +kernel
theorem dX5_cam_2 : decode cX5_cam 2 = .ok (.iconst 3, 1) := by decide +kernel
theorem dX5_cam_3 : decode cX5_cam 3 = .ok (.iload_n 0, 1) := by decide +kernel
theorem dX5_cam_4 : decode cX5_cam 4 = .ok (.imul, 1) := by decide +kernel
theorem dX5_cam_5 : decode cX5_cam 5 = .ok (.iload_n 1, 1) := by decide +kernel
theorem dX5_cam_6 : decode cX5_cam 6 = .ok (.iadd, 1) := by decide +kernel
theorem dX5_cam_7 : decode cX5_cam 7 = .ok (.imul, 1) := by decide +kernel
theorem dX5_cam_8 : decode cX5_cam 8 = .ok (.ireturn, 1) := by decide +kernel
theorem dX5_pointsOf_0 : decode cX5_pointsOf 0 = .ok (.iconst 0, 1) := by decide +kernel
theorem dX5_pointsOf_1 : decode cX5_pointsOf 1 = .ok (.istore_n 3, 1) := by decide +kernel
theorem dX5_pointsOf_2 : decode cX5_pointsOf 2 = .ok (.iconst 0, 1) := by decide +kernel
theorem dX5_pointsOf_3 : decode cX5_pointsOf 3 = .ok (.istore 4, 2) := by decide +kernel
theorem dX5_pointsOf_5 : decode cX5_pointsOf 5 = .ok (.iload 4, 2) := by decide +kernel
theorem dX5_pointsOf_7 : decode cX5_pointsOf 7 = .ok (.aload_n 0, 1) := by decide +kernel
theorem dX5_pointsOf_8 : decode cX5_pointsOf 8 = .ok (.iload_n 1, 1) := by decide +kernel
theorem dX5_pointsOf_9 : decode cX5_pointsOf 9 = .ok (.iconst 2, 1) := by decide +kernel
theorem dX5_pointsOf_10 : decode cX5_pointsOf 10 = .ok (.invokevirtual 77, 3) := by decide +kernel
theorem dX5_pointsOf_13 : decode cX5_pointsOf 13 = .ok (.if_icmp .ge 34, 3) := by decide +kernel
theorem dX5_pointsOf_16 : decode cX5_pointsOf 16 = .ok (.iload_n 3, 1) := by decide +kernel
theorem dX5_pointsOf_17 : decode cX5_pointsOf 17 = .ok (.aload_n 0, 1) := by decide +kernel
theorem dX5_pointsOf_18 : decode cX5_pointsOf 18 = .ok (.getfield 26, 3) := by decide +kernel
theorem dX5_pointsOf_21 : decode cX5_pointsOf 21 = .ok (.iload_n 1, 1) := by decide +kernel
theorem dX5_pointsOf_22 : decode cX5_pointsOf 22 = .ok (.iload_n 2, 1) := by decide +kernel
theorem dX5_pointsOf_23 : decode cX5_pointsOf 23 = .ok (.invokestatic 103, 3) := by decide +kernel
theorem dX5_pointsOf_26 : decode cX5_pointsOf 26 = .ok (.iload 4, 2) := by decide +kernel
theorem dX5_pointsOf_28 : decode cX5_pointsOf 28 = .ok (.iadd, 1) := by decide +kernel
theorem dX5_pointsOf_29 : decode cX5_pointsOf 29 = .ok (.iaload, 1) := by decide +kernel
theorem dX5_pointsOf_30 : decode cX5_pointsOf 30 = .ok (.iconst (-1), 1) := by decide +kernel
theorem dX5_pointsOf_31 : decode cX5_pointsOf 31 = .ok (.if_icmp .eq 7, 3) := by decide +kernel
theorem dX5_pointsOf_34 : decode cX5_pointsOf 34 = .ok (.iconst 1, 1) := by decide +kernel
theorem dX5_pointsOf_35 : decode cX5_pointsOf 35 = .ok (.goto 4, 3) := by decide +kernel
theorem dX5_pointsOf_38 : decode cX5_pointsOf 38 = .ok (.iconst 0, 1) := by decide +kernel
theorem dX5_pointsOf_39 : decode cX5_pointsOf 39 = .ok (.iadd, 1) := by decide +kernel
theorem dX5_pointsOf_40 : decode cX5_pointsOf 40 = .ok (.istore_n 3, 1) := by decide +kernel
theorem dX5_pointsOf_41 : decode cX5_pointsOf 41 = .ok (.iinc 4 1, 3) := by decide +kernel
theorem dX5_pointsOf_44 : decode cX5_pointsOf 44 = .ok (.goto (-39), 3) := by decide +kernel
theorem dX5_pointsOf_47 : decode cX5_pointsOf 47 = .ok (.iload_n 3, 1) := by decide +kernel
theorem dX5_pointsOf_48 : decode cX5_pointsOf 48 = .ok (.ireturn, 1) := by decide +kernel
theorem dX5_point_0 : decode cX5_point 0 = .ok (.aload_n 0, 1) := by decide +kernel
theorem dX5_point_1 : decode cX5_point 1 = .ok (.iconst 0, 1) := by decide +kernel
theorem dX5_point_2 : decode cX5_point 2 = .ok (.putfield 38, 3) := by decide +kernel
theorem dX5_point_5 : decode cX5_point 5 = .ok (.aload_n 0, 1) := by decide +kernel
theorem dX5_point_6 : decode cX5_point 6 = .ok (.iload_n 1, 1) := by decide +kernel
theorem dX5_point_7 : decode cX5_point 7 = .ok (.invokevirtual 96, 3) := by decide +kernel
theorem dX5_point_10 : decode cX5_point 10 = .ok (.ifCond .eq 12, 3) := by decide +kernel
theorem dX5_point_13 : decode cX5_point 13 = .ok (.iload_n 2, 1) := by decide +kernel
theorem dX5_point_14 : decode cX5_point 14 = .ok (.iconst 0, 1) := by decide +kernel
theorem dX5_point_15 : decode cX5_point 15 = .ok (.iconst 2, 1) := by decide +kernel
theorem dX5_point_16 : decode cX5_point 16 = .ok (.invokestatic 45, 3) := by decide +kernel
theorem dX5_point_19 : decode cX5_point 19 = .ok (.ifCond .ne 9, 3) := by decide +kernel
theorem dX5_point_22 : decode cX5_point 22 = .ok (.aload_n 0, 1) := by decide +kernel
theorem dX5_point_23 : decode cX5_point 23 = .ok (.iconst 1, 1) := by decide +kernel
theorem dX5_point_24 : decode cX5_point 24 = .ok (.invokevirtual 52, 3) := by decide +kernel
theorem dX5_point_27 : decode cX5_point 27 = .ok (.ireturn, 1) := by decide +kernel
theorem dX5_point_28 : decode cX5_point 28 = .ok (.iload_n 3, 1) := by decide +kernel
theorem dX5_point_29 : decode cX5_point 29 = .ok (.iconst 0, 1) := by decide +kernel
theorem dX5_point_30 : decode cX5_point 30 = .ok (.aload_n 0, 1) := by decide +kernel
theorem dX5_point_31 : decode cX5_point 31 = .ok (.iload_n 1, 1) := by decide +kernel
theorem dX5_point_32 : decode cX5_point 32 = .ok (.iconst 2, 1) := by decide +kernel
theorem dX5_point_33 : decode cX5_point 33 = .ok (.invokevirtual 77, 3) := by decide +kernel
theorem dX5_point_36 : decode cX5_point 36 = .ok (.iconst 1, 1) := by decide +kernel
theorem dX5_point_37 : decode cX5_point 37 = .ok (.isub, 1) := by decide +kernel
theorem dX5_point_38 : decode cX5_point 38 = .ok (.invokestatic 45, 3) := by decide +kernel
theorem dX5_point_41 : decode cX5_point 41 = .ok (.ifCond .eq 14, 3) := by decide +kernel
theorem dX5_point_44 : decode cX5_point 44 = .ok (.iload 4, 2) := by decide +kernel
theorem dX5_point_46 : decode cX5_point 46 = .ok (.iconst (-1), 1) := by decide +kernel
theorem dX5_point_47 : decode cX5_point 47 = .ok (.bipush 100, 2) := by decide +kernel
theorem dX5_point_49 : decode cX5_point 49 = .ok (.invokestatic 45, 3) := by decide +kernel
theorem dX5_point_52 : decode cX5_point 52 = .ok (.ifCond .ne 9, 3) := by decide +kernel
theorem dX5_point_55 : decode cX5_point 55 = .ok (.aload_n 0, 1) := by decide +kernel
theorem dX5_point_56 : decode cX5_point 56 = .ok (.iconst 2, 1) := by decide +kernel
theorem dX5_point_57 : decode cX5_point 57 = .ok (.invokevirtual 52, 3) := by decide +kernel
theorem dX5_point_60 : decode cX5_point 60 = .ok (.ireturn, 1) := by decide +kernel
theorem dX5_point_61 : decode cX5_point 61 = .ok (.iload_n 1, 1) := by decide +kernel
theorem dX5_point_62 : decode cX5_point 62 = .ok (.iload_n 2, 1) := by decide +kernel
theorem dX5_point_63 : decode cX5_point 63 = .ok (.invokestatic 103, 3) := by decide +kernel
theorem dX5_point_66 : decode cX5_point 66 = .ok (.iload_n 3, 1) := by decide +kernel
theorem dX5_point_67 : decode cX5_point 67 = .ok (.iadd, 1) := by decide +kernel
theorem dX5_point_68 : decode cX5_point 68 = .ok (.istore 5, 2) := by decide +kernel
theorem dX5_point_70 : decode cX5_point 70 = .ok (.aload_n 0, 1) := by decide +kernel
theorem dX5_point_71 : decode cX5_point 71 = .ok (.getfield 26, 3) := by decide +kernel
theorem dX5_point_74 : decode cX5_point 74 = .ok (.iload 5, 2) := by decide +kernel
theorem dX5_point_76 : decode cX5_point 76 = .ok (.iaload, 1) := by decide +kernel
theorem dX5_point_77 : decode cX5_point 77 = .ok (.iconst (-1), 1) := by decide +kernel
theorem dX5_point_78 : decode cX5_point 78 = .ok (.if_icmp .ne 26, 3) := by decide +kernel
theorem dX5_point_81 : decode cX5_point 81 = .ok (.iload 4, 2) := by decide +kernel
theorem dX5_point_83 : decode cX5_point 83 = .ok (.iconst (-1), 1) := by decide +kernel
theorem dX5_point_84 : decode cX5_point 84 = .ok (.if_icmp .eq 14, 3) := by decide +kernel
theorem dX5_point_87 : decode cX5_point 87 = .ok (.aload_n 0, 1) := by decide +kernel
theorem dX5_point_88 : decode cX5_point 88 = .ok (.iload_n 1, 1) := by decide +kernel
theorem dX5_point_89 : decode cX5_point 89 = .ok (.iload_n 2, 1) := by decide +kernel
theorem dX5_point_90 : decode cX5_point 90 = .ok (.invokevirtual 106, 3) := by decide +kernel
theorem dX5_point_93 : decode cX5_point 93 = .ok (.bipush 8, 2) := by decide +kernel
theorem dX5_point_95 : decode cX5_point 95 = .ok (.if_icmp .ne 9, 3) := by decide +kernel
theorem dX5_point_98 : decode cX5_point 98 = .ok (.aload_n 0, 1) := by decide +kernel
theorem dX5_point_99 : decode cX5_point 99 = .ok (.iconst 3, 1) := by decide +kernel
theorem dX5_point_100 : decode cX5_point 100 = .ok (.invokevirtual 52, 3) := by decide +kernel
theorem dX5_point_103 : decode cX5_point 103 = .ok (.ireturn, 1) := by decide +kernel
theorem dX5_point_104 : decode cX5_point 104 = .ok (.aload_n 0, 1) := by decide +kernel
theorem dX5_point_105 : decode cX5_point 105 = .ok (.getfield 26, 3) := by decide +kernel
theorem dX5_point_108 : decode cX5_point 108 = .ok (.iload 5, 2) := by decide +kernel
theorem dX5_point_110 : decode cX5_point 110 = .ok (.iload 4, 2) := by decide +kernel
theorem dX5_point_112 : decode cX5_point 112 = .ok (.iastore, 1) := by decide +kernel
theorem dX5_point_113 : decode cX5_point 113 = .ok (.aload_n 0, 1) := by decide +kernel
theorem dX5_point_114 : decode cX5_point 114 = .ok (.iload_n 1, 1) := by decide +kernel
theorem dX5_point_115 : decode cX5_point 115 = .ok (.iload_n 2, 1) := by decide +kernel
theorem dX5_point_116 : decode cX5_point 116 = .ok (.invokevirtual 106, 3) := by decide +kernel
theorem dX5_point_119 : decode cX5_point 119 = .ok (.ireturn, 1) := by decide +kernel
theorem dX5_liftAt_0 : decode cX5_liftAt 0 = .ok (.aload_n 0, 1) := by decide +kernel
theorem dX5_liftAt_1 : decode cX5_liftAt 1 = .ok (.iload_n 1, 1) := by decide +kernel
theorem dX5_liftAt_2 : decode cX5_liftAt 2 = .ok (.iconst 2, 1) := by decide +kernel
theorem dX5_liftAt_3 : decode cX5_liftAt 3 = .ok (.invokevirtual 77, 3) := by decide +kernel
theorem dX5_liftAt_6 : decode cX5_liftAt 6 = .ok (.istore 4, 2) := by decide +kernel
theorem dX5_liftAt_8 : decode cX5_liftAt 8 = .ok (.iload_n 1, 1) := by decide +kernel
theorem dX5_liftAt_9 : decode cX5_liftAt 9 = .ok (.iload_n 2, 1) := by decide +kernel
theorem dX5_liftAt_10 : decode cX5_liftAt 10 = .ok (.invokestatic 103, 3) := by decide +kernel
theorem dX5_liftAt_13 : decode cX5_liftAt 13 = .ok (.istore 5, 2) := by decide +kernel
theorem dX5_liftAt_15 : decode cX5_liftAt 15 = .ok (.iconst 0, 1) := by decide +kernel
theorem dX5_liftAt_16 : decode cX5_liftAt 16 = .ok (.istore 6, 2) := by decide +kernel
theorem dX5_liftAt_18 : decode cX5_liftAt 18 = .ok (.iload 6, 2) := by decide +kernel
theorem dX5_liftAt_20 : decode cX5_liftAt 20 = .ok (.iload 4, 2) := by decide +kernel
theorem dX5_liftAt_22 : decode cX5_liftAt 22 = .ok (.if_icmp .ge 31, 3) := by decide +kernel
theorem dX5_liftAt_25 : decode cX5_liftAt 25 = .ok (.aload_n 0, 1) := by decide +kernel
theorem dX5_liftAt_26 : decode cX5_liftAt 26 = .ok (.getfield 26, 3) := by decide +kernel
theorem dX5_liftAt_29 : decode cX5_liftAt 29 = .ok (.iload 5, 2) := by decide +kernel
theorem dX5_liftAt_31 : decode cX5_liftAt 31 = .ok (.iload_n 3, 1) := by decide +kernel
theorem dX5_liftAt_32 : decode cX5_liftAt 32 = .ok (.iload 4, 2) := by decide +kernel
theorem dX5_liftAt_34 : decode cX5_liftAt 34 = .ok (.iadd, 1) := by decide +kernel
theorem dX5_liftAt_35 : decode cX5_liftAt 35 = .ok (.iload 6, 2) := by decide +kernel
theorem dX5_liftAt_37 : decode cX5_liftAt 37 = .ok (.isub, 1) := by decide +kernel
theorem dX5_liftAt_38 : decode cX5_liftAt 38 = .ok (.iload 4, 2) := by decide +kernel
theorem dX5_liftAt_40 : decode cX5_liftAt 40 = .ok (.irem, 1) := by decide +kernel
theorem dX5_liftAt_41 : decode cX5_liftAt 41 = .ok (.iadd, 1) := by decide +kernel
theorem dX5_liftAt_42 : decode cX5_liftAt 42 = .ok (.iaload, 1) := by decide +kernel
theorem dX5_liftAt_43 : decode cX5_liftAt 43 = .ok (.iconst (-1), 1) := by decide +kernel
theorem dX5_liftAt_44 : decode cX5_liftAt 44 = .ok (.if_icmp .ne 9, 3) := by decide +kernel
theorem dX5_liftAt_47 : decode cX5_liftAt 47 = .ok (.iinc 6 1, 3) := by decide +kernel
theorem dX5_liftAt_50 : decode cX5_liftAt 50 = .ok (.goto (-32), 3) := by decide +kernel
theorem dX5_liftAt_53 : decode cX5_liftAt 53 = .ok (.iload 6, 2) := by decide +kernel
theorem dX5_liftAt_55 : decode cX5_liftAt 55 = .ok (.iload 4, 2) := by decide +kernel
theorem dX5_liftAt_57 : decode cX5_liftAt 57 = .ok (.if_icmp .ne 5, 3) := by decide +kernel
theorem dX5_liftAt_60 : decode cX5_liftAt 60 = .ok (.iconst 0, 1) := by decide +kernel
theorem dX5_liftAt_61 : decode cX5_liftAt 61 = .ok (.ireturn, 1) := by decide +kernel
theorem dX5_liftAt_62 : decode cX5_liftAt 62 = .ok (.iconst 1, 1) := by decide +kernel
theorem dX5_liftAt_63 : decode cX5_liftAt 63 = .ok (.istore 7, 2) := by decide +kernel
theorem dX5_liftAt_65 : decode cX5_liftAt 65 = .ok (.aload_n 0, 1) := by decide +kernel
theorem dX5_liftAt_66 : decode cX5_liftAt 66 = .ok (.getfield 26, 3) := by decide +kernel
theorem dX5_liftAt_69 : decode cX5_liftAt 69 = .ok (.iload 5, 2) := by decide +kernel
theorem dX5_liftAt_71 : decode cX5_liftAt 71 = .ok (.iload_n 3, 1) := by decide +kernel
theorem dX5_liftAt_72 : decode cX5_liftAt 72 = .ok (.iload 7, 2) := by decide +kernel
theorem dX5_liftAt_74 : decode cX5_liftAt 74 = .ok (.iadd, 1) := by decide +kernel
theorem dX5_liftAt_75 : decode cX5_liftAt 75 = .ok (.iload 4, 2) := by decide +kernel
theorem dX5_liftAt_77 : decode cX5_liftAt 77 = .ok (.irem, 1) := by decide +kernel
theorem dX5_liftAt_78 : decode cX5_liftAt 78 = .ok (.iadd, 1) := by decide +kernel
theorem dX5_liftAt_79 : decode cX5_liftAt 79 = .ok (.iaload, 1) := by decide +kernel
theorem dX5_liftAt_80 : decode cX5_liftAt 80 = .ok (.iconst (-1), 1) := by decide +kernel
theorem dX5_liftAt_81 : decode cX5_liftAt 81 = .ok (.if_icmp .ne 9, 3) := by decide +kernel
theorem dX5_liftAt_84 : decode cX5_liftAt 84 = .ok (.iinc 7 1, 3) := by decide +kernel
theorem dX5_liftAt_87 : decode cX5_liftAt 87 = .ok (.goto (-22), 3) := by decide +kernel
theorem dX5_liftAt_90 : decode cX5_liftAt 90 = .ok (.aload_n 0, 1) := by decide +kernel
theorem dX5_liftAt_91 : decode cX5_liftAt 91 = .ok (.getfield 26, 3) := by decide +kernel
theorem dX5_liftAt_94 : decode cX5_liftAt 94 = .ok (.iload 5, 2) := by decide +kernel
theorem dX5_liftAt_96 : decode cX5_liftAt 96 = .ok (.iload_n 3, 1) := by decide +kernel
theorem dX5_liftAt_97 : decode cX5_liftAt 97 = .ok (.iload 4, 2) := by decide +kernel
theorem dX5_liftAt_99 : decode cX5_liftAt 99 = .ok (.iadd, 1) := by decide +kernel
theorem dX5_liftAt_100 : decode cX5_liftAt 100 = .ok (.iload 6, 2) := by decide +kernel
theorem dX5_liftAt_102 : decode cX5_liftAt 102 = .ok (.isub, 1) := by decide +kernel
theorem dX5_liftAt_103 : decode cX5_liftAt 103 = .ok (.iload 4, 2) := by decide +kernel
theorem dX5_liftAt_105 : decode cX5_liftAt 105 = .ok (.irem, 1) := by decide +kernel
theorem dX5_liftAt_106 : decode cX5_liftAt 106 = .ok (.iadd, 1) := by decide +kernel
theorem dX5_liftAt_107 : decode cX5_liftAt 107 = .ok (.iaload, 1) := by decide +kernel
theorem dX5_liftAt_108 : decode cX5_liftAt 108 = .ok (.istore 8, 2) := by decide +kernel
theorem dX5_liftAt_110 : decode cX5_liftAt 110 = .ok (.aload_n 0, 1) := by decide +kernel
theorem dX5_liftAt_111 : decode cX5_liftAt 111 = .ok (.getfield 26, 3) := by decide +kernel
theorem dX5_liftAt_114 : decode cX5_liftAt 114 = .ok (.iload 5, 2) := by decide +kernel
theorem dX5_liftAt_116 : decode cX5_liftAt 116 = .ok (.iload_n 3, 1) := by decide +kernel
theorem dX5_liftAt_117 : decode cX5_liftAt 117 = .ok (.iload 7, 2) := by decide +kernel
theorem dX5_liftAt_119 : decode cX5_liftAt 119 = .ok (.iadd, 1) := by decide +kernel
theorem dX5_liftAt_120 : decode cX5_liftAt 120 = .ok (.iload 4, 2) := by decide +kernel
theorem dX5_liftAt_122 : decode cX5_liftAt 122 = .ok (.irem, 1) := by decide +kernel
theorem dX5_liftAt_123 : decode cX5_liftAt 123 = .ok (.iadd, 1) := by decide +kernel
theorem dX5_liftAt_124 : decode cX5_liftAt 124 = .ok (.iaload, 1) := by decide +kernel
theorem dX5_liftAt_125 : decode cX5_liftAt 125 = .ok (.istore 9, 2) := by decide +kernel
theorem dX5_liftAt_127 : decode cX5_liftAt 127 = .ok (.iload 8, 2) := by decide +kernel
theorem dX5_liftAt_129 : decode cX5_liftAt 129 = .ok (.iload 9, 2) := by decide +kernel
theorem dX5_liftAt_131 : decode cX5_liftAt 131 = .ok (.iload 8, 2) := by decide +kernel
theorem dX5_liftAt_133 : decode cX5_liftAt 133 = .ok (.isub, 1) := by decide +kernel
theorem dX5_liftAt_134 : decode cX5_liftAt 134 = .ok (.iload 6, 2) := by decide +kernel
theorem dX5_liftAt_136 : decode cX5_liftAt 136 = .ok (.imul, 1) := by decide +kernel
theorem dX5_liftAt_137 : decode cX5_liftAt 137 = .ok (.iload 6, 2) := by decide +kernel
theorem dX5_liftAt_139 : decode cX5_liftAt 139 = .ok (.iload 7, 2) := by decide +kernel
theorem dX5_liftAt_141 : decode cX5_liftAt 141 = .ok (.iadd, 1) := by decide +kernel
theorem dX5_liftAt_142 : decode cX5_liftAt 142 = .ok (.invokestatic 109, 3) := by decide +kernel
theorem dX5_liftAt_145 : decode cX5_liftAt 145 = .ok (.iadd, 1) := by decide +kernel
theorem dX5_liftAt_146 : decode cX5_liftAt 146 = .ok (.ireturn, 1) := by decide +kernel
theorem dX5_bird_0 : decode cX5_bird 0 = .ok (.aload_n 0, 1) := by decide +kernel
theorem dX5_bird_1 : decode cX5_bird 1 = .ok (.iconst 0, 1) := by decide +kernel
theorem dX5_bird_2 : decode cX5_bird 2 = .ok (.putfield 38, 3) := by decide +kernel
theorem dX5_bird_5 : decode cX5_bird 5 = .ok (.aload_n 0, 1) := by decide +kernel
theorem dX5_bird_6 : decode cX5_bird 6 = .ok (.iload_n 1, 1) := by decide +kernel
theorem dX5_bird_7 : decode cX5_bird 7 = .ok (.invokevirtual 96, 3) := by decide +kernel
theorem dX5_bird_10 : decode cX5_bird 10 = .ok (.ifCond .eq 22, 3) := by decide +kernel
theorem dX5_bird_13 : decode cX5_bird 13 = .ok (.iload_n 2, 1) := by decide +kernel
theorem dX5_bird_14 : decode cX5_bird 14 = .ok (.iconst 0, 1) := by decide +kernel
theorem dX5_bird_15 : decode cX5_bird 15 = .ok (.bipush 9, 2) := by decide +kernel
theorem dX5_bird_17 : decode cX5_bird 17 = .ok (.invokestatic 45, 3) := by decide +kernel
theorem dX5_bird_20 : decode cX5_bird 20 = .ok (.ifCond .eq 12, 3) := by decide +kernel
theorem dX5_bird_23 : decode cX5_bird 23 = .ok (.aload_n 0, 1) := by decide +kernel
theorem dX5_bird_24 : decode cX5_bird 24 = .ok (.iload_n 1, 1) := by decide +kernel
theorem dX5_bird_25 : decode cX5_bird 25 = .ok (.iload_n 2, 1) := by decide +kernel
theorem dX5_bird_26 : decode cX5_bird 26 = .ok (.invokevirtual 77, 3) := by decide +kernel
theorem dX5_bird_29 : decode cX5_bird 29 = .ok (.goto 8, 3) := by decide +kernel
theorem dX5_bird_32 : decode cX5_bird 32 = .ok (.aload_n 0, 1) := by decide +kernel
theorem dX5_bird_33 : decode cX5_bird 33 = .ok (.iconst 1, 1) := by decide +kernel
theorem dX5_bird_34 : decode cX5_bird 34 = .ok (.invokevirtual 52, 3) := by decide +kernel
theorem dX5_bird_37 : decode cX5_bird 37 = .ok (.ireturn, 1) := by decide +kernel
theorem dX5_lift_0 : decode cX5_lift 0 = .ok (.aload_n 0, 1) := by decide +kernel
theorem dX5_lift_1 : decode cX5_lift 1 = .ok (.iconst 0, 1) := by decide +kernel
theorem dX5_lift_2 : decode cX5_lift 2 = .ok (.putfield 38, 3) := by decide +kernel
theorem dX5_lift_5 : decode cX5_lift 5 = .ok (.aload_n 0, 1) := by decide +kernel
theorem dX5_lift_6 : decode cX5_lift 6 = .ok (.iload_n 1, 1) := by decide +kernel
theorem dX5_lift_7 : decode cX5_lift 7 = .ok (.invokevirtual 96, 3) := by decide +kernel
theorem dX5_lift_10 : decode cX5_lift 10 = .ok (.ifCond .eq 12, 3) := by decide +kernel
theorem dX5_lift_13 : decode cX5_lift 13 = .ok (.iload_n 2, 1) := by decide +kernel
theorem dX5_lift_14 : decode cX5_lift 14 = .ok (.iconst 0, 1) := by decide +kernel
theorem dX5_lift_15 : decode cX5_lift 15 = .ok (.iconst 2, 1) := by decide +kernel
theorem dX5_lift_16 : decode cX5_lift 16 = .ok (.invokestatic 45, 3) := by decide +kernel
theorem dX5_lift_19 : decode cX5_lift 19 = .ok (.ifCond .ne 9, 3) := by decide +kernel
theorem dX5_lift_22 : decode cX5_lift 22 = .ok (.aload_n 0, 1) := by decide +kernel
theorem dX5_lift_23 : decode cX5_lift 23 = .ok (.iconst 1, 1) := by decide +kernel
theorem dX5_lift_24 : decode cX5_lift 24 = .ok (.invokevirtual 52, 3) := by decide +kernel
theorem dX5_lift_27 : decode cX5_lift 27 = .ok (.ireturn, 1) := by decide +kernel
theorem dX5_lift_28 : decode cX5_lift 28 = .ok (.iload_n 3, 1) := by decide +kernel
theorem dX5_lift_29 : decode cX5_lift 29 = .ok (.iconst (-1), 1) := by decide +kernel
theorem dX5_lift_30 : decode cX5_lift 30 = .ok (.aload_n 0, 1) := by decide +kernel
theorem dX5_lift_31 : decode cX5_lift 31 = .ok (.iload_n 1, 1) := by decide +kernel
theorem dX5_lift_32 : decode cX5_lift 32 = .ok (.iconst 2, 1) := by decide +kernel
theorem dX5_lift_33 : decode cX5_lift 33 = .ok (.invokevirtual 77, 3) := by decide +kernel
theorem dX5_lift_36 : decode cX5_lift 36 = .ok (.iconst 1, 1) := by decide +kernel
theorem dX5_lift_37 : decode cX5_lift 37 = .ok (.isub, 1) := by decide +kernel
theorem dX5_lift_38 : decode cX5_lift 38 = .ok (.invokestatic 45, 3) := by decide +kernel
theorem dX5_lift_41 : decode cX5_lift 41 = .ok (.ifCond .ne 9, 3) := by decide +kernel
theorem dX5_lift_44 : decode cX5_lift 44 = .ok (.aload_n 0, 1) := by decide +kernel
theorem dX5_lift_45 : decode cX5_lift 45 = .ok (.iconst 2, 1) := by decide +kernel
theorem dX5_lift_46 : decode cX5_lift 46 = .ok (.invokevirtual 52, 3) := by decide +kernel
theorem dX5_lift_49 : decode cX5_lift 49 = .ok (.ireturn, 1) := by decide +kernel
theorem dX5_lift_50 : decode cX5_lift 50 = .ok (.aload_n 0, 1) := by decide +kernel
theorem dX5_lift_51 : decode cX5_lift 51 = .ok (.iload_n 1, 1) := by decide +kernel
theorem dX5_lift_52 : decode cX5_lift 52 = .ok (.iload_n 2, 1) := by decide +kernel
theorem dX5_lift_53 : decode cX5_lift 53 = .ok (.iload_n 3, 1) := by decide +kernel
theorem dX5_lift_54 : decode cX5_lift 54 = .ok (.iconst (-1), 1) := by decide +kernel
theorem dX5_lift_55 : decode cX5_lift 55 = .ok (.if_icmp .ne 12, 3) := by decide +kernel
theorem dX5_lift_58 : decode cX5_lift 58 = .ok (.aload_n 0, 1) := by decide +kernel
theorem dX5_lift_59 : decode cX5_lift 59 = .ok (.iload_n 1, 1) := by decide +kernel
theorem dX5_lift_60 : decode cX5_lift 60 = .ok (.iconst 5, 1) := by decide +kernel
theorem dX5_lift_61 : decode cX5_lift 61 = .ok (.invokevirtual 77, 3) := by decide +kernel
theorem dX5_lift_64 : decode cX5_lift 64 = .ok (.goto 4, 3) := by decide +kernel
theorem dX5_lift_67 : decode cX5_lift 67 = .ok (.iload_n 3, 1) := by decide +kernel
theorem dX5_lift_68 : decode cX5_lift 68 = .ok (.invokevirtual 80, 3) := by decide +kernel
theorem dX5_lift_71 : decode cX5_lift 71 = .ok (.ireturn, 1) := by decide +kernel
theorem dX5_sp_0 : decode cX5_sp 0 = .ok (.aload_n 0, 1) := by decide +kernel
theorem dX5_sp_1 : decode cX5_sp 1 = .ok (.getfield 9, 3) := by decide +kernel
theorem dX5_sp_4 : decode cX5_sp 4 = .ok (.iconst 5, 1) := by decide +kernel
theorem dX5_sp_5 : decode cX5_sp 5 = .ok (.iload_n 1, 1) := by decide +kernel
theorem dX5_sp_6 : decode cX5_sp 6 = .ok (.imul, 1) := by decide +kernel
theorem dX5_sp_7 : decode cX5_sp 7 = .ok (.iload_n 2, 1) := by decide +kernel
theorem dX5_sp_8 : decode cX5_sp 8 = .ok (.iadd, 1) := by decide +kernel
theorem dX5_sp_9 : decode cX5_sp 9 = .ok (.iaload, 1) := by decide +kernel
theorem dX5_sp_10 : decode cX5_sp 10 = .ok (.ireturn, 1) := by decide +kernel
theorem dX5_note_0 : decode cX5_note 0 = .ok (.iconst 5, 1) := by decide +kernel
theorem dX5_note_1 : decode cX5_note 1 = .ok (.aload_n 0, 1) := by decide +kernel
theorem dX5_note_2 : decode cX5_note 2 = .ok (.iload_n 1, 1) := by decide +kernel
theorem dX5_note_3 : decode cX5_note 3 = .ok (.iconst 0, 1) := by decide +kernel
theorem dX5_note_4 : decode cX5_note 4 = .ok (.invokevirtual 77, 3) := by decide +kernel
theorem dX5_note_7 : decode cX5_note 7 = .ok (.imul, 1) := by decide +kernel
theorem dX5_note_8 : decode cX5_note 8 = .ok (.iconst 1, 1) := by decide +kernel
theorem dX5_note_9 : decode cX5_note 9 = .ok (.iadd, 1) := by decide +kernel
theorem dX5_note_10 : decode cX5_note 10 = .ok (.istore_n 3, 1) := by decide +kernel
theorem dX5_note_11 : decode cX5_note 11 = .ok (.aload_n 0, 1) := by decide +kernel
theorem dX5_note_12 : decode cX5_note 12 = .ok (.getfield 9, 3) := by decide +kernel
theorem dX5_note_15 : decode cX5_note 15 = .ok (.iload_n 3, 1) := by decide +kernel
theorem dX5_note_16 : decode cX5_note 16 = .ok (.dup2, 1) := by decide +kernel
theorem dX5_note_17 : decode cX5_note 17 = .ok (.iaload, 1) := by decide +kernel
theorem dX5_note_18 : decode cX5_note 18 = .ok (.bipush 10, 2) := by decide +kernel
theorem dX5_note_20 : decode cX5_note 20 = .ok (.aload_n 0, 1) := by decide +kernel
theorem dX5_note_21 : decode cX5_note 21 = .ok (.getfield 9, 3) := by decide +kernel
theorem dX5_note_24 : decode cX5_note 24 = .ok (.iload_n 3, 1) := by decide +kernel
theorem dX5_note_25 : decode cX5_note 25 = .ok (.iaload, 1) := by decide +kernel
theorem dX5_note_26 : decode cX5_note 26 = .ok (.invokestatic 61, 3) := by decide +kernel
theorem dX5_note_29 : decode cX5_note 29 = .ok (.isub, 1) := by decide +kernel
theorem dX5_note_30 : decode cX5_note 30 = .ok (.iastore, 1) := by decide +kernel
theorem dX5_note_31 : decode cX5_note 31 = .ok (.aload_n 0, 1) := by decide +kernel
theorem dX5_note_32 : decode cX5_note 32 = .ok (.iload_n 1, 1) := by decide +kernel
theorem dX5_note_33 : decode cX5_note 33 = .ok (.bipush 9, 2) := by decide +kernel
theorem dX5_note_35 : decode cX5_note 35 = .ok (.aload_n 0, 1) := by decide +kernel
theorem dX5_note_36 : decode cX5_note 36 = .ok (.iload_n 1, 1) := by decide +kernel
theorem dX5_note_37 : decode cX5_note 37 = .ok (.bipush 9, 2) := by decide +kernel
theorem dX5_note_39 : decode cX5_note 39 = .ok (.invokevirtual 77, 3) := by decide +kernel
theorem dX5_note_42 : decode cX5_note 42 = .ok (.iconst 1, 1) := by decide +kernel
theorem dX5_note_43 : decode cX5_note 43 = .ok (.iadd, 1) := by decide +kernel
theorem dX5_note_44 : decode cX5_note 44 = .ok (.invokevirtual 99, 3) := by decide +kernel
theorem dX5_note_47 : decode cX5_note 47 = .ok (.aload_n 0, 1) := by decide +kernel
theorem dX5_note_48 : decode cX5_note 48 = .ok (.getfield 112, 3) := by decide +kernel
theorem dX5_note_51 : decode cX5_note 51 = .ok (.ifCond .eq 4, 3) := by decide +kernel
theorem dX5_note_54 : decode cX5_note 54 = .ok (.return_, 1) := by decide +kernel
theorem dX5_note_55 : decode cX5_note 55 = .ok (.aload_n 0, 1) := by decide +kernel
theorem dX5_note_56 : decode cX5_note 56 = .ok (.dup, 1) := by decide +kernel
theorem dX5_note_57 : decode cX5_note 57 = .ok (.getfield 116, 3) := by decide +kernel
theorem dX5_note_60 : decode cX5_note 60 = .ok (.iconst 1, 1) := by decide +kernel
theorem dX5_note_61 : decode cX5_note 61 = .ok (.iadd, 1) := by decide +kernel
theorem dX5_note_62 : decode cX5_note 62 = .ok (.putfield 116, 3) := by decide +kernel
theorem dX5_note_65 : decode cX5_note 65 = .ok (.aload_n 0, 1) := by decide +kernel
theorem dX5_note_66 : decode cX5_note 66 = .ok (.getfield 119, 3) := by decide +kernel
theorem dX5_note_69 : decode cX5_note 69 = .ok (.sipush 250, 3) := by decide +kernel
theorem dX5_note_72 : decode cX5_note 72 = .ok (.if_icmp .ne 4, 3) := by decide +kernel
theorem dX5_note_75 : decode cX5_note 75 = .ok (.return_, 1) := by decide +kernel
theorem dX5_note_76 : decode cX5_note 76 = .ok (.iconst 4, 1) := by decide +kernel
theorem dX5_note_77 : decode cX5_note 77 = .ok (.newarray .int, 2) := by decide +kernel
theorem dX5_note_79 : decode cX5_note 79 = .ok (.dup, 1) := by decide +kernel
theorem dX5_note_80 : decode cX5_note 80 = .ok (.iconst 0, 1) := by decide +kernel
theorem dX5_note_81 : decode cX5_note 81 = .ok (.aload_n 0, 1) := by decide +kernel
theorem dX5_note_82 : decode cX5_note 82 = .ok (.getfield 122, 3) := by decide +kernel
theorem dX5_note_85 : decode cX5_note 85 = .ok (.iastore, 1) := by decide +kernel
theorem dX5_note_86 : decode cX5_note 86 = .ok (.dup, 1) := by decide +kernel
theorem dX5_note_87 : decode cX5_note 87 = .ok (.iconst 1, 1) := by decide +kernel
theorem dX5_note_88 : decode cX5_note 88 = .ok (.iload_n 1, 1) := by decide +kernel
theorem dX5_note_89 : decode cX5_note 89 = .ok (.iastore, 1) := by decide +kernel
theorem dX5_note_90 : decode cX5_note 90 = .ok (.dup, 1) := by decide +kernel
theorem dX5_note_91 : decode cX5_note 91 = .ok (.iconst 2, 1) := by decide +kernel
theorem dX5_note_92 : decode cX5_note 92 = .ok (.iload_n 2, 1) := by decide +kernel
theorem dX5_note_93 : decode cX5_note 93 = .ok (.iastore, 1) := by decide +kernel
theorem dX5_note_94 : decode cX5_note 94 = .ok (.dup, 1) := by decide +kernel
theorem dX5_note_95 : decode cX5_note 95 = .ok (.iconst 3, 1) := by decide +kernel
theorem dX5_note_96 : decode cX5_note 96 = .ok (.aload_n 0, 1) := by decide +kernel
theorem dX5_note_97 : decode cX5_note 97 = .ok (.getfield 23, 3) := by decide +kernel
theorem dX5_note_100 : decode cX5_note 100 = .ok (.bipush 6, 2) := by decide +kernel
theorem dX5_note_102 : decode cX5_note 102 = .ok (.iload_n 1, 1) := by decide +kernel
theorem dX5_note_103 : decode cX5_note 103 = .ok (.imul, 1) := by decide +kernel
theorem dX5_note_104 : decode cX5_note 104 = .ok (.iload_n 2, 1) := by decide +kernel
theorem dX5_note_105 : decode cX5_note 105 = .ok (.iadd, 1) := by decide +kernel
theorem dX5_note_106 : decode cX5_note 106 = .ok (.iaload, 1) := by decide +kernel
theorem dX5_note_107 : decode cX5_note 107 = .ok (.iastore, 1) := by decide +kernel
theorem dX5_note_108 : decode cX5_note 108 = .ok (.astore 4, 2) := by decide +kernel
theorem dX5_note_110 : decode cX5_note 110 = .ok (.aload 4, 2) := by decide +kernel
theorem dX5_note_112 : decode cX5_note 112 = .ok (.iconst 0, 1) := by decide +kernel
theorem dX5_note_113 : decode cX5_note 113 = .ok (.aload_n 0, 1) := by decide +kernel
theorem dX5_note_114 : decode cX5_note 114 = .ok (.getfield 29, 3) := by decide +kernel
theorem dX5_note_117 : decode cX5_note 117 = .ok (.iconst 4, 1) := by decide +kernel
theorem dX5_note_118 : decode cX5_note 118 = .ok (.aload_n 0, 1) := by decide +kernel
theorem dX5_note_119 : decode cX5_note 119 = .ok (.getfield 119, 3) := by decide +kernel
theorem dX5_note_122 : decode cX5_note 122 = .ok (.imul, 1) := by decide +kernel
theorem dX5_note_123 : decode cX5_note 123 = .ok (.iconst 4, 1) := by decide +kernel
theorem dX5_note_124 : decode cX5_note 124 = .ok (.invokestatic 90, 3) := by decide +kernel
theorem dX5_note_127 : decode cX5_note 127 = .ok (.aload_n 0, 1) := by decide +kernel
theorem dX5_note_128 : decode cX5_note 128 = .ok (.dup, 1) := by decide +kernel
theorem dX5_note_129 : decode cX5_note 129 = .ok (.getfield 119, 3) := by decide +kernel
theorem dX5_note_132 : decode cX5_note 132 = .ok (.iconst 1, 1) := by decide +kernel
theorem dX5_note_133 : decode cX5_note 133 = .ok (.iadd, 1) := by decide +kernel
theorem dX5_note_134 : decode cX5_note 134 = .ok (.putfield 119, 3) := by decide +kernel
theorem dX5_note_137 : decode cX5_note 137 = .ok (.return_, 1) := by decide +kernel
theorem dX5_turn_0 : decode cX5_turn 0 = .ok (.aload_n 0, 1) := by decide +kernel
theorem dX5_turn_1 : decode cX5_turn 1 = .ok (.iload_n 1, 1) := by decide +kernel
theorem dX5_turn_2 : decode cX5_turn 2 = .ok (.iconst 2, 1) := by decide +kernel
theorem dX5_turn_3 : decode cX5_turn 3 = .ok (.invokevirtual 77, 3) := by decide +kernel
theorem dX5_turn_6 : decode cX5_turn 6 = .ok (.istore_n 2, 1) := by decide +kernel
theorem dX5_turn_7 : decode cX5_turn 7 = .ok (.aload_n 0, 1) := by decide +kernel
theorem dX5_turn_8 : decode cX5_turn 8 = .ok (.aload_n 0, 1) := by decide +kernel
theorem dX5_turn_9 : decode cX5_turn 9 = .ok (.iload_n 1, 1) := by decide +kernel
theorem dX5_turn_10 : decode cX5_turn 10 = .ok (.iconst 0, 1) := by decide +kernel
theorem dX5_turn_11 : decode cX5_turn 11 = .ok (.invokevirtual 77, 3) := by decide +kernel
theorem dX5_turn_14 : decode cX5_turn 14 = .ok (.iconst 2, 1) := by decide +kernel
theorem dX5_turn_15 : decode cX5_turn 15 = .ok (.invokevirtual 67, 3) := by decide +kernel
theorem dX5_turn_18 : decode cX5_turn 18 = .ok (.aload_n 0, 1) := by decide +kernel
theorem dX5_turn_19 : decode cX5_turn 19 = .ok (.iload_n 1, 1) := by decide +kernel
theorem dX5_turn_20 : decode cX5_turn 20 = .ok (.bipush 10, 2) := by decide +kernel
theorem dX5_turn_22 : decode cX5_turn 22 = .ok (.invokevirtual 77, 3) := by decide +kernel
theorem dX5_turn_25 : decode cX5_turn 25 = .ok (.isub, 1) := by decide +kernel
theorem dX5_turn_26 : decode cX5_turn 26 = .ok (.i2l, 1) := by decide +kernel
theorem dX5_turn_27 : decode cX5_turn 27 = .ok (.lstore_n 3, 1) := by decide +kernel
theorem dX5_turn_28 : decode cX5_turn 28 = .ok (.lload_n 3, 1) := by decide +kernel
theorem dX5_turn_29 : decode cX5_turn 29 = .ok (.aload_n 0, 1) := by decide +kernel
theorem dX5_turn_30 : decode cX5_turn 30 = .ok (.iload_n 1, 1) := by decide +kernel
theorem dX5_turn_31 : decode cX5_turn 31 = .ok (.iconst 3, 1) := by decide +kernel
theorem dX5_turn_32 : decode cX5_turn 32 = .ok (.invokevirtual 77, 3) := by decide +kernel
theorem dX5_turn_35 : decode cX5_turn 35 = .ok (.i2l, 1) := by decide +kernel
theorem dX5_turn_36 : decode cX5_turn 36 = .ok (.lmul, 1) := by decide +kernel
theorem dX5_turn_37 : decode cX5_turn 37 = .ok (.iload_n 2, 1) := by decide +kernel
theorem dX5_turn_38 : decode cX5_turn 38 = .ok (.i2l, 1) := by decide +kernel
theorem dX5_turn_39 : decode cX5_turn 39 = .ok (.lmul, 1) := by decide +kernel
theorem dX5_turn_40 : decode cX5_turn 40 = .ok (.ldc2_w 125, 3) := by decide +kernel
theorem dX5_turn_43 : decode cX5_turn 43 = .ok (.aload_n 0, 1) := by decide +kernel
theorem dX5_turn_44 : decode cX5_turn 44 = .ok (.iload_n 1, 1) := by decide +kernel
theorem dX5_turn_45 : decode cX5_turn 45 = .ok (.iconst 4, 1) := by decide +kernel
theorem dX5_turn_46 : decode cX5_turn 46 = .ok (.invokevirtual 77, 3) := by decide +kernel
theorem dX5_turn_49 : decode cX5_turn 49 = .ok (.i2l, 1) := by decide +kernel
theorem dX5_turn_50 : decode cX5_turn 50 = .ok (.lmul, 1) := by decide +kernel
theorem dX5_turn_51 : decode cX5_turn 51 = .ok (.ldiv, 1) := by decide +kernel
theorem dX5_turn_52 : decode cX5_turn 52 = .ok (.l2i, 1) := by decide +kernel
theorem dX5_turn_53 : decode cX5_turn 53 = .ok (.istore 5, 2) := by decide +kernel
theorem dX5_turn_55 : decode cX5_turn 55 = .ok (.aload_n 0, 1) := by decide +kernel
theorem dX5_turn_56 : decode cX5_turn 56 = .ok (.iload_n 1, 1) := by decide +kernel
theorem dX5_turn_57 : decode cX5_turn 57 = .ok (.bipush 8, 2) := by decide +kernel
theorem dX5_turn_59 : decode cX5_turn 59 = .ok (.invokevirtual 77, 3) := by decide +kernel
theorem dX5_turn_62 : decode cX5_turn 62 = .ok (.iconst 1, 1) := by decide +kernel
theorem dX5_turn_63 : decode cX5_turn 63 = .ok (.iadd, 1) := by decide +kernel
theorem dX5_turn_64 : decode cX5_turn 64 = .ok (.iload 5, 2) := by decide +kernel
theorem dX5_turn_66 : decode cX5_turn 66 = .ok (.iload_n 2, 1) := by decide +kernel
theorem dX5_turn_67 : decode cX5_turn 67 = .ok (.isub, 1) := by decide +kernel
theorem dX5_turn_68 : decode cX5_turn 68 = .ok (.iconst 1, 1) := by decide +kernel
theorem dX5_turn_69 : decode cX5_turn 69 = .ok (.iadd, 1) := by decide +kernel
theorem dX5_turn_70 : decode cX5_turn 70 = .ok (.invokestatic 70, 3) := by decide +kernel
theorem dX5_turn_73 : decode cX5_turn 73 = .ok (.istore 6, 2) := by decide +kernel
theorem dX5_turn_75 : decode cX5_turn 75 = .ok (.iload 6, 2) := by decide +kernel
theorem dX5_turn_77 : decode cX5_turn 77 = .ok (.iload 5, 2) := by decide +kernel
theorem dX5_turn_79 : decode cX5_turn 79 = .ok (.if_icmp .gt 59, 3) := by decide +kernel
theorem dX5_turn_82 : decode cX5_turn 82 = .ok (.aload_n 0, 1) := by decide +kernel
theorem dX5_turn_83 : decode cX5_turn 83 = .ok (.getfield 20, 3) := by decide +kernel
theorem dX5_turn_86 : decode cX5_turn 86 = .ok (.bipush 96, 2) := by decide +kernel
theorem dX5_turn_88 : decode cX5_turn 88 = .ok (.iload_n 1, 1) := by decide +kernel
theorem dX5_turn_89 : decode cX5_turn 89 = .ok (.imul, 1) := by decide +kernel
theorem dX5_turn_90 : decode cX5_turn 90 = .ok (.iload 6, 2) := by decide +kernel
theorem dX5_turn_92 : decode cX5_turn 92 = .ok (.iload_n 2, 1) := by decide +kernel
theorem dX5_turn_93 : decode cX5_turn 93 = .ok (.irem, 1) := by decide +kernel
theorem dX5_turn_94 : decode cX5_turn 94 = .ok (.iadd, 1) := by decide +kernel
theorem dX5_turn_95 : decode cX5_turn 95 = .ok (.iaload, 1) := by decide +kernel
theorem dX5_turn_96 : decode cX5_turn 96 = .ok (.istore 7, 2) := by decide +kernel
theorem dX5_turn_98 : decode cX5_turn 98 = .ok (.iconst 0, 1) := by decide +kernel
theorem dX5_turn_99 : decode cX5_turn 99 = .ok (.istore 8, 2) := by decide +kernel
theorem dX5_turn_101 : decode cX5_turn 101 = .ok (.iload 8, 2) := by decide +kernel
theorem dX5_turn_103 : decode cX5_turn 103 = .ok (.bipush 6, 2) := by decide +kernel
theorem dX5_turn_105 : decode cX5_turn 105 = .ok (.if_icmp .ge 27, 3) := by decide +kernel
theorem dX5_turn_108 : decode cX5_turn 108 = .ok (.iload 7, 2) := by decide +kernel
theorem dX5_turn_110 : decode cX5_turn 110 = .ok (.iload 8, 2) := by decide +kernel
theorem dX5_turn_112 : decode cX5_turn 112 = .ok (.ishr, 1) := by decide +kernel
theorem dX5_turn_113 : decode cX5_turn 113 = .ok (.iconst 1, 1) := by decide +kernel
theorem dX5_turn_114 : decode cX5_turn 114 = .ok (.iand, 1) := by decide +kernel
theorem dX5_turn_115 : decode cX5_turn 115 = .ok (.iconst 1, 1) := by decide +kernel
theorem dX5_turn_116 : decode cX5_turn 116 = .ok (.if_icmp .ne 10, 3) := by decide +kernel
theorem dX5_turn_119 : decode cX5_turn 119 = .ok (.aload_n 0, 1) := by decide +kernel
theorem dX5_turn_120 : decode cX5_turn 120 = .ok (.iload_n 1, 1) := by decide +kernel
theorem dX5_turn_121 : decode cX5_turn 121 = .ok (.iload 8, 2) := by decide +kernel
theorem dX5_turn_123 : decode cX5_turn 123 = .ok (.invokevirtual 127, 3) := by decide +kernel
theorem dX5_turn_126 : decode cX5_turn 126 = .ok (.iinc 8 1, 3) := by decide +kernel
theorem dX5_turn_129 : decode cX5_turn 129 = .ok (.goto (-28), 3) := by decide +kernel
theorem dX5_turn_132 : decode cX5_turn 132 = .ok (.iinc 6 1, 3) := by decide +kernel
theorem dX5_turn_135 : decode cX5_turn 135 = .ok (.goto (-60), 3) := by decide +kernel
theorem dX5_turn_138 : decode cX5_turn 138 = .ok (.aload_n 0, 1) := by decide +kernel
theorem dX5_turn_139 : decode cX5_turn 139 = .ok (.iload_n 1, 1) := by decide +kernel
theorem dX5_turn_140 : decode cX5_turn 140 = .ok (.bipush 8, 2) := by decide +kernel
theorem dX5_turn_142 : decode cX5_turn 142 = .ok (.iload 5, 2) := by decide +kernel
theorem dX5_turn_144 : decode cX5_turn 144 = .ok (.invokevirtual 99, 3) := by decide +kernel
theorem dX5_turn_147 : decode cX5_turn 147 = .ok (.aload_n 0, 1) := by decide +kernel
theorem dX5_turn_148 : decode cX5_turn 148 = .ok (.iload_n 1, 1) := by decide +kernel
theorem dX5_turn_149 : decode cX5_turn 149 = .ok (.iconst 5, 1) := by decide +kernel
theorem dX5_turn_150 : decode cX5_turn 150 = .ok (.iload 5, 2) := by decide +kernel
theorem dX5_turn_152 : decode cX5_turn 152 = .ok (.iload_n 2, 1) := by decide +kernel
theorem dX5_turn_153 : decode cX5_turn 153 = .ok (.irem, 1) := by decide +kernel
theorem dX5_turn_154 : decode cX5_turn 154 = .ok (.invokevirtual 99, 3) := by decide +kernel
theorem dX5_turn_157 : decode cX5_turn 157 = .ok (.return_, 1) := by decide +kernel
theorem dX5_oneTick_0 : decode cX5_oneTick 0 = .ok (.aload_n 0, 1) := by decide +kernel
theorem dX5_oneTick_1 : decode cX5_oneTick 1 = .ok (.dup, 1) := by decide +kernel
theorem dX5_oneTick_2 : decode cX5_oneTick 2 = .ok (.getfield 122, 3) := by decide +kernel
theorem dX5_oneTick_5 : decode cX5_oneTick 5 = .ok (.iconst 1, 1) := by decide +kernel
theorem dX5_oneTick_6 : decode cX5_oneTick 6 = .ok (.iadd, 1) := by decide +kernel
theorem dX5_oneTick_7 : decode cX5_oneTick 7 = .ok (.putfield 122, 3) := by decide +kernel
theorem dX5_oneTick_10 : decode cX5_oneTick 10 = .ok (.iconst 0, 1) := by decide +kernel
theorem dX5_oneTick_11 : decode cX5_oneTick 11 = .ok (.istore_n 1, 1) := by decide +kernel
theorem dX5_oneTick_12 : decode cX5_oneTick 12 = .ok (.iload_n 1, 1) := by decide +kernel
theorem dX5_oneTick_13 : decode cX5_oneTick 13 = .ok (.aload_n 0, 1) := by decide +kernel
theorem dX5_oneTick_14 : decode cX5_oneTick 14 = .ok (.getfield 42, 3) := by decide +kernel
theorem dX5_oneTick_17 : decode cX5_oneTick 17 = .ok (.if_icmp .ge 88, 3) := by decide +kernel
theorem dX5_oneTick_20 : decode cX5_oneTick 20 = .ok (.iload_n 1, 1) := by decide +kernel
theorem dX5_oneTick_21 : decode cX5_oneTick 21 = .ok (.iconst 1, 1) := by decide +kernel
theorem dX5_oneTick_22 : decode cX5_oneTick 22 = .ok (.iadd, 1) := by decide +kernel
theorem dX5_oneTick_23 : decode cX5_oneTick 23 = .ok (.istore_n 2, 1) := by decide +kernel
theorem dX5_oneTick_24 : decode cX5_oneTick 24 = .ok (.iload_n 2, 1) := by decide +kernel
theorem dX5_oneTick_25 : decode cX5_oneTick 25 = .ok (.aload_n 0, 1) := by decide +kernel
theorem dX5_oneTick_26 : decode cX5_oneTick 26 = .ok (.getfield 42, 3) := by decide +kernel
theorem dX5_oneTick_29 : decode cX5_oneTick 29 = .ok (.if_icmp .ge 70, 3) := by decide +kernel
theorem dX5_oneTick_32 : decode cX5_oneTick 32 = .ok (.aload_n 0, 1) := by decide +kernel
theorem dX5_oneTick_33 : decode cX5_oneTick 33 = .ok (.getfield 16, 3) := by decide +kernel
theorem dX5_oneTick_36 : decode cX5_oneTick 36 = .ok (.iconst 4, 1) := by decide +kernel
theorem dX5_oneTick_37 : decode cX5_oneTick 37 = .ok (.iload_n 1, 1) := by decide +kernel
theorem dX5_oneTick_38 : decode cX5_oneTick 38 = .ok (.imul, 1) := by decide +kernel
theorem dX5_oneTick_39 : decode cX5_oneTick 39 = .ok (.iload_n 2, 1) := by decide +kernel
theorem dX5_oneTick_40 : decode cX5_oneTick 40 = .ok (.iadd, 1) := by decide +kernel
theorem dX5_oneTick_41 : decode cX5_oneTick 41 = .ok (.baload, 1) := by decide +kernel
theorem dX5_oneTick_42 : decode cX5_oneTick 42 = .ok (.ifCond .ne 6, 3) := by decide +kernel
theorem dX5_oneTick_45 : decode cX5_oneTick 45 = .ok (.goto 48, 3) := by decide +kernel
theorem dX5_oneTick_48 : decode cX5_oneTick 48 = .ok (.aload_n 0, 1) := by decide +kernel
theorem dX5_oneTick_49 : decode cX5_oneTick 49 = .ok (.iload_n 1, 1) := by decide +kernel
theorem dX5_oneTick_50 : decode cX5_oneTick 50 = .ok (.iconst 1, 1) := by decide +kernel
theorem dX5_oneTick_51 : decode cX5_oneTick 51 = .ok (.invokevirtual 67, 3) := by decide +kernel
theorem dX5_oneTick_54 : decode cX5_oneTick 54 = .ok (.aload_n 0, 1) := by decide +kernel
theorem dX5_oneTick_55 : decode cX5_oneTick 55 = .ok (.iload_n 2, 1) := by decide +kernel
theorem dX5_oneTick_56 : decode cX5_oneTick 56 = .ok (.iconst 1, 1) := by decide +kernel
theorem dX5_oneTick_57 : decode cX5_oneTick 57 = .ok (.invokevirtual 67, 3) := by decide +kernel
theorem dX5_oneTick_60 : decode cX5_oneTick 60 = .ok (.isub, 1) := by decide +kernel
theorem dX5_oneTick_61 : decode cX5_oneTick 61 = .ok (.bipush 10, 2) := by decide +kernel
theorem dX5_oneTick_63 : decode cX5_oneTick 63 = .ok (.idiv, 1) := by decide +kernel
theorem dX5_oneTick_64 : decode cX5_oneTick 64 = .ok (.istore_n 3, 1) := by decide +kernel
theorem dX5_oneTick_65 : decode cX5_oneTick 65 = .ok (.aload_n 0, 1) := by decide +kernel
theorem dX5_oneTick_66 : decode cX5_oneTick 66 = .ok (.getfield 9, 3) := by decide +kernel
theorem dX5_oneTick_69 : decode cX5_oneTick 69 = .ok (.iconst 5, 1) := by decide +kernel
theorem dX5_oneTick_70 : decode cX5_oneTick 70 = .ok (.iload_n 1, 1) := by decide +kernel
theorem dX5_oneTick_71 : decode cX5_oneTick 71 = .ok (.imul, 1) := by decide +kernel
theorem dX5_oneTick_72 : decode cX5_oneTick 72 = .ok (.iconst 1, 1) := by decide +kernel
theorem dX5_oneTick_73 : decode cX5_oneTick 73 = .ok (.iadd, 1) := by decide +kernel
theorem dX5_oneTick_74 : decode cX5_oneTick 74 = .ok (.dup2, 1) := by decide +kernel
theorem dX5_oneTick_75 : decode cX5_oneTick 75 = .ok (.iaload, 1) := by decide +kernel
theorem dX5_oneTick_76 : decode cX5_oneTick 76 = .ok (.iload_n 3, 1) := by decide +kernel
theorem dX5_oneTick_77 : decode cX5_oneTick 77 = .ok (.isub, 1) := by decide +kernel
theorem dX5_oneTick_78 : decode cX5_oneTick 78 = .ok (.iastore, 1) := by decide +kernel
theorem dX5_oneTick_79 : decode cX5_oneTick 79 = .ok (.aload_n 0, 1) := by decide +kernel
theorem dX5_oneTick_80 : decode cX5_oneTick 80 = .ok (.getfield 9, 3) := by decide +kernel
theorem dX5_oneTick_83 : decode cX5_oneTick 83 = .ok (.iconst 5, 1) := by decide +kernel
theorem dX5_oneTick_84 : decode cX5_oneTick 84 = .ok (.iload_n 2, 1) := by decide +kernel
theorem dX5_oneTick_85 : decode cX5_oneTick 85 = .ok (.imul, 1) := by decide +kernel
theorem dX5_oneTick_86 : decode cX5_oneTick 86 = .ok (.iconst 1, 1) := by decide +kernel
theorem dX5_oneTick_87 : decode cX5_oneTick 87 = .ok (.iadd, 1) := by decide +kernel
theorem dX5_oneTick_88 : decode cX5_oneTick 88 = .ok (.dup2, 1) := by decide +kernel
theorem dX5_oneTick_89 : decode cX5_oneTick 89 = .ok (.iaload, 1) := by decide +kernel
theorem dX5_oneTick_90 : decode cX5_oneTick 90 = .ok (.iload_n 3, 1) := by decide +kernel
theorem dX5_oneTick_91 : decode cX5_oneTick 91 = .ok (.iadd, 1) := by decide +kernel
theorem dX5_oneTick_92 : decode cX5_oneTick 92 = .ok (.iastore, 1) := by decide +kernel
theorem dX5_oneTick_93 : decode cX5_oneTick 93 = .ok (.iinc 2 1, 3) := by decide +kernel
theorem dX5_oneTick_96 : decode cX5_oneTick 96 = .ok (.goto (-72), 3) := by decide +kernel
theorem dX5_oneTick_99 : decode cX5_oneTick 99 = .ok (.iinc 1 1, 3) := by decide +kernel
theorem dX5_oneTick_102 : decode cX5_oneTick 102 = .ok (.goto (-90), 3) := by decide +kernel
theorem dX5_oneTick_105 : decode cX5_oneTick 105 = .ok (.iconst 0, 1) := by decide +kernel
theorem dX5_oneTick_106 : decode cX5_oneTick 106 = .ok (.istore_n 1, 1) := by decide +kernel
theorem dX5_oneTick_107 : decode cX5_oneTick 107 = .ok (.iload_n 1, 1) := by decide +kernel
theorem dX5_oneTick_108 : decode cX5_oneTick 108 = .ok (.aload_n 0, 1) := by decide +kernel
theorem dX5_oneTick_109 : decode cX5_oneTick 109 = .ok (.getfield 42, 3) := by decide +kernel
theorem dX5_oneTick_112 : decode cX5_oneTick 112 = .ok (.if_icmp .ge 160, 3) := by decide +kernel
theorem dX5_oneTick_115 : decode cX5_oneTick 115 = .ok (.aload_n 0, 1) := by decide +kernel
theorem dX5_oneTick_116 : decode cX5_oneTick 116 = .ok (.iload_n 1, 1) := by decide +kernel
theorem dX5_oneTick_117 : decode cX5_oneTick 117 = .ok (.iconst 1, 1) := by decide +kernel
theorem dX5_oneTick_118 : decode cX5_oneTick 118 = .ok (.invokevirtual 67, 3) := by decide +kernel
theorem dX5_oneTick_121 : decode cX5_oneTick 121 = .ok (.istore_n 2, 1) := by decide +kernel
theorem dX5_oneTick_122 : decode cX5_oneTick 122 = .ok (.aload_n 0, 1) := by decide +kernel
theorem dX5_oneTick_123 : decode cX5_oneTick 123 = .ok (.iload_n 1, 1) := by decide +kernel
theorem dX5_oneTick_124 : decode cX5_oneTick 124 = .ok (.iconst 4, 1) := by decide +kernel
theorem dX5_oneTick_125 : decode cX5_oneTick 125 = .ok (.invokevirtual 67, 3) := by decide +kernel
theorem dX5_oneTick_128 : decode cX5_oneTick 128 = .ok (.iconst 1, 1) := by decide +kernel
theorem dX5_oneTick_129 : decode cX5_oneTick 129 = .ok (.if_icmp .eq 7, 3) := by decide +kernel
theorem dX5_oneTick_132 : decode cX5_oneTick 132 = .ok (.iload_n 2, 1) := by decide +kernel
theorem dX5_oneTick_133 : decode cX5_oneTick 133 = .ok (.ifCond .ne 7, 3) := by decide +kernel
theorem dX5_oneTick_136 : decode cX5_oneTick 136 = .ok (.iconst 0, 1) := by decide +kernel
theorem dX5_oneTick_137 : decode cX5_oneTick 137 = .ok (.goto 35, 3) := by decide +kernel
theorem dX5_oneTick_140 : decode cX5_oneTick 140 = .ok (.iload_n 2, 1) := by decide +kernel
theorem dX5_oneTick_141 : decode cX5_oneTick 141 = .ok (.iconst 1, 1) := by decide +kernel
theorem dX5_oneTick_142 : decode cX5_oneTick 142 = .ok (.sipush 400, 3) := by decide +kernel
theorem dX5_oneTick_145 : decode cX5_oneTick 145 = .ok (.aload_n 0, 1) := by decide +kernel
theorem dX5_oneTick_146 : decode cX5_oneTick 146 = .ok (.iload_n 1, 1) := by decide +kernel
theorem dX5_oneTick_147 : decode cX5_oneTick 147 = .ok (.iconst 0, 1) := by decide +kernel
theorem dX5_oneTick_148 : decode cX5_oneTick 148 = .ok (.invokevirtual 67, 3) := by decide +kernel
theorem dX5_oneTick_151 : decode cX5_oneTick 151 = .ok (.iload_n 2, 1) := by decide +kernel
theorem dX5_oneTick_152 : decode cX5_oneTick 152 = .ok (.imul, 1) := by decide +kernel
theorem dX5_oneTick_153 : decode cX5_oneTick 153 = .ok (.sipush 200, 3) := by decide +kernel
theorem dX5_oneTick_156 : decode cX5_oneTick 156 = .ok (.aload_n 0, 1) := by decide +kernel
theorem dX5_oneTick_157 : decode cX5_oneTick 157 = .ok (.iload_n 1, 1) := by decide +kernel
theorem dX5_oneTick_158 : decode cX5_oneTick 158 = .ok (.invokevirtual 84, 3) := by decide +kernel
theorem dX5_oneTick_161 : decode cX5_oneTick 161 = .ok (.imul, 1) := by decide +kernel
theorem dX5_oneTick_162 : decode cX5_oneTick 162 = .ok (.idiv, 1) := by decide +kernel
theorem dX5_oneTick_163 : decode cX5_oneTick 163 = .ok (.invokestatic 61, 3) := by decide +kernel
theorem dX5_oneTick_166 : decode cX5_oneTick 166 = .ok (.invokestatic 70, 3) := by decide +kernel
theorem dX5_oneTick_169 : decode cX5_oneTick 169 = .ok (.invokestatic 61, 3) := by decide +kernel
theorem dX5_oneTick_172 : decode cX5_oneTick 172 = .ok (.istore_n 3, 1) := by decide +kernel
theorem dX5_oneTick_173 : decode cX5_oneTick 173 = .ok (.aload_n 0, 1) := by decide +kernel
theorem dX5_oneTick_174 : decode cX5_oneTick 174 = .ok (.getfield 9, 3) := by decide +kernel
theorem dX5_oneTick_177 : decode cX5_oneTick 177 = .ok (.iconst 5, 1) := by decide +kernel
theorem dX5_oneTick_178 : decode cX5_oneTick 178 = .ok (.iload_n 1, 1) := by decide +kernel
theorem dX5_oneTick_179 : decode cX5_oneTick 179 = .ok (.imul, 1) := by decide +kernel
theorem dX5_oneTick_180 : decode cX5_oneTick 180 = .ok (.iconst 3, 1) := by decide +kernel
theorem dX5_oneTick_181 : decode cX5_oneTick 181 = .ok (.iadd, 1) := by decide +kernel
theorem dX5_oneTick_182 : decode cX5_oneTick 182 = .ok (.iload_n 3, 1) := by decide +kernel
theorem dX5_oneTick_183 : decode cX5_oneTick 183 = .ok (.iastore, 1) := by decide +kernel
theorem dX5_oneTick_184 : decode cX5_oneTick 184 = .ok (.iload_n 3, 1) := by decide +kernel
theorem dX5_oneTick_185 : decode cX5_oneTick 185 = .ok (.ifCond .ne 6, 3) := by decide +kernel
theorem dX5_oneTick_188 : decode cX5_oneTick 188 = .ok (.goto 78, 3) := by decide +kernel
theorem dX5_oneTick_191 : decode cX5_oneTick 191 = .ok (.aload_n 0, 1) := by decide +kernel
theorem dX5_oneTick_192 : decode cX5_oneTick 192 = .ok (.getfield 9, 3) := by decide +kernel
theorem dX5_oneTick_195 : decode cX5_oneTick 195 = .ok (.iconst 5, 1) := by decide +kernel
theorem dX5_oneTick_196 : decode cX5_oneTick 196 = .ok (.iload_n 1, 1) := by decide +kernel
theorem dX5_oneTick_197 : decode cX5_oneTick 197 = .ok (.imul, 1) := by decide +kernel
theorem dX5_oneTick_198 : decode cX5_oneTick 198 = .ok (.iconst 1, 1) := by decide +kernel
theorem dX5_oneTick_199 : decode cX5_oneTick 199 = .ok (.iadd, 1) := by decide +kernel
theorem dX5_oneTick_200 : decode cX5_oneTick 200 = .ok (.dup2, 1) := by decide +kernel
theorem dX5_oneTick_201 : decode cX5_oneTick 201 = .ok (.iaload, 1) := by decide +kernel
theorem dX5_oneTick_202 : decode cX5_oneTick 202 = .ok (.iload_n 3, 1) := by decide +kernel
theorem dX5_oneTick_203 : decode cX5_oneTick 203 = .ok (.isub, 1) := by decide +kernel
theorem dX5_oneTick_204 : decode cX5_oneTick 204 = .ok (.iastore, 1) := by decide +kernel
theorem dX5_oneTick_205 : decode cX5_oneTick 205 = .ok (.aload_n 0, 1) := by decide +kernel
theorem dX5_oneTick_206 : decode cX5_oneTick 206 = .ok (.getfield 9, 3) := by decide +kernel
theorem dX5_oneTick_209 : decode cX5_oneTick 209 = .ok (.iconst 5, 1) := by decide +kernel
theorem dX5_oneTick_210 : decode cX5_oneTick 210 = .ok (.iload_n 1, 1) := by decide +kernel
theorem dX5_oneTick_211 : decode cX5_oneTick 211 = .ok (.imul, 1) := by decide +kernel
theorem dX5_oneTick_212 : decode cX5_oneTick 212 = .ok (.iconst 2, 1) := by decide +kernel
theorem dX5_oneTick_213 : decode cX5_oneTick 213 = .ok (.iadd, 1) := by decide +kernel
theorem dX5_oneTick_214 : decode cX5_oneTick 214 = .ok (.dup2, 1) := by decide +kernel
theorem dX5_oneTick_215 : decode cX5_oneTick 215 = .ok (.iaload, 1) := by decide +kernel
theorem dX5_oneTick_216 : decode cX5_oneTick 216 = .ok (.iload_n 3, 1) := by decide +kernel
theorem dX5_oneTick_217 : decode cX5_oneTick 217 = .ok (.iadd, 1) := by decide +kernel
theorem dX5_oneTick_218 : decode cX5_oneTick 218 = .ok (.iastore, 1) := by decide +kernel
theorem dX5_oneTick_219 : decode cX5_oneTick 219 = .ok (.iconst 0, 1) := by decide +kernel
theorem dX5_oneTick_220 : decode cX5_oneTick 220 = .ok (.istore 4, 2) := by decide +kernel
theorem dX5_oneTick_222 : decode cX5_oneTick 222 = .ok (.iload 4, 2) := by decide +kernel
theorem dX5_oneTick_224 : decode cX5_oneTick 224 = .ok (.aload_n 0, 1) := by decide +kernel
theorem dX5_oneTick_225 : decode cX5_oneTick 225 = .ok (.getfield 49, 3) := by decide +kernel
theorem dX5_oneTick_228 : decode cX5_oneTick 228 = .ok (.if_icmp .ge 38, 3) := by decide +kernel
theorem dX5_oneTick_231 : decode cX5_oneTick 231 = .ok (.aload_n 0, 1) := by decide +kernel
theorem dX5_oneTick_232 : decode cX5_oneTick 232 = .ok (.iload 4, 2) := by decide +kernel
theorem dX5_oneTick_234 : decode cX5_oneTick 234 = .ok (.iconst 0, 1) := by decide +kernel
theorem dX5_oneTick_235 : decode cX5_oneTick 235 = .ok (.invokevirtual 77, 3) := by decide +kernel
theorem dX5_oneTick_238 : decode cX5_oneTick 238 = .ok (.iload_n 1, 1) := by decide +kernel
theorem dX5_oneTick_239 : decode cX5_oneTick 239 = .ok (.if_icmp .ne 21, 3) := by decide +kernel
theorem dX5_oneTick_242 : decode cX5_oneTick 242 = .ok (.aload_n 0, 1) := by decide +kernel
theorem dX5_oneTick_243 : decode cX5_oneTick 243 = .ok (.iload 4, 2) := by decide +kernel
theorem dX5_oneTick_245 : decode cX5_oneTick 245 = .ok (.bipush 6, 2) := by decide +kernel
theorem dX5_oneTick_247 : decode cX5_oneTick 247 = .ok (.invokevirtual 77, 3) := by decide +kernel
theorem dX5_oneTick_250 : decode cX5_oneTick 250 = .ok (.iconst 1, 1) := by decide +kernel
theorem dX5_oneTick_251 : decode cX5_oneTick 251 = .ok (.if_icmp .ne 9, 3) := by decide +kernel
theorem dX5_oneTick_254 : decode cX5_oneTick 254 = .ok (.aload_n 0, 1) := by decide +kernel
theorem dX5_oneTick_255 : decode cX5_oneTick 255 = .ok (.iload 4, 2) := by decide +kernel
theorem dX5_oneTick_257 : decode cX5_oneTick 257 = .ok (.invokevirtual 131, 3) := by decide +kernel
theorem dX5_oneTick_260 : decode cX5_oneTick 260 = .ok (.iinc 4 1, 3) := by decide +kernel
theorem dX5_oneTick_263 : decode cX5_oneTick 263 = .ok (.goto (-41), 3) := by decide +kernel
theorem dX5_oneTick_266 : decode cX5_oneTick 266 = .ok (.iinc 1 1, 3) := by decide +kernel
theorem dX5_oneTick_269 : decode cX5_oneTick 269 = .ok (.goto (-162), 3) := by decide +kernel
theorem dX5_oneTick_272 : decode cX5_oneTick 272 = .ok (.return_, 1) := by decide +kernel
theorem dX5_run_0 : decode cX5_run 0 = .ok (.aload_n 0, 1) := by decide +kernel
theorem dX5_run_1 : decode cX5_run 1 = .ok (.iconst 0, 1) := by decide +kernel
theorem dX5_run_2 : decode cX5_run 2 = .ok (.putfield 38, 3) := by decide +kernel
theorem dX5_run_5 : decode cX5_run 5 = .ok (.iload_n 1, 1) := by decide +kernel
theorem dX5_run_6 : decode cX5_run 6 = .ok (.iconst 1, 1) := by decide +kernel
theorem dX5_run_7 : decode cX5_run 7 = .ok (.sipush 500, 3) := by decide +kernel
theorem dX5_run_10 : decode cX5_run 10 = .ok (.invokestatic 45, 3) := by decide +kernel
theorem dX5_run_13 : decode cX5_run 13 = .ok (.ifCond .ne 9, 3) := by decide +kernel
theorem dX5_run_16 : decode cX5_run 16 = .ok (.aload_n 0, 1) := by decide +kernel
theorem dX5_run_17 : decode cX5_run 17 = .ok (.iconst 1, 1) := by decide +kernel
theorem dX5_run_18 : decode cX5_run 18 = .ok (.invokevirtual 52, 3) := by decide +kernel
theorem dX5_run_21 : decode cX5_run 21 = .ok (.ireturn, 1) := by decide +kernel
theorem dX5_run_22 : decode cX5_run 22 = .ok (.aload_n 0, 1) := by decide +kernel
theorem dX5_run_23 : decode cX5_run 23 = .ok (.getfield 116, 3) := by decide +kernel
theorem dX5_run_26 : decode cX5_run 26 = .ok (.istore_n 2, 1) := by decide +kernel
theorem dX5_run_27 : decode cX5_run 27 = .ok (.iconst 0, 1) := by decide +kernel
theorem dX5_run_28 : decode cX5_run 28 = .ok (.istore_n 3, 1) := by decide +kernel
theorem dX5_run_29 : decode cX5_run 29 = .ok (.iload_n 3, 1) := by decide +kernel
theorem dX5_run_30 : decode cX5_run 30 = .ok (.iload_n 1, 1) := by decide +kernel
theorem dX5_run_31 : decode cX5_run 31 = .ok (.if_icmp .ge 13, 3) := by decide +kernel
theorem dX5_run_34 : decode cX5_run 34 = .ok (.aload_n 0, 1) := by decide +kernel
theorem dX5_run_35 : decode cX5_run 35 = .ok (.invokevirtual 135, 3) := by decide +kernel
theorem dX5_run_38 : decode cX5_run 38 = .ok (.iinc 3 1, 3) := by decide +kernel
theorem dX5_run_41 : decode cX5_run 41 = .ok (.goto (-12), 3) := by decide +kernel
theorem dX5_run_44 : decode cX5_run 44 = .ok (.aload_n 0, 1) := by decide +kernel
theorem dX5_run_45 : decode cX5_run 45 = .ok (.getfield 116, 3) := by decide +kernel
theorem dX5_run_48 : decode cX5_run 48 = .ok (.iload_n 2, 1) := by decide +kernel
theorem dX5_run_49 : decode cX5_run 49 = .ok (.isub, 1) := by decide +kernel
theorem dX5_run_50 : decode cX5_run 50 = .ok (.ireturn, 1) := by decide +kernel
theorem dX5_heldByAll_0 : decode cX5_heldByAll 0 = .ok (.iconst 0, 1) := by decide +kernel
theorem dX5_heldByAll_1 : decode cX5_heldByAll 1 = .ok (.istore_n 1, 1) := by decide +kernel
theorem dX5_heldByAll_2 : decode cX5_heldByAll 2 = .ok (.iconst 0, 1) := by decide +kernel
theorem dX5_heldByAll_3 : decode cX5_heldByAll 3 = .ok (.istore_n 2, 1) := by decide +kernel
theorem dX5_heldByAll_4 : decode cX5_heldByAll 4 = .ok (.iload_n 2, 1) := by decide +kernel
theorem dX5_heldByAll_5 : decode cX5_heldByAll 5 = .ok (.aload_n 0, 1) := by decide +kernel
theorem dX5_heldByAll_6 : decode cX5_heldByAll 6 = .ok (.getfield 42, 3) := by decide +kernel
theorem dX5_heldByAll_9 : decode cX5_heldByAll 9 = .ok (.if_icmp .ge 18, 3) := by decide +kernel
theorem dX5_heldByAll_12 : decode cX5_heldByAll 12 = .ok (.iload_n 1, 1) := by decide +kernel
theorem dX5_heldByAll_13 : decode cX5_heldByAll 13 = .ok (.aload_n 0, 1) := by decide +kernel
theorem dX5_heldByAll_14 : decode cX5_heldByAll 14 = .ok (.iload_n 2, 1) := by decide +kernel
theorem dX5_heldByAll_15 : decode cX5_heldByAll 15 = .ok (.iconst 1, 1) := by decide +kernel
theorem dX5_heldByAll_16 : decode cX5_heldByAll 16 = .ok (.invokevirtual 67, 3) := by decide +kernel
theorem dX5_heldByAll_19 : decode cX5_heldByAll 19 = .ok (.iadd, 1) := by decide +kernel
theorem dX5_heldByAll_20 : decode cX5_heldByAll 20 = .ok (.istore_n 1, 1) := by decide +kernel
theorem dX5_heldByAll_21 : decode cX5_heldByAll 21 = .ok (.iinc 2 1, 3) := by decide +kernel
theorem dX5_heldByAll_24 : decode cX5_heldByAll 24 = .ok (.goto (-20), 3) := by decide +kernel
theorem dX5_heldByAll_27 : decode cX5_heldByAll 27 = .ok (.iload_n 1, 1) := by decide +kernel
theorem dX5_heldByAll_28 : decode cX5_heldByAll 28 = .ok (.ireturn, 1) := by decide +kernel
theorem dX5_counted_0 : decode cX5_counted 0 = .ok (.iload_n 1, 1) := by decide +kernel
theorem dX5_counted_1 : decode cX5_counted 1 = .ok (.tableswitch 60 0 4 #[35, 40, 45, 50, 55], 35) := by decide +kernel
theorem dX5_counted_36 : decode cX5_counted 36 = .ok (.aload_n 0, 1) := by decide +kernel
theorem dX5_counted_37 : decode cX5_counted 37 = .ok (.getfield 122, 3) := by decide +kernel
theorem dX5_counted_40 : decode cX5_counted 40 = .ok (.ireturn, 1) := by decide +kernel
theorem dX5_counted_41 : decode cX5_counted 41 = .ok (.aload_n 0, 1) := by decide +kernel
theorem dX5_counted_42 : decode cX5_counted 42 = .ok (.getfield 42, 3) := by decide +kernel
theorem dX5_counted_45 : decode cX5_counted 45 = .ok (.ireturn, 1) := by decide +kernel
theorem dX5_counted_46 : decode cX5_counted 46 = .ok (.aload_n 0, 1) := by decide +kernel
theorem dX5_counted_47 : decode cX5_counted 47 = .ok (.getfield 49, 3) := by decide +kernel
theorem dX5_counted_50 : decode cX5_counted 50 = .ok (.ireturn, 1) := by decide +kernel
theorem dX5_counted_51 : decode cX5_counted 51 = .ok (.aload_n 0, 1) := by decide +kernel
theorem dX5_counted_52 : decode cX5_counted 52 = .ok (.invokevirtual 73, 3) := by decide +kernel
theorem dX5_counted_55 : decode cX5_counted 55 = .ok (.ireturn, 1) := by decide +kernel
theorem dX5_counted_56 : decode cX5_counted 56 = .ok (.aload_n 0, 1) := by decide +kernel
theorem dX5_counted_57 : decode cX5_counted 57 = .ok (.getfield 116, 3) := by decide +kernel
theorem dX5_counted_60 : decode cX5_counted 60 = .ok (.ireturn, 1) := by decide +kernel
theorem dX5_counted_61 : decode cX5_counted 61 = .ok (.aload_n 0, 1) := by decide +kernel
theorem dX5_counted_62 : decode cX5_counted 62 = .ok (.invokevirtual 138, 3) := by decide +kernel
theorem dX5_counted_65 : decode cX5_counted 65 = .ok (.ireturn, 1) := by decide +kernel
theorem dX5_count_0 : decode cX5_count 0 = .ok (.aload_n 0, 1) := by decide +kernel
theorem dX5_count_1 : decode cX5_count 1 = .ok (.iconst 0, 1) := by decide +kernel
theorem dX5_count_2 : decode cX5_count 2 = .ok (.putfield 38, 3) := by decide +kernel
theorem dX5_count_5 : decode cX5_count 5 = .ok (.iload_n 1, 1) := by decide +kernel
theorem dX5_count_6 : decode cX5_count 6 = .ok (.iconst 0, 1) := by decide +kernel
theorem dX5_count_7 : decode cX5_count 7 = .ok (.iconst 5, 1) := by decide +kernel
theorem dX5_count_8 : decode cX5_count 8 = .ok (.invokestatic 45, 3) := by decide +kernel
theorem dX5_count_11 : decode cX5_count 11 = .ok (.ifCond .eq 11, 3) := by decide +kernel
theorem dX5_count_14 : decode cX5_count 14 = .ok (.aload_n 0, 1) := by decide +kernel
theorem dX5_count_15 : decode cX5_count 15 = .ok (.iload_n 1, 1) := by decide +kernel
theorem dX5_count_16 : decode cX5_count 16 = .ok (.invokevirtual 141, 3) := by decide +kernel
theorem dX5_count_19 : decode cX5_count 19 = .ok (.goto 8, 3) := by decide +kernel
theorem dX5_count_22 : decode cX5_count 22 = .ok (.aload_n 0, 1) := by decide +kernel
theorem dX5_count_23 : decode cX5_count 23 = .ok (.iconst 1, 1) := by decide +kernel
theorem dX5_count_24 : decode cX5_count 24 = .ok (.invokevirtual 52, 3) := by decide +kernel
theorem dX5_count_27 : decode cX5_count 27 = .ok (.ireturn, 1) := by decide +kernel
theorem dX5_sung_0 : decode cX5_sung 0 = .ok (.aload_n 0, 1) := by decide +kernel
theorem dX5_sung_1 : decode cX5_sung 1 = .ok (.iconst 0, 1) := by decide +kernel
theorem dX5_sung_2 : decode cX5_sung 2 = .ok (.putfield 38, 3) := by decide +kernel
theorem dX5_sung_5 : decode cX5_sung 5 = .ok (.iload_n 1, 1) := by decide +kernel
theorem dX5_sung_6 : decode cX5_sung 6 = .ok (.iconst 0, 1) := by decide +kernel
theorem dX5_sung_7 : decode cX5_sung 7 = .ok (.aload_n 0, 1) := by decide +kernel
theorem dX5_sung_8 : decode cX5_sung 8 = .ok (.getfield 119, 3) := by decide +kernel
theorem dX5_sung_11 : decode cX5_sung 11 = .ok (.iconst 1, 1) := by decide +kernel
theorem dX5_sung_12 : decode cX5_sung 12 = .ok (.isub, 1) := by decide +kernel
theorem dX5_sung_13 : decode cX5_sung 13 = .ok (.invokestatic 45, 3) := by decide +kernel
theorem dX5_sung_16 : decode cX5_sung 16 = .ok (.ifCond .eq 25, 3) := by decide +kernel
theorem dX5_sung_19 : decode cX5_sung 19 = .ok (.iload_n 2, 1) := by decide +kernel
theorem dX5_sung_20 : decode cX5_sung 20 = .ok (.iconst 0, 1) := by decide +kernel
theorem dX5_sung_21 : decode cX5_sung 21 = .ok (.iconst 3, 1) := by decide +kernel
theorem dX5_sung_22 : decode cX5_sung 22 = .ok (.invokestatic 45, 3) := by decide +kernel
theorem dX5_sung_25 : decode cX5_sung 25 = .ok (.ifCond .eq 16, 3) := by decide +kernel
theorem dX5_sung_28 : decode cX5_sung 28 = .ok (.aload_n 0, 1) := by decide +kernel
theorem dX5_sung_29 : decode cX5_sung 29 = .ok (.getfield 29, 3) := by decide +kernel
theorem dX5_sung_32 : decode cX5_sung 32 = .ok (.iconst 4, 1) := by decide +kernel
theorem dX5_sung_33 : decode cX5_sung 33 = .ok (.iload_n 1, 1) := by decide +kernel
theorem dX5_sung_34 : decode cX5_sung 34 = .ok (.imul, 1) := by decide +kernel
theorem dX5_sung_35 : decode cX5_sung 35 = .ok (.iload_n 2, 1) := by decide +kernel
theorem dX5_sung_36 : decode cX5_sung 36 = .ok (.iadd, 1) := by decide +kernel
theorem dX5_sung_37 : decode cX5_sung 37 = .ok (.iaload, 1) := by decide +kernel
theorem dX5_sung_38 : decode cX5_sung 38 = .ok (.goto 8, 3) := by decide +kernel
theorem dX5_sung_41 : decode cX5_sung 41 = .ok (.aload_n 0, 1) := by decide +kernel
theorem dX5_sung_42 : decode cX5_sung 42 = .ok (.iconst 1, 1) := by decide +kernel
theorem dX5_sung_43 : decode cX5_sung 43 = .ok (.invokevirtual 52, 3) := by decide +kernel
theorem dX5_sung_46 : decode cX5_sung 46 = .ok (.ireturn, 1) := by decide +kernel
theorem dX5_chord_0 : decode cX5_chord 0 = .ok (.aload_n 0, 1) := by decide +kernel
theorem dX5_chord_1 : decode cX5_chord 1 = .ok (.iconst 0, 1) := by decide +kernel
theorem dX5_chord_2 : decode cX5_chord 2 = .ok (.putfield 38, 3) := by decide +kernel
theorem dX5_chord_5 : decode cX5_chord 5 = .ok (.iload_n 1, 1) := by decide +kernel
theorem dX5_chord_6 : decode cX5_chord 6 = .ok (.ifCond .ge 9, 3) := by decide +kernel
theorem dX5_chord_9 : decode cX5_chord 9 = .ok (.aload_n 0, 1) := by decide +kernel
theorem dX5_chord_10 : decode cX5_chord 10 = .ok (.iconst 1, 1) := by decide +kernel
theorem dX5_chord_11 : decode cX5_chord 11 = .ok (.invokevirtual 52, 3) := by decide +kernel
theorem dX5_chord_14 : decode cX5_chord 14 = .ok (.ireturn, 1) := by decide +kernel
theorem dX5_chord_15 : decode cX5_chord 15 = .ok (.iconst 0, 1) := by decide +kernel
theorem dX5_chord_16 : decode cX5_chord 16 = .ok (.istore_n 2, 1) := by decide +kernel
theorem dX5_chord_17 : decode cX5_chord 17 = .ok (.iconst 0, 1) := by decide +kernel
theorem dX5_chord_18 : decode cX5_chord 18 = .ok (.istore_n 3, 1) := by decide +kernel
theorem dX5_chord_19 : decode cX5_chord 19 = .ok (.iload_n 3, 1) := by decide +kernel
theorem dX5_chord_20 : decode cX5_chord 20 = .ok (.aload_n 0, 1) := by decide +kernel
theorem dX5_chord_21 : decode cX5_chord 21 = .ok (.getfield 119, 3) := by decide +kernel
theorem dX5_chord_24 : decode cX5_chord 24 = .ok (.if_icmp .ge 105, 3) := by decide +kernel
theorem dX5_chord_27 : decode cX5_chord 27 = .ok (.aload_n 0, 1) := by decide +kernel
theorem dX5_chord_28 : decode cX5_chord 28 = .ok (.getfield 29, 3) := by decide +kernel
theorem dX5_chord_31 : decode cX5_chord 31 = .ok (.iconst 4, 1) := by decide +kernel
theorem dX5_chord_32 : decode cX5_chord 32 = .ok (.iload_n 3, 1) := by decide +kernel
theorem dX5_chord_33 : decode cX5_chord 33 = .ok (.imul, 1) := by decide +kernel
theorem dX5_chord_34 : decode cX5_chord 34 = .ok (.iaload, 1) := by decide +kernel
theorem dX5_chord_35 : decode cX5_chord 35 = .ok (.iload_n 1, 1) := by decide +kernel
theorem dX5_chord_36 : decode cX5_chord 36 = .ok (.if_icmp .ne 7, 3) := by decide +kernel
theorem dX5_chord_39 : decode cX5_chord 39 = .ok (.iconst 1, 1) := by decide +kernel
theorem dX5_chord_40 : decode cX5_chord 40 = .ok (.goto 4, 3) := by decide +kernel
theorem dX5_chord_43 : decode cX5_chord 43 = .ok (.iconst 0, 1) := by decide +kernel
theorem dX5_chord_44 : decode cX5_chord 44 = .ok (.istore 4, 2) := by decide +kernel
theorem dX5_chord_46 : decode cX5_chord 46 = .ok (.iconst 0, 1) := by decide +kernel
theorem dX5_chord_47 : decode cX5_chord 47 = .ok (.istore 5, 2) := by decide +kernel
theorem dX5_chord_49 : decode cX5_chord 49 = .ok (.iload 5, 2) := by decide +kernel
theorem dX5_chord_51 : decode cX5_chord 51 = .ok (.iload_n 3, 1) := by decide +kernel
theorem dX5_chord_52 : decode cX5_chord 52 = .ok (.if_icmp .ge 58, 3) := by decide +kernel
theorem dX5_chord_55 : decode cX5_chord 55 = .ok (.iload 4, 2) := by decide +kernel
theorem dX5_chord_57 : decode cX5_chord 57 = .ok (.ifCond .eq 44, 3) := by decide +kernel
theorem dX5_chord_60 : decode cX5_chord 60 = .ok (.aload_n 0, 1) := by decide +kernel
theorem dX5_chord_61 : decode cX5_chord 61 = .ok (.getfield 29, 3) := by decide +kernel
theorem dX5_chord_64 : decode cX5_chord 64 = .ok (.iconst 4, 1) := by decide +kernel
theorem dX5_chord_65 : decode cX5_chord 65 = .ok (.iload 5, 2) := by decide +kernel
theorem dX5_chord_67 : decode cX5_chord 67 = .ok (.imul, 1) := by decide +kernel
theorem dX5_chord_68 : decode cX5_chord 68 = .ok (.iaload, 1) := by decide +kernel
theorem dX5_chord_69 : decode cX5_chord 69 = .ok (.iload_n 1, 1) := by decide +kernel
theorem dX5_chord_70 : decode cX5_chord 70 = .ok (.if_icmp .ne 27, 3) := by decide +kernel
theorem dX5_chord_73 : decode cX5_chord 73 = .ok (.aload_n 0, 1) := by decide +kernel
theorem dX5_chord_74 : decode cX5_chord 74 = .ok (.getfield 29, 3) := by decide +kernel
theorem dX5_chord_77 : decode cX5_chord 77 = .ok (.iconst 4, 1) := by decide +kernel
theorem dX5_chord_78 : decode cX5_chord 78 = .ok (.iload 5, 2) := by decide +kernel
theorem dX5_chord_80 : decode cX5_chord 80 = .ok (.imul, 1) := by decide +kernel
theorem dX5_chord_81 : decode cX5_chord 81 = .ok (.iconst 3, 1) := by decide +kernel
theorem dX5_chord_82 : decode cX5_chord 82 = .ok (.iadd, 1) := by decide +kernel
theorem dX5_chord_83 : decode cX5_chord 83 = .ok (.iaload, 1) := by decide +kernel
theorem dX5_chord_84 : decode cX5_chord 84 = .ok (.aload_n 0, 1) := by decide +kernel
theorem dX5_chord_85 : decode cX5_chord 85 = .ok (.getfield 29, 3) := by decide +kernel
theorem dX5_chord_88 : decode cX5_chord 88 = .ok (.iconst 4, 1) := by decide +kernel
theorem dX5_chord_89 : decode cX5_chord 89 = .ok (.iload_n 3, 1) := by decide +kernel
theorem dX5_chord_90 : decode cX5_chord 90 = .ok (.imul, 1) := by decide +kernel
theorem dX5_chord_91 : decode cX5_chord 91 = .ok (.iconst 3, 1) := by decide +kernel
theorem dX5_chord_92 : decode cX5_chord 92 = .ok (.iadd, 1) := by decide +kernel
theorem dX5_chord_93 : decode cX5_chord 93 = .ok (.iaload, 1) := by decide +kernel
theorem dX5_chord_94 : decode cX5_chord 94 = .ok (.if_icmp .eq 7, 3) := by decide +kernel
theorem dX5_chord_97 : decode cX5_chord 97 = .ok (.iconst 1, 1) := by decide +kernel
theorem dX5_chord_98 : decode cX5_chord 98 = .ok (.goto 4, 3) := by decide +kernel
theorem dX5_chord_101 : decode cX5_chord 101 = .ok (.iconst 0, 1) := by decide +kernel
theorem dX5_chord_102 : decode cX5_chord 102 = .ok (.istore 4, 2) := by decide +kernel
theorem dX5_chord_104 : decode cX5_chord 104 = .ok (.iinc 5 1, 3) := by decide +kernel
theorem dX5_chord_107 : decode cX5_chord 107 = .ok (.goto (-58), 3) := by decide +kernel
theorem dX5_chord_110 : decode cX5_chord 110 = .ok (.iload_n 2, 1) := by decide +kernel
theorem dX5_chord_111 : decode cX5_chord 111 = .ok (.iload 4, 2) := by decide +kernel
theorem dX5_chord_113 : decode cX5_chord 113 = .ok (.ifCond .eq 7, 3) := by decide +kernel
theorem dX5_chord_116 : decode cX5_chord 116 = .ok (.iconst 1, 1) := by decide +kernel
theorem dX5_chord_117 : decode cX5_chord 117 = .ok (.goto 4, 3) := by decide +kernel
theorem dX5_chord_120 : decode cX5_chord 120 = .ok (.iconst 0, 1) := by decide +kernel
theorem dX5_chord_121 : decode cX5_chord 121 = .ok (.iadd, 1) := by decide +kernel
theorem dX5_chord_122 : decode cX5_chord 122 = .ok (.istore_n 2, 1) := by decide +kernel
theorem dX5_chord_123 : decode cX5_chord 123 = .ok (.iinc 3 1, 3) := by decide +kernel
theorem dX5_chord_126 : decode cX5_chord 126 = .ok (.goto (-107), 3) := by decide +kernel
theorem dX5_chord_129 : decode cX5_chord 129 = .ok (.iload_n 2, 1) := by decide +kernel
theorem dX5_chord_130 : decode cX5_chord 130 = .ok (.ireturn, 1) := by decide +kernel
theorem dX5_longest_0 : decode cX5_longest 0 = .ok (.aload_n 0, 1) := by decide +kernel
theorem dX5_longest_1 : decode cX5_longest 1 = .ok (.iconst 0, 1) := by decide +kernel
theorem dX5_longest_2 : decode cX5_longest 2 = .ok (.putfield 38, 3) := by decide +kernel
theorem dX5_longest_5 : decode cX5_longest 5 = .ok (.iconst 0, 1) := by decide +kernel
theorem dX5_longest_6 : decode cX5_longest 6 = .ok (.istore_n 1, 1) := by decide +kernel
theorem dX5_longest_7 : decode cX5_longest 7 = .ok (.iconst 0, 1) := by decide +kernel
theorem dX5_longest_8 : decode cX5_longest 8 = .ok (.istore_n 2, 1) := by decide +kernel
theorem dX5_longest_9 : decode cX5_longest 9 = .ok (.iconst 0, 1) := by decide +kernel
theorem dX5_longest_10 : decode cX5_longest 10 = .ok (.istore_n 3, 1) := by decide +kernel
theorem dX5_longest_11 : decode cX5_longest 11 = .ok (.iload_n 3, 1) := by decide +kernel
theorem dX5_longest_12 : decode cX5_longest 12 = .ok (.aload_n 0, 1) := by decide +kernel
theorem dX5_longest_13 : decode cX5_longest 13 = .ok (.getfield 119, 3) := by decide +kernel
theorem dX5_longest_16 : decode cX5_longest 16 = .ok (.if_icmp .ge 50, 3) := by decide +kernel
theorem dX5_longest_19 : decode cX5_longest 19 = .ok (.iload_n 3, 1) := by decide +kernel
theorem dX5_longest_20 : decode cX5_longest 20 = .ok (.ifCond .le 32, 3) := by decide +kernel
theorem dX5_longest_23 : decode cX5_longest 23 = .ok (.aload_n 0, 1) := by decide +kernel
theorem dX5_longest_24 : decode cX5_longest 24 = .ok (.getfield 29, 3) := by decide +kernel
theorem dX5_longest_27 : decode cX5_longest 27 = .ok (.iconst 4, 1) := by decide +kernel
theorem dX5_longest_28 : decode cX5_longest 28 = .ok (.iload_n 3, 1) := by decide +kernel
theorem dX5_longest_29 : decode cX5_longest 29 = .ok (.imul, 1) := by decide +kernel
theorem dX5_longest_30 : decode cX5_longest 30 = .ok (.iconst 1, 1) := by decide +kernel
theorem dX5_longest_31 : decode cX5_longest 31 = .ok (.iadd, 1) := by decide +kernel
theorem dX5_longest_32 : decode cX5_longest 32 = .ok (.iaload, 1) := by decide +kernel
theorem dX5_longest_33 : decode cX5_longest 33 = .ok (.aload_n 0, 1) := by decide +kernel
theorem dX5_longest_34 : decode cX5_longest 34 = .ok (.getfield 29, 3) := by decide +kernel
theorem dX5_longest_37 : decode cX5_longest 37 = .ok (.iconst 4, 1) := by decide +kernel
theorem dX5_longest_38 : decode cX5_longest 38 = .ok (.iload_n 3, 1) := by decide +kernel
theorem dX5_longest_39 : decode cX5_longest 39 = .ok (.imul, 1) := by decide +kernel
theorem dX5_longest_40 : decode cX5_longest 40 = .ok (.iconst 3, 1) := by decide +kernel
theorem dX5_longest_41 : decode cX5_longest 41 = .ok (.isub, 1) := by decide +kernel
theorem dX5_longest_42 : decode cX5_longest 42 = .ok (.iaload, 1) := by decide +kernel
theorem dX5_longest_43 : decode cX5_longest 43 = .ok (.if_icmp .ne 9, 3) := by decide +kernel
theorem dX5_longest_46 : decode cX5_longest 46 = .ok (.iload_n 2, 1) := by decide +kernel
theorem dX5_longest_47 : decode cX5_longest 47 = .ok (.iconst 1, 1) := by decide +kernel
theorem dX5_longest_48 : decode cX5_longest 48 = .ok (.iadd, 1) := by decide +kernel
theorem dX5_longest_49 : decode cX5_longest 49 = .ok (.goto 4, 3) := by decide +kernel
theorem dX5_longest_52 : decode cX5_longest 52 = .ok (.iconst 1, 1) := by decide +kernel
theorem dX5_longest_53 : decode cX5_longest 53 = .ok (.istore_n 2, 1) := by decide +kernel
theorem dX5_longest_54 : decode cX5_longest 54 = .ok (.iload_n 1, 1) := by decide +kernel
theorem dX5_longest_55 : decode cX5_longest 55 = .ok (.iload_n 2, 1) := by decide +kernel
theorem dX5_longest_56 : decode cX5_longest 56 = .ok (.invokestatic 70, 3) := by decide +kernel
theorem dX5_longest_59 : decode cX5_longest 59 = .ok (.istore_n 1, 1) := by decide +kernel
theorem dX5_longest_60 : decode cX5_longest 60 = .ok (.iinc 3 1, 3) := by decide +kernel
theorem dX5_longest_63 : decode cX5_longest 63 = .ok (.goto (-52), 3) := by decide +kernel
theorem dX5_longest_66 : decode cX5_longest 66 = .ok (.iload_n 1, 1) := by decide +kernel
theorem dX5_longest_67 : decode cX5_longest 67 = .ok (.ireturn, 1) := by decide +kernel
theorem dX5_emptySongs_0 : decode cX5_emptySongs 0 = .ok (.aload_n 0, 1) := by decide +kernel
theorem dX5_emptySongs_1 : decode cX5_emptySongs 1 = .ok (.iconst 0, 1) := by decide +kernel
theorem dX5_emptySongs_2 : decode cX5_emptySongs 2 = .ok (.putfield 38, 3) := by decide +kernel
theorem dX5_emptySongs_5 : decode cX5_emptySongs 5 = .ok (.aload_n 0, 1) := by decide +kernel
theorem dX5_emptySongs_6 : decode cX5_emptySongs 6 = .ok (.getfield 119, 3) := by decide +kernel
theorem dX5_emptySongs_9 : decode cX5_emptySongs 9 = .ok (.istore_n 1, 1) := by decide +kernel
theorem dX5_emptySongs_10 : decode cX5_emptySongs 10 = .ok (.aload_n 0, 1) := by decide +kernel
theorem dX5_emptySongs_11 : decode cX5_emptySongs 11 = .ok (.iconst 0, 1) := by decide +kernel
theorem dX5_emptySongs_12 : decode cX5_emptySongs 12 = .ok (.putfield 119, 3) := by decide +kernel
theorem dX5_emptySongs_15 : decode cX5_emptySongs 15 = .ok (.aload_n 0, 1) := by decide +kernel
theorem dX5_emptySongs_16 : decode cX5_emptySongs 16 = .ok (.iconst 0, 1) := by decide +kernel
theorem dX5_emptySongs_17 : decode cX5_emptySongs 17 = .ok (.putfield 116, 3) := by decide +kernel
theorem dX5_emptySongs_20 : decode cX5_emptySongs 20 = .ok (.iload_n 1, 1) := by decide +kernel
theorem dX5_emptySongs_21 : decode cX5_emptySongs 21 = .ok (.ireturn, 1) := by decide +kernel
theorem dX5_isDown_0 : decode cX5_isDown 0 = .ok (.iconst 0, 1) := by decide +kernel
theorem dX5_isDown_1 : decode cX5_isDown 1 = .ok (.istore_n 1, 1) := by decide +kernel
theorem dX5_isDown_2 : decode cX5_isDown 2 = .ok (.iload_n 1, 1) := by decide +kernel
theorem dX5_isDown_3 : decode cX5_isDown 3 = .ok (.aload_n 0, 1) := by decide +kernel
theorem dX5_isDown_4 : decode cX5_isDown 4 = .ok (.getfield 42, 3) := by decide +kernel
theorem dX5_isDown_7 : decode cX5_isDown 7 = .ok (.if_icmp .ge 29, 3) := by decide +kernel
theorem dX5_isDown_10 : decode cX5_isDown 10 = .ok (.aload_n 0, 1) := by decide +kernel
theorem dX5_isDown_11 : decode cX5_isDown 11 = .ok (.iload_n 1, 1) := by decide +kernel
theorem dX5_isDown_12 : decode cX5_isDown 12 = .ok (.iconst 4, 1) := by decide +kernel
theorem dX5_isDown_13 : decode cX5_isDown 13 = .ok (.invokevirtual 67, 3) := by decide +kernel
theorem dX5_isDown_16 : decode cX5_isDown 16 = .ok (.ifCond .ne 14, 3) := by decide +kernel
theorem dX5_isDown_19 : decode cX5_isDown 19 = .ok (.aload_n 0, 1) := by decide +kernel
theorem dX5_isDown_20 : decode cX5_isDown 20 = .ok (.iload_n 1, 1) := by decide +kernel
theorem dX5_isDown_21 : decode cX5_isDown 21 = .ok (.iconst 1, 1) := by decide +kernel
theorem dX5_isDown_22 : decode cX5_isDown 22 = .ok (.invokevirtual 67, 3) := by decide +kernel
theorem dX5_isDown_25 : decode cX5_isDown 25 = .ok (.ifCond .le 5, 3) := by decide +kernel
theorem dX5_isDown_28 : decode cX5_isDown 28 = .ok (.iconst 0, 1) := by decide +kernel
theorem dX5_isDown_29 : decode cX5_isDown 29 = .ok (.ireturn, 1) := by decide +kernel
theorem dX5_isDown_30 : decode cX5_isDown 30 = .ok (.iinc 1 1, 3) := by decide +kernel
theorem dX5_isDown_33 : decode cX5_isDown 33 = .ok (.goto (-31), 3) := by decide +kernel
theorem dX5_isDown_36 : decode cX5_isDown 36 = .ok (.iconst 1, 1) := by decide +kernel
theorem dX5_isDown_37 : decode cX5_isDown 37 = .ok (.ireturn, 1) := by decide +kernel
theorem dX5_runsDown_0 : decode cX5_runsDown 0 = .ok (.aload_n 0, 1) := by decide +kernel
theorem dX5_runsDown_1 : decode cX5_runsDown 1 = .ok (.iconst 0, 1) := by decide +kernel
theorem dX5_runsDown_2 : decode cX5_runsDown 2 = .ok (.putfield 38, 3) := by decide +kernel
theorem dX5_runsDown_5 : decode cX5_runsDown 5 = .ok (.iload_n 1, 1) := by decide +kernel
theorem dX5_runsDown_6 : decode cX5_runsDown 6 = .ok (.iconst 1, 1) := by decide +kernel
theorem dX5_runsDown_7 : decode cX5_runsDown 7 = .ok (.sipush 2000, 3) := by decide +kernel
theorem dX5_runsDown_10 : decode cX5_runsDown 10 = .ok (.invokestatic 45, 3) := by decide +kernel
theorem dX5_runsDown_13 : decode cX5_runsDown 13 = .ok (.ifCond .ne 9, 3) := by decide +kernel
theorem dX5_runsDown_16 : decode cX5_runsDown 16 = .ok (.aload_n 0, 1) := by decide +kernel
theorem dX5_runsDown_17 : decode cX5_runsDown 17 = .ok (.iconst 1, 1) := by decide +kernel
theorem dX5_runsDown_18 : decode cX5_runsDown 18 = .ok (.invokevirtual 52, 3) := by decide +kernel
theorem dX5_runsDown_21 : decode cX5_runsDown 21 = .ok (.ireturn, 1) := by decide +kernel
theorem dX5_runsDown_22 : decode cX5_runsDown 22 = .ok (.aload_n 0, 1) := by decide +kernel
theorem dX5_runsDown_23 : decode cX5_runsDown 23 = .ok (.getfield 9, 3) := by decide +kernel
theorem dX5_runsDown_26 : decode cX5_runsDown 26 = .ok (.iconst 0, 1) := by decide +kernel
theorem dX5_runsDown_27 : decode cX5_runsDown 27 = .ok (.aload_n 0, 1) := by decide +kernel
theorem dX5_runsDown_28 : decode cX5_runsDown 28 = .ok (.getfield 32, 3) := by decide +kernel
theorem dX5_runsDown_31 : decode cX5_runsDown 31 = .ok (.iconst 0, 1) := by decide +kernel
theorem dX5_runsDown_32 : decode cX5_runsDown 32 = .ok (.bipush 20, 2) := by decide +kernel
theorem dX5_runsDown_34 : decode cX5_runsDown 34 = .ok (.invokestatic 90, 3) := by decide +kernel
theorem dX5_runsDown_37 : decode cX5_runsDown 37 = .ok (.aload_n 0, 1) := by decide +kernel
theorem dX5_runsDown_38 : decode cX5_runsDown 38 = .ok (.getfield 13, 3) := by decide +kernel
theorem dX5_runsDown_41 : decode cX5_runsDown 41 = .ok (.iconst 0, 1) := by decide +kernel
theorem dX5_runsDown_42 : decode cX5_runsDown 42 = .ok (.aload_n 0, 1) := by decide +kernel
theorem dX5_runsDown_43 : decode cX5_runsDown 43 = .ok (.getfield 35, 3) := by decide +kernel
theorem dX5_runsDown_46 : decode cX5_runsDown 46 = .ok (.iconst 0, 1) := by decide +kernel
theorem dX5_runsDown_47 : decode cX5_runsDown 47 = .ok (.bipush 88, 2) := by decide +kernel
theorem dX5_runsDown_49 : decode cX5_runsDown 49 = .ok (.invokestatic 90, 3) := by decide +kernel
theorem dX5_runsDown_52 : decode cX5_runsDown 52 = .ok (.aload_n 0, 1) := by decide +kernel
theorem dX5_runsDown_53 : decode cX5_runsDown 53 = .ok (.getfield 122, 3) := by decide +kernel
theorem dX5_runsDown_56 : decode cX5_runsDown 56 = .ok (.istore_n 2, 1) := by decide +kernel
theorem dX5_runsDown_57 : decode cX5_runsDown 57 = .ok (.aload_n 0, 1) := by decide +kernel
theorem dX5_runsDown_58 : decode cX5_runsDown 58 = .ok (.iconst 1, 1) := by decide +kernel
theorem dX5_runsDown_59 : decode cX5_runsDown 59 = .ok (.putfield 112, 3) := by decide +kernel
theorem dX5_runsDown_62 : decode cX5_runsDown 62 = .ok (.aload_n 0, 1) := by decide +kernel
theorem dX5_runsDown_63 : decode cX5_runsDown 63 = .ok (.invokevirtual 144, 3) := by decide +kernel
theorem dX5_runsDown_66 : decode cX5_runsDown 66 = .ok (.ifCond .ne 20, 3) := by decide +kernel
theorem dX5_runsDown_69 : decode cX5_runsDown 69 = .ok (.aload_n 0, 1) := by decide +kernel
theorem dX5_runsDown_70 : decode cX5_runsDown 70 = .ok (.getfield 122, 3) := by decide +kernel
theorem dX5_runsDown_73 : decode cX5_runsDown 73 = .ok (.iload_n 2, 1) := by decide +kernel
theorem dX5_runsDown_74 : decode cX5_runsDown 74 = .ok (.iload_n 1, 1) := by decide +kernel
theorem dX5_runsDown_75 : decode cX5_runsDown 75 = .ok (.iadd, 1) := by decide +kernel
theorem dX5_runsDown_76 : decode cX5_runsDown 76 = .ok (.if_icmp .ge 10, 3) := by decide +kernel
theorem dX5_runsDown_79 : decode cX5_runsDown 79 = .ok (.aload_n 0, 1) := by decide +kernel
theorem dX5_runsDown_80 : decode cX5_runsDown 80 = .ok (.invokevirtual 135, 3) := by decide +kernel
theorem dX5_runsDown_83 : decode cX5_runsDown 83 = .ok (.goto (-21), 3) := by decide +kernel
theorem dX5_runsDown_86 : decode cX5_runsDown 86 = .ok (.aload_n 0, 1) := by decide +kernel
theorem dX5_runsDown_87 : decode cX5_runsDown 87 = .ok (.invokevirtual 144, 3) := by decide +kernel
theorem dX5_runsDown_90 : decode cX5_runsDown 90 = .ok (.ifCond .eq 10, 3) := by decide +kernel
theorem dX5_runsDown_93 : decode cX5_runsDown 93 = .ok (.aload_n 0, 1) := by decide +kernel
theorem dX5_runsDown_94 : decode cX5_runsDown 94 = .ok (.getfield 122, 3) := by decide +kernel
theorem dX5_runsDown_97 : decode cX5_runsDown 97 = .ok (.goto 4, 3) := by decide +kernel
theorem dX5_runsDown_100 : decode cX5_runsDown 100 = .ok (.iconst (-1), 1) := by decide +kernel
theorem dX5_runsDown_101 : decode cX5_runsDown 101 = .ok (.istore_n 3, 1) := by decide +kernel
theorem dX5_runsDown_102 : decode cX5_runsDown 102 = .ok (.aload_n 0, 1) := by decide +kernel
theorem dX5_runsDown_103 : decode cX5_runsDown 103 = .ok (.iconst 0, 1) := by decide +kernel
theorem dX5_runsDown_104 : decode cX5_runsDown 104 = .ok (.putfield 112, 3) := by decide +kernel
theorem dX5_runsDown_107 : decode cX5_runsDown 107 = .ok (.aload_n 0, 1) := by decide +kernel
theorem dX5_runsDown_108 : decode cX5_runsDown 108 = .ok (.iload_n 2, 1) := by decide +kernel
theorem dX5_runsDown_109 : decode cX5_runsDown 109 = .ok (.putfield 122, 3) := by decide +kernel
theorem dX5_runsDown_112 : decode cX5_runsDown 112 = .ok (.aload_n 0, 1) := by decide +kernel
theorem dX5_runsDown_113 : decode cX5_runsDown 113 = .ok (.getfield 32, 3) := by decide +kernel
theorem dX5_runsDown_116 : decode cX5_runsDown 116 = .ok (.iconst 0, 1) := by decide +kernel
theorem dX5_runsDown_117 : decode cX5_runsDown 117 = .ok (.aload_n 0, 1) := by decide +kernel
theorem dX5_runsDown_118 : decode cX5_runsDown 118 = .ok (.getfield 9, 3) := by decide +kernel
theorem dX5_runsDown_121 : decode cX5_runsDown 121 = .ok (.iconst 0, 1) := by decide +kernel
theorem dX5_runsDown_122 : decode cX5_runsDown 122 = .ok (.bipush 20, 2) := by decide +kernel
theorem dX5_runsDown_124 : decode cX5_runsDown 124 = .ok (.invokestatic 90, 3) := by decide +kernel
theorem dX5_runsDown_127 : decode cX5_runsDown 127 = .ok (.aload_n 0, 1) := by decide +kernel
theorem dX5_runsDown_128 : decode cX5_runsDown 128 = .ok (.getfield 35, 3) := by decide +kernel
theorem dX5_runsDown_131 : decode cX5_runsDown 131 = .ok (.iconst 0, 1) := by decide +kernel
theorem dX5_runsDown_132 : decode cX5_runsDown 132 = .ok (.aload_n 0, 1) := by decide +kernel
theorem dX5_runsDown_133 : decode cX5_runsDown 133 = .ok (.getfield 13, 3) := by decide +kernel
theorem dX5_runsDown_136 : decode cX5_runsDown 136 = .ok (.iconst 0, 1) := by decide +kernel
theorem dX5_runsDown_137 : decode cX5_runsDown 137 = .ok (.bipush 88, 2) := by decide +kernel
theorem dX5_runsDown_139 : decode cX5_runsDown 139 = .ok (.invokestatic 90, 3) := by decide +kernel
theorem dX5_runsDown_142 : decode cX5_runsDown 142 = .ok (.iload_n 3, 1) := by decide +kernel
theorem dX5_runsDown_143 : decode cX5_runsDown 143 = .ok (.ireturn, 1) := by decide +kernel
theorem dX5_tension_0 : decode cX5_tension 0 = .ok (.aload_n 0, 1) := by decide +kernel
theorem dX5_tension_1 : decode cX5_tension 1 = .ok (.iconst 0, 1) := by decide +kernel
theorem dX5_tension_2 : decode cX5_tension 2 = .ok (.putfield 38, 3) := by decide +kernel
theorem dX5_tension_5 : decode cX5_tension 5 = .ok (.aload_n 0, 1) := by decide +kernel
theorem dX5_tension_6 : decode cX5_tension 6 = .ok (.getfield 42, 3) := by decide +kernel
theorem dX5_tension_9 : decode cX5_tension 9 = .ok (.ifCond .ne 7, 3) := by decide +kernel
theorem dX5_tension_12 : decode cX5_tension 12 = .ok (.dconst 0, 1) := by decide +kernel
theorem dX5_tension_13 : decode cX5_tension 13 = .ok (.goto 18, 3) := by decide +kernel
theorem dX5_tension_16 : decode cX5_tension 16 = .ok (.aload_n 0, 1) := by decide +kernel
theorem dX5_tension_17 : decode cX5_tension 17 = .ok (.invokevirtual 138, 3) := by decide +kernel
theorem dX5_tension_20 : decode cX5_tension 20 = .ok (.i2d, 1) := by decide +kernel
theorem dX5_tension_21 : decode cX5_tension 21 = .ok (.sipush 1000, 3) := by decide +kernel
theorem dX5_tension_24 : decode cX5_tension 24 = .ok (.aload_n 0, 1) := by decide +kernel
theorem dX5_tension_25 : decode cX5_tension 25 = .ok (.getfield 42, 3) := by decide +kernel
theorem dX5_tension_28 : decode cX5_tension 28 = .ok (.imul, 1) := by decide +kernel
theorem dX5_tension_29 : decode cX5_tension 29 = .ok (.i2d, 1) := by decide +kernel
theorem dX5_tension_30 : decode cX5_tension 30 = .ok (.ddiv, 1) := by decide +kernel
theorem dX5_tension_31 : decode cX5_tension 31 = .ok (.dreturn, 1) := by decide +kernel
theorem dX5_digest_0 : decode cX5_digest 0 = .ok (.aload_n 0, 1) := by decide +kernel
theorem dX5_digest_1 : decode cX5_digest 1 = .ok (.iconst 0, 1) := by decide +kernel
theorem dX5_digest_2 : decode cX5_digest 2 = .ok (.putfield 38, 3) := by decide +kernel
theorem dX5_digest_5 : decode cX5_digest 5 = .ok (.ldc2_w 148, 3) := by decide +kernel
theorem dX5_digest_8 : decode cX5_digest 8 = .ok (.lstore_n 1, 1) := by decide +kernel
theorem dX5_digest_9 : decode cX5_digest 9 = .ok (.iconst 0, 1) := by decide +kernel
theorem dX5_digest_10 : decode cX5_digest 10 = .ok (.istore_n 3, 1) := by decide +kernel
theorem dX5_digest_11 : decode cX5_digest 11 = .ok (.iload_n 3, 1) := by decide +kernel
theorem dX5_digest_12 : decode cX5_digest 12 = .ok (.bipush 6, 2) := by decide +kernel
theorem dX5_digest_14 : decode cX5_digest 14 = .ok (.if_icmp .ge 22, 3) := by decide +kernel
theorem dX5_digest_17 : decode cX5_digest 17 = .ok (.lload_n 1, 1) := by decide +kernel
theorem dX5_digest_18 : decode cX5_digest 18 = .ok (.ldc2_w 150, 3) := by decide +kernel
theorem dX5_digest_21 : decode cX5_digest 21 = .ok (.lmul, 1) := by decide +kernel
theorem dX5_digest_22 : decode cX5_digest 22 = .ok (.aload_n 0, 1) := by decide +kernel
theorem dX5_digest_23 : decode cX5_digest 23 = .ok (.iload_n 3, 1) := by decide +kernel
theorem dX5_digest_24 : decode cX5_digest 24 = .ok (.invokevirtual 141, 3) := by decide +kernel
theorem dX5_digest_27 : decode cX5_digest 27 = .ok (.i2l, 1) := by decide +kernel
theorem dX5_digest_28 : decode cX5_digest 28 = .ok (.ladd, 1) := by decide +kernel
theorem dX5_digest_29 : decode cX5_digest 29 = .ok (.lstore_n 1, 1) := by decide +kernel
theorem dX5_digest_30 : decode cX5_digest 30 = .ok (.iinc 3 1, 3) := by decide +kernel
theorem dX5_digest_33 : decode cX5_digest 33 = .ok (.goto (-22), 3) := by decide +kernel
theorem dX5_digest_36 : decode cX5_digest 36 = .ok (.iconst 0, 1) := by decide +kernel
theorem dX5_digest_37 : decode cX5_digest 37 = .ok (.istore_n 3, 1) := by decide +kernel
theorem dX5_digest_38 : decode cX5_digest 38 = .ok (.iload_n 3, 1) := by decide +kernel
theorem dX5_digest_39 : decode cX5_digest 39 = .ok (.aload_n 0, 1) := by decide +kernel
theorem dX5_digest_40 : decode cX5_digest 40 = .ok (.getfield 42, 3) := by decide +kernel
theorem dX5_digest_43 : decode cX5_digest 43 = .ok (.if_icmp .ge 40, 3) := by decide +kernel
theorem dX5_digest_46 : decode cX5_digest 46 = .ok (.iconst 0, 1) := by decide +kernel
theorem dX5_digest_47 : decode cX5_digest 47 = .ok (.istore 4, 2) := by decide +kernel
theorem dX5_digest_49 : decode cX5_digest 49 = .ok (.iload 4, 2) := by decide +kernel
theorem dX5_digest_51 : decode cX5_digest 51 = .ok (.bipush 7, 2) := by decide +kernel
theorem dX5_digest_53 : decode cX5_digest 53 = .ok (.if_icmp .ge 24, 3) := by decide +kernel
theorem dX5_digest_56 : decode cX5_digest 56 = .ok (.lload_n 1, 1) := by decide +kernel
theorem dX5_digest_57 : decode cX5_digest 57 = .ok (.ldc2_w 150, 3) := by decide +kernel
theorem dX5_digest_60 : decode cX5_digest 60 = .ok (.lmul, 1) := by decide +kernel
theorem dX5_digest_61 : decode cX5_digest 61 = .ok (.aload_n 0, 1) := by decide +kernel
theorem dX5_digest_62 : decode cX5_digest 62 = .ok (.iload_n 3, 1) := by decide +kernel
theorem dX5_digest_63 : decode cX5_digest 63 = .ok (.iload 4, 2) := by decide +kernel
theorem dX5_digest_65 : decode cX5_digest 65 = .ok (.invokevirtual 87, 3) := by decide +kernel
theorem dX5_digest_68 : decode cX5_digest 68 = .ok (.i2l, 1) := by decide +kernel
theorem dX5_digest_69 : decode cX5_digest 69 = .ok (.ladd, 1) := by decide +kernel
theorem dX5_digest_70 : decode cX5_digest 70 = .ok (.lstore_n 1, 1) := by decide +kernel
theorem dX5_digest_71 : decode cX5_digest 71 = .ok (.iinc 4 1, 3) := by decide +kernel
theorem dX5_digest_74 : decode cX5_digest 74 = .ok (.goto (-25), 3) := by decide +kernel
theorem dX5_digest_77 : decode cX5_digest 77 = .ok (.iinc 3 1, 3) := by decide +kernel
theorem dX5_digest_80 : decode cX5_digest 80 = .ok (.goto (-42), 3) := by decide +kernel
theorem dX5_digest_83 : decode cX5_digest 83 = .ok (.iconst 0, 1) := by decide +kernel
theorem dX5_digest_84 : decode cX5_digest 84 = .ok (.istore_n 3, 1) := by decide +kernel
theorem dX5_digest_85 : decode cX5_digest 85 = .ok (.iload_n 3, 1) := by decide +kernel
theorem dX5_digest_86 : decode cX5_digest 86 = .ok (.aload_n 0, 1) := by decide +kernel
theorem dX5_digest_87 : decode cX5_digest 87 = .ok (.getfield 49, 3) := by decide +kernel
theorem dX5_digest_90 : decode cX5_digest 90 = .ok (.if_icmp .ge 112, 3) := by decide +kernel
theorem dX5_digest_93 : decode cX5_digest 93 = .ok (.iconst 0, 1) := by decide +kernel
theorem dX5_digest_94 : decode cX5_digest 94 = .ok (.istore 4, 2) := by decide +kernel
theorem dX5_digest_96 : decode cX5_digest 96 = .ok (.iload 4, 2) := by decide +kernel
theorem dX5_digest_98 : decode cX5_digest 98 = .ok (.bipush 10, 2) := by decide +kernel
theorem dX5_digest_100 : decode cX5_digest 100 = .ok (.if_icmp .ge 24, 3) := by decide +kernel
theorem dX5_digest_103 : decode cX5_digest 103 = .ok (.lload_n 1, 1) := by decide +kernel
theorem dX5_digest_104 : decode cX5_digest 104 = .ok (.ldc2_w 150, 3) := by decide +kernel
theorem dX5_digest_107 : decode cX5_digest 107 = .ok (.lmul, 1) := by decide +kernel
theorem dX5_digest_108 : decode cX5_digest 108 = .ok (.aload_n 0, 1) := by decide +kernel
theorem dX5_digest_109 : decode cX5_digest 109 = .ok (.iload_n 3, 1) := by decide +kernel
theorem dX5_digest_110 : decode cX5_digest 110 = .ok (.iload 4, 2) := by decide +kernel
theorem dX5_digest_112 : decode cX5_digest 112 = .ok (.invokevirtual 77, 3) := by decide +kernel
theorem dX5_digest_115 : decode cX5_digest 115 = .ok (.i2l, 1) := by decide +kernel
theorem dX5_digest_116 : decode cX5_digest 116 = .ok (.ladd, 1) := by decide +kernel
theorem dX5_digest_117 : decode cX5_digest 117 = .ok (.lstore_n 1, 1) := by decide +kernel
theorem dX5_digest_118 : decode cX5_digest 118 = .ok (.iinc 4 1, 3) := by decide +kernel
theorem dX5_digest_121 : decode cX5_digest 121 = .ok (.goto (-25), 3) := by decide +kernel
theorem dX5_digest_124 : decode cX5_digest 124 = .ok (.iconst 0, 1) := by decide +kernel
theorem dX5_digest_125 : decode cX5_digest 125 = .ok (.istore 4, 2) := by decide +kernel
theorem dX5_digest_127 : decode cX5_digest 127 = .ok (.iload 4, 2) := by decide +kernel
theorem dX5_digest_129 : decode cX5_digest 129 = .ok (.bipush 6, 2) := by decide +kernel
theorem dX5_digest_131 : decode cX5_digest 131 = .ok (.if_icmp .ge 29, 3) := by decide +kernel
theorem dX5_digest_134 : decode cX5_digest 134 = .ok (.lload_n 1, 1) := by decide +kernel
theorem dX5_digest_135 : decode cX5_digest 135 = .ok (.ldc2_w 150, 3) := by decide +kernel
theorem dX5_digest_138 : decode cX5_digest 138 = .ok (.lmul, 1) := by decide +kernel
theorem dX5_digest_139 : decode cX5_digest 139 = .ok (.aload_n 0, 1) := by decide +kernel
theorem dX5_digest_140 : decode cX5_digest 140 = .ok (.getfield 23, 3) := by decide +kernel
theorem dX5_digest_143 : decode cX5_digest 143 = .ok (.bipush 6, 2) := by decide +kernel
theorem dX5_digest_145 : decode cX5_digest 145 = .ok (.iload_n 3, 1) := by decide +kernel
theorem dX5_digest_146 : decode cX5_digest 146 = .ok (.imul, 1) := by decide +kernel
theorem dX5_digest_147 : decode cX5_digest 147 = .ok (.iload 4, 2) := by decide +kernel
theorem dX5_digest_149 : decode cX5_digest 149 = .ok (.iadd, 1) := by decide +kernel
theorem dX5_digest_150 : decode cX5_digest 150 = .ok (.iaload, 1) := by decide +kernel
theorem dX5_digest_151 : decode cX5_digest 151 = .ok (.i2l, 1) := by decide +kernel
theorem dX5_digest_152 : decode cX5_digest 152 = .ok (.ladd, 1) := by decide +kernel
theorem dX5_digest_153 : decode cX5_digest 153 = .ok (.lstore_n 1, 1) := by decide +kernel
theorem dX5_digest_154 : decode cX5_digest 154 = .ok (.iinc 4 1, 3) := by decide +kernel
theorem dX5_digest_157 : decode cX5_digest 157 = .ok (.goto (-30), 3) := by decide +kernel
theorem dX5_digest_160 : decode cX5_digest 160 = .ok (.iconst 0, 1) := by decide +kernel
theorem dX5_digest_161 : decode cX5_digest 161 = .ok (.istore 4, 2) := by decide +kernel
theorem dX5_digest_163 : decode cX5_digest 163 = .ok (.iload 4, 2) := by decide +kernel
theorem dX5_digest_165 : decode cX5_digest 165 = .ok (.iconst 3, 1) := by decide +kernel
theorem dX5_digest_166 : decode cX5_digest 166 = .ok (.if_icmp .ge 30, 3) := by decide +kernel
theorem dX5_digest_169 : decode cX5_digest 169 = .ok (.lload_n 1, 1) := by decide +kernel
theorem dX5_digest_170 : decode cX5_digest 170 = .ok (.ldc2_w 150, 3) := by decide +kernel
theorem dX5_digest_173 : decode cX5_digest 173 = .ok (.lmul, 1) := by decide +kernel
theorem dX5_digest_174 : decode cX5_digest 174 = .ok (.aload_n 0, 1) := by decide +kernel
theorem dX5_digest_175 : decode cX5_digest 175 = .ok (.iload_n 3, 1) := by decide +kernel
theorem dX5_digest_176 : decode cX5_digest 176 = .ok (.iload 4, 2) := by decide +kernel
theorem dX5_digest_178 : decode cX5_digest 178 = .ok (.aload_n 0, 1) := by decide +kernel
theorem dX5_digest_179 : decode cX5_digest 179 = .ok (.iload_n 3, 1) := by decide +kernel
theorem dX5_digest_180 : decode cX5_digest 180 = .ok (.iconst 5, 1) := by decide +kernel
theorem dX5_digest_181 : decode cX5_digest 181 = .ok (.invokevirtual 77, 3) := by decide +kernel
theorem dX5_digest_184 : decode cX5_digest 184 = .ok (.invokevirtual 80, 3) := by decide +kernel
theorem dX5_digest_187 : decode cX5_digest 187 = .ok (.i2l, 1) := by decide +kernel
theorem dX5_digest_188 : decode cX5_digest 188 = .ok (.ladd, 1) := by decide +kernel
theorem dX5_digest_189 : decode cX5_digest 189 = .ok (.lstore_n 1, 1) := by decide +kernel
theorem dX5_digest_190 : decode cX5_digest 190 = .ok (.iinc 4 1, 3) := by decide +kernel
theorem dX5_digest_193 : decode cX5_digest 193 = .ok (.goto (-30), 3) := by decide +kernel
theorem dX5_digest_196 : decode cX5_digest 196 = .ok (.iinc 3 1, 3) := by decide +kernel
theorem dX5_digest_199 : decode cX5_digest 199 = .ok (.goto (-114), 3) := by decide +kernel
theorem dX5_digest_202 : decode cX5_digest 202 = .ok (.iconst 0, 1) := by decide +kernel
theorem dX5_digest_203 : decode cX5_digest 203 = .ok (.istore_n 3, 1) := by decide +kernel
theorem dX5_digest_204 : decode cX5_digest 204 = .ok (.iload_n 3, 1) := by decide +kernel
theorem dX5_digest_205 : decode cX5_digest 205 = .ok (.iconst 4, 1) := by decide +kernel
theorem dX5_digest_206 : decode cX5_digest 206 = .ok (.aload_n 0, 1) := by decide +kernel
theorem dX5_digest_207 : decode cX5_digest 207 = .ok (.getfield 119, 3) := by decide +kernel
theorem dX5_digest_210 : decode cX5_digest 210 = .ok (.imul, 1) := by decide +kernel
theorem dX5_digest_211 : decode cX5_digest 211 = .ok (.if_icmp .ge 23, 3) := by decide +kernel
theorem dX5_digest_214 : decode cX5_digest 214 = .ok (.lload_n 1, 1) := by decide +kernel
theorem dX5_digest_215 : decode cX5_digest 215 = .ok (.ldc2_w 150, 3) := by decide +kernel
theorem dX5_digest_218 : decode cX5_digest 218 = .ok (.lmul, 1) := by decide +kernel
theorem dX5_digest_219 : decode cX5_digest 219 = .ok (.aload_n 0, 1) := by decide +kernel
theorem dX5_digest_220 : decode cX5_digest 220 = .ok (.getfield 29, 3) := by decide +kernel
theorem dX5_digest_223 : decode cX5_digest 223 = .ok (.iload_n 3, 1) := by decide +kernel
theorem dX5_digest_224 : decode cX5_digest 224 = .ok (.iaload, 1) := by decide +kernel
theorem dX5_digest_225 : decode cX5_digest 225 = .ok (.i2l, 1) := by decide +kernel
theorem dX5_digest_226 : decode cX5_digest 226 = .ok (.ladd, 1) := by decide +kernel
theorem dX5_digest_227 : decode cX5_digest 227 = .ok (.lstore_n 1, 1) := by decide +kernel
theorem dX5_digest_228 : decode cX5_digest 228 = .ok (.iinc 3 1, 3) := by decide +kernel
theorem dX5_digest_231 : decode cX5_digest 231 = .ok (.goto (-27), 3) := by decide +kernel
theorem dX5_digest_234 : decode cX5_digest 234 = .ok (.lload_n 1, 1) := by decide +kernel
theorem dX5_digest_235 : decode cX5_digest 235 = .ok (.lreturn, 1) := by decide +kernel
theorem dJ6_bitCount_0f7a4_0 : decode cJ6_bitCount_0f7a4 0 = .ok (.iload_n 0, 1) := by decide +kernel
theorem dJ6_bitCount_0f7a4_1 : decode cJ6_bitCount_0f7a4 1 = .ok (.iload_n 0, 1) := by decide +kernel
theorem dJ6_bitCount_0f7a4_2 : decode cJ6_bitCount_0f7a4 2 = .ok (.iconst 1, 1) := by decide +kernel
theorem dJ6_bitCount_0f7a4_3 : decode cJ6_bitCount_0f7a4 3 = .ok (.iushr, 1) := by decide +kernel
theorem dJ6_bitCount_0f7a4_4 : decode cJ6_bitCount_0f7a4 4 = .ok (.ldc_w 265, 3) := by decide +kernel
theorem dJ6_bitCount_0f7a4_7 : decode cJ6_bitCount_0f7a4 7 = .ok (.iand, 1) := by decide +kernel
theorem dJ6_bitCount_0f7a4_8 : decode cJ6_bitCount_0f7a4 8 = .ok (.isub, 1) := by decide +kernel
theorem dJ6_bitCount_0f7a4_9 : decode cJ6_bitCount_0f7a4 9 = .ok (.istore_n 0, 1) := by decide +kernel
theorem dJ6_bitCount_0f7a4_10 : decode cJ6_bitCount_0f7a4 10 = .ok (.iload_n 0, 1) := by decide +kernel
theorem dJ6_bitCount_0f7a4_11 : decode cJ6_bitCount_0f7a4 11 = .ok (.ldc_w 266, 3) := by decide +kernel
theorem dJ6_bitCount_0f7a4_14 : decode cJ6_bitCount_0f7a4 14 = .ok (.iand, 1) := by decide +kernel
theorem dJ6_bitCount_0f7a4_15 : decode cJ6_bitCount_0f7a4 15 = .ok (.iload_n 0, 1) := by decide +kernel
theorem dJ6_bitCount_0f7a4_16 : decode cJ6_bitCount_0f7a4 16 = .ok (.iconst 2, 1) := by decide +kernel
theorem dJ6_bitCount_0f7a4_17 : decode cJ6_bitCount_0f7a4 17 = .ok (.iushr, 1) := by decide +kernel
theorem dJ6_bitCount_0f7a4_18 : decode cJ6_bitCount_0f7a4 18 = .ok (.ldc_w 266, 3) := by decide +kernel
theorem dJ6_bitCount_0f7a4_21 : decode cJ6_bitCount_0f7a4 21 = .ok (.iand, 1) := by decide +kernel
theorem dJ6_bitCount_0f7a4_22 : decode cJ6_bitCount_0f7a4 22 = .ok (.iadd, 1) := by decide +kernel
theorem dJ6_bitCount_0f7a4_23 : decode cJ6_bitCount_0f7a4 23 = .ok (.istore_n 0, 1) := by decide +kernel
theorem dJ6_bitCount_0f7a4_24 : decode cJ6_bitCount_0f7a4 24 = .ok (.iload_n 0, 1) := by decide +kernel
theorem dJ6_bitCount_0f7a4_25 : decode cJ6_bitCount_0f7a4 25 = .ok (.iload_n 0, 1) := by decide +kernel
theorem dJ6_bitCount_0f7a4_26 : decode cJ6_bitCount_0f7a4 26 = .ok (.iconst 4, 1) := by decide +kernel
theorem dJ6_bitCount_0f7a4_27 : decode cJ6_bitCount_0f7a4 27 = .ok (.iushr, 1) := by decide +kernel
theorem dJ6_bitCount_0f7a4_28 : decode cJ6_bitCount_0f7a4 28 = .ok (.iadd, 1) := by decide +kernel
theorem dJ6_bitCount_0f7a4_29 : decode cJ6_bitCount_0f7a4 29 = .ok (.ldc_w 267, 3) := by decide +kernel
theorem dJ6_bitCount_0f7a4_32 : decode cJ6_bitCount_0f7a4 32 = .ok (.iand, 1) := by decide +kernel
theorem dJ6_bitCount_0f7a4_33 : decode cJ6_bitCount_0f7a4 33 = .ok (.istore_n 0, 1) := by decide +kernel
theorem dJ6_bitCount_0f7a4_34 : decode cJ6_bitCount_0f7a4 34 = .ok (.iload_n 0, 1) := by decide +kernel
theorem dJ6_bitCount_0f7a4_35 : decode cJ6_bitCount_0f7a4 35 = .ok (.iload_n 0, 1) := by decide +kernel
theorem dJ6_bitCount_0f7a4_36 : decode cJ6_bitCount_0f7a4 36 = .ok (.bipush 8, 2) := by decide +kernel
theorem dJ6_bitCount_0f7a4_38 : decode cJ6_bitCount_0f7a4 38 = .ok (.iushr, 1) := by decide +kernel
theorem dJ6_bitCount_0f7a4_39 : decode cJ6_bitCount_0f7a4 39 = .ok (.iadd, 1) := by decide +kernel
theorem dJ6_bitCount_0f7a4_40 : decode cJ6_bitCount_0f7a4 40 = .ok (.istore_n 0, 1) := by decide +kernel
theorem dJ6_bitCount_0f7a4_41 : decode cJ6_bitCount_0f7a4 41 = .ok (.iload_n 0, 1) := by decide +kernel
theorem dJ6_bitCount_0f7a4_42 : decode cJ6_bitCount_0f7a4 42 = .ok (.iload_n 0, 1) := by decide +kernel
theorem dJ6_bitCount_0f7a4_43 : decode cJ6_bitCount_0f7a4 43 = .ok (.bipush 16, 2) := by decide +kernel
theorem dJ6_bitCount_0f7a4_45 : decode cJ6_bitCount_0f7a4 45 = .ok (.iushr, 1) := by decide +kernel
theorem dJ6_bitCount_0f7a4_46 : decode cJ6_bitCount_0f7a4 46 = .ok (.iadd, 1) := by decide +kernel
theorem dJ6_bitCount_0f7a4_47 : decode cJ6_bitCount_0f7a4 47 = .ok (.istore_n 0, 1) := by decide +kernel
theorem dJ6_bitCount_0f7a4_48 : decode cJ6_bitCount_0f7a4 48 = .ok (.iload_n 0, 1) := by decide +kernel
theorem dJ6_bitCount_0f7a4_49 : decode cJ6_bitCount_0f7a4 49 = .ok (.bipush 63, 2) := by decide +kernel
theorem dJ6_bitCount_0f7a4_51 : decode cJ6_bitCount_0f7a4 51 = .ok (.iand, 1) := by decide +kernel
theorem dJ6_bitCount_0f7a4_52 : decode cJ6_bitCount_0f7a4 52 = .ok (.ireturn, 1) := by decide +kernel
theorem dJ13_bitCount_95d88_0 : decode cJ13_bitCount_95d88 0 = .ok (.lload_n 0, 1) := by decide +kernel
theorem dJ13_bitCount_95d88_1 : decode cJ13_bitCount_95d88 1 = .ok (.lload_n 0, 1) := by decide +kernel
theorem dJ13_bitCount_95d88_2 : decode cJ13_bitCount_95d88 2 = .ok (.iconst 1, 1) := by decide +kernel
theorem dJ13_bitCount_95d88_3 : decode cJ13_bitCount_95d88 3 = .ok (.lushr, 1) := by decide +kernel
theorem dJ13_bitCount_95d88_4 : decode cJ13_bitCount_95d88 4 = .ok (.ldc2_w 314, 3) := by decide +kernel
theorem dJ13_bitCount_95d88_7 : decode cJ13_bitCount_95d88 7 = .ok (.land, 1) := by decide +kernel
theorem dJ13_bitCount_95d88_8 : decode cJ13_bitCount_95d88 8 = .ok (.lsub, 1) := by decide +kernel
theorem dJ13_bitCount_95d88_9 : decode cJ13_bitCount_95d88 9 = .ok (.lstore_n 0, 1) := by decide +kernel
theorem dJ13_bitCount_95d88_10 : decode cJ13_bitCount_95d88 10 = .ok (.lload_n 0, 1) := by decide +kernel
theorem dJ13_bitCount_95d88_11 : decode cJ13_bitCount_95d88 11 = .ok (.ldc2_w 316, 3) := by decide +kernel
theorem dJ13_bitCount_95d88_14 : decode cJ13_bitCount_95d88 14 = .ok (.land, 1) := by decide +kernel
theorem dJ13_bitCount_95d88_15 : decode cJ13_bitCount_95d88 15 = .ok (.lload_n 0, 1) := by decide +kernel
theorem dJ13_bitCount_95d88_16 : decode cJ13_bitCount_95d88 16 = .ok (.iconst 2, 1) := by decide +kernel
theorem dJ13_bitCount_95d88_17 : decode cJ13_bitCount_95d88 17 = .ok (.lushr, 1) := by decide +kernel
theorem dJ13_bitCount_95d88_18 : decode cJ13_bitCount_95d88 18 = .ok (.ldc2_w 316, 3) := by decide +kernel
theorem dJ13_bitCount_95d88_21 : decode cJ13_bitCount_95d88 21 = .ok (.land, 1) := by decide +kernel
theorem dJ13_bitCount_95d88_22 : decode cJ13_bitCount_95d88 22 = .ok (.ladd, 1) := by decide +kernel
theorem dJ13_bitCount_95d88_23 : decode cJ13_bitCount_95d88 23 = .ok (.lstore_n 0, 1) := by decide +kernel
theorem dJ13_bitCount_95d88_24 : decode cJ13_bitCount_95d88 24 = .ok (.lload_n 0, 1) := by decide +kernel
theorem dJ13_bitCount_95d88_25 : decode cJ13_bitCount_95d88 25 = .ok (.lload_n 0, 1) := by decide +kernel
theorem dJ13_bitCount_95d88_26 : decode cJ13_bitCount_95d88 26 = .ok (.iconst 4, 1) := by decide +kernel
theorem dJ13_bitCount_95d88_27 : decode cJ13_bitCount_95d88 27 = .ok (.lushr, 1) := by decide +kernel
theorem dJ13_bitCount_95d88_28 : decode cJ13_bitCount_95d88 28 = .ok (.ladd, 1) := by decide +kernel
theorem dJ13_bitCount_95d88_29 : decode cJ13_bitCount_95d88 29 = .ok (.ldc2_w 318, 3) := by decide +kernel
theorem dJ13_bitCount_95d88_32 : decode cJ13_bitCount_95d88 32 = .ok (.land, 1) := by decide +kernel
theorem dJ13_bitCount_95d88_33 : decode cJ13_bitCount_95d88 33 = .ok (.lstore_n 0, 1) := by decide +kernel
theorem dJ13_bitCount_95d88_34 : decode cJ13_bitCount_95d88 34 = .ok (.lload_n 0, 1) := by decide +kernel
theorem dJ13_bitCount_95d88_35 : decode cJ13_bitCount_95d88 35 = .ok (.lload_n 0, 1) := by decide +kernel
theorem dJ13_bitCount_95d88_36 : decode cJ13_bitCount_95d88 36 = .ok (.bipush 8, 2) := by decide +kernel
theorem dJ13_bitCount_95d88_38 : decode cJ13_bitCount_95d88 38 = .ok (.lushr, 1) := by decide +kernel
theorem dJ13_bitCount_95d88_39 : decode cJ13_bitCount_95d88 39 = .ok (.ladd, 1) := by decide +kernel
theorem dJ13_bitCount_95d88_40 : decode cJ13_bitCount_95d88 40 = .ok (.lstore_n 0, 1) := by decide +kernel
theorem dJ13_bitCount_95d88_41 : decode cJ13_bitCount_95d88 41 = .ok (.lload_n 0, 1) := by decide +kernel
theorem dJ13_bitCount_95d88_42 : decode cJ13_bitCount_95d88 42 = .ok (.lload_n 0, 1) := by decide +kernel
theorem dJ13_bitCount_95d88_43 : decode cJ13_bitCount_95d88 43 = .ok (.bipush 16, 2) := by decide +kernel
theorem dJ13_bitCount_95d88_45 : decode cJ13_bitCount_95d88 45 = .ok (.lushr, 1) := by decide +kernel
theorem dJ13_bitCount_95d88_46 : decode cJ13_bitCount_95d88 46 = .ok (.ladd, 1) := by decide +kernel
theorem dJ13_bitCount_95d88_47 : decode cJ13_bitCount_95d88 47 = .ok (.lstore_n 0, 1) := by decide +kernel
theorem dJ13_bitCount_95d88_48 : decode cJ13_bitCount_95d88 48 = .ok (.lload_n 0, 1) := by decide +kernel
theorem dJ13_bitCount_95d88_49 : decode cJ13_bitCount_95d88 49 = .ok (.lload_n 0, 1) := by decide +kernel
theorem dJ13_bitCount_95d88_50 : decode cJ13_bitCount_95d88 50 = .ok (.bipush 32, 2) := by decide +kernel
theorem dJ13_bitCount_95d88_52 : decode cJ13_bitCount_95d88 52 = .ok (.lushr, 1) := by decide +kernel
theorem dJ13_bitCount_95d88_53 : decode cJ13_bitCount_95d88 53 = .ok (.ladd, 1) := by decide +kernel
theorem dJ13_bitCount_95d88_54 : decode cJ13_bitCount_95d88 54 = .ok (.lstore_n 0, 1) := by decide +kernel
theorem dJ13_bitCount_95d88_55 : decode cJ13_bitCount_95d88 55 = .ok (.lload_n 0, 1) := by decide +kernel
theorem dJ13_bitCount_95d88_56 : decode cJ13_bitCount_95d88 56 = .ok (.l2i, 1) := by decide +kernel
theorem dJ13_bitCount_95d88_57 : decode cJ13_bitCount_95d88 57 = .ok (.bipush 127, 2) := by decide +kernel
theorem dJ13_bitCount_95d88_59 : decode cJ13_bitCount_95d88 59 = .ok (.iand, 1) := by decide +kernel
theorem dJ13_bitCount_95d88_60 : decode cJ13_bitCount_95d88 60 = .ok (.ireturn, 1) := by decide +kernel
theorem dJ9_floorDiv_7cf53_0 : decode cJ9_floorDiv_7cf53 0 = .ok (.iload_n 0, 1) := by decide +kernel
theorem dJ9_floorDiv_7cf53_1 : decode cJ9_floorDiv_7cf53 1 = .ok (.iload_n 1, 1) := by decide +kernel
theorem dJ9_floorDiv_7cf53_2 : decode cJ9_floorDiv_7cf53 2 = .ok (.idiv, 1) := by decide +kernel
theorem dJ9_floorDiv_7cf53_3 : decode cJ9_floorDiv_7cf53 3 = .ok (.istore_n 2, 1) := by decide +kernel
theorem dJ9_floorDiv_7cf53_4 : decode cJ9_floorDiv_7cf53 4 = .ok (.iload_n 0, 1) := by decide +kernel
theorem dJ9_floorDiv_7cf53_5 : decode cJ9_floorDiv_7cf53 5 = .ok (.iload_n 1, 1) := by decide +kernel
theorem dJ9_floorDiv_7cf53_6 : decode cJ9_floorDiv_7cf53 6 = .ok (.ixor, 1) := by decide +kernel
theorem dJ9_floorDiv_7cf53_7 : decode cJ9_floorDiv_7cf53 7 = .ok (.ifCond .ge 14, 3) := by decide +kernel
theorem dJ9_floorDiv_7cf53_10 : decode cJ9_floorDiv_7cf53 10 = .ok (.iload_n 2, 1) := by decide +kernel
theorem dJ9_floorDiv_7cf53_11 : decode cJ9_floorDiv_7cf53 11 = .ok (.iload_n 1, 1) := by decide +kernel
theorem dJ9_floorDiv_7cf53_12 : decode cJ9_floorDiv_7cf53 12 = .ok (.imul, 1) := by decide +kernel
theorem dJ9_floorDiv_7cf53_13 : decode cJ9_floorDiv_7cf53 13 = .ok (.iload_n 0, 1) := by decide +kernel
theorem dJ9_floorDiv_7cf53_14 : decode cJ9_floorDiv_7cf53 14 = .ok (.if_icmp .eq 7, 3) := by decide +kernel
theorem dJ9_floorDiv_7cf53_17 : decode cJ9_floorDiv_7cf53 17 = .ok (.iload_n 2, 1) := by decide +kernel
theorem dJ9_floorDiv_7cf53_18 : decode cJ9_floorDiv_7cf53 18 = .ok (.iconst 1, 1) := by decide +kernel
theorem dJ9_floorDiv_7cf53_19 : decode cJ9_floorDiv_7cf53 19 = .ok (.isub, 1) := by decide +kernel
theorem dJ9_floorDiv_7cf53_20 : decode cJ9_floorDiv_7cf53 20 = .ok (.ireturn, 1) := by decide +kernel
theorem dJ9_floorDiv_7cf53_21 : decode cJ9_floorDiv_7cf53 21 = .ok (.iload_n 2, 1) := by decide +kernel
theorem dJ9_floorDiv_7cf53_22 : decode cJ9_floorDiv_7cf53 22 = .ok (.ireturn, 1) := by decide +kernel
theorem dJ9_max_7cf53_0 : decode cJ9_max_7cf53 0 = .ok (.iload_n 0, 1) := by decide +kernel
theorem dJ9_max_7cf53_1 : decode cJ9_max_7cf53 1 = .ok (.iload_n 1, 1) := by decide +kernel
theorem dJ9_max_7cf53_2 : decode cJ9_max_7cf53 2 = .ok (.if_icmp .lt 7, 3) := by decide +kernel
theorem dJ9_max_7cf53_5 : decode cJ9_max_7cf53 5 = .ok (.iload_n 0, 1) := by decide +kernel
theorem dJ9_max_7cf53_6 : decode cJ9_max_7cf53 6 = .ok (.goto 4, 3) := by decide +kernel
theorem dJ9_max_7cf53_9 : decode cJ9_max_7cf53 9 = .ok (.iload_n 1, 1) := by decide +kernel
theorem dJ9_max_7cf53_10 : decode cJ9_max_7cf53 10 = .ok (.ireturn, 1) := by decide +kernel
theorem dJ9_min_7cf53_0 : decode cJ9_min_7cf53 0 = .ok (.iload_n 0, 1) := by decide +kernel
theorem dJ9_min_7cf53_1 : decode cJ9_min_7cf53 1 = .ok (.iload_n 1, 1) := by decide +kernel
theorem dJ9_min_7cf53_2 : decode cJ9_min_7cf53 2 = .ok (.if_icmp .gt 7, 3) := by decide +kernel
theorem dJ9_min_7cf53_5 : decode cJ9_min_7cf53 5 = .ok (.iload_n 0, 1) := by decide +kernel
theorem dJ9_min_7cf53_6 : decode cJ9_min_7cf53 6 = .ok (.goto 4, 3) := by decide +kernel
theorem dJ9_min_7cf53_9 : decode cJ9_min_7cf53 9 = .ok (.iload_n 1, 1) := by decide +kernel
theorem dJ9_min_7cf53_10 : decode cJ9_min_7cf53 10 = .ok (.ireturn, 1) := by decide +kernel
theorem dJ9_min_f86c9_0 : decode cJ9_min_f86c9 0 = .ok (.lload_n 0, 1) := by decide +kernel
theorem dJ9_min_f86c9_1 : decode cJ9_min_f86c9 1 = .ok (.lload_n 2, 1) := by decide +kernel
theorem dJ9_min_f86c9_2 : decode cJ9_min_f86c9 2 = .ok (.lcmp, 1) := by decide +kernel
theorem dJ9_min_f86c9_3 : decode cJ9_min_f86c9 3 = .ok (.ifCond .gt 7, 3) := by decide +kernel
theorem dJ9_min_f86c9_6 : decode cJ9_min_f86c9 6 = .ok (.lload_n 0, 1) := by decide +kernel
theorem dJ9_min_f86c9_7 : decode cJ9_min_f86c9 7 = .ok (.goto 4, 3) := by decide +kernel
theorem dJ9_min_f86c9_10 : decode cJ9_min_f86c9 10 = .ok (.lload_n 2, 1) := by decide +kernel
theorem dJ9_min_f86c9_11 : decode cJ9_min_f86c9 11 = .ok (.lreturn, 1) := by decide +kernel
