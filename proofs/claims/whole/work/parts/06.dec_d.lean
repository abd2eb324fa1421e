theorem dX5_lift_26 : decode cX5_lift 26 = .ok (.iconst 1, 1) := by decide +kernel
theorem dX5_lift_27 : decode cX5_lift 27 = .ok (.iaload, 1) := by decide +kernel
theorem dX5_lift_28 : decode cX5_lift 28 = .ok (.sipush 9999, 3) := by decide +kernel
theorem dX5_lift_31 : decode cX5_lift 31 = .ok (.if_icmp .ne 6, 3) := by decide +kernel
theorem dX5_lift_34 : decode cX5_lift 34 = .ok (.bipush (-5), 2) := by decide +kernel
theorem dX5_lift_36 : decode cX5_lift 36 = .ok (.ireturn, 1) := by decide +kernel
theorem dX5_lift_37 : decode cX5_lift 37 = .ok (.aload_n 0, 1) := by decide +kernel
theorem dX5_lift_38 : decode cX5_lift 38 = .ok (.getfield 32, 3) := by decide +kernel
theorem dX5_lift_41 : decode cX5_lift 41 = .ok (.iconst 2, 1) := by decide +kernel
theorem dX5_lift_42 : decode cX5_lift 42 = .ok (.aload_n 0, 1) := by decide +kernel
theorem dX5_lift_43 : decode cX5_lift 43 = .ok (.getfield 32, 3) := by decide +kernel
theorem dX5_lift_46 : decode cX5_lift 46 = .ok (.iconst 0, 1) := by decide +kernel
theorem dX5_lift_47 : decode cX5_lift 47 = .ok (.iaload, 1) := by decide +kernel
theorem dX5_lift_48 : decode cX5_lift 48 = .ok (.iadd, 1) := by decide +kernel
theorem dX5_lift_49 : decode cX5_lift 49 = .ok (.iload_n 1, 1) := by decide +kernel
theorem dX5_lift_50 : decode cX5_lift 50 = .ok (.iastore, 1) := by decide +kernel
theorem dX5_lift_51 : decode cX5_lift 51 = .ok (.aload_n 0, 1) := by decide +kernel
theorem dX5_lift_52 : decode cX5_lift 52 = .ok (.getfield 32, 3) := by decide +kernel
theorem dX5_lift_55 : decode cX5_lift 55 = .ok (.iconst 0, 1) := by decide +kernel
theorem dX5_lift_56 : decode cX5_lift 56 = .ok (.dup2, 1) := by decide +kernel
theorem dX5_lift_57 : decode cX5_lift 57 = .ok (.iaload, 1) := by decide +kernel
theorem dX5_lift_58 : decode cX5_lift 58 = .ok (.iconst 1, 1) := by decide +kernel
theorem dX5_lift_59 : decode cX5_lift 59 = .ok (.iadd, 1) := by decide +kernel
theorem dX5_lift_60 : decode cX5_lift 60 = .ok (.iastore, 1) := by decide +kernel
theorem dX5_lift_61 : decode cX5_lift 61 = .ok (.aload_n 0, 1) := by decide +kernel
theorem dX5_lift_62 : decode cX5_lift 62 = .ok (.getfield 32, 3) := by decide +kernel
theorem dX5_lift_65 : decode cX5_lift 65 = .ok (.iconst 1, 1) := by decide +kernel
theorem dX5_lift_66 : decode cX5_lift 66 = .ok (.dup2, 1) := by decide +kernel
theorem dX5_lift_67 : decode cX5_lift 67 = .ok (.iaload, 1) := by decide +kernel
theorem dX5_lift_68 : decode cX5_lift 68 = .ok (.iconst 1, 1) := by decide +kernel
theorem dX5_lift_69 : decode cX5_lift 69 = .ok (.iadd, 1) := by decide +kernel
theorem dX5_lift_70 : decode cX5_lift 70 = .ok (.iastore, 1) := by decide +kernel
theorem dX5_lift_71 : decode cX5_lift 71 = .ok (.aload_n 0, 1) := by decide +kernel
theorem dX5_lift_72 : decode cX5_lift 72 = .ok (.getfield 32, 3) := by decide +kernel
theorem dX5_lift_75 : decode cX5_lift 75 = .ok (.iconst 0, 1) := by decide +kernel
theorem dX5_lift_76 : decode cX5_lift 76 = .ok (.iaload, 1) := by decide +kernel
theorem dX5_lift_77 : decode cX5_lift 77 = .ok (.ireturn, 1) := by decide +kernel
theorem dX5_rest_0 : decode cX5_rest 0 = .ok (.iload_n 1, 1) := by decide +kernel
theorem dX5_rest_1 : decode cX5_rest 1 = .ok (.iconst 1, 1) := by decide +kernel
theorem dX5_rest_2 : decode cX5_rest 2 = .ok (.bipush 99, 2) := by decide +kernel
theorem dX5_rest_4 : decode cX5_rest 4 = .ok (.invokestatic 60, 3) := by decide +kernel
theorem dX5_rest_7 : decode cX5_rest 7 = .ok (.ifCond .ne 6, 3) := by decide +kernel
theorem dX5_rest_10 : decode cX5_rest 10 = .ok (.bipush (-3), 2) := by decide +kernel
theorem dX5_rest_12 : decode cX5_rest 12 = .ok (.ireturn, 1) := by decide +kernel
theorem dX5_rest_13 : decode cX5_rest 13 = .ok (.aload_n 0, 1) := by decide +kernel
theorem dX5_rest_14 : decode cX5_rest 14 = .ok (.getfield 32, 3) := by decide +kernel
theorem dX5_rest_17 : decode cX5_rest 17 = .ok (.iconst 1, 1) := by decide +kernel
theorem dX5_rest_18 : decode cX5_rest 18 = .ok (.iaload, 1) := by decide +kernel
theorem dX5_rest_19 : decode cX5_rest 19 = .ok (.iload_n 1, 1) := by decide +kernel
theorem dX5_rest_20 : decode cX5_rest 20 = .ok (.iadd, 1) := by decide +kernel
theorem dX5_rest_21 : decode cX5_rest 21 = .ok (.sipush 9999, 3) := by decide +kernel
theorem dX5_rest_24 : decode cX5_rest 24 = .ok (.if_icmp .le 6, 3) := by decide +kernel
theorem dX5_rest_27 : decode cX5_rest 27 = .ok (.bipush (-5), 2) := by decide +kernel
theorem dX5_rest_29 : decode cX5_rest 29 = .ok (.ireturn, 1) := by decide +kernel
theorem dX5_rest_30 : decode cX5_rest 30 = .ok (.aload_n 0, 1) := by decide +kernel
theorem dX5_rest_31 : decode cX5_rest 31 = .ok (.getfield 32, 3) := by decide +kernel
theorem dX5_rest_34 : decode cX5_rest 34 = .ok (.iconst 1, 1) := by decide +kernel
theorem dX5_rest_35 : decode cX5_rest 35 = .ok (.dup2, 1) := by decide +kernel
theorem dX5_rest_36 : decode cX5_rest 36 = .ok (.iaload, 1) := by decide +kernel
theorem dX5_rest_37 : decode cX5_rest 37 = .ok (.iload_n 1, 1) := by decide +kernel
theorem dX5_rest_38 : decode cX5_rest 38 = .ok (.iadd, 1) := by decide +kernel
theorem dX5_rest_39 : decode cX5_rest 39 = .ok (.iastore, 1) := by decide +kernel
theorem dX5_rest_40 : decode cX5_rest 40 = .ok (.aload_n 0, 1) := by decide +kernel
theorem dX5_rest_41 : decode cX5_rest 41 = .ok (.getfield 32, 3) := by decide +kernel
theorem dX5_rest_44 : decode cX5_rest 44 = .ok (.iconst 1, 1) := by decide +kernel
theorem dX5_rest_45 : decode cX5_rest 45 = .ok (.iaload, 1) := by decide +kernel
theorem dX5_rest_46 : decode cX5_rest 46 = .ok (.ireturn, 1) := by decide +kernel
theorem dX5_up_0 : decode cX5_up 0 = .ok (.iload_n 1, 1) := by decide +kernel
theorem dX5_up_1 : decode cX5_up 1 = .ok (.ifCond .ge 6, 3) := by decide +kernel
theorem dX5_up_4 : decode cX5_up 4 = .ok (.bipush (-3), 2) := by decide +kernel
theorem dX5_up_6 : decode cX5_up 6 = .ok (.ireturn, 1) := by decide +kernel
theorem dX5_up_7 : decode cX5_up 7 = .ok (.iload_n 1, 1) := by decide +kernel
theorem dX5_up_8 : decode cX5_up 8 = .ok (.aload_n 0, 1) := by decide +kernel
theorem dX5_up_9 : decode cX5_up 9 = .ok (.getfield 32, 3) := by decide +kernel
theorem dX5_up_12 : decode cX5_up 12 = .ok (.iconst 0, 1) := by decide +kernel
theorem dX5_up_13 : decode cX5_up 13 = .ok (.iaload, 1) := by decide +kernel
theorem dX5_up_14 : decode cX5_up 14 = .ok (.if_icmp .ge 14, 3) := by decide +kernel
theorem dX5_up_17 : decode cX5_up 17 = .ok (.aload_n 0, 1) := by decide +kernel
theorem dX5_up_18 : decode cX5_up 18 = .ok (.getfield 32, 3) := by decide +kernel
theorem dX5_up_21 : decode cX5_up 21 = .ok (.iconst 2, 1) := by decide +kernel
theorem dX5_up_22 : decode cX5_up 22 = .ok (.iload_n 1, 1) := by decide +kernel
theorem dX5_up_23 : decode cX5_up 23 = .ok (.iadd, 1) := by decide +kernel
theorem dX5_up_24 : decode cX5_up 24 = .ok (.iaload, 1) := by decide +kernel
theorem dX5_up_25 : decode cX5_up 25 = .ok (.goto 4, 3) := by decide +kernel
theorem dX5_up_28 : decode cX5_up 28 = .ok (.iconst (-1), 1) := by decide +kernel
theorem dX5_up_29 : decode cX5_up 29 = .ok (.ireturn, 1) := by decide +kernel
theorem dX5_floor_0 : decode cX5_floor 0 = .ok (.aload_n 0, 1) := by decide +kernel
theorem dX5_floor_1 : decode cX5_floor 1 = .ok (.iload_n 1, 1) := by decide +kernel
theorem dX5_floor_2 : decode cX5_floor 2 = .ok (.invokevirtual 172, 3) := by decide +kernel
theorem dX5_floor_5 : decode cX5_floor 5 = .ok (.ifCond .ne 6, 3) := by decide +kernel
theorem dX5_floor_8 : decode cX5_floor 8 = .ok (.bipush (-2), 2) := by decide +kernel
theorem dX5_floor_10 : decode cX5_floor 10 = .ok (.ireturn, 1) := by decide +kernel
theorem dX5_floor_11 : decode cX5_floor 11 = .ok (.iconst 0, 1) := by decide +kernel
theorem dX5_floor_12 : decode cX5_floor 12 = .ok (.istore_n 2, 1) := by decide +kernel
theorem dX5_floor_13 : decode cX5_floor 13 = .ok (.aload_n 0, 1) := by decide +kernel
theorem dX5_floor_14 : decode cX5_floor 14 = .ok (.getfield 32, 3) := by decide +kernel
theorem dX5_floor_17 : decode cX5_floor 17 = .ok (.iconst 0, 1) := by decide +kernel
theorem dX5_floor_18 : decode cX5_floor 18 = .ok (.iaload, 1) := by decide +kernel
theorem dX5_floor_19 : decode cX5_floor 19 = .ok (.iconst 1, 1) := by decide +kernel
theorem dX5_floor_20 : decode cX5_floor 20 = .ok (.isub, 1) := by decide +kernel
theorem dX5_floor_21 : decode cX5_floor 21 = .ok (.istore_n 3, 1) := by decide +kernel
theorem dX5_floor_22 : decode cX5_floor 22 = .ok (.iload_n 3, 1) := by decide +kernel
theorem dX5_floor_23 : decode cX5_floor 23 = .ok (.ifCond .lt 43, 3) := by decide +kernel
theorem dX5_floor_26 : decode cX5_floor 26 = .ok (.aload_n 0, 1) := by decide +kernel
theorem dX5_floor_27 : decode cX5_floor 27 = .ok (.getfield 32, 3) := by decide +kernel
theorem dX5_floor_30 : decode cX5_floor 30 = .ok (.iconst 2, 1) := by decide +kernel
theorem dX5_floor_31 : decode cX5_floor 31 = .ok (.iload_n 3, 1) := by decide +kernel
theorem dX5_floor_32 : decode cX5_floor 32 = .ok (.iadd, 1) := by decide +kernel
theorem dX5_floor_33 : decode cX5_floor 33 = .ok (.iaload, 1) := by decide +kernel
theorem dX5_floor_34 : decode cX5_floor 34 = .ok (.iload_n 1, 1) := by decide +kernel
theorem dX5_floor_35 : decode cX5_floor 35 = .ok (.if_icmp .ne 5, 3) := by decide +kernel
theorem dX5_floor_38 : decode cX5_floor 38 = .ok (.iload_n 2, 1) := by decide +kernel
theorem dX5_floor_39 : decode cX5_floor 39 = .ok (.ireturn, 1) := by decide +kernel
theorem dX5_floor_40 : decode cX5_floor 40 = .ok (.iload_n 2, 1) := by decide +kernel
theorem dX5_floor_41 : decode cX5_floor 41 = .ok (.aload_n 0, 1) := by decide +kernel
theorem dX5_floor_42 : decode cX5_floor 42 = .ok (.getfield 7, 3) := by decide +kernel
theorem dX5_floor_45 : decode cX5_floor 45 = .ok (.iconst 5, 1) := by decide +kernel
theorem dX5_floor_46 : decode cX5_floor 46 = .ok (.aload_n 0, 1) := by decide +kernel
theorem dX5_floor_47 : decode cX5_floor 47 = .ok (.getfield 32, 3) := by decide +kernel
theorem dX5_floor_50 : decode cX5_floor 50 = .ok (.iconst 2, 1) := by decide +kernel
theorem dX5_floor_51 : decode cX5_floor 51 = .ok (.iload_n 3, 1) := by decide +kernel
theorem dX5_floor_52 : decode cX5_floor 52 = .ok (.iadd, 1) := by decide +kernel
theorem dX5_floor_53 : decode cX5_floor 53 = .ok (.iaload, 1) := by decide +kernel
theorem dX5_floor_54 : decode cX5_floor 54 = .ok (.imul, 1) := by decide +kernel
theorem dX5_floor_55 : decode cX5_floor 55 = .ok (.iconst 3, 1) := by decide +kernel
theorem dX5_floor_56 : decode cX5_floor 56 = .ok (.iadd, 1) := by decide +kernel
theorem dX5_floor_57 : decode cX5_floor 57 = .ok (.iaload, 1) := by decide +kernel
theorem dX5_floor_58 : decode cX5_floor 58 = .ok (.iadd, 1) := by decide +kernel
theorem dX5_floor_59 : decode cX5_floor 59 = .ok (.istore_n 2, 1) := by decide +kernel
theorem dX5_floor_60 : decode cX5_floor 60 = .ok (.iinc 3 (-1), 3) := by decide +kernel
theorem dX5_floor_63 : decode cX5_floor 63 = .ok (.goto (-41), 3) := by decide +kernel
theorem dX5_floor_66 : decode cX5_floor 66 = .ok (.iconst (-1), 1) := by decide +kernel
theorem dX5_floor_67 : decode cX5_floor 67 = .ok (.ireturn, 1) := by decide +kernel
theorem dX5_keep_0 : decode cX5_keep 0 = .ok (.iload_n 1, 1) := by decide +kernel
theorem dX5_keep_1 : decode cX5_keep 1 = .ok (.iconst 0, 1) := by decide +kernel
theorem dX5_keep_2 : decode cX5_keep 2 = .ok (.iconst 1, 1) := by decide +kernel
theorem dX5_keep_3 : decode cX5_keep 3 = .ok (.invokestatic 60, 3) := by decide +kernel
theorem dX5_keep_6 : decode cX5_keep 6 = .ok (.ifCond .ne 6, 3) := by decide +kernel
theorem dX5_keep_9 : decode cX5_keep 9 = .ok (.bipush (-2), 2) := by decide +kernel
theorem dX5_keep_11 : decode cX5_keep 11 = .ok (.ireturn, 1) := by decide +kernel
theorem dX5_keep_12 : decode cX5_keep 12 = .ok (.iconst 0, 1) := by decide +kernel
theorem dX5_keep_13 : decode cX5_keep 13 = .ok (.istore_n 2, 1) := by decide +kernel
theorem dX5_keep_14 : decode cX5_keep 14 = .ok (.iload_n 2, 1) := by decide +kernel
theorem dX5_keep_15 : decode cX5_keep 15 = .ok (.bipush 10, 2) := by decide +kernel
theorem dX5_keep_17 : decode cX5_keep 17 = .ok (.if_icmp .ge 26, 3) := by decide +kernel
theorem dX5_keep_20 : decode cX5_keep 20 = .ok (.aload_n 0, 1) := by decide +kernel
theorem dX5_keep_21 : decode cX5_keep 21 = .ok (.getfield 35, 3) := by decide +kernel
theorem dX5_keep_24 : decode cX5_keep 24 = .ok (.bipush 10, 2) := by decide +kernel
theorem dX5_keep_26 : decode cX5_keep 26 = .ok (.iload_n 1, 1) := by decide +kernel
theorem dX5_keep_27 : decode cX5_keep 27 = .ok (.imul, 1) := by decide +kernel
theorem dX5_keep_28 : decode cX5_keep 28 = .ok (.iload_n 2, 1) := by decide +kernel
theorem dX5_keep_29 : decode cX5_keep 29 = .ok (.iadd, 1) := by decide +kernel
theorem dX5_keep_30 : decode cX5_keep 30 = .ok (.aload_n 0, 1) := by decide +kernel
theorem dX5_keep_31 : decode cX5_keep 31 = .ok (.getfield 32, 3) := by decide +kernel
theorem dX5_keep_34 : decode cX5_keep 34 = .ok (.iload_n 2, 1) := by decide +kernel
theorem dX5_keep_35 : decode cX5_keep 35 = .ok (.iaload, 1) := by decide +kernel
theorem dX5_keep_36 : decode cX5_keep 36 = .ok (.iastore, 1) := by decide +kernel
theorem dX5_keep_37 : decode cX5_keep 37 = .ok (.iinc 2 1, 3) := by decide +kernel
theorem dX5_keep_40 : decode cX5_keep 40 = .ok (.goto (-26), 3) := by decide +kernel
theorem dX5_keep_43 : decode cX5_keep 43 = .ok (.aload_n 0, 1) := by decide +kernel
theorem dX5_keep_44 : decode cX5_keep 44 = .ok (.getfield 38, 3) := by decide +kernel
theorem dX5_keep_47 : decode cX5_keep 47 = .ok (.iload_n 1, 1) := by decide +kernel
theorem dX5_keep_48 : decode cX5_keep 48 = .ok (.iconst 1, 1) := by decide +kernel
theorem dX5_keep_49 : decode cX5_keep 49 = .ok (.bastore, 1) := by decide +kernel
theorem dX5_keep_50 : decode cX5_keep 50 = .ok (.aload_n 0, 1) := by decide +kernel
theorem dX5_keep_51 : decode cX5_keep 51 = .ok (.getfield 32, 3) := by decide +kernel
theorem dX5_keep_54 : decode cX5_keep 54 = .ok (.iconst 0, 1) := by decide +kernel
theorem dX5_keep_55 : decode cX5_keep 55 = .ok (.iaload, 1) := by decide +kernel
theorem dX5_keep_56 : decode cX5_keep 56 = .ok (.ireturn, 1) := by decide +kernel
theorem dX5_back_0 : decode cX5_back 0 = .ok (.iload_n 1, 1) := by decide +kernel
theorem dX5_back_1 : decode cX5_back 1 = .ok (.iconst 0, 1) := by decide +kernel
theorem dX5_back_2 : decode cX5_back 2 = .ok (.iconst 1, 1) := by decide +kernel
theorem dX5_back_3 : decode cX5_back 3 = .ok (.invokestatic 60, 3) := by decide +kernel
theorem dX5_back_6 : decode cX5_back 6 = .ok (.ifCond .ne 6, 3) := by decide +kernel
theorem dX5_back_9 : decode cX5_back 9 = .ok (.bipush (-2), 2) := by decide +kernel
theorem dX5_back_11 : decode cX5_back 11 = .ok (.ireturn, 1) := by decide +kernel
theorem dX5_back_12 : decode cX5_back 12 = .ok (.aload_n 0, 1) := by decide +kernel
theorem dX5_back_13 : decode cX5_back 13 = .ok (.getfield 38, 3) := by decide +kernel
theorem dX5_back_16 : decode cX5_back 16 = .ok (.iload_n 1, 1) := by decide +kernel
theorem dX5_back_17 : decode cX5_back 17 = .ok (.baload, 1) := by decide +kernel
theorem dX5_back_18 : decode cX5_back 18 = .ok (.ifCond .ne 6, 3) := by decide +kernel
theorem dX5_back_21 : decode cX5_back 21 = .ok (.bipush (-4), 2) := by decide +kernel
theorem dX5_back_23 : decode cX5_back 23 = .ok (.ireturn, 1) := by decide +kernel
theorem dX5_back_24 : decode cX5_back 24 = .ok (.iconst 0, 1) := by decide +kernel
theorem dX5_back_25 : decode cX5_back 25 = .ok (.istore_n 2, 1) := by decide +kernel
theorem dX5_back_26 : decode cX5_back 26 = .ok (.iload_n 2, 1) := by decide +kernel
theorem dX5_back_27 : decode cX5_back 27 = .ok (.bipush 10, 2) := by decide +kernel
theorem dX5_back_29 : decode cX5_back 29 = .ok (.if_icmp .ge 26, 3) := by decide +kernel
theorem dX5_back_32 : decode cX5_back 32 = .ok (.aload_n 0, 1) := by decide +kernel
theorem dX5_back_33 : decode cX5_back 33 = .ok (.getfield 32, 3) := by decide +kernel
theorem dX5_back_36 : decode cX5_back 36 = .ok (.iload_n 2, 1) := by decide +kernel
theorem dX5_back_37 : decode cX5_back 37 = .ok (.aload_n 0, 1) := by decide +kernel
theorem dX5_back_38 : decode cX5_back 38 = .ok (.getfield 35, 3) := by decide +kernel
theorem dX5_back_41 : decode cX5_back 41 = .ok (.bipush 10, 2) := by decide +kernel
theorem dX5_back_43 : decode cX5_back 43 = .ok (.iload_n 1, 1) := by decide +kernel
theorem dX5_back_44 : decode cX5_back 44 = .ok (.imul, 1) := by decide +kernel
theorem dX5_back_45 : decode cX5_back 45 = .ok (.iload_n 2, 1) := by decide +kernel
theorem dX5_back_46 : decode cX5_back 46 = .ok (.iadd, 1) := by decide +kernel
theorem dX5_back_47 : decode cX5_back 47 = .ok (.iaload, 1) := by decide +kernel
theorem dX5_back_48 : decode cX5_back 48 = .ok (.iastore, 1) := by decide +kernel
theorem dX5_back_49 : decode cX5_back 49 = .ok (.iinc 2 1, 3) := by decide +kernel
theorem dX5_back_52 : decode cX5_back 52 = .ok (.goto (-26), 3) := by decide +kernel
theorem dX5_back_55 : decode cX5_back 55 = .ok (.aload_n 0, 1) := by decide +kernel
theorem dX5_back_56 : decode cX5_back 56 = .ok (.iconst 0, 1) := by decide +kernel
theorem dX5_back_57 : decode cX5_back 57 = .ok (.putfield 169, 3) := by decide +kernel
theorem dX5_back_60 : decode cX5_back 60 = .ok (.aload_n 0, 1) := by decide +kernel
theorem dX5_back_61 : decode cX5_back 61 = .ok (.getfield 32, 3) := by decide +kernel
theorem dX5_back_64 : decode cX5_back 64 = .ok (.iconst 0, 1) := by decide +kernel
theorem dX5_back_65 : decode cX5_back 65 = .ok (.iaload, 1) := by decide +kernel
theorem dX5_back_66 : decode cX5_back 66 = .ok (.ireturn, 1) := by decide +kernel
theorem dX5_layWays_0 : decode cX5_layWays 0 = .ok (.iconst 1, 1) := by decide +kernel
theorem dX5_layWays_1 : decode cX5_layWays 1 = .ok (.aload_n 0, 1) := by decide +kernel
theorem dX5_layWays_2 : decode cX5_layWays 2 = .ok (.getfield 57, 3) := by decide +kernel
theorem dX5_layWays_5 : decode cX5_layWays 5 = .ok (.ishl, 1) := by decide +kernel
theorem dX5_layWays_6 : decode cX5_layWays 6 = .ok (.iconst 1, 1) := by decide +kernel
theorem dX5_layWays_7 : decode cX5_layWays 7 = .ok (.isub, 1) := by decide +kernel
theorem dX5_layWays_8 : decode cX5_layWays 8 = .ok (.istore_n 2, 1) := by decide +kernel
theorem dX5_layWays_9 : decode cX5_layWays 9 = .ok (.iconst 0, 1) := by decide +kernel
theorem dX5_layWays_10 : decode cX5_layWays 10 = .ok (.istore_n 3, 1) := by decide +kernel
theorem dX5_layWays_11 : decode cX5_layWays 11 = .ok (.iload_n 3, 1) := by decide +kernel
theorem dX5_layWays_12 : decode cX5_layWays 12 = .ok (.iload_n 2, 1) := by decide +kernel
theorem dX5_layWays_13 : decode cX5_layWays 13 = .ok (.if_icmp .gt 107, 3) := by decide +kernel
theorem dX5_layWays_16 : decode cX5_layWays 16 = .ok (.aload_n 0, 1) := by decide +kernel
theorem dX5_layWays_17 : decode cX5_layWays 17 = .ok (.getfield 48, 3) := by decide +kernel
theorem dX5_layWays_20 : decode cX5_layWays 20 = .ok (.iload_n 3, 1) := by decide +kernel
theorem dX5_layWays_21 : decode cX5_layWays 21 = .ok (.iload_n 3, 1) := by decide +kernel
theorem dX5_layWays_22 : decode cX5_layWays 22 = .ok (.ifCond .ne 7, 3) := by decide +kernel
theorem dX5_layWays_25 : decode cX5_layWays 25 = .ok (.iconst 1, 1) := by decide +kernel
theorem dX5_layWays_26 : decode cX5_layWays 26 = .ok (.goto 4, 3) := by decide +kernel
theorem dX5_layWays_29 : decode cX5_layWays 29 = .ok (.iconst 0, 1) := by decide +kernel
theorem dX5_layWays_30 : decode cX5_layWays 30 = .ok (.iastore, 1) := by decide +kernel
theorem dX5_layWays_31 : decode cX5_layWays 31 = .ok (.iconst 0, 1) := by decide +kernel
theorem dX5_layWays_32 : decode cX5_layWays 32 = .ok (.istore 4, 2) := by decide +kernel
theorem dX5_layWays_34 : decode cX5_layWays 34 = .ok (.iload 4, 2) := by decide +kernel
theorem dX5_layWays_36 : decode cX5_layWays 36 = .ok (.aload_n 0, 1) := by decide +kernel
theorem dX5_layWays_37 : decode cX5_layWays 37 = .ok (.getfield 57, 3) := by decide +kernel
theorem dX5_layWays_40 : decode cX5_layWays 40 = .ok (.if_icmp .ge 74, 3) := by decide +kernel
theorem dX5_layWays_43 : decode cX5_layWays 43 = .ok (.iload_n 3, 1) := by decide +kernel
theorem dX5_layWays_44 : decode cX5_layWays 44 = .ok (.iload 4, 2) := by decide +kernel
theorem dX5_layWays_46 : decode cX5_layWays 46 = .ok (.invokestatic 179, 3) := by decide +kernel
theorem dX5_layWays_49 : decode cX5_layWays 49 = .ok (.ifCond .eq 25, 3) := by decide +kernel
theorem dX5_layWays_52 : decode cX5_layWays 52 = .ok (.aload_n 0, 1) := by decide +kernel
theorem dX5_layWays_53 : decode cX5_layWays 53 = .ok (.iload 4, 2) := by decide +kernel
theorem dX5_layWays_55 : decode cX5_layWays 55 = .ok (.iload_n 3, 1) := by decide +kernel
theorem dX5_layWays_56 : decode cX5_layWays 56 = .ok (.iconst 1, 1) := by decide +kernel
theorem dX5_layWays_57 : decode cX5_layWays 57 = .ok (.iload 4, 2) := by decide +kernel
theorem dX5_layWays_59 : decode cX5_layWays 59 = .ok (.ishl, 1) := by decide +kernel
theorem dX5_layWays_60 : decode cX5_layWays 60 = .ok (.iconst (-1), 1) := by decide +kernel
theorem dX5_layWays_61 : decode cX5_layWays 61 = .ok (.ixor, 1) := by decide +kernel
theorem dX5_layWays_62 : decode cX5_layWays 62 = .ok (.iand, 1) := by decide +kernel
theorem dX5_layWays_63 : decode cX5_layWays 63 = .ok (.iload_n 1, 1) := by decide +kernel
theorem dX5_layWays_64 : decode cX5_layWays 64 = .ok (.invokevirtual 196, 3) := by decide +kernel
theorem dX5_layWays_67 : decode cX5_layWays 67 = .ok (.ifCond .ne 7, 3) := by decide +kernel
theorem dX5_layWays_70 : decode cX5_layWays 70 = .ok (.iconst 1, 1) := by decide +kernel
theorem dX5_layWays_71 : decode cX5_layWays 71 = .ok (.goto 4, 3) := by decide +kernel
theorem dX5_layWays_74 : decode cX5_layWays 74 = .ok (.iconst 0, 1) := by decide +kernel
theorem dX5_layWays_75 : decode cX5_layWays 75 = .ok (.istore 5, 2) := by decide +kernel
theorem dX5_layWays_77 : decode cX5_layWays 77 = .ok (.aload_n 0, 1) := by decide +kernel
theorem dX5_layWays_78 : decode cX5_layWays 78 = .ok (.getfield 48, 3) := by decide +kernel
theorem dX5_layWays_81 : decode cX5_layWays 81 = .ok (.iload_n 3, 1) := by decide +kernel
theorem dX5_layWays_82 : decode cX5_layWays 82 = .ok (.dup2, 1) := by decide +kernel
theorem dX5_layWays_83 : decode cX5_layWays 83 = .ok (.iaload, 1) := by decide +kernel
theorem dX5_layWays_84 : decode cX5_layWays 84 = .ok (.iload 5, 2) := by decide +kernel
theorem dX5_layWays_86 : decode cX5_layWays 86 = .ok (.ifCond .eq 19, 3) := by decide +kernel
theorem dX5_layWays_89 : decode cX5_layWays 89 = .ok (.aload_n 0, 1) := by decide +kernel
theorem dX5_layWays_90 : decode cX5_layWays 90 = .ok (.getfield 48, 3) := by decide +kernel
theorem dX5_layWays_93 : decode cX5_layWays 93 = .ok (.iload_n 3, 1) := by decide +kernel
theorem dX5_layWays_94 : decode cX5_layWays 94 = .ok (.iconst 1, 1) := by decide +kernel
theorem dX5_layWays_95 : decode cX5_layWays 95 = .ok (.iload 4, 2) := by decide +kernel
theorem dX5_layWays_97 : decode cX5_layWays 97 = .ok (.ishl, 1) := by decide +kernel
theorem dX5_layWays_98 : decode cX5_layWays 98 = .ok (.iconst (-1), 1) := by decide +kernel
theorem dX5_layWays_99 : decode cX5_layWays 99 = .ok (.ixor, 1) := by decide +kernel
theorem dX5_layWays_100 : decode cX5_layWays 100 = .ok (.iand, 1) := by decide +kernel
theorem dX5_layWays_101 : decode cX5_layWays 101 = .ok (.iaload, 1) := by decide +kernel
theorem dX5_layWays_102 : decode cX5_layWays 102 = .ok (.goto 4, 3) := by decide +kernel
theorem dX5_layWays_105 : decode cX5_layWays 105 = .ok (.iconst 0, 1) := by decide +kernel
theorem dX5_layWays_106 : decode cX5_layWays 106 = .ok (.iadd, 1) := by decide +kernel
theorem dX5_layWays_107 : decode cX5_layWays 107 = .ok (.iastore, 1) := by decide +kernel
theorem dX5_layWays_108 : decode cX5_layWays 108 = .ok (.iinc 4 1, 3) := by decide +kernel
theorem dX5_layWays_111 : decode cX5_layWays 111 = .ok (.goto (-77), 3) := by decide +kernel
theorem dX5_layWays_114 : decode cX5_layWays 114 = .ok (.iinc 3 1, 3) := by decide +kernel
theorem dX5_layWays_117 : decode cX5_layWays 117 = .ok (.goto (-106), 3) := by decide +kernel
theorem dX5_layWays_120 : decode cX5_layWays 120 = .ok (.iload_n 2, 1) := by decide +kernel
theorem dX5_layWays_121 : decode cX5_layWays 121 = .ok (.istore_n 3, 1) := by decide +kernel
theorem dX5_layWays_122 : decode cX5_layWays 122 = .ok (.iload_n 3, 1) := by decide +kernel
theorem dX5_layWays_123 : decode cX5_layWays 123 = .ok (.ifCond .lt 93, 3) := by decide +kernel
theorem dX5_layWays_126 : decode cX5_layWays 126 = .ok (.iload_n 3, 1) := by decide +kernel
theorem dX5_layWays_127 : decode cX5_layWays 127 = .ok (.iload_n 2, 1) := by decide +kernel
theorem dX5_layWays_128 : decode cX5_layWays 128 = .ok (.if_icmp .ne 7, 3) := by decide +kernel
theorem dX5_layWays_131 : decode cX5_layWays 131 = .ok (.iconst 1, 1) := by decide +kernel
theorem dX5_layWays_132 : decode cX5_layWays 132 = .ok (.goto 4, 3) := by decide +kernel
theorem dX5_layWays_135 : decode cX5_layWays 135 = .ok (.iconst 0, 1) := by decide +kernel
theorem dX5_layWays_136 : decode cX5_layWays 136 = .ok (.istore 4, 2) := by decide +kernel
theorem dX5_layWays_138 : decode cX5_layWays 138 = .ok (.iconst 0, 1) := by decide +kernel
theorem dX5_layWays_139 : decode cX5_layWays 139 = .ok (.istore 5, 2) := by decide +kernel
theorem dX5_layWays_141 : decode cX5_layWays 141 = .ok (.iload 5, 2) := by decide +kernel
theorem dX5_layWays_143 : decode cX5_layWays 143 = .ok (.aload_n 0, 1) := by decide +kernel
theorem dX5_layWays_144 : decode cX5_layWays 144 = .ok (.getfield 57, 3) := by decide +kernel
theorem dX5_layWays_147 : decode cX5_layWays 147 = .ok (.if_icmp .ge 55, 3) := by decide +kernel
theorem dX5_layWays_150 : decode cX5_layWays 150 = .ok (.iload 4, 2) := by decide +kernel
theorem dX5_layWays_152 : decode cX5_layWays 152 = .ok (.ifCond .ne 50, 3) := by decide +kernel
theorem dX5_layWays_155 : decode cX5_layWays 155 = .ok (.iload_n 3, 1) := by decide +kernel
theorem dX5_layWays_156 : decode cX5_layWays 156 = .ok (.iload 5, 2) := by decide +kernel
theorem dX5_layWays_158 : decode cX5_layWays 158 = .ok (.invokestatic 179, 3) := by decide +kernel
theorem dX5_layWays_161 : decode cX5_layWays 161 = .ok (.ifCond .ne 32, 3) := by decide +kernel
theorem dX5_layWays_164 : decode cX5_layWays 164 = .ok (.aload_n 0, 1) := by decide +kernel
theorem dX5_layWays_165 : decode cX5_layWays 165 = .ok (.getfield 51, 3) := by decide +kernel
theorem dX5_layWays_168 : decode cX5_layWays 168 = .ok (.iload_n 3, 1) := by decide +kernel
theorem dX5_layWays_169 : decode cX5_layWays 169 = .ok (.iconst 1, 1) := by decide +kernel
theorem dX5_layWays_170 : decode cX5_layWays 170 = .ok (.iload 5, 2) := by decide +kernel
theorem dX5_layWays_172 : decode cX5_layWays 172 = .ok (.ishl, 1) := by decide +kernel
theorem dX5_layWays_173 : decode cX5_layWays 173 = .ok (.ior, 1) := by decide +kernel
theorem dX5_layWays_174 : decode cX5_layWays 174 = .ok (.baload, 1) := by decide +kernel
theorem dX5_layWays_175 : decode cX5_layWays 175 = .ok (.ifCond .eq 18, 3) := by decide +kernel
theorem dX5_layWays_178 : decode cX5_layWays 178 = .ok (.aload_n 0, 1) := by decide +kernel
theorem dX5_layWays_179 : decode cX5_layWays 179 = .ok (.iload 5, 2) := by decide +kernel
theorem dX5_layWays_181 : decode cX5_layWays 181 = .ok (.iload_n 3, 1) := by decide +kernel
theorem dX5_layWays_182 : decode cX5_layWays 182 = .ok (.iload_n 1, 1) := by decide +kernel
theorem dX5_layWays_183 : decode cX5_layWays 183 = .ok (.invokevirtual 196, 3) := by decide +kernel
theorem dX5_layWays_186 : decode cX5_layWays 186 = .ok (.ifCond .ne 7, 3) := by decide +kernel
theorem dX5_layWays_189 : decode cX5_layWays 189 = .ok (.iconst 1, 1) := by decide +kernel
theorem dX5_layWays_190 : decode cX5_layWays 190 = .ok (.goto 4, 3) := by decide +kernel
theorem dX5_layWays_193 : decode cX5_layWays 193 = .ok (.iconst 0, 1) := by decide +kernel
theorem dX5_layWays_194 : decode cX5_layWays 194 = .ok (.istore 4, 2) := by decide +kernel
theorem dX5_layWays_196 : decode cX5_layWays 196 = .ok (.iinc 5 1, 3) := by decide +kernel
theorem dX5_layWays_199 : decode cX5_layWays 199 = .ok (.goto (-58), 3) := by decide +kernel
theorem dX5_layWays_202 : decode cX5_layWays 202 = .ok (.aload_n 0, 1) := by decide +kernel
theorem dX5_layWays_203 : decode cX5_layWays 203 = .ok (.getfield 51, 3) := by decide +kernel
theorem dX5_layWays_206 : decode cX5_layWays 206 = .ok (.iload_n 3, 1) := by decide +kernel
theorem dX5_layWays_207 : decode cX5_layWays 207 = .ok (.iload 4, 2) := by decide +kernel
theorem dX5_layWays_209 : decode cX5_layWays 209 = .ok (.bastore, 1) := by decide +kernel
theorem dX5_layWays_210 : decode cX5_layWays 210 = .ok (.iinc 3 (-1), 3) := by decide +kernel
theorem dX5_layWays_213 : decode cX5_layWays 213 = .ok (.goto (-91), 3) := by decide +kernel
theorem dX5_layWays_216 : decode cX5_layWays 216 = .ok (.return_, 1) := by decide +kernel
theorem dX5_orders_0 : decode cX5_orders 0 = .ok (.iload_n 1, 1) := by decide +kernel
theorem dX5_orders_1 : decode cX5_orders 1 = .ok (.iconst (-1), 1) := by decide +kernel
theorem dX5_orders_2 : decode cX5_orders 2 = .ok (.if_icmp .ge 6, 3) := by decide +kernel
theorem dX5_orders_5 : decode cX5_orders 5 = .ok (.bipush (-3), 2) := by decide +kernel
theorem dX5_orders_7 : decode cX5_orders 7 = .ok (.ireturn, 1) := by decide +kernel
theorem dX5_orders_8 : decode cX5_orders 8 = .ok (.aload_n 0, 1) := by decide +kernel
theorem dX5_orders_9 : decode cX5_orders 9 = .ok (.aload_n 0, 1) := by decide +kernel
theorem dX5_orders_10 : decode cX5_orders 10 = .ok (.getfield 13, 3) := by decide +kernel
theorem dX5_orders_13 : decode cX5_orders 13 = .ok (.invokevirtual 206, 3) := by decide +kernel
theorem dX5_orders_16 : decode cX5_orders 16 = .ok (.aload_n 0, 1) := by decide +kernel
theorem dX5_orders_17 : decode cX5_orders 17 = .ok (.getfield 48, 3) := by decide +kernel
theorem dX5_orders_20 : decode cX5_orders 20 = .ok (.iconst 1, 1) := by decide +kernel
theorem dX5_orders_21 : decode cX5_orders 21 = .ok (.aload_n 0, 1) := by decide +kernel
theorem dX5_orders_22 : decode cX5_orders 22 = .ok (.getfield 57, 3) := by decide +kernel
theorem dX5_orders_25 : decode cX5_orders 25 = .ok (.ishl, 1) := by decide +kernel
theorem dX5_orders_26 : decode cX5_orders 26 = .ok (.iconst 1, 1) := by decide +kernel
theorem dX5_orders_27 : decode cX5_orders 27 = .ok (.isub, 1) := by decide +kernel
theorem dX5_orders_28 : decode cX5_orders 28 = .ok (.iaload, 1) := by decide +kernel
theorem dX5_orders_29 : decode cX5_orders 29 = .ok (.istore_n 2, 1) := by decide +kernel
theorem dX5_orders_30 : decode cX5_orders 30 = .ok (.iload_n 1, 1) := by decide +kernel
theorem dX5_orders_31 : decode cX5_orders 31 = .ok (.iconst (-1), 1) := by decide +kernel
theorem dX5_orders_32 : decode cX5_orders 32 = .ok (.if_icmp .ne 5, 3) := by decide +kernel
theorem dX5_orders_35 : decode cX5_orders 35 = .ok (.iload_n 2, 1) := by decide +kernel
theorem dX5_orders_36 : decode cX5_orders 36 = .ok (.ireturn, 1) := by decide +kernel
theorem dX5_orders_37 : decode cX5_orders 37 = .ok (.iload_n 2, 1) := by decide +kernel
theorem dX5_orders_38 : decode cX5_orders 38 = .ok (.ifCond .eq 11, 3) := by decide +kernel
theorem dX5_orders_41 : decode cX5_orders 41 = .ok (.iload_n 1, 1) := by decide +kernel
theorem dX5_orders_42 : decode cX5_orders 42 = .ok (.aload_n 0, 1) := by decide +kernel
theorem dX5_orders_43 : decode cX5_orders 43 = .ok (.getfield 57, 3) := by decide +kernel
theorem dX5_orders_46 : decode cX5_orders 46 = .ok (.if_icmp .lt 5, 3) := by decide +kernel
theorem dX5_orders_49 : decode cX5_orders 49 = .ok (.iconst (-1), 1) := by decide +kernel
theorem dX5_orders_50 : decode cX5_orders 50 = .ok (.ireturn, 1) := by decide +kernel
theorem dX5_orders_51 : decode cX5_orders 51 = .ok (.iconst 0, 1) := by decide +kernel
theorem dX5_orders_52 : decode cX5_orders 52 = .ok (.istore_n 3, 1) := by decide +kernel
theorem dX5_orders_53 : decode cX5_orders 53 = .ok (.iconst (-1), 1) := by decide +kernel
theorem dX5_orders_54 : decode cX5_orders 54 = .ok (.istore 4, 2) := by decide +kernel
theorem dX5_orders_56 : decode cX5_orders 56 = .ok (.iconst 0, 1) := by decide +kernel
theorem dX5_orders_57 : decode cX5_orders 57 = .ok (.istore 5, 2) := by decide +kernel
theorem dX5_orders_59 : decode cX5_orders 59 = .ok (.iload 5, 2) := by decide +kernel
theorem dX5_orders_61 : decode cX5_orders 61 = .ok (.iload_n 1, 1) := by decide +kernel
theorem dX5_orders_62 : decode cX5_orders 62 = .ok (.if_icmp .gt 75, 3) := by decide +kernel
theorem dX5_orders_65 : decode cX5_orders 65 = .ok (.iconst (-1), 1) := by decide +kernel
theorem dX5_orders_66 : decode cX5_orders 66 = .ok (.istore 4, 2) := by decide +kernel
theorem dX5_orders_68 : decode cX5_orders 68 = .ok (.aload_n 0, 1) := by decide +kernel
theorem dX5_orders_69 : decode cX5_orders 69 = .ok (.getfield 57, 3) := by decide +kernel
theorem dX5_orders_72 : decode cX5_orders 72 = .ok (.iconst 1, 1) := by decide +kernel
theorem dX5_orders_73 : decode cX5_orders 73 = .ok (.isub, 1) := by decide +kernel
theorem dX5_orders_74 : decode cX5_orders 74 = .ok (.istore 6, 2) := by decide +kernel
theorem dX5_orders_76 : decode cX5_orders 76 = .ok (.iload 6, 2) := by decide +kernel
theorem dX5_orders_78 : decode cX5_orders 78 = .ok (.ifCond .lt 46, 3) := by decide +kernel
theorem dX5_orders_81 : decode cX5_orders 81 = .ok (.aload_n 0, 1) := by decide +kernel
theorem dX5_orders_82 : decode cX5_orders 82 = .ok (.iload 6, 2) := by decide +kernel
theorem dX5_orders_84 : decode cX5_orders 84 = .ok (.iload_n 3, 1) := by decide +kernel
theorem dX5_orders_85 : decode cX5_orders 85 = .ok (.aload_n 0, 1) := by decide +kernel
theorem dX5_orders_86 : decode cX5_orders 86 = .ok (.getfield 13, 3) := by decide +kernel
theorem dX5_orders_89 : decode cX5_orders 89 = .ok (.invokevirtual 196, 3) := by decide +kernel
theorem dX5_orders_92 : decode cX5_orders 92 = .ok (.ifCond .ne 22, 3) := by decide +kernel
theorem dX5_orders_95 : decode cX5_orders 95 = .ok (.aload_n 0, 1) := by decide +kernel
theorem dX5_orders_96 : decode cX5_orders 96 = .ok (.getfield 51, 3) := by decide +kernel
theorem dX5_orders_99 : decode cX5_orders 99 = .ok (.iload_n 3, 1) := by decide +kernel
theorem dX5_orders_100 : decode cX5_orders 100 = .ok (.iconst 1, 1) := by decide +kernel
theorem dX5_orders_101 : decode cX5_orders 101 = .ok (.iload 6, 2) := by decide +kernel
theorem dX5_orders_103 : decode cX5_orders 103 = .ok (.ishl, 1) := by decide +kernel
theorem dX5_orders_104 : decode cX5_orders 104 = .ok (.ior, 1) := by decide +kernel
theorem dX5_orders_105 : decode cX5_orders 105 = .ok (.baload, 1) := by decide +kernel
theorem dX5_orders_106 : decode cX5_orders 106 = .ok (.ifCond .eq 8, 3) := by decide +kernel
theorem dX5_orders_109 : decode cX5_orders 109 = .ok (.iload 6, 2) := by decide +kernel
theorem dX5_orders_111 : decode cX5_orders 111 = .ok (.goto 5, 3) := by decide +kernel
theorem dX5_orders_114 : decode cX5_orders 114 = .ok (.iload 4, 2) := by decide +kernel
theorem dX5_orders_116 : decode cX5_orders 116 = .ok (.istore 4, 2) := by decide +kernel
theorem dX5_orders_118 : decode cX5_orders 118 = .ok (.iinc 6 (-1), 3) := by decide +kernel
theorem dX5_orders_121 : decode cX5_orders 121 = .ok (.goto (-45), 3) := by decide +kernel
theorem dX5_orders_124 : decode cX5_orders 124 = .ok (.iload_n 3, 1) := by decide +kernel
theorem dX5_orders_125 : decode cX5_orders 125 = .ok (.iconst 1, 1) := by decide +kernel
theorem dX5_orders_126 : decode cX5_orders 126 = .ok (.iload 4, 2) := by decide +kernel
theorem dX5_orders_128 : decode cX5_orders 128 = .ok (.ishl, 1) := by decide +kernel
theorem dX5_orders_129 : decode cX5_orders 129 = .ok (.ior, 1) := by decide +kernel
theorem dX5_orders_130 : decode cX5_orders 130 = .ok (.istore_n 3, 1) := by decide +kernel
theorem dX5_orders_131 : decode cX5_orders 131 = .ok (.iinc 5 1, 3) := by decide +kernel
theorem dX5_orders_134 : decode cX5_orders 134 = .ok (.goto (-75), 3) := by decide +kernel
theorem dX5_orders_137 : decode cX5_orders 137 = .ok (.iload 4, 2) := by decide +kernel
theorem dX5_orders_139 : decode cX5_orders 139 = .ok (.ireturn, 1) := by decide +kernel
theorem dX5_highOf_0 : decode cX5_highOf 0 = .ok (.iconst 0, 1) := by decide +kernel
theorem dX5_highOf_1 : decode cX5_highOf 1 = .ok (.istore_n 2, 1) := by decide +kernel
theorem dX5_highOf_2 : decode cX5_highOf 2 = .ok (.iconst 0, 1) := by decide +kernel
theorem dX5_highOf_3 : decode cX5_highOf 3 = .ok (.istore_n 3, 1) := by decide +kernel
theorem dX5_highOf_4 : decode cX5_highOf 4 = .ok (.iload_n 3, 1) := by decide +kernel
theorem dX5_highOf_5 : decode cX5_highOf 5 = .ok (.aload_n 0, 1) := by decide +kernel
theorem dX5_highOf_6 : decode cX5_highOf 6 = .ok (.getfield 57, 3) := by decide +kernel
theorem dX5_highOf_9 : decode cX5_highOf 9 = .ok (.if_icmp .ge 34, 3) := by decide +kernel
theorem dX5_highOf_12 : decode cX5_highOf 12 = .ok (.iload_n 2, 1) := by decide +kernel
theorem dX5_highOf_13 : decode cX5_highOf 13 = .ok (.iload_n 1, 1) := by decide +kernel
theorem dX5_highOf_14 : decode cX5_highOf 14 = .ok (.iload_n 3, 1) := by decide +kernel
theorem dX5_highOf_15 : decode cX5_highOf 15 = .ok (.invokestatic 179, 3) := by decide +kernel
theorem dX5_highOf_18 : decode cX5_highOf 18 = .ok (.ifCond .eq 16, 3) := by decide +kernel
theorem dX5_highOf_21 : decode cX5_highOf 21 = .ok (.aload_n 0, 1) := by decide +kernel
theorem dX5_highOf_22 : decode cX5_highOf 22 = .ok (.getfield 7, 3) := by decide +kernel
theorem dX5_highOf_25 : decode cX5_highOf 25 = .ok (.iconst 5, 1) := by decide +kernel
theorem dX5_highOf_26 : decode cX5_highOf 26 = .ok (.iload_n 3, 1) := by decide +kernel
theorem dX5_highOf_27 : decode cX5_highOf 27 = .ok (.imul, 1) := by decide +kernel
theorem dX5_highOf_28 : decode cX5_highOf 28 = .ok (.iconst 3, 1) := by decide +kernel
theorem dX5_highOf_29 : decode cX5_highOf 29 = .ok (.iadd, 1) := by decide +kernel
theorem dX5_highOf_30 : decode cX5_highOf 30 = .ok (.iaload, 1) := by decide +kernel
theorem dX5_highOf_31 : decode cX5_highOf 31 = .ok (.goto 4, 3) := by decide +kernel
theorem dX5_highOf_34 : decode cX5_highOf 34 = .ok (.iconst 0, 1) := by decide +kernel
theorem dX5_highOf_35 : decode cX5_highOf 35 = .ok (.iadd, 1) := by decide +kernel
theorem dX5_highOf_36 : decode cX5_highOf 36 = .ok (.istore_n 2, 1) := by decide +kernel
theorem dX5_highOf_37 : decode cX5_highOf 37 = .ok (.iinc 3 1, 3) := by decide +kernel
theorem dX5_highOf_40 : decode cX5_highOf 40 = .ok (.goto (-36), 3) := by decide +kernel
theorem dX5_highOf_43 : decode cX5_highOf 43 = .ok (.iload_n 2, 1) := by decide +kernel
theorem dX5_highOf_44 : decode cX5_highOf 44 = .ok (.ireturn, 1) := by decide +kernel
theorem dX5_tallest_0 : decode cX5_tallest 0 = .ok (.iload_n 1, 1) := by decide +kernel
theorem dX5_tallest_1 : decode cX5_tallest 1 = .ok (.iconst 0, 1) := by decide +kernel
theorem dX5_tallest_2 : decode cX5_tallest 2 = .ok (.iconst 1, 1) := by decide +kernel
theorem dX5_tallest_3 : decode cX5_tallest 3 = .ok (.invokestatic 60, 3) := by decide +kernel
theorem dX5_tallest_6 : decode cX5_tallest 6 = .ok (.ifCond .ne 6, 3) := by decide +kernel
theorem dX5_tallest_9 : decode cX5_tallest 9 = .ok (.bipush (-3), 2) := by decide +kernel
theorem dX5_tallest_11 : decode cX5_tallest 11 = .ok (.ireturn, 1) := by decide +kernel
theorem dX5_tallest_12 : decode cX5_tallest 12 = .ok (.aload_n 0, 1) := by decide +kernel
theorem dX5_tallest_13 : decode cX5_tallest 13 = .ok (.aload_n 0, 1) := by decide +kernel
theorem dX5_tallest_14 : decode cX5_tallest 14 = .ok (.getfield 13, 3) := by decide +kernel
theorem dX5_tallest_17 : decode cX5_tallest 17 = .ok (.invokevirtual 206, 3) := by decide +kernel
theorem dX5_tallest_20 : decode cX5_tallest 20 = .ok (.iconst 0, 1) := by decide +kernel
theorem dX5_tallest_21 : decode cX5_tallest 21 = .ok (.istore_n 2, 1) := by decide +kernel
theorem dX5_tallest_22 : decode cX5_tallest 22 = .ok (.iconst 1, 1) := by decide +kernel
theorem dX5_tallest_23 : decode cX5_tallest 23 = .ok (.istore_n 3, 1) := by decide +kernel
theorem dX5_tallest_24 : decode cX5_tallest 24 = .ok (.iload_n 3, 1) := by decide +kernel
theorem dX5_tallest_25 : decode cX5_tallest 25 = .ok (.iconst 1, 1) := by decide +kernel
theorem dX5_tallest_26 : decode cX5_tallest 26 = .ok (.aload_n 0, 1) := by decide +kernel
theorem dX5_tallest_27 : decode cX5_tallest 27 = .ok (.getfield 57, 3) := by decide +kernel
theorem dX5_tallest_30 : decode cX5_tallest 30 = .ok (.ishl, 1) := by decide +kernel
theorem dX5_tallest_31 : decode cX5_tallest 31 = .ok (.if_icmp .ge 37, 3) := by decide +kernel
theorem dX5_tallest_34 : decode cX5_tallest 34 = .ok (.aload_n 0, 1) := by decide +kernel
theorem dX5_tallest_35 : decode cX5_tallest 35 = .ok (.getfield 48, 3) := by decide +kernel
theorem dX5_tallest_38 : decode cX5_tallest 38 = .ok (.iload_n 3, 1) := by decide +kernel
theorem dX5_tallest_39 : decode cX5_tallest 39 = .ok (.iaload, 1) := by decide +kernel
theorem dX5_tallest_40 : decode cX5_tallest 40 = .ok (.ifCond .le 20, 3) := by decide +kernel
theorem dX5_tallest_43 : decode cX5_tallest 43 = .ok (.aload_n 0, 1) := by decide +kernel
theorem dX5_tallest_44 : decode cX5_tallest 44 = .ok (.iload_n 3, 1) := by decide +kernel
theorem dX5_tallest_45 : decode cX5_tallest 45 = .ok (.invokevirtual 209, 3) := by decide +kernel
theorem dX5_tallest_48 : decode cX5_tallest 48 = .ok (.aload_n 0, 1) := by decide +kernel
theorem dX5_tallest_49 : decode cX5_tallest 49 = .ok (.iload_n 2, 1) := by decide +kernel
theorem dX5_tallest_50 : decode cX5_tallest 50 = .ok (.invokevirtual 209, 3) := by decide +kernel
theorem dX5_tallest_53 : decode cX5_tallest 53 = .ok (.if_icmp .le 7, 3) := by decide +kernel
theorem dX5_tallest_56 : decode cX5_tallest 56 = .ok (.iload_n 3, 1) := by decide +kernel
theorem dX5_tallest_57 : decode cX5_tallest 57 = .ok (.goto 4, 3) := by decide +kernel
theorem dX5_tallest_60 : decode cX5_tallest 60 = .ok (.iload_n 2, 1) := by decide +kernel
theorem dX5_tallest_61 : decode cX5_tallest 61 = .ok (.istore_n 2, 1) := by decide +kernel
theorem dX5_tallest_62 : decode cX5_tallest 62 = .ok (.iinc 3 1, 3) := by decide +kernel
theorem dX5_tallest_65 : decode cX5_tallest 65 = .ok (.goto (-41), 3) := by decide +kernel
theorem dX5_tallest_68 : decode cX5_tallest 68 = .ok (.iload_n 1, 1) := by decide +kernel
theorem dX5_tallest_69 : decode cX5_tallest 69 = .ok (.ifCond .ne 11, 3) := by decide +kernel
theorem dX5_tallest_72 : decode cX5_tallest 72 = .ok (.aload_n 0, 1) := by decide +kernel
theorem dX5_tallest_73 : decode cX5_tallest 73 = .ok (.iload_n 2, 1) := by decide +kernel
theorem dX5_tallest_74 : decode cX5_tallest 74 = .ok (.invokevirtual 209, 3) := by decide +kernel
theorem dX5_tallest_77 : decode cX5_tallest 77 = .ok (.goto 4, 3) := by decide +kernel
theorem dX5_tallest_80 : decode cX5_tallest 80 = .ok (.iload_n 2, 1) := by decide +kernel
theorem dX5_tallest_81 : decode cX5_tallest 81 = .ok (.ireturn, 1) := by decide +kernel
theorem dX5_jacks_0 : decode cX5_jacks 0 = .ok (.iconst 1, 1) := by decide +kernel
theorem dX5_jacks_1 : decode cX5_jacks 1 = .ok (.aload_n 0, 1) := by decide +kernel
theorem dX5_jacks_2 : decode cX5_jacks 2 = .ok (.getfield 57, 3) := by decide +kernel
theorem dX5_jacks_5 : decode cX5_jacks 5 = .ok (.ishl, 1) := by decide +kernel
theorem dX5_jacks_6 : decode cX5_jacks 6 = .ok (.iconst 1, 1) := by decide +kernel
theorem dX5_jacks_7 : decode cX5_jacks 7 = .ok (.isub, 1) := by decide +kernel
theorem dX5_jacks_8 : decode cX5_jacks 8 = .ok (.istore_n 1, 1) := by decide +kernel
theorem dX5_jacks_9 : decode cX5_jacks 9 = .ok (.aload_n 0, 1) := by decide +kernel
theorem dX5_jacks_10 : decode cX5_jacks 10 = .ok (.getfield 57, 3) := by decide +kernel
theorem dX5_jacks_13 : decode cX5_jacks 13 = .ok (.ifCond .ne 7, 3) := by decide +kernel
theorem dX5_jacks_16 : decode cX5_jacks 16 = .ok (.iconst 0, 1) := by decide +kernel
theorem dX5_jacks_17 : decode cX5_jacks 17 = .ok (.goto 4, 3) := by decide +kernel
theorem dX5_jacks_20 : decode cX5_jacks 20 = .ok (.iconst (-1), 1) := by decide +kernel
theorem dX5_jacks_21 : decode cX5_jacks 21 = .ok (.istore_n 2, 1) := by decide +kernel
theorem dX5_jacks_22 : decode cX5_jacks 22 = .ok (.aload_n 0, 1) := by decide +kernel
theorem dX5_jacks_23 : decode cX5_jacks 23 = .ok (.sipush 9999, 3) := by decide +kernel
theorem dX5_jacks_26 : decode cX5_jacks 26 = .ok (.invokevirtual 206, 3) := by decide +kernel
theorem dX5_jacks_29 : decode cX5_jacks 29 = .ok (.iconst 0, 1) := by decide +kernel
theorem dX5_jacks_30 : decode cX5_jacks 30 = .ok (.istore_n 3, 1) := by decide +kernel
theorem dX5_jacks_31 : decode cX5_jacks 31 = .ok (.iload_n 3, 1) := by decide +kernel
theorem dX5_jacks_32 : decode cX5_jacks 32 = .ok (.aload_n 0, 1) := by decide +kernel
theorem dX5_jacks_33 : decode cX5_jacks 33 = .ok (.getfield 57, 3) := by decide +kernel
theorem dX5_jacks_36 : decode cX5_jacks 36 = .ok (.if_icmp .ge 79, 3) := by decide +kernel
theorem dX5_jacks_39 : decode cX5_jacks 39 = .ok (.iload_n 1, 1) := by decide +kernel
theorem dX5_jacks_40 : decode cX5_jacks 40 = .ok (.iconst 1, 1) := by decide +kernel
theorem dX5_jacks_41 : decode cX5_jacks 41 = .ok (.iload_n 3, 1) := by decide +kernel
theorem dX5_jacks_42 : decode cX5_jacks 42 = .ok (.ishl, 1) := by decide +kernel
theorem dX5_jacks_43 : decode cX5_jacks 43 = .ok (.iconst (-1), 1) := by decide +kernel
theorem dX5_jacks_44 : decode cX5_jacks 44 = .ok (.ixor, 1) := by decide +kernel
theorem dX5_jacks_45 : decode cX5_jacks 45 = .ok (.iand, 1) := by decide +kernel
theorem dX5_jacks_46 : decode cX5_jacks 46 = .ok (.istore 4, 2) := by decide +kernel
theorem dX5_jacks_48 : decode cX5_jacks 48 = .ok (.aload_n 0, 1) := by decide +kernel
theorem dX5_jacks_49 : decode cX5_jacks 49 = .ok (.iload 4, 2) := by decide +kernel
theorem dX5_jacks_51 : decode cX5_jacks 51 = .ok (.invokevirtual 186, 3) := by decide +kernel
theorem dX5_jacks_54 : decode cX5_jacks 54 = .ok (.istore 5, 2) := by decide +kernel
theorem dX5_jacks_56 : decode cX5_jacks 56 = .ok (.aload_n 0, 1) := by decide +kernel
theorem dX5_jacks_57 : decode cX5_jacks 57 = .ok (.getfield 48, 3) := by decide +kernel
theorem dX5_jacks_60 : decode cX5_jacks 60 = .ok (.iload 4, 2) := by decide +kernel
theorem dX5_jacks_62 : decode cX5_jacks 62 = .ok (.iaload, 1) := by decide +kernel
theorem dX5_jacks_63 : decode cX5_jacks 63 = .ok (.ifCond .le 20, 3) := by decide +kernel
theorem dX5_jacks_66 : decode cX5_jacks 66 = .ok (.aload_n 0, 1) := by decide +kernel
theorem dX5_jacks_67 : decode cX5_jacks 67 = .ok (.iload_n 3, 1) := by decide +kernel
theorem dX5_jacks_68 : decode cX5_jacks 68 = .ok (.iload 4, 2) := by decide +kernel
theorem dX5_jacks_70 : decode cX5_jacks 70 = .ok (.sipush 9999, 3) := by decide +kernel
theorem dX5_jacks_73 : decode cX5_jacks 73 = .ok (.invokevirtual 196, 3) := by decide +kernel
theorem dX5_jacks_76 : decode cX5_jacks 76 = .ok (.ifCond .ne 7, 3) := by decide +kernel
theorem dX5_jacks_79 : decode cX5_jacks 79 = .ok (.iconst 1, 1) := by decide +kernel
theorem dX5_jacks_80 : decode cX5_jacks 80 = .ok (.goto 4, 3) := by decide +kernel
theorem dX5_jacks_83 : decode cX5_jacks 83 = .ok (.iconst 0, 1) := by decide +kernel
theorem dX5_jacks_84 : decode cX5_jacks 84 = .ok (.istore 6, 2) := by decide +kernel
theorem dX5_jacks_86 : decode cX5_jacks 86 = .ok (.iload 6, 2) := by decide +kernel
theorem dX5_jacks_88 : decode cX5_jacks 88 = .ok (.ifCond .eq 19, 3) := by decide +kernel
theorem dX5_jacks_91 : decode cX5_jacks 91 = .ok (.iload_n 2, 1) := by decide +kernel
theorem dX5_jacks_92 : decode cX5_jacks 92 = .ok (.iconst (-1), 1) := by decide +kernel
theorem dX5_jacks_93 : decode cX5_jacks 93 = .ok (.if_icmp .eq 9, 3) := by decide +kernel
theorem dX5_jacks_96 : decode cX5_jacks 96 = .ok (.iload 5, 2) := by decide +kernel
theorem dX5_jacks_98 : decode cX5_jacks 98 = .ok (.iload_n 2, 1) := by decide +kernel
theorem dX5_jacks_99 : decode cX5_jacks 99 = .ok (.if_icmp .ge 8, 3) := by decide +kernel
theorem dX5_jacks_102 : decode cX5_jacks 102 = .ok (.iload 5, 2) := by decide +kernel
theorem dX5_jacks_104 : decode cX5_jacks 104 = .ok (.goto 4, 3) := by decide +kernel
theorem dX5_jacks_107 : decode cX5_jacks 107 = .ok (.iload_n 2, 1) := by decide +kernel
theorem dX5_jacks_108 : decode cX5_jacks 108 = .ok (.istore_n 2, 1) := by decide +kernel
theorem dX5_jacks_109 : decode cX5_jacks 109 = .ok (.iinc 3 1, 3) := by decide +kernel
theorem dX5_jacks_112 : decode cX5_jacks 112 = .ok (.goto (-81), 3) := by decide +kernel
theorem dX5_jacks_115 : decode cX5_jacks 115 = .ok (.iload_n 2, 1) := by decide +kernel
theorem dX5_jacks_116 : decode cX5_jacks 116 = .ok (.ireturn, 1) := by decide +kernel
theorem dX5_soonest_0 : decode cX5_soonest 0 = .ok (.iload_n 1, 1) := by decide +kernel
theorem dX5_soonest_1 : decode cX5_soonest 1 = .ok (.iconst 1, 1) := by decide +kernel
theorem dX5_soonest_2 : decode cX5_soonest 2 = .ok (.bipush 8, 2) := by decide +kernel
theorem dX5_soonest_4 : decode cX5_soonest 4 = .ok (.invokestatic 60, 3) := by decide +kernel
theorem dX5_soonest_7 : decode cX5_soonest 7 = .ok (.ifCond .ne 6, 3) := by decide +kernel
theorem dX5_soonest_10 : decode cX5_soonest 10 = .ok (.bipush (-3), 2) := by decide +kernel
theorem dX5_soonest_12 : decode cX5_soonest 12 = .ok (.ireturn, 1) := by decide +kernel
theorem dX5_soonest_13 : decode cX5_soonest 13 = .ok (.iload_n 1, 1) := by decide +kernel
theorem dX5_soonest_14 : decode cX5_soonest 14 = .ok (.istore_n 2, 1) := by decide +kernel
theorem dX5_soonest_15 : decode cX5_soonest 15 = .ok (.iconst 0, 1) := by decide +kernel
theorem dX5_soonest_16 : decode cX5_soonest 16 = .ok (.istore_n 3, 1) := by decide +kernel
theorem dX5_soonest_17 : decode cX5_soonest 17 = .ok (.iload_n 2, 1) := by decide +kernel
theorem dX5_soonest_18 : decode cX5_soonest 18 = .ok (.ifCond .le 27, 3) := by decide +kernel
theorem dX5_soonest_21 : decode cX5_soonest 21 = .ok (.iload_n 2, 1) := by decide +kernel
theorem dX5_soonest_22 : decode cX5_soonest 22 = .ok (.aload_n 0, 1) := by decide +kernel
theorem dX5_soonest_23 : decode cX5_soonest 23 = .ok (.iload_n 3, 1) := by decide +kernel
theorem dX5_soonest_24 : decode cX5_soonest 24 = .ok (.invokevirtual 200, 3) := by decide +kernel
theorem dX5_soonest_27 : decode cX5_soonest 27 = .ok (.bipush 9, 2) := by decide +kernel
theorem dX5_soonest_29 : decode cX5_soonest 29 = .ok (.if_icmp .ne 7, 3) := by decide +kernel
theorem dX5_soonest_32 : decode cX5_soonest 32 = .ok (.iconst 0, 1) := by decide +kernel
theorem dX5_soonest_33 : decode cX5_soonest 33 = .ok (.goto 4, 3) := by decide +kernel
theorem dX5_soonest_36 : decode cX5_soonest 36 = .ok (.iconst 1, 1) := by decide +kernel
theorem dX5_soonest_37 : decode cX5_soonest 37 = .ok (.isub, 1) := by decide +kernel
theorem dX5_soonest_38 : decode cX5_soonest 38 = .ok (.istore_n 2, 1) := by decide +kernel
theorem dX5_soonest_39 : decode cX5_soonest 39 = .ok (.iinc 3 1, 3) := by decide +kernel
theorem dX5_soonest_42 : decode cX5_soonest 42 = .ok (.goto (-25), 3) := by decide +kernel
theorem dX5_soonest_45 : decode cX5_soonest 45 = .ok (.iload_n 3, 1) := by decide +kernel
theorem dX5_soonest_46 : decode cX5_soonest 46 = .ok (.iconst 1, 1) := by decide +kernel
theorem dX5_soonest_47 : decode cX5_soonest 47 = .ok (.isub, 1) := by decide +kernel
theorem dX5_soonest_48 : decode cX5_soonest 48 = .ok (.ireturn, 1) := by decide +kernel
theorem dX5_chooseOf_0 : decode cX5_chooseOf 0 = .ok (.lconst 1, 1) := by decide +kernel
theorem dX5_chooseOf_1 : decode cX5_chooseOf 1 = .ok (.lstore_n 2, 1) := by decide +kernel
theorem dX5_chooseOf_2 : decode cX5_chooseOf 2 = .ok (.iconst 1, 1) := by decide +kernel
theorem dX5_chooseOf_3 : decode cX5_chooseOf 3 = .ok (.istore 4, 2) := by decide +kernel
theorem dX5_chooseOf_5 : decode cX5_chooseOf 5 = .ok (.iload 4, 2) := by decide +kernel
theorem dX5_chooseOf_7 : decode cX5_chooseOf 7 = .ok (.iload_n 1, 1) := by decide +kernel
theorem dX5_chooseOf_8 : decode cX5_chooseOf 8 = .ok (.if_icmp .gt 23, 3) := by decide +kernel
theorem dX5_chooseOf_11 : decode cX5_chooseOf 11 = .ok (.lload_n 2, 1) := by decide +kernel
theorem dX5_chooseOf_12 : decode cX5_chooseOf 12 = .ok (.iload_n 0, 1) := by decide +kernel
theorem dX5_chooseOf_13 : decode cX5_chooseOf 13 = .ok (.iload_n 1, 1) := by decide +kernel
theorem dX5_chooseOf_14 : decode cX5_chooseOf 14 = .ok (.isub, 1) := by decide +kernel
theorem dX5_chooseOf_15 : decode cX5_chooseOf 15 = .ok (.iload 4, 2) := by decide +kernel
theorem dX5_chooseOf_17 : decode cX5_chooseOf 17 = .ok (.iadd, 1) := by decide +kernel
theorem dX5_chooseOf_18 : decode cX5_chooseOf 18 = .ok (.i2l, 1) := by decide +kernel
theorem dX5_chooseOf_19 : decode cX5_chooseOf 19 = .ok (.lmul, 1) := by decide +kernel
theorem dX5_chooseOf_20 : decode cX5_chooseOf 20 = .ok (.iload 4, 2) := by decide +kernel
theorem dX5_chooseOf_22 : decode cX5_chooseOf 22 = .ok (.i2l, 1) := by decide +kernel
theorem dX5_chooseOf_23 : decode cX5_chooseOf 23 = .ok (.ldiv, 1) := by decide +kernel
theorem dX5_chooseOf_24 : decode cX5_chooseOf 24 = .ok (.lstore_n 2, 1) := by decide +kernel
theorem dX5_chooseOf_25 : decode cX5_chooseOf 25 = .ok (.iinc 4 1, 3) := by decide +kernel
theorem dX5_chooseOf_28 : decode cX5_chooseOf 28 = .ok (.goto (-23), 3) := by decide +kernel
theorem dX5_chooseOf_31 : decode cX5_chooseOf 31 = .ok (.lload_n 2, 1) := by decide +kernel
theorem dX5_chooseOf_32 : decode cX5_chooseOf 32 = .ok (.lreturn, 1) := by decide +kernel
theorem dX5_odds_0 : decode cX5_odds 0 = .ok (.iload_n 1, 1) := by decide +kernel
theorem dX5_odds_1 : decode cX5_odds 1 = .ok (.iconst 0, 1) := by decide +kernel
theorem dX5_odds_2 : decode cX5_odds 2 = .ok (.bipush 18, 2) := by decide +kernel
theorem dX5_odds_4 : decode cX5_odds 4 = .ok (.invokestatic 60, 3) := by decide +kernel
theorem dX5_odds_7 : decode cX5_odds 7 = .ok (.ifCond .eq 33, 3) := by decide +kernel
theorem dX5_odds_10 : decode cX5_odds 10 = .ok (.iload_n 2, 1) := by decide +kernel
theorem dX5_odds_11 : decode cX5_odds 11 = .ok (.iconst 0, 1) := by decide +kernel
theorem dX5_odds_12 : decode cX5_odds 12 = .ok (.bipush 18, 2) := by decide +kernel
theorem dX5_odds_14 : decode cX5_odds 14 = .ok (.invokestatic 60, 3) := by decide +kernel
theorem dX5_odds_17 : decode cX5_odds 17 = .ok (.ifCond .eq 23, 3) := by decide +kernel
theorem dX5_odds_20 : decode cX5_odds 20 = .ok (.iload_n 3, 1) := by decide +kernel
theorem dX5_odds_21 : decode cX5_odds 21 = .ok (.iconst 0, 1) := by decide +kernel
theorem dX5_odds_22 : decode cX5_odds 22 = .ok (.bipush 10, 2) := by decide +kernel
theorem dX5_odds_24 : decode cX5_odds 24 = .ok (.invokestatic 60, 3) := by decide +kernel
theorem dX5_odds_27 : decode cX5_odds 27 = .ok (.ifCond .eq 13, 3) := by decide +kernel
theorem dX5_odds_30 : decode cX5_odds 30 = .ok (.iload 4, 2) := by decide +kernel
theorem dX5_odds_32 : decode cX5_odds 32 = .ok (.iconst 0, 1) := by decide +kernel
theorem dX5_odds_33 : decode cX5_odds 33 = .ok (.iconst 1, 1) := by decide +kernel
theorem dX5_odds_34 : decode cX5_odds 34 = .ok (.invokestatic 60, 3) := by decide +kernel
theorem dX5_odds_37 : decode cX5_odds 37 = .ok (.ifCond .ne 7, 3) := by decide +kernel
theorem dX5_odds_40 : decode cX5_odds 40 = .ok (.ldc2_w 95, 3) := by decide +kernel
theorem dX5_odds_43 : decode cX5_odds 43 = .ok (.lreturn, 1) := by decide +kernel
theorem dX5_odds_44 : decode cX5_odds 44 = .ok (.lconst 0, 1) := by decide +kernel
theorem dX5_odds_45 : decode cX5_odds 45 = .ok (.lstore 5, 2) := by decide +kernel
theorem dX5_odds_47 : decode cX5_odds 47 = .ok (.iload_n 2, 1) := by decide +kernel
theorem dX5_odds_48 : decode cX5_odds 48 = .ok (.istore 7, 2) := by decide +kernel
theorem dX5_odds_50 : decode cX5_odds 50 = .ok (.iload 7, 2) := by decide +kernel
theorem dX5_odds_52 : decode cX5_odds 52 = .ok (.iload_n 1, 1) := by decide +kernel
theorem dX5_odds_53 : decode cX5_odds 53 = .ok (.if_icmp .gt 61, 3) := by decide +kernel
theorem dX5_odds_56 : decode cX5_odds 56 = .ok (.iload_n 1, 1) := by decide +kernel
theorem dX5_odds_57 : decode cX5_odds 57 = .ok (.iload 7, 2) := by decide +kernel
theorem dX5_odds_59 : decode cX5_odds 59 = .ok (.invokestatic 212, 3) := by decide +kernel
theorem dX5_odds_62 : decode cX5_odds 62 = .ok (.lstore 8, 2) := by decide +kernel
theorem dX5_odds_64 : decode cX5_odds 64 = .ok (.iconst 0, 1) := by decide +kernel
theorem dX5_odds_65 : decode cX5_odds 65 = .ok (.istore 10, 2) := by decide +kernel
theorem dX5_odds_67 : decode cX5_odds 67 = .ok (.iload 10, 2) := by decide +kernel
theorem dX5_odds_69 : decode cX5_odds 69 = .ok (.iload_n 1, 1) := by decide +kernel
theorem dX5_odds_70 : decode cX5_odds 70 = .ok (.if_icmp .ge 31, 3) := by decide +kernel
theorem dX5_odds_73 : decode cX5_odds 73 = .ok (.lload 8, 2) := by decide +kernel
theorem dX5_odds_75 : decode cX5_odds 75 = .ok (.iload 10, 2) := by decide +kernel
theorem dX5_odds_77 : decode cX5_odds 77 = .ok (.iload 7, 2) := by decide +kernel
theorem dX5_odds_79 : decode cX5_odds 79 = .ok (.if_icmp .ge 11, 3) := by decide +kernel
theorem dX5_odds_82 : decode cX5_odds 82 = .ok (.bipush 10, 2) := by decide +kernel
theorem dX5_odds_84 : decode cX5_odds 84 = .ok (.iload_n 3, 1) := by decide +kernel
theorem dX5_odds_85 : decode cX5_odds 85 = .ok (.isub, 1) := by decide +kernel
theorem dX5_odds_86 : decode cX5_odds 86 = .ok (.i2l, 1) := by decide +kernel
theorem dX5_odds_87 : decode cX5_odds 87 = .ok (.goto 5, 3) := by decide +kernel
theorem dX5_odds_90 : decode cX5_odds 90 = .ok (.iload_n 3, 1) := by decide +kernel
theorem dX5_odds_91 : decode cX5_odds 91 = .ok (.i2l, 1) := by decide +kernel
theorem dX5_odds_92 : decode cX5_odds 92 = .ok (.lmul, 1) := by decide +kernel
theorem dX5_odds_93 : decode cX5_odds 93 = .ok (.lstore 8, 2) := by decide +kernel
theorem dX5_odds_95 : decode cX5_odds 95 = .ok (.iinc 10 1, 3) := by decide +kernel
theorem dX5_odds_98 : decode cX5_odds 98 = .ok (.goto (-31), 3) := by decide +kernel
theorem dX5_odds_101 : decode cX5_odds 101 = .ok (.lload 5, 2) := by decide +kernel
theorem dX5_odds_103 : decode cX5_odds 103 = .ok (.lload 8, 2) := by decide +kernel
theorem dX5_odds_105 : decode cX5_odds 105 = .ok (.ladd, 1) := by decide +kernel
theorem dX5_odds_106 : decode cX5_odds 106 = .ok (.lstore 5, 2) := by decide +kernel
theorem dX5_odds_108 : decode cX5_odds 108 = .ok (.iinc 7 1, 3) := by decide +kernel
theorem dX5_odds_111 : decode cX5_odds 111 = .ok (.goto (-61), 3) := by decide +kernel
theorem dX5_odds_114 : decode cX5_odds 114 = .ok (.lconst 1, 1) := by decide +kernel
theorem dX5_odds_115 : decode cX5_odds 115 = .ok (.lstore 7, 2) := by decide +kernel
theorem dX5_odds_117 : decode cX5_odds 117 = .ok (.iconst 0, 1) := by decide +kernel
theorem dX5_odds_118 : decode cX5_odds 118 = .ok (.istore 9, 2) := by decide +kernel
theorem dX5_odds_120 : decode cX5_odds 120 = .ok (.iload 9, 2) := by decide +kernel
theorem dX5_odds_122 : decode cX5_odds 122 = .ok (.iload_n 1, 1) := by decide +kernel
theorem dX5_odds_123 : decode cX5_odds 123 = .ok (.if_icmp .ge 17, 3) := by decide +kernel
theorem dX5_odds_126 : decode cX5_odds 126 = .ok (.lload 7, 2) := by decide +kernel
theorem dX5_odds_128 : decode cX5_odds 128 = .ok (.ldc2_w 216, 3) := by decide +kernel
theorem dX5_odds_131 : decode cX5_odds 131 = .ok (.lmul, 1) := by decide +kernel
theorem dX5_odds_132 : decode cX5_odds 132 = .ok (.lstore 7, 2) := by decide +kernel
theorem dX5_odds_134 : decode cX5_odds 134 = .ok (.iinc 9 1, 3) := by decide +kernel
theorem dX5_odds_137 : decode cX5_odds 137 = .ok (.goto (-17), 3) := by decide +kernel
theorem dX5_odds_140 : decode cX5_odds 140 = .ok (.lload 5, 2) := by decide +kernel
theorem dX5_odds_142 : decode cX5_odds 142 = .ok (.lstore 9, 2) := by decide +kernel
theorem dX5_odds_144 : decode cX5_odds 144 = .ok (.lload 7, 2) := by decide +kernel
theorem dX5_odds_146 : decode cX5_odds 146 = .ok (.lstore 11, 2) := by decide +kernel
theorem dX5_odds_148 : decode cX5_odds 148 = .ok (.lload 11, 2) := by decide +kernel
theorem dX5_odds_150 : decode cX5_odds 150 = .ok (.lconst 0, 1) := by decide +kernel
theorem dX5_odds_151 : decode cX5_odds 151 = .ok (.lcmp, 1) := by decide +kernel
theorem dX5_odds_152 : decode cX5_odds 152 = .ok (.ifCond .eq 21, 3) := by decide +kernel
theorem dX5_odds_155 : decode cX5_odds 155 = .ok (.lload 9, 2) := by decide +kernel
theorem dX5_odds_157 : decode cX5_odds 157 = .ok (.lload 11, 2) := by decide +kernel
theorem dX5_odds_159 : decode cX5_odds 159 = .ok (.lrem, 1) := by decide +kernel
theorem dX5_odds_160 : decode cX5_odds 160 = .ok (.lstore 13, 2) := by decide +kernel
theorem dX5_odds_162 : decode cX5_odds 162 = .ok (.lload 11, 2) := by decide +kernel
theorem dX5_odds_164 : decode cX5_odds 164 = .ok (.lstore 9, 2) := by decide +kernel
theorem dX5_odds_166 : decode cX5_odds 166 = .ok (.lload 13, 2) := by decide +kernel
theorem dX5_odds_168 : decode cX5_odds 168 = .ok (.lstore 11, 2) := by decide +kernel
theorem dX5_odds_170 : decode cX5_odds 170 = .ok (.goto (-22), 3) := by decide +kernel
theorem dX5_odds_173 : decode cX5_odds 173 = .ok (.iload 4, 2) := by decide +kernel
theorem dX5_odds_175 : decode cX5_odds 175 = .ok (.ifCond .ne 8, 3) := by decide +kernel
theorem dX5_odds_178 : decode cX5_odds 178 = .ok (.lload 5, 2) := by decide +kernel
theorem dX5_odds_180 : decode cX5_odds 180 = .ok (.goto 5, 3) := by decide +kernel
theorem dX5_odds_183 : decode cX5_odds 183 = .ok (.lload 7, 2) := by decide +kernel
theorem dX5_odds_185 : decode cX5_odds 185 = .ok (.lload 9, 2) := by decide +kernel
theorem dX5_odds_187 : decode cX5_odds 187 = .ok (.ldiv, 1) := by decide +kernel
theorem dX5_odds_188 : decode cX5_odds 188 = .ok (.lreturn, 1) := by decide +kernel
theorem dX5_firstWrong_0 : decode cX5_firstWrong 0 = .ok (.iconst 0, 1) := by decide +kernel
theorem dX5_firstWrong_1 : decode cX5_firstWrong 1 = .ok (.istore_n 2, 1) := by decide +kernel
theorem dX5_firstWrong_2 : decode cX5_firstWrong 2 = .ok (.iconst 0, 1) := by decide +kernel
theorem dX5_firstWrong_3 : decode cX5_firstWrong 3 = .ok (.istore_n 3, 1) := by decide +kernel
theorem dX5_firstWrong_4 : decode cX5_firstWrong 4 = .ok (.iload_n 3, 1) := by decide +kernel
theorem dX5_firstWrong_5 : decode cX5_firstWrong 5 = .ok (.iload_n 1, 1) := by decide +kernel
theorem dX5_firstWrong_6 : decode cX5_firstWrong 6 = .ok (.if_icmp .ge 40, 3) := by decide +kernel
theorem dX5_firstWrong_9 : decode cX5_firstWrong 9 = .ok (.aload_n 0, 1) := by decide +kernel
theorem dX5_firstWrong_10 : decode cX5_firstWrong 10 = .ok (.aload_n 0, 1) := by decide +kernel
theorem dX5_firstWrong_11 : decode cX5_firstWrong 11 = .ok (.getfield 54, 3) := by decide +kernel
theorem dX5_firstWrong_14 : decode cX5_firstWrong 14 = .ok (.iload_n 3, 1) := by decide +kernel
theorem dX5_firstWrong_15 : decode cX5_firstWrong 15 = .ok (.iaload, 1) := by decide +kernel
theorem dX5_firstWrong_16 : decode cX5_firstWrong 16 = .ok (.iload_n 2, 1) := by decide +kernel
theorem dX5_firstWrong_17 : decode cX5_firstWrong 17 = .ok (.aload_n 0, 1) := by decide +kernel
theorem dX5_firstWrong_18 : decode cX5_firstWrong 18 = .ok (.getfield 13, 3) := by decide +kernel
theorem dX5_firstWrong_21 : decode cX5_firstWrong 21 = .ok (.invokevirtual 196, 3) := by decide +kernel
theorem dX5_firstWrong_24 : decode cX5_firstWrong 24 = .ok (.ifCond .eq 5, 3) := by decide +kernel
theorem dX5_firstWrong_27 : decode cX5_firstWrong 27 = .ok (.iload_n 3, 1) := by decide +kernel
theorem dX5_firstWrong_28 : decode cX5_firstWrong 28 = .ok (.ireturn, 1) := by decide +kernel
theorem dX5_firstWrong_29 : decode cX5_firstWrong 29 = .ok (.iload_n 2, 1) := by decide +kernel
theorem dX5_firstWrong_30 : decode cX5_firstWrong 30 = .ok (.iconst 1, 1) := by decide +kernel
theorem dX5_firstWrong_31 : decode cX5_firstWrong 31 = .ok (.aload_n 0, 1) := by decide +kernel
theorem dX5_firstWrong_32 : decode cX5_firstWrong 32 = .ok (.getfield 54, 3) := by decide +kernel
theorem dX5_firstWrong_35 : decode cX5_firstWrong 35 = .ok (.iload_n 3, 1) := by decide +kernel
theorem dX5_firstWrong_36 : decode cX5_firstWrong 36 = .ok (.iaload, 1) := by decide +kernel
theorem dX5_firstWrong_37 : decode cX5_firstWrong 37 = .ok (.ishl, 1) := by decide +kernel
theorem dX5_firstWrong_38 : decode cX5_firstWrong 38 = .ok (.ior, 1) := by decide +kernel
theorem dX5_firstWrong_39 : decode cX5_firstWrong 39 = .ok (.istore_n 2, 1) := by decide +kernel
theorem dX5_firstWrong_40 : decode cX5_firstWrong 40 = .ok (.iinc 3 1, 3) := by decide +kernel
theorem dX5_firstWrong_43 : decode cX5_firstWrong 43 = .ok (.goto (-39), 3) := by decide +kernel
theorem dX5_firstWrong_46 : decode cX5_firstWrong 46 = .ok (.iconst (-1), 1) := by decide +kernel
theorem dX5_firstWrong_47 : decode cX5_firstWrong 47 = .ok (.ireturn, 1) := by decide +kernel
theorem dX5_without_0 : decode cX5_without 0 = .ok (.aload_n 0, 1) := by decide +kernel
theorem dX5_without_1 : decode cX5_without 1 = .ok (.iload_n 1, 1) := by decide +kernel
theorem dX5_without_2 : decode cX5_without 2 = .ok (.invokevirtual 172, 3) := by decide +kernel
theorem dX5_without_5 : decode cX5_without 5 = .ok (.ifCond .ne 6, 3) := by decide +kernel
theorem dX5_without_8 : decode cX5_without 8 = .ok (.bipush (-2), 2) := by decide +kernel
theorem dX5_without_10 : decode cX5_without 10 = .ok (.ireturn, 1) := by decide +kernel
theorem dX5_without_11 : decode cX5_without 11 = .ok (.aload_n 0, 1) := by decide +kernel
theorem dX5_without_12 : decode cX5_without 12 = .ok (.invokevirtual 192, 3) := by decide +kernel
theorem dX5_without_15 : decode cX5_without 15 = .ok (.iload_n 1, 1) := by decide +kernel
theorem dX5_without_16 : decode cX5_without 16 = .ok (.invokestatic 179, 3) := by decide +kernel
theorem dX5_without_19 : decode cX5_without 19 = .ok (.ifCond .ne 6, 3) := by decide +kernel
theorem dX5_without_22 : decode cX5_without 22 = .ok (.bipush (-4), 2) := by decide +kernel
theorem dX5_without_24 : decode cX5_without 24 = .ok (.ireturn, 1) := by decide +kernel
theorem dX5_without_25 : decode cX5_without 25 = .ok (.iconst 0, 1) := by decide +kernel
theorem dX5_without_26 : decode cX5_without 26 = .ok (.istore_n 2, 1) := by decide +kernel
theorem dX5_without_27 : decode cX5_without 27 = .ok (.iconst 0, 1) := by decide +kernel
theorem dX5_without_28 : decode cX5_without 28 = .ok (.istore_n 3, 1) := by decide +kernel
theorem dX5_without_29 : decode cX5_without 29 = .ok (.iload_n 3, 1) := by decide +kernel
theorem dX5_without_30 : decode cX5_without 30 = .ok (.aload_n 0, 1) := by decide +kernel
theorem dX5_without_31 : decode cX5_without 31 = .ok (.getfield 32, 3) := by decide +kernel
theorem dX5_without_34 : decode cX5_without 34 = .ok (.iconst 0, 1) := by decide +kernel
theorem dX5_without_35 : decode cX5_without 35 = .ok (.iaload, 1) := by decide +kernel
theorem dX5_without_36 : decode cX5_without 36 = .ok (.if_icmp .ge 38, 3) := by decide +kernel
theorem dX5_without_39 : decode cX5_without 39 = .ok (.aload_n 0, 1) := by decide +kernel
theorem dX5_without_40 : decode cX5_without 40 = .ok (.getfield 32, 3) := by decide +kernel
theorem dX5_without_43 : decode cX5_without 43 = .ok (.iconst 2, 1) := by decide +kernel
theorem dX5_without_44 : decode cX5_without 44 = .ok (.iload_n 3, 1) := by decide +kernel
theorem dX5_without_45 : decode cX5_without 45 = .ok (.iadd, 1) := by decide +kernel
theorem dX5_without_46 : decode cX5_without 46 = .ok (.iaload, 1) := by decide +kernel
theorem dX5_without_47 : decode cX5_without 47 = .ok (.iload_n 1, 1) := by decide +kernel
theorem dX5_without_48 : decode cX5_without 48 = .ok (.if_icmp .eq 20, 3) := by decide +kernel
theorem dX5_without_51 : decode cX5_without 51 = .ok (.aload_n 0, 1) := by decide +kernel
theorem dX5_without_52 : decode cX5_without 52 = .ok (.getfield 54, 3) := by decide +kernel
theorem dX5_without_55 : decode cX5_without 55 = .ok (.iload_n 2, 1) := by decide +kernel
theorem dX5_without_56 : decode cX5_without 56 = .ok (.aload_n 0, 1) := by decide +kernel
theorem dX5_without_57 : decode cX5_without 57 = .ok (.getfield 32, 3) := by decide +kernel
theorem dX5_without_60 : decode cX5_without 60 = .ok (.iconst 2, 1) := by decide +kernel
theorem dX5_without_61 : decode cX5_without 61 = .ok (.iload_n 3, 1) := by decide +kernel
theorem dX5_without_62 : decode cX5_without 62 = .ok (.iadd, 1) := by decide +kernel
theorem dX5_without_63 : decode cX5_without 63 = .ok (.iaload, 1) := by decide +kernel
theorem dX5_without_64 : decode cX5_without 64 = .ok (.iastore, 1) := by decide +kernel
theorem dX5_without_65 : decode cX5_without 65 = .ok (.iinc 2 1, 3) := by decide +kernel
theorem dX5_without_68 : decode cX5_without 68 = .ok (.iinc 3 1, 3) := by decide +kernel
theorem dX5_without_71 : decode cX5_without 71 = .ok (.goto (-42), 3) := by decide +kernel
theorem dX5_without_74 : decode cX5_without 74 = .ok (.aload_n 0, 1) := by decide +kernel
theorem dX5_without_75 : decode cX5_without 75 = .ok (.iload_n 2, 1) := by decide +kernel
theorem dX5_without_76 : decode cX5_without 76 = .ok (.invokevirtual 218, 3) := by decide +kernel
theorem dX5_without_79 : decode cX5_without 79 = .ok (.ireturn, 1) := by decide +kernel
theorem dX5_in_0 : decode cX5_in 0 = .ok (.aload_n 0, 1) := by decide +kernel
theorem dX5_in_1 : decode cX5_in 1 = .ok (.iload_n 1, 1) := by decide +kernel
theorem dX5_in_2 : decode cX5_in 2 = .ok (.invokevirtual 172, 3) := by decide +kernel
theorem dX5_in_5 : decode cX5_in 5 = .ok (.ifCond .ne 6, 3) := by decide +kernel
theorem dX5_in_8 : decode cX5_in 8 = .ok (.bipush (-2), 2) := by decide +kernel
theorem dX5_in_10 : decode cX5_in 10 = .ok (.ireturn, 1) := by decide +kernel
theorem dX5_in_11 : decode cX5_in 11 = .ok (.iload_n 2, 1) := by decide +kernel
theorem dX5_in_12 : decode cX5_in 12 = .ok (.iconst 0, 1) := by decide +kernel
theorem dX5_in_13 : decode cX5_in 13 = .ok (.aload_n 0, 1) := by decide +kernel
theorem dX5_in_14 : decode cX5_in 14 = .ok (.getfield 32, 3) := by decide +kernel
theorem dX5_in_17 : decode cX5_in 17 = .ok (.iconst 0, 1) := by decide +kernel
theorem dX5_in_18 : decode cX5_in 18 = .ok (.iaload, 1) := by decide +kernel
theorem dX5_in_19 : decode cX5_in 19 = .ok (.invokestatic 60, 3) := by decide +kernel
theorem dX5_in_22 : decode cX5_in 22 = .ok (.ifCond .ne 6, 3) := by decide +kernel
theorem dX5_in_25 : decode cX5_in 25 = .ok (.bipush (-3), 2) := by decide +kernel
theorem dX5_in_27 : decode cX5_in 27 = .ok (.ireturn, 1) := by decide +kernel
theorem dX5_in_28 : decode cX5_in 28 = .ok (.aload_n 0, 1) := by decide +kernel
theorem dX5_in_29 : decode cX5_in 29 = .ok (.invokevirtual 192, 3) := by decide +kernel
theorem dX5_in_32 : decode cX5_in 32 = .ok (.iload_n 1, 1) := by decide +kernel
theorem dX5_in_33 : decode cX5_in 33 = .ok (.invokestatic 179, 3) := by decide +kernel
theorem dX5_in_36 : decode cX5_in 36 = .ok (.ifCond .eq 6, 3) := by decide +kernel
theorem dX5_in_39 : decode cX5_in 39 = .ok (.bipush (-4), 2) := by decide +kernel
theorem dX5_in_41 : decode cX5_in 41 = .ok (.ireturn, 1) := by decide +kernel
theorem dX5_in_42 : decode cX5_in 42 = .ok (.iconst 0, 1) := by decide +kernel
theorem dX5_in_43 : decode cX5_in 43 = .ok (.istore_n 3, 1) := by decide +kernel
theorem dX5_in_44 : decode cX5_in 44 = .ok (.iload_n 3, 1) := by decide +kernel
theorem dX5_in_45 : decode cX5_in 45 = .ok (.aload_n 0, 1) := by decide +kernel
theorem dX5_in_46 : decode cX5_in 46 = .ok (.getfield 32, 3) := by decide +kernel
theorem dX5_in_49 : decode cX5_in 49 = .ok (.iconst 0, 1) := by decide +kernel
theorem dX5_in_50 : decode cX5_in 50 = .ok (.iaload, 1) := by decide +kernel
theorem dX5_in_51 : decode cX5_in 51 = .ok (.if_icmp .gt 48, 3) := by decide +kernel
theorem dX5_in_54 : decode cX5_in 54 = .ok (.aload_n 0, 1) := by decide +kernel
theorem dX5_in_55 : decode cX5_in 55 = .ok (.getfield 54, 3) := by decide +kernel
theorem dX5_in_58 : decode cX5_in 58 = .ok (.iload_n 3, 1) := by decide +kernel
theorem dX5_in_59 : decode cX5_in 59 = .ok (.iload_n 3, 1) := by decide +kernel
theorem dX5_in_60 : decode cX5_in 60 = .ok (.iload_n 2, 1) := by decide +kernel
theorem dX5_in_61 : decode cX5_in 61 = .ok (.if_icmp .ge 14, 3) := by decide +kernel
theorem dX5_in_64 : decode cX5_in 64 = .ok (.aload_n 0, 1) := by decide +kernel
theorem dX5_in_65 : decode cX5_in 65 = .ok (.getfield 32, 3) := by decide +kernel
theorem dX5_in_68 : decode cX5_in 68 = .ok (.iconst 2, 1) := by decide +kernel
theorem dX5_in_69 : decode cX5_in 69 = .ok (.iload_n 3, 1) := by decide +kernel
theorem dX5_in_70 : decode cX5_in 70 = .ok (.iadd, 1) := by decide +kernel
theorem dX5_in_71 : decode cX5_in 71 = .ok (.iaload, 1) := by decide +kernel
theorem dX5_in_72 : decode cX5_in 72 = .ok (.goto 20, 3) := by decide +kernel
theorem dX5_in_75 : decode cX5_in 75 = .ok (.iload_n 3, 1) := by decide +kernel
theorem dX5_in_76 : decode cX5_in 76 = .ok (.iload_n 2, 1) := by decide +kernel
theorem dX5_in_77 : decode cX5_in 77 = .ok (.if_icmp .ne 7, 3) := by decide +kernel
theorem dX5_in_80 : decode cX5_in 80 = .ok (.iload_n 1, 1) := by decide +kernel
theorem dX5_in_81 : decode cX5_in 81 = .ok (.goto 11, 3) := by decide +kernel
theorem dX5_in_84 : decode cX5_in 84 = .ok (.aload_n 0, 1) := by decide +kernel
theorem dX5_in_85 : decode cX5_in 85 = .ok (.getfield 32, 3) := by decide +kernel
theorem dX5_in_88 : decode cX5_in 88 = .ok (.iconst 1, 1) := by decide +kernel
theorem dX5_in_89 : decode cX5_in 89 = .ok (.iload_n 3, 1) := by decide +kernel
theorem dX5_in_90 : decode cX5_in 90 = .ok (.iadd, 1) := by decide +kernel
theorem dX5_in_91 : decode cX5_in 91 = .ok (.iaload, 1) := by decide +kernel
theorem dX5_in_92 : decode cX5_in 92 = .ok (.iastore, 1) := by decide +kernel
theorem dX5_in_93 : decode cX5_in 93 = .ok (.iinc 3 1, 3) := by decide +kernel
theorem dX5_in_96 : decode cX5_in 96 = .ok (.goto (-52), 3) := by decide +kernel
theorem dX5_in_99 : decode cX5_in 99 = .ok (.aload_n 0, 1) := by decide +kernel
theorem dX5_in_100 : decode cX5_in 100 = .ok (.aload_n 0, 1) := by decide +kernel
theorem dX5_in_101 : decode cX5_in 101 = .ok (.getfield 32, 3) := by decide +kernel
theorem dX5_in_104 : decode cX5_in 104 = .ok (.iconst 0, 1) := by decide +kernel
theorem dX5_in_105 : decode cX5_in 105 = .ok (.iaload, 1) := by decide +kernel
theorem dX5_in_106 : decode cX5_in 106 = .ok (.iconst 1, 1) := by decide +kernel
theorem dX5_in_107 : decode cX5_in 107 = .ok (.iadd, 1) := by decide +kernel
theorem dX5_in_108 : decode cX5_in 108 = .ok (.invokevirtual 218, 3) := by decide +kernel
theorem dX5_in_111 : decode cX5_in 111 = .ok (.iconst (-1), 1) := by decide +kernel
theorem dX5_in_112 : decode cX5_in 112 = .ok (.if_icmp .ne 7, 3) := by decide +kernel
theorem dX5_in_115 : decode cX5_in 115 = .ok (.iconst 1, 1) := by decide +kernel
theorem dX5_in_116 : decode cX5_in 116 = .ok (.goto 4, 3) := by decide +kernel
theorem dX5_in_119 : decode cX5_in 119 = .ok (.iconst 0, 1) := by decide +kernel
theorem dX5_in_120 : decode cX5_in 120 = .ok (.ireturn, 1) := by decide +kernel
theorem dX5_row_0 : decode cX5_row 0 = .ok (.aload_n 0, 1) := by decide +kernel
theorem dX5_row_1 : decode cX5_row 1 = .ok (.iload_n 1, 1) := by decide +kernel
theorem dX5_row_2 : decode cX5_row 2 = .ok (.invokevirtual 172, 3) := by decide +kernel
theorem dX5_row_5 : decode cX5_row 5 = .ok (.ifCond .ne 6, 3) := by decide +kernel
theorem dX5_row_8 : decode cX5_row 8 = .ok (.bipush (-2), 2) := by decide +kernel
theorem dX5_row_10 : decode cX5_row 10 = .ok (.ireturn, 1) := by decide +kernel
theorem dX5_row_11 : decode cX5_row 11 = .ok (.aload_n 0, 1) := by decide +kernel
theorem dX5_row_12 : decode cX5_row 12 = .ok (.getfield 166, 3) := by decide +kernel
theorem dX5_row_15 : decode cX5_row 15 = .ok (.bipush 8, 2) := by decide +kernel
theorem dX5_row_17 : decode cX5_row 17 = .ok (.if_icmp .ne 6, 3) := by decide +kernel
theorem dX5_row_20 : decode cX5_row 20 = .ok (.bipush (-5), 2) := by decide +kernel
theorem dX5_row_22 : decode cX5_row 22 = .ok (.ireturn, 1) := by decide +kernel
theorem dX5_row_23 : decode cX5_row 23 = .ok (.aload_n 0, 1) := by decide +kernel
theorem dX5_row_24 : decode cX5_row 24 = .ok (.getfield 42, 3) := by decide +kernel
theorem dX5_row_27 : decode cX5_row 27 = .ok (.aload_n 0, 1) := by decide +kernel
theorem dX5_row_28 : decode cX5_row 28 = .ok (.getfield 166, 3) := by decide +kernel
theorem dX5_row_31 : decode cX5_row 31 = .ok (.iload_n 1, 1) := by decide +kernel
theorem dX5_row_32 : decode cX5_row 32 = .ok (.iastore, 1) := by decide +kernel
theorem dX5_row_33 : decode cX5_row 33 = .ok (.aload_n 0, 1) := by decide +kernel
theorem dX5_row_34 : decode cX5_row 34 = .ok (.dup, 1) := by decide +kernel
theorem dX5_row_35 : decode cX5_row 35 = .ok (.getfield 166, 3) := by decide +kernel
theorem dX5_row_38 : decode cX5_row 38 = .ok (.iconst 1, 1) := by decide +kernel
theorem dX5_row_39 : decode cX5_row 39 = .ok (.iadd, 1) := by decide +kernel
theorem dX5_row_40 : decode cX5_row 40 = .ok (.putfield 166, 3) := by decide +kernel
theorem dX5_row_43 : decode cX5_row 43 = .ok (.aload_n 0, 1) := by decide +kernel
theorem dX5_row_44 : decode cX5_row 44 = .ok (.getfield 166, 3) := by decide +kernel
theorem dX5_row_47 : decode cX5_row 47 = .ok (.ireturn, 1) := by decide +kernel
theorem dX5_burn_0 : decode cX5_burn 0 = .ok (.aload_n 0, 1) := by decide +kernel
theorem dX5_burn_1 : decode cX5_burn 1 = .ok (.getfield 166, 3) := by decide +kernel
theorem dX5_burn_4 : decode cX5_burn 4 = .ok (.istore_n 1, 1) := by decide +kernel
theorem dX5_burn_5 : decode cX5_burn 5 = .ok (.aload_n 0, 1) := by decide +kernel
theorem dX5_burn_6 : decode cX5_burn 6 = .ok (.iconst 0, 1) := by decide +kernel
theorem dX5_burn_7 : decode cX5_burn 7 = .ok (.putfield 166, 3) := by decide +kernel
theorem dX5_burn_10 : decode cX5_burn 10 = .ok (.iload_n 1, 1) := by decide +kernel
theorem dX5_burn_11 : decode cX5_burn 11 = .ok (.ireturn, 1) := by decide +kernel
theorem dX5_judge_0 : decode cX5_judge 0 = .ok (.iload_n 1, 1) := by decide +kernel
theorem dX5_judge_1 : decode cX5_judge 1 = .ok (.iconst 0, 1) := by decide +kernel
theorem dX5_judge_2 : decode cX5_judge 2 = .ok (.iconst 1, 1) := by decide +kernel
theorem dX5_judge_3 : decode cX5_judge 3 = .ok (.invokestatic 60, 3) := by decide +kernel
theorem dX5_judge_6 : decode cX5_judge 6 = .ok (.ifCond .ne 6, 3) := by decide +kernel
theorem dX5_judge_9 : decode cX5_judge 9 = .ok (.bipush (-3), 2) := by decide +kernel
theorem dX5_judge_11 : decode cX5_judge 11 = .ok (.ireturn, 1) := by decide +kernel
theorem dX5_judge_12 : decode cX5_judge 12 = .ok (.iconst 0, 1) := by decide +kernel
theorem dX5_judge_13 : decode cX5_judge 13 = .ok (.istore_n 2, 1) := by decide +kernel
theorem dX5_judge_14 : decode cX5_judge 14 = .ok (.iconst 0, 1) := by decide +kernel
theorem dX5_judge_15 : decode cX5_judge 15 = .ok (.istore_n 3, 1) := by decide +kernel
theorem dX5_judge_16 : decode cX5_judge 16 = .ok (.iload_n 3, 1) := by decide +kernel
theorem dX5_judge_17 : decode cX5_judge 17 = .ok (.aload_n 0, 1) := by decide +kernel
theorem dX5_judge_18 : decode cX5_judge 18 = .ok (.getfield 166, 3) := by decide +kernel
theorem dX5_judge_21 : decode cX5_judge 21 = .ok (.if_icmp .ge 76, 3) := by decide +kernel
theorem dX5_judge_24 : decode cX5_judge 24 = .ok (.aload_n 0, 1) := by decide +kernel
theorem dX5_judge_25 : decode cX5_judge 25 = .ok (.aload_n 0, 1) := by decide +kernel
theorem dX5_judge_26 : decode cX5_judge 26 = .ok (.getfield 42, 3) := by decide +kernel
theorem dX5_judge_29 : decode cX5_judge 29 = .ok (.iload_n 3, 1) := by decide +kernel
theorem dX5_judge_30 : decode cX5_judge 30 = .ok (.iaload, 1) := by decide +kernel
theorem dX5_judge_31 : decode cX5_judge 31 = .ok (.iload_n 2, 1) := by decide +kernel
theorem dX5_judge_32 : decode cX5_judge 32 = .ok (.aload_n 0, 1) := by decide +kernel
theorem dX5_judge_33 : decode cX5_judge 33 = .ok (.getfield 13, 3) := by decide +kernel
theorem dX5_judge_36 : decode cX5_judge 36 = .ok (.invokevirtual 196, 3) := by decide +kernel
theorem dX5_judge_39 : decode cX5_judge 39 = .ok (.istore 4, 2) := by decide +kernel
theorem dX5_judge_41 : decode cX5_judge 41 = .ok (.iload 4, 2) := by decide +kernel
theorem dX5_judge_43 : decode cX5_judge 43 = .ok (.ifCond .ne 17, 3) := by decide +kernel
theorem dX5_judge_46 : decode cX5_judge 46 = .ok (.aload_n 0, 1) := by decide +kernel
theorem dX5_judge_47 : decode cX5_judge 47 = .ok (.iload_n 3, 1) := by decide +kernel
theorem dX5_judge_48 : decode cX5_judge 48 = .ok (.invokevirtual 200, 3) := by decide +kernel
theorem dX5_judge_51 : decode cX5_judge 51 = .ok (.bipush 9, 2) := by decide +kernel
theorem dX5_judge_53 : decode cX5_judge 53 = .ok (.if_icmp .ne 7, 3) := by decide +kernel
theorem dX5_judge_56 : decode cX5_judge 56 = .ok (.iconst 5, 1) := by decide +kernel
theorem dX5_judge_57 : decode cX5_judge 57 = .ok (.goto 5, 3) := by decide +kernel
theorem dX5_judge_60 : decode cX5_judge 60 = .ok (.iload 4, 2) := by decide +kernel
theorem dX5_judge_62 : decode cX5_judge 62 = .ok (.istore 4, 2) := by decide +kernel
theorem dX5_judge_64 : decode cX5_judge 64 = .ok (.iload 4, 2) := by decide +kernel
theorem dX5_judge_66 : decode cX5_judge 66 = .ok (.ifCond .eq 14, 3) := by decide +kernel
theorem dX5_judge_69 : decode cX5_judge 69 = .ok (.iload_n 1, 1) := by decide +kernel
theorem dX5_judge_70 : decode cX5_judge 70 = .ok (.ifCond .ne 7, 3) := by decide +kernel
theorem dX5_judge_73 : decode cX5_judge 73 = .ok (.iload_n 3, 1) := by decide +kernel
theorem dX5_judge_74 : decode cX5_judge 74 = .ok (.goto 5, 3) := by decide +kernel
theorem dX5_judge_77 : decode cX5_judge 77 = .ok (.iload 4, 2) := by decide +kernel
theorem dX5_judge_79 : decode cX5_judge 79 = .ok (.ireturn, 1) := by decide +kernel
theorem dX5_judge_80 : decode cX5_judge 80 = .ok (.iload_n 2, 1) := by decide +kernel
theorem dX5_judge_81 : decode cX5_judge 81 = .ok (.iconst 1, 1) := by decide +kernel
theorem dX5_judge_82 : decode cX5_judge 82 = .ok (.aload_n 0, 1) := by decide +kernel
theorem dX5_judge_83 : decode cX5_judge 83 = .ok (.getfield 42, 3) := by decide +kernel
theorem dX5_judge_86 : decode cX5_judge 86 = .ok (.iload_n 3, 1) := by decide +kernel
theorem dX5_judge_87 : decode cX5_judge 87 = .ok (.iaload, 1) := by decide +kernel
theorem dX5_judge_88 : decode cX5_judge 88 = .ok (.ishl, 1) := by decide +kernel
theorem dX5_judge_89 : decode cX5_judge 89 = .ok (.ior, 1) := by decide +kernel
theorem dX5_judge_90 : decode cX5_judge 90 = .ok (.istore_n 2, 1) := by decide +kernel
theorem dX5_judge_91 : decode cX5_judge 91 = .ok (.iinc 3 1, 3) := by decide +kernel
theorem dX5_judge_94 : decode cX5_judge 94 = .ok (.goto (-78), 3) := by decide +kernel
theorem dX5_judge_97 : decode cX5_judge 97 = .ok (.iload_n 1, 1) := by decide +kernel
theorem dX5_judge_98 : decode cX5_judge 98 = .ok (.ifCond .ne 7, 3) := by decide +kernel
theorem dX5_judge_101 : decode cX5_judge 101 = .ok (.iconst (-1), 1) := by decide +kernel
theorem dX5_judge_102 : decode cX5_judge 102 = .ok (.goto 4, 3) := by decide +kernel
theorem dX5_judge_105 : decode cX5_judge 105 = .ok (.iconst 0, 1) := by decide +kernel
theorem dX5_judge_106 : decode cX5_judge 106 = .ok (.ireturn, 1) := by decide +kernel
theorem dX5_seen_0 : decode cX5_seen 0 = .ok (.iload_n 1, 1) := by decide +kernel
theorem dX5_seen_1 : decode cX5_seen 1 = .ok (.iconst 0, 1) := by decide +kernel
theorem dX5_seen_2 : decode cX5_seen 2 = .ok (.aload_n 0, 1) := by decide +kernel
theorem dX5_seen_3 : decode cX5_seen 3 = .ok (.getfield 32, 3) := by decide +kernel
theorem dX5_seen_6 : decode cX5_seen 6 = .ok (.iconst 0, 1) := by decide +kernel
theorem dX5_seen_7 : decode cX5_seen 7 = .ok (.iaload, 1) := by decide +kernel
theorem dX5_seen_8 : decode cX5_seen 8 = .ok (.iconst 1, 1) := by decide +kernel
theorem dX5_seen_9 : decode cX5_seen 9 = .ok (.isub, 1) := by decide +kernel
theorem dX5_seen_10 : decode cX5_seen 10 = .ok (.invokestatic 60, 3) := by decide +kernel
theorem dX5_seen_13 : decode cX5_seen 13 = .ok (.ifCond .eq 14, 3) := by decide +kernel
theorem dX5_seen_16 : decode cX5_seen 16 = .ok (.iload_n 2, 1) := by decide +kernel
theorem dX5_seen_17 : decode cX5_seen 17 = .ok (.iconst 0, 1) := by decide +kernel
theorem dX5_seen_18 : decode cX5_seen 18 = .ok (.sipush 999, 3) := by decide +kernel
theorem dX5_seen_21 : decode cX5_seen 21 = .ok (.invokestatic 60, 3) := by decide +kernel
theorem dX5_seen_24 : decode cX5_seen 24 = .ok (.ifCond .ne 6, 3) := by decide +kernel
theorem dX5_seen_27 : decode cX5_seen 27 = .ok (.bipush (-3), 2) := by decide +kernel
theorem dX5_seen_29 : decode cX5_seen 29 = .ok (.ireturn, 1) := by decide +kernel
theorem dX5_seen_30 : decode cX5_seen 30 = .ok (.aload_n 0, 1) := by decide +kernel
theorem dX5_seen_31 : decode cX5_seen 31 = .ok (.getfield 169, 3) := by decide +kernel
theorem dX5_seen_34 : decode cX5_seen 34 = .ok (.bipush 8, 2) := by decide +kernel
theorem dX5_seen_36 : decode cX5_seen 36 = .ok (.if_icmp .ne 6, 3) := by decide +kernel
theorem dX5_seen_39 : decode cX5_seen 39 = .ok (.bipush (-5), 2) := by decide +kernel
theorem dX5_seen_41 : decode cX5_seen 41 = .ok (.ireturn, 1) := by decide +kernel
theorem dX5_seen_42 : decode cX5_seen 42 = .ok (.aload_n 0, 1) := by decide +kernel
theorem dX5_seen_43 : decode cX5_seen 43 = .ok (.getfield 45, 3) := by decide +kernel
theorem dX5_seen_46 : decode cX5_seen 46 = .ok (.iconst 2, 1) := by decide +kernel
theorem dX5_seen_47 : decode cX5_seen 47 = .ok (.aload_n 0, 1) := by decide +kernel
theorem dX5_seen_48 : decode cX5_seen 48 = .ok (.getfield 169, 3) := by decide +kernel
theorem dX5_seen_51 : decode cX5_seen 51 = .ok (.imul, 1) := by decide +kernel
theorem dX5_seen_52 : decode cX5_seen 52 = .ok (.iload_n 1, 1) := by decide +kernel
theorem dX5_seen_53 : decode cX5_seen 53 = .ok (.iastore, 1) := by decide +kernel
theorem dX5_seen_54 : decode cX5_seen 54 = .ok (.aload_n 0, 1) := by decide +kernel
theorem dX5_seen_55 : decode cX5_seen 55 = .ok (.getfield 45, 3) := by decide +kernel
theorem dX5_seen_58 : decode cX5_seen 58 = .ok (.iconst 2, 1) := by decide +kernel
theorem dX5_seen_59 : decode cX5_seen 59 = .ok (.aload_n 0, 1) := by decide +kernel
theorem dX5_seen_60 : decode cX5_seen 60 = .ok (.getfield 169, 3) := by decide +kernel
theorem dX5_seen_63 : decode cX5_seen 63 = .ok (.imul, 1) := by decide +kernel
theorem dX5_seen_64 : decode cX5_seen 64 = .ok (.iconst 1, 1) := by decide +kernel
theorem dX5_seen_65 : decode cX5_seen 65 = .ok (.iadd, 1) := by decide +kernel
theorem dX5_seen_66 : decode cX5_seen 66 = .ok (.iload_n 2, 1) := by decide +kernel
theorem dX5_seen_67 : decode cX5_seen 67 = .ok (.iastore, 1) := by decide +kernel
theorem dX5_seen_68 : decode cX5_seen 68 = .ok (.aload_n 0, 1) := by decide +kernel
theorem dX5_seen_69 : decode cX5_seen 69 = .ok (.dup, 1) := by decide +kernel
theorem dX5_seen_70 : decode cX5_seen 70 = .ok (.getfield 169, 3) := by decide +kernel
theorem dX5_seen_73 : decode cX5_seen 73 = .ok (.iconst 1, 1) := by decide +kernel
theorem dX5_seen_74 : decode cX5_seen 74 = .ok (.iadd, 1) := by decide +kernel
theorem dX5_seen_75 : decode cX5_seen 75 = .ok (.putfield 169, 3) := by decide +kernel
theorem dX5_seen_78 : decode cX5_seen 78 = .ok (.aload_n 0, 1) := by decide +kernel
theorem dX5_seen_79 : decode cX5_seen 79 = .ok (.getfield 169, 3) := by decide +kernel
theorem dX5_seen_82 : decode cX5_seen 82 = .ok (.ireturn, 1) := by decide +kernel
theorem dX5_forget_0 : decode cX5_forget 0 = .ok (.aload_n 0, 1) := by decide +kernel
theorem dX5_forget_1 : decode cX5_forget 1 = .ok (.getfield 169, 3) := by decide +kernel
theorem dX5_forget_4 : decode cX5_forget 4 = .ok (.istore_n 1, 1) := by decide +kernel
theorem dX5_forget_5 : decode cX5_forget 5 = .ok (.aload_n 0, 1) := by decide +kernel
theorem dX5_forget_6 : decode cX5_forget 6 = .ok (.iconst 0, 1) := by decide +kernel
theorem dX5_forget_7 : decode cX5_forget 7 = .ok (.putfield 169, 3) := by decide +kernel
theorem dX5_forget_10 : decode cX5_forget 10 = .ok (.iload_n 1, 1) := by decide +kernel
theorem dX5_forget_11 : decode cX5_forget 11 = .ok (.ireturn, 1) := by decide +kernel
theorem dX5_areSo_0 : decode cX5_areSo 0 = .ok (.iconst 1, 1) := by decide +kernel
theorem dX5_areSo_1 : decode cX5_areSo 1 = .ok (.istore_n 1, 1) := by decide +kernel
theorem dX5_areSo_2 : decode cX5_areSo 2 = .ok (.iconst 0, 1) := by decide +kernel
theorem dX5_areSo_3 : decode cX5_areSo 3 = .ok (.istore_n 2, 1) := by decide +kernel
theorem dX5_areSo_4 : decode cX5_areSo 4 = .ok (.iload_n 2, 1) := by decide +kernel
theorem dX5_areSo_5 : decode cX5_areSo 5 = .ok (.aload_n 0, 1) := by decide +kernel
theorem dX5_areSo_6 : decode cX5_areSo 6 = .ok (.getfield 169, 3) := by decide +kernel
theorem dX5_areSo_9 : decode cX5_areSo 9 = .ok (.if_icmp .ge 78, 3) := by decide +kernel
theorem dX5_areSo_12 : decode cX5_areSo 12 = .ok (.iconst 0, 1) := by decide +kernel
theorem dX5_areSo_13 : decode cX5_areSo 13 = .ok (.istore_n 3, 1) := by decide +kernel
theorem dX5_areSo_14 : decode cX5_areSo 14 = .ok (.iconst 0, 1) := by decide +kernel
theorem dX5_areSo_15 : decode cX5_areSo 15 = .ok (.istore 4, 2) := by decide +kernel
theorem dX5_areSo_17 : decode cX5_areSo 17 = .ok (.iload 4, 2) := by decide +kernel
theorem dX5_areSo_19 : decode cX5_areSo 19 = .ok (.aload_n 0, 1) := by decide +kernel
theorem dX5_areSo_20 : decode cX5_areSo 20 = .ok (.getfield 45, 3) := by decide +kernel
theorem dX5_areSo_23 : decode cX5_areSo 23 = .ok (.iconst 2, 1) := by decide +kernel
theorem dX5_areSo_24 : decode cX5_areSo 24 = .ok (.iload_n 2, 1) := by decide +kernel
theorem dX5_areSo_25 : decode cX5_areSo 25 = .ok (.imul, 1) := by decide +kernel
theorem dX5_areSo_26 : decode cX5_areSo 26 = .ok (.iaload, 1) := by decide +kernel
theorem dX5_areSo_27 : decode cX5_areSo 27 = .ok (.if_icmp .ge 25, 3) := by decide +kernel
theorem dX5_areSo_30 : decode cX5_areSo 30 = .ok (.iload_n 3, 1) := by decide +kernel
theorem dX5_areSo_31 : decode cX5_areSo 31 = .ok (.aload_n 0, 1) := by decide +kernel
theorem dX5_areSo_32 : decode cX5_areSo 32 = .ok (.aload_n 0, 1) := by decide +kernel
theorem dX5_areSo_33 : decode cX5_areSo 33 = .ok (.getfield 32, 3) := by decide +kernel
theorem dX5_areSo_36 : decode cX5_areSo 36 = .ok (.iconst 2, 1) := by decide +kernel
theorem dX5_areSo_37 : decode cX5_areSo 37 = .ok (.iload 4, 2) := by decide +kernel
theorem dX5_areSo_39 : decode cX5_areSo 39 = .ok (.iadd, 1) := by decide +kernel
theorem dX5_areSo_40 : decode cX5_areSo 40 = .ok (.iaload, 1) := by decide +kernel
theorem dX5_areSo_41 : decode cX5_areSo 41 = .ok (.invokevirtual 175, 3) := by decide +kernel
theorem dX5_areSo_44 : decode cX5_areSo 44 = .ok (.iadd, 1) := by decide +kernel
theorem dX5_areSo_45 : decode cX5_areSo 45 = .ok (.istore_n 3, 1) := by decide +kernel
theorem dX5_areSo_46 : decode cX5_areSo 46 = .ok (.iinc 4 1, 3) := by decide +kernel
theorem dX5_areSo_49 : decode cX5_areSo 49 = .ok (.goto (-32), 3) := by decide +kernel
theorem dX5_areSo_52 : decode cX5_areSo 52 = .ok (.iload_n 1, 1) := by decide +kernel
theorem dX5_areSo_53 : decode cX5_areSo 53 = .ok (.ifCond .eq 26, 3) := by decide +kernel
theorem dX5_areSo_56 : decode cX5_areSo 56 = .ok (.iload_n 3, 1) := by decide +kernel
theorem dX5_areSo_57 : decode cX5_areSo 57 = .ok (.aload_n 0, 1) := by decide +kernel
theorem dX5_areSo_58 : decode cX5_areSo 58 = .ok (.getfield 17, 3) := by decide +kernel
theorem dX5_areSo_61 : decode cX5_areSo 61 = .ok (.idiv, 1) := by decide +kernel
theorem dX5_areSo_62 : decode cX5_areSo 62 = .ok (.aload_n 0, 1) := by decide +kernel
theorem dX5_areSo_63 : decode cX5_areSo 63 = .ok (.getfield 45, 3) := by decide +kernel
theorem dX5_areSo_66 : decode cX5_areSo 66 = .ok (.iconst 2, 1) := by decide +kernel
theorem dX5_areSo_67 : decode cX5_areSo 67 = .ok (.iload_n 2, 1) := by decide +kernel
theorem dX5_areSo_68 : decode cX5_areSo 68 = .ok (.imul, 1) := by decide +kernel
theorem dX5_areSo_69 : decode cX5_areSo 69 = .ok (.iconst 1, 1) := by decide +kernel
theorem dX5_areSo_70 : decode cX5_areSo 70 = .ok (.iadd, 1) := by decide +kernel
theorem dX5_areSo_71 : decode cX5_areSo 71 = .ok (.iaload, 1) := by decide +kernel
theorem dX5_areSo_72 : decode cX5_areSo 72 = .ok (.if_icmp .ne 7, 3) := by decide +kernel
theorem dX5_areSo_75 : decode cX5_areSo 75 = .ok (.iconst 1, 1) := by decide +kernel
theorem dX5_areSo_76 : decode cX5_areSo 76 = .ok (.goto 4, 3) := by decide +kernel
theorem dX5_areSo_79 : decode cX5_areSo 79 = .ok (.iconst 0, 1) := by decide +kernel
theorem dX5_areSo_80 : decode cX5_areSo 80 = .ok (.istore_n 1, 1) := by decide +kernel
theorem dX5_areSo_81 : decode cX5_areSo 81 = .ok (.iinc 2 1, 3) := by decide +kernel
theorem dX5_areSo_84 : decode cX5_areSo 84 = .ok (.goto (-80), 3) := by decide +kernel
theorem dX5_areSo_87 : decode cX5_areSo 87 = .ok (.iload_n 1, 1) := by decide +kernel
theorem dX5_areSo_88 : decode cX5_areSo 88 = .ok (.ireturn, 1) := by decide +kernel
theorem dX5_fits_0 : decode cX5_fits 0 = .ok (.aload_n 0, 1) := by decide +kernel
theorem dX5_fits_1 : decode cX5_fits 1 = .ok (.iload_n 1, 1) := by decide +kernel
theorem dX5_fits_2 : decode cX5_fits 2 = .ok (.invokevirtual 172, 3) := by decide +kernel
theorem dX5_fits_5 : decode cX5_fits 5 = .ok (.ifCond .ne 6, 3) := by decide +kernel
theorem dX5_fits_8 : decode cX5_fits 8 = .ok (.bipush (-2), 2) := by decide +kernel
theorem dX5_fits_10 : decode cX5_fits 10 = .ok (.ireturn, 1) := by decide +kernel
theorem dX5_fits_11 : decode cX5_fits 11 = .ok (.iload_n 2, 1) := by decide +kernel
theorem dX5_fits_12 : decode cX5_fits 12 = .ok (.iconst 0, 1) := by decide +kernel
theorem dX5_fits_13 : decode cX5_fits 13 = .ok (.iconst 2, 1) := by decide +kernel
theorem dX5_fits_14 : decode cX5_fits 14 = .ok (.invokestatic 60, 3) := by decide +kernel
theorem dX5_fits_17 : decode cX5_fits 17 = .ok (.ifCond .ne 6, 3) := by decide +kernel
theorem dX5_fits_20 : decode cX5_fits 20 = .ok (.bipush (-3), 2) := by decide +kernel
theorem dX5_fits_22 : decode cX5_fits 22 = .ok (.ireturn, 1) := by decide +kernel
theorem dX5_fits_23 : decode cX5_fits 23 = .ok (.aload_n 0, 1) := by decide +kernel
theorem dX5_fits_24 : decode cX5_fits 24 = .ok (.getfield 7, 3) := by decide +kernel
theorem dX5_fits_27 : decode cX5_fits 27 = .ok (.iconst 5, 1) := by decide +kernel
theorem dX5_fits_28 : decode cX5_fits 28 = .ok (.iload_n 1, 1) := by decide +kernel
theorem dX5_fits_29 : decode cX5_fits 29 = .ok (.imul, 1) := by decide +kernel
theorem dX5_fits_30 : decode cX5_fits 30 = .ok (.iconst 1, 1) := by decide +kernel
theorem dX5_fits_31 : decode cX5_fits 31 = .ok (.iadd, 1) := by decide +kernel
theorem dX5_fits_32 : decode cX5_fits 32 = .ok (.iaload, 1) := by decide +kernel
theorem dX5_fits_33 : decode cX5_fits 33 = .ok (.istore_n 3, 1) := by decide +kernel
theorem dX5_fits_34 : decode cX5_fits 34 = .ok (.iconst 0, 1) := by decide +kernel
theorem dX5_fits_35 : decode cX5_fits 35 = .ok (.istore 4, 2) := by decide +kernel
theorem dX5_fits_37 : decode cX5_fits 37 = .ok (.iconst (-1), 1) := by decide +kernel
theorem dX5_fits_38 : decode cX5_fits 38 = .ok (.istore 5, 2) := by decide +kernel
theorem dX5_fits_40 : decode cX5_fits 40 = .ok (.iconst (-1), 1) := by decide +kernel
theorem dX5_fits_41 : decode cX5_fits 41 = .ok (.istore 6, 2) := by decide +kernel
theorem dX5_fits_43 : decode cX5_fits 43 = .ok (.iconst 1, 1) := by decide +kernel
theorem dX5_fits_44 : decode cX5_fits 44 = .ok (.istore 7, 2) := by decide +kernel
theorem dX5_fits_46 : decode cX5_fits 46 = .ok (.iload 7, 2) := by decide +kernel
theorem dX5_fits_48 : decode cX5_fits 48 = .ok (.bipush 100, 2) := by decide +kernel
theorem dX5_fits_50 : decode cX5_fits 50 = .ok (.if_icmp .ge 50, 3) := by decide +kernel
theorem dX5_fits_53 : decode cX5_fits 53 = .ok (.aload_n 0, 1) := by decide +kernel
theorem dX5_fits_54 : decode cX5_fits 54 = .ok (.getfield 7, 3) := by decide +kernel
theorem dX5_fits_57 : decode cX5_fits 57 = .ok (.iconst 5, 1) := by decide +kernel
theorem dX5_fits_58 : decode cX5_fits 58 = .ok (.iload_n 1, 1) := by decide +kernel
theorem dX5_fits_59 : decode cX5_fits 59 = .ok (.imul, 1) := by decide +kernel
theorem dX5_fits_60 : decode cX5_fits 60 = .ok (.iconst 1, 1) := by decide +kernel
theorem dX5_fits_61 : decode cX5_fits 61 = .ok (.iadd, 1) := by decide +kernel
theorem dX5_fits_62 : decode cX5_fits 62 = .ok (.iload 7, 2) := by decide +kernel
theorem dX5_fits_64 : decode cX5_fits 64 = .ok (.iastore, 1) := by decide +kernel
theorem dX5_fits_65 : decode cX5_fits 65 = .ok (.aload_n 0, 1) := by decide +kernel
theorem dX5_fits_66 : decode cX5_fits 66 = .ok (.invokevirtual 221, 3) := by decide +kernel
theorem dX5_fits_69 : decode cX5_fits 69 = .ok (.ifCond .eq 25, 3) := by decide +kernel
theorem dX5_fits_72 : decode cX5_fits 72 = .ok (.iinc 4 1, 3) := by decide +kernel
theorem dX5_fits_75 : decode cX5_fits 75 = .ok (.iload 5, 2) := by decide +kernel
theorem dX5_fits_77 : decode cX5_fits 77 = .ok (.iconst (-1), 1) := by decide +kernel
theorem dX5_fits_78 : decode cX5_fits 78 = .ok (.if_icmp .ne 8, 3) := by decide +kernel
theorem dX5_fits_81 : decode cX5_fits 81 = .ok (.iload 7, 2) := by decide +kernel
theorem dX5_fits_83 : decode cX5_fits 83 = .ok (.goto 5, 3) := by decide +kernel
theorem dX5_fits_86 : decode cX5_fits 86 = .ok (.iload 5, 2) := by decide +kernel
theorem dX5_fits_88 : decode cX5_fits 88 = .ok (.istore 5, 2) := by decide +kernel
theorem dX5_fits_90 : decode cX5_fits 90 = .ok (.iload 7, 2) := by decide +kernel
theorem dX5_fits_92 : decode cX5_fits 92 = .ok (.istore 6, 2) := by decide +kernel
theorem dX5_fits_94 : decode cX5_fits 94 = .ok (.iinc 7 1, 3) := by decide +kernel
theorem dX5_fits_97 : decode cX5_fits 97 = .ok (.goto (-51), 3) := by decide +kernel
theorem dX5_fits_100 : decode cX5_fits 100 = .ok (.aload_n 0, 1) := by decide +kernel
theorem dX5_fits_101 : decode cX5_fits 101 = .ok (.getfield 7, 3) := by decide +kernel
theorem dX5_fits_104 : decode cX5_fits 104 = .ok (.iconst 5, 1) := by decide +kernel
theorem dX5_fits_105 : decode cX5_fits 105 = .ok (.iload_n 1, 1) := by decide +kernel
theorem dX5_fits_106 : decode cX5_fits 106 = .ok (.imul, 1) := by decide +kernel
theorem dX5_fits_107 : decode cX5_fits 107 = .ok (.iconst 1, 1) := by decide +kernel
theorem dX5_fits_108 : decode cX5_fits 108 = .ok (.iadd, 1) := by decide +kernel
theorem dX5_fits_109 : decode cX5_fits 109 = .ok (.iload_n 3, 1) := by decide +kernel
theorem dX5_fits_110 : decode cX5_fits 110 = .ok (.iastore, 1) := by decide +kernel
theorem dX5_fits_111 : decode cX5_fits 111 = .ok (.iload_n 2, 1) := by decide +kernel
theorem dX5_fits_112 : decode cX5_fits 112 = .ok (.ifCond .ne 8, 3) := by decide +kernel
theorem dX5_fits_115 : decode cX5_fits 115 = .ok (.iload 4, 2) := by decide +kernel
theorem dX5_fits_117 : decode cX5_fits 117 = .ok (.goto 15, 3) := by decide +kernel
theorem dX5_fits_120 : decode cX5_fits 120 = .ok (.iload_n 2, 1) := by decide +kernel
theorem dX5_fits_121 : decode cX5_fits 121 = .ok (.iconst 1, 1) := by decide +kernel
theorem dX5_fits_122 : decode cX5_fits 122 = .ok (.if_icmp .ne 8, 3) := by decide +kernel
theorem dX5_fits_125 : decode cX5_fits 125 = .ok (.iload 5, 2) := by decide +kernel
theorem dX5_fits_127 : decode cX5_fits 127 = .ok (.goto 5, 3) := by decide +kernel
theorem dX5_fits_130 : decode cX5_fits 130 = .ok (.iload 6, 2) := by decide +kernel
theorem dX5_fits_132 : decode cX5_fits 132 = .ok (.ireturn, 1) := by decide +kernel
theorem dX5_count_0 : decode cX5_count 0 = .ok (.iload_n 1, 1) := by decide +kernel
theorem dX5_count_1 : decode cX5_count 1 = .ok (.tableswitch 141 0 11 #[63, 68, 73, 78, 83, 90, 97, 106, 115, 126, 131, 136], 63) := by decide +kernel
theorem dX5_count_64 : decode cX5_count 64 = .ok (.aload_n 0, 1) := by decide +kernel
theorem dX5_count_65 : decode cX5_count 65 = .ok (.getfield 57, 3) := by decide +kernel
theorem dX5_count_68 : decode cX5_count 68 = .ok (.ireturn, 1) := by decide +kernel
theorem dX5_count_69 : decode cX5_count 69 = .ok (.aload_n 0, 1) := by decide +kernel
theorem dX5_count_70 : decode cX5_count 70 = .ok (.getfield 13, 3) := by decide +kernel
theorem dX5_count_73 : decode cX5_count 73 = .ok (.ireturn, 1) := by decide +kernel
theorem dX5_count_74 : decode cX5_count 74 = .ok (.aload_n 0, 1) := by decide +kernel
theorem dX5_count_75 : decode cX5_count 75 = .ok (.getfield 17, 3) := by decide +kernel
theorem dX5_count_78 : decode cX5_count 78 = .ok (.ireturn, 1) := by decide +kernel
theorem dX5_count_79 : decode cX5_count 79 = .ok (.aload_n 0, 1) := by decide +kernel
theorem dX5_count_80 : decode cX5_count 80 = .ok (.getfield 149, 3) := by decide +kernel
theorem dX5_count_83 : decode cX5_count 83 = .ok (.ireturn, 1) := by decide +kernel
theorem dX5_count_84 : decode cX5_count 84 = .ok (.aload_n 0, 1) := by decide +kernel
theorem dX5_count_85 : decode cX5_count 85 = .ok (.getfield 32, 3) := by decide +kernel
theorem dX5_count_88 : decode cX5_count 88 = .ok (.iconst 0, 1) := by decide +kernel
theorem dX5_count_89 : decode cX5_count 89 = .ok (.iaload, 1) := by decide +kernel
theorem dX5_count_90 : decode cX5_count 90 = .ok (.ireturn, 1) := by decide +kernel
theorem dX5_count_91 : decode cX5_count 91 = .ok (.aload_n 0, 1) := by decide +kernel
theorem dX5_count_92 : decode cX5_count 92 = .ok (.getfield 32, 3) := by decide +kernel
theorem dX5_count_95 : decode cX5_count 95 = .ok (.iconst 1, 1) := by decide +kernel
theorem dX5_count_96 : decode cX5_count 96 = .ok (.iaload, 1) := by decide +kernel
theorem dX5_count_97 : decode cX5_count 97 = .ok (.ireturn, 1) := by decide +kernel
theorem dX5_count_98 : decode cX5_count 98 = .ok (.aload_n 0, 1) := by decide +kernel
theorem dX5_count_99 : decode cX5_count 99 = .ok (.aload_n 0, 1) := by decide +kernel
theorem dX5_count_100 : decode cX5_count 100 = .ok (.invokevirtual 192, 3) := by decide +kernel
theorem dX5_count_103 : decode cX5_count 103 = .ok (.invokevirtual 209, 3) := by decide +kernel
theorem dX5_count_106 : decode cX5_count 106 = .ok (.ireturn, 1) := by decide +kernel
theorem dX5_count_107 : decode cX5_count 107 = .ok (.aload_n 0, 1) := by decide +kernel
theorem dX5_count_108 : decode cX5_count 108 = .ok (.aload_n 0, 1) := by decide +kernel
theorem dX5_count_109 : decode cX5_count 109 = .ok (.invokevirtual 192, 3) := by decide +kernel
theorem dX5_count_112 : decode cX5_count 112 = .ok (.invokevirtual 186, 3) := by decide +kernel
theorem dX5_count_115 : decode cX5_count 115 = .ok (.ireturn, 1) := by decide +kernel
theorem dX5_count_116 : decode cX5_count 116 = .ok (.aload_n 0, 1) := by decide +kernel
theorem dX5_count_117 : decode cX5_count 117 = .ok (.aload_n 0, 1) := by decide +kernel
theorem dX5_count_118 : decode cX5_count 118 = .ok (.getfield 32, 3) := by decide +kernel
theorem dX5_count_121 : decode cX5_count 121 = .ok (.iconst 1, 1) := by decide +kernel
theorem dX5_count_122 : decode cX5_count 122 = .ok (.iaload, 1) := by decide +kernel
theorem dX5_count_123 : decode cX5_count 123 = .ok (.invokevirtual 200, 3) := by decide +kernel
theorem dX5_count_126 : decode cX5_count 126 = .ok (.ireturn, 1) := by decide +kernel
theorem dX5_count_127 : decode cX5_count 127 = .ok (.aload_n 0, 1) := by decide +kernel
theorem dX5_count_128 : decode cX5_count 128 = .ok (.getfield 166, 3) := by decide +kernel
theorem dX5_count_131 : decode cX5_count 131 = .ok (.ireturn, 1) := by decide +kernel
theorem dX5_count_132 : decode cX5_count 132 = .ok (.aload_n 0, 1) := by decide +kernel
theorem dX5_count_133 : decode cX5_count 133 = .ok (.getfield 169, 3) := by decide +kernel
theorem dX5_count_136 : decode cX5_count 136 = .ok (.ireturn, 1) := by decide +kernel
theorem dX5_count_137 : decode cX5_count 137 = .ok (.aload_n 0, 1) := by decide +kernel
theorem dX5_count_138 : decode cX5_count 138 = .ok (.getfield 64, 3) := by decide +kernel
theorem dX5_count_141 : decode cX5_count 141 = .ok (.ireturn, 1) := by decide +kernel
theorem dX5_count_142 : decode cX5_count 142 = .ok (.bipush (-3), 2) := by decide +kernel
theorem dX5_count_144 : decode cX5_count 144 = .ok (.ireturn, 1) := by decide +kernel
