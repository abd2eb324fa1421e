theorem dX5_init_0 : decode cX5_init 0 = .ok (.aload_n 0, 1) := by decide +kernel
theorem dX5_init_1 : decode cX5_init 1 = .ok (.invokespecial 1, 3) := by decide +kernel
theorem dX5_init_4 : decode cX5_init 4 = .ok (.aload_n 0, 1) := by decide +kernel
theorem dX5_init_5 : decode cX5_init 5 = .ok (.bipush 40, 2) := by decide +kernel
theorem dX5_init_7 : decode cX5_init 7 = .ok (.newarray .int, 2) := by decide +kernel
theorem dX5_init_9 : decode cX5_init 9 = .ok (.putfield 7, 3) := by decide +kernel
theorem dX5_init_12 : decode cX5_init 12 = .ok (.aload_n 0, 1) := by decide +kernel
theorem dX5_init_13 : decode cX5_init 13 = .ok (.sipush 500, 3) := by decide +kernel
theorem dX5_init_16 : decode cX5_init 16 = .ok (.putfield 13, 3) := by decide +kernel
theorem dX5_init_19 : decode cX5_init 19 = .ok (.aload_n 0, 1) := by decide +kernel
theorem dX5_init_20 : decode cX5_init 20 = .ok (.bipush 10, 2) := by decide +kernel
theorem dX5_init_22 : decode cX5_init 22 = .ok (.putfield 17, 3) := by decide +kernel
theorem dX5_init_25 : decode cX5_init 25 = .ok (.aload_n 0, 1) := by decide +kernel
theorem dX5_init_26 : decode cX5_init 26 = .ok (.bipush 40, 2) := by decide +kernel
theorem dX5_init_28 : decode cX5_init 28 = .ok (.newarray .int, 2) := by decide +kernel
theorem dX5_init_30 : decode cX5_init 30 = .ok (.putfield 20, 3) := by decide +kernel
theorem dX5_init_33 : decode cX5_init 33 = .ok (.aload_n 0, 1) := by decide +kernel
theorem dX5_init_34 : decode cX5_init 34 = .ok (.bipush 16, 2) := by decide +kernel
theorem dX5_init_36 : decode cX5_init 36 = .ok (.newarray .int, 2) := by decide +kernel
theorem dX5_init_38 : decode cX5_init 38 = .ok (.putfield 23, 3) := by decide +kernel
theorem dX5_init_41 : decode cX5_init 41 = .ok (.aload_n 0, 1) := by decide +kernel
theorem dX5_init_42 : decode cX5_init 42 = .ok (.sipush 200, 3) := by decide +kernel
theorem dX5_init_45 : decode cX5_init 45 = .ok (.newarray .int, 2) := by decide +kernel
theorem dX5_init_47 : decode cX5_init 47 = .ok (.putfield 26, 3) := by decide +kernel
theorem dX5_init_50 : decode cX5_init 50 = .ok (.aload_n 0, 1) := by decide +kernel
theorem dX5_init_51 : decode cX5_init 51 = .ok (.bipush 60, 2) := by decide +kernel
theorem dX5_init_53 : decode cX5_init 53 = .ok (.newarray .int, 2) := by decide +kernel
theorem dX5_init_55 : decode cX5_init 55 = .ok (.putfield 29, 3) := by decide +kernel
theorem dX5_init_58 : decode cX5_init 58 = .ok (.aload_n 0, 1) := by decide +kernel
theorem dX5_init_59 : decode cX5_init 59 = .ok (.bipush 10, 2) := by decide +kernel
theorem dX5_init_61 : decode cX5_init 61 = .ok (.newarray .int, 2) := by decide +kernel
theorem dX5_init_63 : decode cX5_init 63 = .ok (.putfield 32, 3) := by decide +kernel
theorem dX5_init_66 : decode cX5_init 66 = .ok (.aload_n 0, 1) := by decide +kernel
theorem dX5_init_67 : decode cX5_init 67 = .ok (.bipush 20, 2) := by decide +kernel
theorem dX5_init_69 : decode cX5_init 69 = .ok (.newarray .int, 2) := by decide +kernel
theorem dX5_init_71 : decode cX5_init 71 = .ok (.putfield 35, 3) := by decide +kernel
theorem dX5_init_74 : decode cX5_init 74 = .ok (.aload_n 0, 1) := by decide +kernel
theorem dX5_init_75 : decode cX5_init 75 = .ok (.iconst 2, 1) := by decide +kernel
theorem dX5_init_76 : decode cX5_init 76 = .ok (.newarray .boolean, 2) := by decide +kernel
theorem dX5_init_78 : decode cX5_init 78 = .ok (.putfield 38, 3) := by decide +kernel
theorem dX5_init_81 : decode cX5_init 81 = .ok (.aload_n 0, 1) := by decide +kernel
theorem dX5_init_82 : decode cX5_init 82 = .ok (.bipush 8, 2) := by decide +kernel
theorem dX5_init_84 : decode cX5_init 84 = .ok (.newarray .int, 2) := by decide +kernel
theorem dX5_init_86 : decode cX5_init 86 = .ok (.putfield 42, 3) := by decide +kernel
theorem dX5_init_89 : decode cX5_init 89 = .ok (.aload_n 0, 1) := by decide +kernel
theorem dX5_init_90 : decode cX5_init 90 = .ok (.bipush 16, 2) := by decide +kernel
theorem dX5_init_92 : decode cX5_init 92 = .ok (.newarray .int, 2) := by decide +kernel
theorem dX5_init_94 : decode cX5_init 94 = .ok (.putfield 45, 3) := by decide +kernel
theorem dX5_init_97 : decode cX5_init 97 = .ok (.aload_n 0, 1) := by decide +kernel
theorem dX5_init_98 : decode cX5_init 98 = .ok (.sipush 256, 3) := by decide +kernel
theorem dX5_init_101 : decode cX5_init 101 = .ok (.newarray .int, 2) := by decide +kernel
theorem dX5_init_103 : decode cX5_init 103 = .ok (.putfield 48, 3) := by decide +kernel
theorem dX5_init_106 : decode cX5_init 106 = .ok (.aload_n 0, 1) := by decide +kernel
theorem dX5_init_107 : decode cX5_init 107 = .ok (.sipush 256, 3) := by decide +kernel
theorem dX5_init_110 : decode cX5_init 110 = .ok (.newarray .boolean, 2) := by decide +kernel
theorem dX5_init_112 : decode cX5_init 112 = .ok (.putfield 51, 3) := by decide +kernel
theorem dX5_init_115 : decode cX5_init 115 = .ok (.aload_n 0, 1) := by decide +kernel
theorem dX5_init_116 : decode cX5_init 116 = .ok (.bipush 9, 2) := by decide +kernel
theorem dX5_init_118 : decode cX5_init 118 = .ok (.newarray .int, 2) := by decide +kernel
theorem dX5_init_120 : decode cX5_init 120 = .ok (.putfield 54, 3) := by decide +kernel
theorem dX5_init_123 : decode cX5_init 123 = .ok (.return_, 1) := by decide +kernel
theorem dX5_in1_0 : decode cX5_in1 0 = .ok (.iload_n 0, 1) := by decide +kernel
theorem dX5_in1_1 : decode cX5_in1 1 = .ok (.iload_n 1, 1) := by decide +kernel
theorem dX5_in1_2 : decode cX5_in1 2 = .ok (.if_icmp .lt 12, 3) := by decide +kernel
theorem dX5_in1_5 : decode cX5_in1 5 = .ok (.iload_n 0, 1) := by decide +kernel
theorem dX5_in1_6 : decode cX5_in1 6 = .ok (.iload_n 2, 1) := by decide +kernel
theorem dX5_in1_7 : decode cX5_in1 7 = .ok (.if_icmp .gt 7, 3) := by decide +kernel
theorem dX5_in1_10 : decode cX5_in1 10 = .ok (.iconst 1, 1) := by decide +kernel
theorem dX5_in1_11 : decode cX5_in1 11 = .ok (.goto 4, 3) := by decide +kernel
theorem dX5_in1_14 : decode cX5_in1 14 = .ok (.iconst 0, 1) := by decide +kernel
theorem dX5_in1_15 : decode cX5_in1 15 = .ok (.ireturn, 1) := by decide +kernel
theorem dX5_has_0 : decode cX5_has 0 = .ok (.iload_n 0, 1) := by decide +kernel
theorem dX5_has_1 : decode cX5_has 1 = .ok (.iload_n 1, 1) := by decide +kernel
theorem dX5_has_2 : decode cX5_has 2 = .ok (.ishr, 1) := by decide +kernel
theorem dX5_has_3 : decode cX5_has 3 = .ok (.iconst 1, 1) := by decide +kernel
theorem dX5_has_4 : decode cX5_has 4 = .ok (.iand, 1) := by decide +kernel
theorem dX5_has_5 : decode cX5_has 5 = .ok (.iconst 1, 1) := by decide +kernel
theorem dX5_has_6 : decode cX5_has 6 = .ok (.if_icmp .ne 7, 3) := by decide +kernel
theorem dX5_has_9 : decode cX5_has 9 = .ok (.iconst 1, 1) := by decide +kernel
theorem dX5_has_10 : decode cX5_has 10 = .ok (.goto 4, 3) := by decide +kernel
theorem dX5_has_13 : decode cX5_has 13 = .ok (.iconst 0, 1) := by decide +kernel
theorem dX5_has_14 : decode cX5_has 14 = .ok (.ireturn, 1) := by decide +kernel
theorem dX5_isStorey_0 : decode cX5_isStorey 0 = .ok (.iload_n 1, 1) := by decide +kernel
theorem dX5_isStorey_1 : decode cX5_isStorey 1 = .ok (.iconst 0, 1) := by decide +kernel
theorem dX5_isStorey_2 : decode cX5_isStorey 2 = .ok (.aload_n 0, 1) := by decide +kernel
theorem dX5_isStorey_3 : decode cX5_isStorey 3 = .ok (.getfield 57, 3) := by decide +kernel
theorem dX5_isStorey_6 : decode cX5_isStorey 6 = .ok (.iconst 1, 1) := by decide +kernel
theorem dX5_isStorey_7 : decode cX5_isStorey 7 = .ok (.isub, 1) := by decide +kernel
theorem dX5_isStorey_8 : decode cX5_isStorey 8 = .ok (.invokestatic 60, 3) := by decide +kernel
theorem dX5_isStorey_11 : decode cX5_isStorey 11 = .ok (.ireturn, 1) := by decide +kernel
theorem dX5_write_0 : decode cX5_write 0 = .ok (.iload_n 3, 1) := by decide +kernel
theorem dX5_write_1 : decode cX5_write 1 = .ok (.iconst 1, 1) := by decide +kernel
theorem dX5_write_2 : decode cX5_write 2 = .ok (.bipush 8, 2) := by decide +kernel
theorem dX5_write_4 : decode cX5_write 4 = .ok (.invokestatic 60, 3) := by decide +kernel
theorem dX5_write_7 : decode cX5_write 7 = .ok (.ifCond .ne 6, 3) := by decide +kernel
theorem dX5_write_10 : decode cX5_write 10 = .ok (.bipush (-3), 2) := by decide +kernel
theorem dX5_write_12 : decode cX5_write 12 = .ok (.ireturn, 1) := by decide +kernel
theorem dX5_write_13 : decode cX5_write 13 = .ok (.aload_n 0, 1) := by decide +kernel
theorem dX5_write_14 : decode cX5_write 14 = .ok (.getfield 64, 3) := by decide +kernel
theorem dX5_write_17 : decode cX5_write 17 = .ok (.iload_n 3, 1) := by decide +kernel
theorem dX5_write_18 : decode cX5_write 18 = .ok (.iadd, 1) := by decide +kernel
theorem dX5_write_19 : decode cX5_write 19 = .ok (.sipush 200, 3) := by decide +kernel
theorem dX5_write_22 : decode cX5_write 22 = .ok (.if_icmp .le 6, 3) := by decide +kernel
theorem dX5_write_25 : decode cX5_write 25 = .ok (.bipush (-5), 2) := by decide +kernel
theorem dX5_write_27 : decode cX5_write 27 = .ok (.ireturn, 1) := by decide +kernel
theorem dX5_write_28 : decode cX5_write 28 = .ok (.iconst 0, 1) := by decide +kernel
theorem dX5_write_29 : decode cX5_write 29 = .ok (.istore 4, 2) := by decide +kernel
theorem dX5_write_31 : decode cX5_write 31 = .ok (.iload 4, 2) := by decide +kernel
theorem dX5_write_33 : decode cX5_write 33 = .ok (.iload_n 3, 1) := by decide +kernel
theorem dX5_write_34 : decode cX5_write 34 = .ok (.if_icmp .ge 33, 3) := by decide +kernel
theorem dX5_write_37 : decode cX5_write 37 = .ok (.aload_n 0, 1) := by decide +kernel
theorem dX5_write_38 : decode cX5_write 38 = .ok (.getfield 26, 3) := by decide +kernel
theorem dX5_write_41 : decode cX5_write 41 = .ok (.aload_n 0, 1) := by decide +kernel
theorem dX5_write_42 : decode cX5_write 42 = .ok (.getfield 64, 3) := by decide +kernel
theorem dX5_write_45 : decode cX5_write 45 = .ok (.iload 4, 2) := by decide +kernel
theorem dX5_write_47 : decode cX5_write 47 = .ok (.iadd, 1) := by decide +kernel
theorem dX5_write_48 : decode cX5_write 48 = .ok (.lload_n 1, 1) := by decide +kernel
theorem dX5_write_49 : decode cX5_write 49 = .ok (.bipush 8, 2) := by decide +kernel
theorem dX5_write_51 : decode cX5_write 51 = .ok (.iload 4, 2) := by decide +kernel
theorem dX5_write_53 : decode cX5_write 53 = .ok (.imul, 1) := by decide +kernel
theorem dX5_write_54 : decode cX5_write 54 = .ok (.lshr, 1) := by decide +kernel
theorem dX5_write_55 : decode cX5_write 55 = .ok (.ldc2_w 67, 3) := by decide +kernel
theorem dX5_write_58 : decode cX5_write 58 = .ok (.land, 1) := by decide +kernel
theorem dX5_write_59 : decode cX5_write 59 = .ok (.l2i, 1) := by decide +kernel
theorem dX5_write_60 : decode cX5_write 60 = .ok (.iastore, 1) := by decide +kernel
theorem dX5_write_61 : decode cX5_write 61 = .ok (.iinc 4 1, 3) := by decide +kernel
theorem dX5_write_64 : decode cX5_write 64 = .ok (.goto (-33), 3) := by decide +kernel
theorem dX5_write_67 : decode cX5_write 67 = .ok (.aload_n 0, 1) := by decide +kernel
theorem dX5_write_68 : decode cX5_write 68 = .ok (.dup, 1) := by decide +kernel
theorem dX5_write_69 : decode cX5_write 69 = .ok (.getfield 64, 3) := by decide +kernel
theorem dX5_write_72 : decode cX5_write 72 = .ok (.iload_n 3, 1) := by decide +kernel
theorem dX5_write_73 : decode cX5_write 73 = .ok (.iadd, 1) := by decide +kernel
theorem dX5_write_74 : decode cX5_write 74 = .ok (.putfield 64, 3) := by decide +kernel
theorem dX5_write_77 : decode cX5_write 77 = .ok (.aload_n 0, 1) := by decide +kernel
theorem dX5_write_78 : decode cX5_write 78 = .ok (.getfield 64, 3) := by decide +kernel
theorem dX5_write_81 : decode cX5_write 81 = .ok (.ireturn, 1) := by decide +kernel
theorem dX5_erase_0 : decode cX5_erase 0 = .ok (.aload_n 0, 1) := by decide +kernel
theorem dX5_erase_1 : decode cX5_erase 1 = .ok (.getfield 64, 3) := by decide +kernel
theorem dX5_erase_4 : decode cX5_erase 4 = .ok (.istore_n 1, 1) := by decide +kernel
theorem dX5_erase_5 : decode cX5_erase 5 = .ok (.aload_n 0, 1) := by decide +kernel
theorem dX5_erase_6 : decode cX5_erase 6 = .ok (.iconst 0, 1) := by decide +kernel
theorem dX5_erase_7 : decode cX5_erase 7 = .ok (.putfield 64, 3) := by decide +kernel
theorem dX5_erase_10 : decode cX5_erase 10 = .ok (.iload_n 1, 1) := by decide +kernel
theorem dX5_erase_11 : decode cX5_erase 11 = .ok (.ireturn, 1) := by decide +kernel
theorem dX5_nextToken_0 : decode cX5_nextToken 0 = .ok (.aload_n 0, 1) := by decide +kernel
theorem dX5_nextToken_1 : decode cX5_nextToken 1 = .ok (.getfield 69, 3) := by decide +kernel
theorem dX5_nextToken_4 : decode cX5_nextToken 4 = .ok (.aload_n 0, 1) := by decide +kernel
theorem dX5_nextToken_5 : decode cX5_nextToken 5 = .ok (.getfield 64, 3) := by decide +kernel
theorem dX5_nextToken_8 : decode cX5_nextToken 8 = .ok (.if_icmp .ge 30, 3) := by decide +kernel
theorem dX5_nextToken_11 : decode cX5_nextToken 11 = .ok (.aload_n 0, 1) := by decide +kernel
theorem dX5_nextToken_12 : decode cX5_nextToken 12 = .ok (.getfield 26, 3) := by decide +kernel
theorem dX5_nextToken_15 : decode cX5_nextToken 15 = .ok (.aload_n 0, 1) := by decide +kernel
theorem dX5_nextToken_16 : decode cX5_nextToken 16 = .ok (.getfield 69, 3) := by decide +kernel
theorem dX5_nextToken_19 : decode cX5_nextToken 19 = .ok (.iaload, 1) := by decide +kernel
theorem dX5_nextToken_20 : decode cX5_nextToken 20 = .ok (.bipush 32, 2) := by decide +kernel
theorem dX5_nextToken_22 : decode cX5_nextToken 22 = .ok (.if_icmp .ne 16, 3) := by decide +kernel
theorem dX5_nextToken_25 : decode cX5_nextToken 25 = .ok (.aload_n 0, 1) := by decide +kernel
theorem dX5_nextToken_26 : decode cX5_nextToken 26 = .ok (.dup, 1) := by decide +kernel
theorem dX5_nextToken_27 : decode cX5_nextToken 27 = .ok (.getfield 69, 3) := by decide +kernel
theorem dX5_nextToken_30 : decode cX5_nextToken 30 = .ok (.iconst 1, 1) := by decide +kernel
theorem dX5_nextToken_31 : decode cX5_nextToken 31 = .ok (.iadd, 1) := by decide +kernel
theorem dX5_nextToken_32 : decode cX5_nextToken 32 = .ok (.putfield 69, 3) := by decide +kernel
theorem dX5_nextToken_35 : decode cX5_nextToken 35 = .ok (.goto (-35), 3) := by decide +kernel
theorem dX5_nextToken_38 : decode cX5_nextToken 38 = .ok (.aload_n 0, 1) := by decide +kernel
theorem dX5_nextToken_39 : decode cX5_nextToken 39 = .ok (.aload_n 0, 1) := by decide +kernel
theorem dX5_nextToken_40 : decode cX5_nextToken 40 = .ok (.getfield 69, 3) := by decide +kernel
theorem dX5_nextToken_43 : decode cX5_nextToken 43 = .ok (.putfield 72, 3) := by decide +kernel
theorem dX5_nextToken_46 : decode cX5_nextToken 46 = .ok (.aload_n 0, 1) := by decide +kernel
theorem dX5_nextToken_47 : decode cX5_nextToken 47 = .ok (.iconst 0, 1) := by decide +kernel
theorem dX5_nextToken_48 : decode cX5_nextToken 48 = .ok (.putfield 75, 3) := by decide +kernel
theorem dX5_nextToken_51 : decode cX5_nextToken 51 = .ok (.aload_n 0, 1) := by decide +kernel
theorem dX5_nextToken_52 : decode cX5_nextToken 52 = .ok (.iconst 0, 1) := by decide +kernel
theorem dX5_nextToken_53 : decode cX5_nextToken 53 = .ok (.putfield 78, 3) := by decide +kernel
theorem dX5_nextToken_56 : decode cX5_nextToken 56 = .ok (.aload_n 0, 1) := by decide +kernel
theorem dX5_nextToken_57 : decode cX5_nextToken 57 = .ok (.getfield 69, 3) := by decide +kernel
theorem dX5_nextToken_60 : decode cX5_nextToken 60 = .ok (.aload_n 0, 1) := by decide +kernel
theorem dX5_nextToken_61 : decode cX5_nextToken 61 = .ok (.getfield 64, 3) := by decide +kernel
theorem dX5_nextToken_64 : decode cX5_nextToken 64 = .ok (.if_icmp .ne 13, 3) := by decide +kernel
theorem dX5_nextToken_67 : decode cX5_nextToken 67 = .ok (.aload_n 0, 1) := by decide +kernel
theorem dX5_nextToken_68 : decode cX5_nextToken 68 = .ok (.ldc2_w 81, 3) := by decide +kernel
theorem dX5_nextToken_71 : decode cX5_nextToken 71 = .ok (.putfield 83, 3) := by decide +kernel
theorem dX5_nextToken_74 : decode cX5_nextToken 74 = .ok (.goto 320, 3) := by decide +kernel
theorem dX5_nextToken_77 : decode cX5_nextToken 77 = .ok (.aload_n 0, 1) := by decide +kernel
theorem dX5_nextToken_78 : decode cX5_nextToken 78 = .ok (.getfield 26, 3) := by decide +kernel
theorem dX5_nextToken_81 : decode cX5_nextToken 81 = .ok (.aload_n 0, 1) := by decide +kernel
theorem dX5_nextToken_82 : decode cX5_nextToken 82 = .ok (.getfield 69, 3) := by decide +kernel
theorem dX5_nextToken_85 : decode cX5_nextToken 85 = .ok (.iaload, 1) := by decide +kernel
theorem dX5_nextToken_86 : decode cX5_nextToken 86 = .ok (.bipush 97, 2) := by decide +kernel
theorem dX5_nextToken_88 : decode cX5_nextToken 88 = .ok (.bipush 122, 2) := by decide +kernel
theorem dX5_nextToken_90 : decode cX5_nextToken 90 = .ok (.invokestatic 60, 3) := by decide +kernel
theorem dX5_nextToken_93 : decode cX5_nextToken 93 = .ok (.ifCond .eq 129, 3) := by decide +kernel
theorem dX5_nextToken_96 : decode cX5_nextToken 96 = .ok (.aload_n 0, 1) := by decide +kernel
theorem dX5_nextToken_97 : decode cX5_nextToken 97 = .ok (.lconst 0, 1) := by decide +kernel
theorem dX5_nextToken_98 : decode cX5_nextToken 98 = .ok (.putfield 83, 3) := by decide +kernel
theorem dX5_nextToken_101 : decode cX5_nextToken 101 = .ok (.aload_n 0, 1) := by decide +kernel
theorem dX5_nextToken_102 : decode cX5_nextToken 102 = .ok (.getfield 69, 3) := by decide +kernel
theorem dX5_nextToken_105 : decode cX5_nextToken 105 = .ok (.aload_n 0, 1) := by decide +kernel
theorem dX5_nextToken_106 : decode cX5_nextToken 106 = .ok (.getfield 64, 3) := by decide +kernel
theorem dX5_nextToken_109 : decode cX5_nextToken 109 = .ok (.if_icmp .ge 82, 3) := by decide +kernel
theorem dX5_nextToken_112 : decode cX5_nextToken 112 = .ok (.aload_n 0, 1) := by decide +kernel
theorem dX5_nextToken_113 : decode cX5_nextToken 113 = .ok (.getfield 26, 3) := by decide +kernel
theorem dX5_nextToken_116 : decode cX5_nextToken 116 = .ok (.aload_n 0, 1) := by decide +kernel
theorem dX5_nextToken_117 : decode cX5_nextToken 117 = .ok (.getfield 69, 3) := by decide +kernel
theorem dX5_nextToken_120 : decode cX5_nextToken 120 = .ok (.iaload, 1) := by decide +kernel
theorem dX5_nextToken_121 : decode cX5_nextToken 121 = .ok (.bipush 97, 2) := by decide +kernel
theorem dX5_nextToken_123 : decode cX5_nextToken 123 = .ok (.bipush 122, 2) := by decide +kernel
theorem dX5_nextToken_125 : decode cX5_nextToken 125 = .ok (.invokestatic 60, 3) := by decide +kernel
theorem dX5_nextToken_128 : decode cX5_nextToken 128 = .ok (.ifCond .eq 63, 3) := by decide +kernel
theorem dX5_nextToken_131 : decode cX5_nextToken 131 = .ok (.aload_n 0, 1) := by decide +kernel
theorem dX5_nextToken_132 : decode cX5_nextToken 132 = .ok (.aload_n 0, 1) := by decide +kernel
theorem dX5_nextToken_133 : decode cX5_nextToken 133 = .ok (.getfield 69, 3) := by decide +kernel
theorem dX5_nextToken_136 : decode cX5_nextToken 136 = .ok (.aload_n 0, 1) := by decide +kernel
theorem dX5_nextToken_137 : decode cX5_nextToken 137 = .ok (.getfield 72, 3) := by decide +kernel
theorem dX5_nextToken_140 : decode cX5_nextToken 140 = .ok (.isub, 1) := by decide +kernel
theorem dX5_nextToken_141 : decode cX5_nextToken 141 = .ok (.bipush 9, 2) := by decide +kernel
theorem dX5_nextToken_143 : decode cX5_nextToken 143 = .ok (.if_icmp .ge 29, 3) := by decide +kernel
theorem dX5_nextToken_146 : decode cX5_nextToken 146 = .ok (.ldc2_w 87, 3) := by decide +kernel
theorem dX5_nextToken_149 : decode cX5_nextToken 149 = .ok (.aload_n 0, 1) := by decide +kernel
theorem dX5_nextToken_150 : decode cX5_nextToken 150 = .ok (.getfield 83, 3) := by decide +kernel
theorem dX5_nextToken_153 : decode cX5_nextToken 153 = .ok (.lmul, 1) := by decide +kernel
theorem dX5_nextToken_154 : decode cX5_nextToken 154 = .ok (.aload_n 0, 1) := by decide +kernel
theorem dX5_nextToken_155 : decode cX5_nextToken 155 = .ok (.getfield 26, 3) := by decide +kernel
theorem dX5_nextToken_158 : decode cX5_nextToken 158 = .ok (.aload_n 0, 1) := by decide +kernel
theorem dX5_nextToken_159 : decode cX5_nextToken 159 = .ok (.getfield 69, 3) := by decide +kernel
theorem dX5_nextToken_162 : decode cX5_nextToken 162 = .ok (.iaload, 1) := by decide +kernel
theorem dX5_nextToken_163 : decode cX5_nextToken 163 = .ok (.i2l, 1) := by decide +kernel
theorem dX5_nextToken_164 : decode cX5_nextToken 164 = .ok (.ladd, 1) := by decide +kernel
theorem dX5_nextToken_165 : decode cX5_nextToken 165 = .ok (.ldc2_w 89, 3) := by decide +kernel
theorem dX5_nextToken_168 : decode cX5_nextToken 168 = .ok (.lsub, 1) := by decide +kernel
theorem dX5_nextToken_169 : decode cX5_nextToken 169 = .ok (.goto 6, 3) := by decide +kernel
theorem dX5_nextToken_172 : decode cX5_nextToken 172 = .ok (.ldc2_w 91, 3) := by decide +kernel
theorem dX5_nextToken_175 : decode cX5_nextToken 175 = .ok (.putfield 83, 3) := by decide +kernel
theorem dX5_nextToken_178 : decode cX5_nextToken 178 = .ok (.aload_n 0, 1) := by decide +kernel
theorem dX5_nextToken_179 : decode cX5_nextToken 179 = .ok (.dup, 1) := by decide +kernel
theorem dX5_nextToken_180 : decode cX5_nextToken 180 = .ok (.getfield 69, 3) := by decide +kernel
theorem dX5_nextToken_183 : decode cX5_nextToken 183 = .ok (.iconst 1, 1) := by decide +kernel
theorem dX5_nextToken_184 : decode cX5_nextToken 184 = .ok (.iadd, 1) := by decide +kernel
theorem dX5_nextToken_185 : decode cX5_nextToken 185 = .ok (.putfield 69, 3) := by decide +kernel
theorem dX5_nextToken_188 : decode cX5_nextToken 188 = .ok (.goto (-87), 3) := by decide +kernel
theorem dX5_nextToken_191 : decode cX5_nextToken 191 = .ok (.aload_n 0, 1) := by decide +kernel
theorem dX5_nextToken_192 : decode cX5_nextToken 192 = .ok (.aload_n 0, 1) := by decide +kernel
theorem dX5_nextToken_193 : decode cX5_nextToken 193 = .ok (.getfield 69, 3) := by decide +kernel
theorem dX5_nextToken_196 : decode cX5_nextToken 196 = .ok (.aload_n 0, 1) := by decide +kernel
theorem dX5_nextToken_197 : decode cX5_nextToken 197 = .ok (.getfield 72, 3) := by decide +kernel
theorem dX5_nextToken_200 : decode cX5_nextToken 200 = .ok (.isub, 1) := by decide +kernel
theorem dX5_nextToken_201 : decode cX5_nextToken 201 = .ok (.bipush 9, 2) := by decide +kernel
theorem dX5_nextToken_203 : decode cX5_nextToken 203 = .ok (.if_icmp .le 9, 3) := by decide +kernel
theorem dX5_nextToken_206 : decode cX5_nextToken 206 = .ok (.ldc2_w 91, 3) := by decide +kernel
theorem dX5_nextToken_209 : decode cX5_nextToken 209 = .ok (.goto 7, 3) := by decide +kernel
theorem dX5_nextToken_212 : decode cX5_nextToken 212 = .ok (.aload_n 0, 1) := by decide +kernel
theorem dX5_nextToken_213 : decode cX5_nextToken 213 = .ok (.getfield 83, 3) := by decide +kernel
theorem dX5_nextToken_216 : decode cX5_nextToken 216 = .ok (.putfield 83, 3) := by decide +kernel
theorem dX5_nextToken_219 : decode cX5_nextToken 219 = .ok (.goto 175, 3) := by decide +kernel
theorem dX5_nextToken_222 : decode cX5_nextToken 222 = .ok (.aload_n 0, 1) := by decide +kernel
theorem dX5_nextToken_223 : decode cX5_nextToken 223 = .ok (.getfield 26, 3) := by decide +kernel
theorem dX5_nextToken_226 : decode cX5_nextToken 226 = .ok (.aload_n 0, 1) := by decide +kernel
theorem dX5_nextToken_227 : decode cX5_nextToken 227 = .ok (.getfield 69, 3) := by decide +kernel
theorem dX5_nextToken_230 : decode cX5_nextToken 230 = .ok (.iaload, 1) := by decide +kernel
theorem dX5_nextToken_231 : decode cX5_nextToken 231 = .ok (.bipush 48, 2) := by decide +kernel
theorem dX5_nextToken_233 : decode cX5_nextToken 233 = .ok (.bipush 57, 2) := by decide +kernel
theorem dX5_nextToken_235 : decode cX5_nextToken 235 = .ok (.invokestatic 60, 3) := by decide +kernel
theorem dX5_nextToken_238 : decode cX5_nextToken 238 = .ok (.ifCond .eq 119, 3) := by decide +kernel
theorem dX5_nextToken_241 : decode cX5_nextToken 241 = .ok (.aload_n 0, 1) := by decide +kernel
theorem dX5_nextToken_242 : decode cX5_nextToken 242 = .ok (.getfield 69, 3) := by decide +kernel
theorem dX5_nextToken_245 : decode cX5_nextToken 245 = .ok (.aload_n 0, 1) := by decide +kernel
theorem dX5_nextToken_246 : decode cX5_nextToken 246 = .ok (.getfield 64, 3) := by decide +kernel
theorem dX5_nextToken_249 : decode cX5_nextToken 249 = .ok (.if_icmp .ge 84, 3) := by decide +kernel
theorem dX5_nextToken_252 : decode cX5_nextToken 252 = .ok (.aload_n 0, 1) := by decide +kernel
theorem dX5_nextToken_253 : decode cX5_nextToken 253 = .ok (.getfield 26, 3) := by decide +kernel
theorem dX5_nextToken_256 : decode cX5_nextToken 256 = .ok (.aload_n 0, 1) := by decide +kernel
theorem dX5_nextToken_257 : decode cX5_nextToken 257 = .ok (.getfield 69, 3) := by decide +kernel
theorem dX5_nextToken_260 : decode cX5_nextToken 260 = .ok (.iaload, 1) := by decide +kernel
theorem dX5_nextToken_261 : decode cX5_nextToken 261 = .ok (.bipush 48, 2) := by decide +kernel
theorem dX5_nextToken_263 : decode cX5_nextToken 263 = .ok (.bipush 57, 2) := by decide +kernel
theorem dX5_nextToken_265 : decode cX5_nextToken 265 = .ok (.invokestatic 60, 3) := by decide +kernel
theorem dX5_nextToken_268 : decode cX5_nextToken 268 = .ok (.ifCond .eq 65, 3) := by decide +kernel
theorem dX5_nextToken_271 : decode cX5_nextToken 271 = .ok (.aload_n 0, 1) := by decide +kernel
theorem dX5_nextToken_272 : decode cX5_nextToken 272 = .ok (.aload_n 0, 1) := by decide +kernel
theorem dX5_nextToken_273 : decode cX5_nextToken 273 = .ok (.getfield 75, 3) := by decide +kernel
theorem dX5_nextToken_276 : decode cX5_nextToken 276 = .ok (.iconst 3, 1) := by decide +kernel
theorem dX5_nextToken_277 : decode cX5_nextToken 277 = .ok (.if_icmp .ge 26, 3) := by decide +kernel
theorem dX5_nextToken_280 : decode cX5_nextToken 280 = .ok (.bipush 10, 2) := by decide +kernel
theorem dX5_nextToken_282 : decode cX5_nextToken 282 = .ok (.aload_n 0, 1) := by decide +kernel
theorem dX5_nextToken_283 : decode cX5_nextToken 283 = .ok (.getfield 78, 3) := by decide +kernel
theorem dX5_nextToken_286 : decode cX5_nextToken 286 = .ok (.imul, 1) := by decide +kernel
theorem dX5_nextToken_287 : decode cX5_nextToken 287 = .ok (.aload_n 0, 1) := by decide +kernel
theorem dX5_nextToken_288 : decode cX5_nextToken 288 = .ok (.getfield 26, 3) := by decide +kernel
theorem dX5_nextToken_291 : decode cX5_nextToken 291 = .ok (.aload_n 0, 1) := by decide +kernel
theorem dX5_nextToken_292 : decode cX5_nextToken 292 = .ok (.getfield 69, 3) := by decide +kernel
theorem dX5_nextToken_295 : decode cX5_nextToken 295 = .ok (.iaload, 1) := by decide +kernel
theorem dX5_nextToken_296 : decode cX5_nextToken 296 = .ok (.iadd, 1) := by decide +kernel
theorem dX5_nextToken_297 : decode cX5_nextToken 297 = .ok (.bipush 48, 2) := by decide +kernel
theorem dX5_nextToken_299 : decode cX5_nextToken 299 = .ok (.isub, 1) := by decide +kernel
theorem dX5_nextToken_300 : decode cX5_nextToken 300 = .ok (.goto 7, 3) := by decide +kernel
theorem dX5_nextToken_303 : decode cX5_nextToken 303 = .ok (.aload_n 0, 1) := by decide +kernel
theorem dX5_nextToken_304 : decode cX5_nextToken 304 = .ok (.getfield 78, 3) := by decide +kernel
theorem dX5_nextToken_307 : decode cX5_nextToken 307 = .ok (.putfield 78, 3) := by decide +kernel
theorem dX5_nextToken_310 : decode cX5_nextToken 310 = .ok (.aload_n 0, 1) := by decide +kernel
theorem dX5_nextToken_311 : decode cX5_nextToken 311 = .ok (.dup, 1) := by decide +kernel
theorem dX5_nextToken_312 : decode cX5_nextToken 312 = .ok (.getfield 75, 3) := by decide +kernel
theorem dX5_nextToken_315 : decode cX5_nextToken 315 = .ok (.iconst 1, 1) := by decide +kernel
theorem dX5_nextToken_316 : decode cX5_nextToken 316 = .ok (.iadd, 1) := by decide +kernel
theorem dX5_nextToken_317 : decode cX5_nextToken 317 = .ok (.putfield 75, 3) := by decide +kernel
theorem dX5_nextToken_320 : decode cX5_nextToken 320 = .ok (.aload_n 0, 1) := by decide +kernel
theorem dX5_nextToken_321 : decode cX5_nextToken 321 = .ok (.dup, 1) := by decide +kernel
theorem dX5_nextToken_322 : decode cX5_nextToken 322 = .ok (.getfield 69, 3) := by decide +kernel
theorem dX5_nextToken_325 : decode cX5_nextToken 325 = .ok (.iconst 1, 1) := by decide +kernel
theorem dX5_nextToken_326 : decode cX5_nextToken 326 = .ok (.iadd, 1) := by decide +kernel
theorem dX5_nextToken_327 : decode cX5_nextToken 327 = .ok (.putfield 69, 3) := by decide +kernel
theorem dX5_nextToken_330 : decode cX5_nextToken 330 = .ok (.goto (-89), 3) := by decide +kernel
theorem dX5_nextToken_333 : decode cX5_nextToken 333 = .ok (.aload_n 0, 1) := by decide +kernel
theorem dX5_nextToken_334 : decode cX5_nextToken 334 = .ok (.aload_n 0, 1) := by decide +kernel
theorem dX5_nextToken_335 : decode cX5_nextToken 335 = .ok (.getfield 75, 3) := by decide +kernel
theorem dX5_nextToken_338 : decode cX5_nextToken 338 = .ok (.iconst 3, 1) := by decide +kernel
theorem dX5_nextToken_339 : decode cX5_nextToken 339 = .ok (.if_icmp .le 9, 3) := by decide +kernel
theorem dX5_nextToken_342 : decode cX5_nextToken 342 = .ok (.ldc2_w 91, 3) := by decide +kernel
theorem dX5_nextToken_345 : decode cX5_nextToken 345 = .ok (.goto 6, 3) := by decide +kernel
theorem dX5_nextToken_348 : decode cX5_nextToken 348 = .ok (.ldc2_w 93, 3) := by decide +kernel
theorem dX5_nextToken_351 : decode cX5_nextToken 351 = .ok (.putfield 83, 3) := by decide +kernel
theorem dX5_nextToken_354 : decode cX5_nextToken 354 = .ok (.goto 40, 3) := by decide +kernel
theorem dX5_nextToken_357 : decode cX5_nextToken 357 = .ok (.aload_n 0, 1) := by decide +kernel
theorem dX5_nextToken_358 : decode cX5_nextToken 358 = .ok (.aload_n 0, 1) := by decide +kernel
theorem dX5_nextToken_359 : decode cX5_nextToken 359 = .ok (.getfield 26, 3) := by decide +kernel
theorem dX5_nextToken_362 : decode cX5_nextToken 362 = .ok (.aload_n 0, 1) := by decide +kernel
theorem dX5_nextToken_363 : decode cX5_nextToken 363 = .ok (.getfield 69, 3) := by decide +kernel
theorem dX5_nextToken_366 : decode cX5_nextToken 366 = .ok (.iaload, 1) := by decide +kernel
theorem dX5_nextToken_367 : decode cX5_nextToken 367 = .ok (.bipush 59, 2) := by decide +kernel
theorem dX5_nextToken_369 : decode cX5_nextToken 369 = .ok (.if_icmp .ne 9, 3) := by decide +kernel
theorem dX5_nextToken_372 : decode cX5_nextToken 372 = .ok (.ldc2_w 95, 3) := by decide +kernel
theorem dX5_nextToken_375 : decode cX5_nextToken 375 = .ok (.goto 6, 3) := by decide +kernel
theorem dX5_nextToken_378 : decode cX5_nextToken 378 = .ok (.ldc2_w 91, 3) := by decide +kernel
theorem dX5_nextToken_381 : decode cX5_nextToken 381 = .ok (.putfield 83, 3) := by decide +kernel
theorem dX5_nextToken_384 : decode cX5_nextToken 384 = .ok (.aload_n 0, 1) := by decide +kernel
theorem dX5_nextToken_385 : decode cX5_nextToken 385 = .ok (.dup, 1) := by decide +kernel
theorem dX5_nextToken_386 : decode cX5_nextToken 386 = .ok (.getfield 69, 3) := by decide +kernel
theorem dX5_nextToken_389 : decode cX5_nextToken 389 = .ok (.iconst 1, 1) := by decide +kernel
theorem dX5_nextToken_390 : decode cX5_nextToken 390 = .ok (.iadd, 1) := by decide +kernel
theorem dX5_nextToken_391 : decode cX5_nextToken 391 = .ok (.putfield 69, 3) := by decide +kernel
theorem dX5_nextToken_394 : decode cX5_nextToken 394 = .ok (.return_, 1) := by decide +kernel
theorem dX5_fails_0 : decode cX5_fails 0 = .ok (.aload_n 0, 1) := by decide +kernel
theorem dX5_fails_1 : decode cX5_fails 1 = .ok (.aload_n 0, 1) := by decide +kernel
theorem dX5_fails_2 : decode cX5_fails 2 = .ok (.getfield 72, 3) := by decide +kernel
theorem dX5_fails_5 : decode cX5_fails 5 = .ok (.putfield 97, 3) := by decide +kernel
theorem dX5_fails_8 : decode cX5_fails 8 = .ok (.iconst 0, 1) := by decide +kernel
theorem dX5_fails_9 : decode cX5_fails 9 = .ok (.ireturn, 1) := by decide +kernel
theorem dX5_isNumber_0 : decode cX5_isNumber 0 = .ok (.aload_n 0, 1) := by decide +kernel
theorem dX5_isNumber_1 : decode cX5_isNumber 1 = .ok (.invokevirtual 100, 3) := by decide +kernel
theorem dX5_isNumber_4 : decode cX5_isNumber 4 = .ok (.aload_n 0, 1) := by decide +kernel
theorem dX5_isNumber_5 : decode cX5_isNumber 5 = .ok (.getfield 83, 3) := by decide +kernel
theorem dX5_isNumber_8 : decode cX5_isNumber 8 = .ok (.ldc2_w 93, 3) := by decide +kernel
theorem dX5_isNumber_11 : decode cX5_isNumber 11 = .ok (.lcmp, 1) := by decide +kernel
theorem dX5_isNumber_12 : decode cX5_isNumber 12 = .ok (.ifCond .ne 15, 3) := by decide +kernel
theorem dX5_isNumber_15 : decode cX5_isNumber 15 = .ok (.aload_n 0, 1) := by decide +kernel
theorem dX5_isNumber_16 : decode cX5_isNumber 16 = .ok (.getfield 78, 3) := by decide +kernel
theorem dX5_isNumber_19 : decode cX5_isNumber 19 = .ok (.iload_n 2, 1) := by decide +kernel
theorem dX5_isNumber_20 : decode cX5_isNumber 20 = .ok (.iload_n 3, 1) := by decide +kernel
theorem dX5_isNumber_21 : decode cX5_isNumber 21 = .ok (.invokestatic 60, 3) := by decide +kernel
theorem dX5_isNumber_24 : decode cX5_isNumber 24 = .ok (.ifCond .ne 8, 3) := by decide +kernel
theorem dX5_isNumber_27 : decode cX5_isNumber 27 = .ok (.aload_n 0, 1) := by decide +kernel
theorem dX5_isNumber_28 : decode cX5_isNumber 28 = .ok (.invokevirtual 103, 3) := by decide +kernel
theorem dX5_isNumber_31 : decode cX5_isNumber 31 = .ok (.ireturn, 1) := by decide +kernel
theorem dX5_isNumber_32 : decode cX5_isNumber 32 = .ok (.aload_n 0, 1) := by decide +kernel
theorem dX5_isNumber_33 : decode cX5_isNumber 33 = .ok (.getfield 29, 3) := by decide +kernel
theorem dX5_isNumber_36 : decode cX5_isNumber 36 = .ok (.iload_n 1, 1) := by decide +kernel
theorem dX5_isNumber_37 : decode cX5_isNumber 37 = .ok (.aload_n 0, 1) := by decide +kernel
theorem dX5_isNumber_38 : decode cX5_isNumber 38 = .ok (.getfield 78, 3) := by decide +kernel
theorem dX5_isNumber_41 : decode cX5_isNumber 41 = .ok (.iastore, 1) := by decide +kernel
theorem dX5_isNumber_42 : decode cX5_isNumber 42 = .ok (.iconst 1, 1) := by decide +kernel
theorem dX5_isNumber_43 : decode cX5_isNumber 43 = .ok (.ireturn, 1) := by decide +kernel
theorem dX5_isThere_0 : decode cX5_isThere 0 = .ok (.aload_n 0, 1) := by decide +kernel
theorem dX5_isThere_1 : decode cX5_isThere 1 = .ok (.iload_n 1, 1) := by decide +kernel
theorem dX5_isThere_2 : decode cX5_isThere 2 = .ok (.iconst 0, 1) := by decide +kernel
theorem dX5_isThere_3 : decode cX5_isThere 3 = .ok (.aload_n 0, 1) := by decide +kernel
theorem dX5_isThere_4 : decode cX5_isThere 4 = .ok (.getfield 107, 3) := by decide +kernel
theorem dX5_isThere_7 : decode cX5_isThere 7 = .ok (.iconst 1, 1) := by decide +kernel
theorem dX5_isThere_8 : decode cX5_isThere 8 = .ok (.isub, 1) := by decide +kernel
theorem dX5_isThere_9 : decode cX5_isThere 9 = .ok (.invokevirtual 110, 3) := by decide +kernel
theorem dX5_isThere_12 : decode cX5_isThere 12 = .ok (.ireturn, 1) := by decide +kernel
theorem dX5_isStoreyLine_0 : decode cX5_isStoreyLine 0 = .ok (.aload_n 0, 1) := by decide +kernel
theorem dX5_isStoreyLine_1 : decode cX5_isStoreyLine 1 = .ok (.getfield 107, 3) := by decide +kernel
theorem dX5_isStoreyLine_4 : decode cX5_isStoreyLine 4 = .ok (.bipush 8, 2) := by decide +kernel
theorem dX5_isStoreyLine_6 : decode cX5_isStoreyLine 6 = .ok (.if_icmp .ne 8, 3) := by decide +kernel
theorem dX5_isStoreyLine_9 : decode cX5_isStoreyLine 9 = .ok (.aload_n 0, 1) := by decide +kernel
theorem dX5_isStoreyLine_10 : decode cX5_isStoreyLine 10 = .ok (.invokevirtual 103, 3) := by decide +kernel
theorem dX5_isStoreyLine_13 : decode cX5_isStoreyLine 13 = .ok (.ireturn, 1) := by decide +kernel
theorem dX5_isStoreyLine_14 : decode cX5_isStoreyLine 14 = .ok (.aload_n 0, 1) := by decide +kernel
theorem dX5_isStoreyLine_15 : decode cX5_isStoreyLine 15 = .ok (.dup, 1) := by decide +kernel
theorem dX5_isStoreyLine_16 : decode cX5_isStoreyLine 16 = .ok (.getfield 107, 3) := by decide +kernel
theorem dX5_isStoreyLine_19 : decode cX5_isStoreyLine 19 = .ok (.iconst 1, 1) := by decide +kernel
theorem dX5_isStoreyLine_20 : decode cX5_isStoreyLine 20 = .ok (.iadd, 1) := by decide +kernel
theorem dX5_isStoreyLine_21 : decode cX5_isStoreyLine 21 = .ok (.putfield 107, 3) := by decide +kernel
theorem dX5_isStoreyLine_24 : decode cX5_isStoreyLine 24 = .ok (.aload_n 0, 1) := by decide +kernel
theorem dX5_isStoreyLine_25 : decode cX5_isStoreyLine 25 = .ok (.iload_n 1, 1) := by decide +kernel
theorem dX5_isStoreyLine_26 : decode cX5_isStoreyLine 26 = .ok (.iconst 1, 1) := by decide +kernel
theorem dX5_isStoreyLine_27 : decode cX5_isStoreyLine 27 = .ok (.iadd, 1) := by decide +kernel
theorem dX5_isStoreyLine_28 : decode cX5_isStoreyLine 28 = .ok (.iconst 1, 1) := by decide +kernel
theorem dX5_isStoreyLine_29 : decode cX5_isStoreyLine 29 = .ok (.bipush 99, 2) := by decide +kernel
theorem dX5_isStoreyLine_31 : decode cX5_isStoreyLine 31 = .ok (.invokevirtual 110, 3) := by decide +kernel
theorem dX5_isStoreyLine_34 : decode cX5_isStoreyLine 34 = .ok (.ifCond .eq 34, 3) := by decide +kernel
theorem dX5_isStoreyLine_37 : decode cX5_isStoreyLine 37 = .ok (.aload_n 0, 1) := by decide +kernel
theorem dX5_isStoreyLine_38 : decode cX5_isStoreyLine 38 = .ok (.iload_n 1, 1) := by decide +kernel
theorem dX5_isStoreyLine_39 : decode cX5_isStoreyLine 39 = .ok (.iconst 2, 1) := by decide +kernel
theorem dX5_isStoreyLine_40 : decode cX5_isStoreyLine 40 = .ok (.iadd, 1) := by decide +kernel
theorem dX5_isStoreyLine_41 : decode cX5_isStoreyLine 41 = .ok (.iconst 0, 1) := by decide +kernel
theorem dX5_isStoreyLine_42 : decode cX5_isStoreyLine 42 = .ok (.sipush 999, 3) := by decide +kernel
theorem dX5_isStoreyLine_45 : decode cX5_isStoreyLine 45 = .ok (.invokevirtual 110, 3) := by decide +kernel
theorem dX5_isStoreyLine_48 : decode cX5_isStoreyLine 48 = .ok (.ifCond .eq 20, 3) := by decide +kernel
theorem dX5_isStoreyLine_51 : decode cX5_isStoreyLine 51 = .ok (.aload_n 0, 1) := by decide +kernel
theorem dX5_isStoreyLine_52 : decode cX5_isStoreyLine 52 = .ok (.iload_n 1, 1) := by decide +kernel
theorem dX5_isStoreyLine_53 : decode cX5_isStoreyLine 53 = .ok (.iconst 3, 1) := by decide +kernel
theorem dX5_isStoreyLine_54 : decode cX5_isStoreyLine 54 = .ok (.iadd, 1) := by decide +kernel
theorem dX5_isStoreyLine_55 : decode cX5_isStoreyLine 55 = .ok (.iconst 1, 1) := by decide +kernel
theorem dX5_isStoreyLine_56 : decode cX5_isStoreyLine 56 = .ok (.bipush 9, 2) := by decide +kernel
theorem dX5_isStoreyLine_58 : decode cX5_isStoreyLine 58 = .ok (.invokevirtual 110, 3) := by decide +kernel
theorem dX5_isStoreyLine_61 : decode cX5_isStoreyLine 61 = .ok (.ifCond .eq 7, 3) := by decide +kernel
theorem dX5_isStoreyLine_64 : decode cX5_isStoreyLine 64 = .ok (.iconst 1, 1) := by decide +kernel
theorem dX5_isStoreyLine_65 : decode cX5_isStoreyLine 65 = .ok (.goto 4, 3) := by decide +kernel
theorem dX5_isStoreyLine_68 : decode cX5_isStoreyLine 68 = .ok (.iconst 0, 1) := by decide +kernel
theorem dX5_isStoreyLine_69 : decode cX5_isStoreyLine 69 = .ok (.ireturn, 1) := by decide +kernel
theorem dX5_isPair_0 : decode cX5_isPair 0 = .ok (.aload_n 0, 1) := by decide +kernel
theorem dX5_isPair_1 : decode cX5_isPair 1 = .ok (.getfield 113, 3) := by decide +kernel
theorem dX5_isPair_4 : decode cX5_isPair 4 = .ok (.bipush 8, 2) := by decide +kernel
theorem dX5_isPair_6 : decode cX5_isPair 6 = .ok (.if_icmp .ne 8, 3) := by decide +kernel
theorem dX5_isPair_9 : decode cX5_isPair 9 = .ok (.aload_n 0, 1) := by decide +kernel
theorem dX5_isPair_10 : decode cX5_isPair 10 = .ok (.invokevirtual 103, 3) := by decide +kernel
theorem dX5_isPair_13 : decode cX5_isPair 13 = .ok (.ireturn, 1) := by decide +kernel
theorem dX5_isPair_14 : decode cX5_isPair 14 = .ok (.aload_n 0, 1) := by decide +kernel
theorem dX5_isPair_15 : decode cX5_isPair 15 = .ok (.dup, 1) := by decide +kernel
theorem dX5_isPair_16 : decode cX5_isPair 16 = .ok (.getfield 113, 3) := by decide +kernel
theorem dX5_isPair_19 : decode cX5_isPair 19 = .ok (.iconst 1, 1) := by decide +kernel
theorem dX5_isPair_20 : decode cX5_isPair 20 = .ok (.iadd, 1) := by decide +kernel
theorem dX5_isPair_21 : decode cX5_isPair 21 = .ok (.putfield 113, 3) := by decide +kernel
theorem dX5_isPair_24 : decode cX5_isPair 24 = .ok (.aload_n 0, 1) := by decide +kernel
theorem dX5_isPair_25 : decode cX5_isPair 25 = .ok (.iload_n 1, 1) := by decide +kernel
theorem dX5_isPair_26 : decode cX5_isPair 26 = .ok (.iconst 1, 1) := by decide +kernel
theorem dX5_isPair_27 : decode cX5_isPair 27 = .ok (.iadd, 1) := by decide +kernel
theorem dX5_isPair_28 : decode cX5_isPair 28 = .ok (.invokevirtual 116, 3) := by decide +kernel
theorem dX5_isPair_31 : decode cX5_isPair 31 = .ok (.ifCond .eq 13, 3) := by decide +kernel
theorem dX5_isPair_34 : decode cX5_isPair 34 = .ok (.aload_n 0, 1) := by decide +kernel
theorem dX5_isPair_35 : decode cX5_isPair 35 = .ok (.iload_n 1, 1) := by decide +kernel
theorem dX5_isPair_36 : decode cX5_isPair 36 = .ok (.iconst 2, 1) := by decide +kernel
theorem dX5_isPair_37 : decode cX5_isPair 37 = .ok (.iadd, 1) := by decide +kernel
theorem dX5_isPair_38 : decode cX5_isPair 38 = .ok (.invokevirtual 116, 3) := by decide +kernel
theorem dX5_isPair_41 : decode cX5_isPair 41 = .ok (.ifCond .ne 5, 3) := by decide +kernel
theorem dX5_isPair_44 : decode cX5_isPair 44 = .ok (.iconst 0, 1) := by decide +kernel
theorem dX5_isPair_45 : decode cX5_isPair 45 = .ok (.ireturn, 1) := by decide +kernel
theorem dX5_isPair_46 : decode cX5_isPair 46 = .ok (.aload_n 0, 1) := by decide +kernel
theorem dX5_isPair_47 : decode cX5_isPair 47 = .ok (.getfield 29, 3) := by decide +kernel
theorem dX5_isPair_50 : decode cX5_isPair 50 = .ok (.iload_n 1, 1) := by decide +kernel
theorem dX5_isPair_51 : decode cX5_isPair 51 = .ok (.iconst 1, 1) := by decide +kernel
theorem dX5_isPair_52 : decode cX5_isPair 52 = .ok (.iadd, 1) := by decide +kernel
theorem dX5_isPair_53 : decode cX5_isPair 53 = .ok (.iaload, 1) := by decide +kernel
theorem dX5_isPair_54 : decode cX5_isPair 54 = .ok (.aload_n 0, 1) := by decide +kernel
theorem dX5_isPair_55 : decode cX5_isPair 55 = .ok (.getfield 29, 3) := by decide +kernel
theorem dX5_isPair_58 : decode cX5_isPair 58 = .ok (.iload_n 1, 1) := by decide +kernel
theorem dX5_isPair_59 : decode cX5_isPair 59 = .ok (.iconst 2, 1) := by decide +kernel
theorem dX5_isPair_60 : decode cX5_isPair 60 = .ok (.iadd, 1) := by decide +kernel
theorem dX5_isPair_61 : decode cX5_isPair 61 = .ok (.iaload, 1) := by decide +kernel
theorem dX5_isPair_62 : decode cX5_isPair 62 = .ok (.if_icmp .ne 10, 3) := by decide +kernel
theorem dX5_isPair_65 : decode cX5_isPair 65 = .ok (.aload_n 0, 1) := by decide +kernel
theorem dX5_isPair_66 : decode cX5_isPair 66 = .ok (.invokevirtual 103, 3) := by decide +kernel
theorem dX5_isPair_69 : decode cX5_isPair 69 = .ok (.ifCond .eq 7, 3) := by decide +kernel
theorem dX5_isPair_72 : decode cX5_isPair 72 = .ok (.iconst 1, 1) := by decide +kernel
theorem dX5_isPair_73 : decode cX5_isPair 73 = .ok (.goto 4, 3) := by decide +kernel
theorem dX5_isPair_76 : decode cX5_isPair 76 = .ok (.iconst 0, 1) := by decide +kernel
theorem dX5_isPair_77 : decode cX5_isPair 77 = .ok (.ireturn, 1) := by decide +kernel
theorem dX5_isLine_0 : decode cX5_isLine 0 = .ok (.aload_n 0, 1) := by decide +kernel
theorem dX5_isLine_1 : decode cX5_isLine 1 = .ok (.invokevirtual 100, 3) := by decide +kernel
theorem dX5_isLine_4 : decode cX5_isLine 4 = .ok (.aload_n 0, 1) := by decide +kernel
theorem dX5_isLine_5 : decode cX5_isLine 5 = .ok (.getfield 83, 3) := by decide +kernel
theorem dX5_isLine_8 : decode cX5_isLine 8 = .ok (.ldc2_w 120, 3) := by decide +kernel
theorem dX5_isLine_11 : decode cX5_isLine 11 = .ok (.lcmp, 1) := by decide +kernel
theorem dX5_isLine_12 : decode cX5_isLine 12 = .ok (.ifCond .ne 7, 3) := by decide +kernel
theorem dX5_isLine_15 : decode cX5_isLine 15 = .ok (.iconst 0, 1) := by decide +kernel
theorem dX5_isLine_16 : decode cX5_isLine 16 = .ok (.goto 64, 3) := by decide +kernel
theorem dX5_isLine_19 : decode cX5_isLine 19 = .ok (.aload_n 0, 1) := by decide +kernel
theorem dX5_isLine_20 : decode cX5_isLine 20 = .ok (.getfield 83, 3) := by decide +kernel
theorem dX5_isLine_23 : decode cX5_isLine 23 = .ok (.ldc2_w 122, 3) := by decide +kernel
theorem dX5_isLine_26 : decode cX5_isLine 26 = .ok (.lcmp, 1) := by decide +kernel
theorem dX5_isLine_27 : decode cX5_isLine 27 = .ok (.ifCond .ne 7, 3) := by decide +kernel
theorem dX5_isLine_30 : decode cX5_isLine 30 = .ok (.iconst 1, 1) := by decide +kernel
theorem dX5_isLine_31 : decode cX5_isLine 31 = .ok (.goto 49, 3) := by decide +kernel
theorem dX5_isLine_34 : decode cX5_isLine 34 = .ok (.aload_n 0, 1) := by decide +kernel
theorem dX5_isLine_35 : decode cX5_isLine 35 = .ok (.getfield 83, 3) := by decide +kernel
theorem dX5_isLine_38 : decode cX5_isLine 38 = .ok (.ldc2_w 124, 3) := by decide +kernel
theorem dX5_isLine_41 : decode cX5_isLine 41 = .ok (.lcmp, 1) := by decide +kernel
theorem dX5_isLine_42 : decode cX5_isLine 42 = .ok (.ifCond .ne 7, 3) := by decide +kernel
theorem dX5_isLine_45 : decode cX5_isLine 45 = .ok (.iconst 2, 1) := by decide +kernel
theorem dX5_isLine_46 : decode cX5_isLine 46 = .ok (.goto 34, 3) := by decide +kernel
theorem dX5_isLine_49 : decode cX5_isLine 49 = .ok (.aload_n 0, 1) := by decide +kernel
theorem dX5_isLine_50 : decode cX5_isLine 50 = .ok (.getfield 83, 3) := by decide +kernel
theorem dX5_isLine_53 : decode cX5_isLine 53 = .ok (.ldc2_w 126, 3) := by decide +kernel
theorem dX5_isLine_56 : decode cX5_isLine 56 = .ok (.lcmp, 1) := by decide +kernel
theorem dX5_isLine_57 : decode cX5_isLine 57 = .ok (.ifCond .ne 7, 3) := by decide +kernel
theorem dX5_isLine_60 : decode cX5_isLine 60 = .ok (.iconst 3, 1) := by decide +kernel
theorem dX5_isLine_61 : decode cX5_isLine 61 = .ok (.goto 19, 3) := by decide +kernel
theorem dX5_isLine_64 : decode cX5_isLine 64 = .ok (.aload_n 0, 1) := by decide +kernel
theorem dX5_isLine_65 : decode cX5_isLine 65 = .ok (.getfield 83, 3) := by decide +kernel
theorem dX5_isLine_68 : decode cX5_isLine 68 = .ok (.ldc2_w 128, 3) := by decide +kernel
theorem dX5_isLine_71 : decode cX5_isLine 71 = .ok (.lcmp, 1) := by decide +kernel
theorem dX5_isLine_72 : decode cX5_isLine 72 = .ok (.ifCond .ne 7, 3) := by decide +kernel
theorem dX5_isLine_75 : decode cX5_isLine 75 = .ok (.iconst 4, 1) := by decide +kernel
theorem dX5_isLine_76 : decode cX5_isLine 76 = .ok (.goto 4, 3) := by decide +kernel
theorem dX5_isLine_79 : decode cX5_isLine 79 = .ok (.iconst (-1), 1) := by decide +kernel
theorem dX5_isLine_80 : decode cX5_isLine 80 = .ok (.istore_n 2, 1) := by decide +kernel
theorem dX5_isLine_81 : decode cX5_isLine 81 = .ok (.aload_n 0, 1) := by decide +kernel
theorem dX5_isLine_82 : decode cX5_isLine 82 = .ok (.getfield 83, 3) := by decide +kernel
theorem dX5_isLine_85 : decode cX5_isLine 85 = .ok (.ldc2_w 130, 3) := by decide +kernel
theorem dX5_isLine_88 : decode cX5_isLine 88 = .ok (.lcmp, 1) := by decide +kernel
theorem dX5_isLine_89 : decode cX5_isLine 89 = .ok (.ifCond .ne 7, 3) := by decide +kernel
theorem dX5_isLine_92 : decode cX5_isLine 92 = .ok (.iconst 5, 1) := by decide +kernel
theorem dX5_isLine_93 : decode cX5_isLine 93 = .ok (.goto 68, 3) := by decide +kernel
theorem dX5_isLine_96 : decode cX5_isLine 96 = .ok (.aload_n 0, 1) := by decide +kernel
theorem dX5_isLine_97 : decode cX5_isLine 97 = .ok (.getfield 83, 3) := by decide +kernel
theorem dX5_isLine_100 : decode cX5_isLine 100 = .ok (.ldc2_w 132, 3) := by decide +kernel
theorem dX5_isLine_103 : decode cX5_isLine 103 = .ok (.lcmp, 1) := by decide +kernel
theorem dX5_isLine_104 : decode cX5_isLine 104 = .ok (.ifCond .ne 8, 3) := by decide +kernel
theorem dX5_isLine_107 : decode cX5_isLine 107 = .ok (.bipush 6, 2) := by decide +kernel
theorem dX5_isLine_109 : decode cX5_isLine 109 = .ok (.goto 52, 3) := by decide +kernel
theorem dX5_isLine_112 : decode cX5_isLine 112 = .ok (.aload_n 0, 1) := by decide +kernel
theorem dX5_isLine_113 : decode cX5_isLine 113 = .ok (.getfield 83, 3) := by decide +kernel
theorem dX5_isLine_116 : decode cX5_isLine 116 = .ok (.ldc2_w 134, 3) := by decide +kernel
theorem dX5_isLine_119 : decode cX5_isLine 119 = .ok (.lcmp, 1) := by decide +kernel
theorem dX5_isLine_120 : decode cX5_isLine 120 = .ok (.ifCond .ne 8, 3) := by decide +kernel
theorem dX5_isLine_123 : decode cX5_isLine 123 = .ok (.bipush 7, 2) := by decide +kernel
theorem dX5_isLine_125 : decode cX5_isLine 125 = .ok (.goto 36, 3) := by decide +kernel
theorem dX5_isLine_128 : decode cX5_isLine 128 = .ok (.aload_n 0, 1) := by decide +kernel
theorem dX5_isLine_129 : decode cX5_isLine 129 = .ok (.getfield 83, 3) := by decide +kernel
theorem dX5_isLine_132 : decode cX5_isLine 132 = .ok (.ldc2_w 136, 3) := by decide +kernel
theorem dX5_isLine_135 : decode cX5_isLine 135 = .ok (.lcmp, 1) := by decide +kernel
theorem dX5_isLine_136 : decode cX5_isLine 136 = .ok (.ifCond .ne 8, 3) := by decide +kernel
theorem dX5_isLine_139 : decode cX5_isLine 139 = .ok (.bipush 8, 2) := by decide +kernel
theorem dX5_isLine_141 : decode cX5_isLine 141 = .ok (.goto 20, 3) := by decide +kernel
theorem dX5_isLine_144 : decode cX5_isLine 144 = .ok (.aload_n 0, 1) := by decide +kernel
theorem dX5_isLine_145 : decode cX5_isLine 145 = .ok (.getfield 83, 3) := by decide +kernel
theorem dX5_isLine_148 : decode cX5_isLine 148 = .ok (.ldc2_w 138, 3) := by decide +kernel
theorem dX5_isLine_151 : decode cX5_isLine 151 = .ok (.lcmp, 1) := by decide +kernel
theorem dX5_isLine_152 : decode cX5_isLine 152 = .ok (.ifCond .ne 8, 3) := by decide +kernel
theorem dX5_isLine_155 : decode cX5_isLine 155 = .ok (.bipush 9, 2) := by decide +kernel
theorem dX5_isLine_157 : decode cX5_isLine 157 = .ok (.goto 4, 3) := by decide +kernel
theorem dX5_isLine_160 : decode cX5_isLine 160 = .ok (.iconst (-1), 1) := by decide +kernel
theorem dX5_isLine_161 : decode cX5_isLine 161 = .ok (.istore_n 3, 1) := by decide +kernel
theorem dX5_isLine_162 : decode cX5_isLine 162 = .ok (.aload_n 0, 1) := by decide +kernel
theorem dX5_isLine_163 : decode cX5_isLine 163 = .ok (.getfield 29, 3) := by decide +kernel
theorem dX5_isLine_166 : decode cX5_isLine 166 = .ok (.iload_n 1, 1) := by decide +kernel
theorem dX5_isLine_167 : decode cX5_isLine 167 = .ok (.iload_n 2, 1) := by decide +kernel
theorem dX5_isLine_168 : decode cX5_isLine 168 = .ok (.iconst (-1), 1) := by decide +kernel
theorem dX5_isLine_169 : decode cX5_isLine 169 = .ok (.if_icmp .ne 7, 3) := by decide +kernel
theorem dX5_isLine_172 : decode cX5_isLine 172 = .ok (.iload_n 3, 1) := by decide +kernel
theorem dX5_isLine_173 : decode cX5_isLine 173 = .ok (.goto 4, 3) := by decide +kernel
theorem dX5_isLine_176 : decode cX5_isLine 176 = .ok (.iload_n 2, 1) := by decide +kernel
theorem dX5_isLine_177 : decode cX5_isLine 177 = .ok (.iastore, 1) := by decide +kernel
theorem dX5_isLine_178 : decode cX5_isLine 178 = .ok (.aload_n 0, 1) := by decide +kernel
theorem dX5_isLine_179 : decode cX5_isLine 179 = .ok (.getfield 29, 3) := by decide +kernel
theorem dX5_isLine_182 : decode cX5_isLine 182 = .ok (.iload_n 1, 1) := by decide +kernel
theorem dX5_isLine_183 : decode cX5_isLine 183 = .ok (.iaload, 1) := by decide +kernel
theorem dX5_isLine_184 : decode cX5_isLine 184 = .ok (.tableswitch 184 0 9 #[56, 56, 56, 56, 62, 74, 103, 115, 126, 178], 56) := by decide +kernel
theorem dX5_isLine_240 : decode cX5_isLine 240 = .ok (.aload_n 0, 1) := by decide +kernel
theorem dX5_isLine_241 : decode cX5_isLine 241 = .ok (.iload_n 1, 1) := by decide +kernel
theorem dX5_isLine_242 : decode cX5_isLine 242 = .ok (.invokevirtual 140, 3) := by decide +kernel
theorem dX5_isLine_245 : decode cX5_isLine 245 = .ok (.ireturn, 1) := by decide +kernel
theorem dX5_isLine_246 : decode cX5_isLine 246 = .ok (.aload_n 0, 1) := by decide +kernel
theorem dX5_isLine_247 : decode cX5_isLine 247 = .ok (.iconst 0, 1) := by decide +kernel
theorem dX5_isLine_248 : decode cX5_isLine 248 = .ok (.putfield 107, 3) := by decide +kernel
theorem dX5_isLine_251 : decode cX5_isLine 251 = .ok (.aload_n 0, 1) := by decide +kernel
theorem dX5_isLine_252 : decode cX5_isLine 252 = .ok (.iconst 0, 1) := by decide +kernel
theorem dX5_isLine_253 : decode cX5_isLine 253 = .ok (.putfield 113, 3) := by decide +kernel
theorem dX5_isLine_256 : decode cX5_isLine 256 = .ok (.iconst 1, 1) := by decide +kernel
theorem dX5_isLine_257 : decode cX5_isLine 257 = .ok (.ireturn, 1) := by decide +kernel
theorem dX5_isLine_258 : decode cX5_isLine 258 = .ok (.aload_n 0, 1) := by decide +kernel
theorem dX5_isLine_259 : decode cX5_isLine 259 = .ok (.iload_n 1, 1) := by decide +kernel
theorem dX5_isLine_260 : decode cX5_isLine 260 = .ok (.iconst 1, 1) := by decide +kernel
theorem dX5_isLine_261 : decode cX5_isLine 261 = .ok (.iadd, 1) := by decide +kernel
theorem dX5_isLine_262 : decode cX5_isLine 262 = .ok (.invokevirtual 116, 3) := by decide +kernel
theorem dX5_isLine_265 : decode cX5_isLine 265 = .ok (.ifCond .eq 20, 3) := by decide +kernel
theorem dX5_isLine_268 : decode cX5_isLine 268 = .ok (.aload_n 0, 1) := by decide +kernel
theorem dX5_isLine_269 : decode cX5_isLine 269 = .ok (.iload_n 1, 1) := by decide +kernel
theorem dX5_isLine_270 : decode cX5_isLine 270 = .ok (.iconst 2, 1) := by decide +kernel
theorem dX5_isLine_271 : decode cX5_isLine 271 = .ok (.iadd, 1) := by decide +kernel
theorem dX5_isLine_272 : decode cX5_isLine 272 = .ok (.iconst 0, 1) := by decide +kernel
theorem dX5_isLine_273 : decode cX5_isLine 273 = .ok (.bipush 99, 2) := by decide +kernel
theorem dX5_isLine_275 : decode cX5_isLine 275 = .ok (.invokevirtual 110, 3) := by decide +kernel
theorem dX5_isLine_278 : decode cX5_isLine 278 = .ok (.ifCond .eq 7, 3) := by decide +kernel
theorem dX5_isLine_281 : decode cX5_isLine 281 = .ok (.iconst 1, 1) := by decide +kernel
theorem dX5_isLine_282 : decode cX5_isLine 282 = .ok (.goto 4, 3) := by decide +kernel
theorem dX5_isLine_285 : decode cX5_isLine 285 = .ok (.iconst 0, 1) := by decide +kernel
theorem dX5_isLine_286 : decode cX5_isLine 286 = .ok (.ireturn, 1) := by decide +kernel
theorem dX5_isLine_287 : decode cX5_isLine 287 = .ok (.aload_n 0, 1) := by decide +kernel
theorem dX5_isLine_288 : decode cX5_isLine 288 = .ok (.iload_n 1, 1) := by decide +kernel
theorem dX5_isLine_289 : decode cX5_isLine 289 = .ok (.iconst 1, 1) := by decide +kernel
theorem dX5_isLine_290 : decode cX5_isLine 290 = .ok (.iadd, 1) := by decide +kernel
theorem dX5_isLine_291 : decode cX5_isLine 291 = .ok (.iconst 0, 1) := by decide +kernel
theorem dX5_isLine_292 : decode cX5_isLine 292 = .ok (.sipush 999, 3) := by decide +kernel
theorem dX5_isLine_295 : decode cX5_isLine 295 = .ok (.invokevirtual 110, 3) := by decide +kernel
theorem dX5_isLine_298 : decode cX5_isLine 298 = .ok (.ireturn, 1) := by decide +kernel
theorem dX5_isLine_299 : decode cX5_isLine 299 = .ok (.aload_n 0, 1) := by decide +kernel
theorem dX5_isLine_300 : decode cX5_isLine 300 = .ok (.iload_n 1, 1) := by decide +kernel
theorem dX5_isLine_301 : decode cX5_isLine 301 = .ok (.iconst 1, 1) := by decide +kernel
theorem dX5_isLine_302 : decode cX5_isLine 302 = .ok (.iadd, 1) := by decide +kernel
theorem dX5_isLine_303 : decode cX5_isLine 303 = .ok (.iconst 1, 1) := by decide +kernel
theorem dX5_isLine_304 : decode cX5_isLine 304 = .ok (.bipush 99, 2) := by decide +kernel
theorem dX5_isLine_306 : decode cX5_isLine 306 = .ok (.invokevirtual 110, 3) := by decide +kernel
theorem dX5_isLine_309 : decode cX5_isLine 309 = .ok (.ireturn, 1) := by decide +kernel
theorem dX5_isLine_310 : decode cX5_isLine 310 = .ok (.aload_n 0, 1) := by decide +kernel
theorem dX5_isLine_311 : decode cX5_isLine 311 = .ok (.iload_n 1, 1) := by decide +kernel
theorem dX5_isLine_312 : decode cX5_isLine 312 = .ok (.iconst 1, 1) := by decide +kernel
theorem dX5_isLine_313 : decode cX5_isLine 313 = .ok (.iadd, 1) := by decide +kernel
theorem dX5_isLine_314 : decode cX5_isLine 314 = .ok (.iconst 0, 1) := by decide +kernel
theorem dX5_isLine_315 : decode cX5_isLine 315 = .ok (.bipush 39, 2) := by decide +kernel
theorem dX5_isLine_317 : decode cX5_isLine 317 = .ok (.invokevirtual 110, 3) := by decide +kernel
theorem dX5_isLine_320 : decode cX5_isLine 320 = .ok (.ifCond .eq 40, 3) := by decide +kernel
theorem dX5_isLine_323 : decode cX5_isLine 323 = .ok (.aload_n 0, 1) := by decide +kernel
theorem dX5_isLine_324 : decode cX5_isLine 324 = .ok (.iload_n 1, 1) := by decide +kernel
theorem dX5_isLine_325 : decode cX5_isLine 325 = .ok (.iconst 2, 1) := by decide +kernel
theorem dX5_isLine_326 : decode cX5_isLine 326 = .ok (.iadd, 1) := by decide +kernel
theorem dX5_isLine_327 : decode cX5_isLine 327 = .ok (.aload_n 0, 1) := by decide +kernel
theorem dX5_isLine_328 : decode cX5_isLine 328 = .ok (.getfield 29, 3) := by decide +kernel
theorem dX5_isLine_331 : decode cX5_isLine 331 = .ok (.iload_n 1, 1) := by decide +kernel
theorem dX5_isLine_332 : decode cX5_isLine 332 = .ok (.iconst 1, 1) := by decide +kernel
theorem dX5_isLine_333 : decode cX5_isLine 333 = .ok (.iadd, 1) := by decide +kernel
theorem dX5_isLine_334 : decode cX5_isLine 334 = .ok (.iaload, 1) := by decide +kernel
theorem dX5_isLine_335 : decode cX5_isLine 335 = .ok (.bipush 39, 2) := by decide +kernel
theorem dX5_isLine_337 : decode cX5_isLine 337 = .ok (.invokevirtual 110, 3) := by decide +kernel
theorem dX5_isLine_340 : decode cX5_isLine 340 = .ok (.ifCond .eq 20, 3) := by decide +kernel
theorem dX5_isLine_343 : decode cX5_isLine 343 = .ok (.aload_n 0, 1) := by decide +kernel
theorem dX5_isLine_344 : decode cX5_isLine 344 = .ok (.iload_n 1, 1) := by decide +kernel
theorem dX5_isLine_345 : decode cX5_isLine 345 = .ok (.iconst 3, 1) := by decide +kernel
theorem dX5_isLine_346 : decode cX5_isLine 346 = .ok (.iadd, 1) := by decide +kernel
theorem dX5_isLine_347 : decode cX5_isLine 347 = .ok (.iconst 0, 1) := by decide +kernel
theorem dX5_isLine_348 : decode cX5_isLine 348 = .ok (.bipush 9, 2) := by decide +kernel
theorem dX5_isLine_350 : decode cX5_isLine 350 = .ok (.invokevirtual 110, 3) := by decide +kernel
theorem dX5_isLine_353 : decode cX5_isLine 353 = .ok (.ifCond .eq 7, 3) := by decide +kernel
theorem dX5_isLine_356 : decode cX5_isLine 356 = .ok (.iconst 1, 1) := by decide +kernel
theorem dX5_isLine_357 : decode cX5_isLine 357 = .ok (.goto 4, 3) := by decide +kernel
theorem dX5_isLine_360 : decode cX5_isLine 360 = .ok (.iconst 0, 1) := by decide +kernel
theorem dX5_isLine_361 : decode cX5_isLine 361 = .ok (.ireturn, 1) := by decide +kernel
theorem dX5_isLine_362 : decode cX5_isLine 362 = .ok (.aload_n 0, 1) := by decide +kernel
theorem dX5_isLine_363 : decode cX5_isLine 363 = .ok (.iload_n 1, 1) := by decide +kernel
theorem dX5_isLine_364 : decode cX5_isLine 364 = .ok (.invokevirtual 143, 3) := by decide +kernel
theorem dX5_isLine_367 : decode cX5_isLine 367 = .ok (.ireturn, 1) := by decide +kernel
theorem dX5_isLine_368 : decode cX5_isLine 368 = .ok (.aload_n 0, 1) := by decide +kernel
theorem dX5_isLine_369 : decode cX5_isLine 369 = .ok (.invokevirtual 103, 3) := by decide +kernel
theorem dX5_isLine_372 : decode cX5_isLine 372 = .ok (.ireturn, 1) := by decide +kernel
theorem dX5_isRead_0 : decode cX5_isRead 0 = .ok (.aload_n 0, 1) := by decide +kernel
theorem dX5_isRead_1 : decode cX5_isRead 1 = .ok (.iconst 0, 1) := by decide +kernel
theorem dX5_isRead_2 : decode cX5_isRead 2 = .ok (.putfield 69, 3) := by decide +kernel
theorem dX5_isRead_5 : decode cX5_isRead 5 = .ok (.aload_n 0, 1) := by decide +kernel
theorem dX5_isRead_6 : decode cX5_isRead 6 = .ok (.iconst 0, 1) := by decide +kernel
theorem dX5_isRead_7 : decode cX5_isRead 7 = .ok (.putfield 146, 3) := by decide +kernel
theorem dX5_isRead_10 : decode cX5_isRead 10 = .ok (.aload_n 0, 1) := by decide +kernel
theorem dX5_isRead_11 : decode cX5_isRead 11 = .ok (.aload_n 0, 1) := by decide +kernel
theorem dX5_isRead_12 : decode cX5_isRead 12 = .ok (.getfield 57, 3) := by decide +kernel
theorem dX5_isRead_15 : decode cX5_isRead 15 = .ok (.putfield 107, 3) := by decide +kernel
theorem dX5_isRead_18 : decode cX5_isRead 18 = .ok (.aload_n 0, 1) := by decide +kernel
theorem dX5_isRead_19 : decode cX5_isRead 19 = .ok (.aload_n 0, 1) := by decide +kernel
theorem dX5_isRead_20 : decode cX5_isRead 20 = .ok (.getfield 149, 3) := by decide +kernel
theorem dX5_isRead_23 : decode cX5_isRead 23 = .ok (.putfield 113, 3) := by decide +kernel
theorem dX5_isRead_26 : decode cX5_isRead 26 = .ok (.iconst 1, 1) := by decide +kernel
theorem dX5_isRead_27 : decode cX5_isRead 27 = .ok (.istore_n 1, 1) := by decide +kernel
theorem dX5_isRead_28 : decode cX5_isRead 28 = .ok (.iload_n 1, 1) := by decide +kernel
theorem dX5_isRead_29 : decode cX5_isRead 29 = .ok (.ifCond .eq 61, 3) := by decide +kernel
theorem dX5_isRead_32 : decode cX5_isRead 32 = .ok (.aload_n 0, 1) := by decide +kernel
theorem dX5_isRead_33 : decode cX5_isRead 33 = .ok (.iconst 5, 1) := by decide +kernel
theorem dX5_isRead_34 : decode cX5_isRead 34 = .ok (.aload_n 0, 1) := by decide +kernel
theorem dX5_isRead_35 : decode cX5_isRead 35 = .ok (.getfield 146, 3) := by decide +kernel
theorem dX5_isRead_38 : decode cX5_isRead 38 = .ok (.imul, 1) := by decide +kernel
theorem dX5_isRead_39 : decode cX5_isRead 39 = .ok (.invokevirtual 152, 3) := by decide +kernel
theorem dX5_isRead_42 : decode cX5_isRead 42 = .ok (.ifCond .ne 5, 3) := by decide +kernel
theorem dX5_isRead_45 : decode cX5_isRead 45 = .ok (.iconst 0, 1) := by decide +kernel
theorem dX5_isRead_46 : decode cX5_isRead 46 = .ok (.ireturn, 1) := by decide +kernel
theorem dX5_isRead_47 : decode cX5_isRead 47 = .ok (.aload_n 0, 1) := by decide +kernel
theorem dX5_isRead_48 : decode cX5_isRead 48 = .ok (.dup, 1) := by decide +kernel
theorem dX5_isRead_49 : decode cX5_isRead 49 = .ok (.getfield 146, 3) := by decide +kernel
theorem dX5_isRead_52 : decode cX5_isRead 52 = .ok (.iconst 1, 1) := by decide +kernel
theorem dX5_isRead_53 : decode cX5_isRead 53 = .ok (.iadd, 1) := by decide +kernel
theorem dX5_isRead_54 : decode cX5_isRead 54 = .ok (.putfield 146, 3) := by decide +kernel
theorem dX5_isRead_57 : decode cX5_isRead 57 = .ok (.aload_n 0, 1) := by decide +kernel
theorem dX5_isRead_58 : decode cX5_isRead 58 = .ok (.invokevirtual 100, 3) := by decide +kernel
theorem dX5_isRead_61 : decode cX5_isRead 61 = .ok (.aload_n 0, 1) := by decide +kernel
theorem dX5_isRead_62 : decode cX5_isRead 62 = .ok (.getfield 83, 3) := by decide +kernel
theorem dX5_isRead_65 : decode cX5_isRead 65 = .ok (.ldc2_w 95, 3) := by decide +kernel
theorem dX5_isRead_68 : decode cX5_isRead 68 = .ok (.lcmp, 1) := by decide +kernel
theorem dX5_isRead_69 : decode cX5_isRead 69 = .ok (.ifCond .ne 16, 3) := by decide +kernel
theorem dX5_isRead_72 : decode cX5_isRead 72 = .ok (.aload_n 0, 1) := by decide +kernel
theorem dX5_isRead_73 : decode cX5_isRead 73 = .ok (.getfield 146, 3) := by decide +kernel
theorem dX5_isRead_76 : decode cX5_isRead 76 = .ok (.bipush 12, 2) := by decide +kernel
theorem dX5_isRead_78 : decode cX5_isRead 78 = .ok (.if_icmp .ge 7, 3) := by decide +kernel
theorem dX5_isRead_81 : decode cX5_isRead 81 = .ok (.iconst 1, 1) := by decide +kernel
theorem dX5_isRead_82 : decode cX5_isRead 82 = .ok (.goto 4, 3) := by decide +kernel
theorem dX5_isRead_85 : decode cX5_isRead 85 = .ok (.iconst 0, 1) := by decide +kernel
theorem dX5_isRead_86 : decode cX5_isRead 86 = .ok (.istore_n 1, 1) := by decide +kernel
theorem dX5_isRead_87 : decode cX5_isRead 87 = .ok (.goto (-59), 3) := by decide +kernel
theorem dX5_isRead_90 : decode cX5_isRead 90 = .ok (.aload_n 0, 1) := by decide +kernel
theorem dX5_isRead_91 : decode cX5_isRead 91 = .ok (.getfield 83, 3) := by decide +kernel
theorem dX5_isRead_94 : decode cX5_isRead 94 = .ok (.ldc2_w 81, 3) := by decide +kernel
theorem dX5_isRead_97 : decode cX5_isRead 97 = .ok (.lcmp, 1) := by decide +kernel
theorem dX5_isRead_98 : decode cX5_isRead 98 = .ok (.ifCond .eq 10, 3) := by decide +kernel
theorem dX5_isRead_101 : decode cX5_isRead 101 = .ok (.aload_n 0, 1) := by decide +kernel
theorem dX5_isRead_102 : decode cX5_isRead 102 = .ok (.invokevirtual 103, 3) := by decide +kernel
theorem dX5_isRead_105 : decode cX5_isRead 105 = .ok (.ifCond .eq 7, 3) := by decide +kernel
theorem dX5_isRead_108 : decode cX5_isRead 108 = .ok (.iconst 1, 1) := by decide +kernel
theorem dX5_isRead_109 : decode cX5_isRead 109 = .ok (.goto 4, 3) := by decide +kernel
theorem dX5_isRead_112 : decode cX5_isRead 112 = .ok (.iconst 0, 1) := by decide +kernel
theorem dX5_isRead_113 : decode cX5_isRead 113 = .ok (.ireturn, 1) := by decide +kernel
theorem dX5_fault_0 : decode cX5_fault 0 = .ok (.aload_n 0, 1) := by decide +kernel
theorem dX5_fault_1 : decode cX5_fault 1 = .ok (.invokevirtual 155, 3) := by decide +kernel
theorem dX5_fault_4 : decode cX5_fault 4 = .ok (.ifCond .eq 7, 3) := by decide +kernel
theorem dX5_fault_7 : decode cX5_fault 7 = .ok (.iconst (-1), 1) := by decide +kernel
theorem dX5_fault_8 : decode cX5_fault 8 = .ok (.goto 7, 3) := by decide +kernel
theorem dX5_fault_11 : decode cX5_fault 11 = .ok (.aload_n 0, 1) := by decide +kernel
theorem dX5_fault_12 : decode cX5_fault 12 = .ok (.getfield 97, 3) := by decide +kernel
theorem dX5_fault_15 : decode cX5_fault 15 = .ok (.ireturn, 1) := by decide +kernel
theorem dX5_putWind_0 : decode cX5_putWind 0 = .ok (.iload_n 1, 1) := by decide +kernel
theorem dX5_putWind_1 : decode cX5_putWind 1 = .ok (.istore 4, 2) := by decide +kernel
theorem dX5_putWind_3 : decode cX5_putWind 3 = .ok (.iload 4, 2) := by decide +kernel
theorem dX5_putWind_5 : decode cX5_putWind 5 = .ok (.iload_n 2, 1) := by decide +kernel
theorem dX5_putWind_6 : decode cX5_putWind 6 = .ok (.if_icmp .gt 17, 3) := by decide +kernel
theorem dX5_putWind_9 : decode cX5_putWind 9 = .ok (.aload_n 0, 1) := by decide +kernel
theorem dX5_putWind_10 : decode cX5_putWind 10 = .ok (.getfield 20, 3) := by decide +kernel
theorem dX5_putWind_13 : decode cX5_putWind 13 = .ok (.iload 4, 2) := by decide +kernel
theorem dX5_putWind_15 : decode cX5_putWind 15 = .ok (.iload_n 3, 1) := by decide +kernel
theorem dX5_putWind_16 : decode cX5_putWind 16 = .ok (.iastore, 1) := by decide +kernel
theorem dX5_putWind_17 : decode cX5_putWind 17 = .ok (.iinc 4 1, 3) := by decide +kernel
theorem dX5_putWind_20 : decode cX5_putWind 20 = .ok (.goto (-17), 3) := by decide +kernel
theorem dX5_putWind_23 : decode cX5_putWind 23 = .ok (.return_, 1) := by decide +kernel
theorem dX5_doLine_0 : decode cX5_doLine 0 = .ok (.aload_n 0, 1) := by decide +kernel
theorem dX5_doLine_1 : decode cX5_doLine 1 = .ok (.getfield 29, 3) := by decide +kernel
theorem dX5_doLine_4 : decode cX5_doLine 4 = .ok (.iload_n 1, 1) := by decide +kernel
theorem dX5_doLine_5 : decode cX5_doLine 5 = .ok (.iconst 1, 1) := by decide +kernel
theorem dX5_doLine_6 : decode cX5_doLine 6 = .ok (.iadd, 1) := by decide +kernel
theorem dX5_doLine_7 : decode cX5_doLine 7 = .ok (.iaload, 1) := by decide +kernel
theorem dX5_doLine_8 : decode cX5_doLine 8 = .ok (.istore_n 2, 1) := by decide +kernel
theorem dX5_doLine_9 : decode cX5_doLine 9 = .ok (.aload_n 0, 1) := by decide +kernel
theorem dX5_doLine_10 : decode cX5_doLine 10 = .ok (.getfield 29, 3) := by decide +kernel
theorem dX5_doLine_13 : decode cX5_doLine 13 = .ok (.iload_n 1, 1) := by decide +kernel
theorem dX5_doLine_14 : decode cX5_doLine 14 = .ok (.iconst 2, 1) := by decide +kernel
theorem dX5_doLine_15 : decode cX5_doLine 15 = .ok (.iadd, 1) := by decide +kernel
theorem dX5_doLine_16 : decode cX5_doLine 16 = .ok (.iaload, 1) := by decide +kernel
theorem dX5_doLine_17 : decode cX5_doLine 17 = .ok (.istore_n 3, 1) := by decide +kernel
theorem dX5_doLine_18 : decode cX5_doLine 18 = .ok (.aload_n 0, 1) := by decide +kernel
theorem dX5_doLine_19 : decode cX5_doLine 19 = .ok (.getfield 29, 3) := by decide +kernel
theorem dX5_doLine_22 : decode cX5_doLine 22 = .ok (.iload_n 1, 1) := by decide +kernel
theorem dX5_doLine_23 : decode cX5_doLine 23 = .ok (.iaload, 1) := by decide +kernel
theorem dX5_doLine_24 : decode cX5_doLine 24 = .ok (.tableswitch 198 0 8 #[52, 52, 52, 52, 117, 151, 165, 173, 181], 52) := by decide +kernel
theorem dX5_doLine_76 : decode cX5_doLine 76 = .ok (.iconst 0, 1) := by decide +kernel
theorem dX5_doLine_77 : decode cX5_doLine 77 = .ok (.istore 4, 2) := by decide +kernel
theorem dX5_doLine_79 : decode cX5_doLine 79 = .ok (.iload 4, 2) := by decide +kernel
theorem dX5_doLine_81 : decode cX5_doLine 81 = .ok (.iconst 4, 1) := by decide +kernel
theorem dX5_doLine_82 : decode cX5_doLine 82 = .ok (.if_icmp .ge 32, 3) := by decide +kernel
theorem dX5_doLine_85 : decode cX5_doLine 85 = .ok (.aload_n 0, 1) := by decide +kernel
theorem dX5_doLine_86 : decode cX5_doLine 86 = .ok (.getfield 7, 3) := by decide +kernel
theorem dX5_doLine_89 : decode cX5_doLine 89 = .ok (.iconst 5, 1) := by decide +kernel
theorem dX5_doLine_90 : decode cX5_doLine 90 = .ok (.aload_n 0, 1) := by decide +kernel
theorem dX5_doLine_91 : decode cX5_doLine 91 = .ok (.getfield 57, 3) := by decide +kernel
theorem dX5_doLine_94 : decode cX5_doLine 94 = .ok (.imul, 1) := by decide +kernel
theorem dX5_doLine_95 : decode cX5_doLine 95 = .ok (.iload 4, 2) := by decide +kernel
theorem dX5_doLine_97 : decode cX5_doLine 97 = .ok (.iadd, 1) := by decide +kernel
theorem dX5_doLine_98 : decode cX5_doLine 98 = .ok (.aload_n 0, 1) := by decide +kernel
theorem dX5_doLine_99 : decode cX5_doLine 99 = .ok (.getfield 29, 3) := by decide +kernel
theorem dX5_doLine_102 : decode cX5_doLine 102 = .ok (.iload_n 1, 1) := by decide +kernel
theorem dX5_doLine_103 : decode cX5_doLine 103 = .ok (.iload 4, 2) := by decide +kernel
theorem dX5_doLine_105 : decode cX5_doLine 105 = .ok (.iadd, 1) := by decide +kernel
theorem dX5_doLine_106 : decode cX5_doLine 106 = .ok (.iaload, 1) := by decide +kernel
theorem dX5_doLine_107 : decode cX5_doLine 107 = .ok (.iastore, 1) := by decide +kernel
theorem dX5_doLine_108 : decode cX5_doLine 108 = .ok (.iinc 4 1, 3) := by decide +kernel
theorem dX5_doLine_111 : decode cX5_doLine 111 = .ok (.goto (-32), 3) := by decide +kernel
theorem dX5_doLine_114 : decode cX5_doLine 114 = .ok (.aload_n 0, 1) := by decide +kernel
theorem dX5_doLine_115 : decode cX5_doLine 115 = .ok (.getfield 7, 3) := by decide +kernel
theorem dX5_doLine_118 : decode cX5_doLine 118 = .ok (.iconst 5, 1) := by decide +kernel
theorem dX5_doLine_119 : decode cX5_doLine 119 = .ok (.aload_n 0, 1) := by decide +kernel
theorem dX5_doLine_120 : decode cX5_doLine 120 = .ok (.getfield 57, 3) := by decide +kernel
theorem dX5_doLine_123 : decode cX5_doLine 123 = .ok (.imul, 1) := by decide +kernel
theorem dX5_doLine_124 : decode cX5_doLine 124 = .ok (.iconst 4, 1) := by decide +kernel
theorem dX5_doLine_125 : decode cX5_doLine 125 = .ok (.iadd, 1) := by decide +kernel
theorem dX5_doLine_126 : decode cX5_doLine 126 = .ok (.iconst 0, 1) := by decide +kernel
theorem dX5_doLine_127 : decode cX5_doLine 127 = .ok (.iastore, 1) := by decide +kernel
theorem dX5_doLine_128 : decode cX5_doLine 128 = .ok (.aload_n 0, 1) := by decide +kernel
theorem dX5_doLine_129 : decode cX5_doLine 129 = .ok (.dup, 1) := by decide +kernel
theorem dX5_doLine_130 : decode cX5_doLine 130 = .ok (.getfield 57, 3) := by decide +kernel
theorem dX5_doLine_133 : decode cX5_doLine 133 = .ok (.iconst 1, 1) := by decide +kernel
theorem dX5_doLine_134 : decode cX5_doLine 134 = .ok (.iadd, 1) := by decide +kernel
theorem dX5_doLine_135 : decode cX5_doLine 135 = .ok (.putfield 57, 3) := by decide +kernel
theorem dX5_doLine_138 : decode cX5_doLine 138 = .ok (.goto 120, 3) := by decide +kernel
theorem dX5_doLine_141 : decode cX5_doLine 141 = .ok (.aload_n 0, 1) := by decide +kernel
theorem dX5_doLine_142 : decode cX5_doLine 142 = .ok (.iconst 0, 1) := by decide +kernel
theorem dX5_doLine_143 : decode cX5_doLine 143 = .ok (.putfield 57, 3) := by decide +kernel
theorem dX5_doLine_146 : decode cX5_doLine 146 = .ok (.aload_n 0, 1) := by decide +kernel
theorem dX5_doLine_147 : decode cX5_doLine 147 = .ok (.iconst 0, 1) := by decide +kernel
theorem dX5_doLine_148 : decode cX5_doLine 148 = .ok (.putfield 149, 3) := by decide +kernel
theorem dX5_doLine_151 : decode cX5_doLine 151 = .ok (.aload_n 0, 1) := by decide +kernel
theorem dX5_doLine_152 : decode cX5_doLine 152 = .ok (.sipush 500, 3) := by decide +kernel
theorem dX5_doLine_155 : decode cX5_doLine 155 = .ok (.putfield 13, 3) := by decide +kernel
theorem dX5_doLine_158 : decode cX5_doLine 158 = .ok (.aload_n 0, 1) := by decide +kernel
theorem dX5_doLine_159 : decode cX5_doLine 159 = .ok (.bipush 10, 2) := by decide +kernel
theorem dX5_doLine_161 : decode cX5_doLine 161 = .ok (.putfield 17, 3) := by decide +kernel
theorem dX5_doLine_164 : decode cX5_doLine 164 = .ok (.aload_n 0, 1) := by decide +kernel
theorem dX5_doLine_165 : decode cX5_doLine 165 = .ok (.iconst 0, 1) := by decide +kernel
theorem dX5_doLine_166 : decode cX5_doLine 166 = .ok (.bipush 39, 2) := by decide +kernel
theorem dX5_doLine_168 : decode cX5_doLine 168 = .ok (.iconst 0, 1) := by decide +kernel
theorem dX5_doLine_169 : decode cX5_doLine 169 = .ok (.invokevirtual 158, 3) := by decide +kernel
theorem dX5_doLine_172 : decode cX5_doLine 172 = .ok (.goto 86, 3) := by decide +kernel
theorem dX5_doLine_175 : decode cX5_doLine 175 = .ok (.aload_n 0, 1) := by decide +kernel
theorem dX5_doLine_176 : decode cX5_doLine 176 = .ok (.getfield 7, 3) := by decide +kernel
theorem dX5_doLine_179 : decode cX5_doLine 179 = .ok (.iconst 5, 1) := by decide +kernel
theorem dX5_doLine_180 : decode cX5_doLine 180 = .ok (.iload_n 2, 1) := by decide +kernel
theorem dX5_doLine_181 : decode cX5_doLine 181 = .ok (.imul, 1) := by decide +kernel
theorem dX5_doLine_182 : decode cX5_doLine 182 = .ok (.iconst 4, 1) := by decide +kernel
theorem dX5_doLine_183 : decode cX5_doLine 183 = .ok (.iadd, 1) := by decide +kernel
theorem dX5_doLine_184 : decode cX5_doLine 184 = .ok (.iload_n 3, 1) := by decide +kernel
theorem dX5_doLine_185 : decode cX5_doLine 185 = .ok (.iastore, 1) := by decide +kernel
theorem dX5_doLine_186 : decode cX5_doLine 186 = .ok (.goto 72, 3) := by decide +kernel
theorem dX5_doLine_189 : decode cX5_doLine 189 = .ok (.aload_n 0, 1) := by decide +kernel
theorem dX5_doLine_190 : decode cX5_doLine 190 = .ok (.iload_n 2, 1) := by decide +kernel
theorem dX5_doLine_191 : decode cX5_doLine 191 = .ok (.putfield 13, 3) := by decide +kernel
theorem dX5_doLine_194 : decode cX5_doLine 194 = .ok (.goto 64, 3) := by decide +kernel
theorem dX5_doLine_197 : decode cX5_doLine 197 = .ok (.aload_n 0, 1) := by decide +kernel
theorem dX5_doLine_198 : decode cX5_doLine 198 = .ok (.iload_n 2, 1) := by decide +kernel
theorem dX5_doLine_199 : decode cX5_doLine 199 = .ok (.putfield 17, 3) := by decide +kernel
theorem dX5_doLine_202 : decode cX5_doLine 202 = .ok (.goto 56, 3) := by decide +kernel
theorem dX5_doLine_205 : decode cX5_doLine 205 = .ok (.aload_n 0, 1) := by decide +kernel
theorem dX5_doLine_206 : decode cX5_doLine 206 = .ok (.iload_n 2, 1) := by decide +kernel
theorem dX5_doLine_207 : decode cX5_doLine 207 = .ok (.iload_n 3, 1) := by decide +kernel
theorem dX5_doLine_208 : decode cX5_doLine 208 = .ok (.aload_n 0, 1) := by decide +kernel
theorem dX5_doLine_209 : decode cX5_doLine 209 = .ok (.getfield 29, 3) := by decide +kernel
theorem dX5_doLine_212 : decode cX5_doLine 212 = .ok (.iload_n 1, 1) := by decide +kernel
theorem dX5_doLine_213 : decode cX5_doLine 213 = .ok (.iconst 3, 1) := by decide +kernel
theorem dX5_doLine_214 : decode cX5_doLine 214 = .ok (.iadd, 1) := by decide +kernel
theorem dX5_doLine_215 : decode cX5_doLine 215 = .ok (.iaload, 1) := by decide +kernel
theorem dX5_doLine_216 : decode cX5_doLine 216 = .ok (.invokevirtual 158, 3) := by decide +kernel
theorem dX5_doLine_219 : decode cX5_doLine 219 = .ok (.goto 39, 3) := by decide +kernel
theorem dX5_doLine_222 : decode cX5_doLine 222 = .ok (.aload_n 0, 1) := by decide +kernel
theorem dX5_doLine_223 : decode cX5_doLine 223 = .ok (.getfield 23, 3) := by decide +kernel
theorem dX5_doLine_226 : decode cX5_doLine 226 = .ok (.iconst 2, 1) := by decide +kernel
theorem dX5_doLine_227 : decode cX5_doLine 227 = .ok (.aload_n 0, 1) := by decide +kernel
theorem dX5_doLine_228 : decode cX5_doLine 228 = .ok (.getfield 149, 3) := by decide +kernel
theorem dX5_doLine_231 : decode cX5_doLine 231 = .ok (.imul, 1) := by decide +kernel
theorem dX5_doLine_232 : decode cX5_doLine 232 = .ok (.iload_n 2, 1) := by decide +kernel
theorem dX5_doLine_233 : decode cX5_doLine 233 = .ok (.iastore, 1) := by decide +kernel
theorem dX5_doLine_234 : decode cX5_doLine 234 = .ok (.aload_n 0, 1) := by decide +kernel
theorem dX5_doLine_235 : decode cX5_doLine 235 = .ok (.getfield 23, 3) := by decide +kernel
theorem dX5_doLine_238 : decode cX5_doLine 238 = .ok (.iconst 2, 1) := by decide +kernel
theorem dX5_doLine_239 : decode cX5_doLine 239 = .ok (.aload_n 0, 1) := by decide +kernel
theorem dX5_doLine_240 : decode cX5_doLine 240 = .ok (.getfield 149, 3) := by decide +kernel
theorem dX5_doLine_243 : decode cX5_doLine 243 = .ok (.imul, 1) := by decide +kernel
theorem dX5_doLine_244 : decode cX5_doLine 244 = .ok (.iconst 1, 1) := by decide +kernel
theorem dX5_doLine_245 : decode cX5_doLine 245 = .ok (.iadd, 1) := by decide +kernel
theorem dX5_doLine_246 : decode cX5_doLine 246 = .ok (.iload_n 3, 1) := by decide +kernel
theorem dX5_doLine_247 : decode cX5_doLine 247 = .ok (.iastore, 1) := by decide +kernel
theorem dX5_doLine_248 : decode cX5_doLine 248 = .ok (.aload_n 0, 1) := by decide +kernel
theorem dX5_doLine_249 : decode cX5_doLine 249 = .ok (.dup, 1) := by decide +kernel
theorem dX5_doLine_250 : decode cX5_doLine 250 = .ok (.getfield 149, 3) := by decide +kernel
theorem dX5_doLine_253 : decode cX5_doLine 253 = .ok (.iconst 1, 1) := by decide +kernel
theorem dX5_doLine_254 : decode cX5_doLine 254 = .ok (.iadd, 1) := by decide +kernel
theorem dX5_doLine_255 : decode cX5_doLine 255 = .ok (.putfield 149, 3) := by decide +kernel
theorem dX5_doLine_258 : decode cX5_doLine 258 = .ok (.return_, 1) := by decide +kernel
theorem dX5_site_0 : decode cX5_site 0 = .ok (.aload_n 0, 1) := by decide +kernel
theorem dX5_site_1 : decode cX5_site 1 = .ok (.invokevirtual 155, 3) := by decide +kernel
theorem dX5_site_4 : decode cX5_site 4 = .ok (.ifCond .ne 6, 3) := by decide +kernel
theorem dX5_site_7 : decode cX5_site 7 = .ok (.bipush (-4), 2) := by decide +kernel
theorem dX5_site_9 : decode cX5_site 9 = .ok (.ireturn, 1) := by decide +kernel
theorem dX5_site_10 : decode cX5_site 10 = .ok (.iconst 0, 1) := by decide +kernel
theorem dX5_site_11 : decode cX5_site 11 = .ok (.istore_n 1, 1) := by decide +kernel
theorem dX5_site_12 : decode cX5_site 12 = .ok (.iload_n 1, 1) := by decide +kernel
theorem dX5_site_13 : decode cX5_site 13 = .ok (.aload_n 0, 1) := by decide +kernel
theorem dX5_site_14 : decode cX5_site 14 = .ok (.getfield 146, 3) := by decide +kernel
theorem dX5_site_17 : decode cX5_site 17 = .ok (.if_icmp .ge 16, 3) := by decide +kernel
theorem dX5_site_20 : decode cX5_site 20 = .ok (.aload_n 0, 1) := by decide +kernel
theorem dX5_site_21 : decode cX5_site 21 = .ok (.iconst 5, 1) := by decide +kernel
theorem dX5_site_22 : decode cX5_site 22 = .ok (.iload_n 1, 1) := by decide +kernel
theorem dX5_site_23 : decode cX5_site 23 = .ok (.imul, 1) := by decide +kernel
theorem dX5_site_24 : decode cX5_site 24 = .ok (.invokevirtual 162, 3) := by decide +kernel
theorem dX5_site_27 : decode cX5_site 27 = .ok (.iinc 1 1, 3) := by decide +kernel
theorem dX5_site_30 : decode cX5_site 30 = .ok (.goto (-18), 3) := by decide +kernel
theorem dX5_site_33 : decode cX5_site 33 = .ok (.aload_n 0, 1) := by decide +kernel
theorem dX5_site_34 : decode cX5_site 34 = .ok (.iconst 0, 1) := by decide +kernel
theorem dX5_site_35 : decode cX5_site 35 = .ok (.putfield 64, 3) := by decide +kernel
theorem dX5_site_38 : decode cX5_site 38 = .ok (.aload_n 0, 1) := by decide +kernel
theorem dX5_site_39 : decode cX5_site 39 = .ok (.getfield 32, 3) := by decide +kernel
theorem dX5_site_42 : decode cX5_site 42 = .ok (.iconst 0, 1) := by decide +kernel
theorem dX5_site_43 : decode cX5_site 43 = .ok (.iconst 0, 1) := by decide +kernel
theorem dX5_site_44 : decode cX5_site 44 = .ok (.iastore, 1) := by decide +kernel
theorem dX5_site_45 : decode cX5_site 45 = .ok (.aload_n 0, 1) := by decide +kernel
theorem dX5_site_46 : decode cX5_site 46 = .ok (.getfield 32, 3) := by decide +kernel
theorem dX5_site_49 : decode cX5_site 49 = .ok (.iconst 1, 1) := by decide +kernel
theorem dX5_site_50 : decode cX5_site 50 = .ok (.iconst 0, 1) := by decide +kernel
theorem dX5_site_51 : decode cX5_site 51 = .ok (.iastore, 1) := by decide +kernel
theorem dX5_site_52 : decode cX5_site 52 = .ok (.aload_n 0, 1) := by decide +kernel
theorem dX5_site_53 : decode cX5_site 53 = .ok (.iconst 0, 1) := by decide +kernel
theorem dX5_site_54 : decode cX5_site 54 = .ok (.putfield 166, 3) := by decide +kernel
theorem dX5_site_57 : decode cX5_site 57 = .ok (.aload_n 0, 1) := by decide +kernel
theorem dX5_site_58 : decode cX5_site 58 = .ok (.iconst 0, 1) := by decide +kernel
theorem dX5_site_59 : decode cX5_site 59 = .ok (.putfield 169, 3) := by decide +kernel
theorem dX5_site_62 : decode cX5_site 62 = .ok (.aload_n 0, 1) := by decide +kernel
theorem dX5_site_63 : decode cX5_site 63 = .ok (.getfield 38, 3) := by decide +kernel
theorem dX5_site_66 : decode cX5_site 66 = .ok (.iconst 0, 1) := by decide +kernel
theorem dX5_site_67 : decode cX5_site 67 = .ok (.iconst 0, 1) := by decide +kernel
theorem dX5_site_68 : decode cX5_site 68 = .ok (.bastore, 1) := by decide +kernel
theorem dX5_site_69 : decode cX5_site 69 = .ok (.aload_n 0, 1) := by decide +kernel
theorem dX5_site_70 : decode cX5_site 70 = .ok (.getfield 38, 3) := by decide +kernel
theorem dX5_site_73 : decode cX5_site 73 = .ok (.iconst 1, 1) := by decide +kernel
theorem dX5_site_74 : decode cX5_site 74 = .ok (.iconst 0, 1) := by decide +kernel
theorem dX5_site_75 : decode cX5_site 75 = .ok (.bastore, 1) := by decide +kernel
theorem dX5_site_76 : decode cX5_site 76 = .ok (.aload_n 0, 1) := by decide +kernel
theorem dX5_site_77 : decode cX5_site 77 = .ok (.getfield 146, 3) := by decide +kernel
theorem dX5_site_80 : decode cX5_site 80 = .ok (.ireturn, 1) := by decide +kernel
theorem dX5_loadOf_0 : decode cX5_loadOf 0 = .ok (.aload_n 0, 1) := by decide +kernel
theorem dX5_loadOf_1 : decode cX5_loadOf 1 = .ok (.getfield 7, 3) := by decide +kernel
theorem dX5_loadOf_4 : decode cX5_loadOf 4 = .ok (.iconst 5, 1) := by decide +kernel
theorem dX5_loadOf_5 : decode cX5_loadOf 5 = .ok (.iload_n 1, 1) := by decide +kernel
theorem dX5_loadOf_6 : decode cX5_loadOf 6 = .ok (.imul, 1) := by decide +kernel
theorem dX5_loadOf_7 : decode cX5_loadOf 7 = .ok (.iconst 1, 1) := by decide +kernel
theorem dX5_loadOf_8 : decode cX5_loadOf 8 = .ok (.iadd, 1) := by decide +kernel
theorem dX5_loadOf_9 : decode cX5_loadOf 9 = .ok (.iaload, 1) := by decide +kernel
theorem dX5_loadOf_10 : decode cX5_loadOf 10 = .ok (.aload_n 0, 1) := by decide +kernel
theorem dX5_loadOf_11 : decode cX5_loadOf 11 = .ok (.getfield 7, 3) := by decide +kernel
theorem dX5_loadOf_14 : decode cX5_loadOf 14 = .ok (.iconst 5, 1) := by decide +kernel
theorem dX5_loadOf_15 : decode cX5_loadOf 15 = .ok (.iload_n 1, 1) := by decide +kernel
theorem dX5_loadOf_16 : decode cX5_loadOf 16 = .ok (.imul, 1) := by decide +kernel
theorem dX5_loadOf_17 : decode cX5_loadOf 17 = .ok (.iconst 4, 1) := by decide +kernel
theorem dX5_loadOf_18 : decode cX5_loadOf 18 = .ok (.iadd, 1) := by decide +kernel
theorem dX5_loadOf_19 : decode cX5_loadOf 19 = .ok (.iaload, 1) := by decide +kernel
theorem dX5_loadOf_20 : decode cX5_loadOf 20 = .ok (.iadd, 1) := by decide +kernel
theorem dX5_loadOf_21 : decode cX5_loadOf 21 = .ok (.ireturn, 1) := by decide +kernel
theorem dX5_storey_0 : decode cX5_storey 0 = .ok (.aload_n 0, 1) := by decide +kernel
theorem dX5_storey_1 : decode cX5_storey 1 = .ok (.iload_n 1, 1) := by decide +kernel
theorem dX5_storey_2 : decode cX5_storey 2 = .ok (.invokevirtual 172, 3) := by decide +kernel
theorem dX5_storey_5 : decode cX5_storey 5 = .ok (.ifCond .ne 6, 3) := by decide +kernel
theorem dX5_storey_8 : decode cX5_storey 8 = .ok (.bipush (-2), 2) := by decide +kernel
theorem dX5_storey_10 : decode cX5_storey 10 = .ok (.ireturn, 1) := by decide +kernel
theorem dX5_storey_11 : decode cX5_storey 11 = .ok (.iload_n 2, 1) := by decide +kernel
theorem dX5_storey_12 : decode cX5_storey 12 = .ok (.iconst 0, 1) := by decide +kernel
theorem dX5_storey_13 : decode cX5_storey 13 = .ok (.iconst 4, 1) := by decide +kernel
theorem dX5_storey_14 : decode cX5_storey 14 = .ok (.invokestatic 60, 3) := by decide +kernel
theorem dX5_storey_17 : decode cX5_storey 17 = .ok (.ifCond .eq 16, 3) := by decide +kernel
theorem dX5_storey_20 : decode cX5_storey 20 = .ok (.aload_n 0, 1) := by decide +kernel
theorem dX5_storey_21 : decode cX5_storey 21 = .ok (.getfield 7, 3) := by decide +kernel
theorem dX5_storey_24 : decode cX5_storey 24 = .ok (.iconst 5, 1) := by decide +kernel
theorem dX5_storey_25 : decode cX5_storey 25 = .ok (.iload_n 1, 1) := by decide +kernel
theorem dX5_storey_26 : decode cX5_storey 26 = .ok (.imul, 1) := by decide +kernel
theorem dX5_storey_27 : decode cX5_storey 27 = .ok (.iload_n 2, 1) := by decide +kernel
theorem dX5_storey_28 : decode cX5_storey 28 = .ok (.iadd, 1) := by decide +kernel
theorem dX5_storey_29 : decode cX5_storey 29 = .ok (.iaload, 1) := by decide +kernel
theorem dX5_storey_30 : decode cX5_storey 30 = .ok (.goto 5, 3) := by decide +kernel
theorem dX5_storey_33 : decode cX5_storey 33 = .ok (.bipush (-3), 2) := by decide +kernel
theorem dX5_storey_35 : decode cX5_storey 35 = .ok (.ireturn, 1) := by decide +kernel
theorem dX5_as_0 : decode cX5_as 0 = .ok (.aload_n 0, 1) := by decide +kernel
theorem dX5_as_1 : decode cX5_as 1 = .ok (.iload_n 1, 1) := by decide +kernel
theorem dX5_as_2 : decode cX5_as 2 = .ok (.invokevirtual 172, 3) := by decide +kernel
theorem dX5_as_5 : decode cX5_as 5 = .ok (.ifCond .ne 6, 3) := by decide +kernel
theorem dX5_as_8 : decode cX5_as 8 = .ok (.bipush (-2), 2) := by decide +kernel
theorem dX5_as_10 : decode cX5_as 10 = .ok (.ireturn, 1) := by decide +kernel
theorem dX5_as_11 : decode cX5_as 11 = .ok (.iload_n 2, 1) := by decide +kernel
theorem dX5_as_12 : decode cX5_as 12 = .ok (.iconst 0, 1) := by decide +kernel
theorem dX5_as_13 : decode cX5_as 13 = .ok (.iconst 4, 1) := by decide +kernel
theorem dX5_as_14 : decode cX5_as 14 = .ok (.invokestatic 60, 3) := by decide +kernel
theorem dX5_as_17 : decode cX5_as 17 = .ok (.ifCond .ne 6, 3) := by decide +kernel
theorem dX5_as_20 : decode cX5_as 20 = .ok (.bipush (-3), 2) := by decide +kernel
theorem dX5_as_22 : decode cX5_as 22 = .ok (.ireturn, 1) := by decide +kernel
theorem dX5_as_23 : decode cX5_as 23 = .ok (.aload_n 0, 1) := by decide +kernel
theorem dX5_as_24 : decode cX5_as 24 = .ok (.getfield 7, 3) := by decide +kernel
theorem dX5_as_27 : decode cX5_as 27 = .ok (.iconst 5, 1) := by decide +kernel
theorem dX5_as_28 : decode cX5_as 28 = .ok (.iload_n 1, 1) := by decide +kernel
theorem dX5_as_29 : decode cX5_as 29 = .ok (.imul, 1) := by decide +kernel
theorem dX5_as_30 : decode cX5_as 30 = .ok (.iaload, 1) := by decide +kernel
theorem dX5_as_31 : decode cX5_as 31 = .ok (.istore_n 3, 1) := by decide +kernel
theorem dX5_as_32 : decode cX5_as 32 = .ok (.iload_n 2, 1) := by decide +kernel
theorem dX5_as_33 : decode cX5_as 33 = .ok (.ifCond .eq 47, 3) := by decide +kernel
theorem dX5_as_36 : decode cX5_as 36 = .ok (.iload_n 2, 1) := by decide +kernel
theorem dX5_as_37 : decode cX5_as 37 = .ok (.iconst 1, 1) := by decide +kernel
theorem dX5_as_38 : decode cX5_as 38 = .ok (.if_icmp .ne 11, 3) := by decide +kernel
theorem dX5_as_41 : decode cX5_as 41 = .ok (.iload_n 3, 1) := by decide +kernel
theorem dX5_as_42 : decode cX5_as 42 = .ok (.iconst 3, 1) := by decide +kernel
theorem dX5_as_43 : decode cX5_as 43 = .ok (.if_icmp .ge 41, 3) := by decide +kernel
theorem dX5_as_46 : decode cX5_as 46 = .ok (.goto 34, 3) := by decide +kernel
theorem dX5_as_49 : decode cX5_as 49 = .ok (.iload_n 2, 1) := by decide +kernel
theorem dX5_as_50 : decode cX5_as 50 = .ok (.iconst 2, 1) := by decide +kernel
theorem dX5_as_51 : decode cX5_as 51 = .ok (.if_icmp .ne 11, 3) := by decide +kernel
theorem dX5_as_54 : decode cX5_as 54 = .ok (.iload_n 3, 1) := by decide +kernel
theorem dX5_as_55 : decode cX5_as 55 = .ok (.iconst 1, 1) := by decide +kernel
theorem dX5_as_56 : decode cX5_as 56 = .ok (.if_icmp .ne 28, 3) := by decide +kernel
theorem dX5_as_59 : decode cX5_as 59 = .ok (.goto 21, 3) := by decide +kernel
theorem dX5_as_62 : decode cX5_as 62 = .ok (.iload_n 2, 1) := by decide +kernel
theorem dX5_as_63 : decode cX5_as 63 = .ok (.iconst 3, 1) := by decide +kernel
theorem dX5_as_64 : decode cX5_as 64 = .ok (.if_icmp .ne 11, 3) := by decide +kernel
theorem dX5_as_67 : decode cX5_as 67 = .ok (.iload_n 3, 1) := by decide +kernel
theorem dX5_as_68 : decode cX5_as 68 = .ok (.iconst 2, 1) := by decide +kernel
theorem dX5_as_69 : decode cX5_as 69 = .ok (.if_icmp .ne 15, 3) := by decide +kernel
theorem dX5_as_72 : decode cX5_as 72 = .ok (.goto 8, 3) := by decide +kernel
theorem dX5_as_75 : decode cX5_as 75 = .ok (.iload_n 3, 1) := by decide +kernel
theorem dX5_as_76 : decode cX5_as 76 = .ok (.iconst 3, 1) := by decide +kernel
theorem dX5_as_77 : decode cX5_as 77 = .ok (.if_icmp .ne 7, 3) := by decide +kernel
theorem dX5_as_80 : decode cX5_as 80 = .ok (.iconst 1, 1) := by decide +kernel
theorem dX5_as_81 : decode cX5_as 81 = .ok (.goto 4, 3) := by decide +kernel
theorem dX5_as_84 : decode cX5_as 84 = .ok (.iconst 0, 1) := by decide +kernel
theorem dX5_as_85 : decode cX5_as 85 = .ok (.istore 4, 2) := by decide +kernel
theorem dX5_as_87 : decode cX5_as 87 = .ok (.iload 4, 2) := by decide +kernel
theorem dX5_as_89 : decode cX5_as 89 = .ok (.ifCond .eq 11, 3) := by decide +kernel
theorem dX5_as_92 : decode cX5_as 92 = .ok (.aload_n 0, 1) := by decide +kernel
theorem dX5_as_93 : decode cX5_as 93 = .ok (.iload_n 1, 1) := by decide +kernel
theorem dX5_as_94 : decode cX5_as 94 = .ok (.invokevirtual 175, 3) := by decide +kernel
theorem dX5_as_97 : decode cX5_as 97 = .ok (.goto 5, 3) := by decide +kernel
theorem dX5_as_100 : decode cX5_as 100 = .ok (.bipush (-4), 2) := by decide +kernel
theorem dX5_as_102 : decode cX5_as 102 = .ok (.ireturn, 1) := by decide +kernel
theorem dX5_bits_0 : decode cX5_bits 0 = .ok (.iconst 0, 1) := by decide +kernel
theorem dX5_bits_1 : decode cX5_bits 1 = .ok (.istore_n 1, 1) := by decide +kernel
theorem dX5_bits_2 : decode cX5_bits 2 = .ok (.iconst 0, 1) := by decide +kernel
theorem dX5_bits_3 : decode cX5_bits 3 = .ok (.istore_n 2, 1) := by decide +kernel
theorem dX5_bits_4 : decode cX5_bits 4 = .ok (.iload_n 2, 1) := by decide +kernel
theorem dX5_bits_5 : decode cX5_bits 5 = .ok (.bipush 8, 2) := by decide +kernel
theorem dX5_bits_7 : decode cX5_bits 7 = .ok (.if_icmp .ge 17, 3) := by decide +kernel
theorem dX5_bits_10 : decode cX5_bits 10 = .ok (.iload_n 1, 1) := by decide +kernel
theorem dX5_bits_11 : decode cX5_bits 11 = .ok (.iload_n 0, 1) := by decide +kernel
theorem dX5_bits_12 : decode cX5_bits 12 = .ok (.iload_n 2, 1) := by decide +kernel
theorem dX5_bits_13 : decode cX5_bits 13 = .ok (.ishr, 1) := by decide +kernel
theorem dX5_bits_14 : decode cX5_bits 14 = .ok (.iconst 1, 1) := by decide +kernel
theorem dX5_bits_15 : decode cX5_bits 15 = .ok (.iand, 1) := by decide +kernel
theorem dX5_bits_16 : decode cX5_bits 16 = .ok (.iadd, 1) := by decide +kernel
theorem dX5_bits_17 : decode cX5_bits 17 = .ok (.istore_n 1, 1) := by decide +kernel
theorem dX5_bits_18 : decode cX5_bits 18 = .ok (.iinc 2 1, 3) := by decide +kernel
theorem dX5_bits_21 : decode cX5_bits 21 = .ok (.goto (-17), 3) := by decide +kernel
theorem dX5_bits_24 : decode cX5_bits 24 = .ok (.iload_n 1, 1) := by decide +kernel
theorem dX5_bits_25 : decode cX5_bits 25 = .ok (.ireturn, 1) := by decide +kernel
theorem dX5_loadOfAll_0 : decode cX5_loadOfAll 0 = .ok (.iconst 0, 1) := by decide +kernel
theorem dX5_loadOfAll_1 : decode cX5_loadOfAll 1 = .ok (.istore_n 2, 1) := by decide +kernel
theorem dX5_loadOfAll_2 : decode cX5_loadOfAll 2 = .ok (.iconst 0, 1) := by decide +kernel
theorem dX5_loadOfAll_3 : decode cX5_loadOfAll 3 = .ok (.istore_n 3, 1) := by decide +kernel
theorem dX5_loadOfAll_4 : decode cX5_loadOfAll 4 = .ok (.iload_n 3, 1) := by decide +kernel
theorem dX5_loadOfAll_5 : decode cX5_loadOfAll 5 = .ok (.aload_n 0, 1) := by decide +kernel
theorem dX5_loadOfAll_6 : decode cX5_loadOfAll 6 = .ok (.getfield 57, 3) := by decide +kernel
theorem dX5_loadOfAll_9 : decode cX5_loadOfAll 9 = .ok (.if_icmp .ge 29, 3) := by decide +kernel
theorem dX5_loadOfAll_12 : decode cX5_loadOfAll 12 = .ok (.iload_n 2, 1) := by decide +kernel
theorem dX5_loadOfAll_13 : decode cX5_loadOfAll 13 = .ok (.iload_n 1, 1) := by decide +kernel
theorem dX5_loadOfAll_14 : decode cX5_loadOfAll 14 = .ok (.iload_n 3, 1) := by decide +kernel
theorem dX5_loadOfAll_15 : decode cX5_loadOfAll 15 = .ok (.invokestatic 179, 3) := by decide +kernel
theorem dX5_loadOfAll_18 : decode cX5_loadOfAll 18 = .ok (.ifCond .eq 11, 3) := by decide +kernel
theorem dX5_loadOfAll_21 : decode cX5_loadOfAll 21 = .ok (.aload_n 0, 1) := by decide +kernel
theorem dX5_loadOfAll_22 : decode cX5_loadOfAll 22 = .ok (.iload_n 3, 1) := by decide +kernel
theorem dX5_loadOfAll_23 : decode cX5_loadOfAll 23 = .ok (.invokevirtual 175, 3) := by decide +kernel
theorem dX5_loadOfAll_26 : decode cX5_loadOfAll 26 = .ok (.goto 4, 3) := by decide +kernel
theorem dX5_loadOfAll_29 : decode cX5_loadOfAll 29 = .ok (.iconst 0, 1) := by decide +kernel
theorem dX5_loadOfAll_30 : decode cX5_loadOfAll 30 = .ok (.iadd, 1) := by decide +kernel
theorem dX5_loadOfAll_31 : decode cX5_loadOfAll 31 = .ok (.istore_n 2, 1) := by decide +kernel
theorem dX5_loadOfAll_32 : decode cX5_loadOfAll 32 = .ok (.iinc 3 1, 3) := by decide +kernel
theorem dX5_loadOfAll_35 : decode cX5_loadOfAll 35 = .ok (.goto (-31), 3) := by decide +kernel
theorem dX5_loadOfAll_38 : decode cX5_loadOfAll 38 = .ok (.iload_n 2, 1) := by decide +kernel
theorem dX5_loadOfAll_39 : decode cX5_loadOfAll 39 = .ok (.ireturn, 1) := by decide +kernel
theorem dX5_hasPlace_0 : decode cX5_hasPlace 0 = .ok (.aload_n 0, 1) := by decide +kernel
theorem dX5_hasPlace_1 : decode cX5_hasPlace 1 = .ok (.getfield 7, 3) := by decide +kernel
theorem dX5_hasPlace_4 : decode cX5_hasPlace 4 = .ok (.iconst 5, 1) := by decide +kernel
theorem dX5_hasPlace_5 : decode cX5_hasPlace 5 = .ok (.iload_n 1, 1) := by decide +kernel
theorem dX5_hasPlace_6 : decode cX5_hasPlace 6 = .ok (.imul, 1) := by decide +kernel
theorem dX5_hasPlace_7 : decode cX5_hasPlace 7 = .ok (.iaload, 1) := by decide +kernel
theorem dX5_hasPlace_8 : decode cX5_hasPlace 8 = .ok (.iconst 1, 1) := by decide +kernel
theorem dX5_hasPlace_9 : decode cX5_hasPlace 9 = .ok (.if_icmp .ne 7, 3) := by decide +kernel
theorem dX5_hasPlace_12 : decode cX5_hasPlace 12 = .ok (.iload_n 2, 1) := by decide +kernel
theorem dX5_hasPlace_13 : decode cX5_hasPlace 13 = .ok (.ifCond .ne 27, 3) := by decide +kernel
theorem dX5_hasPlace_16 : decode cX5_hasPlace 16 = .ok (.aload_n 0, 1) := by decide +kernel
theorem dX5_hasPlace_17 : decode cX5_hasPlace 17 = .ok (.getfield 7, 3) := by decide +kernel
theorem dX5_hasPlace_20 : decode cX5_hasPlace 20 = .ok (.iconst 5, 1) := by decide +kernel
theorem dX5_hasPlace_21 : decode cX5_hasPlace 21 = .ok (.iload_n 1, 1) := by decide +kernel
theorem dX5_hasPlace_22 : decode cX5_hasPlace 22 = .ok (.imul, 1) := by decide +kernel
theorem dX5_hasPlace_23 : decode cX5_hasPlace 23 = .ok (.iaload, 1) := by decide +kernel
theorem dX5_hasPlace_24 : decode cX5_hasPlace 24 = .ok (.iconst 3, 1) := by decide +kernel
theorem dX5_hasPlace_25 : decode cX5_hasPlace 25 = .ok (.if_icmp .ne 11, 3) := by decide +kernel
theorem dX5_hasPlace_28 : decode cX5_hasPlace 28 = .ok (.iload_n 2, 1) := by decide +kernel
theorem dX5_hasPlace_29 : decode cX5_hasPlace 29 = .ok (.invokestatic 183, 3) := by decide +kernel
theorem dX5_hasPlace_32 : decode cX5_hasPlace 32 = .ok (.iconst 3, 1) := by decide +kernel
theorem dX5_hasPlace_33 : decode cX5_hasPlace 33 = .ok (.if_icmp .ge 7, 3) := by decide +kernel
theorem dX5_hasPlace_36 : decode cX5_hasPlace 36 = .ok (.iconst 1, 1) := by decide +kernel
theorem dX5_hasPlace_37 : decode cX5_hasPlace 37 = .ok (.goto 4, 3) := by decide +kernel
theorem dX5_hasPlace_40 : decode cX5_hasPlace 40 = .ok (.iconst 0, 1) := by decide +kernel
theorem dX5_hasPlace_41 : decode cX5_hasPlace 41 = .ok (.istore_n 3, 1) := by decide +kernel
theorem dX5_hasPlace_42 : decode cX5_hasPlace 42 = .ok (.iconst 0, 1) := by decide +kernel
theorem dX5_hasPlace_43 : decode cX5_hasPlace 43 = .ok (.istore 4, 2) := by decide +kernel
theorem dX5_hasPlace_45 : decode cX5_hasPlace 45 = .ok (.iload 4, 2) := by decide +kernel
theorem dX5_hasPlace_47 : decode cX5_hasPlace 47 = .ok (.aload_n 0, 1) := by decide +kernel
theorem dX5_hasPlace_48 : decode cX5_hasPlace 48 = .ok (.getfield 57, 3) := by decide +kernel
theorem dX5_hasPlace_51 : decode cX5_hasPlace 51 = .ok (.if_icmp .ge 41, 3) := by decide +kernel
theorem dX5_hasPlace_54 : decode cX5_hasPlace 54 = .ok (.iload_n 3, 1) := by decide +kernel
theorem dX5_hasPlace_55 : decode cX5_hasPlace 55 = .ok (.ifCond .eq 29, 3) := by decide +kernel
theorem dX5_hasPlace_58 : decode cX5_hasPlace 58 = .ok (.iload_n 2, 1) := by decide +kernel
theorem dX5_hasPlace_59 : decode cX5_hasPlace 59 = .ok (.iload 4, 2) := by decide +kernel
theorem dX5_hasPlace_61 : decode cX5_hasPlace 61 = .ok (.invokestatic 179, 3) := by decide +kernel
theorem dX5_hasPlace_64 : decode cX5_hasPlace 64 = .ok (.ifCond .eq 16, 3) := by decide +kernel
theorem dX5_hasPlace_67 : decode cX5_hasPlace 67 = .ok (.aload_n 0, 1) := by decide +kernel
theorem dX5_hasPlace_68 : decode cX5_hasPlace 68 = .ok (.getfield 7, 3) := by decide +kernel
theorem dX5_hasPlace_71 : decode cX5_hasPlace 71 = .ok (.iconst 5, 1) := by decide +kernel
theorem dX5_hasPlace_72 : decode cX5_hasPlace 72 = .ok (.iload 4, 2) := by decide +kernel
theorem dX5_hasPlace_74 : decode cX5_hasPlace 74 = .ok (.imul, 1) := by decide +kernel
theorem dX5_hasPlace_75 : decode cX5_hasPlace 75 = .ok (.iaload, 1) := by decide +kernel
theorem dX5_hasPlace_76 : decode cX5_hasPlace 76 = .ok (.iconst 2, 1) := by decide +kernel
theorem dX5_hasPlace_77 : decode cX5_hasPlace 77 = .ok (.if_icmp .eq 7, 3) := by decide +kernel
theorem dX5_hasPlace_80 : decode cX5_hasPlace 80 = .ok (.iconst 1, 1) := by decide +kernel
theorem dX5_hasPlace_81 : decode cX5_hasPlace 81 = .ok (.goto 4, 3) := by decide +kernel
theorem dX5_hasPlace_84 : decode cX5_hasPlace 84 = .ok (.iconst 0, 1) := by decide +kernel
theorem dX5_hasPlace_85 : decode cX5_hasPlace 85 = .ok (.istore_n 3, 1) := by decide +kernel
theorem dX5_hasPlace_86 : decode cX5_hasPlace 86 = .ok (.iinc 4 1, 3) := by decide +kernel
theorem dX5_hasPlace_89 : decode cX5_hasPlace 89 = .ok (.goto (-44), 3) := by decide +kernel
theorem dX5_hasPlace_92 : decode cX5_hasPlace 92 = .ok (.iconst 0, 1) := by decide +kernel
theorem dX5_hasPlace_93 : decode cX5_hasPlace 93 = .ok (.istore 4, 2) := by decide +kernel
theorem dX5_hasPlace_95 : decode cX5_hasPlace 95 = .ok (.iload 4, 2) := by decide +kernel
theorem dX5_hasPlace_97 : decode cX5_hasPlace 97 = .ok (.aload_n 0, 1) := by decide +kernel
theorem dX5_hasPlace_98 : decode cX5_hasPlace 98 = .ok (.getfield 149, 3) := by decide +kernel
theorem dX5_hasPlace_101 : decode cX5_hasPlace 101 = .ok (.if_icmp .ge 50, 3) := by decide +kernel
theorem dX5_hasPlace_104 : decode cX5_hasPlace 104 = .ok (.iload_n 3, 1) := by decide +kernel
theorem dX5_hasPlace_105 : decode cX5_hasPlace 105 = .ok (.ifCond .eq 38, 3) := by decide +kernel
theorem dX5_hasPlace_108 : decode cX5_hasPlace 108 = .ok (.aload_n 0, 1) := by decide +kernel
theorem dX5_hasPlace_109 : decode cX5_hasPlace 109 = .ok (.getfield 23, 3) := by decide +kernel
theorem dX5_hasPlace_112 : decode cX5_hasPlace 112 = .ok (.iconst 2, 1) := by decide +kernel
theorem dX5_hasPlace_113 : decode cX5_hasPlace 113 = .ok (.iload 4, 2) := by decide +kernel
theorem dX5_hasPlace_115 : decode cX5_hasPlace 115 = .ok (.imul, 1) := by decide +kernel
theorem dX5_hasPlace_116 : decode cX5_hasPlace 116 = .ok (.iconst 1, 1) := by decide +kernel
theorem dX5_hasPlace_117 : decode cX5_hasPlace 117 = .ok (.iadd, 1) := by decide +kernel
theorem dX5_hasPlace_118 : decode cX5_hasPlace 118 = .ok (.iaload, 1) := by decide +kernel
theorem dX5_hasPlace_119 : decode cX5_hasPlace 119 = .ok (.iload_n 1, 1) := by decide +kernel
theorem dX5_hasPlace_120 : decode cX5_hasPlace 120 = .ok (.if_icmp .ne 19, 3) := by decide +kernel
theorem dX5_hasPlace_123 : decode cX5_hasPlace 123 = .ok (.iload_n 2, 1) := by decide +kernel
theorem dX5_hasPlace_124 : decode cX5_hasPlace 124 = .ok (.aload_n 0, 1) := by decide +kernel
theorem dX5_hasPlace_125 : decode cX5_hasPlace 125 = .ok (.getfield 23, 3) := by decide +kernel
theorem dX5_hasPlace_128 : decode cX5_hasPlace 128 = .ok (.iconst 2, 1) := by decide +kernel
theorem dX5_hasPlace_129 : decode cX5_hasPlace 129 = .ok (.iload 4, 2) := by decide +kernel
theorem dX5_hasPlace_131 : decode cX5_hasPlace 131 = .ok (.imul, 1) := by decide +kernel
theorem dX5_hasPlace_132 : decode cX5_hasPlace 132 = .ok (.iaload, 1) := by decide +kernel
theorem dX5_hasPlace_133 : decode cX5_hasPlace 133 = .ok (.invokestatic 179, 3) := by decide +kernel
theorem dX5_hasPlace_136 : decode cX5_hasPlace 136 = .ok (.ifCond .eq 7, 3) := by decide +kernel
theorem dX5_hasPlace_139 : decode cX5_hasPlace 139 = .ok (.iconst 1, 1) := by decide +kernel
theorem dX5_hasPlace_140 : decode cX5_hasPlace 140 = .ok (.goto 4, 3) := by decide +kernel
theorem dX5_hasPlace_143 : decode cX5_hasPlace 143 = .ok (.iconst 0, 1) := by decide +kernel
theorem dX5_hasPlace_144 : decode cX5_hasPlace 144 = .ok (.istore_n 3, 1) := by decide +kernel
theorem dX5_hasPlace_145 : decode cX5_hasPlace 145 = .ok (.iinc 4 1, 3) := by decide +kernel
theorem dX5_hasPlace_148 : decode cX5_hasPlace 148 = .ok (.goto (-53), 3) := by decide +kernel
theorem dX5_hasPlace_151 : decode cX5_hasPlace 151 = .ok (.iload_n 3, 1) := by decide +kernel
theorem dX5_hasPlace_152 : decode cX5_hasPlace 152 = .ok (.ireturn, 1) := by decide +kernel
theorem dX5_whyBy_0 : decode cX5_whyBy 0 = .ok (.aload_n 0, 1) := by decide +kernel
theorem dX5_whyBy_1 : decode cX5_whyBy 1 = .ok (.iload_n 2, 1) := by decide +kernel
theorem dX5_whyBy_2 : decode cX5_whyBy 2 = .ok (.invokevirtual 186, 3) := by decide +kernel
theorem dX5_whyBy_5 : decode cX5_whyBy 5 = .ok (.istore 4, 2) := by decide +kernel
theorem dX5_whyBy_7 : decode cX5_whyBy 7 = .ok (.iload_n 2, 1) := by decide +kernel
theorem dX5_whyBy_8 : decode cX5_whyBy 8 = .ok (.iload_n 1, 1) := by decide +kernel
theorem dX5_whyBy_9 : decode cX5_whyBy 9 = .ok (.invokestatic 179, 3) := by decide +kernel
theorem dX5_whyBy_12 : decode cX5_whyBy 12 = .ok (.ifCond .eq 7, 3) := by decide +kernel
theorem dX5_whyBy_15 : decode cX5_whyBy 15 = .ok (.iconst 1, 1) := by decide +kernel
theorem dX5_whyBy_16 : decode cX5_whyBy 16 = .ok (.goto 46, 3) := by decide +kernel
theorem dX5_whyBy_19 : decode cX5_whyBy 19 = .ok (.aload_n 0, 1) := by decide +kernel
theorem dX5_whyBy_20 : decode cX5_whyBy 20 = .ok (.iload_n 1, 1) := by decide +kernel
theorem dX5_whyBy_21 : decode cX5_whyBy 21 = .ok (.iload_n 2, 1) := by decide +kernel
theorem dX5_whyBy_22 : decode cX5_whyBy 22 = .ok (.invokevirtual 189, 3) := by decide +kernel
theorem dX5_whyBy_25 : decode cX5_whyBy 25 = .ok (.ifCond .ne 7, 3) := by decide +kernel
theorem dX5_whyBy_28 : decode cX5_whyBy 28 = .ok (.iconst 2, 1) := by decide +kernel
theorem dX5_whyBy_29 : decode cX5_whyBy 29 = .ok (.goto 33, 3) := by decide +kernel
theorem dX5_whyBy_32 : decode cX5_whyBy 32 = .ok (.aload_n 0, 1) := by decide +kernel
theorem dX5_whyBy_33 : decode cX5_whyBy 33 = .ok (.getfield 7, 3) := by decide +kernel
theorem dX5_whyBy_36 : decode cX5_whyBy 36 = .ok (.iconst 5, 1) := by decide +kernel
theorem dX5_whyBy_37 : decode cX5_whyBy 37 = .ok (.iload_n 1, 1) := by decide +kernel
theorem dX5_whyBy_38 : decode cX5_whyBy 38 = .ok (.imul, 1) := by decide +kernel
theorem dX5_whyBy_39 : decode cX5_whyBy 39 = .ok (.iconst 2, 1) := by decide +kernel
theorem dX5_whyBy_40 : decode cX5_whyBy 40 = .ok (.iadd, 1) := by decide +kernel
theorem dX5_whyBy_41 : decode cX5_whyBy 41 = .ok (.iaload, 1) := by decide +kernel
theorem dX5_whyBy_42 : decode cX5_whyBy 42 = .ok (.iload 4, 2) := by decide +kernel
theorem dX5_whyBy_44 : decode cX5_whyBy 44 = .ok (.if_icmp .ge 7, 3) := by decide +kernel
theorem dX5_whyBy_47 : decode cX5_whyBy 47 = .ok (.iconst 3, 1) := by decide +kernel
theorem dX5_whyBy_48 : decode cX5_whyBy 48 = .ok (.goto 14, 3) := by decide +kernel
theorem dX5_whyBy_51 : decode cX5_whyBy 51 = .ok (.iload_n 3, 1) := by decide +kernel
theorem dX5_whyBy_52 : decode cX5_whyBy 52 = .ok (.iload 4, 2) := by decide +kernel
theorem dX5_whyBy_54 : decode cX5_whyBy 54 = .ok (.if_icmp .ge 7, 3) := by decide +kernel
theorem dX5_whyBy_57 : decode cX5_whyBy 57 = .ok (.iconst 4, 1) := by decide +kernel
theorem dX5_whyBy_58 : decode cX5_whyBy 58 = .ok (.goto 4, 3) := by decide +kernel
theorem dX5_whyBy_61 : decode cX5_whyBy 61 = .ok (.iconst 0, 1) := by decide +kernel
theorem dX5_whyBy_62 : decode cX5_whyBy 62 = .ok (.ireturn, 1) := by decide +kernel
theorem dX5_windOf_0 : decode cX5_windOf 0 = .ok (.iload_n 1, 1) := by decide +kernel
theorem dX5_windOf_1 : decode cX5_windOf 1 = .ok (.bipush 40, 2) := by decide +kernel
theorem dX5_windOf_3 : decode cX5_windOf 3 = .ok (.if_icmp .ge 12, 3) := by decide +kernel
theorem dX5_windOf_6 : decode cX5_windOf 6 = .ok (.aload_n 0, 1) := by decide +kernel
theorem dX5_windOf_7 : decode cX5_windOf 7 = .ok (.getfield 20, 3) := by decide +kernel
theorem dX5_windOf_10 : decode cX5_windOf 10 = .ok (.iload_n 1, 1) := by decide +kernel
theorem dX5_windOf_11 : decode cX5_windOf 11 = .ok (.iaload, 1) := by decide +kernel
theorem dX5_windOf_12 : decode cX5_windOf 12 = .ok (.goto 4, 3) := by decide +kernel
theorem dX5_windOf_15 : decode cX5_windOf 15 = .ok (.iconst 0, 1) := by decide +kernel
theorem dX5_windOf_16 : decode cX5_windOf 16 = .ok (.ireturn, 1) := by decide +kernel
theorem dX5_upSet_0 : decode cX5_upSet 0 = .ok (.iconst 0, 1) := by decide +kernel
theorem dX5_upSet_1 : decode cX5_upSet 1 = .ok (.istore_n 1, 1) := by decide +kernel
theorem dX5_upSet_2 : decode cX5_upSet 2 = .ok (.iconst 0, 1) := by decide +kernel
theorem dX5_upSet_3 : decode cX5_upSet 3 = .ok (.istore_n 2, 1) := by decide +kernel
theorem dX5_upSet_4 : decode cX5_upSet 4 = .ok (.iload_n 2, 1) := by decide +kernel
theorem dX5_upSet_5 : decode cX5_upSet 5 = .ok (.aload_n 0, 1) := by decide +kernel
theorem dX5_upSet_6 : decode cX5_upSet 6 = .ok (.getfield 32, 3) := by decide +kernel
theorem dX5_upSet_9 : decode cX5_upSet 9 = .ok (.iconst 0, 1) := by decide +kernel
theorem dX5_upSet_10 : decode cX5_upSet 10 = .ok (.iaload, 1) := by decide +kernel
theorem dX5_upSet_11 : decode cX5_upSet 11 = .ok (.if_icmp .ge 22, 3) := by decide +kernel
theorem dX5_upSet_14 : decode cX5_upSet 14 = .ok (.iload_n 1, 1) := by decide +kernel
theorem dX5_upSet_15 : decode cX5_upSet 15 = .ok (.iconst 1, 1) := by decide +kernel
theorem dX5_upSet_16 : decode cX5_upSet 16 = .ok (.aload_n 0, 1) := by decide +kernel
theorem dX5_upSet_17 : decode cX5_upSet 17 = .ok (.getfield 32, 3) := by decide +kernel
theorem dX5_upSet_20 : decode cX5_upSet 20 = .ok (.iconst 2, 1) := by decide +kernel
theorem dX5_upSet_21 : decode cX5_upSet 21 = .ok (.iload_n 2, 1) := by decide +kernel
theorem dX5_upSet_22 : decode cX5_upSet 22 = .ok (.iadd, 1) := by decide +kernel
theorem dX5_upSet_23 : decode cX5_upSet 23 = .ok (.iaload, 1) := by decide +kernel
theorem dX5_upSet_24 : decode cX5_upSet 24 = .ok (.ishl, 1) := by decide +kernel
theorem dX5_upSet_25 : decode cX5_upSet 25 = .ok (.ior, 1) := by decide +kernel
theorem dX5_upSet_26 : decode cX5_upSet 26 = .ok (.istore_n 1, 1) := by decide +kernel
theorem dX5_upSet_27 : decode cX5_upSet 27 = .ok (.iinc 2 1, 3) := by decide +kernel
theorem dX5_upSet_30 : decode cX5_upSet 30 = .ok (.goto (-26), 3) := by decide +kernel
theorem dX5_upSet_33 : decode cX5_upSet 33 = .ok (.iload_n 1, 1) := by decide +kernel
theorem dX5_upSet_34 : decode cX5_upSet 34 = .ok (.ireturn, 1) := by decide +kernel
theorem dX5_whyNow_0 : decode cX5_whyNow 0 = .ok (.aload_n 0, 1) := by decide +kernel
theorem dX5_whyNow_1 : decode cX5_whyNow 1 = .ok (.iload_n 1, 1) := by decide +kernel
theorem dX5_whyNow_2 : decode cX5_whyNow 2 = .ok (.aload_n 0, 1) := by decide +kernel
theorem dX5_whyNow_3 : decode cX5_whyNow 3 = .ok (.invokevirtual 192, 3) := by decide +kernel
theorem dX5_whyNow_6 : decode cX5_whyNow 6 = .ok (.aload_n 0, 1) := by decide +kernel
theorem dX5_whyNow_7 : decode cX5_whyNow 7 = .ok (.getfield 13, 3) := by decide +kernel
theorem dX5_whyNow_10 : decode cX5_whyNow 10 = .ok (.invokevirtual 196, 3) := by decide +kernel
theorem dX5_whyNow_13 : decode cX5_whyNow 13 = .ok (.istore_n 2, 1) := by decide +kernel
theorem dX5_whyNow_14 : decode cX5_whyNow 14 = .ok (.iload_n 2, 1) := by decide +kernel
theorem dX5_whyNow_15 : decode cX5_whyNow 15 = .ok (.ifCond .ne 22, 3) := by decide +kernel
theorem dX5_whyNow_18 : decode cX5_whyNow 18 = .ok (.aload_n 0, 1) := by decide +kernel
theorem dX5_whyNow_19 : decode cX5_whyNow 19 = .ok (.aload_n 0, 1) := by decide +kernel
theorem dX5_whyNow_20 : decode cX5_whyNow 20 = .ok (.getfield 32, 3) := by decide +kernel
theorem dX5_whyNow_23 : decode cX5_whyNow 23 = .ok (.iconst 1, 1) := by decide +kernel
theorem dX5_whyNow_24 : decode cX5_whyNow 24 = .ok (.iaload, 1) := by decide +kernel
theorem dX5_whyNow_25 : decode cX5_whyNow 25 = .ok (.invokevirtual 200, 3) := by decide +kernel
theorem dX5_whyNow_28 : decode cX5_whyNow 28 = .ok (.bipush 9, 2) := by decide +kernel
theorem dX5_whyNow_30 : decode cX5_whyNow 30 = .ok (.if_icmp .ne 7, 3) := by decide +kernel
theorem dX5_whyNow_33 : decode cX5_whyNow 33 = .ok (.iconst 5, 1) := by decide +kernel
theorem dX5_whyNow_34 : decode cX5_whyNow 34 = .ok (.goto 4, 3) := by decide +kernel
theorem dX5_whyNow_37 : decode cX5_whyNow 37 = .ok (.iload_n 2, 1) := by decide +kernel
theorem dX5_whyNow_38 : decode cX5_whyNow 38 = .ok (.ireturn, 1) := by decide +kernel
theorem dX5_why_0 : decode cX5_why 0 = .ok (.aload_n 0, 1) := by decide +kernel
theorem dX5_why_1 : decode cX5_why 1 = .ok (.iload_n 1, 1) := by decide +kernel
theorem dX5_why_2 : decode cX5_why 2 = .ok (.invokevirtual 172, 3) := by decide +kernel
theorem dX5_why_5 : decode cX5_why 5 = .ok (.ifCond .eq 11, 3) := by decide +kernel
theorem dX5_why_8 : decode cX5_why 8 = .ok (.aload_n 0, 1) := by decide +kernel
theorem dX5_why_9 : decode cX5_why 9 = .ok (.iload_n 1, 1) := by decide +kernel
theorem dX5_why_10 : decode cX5_why 10 = .ok (.invokevirtual 203, 3) := by decide +kernel
theorem dX5_why_13 : decode cX5_why 13 = .ok (.goto 5, 3) := by decide +kernel
theorem dX5_why_16 : decode cX5_why 16 = .ok (.bipush (-2), 2) := by decide +kernel
theorem dX5_why_18 : decode cX5_why 18 = .ok (.ireturn, 1) := by decide +kernel
theorem dX5_lift_0 : decode cX5_lift 0 = .ok (.aload_n 0, 1) := by decide +kernel
theorem dX5_lift_1 : decode cX5_lift 1 = .ok (.iload_n 1, 1) := by decide +kernel
theorem dX5_lift_2 : decode cX5_lift 2 = .ok (.invokevirtual 172, 3) := by decide +kernel
theorem dX5_lift_5 : decode cX5_lift 5 = .ok (.ifCond .ne 6, 3) := by decide +kernel
theorem dX5_lift_8 : decode cX5_lift 8 = .ok (.bipush (-2), 2) := by decide +kernel
theorem dX5_lift_10 : decode cX5_lift 10 = .ok (.ireturn, 1) := by decide +kernel
theorem dX5_lift_11 : decode cX5_lift 11 = .ok (.aload_n 0, 1) := by decide +kernel
theorem dX5_lift_12 : decode cX5_lift 12 = .ok (.iload_n 1, 1) := by decide +kernel
theorem dX5_lift_13 : decode cX5_lift 13 = .ok (.invokevirtual 203, 3) := by decide +kernel
theorem dX5_lift_16 : decode cX5_lift 16 = .ok (.ifCond .eq 6, 3) := by decide +kernel
theorem dX5_lift_19 : decode cX5_lift 19 = .ok (.bipush (-4), 2) := by decide +kernel
theorem dX5_lift_21 : decode cX5_lift 21 = .ok (.ireturn, 1) := by decide +kernel
theorem dX5_lift_22 : decode cX5_lift 22 = .ok (.aload_n 0, 1) := by decide +kernel
theorem dX5_lift_23 : decode cX5_lift 23 = .ok (.getfield 32, 3) := by decide +kernel
