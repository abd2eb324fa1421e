theorem dX0_init_0 : decode cX0_init 0 = .ok (.aload_n 0, 1) := by decide +kernel
theorem dX0_init_1 : decode cX0_init 1 = .ok (.invokespecial 3, 3) := by decide +kernel
theorem dX0_init_4 : decode cX0_init 4 = .ok (.aload_n 0, 1) := by decide +kernel
theorem dX0_init_5 : decode cX0_init 5 = .ok (.new 9, 3) := by decide +kernel
theorem dX0_init_8 : decode cX0_init 8 = .ok (.dup, 1) := by decide +kernel
theorem dX0_init_9 : decode cX0_init 9 = .ok (.invokespecial 11, 3) := by decide +kernel
theorem dX0_init_12 : decode cX0_init 12 = .ok (.putfield 12, 3) := by decide +kernel
theorem dX0_init_15 : decode cX0_init 15 = .ok (.aload_n 0, 1) := by decide +kernel
theorem dX0_init_16 : decode cX0_init 16 = .ok (.iconst 3, 1) := by decide +kernel
theorem dX0_init_17 : decode cX0_init 17 = .ok (.newarray .int, 2) := by decide +kernel
theorem dX0_init_19 : decode cX0_init 19 = .ok (.putfield 18, 3) := by decide +kernel
theorem dX0_init_22 : decode cX0_init 22 = .ok (.aload_n 0, 1) := by decide +kernel
theorem dX0_init_23 : decode cX0_init 23 = .ok (.aload_n 1, 1) := by decide +kernel
theorem dX0_init_24 : decode cX0_init 24 = .ok (.putfield 22, 3) := by decide +kernel
theorem dX0_init_27 : decode cX0_init 27 = .ok (.return_, 1) := by decide +kernel
theorem dX0_firstFault_0 : decode cX0_firstFault 0 = .ok (.aload_n 0, 1) := by decide +kernel
theorem dX0_firstFault_1 : decode cX0_firstFault 1 = .ok (.getfield 12, 3) := by decide +kernel
theorem dX0_firstFault_4 : decode cX0_firstFault 4 = .ok (.aload_n 1, 1) := by decide +kernel
theorem dX0_firstFault_5 : decode cX0_firstFault 5 = .ok (.invokevirtual 26, 3) := by decide +kernel
theorem dX0_firstFault_8 : decode cX0_firstFault 8 = .ok (.aload_n 0, 1) := by decide +kernel
theorem dX0_firstFault_9 : decode cX0_firstFault 9 = .ok (.iconst 0, 1) := by decide +kernel
theorem dX0_firstFault_10 : decode cX0_firstFault 10 = .ok (.putfield 30, 3) := by decide +kernel
theorem dX0_firstFault_13 : decode cX0_firstFault 13 = .ok (.aload_n 0, 1) := by decide +kernel
theorem dX0_firstFault_14 : decode cX0_firstFault 14 = .ok (.invokevirtual 34, 3) := by decide +kernel
theorem dX0_firstFault_17 : decode cX0_firstFault 17 = .ok (.aload_n 0, 1) := by decide +kernel
theorem dX0_firstFault_18 : decode cX0_firstFault 18 = .ok (.iconst 0, 1) := by decide +kernel
theorem dX0_firstFault_19 : decode cX0_firstFault 19 = .ok (.putfield 37, 3) := by decide +kernel
theorem dX0_firstFault_22 : decode cX0_firstFault 22 = .ok (.aload_n 0, 1) := by decide +kernel
theorem dX0_firstFault_23 : decode cX0_firstFault 23 = .ok (.getfield 37, 3) := by decide +kernel
theorem dX0_firstFault_26 : decode cX0_firstFault 26 = .ok (.bipush 12, 2) := by decide +kernel
theorem dX0_firstFault_28 : decode cX0_firstFault 28 = .ok (.if_icmp .ge 75, 3) := by decide +kernel
theorem dX0_firstFault_31 : decode cX0_firstFault 31 = .ok (.aload_n 0, 1) := by decide +kernel
theorem dX0_firstFault_32 : decode cX0_firstFault 32 = .ok (.invokevirtual 40, 3) := by decide +kernel
theorem dX0_firstFault_35 : decode cX0_firstFault 35 = .ok (.ifCond .eq 68, 3) := by decide +kernel
theorem dX0_firstFault_38 : decode cX0_firstFault 38 = .ok (.aload_n 0, 1) := by decide +kernel
theorem dX0_firstFault_39 : decode cX0_firstFault 39 = .ok (.dup, 1) := by decide +kernel
theorem dX0_firstFault_40 : decode cX0_firstFault 40 = .ok (.getfield 37, 3) := by decide +kernel
theorem dX0_firstFault_43 : decode cX0_firstFault 43 = .ok (.iconst 1, 1) := by decide +kernel
theorem dX0_firstFault_44 : decode cX0_firstFault 44 = .ok (.iadd, 1) := by decide +kernel
theorem dX0_firstFault_45 : decode cX0_firstFault 45 = .ok (.putfield 37, 3) := by decide +kernel
theorem dX0_firstFault_48 : decode cX0_firstFault 48 = .ok (.aload_n 0, 1) := by decide +kernel
theorem dX0_firstFault_49 : decode cX0_firstFault 49 = .ok (.getfield 44, 3) := by decide +kernel
theorem dX0_firstFault_52 : decode cX0_firstFault 52 = .ok (.aload_n 0, 1) := by decide +kernel
theorem dX0_firstFault_53 : decode cX0_firstFault 53 = .ok (.getfield 22, 3) := by decide +kernel
theorem dX0_firstFault_56 : decode cX0_firstFault 56 = .ok (.getfield 47, 3) := by decide +kernel
theorem dX0_firstFault_59 : decode cX0_firstFault 59 = .ok (.if_icmp .ne 5, 3) := by decide +kernel
theorem dX0_firstFault_62 : decode cX0_firstFault 62 = .ok (.iconst (-1), 1) := by decide +kernel
theorem dX0_firstFault_63 : decode cX0_firstFault 63 = .ok (.ireturn, 1) := by decide +kernel
theorem dX0_firstFault_64 : decode cX0_firstFault 64 = .ok (.aload_n 0, 1) := by decide +kernel
theorem dX0_firstFault_65 : decode cX0_firstFault 65 = .ok (.getfield 37, 3) := by decide +kernel
theorem dX0_firstFault_68 : decode cX0_firstFault 68 = .ok (.bipush 12, 2) := by decide +kernel
theorem dX0_firstFault_70 : decode cX0_firstFault 70 = .ok (.if_icmp .eq 21, 3) := by decide +kernel
theorem dX0_firstFault_73 : decode cX0_firstFault 73 = .ok (.aload_n 0, 1) := by decide +kernel
theorem dX0_firstFault_74 : decode cX0_firstFault 74 = .ok (.getfield 22, 3) := by decide +kernel
theorem dX0_firstFault_77 : decode cX0_firstFault 77 = .ok (.aload_n 0, 1) := by decide +kernel
theorem dX0_firstFault_78 : decode cX0_firstFault 78 = .ok (.getfield 44, 3) := by decide +kernel
theorem dX0_firstFault_81 : decode cX0_firstFault 81 = .ok (.bipush 59, 2) := by decide +kernel
theorem dX0_firstFault_83 : decode cX0_firstFault 83 = .ok (.bipush 59, 2) := by decide +kernel
theorem dX0_firstFault_85 : decode cX0_firstFault 85 = .ok (.invokevirtual 52, 3) := by decide +kernel
theorem dX0_firstFault_88 : decode cX0_firstFault 88 = .ok (.ifCond .ne 8, 3) := by decide +kernel
theorem dX0_firstFault_91 : decode cX0_firstFault 91 = .ok (.aload_n 0, 1) := by decide +kernel
theorem dX0_firstFault_92 : decode cX0_firstFault 92 = .ok (.getfield 44, 3) := by decide +kernel
theorem dX0_firstFault_95 : decode cX0_firstFault 95 = .ok (.ireturn, 1) := by decide +kernel
theorem dX0_firstFault_96 : decode cX0_firstFault 96 = .ok (.aload_n 0, 1) := by decide +kernel
theorem dX0_firstFault_97 : decode cX0_firstFault 97 = .ok (.invokevirtual 34, 3) := by decide +kernel
theorem dX0_firstFault_100 : decode cX0_firstFault 100 = .ok (.goto (-78), 3) := by decide +kernel
theorem dX0_firstFault_103 : decode cX0_firstFault 103 = .ok (.aload_n 0, 1) := by decide +kernel
theorem dX0_firstFault_104 : decode cX0_firstFault 104 = .ok (.getfield 44, 3) := by decide +kernel
theorem dX0_firstFault_107 : decode cX0_firstFault 107 = .ok (.ireturn, 1) := by decide +kernel
theorem dX0_step_0 : decode cX0_step 0 = .ok (.aload_n 0, 1) := by decide +kernel
theorem dX0_step_1 : decode cX0_step 1 = .ok (.aload_n 0, 1) := by decide +kernel
theorem dX0_step_2 : decode cX0_step 2 = .ok (.getfield 22, 3) := by decide +kernel
theorem dX0_step_5 : decode cX0_step 5 = .ok (.aload_n 0, 1) := by decide +kernel
theorem dX0_step_6 : decode cX0_step 6 = .ok (.getfield 30, 3) := by decide +kernel
theorem dX0_step_9 : decode cX0_step 9 = .ok (.bipush 32, 2) := by decide +kernel
theorem dX0_step_11 : decode cX0_step 11 = .ok (.bipush 32, 2) := by decide +kernel
theorem dX0_step_13 : decode cX0_step 13 = .ok (.invokevirtual 56, 3) := by decide +kernel
theorem dX0_step_16 : decode cX0_step 16 = .ok (.putfield 44, 3) := by decide +kernel
theorem dX0_step_19 : decode cX0_step 19 = .ok (.aload_n 0, 1) := by decide +kernel
theorem dX0_step_20 : decode cX0_step 20 = .ok (.getfield 22, 3) := by decide +kernel
theorem dX0_step_23 : decode cX0_step 23 = .ok (.aload_n 0, 1) := by decide +kernel
theorem dX0_step_24 : decode cX0_step 24 = .ok (.getfield 44, 3) := by decide +kernel
theorem dX0_step_27 : decode cX0_step 27 = .ok (.bipush 97, 2) := by decide +kernel
theorem dX0_step_29 : decode cX0_step 29 = .ok (.bipush 122, 2) := by decide +kernel
theorem dX0_step_31 : decode cX0_step 31 = .ok (.invokevirtual 52, 3) := by decide +kernel
theorem dX0_step_34 : decode cX0_step 34 = .ok (.ifCond .eq 25, 3) := by decide +kernel
theorem dX0_step_37 : decode cX0_step 37 = .ok (.aload_n 0, 1) := by decide +kernel
theorem dX0_step_38 : decode cX0_step 38 = .ok (.aload_n 0, 1) := by decide +kernel
theorem dX0_step_39 : decode cX0_step 39 = .ok (.getfield 22, 3) := by decide +kernel
theorem dX0_step_42 : decode cX0_step 42 = .ok (.aload_n 0, 1) := by decide +kernel
theorem dX0_step_43 : decode cX0_step 43 = .ok (.getfield 44, 3) := by decide +kernel
theorem dX0_step_46 : decode cX0_step 46 = .ok (.bipush 97, 2) := by decide +kernel
theorem dX0_step_48 : decode cX0_step 48 = .ok (.bipush 122, 2) := by decide +kernel
theorem dX0_step_50 : decode cX0_step 50 = .ok (.invokevirtual 56, 3) := by decide +kernel
theorem dX0_step_53 : decode cX0_step 53 = .ok (.putfield 30, 3) := by decide +kernel
theorem dX0_step_56 : decode cX0_step 56 = .ok (.goto 63, 3) := by decide +kernel
theorem dX0_step_59 : decode cX0_step 59 = .ok (.aload_n 0, 1) := by decide +kernel
theorem dX0_step_60 : decode cX0_step 60 = .ok (.getfield 22, 3) := by decide +kernel
theorem dX0_step_63 : decode cX0_step 63 = .ok (.aload_n 0, 1) := by decide +kernel
theorem dX0_step_64 : decode cX0_step 64 = .ok (.getfield 44, 3) := by decide +kernel
theorem dX0_step_67 : decode cX0_step 67 = .ok (.bipush 48, 2) := by decide +kernel
theorem dX0_step_69 : decode cX0_step 69 = .ok (.bipush 57, 2) := by decide +kernel
theorem dX0_step_71 : decode cX0_step 71 = .ok (.invokevirtual 52, 3) := by decide +kernel
theorem dX0_step_74 : decode cX0_step 74 = .ok (.ifCond .eq 25, 3) := by decide +kernel
theorem dX0_step_77 : decode cX0_step 77 = .ok (.aload_n 0, 1) := by decide +kernel
theorem dX0_step_78 : decode cX0_step 78 = .ok (.aload_n 0, 1) := by decide +kernel
theorem dX0_step_79 : decode cX0_step 79 = .ok (.getfield 22, 3) := by decide +kernel
theorem dX0_step_82 : decode cX0_step 82 = .ok (.aload_n 0, 1) := by decide +kernel
theorem dX0_step_83 : decode cX0_step 83 = .ok (.getfield 44, 3) := by decide +kernel
theorem dX0_step_86 : decode cX0_step 86 = .ok (.bipush 48, 2) := by decide +kernel
theorem dX0_step_88 : decode cX0_step 88 = .ok (.bipush 57, 2) := by decide +kernel
theorem dX0_step_90 : decode cX0_step 90 = .ok (.invokevirtual 56, 3) := by decide +kernel
theorem dX0_step_93 : decode cX0_step 93 = .ok (.putfield 30, 3) := by decide +kernel
theorem dX0_step_96 : decode cX0_step 96 = .ok (.goto 23, 3) := by decide +kernel
theorem dX0_step_99 : decode cX0_step 99 = .ok (.aload_n 0, 1) := by decide +kernel
theorem dX0_step_100 : decode cX0_step 100 = .ok (.aload_n 0, 1) := by decide +kernel
theorem dX0_step_101 : decode cX0_step 101 = .ok (.getfield 44, 3) := by decide +kernel
theorem dX0_step_104 : decode cX0_step 104 = .ok (.iconst 1, 1) := by decide +kernel
theorem dX0_step_105 : decode cX0_step 105 = .ok (.iadd, 1) := by decide +kernel
theorem dX0_step_106 : decode cX0_step 106 = .ok (.aload_n 0, 1) := by decide +kernel
theorem dX0_step_107 : decode cX0_step 107 = .ok (.getfield 22, 3) := by decide +kernel
theorem dX0_step_110 : decode cX0_step 110 = .ok (.getfield 47, 3) := by decide +kernel
theorem dX0_step_113 : decode cX0_step 113 = .ok (.invokestatic 60, 3) := by decide +kernel
theorem dX0_step_116 : decode cX0_step 116 = .ok (.putfield 30, 3) := by decide +kernel
theorem dX0_step_119 : decode cX0_step 119 = .ok (.return_, 1) := by decide +kernel
theorem dX0_lineStands_0 : decode cX0_lineStands 0 = .ok (.aload_n 0, 1) := by decide +kernel
theorem dX0_lineStands_1 : decode cX0_lineStands 1 = .ok (.invokevirtual 66, 3) := by decide +kernel
theorem dX0_lineStands_4 : decode cX0_lineStands 4 = .ok (.istore_n 1, 1) := by decide +kernel
theorem dX0_lineStands_5 : decode cX0_lineStands 5 = .ok (.iload_n 1, 1) := by decide +kernel
theorem dX0_lineStands_6 : decode cX0_lineStands 6 = .ok (.iconst (-1), 1) := by decide +kernel
theorem dX0_lineStands_7 : decode cX0_lineStands 7 = .ok (.if_icmp .eq 11, 3) := by decide +kernel
theorem dX0_lineStands_10 : decode cX0_lineStands 10 = .ok (.aload_n 0, 1) := by decide +kernel
theorem dX0_lineStands_11 : decode cX0_lineStands 11 = .ok (.iload_n 1, 1) := by decide +kernel
theorem dX0_lineStands_12 : decode cX0_lineStands 12 = .ok (.invokevirtual 70, 3) := by decide +kernel
theorem dX0_lineStands_15 : decode cX0_lineStands 15 = .ok (.ifCond .ne 5, 3) := by decide +kernel
theorem dX0_lineStands_18 : decode cX0_lineStands 18 = .ok (.iconst 0, 1) := by decide +kernel
theorem dX0_lineStands_19 : decode cX0_lineStands 19 = .ok (.ireturn, 1) := by decide +kernel
theorem dX0_lineStands_20 : decode cX0_lineStands 20 = .ok (.aload_n 0, 1) := by decide +kernel
theorem dX0_lineStands_21 : decode cX0_lineStands 21 = .ok (.invokevirtual 34, 3) := by decide +kernel
theorem dX0_lineStands_24 : decode cX0_lineStands 24 = .ok (.iload_n 1, 1) := by decide +kernel
theorem dX0_lineStands_25 : decode cX0_lineStands 25 = .ok (.tableswitch 73 4 9 #[48, 53, 58, 63, 68, 39], 39) := by decide +kernel
theorem dX0_lineStands_64 : decode cX0_lineStands 64 = .ok (.aload_n 0, 1) := by decide +kernel
theorem dX0_lineStands_65 : decode cX0_lineStands 65 = .ok (.getfield 12, 3) := by decide +kernel
theorem dX0_lineStands_68 : decode cX0_lineStands 68 = .ok (.invokevirtual 74, 3) := by decide +kernel
theorem dX0_lineStands_71 : decode cX0_lineStands 71 = .ok (.iconst 1, 1) := by decide +kernel
theorem dX0_lineStands_72 : decode cX0_lineStands 72 = .ok (.ireturn, 1) := by decide +kernel
theorem dX0_lineStands_73 : decode cX0_lineStands 73 = .ok (.aload_n 0, 1) := by decide +kernel
theorem dX0_lineStands_74 : decode cX0_lineStands 74 = .ok (.invokevirtual 77, 3) := by decide +kernel
theorem dX0_lineStands_77 : decode cX0_lineStands 77 = .ok (.ireturn, 1) := by decide +kernel
theorem dX0_lineStands_78 : decode cX0_lineStands 78 = .ok (.aload_n 0, 1) := by decide +kernel
theorem dX0_lineStands_79 : decode cX0_lineStands 79 = .ok (.invokevirtual 80, 3) := by decide +kernel
theorem dX0_lineStands_82 : decode cX0_lineStands 82 = .ok (.ireturn, 1) := by decide +kernel
theorem dX0_lineStands_83 : decode cX0_lineStands 83 = .ok (.aload_n 0, 1) := by decide +kernel
theorem dX0_lineStands_84 : decode cX0_lineStands 84 = .ok (.invokevirtual 83, 3) := by decide +kernel
theorem dX0_lineStands_87 : decode cX0_lineStands 87 = .ok (.ireturn, 1) := by decide +kernel
theorem dX0_lineStands_88 : decode cX0_lineStands 88 = .ok (.aload_n 0, 1) := by decide +kernel
theorem dX0_lineStands_89 : decode cX0_lineStands 89 = .ok (.invokevirtual 86, 3) := by decide +kernel
theorem dX0_lineStands_92 : decode cX0_lineStands 92 = .ok (.ireturn, 1) := by decide +kernel
theorem dX0_lineStands_93 : decode cX0_lineStands 93 = .ok (.aload_n 0, 1) := by decide +kernel
theorem dX0_lineStands_94 : decode cX0_lineStands 94 = .ok (.invokevirtual 89, 3) := by decide +kernel
theorem dX0_lineStands_97 : decode cX0_lineStands 97 = .ok (.ireturn, 1) := by decide +kernel
theorem dX0_lineStands_98 : decode cX0_lineStands 98 = .ok (.aload_n 0, 1) := by decide +kernel
theorem dX0_lineStands_99 : decode cX0_lineStands 99 = .ok (.iload_n 1, 1) := by decide +kernel
theorem dX0_lineStands_100 : decode cX0_lineStands 100 = .ok (.invokevirtual 92, 3) := by decide +kernel
theorem dX0_lineStands_103 : decode cX0_lineStands 103 = .ok (.ireturn, 1) := by decide +kernel
theorem dX0_wordHere_0 : decode cX0_wordHere 0 = .ok (.iconst 0, 1) := by decide +kernel
theorem dX0_wordHere_1 : decode cX0_wordHere 1 = .ok (.istore_n 1, 1) := by decide +kernel
theorem dX0_wordHere_2 : decode cX0_wordHere 2 = .ok (.iload_n 1, 1) := by decide +kernel
theorem dX0_wordHere_3 : decode cX0_wordHere 3 = .ok (.bipush 10, 2) := by decide +kernel
theorem dX0_wordHere_5 : decode cX0_wordHere 5 = .ok (.if_icmp .ge 33, 3) := by decide +kernel
theorem dX0_wordHere_8 : decode cX0_wordHere 8 = .ok (.aload_n 0, 1) := by decide +kernel
theorem dX0_wordHere_9 : decode cX0_wordHere 9 = .ok (.getfield 22, 3) := by decide +kernel
theorem dX0_wordHere_12 : decode cX0_wordHere 12 = .ok (.aload_n 0, 1) := by decide +kernel
theorem dX0_wordHere_13 : decode cX0_wordHere 13 = .ok (.getfield 44, 3) := by decide +kernel
theorem dX0_wordHere_16 : decode cX0_wordHere 16 = .ok (.aload_n 0, 1) := by decide +kernel
theorem dX0_wordHere_17 : decode cX0_wordHere 17 = .ok (.getfield 30, 3) := by decide +kernel
theorem dX0_wordHere_20 : decode cX0_wordHere 20 = .ok (.iload_n 1, 1) := by decide +kernel
theorem dX0_wordHere_21 : decode cX0_wordHere 21 = .ok (.invokestatic 95, 3) := by decide +kernel
theorem dX0_wordHere_24 : decode cX0_wordHere 24 = .ok (.invokevirtual 99, 3) := by decide +kernel
theorem dX0_wordHere_27 : decode cX0_wordHere 27 = .ok (.ifCond .eq 5, 3) := by decide +kernel
theorem dX0_wordHere_30 : decode cX0_wordHere 30 = .ok (.iload_n 1, 1) := by decide +kernel
theorem dX0_wordHere_31 : decode cX0_wordHere 31 = .ok (.ireturn, 1) := by decide +kernel
theorem dX0_wordHere_32 : decode cX0_wordHere 32 = .ok (.iinc 1 1, 3) := by decide +kernel
theorem dX0_wordHere_35 : decode cX0_wordHere 35 = .ok (.goto (-33), 3) := by decide +kernel
theorem dX0_wordHere_38 : decode cX0_wordHere 38 = .ok (.iconst (-1), 1) := by decide +kernel
theorem dX0_wordHere_39 : decode cX0_wordHere 39 = .ok (.ireturn, 1) := by decide +kernel
theorem dX0_spelling_0 : decode cX0_spelling 0 = .ok (.iload_n 0, 1) := by decide +kernel
theorem dX0_spelling_1 : decode cX0_spelling 1 = .ok (.tableswitch 78 0 8 #[51, 54, 57, 60, 63, 66, 69, 72, 75], 51) := by decide +kernel
theorem dX0_spelling_52 : decode cX0_spelling 52 = .ok (.ldc 103, 2) := by decide +kernel
theorem dX0_spelling_54 : decode cX0_spelling 54 = .ok (.areturn, 1) := by decide +kernel
theorem dX0_spelling_55 : decode cX0_spelling 55 = .ok (.ldc 105, 2) := by decide +kernel
theorem dX0_spelling_57 : decode cX0_spelling 57 = .ok (.areturn, 1) := by decide +kernel
theorem dX0_spelling_58 : decode cX0_spelling 58 = .ok (.ldc 107, 2) := by decide +kernel
theorem dX0_spelling_60 : decode cX0_spelling 60 = .ok (.areturn, 1) := by decide +kernel
theorem dX0_spelling_61 : decode cX0_spelling 61 = .ok (.ldc 109, 2) := by decide +kernel
theorem dX0_spelling_63 : decode cX0_spelling 63 = .ok (.areturn, 1) := by decide +kernel
theorem dX0_spelling_64 : decode cX0_spelling 64 = .ok (.ldc 111, 2) := by decide +kernel
theorem dX0_spelling_66 : decode cX0_spelling 66 = .ok (.areturn, 1) := by decide +kernel
theorem dX0_spelling_67 : decode cX0_spelling 67 = .ok (.ldc 113, 2) := by decide +kernel
theorem dX0_spelling_69 : decode cX0_spelling 69 = .ok (.areturn, 1) := by decide +kernel
theorem dX0_spelling_70 : decode cX0_spelling 70 = .ok (.ldc 115, 2) := by decide +kernel
theorem dX0_spelling_72 : decode cX0_spelling 72 = .ok (.areturn, 1) := by decide +kernel
theorem dX0_spelling_73 : decode cX0_spelling 73 = .ok (.ldc 117, 2) := by decide +kernel
theorem dX0_spelling_75 : decode cX0_spelling 75 = .ok (.areturn, 1) := by decide +kernel
theorem dX0_spelling_76 : decode cX0_spelling 76 = .ok (.ldc 119, 2) := by decide +kernel
theorem dX0_spelling_78 : decode cX0_spelling 78 = .ok (.areturn, 1) := by decide +kernel
theorem dX0_spelling_79 : decode cX0_spelling 79 = .ok (.ldc 121, 2) := by decide +kernel
theorem dX0_spelling_81 : decode cX0_spelling 81 = .ok (.areturn, 1) := by decide +kernel
theorem dX0_hasRoomFor_0 : decode cX0_hasRoomFor 0 = .ok (.iload_n 1, 1) := by decide +kernel
theorem dX0_hasRoomFor_1 : decode cX0_hasRoomFor 1 = .ok (.iconst 3, 1) := by decide +kernel
theorem dX0_hasRoomFor_2 : decode cX0_hasRoomFor 2 = .ok (.if_icmp .gt 21, 3) := by decide +kernel
theorem dX0_hasRoomFor_5 : decode cX0_hasRoomFor 5 = .ok (.aload_n 0, 1) := by decide +kernel
theorem dX0_hasRoomFor_6 : decode cX0_hasRoomFor 6 = .ok (.getfield 12, 3) := by decide +kernel
theorem dX0_hasRoomFor_9 : decode cX0_hasRoomFor 9 = .ok (.getfield 123, 3) := by decide +kernel
theorem dX0_hasRoomFor_12 : decode cX0_hasRoomFor 12 = .ok (.bipush 8, 2) := by decide +kernel
theorem dX0_hasRoomFor_14 : decode cX0_hasRoomFor 14 = .ok (.if_icmp .ge 7, 3) := by decide +kernel
theorem dX0_hasRoomFor_17 : decode cX0_hasRoomFor 17 = .ok (.iconst 1, 1) := by decide +kernel
theorem dX0_hasRoomFor_18 : decode cX0_hasRoomFor 18 = .ok (.goto 4, 3) := by decide +kernel
theorem dX0_hasRoomFor_21 : decode cX0_hasRoomFor 21 = .ok (.iconst 0, 1) := by decide +kernel
theorem dX0_hasRoomFor_22 : decode cX0_hasRoomFor 22 = .ok (.ireturn, 1) := by decide +kernel
theorem dX0_hasRoomFor_23 : decode cX0_hasRoomFor 23 = .ok (.iload_n 1, 1) := by decide +kernel
theorem dX0_hasRoomFor_24 : decode cX0_hasRoomFor 24 = .ok (.bipush 8, 2) := by decide +kernel
theorem dX0_hasRoomFor_26 : decode cX0_hasRoomFor 26 = .ok (.if_icmp .ne 15, 3) := by decide +kernel
theorem dX0_hasRoomFor_29 : decode cX0_hasRoomFor 29 = .ok (.aload_n 0, 1) := by decide +kernel
theorem dX0_hasRoomFor_30 : decode cX0_hasRoomFor 30 = .ok (.getfield 12, 3) := by decide +kernel
theorem dX0_hasRoomFor_33 : decode cX0_hasRoomFor 33 = .ok (.getfield 126, 3) := by decide +kernel
theorem dX0_hasRoomFor_36 : decode cX0_hasRoomFor 36 = .ok (.bipush 8, 2) := by decide +kernel
theorem dX0_hasRoomFor_38 : decode cX0_hasRoomFor 38 = .ok (.if_icmp .ge 7, 3) := by decide +kernel
theorem dX0_hasRoomFor_41 : decode cX0_hasRoomFor 41 = .ok (.iconst 1, 1) := by decide +kernel
theorem dX0_hasRoomFor_42 : decode cX0_hasRoomFor 42 = .ok (.goto 4, 3) := by decide +kernel
theorem dX0_hasRoomFor_45 : decode cX0_hasRoomFor 45 = .ok (.iconst 0, 1) := by decide +kernel
theorem dX0_hasRoomFor_46 : decode cX0_hasRoomFor 46 = .ok (.ireturn, 1) := by decide +kernel
theorem dX0_storeyStands_0 : decode cX0_storeyStands 0 = .ok (.aload_n 0, 1) := by decide +kernel
theorem dX0_storeyStands_1 : decode cX0_storeyStands 1 = .ok (.iconst 0, 1) := by decide +kernel
theorem dX0_storeyStands_2 : decode cX0_storeyStands 2 = .ok (.iconst 1, 1) := by decide +kernel
theorem dX0_storeyStands_3 : decode cX0_storeyStands 3 = .ok (.bipush 99, 2) := by decide +kernel
theorem dX0_storeyStands_5 : decode cX0_storeyStands 5 = .ok (.invokevirtual 129, 3) := by decide +kernel
theorem dX0_storeyStands_8 : decode cX0_storeyStands 8 = .ok (.ifCond .eq 26, 3) := by decide +kernel
theorem dX0_storeyStands_11 : decode cX0_storeyStands 11 = .ok (.aload_n 0, 1) := by decide +kernel
theorem dX0_storeyStands_12 : decode cX0_storeyStands 12 = .ok (.iconst 1, 1) := by decide +kernel
theorem dX0_storeyStands_13 : decode cX0_storeyStands 13 = .ok (.iconst 0, 1) := by decide +kernel
theorem dX0_storeyStands_14 : decode cX0_storeyStands 14 = .ok (.sipush 999, 3) := by decide +kernel
theorem dX0_storeyStands_17 : decode cX0_storeyStands 17 = .ok (.invokevirtual 129, 3) := by decide +kernel
theorem dX0_storeyStands_20 : decode cX0_storeyStands 20 = .ok (.ifCond .eq 14, 3) := by decide +kernel
theorem dX0_storeyStands_23 : decode cX0_storeyStands 23 = .ok (.aload_n 0, 1) := by decide +kernel
theorem dX0_storeyStands_24 : decode cX0_storeyStands 24 = .ok (.iconst 2, 1) := by decide +kernel
theorem dX0_storeyStands_25 : decode cX0_storeyStands 25 = .ok (.iconst 1, 1) := by decide +kernel
theorem dX0_storeyStands_26 : decode cX0_storeyStands 26 = .ok (.bipush 9, 2) := by decide +kernel
theorem dX0_storeyStands_28 : decode cX0_storeyStands 28 = .ok (.invokevirtual 129, 3) := by decide +kernel
theorem dX0_storeyStands_31 : decode cX0_storeyStands 31 = .ok (.ifCond .ne 5, 3) := by decide +kernel
theorem dX0_storeyStands_34 : decode cX0_storeyStands 34 = .ok (.iconst 0, 1) := by decide +kernel
theorem dX0_storeyStands_35 : decode cX0_storeyStands 35 = .ok (.ireturn, 1) := by decide +kernel
theorem dX0_storeyStands_36 : decode cX0_storeyStands 36 = .ok (.aload_n 0, 1) := by decide +kernel
theorem dX0_storeyStands_37 : decode cX0_storeyStands 37 = .ok (.getfield 12, 3) := by decide +kernel
theorem dX0_storeyStands_40 : decode cX0_storeyStands 40 = .ok (.iload_n 1, 1) := by decide +kernel
theorem dX0_storeyStands_41 : decode cX0_storeyStands 41 = .ok (.aload_n 0, 1) := by decide +kernel
theorem dX0_storeyStands_42 : decode cX0_storeyStands 42 = .ok (.getfield 18, 3) := by decide +kernel
theorem dX0_storeyStands_45 : decode cX0_storeyStands 45 = .ok (.iconst 0, 1) := by decide +kernel
theorem dX0_storeyStands_46 : decode cX0_storeyStands 46 = .ok (.iaload, 1) := by decide +kernel
theorem dX0_storeyStands_47 : decode cX0_storeyStands 47 = .ok (.aload_n 0, 1) := by decide +kernel
theorem dX0_storeyStands_48 : decode cX0_storeyStands 48 = .ok (.getfield 18, 3) := by decide +kernel
theorem dX0_storeyStands_51 : decode cX0_storeyStands 51 = .ok (.iconst 1, 1) := by decide +kernel
theorem dX0_storeyStands_52 : decode cX0_storeyStands 52 = .ok (.iaload, 1) := by decide +kernel
theorem dX0_storeyStands_53 : decode cX0_storeyStands 53 = .ok (.aload_n 0, 1) := by decide +kernel
theorem dX0_storeyStands_54 : decode cX0_storeyStands 54 = .ok (.getfield 18, 3) := by decide +kernel
theorem dX0_storeyStands_57 : decode cX0_storeyStands 57 = .ok (.iconst 2, 1) := by decide +kernel
theorem dX0_storeyStands_58 : decode cX0_storeyStands 58 = .ok (.iaload, 1) := by decide +kernel
theorem dX0_storeyStands_59 : decode cX0_storeyStands 59 = .ok (.invokevirtual 133, 3) := by decide +kernel
theorem dX0_storeyStands_62 : decode cX0_storeyStands 62 = .ok (.iconst 1, 1) := by decide +kernel
theorem dX0_storeyStands_63 : decode cX0_storeyStands 63 = .ok (.ireturn, 1) := by decide +kernel
theorem dX0_folkStand_0 : decode cX0_folkStand 0 = .ok (.aload_n 0, 1) := by decide +kernel
theorem dX0_folkStand_1 : decode cX0_folkStand 1 = .ok (.iconst 0, 1) := by decide +kernel
theorem dX0_folkStand_2 : decode cX0_folkStand 2 = .ok (.iconst 0, 1) := by decide +kernel
theorem dX0_folkStand_3 : decode cX0_folkStand 3 = .ok (.aload_n 0, 1) := by decide +kernel
theorem dX0_folkStand_4 : decode cX0_folkStand 4 = .ok (.getfield 12, 3) := by decide +kernel
theorem dX0_folkStand_7 : decode cX0_folkStand 7 = .ok (.getfield 123, 3) := by decide +kernel
theorem dX0_folkStand_10 : decode cX0_folkStand 10 = .ok (.iconst 1, 1) := by decide +kernel
theorem dX0_folkStand_11 : decode cX0_folkStand 11 = .ok (.isub, 1) := by decide +kernel
theorem dX0_folkStand_12 : decode cX0_folkStand 12 = .ok (.invokevirtual 129, 3) := by decide +kernel
theorem dX0_folkStand_15 : decode cX0_folkStand 15 = .ok (.ifCond .eq 14, 3) := by decide +kernel
theorem dX0_folkStand_18 : decode cX0_folkStand 18 = .ok (.aload_n 0, 1) := by decide +kernel
theorem dX0_folkStand_19 : decode cX0_folkStand 19 = .ok (.iconst 1, 1) := by decide +kernel
theorem dX0_folkStand_20 : decode cX0_folkStand 20 = .ok (.iconst 0, 1) := by decide +kernel
theorem dX0_folkStand_21 : decode cX0_folkStand 21 = .ok (.bipush 99, 2) := by decide +kernel
theorem dX0_folkStand_23 : decode cX0_folkStand 23 = .ok (.invokevirtual 129, 3) := by decide +kernel
theorem dX0_folkStand_26 : decode cX0_folkStand 26 = .ok (.ifCond .ne 5, 3) := by decide +kernel
theorem dX0_folkStand_29 : decode cX0_folkStand 29 = .ok (.iconst 0, 1) := by decide +kernel
theorem dX0_folkStand_30 : decode cX0_folkStand 30 = .ok (.ireturn, 1) := by decide +kernel
theorem dX0_folkStand_31 : decode cX0_folkStand 31 = .ok (.aload_n 0, 1) := by decide +kernel
theorem dX0_folkStand_32 : decode cX0_folkStand 32 = .ok (.getfield 12, 3) := by decide +kernel
theorem dX0_folkStand_35 : decode cX0_folkStand 35 = .ok (.aload_n 0, 1) := by decide +kernel
theorem dX0_folkStand_36 : decode cX0_folkStand 36 = .ok (.getfield 18, 3) := by decide +kernel
theorem dX0_folkStand_39 : decode cX0_folkStand 39 = .ok (.iconst 0, 1) := by decide +kernel
theorem dX0_folkStand_40 : decode cX0_folkStand 40 = .ok (.iaload, 1) := by decide +kernel
theorem dX0_folkStand_41 : decode cX0_folkStand 41 = .ok (.aload_n 0, 1) := by decide +kernel
theorem dX0_folkStand_42 : decode cX0_folkStand 42 = .ok (.getfield 18, 3) := by decide +kernel
theorem dX0_folkStand_45 : decode cX0_folkStand 45 = .ok (.iconst 1, 1) := by decide +kernel
theorem dX0_folkStand_46 : decode cX0_folkStand 46 = .ok (.iaload, 1) := by decide +kernel
theorem dX0_folkStand_47 : decode cX0_folkStand 47 = .ok (.invokevirtual 137, 3) := by decide +kernel
theorem dX0_folkStand_50 : decode cX0_folkStand 50 = .ok (.iconst 1, 1) := by decide +kernel
theorem dX0_folkStand_51 : decode cX0_folkStand 51 = .ok (.ireturn, 1) := by decide +kernel
theorem dX0_jacksStand_0 : decode cX0_jacksStand 0 = .ok (.aload_n 0, 1) := by decide +kernel
theorem dX0_jacksStand_1 : decode cX0_jacksStand 1 = .ok (.iconst 0, 1) := by decide +kernel
theorem dX0_jacksStand_2 : decode cX0_jacksStand 2 = .ok (.iconst 0, 1) := by decide +kernel
theorem dX0_jacksStand_3 : decode cX0_jacksStand 3 = .ok (.sipush 999, 3) := by decide +kernel
theorem dX0_jacksStand_6 : decode cX0_jacksStand 6 = .ok (.invokevirtual 129, 3) := by decide +kernel
theorem dX0_jacksStand_9 : decode cX0_jacksStand 9 = .ok (.ifCond .ne 5, 3) := by decide +kernel
theorem dX0_jacksStand_12 : decode cX0_jacksStand 12 = .ok (.iconst 0, 1) := by decide +kernel
theorem dX0_jacksStand_13 : decode cX0_jacksStand 13 = .ok (.ireturn, 1) := by decide +kernel
theorem dX0_jacksStand_14 : decode cX0_jacksStand 14 = .ok (.aload_n 0, 1) := by decide +kernel
theorem dX0_jacksStand_15 : decode cX0_jacksStand 15 = .ok (.getfield 12, 3) := by decide +kernel
theorem dX0_jacksStand_18 : decode cX0_jacksStand 18 = .ok (.aload_n 0, 1) := by decide +kernel
theorem dX0_jacksStand_19 : decode cX0_jacksStand 19 = .ok (.getfield 18, 3) := by decide +kernel
theorem dX0_jacksStand_22 : decode cX0_jacksStand 22 = .ok (.iconst 0, 1) := by decide +kernel
theorem dX0_jacksStand_23 : decode cX0_jacksStand 23 = .ok (.iaload, 1) := by decide +kernel
theorem dX0_jacksStand_24 : decode cX0_jacksStand 24 = .ok (.putfield 141, 3) := by decide +kernel
theorem dX0_jacksStand_27 : decode cX0_jacksStand 27 = .ok (.iconst 1, 1) := by decide +kernel
theorem dX0_jacksStand_28 : decode cX0_jacksStand 28 = .ok (.ireturn, 1) := by decide +kernel
theorem dX0_softStands_0 : decode cX0_softStands 0 = .ok (.aload_n 0, 1) := by decide +kernel
theorem dX0_softStands_1 : decode cX0_softStands 1 = .ok (.iconst 0, 1) := by decide +kernel
theorem dX0_softStands_2 : decode cX0_softStands 2 = .ok (.iconst 1, 1) := by decide +kernel
theorem dX0_softStands_3 : decode cX0_softStands 3 = .ok (.bipush 99, 2) := by decide +kernel
theorem dX0_softStands_5 : decode cX0_softStands 5 = .ok (.invokevirtual 129, 3) := by decide +kernel
theorem dX0_softStands_8 : decode cX0_softStands 8 = .ok (.ifCond .ne 5, 3) := by decide +kernel
theorem dX0_softStands_11 : decode cX0_softStands 11 = .ok (.iconst 0, 1) := by decide +kernel
theorem dX0_softStands_12 : decode cX0_softStands 12 = .ok (.ireturn, 1) := by decide +kernel
theorem dX0_softStands_13 : decode cX0_softStands 13 = .ok (.aload_n 0, 1) := by decide +kernel
theorem dX0_softStands_14 : decode cX0_softStands 14 = .ok (.getfield 12, 3) := by decide +kernel
theorem dX0_softStands_17 : decode cX0_softStands 17 = .ok (.aload_n 0, 1) := by decide +kernel
theorem dX0_softStands_18 : decode cX0_softStands 18 = .ok (.getfield 18, 3) := by decide +kernel
theorem dX0_softStands_21 : decode cX0_softStands 21 = .ok (.iconst 0, 1) := by decide +kernel
theorem dX0_softStands_22 : decode cX0_softStands 22 = .ok (.iaload, 1) := by decide +kernel
theorem dX0_softStands_23 : decode cX0_softStands 23 = .ok (.putfield 144, 3) := by decide +kernel
theorem dX0_softStands_26 : decode cX0_softStands 26 = .ok (.iconst 1, 1) := by decide +kernel
theorem dX0_softStands_27 : decode cX0_softStands 27 = .ok (.ireturn, 1) := by decide +kernel
theorem dX0_windStands_0 : decode cX0_windStands 0 = .ok (.aload_n 0, 1) := by decide +kernel
theorem dX0_windStands_1 : decode cX0_windStands 1 = .ok (.iconst 0, 1) := by decide +kernel
theorem dX0_windStands_2 : decode cX0_windStands 2 = .ok (.iconst 0, 1) := by decide +kernel
theorem dX0_windStands_3 : decode cX0_windStands 3 = .ok (.bipush 39, 2) := by decide +kernel
theorem dX0_windStands_5 : decode cX0_windStands 5 = .ok (.invokevirtual 129, 3) := by decide +kernel
theorem dX0_windStands_8 : decode cX0_windStands 8 = .ok (.ifCond .eq 19, 3) := by decide +kernel
theorem dX0_windStands_11 : decode cX0_windStands 11 = .ok (.aload_n 0, 1) := by decide +kernel
theorem dX0_windStands_12 : decode cX0_windStands 12 = .ok (.iconst 1, 1) := by decide +kernel
theorem dX0_windStands_13 : decode cX0_windStands 13 = .ok (.aload_n 0, 1) := by decide +kernel
theorem dX0_windStands_14 : decode cX0_windStands 14 = .ok (.getfield 18, 3) := by decide +kernel
theorem dX0_windStands_17 : decode cX0_windStands 17 = .ok (.iconst 0, 1) := by decide +kernel
theorem dX0_windStands_18 : decode cX0_windStands 18 = .ok (.iaload, 1) := by decide +kernel
theorem dX0_windStands_19 : decode cX0_windStands 19 = .ok (.bipush 39, 2) := by decide +kernel
theorem dX0_windStands_21 : decode cX0_windStands 21 = .ok (.invokevirtual 129, 3) := by decide +kernel
theorem dX0_windStands_24 : decode cX0_windStands 24 = .ok (.ifCond .ne 5, 3) := by decide +kernel
theorem dX0_windStands_27 : decode cX0_windStands 27 = .ok (.iconst 0, 1) := by decide +kernel
theorem dX0_windStands_28 : decode cX0_windStands 28 = .ok (.ireturn, 1) := by decide +kernel
theorem dX0_windStands_29 : decode cX0_windStands 29 = .ok (.aload_n 0, 1) := by decide +kernel
theorem dX0_windStands_30 : decode cX0_windStands 30 = .ok (.iconst 2, 1) := by decide +kernel
theorem dX0_windStands_31 : decode cX0_windStands 31 = .ok (.iconst 0, 1) := by decide +kernel
theorem dX0_windStands_32 : decode cX0_windStands 32 = .ok (.bipush 9, 2) := by decide +kernel
theorem dX0_windStands_34 : decode cX0_windStands 34 = .ok (.invokevirtual 129, 3) := by decide +kernel
theorem dX0_windStands_37 : decode cX0_windStands 37 = .ok (.ifCond .ne 5, 3) := by decide +kernel
theorem dX0_windStands_40 : decode cX0_windStands 40 = .ok (.iconst 0, 1) := by decide +kernel
theorem dX0_windStands_41 : decode cX0_windStands 41 = .ok (.ireturn, 1) := by decide +kernel
theorem dX0_windStands_42 : decode cX0_windStands 42 = .ok (.aload_n 0, 1) := by decide +kernel
theorem dX0_windStands_43 : decode cX0_windStands 43 = .ok (.getfield 12, 3) := by decide +kernel
theorem dX0_windStands_46 : decode cX0_windStands 46 = .ok (.aload_n 0, 1) := by decide +kernel
theorem dX0_windStands_47 : decode cX0_windStands 47 = .ok (.getfield 18, 3) := by decide +kernel
theorem dX0_windStands_50 : decode cX0_windStands 50 = .ok (.iconst 0, 1) := by decide +kernel
theorem dX0_windStands_51 : decode cX0_windStands 51 = .ok (.iaload, 1) := by decide +kernel
theorem dX0_windStands_52 : decode cX0_windStands 52 = .ok (.aload_n 0, 1) := by decide +kernel
theorem dX0_windStands_53 : decode cX0_windStands 53 = .ok (.getfield 18, 3) := by decide +kernel
theorem dX0_windStands_56 : decode cX0_windStands 56 = .ok (.iconst 1, 1) := by decide +kernel
theorem dX0_windStands_57 : decode cX0_windStands 57 = .ok (.iaload, 1) := by decide +kernel
theorem dX0_windStands_58 : decode cX0_windStands 58 = .ok (.aload_n 0, 1) := by decide +kernel
theorem dX0_windStands_59 : decode cX0_windStands 59 = .ok (.getfield 18, 3) := by decide +kernel
theorem dX0_windStands_62 : decode cX0_windStands 62 = .ok (.iconst 2, 1) := by decide +kernel
theorem dX0_windStands_63 : decode cX0_windStands 63 = .ok (.iaload, 1) := by decide +kernel
theorem dX0_windStands_64 : decode cX0_windStands 64 = .ok (.invokevirtual 146, 3) := by decide +kernel
theorem dX0_windStands_67 : decode cX0_windStands 67 = .ok (.iconst 1, 1) := by decide +kernel
theorem dX0_windStands_68 : decode cX0_windStands 68 = .ok (.ireturn, 1) := by decide +kernel
theorem dX0_pairStands_0 : decode cX0_pairStands 0 = .ok (.aload_n 0, 1) := by decide +kernel
theorem dX0_pairStands_1 : decode cX0_pairStands 1 = .ok (.getfield 12, 3) := by decide +kernel
theorem dX0_pairStands_4 : decode cX0_pairStands 4 = .ok (.getfield 123, 3) := by decide +kernel
theorem dX0_pairStands_7 : decode cX0_pairStands 7 = .ok (.iconst 1, 1) := by decide +kernel
theorem dX0_pairStands_8 : decode cX0_pairStands 8 = .ok (.isub, 1) := by decide +kernel
theorem dX0_pairStands_9 : decode cX0_pairStands 9 = .ok (.istore_n 1, 1) := by decide +kernel
theorem dX0_pairStands_10 : decode cX0_pairStands 10 = .ok (.aload_n 0, 1) := by decide +kernel
theorem dX0_pairStands_11 : decode cX0_pairStands 11 = .ok (.iconst 0, 1) := by decide +kernel
theorem dX0_pairStands_12 : decode cX0_pairStands 12 = .ok (.iconst 0, 1) := by decide +kernel
theorem dX0_pairStands_13 : decode cX0_pairStands 13 = .ok (.iload_n 1, 1) := by decide +kernel
theorem dX0_pairStands_14 : decode cX0_pairStands 14 = .ok (.invokevirtual 129, 3) := by decide +kernel
theorem dX0_pairStands_17 : decode cX0_pairStands 17 = .ok (.ifCond .eq 26, 3) := by decide +kernel
theorem dX0_pairStands_20 : decode cX0_pairStands 20 = .ok (.aload_n 0, 1) := by decide +kernel
theorem dX0_pairStands_21 : decode cX0_pairStands 21 = .ok (.invokevirtual 150, 3) := by decide +kernel
theorem dX0_pairStands_24 : decode cX0_pairStands 24 = .ok (.aload_n 0, 1) := by decide +kernel
theorem dX0_pairStands_25 : decode cX0_pairStands 25 = .ok (.getfield 18, 3) := by decide +kernel
theorem dX0_pairStands_28 : decode cX0_pairStands 28 = .ok (.iconst 0, 1) := by decide +kernel
theorem dX0_pairStands_29 : decode cX0_pairStands 29 = .ok (.iaload, 1) := by decide +kernel
theorem dX0_pairStands_30 : decode cX0_pairStands 30 = .ok (.if_icmp .eq 13, 3) := by decide +kernel
theorem dX0_pairStands_33 : decode cX0_pairStands 33 = .ok (.aload_n 0, 1) := by decide +kernel
theorem dX0_pairStands_34 : decode cX0_pairStands 34 = .ok (.iconst 1, 1) := by decide +kernel
theorem dX0_pairStands_35 : decode cX0_pairStands 35 = .ok (.iconst 0, 1) := by decide +kernel
theorem dX0_pairStands_36 : decode cX0_pairStands 36 = .ok (.iload_n 1, 1) := by decide +kernel
theorem dX0_pairStands_37 : decode cX0_pairStands 37 = .ok (.invokevirtual 129, 3) := by decide +kernel
theorem dX0_pairStands_40 : decode cX0_pairStands 40 = .ok (.ifCond .ne 5, 3) := by decide +kernel
theorem dX0_pairStands_43 : decode cX0_pairStands 43 = .ok (.iconst 0, 1) := by decide +kernel
theorem dX0_pairStands_44 : decode cX0_pairStands 44 = .ok (.ireturn, 1) := by decide +kernel
theorem dX0_pairStands_45 : decode cX0_pairStands 45 = .ok (.aload_n 0, 1) := by decide +kernel
theorem dX0_pairStands_46 : decode cX0_pairStands 46 = .ok (.getfield 12, 3) := by decide +kernel
theorem dX0_pairStands_49 : decode cX0_pairStands 49 = .ok (.aload_n 0, 1) := by decide +kernel
theorem dX0_pairStands_50 : decode cX0_pairStands 50 = .ok (.getfield 18, 3) := by decide +kernel
theorem dX0_pairStands_53 : decode cX0_pairStands 53 = .ok (.iconst 0, 1) := by decide +kernel
theorem dX0_pairStands_54 : decode cX0_pairStands 54 = .ok (.iaload, 1) := by decide +kernel
theorem dX0_pairStands_55 : decode cX0_pairStands 55 = .ok (.aload_n 0, 1) := by decide +kernel
theorem dX0_pairStands_56 : decode cX0_pairStands 56 = .ok (.getfield 18, 3) := by decide +kernel
theorem dX0_pairStands_59 : decode cX0_pairStands 59 = .ok (.iconst 1, 1) := by decide +kernel
theorem dX0_pairStands_60 : decode cX0_pairStands 60 = .ok (.iaload, 1) := by decide +kernel
theorem dX0_pairStands_61 : decode cX0_pairStands 61 = .ok (.invokevirtual 153, 3) := by decide +kernel
theorem dX0_pairStands_64 : decode cX0_pairStands 64 = .ok (.iconst 1, 1) := by decide +kernel
theorem dX0_pairStands_65 : decode cX0_pairStands 65 = .ok (.ireturn, 1) := by decide +kernel
theorem dX0_numberStands_0 : decode cX0_numberStands 0 = .ok (.aload_n 0, 1) := by decide +kernel
theorem dX0_numberStands_1 : decode cX0_numberStands 1 = .ok (.invokevirtual 150, 3) := by decide +kernel
theorem dX0_numberStands_4 : decode cX0_numberStands 4 = .ok (.istore 4, 2) := by decide +kernel
theorem dX0_numberStands_6 : decode cX0_numberStands 6 = .ok (.iload 4, 2) := by decide +kernel
theorem dX0_numberStands_8 : decode cX0_numberStands 8 = .ok (.iconst (-1), 1) := by decide +kernel
theorem dX0_numberStands_9 : decode cX0_numberStands 9 = .ok (.if_icmp .eq 15, 3) := by decide +kernel
theorem dX0_numberStands_12 : decode cX0_numberStands 12 = .ok (.iload 4, 2) := by decide +kernel
theorem dX0_numberStands_14 : decode cX0_numberStands 14 = .ok (.iload_n 2, 1) := by decide +kernel
theorem dX0_numberStands_15 : decode cX0_numberStands 15 = .ok (.if_icmp .lt 9, 3) := by decide +kernel
theorem dX0_numberStands_18 : decode cX0_numberStands 18 = .ok (.iload 4, 2) := by decide +kernel
theorem dX0_numberStands_20 : decode cX0_numberStands 20 = .ok (.iload_n 3, 1) := by decide +kernel
theorem dX0_numberStands_21 : decode cX0_numberStands 21 = .ok (.if_icmp .le 5, 3) := by decide +kernel
theorem dX0_numberStands_24 : decode cX0_numberStands 24 = .ok (.iconst 0, 1) := by decide +kernel
theorem dX0_numberStands_25 : decode cX0_numberStands 25 = .ok (.ireturn, 1) := by decide +kernel
theorem dX0_numberStands_26 : decode cX0_numberStands 26 = .ok (.iload_n 1, 1) := by decide +kernel
theorem dX0_numberStands_27 : decode cX0_numberStands 27 = .ok (.ifCond .lt 12, 3) := by decide +kernel
theorem dX0_numberStands_30 : decode cX0_numberStands 30 = .ok (.iload_n 1, 1) := by decide +kernel
theorem dX0_numberStands_31 : decode cX0_numberStands 31 = .ok (.aload_n 0, 1) := by decide +kernel
theorem dX0_numberStands_32 : decode cX0_numberStands 32 = .ok (.getfield 18, 3) := by decide +kernel
theorem dX0_numberStands_35 : decode cX0_numberStands 35 = .ok (.arraylength, 1) := by decide +kernel
theorem dX0_numberStands_36 : decode cX0_numberStands 36 = .ok (.if_icmp .lt 5, 3) := by decide +kernel
theorem dX0_numberStands_39 : decode cX0_numberStands 39 = .ok (.iconst 0, 1) := by decide +kernel
theorem dX0_numberStands_40 : decode cX0_numberStands 40 = .ok (.ireturn, 1) := by decide +kernel
theorem dX0_numberStands_41 : decode cX0_numberStands 41 = .ok (.aload_n 0, 1) := by decide +kernel
theorem dX0_numberStands_42 : decode cX0_numberStands 42 = .ok (.getfield 18, 3) := by decide +kernel
theorem dX0_numberStands_45 : decode cX0_numberStands 45 = .ok (.iload_n 1, 1) := by decide +kernel
theorem dX0_numberStands_46 : decode cX0_numberStands 46 = .ok (.iload 4, 2) := by decide +kernel
theorem dX0_numberStands_48 : decode cX0_numberStands 48 = .ok (.iastore, 1) := by decide +kernel
theorem dX0_numberStands_49 : decode cX0_numberStands 49 = .ok (.aload_n 0, 1) := by decide +kernel
theorem dX0_numberStands_50 : decode cX0_numberStands 50 = .ok (.invokevirtual 34, 3) := by decide +kernel
theorem dX0_numberStands_53 : decode cX0_numberStands 53 = .ok (.iconst 1, 1) := by decide +kernel
theorem dX0_numberStands_54 : decode cX0_numberStands 54 = .ok (.ireturn, 1) := by decide +kernel
theorem dX0_numberHere_0 : decode cX0_numberHere 0 = .ok (.aload_n 0, 1) := by decide +kernel
theorem dX0_numberHere_1 : decode cX0_numberHere 1 = .ok (.getfield 22, 3) := by decide +kernel
theorem dX0_numberHere_4 : decode cX0_numberHere 4 = .ok (.aload_n 0, 1) := by decide +kernel
theorem dX0_numberHere_5 : decode cX0_numberHere 5 = .ok (.getfield 44, 3) := by decide +kernel
theorem dX0_numberHere_8 : decode cX0_numberHere 8 = .ok (.bipush 48, 2) := by decide +kernel
theorem dX0_numberHere_10 : decode cX0_numberHere 10 = .ok (.bipush 57, 2) := by decide +kernel
theorem dX0_numberHere_12 : decode cX0_numberHere 12 = .ok (.invokevirtual 52, 3) := by decide +kernel
theorem dX0_numberHere_15 : decode cX0_numberHere 15 = .ok (.ifCond .eq 16, 3) := by decide +kernel
theorem dX0_numberHere_18 : decode cX0_numberHere 18 = .ok (.aload_n 0, 1) := by decide +kernel
theorem dX0_numberHere_19 : decode cX0_numberHere 19 = .ok (.getfield 30, 3) := by decide +kernel
theorem dX0_numberHere_22 : decode cX0_numberHere 22 = .ok (.aload_n 0, 1) := by decide +kernel
theorem dX0_numberHere_23 : decode cX0_numberHere 23 = .ok (.getfield 44, 3) := by decide +kernel
theorem dX0_numberHere_26 : decode cX0_numberHere 26 = .ok (.isub, 1) := by decide +kernel
theorem dX0_numberHere_27 : decode cX0_numberHere 27 = .ok (.iconst 3, 1) := by decide +kernel
theorem dX0_numberHere_28 : decode cX0_numberHere 28 = .ok (.if_icmp .le 5, 3) := by decide +kernel
theorem dX0_numberHere_31 : decode cX0_numberHere 31 = .ok (.iconst (-1), 1) := by decide +kernel
theorem dX0_numberHere_32 : decode cX0_numberHere 32 = .ok (.ireturn, 1) := by decide +kernel
theorem dX0_numberHere_33 : decode cX0_numberHere 33 = .ok (.iconst 0, 1) := by decide +kernel
theorem dX0_numberHere_34 : decode cX0_numberHere 34 = .ok (.istore_n 1, 1) := by decide +kernel
theorem dX0_numberHere_35 : decode cX0_numberHere 35 = .ok (.aload_n 0, 1) := by decide +kernel
theorem dX0_numberHere_36 : decode cX0_numberHere 36 = .ok (.getfield 44, 3) := by decide +kernel
theorem dX0_numberHere_39 : decode cX0_numberHere 39 = .ok (.istore_n 2, 1) := by decide +kernel
theorem dX0_numberHere_40 : decode cX0_numberHere 40 = .ok (.iload_n 2, 1) := by decide +kernel
theorem dX0_numberHere_41 : decode cX0_numberHere 41 = .ok (.aload_n 0, 1) := by decide +kernel
theorem dX0_numberHere_42 : decode cX0_numberHere 42 = .ok (.getfield 30, 3) := by decide +kernel
theorem dX0_numberHere_45 : decode cX0_numberHere 45 = .ok (.if_icmp .ge 38, 3) := by decide +kernel
theorem dX0_numberHere_48 : decode cX0_numberHere 48 = .ok (.iload_n 2, 1) := by decide +kernel
theorem dX0_numberHere_49 : decode cX0_numberHere 49 = .ok (.aload_n 0, 1) := by decide +kernel
theorem dX0_numberHere_50 : decode cX0_numberHere 50 = .ok (.getfield 22, 3) := by decide +kernel
theorem dX0_numberHere_53 : decode cX0_numberHere 53 = .ok (.getfield 47, 3) := by decide +kernel
theorem dX0_numberHere_56 : decode cX0_numberHere 56 = .ok (.if_icmp .ge 27, 3) := by decide +kernel
theorem dX0_numberHere_59 : decode cX0_numberHere 59 = .ok (.bipush 10, 2) := by decide +kernel
theorem dX0_numberHere_61 : decode cX0_numberHere 61 = .ok (.iload_n 1, 1) := by decide +kernel
theorem dX0_numberHere_62 : decode cX0_numberHere 62 = .ok (.imul, 1) := by decide +kernel
theorem dX0_numberHere_63 : decode cX0_numberHere 63 = .ok (.aload_n 0, 1) := by decide +kernel
theorem dX0_numberHere_64 : decode cX0_numberHere 64 = .ok (.getfield 22, 3) := by decide +kernel
theorem dX0_numberHere_67 : decode cX0_numberHere 67 = .ok (.getfield 156, 3) := by decide +kernel
theorem dX0_numberHere_70 : decode cX0_numberHere 70 = .ok (.iload_n 2, 1) := by decide +kernel
theorem dX0_numberHere_71 : decode cX0_numberHere 71 = .ok (.caload, 1) := by decide +kernel
theorem dX0_numberHere_72 : decode cX0_numberHere 72 = .ok (.iadd, 1) := by decide +kernel
theorem dX0_numberHere_73 : decode cX0_numberHere 73 = .ok (.bipush 48, 2) := by decide +kernel
theorem dX0_numberHere_75 : decode cX0_numberHere 75 = .ok (.isub, 1) := by decide +kernel
theorem dX0_numberHere_76 : decode cX0_numberHere 76 = .ok (.istore_n 1, 1) := by decide +kernel
theorem dX0_numberHere_77 : decode cX0_numberHere 77 = .ok (.iinc 2 1, 3) := by decide +kernel
theorem dX0_numberHere_80 : decode cX0_numberHere 80 = .ok (.goto (-40), 3) := by decide +kernel
theorem dX0_numberHere_83 : decode cX0_numberHere 83 = .ok (.iload_n 1, 1) := by decide +kernel
theorem dX0_numberHere_84 : decode cX0_numberHere 84 = .ok (.ireturn, 1) := by decide +kernel
theorem dX1_init_0 : decode cX1_init 0 = .ok (.aload_n 0, 1) := by decide +kernel
theorem dX1_init_1 : decode cX1_init 1 = .ok (.invokespecial 3, 3) := by decide +kernel
theorem dX1_init_4 : decode cX1_init 4 = .ok (.aload_n 0, 1) := by decide +kernel
theorem dX1_init_5 : decode cX1_init 5 = .ok (.bipush 8, 2) := by decide +kernel
theorem dX1_init_7 : decode cX1_init 7 = .ok (.newarray .int, 2) := by decide +kernel
theorem dX1_init_9 : decode cX1_init 9 = .ok (.putfield 9, 3) := by decide +kernel
theorem dX1_init_12 : decode cX1_init 12 = .ok (.aload_n 0, 1) := by decide +kernel
theorem dX1_init_13 : decode cX1_init 13 = .ok (.bipush 8, 2) := by decide +kernel
theorem dX1_init_15 : decode cX1_init 15 = .ok (.newarray .int, 2) := by decide +kernel
theorem dX1_init_17 : decode cX1_init 17 = .ok (.putfield 15, 3) := by decide +kernel
theorem dX1_init_20 : decode cX1_init 20 = .ok (.aload_n 0, 1) := by decide +kernel
theorem dX1_init_21 : decode cX1_init 21 = .ok (.bipush 8, 2) := by decide +kernel
theorem dX1_init_23 : decode cX1_init 23 = .ok (.newarray .int, 2) := by decide +kernel
theorem dX1_init_25 : decode cX1_init 25 = .ok (.putfield 18, 3) := by decide +kernel
theorem dX1_init_28 : decode cX1_init 28 = .ok (.aload_n 0, 1) := by decide +kernel
theorem dX1_init_29 : decode cX1_init 29 = .ok (.bipush 8, 2) := by decide +kernel
theorem dX1_init_31 : decode cX1_init 31 = .ok (.newarray .int, 2) := by decide +kernel
theorem dX1_init_33 : decode cX1_init 33 = .ok (.putfield 21, 3) := by decide +kernel
theorem dX1_init_36 : decode cX1_init 36 = .ok (.aload_n 0, 1) := by decide +kernel
theorem dX1_init_37 : decode cX1_init 37 = .ok (.bipush 8, 2) := by decide +kernel
theorem dX1_init_39 : decode cX1_init 39 = .ok (.newarray .int, 2) := by decide +kernel
theorem dX1_init_41 : decode cX1_init 41 = .ok (.putfield 24, 3) := by decide +kernel
theorem dX1_init_44 : decode cX1_init 44 = .ok (.aload_n 0, 1) := by decide +kernel
theorem dX1_init_45 : decode cX1_init 45 = .ok (.bipush 8, 2) := by decide +kernel
theorem dX1_init_47 : decode cX1_init 47 = .ok (.newarray .int, 2) := by decide +kernel
theorem dX1_init_49 : decode cX1_init 49 = .ok (.putfield 27, 3) := by decide +kernel
theorem dX1_init_52 : decode cX1_init 52 = .ok (.aload_n 0, 1) := by decide +kernel
theorem dX1_init_53 : decode cX1_init 53 = .ok (.bipush 40, 2) := by decide +kernel
theorem dX1_init_55 : decode cX1_init 55 = .ok (.newarray .int, 2) := by decide +kernel
theorem dX1_init_57 : decode cX1_init 57 = .ok (.putfield 30, 3) := by decide +kernel
theorem dX1_init_60 : decode cX1_init 60 = .ok (.aload_n 0, 1) := by decide +kernel
theorem dX1_init_61 : decode cX1_init 61 = .ok (.invokevirtual 33, 3) := by decide +kernel
theorem dX1_init_64 : decode cX1_init 64 = .ok (.return_, 1) := by decide +kernel
theorem dX1_startAnew_0 : decode cX1_startAnew 0 = .ok (.aload_n 0, 1) := by decide +kernel
theorem dX1_startAnew_1 : decode cX1_startAnew 1 = .ok (.iconst 0, 1) := by decide +kernel
theorem dX1_startAnew_2 : decode cX1_startAnew 2 = .ok (.putfield 36, 3) := by decide +kernel
theorem dX1_startAnew_5 : decode cX1_startAnew 5 = .ok (.aload_n 0, 1) := by decide +kernel
theorem dX1_startAnew_6 : decode cX1_startAnew 6 = .ok (.iconst 0, 1) := by decide +kernel
theorem dX1_startAnew_7 : decode cX1_startAnew 7 = .ok (.putfield 40, 3) := by decide +kernel
theorem dX1_startAnew_10 : decode cX1_startAnew 10 = .ok (.aload_n 0, 1) := by decide +kernel
theorem dX1_startAnew_11 : decode cX1_startAnew 11 = .ok (.sipush 500, 3) := by decide +kernel
theorem dX1_startAnew_14 : decode cX1_startAnew 14 = .ok (.putfield 43, 3) := by decide +kernel
theorem dX1_startAnew_17 : decode cX1_startAnew 17 = .ok (.aload_n 0, 1) := by decide +kernel
theorem dX1_startAnew_18 : decode cX1_startAnew 18 = .ok (.bipush 10, 2) := by decide +kernel
theorem dX1_startAnew_20 : decode cX1_startAnew 20 = .ok (.putfield 46, 3) := by decide +kernel
theorem dX1_startAnew_23 : decode cX1_startAnew 23 = .ok (.aload_n 0, 1) := by decide +kernel
theorem dX1_startAnew_24 : decode cX1_startAnew 24 = .ok (.iconst 0, 1) := by decide +kernel
theorem dX1_startAnew_25 : decode cX1_startAnew 25 = .ok (.putfield 49, 3) := by decide +kernel
theorem dX1_startAnew_28 : decode cX1_startAnew 28 = .ok (.aload_n 0, 1) := by decide +kernel
theorem dX1_startAnew_29 : decode cX1_startAnew 29 = .ok (.iconst 0, 1) := by decide +kernel
theorem dX1_startAnew_30 : decode cX1_startAnew 30 = .ok (.bipush 39, 2) := by decide +kernel
theorem dX1_startAnew_32 : decode cX1_startAnew 32 = .ok (.iconst 0, 1) := by decide +kernel
theorem dX1_startAnew_33 : decode cX1_startAnew 33 = .ok (.invokevirtual 52, 3) := by decide +kernel
theorem dX1_startAnew_36 : decode cX1_startAnew 36 = .ok (.return_, 1) := by decide +kernel
theorem dX1_copyFrom_0 : decode cX1_copyFrom 0 = .ok (.aload_n 0, 1) := by decide +kernel
theorem dX1_copyFrom_1 : decode cX1_copyFrom 1 = .ok (.aload_n 1, 1) := by decide +kernel
theorem dX1_copyFrom_2 : decode cX1_copyFrom 2 = .ok (.getfield 36, 3) := by decide +kernel
theorem dX1_copyFrom_5 : decode cX1_copyFrom 5 = .ok (.putfield 36, 3) := by decide +kernel
theorem dX1_copyFrom_8 : decode cX1_copyFrom 8 = .ok (.aload_n 0, 1) := by decide +kernel
theorem dX1_copyFrom_9 : decode cX1_copyFrom 9 = .ok (.aload_n 1, 1) := by decide +kernel
theorem dX1_copyFrom_10 : decode cX1_copyFrom 10 = .ok (.getfield 40, 3) := by decide +kernel
theorem dX1_copyFrom_13 : decode cX1_copyFrom 13 = .ok (.putfield 40, 3) := by decide +kernel
theorem dX1_copyFrom_16 : decode cX1_copyFrom 16 = .ok (.aload_n 0, 1) := by decide +kernel
theorem dX1_copyFrom_17 : decode cX1_copyFrom 17 = .ok (.aload_n 1, 1) := by decide +kernel
theorem dX1_copyFrom_18 : decode cX1_copyFrom 18 = .ok (.getfield 43, 3) := by decide +kernel
theorem dX1_copyFrom_21 : decode cX1_copyFrom 21 = .ok (.putfield 43, 3) := by decide +kernel
theorem dX1_copyFrom_24 : decode cX1_copyFrom 24 = .ok (.aload_n 0, 1) := by decide +kernel
theorem dX1_copyFrom_25 : decode cX1_copyFrom 25 = .ok (.aload_n 1, 1) := by decide +kernel
theorem dX1_copyFrom_26 : decode cX1_copyFrom 26 = .ok (.getfield 46, 3) := by decide +kernel
theorem dX1_copyFrom_29 : decode cX1_copyFrom 29 = .ok (.putfield 46, 3) := by decide +kernel
theorem dX1_copyFrom_32 : decode cX1_copyFrom 32 = .ok (.aload_n 0, 1) := by decide +kernel
theorem dX1_copyFrom_33 : decode cX1_copyFrom 33 = .ok (.aload_n 1, 1) := by decide +kernel
theorem dX1_copyFrom_34 : decode cX1_copyFrom 34 = .ok (.getfield 49, 3) := by decide +kernel
theorem dX1_copyFrom_37 : decode cX1_copyFrom 37 = .ok (.putfield 49, 3) := by decide +kernel
theorem dX1_copyFrom_40 : decode cX1_copyFrom 40 = .ok (.aload_n 1, 1) := by decide +kernel
theorem dX1_copyFrom_41 : decode cX1_copyFrom 41 = .ok (.getfield 9, 3) := by decide +kernel
theorem dX1_copyFrom_44 : decode cX1_copyFrom 44 = .ok (.iconst 0, 1) := by decide +kernel
theorem dX1_copyFrom_45 : decode cX1_copyFrom 45 = .ok (.aload_n 0, 1) := by decide +kernel
theorem dX1_copyFrom_46 : decode cX1_copyFrom 46 = .ok (.getfield 9, 3) := by decide +kernel
theorem dX1_copyFrom_49 : decode cX1_copyFrom 49 = .ok (.iconst 0, 1) := by decide +kernel
theorem dX1_copyFrom_50 : decode cX1_copyFrom 50 = .ok (.bipush 8, 2) := by decide +kernel
theorem dX1_copyFrom_52 : decode cX1_copyFrom 52 = .ok (.invokestatic 56, 3) := by decide +kernel
theorem dX1_copyFrom_55 : decode cX1_copyFrom 55 = .ok (.aload_n 1, 1) := by decide +kernel
theorem dX1_copyFrom_56 : decode cX1_copyFrom 56 = .ok (.getfield 15, 3) := by decide +kernel
theorem dX1_copyFrom_59 : decode cX1_copyFrom 59 = .ok (.iconst 0, 1) := by decide +kernel
theorem dX1_copyFrom_60 : decode cX1_copyFrom 60 = .ok (.aload_n 0, 1) := by decide +kernel
theorem dX1_copyFrom_61 : decode cX1_copyFrom 61 = .ok (.getfield 15, 3) := by decide +kernel
theorem dX1_copyFrom_64 : decode cX1_copyFrom 64 = .ok (.iconst 0, 1) := by decide +kernel
theorem dX1_copyFrom_65 : decode cX1_copyFrom 65 = .ok (.bipush 8, 2) := by decide +kernel
theorem dX1_copyFrom_67 : decode cX1_copyFrom 67 = .ok (.invokestatic 56, 3) := by decide +kernel
theorem dX1_copyFrom_70 : decode cX1_copyFrom 70 = .ok (.aload_n 1, 1) := by decide +kernel
theorem dX1_copyFrom_71 : decode cX1_copyFrom 71 = .ok (.getfield 18, 3) := by decide +kernel
theorem dX1_copyFrom_74 : decode cX1_copyFrom 74 = .ok (.iconst 0, 1) := by decide +kernel
theorem dX1_copyFrom_75 : decode cX1_copyFrom 75 = .ok (.aload_n 0, 1) := by decide +kernel
theorem dX1_copyFrom_76 : decode cX1_copyFrom 76 = .ok (.getfield 18, 3) := by decide +kernel
theorem dX1_copyFrom_79 : decode cX1_copyFrom 79 = .ok (.iconst 0, 1) := by decide +kernel
theorem dX1_copyFrom_80 : decode cX1_copyFrom 80 = .ok (.bipush 8, 2) := by decide +kernel
theorem dX1_copyFrom_82 : decode cX1_copyFrom 82 = .ok (.invokestatic 56, 3) := by decide +kernel
theorem dX1_copyFrom_85 : decode cX1_copyFrom 85 = .ok (.aload_n 1, 1) := by decide +kernel
theorem dX1_copyFrom_86 : decode cX1_copyFrom 86 = .ok (.getfield 21, 3) := by decide +kernel
theorem dX1_copyFrom_89 : decode cX1_copyFrom 89 = .ok (.iconst 0, 1) := by decide +kernel
theorem dX1_copyFrom_90 : decode cX1_copyFrom 90 = .ok (.aload_n 0, 1) := by decide +kernel
theorem dX1_copyFrom_91 : decode cX1_copyFrom 91 = .ok (.getfield 21, 3) := by decide +kernel
theorem dX1_copyFrom_94 : decode cX1_copyFrom 94 = .ok (.iconst 0, 1) := by decide +kernel
theorem dX1_copyFrom_95 : decode cX1_copyFrom 95 = .ok (.bipush 8, 2) := by decide +kernel
theorem dX1_copyFrom_97 : decode cX1_copyFrom 97 = .ok (.invokestatic 56, 3) := by decide +kernel
theorem dX1_copyFrom_100 : decode cX1_copyFrom 100 = .ok (.aload_n 1, 1) := by decide +kernel
theorem dX1_copyFrom_101 : decode cX1_copyFrom 101 = .ok (.getfield 24, 3) := by decide +kernel
theorem dX1_copyFrom_104 : decode cX1_copyFrom 104 = .ok (.iconst 0, 1) := by decide +kernel
theorem dX1_copyFrom_105 : decode cX1_copyFrom 105 = .ok (.aload_n 0, 1) := by decide +kernel
theorem dX1_copyFrom_106 : decode cX1_copyFrom 106 = .ok (.getfield 24, 3) := by decide +kernel
theorem dX1_copyFrom_109 : decode cX1_copyFrom 109 = .ok (.iconst 0, 1) := by decide +kernel
theorem dX1_copyFrom_110 : decode cX1_copyFrom 110 = .ok (.bipush 8, 2) := by decide +kernel
theorem dX1_copyFrom_112 : decode cX1_copyFrom 112 = .ok (.invokestatic 56, 3) := by decide +kernel
theorem dX1_copyFrom_115 : decode cX1_copyFrom 115 = .ok (.aload_n 1, 1) := by decide +kernel
theorem dX1_copyFrom_116 : decode cX1_copyFrom 116 = .ok (.getfield 27, 3) := by decide +kernel
theorem dX1_copyFrom_119 : decode cX1_copyFrom 119 = .ok (.iconst 0, 1) := by decide +kernel
theorem dX1_copyFrom_120 : decode cX1_copyFrom 120 = .ok (.aload_n 0, 1) := by decide +kernel
theorem dX1_copyFrom_121 : decode cX1_copyFrom 121 = .ok (.getfield 27, 3) := by decide +kernel
theorem dX1_copyFrom_124 : decode cX1_copyFrom 124 = .ok (.iconst 0, 1) := by decide +kernel
theorem dX1_copyFrom_125 : decode cX1_copyFrom 125 = .ok (.bipush 8, 2) := by decide +kernel
theorem dX1_copyFrom_127 : decode cX1_copyFrom 127 = .ok (.invokestatic 56, 3) := by decide +kernel
theorem dX1_copyFrom_130 : decode cX1_copyFrom 130 = .ok (.aload_n 1, 1) := by decide +kernel
theorem dX1_copyFrom_131 : decode cX1_copyFrom 131 = .ok (.getfield 30, 3) := by decide +kernel
theorem dX1_copyFrom_134 : decode cX1_copyFrom 134 = .ok (.iconst 0, 1) := by decide +kernel
theorem dX1_copyFrom_135 : decode cX1_copyFrom 135 = .ok (.aload_n 0, 1) := by decide +kernel
theorem dX1_copyFrom_136 : decode cX1_copyFrom 136 = .ok (.getfield 30, 3) := by decide +kernel
theorem dX1_copyFrom_139 : decode cX1_copyFrom 139 = .ok (.iconst 0, 1) := by decide +kernel
theorem dX1_copyFrom_140 : decode cX1_copyFrom 140 = .ok (.bipush 40, 2) := by decide +kernel
theorem dX1_copyFrom_142 : decode cX1_copyFrom 142 = .ok (.invokestatic 56, 3) := by decide +kernel
theorem dX1_copyFrom_145 : decode cX1_copyFrom 145 = .ok (.return_, 1) := by decide +kernel
theorem dX1_tellStorey_0 : decode cX1_tellStorey 0 = .ok (.aload_n 0, 1) := by decide +kernel
theorem dX1_tellStorey_1 : decode cX1_tellStorey 1 = .ok (.getfield 36, 3) := by decide +kernel
theorem dX1_tellStorey_4 : decode cX1_tellStorey 4 = .ok (.bipush 8, 2) := by decide +kernel
theorem dX1_tellStorey_6 : decode cX1_tellStorey 6 = .ok (.if_icmp .lt 4, 3) := by decide +kernel
theorem dX1_tellStorey_9 : decode cX1_tellStorey 9 = .ok (.return_, 1) := by decide +kernel
theorem dX1_tellStorey_10 : decode cX1_tellStorey 10 = .ok (.aload_n 0, 1) := by decide +kernel
theorem dX1_tellStorey_11 : decode cX1_tellStorey 11 = .ok (.getfield 9, 3) := by decide +kernel
theorem dX1_tellStorey_14 : decode cX1_tellStorey 14 = .ok (.aload_n 0, 1) := by decide +kernel
theorem dX1_tellStorey_15 : decode cX1_tellStorey 15 = .ok (.getfield 36, 3) := by decide +kernel
theorem dX1_tellStorey_18 : decode cX1_tellStorey 18 = .ok (.iload_n 1, 1) := by decide +kernel
theorem dX1_tellStorey_19 : decode cX1_tellStorey 19 = .ok (.iastore, 1) := by decide +kernel
theorem dX1_tellStorey_20 : decode cX1_tellStorey 20 = .ok (.aload_n 0, 1) := by decide +kernel
theorem dX1_tellStorey_21 : decode cX1_tellStorey 21 = .ok (.getfield 15, 3) := by decide +kernel
theorem dX1_tellStorey_24 : decode cX1_tellStorey 24 = .ok (.aload_n 0, 1) := by decide +kernel
theorem dX1_tellStorey_25 : decode cX1_tellStorey 25 = .ok (.getfield 36, 3) := by decide +kernel
theorem dX1_tellStorey_28 : decode cX1_tellStorey 28 = .ok (.iload_n 2, 1) := by decide +kernel
theorem dX1_tellStorey_29 : decode cX1_tellStorey 29 = .ok (.iastore, 1) := by decide +kernel
theorem dX1_tellStorey_30 : decode cX1_tellStorey 30 = .ok (.aload_n 0, 1) := by decide +kernel
theorem dX1_tellStorey_31 : decode cX1_tellStorey 31 = .ok (.getfield 18, 3) := by decide +kernel
theorem dX1_tellStorey_34 : decode cX1_tellStorey 34 = .ok (.aload_n 0, 1) := by decide +kernel
theorem dX1_tellStorey_35 : decode cX1_tellStorey 35 = .ok (.getfield 36, 3) := by decide +kernel
theorem dX1_tellStorey_38 : decode cX1_tellStorey 38 = .ok (.iload_n 3, 1) := by decide +kernel
theorem dX1_tellStorey_39 : decode cX1_tellStorey 39 = .ok (.iastore, 1) := by decide +kernel
theorem dX1_tellStorey_40 : decode cX1_tellStorey 40 = .ok (.aload_n 0, 1) := by decide +kernel
theorem dX1_tellStorey_41 : decode cX1_tellStorey 41 = .ok (.getfield 21, 3) := by decide +kernel
theorem dX1_tellStorey_44 : decode cX1_tellStorey 44 = .ok (.aload_n 0, 1) := by decide +kernel
theorem dX1_tellStorey_45 : decode cX1_tellStorey 45 = .ok (.getfield 36, 3) := by decide +kernel
theorem dX1_tellStorey_48 : decode cX1_tellStorey 48 = .ok (.iload 4, 2) := by decide +kernel
theorem dX1_tellStorey_50 : decode cX1_tellStorey 50 = .ok (.iastore, 1) := by decide +kernel
theorem dX1_tellStorey_51 : decode cX1_tellStorey 51 = .ok (.aload_n 0, 1) := by decide +kernel
theorem dX1_tellStorey_52 : decode cX1_tellStorey 52 = .ok (.getfield 24, 3) := by decide +kernel
theorem dX1_tellStorey_55 : decode cX1_tellStorey 55 = .ok (.aload_n 0, 1) := by decide +kernel
theorem dX1_tellStorey_56 : decode cX1_tellStorey 56 = .ok (.getfield 36, 3) := by decide +kernel
theorem dX1_tellStorey_59 : decode cX1_tellStorey 59 = .ok (.iconst 0, 1) := by decide +kernel
theorem dX1_tellStorey_60 : decode cX1_tellStorey 60 = .ok (.iastore, 1) := by decide +kernel
theorem dX1_tellStorey_61 : decode cX1_tellStorey 61 = .ok (.aload_n 0, 1) := by decide +kernel
theorem dX1_tellStorey_62 : decode cX1_tellStorey 62 = .ok (.getfield 27, 3) := by decide +kernel
theorem dX1_tellStorey_65 : decode cX1_tellStorey 65 = .ok (.aload_n 0, 1) := by decide +kernel
theorem dX1_tellStorey_66 : decode cX1_tellStorey 66 = .ok (.getfield 36, 3) := by decide +kernel
theorem dX1_tellStorey_69 : decode cX1_tellStorey 69 = .ok (.iconst 0, 1) := by decide +kernel
theorem dX1_tellStorey_70 : decode cX1_tellStorey 70 = .ok (.iastore, 1) := by decide +kernel
theorem dX1_tellStorey_71 : decode cX1_tellStorey 71 = .ok (.iload_n 1, 1) := by decide +kernel
theorem dX1_tellStorey_72 : decode cX1_tellStorey 72 = .ok (.iconst 2, 1) := by decide +kernel
theorem dX1_tellStorey_73 : decode cX1_tellStorey 73 = .ok (.if_icmp .ne 18, 3) := by decide +kernel
theorem dX1_tellStorey_76 : decode cX1_tellStorey 76 = .ok (.aload_n 0, 1) := by decide +kernel
theorem dX1_tellStorey_77 : decode cX1_tellStorey 77 = .ok (.dup, 1) := by decide +kernel
theorem dX1_tellStorey_78 : decode cX1_tellStorey 78 = .ok (.getfield 49, 3) := by decide +kernel
theorem dX1_tellStorey_81 : decode cX1_tellStorey 81 = .ok (.iconst 1, 1) := by decide +kernel
theorem dX1_tellStorey_82 : decode cX1_tellStorey 82 = .ok (.aload_n 0, 1) := by decide +kernel
theorem dX1_tellStorey_83 : decode cX1_tellStorey 83 = .ok (.getfield 36, 3) := by decide +kernel
theorem dX1_tellStorey_86 : decode cX1_tellStorey 86 = .ok (.ishl, 1) := by decide +kernel
theorem dX1_tellStorey_87 : decode cX1_tellStorey 87 = .ok (.ior, 1) := by decide +kernel
theorem dX1_tellStorey_88 : decode cX1_tellStorey 88 = .ok (.putfield 49, 3) := by decide +kernel
theorem dX1_tellStorey_91 : decode cX1_tellStorey 91 = .ok (.aload_n 0, 1) := by decide +kernel
theorem dX1_tellStorey_92 : decode cX1_tellStorey 92 = .ok (.dup, 1) := by decide +kernel
theorem dX1_tellStorey_93 : decode cX1_tellStorey 93 = .ok (.getfield 36, 3) := by decide +kernel
theorem dX1_tellStorey_96 : decode cX1_tellStorey 96 = .ok (.iconst 1, 1) := by decide +kernel
theorem dX1_tellStorey_97 : decode cX1_tellStorey 97 = .ok (.iadd, 1) := by decide +kernel
theorem dX1_tellStorey_98 : decode cX1_tellStorey 98 = .ok (.putfield 36, 3) := by decide +kernel
theorem dX1_tellStorey_101 : decode cX1_tellStorey 101 = .ok (.return_, 1) := by decide +kernel
theorem dX1_tellFolk_0 : decode cX1_tellFolk 0 = .ok (.aload_n 0, 1) := by decide +kernel
theorem dX1_tellFolk_1 : decode cX1_tellFolk 1 = .ok (.iload_n 1, 1) := by decide +kernel
theorem dX1_tellFolk_2 : decode cX1_tellFolk 2 = .ok (.invokevirtual 62, 3) := by decide +kernel
theorem dX1_tellFolk_5 : decode cX1_tellFolk 5 = .ok (.ifCond .eq 10, 3) := by decide +kernel
theorem dX1_tellFolk_8 : decode cX1_tellFolk 8 = .ok (.aload_n 0, 1) := by decide +kernel
theorem dX1_tellFolk_9 : decode cX1_tellFolk 9 = .ok (.getfield 24, 3) := by decide +kernel
theorem dX1_tellFolk_12 : decode cX1_tellFolk 12 = .ok (.iload_n 1, 1) := by decide +kernel
theorem dX1_tellFolk_13 : decode cX1_tellFolk 13 = .ok (.iload_n 2, 1) := by decide +kernel
theorem dX1_tellFolk_14 : decode cX1_tellFolk 14 = .ok (.iastore, 1) := by decide +kernel
theorem dX1_tellFolk_15 : decode cX1_tellFolk 15 = .ok (.return_, 1) := by decide +kernel
theorem dX1_tellWind_0 : decode cX1_tellWind 0 = .ok (.iload_n 1, 1) := by decide +kernel
theorem dX1_tellWind_1 : decode cX1_tellWind 1 = .ok (.istore 4, 2) := by decide +kernel
theorem dX1_tellWind_3 : decode cX1_tellWind 3 = .ok (.iload 4, 2) := by decide +kernel
theorem dX1_tellWind_5 : decode cX1_tellWind 5 = .ok (.ifCond .lt 30, 3) := by decide +kernel
theorem dX1_tellWind_8 : decode cX1_tellWind 8 = .ok (.iload 4, 2) := by decide +kernel
theorem dX1_tellWind_10 : decode cX1_tellWind 10 = .ok (.iload_n 2, 1) := by decide +kernel
theorem dX1_tellWind_11 : decode cX1_tellWind 11 = .ok (.if_icmp .gt 24, 3) := by decide +kernel
theorem dX1_tellWind_14 : decode cX1_tellWind 14 = .ok (.iload 4, 2) := by decide +kernel
theorem dX1_tellWind_16 : decode cX1_tellWind 16 = .ok (.bipush 40, 2) := by decide +kernel
theorem dX1_tellWind_18 : decode cX1_tellWind 18 = .ok (.if_icmp .ge 17, 3) := by decide +kernel
theorem dX1_tellWind_21 : decode cX1_tellWind 21 = .ok (.aload_n 0, 1) := by decide +kernel
theorem dX1_tellWind_22 : decode cX1_tellWind 22 = .ok (.getfield 30, 3) := by decide +kernel
theorem dX1_tellWind_25 : decode cX1_tellWind 25 = .ok (.iload 4, 2) := by decide +kernel
theorem dX1_tellWind_27 : decode cX1_tellWind 27 = .ok (.iload_n 3, 1) := by decide +kernel
theorem dX1_tellWind_28 : decode cX1_tellWind 28 = .ok (.iastore, 1) := by decide +kernel
theorem dX1_tellWind_29 : decode cX1_tellWind 29 = .ok (.iinc 4 1, 3) := by decide +kernel
theorem dX1_tellWind_32 : decode cX1_tellWind 32 = .ok (.goto (-29), 3) := by decide +kernel
theorem dX1_tellWind_35 : decode cX1_tellWind 35 = .ok (.return_, 1) := by decide +kernel
theorem dX1_tellPair_0 : decode cX1_tellPair 0 = .ok (.aload_n 0, 1) := by decide +kernel
theorem dX1_tellPair_1 : decode cX1_tellPair 1 = .ok (.iload_n 1, 1) := by decide +kernel
theorem dX1_tellPair_2 : decode cX1_tellPair 2 = .ok (.invokevirtual 62, 3) := by decide +kernel
theorem dX1_tellPair_5 : decode cX1_tellPair 5 = .ok (.ifCond .eq 33, 3) := by decide +kernel
theorem dX1_tellPair_8 : decode cX1_tellPair 8 = .ok (.aload_n 0, 1) := by decide +kernel
theorem dX1_tellPair_9 : decode cX1_tellPair 9 = .ok (.iload_n 2, 1) := by decide +kernel
theorem dX1_tellPair_10 : decode cX1_tellPair 10 = .ok (.invokevirtual 62, 3) := by decide +kernel
theorem dX1_tellPair_13 : decode cX1_tellPair 13 = .ok (.ifCond .eq 25, 3) := by decide +kernel
theorem dX1_tellPair_16 : decode cX1_tellPair 16 = .ok (.aload_n 0, 1) := by decide +kernel
theorem dX1_tellPair_17 : decode cX1_tellPair 17 = .ok (.getfield 27, 3) := by decide +kernel
theorem dX1_tellPair_20 : decode cX1_tellPair 20 = .ok (.iload_n 2, 1) := by decide +kernel
theorem dX1_tellPair_21 : decode cX1_tellPair 21 = .ok (.dup2, 1) := by decide +kernel
theorem dX1_tellPair_22 : decode cX1_tellPair 22 = .ok (.iaload, 1) := by decide +kernel
theorem dX1_tellPair_23 : decode cX1_tellPair 23 = .ok (.iconst 1, 1) := by decide +kernel
theorem dX1_tellPair_24 : decode cX1_tellPair 24 = .ok (.iload_n 1, 1) := by decide +kernel
theorem dX1_tellPair_25 : decode cX1_tellPair 25 = .ok (.ishl, 1) := by decide +kernel
theorem dX1_tellPair_26 : decode cX1_tellPair 26 = .ok (.ior, 1) := by decide +kernel
theorem dX1_tellPair_27 : decode cX1_tellPair 27 = .ok (.iastore, 1) := by decide +kernel
theorem dX1_tellPair_28 : decode cX1_tellPair 28 = .ok (.aload_n 0, 1) := by decide +kernel
theorem dX1_tellPair_29 : decode cX1_tellPair 29 = .ok (.dup, 1) := by decide +kernel
theorem dX1_tellPair_30 : decode cX1_tellPair 30 = .ok (.getfield 40, 3) := by decide +kernel
theorem dX1_tellPair_33 : decode cX1_tellPair 33 = .ok (.iconst 1, 1) := by decide +kernel
theorem dX1_tellPair_34 : decode cX1_tellPair 34 = .ok (.iadd, 1) := by decide +kernel
theorem dX1_tellPair_35 : decode cX1_tellPair 35 = .ok (.putfield 40, 3) := by decide +kernel
theorem dX1_tellPair_38 : decode cX1_tellPair 38 = .ok (.return_, 1) := by decide +kernel
theorem dX1_has_0 : decode cX1_has 0 = .ok (.iload_n 1, 1) := by decide +kernel
theorem dX1_has_1 : decode cX1_has 1 = .ok (.ifCond .lt 15, 3) := by decide +kernel
theorem dX1_has_4 : decode cX1_has 4 = .ok (.iload_n 1, 1) := by decide +kernel
theorem dX1_has_5 : decode cX1_has 5 = .ok (.aload_n 0, 1) := by decide +kernel
theorem dX1_has_6 : decode cX1_has 6 = .ok (.getfield 36, 3) := by decide +kernel
theorem dX1_has_9 : decode cX1_has 9 = .ok (.if_icmp .ge 7, 3) := by decide +kernel
theorem dX1_has_12 : decode cX1_has 12 = .ok (.iconst 1, 1) := by decide +kernel
theorem dX1_has_13 : decode cX1_has 13 = .ok (.goto 4, 3) := by decide +kernel
theorem dX1_has_16 : decode cX1_has 16 = .ok (.iconst 0, 1) := by decide +kernel
theorem dX1_has_17 : decode cX1_has 17 = .ok (.ireturn, 1) := by decide +kernel
theorem dX1_all_0 : decode cX1_all 0 = .ok (.iconst 1, 1) := by decide +kernel
theorem dX1_all_1 : decode cX1_all 1 = .ok (.aload_n 0, 1) := by decide +kernel
theorem dX1_all_2 : decode cX1_all 2 = .ok (.getfield 36, 3) := by decide +kernel
theorem dX1_all_5 : decode cX1_all 5 = .ok (.ishl, 1) := by decide +kernel
theorem dX1_all_6 : decode cX1_all 6 = .ok (.iconst 1, 1) := by decide +kernel
theorem dX1_all_7 : decode cX1_all 7 = .ok (.isub, 1) := by decide +kernel
theorem dX1_all_8 : decode cX1_all 8 = .ok (.ireturn, 1) := by decide +kernel
theorem dX1_loadOf_0 : decode cX1_loadOf 0 = .ok (.iconst 0, 1) := by decide +kernel
theorem dX1_loadOf_1 : decode cX1_loadOf 1 = .ok (.istore_n 2, 1) := by decide +kernel
theorem dX1_loadOf_2 : decode cX1_loadOf 2 = .ok (.iconst 0, 1) := by decide +kernel
theorem dX1_loadOf_3 : decode cX1_loadOf 3 = .ok (.istore_n 3, 1) := by decide +kernel
theorem dX1_loadOf_4 : decode cX1_loadOf 4 = .ok (.iload_n 3, 1) := by decide +kernel
theorem dX1_loadOf_5 : decode cX1_loadOf 5 = .ok (.aload_n 0, 1) := by decide +kernel
theorem dX1_loadOf_6 : decode cX1_loadOf 6 = .ok (.getfield 36, 3) := by decide +kernel
theorem dX1_loadOf_9 : decode cX1_loadOf 9 = .ok (.if_icmp .ge 34, 3) := by decide +kernel
theorem dX1_loadOf_12 : decode cX1_loadOf 12 = .ok (.iload_n 1, 1) := by decide +kernel
theorem dX1_loadOf_13 : decode cX1_loadOf 13 = .ok (.iload_n 3, 1) := by decide +kernel
theorem dX1_loadOf_14 : decode cX1_loadOf 14 = .ok (.ishr, 1) := by decide +kernel
theorem dX1_loadOf_15 : decode cX1_loadOf 15 = .ok (.iconst 1, 1) := by decide +kernel
theorem dX1_loadOf_16 : decode cX1_loadOf 16 = .ok (.iand, 1) := by decide +kernel
theorem dX1_loadOf_17 : decode cX1_loadOf 17 = .ok (.iconst 1, 1) := by decide +kernel
theorem dX1_loadOf_18 : decode cX1_loadOf 18 = .ok (.if_icmp .ne 19, 3) := by decide +kernel
theorem dX1_loadOf_21 : decode cX1_loadOf 21 = .ok (.iload_n 2, 1) := by decide +kernel
theorem dX1_loadOf_22 : decode cX1_loadOf 22 = .ok (.aload_n 0, 1) := by decide +kernel
theorem dX1_loadOf_23 : decode cX1_loadOf 23 = .ok (.getfield 15, 3) := by decide +kernel
theorem dX1_loadOf_26 : decode cX1_loadOf 26 = .ok (.iload_n 3, 1) := by decide +kernel
theorem dX1_loadOf_27 : decode cX1_loadOf 27 = .ok (.iaload, 1) := by decide +kernel
theorem dX1_loadOf_28 : decode cX1_loadOf 28 = .ok (.aload_n 0, 1) := by decide +kernel
theorem dX1_loadOf_29 : decode cX1_loadOf 29 = .ok (.getfield 24, 3) := by decide +kernel
theorem dX1_loadOf_32 : decode cX1_loadOf 32 = .ok (.iload_n 3, 1) := by decide +kernel
theorem dX1_loadOf_33 : decode cX1_loadOf 33 = .ok (.iaload, 1) := by decide +kernel
theorem dX1_loadOf_34 : decode cX1_loadOf 34 = .ok (.iadd, 1) := by decide +kernel
theorem dX1_loadOf_35 : decode cX1_loadOf 35 = .ok (.iadd, 1) := by decide +kernel
theorem dX1_loadOf_36 : decode cX1_loadOf 36 = .ok (.istore_n 2, 1) := by decide +kernel
theorem dX1_loadOf_37 : decode cX1_loadOf 37 = .ok (.iinc 3 1, 3) := by decide +kernel
theorem dX1_loadOf_40 : decode cX1_loadOf 40 = .ok (.goto (-36), 3) := by decide +kernel
theorem dX1_loadOf_43 : decode cX1_loadOf 43 = .ok (.iload_n 2, 1) := by decide +kernel
theorem dX1_loadOf_44 : decode cX1_loadOf 44 = .ok (.ireturn, 1) := by decide +kernel
theorem dX1_heightOf_0 : decode cX1_heightOf 0 = .ok (.iconst 0, 1) := by decide +kernel
theorem dX1_heightOf_1 : decode cX1_heightOf 1 = .ok (.istore_n 2, 1) := by decide +kernel
theorem dX1_heightOf_2 : decode cX1_heightOf 2 = .ok (.iconst 0, 1) := by decide +kernel
theorem dX1_heightOf_3 : decode cX1_heightOf 3 = .ok (.istore_n 3, 1) := by decide +kernel
theorem dX1_heightOf_4 : decode cX1_heightOf 4 = .ok (.iload_n 3, 1) := by decide +kernel
theorem dX1_heightOf_5 : decode cX1_heightOf 5 = .ok (.aload_n 0, 1) := by decide +kernel
theorem dX1_heightOf_6 : decode cX1_heightOf 6 = .ok (.getfield 36, 3) := by decide +kernel
theorem dX1_heightOf_9 : decode cX1_heightOf 9 = .ok (.if_icmp .ge 27, 3) := by decide +kernel
theorem dX1_heightOf_12 : decode cX1_heightOf 12 = .ok (.iload_n 1, 1) := by decide +kernel
theorem dX1_heightOf_13 : decode cX1_heightOf 13 = .ok (.iload_n 3, 1) := by decide +kernel
theorem dX1_heightOf_14 : decode cX1_heightOf 14 = .ok (.ishr, 1) := by decide +kernel
theorem dX1_heightOf_15 : decode cX1_heightOf 15 = .ok (.iconst 1, 1) := by decide +kernel
theorem dX1_heightOf_16 : decode cX1_heightOf 16 = .ok (.iand, 1) := by decide +kernel
theorem dX1_heightOf_17 : decode cX1_heightOf 17 = .ok (.iconst 1, 1) := by decide +kernel
theorem dX1_heightOf_18 : decode cX1_heightOf 18 = .ok (.if_icmp .ne 12, 3) := by decide +kernel
theorem dX1_heightOf_21 : decode cX1_heightOf 21 = .ok (.iload_n 2, 1) := by decide +kernel
theorem dX1_heightOf_22 : decode cX1_heightOf 22 = .ok (.aload_n 0, 1) := by decide +kernel
theorem dX1_heightOf_23 : decode cX1_heightOf 23 = .ok (.getfield 21, 3) := by decide +kernel
theorem dX1_heightOf_26 : decode cX1_heightOf 26 = .ok (.iload_n 3, 1) := by decide +kernel
theorem dX1_heightOf_27 : decode cX1_heightOf 27 = .ok (.iaload, 1) := by decide +kernel
theorem dX1_heightOf_28 : decode cX1_heightOf 28 = .ok (.iadd, 1) := by decide +kernel
theorem dX1_heightOf_29 : decode cX1_heightOf 29 = .ok (.istore_n 2, 1) := by decide +kernel
theorem dX1_heightOf_30 : decode cX1_heightOf 30 = .ok (.iinc 3 1, 3) := by decide +kernel
theorem dX1_heightOf_33 : decode cX1_heightOf 33 = .ok (.goto (-29), 3) := by decide +kernel
theorem dX1_heightOf_36 : decode cX1_heightOf 36 = .ok (.iload_n 2, 1) := by decide +kernel
theorem dX1_heightOf_37 : decode cX1_heightOf 37 = .ok (.ireturn, 1) := by decide +kernel
theorem dX1_windOf_0 : decode cX1_windOf 0 = .ok (.iload_n 1, 1) := by decide +kernel
theorem dX1_windOf_1 : decode cX1_windOf 1 = .ok (.ifCond .lt 18, 3) := by decide +kernel
theorem dX1_windOf_4 : decode cX1_windOf 4 = .ok (.iload_n 1, 1) := by decide +kernel
theorem dX1_windOf_5 : decode cX1_windOf 5 = .ok (.bipush 40, 2) := by decide +kernel
theorem dX1_windOf_7 : decode cX1_windOf 7 = .ok (.if_icmp .ge 12, 3) := by decide +kernel
theorem dX1_windOf_10 : decode cX1_windOf 10 = .ok (.aload_n 0, 1) := by decide +kernel
theorem dX1_windOf_11 : decode cX1_windOf 11 = .ok (.getfield 30, 3) := by decide +kernel
theorem dX1_windOf_14 : decode cX1_windOf 14 = .ok (.iload_n 1, 1) := by decide +kernel
theorem dX1_windOf_15 : decode cX1_windOf 15 = .ok (.iaload, 1) := by decide +kernel
theorem dX1_windOf_16 : decode cX1_windOf 16 = .ok (.goto 4, 3) := by decide +kernel
theorem dX1_windOf_19 : decode cX1_windOf 19 = .ok (.iconst 0, 1) := by decide +kernel
theorem dX1_windOf_20 : decode cX1_windOf 20 = .ok (.ireturn, 1) := by decide +kernel
theorem dX1_whyNot_0 : decode cX1_whyNot 0 = .ok (.iload_n 2, 1) := by decide +kernel
theorem dX1_whyNot_1 : decode cX1_whyNot 1 = .ok (.iload_n 1, 1) := by decide +kernel
theorem dX1_whyNot_2 : decode cX1_whyNot 2 = .ok (.ishr, 1) := by decide +kernel
theorem dX1_whyNot_3 : decode cX1_whyNot 3 = .ok (.iconst 1, 1) := by decide +kernel
theorem dX1_whyNot_4 : decode cX1_whyNot 4 = .ok (.iand, 1) := by decide +kernel
theorem dX1_whyNot_5 : decode cX1_whyNot 5 = .ok (.iconst 1, 1) := by decide +kernel
theorem dX1_whyNot_6 : decode cX1_whyNot 6 = .ok (.if_icmp .ne 5, 3) := by decide +kernel
theorem dX1_whyNot_9 : decode cX1_whyNot 9 = .ok (.iconst 1, 1) := by decide +kernel
theorem dX1_whyNot_10 : decode cX1_whyNot 10 = .ok (.ireturn, 1) := by decide +kernel
theorem dX1_whyNot_11 : decode cX1_whyNot 11 = .ok (.aload_n 0, 1) := by decide +kernel
theorem dX1_whyNot_12 : decode cX1_whyNot 12 = .ok (.iload_n 1, 1) := by decide +kernel
theorem dX1_whyNot_13 : decode cX1_whyNot 13 = .ok (.iload_n 2, 1) := by decide +kernel
theorem dX1_whyNot_14 : decode cX1_whyNot 14 = .ok (.invokevirtual 66, 3) := by decide +kernel
theorem dX1_whyNot_17 : decode cX1_whyNot 17 = .ok (.ifCond .ne 5, 3) := by decide +kernel
theorem dX1_whyNot_20 : decode cX1_whyNot 20 = .ok (.iconst 2, 1) := by decide +kernel
theorem dX1_whyNot_21 : decode cX1_whyNot 21 = .ok (.ireturn, 1) := by decide +kernel
theorem dX1_whyNot_22 : decode cX1_whyNot 22 = .ok (.aload_n 0, 1) := by decide +kernel
theorem dX1_whyNot_23 : decode cX1_whyNot 23 = .ok (.getfield 18, 3) := by decide +kernel
theorem dX1_whyNot_26 : decode cX1_whyNot 26 = .ok (.iload_n 1, 1) := by decide +kernel
theorem dX1_whyNot_27 : decode cX1_whyNot 27 = .ok (.iaload, 1) := by decide +kernel
theorem dX1_whyNot_28 : decode cX1_whyNot 28 = .ok (.iload_n 3, 1) := by decide +kernel
theorem dX1_whyNot_29 : decode cX1_whyNot 29 = .ok (.if_icmp .ge 5, 3) := by decide +kernel
theorem dX1_whyNot_32 : decode cX1_whyNot 32 = .ok (.iconst 3, 1) := by decide +kernel
theorem dX1_whyNot_33 : decode cX1_whyNot 33 = .ok (.ireturn, 1) := by decide +kernel
theorem dX1_whyNot_34 : decode cX1_whyNot 34 = .ok (.iload 4, 2) := by decide +kernel
theorem dX1_whyNot_36 : decode cX1_whyNot 36 = .ok (.iload_n 3, 1) := by decide +kernel
theorem dX1_whyNot_37 : decode cX1_whyNot 37 = .ok (.if_icmp .ge 7, 3) := by decide +kernel
theorem dX1_whyNot_40 : decode cX1_whyNot 40 = .ok (.iconst 4, 1) := by decide +kernel
theorem dX1_whyNot_41 : decode cX1_whyNot 41 = .ok (.goto 4, 3) := by decide +kernel
theorem dX1_whyNot_44 : decode cX1_whyNot 44 = .ok (.iconst 0, 1) := by decide +kernel
theorem dX1_whyNot_45 : decode cX1_whyNot 45 = .ok (.ireturn, 1) := by decide +kernel
theorem dX1_hasPlace_0 : decode cX1_hasPlace 0 = .ok (.aload_n 0, 1) := by decide +kernel
theorem dX1_hasPlace_1 : decode cX1_hasPlace 1 = .ok (.getfield 9, 3) := by decide +kernel
theorem dX1_hasPlace_4 : decode cX1_hasPlace 4 = .ok (.iload_n 1, 1) := by decide +kernel
theorem dX1_hasPlace_5 : decode cX1_hasPlace 5 = .ok (.iaload, 1) := by decide +kernel
theorem dX1_hasPlace_6 : decode cX1_hasPlace 6 = .ok (.iconst 1, 1) := by decide +kernel
theorem dX1_hasPlace_7 : decode cX1_hasPlace 7 = .ok (.if_icmp .ne 9, 3) := by decide +kernel
theorem dX1_hasPlace_10 : decode cX1_hasPlace 10 = .ok (.iload_n 2, 1) := by decide +kernel
theorem dX1_hasPlace_11 : decode cX1_hasPlace 11 = .ok (.ifCond .eq 5, 3) := by decide +kernel
theorem dX1_hasPlace_14 : decode cX1_hasPlace 14 = .ok (.iconst 0, 1) := by decide +kernel
theorem dX1_hasPlace_15 : decode cX1_hasPlace 15 = .ok (.ireturn, 1) := by decide +kernel
theorem dX1_hasPlace_16 : decode cX1_hasPlace 16 = .ok (.aload_n 0, 1) := by decide +kernel
theorem dX1_hasPlace_17 : decode cX1_hasPlace 17 = .ok (.getfield 49, 3) := by decide +kernel
theorem dX1_hasPlace_20 : decode cX1_hasPlace 20 = .ok (.iload_n 2, 1) := by decide +kernel
theorem dX1_hasPlace_21 : decode cX1_hasPlace 21 = .ok (.iand, 1) := by decide +kernel
theorem dX1_hasPlace_22 : decode cX1_hasPlace 22 = .ok (.ifCond .eq 5, 3) := by decide +kernel
theorem dX1_hasPlace_25 : decode cX1_hasPlace 25 = .ok (.iconst 0, 1) := by decide +kernel
theorem dX1_hasPlace_26 : decode cX1_hasPlace 26 = .ok (.ireturn, 1) := by decide +kernel
theorem dX1_hasPlace_27 : decode cX1_hasPlace 27 = .ok (.aload_n 0, 1) := by decide +kernel
theorem dX1_hasPlace_28 : decode cX1_hasPlace 28 = .ok (.getfield 9, 3) := by decide +kernel
theorem dX1_hasPlace_31 : decode cX1_hasPlace 31 = .ok (.iload_n 1, 1) := by decide +kernel
theorem dX1_hasPlace_32 : decode cX1_hasPlace 32 = .ok (.iaload, 1) := by decide +kernel
theorem dX1_hasPlace_33 : decode cX1_hasPlace 33 = .ok (.iconst 3, 1) := by decide +kernel
theorem dX1_hasPlace_34 : decode cX1_hasPlace 34 = .ok (.if_icmp .ne 13, 3) := by decide +kernel
theorem dX1_hasPlace_37 : decode cX1_hasPlace 37 = .ok (.iload_n 2, 1) := by decide +kernel
theorem dX1_hasPlace_38 : decode cX1_hasPlace 38 = .ok (.invokestatic 70, 3) := by decide +kernel
theorem dX1_hasPlace_41 : decode cX1_hasPlace 41 = .ok (.iconst 3, 1) := by decide +kernel
theorem dX1_hasPlace_42 : decode cX1_hasPlace 42 = .ok (.if_icmp .lt 5, 3) := by decide +kernel
theorem dX1_hasPlace_45 : decode cX1_hasPlace 45 = .ok (.iconst 0, 1) := by decide +kernel
theorem dX1_hasPlace_46 : decode cX1_hasPlace 46 = .ok (.ireturn, 1) := by decide +kernel
theorem dX1_hasPlace_47 : decode cX1_hasPlace 47 = .ok (.aload_n 0, 1) := by decide +kernel
theorem dX1_hasPlace_48 : decode cX1_hasPlace 48 = .ok (.getfield 27, 3) := by decide +kernel
theorem dX1_hasPlace_51 : decode cX1_hasPlace 51 = .ok (.iload_n 1, 1) := by decide +kernel
theorem dX1_hasPlace_52 : decode cX1_hasPlace 52 = .ok (.iaload, 1) := by decide +kernel
theorem dX1_hasPlace_53 : decode cX1_hasPlace 53 = .ok (.iload_n 2, 1) := by decide +kernel
theorem dX1_hasPlace_54 : decode cX1_hasPlace 54 = .ok (.iconst (-1), 1) := by decide +kernel
theorem dX1_hasPlace_55 : decode cX1_hasPlace 55 = .ok (.ixor, 1) := by decide +kernel
theorem dX1_hasPlace_56 : decode cX1_hasPlace 56 = .ok (.iand, 1) := by decide +kernel
theorem dX1_hasPlace_57 : decode cX1_hasPlace 57 = .ok (.ifCond .ne 7, 3) := by decide +kernel
theorem dX1_hasPlace_60 : decode cX1_hasPlace 60 = .ok (.iconst 1, 1) := by decide +kernel
theorem dX1_hasPlace_61 : decode cX1_hasPlace 61 = .ok (.goto 4, 3) := by decide +kernel
theorem dX1_hasPlace_64 : decode cX1_hasPlace 64 = .ok (.iconst 0, 1) := by decide +kernel
theorem dX1_hasPlace_65 : decode cX1_hasPlace 65 = .ok (.ireturn, 1) := by decide +kernel
theorem dX1_whyNotOn_0 : decode cX1_whyNotOn 0 = .ok (.aload_n 0, 1) := by decide +kernel
theorem dX1_whyNotOn_1 : decode cX1_whyNotOn 1 = .ok (.iload_n 2, 1) := by decide +kernel
theorem dX1_whyNotOn_2 : decode cX1_whyNotOn 2 = .ok (.iload_n 3, 1) := by decide +kernel
theorem dX1_whyNotOn_3 : decode cX1_whyNotOn 3 = .ok (.aload_n 0, 1) := by decide +kernel
theorem dX1_whyNotOn_4 : decode cX1_whyNotOn 4 = .ok (.iload_n 3, 1) := by decide +kernel
theorem dX1_whyNotOn_5 : decode cX1_whyNotOn 5 = .ok (.invokevirtual 76, 3) := by decide +kernel
theorem dX1_whyNotOn_8 : decode cX1_whyNotOn 8 = .ok (.aload_n 0, 1) := by decide +kernel
theorem dX1_whyNotOn_9 : decode cX1_whyNotOn 9 = .ok (.getfield 43, 3) := by decide +kernel
theorem dX1_whyNotOn_12 : decode cX1_whyNotOn 12 = .ok (.invokevirtual 79, 3) := by decide +kernel
theorem dX1_whyNotOn_15 : decode cX1_whyNotOn 15 = .ok (.istore 4, 2) := by decide +kernel
theorem dX1_whyNotOn_17 : decode cX1_whyNotOn 17 = .ok (.iload 4, 2) := by decide +kernel
theorem dX1_whyNotOn_19 : decode cX1_whyNotOn 19 = .ok (.ifCond .ne 15, 3) := by decide +kernel
theorem dX1_whyNotOn_22 : decode cX1_whyNotOn 22 = .ok (.aload_n 0, 1) := by decide +kernel
theorem dX1_whyNotOn_23 : decode cX1_whyNotOn 23 = .ok (.iload_n 1, 1) := by decide +kernel
theorem dX1_whyNotOn_24 : decode cX1_whyNotOn 24 = .ok (.invokevirtual 83, 3) := by decide +kernel
theorem dX1_whyNotOn_27 : decode cX1_whyNotOn 27 = .ok (.bipush 9, 2) := by decide +kernel
theorem dX1_whyNotOn_29 : decode cX1_whyNotOn 29 = .ok (.if_icmp .ne 5, 3) := by decide +kernel
theorem dX1_whyNotOn_32 : decode cX1_whyNotOn 32 = .ok (.iconst 5, 1) := by decide +kernel
theorem dX1_whyNotOn_33 : decode cX1_whyNotOn 33 = .ok (.ireturn, 1) := by decide +kernel
theorem dX1_whyNotOn_34 : decode cX1_whyNotOn 34 = .ok (.iload 4, 2) := by decide +kernel
theorem dX1_whyNotOn_36 : decode cX1_whyNotOn 36 = .ok (.ireturn, 1) := by decide +kernel
theorem dX2_init_0 : decode cX2_init 0 = .ok (.aload_n 0, 1) := by decide +kernel
theorem dX2_init_1 : decode cX2_init 1 = .ok (.invokespecial 3, 3) := by decide +kernel
theorem dX2_init_4 : decode cX2_init 4 = .ok (.aload_n 0, 1) := by decide +kernel
theorem dX2_init_5 : decode cX2_init 5 = .ok (.sipush 200, 3) := by decide +kernel
theorem dX2_init_8 : decode cX2_init 8 = .ok (.newarray .char, 2) := by decide +kernel
theorem dX2_init_10 : decode cX2_init 10 = .ok (.putfield 9, 3) := by decide +kernel
theorem dX2_init_13 : decode cX2_init 13 = .ok (.return_, 1) := by decide +kernel
theorem dX2_append_0 : decode cX2_append 0 = .ok (.aload_n 0, 1) := by decide +kernel
theorem dX2_append_1 : decode cX2_append 1 = .ok (.getfield 15, 3) := by decide +kernel
theorem dX2_append_4 : decode cX2_append 4 = .ok (.sipush 200, 3) := by decide +kernel
theorem dX2_append_7 : decode cX2_append 7 = .ok (.if_icmp .ge 24, 3) := by decide +kernel
theorem dX2_append_10 : decode cX2_append 10 = .ok (.aload_n 0, 1) := by decide +kernel
theorem dX2_append_11 : decode cX2_append 11 = .ok (.getfield 9, 3) := by decide +kernel
theorem dX2_append_14 : decode cX2_append 14 = .ok (.aload_n 0, 1) := by decide +kernel
theorem dX2_append_15 : decode cX2_append 15 = .ok (.getfield 15, 3) := by decide +kernel
theorem dX2_append_18 : decode cX2_append 18 = .ok (.iload_n 1, 1) := by decide +kernel
theorem dX2_append_19 : decode cX2_append 19 = .ok (.i2c, 1) := by decide +kernel
theorem dX2_append_20 : decode cX2_append 20 = .ok (.castore, 1) := by decide +kernel
theorem dX2_append_21 : decode cX2_append 21 = .ok (.aload_n 0, 1) := by decide +kernel
theorem dX2_append_22 : decode cX2_append 22 = .ok (.dup, 1) := by decide +kernel
theorem dX2_append_23 : decode cX2_append 23 = .ok (.getfield 15, 3) := by decide +kernel
theorem dX2_append_26 : decode cX2_append 26 = .ok (.iconst 1, 1) := by decide +kernel
theorem dX2_append_27 : decode cX2_append 27 = .ok (.iadd, 1) := by decide +kernel
theorem dX2_append_28 : decode cX2_append 28 = .ok (.putfield 15, 3) := by decide +kernel
theorem dX2_append_31 : decode cX2_append 31 = .ok (.return_, 1) := by decide +kernel
theorem dX2_endOfThose_0 : decode cX2_endOfThose 0 = .ok (.iload_n 1, 1) := by decide +kernel
theorem dX2_endOfThose_1 : decode cX2_endOfThose 1 = .ok (.istore 4, 2) := by decide +kernel
theorem dX2_endOfThose_3 : decode cX2_endOfThose 3 = .ok (.iload 4, 2) := by decide +kernel
theorem dX2_endOfThose_5 : decode cX2_endOfThose 5 = .ok (.ifCond .lt 40, 3) := by decide +kernel
theorem dX2_endOfThose_8 : decode cX2_endOfThose 8 = .ok (.iload 4, 2) := by decide +kernel
theorem dX2_endOfThose_10 : decode cX2_endOfThose 10 = .ok (.aload_n 0, 1) := by decide +kernel
theorem dX2_endOfThose_11 : decode cX2_endOfThose 11 = .ok (.getfield 15, 3) := by decide +kernel
theorem dX2_endOfThose_14 : decode cX2_endOfThose 14 = .ok (.if_icmp .ge 31, 3) := by decide +kernel
theorem dX2_endOfThose_17 : decode cX2_endOfThose 17 = .ok (.aload_n 0, 1) := by decide +kernel
theorem dX2_endOfThose_18 : decode cX2_endOfThose 18 = .ok (.getfield 9, 3) := by decide +kernel
theorem dX2_endOfThose_21 : decode cX2_endOfThose 21 = .ok (.iload 4, 2) := by decide +kernel
theorem dX2_endOfThose_23 : decode cX2_endOfThose 23 = .ok (.caload, 1) := by decide +kernel
theorem dX2_endOfThose_24 : decode cX2_endOfThose 24 = .ok (.iload_n 2, 1) := by decide +kernel
theorem dX2_endOfThose_25 : decode cX2_endOfThose 25 = .ok (.if_icmp .lt 20, 3) := by decide +kernel
theorem dX2_endOfThose_28 : decode cX2_endOfThose 28 = .ok (.aload_n 0, 1) := by decide +kernel
theorem dX2_endOfThose_29 : decode cX2_endOfThose 29 = .ok (.getfield 9, 3) := by decide +kernel
theorem dX2_endOfThose_32 : decode cX2_endOfThose 32 = .ok (.iload 4, 2) := by decide +kernel
theorem dX2_endOfThose_34 : decode cX2_endOfThose 34 = .ok (.caload, 1) := by decide +kernel
theorem dX2_endOfThose_35 : decode cX2_endOfThose 35 = .ok (.iload_n 3, 1) := by decide +kernel
theorem dX2_endOfThose_36 : decode cX2_endOfThose 36 = .ok (.if_icmp .gt 9, 3) := by decide +kernel
theorem dX2_endOfThose_39 : decode cX2_endOfThose 39 = .ok (.iinc 4 1, 3) := by decide +kernel
theorem dX2_endOfThose_42 : decode cX2_endOfThose 42 = .ok (.goto (-39), 3) := by decide +kernel
theorem dX2_endOfThose_45 : decode cX2_endOfThose 45 = .ok (.iload 4, 2) := by decide +kernel
theorem dX2_endOfThose_47 : decode cX2_endOfThose 47 = .ok (.ireturn, 1) := by decide +kernel
theorem dX2_isBetween_0 : decode cX2_isBetween 0 = .ok (.iload_n 1, 1) := by decide +kernel
theorem dX2_isBetween_1 : decode cX2_isBetween 1 = .ok (.ifCond .lt 35, 3) := by decide +kernel
theorem dX2_isBetween_4 : decode cX2_isBetween 4 = .ok (.iload_n 1, 1) := by decide +kernel
theorem dX2_isBetween_5 : decode cX2_isBetween 5 = .ok (.aload_n 0, 1) := by decide +kernel
theorem dX2_isBetween_6 : decode cX2_isBetween 6 = .ok (.getfield 15, 3) := by decide +kernel
theorem dX2_isBetween_9 : decode cX2_isBetween 9 = .ok (.if_icmp .ge 27, 3) := by decide +kernel
theorem dX2_isBetween_12 : decode cX2_isBetween 12 = .ok (.aload_n 0, 1) := by decide +kernel
theorem dX2_isBetween_13 : decode cX2_isBetween 13 = .ok (.getfield 9, 3) := by decide +kernel
theorem dX2_isBetween_16 : decode cX2_isBetween 16 = .ok (.iload_n 1, 1) := by decide +kernel
theorem dX2_isBetween_17 : decode cX2_isBetween 17 = .ok (.caload, 1) := by decide +kernel
theorem dX2_isBetween_18 : decode cX2_isBetween 18 = .ok (.iload_n 2, 1) := by decide +kernel
theorem dX2_isBetween_19 : decode cX2_isBetween 19 = .ok (.if_icmp .lt 17, 3) := by decide +kernel
theorem dX2_isBetween_22 : decode cX2_isBetween 22 = .ok (.aload_n 0, 1) := by decide +kernel
theorem dX2_isBetween_23 : decode cX2_isBetween 23 = .ok (.getfield 9, 3) := by decide +kernel
theorem dX2_isBetween_26 : decode cX2_isBetween 26 = .ok (.iload_n 1, 1) := by decide +kernel
theorem dX2_isBetween_27 : decode cX2_isBetween 27 = .ok (.caload, 1) := by decide +kernel
theorem dX2_isBetween_28 : decode cX2_isBetween 28 = .ok (.iload_n 3, 1) := by decide +kernel
theorem dX2_isBetween_29 : decode cX2_isBetween 29 = .ok (.if_icmp .gt 7, 3) := by decide +kernel
theorem dX2_isBetween_32 : decode cX2_isBetween 32 = .ok (.iconst 1, 1) := by decide +kernel
theorem dX2_isBetween_33 : decode cX2_isBetween 33 = .ok (.goto 4, 3) := by decide +kernel
theorem dX2_isBetween_36 : decode cX2_isBetween 36 = .ok (.iconst 0, 1) := by decide +kernel
theorem dX2_isBetween_37 : decode cX2_isBetween 37 = .ok (.ireturn, 1) := by decide +kernel
theorem dX2_reads_0 : decode cX2_reads 0 = .ok (.iload_n 1, 1) := by decide +kernel
theorem dX2_reads_1 : decode cX2_reads 1 = .ok (.ifCond .lt 21, 3) := by decide +kernel
theorem dX2_reads_4 : decode cX2_reads 4 = .ok (.iload_n 2, 1) := by decide +kernel
theorem dX2_reads_5 : decode cX2_reads 5 = .ok (.aload_n 0, 1) := by decide +kernel
theorem dX2_reads_6 : decode cX2_reads 6 = .ok (.getfield 15, 3) := by decide +kernel
theorem dX2_reads_9 : decode cX2_reads 9 = .ok (.if_icmp .gt 13, 3) := by decide +kernel
theorem dX2_reads_12 : decode cX2_reads 12 = .ok (.iload_n 2, 1) := by decide +kernel
theorem dX2_reads_13 : decode cX2_reads 13 = .ok (.iload_n 1, 1) := by decide +kernel
theorem dX2_reads_14 : decode cX2_reads 14 = .ok (.isub, 1) := by decide +kernel
theorem dX2_reads_15 : decode cX2_reads 15 = .ok (.aload_n 3, 1) := by decide +kernel
theorem dX2_reads_16 : decode cX2_reads 16 = .ok (.invokevirtual 19, 3) := by decide +kernel
theorem dX2_reads_19 : decode cX2_reads 19 = .ok (.if_icmp .eq 5, 3) := by decide +kernel
theorem dX2_reads_22 : decode cX2_reads 22 = .ok (.iconst 0, 1) := by decide +kernel
theorem dX2_reads_23 : decode cX2_reads 23 = .ok (.ireturn, 1) := by decide +kernel
theorem dX2_reads_24 : decode cX2_reads 24 = .ok (.iconst 0, 1) := by decide +kernel
theorem dX2_reads_25 : decode cX2_reads 25 = .ok (.istore 4, 2) := by decide +kernel
theorem dX2_reads_27 : decode cX2_reads 27 = .ok (.iload 4, 2) := by decide +kernel
theorem dX2_reads_29 : decode cX2_reads 29 = .ok (.aload_n 3, 1) := by decide +kernel
theorem dX2_reads_30 : decode cX2_reads 30 = .ok (.invokevirtual 19, 3) := by decide +kernel
theorem dX2_reads_33 : decode cX2_reads 33 = .ok (.if_icmp .ge 29, 3) := by decide +kernel
theorem dX2_reads_36 : decode cX2_reads 36 = .ok (.aload_n 0, 1) := by decide +kernel
theorem dX2_reads_37 : decode cX2_reads 37 = .ok (.getfield 9, 3) := by decide +kernel
theorem dX2_reads_40 : decode cX2_reads 40 = .ok (.iload_n 1, 1) := by decide +kernel
theorem dX2_reads_41 : decode cX2_reads 41 = .ok (.iload 4, 2) := by decide +kernel
theorem dX2_reads_43 : decode cX2_reads 43 = .ok (.iadd, 1) := by decide +kernel
theorem dX2_reads_44 : decode cX2_reads 44 = .ok (.caload, 1) := by decide +kernel
theorem dX2_reads_45 : decode cX2_reads 45 = .ok (.aload_n 3, 1) := by decide +kernel
theorem dX2_reads_46 : decode cX2_reads 46 = .ok (.iload 4, 2) := by decide +kernel
theorem dX2_reads_48 : decode cX2_reads 48 = .ok (.invokevirtual 24, 3) := by decide +kernel
theorem dX2_reads_51 : decode cX2_reads 51 = .ok (.if_icmp .eq 5, 3) := by decide +kernel
theorem dX2_reads_54 : decode cX2_reads 54 = .ok (.iconst 0, 1) := by decide +kernel
theorem dX2_reads_55 : decode cX2_reads 55 = .ok (.ireturn, 1) := by decide +kernel
theorem dX2_reads_56 : decode cX2_reads 56 = .ok (.iinc 4 1, 3) := by decide +kernel
theorem dX2_reads_59 : decode cX2_reads 59 = .ok (.goto (-32), 3) := by decide +kernel
theorem dX2_reads_62 : decode cX2_reads 62 = .ok (.iconst 1, 1) := by decide +kernel
theorem dX2_reads_63 : decode cX2_reads 63 = .ok (.ireturn, 1) := by decide +kernel
theorem dX3_init_0 : decode cX3_init 0 = .ok (.aload_n 0, 1) := by decide +kernel
theorem dX3_init_1 : decode cX3_init 1 = .ok (.invokespecial 3, 3) := by decide +kernel
theorem dX3_init_4 : decode cX3_init 4 = .ok (.aload_n 0, 1) := by decide +kernel
theorem dX3_init_5 : decode cX3_init 5 = .ok (.bipush 8, 2) := by decide +kernel
theorem dX3_init_7 : decode cX3_init 7 = .ok (.newarray .int, 2) := by decide +kernel
theorem dX3_init_9 : decode cX3_init 9 = .ok (.putfield 9, 3) := by decide +kernel
theorem dX3_init_12 : decode cX3_init 12 = .ok (.return_, 1) := by decide +kernel
theorem dX3_startAnew_0 : decode cX3_startAnew 0 = .ok (.aload_n 0, 1) := by decide +kernel
theorem dX3_startAnew_1 : decode cX3_startAnew 1 = .ok (.iconst 0, 1) := by decide +kernel
theorem dX3_startAnew_2 : decode cX3_startAnew 2 = .ok (.putfield 15, 3) := by decide +kernel
theorem dX3_startAnew_5 : decode cX3_startAnew 5 = .ok (.aload_n 0, 1) := by decide +kernel
theorem dX3_startAnew_6 : decode cX3_startAnew 6 = .ok (.iconst 0, 1) := by decide +kernel
theorem dX3_startAnew_7 : decode cX3_startAnew 7 = .ok (.putfield 19, 3) := by decide +kernel
theorem dX3_startAnew_10 : decode cX3_startAnew 10 = .ok (.return_, 1) := by decide +kernel
theorem dX3_copyFrom_0 : decode cX3_copyFrom 0 = .ok (.aload_n 0, 1) := by decide +kernel
theorem dX3_copyFrom_1 : decode cX3_copyFrom 1 = .ok (.aload_n 1, 1) := by decide +kernel
theorem dX3_copyFrom_2 : decode cX3_copyFrom 2 = .ok (.getfield 15, 3) := by decide +kernel
theorem dX3_copyFrom_5 : decode cX3_copyFrom 5 = .ok (.putfield 15, 3) := by decide +kernel
theorem dX3_copyFrom_8 : decode cX3_copyFrom 8 = .ok (.aload_n 0, 1) := by decide +kernel
theorem dX3_copyFrom_9 : decode cX3_copyFrom 9 = .ok (.aload_n 1, 1) := by decide +kernel
theorem dX3_copyFrom_10 : decode cX3_copyFrom 10 = .ok (.getfield 19, 3) := by decide +kernel
theorem dX3_copyFrom_13 : decode cX3_copyFrom 13 = .ok (.putfield 19, 3) := by decide +kernel
theorem dX3_copyFrom_16 : decode cX3_copyFrom 16 = .ok (.aload_n 1, 1) := by decide +kernel
theorem dX3_copyFrom_17 : decode cX3_copyFrom 17 = .ok (.getfield 9, 3) := by decide +kernel
theorem dX3_copyFrom_20 : decode cX3_copyFrom 20 = .ok (.iconst 0, 1) := by decide +kernel
theorem dX3_copyFrom_21 : decode cX3_copyFrom 21 = .ok (.aload_n 0, 1) := by decide +kernel
theorem dX3_copyFrom_22 : decode cX3_copyFrom 22 = .ok (.getfield 9, 3) := by decide +kernel
theorem dX3_copyFrom_25 : decode cX3_copyFrom 25 = .ok (.iconst 0, 1) := by decide +kernel
theorem dX3_copyFrom_26 : decode cX3_copyFrom 26 = .ok (.bipush 8, 2) := by decide +kernel
theorem dX3_copyFrom_28 : decode cX3_copyFrom 28 = .ok (.invokestatic 22, 3) := by decide +kernel
theorem dX3_copyFrom_31 : decode cX3_copyFrom 31 = .ok (.return_, 1) := by decide +kernel
theorem dX3_setBelow_0 : decode cX3_setBelow 0 = .ok (.aload_n 0, 1) := by decide +kernel
theorem dX3_setBelow_1 : decode cX3_setBelow 1 = .ok (.getfield 15, 3) := by decide +kernel
theorem dX3_setBelow_4 : decode cX3_setBelow 4 = .ok (.bipush 8, 2) := by decide +kernel
theorem dX3_setBelow_6 : decode cX3_setBelow 6 = .ok (.if_icmp .ge 23, 3) := by decide +kernel
theorem dX3_setBelow_9 : decode cX3_setBelow 9 = .ok (.aload_n 0, 1) := by decide +kernel
theorem dX3_setBelow_10 : decode cX3_setBelow 10 = .ok (.getfield 9, 3) := by decide +kernel
theorem dX3_setBelow_13 : decode cX3_setBelow 13 = .ok (.aload_n 0, 1) := by decide +kernel
theorem dX3_setBelow_14 : decode cX3_setBelow 14 = .ok (.getfield 15, 3) := by decide +kernel
theorem dX3_setBelow_17 : decode cX3_setBelow 17 = .ok (.iload_n 1, 1) := by decide +kernel
theorem dX3_setBelow_18 : decode cX3_setBelow 18 = .ok (.iastore, 1) := by decide +kernel
theorem dX3_setBelow_19 : decode cX3_setBelow 19 = .ok (.aload_n 0, 1) := by decide +kernel
theorem dX3_setBelow_20 : decode cX3_setBelow 20 = .ok (.dup, 1) := by decide +kernel
theorem dX3_setBelow_21 : decode cX3_setBelow 21 = .ok (.getfield 15, 3) := by decide +kernel
theorem dX3_setBelow_24 : decode cX3_setBelow 24 = .ok (.iconst 1, 1) := by decide +kernel
theorem dX3_setBelow_25 : decode cX3_setBelow 25 = .ok (.iadd, 1) := by decide +kernel
theorem dX3_setBelow_26 : decode cX3_setBelow 26 = .ok (.putfield 15, 3) := by decide +kernel
theorem dX3_setBelow_29 : decode cX3_setBelow 29 = .ok (.return_, 1) := by decide +kernel
theorem dX3_set_0 : decode cX3_set 0 = .ok (.aload_n 0, 1) := by decide +kernel
theorem dX3_set_1 : decode cX3_set 1 = .ok (.aload_n 0, 1) := by decide +kernel
theorem dX3_set_2 : decode cX3_set 2 = .ok (.getfield 15, 3) := by decide +kernel
theorem dX3_set_5 : decode cX3_set 5 = .ok (.invokevirtual 28, 3) := by decide +kernel
theorem dX3_set_8 : decode cX3_set 8 = .ok (.ireturn, 1) := by decide +kernel
theorem dX3_firstOnes_0 : decode cX3_firstOnes 0 = .ok (.iconst 0, 1) := by decide +kernel
theorem dX3_firstOnes_1 : decode cX3_firstOnes 1 = .ok (.istore_n 2, 1) := by decide +kernel
theorem dX3_firstOnes_2 : decode cX3_firstOnes 2 = .ok (.iconst 0, 1) := by decide +kernel
theorem dX3_firstOnes_3 : decode cX3_firstOnes 3 = .ok (.istore_n 3, 1) := by decide +kernel
theorem dX3_firstOnes_4 : decode cX3_firstOnes 4 = .ok (.iload_n 3, 1) := by decide +kernel
theorem dX3_firstOnes_5 : decode cX3_firstOnes 5 = .ok (.iload_n 1, 1) := by decide +kernel
theorem dX3_firstOnes_6 : decode cX3_firstOnes 6 = .ok (.if_icmp .ge 28, 3) := by decide +kernel
theorem dX3_firstOnes_9 : decode cX3_firstOnes 9 = .ok (.iload_n 3, 1) := by decide +kernel
theorem dX3_firstOnes_10 : decode cX3_firstOnes 10 = .ok (.aload_n 0, 1) := by decide +kernel
theorem dX3_firstOnes_11 : decode cX3_firstOnes 11 = .ok (.getfield 15, 3) := by decide +kernel
theorem dX3_firstOnes_14 : decode cX3_firstOnes 14 = .ok (.if_icmp .ge 20, 3) := by decide +kernel
theorem dX3_firstOnes_17 : decode cX3_firstOnes 17 = .ok (.iload_n 2, 1) := by decide +kernel
theorem dX3_firstOnes_18 : decode cX3_firstOnes 18 = .ok (.iconst 1, 1) := by decide +kernel
theorem dX3_firstOnes_19 : decode cX3_firstOnes 19 = .ok (.aload_n 0, 1) := by decide +kernel
theorem dX3_firstOnes_20 : decode cX3_firstOnes 20 = .ok (.getfield 9, 3) := by decide +kernel
theorem dX3_firstOnes_23 : decode cX3_firstOnes 23 = .ok (.iload_n 3, 1) := by decide +kernel
theorem dX3_firstOnes_24 : decode cX3_firstOnes 24 = .ok (.iaload, 1) := by decide +kernel
theorem dX3_firstOnes_25 : decode cX3_firstOnes 25 = .ok (.ishl, 1) := by decide +kernel
theorem dX3_firstOnes_26 : decode cX3_firstOnes 26 = .ok (.ior, 1) := by decide +kernel
theorem dX3_firstOnes_27 : decode cX3_firstOnes 27 = .ok (.istore_n 2, 1) := by decide +kernel
theorem dX3_firstOnes_28 : decode cX3_firstOnes 28 = .ok (.iinc 3 1, 3) := by decide +kernel
theorem dX3_firstOnes_31 : decode cX3_firstOnes 31 = .ok (.goto (-27), 3) := by decide +kernel
theorem dX3_firstOnes_34 : decode cX3_firstOnes 34 = .ok (.iload_n 2, 1) := by decide +kernel
theorem dX3_firstOnes_35 : decode cX3_firstOnes 35 = .ok (.ireturn, 1) := by decide +kernel
theorem dX3_placeOf_0 : decode cX3_placeOf 0 = .ok (.iconst 0, 1) := by decide +kernel
theorem dX3_placeOf_1 : decode cX3_placeOf 1 = .ok (.istore_n 2, 1) := by decide +kernel
theorem dX3_placeOf_2 : decode cX3_placeOf 2 = .ok (.iload_n 2, 1) := by decide +kernel
theorem dX3_placeOf_3 : decode cX3_placeOf 3 = .ok (.aload_n 0, 1) := by decide +kernel
theorem dX3_placeOf_4 : decode cX3_placeOf 4 = .ok (.getfield 15, 3) := by decide +kernel
theorem dX3_placeOf_7 : decode cX3_placeOf 7 = .ok (.if_icmp .ge 21, 3) := by decide +kernel
theorem dX3_placeOf_10 : decode cX3_placeOf 10 = .ok (.aload_n 0, 1) := by decide +kernel
theorem dX3_placeOf_11 : decode cX3_placeOf 11 = .ok (.getfield 9, 3) := by decide +kernel
theorem dX3_placeOf_14 : decode cX3_placeOf 14 = .ok (.iload_n 2, 1) := by decide +kernel
theorem dX3_placeOf_15 : decode cX3_placeOf 15 = .ok (.iaload, 1) := by decide +kernel
theorem dX3_placeOf_16 : decode cX3_placeOf 16 = .ok (.iload_n 1, 1) := by decide +kernel
theorem dX3_placeOf_17 : decode cX3_placeOf 17 = .ok (.if_icmp .ne 5, 3) := by decide +kernel
theorem dX3_placeOf_20 : decode cX3_placeOf 20 = .ok (.iload_n 2, 1) := by decide +kernel
theorem dX3_placeOf_21 : decode cX3_placeOf 21 = .ok (.ireturn, 1) := by decide +kernel
theorem dX3_placeOf_22 : decode cX3_placeOf 22 = .ok (.iinc 2 1, 3) := by decide +kernel
theorem dX3_placeOf_25 : decode cX3_placeOf 25 = .ok (.goto (-23), 3) := by decide +kernel
theorem dX3_placeOf_28 : decode cX3_placeOf 28 = .ok (.iconst (-1), 1) := by decide +kernel
theorem dX3_placeOf_29 : decode cX3_placeOf 29 = .ok (.ireturn, 1) := by decide +kernel
