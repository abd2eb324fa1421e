theorem dX4_init_0 : decode cX4_init 0 = .ok (.aload_n 0, 1) := by decide +kernel
theorem dX4_init_1 : decode cX4_init 1 = .ok (.invokespecial 1, 3) := by decide +kernel
theorem dX4_init_4 : decode cX4_init 4 = .ok (.aload_n 0, 1) := by decide +kernel
theorem dX4_init_5 : decode cX4_init 5 = .ok (.new 7, 3) := by decide +kernel
theorem dX4_init_8 : decode cX4_init 8 = .ok (.dup, 1) := by decide +kernel
theorem dX4_init_9 : decode cX4_init 9 = .ok (.invokespecial 9, 3) := by decide +kernel
theorem dX4_init_12 : decode cX4_init 12 = .ok (.putfield 10, 3) := by decide +kernel
theorem dX4_init_15 : decode cX4_init 15 = .ok (.aload_n 0, 1) := by decide +kernel
theorem dX4_init_16 : decode cX4_init 16 = .ok (.new 16, 3) := by decide +kernel
theorem dX4_init_19 : decode cX4_init 19 = .ok (.dup, 1) := by decide +kernel
theorem dX4_init_20 : decode cX4_init 20 = .ok (.invokespecial 18, 3) := by decide +kernel
theorem dX4_init_23 : decode cX4_init 23 = .ok (.putfield 19, 3) := by decide +kernel
theorem dX4_init_26 : decode cX4_init 26 = .ok (.aload_n 0, 1) := by decide +kernel
theorem dX4_init_27 : decode cX4_init 27 = .ok (.new 23, 3) := by decide +kernel
theorem dX4_init_30 : decode cX4_init 30 = .ok (.dup, 1) := by decide +kernel
theorem dX4_init_31 : decode cX4_init 31 = .ok (.aload_n 0, 1) := by decide +kernel
theorem dX4_init_32 : decode cX4_init 32 = .ok (.getfield 10, 3) := by decide +kernel
theorem dX4_init_35 : decode cX4_init 35 = .ok (.invokespecial 25, 3) := by decide +kernel
theorem dX4_init_38 : decode cX4_init 38 = .ok (.putfield 28, 3) := by decide +kernel
theorem dX4_init_41 : decode cX4_init 41 = .ok (.aload_n 0, 1) := by decide +kernel
theorem dX4_init_42 : decode cX4_init 42 = .ok (.new 32, 3) := by decide +kernel
theorem dX4_init_45 : decode cX4_init 45 = .ok (.dup, 1) := by decide +kernel
theorem dX4_init_46 : decode cX4_init 46 = .ok (.invokespecial 34, 3) := by decide +kernel
theorem dX4_init_49 : decode cX4_init 49 = .ok (.putfield 35, 3) := by decide +kernel
theorem dX4_init_52 : decode cX4_init 52 = .ok (.aload_n 0, 1) := by decide +kernel
theorem dX4_init_53 : decode cX4_init 53 = .ok (.iconst 2, 1) := by decide +kernel
theorem dX4_init_54 : decode cX4_init 54 = .ok (.anewarray 32, 3) := by decide +kernel
theorem dX4_init_57 : decode cX4_init 57 = .ok (.putfield 39, 3) := by decide +kernel
theorem dX4_init_60 : decode cX4_init 60 = .ok (.aload_n 0, 1) := by decide +kernel
theorem dX4_init_61 : decode cX4_init 61 = .ok (.iconst 2, 1) := by decide +kernel
theorem dX4_init_62 : decode cX4_init 62 = .ok (.newarray .boolean, 2) := by decide +kernel
theorem dX4_init_64 : decode cX4_init 64 = .ok (.putfield 43, 3) := by decide +kernel
theorem dX4_init_67 : decode cX4_init 67 = .ok (.aload_n 0, 1) := by decide +kernel
theorem dX4_init_68 : decode cX4_init 68 = .ok (.bipush 8, 2) := by decide +kernel
theorem dX4_init_70 : decode cX4_init 70 = .ok (.newarray .int, 2) := by decide +kernel
theorem dX4_init_72 : decode cX4_init 72 = .ok (.putfield 47, 3) := by decide +kernel
theorem dX4_init_75 : decode cX4_init 75 = .ok (.aload_n 0, 1) := by decide +kernel
theorem dX4_init_76 : decode cX4_init 76 = .ok (.bipush 8, 2) := by decide +kernel
theorem dX4_init_78 : decode cX4_init 78 = .ok (.newarray .int, 2) := by decide +kernel
theorem dX4_init_80 : decode cX4_init 80 = .ok (.putfield 51, 3) := by decide +kernel
theorem dX4_init_83 : decode cX4_init 83 = .ok (.aload_n 0, 1) := by decide +kernel
theorem dX4_init_84 : decode cX4_init 84 = .ok (.bipush 8, 2) := by decide +kernel
theorem dX4_init_86 : decode cX4_init 86 = .ok (.newarray .int, 2) := by decide +kernel
theorem dX4_init_88 : decode cX4_init 88 = .ok (.putfield 54, 3) := by decide +kernel
theorem dX4_init_91 : decode cX4_init 91 = .ok (.aload_n 0, 1) := by decide +kernel
theorem dX4_init_92 : decode cX4_init 92 = .ok (.sipush 256, 3) := by decide +kernel
theorem dX4_init_95 : decode cX4_init 95 = .ok (.newarray .int, 2) := by decide +kernel
theorem dX4_init_97 : decode cX4_init 97 = .ok (.putfield 57, 3) := by decide +kernel
theorem dX4_init_100 : decode cX4_init 100 = .ok (.aload_n 0, 1) := by decide +kernel
theorem dX4_init_101 : decode cX4_init 101 = .ok (.bipush 8, 2) := by decide +kernel
theorem dX4_init_103 : decode cX4_init 103 = .ok (.newarray .int, 2) := by decide +kernel
theorem dX4_init_105 : decode cX4_init 105 = .ok (.putfield 60, 3) := by decide +kernel
theorem dX4_init_108 : decode cX4_init 108 = .ok (.iconst 0, 1) := by decide +kernel
theorem dX4_init_109 : decode cX4_init 109 = .ok (.istore_n 1, 1) := by decide +kernel
theorem dX4_init_110 : decode cX4_init 110 = .ok (.iload_n 1, 1) := by decide +kernel
theorem dX4_init_111 : decode cX4_init 111 = .ok (.aload_n 0, 1) := by decide +kernel
theorem dX4_init_112 : decode cX4_init 112 = .ok (.getfield 39, 3) := by decide +kernel
theorem dX4_init_115 : decode cX4_init 115 = .ok (.arraylength, 1) := by decide +kernel
theorem dX4_init_116 : decode cX4_init 116 = .ok (.if_icmp .ge 22, 3) := by decide +kernel
theorem dX4_init_119 : decode cX4_init 119 = .ok (.aload_n 0, 1) := by decide +kernel
theorem dX4_init_120 : decode cX4_init 120 = .ok (.getfield 39, 3) := by decide +kernel
theorem dX4_init_123 : decode cX4_init 123 = .ok (.iload_n 1, 1) := by decide +kernel
theorem dX4_init_124 : decode cX4_init 124 = .ok (.new 32, 3) := by decide +kernel
theorem dX4_init_127 : decode cX4_init 127 = .ok (.dup, 1) := by decide +kernel
theorem dX4_init_128 : decode cX4_init 128 = .ok (.invokespecial 34, 3) := by decide +kernel
theorem dX4_init_131 : decode cX4_init 131 = .ok (.aastore, 1) := by decide +kernel
theorem dX4_init_132 : decode cX4_init 132 = .ok (.iinc 1 1, 3) := by decide +kernel
theorem dX4_init_135 : decode cX4_init 135 = .ok (.goto (-25), 3) := by decide +kernel
theorem dX4_init_138 : decode cX4_init 138 = .ok (.return_, 1) := by decide +kernel
theorem dX4_write_0 : decode cX4_write 0 = .ok (.iload_n 3, 1) := by decide +kernel
theorem dX4_write_1 : decode cX4_write 1 = .ok (.iconst 1, 1) := by decide +kernel
theorem dX4_write_2 : decode cX4_write 2 = .ok (.if_icmp .lt 9, 3) := by decide +kernel
theorem dX4_write_5 : decode cX4_write 5 = .ok (.iload_n 3, 1) := by decide +kernel
theorem dX4_write_6 : decode cX4_write 6 = .ok (.bipush 8, 2) := by decide +kernel
theorem dX4_write_8 : decode cX4_write 8 = .ok (.if_icmp .le 6, 3) := by decide +kernel
theorem dX4_write_11 : decode cX4_write 11 = .ok (.bipush (-3), 2) := by decide +kernel
theorem dX4_write_13 : decode cX4_write 13 = .ok (.ireturn, 1) := by decide +kernel
theorem dX4_write_14 : decode cX4_write 14 = .ok (.aload_n 0, 1) := by decide +kernel
theorem dX4_write_15 : decode cX4_write 15 = .ok (.getfield 10, 3) := by decide +kernel
theorem dX4_write_18 : decode cX4_write 18 = .ok (.getfield 63, 3) := by decide +kernel
theorem dX4_write_21 : decode cX4_write 21 = .ok (.iload_n 3, 1) := by decide +kernel
theorem dX4_write_22 : decode cX4_write 22 = .ok (.iadd, 1) := by decide +kernel
theorem dX4_write_23 : decode cX4_write 23 = .ok (.sipush 200, 3) := by decide +kernel
theorem dX4_write_26 : decode cX4_write 26 = .ok (.if_icmp .le 6, 3) := by decide +kernel
theorem dX4_write_29 : decode cX4_write 29 = .ok (.bipush (-5), 2) := by decide +kernel
theorem dX4_write_31 : decode cX4_write 31 = .ok (.ireturn, 1) := by decide +kernel
theorem dX4_write_32 : decode cX4_write 32 = .ok (.iconst 0, 1) := by decide +kernel
theorem dX4_write_33 : decode cX4_write 33 = .ok (.istore 4, 2) := by decide +kernel
theorem dX4_write_35 : decode cX4_write 35 = .ok (.iload 4, 2) := by decide +kernel
theorem dX4_write_37 : decode cX4_write 37 = .ok (.iload_n 3, 1) := by decide +kernel
theorem dX4_write_38 : decode cX4_write 38 = .ok (.if_icmp .ge 28, 3) := by decide +kernel
theorem dX4_write_41 : decode cX4_write 41 = .ok (.aload_n 0, 1) := by decide +kernel
theorem dX4_write_42 : decode cX4_write 42 = .ok (.getfield 10, 3) := by decide +kernel
theorem dX4_write_45 : decode cX4_write 45 = .ok (.lload_n 1, 1) := by decide +kernel
theorem dX4_write_46 : decode cX4_write 46 = .ok (.bipush 8, 2) := by decide +kernel
theorem dX4_write_48 : decode cX4_write 48 = .ok (.iload 4, 2) := by decide +kernel
theorem dX4_write_50 : decode cX4_write 50 = .ok (.imul, 1) := by decide +kernel
theorem dX4_write_51 : decode cX4_write 51 = .ok (.lshr, 1) := by decide +kernel
theorem dX4_write_52 : decode cX4_write 52 = .ok (.ldc2_w 67, 3) := by decide +kernel
theorem dX4_write_55 : decode cX4_write 55 = .ok (.land, 1) := by decide +kernel
theorem dX4_write_56 : decode cX4_write 56 = .ok (.l2i, 1) := by decide +kernel
theorem dX4_write_57 : decode cX4_write 57 = .ok (.invokevirtual 69, 3) := by decide +kernel
theorem dX4_write_60 : decode cX4_write 60 = .ok (.iinc 4 1, 3) := by decide +kernel
theorem dX4_write_63 : decode cX4_write 63 = .ok (.goto (-28), 3) := by decide +kernel
theorem dX4_write_66 : decode cX4_write 66 = .ok (.aload_n 0, 1) := by decide +kernel
theorem dX4_write_67 : decode cX4_write 67 = .ok (.getfield 10, 3) := by decide +kernel
theorem dX4_write_70 : decode cX4_write 70 = .ok (.getfield 63, 3) := by decide +kernel
theorem dX4_write_73 : decode cX4_write 73 = .ok (.ireturn, 1) := by decide +kernel
theorem dX4_erase_0 : decode cX4_erase 0 = .ok (.aload_n 0, 1) := by decide +kernel
theorem dX4_erase_1 : decode cX4_erase 1 = .ok (.getfield 10, 3) := by decide +kernel
theorem dX4_erase_4 : decode cX4_erase 4 = .ok (.getfield 63, 3) := by decide +kernel
theorem dX4_erase_7 : decode cX4_erase 7 = .ok (.istore_n 1, 1) := by decide +kernel
theorem dX4_erase_8 : decode cX4_erase 8 = .ok (.aload_n 0, 1) := by decide +kernel
theorem dX4_erase_9 : decode cX4_erase 9 = .ok (.getfield 10, 3) := by decide +kernel
theorem dX4_erase_12 : decode cX4_erase 12 = .ok (.iconst 0, 1) := by decide +kernel
theorem dX4_erase_13 : decode cX4_erase 13 = .ok (.putfield 63, 3) := by decide +kernel
theorem dX4_erase_16 : decode cX4_erase 16 = .ok (.iload_n 1, 1) := by decide +kernel
theorem dX4_erase_17 : decode cX4_erase 17 = .ok (.ireturn, 1) := by decide +kernel
theorem dX4_fault_0 : decode cX4_fault 0 = .ok (.aload_n 0, 1) := by decide +kernel
theorem dX4_fault_1 : decode cX4_fault 1 = .ok (.getfield 28, 3) := by decide +kernel
theorem dX4_fault_4 : decode cX4_fault 4 = .ok (.aload_n 0, 1) := by decide +kernel
theorem dX4_fault_5 : decode cX4_fault 5 = .ok (.getfield 19, 3) := by decide +kernel
theorem dX4_fault_8 : decode cX4_fault 8 = .ok (.invokevirtual 73, 3) := by decide +kernel
theorem dX4_fault_11 : decode cX4_fault 11 = .ok (.ireturn, 1) := by decide +kernel
theorem dX4_site_0 : decode cX4_site 0 = .ok (.aload_n 0, 1) := by decide +kernel
theorem dX4_site_1 : decode cX4_site 1 = .ok (.getfield 28, 3) := by decide +kernel
theorem dX4_site_4 : decode cX4_site 4 = .ok (.aload_n 0, 1) := by decide +kernel
theorem dX4_site_5 : decode cX4_site 5 = .ok (.getfield 19, 3) := by decide +kernel
theorem dX4_site_8 : decode cX4_site 8 = .ok (.invokevirtual 73, 3) := by decide +kernel
theorem dX4_site_11 : decode cX4_site 11 = .ok (.iconst (-1), 1) := by decide +kernel
theorem dX4_site_12 : decode cX4_site 12 = .ok (.if_icmp .eq 6, 3) := by decide +kernel
theorem dX4_site_15 : decode cX4_site 15 = .ok (.bipush (-4), 2) := by decide +kernel
theorem dX4_site_17 : decode cX4_site 17 = .ok (.ireturn, 1) := by decide +kernel
theorem dX4_site_18 : decode cX4_site 18 = .ok (.aload_n 0, 1) := by decide +kernel
theorem dX4_site_19 : decode cX4_site 19 = .ok (.getfield 19, 3) := by decide +kernel
theorem dX4_site_22 : decode cX4_site 22 = .ok (.aload_n 0, 1) := by decide +kernel
theorem dX4_site_23 : decode cX4_site 23 = .ok (.getfield 28, 3) := by decide +kernel
theorem dX4_site_26 : decode cX4_site 26 = .ok (.getfield 77, 3) := by decide +kernel
theorem dX4_site_29 : decode cX4_site 29 = .ok (.invokevirtual 80, 3) := by decide +kernel
theorem dX4_site_32 : decode cX4_site 32 = .ok (.aload_n 0, 1) := by decide +kernel
theorem dX4_site_33 : decode cX4_site 33 = .ok (.getfield 10, 3) := by decide +kernel
theorem dX4_site_36 : decode cX4_site 36 = .ok (.iconst 0, 1) := by decide +kernel
theorem dX4_site_37 : decode cX4_site 37 = .ok (.putfield 63, 3) := by decide +kernel
theorem dX4_site_40 : decode cX4_site 40 = .ok (.aload_n 0, 1) := by decide +kernel
theorem dX4_site_41 : decode cX4_site 41 = .ok (.getfield 35, 3) := by decide +kernel
theorem dX4_site_44 : decode cX4_site 44 = .ok (.invokevirtual 84, 3) := by decide +kernel
theorem dX4_site_47 : decode cX4_site 47 = .ok (.aload_n 0, 1) := by decide +kernel
theorem dX4_site_48 : decode cX4_site 48 = .ok (.iconst 0, 1) := by decide +kernel
theorem dX4_site_49 : decode cX4_site 49 = .ok (.putfield 87, 3) := by decide +kernel
theorem dX4_site_52 : decode cX4_site 52 = .ok (.aload_n 0, 1) := by decide +kernel
theorem dX4_site_53 : decode cX4_site 53 = .ok (.iconst 0, 1) := by decide +kernel
theorem dX4_site_54 : decode cX4_site 54 = .ok (.putfield 90, 3) := by decide +kernel
theorem dX4_site_57 : decode cX4_site 57 = .ok (.iconst 0, 1) := by decide +kernel
theorem dX4_site_58 : decode cX4_site 58 = .ok (.istore_n 1, 1) := by decide +kernel
theorem dX4_site_59 : decode cX4_site 59 = .ok (.iload_n 1, 1) := by decide +kernel
theorem dX4_site_60 : decode cX4_site 60 = .ok (.aload_n 0, 1) := by decide +kernel
theorem dX4_site_61 : decode cX4_site 61 = .ok (.getfield 43, 3) := by decide +kernel
theorem dX4_site_64 : decode cX4_site 64 = .ok (.arraylength, 1) := by decide +kernel
theorem dX4_site_65 : decode cX4_site 65 = .ok (.if_icmp .ge 16, 3) := by decide +kernel
theorem dX4_site_68 : decode cX4_site 68 = .ok (.aload_n 0, 1) := by decide +kernel
theorem dX4_site_69 : decode cX4_site 69 = .ok (.getfield 43, 3) := by decide +kernel
theorem dX4_site_72 : decode cX4_site 72 = .ok (.iload_n 1, 1) := by decide +kernel
theorem dX4_site_73 : decode cX4_site 73 = .ok (.iconst 0, 1) := by decide +kernel
theorem dX4_site_74 : decode cX4_site 74 = .ok (.bastore, 1) := by decide +kernel
theorem dX4_site_75 : decode cX4_site 75 = .ok (.iinc 1 1, 3) := by decide +kernel
theorem dX4_site_78 : decode cX4_site 78 = .ok (.goto (-19), 3) := by decide +kernel
theorem dX4_site_81 : decode cX4_site 81 = .ok (.aload_n 0, 1) := by decide +kernel
theorem dX4_site_82 : decode cX4_site 82 = .ok (.getfield 28, 3) := by decide +kernel
theorem dX4_site_85 : decode cX4_site 85 = .ok (.getfield 93, 3) := by decide +kernel
theorem dX4_site_88 : decode cX4_site 88 = .ok (.ireturn, 1) := by decide +kernel
theorem dX4_storey_0 : decode cX4_storey 0 = .ok (.aload_n 0, 1) := by decide +kernel
theorem dX4_storey_1 : decode cX4_storey 1 = .ok (.getfield 19, 3) := by decide +kernel
theorem dX4_storey_4 : decode cX4_storey 4 = .ok (.iload_n 1, 1) := by decide +kernel
theorem dX4_storey_5 : decode cX4_storey 5 = .ok (.invokevirtual 96, 3) := by decide +kernel
theorem dX4_storey_8 : decode cX4_storey 8 = .ok (.ifCond .ne 6, 3) := by decide +kernel
theorem dX4_storey_11 : decode cX4_storey 11 = .ok (.bipush (-2), 2) := by decide +kernel
theorem dX4_storey_13 : decode cX4_storey 13 = .ok (.ireturn, 1) := by decide +kernel
theorem dX4_storey_14 : decode cX4_storey 14 = .ok (.iload_n 2, 1) := by decide +kernel
theorem dX4_storey_15 : decode cX4_storey 15 = .ok (.tableswitch 83 0 4 #[33, 43, 53, 63, 73], 33) := by decide +kernel
theorem dX4_storey_48 : decode cX4_storey 48 = .ok (.aload_n 0, 1) := by decide +kernel
theorem dX4_storey_49 : decode cX4_storey 49 = .ok (.getfield 19, 3) := by decide +kernel
theorem dX4_storey_52 : decode cX4_storey 52 = .ok (.getfield 100, 3) := by decide +kernel
theorem dX4_storey_55 : decode cX4_storey 55 = .ok (.iload_n 1, 1) := by decide +kernel
theorem dX4_storey_56 : decode cX4_storey 56 = .ok (.iaload, 1) := by decide +kernel
theorem dX4_storey_57 : decode cX4_storey 57 = .ok (.ireturn, 1) := by decide +kernel
theorem dX4_storey_58 : decode cX4_storey 58 = .ok (.aload_n 0, 1) := by decide +kernel
theorem dX4_storey_59 : decode cX4_storey 59 = .ok (.getfield 19, 3) := by decide +kernel
theorem dX4_storey_62 : decode cX4_storey 62 = .ok (.getfield 103, 3) := by decide +kernel
theorem dX4_storey_65 : decode cX4_storey 65 = .ok (.iload_n 1, 1) := by decide +kernel
theorem dX4_storey_66 : decode cX4_storey 66 = .ok (.iaload, 1) := by decide +kernel
theorem dX4_storey_67 : decode cX4_storey 67 = .ok (.ireturn, 1) := by decide +kernel
theorem dX4_storey_68 : decode cX4_storey 68 = .ok (.aload_n 0, 1) := by decide +kernel
theorem dX4_storey_69 : decode cX4_storey 69 = .ok (.getfield 19, 3) := by decide +kernel
theorem dX4_storey_72 : decode cX4_storey 72 = .ok (.getfield 106, 3) := by decide +kernel
theorem dX4_storey_75 : decode cX4_storey 75 = .ok (.iload_n 1, 1) := by decide +kernel
theorem dX4_storey_76 : decode cX4_storey 76 = .ok (.iaload, 1) := by decide +kernel
theorem dX4_storey_77 : decode cX4_storey 77 = .ok (.ireturn, 1) := by decide +kernel
theorem dX4_storey_78 : decode cX4_storey 78 = .ok (.aload_n 0, 1) := by decide +kernel
theorem dX4_storey_79 : decode cX4_storey 79 = .ok (.getfield 19, 3) := by decide +kernel
theorem dX4_storey_82 : decode cX4_storey 82 = .ok (.getfield 109, 3) := by decide +kernel
theorem dX4_storey_85 : decode cX4_storey 85 = .ok (.iload_n 1, 1) := by decide +kernel
theorem dX4_storey_86 : decode cX4_storey 86 = .ok (.iaload, 1) := by decide +kernel
theorem dX4_storey_87 : decode cX4_storey 87 = .ok (.ireturn, 1) := by decide +kernel
theorem dX4_storey_88 : decode cX4_storey 88 = .ok (.aload_n 0, 1) := by decide +kernel
theorem dX4_storey_89 : decode cX4_storey 89 = .ok (.getfield 19, 3) := by decide +kernel
theorem dX4_storey_92 : decode cX4_storey 92 = .ok (.getfield 112, 3) := by decide +kernel
theorem dX4_storey_95 : decode cX4_storey 95 = .ok (.iload_n 1, 1) := by decide +kernel
theorem dX4_storey_96 : decode cX4_storey 96 = .ok (.iaload, 1) := by decide +kernel
theorem dX4_storey_97 : decode cX4_storey 97 = .ok (.ireturn, 1) := by decide +kernel
theorem dX4_storey_98 : decode cX4_storey 98 = .ok (.bipush (-3), 2) := by decide +kernel
theorem dX4_storey_100 : decode cX4_storey 100 = .ok (.ireturn, 1) := by decide +kernel
theorem dX4_as_0 : decode cX4_as 0 = .ok (.aload_n 0, 1) := by decide +kernel
theorem dX4_as_1 : decode cX4_as 1 = .ok (.getfield 19, 3) := by decide +kernel
theorem dX4_as_4 : decode cX4_as 4 = .ok (.iload_n 1, 1) := by decide +kernel
theorem dX4_as_5 : decode cX4_as 5 = .ok (.invokevirtual 96, 3) := by decide +kernel
theorem dX4_as_8 : decode cX4_as 8 = .ok (.ifCond .ne 6, 3) := by decide +kernel
theorem dX4_as_11 : decode cX4_as 11 = .ok (.bipush (-2), 2) := by decide +kernel
theorem dX4_as_13 : decode cX4_as 13 = .ok (.ireturn, 1) := by decide +kernel
theorem dX4_as_14 : decode cX4_as 14 = .ok (.iload_n 2, 1) := by decide +kernel
theorem dX4_as_15 : decode cX4_as 15 = .ok (.ifCond .lt 8, 3) := by decide +kernel
theorem dX4_as_18 : decode cX4_as 18 = .ok (.iload_n 2, 1) := by decide +kernel
theorem dX4_as_19 : decode cX4_as 19 = .ok (.iconst 4, 1) := by decide +kernel
theorem dX4_as_20 : decode cX4_as 20 = .ok (.if_icmp .le 6, 3) := by decide +kernel
theorem dX4_as_23 : decode cX4_as 23 = .ok (.bipush (-3), 2) := by decide +kernel
theorem dX4_as_25 : decode cX4_as 25 = .ok (.ireturn, 1) := by decide +kernel
theorem dX4_as_26 : decode cX4_as 26 = .ok (.aload_n 0, 1) := by decide +kernel
theorem dX4_as_27 : decode cX4_as 27 = .ok (.getfield 19, 3) := by decide +kernel
theorem dX4_as_30 : decode cX4_as 30 = .ok (.getfield 100, 3) := by decide +kernel
theorem dX4_as_33 : decode cX4_as 33 = .ok (.iload_n 1, 1) := by decide +kernel
theorem dX4_as_34 : decode cX4_as 34 = .ok (.iaload, 1) := by decide +kernel
theorem dX4_as_35 : decode cX4_as 35 = .ok (.iload_n 2, 1) := by decide +kernel
theorem dX4_as_36 : decode cX4_as 36 = .ok (.invokestatic 115, 3) := by decide +kernel
theorem dX4_as_39 : decode cX4_as 39 = .ok (.ifCond .eq 16, 3) := by decide +kernel
theorem dX4_as_42 : decode cX4_as 42 = .ok (.aload_n 0, 1) := by decide +kernel
theorem dX4_as_43 : decode cX4_as 43 = .ok (.getfield 19, 3) := by decide +kernel
theorem dX4_as_46 : decode cX4_as 46 = .ok (.iconst 1, 1) := by decide +kernel
theorem dX4_as_47 : decode cX4_as 47 = .ok (.iload_n 1, 1) := by decide +kernel
theorem dX4_as_48 : decode cX4_as 48 = .ok (.ishl, 1) := by decide +kernel
theorem dX4_as_49 : decode cX4_as 49 = .ok (.invokevirtual 119, 3) := by decide +kernel
theorem dX4_as_52 : decode cX4_as 52 = .ok (.goto 5, 3) := by decide +kernel
theorem dX4_as_55 : decode cX4_as 55 = .ok (.bipush (-4), 2) := by decide +kernel
theorem dX4_as_57 : decode cX4_as 57 = .ok (.ireturn, 1) := by decide +kernel
theorem dX4_isSuch_0 : decode cX4_isSuch 0 = .ok (.iload_n 1, 1) := by decide +kernel
theorem dX4_isSuch_1 : decode cX4_isSuch 1 = .ok (.ifCond .eq 10, 3) := by decide +kernel
theorem dX4_isSuch_4 : decode cX4_isSuch 4 = .ok (.iload_n 1, 1) := by decide +kernel
theorem dX4_isSuch_5 : decode cX4_isSuch 5 = .ok (.iload_n 0, 1) := by decide +kernel
theorem dX4_isSuch_6 : decode cX4_isSuch 6 = .ok (.iconst 1, 1) := by decide +kernel
theorem dX4_isSuch_7 : decode cX4_isSuch 7 = .ok (.iadd, 1) := by decide +kernel
theorem dX4_isSuch_8 : decode cX4_isSuch 8 = .ok (.if_icmp .ne 5, 3) := by decide +kernel
theorem dX4_isSuch_11 : decode cX4_isSuch 11 = .ok (.iconst 1, 1) := by decide +kernel
theorem dX4_isSuch_12 : decode cX4_isSuch 12 = .ok (.ireturn, 1) := by decide +kernel
theorem dX4_isSuch_13 : decode cX4_isSuch 13 = .ok (.iload_n 1, 1) := by decide +kernel
theorem dX4_isSuch_14 : decode cX4_isSuch 14 = .ok (.iconst 1, 1) := by decide +kernel
theorem dX4_isSuch_15 : decode cX4_isSuch 15 = .ok (.if_icmp .ne 12, 3) := by decide +kernel
theorem dX4_isSuch_18 : decode cX4_isSuch 18 = .ok (.iload_n 0, 1) := by decide +kernel
theorem dX4_isSuch_19 : decode cX4_isSuch 19 = .ok (.iconst 3, 1) := by decide +kernel
theorem dX4_isSuch_20 : decode cX4_isSuch 20 = .ok (.if_icmp .eq 7, 3) := by decide +kernel
theorem dX4_isSuch_23 : decode cX4_isSuch 23 = .ok (.iconst 1, 1) := by decide +kernel
theorem dX4_isSuch_24 : decode cX4_isSuch 24 = .ok (.goto 4, 3) := by decide +kernel
theorem dX4_isSuch_27 : decode cX4_isSuch 27 = .ok (.iconst 0, 1) := by decide +kernel
theorem dX4_isSuch_28 : decode cX4_isSuch 28 = .ok (.ireturn, 1) := by decide +kernel
theorem dX4_why_0 : decode cX4_why 0 = .ok (.aload_n 0, 1) := by decide +kernel
theorem dX4_why_1 : decode cX4_why 1 = .ok (.getfield 19, 3) := by decide +kernel
theorem dX4_why_4 : decode cX4_why 4 = .ok (.iload_n 1, 1) := by decide +kernel
theorem dX4_why_5 : decode cX4_why 5 = .ok (.invokevirtual 96, 3) := by decide +kernel
theorem dX4_why_8 : decode cX4_why 8 = .ok (.ifCond .eq 11, 3) := by decide +kernel
theorem dX4_why_11 : decode cX4_why 11 = .ok (.aload_n 0, 1) := by decide +kernel
theorem dX4_why_12 : decode cX4_why 12 = .ok (.iload_n 1, 1) := by decide +kernel
theorem dX4_why_13 : decode cX4_why 13 = .ok (.invokevirtual 123, 3) := by decide +kernel
theorem dX4_why_16 : decode cX4_why 16 = .ok (.goto 5, 3) := by decide +kernel
theorem dX4_why_19 : decode cX4_why 19 = .ok (.bipush (-2), 2) := by decide +kernel
theorem dX4_why_21 : decode cX4_why 21 = .ok (.ireturn, 1) := by decide +kernel
theorem dX4_whyNotToday_0 : decode cX4_whyNotToday 0 = .ok (.aload_n 0, 1) := by decide +kernel
theorem dX4_whyNotToday_1 : decode cX4_whyNotToday 1 = .ok (.getfield 19, 3) := by decide +kernel
theorem dX4_whyNotToday_4 : decode cX4_whyNotToday 4 = .ok (.aload_n 0, 1) := by decide +kernel
theorem dX4_whyNotToday_5 : decode cX4_whyNotToday 5 = .ok (.getfield 35, 3) := by decide +kernel
theorem dX4_whyNotToday_8 : decode cX4_whyNotToday 8 = .ok (.getfield 126, 3) := by decide +kernel
theorem dX4_whyNotToday_11 : decode cX4_whyNotToday 11 = .ok (.iload_n 1, 1) := by decide +kernel
theorem dX4_whyNotToday_12 : decode cX4_whyNotToday 12 = .ok (.aload_n 0, 1) := by decide +kernel
theorem dX4_whyNotToday_13 : decode cX4_whyNotToday 13 = .ok (.getfield 35, 3) := by decide +kernel
theorem dX4_whyNotToday_16 : decode cX4_whyNotToday 16 = .ok (.invokevirtual 129, 3) := by decide +kernel
theorem dX4_whyNotToday_19 : decode cX4_whyNotToday 19 = .ok (.invokevirtual 133, 3) := by decide +kernel
theorem dX4_whyNotToday_22 : decode cX4_whyNotToday 22 = .ok (.ireturn, 1) := by decide +kernel
theorem dX4_lift_0 : decode cX4_lift 0 = .ok (.aload_n 0, 1) := by decide +kernel
theorem dX4_lift_1 : decode cX4_lift 1 = .ok (.getfield 19, 3) := by decide +kernel
theorem dX4_lift_4 : decode cX4_lift 4 = .ok (.iload_n 1, 1) := by decide +kernel
theorem dX4_lift_5 : decode cX4_lift 5 = .ok (.invokevirtual 96, 3) := by decide +kernel
theorem dX4_lift_8 : decode cX4_lift 8 = .ok (.ifCond .ne 6, 3) := by decide +kernel
theorem dX4_lift_11 : decode cX4_lift 11 = .ok (.bipush (-2), 2) := by decide +kernel
theorem dX4_lift_13 : decode cX4_lift 13 = .ok (.ireturn, 1) := by decide +kernel
theorem dX4_lift_14 : decode cX4_lift 14 = .ok (.aload_n 0, 1) := by decide +kernel
theorem dX4_lift_15 : decode cX4_lift 15 = .ok (.iload_n 1, 1) := by decide +kernel
theorem dX4_lift_16 : decode cX4_lift 16 = .ok (.invokevirtual 123, 3) := by decide +kernel
theorem dX4_lift_19 : decode cX4_lift 19 = .ok (.ifCond .eq 6, 3) := by decide +kernel
theorem dX4_lift_22 : decode cX4_lift 22 = .ok (.bipush (-4), 2) := by decide +kernel
theorem dX4_lift_24 : decode cX4_lift 24 = .ok (.ireturn, 1) := by decide +kernel
theorem dX4_lift_25 : decode cX4_lift 25 = .ok (.aload_n 0, 1) := by decide +kernel
theorem dX4_lift_26 : decode cX4_lift 26 = .ok (.getfield 35, 3) := by decide +kernel
theorem dX4_lift_29 : decode cX4_lift 29 = .ok (.getfield 126, 3) := by decide +kernel
theorem dX4_lift_32 : decode cX4_lift 32 = .ok (.sipush 9999, 3) := by decide +kernel
theorem dX4_lift_35 : decode cX4_lift 35 = .ok (.if_icmp .lt 6, 3) := by decide +kernel
theorem dX4_lift_38 : decode cX4_lift 38 = .ok (.bipush (-5), 2) := by decide +kernel
theorem dX4_lift_40 : decode cX4_lift 40 = .ok (.ireturn, 1) := by decide +kernel
theorem dX4_lift_41 : decode cX4_lift 41 = .ok (.aload_n 0, 1) := by decide +kernel
theorem dX4_lift_42 : decode cX4_lift 42 = .ok (.getfield 35, 3) := by decide +kernel
theorem dX4_lift_45 : decode cX4_lift 45 = .ok (.iload_n 1, 1) := by decide +kernel
theorem dX4_lift_46 : decode cX4_lift 46 = .ok (.invokevirtual 137, 3) := by decide +kernel
theorem dX4_lift_49 : decode cX4_lift 49 = .ok (.aload_n 0, 1) := by decide +kernel
theorem dX4_lift_50 : decode cX4_lift 50 = .ok (.getfield 35, 3) := by decide +kernel
theorem dX4_lift_53 : decode cX4_lift 53 = .ok (.dup, 1) := by decide +kernel
theorem dX4_lift_54 : decode cX4_lift 54 = .ok (.getfield 126, 3) := by decide +kernel
theorem dX4_lift_57 : decode cX4_lift 57 = .ok (.iconst 1, 1) := by decide +kernel
theorem dX4_lift_58 : decode cX4_lift 58 = .ok (.iadd, 1) := by decide +kernel
theorem dX4_lift_59 : decode cX4_lift 59 = .ok (.putfield 126, 3) := by decide +kernel
theorem dX4_lift_62 : decode cX4_lift 62 = .ok (.aload_n 0, 1) := by decide +kernel
theorem dX4_lift_63 : decode cX4_lift 63 = .ok (.getfield 35, 3) := by decide +kernel
theorem dX4_lift_66 : decode cX4_lift 66 = .ok (.getfield 140, 3) := by decide +kernel
theorem dX4_lift_69 : decode cX4_lift 69 = .ok (.ireturn, 1) := by decide +kernel
theorem dX4_rest_0 : decode cX4_rest 0 = .ok (.iload_n 1, 1) := by decide +kernel
theorem dX4_rest_1 : decode cX4_rest 1 = .ok (.iconst 1, 1) := by decide +kernel
theorem dX4_rest_2 : decode cX4_rest 2 = .ok (.if_icmp .lt 9, 3) := by decide +kernel
theorem dX4_rest_5 : decode cX4_rest 5 = .ok (.iload_n 1, 1) := by decide +kernel
theorem dX4_rest_6 : decode cX4_rest 6 = .ok (.bipush 99, 2) := by decide +kernel
theorem dX4_rest_8 : decode cX4_rest 8 = .ok (.if_icmp .le 6, 3) := by decide +kernel
theorem dX4_rest_11 : decode cX4_rest 11 = .ok (.bipush (-3), 2) := by decide +kernel
theorem dX4_rest_13 : decode cX4_rest 13 = .ok (.ireturn, 1) := by decide +kernel
theorem dX4_rest_14 : decode cX4_rest 14 = .ok (.aload_n 0, 1) := by decide +kernel
theorem dX4_rest_15 : decode cX4_rest 15 = .ok (.getfield 35, 3) := by decide +kernel
theorem dX4_rest_18 : decode cX4_rest 18 = .ok (.getfield 126, 3) := by decide +kernel
theorem dX4_rest_21 : decode cX4_rest 21 = .ok (.iload_n 1, 1) := by decide +kernel
theorem dX4_rest_22 : decode cX4_rest 22 = .ok (.iadd, 1) := by decide +kernel
theorem dX4_rest_23 : decode cX4_rest 23 = .ok (.sipush 9999, 3) := by decide +kernel
theorem dX4_rest_26 : decode cX4_rest 26 = .ok (.if_icmp .le 6, 3) := by decide +kernel
theorem dX4_rest_29 : decode cX4_rest 29 = .ok (.bipush (-5), 2) := by decide +kernel
theorem dX4_rest_31 : decode cX4_rest 31 = .ok (.ireturn, 1) := by decide +kernel
theorem dX4_rest_32 : decode cX4_rest 32 = .ok (.aload_n 0, 1) := by decide +kernel
theorem dX4_rest_33 : decode cX4_rest 33 = .ok (.getfield 35, 3) := by decide +kernel
theorem dX4_rest_36 : decode cX4_rest 36 = .ok (.dup, 1) := by decide +kernel
theorem dX4_rest_37 : decode cX4_rest 37 = .ok (.getfield 126, 3) := by decide +kernel
theorem dX4_rest_40 : decode cX4_rest 40 = .ok (.iload_n 1, 1) := by decide +kernel
theorem dX4_rest_41 : decode cX4_rest 41 = .ok (.iadd, 1) := by decide +kernel
theorem dX4_rest_42 : decode cX4_rest 42 = .ok (.putfield 126, 3) := by decide +kernel
theorem dX4_rest_45 : decode cX4_rest 45 = .ok (.aload_n 0, 1) := by decide +kernel
theorem dX4_rest_46 : decode cX4_rest 46 = .ok (.getfield 35, 3) := by decide +kernel
theorem dX4_rest_49 : decode cX4_rest 49 = .ok (.getfield 126, 3) := by decide +kernel
theorem dX4_rest_52 : decode cX4_rest 52 = .ok (.ireturn, 1) := by decide +kernel
theorem dX4_up_0 : decode cX4_up 0 = .ok (.iload_n 1, 1) := by decide +kernel
theorem dX4_up_1 : decode cX4_up 1 = .ok (.ifCond .ge 6, 3) := by decide +kernel
theorem dX4_up_4 : decode cX4_up 4 = .ok (.bipush (-3), 2) := by decide +kernel
theorem dX4_up_6 : decode cX4_up 6 = .ok (.ireturn, 1) := by decide +kernel
theorem dX4_up_7 : decode cX4_up 7 = .ok (.iload_n 1, 1) := by decide +kernel
theorem dX4_up_8 : decode cX4_up 8 = .ok (.aload_n 0, 1) := by decide +kernel
theorem dX4_up_9 : decode cX4_up 9 = .ok (.getfield 35, 3) := by decide +kernel
theorem dX4_up_12 : decode cX4_up 12 = .ok (.getfield 140, 3) := by decide +kernel
theorem dX4_up_15 : decode cX4_up 15 = .ok (.if_icmp .ge 15, 3) := by decide +kernel
theorem dX4_up_18 : decode cX4_up 18 = .ok (.aload_n 0, 1) := by decide +kernel
theorem dX4_up_19 : decode cX4_up 19 = .ok (.getfield 35, 3) := by decide +kernel
theorem dX4_up_22 : decode cX4_up 22 = .ok (.getfield 143, 3) := by decide +kernel
theorem dX4_up_25 : decode cX4_up 25 = .ok (.iload_n 1, 1) := by decide +kernel
theorem dX4_up_26 : decode cX4_up 26 = .ok (.iaload, 1) := by decide +kernel
theorem dX4_up_27 : decode cX4_up 27 = .ok (.goto 4, 3) := by decide +kernel
theorem dX4_up_30 : decode cX4_up 30 = .ok (.iconst (-1), 1) := by decide +kernel
theorem dX4_up_31 : decode cX4_up 31 = .ok (.ireturn, 1) := by decide +kernel
theorem dX4_floor_0 : decode cX4_floor 0 = .ok (.aload_n 0, 1) := by decide +kernel
theorem dX4_floor_1 : decode cX4_floor 1 = .ok (.getfield 19, 3) := by decide +kernel
theorem dX4_floor_4 : decode cX4_floor 4 = .ok (.iload_n 1, 1) := by decide +kernel
theorem dX4_floor_5 : decode cX4_floor 5 = .ok (.invokevirtual 96, 3) := by decide +kernel
theorem dX4_floor_8 : decode cX4_floor 8 = .ok (.ifCond .ne 6, 3) := by decide +kernel
theorem dX4_floor_11 : decode cX4_floor 11 = .ok (.bipush (-2), 2) := by decide +kernel
theorem dX4_floor_13 : decode cX4_floor 13 = .ok (.ireturn, 1) := by decide +kernel
theorem dX4_floor_14 : decode cX4_floor 14 = .ok (.aload_n 0, 1) := by decide +kernel
theorem dX4_floor_15 : decode cX4_floor 15 = .ok (.getfield 35, 3) := by decide +kernel
theorem dX4_floor_18 : decode cX4_floor 18 = .ok (.iload_n 1, 1) := by decide +kernel
theorem dX4_floor_19 : decode cX4_floor 19 = .ok (.invokevirtual 146, 3) := by decide +kernel
theorem dX4_floor_22 : decode cX4_floor 22 = .ok (.istore_n 2, 1) := by decide +kernel
theorem dX4_floor_23 : decode cX4_floor 23 = .ok (.iload_n 2, 1) := by decide +kernel
theorem dX4_floor_24 : decode cX4_floor 24 = .ok (.iconst (-1), 1) := by decide +kernel
theorem dX4_floor_25 : decode cX4_floor 25 = .ok (.if_icmp .ne 5, 3) := by decide +kernel
theorem dX4_floor_28 : decode cX4_floor 28 = .ok (.iconst (-1), 1) := by decide +kernel
theorem dX4_floor_29 : decode cX4_floor 29 = .ok (.ireturn, 1) := by decide +kernel
theorem dX4_floor_30 : decode cX4_floor 30 = .ok (.aload_n 0, 1) := by decide +kernel
theorem dX4_floor_31 : decode cX4_floor 31 = .ok (.getfield 19, 3) := by decide +kernel
theorem dX4_floor_34 : decode cX4_floor 34 = .ok (.aload_n 0, 1) := by decide +kernel
theorem dX4_floor_35 : decode cX4_floor 35 = .ok (.getfield 35, 3) := by decide +kernel
theorem dX4_floor_38 : decode cX4_floor 38 = .ok (.invokevirtual 129, 3) := by decide +kernel
theorem dX4_floor_41 : decode cX4_floor 41 = .ok (.aload_n 0, 1) := by decide +kernel
theorem dX4_floor_42 : decode cX4_floor 42 = .ok (.getfield 35, 3) := by decide +kernel
theorem dX4_floor_45 : decode cX4_floor 45 = .ok (.iload_n 2, 1) := by decide +kernel
theorem dX4_floor_46 : decode cX4_floor 46 = .ok (.iconst 1, 1) := by decide +kernel
theorem dX4_floor_47 : decode cX4_floor 47 = .ok (.iadd, 1) := by decide +kernel
theorem dX4_floor_48 : decode cX4_floor 48 = .ok (.invokevirtual 149, 3) := by decide +kernel
theorem dX4_floor_51 : decode cX4_floor 51 = .ok (.iconst (-1), 1) := by decide +kernel
theorem dX4_floor_52 : decode cX4_floor 52 = .ok (.ixor, 1) := by decide +kernel
theorem dX4_floor_53 : decode cX4_floor 53 = .ok (.iand, 1) := by decide +kernel
theorem dX4_floor_54 : decode cX4_floor 54 = .ok (.invokevirtual 152, 3) := by decide +kernel
theorem dX4_floor_57 : decode cX4_floor 57 = .ok (.ireturn, 1) := by decide +kernel
theorem dX4_keep_0 : decode cX4_keep 0 = .ok (.aload_n 0, 1) := by decide +kernel
theorem dX4_keep_1 : decode cX4_keep 1 = .ok (.iload_n 1, 1) := by decide +kernel
theorem dX4_keep_2 : decode cX4_keep 2 = .ok (.invokevirtual 155, 3) := by decide +kernel
theorem dX4_keep_5 : decode cX4_keep 5 = .ok (.ifCond .ne 6, 3) := by decide +kernel
theorem dX4_keep_8 : decode cX4_keep 8 = .ok (.bipush (-2), 2) := by decide +kernel
theorem dX4_keep_10 : decode cX4_keep 10 = .ok (.ireturn, 1) := by decide +kernel
theorem dX4_keep_11 : decode cX4_keep 11 = .ok (.aload_n 0, 1) := by decide +kernel
theorem dX4_keep_12 : decode cX4_keep 12 = .ok (.getfield 39, 3) := by decide +kernel
theorem dX4_keep_15 : decode cX4_keep 15 = .ok (.iload_n 1, 1) := by decide +kernel
theorem dX4_keep_16 : decode cX4_keep 16 = .ok (.aaload, 1) := by decide +kernel
theorem dX4_keep_17 : decode cX4_keep 17 = .ok (.aload_n 0, 1) := by decide +kernel
theorem dX4_keep_18 : decode cX4_keep 18 = .ok (.getfield 35, 3) := by decide +kernel
theorem dX4_keep_21 : decode cX4_keep 21 = .ok (.invokevirtual 158, 3) := by decide +kernel
theorem dX4_keep_24 : decode cX4_keep 24 = .ok (.aload_n 0, 1) := by decide +kernel
theorem dX4_keep_25 : decode cX4_keep 25 = .ok (.getfield 43, 3) := by decide +kernel
theorem dX4_keep_28 : decode cX4_keep 28 = .ok (.iload_n 1, 1) := by decide +kernel
theorem dX4_keep_29 : decode cX4_keep 29 = .ok (.iconst 1, 1) := by decide +kernel
theorem dX4_keep_30 : decode cX4_keep 30 = .ok (.bastore, 1) := by decide +kernel
theorem dX4_keep_31 : decode cX4_keep 31 = .ok (.aload_n 0, 1) := by decide +kernel
theorem dX4_keep_32 : decode cX4_keep 32 = .ok (.getfield 35, 3) := by decide +kernel
theorem dX4_keep_35 : decode cX4_keep 35 = .ok (.getfield 140, 3) := by decide +kernel
theorem dX4_keep_38 : decode cX4_keep 38 = .ok (.ireturn, 1) := by decide +kernel
theorem dX4_back_0 : decode cX4_back 0 = .ok (.aload_n 0, 1) := by decide +kernel
theorem dX4_back_1 : decode cX4_back 1 = .ok (.iload_n 1, 1) := by decide +kernel
theorem dX4_back_2 : decode cX4_back 2 = .ok (.invokevirtual 155, 3) := by decide +kernel
theorem dX4_back_5 : decode cX4_back 5 = .ok (.ifCond .ne 6, 3) := by decide +kernel
theorem dX4_back_8 : decode cX4_back 8 = .ok (.bipush (-2), 2) := by decide +kernel
theorem dX4_back_10 : decode cX4_back 10 = .ok (.ireturn, 1) := by decide +kernel
theorem dX4_back_11 : decode cX4_back 11 = .ok (.aload_n 0, 1) := by decide +kernel
theorem dX4_back_12 : decode cX4_back 12 = .ok (.getfield 43, 3) := by decide +kernel
theorem dX4_back_15 : decode cX4_back 15 = .ok (.iload_n 1, 1) := by decide +kernel
theorem dX4_back_16 : decode cX4_back 16 = .ok (.baload, 1) := by decide +kernel
theorem dX4_back_17 : decode cX4_back 17 = .ok (.ifCond .ne 6, 3) := by decide +kernel
theorem dX4_back_20 : decode cX4_back 20 = .ok (.bipush (-4), 2) := by decide +kernel
theorem dX4_back_22 : decode cX4_back 22 = .ok (.ireturn, 1) := by decide +kernel
theorem dX4_back_23 : decode cX4_back 23 = .ok (.aload_n 0, 1) := by decide +kernel
theorem dX4_back_24 : decode cX4_back 24 = .ok (.getfield 35, 3) := by decide +kernel
theorem dX4_back_27 : decode cX4_back 27 = .ok (.aload_n 0, 1) := by decide +kernel
theorem dX4_back_28 : decode cX4_back 28 = .ok (.getfield 39, 3) := by decide +kernel
theorem dX4_back_31 : decode cX4_back 31 = .ok (.iload_n 1, 1) := by decide +kernel
theorem dX4_back_32 : decode cX4_back 32 = .ok (.aaload, 1) := by decide +kernel
theorem dX4_back_33 : decode cX4_back 33 = .ok (.invokevirtual 158, 3) := by decide +kernel
theorem dX4_back_36 : decode cX4_back 36 = .ok (.aload_n 0, 1) := by decide +kernel
theorem dX4_back_37 : decode cX4_back 37 = .ok (.iconst 0, 1) := by decide +kernel
theorem dX4_back_38 : decode cX4_back 38 = .ok (.putfield 90, 3) := by decide +kernel
theorem dX4_back_41 : decode cX4_back 41 = .ok (.aload_n 0, 1) := by decide +kernel
theorem dX4_back_42 : decode cX4_back 42 = .ok (.getfield 35, 3) := by decide +kernel
theorem dX4_back_45 : decode cX4_back 45 = .ok (.getfield 140, 3) := by decide +kernel
theorem dX4_back_48 : decode cX4_back 48 = .ok (.ireturn, 1) := by decide +kernel
theorem dX4_hasKeepAt_0 : decode cX4_hasKeepAt 0 = .ok (.iload_n 1, 1) := by decide +kernel
theorem dX4_hasKeepAt_1 : decode cX4_hasKeepAt 1 = .ok (.ifCond .lt 21, 3) := by decide +kernel
theorem dX4_hasKeepAt_4 : decode cX4_hasKeepAt 4 = .ok (.iload_n 1, 1) := by decide +kernel
theorem dX4_hasKeepAt_5 : decode cX4_hasKeepAt 5 = .ok (.iconst 2, 1) := by decide +kernel
theorem dX4_hasKeepAt_6 : decode cX4_hasKeepAt 6 = .ok (.if_icmp .ge 16, 3) := by decide +kernel
theorem dX4_hasKeepAt_9 : decode cX4_hasKeepAt 9 = .ok (.aload_n 0, 1) := by decide +kernel
theorem dX4_hasKeepAt_10 : decode cX4_hasKeepAt 10 = .ok (.getfield 39, 3) := by decide +kernel
theorem dX4_hasKeepAt_13 : decode cX4_hasKeepAt 13 = .ok (.iload_n 1, 1) := by decide +kernel
theorem dX4_hasKeepAt_14 : decode cX4_hasKeepAt 14 = .ok (.aaload, 1) := by decide +kernel
theorem dX4_hasKeepAt_15 : decode cX4_hasKeepAt 15 = .ok (.ifnull 7, 3) := by decide +kernel
theorem dX4_hasKeepAt_18 : decode cX4_hasKeepAt 18 = .ok (.iconst 1, 1) := by decide +kernel
theorem dX4_hasKeepAt_19 : decode cX4_hasKeepAt 19 = .ok (.goto 4, 3) := by decide +kernel
theorem dX4_hasKeepAt_22 : decode cX4_hasKeepAt 22 = .ok (.iconst 0, 1) := by decide +kernel
theorem dX4_hasKeepAt_23 : decode cX4_hasKeepAt 23 = .ok (.ireturn, 1) := by decide +kernel
theorem dX4_orders_0 : decode cX4_orders 0 = .ok (.iload_n 1, 1) := by decide +kernel
theorem dX4_orders_1 : decode cX4_orders 1 = .ok (.iconst (-1), 1) := by decide +kernel
theorem dX4_orders_2 : decode cX4_orders 2 = .ok (.if_icmp .ge 6, 3) := by decide +kernel
theorem dX4_orders_5 : decode cX4_orders 5 = .ok (.bipush (-3), 2) := by decide +kernel
theorem dX4_orders_7 : decode cX4_orders 7 = .ok (.ireturn, 1) := by decide +kernel
theorem dX4_orders_8 : decode cX4_orders 8 = .ok (.aload_n 0, 1) := by decide +kernel
theorem dX4_orders_9 : decode cX4_orders 9 = .ok (.invokevirtual 161, 3) := by decide +kernel
theorem dX4_orders_12 : decode cX4_orders 12 = .ok (.iload_n 1, 1) := by decide +kernel
theorem dX4_orders_13 : decode cX4_orders 13 = .ok (.iconst (-1), 1) := by decide +kernel
theorem dX4_orders_14 : decode cX4_orders 14 = .ok (.if_icmp .ne 10, 3) := by decide +kernel
theorem dX4_orders_17 : decode cX4_orders 17 = .ok (.aload_n 0, 1) := by decide +kernel
theorem dX4_orders_18 : decode cX4_orders 18 = .ok (.getfield 57, 3) := by decide +kernel
theorem dX4_orders_21 : decode cX4_orders 21 = .ok (.iconst 0, 1) := by decide +kernel
theorem dX4_orders_22 : decode cX4_orders 22 = .ok (.iaload, 1) := by decide +kernel
theorem dX4_orders_23 : decode cX4_orders 23 = .ok (.ireturn, 1) := by decide +kernel
theorem dX4_orders_24 : decode cX4_orders 24 = .ok (.aload_n 0, 1) := by decide +kernel
theorem dX4_orders_25 : decode cX4_orders 25 = .ok (.getfield 57, 3) := by decide +kernel
theorem dX4_orders_28 : decode cX4_orders 28 = .ok (.iconst 0, 1) := by decide +kernel
theorem dX4_orders_29 : decode cX4_orders 29 = .ok (.iaload, 1) := by decide +kernel
theorem dX4_orders_30 : decode cX4_orders 30 = .ok (.ifCond .eq 14, 3) := by decide +kernel
theorem dX4_orders_33 : decode cX4_orders 33 = .ok (.iload_n 1, 1) := by decide +kernel
theorem dX4_orders_34 : decode cX4_orders 34 = .ok (.aload_n 0, 1) := by decide +kernel
theorem dX4_orders_35 : decode cX4_orders 35 = .ok (.getfield 19, 3) := by decide +kernel
theorem dX4_orders_38 : decode cX4_orders 38 = .ok (.getfield 164, 3) := by decide +kernel
theorem dX4_orders_41 : decode cX4_orders 41 = .ok (.if_icmp .lt 5, 3) := by decide +kernel
theorem dX4_orders_44 : decode cX4_orders 44 = .ok (.iconst (-1), 1) := by decide +kernel
theorem dX4_orders_45 : decode cX4_orders 45 = .ok (.ireturn, 1) := by decide +kernel
theorem dX4_orders_46 : decode cX4_orders 46 = .ok (.aload_n 0, 1) := by decide +kernel
theorem dX4_orders_47 : decode cX4_orders 47 = .ok (.iload_n 1, 1) := by decide +kernel
theorem dX4_orders_48 : decode cX4_orders 48 = .ok (.invokevirtual 167, 3) := by decide +kernel
theorem dX4_orders_51 : decode cX4_orders 51 = .ok (.ireturn, 1) := by decide +kernel
theorem dX4_countWaysOn_0 : decode cX4_countWaysOn 0 = .ok (.aload_n 0, 1) := by decide +kernel
theorem dX4_countWaysOn_1 : decode cX4_countWaysOn 1 = .ok (.getfield 19, 3) := by decide +kernel
theorem dX4_countWaysOn_4 : decode cX4_countWaysOn 4 = .ok (.invokevirtual 170, 3) := by decide +kernel
theorem dX4_countWaysOn_7 : decode cX4_countWaysOn 7 = .ok (.istore_n 1, 1) := by decide +kernel
theorem dX4_countWaysOn_8 : decode cX4_countWaysOn 8 = .ok (.aload_n 0, 1) := by decide +kernel
theorem dX4_countWaysOn_9 : decode cX4_countWaysOn 9 = .ok (.getfield 57, 3) := by decide +kernel
theorem dX4_countWaysOn_12 : decode cX4_countWaysOn 12 = .ok (.iload_n 1, 1) := by decide +kernel
theorem dX4_countWaysOn_13 : decode cX4_countWaysOn 13 = .ok (.iconst 1, 1) := by decide +kernel
theorem dX4_countWaysOn_14 : decode cX4_countWaysOn 14 = .ok (.iastore, 1) := by decide +kernel
theorem dX4_countWaysOn_15 : decode cX4_countWaysOn 15 = .ok (.iload_n 1, 1) := by decide +kernel
theorem dX4_countWaysOn_16 : decode cX4_countWaysOn 16 = .ok (.iconst 1, 1) := by decide +kernel
theorem dX4_countWaysOn_17 : decode cX4_countWaysOn 17 = .ok (.isub, 1) := by decide +kernel
theorem dX4_countWaysOn_18 : decode cX4_countWaysOn 18 = .ok (.istore_n 2, 1) := by decide +kernel
theorem dX4_countWaysOn_19 : decode cX4_countWaysOn 19 = .ok (.iload_n 2, 1) := by decide +kernel
theorem dX4_countWaysOn_20 : decode cX4_countWaysOn 20 = .ok (.ifCond .lt 87, 3) := by decide +kernel
theorem dX4_countWaysOn_23 : decode cX4_countWaysOn 23 = .ok (.aload_n 0, 1) := by decide +kernel
theorem dX4_countWaysOn_24 : decode cX4_countWaysOn 24 = .ok (.getfield 19, 3) := by decide +kernel
theorem dX4_countWaysOn_27 : decode cX4_countWaysOn 27 = .ok (.iload_n 2, 1) := by decide +kernel
theorem dX4_countWaysOn_28 : decode cX4_countWaysOn 28 = .ok (.invokevirtual 119, 3) := by decide +kernel
theorem dX4_countWaysOn_31 : decode cX4_countWaysOn 31 = .ok (.istore_n 3, 1) := by decide +kernel
theorem dX4_countWaysOn_32 : decode cX4_countWaysOn 32 = .ok (.iconst 0, 1) := by decide +kernel
theorem dX4_countWaysOn_33 : decode cX4_countWaysOn 33 = .ok (.istore 4, 2) := by decide +kernel
theorem dX4_countWaysOn_35 : decode cX4_countWaysOn 35 = .ok (.iconst 0, 1) := by decide +kernel
theorem dX4_countWaysOn_36 : decode cX4_countWaysOn 36 = .ok (.istore 5, 2) := by decide +kernel
theorem dX4_countWaysOn_38 : decode cX4_countWaysOn 38 = .ok (.iload 5, 2) := by decide +kernel
theorem dX4_countWaysOn_40 : decode cX4_countWaysOn 40 = .ok (.aload_n 0, 1) := by decide +kernel
theorem dX4_countWaysOn_41 : decode cX4_countWaysOn 41 = .ok (.getfield 19, 3) := by decide +kernel
theorem dX4_countWaysOn_44 : decode cX4_countWaysOn 44 = .ok (.getfield 164, 3) := by decide +kernel
theorem dX4_countWaysOn_47 : decode cX4_countWaysOn 47 = .ok (.if_icmp .ge 46, 3) := by decide +kernel
theorem dX4_countWaysOn_50 : decode cX4_countWaysOn 50 = .ok (.aload_n 0, 1) := by decide +kernel
theorem dX4_countWaysOn_51 : decode cX4_countWaysOn 51 = .ok (.getfield 19, 3) := by decide +kernel
theorem dX4_countWaysOn_54 : decode cX4_countWaysOn 54 = .ok (.iload 5, 2) := by decide +kernel
theorem dX4_countWaysOn_56 : decode cX4_countWaysOn 56 = .ok (.iload_n 2, 1) := by decide +kernel
theorem dX4_countWaysOn_57 : decode cX4_countWaysOn 57 = .ok (.iload_n 3, 1) := by decide +kernel
theorem dX4_countWaysOn_58 : decode cX4_countWaysOn 58 = .ok (.aload_n 0, 1) := by decide +kernel
theorem dX4_countWaysOn_59 : decode cX4_countWaysOn 59 = .ok (.getfield 19, 3) := by decide +kernel
theorem dX4_countWaysOn_62 : decode cX4_countWaysOn 62 = .ok (.getfield 173, 3) := by decide +kernel
theorem dX4_countWaysOn_65 : decode cX4_countWaysOn 65 = .ok (.invokevirtual 176, 3) := by decide +kernel
theorem dX4_countWaysOn_68 : decode cX4_countWaysOn 68 = .ok (.ifCond .ne 19, 3) := by decide +kernel
theorem dX4_countWaysOn_71 : decode cX4_countWaysOn 71 = .ok (.iload 4, 2) := by decide +kernel
theorem dX4_countWaysOn_73 : decode cX4_countWaysOn 73 = .ok (.aload_n 0, 1) := by decide +kernel
theorem dX4_countWaysOn_74 : decode cX4_countWaysOn 74 = .ok (.getfield 57, 3) := by decide +kernel
theorem dX4_countWaysOn_77 : decode cX4_countWaysOn 77 = .ok (.iload_n 2, 1) := by decide +kernel
theorem dX4_countWaysOn_78 : decode cX4_countWaysOn 78 = .ok (.iconst 1, 1) := by decide +kernel
theorem dX4_countWaysOn_79 : decode cX4_countWaysOn 79 = .ok (.iload 5, 2) := by decide +kernel
theorem dX4_countWaysOn_81 : decode cX4_countWaysOn 81 = .ok (.ishl, 1) := by decide +kernel
theorem dX4_countWaysOn_82 : decode cX4_countWaysOn 82 = .ok (.ior, 1) := by decide +kernel
theorem dX4_countWaysOn_83 : decode cX4_countWaysOn 83 = .ok (.iaload, 1) := by decide +kernel
theorem dX4_countWaysOn_84 : decode cX4_countWaysOn 84 = .ok (.iadd, 1) := by decide +kernel
theorem dX4_countWaysOn_85 : decode cX4_countWaysOn 85 = .ok (.istore 4, 2) := by decide +kernel
theorem dX4_countWaysOn_87 : decode cX4_countWaysOn 87 = .ok (.iinc 5 1, 3) := by decide +kernel
theorem dX4_countWaysOn_90 : decode cX4_countWaysOn 90 = .ok (.goto (-52), 3) := by decide +kernel
theorem dX4_countWaysOn_93 : decode cX4_countWaysOn 93 = .ok (.aload_n 0, 1) := by decide +kernel
theorem dX4_countWaysOn_94 : decode cX4_countWaysOn 94 = .ok (.getfield 57, 3) := by decide +kernel
theorem dX4_countWaysOn_97 : decode cX4_countWaysOn 97 = .ok (.iload_n 2, 1) := by decide +kernel
theorem dX4_countWaysOn_98 : decode cX4_countWaysOn 98 = .ok (.iload 4, 2) := by decide +kernel
theorem dX4_countWaysOn_100 : decode cX4_countWaysOn 100 = .ok (.iastore, 1) := by decide +kernel
theorem dX4_countWaysOn_101 : decode cX4_countWaysOn 101 = .ok (.iinc 2 (-1), 3) := by decide +kernel
theorem dX4_countWaysOn_104 : decode cX4_countWaysOn 104 = .ok (.goto (-85), 3) := by decide +kernel
theorem dX4_countWaysOn_107 : decode cX4_countWaysOn 107 = .ok (.return_, 1) := by decide +kernel
theorem dX4_ofFirstOrder_0 : decode cX4_ofFirstOrder 0 = .ok (.iconst 0, 1) := by decide +kernel
theorem dX4_ofFirstOrder_1 : decode cX4_ofFirstOrder 1 = .ok (.istore_n 2, 1) := by decide +kernel
theorem dX4_ofFirstOrder_2 : decode cX4_ofFirstOrder 2 = .ok (.iconst (-1), 1) := by decide +kernel
theorem dX4_ofFirstOrder_3 : decode cX4_ofFirstOrder 3 = .ok (.istore_n 3, 1) := by decide +kernel
theorem dX4_ofFirstOrder_4 : decode cX4_ofFirstOrder 4 = .ok (.iconst 0, 1) := by decide +kernel
theorem dX4_ofFirstOrder_5 : decode cX4_ofFirstOrder 5 = .ok (.istore 4, 2) := by decide +kernel
theorem dX4_ofFirstOrder_7 : decode cX4_ofFirstOrder 7 = .ok (.iload 4, 2) := by decide +kernel
theorem dX4_ofFirstOrder_9 : decode cX4_ofFirstOrder 9 = .ok (.iload_n 1, 1) := by decide +kernel
theorem dX4_ofFirstOrder_10 : decode cX4_ofFirstOrder 10 = .ok (.if_icmp .gt 40, 3) := by decide +kernel
theorem dX4_ofFirstOrder_13 : decode cX4_ofFirstOrder 13 = .ok (.iload 4, 2) := by decide +kernel
theorem dX4_ofFirstOrder_15 : decode cX4_ofFirstOrder 15 = .ok (.aload_n 0, 1) := by decide +kernel
theorem dX4_ofFirstOrder_16 : decode cX4_ofFirstOrder 16 = .ok (.getfield 19, 3) := by decide +kernel
theorem dX4_ofFirstOrder_19 : decode cX4_ofFirstOrder 19 = .ok (.getfield 164, 3) := by decide +kernel
theorem dX4_ofFirstOrder_22 : decode cX4_ofFirstOrder 22 = .ok (.if_icmp .ge 28, 3) := by decide +kernel
theorem dX4_ofFirstOrder_25 : decode cX4_ofFirstOrder 25 = .ok (.aload_n 0, 1) := by decide +kernel
theorem dX4_ofFirstOrder_26 : decode cX4_ofFirstOrder 26 = .ok (.iload_n 2, 1) := by decide +kernel
theorem dX4_ofFirstOrder_27 : decode cX4_ofFirstOrder 27 = .ok (.invokevirtual 180, 3) := by decide +kernel
theorem dX4_ofFirstOrder_30 : decode cX4_ofFirstOrder 30 = .ok (.istore_n 3, 1) := by decide +kernel
theorem dX4_ofFirstOrder_31 : decode cX4_ofFirstOrder 31 = .ok (.iload_n 3, 1) := by decide +kernel
theorem dX4_ofFirstOrder_32 : decode cX4_ofFirstOrder 32 = .ok (.iconst (-1), 1) := by decide +kernel
theorem dX4_ofFirstOrder_33 : decode cX4_ofFirstOrder 33 = .ok (.if_icmp .ne 5, 3) := by decide +kernel
theorem dX4_ofFirstOrder_36 : decode cX4_ofFirstOrder 36 = .ok (.iconst (-1), 1) := by decide +kernel
theorem dX4_ofFirstOrder_37 : decode cX4_ofFirstOrder 37 = .ok (.ireturn, 1) := by decide +kernel
theorem dX4_ofFirstOrder_38 : decode cX4_ofFirstOrder 38 = .ok (.iload_n 2, 1) := by decide +kernel
theorem dX4_ofFirstOrder_39 : decode cX4_ofFirstOrder 39 = .ok (.iconst 1, 1) := by decide +kernel
theorem dX4_ofFirstOrder_40 : decode cX4_ofFirstOrder 40 = .ok (.iload_n 3, 1) := by decide +kernel
theorem dX4_ofFirstOrder_41 : decode cX4_ofFirstOrder 41 = .ok (.ishl, 1) := by decide +kernel
theorem dX4_ofFirstOrder_42 : decode cX4_ofFirstOrder 42 = .ok (.ior, 1) := by decide +kernel
theorem dX4_ofFirstOrder_43 : decode cX4_ofFirstOrder 43 = .ok (.istore_n 2, 1) := by decide +kernel
theorem dX4_ofFirstOrder_44 : decode cX4_ofFirstOrder 44 = .ok (.iinc 4 1, 3) := by decide +kernel
theorem dX4_ofFirstOrder_47 : decode cX4_ofFirstOrder 47 = .ok (.goto (-40), 3) := by decide +kernel
theorem dX4_ofFirstOrder_50 : decode cX4_ofFirstOrder 50 = .ok (.iload_n 3, 1) := by decide +kernel
theorem dX4_ofFirstOrder_51 : decode cX4_ofFirstOrder 51 = .ok (.ireturn, 1) := by decide +kernel
theorem dX4_leastWithWayOn_0 : decode cX4_leastWithWayOn 0 = .ok (.aload_n 0, 1) := by decide +kernel
theorem dX4_leastWithWayOn_1 : decode cX4_leastWithWayOn 1 = .ok (.getfield 19, 3) := by decide +kernel
theorem dX4_leastWithWayOn_4 : decode cX4_leastWithWayOn 4 = .ok (.iload_n 1, 1) := by decide +kernel
theorem dX4_leastWithWayOn_5 : decode cX4_leastWithWayOn 5 = .ok (.invokevirtual 119, 3) := by decide +kernel
theorem dX4_leastWithWayOn_8 : decode cX4_leastWithWayOn 8 = .ok (.istore_n 2, 1) := by decide +kernel
theorem dX4_leastWithWayOn_9 : decode cX4_leastWithWayOn 9 = .ok (.iconst 0, 1) := by decide +kernel
theorem dX4_leastWithWayOn_10 : decode cX4_leastWithWayOn 10 = .ok (.istore_n 3, 1) := by decide +kernel
theorem dX4_leastWithWayOn_11 : decode cX4_leastWithWayOn 11 = .ok (.iload_n 3, 1) := by decide +kernel
theorem dX4_leastWithWayOn_12 : decode cX4_leastWithWayOn 12 = .ok (.aload_n 0, 1) := by decide +kernel
theorem dX4_leastWithWayOn_13 : decode cX4_leastWithWayOn 13 = .ok (.getfield 19, 3) := by decide +kernel
theorem dX4_leastWithWayOn_16 : decode cX4_leastWithWayOn 16 = .ok (.getfield 164, 3) := by decide +kernel
theorem dX4_leastWithWayOn_19 : decode cX4_leastWithWayOn 19 = .ok (.if_icmp .ge 44, 3) := by decide +kernel
theorem dX4_leastWithWayOn_22 : decode cX4_leastWithWayOn 22 = .ok (.aload_n 0, 1) := by decide +kernel
theorem dX4_leastWithWayOn_23 : decode cX4_leastWithWayOn 23 = .ok (.getfield 19, 3) := by decide +kernel
theorem dX4_leastWithWayOn_26 : decode cX4_leastWithWayOn 26 = .ok (.iload_n 3, 1) := by decide +kernel
theorem dX4_leastWithWayOn_27 : decode cX4_leastWithWayOn 27 = .ok (.iload_n 1, 1) := by decide +kernel
theorem dX4_leastWithWayOn_28 : decode cX4_leastWithWayOn 28 = .ok (.iload_n 2, 1) := by decide +kernel
theorem dX4_leastWithWayOn_29 : decode cX4_leastWithWayOn 29 = .ok (.aload_n 0, 1) := by decide +kernel
theorem dX4_leastWithWayOn_30 : decode cX4_leastWithWayOn 30 = .ok (.getfield 19, 3) := by decide +kernel
theorem dX4_leastWithWayOn_33 : decode cX4_leastWithWayOn 33 = .ok (.getfield 173, 3) := by decide +kernel
theorem dX4_leastWithWayOn_36 : decode cX4_leastWithWayOn 36 = .ok (.invokevirtual 176, 3) := by decide +kernel
theorem dX4_leastWithWayOn_39 : decode cX4_leastWithWayOn 39 = .ok (.ifCond .ne 18, 3) := by decide +kernel
theorem dX4_leastWithWayOn_42 : decode cX4_leastWithWayOn 42 = .ok (.aload_n 0, 1) := by decide +kernel
theorem dX4_leastWithWayOn_43 : decode cX4_leastWithWayOn 43 = .ok (.getfield 57, 3) := by decide +kernel
theorem dX4_leastWithWayOn_46 : decode cX4_leastWithWayOn 46 = .ok (.iload_n 1, 1) := by decide +kernel
theorem dX4_leastWithWayOn_47 : decode cX4_leastWithWayOn 47 = .ok (.iconst 1, 1) := by decide +kernel
theorem dX4_leastWithWayOn_48 : decode cX4_leastWithWayOn 48 = .ok (.iload_n 3, 1) := by decide +kernel
theorem dX4_leastWithWayOn_49 : decode cX4_leastWithWayOn 49 = .ok (.ishl, 1) := by decide +kernel
theorem dX4_leastWithWayOn_50 : decode cX4_leastWithWayOn 50 = .ok (.ior, 1) := by decide +kernel
theorem dX4_leastWithWayOn_51 : decode cX4_leastWithWayOn 51 = .ok (.iaload, 1) := by decide +kernel
theorem dX4_leastWithWayOn_52 : decode cX4_leastWithWayOn 52 = .ok (.ifCond .le 5, 3) := by decide +kernel
theorem dX4_leastWithWayOn_55 : decode cX4_leastWithWayOn 55 = .ok (.iload_n 3, 1) := by decide +kernel
theorem dX4_leastWithWayOn_56 : decode cX4_leastWithWayOn 56 = .ok (.ireturn, 1) := by decide +kernel
theorem dX4_leastWithWayOn_57 : decode cX4_leastWithWayOn 57 = .ok (.iinc 3 1, 3) := by decide +kernel
theorem dX4_leastWithWayOn_60 : decode cX4_leastWithWayOn 60 = .ok (.goto (-49), 3) := by decide +kernel
theorem dX4_leastWithWayOn_63 : decode cX4_leastWithWayOn 63 = .ok (.iconst (-1), 1) := by decide +kernel
theorem dX4_leastWithWayOn_64 : decode cX4_leastWithWayOn 64 = .ok (.ireturn, 1) := by decide +kernel
theorem dX4_tallest_0 : decode cX4_tallest 0 = .ok (.iload_n 1, 1) := by decide +kernel
theorem dX4_tallest_1 : decode cX4_tallest 1 = .ok (.ifCond .lt 8, 3) := by decide +kernel
theorem dX4_tallest_4 : decode cX4_tallest 4 = .ok (.iload_n 1, 1) := by decide +kernel
theorem dX4_tallest_5 : decode cX4_tallest 5 = .ok (.iconst 1, 1) := by decide +kernel
theorem dX4_tallest_6 : decode cX4_tallest 6 = .ok (.if_icmp .le 6, 3) := by decide +kernel
theorem dX4_tallest_9 : decode cX4_tallest 9 = .ok (.bipush (-3), 2) := by decide +kernel
theorem dX4_tallest_11 : decode cX4_tallest 11 = .ok (.ireturn, 1) := by decide +kernel
theorem dX4_tallest_12 : decode cX4_tallest 12 = .ok (.aload_n 0, 1) := by decide +kernel
theorem dX4_tallest_13 : decode cX4_tallest 13 = .ok (.aload_n 0, 1) := by decide +kernel
theorem dX4_tallest_14 : decode cX4_tallest 14 = .ok (.getfield 19, 3) := by decide +kernel
theorem dX4_tallest_17 : decode cX4_tallest 17 = .ok (.getfield 173, 3) := by decide +kernel
theorem dX4_tallest_20 : decode cX4_tallest 20 = .ok (.invokevirtual 183, 3) := by decide +kernel
theorem dX4_tallest_23 : decode cX4_tallest 23 = .ok (.iconst 0, 1) := by decide +kernel
theorem dX4_tallest_24 : decode cX4_tallest 24 = .ok (.istore_n 2, 1) := by decide +kernel
theorem dX4_tallest_25 : decode cX4_tallest 25 = .ok (.iconst 0, 1) := by decide +kernel
theorem dX4_tallest_26 : decode cX4_tallest 26 = .ok (.istore_n 3, 1) := by decide +kernel
theorem dX4_tallest_27 : decode cX4_tallest 27 = .ok (.iconst 1, 1) := by decide +kernel
theorem dX4_tallest_28 : decode cX4_tallest 28 = .ok (.istore 4, 2) := by decide +kernel
theorem dX4_tallest_30 : decode cX4_tallest 30 = .ok (.iload 4, 2) := by decide +kernel
theorem dX4_tallest_32 : decode cX4_tallest 32 = .ok (.aload_n 0, 1) := by decide +kernel
theorem dX4_tallest_33 : decode cX4_tallest 33 = .ok (.getfield 19, 3) := by decide +kernel
theorem dX4_tallest_36 : decode cX4_tallest 36 = .ok (.invokevirtual 170, 3) := by decide +kernel
theorem dX4_tallest_39 : decode cX4_tallest 39 = .ok (.if_icmp .gt 46, 3) := by decide +kernel
theorem dX4_tallest_42 : decode cX4_tallest 42 = .ok (.aload_n 0, 1) := by decide +kernel
theorem dX4_tallest_43 : decode cX4_tallest 43 = .ok (.getfield 57, 3) := by decide +kernel
theorem dX4_tallest_46 : decode cX4_tallest 46 = .ok (.iload 4, 2) := by decide +kernel
theorem dX4_tallest_48 : decode cX4_tallest 48 = .ok (.iaload, 1) := by decide +kernel
theorem dX4_tallest_49 : decode cX4_tallest 49 = .ok (.ifCond .le 15, 3) := by decide +kernel
theorem dX4_tallest_52 : decode cX4_tallest 52 = .ok (.aload_n 0, 1) := by decide +kernel
theorem dX4_tallest_53 : decode cX4_tallest 53 = .ok (.getfield 19, 3) := by decide +kernel
theorem dX4_tallest_56 : decode cX4_tallest 56 = .ok (.iload 4, 2) := by decide +kernel
theorem dX4_tallest_58 : decode cX4_tallest 58 = .ok (.invokevirtual 152, 3) := by decide +kernel
theorem dX4_tallest_61 : decode cX4_tallest 61 = .ok (.goto 4, 3) := by decide +kernel
theorem dX4_tallest_64 : decode cX4_tallest 64 = .ok (.iconst 0, 1) := by decide +kernel
theorem dX4_tallest_65 : decode cX4_tallest 65 = .ok (.istore 5, 2) := by decide +kernel
theorem dX4_tallest_67 : decode cX4_tallest 67 = .ok (.iload 5, 2) := by decide +kernel
theorem dX4_tallest_69 : decode cX4_tallest 69 = .ok (.iload_n 3, 1) := by decide +kernel
theorem dX4_tallest_70 : decode cX4_tallest 70 = .ok (.if_icmp .le 9, 3) := by decide +kernel
theorem dX4_tallest_73 : decode cX4_tallest 73 = .ok (.iload 4, 2) := by decide +kernel
theorem dX4_tallest_75 : decode cX4_tallest 75 = .ok (.istore_n 2, 1) := by decide +kernel
theorem dX4_tallest_76 : decode cX4_tallest 76 = .ok (.iload 5, 2) := by decide +kernel
theorem dX4_tallest_78 : decode cX4_tallest 78 = .ok (.istore_n 3, 1) := by decide +kernel
theorem dX4_tallest_79 : decode cX4_tallest 79 = .ok (.iinc 4 1, 3) := by decide +kernel
theorem dX4_tallest_82 : decode cX4_tallest 82 = .ok (.goto (-52), 3) := by decide +kernel
theorem dX4_tallest_85 : decode cX4_tallest 85 = .ok (.iload_n 1, 1) := by decide +kernel
theorem dX4_tallest_86 : decode cX4_tallest 86 = .ok (.ifCond .ne 7, 3) := by decide +kernel
theorem dX4_tallest_89 : decode cX4_tallest 89 = .ok (.iload_n 3, 1) := by decide +kernel
theorem dX4_tallest_90 : decode cX4_tallest 90 = .ok (.goto 4, 3) := by decide +kernel
theorem dX4_tallest_93 : decode cX4_tallest 93 = .ok (.iload_n 2, 1) := by decide +kernel
theorem dX4_tallest_94 : decode cX4_tallest 94 = .ok (.ireturn, 1) := by decide +kernel
theorem dX4_countWaysTo_0 : decode cX4_countWaysTo 0 = .ok (.aload_n 0, 1) := by decide +kernel
theorem dX4_countWaysTo_1 : decode cX4_countWaysTo 1 = .ok (.getfield 19, 3) := by decide +kernel
theorem dX4_countWaysTo_4 : decode cX4_countWaysTo 4 = .ok (.invokevirtual 170, 3) := by decide +kernel
theorem dX4_countWaysTo_7 : decode cX4_countWaysTo 7 = .ok (.istore_n 2, 1) := by decide +kernel
theorem dX4_countWaysTo_8 : decode cX4_countWaysTo 8 = .ok (.iconst 0, 1) := by decide +kernel
theorem dX4_countWaysTo_9 : decode cX4_countWaysTo 9 = .ok (.istore_n 3, 1) := by decide +kernel
theorem dX4_countWaysTo_10 : decode cX4_countWaysTo 10 = .ok (.iload_n 3, 1) := by decide +kernel
theorem dX4_countWaysTo_11 : decode cX4_countWaysTo 11 = .ok (.iload_n 2, 1) := by decide +kernel
theorem dX4_countWaysTo_12 : decode cX4_countWaysTo 12 = .ok (.if_icmp .gt 16, 3) := by decide +kernel
theorem dX4_countWaysTo_15 : decode cX4_countWaysTo 15 = .ok (.aload_n 0, 1) := by decide +kernel
theorem dX4_countWaysTo_16 : decode cX4_countWaysTo 16 = .ok (.getfield 57, 3) := by decide +kernel
theorem dX4_countWaysTo_19 : decode cX4_countWaysTo 19 = .ok (.iload_n 3, 1) := by decide +kernel
theorem dX4_countWaysTo_20 : decode cX4_countWaysTo 20 = .ok (.iconst 0, 1) := by decide +kernel
theorem dX4_countWaysTo_21 : decode cX4_countWaysTo 21 = .ok (.iastore, 1) := by decide +kernel
theorem dX4_countWaysTo_22 : decode cX4_countWaysTo 22 = .ok (.iinc 3 1, 3) := by decide +kernel
theorem dX4_countWaysTo_25 : decode cX4_countWaysTo 25 = .ok (.goto (-15), 3) := by decide +kernel
theorem dX4_countWaysTo_28 : decode cX4_countWaysTo 28 = .ok (.aload_n 0, 1) := by decide +kernel
theorem dX4_countWaysTo_29 : decode cX4_countWaysTo 29 = .ok (.getfield 57, 3) := by decide +kernel
theorem dX4_countWaysTo_32 : decode cX4_countWaysTo 32 = .ok (.iconst 0, 1) := by decide +kernel
theorem dX4_countWaysTo_33 : decode cX4_countWaysTo 33 = .ok (.iconst 1, 1) := by decide +kernel
theorem dX4_countWaysTo_34 : decode cX4_countWaysTo 34 = .ok (.iastore, 1) := by decide +kernel
theorem dX4_countWaysTo_35 : decode cX4_countWaysTo 35 = .ok (.iconst 0, 1) := by decide +kernel
theorem dX4_countWaysTo_36 : decode cX4_countWaysTo 36 = .ok (.istore_n 3, 1) := by decide +kernel
theorem dX4_countWaysTo_37 : decode cX4_countWaysTo 37 = .ok (.iload_n 3, 1) := by decide +kernel
theorem dX4_countWaysTo_38 : decode cX4_countWaysTo 38 = .ok (.iload_n 2, 1) := by decide +kernel
theorem dX4_countWaysTo_39 : decode cX4_countWaysTo 39 = .ok (.if_icmp .ge 24, 3) := by decide +kernel
theorem dX4_countWaysTo_42 : decode cX4_countWaysTo 42 = .ok (.aload_n 0, 1) := by decide +kernel
theorem dX4_countWaysTo_43 : decode cX4_countWaysTo 43 = .ok (.getfield 57, 3) := by decide +kernel
theorem dX4_countWaysTo_46 : decode cX4_countWaysTo 46 = .ok (.iload_n 3, 1) := by decide +kernel
theorem dX4_countWaysTo_47 : decode cX4_countWaysTo 47 = .ok (.iaload, 1) := by decide +kernel
theorem dX4_countWaysTo_48 : decode cX4_countWaysTo 48 = .ok (.ifCond .le 9, 3) := by decide +kernel
theorem dX4_countWaysTo_51 : decode cX4_countWaysTo 51 = .ok (.aload_n 0, 1) := by decide +kernel
theorem dX4_countWaysTo_52 : decode cX4_countWaysTo 52 = .ok (.iload_n 3, 1) := by decide +kernel
theorem dX4_countWaysTo_53 : decode cX4_countWaysTo 53 = .ok (.iload_n 1, 1) := by decide +kernel
theorem dX4_countWaysTo_54 : decode cX4_countWaysTo 54 = .ok (.invokevirtual 186, 3) := by decide +kernel
theorem dX4_countWaysTo_57 : decode cX4_countWaysTo 57 = .ok (.iinc 3 1, 3) := by decide +kernel
theorem dX4_countWaysTo_60 : decode cX4_countWaysTo 60 = .ok (.goto (-23), 3) := by decide +kernel
theorem dX4_countWaysTo_63 : decode cX4_countWaysTo 63 = .ok (.return_, 1) := by decide +kernel
theorem dX4_passWaysOn_0 : decode cX4_passWaysOn 0 = .ok (.aload_n 0, 1) := by decide +kernel
theorem dX4_passWaysOn_1 : decode cX4_passWaysOn 1 = .ok (.getfield 19, 3) := by decide +kernel
theorem dX4_passWaysOn_4 : decode cX4_passWaysOn 4 = .ok (.iload_n 1, 1) := by decide +kernel
theorem dX4_passWaysOn_5 : decode cX4_passWaysOn 5 = .ok (.invokevirtual 119, 3) := by decide +kernel
theorem dX4_passWaysOn_8 : decode cX4_passWaysOn 8 = .ok (.istore_n 3, 1) := by decide +kernel
theorem dX4_passWaysOn_9 : decode cX4_passWaysOn 9 = .ok (.iconst 0, 1) := by decide +kernel
theorem dX4_passWaysOn_10 : decode cX4_passWaysOn 10 = .ok (.istore 4, 2) := by decide +kernel
theorem dX4_passWaysOn_12 : decode cX4_passWaysOn 12 = .ok (.iload 4, 2) := by decide +kernel
theorem dX4_passWaysOn_14 : decode cX4_passWaysOn 14 = .ok (.aload_n 0, 1) := by decide +kernel
theorem dX4_passWaysOn_15 : decode cX4_passWaysOn 15 = .ok (.getfield 19, 3) := by decide +kernel
theorem dX4_passWaysOn_18 : decode cX4_passWaysOn 18 = .ok (.getfield 164, 3) := by decide +kernel
theorem dX4_passWaysOn_21 : decode cX4_passWaysOn 21 = .ok (.if_icmp .ge 44, 3) := by decide +kernel
theorem dX4_passWaysOn_24 : decode cX4_passWaysOn 24 = .ok (.aload_n 0, 1) := by decide +kernel
theorem dX4_passWaysOn_25 : decode cX4_passWaysOn 25 = .ok (.getfield 19, 3) := by decide +kernel
theorem dX4_passWaysOn_28 : decode cX4_passWaysOn 28 = .ok (.iload 4, 2) := by decide +kernel
theorem dX4_passWaysOn_30 : decode cX4_passWaysOn 30 = .ok (.iload_n 1, 1) := by decide +kernel
theorem dX4_passWaysOn_31 : decode cX4_passWaysOn 31 = .ok (.iload_n 3, 1) := by decide +kernel
theorem dX4_passWaysOn_32 : decode cX4_passWaysOn 32 = .ok (.iload_n 2, 1) := by decide +kernel
theorem dX4_passWaysOn_33 : decode cX4_passWaysOn 33 = .ok (.invokevirtual 176, 3) := by decide +kernel
theorem dX4_passWaysOn_36 : decode cX4_passWaysOn 36 = .ok (.ifCond .ne 23, 3) := by decide +kernel
theorem dX4_passWaysOn_39 : decode cX4_passWaysOn 39 = .ok (.aload_n 0, 1) := by decide +kernel
theorem dX4_passWaysOn_40 : decode cX4_passWaysOn 40 = .ok (.getfield 57, 3) := by decide +kernel
theorem dX4_passWaysOn_43 : decode cX4_passWaysOn 43 = .ok (.iload_n 1, 1) := by decide +kernel
theorem dX4_passWaysOn_44 : decode cX4_passWaysOn 44 = .ok (.iconst 1, 1) := by decide +kernel
theorem dX4_passWaysOn_45 : decode cX4_passWaysOn 45 = .ok (.iload 4, 2) := by decide +kernel
theorem dX4_passWaysOn_47 : decode cX4_passWaysOn 47 = .ok (.ishl, 1) := by decide +kernel
theorem dX4_passWaysOn_48 : decode cX4_passWaysOn 48 = .ok (.ior, 1) := by decide +kernel
theorem dX4_passWaysOn_49 : decode cX4_passWaysOn 49 = .ok (.dup2, 1) := by decide +kernel
theorem dX4_passWaysOn_50 : decode cX4_passWaysOn 50 = .ok (.iaload, 1) := by decide +kernel
theorem dX4_passWaysOn_51 : decode cX4_passWaysOn 51 = .ok (.aload_n 0, 1) := by decide +kernel
theorem dX4_passWaysOn_52 : decode cX4_passWaysOn 52 = .ok (.getfield 57, 3) := by decide +kernel
theorem dX4_passWaysOn_55 : decode cX4_passWaysOn 55 = .ok (.iload_n 1, 1) := by decide +kernel
theorem dX4_passWaysOn_56 : decode cX4_passWaysOn 56 = .ok (.iaload, 1) := by decide +kernel
theorem dX4_passWaysOn_57 : decode cX4_passWaysOn 57 = .ok (.iadd, 1) := by decide +kernel
theorem dX4_passWaysOn_58 : decode cX4_passWaysOn 58 = .ok (.iastore, 1) := by decide +kernel
theorem dX4_passWaysOn_59 : decode cX4_passWaysOn 59 = .ok (.iinc 4 1, 3) := by decide +kernel
theorem dX4_passWaysOn_62 : decode cX4_passWaysOn 62 = .ok (.goto (-50), 3) := by decide +kernel
theorem dX4_passWaysOn_65 : decode cX4_passWaysOn 65 = .ok (.return_, 1) := by decide +kernel
theorem dX4_jacks_0 : decode cX4_jacks 0 = .ok (.aload_n 0, 1) := by decide +kernel
theorem dX4_jacks_1 : decode cX4_jacks 1 = .ok (.getfield 19, 3) := by decide +kernel
theorem dX4_jacks_4 : decode cX4_jacks 4 = .ok (.getfield 164, 3) := by decide +kernel
theorem dX4_jacks_7 : decode cX4_jacks 7 = .ok (.ifCond .ne 5, 3) := by decide +kernel
theorem dX4_jacks_10 : decode cX4_jacks 10 = .ok (.iconst 0, 1) := by decide +kernel
theorem dX4_jacks_11 : decode cX4_jacks 11 = .ok (.ireturn, 1) := by decide +kernel
theorem dX4_jacks_12 : decode cX4_jacks 12 = .ok (.aload_n 0, 1) := by decide +kernel
theorem dX4_jacks_13 : decode cX4_jacks 13 = .ok (.sipush 9999, 3) := by decide +kernel
theorem dX4_jacks_16 : decode cX4_jacks 16 = .ok (.invokevirtual 183, 3) := by decide +kernel
theorem dX4_jacks_19 : decode cX4_jacks 19 = .ok (.iconst (-1), 1) := by decide +kernel
theorem dX4_jacks_20 : decode cX4_jacks 20 = .ok (.istore_n 1, 1) := by decide +kernel
theorem dX4_jacks_21 : decode cX4_jacks 21 = .ok (.iconst 0, 1) := by decide +kernel
theorem dX4_jacks_22 : decode cX4_jacks 22 = .ok (.istore_n 2, 1) := by decide +kernel
theorem dX4_jacks_23 : decode cX4_jacks 23 = .ok (.iload_n 2, 1) := by decide +kernel
theorem dX4_jacks_24 : decode cX4_jacks 24 = .ok (.aload_n 0, 1) := by decide +kernel
theorem dX4_jacks_25 : decode cX4_jacks 25 = .ok (.getfield 19, 3) := by decide +kernel
theorem dX4_jacks_28 : decode cX4_jacks 28 = .ok (.getfield 164, 3) := by decide +kernel
theorem dX4_jacks_31 : decode cX4_jacks 31 = .ok (.if_icmp .ge 85, 3) := by decide +kernel
theorem dX4_jacks_34 : decode cX4_jacks 34 = .ok (.aload_n 0, 1) := by decide +kernel
theorem dX4_jacks_35 : decode cX4_jacks 35 = .ok (.getfield 19, 3) := by decide +kernel
theorem dX4_jacks_38 : decode cX4_jacks 38 = .ok (.invokevirtual 170, 3) := by decide +kernel
theorem dX4_jacks_41 : decode cX4_jacks 41 = .ok (.iconst 1, 1) := by decide +kernel
theorem dX4_jacks_42 : decode cX4_jacks 42 = .ok (.iload_n 2, 1) := by decide +kernel
theorem dX4_jacks_43 : decode cX4_jacks 43 = .ok (.ishl, 1) := by decide +kernel
theorem dX4_jacks_44 : decode cX4_jacks 44 = .ok (.iconst (-1), 1) := by decide +kernel
theorem dX4_jacks_45 : decode cX4_jacks 45 = .ok (.ixor, 1) := by decide +kernel
theorem dX4_jacks_46 : decode cX4_jacks 46 = .ok (.iand, 1) := by decide +kernel
theorem dX4_jacks_47 : decode cX4_jacks 47 = .ok (.istore_n 3, 1) := by decide +kernel
theorem dX4_jacks_48 : decode cX4_jacks 48 = .ok (.aload_n 0, 1) := by decide +kernel
theorem dX4_jacks_49 : decode cX4_jacks 49 = .ok (.getfield 19, 3) := by decide +kernel
theorem dX4_jacks_52 : decode cX4_jacks 52 = .ok (.iload_n 3, 1) := by decide +kernel
theorem dX4_jacks_53 : decode cX4_jacks 53 = .ok (.invokevirtual 119, 3) := by decide +kernel
theorem dX4_jacks_56 : decode cX4_jacks 56 = .ok (.istore 4, 2) := by decide +kernel
theorem dX4_jacks_58 : decode cX4_jacks 58 = .ok (.aload_n 0, 1) := by decide +kernel
theorem dX4_jacks_59 : decode cX4_jacks 59 = .ok (.getfield 57, 3) := by decide +kernel
theorem dX4_jacks_62 : decode cX4_jacks 62 = .ok (.iload_n 3, 1) := by decide +kernel
theorem dX4_jacks_63 : decode cX4_jacks 63 = .ok (.iaload, 1) := by decide +kernel
theorem dX4_jacks_64 : decode cX4_jacks 64 = .ok (.ifCond .le 24, 3) := by decide +kernel
theorem dX4_jacks_67 : decode cX4_jacks 67 = .ok (.aload_n 0, 1) := by decide +kernel
theorem dX4_jacks_68 : decode cX4_jacks 68 = .ok (.getfield 19, 3) := by decide +kernel
theorem dX4_jacks_71 : decode cX4_jacks 71 = .ok (.iload_n 2, 1) := by decide +kernel
theorem dX4_jacks_72 : decode cX4_jacks 72 = .ok (.iload_n 3, 1) := by decide +kernel
theorem dX4_jacks_73 : decode cX4_jacks 73 = .ok (.iload 4, 2) := by decide +kernel
theorem dX4_jacks_75 : decode cX4_jacks 75 = .ok (.sipush 9999, 3) := by decide +kernel
theorem dX4_jacks_78 : decode cX4_jacks 78 = .ok (.invokevirtual 176, 3) := by decide +kernel
theorem dX4_jacks_81 : decode cX4_jacks 81 = .ok (.ifCond .ne 7, 3) := by decide +kernel
theorem dX4_jacks_84 : decode cX4_jacks 84 = .ok (.iconst 1, 1) := by decide +kernel
theorem dX4_jacks_85 : decode cX4_jacks 85 = .ok (.goto 4, 3) := by decide +kernel
theorem dX4_jacks_88 : decode cX4_jacks 88 = .ok (.iconst 0, 1) := by decide +kernel
theorem dX4_jacks_89 : decode cX4_jacks 89 = .ok (.istore 5, 2) := by decide +kernel
theorem dX4_jacks_91 : decode cX4_jacks 91 = .ok (.iload 5, 2) := by decide +kernel
theorem dX4_jacks_93 : decode cX4_jacks 93 = .ok (.ifCond .eq 17, 3) := by decide +kernel
theorem dX4_jacks_96 : decode cX4_jacks 96 = .ok (.iload_n 1, 1) := by decide +kernel
theorem dX4_jacks_97 : decode cX4_jacks 97 = .ok (.iconst (-1), 1) := by decide +kernel
theorem dX4_jacks_98 : decode cX4_jacks 98 = .ok (.if_icmp .eq 9, 3) := by decide +kernel
theorem dX4_jacks_101 : decode cX4_jacks 101 = .ok (.iload 4, 2) := by decide +kernel
theorem dX4_jacks_103 : decode cX4_jacks 103 = .ok (.iload_n 1, 1) := by decide +kernel
theorem dX4_jacks_104 : decode cX4_jacks 104 = .ok (.if_icmp .ge 6, 3) := by decide +kernel
theorem dX4_jacks_107 : decode cX4_jacks 107 = .ok (.iload 4, 2) := by decide +kernel
theorem dX4_jacks_109 : decode cX4_jacks 109 = .ok (.istore_n 1, 1) := by decide +kernel
theorem dX4_jacks_110 : decode cX4_jacks 110 = .ok (.iinc 2 1, 3) := by decide +kernel
theorem dX4_jacks_113 : decode cX4_jacks 113 = .ok (.goto (-90), 3) := by decide +kernel
theorem dX4_jacks_116 : decode cX4_jacks 116 = .ok (.iload_n 1, 1) := by decide +kernel
theorem dX4_jacks_117 : decode cX4_jacks 117 = .ok (.ireturn, 1) := by decide +kernel
theorem dX4_soonest_0 : decode cX4_soonest 0 = .ok (.iload_n 1, 1) := by decide +kernel
theorem dX4_soonest_1 : decode cX4_soonest 1 = .ok (.iconst 1, 1) := by decide +kernel
theorem dX4_soonest_2 : decode cX4_soonest 2 = .ok (.if_icmp .lt 9, 3) := by decide +kernel
theorem dX4_soonest_5 : decode cX4_soonest 5 = .ok (.iload_n 1, 1) := by decide +kernel
theorem dX4_soonest_6 : decode cX4_soonest 6 = .ok (.bipush 8, 2) := by decide +kernel
theorem dX4_soonest_8 : decode cX4_soonest 8 = .ok (.if_icmp .le 6, 3) := by decide +kernel
theorem dX4_soonest_11 : decode cX4_soonest 11 = .ok (.bipush (-3), 2) := by decide +kernel
theorem dX4_soonest_13 : decode cX4_soonest 13 = .ok (.ireturn, 1) := by decide +kernel
theorem dX4_soonest_14 : decode cX4_soonest 14 = .ok (.iload_n 1, 1) := by decide +kernel
theorem dX4_soonest_15 : decode cX4_soonest 15 = .ok (.istore_n 2, 1) := by decide +kernel
theorem dX4_soonest_16 : decode cX4_soonest 16 = .ok (.iconst 0, 1) := by decide +kernel
theorem dX4_soonest_17 : decode cX4_soonest 17 = .ok (.istore_n 3, 1) := by decide +kernel
theorem dX4_soonest_18 : decode cX4_soonest 18 = .ok (.iload_n 3, 1) := by decide +kernel
theorem dX4_soonest_19 : decode cX4_soonest 19 = .ok (.bipush 40, 2) := by decide +kernel
theorem dX4_soonest_21 : decode cX4_soonest 21 = .ok (.if_icmp .ge 31, 3) := by decide +kernel
theorem dX4_soonest_24 : decode cX4_soonest 24 = .ok (.aload_n 0, 1) := by decide +kernel
theorem dX4_soonest_25 : decode cX4_soonest 25 = .ok (.getfield 19, 3) := by decide +kernel
theorem dX4_soonest_28 : decode cX4_soonest 28 = .ok (.iload_n 3, 1) := by decide +kernel
theorem dX4_soonest_29 : decode cX4_soonest 29 = .ok (.invokevirtual 190, 3) := by decide +kernel
theorem dX4_soonest_32 : decode cX4_soonest 32 = .ok (.bipush 9, 2) := by decide +kernel
theorem dX4_soonest_34 : decode cX4_soonest 34 = .ok (.if_icmp .eq 6, 3) := by decide +kernel
theorem dX4_soonest_37 : decode cX4_soonest 37 = .ok (.iinc 2 (-1), 3) := by decide +kernel
theorem dX4_soonest_40 : decode cX4_soonest 40 = .ok (.iload_n 2, 1) := by decide +kernel
theorem dX4_soonest_41 : decode cX4_soonest 41 = .ok (.ifCond .ne 5, 3) := by decide +kernel
theorem dX4_soonest_44 : decode cX4_soonest 44 = .ok (.iload_n 3, 1) := by decide +kernel
theorem dX4_soonest_45 : decode cX4_soonest 45 = .ok (.ireturn, 1) := by decide +kernel
theorem dX4_soonest_46 : decode cX4_soonest 46 = .ok (.iinc 3 1, 3) := by decide +kernel
theorem dX4_soonest_49 : decode cX4_soonest 49 = .ok (.goto (-31), 3) := by decide +kernel
theorem dX4_soonest_52 : decode cX4_soonest 52 = .ok (.bipush 40, 2) := by decide +kernel
theorem dX4_soonest_54 : decode cX4_soonest 54 = .ok (.iload_n 2, 1) := by decide +kernel
theorem dX4_soonest_55 : decode cX4_soonest 55 = .ok (.iadd, 1) := by decide +kernel
theorem dX4_soonest_56 : decode cX4_soonest 56 = .ok (.iconst 1, 1) := by decide +kernel
theorem dX4_soonest_57 : decode cX4_soonest 57 = .ok (.isub, 1) := by decide +kernel
theorem dX4_soonest_58 : decode cX4_soonest 58 = .ok (.ireturn, 1) := by decide +kernel
theorem dX4_odds_0 : decode cX4_odds 0 = .ok (.iload_n 1, 1) := by decide +kernel
theorem dX4_odds_1 : decode cX4_odds 1 = .ok (.ifCond .lt 19, 3) := by decide +kernel
theorem dX4_odds_4 : decode cX4_odds 4 = .ok (.iload_n 1, 1) := by decide +kernel
theorem dX4_odds_5 : decode cX4_odds 5 = .ok (.bipush 18, 2) := by decide +kernel
theorem dX4_odds_7 : decode cX4_odds 7 = .ok (.if_icmp .gt 13, 3) := by decide +kernel
theorem dX4_odds_10 : decode cX4_odds 10 = .ok (.iload_n 2, 1) := by decide +kernel
theorem dX4_odds_11 : decode cX4_odds 11 = .ok (.ifCond .lt 9, 3) := by decide +kernel
theorem dX4_odds_14 : decode cX4_odds 14 = .ok (.iload_n 2, 1) := by decide +kernel
theorem dX4_odds_15 : decode cX4_odds 15 = .ok (.bipush 18, 2) := by decide +kernel
theorem dX4_odds_17 : decode cX4_odds 17 = .ok (.if_icmp .le 7, 3) := by decide +kernel
theorem dX4_odds_20 : decode cX4_odds 20 = .ok (.ldc2_w 193, 3) := by decide +kernel
theorem dX4_odds_23 : decode cX4_odds 23 = .ok (.lreturn, 1) := by decide +kernel
theorem dX4_odds_24 : decode cX4_odds 24 = .ok (.iload_n 3, 1) := by decide +kernel
theorem dX4_odds_25 : decode cX4_odds 25 = .ok (.ifCond .lt 20, 3) := by decide +kernel
theorem dX4_odds_28 : decode cX4_odds 28 = .ok (.iload_n 3, 1) := by decide +kernel
theorem dX4_odds_29 : decode cX4_odds 29 = .ok (.bipush 10, 2) := by decide +kernel
theorem dX4_odds_31 : decode cX4_odds 31 = .ok (.if_icmp .gt 14, 3) := by decide +kernel
theorem dX4_odds_34 : decode cX4_odds 34 = .ok (.iload 4, 2) := by decide +kernel
theorem dX4_odds_36 : decode cX4_odds 36 = .ok (.ifCond .lt 9, 3) := by decide +kernel
theorem dX4_odds_39 : decode cX4_odds 39 = .ok (.iload 4, 2) := by decide +kernel
theorem dX4_odds_41 : decode cX4_odds 41 = .ok (.iconst 1, 1) := by decide +kernel
theorem dX4_odds_42 : decode cX4_odds 42 = .ok (.if_icmp .le 7, 3) := by decide +kernel
theorem dX4_odds_45 : decode cX4_odds 45 = .ok (.ldc2_w 193, 3) := by decide +kernel
theorem dX4_odds_48 : decode cX4_odds 48 = .ok (.lreturn, 1) := by decide +kernel
theorem dX4_odds_49 : decode cX4_odds 49 = .ok (.lconst 0, 1) := by decide +kernel
theorem dX4_odds_50 : decode cX4_odds 50 = .ok (.lstore 5, 2) := by decide +kernel
theorem dX4_odds_52 : decode cX4_odds 52 = .ok (.lconst 1, 1) := by decide +kernel
theorem dX4_odds_53 : decode cX4_odds 53 = .ok (.lstore 7, 2) := by decide +kernel
theorem dX4_odds_55 : decode cX4_odds 55 = .ok (.iconst 0, 1) := by decide +kernel
theorem dX4_odds_56 : decode cX4_odds 56 = .ok (.istore 9, 2) := by decide +kernel
theorem dX4_odds_58 : decode cX4_odds 58 = .ok (.iload 9, 2) := by decide +kernel
theorem dX4_odds_60 : decode cX4_odds 60 = .ok (.iload_n 1, 1) := by decide +kernel
theorem dX4_odds_61 : decode cX4_odds 61 = .ok (.if_icmp .gt 57, 3) := by decide +kernel
theorem dX4_odds_64 : decode cX4_odds 64 = .ok (.iload 9, 2) := by decide +kernel
theorem dX4_odds_66 : decode cX4_odds 66 = .ok (.iload_n 2, 1) := by decide +kernel
theorem dX4_odds_67 : decode cX4_odds 67 = .ok (.if_icmp .lt 29, 3) := by decide +kernel
theorem dX4_odds_70 : decode cX4_odds 70 = .ok (.lload 5, 2) := by decide +kernel
theorem dX4_odds_72 : decode cX4_odds 72 = .ok (.lload 7, 2) := by decide +kernel
theorem dX4_odds_74 : decode cX4_odds 74 = .ok (.bipush 10, 2) := by decide +kernel
theorem dX4_odds_76 : decode cX4_odds 76 = .ok (.iload_n 3, 1) := by decide +kernel
theorem dX4_odds_77 : decode cX4_odds 77 = .ok (.isub, 1) := by decide +kernel
theorem dX4_odds_78 : decode cX4_odds 78 = .ok (.iload 9, 2) := by decide +kernel
theorem dX4_odds_80 : decode cX4_odds 80 = .ok (.invokestatic 195, 3) := by decide +kernel
theorem dX4_odds_83 : decode cX4_odds 83 = .ok (.lmul, 1) := by decide +kernel
theorem dX4_odds_84 : decode cX4_odds 84 = .ok (.iload_n 3, 1) := by decide +kernel
theorem dX4_odds_85 : decode cX4_odds 85 = .ok (.iload_n 1, 1) := by decide +kernel
theorem dX4_odds_86 : decode cX4_odds 86 = .ok (.iload 9, 2) := by decide +kernel
theorem dX4_odds_88 : decode cX4_odds 88 = .ok (.isub, 1) := by decide +kernel
theorem dX4_odds_89 : decode cX4_odds 89 = .ok (.invokestatic 195, 3) := by decide +kernel
theorem dX4_odds_92 : decode cX4_odds 92 = .ok (.lmul, 1) := by decide +kernel
theorem dX4_odds_93 : decode cX4_odds 93 = .ok (.ladd, 1) := by decide +kernel
theorem dX4_odds_94 : decode cX4_odds 94 = .ok (.lstore 5, 2) := by decide +kernel
theorem dX4_odds_96 : decode cX4_odds 96 = .ok (.lload 7, 2) := by decide +kernel
theorem dX4_odds_98 : decode cX4_odds 98 = .ok (.iload_n 1, 1) := by decide +kernel
theorem dX4_odds_99 : decode cX4_odds 99 = .ok (.iload 9, 2) := by decide +kernel
theorem dX4_odds_101 : decode cX4_odds 101 = .ok (.isub, 1) := by decide +kernel
theorem dX4_odds_102 : decode cX4_odds 102 = .ok (.i2l, 1) := by decide +kernel
theorem dX4_odds_103 : decode cX4_odds 103 = .ok (.lmul, 1) := by decide +kernel
theorem dX4_odds_104 : decode cX4_odds 104 = .ok (.iload 9, 2) := by decide +kernel
theorem dX4_odds_106 : decode cX4_odds 106 = .ok (.iconst 1, 1) := by decide +kernel
theorem dX4_odds_107 : decode cX4_odds 107 = .ok (.iadd, 1) := by decide +kernel
theorem dX4_odds_108 : decode cX4_odds 108 = .ok (.i2l, 1) := by decide +kernel
theorem dX4_odds_109 : decode cX4_odds 109 = .ok (.ldiv, 1) := by decide +kernel
theorem dX4_odds_110 : decode cX4_odds 110 = .ok (.lstore 7, 2) := by decide +kernel
theorem dX4_odds_112 : decode cX4_odds 112 = .ok (.iinc 9 1, 3) := by decide +kernel
theorem dX4_odds_115 : decode cX4_odds 115 = .ok (.goto (-57), 3) := by decide +kernel
theorem dX4_odds_118 : decode cX4_odds 118 = .ok (.bipush 10, 2) := by decide +kernel
theorem dX4_odds_120 : decode cX4_odds 120 = .ok (.iload_n 1, 1) := by decide +kernel
theorem dX4_odds_121 : decode cX4_odds 121 = .ok (.invokestatic 195, 3) := by decide +kernel
theorem dX4_odds_124 : decode cX4_odds 124 = .ok (.lstore 9, 2) := by decide +kernel
theorem dX4_odds_126 : decode cX4_odds 126 = .ok (.lload 5, 2) := by decide +kernel
theorem dX4_odds_128 : decode cX4_odds 128 = .ok (.lload 9, 2) := by decide +kernel
theorem dX4_odds_130 : decode cX4_odds 130 = .ok (.invokestatic 199, 3) := by decide +kernel
theorem dX4_odds_133 : decode cX4_odds 133 = .ok (.lstore 11, 2) := by decide +kernel
theorem dX4_odds_135 : decode cX4_odds 135 = .ok (.lload 11, 2) := by decide +kernel
theorem dX4_odds_137 : decode cX4_odds 137 = .ok (.lconst 1, 1) := by decide +kernel
theorem dX4_odds_138 : decode cX4_odds 138 = .ok (.lcmp, 1) := by decide +kernel
theorem dX4_odds_139 : decode cX4_odds 139 = .ok (.ifCond .ge 7, 3) := by decide +kernel
theorem dX4_odds_142 : decode cX4_odds 142 = .ok (.ldc2_w 193, 3) := by decide +kernel
theorem dX4_odds_145 : decode cX4_odds 145 = .ok (.lreturn, 1) := by decide +kernel
theorem dX4_odds_146 : decode cX4_odds 146 = .ok (.iload 4, 2) := by decide +kernel
theorem dX4_odds_148 : decode cX4_odds 148 = .ok (.ifCond .ne 11, 3) := by decide +kernel
theorem dX4_odds_151 : decode cX4_odds 151 = .ok (.lload 5, 2) := by decide +kernel
theorem dX4_odds_153 : decode cX4_odds 153 = .ok (.lload 11, 2) := by decide +kernel
theorem dX4_odds_155 : decode cX4_odds 155 = .ok (.ldiv, 1) := by decide +kernel
theorem dX4_odds_156 : decode cX4_odds 156 = .ok (.goto 8, 3) := by decide +kernel
theorem dX4_odds_159 : decode cX4_odds 159 = .ok (.lload 9, 2) := by decide +kernel
theorem dX4_odds_161 : decode cX4_odds 161 = .ok (.lload 11, 2) := by decide +kernel
theorem dX4_odds_163 : decode cX4_odds 163 = .ok (.ldiv, 1) := by decide +kernel
theorem dX4_odds_164 : decode cX4_odds 164 = .ok (.lreturn, 1) := by decide +kernel
theorem dX4_power_0 : decode cX4_power 0 = .ok (.lconst 1, 1) := by decide +kernel
theorem dX4_power_1 : decode cX4_power 1 = .ok (.lstore_n 2, 1) := by decide +kernel
theorem dX4_power_2 : decode cX4_power 2 = .ok (.iconst 0, 1) := by decide +kernel
theorem dX4_power_3 : decode cX4_power 3 = .ok (.istore 4, 2) := by decide +kernel
theorem dX4_power_5 : decode cX4_power 5 = .ok (.iload 4, 2) := by decide +kernel
theorem dX4_power_7 : decode cX4_power 7 = .ok (.iload_n 1, 1) := by decide +kernel
theorem dX4_power_8 : decode cX4_power 8 = .ok (.if_icmp .ge 14, 3) := by decide +kernel
theorem dX4_power_11 : decode cX4_power 11 = .ok (.lload_n 2, 1) := by decide +kernel
theorem dX4_power_12 : decode cX4_power 12 = .ok (.iload_n 0, 1) := by decide +kernel
theorem dX4_power_13 : decode cX4_power 13 = .ok (.i2l, 1) := by decide +kernel
theorem dX4_power_14 : decode cX4_power 14 = .ok (.lmul, 1) := by decide +kernel
theorem dX4_power_15 : decode cX4_power 15 = .ok (.lstore_n 2, 1) := by decide +kernel
theorem dX4_power_16 : decode cX4_power 16 = .ok (.iinc 4 1, 3) := by decide +kernel
theorem dX4_power_19 : decode cX4_power 19 = .ok (.goto (-14), 3) := by decide +kernel
theorem dX4_power_22 : decode cX4_power 22 = .ok (.lload_n 2, 1) := by decide +kernel
theorem dX4_power_23 : decode cX4_power 23 = .ok (.lreturn, 1) := by decide +kernel
theorem dX4_sharedDivisor_0 : decode cX4_sharedDivisor 0 = .ok (.lload_n 0, 1) := by decide +kernel
theorem dX4_sharedDivisor_1 : decode cX4_sharedDivisor 1 = .ok (.lstore 4, 2) := by decide +kernel
theorem dX4_sharedDivisor_3 : decode cX4_sharedDivisor 3 = .ok (.lload_n 2, 1) := by decide +kernel
theorem dX4_sharedDivisor_4 : decode cX4_sharedDivisor 4 = .ok (.lstore 6, 2) := by decide +kernel
theorem dX4_sharedDivisor_6 : decode cX4_sharedDivisor 6 = .ok (.iconst 0, 1) := by decide +kernel
theorem dX4_sharedDivisor_7 : decode cX4_sharedDivisor 7 = .ok (.istore 8, 2) := by decide +kernel
theorem dX4_sharedDivisor_9 : decode cX4_sharedDivisor 9 = .ok (.iload 8, 2) := by decide +kernel
theorem dX4_sharedDivisor_11 : decode cX4_sharedDivisor 11 = .ok (.sipush 200, 3) := by decide +kernel
theorem dX4_sharedDivisor_14 : decode cX4_sharedDivisor 14 = .ok (.if_icmp .ge 31, 3) := by decide +kernel
theorem dX4_sharedDivisor_17 : decode cX4_sharedDivisor 17 = .ok (.lload 6, 2) := by decide +kernel
theorem dX4_sharedDivisor_19 : decode cX4_sharedDivisor 19 = .ok (.lconst 0, 1) := by decide +kernel
theorem dX4_sharedDivisor_20 : decode cX4_sharedDivisor 20 = .ok (.lcmp, 1) := by decide +kernel
theorem dX4_sharedDivisor_21 : decode cX4_sharedDivisor 21 = .ok (.ifCond .eq 24, 3) := by decide +kernel
theorem dX4_sharedDivisor_24 : decode cX4_sharedDivisor 24 = .ok (.lload 4, 2) := by decide +kernel
theorem dX4_sharedDivisor_26 : decode cX4_sharedDivisor 26 = .ok (.lload 6, 2) := by decide +kernel
theorem dX4_sharedDivisor_28 : decode cX4_sharedDivisor 28 = .ok (.lrem, 1) := by decide +kernel
theorem dX4_sharedDivisor_29 : decode cX4_sharedDivisor 29 = .ok (.lstore 9, 2) := by decide +kernel
theorem dX4_sharedDivisor_31 : decode cX4_sharedDivisor 31 = .ok (.lload 6, 2) := by decide +kernel
theorem dX4_sharedDivisor_33 : decode cX4_sharedDivisor 33 = .ok (.lstore 4, 2) := by decide +kernel
theorem dX4_sharedDivisor_35 : decode cX4_sharedDivisor 35 = .ok (.lload 9, 2) := by decide +kernel
theorem dX4_sharedDivisor_37 : decode cX4_sharedDivisor 37 = .ok (.lstore 6, 2) := by decide +kernel
theorem dX4_sharedDivisor_39 : decode cX4_sharedDivisor 39 = .ok (.iinc 8 1, 3) := by decide +kernel
theorem dX4_sharedDivisor_42 : decode cX4_sharedDivisor 42 = .ok (.goto (-33), 3) := by decide +kernel
theorem dX4_sharedDivisor_45 : decode cX4_sharedDivisor 45 = .ok (.lload 4, 2) := by decide +kernel
theorem dX4_sharedDivisor_47 : decode cX4_sharedDivisor 47 = .ok (.lreturn, 1) := by decide +kernel
theorem dX4_without_0 : decode cX4_without 0 = .ok (.aload_n 0, 1) := by decide +kernel
theorem dX4_without_1 : decode cX4_without 1 = .ok (.getfield 19, 3) := by decide +kernel
theorem dX4_without_4 : decode cX4_without 4 = .ok (.iload_n 1, 1) := by decide +kernel
theorem dX4_without_5 : decode cX4_without 5 = .ok (.invokevirtual 96, 3) := by decide +kernel
theorem dX4_without_8 : decode cX4_without 8 = .ok (.ifCond .ne 6, 3) := by decide +kernel
theorem dX4_without_11 : decode cX4_without 11 = .ok (.bipush (-2), 2) := by decide +kernel
theorem dX4_without_13 : decode cX4_without 13 = .ok (.ireturn, 1) := by decide +kernel
theorem dX4_without_14 : decode cX4_without 14 = .ok (.aload_n 0, 1) := by decide +kernel
theorem dX4_without_15 : decode cX4_without 15 = .ok (.getfield 35, 3) := by decide +kernel
theorem dX4_without_18 : decode cX4_without 18 = .ok (.iload_n 1, 1) := by decide +kernel
theorem dX4_without_19 : decode cX4_without 19 = .ok (.invokevirtual 146, 3) := by decide +kernel
theorem dX4_without_22 : decode cX4_without 22 = .ok (.istore_n 2, 1) := by decide +kernel
theorem dX4_without_23 : decode cX4_without 23 = .ok (.iload_n 2, 1) := by decide +kernel
theorem dX4_without_24 : decode cX4_without 24 = .ok (.iconst (-1), 1) := by decide +kernel
theorem dX4_without_25 : decode cX4_without 25 = .ok (.if_icmp .ne 6, 3) := by decide +kernel
theorem dX4_without_28 : decode cX4_without 28 = .ok (.bipush (-4), 2) := by decide +kernel
theorem dX4_without_30 : decode cX4_without 30 = .ok (.ireturn, 1) := by decide +kernel
theorem dX4_without_31 : decode cX4_without 31 = .ok (.iconst 0, 1) := by decide +kernel
theorem dX4_without_32 : decode cX4_without 32 = .ok (.istore_n 3, 1) := by decide +kernel
theorem dX4_without_33 : decode cX4_without 33 = .ok (.iconst 0, 1) := by decide +kernel
theorem dX4_without_34 : decode cX4_without 34 = .ok (.istore 4, 2) := by decide +kernel
theorem dX4_without_36 : decode cX4_without 36 = .ok (.iload 4, 2) := by decide +kernel
theorem dX4_without_38 : decode cX4_without 38 = .ok (.aload_n 0, 1) := by decide +kernel
theorem dX4_without_39 : decode cX4_without 39 = .ok (.getfield 35, 3) := by decide +kernel
theorem dX4_without_42 : decode cX4_without 42 = .ok (.getfield 140, 3) := by decide +kernel
theorem dX4_without_45 : decode cX4_without 45 = .ok (.if_icmp .ge 34, 3) := by decide +kernel
theorem dX4_without_48 : decode cX4_without 48 = .ok (.iload 4, 2) := by decide +kernel
theorem dX4_without_50 : decode cX4_without 50 = .ok (.iload_n 2, 1) := by decide +kernel
theorem dX4_without_51 : decode cX4_without 51 = .ok (.if_icmp .eq 22, 3) := by decide +kernel
theorem dX4_without_54 : decode cX4_without 54 = .ok (.aload_n 0, 1) := by decide +kernel
theorem dX4_without_55 : decode cX4_without 55 = .ok (.getfield 60, 3) := by decide +kernel
theorem dX4_without_58 : decode cX4_without 58 = .ok (.iload_n 3, 1) := by decide +kernel
theorem dX4_without_59 : decode cX4_without 59 = .ok (.aload_n 0, 1) := by decide +kernel
theorem dX4_without_60 : decode cX4_without 60 = .ok (.getfield 35, 3) := by decide +kernel
theorem dX4_without_63 : decode cX4_without 63 = .ok (.getfield 143, 3) := by decide +kernel
theorem dX4_without_66 : decode cX4_without 66 = .ok (.iload 4, 2) := by decide +kernel
theorem dX4_without_68 : decode cX4_without 68 = .ok (.iaload, 1) := by decide +kernel
theorem dX4_without_69 : decode cX4_without 69 = .ok (.iastore, 1) := by decide +kernel
theorem dX4_without_70 : decode cX4_without 70 = .ok (.iinc 3 1, 3) := by decide +kernel
theorem dX4_without_73 : decode cX4_without 73 = .ok (.iinc 4 1, 3) := by decide +kernel
theorem dX4_without_76 : decode cX4_without 76 = .ok (.goto (-40), 3) := by decide +kernel
theorem dX4_without_79 : decode cX4_without 79 = .ok (.aload_n 0, 1) := by decide +kernel
theorem dX4_without_80 : decode cX4_without 80 = .ok (.iload_n 3, 1) := by decide +kernel
theorem dX4_without_81 : decode cX4_without 81 = .ok (.invokevirtual 203, 3) := by decide +kernel
theorem dX4_without_84 : decode cX4_without 84 = .ok (.ireturn, 1) := by decide +kernel
theorem dX4_in_0 : decode cX4_in 0 = .ok (.aload_n 0, 1) := by decide +kernel
theorem dX4_in_1 : decode cX4_in 1 = .ok (.getfield 19, 3) := by decide +kernel
theorem dX4_in_4 : decode cX4_in 4 = .ok (.iload_n 1, 1) := by decide +kernel
theorem dX4_in_5 : decode cX4_in 5 = .ok (.invokevirtual 96, 3) := by decide +kernel
theorem dX4_in_8 : decode cX4_in 8 = .ok (.ifCond .ne 6, 3) := by decide +kernel
theorem dX4_in_11 : decode cX4_in 11 = .ok (.bipush (-2), 2) := by decide +kernel
theorem dX4_in_13 : decode cX4_in 13 = .ok (.ireturn, 1) := by decide +kernel
theorem dX4_in_14 : decode cX4_in 14 = .ok (.iload_n 2, 1) := by decide +kernel
theorem dX4_in_15 : decode cX4_in 15 = .ok (.ifCond .lt 14, 3) := by decide +kernel
theorem dX4_in_18 : decode cX4_in 18 = .ok (.iload_n 2, 1) := by decide +kernel
theorem dX4_in_19 : decode cX4_in 19 = .ok (.aload_n 0, 1) := by decide +kernel
theorem dX4_in_20 : decode cX4_in 20 = .ok (.getfield 35, 3) := by decide +kernel
theorem dX4_in_23 : decode cX4_in 23 = .ok (.getfield 140, 3) := by decide +kernel
theorem dX4_in_26 : decode cX4_in 26 = .ok (.if_icmp .le 6, 3) := by decide +kernel
theorem dX4_in_29 : decode cX4_in 29 = .ok (.bipush (-3), 2) := by decide +kernel
theorem dX4_in_31 : decode cX4_in 31 = .ok (.ireturn, 1) := by decide +kernel
theorem dX4_in_32 : decode cX4_in 32 = .ok (.aload_n 0, 1) := by decide +kernel
theorem dX4_in_33 : decode cX4_in 33 = .ok (.getfield 35, 3) := by decide +kernel
theorem dX4_in_36 : decode cX4_in 36 = .ok (.iload_n 1, 1) := by decide +kernel
theorem dX4_in_37 : decode cX4_in 37 = .ok (.invokevirtual 146, 3) := by decide +kernel
theorem dX4_in_40 : decode cX4_in 40 = .ok (.iconst (-1), 1) := by decide +kernel
theorem dX4_in_41 : decode cX4_in 41 = .ok (.if_icmp .ne 15, 3) := by decide +kernel
theorem dX4_in_44 : decode cX4_in 44 = .ok (.aload_n 0, 1) := by decide +kernel
theorem dX4_in_45 : decode cX4_in 45 = .ok (.getfield 35, 3) := by decide +kernel
theorem dX4_in_48 : decode cX4_in 48 = .ok (.getfield 140, 3) := by decide +kernel
theorem dX4_in_51 : decode cX4_in 51 = .ok (.bipush 8, 2) := by decide +kernel
theorem dX4_in_53 : decode cX4_in 53 = .ok (.if_icmp .lt 6, 3) := by decide +kernel
theorem dX4_in_56 : decode cX4_in 56 = .ok (.bipush (-4), 2) := by decide +kernel
theorem dX4_in_58 : decode cX4_in 58 = .ok (.ireturn, 1) := by decide +kernel
theorem dX4_in_59 : decode cX4_in 59 = .ok (.iconst 0, 1) := by decide +kernel
theorem dX4_in_60 : decode cX4_in 60 = .ok (.istore_n 3, 1) := by decide +kernel
theorem dX4_in_61 : decode cX4_in 61 = .ok (.iload_n 3, 1) := by decide +kernel
theorem dX4_in_62 : decode cX4_in 62 = .ok (.aload_n 0, 1) := by decide +kernel
theorem dX4_in_63 : decode cX4_in 63 = .ok (.getfield 35, 3) := by decide +kernel
theorem dX4_in_66 : decode cX4_in 66 = .ok (.getfield 140, 3) := by decide +kernel
theorem dX4_in_69 : decode cX4_in 69 = .ok (.if_icmp .ge 35, 3) := by decide +kernel
theorem dX4_in_72 : decode cX4_in 72 = .ok (.aload_n 0, 1) := by decide +kernel
theorem dX4_in_73 : decode cX4_in 73 = .ok (.getfield 60, 3) := by decide +kernel
theorem dX4_in_76 : decode cX4_in 76 = .ok (.iload_n 3, 1) := by decide +kernel
theorem dX4_in_77 : decode cX4_in 77 = .ok (.iload_n 2, 1) := by decide +kernel
theorem dX4_in_78 : decode cX4_in 78 = .ok (.if_icmp .ge 7, 3) := by decide +kernel
theorem dX4_in_81 : decode cX4_in 81 = .ok (.iload_n 3, 1) := by decide +kernel
theorem dX4_in_82 : decode cX4_in 82 = .ok (.goto 6, 3) := by decide +kernel
theorem dX4_in_85 : decode cX4_in 85 = .ok (.iload_n 3, 1) := by decide +kernel
theorem dX4_in_86 : decode cX4_in 86 = .ok (.iconst 1, 1) := by decide +kernel
theorem dX4_in_87 : decode cX4_in 87 = .ok (.iadd, 1) := by decide +kernel
theorem dX4_in_88 : decode cX4_in 88 = .ok (.aload_n 0, 1) := by decide +kernel
theorem dX4_in_89 : decode cX4_in 89 = .ok (.getfield 35, 3) := by decide +kernel
theorem dX4_in_92 : decode cX4_in 92 = .ok (.getfield 143, 3) := by decide +kernel
theorem dX4_in_95 : decode cX4_in 95 = .ok (.iload_n 3, 1) := by decide +kernel
theorem dX4_in_96 : decode cX4_in 96 = .ok (.iaload, 1) := by decide +kernel
theorem dX4_in_97 : decode cX4_in 97 = .ok (.iastore, 1) := by decide +kernel
theorem dX4_in_98 : decode cX4_in 98 = .ok (.iinc 3 1, 3) := by decide +kernel
theorem dX4_in_101 : decode cX4_in 101 = .ok (.goto (-40), 3) := by decide +kernel
theorem dX4_in_104 : decode cX4_in 104 = .ok (.aload_n 0, 1) := by decide +kernel
theorem dX4_in_105 : decode cX4_in 105 = .ok (.getfield 60, 3) := by decide +kernel
theorem dX4_in_108 : decode cX4_in 108 = .ok (.iload_n 2, 1) := by decide +kernel
theorem dX4_in_109 : decode cX4_in 109 = .ok (.iload_n 1, 1) := by decide +kernel
theorem dX4_in_110 : decode cX4_in 110 = .ok (.iastore, 1) := by decide +kernel
theorem dX4_in_111 : decode cX4_in 111 = .ok (.aload_n 0, 1) := by decide +kernel
theorem dX4_in_112 : decode cX4_in 112 = .ok (.aload_n 0, 1) := by decide +kernel
theorem dX4_in_113 : decode cX4_in 113 = .ok (.getfield 35, 3) := by decide +kernel
theorem dX4_in_116 : decode cX4_in 116 = .ok (.getfield 140, 3) := by decide +kernel
theorem dX4_in_119 : decode cX4_in 119 = .ok (.iconst 1, 1) := by decide +kernel
theorem dX4_in_120 : decode cX4_in 120 = .ok (.iadd, 1) := by decide +kernel
theorem dX4_in_121 : decode cX4_in 121 = .ok (.invokevirtual 203, 3) := by decide +kernel
theorem dX4_in_124 : decode cX4_in 124 = .ok (.iconst (-1), 1) := by decide +kernel
theorem dX4_in_125 : decode cX4_in 125 = .ok (.if_icmp .ne 7, 3) := by decide +kernel
theorem dX4_in_128 : decode cX4_in 128 = .ok (.iconst 1, 1) := by decide +kernel
theorem dX4_in_129 : decode cX4_in 129 = .ok (.goto 4, 3) := by decide +kernel
theorem dX4_in_132 : decode cX4_in 132 = .ok (.iconst 0, 1) := by decide +kernel
theorem dX4_in_133 : decode cX4_in 133 = .ok (.ireturn, 1) := by decide +kernel
theorem dX4_firstStuck_0 : decode cX4_firstStuck 0 = .ok (.iconst 0, 1) := by decide +kernel
theorem dX4_firstStuck_1 : decode cX4_firstStuck 1 = .ok (.istore_n 2, 1) := by decide +kernel
theorem dX4_firstStuck_2 : decode cX4_firstStuck 2 = .ok (.iconst 0, 1) := by decide +kernel
theorem dX4_firstStuck_3 : decode cX4_firstStuck 3 = .ok (.istore_n 3, 1) := by decide +kernel
theorem dX4_firstStuck_4 : decode cX4_firstStuck 4 = .ok (.iload_n 3, 1) := by decide +kernel
theorem dX4_firstStuck_5 : decode cX4_firstStuck 5 = .ok (.iload_n 1, 1) := by decide +kernel
theorem dX4_firstStuck_6 : decode cX4_firstStuck 6 = .ok (.if_icmp .ge 63, 3) := by decide +kernel
theorem dX4_firstStuck_9 : decode cX4_firstStuck 9 = .ok (.iload_n 3, 1) := by decide +kernel
theorem dX4_firstStuck_10 : decode cX4_firstStuck 10 = .ok (.aload_n 0, 1) := by decide +kernel
theorem dX4_firstStuck_11 : decode cX4_firstStuck 11 = .ok (.getfield 60, 3) := by decide +kernel
theorem dX4_firstStuck_14 : decode cX4_firstStuck 14 = .ok (.arraylength, 1) := by decide +kernel
theorem dX4_firstStuck_15 : decode cX4_firstStuck 15 = .ok (.if_icmp .ge 54, 3) := by decide +kernel
theorem dX4_firstStuck_18 : decode cX4_firstStuck 18 = .ok (.aload_n 0, 1) := by decide +kernel
theorem dX4_firstStuck_19 : decode cX4_firstStuck 19 = .ok (.getfield 19, 3) := by decide +kernel
theorem dX4_firstStuck_22 : decode cX4_firstStuck 22 = .ok (.aload_n 0, 1) := by decide +kernel
theorem dX4_firstStuck_23 : decode cX4_firstStuck 23 = .ok (.getfield 60, 3) := by decide +kernel
theorem dX4_firstStuck_26 : decode cX4_firstStuck 26 = .ok (.iload_n 3, 1) := by decide +kernel
theorem dX4_firstStuck_27 : decode cX4_firstStuck 27 = .ok (.iaload, 1) := by decide +kernel
theorem dX4_firstStuck_28 : decode cX4_firstStuck 28 = .ok (.iload_n 2, 1) := by decide +kernel
theorem dX4_firstStuck_29 : decode cX4_firstStuck 29 = .ok (.aload_n 0, 1) := by decide +kernel
theorem dX4_firstStuck_30 : decode cX4_firstStuck 30 = .ok (.getfield 19, 3) := by decide +kernel
theorem dX4_firstStuck_33 : decode cX4_firstStuck 33 = .ok (.iload_n 2, 1) := by decide +kernel
theorem dX4_firstStuck_34 : decode cX4_firstStuck 34 = .ok (.invokevirtual 119, 3) := by decide +kernel
theorem dX4_firstStuck_37 : decode cX4_firstStuck 37 = .ok (.aload_n 0, 1) := by decide +kernel
theorem dX4_firstStuck_38 : decode cX4_firstStuck 38 = .ok (.getfield 19, 3) := by decide +kernel
theorem dX4_firstStuck_41 : decode cX4_firstStuck 41 = .ok (.getfield 173, 3) := by decide +kernel
theorem dX4_firstStuck_44 : decode cX4_firstStuck 44 = .ok (.invokevirtual 176, 3) := by decide +kernel
theorem dX4_firstStuck_47 : decode cX4_firstStuck 47 = .ok (.ifCond .eq 5, 3) := by decide +kernel
theorem dX4_firstStuck_50 : decode cX4_firstStuck 50 = .ok (.iload_n 3, 1) := by decide +kernel
theorem dX4_firstStuck_51 : decode cX4_firstStuck 51 = .ok (.ireturn, 1) := by decide +kernel
theorem dX4_firstStuck_52 : decode cX4_firstStuck 52 = .ok (.iload_n 2, 1) := by decide +kernel
theorem dX4_firstStuck_53 : decode cX4_firstStuck 53 = .ok (.iconst 1, 1) := by decide +kernel
theorem dX4_firstStuck_54 : decode cX4_firstStuck 54 = .ok (.aload_n 0, 1) := by decide +kernel
theorem dX4_firstStuck_55 : decode cX4_firstStuck 55 = .ok (.getfield 60, 3) := by decide +kernel
theorem dX4_firstStuck_58 : decode cX4_firstStuck 58 = .ok (.iload_n 3, 1) := by decide +kernel
theorem dX4_firstStuck_59 : decode cX4_firstStuck 59 = .ok (.iaload, 1) := by decide +kernel
theorem dX4_firstStuck_60 : decode cX4_firstStuck 60 = .ok (.ishl, 1) := by decide +kernel
theorem dX4_firstStuck_61 : decode cX4_firstStuck 61 = .ok (.ior, 1) := by decide +kernel
theorem dX4_firstStuck_62 : decode cX4_firstStuck 62 = .ok (.istore_n 2, 1) := by decide +kernel
theorem dX4_firstStuck_63 : decode cX4_firstStuck 63 = .ok (.iinc 3 1, 3) := by decide +kernel
theorem dX4_firstStuck_66 : decode cX4_firstStuck 66 = .ok (.goto (-62), 3) := by decide +kernel
theorem dX4_firstStuck_69 : decode cX4_firstStuck 69 = .ok (.iconst (-1), 1) := by decide +kernel
theorem dX4_firstStuck_70 : decode cX4_firstStuck 70 = .ok (.ireturn, 1) := by decide +kernel
theorem dX4_row_0 : decode cX4_row 0 = .ok (.aload_n 0, 1) := by decide +kernel
theorem dX4_row_1 : decode cX4_row 1 = .ok (.getfield 19, 3) := by decide +kernel
theorem dX4_row_4 : decode cX4_row 4 = .ok (.iload_n 1, 1) := by decide +kernel
theorem dX4_row_5 : decode cX4_row 5 = .ok (.invokevirtual 96, 3) := by decide +kernel
theorem dX4_row_8 : decode cX4_row 8 = .ok (.ifCond .ne 6, 3) := by decide +kernel
theorem dX4_row_11 : decode cX4_row 11 = .ok (.bipush (-2), 2) := by decide +kernel
theorem dX4_row_13 : decode cX4_row 13 = .ok (.ireturn, 1) := by decide +kernel
theorem dX4_row_14 : decode cX4_row 14 = .ok (.aload_n 0, 1) := by decide +kernel
theorem dX4_row_15 : decode cX4_row 15 = .ok (.getfield 87, 3) := by decide +kernel
theorem dX4_row_18 : decode cX4_row 18 = .ok (.bipush 8, 2) := by decide +kernel
theorem dX4_row_20 : decode cX4_row 20 = .ok (.if_icmp .lt 6, 3) := by decide +kernel
theorem dX4_row_23 : decode cX4_row 23 = .ok (.bipush (-5), 2) := by decide +kernel
theorem dX4_row_25 : decode cX4_row 25 = .ok (.ireturn, 1) := by decide +kernel
theorem dX4_row_26 : decode cX4_row 26 = .ok (.aload_n 0, 1) := by decide +kernel
theorem dX4_row_27 : decode cX4_row 27 = .ok (.getfield 47, 3) := by decide +kernel
theorem dX4_row_30 : decode cX4_row 30 = .ok (.aload_n 0, 1) := by decide +kernel
theorem dX4_row_31 : decode cX4_row 31 = .ok (.getfield 87, 3) := by decide +kernel
theorem dX4_row_34 : decode cX4_row 34 = .ok (.iload_n 1, 1) := by decide +kernel
theorem dX4_row_35 : decode cX4_row 35 = .ok (.iastore, 1) := by decide +kernel
theorem dX4_row_36 : decode cX4_row 36 = .ok (.aload_n 0, 1) := by decide +kernel
theorem dX4_row_37 : decode cX4_row 37 = .ok (.dup, 1) := by decide +kernel
theorem dX4_row_38 : decode cX4_row 38 = .ok (.getfield 87, 3) := by decide +kernel
theorem dX4_row_41 : decode cX4_row 41 = .ok (.iconst 1, 1) := by decide +kernel
theorem dX4_row_42 : decode cX4_row 42 = .ok (.iadd, 1) := by decide +kernel
theorem dX4_row_43 : decode cX4_row 43 = .ok (.putfield 87, 3) := by decide +kernel
theorem dX4_row_46 : decode cX4_row 46 = .ok (.aload_n 0, 1) := by decide +kernel
theorem dX4_row_47 : decode cX4_row 47 = .ok (.getfield 87, 3) := by decide +kernel
theorem dX4_row_50 : decode cX4_row 50 = .ok (.ireturn, 1) := by decide +kernel
theorem dX4_burn_0 : decode cX4_burn 0 = .ok (.aload_n 0, 1) := by decide +kernel
theorem dX4_burn_1 : decode cX4_burn 1 = .ok (.getfield 87, 3) := by decide +kernel
theorem dX4_burn_4 : decode cX4_burn 4 = .ok (.istore_n 1, 1) := by decide +kernel
theorem dX4_burn_5 : decode cX4_burn 5 = .ok (.aload_n 0, 1) := by decide +kernel
theorem dX4_burn_6 : decode cX4_burn 6 = .ok (.iconst 0, 1) := by decide +kernel
theorem dX4_burn_7 : decode cX4_burn 7 = .ok (.putfield 87, 3) := by decide +kernel
theorem dX4_burn_10 : decode cX4_burn 10 = .ok (.iload_n 1, 1) := by decide +kernel
theorem dX4_burn_11 : decode cX4_burn 11 = .ok (.ireturn, 1) := by decide +kernel
theorem dX4_judge_0 : decode cX4_judge 0 = .ok (.iload_n 1, 1) := by decide +kernel
theorem dX4_judge_1 : decode cX4_judge 1 = .ok (.ifCond .lt 8, 3) := by decide +kernel
theorem dX4_judge_4 : decode cX4_judge 4 = .ok (.iload_n 1, 1) := by decide +kernel
theorem dX4_judge_5 : decode cX4_judge 5 = .ok (.iconst 1, 1) := by decide +kernel
theorem dX4_judge_6 : decode cX4_judge 6 = .ok (.if_icmp .le 6, 3) := by decide +kernel
theorem dX4_judge_9 : decode cX4_judge 9 = .ok (.bipush (-3), 2) := by decide +kernel
theorem dX4_judge_11 : decode cX4_judge 11 = .ok (.ireturn, 1) := by decide +kernel
theorem dX4_judge_12 : decode cX4_judge 12 = .ok (.iconst 0, 1) := by decide +kernel
theorem dX4_judge_13 : decode cX4_judge 13 = .ok (.istore_n 2, 1) := by decide +kernel
theorem dX4_judge_14 : decode cX4_judge 14 = .ok (.iconst 0, 1) := by decide +kernel
theorem dX4_judge_15 : decode cX4_judge 15 = .ok (.istore_n 3, 1) := by decide +kernel
theorem dX4_judge_16 : decode cX4_judge 16 = .ok (.iload_n 3, 1) := by decide +kernel
theorem dX4_judge_17 : decode cX4_judge 17 = .ok (.aload_n 0, 1) := by decide +kernel
theorem dX4_judge_18 : decode cX4_judge 18 = .ok (.getfield 87, 3) := by decide +kernel
theorem dX4_judge_21 : decode cX4_judge 21 = .ok (.if_icmp .ge 53, 3) := by decide +kernel
theorem dX4_judge_24 : decode cX4_judge 24 = .ok (.aload_n 0, 1) := by decide +kernel
theorem dX4_judge_25 : decode cX4_judge 25 = .ok (.getfield 19, 3) := by decide +kernel
theorem dX4_judge_28 : decode cX4_judge 28 = .ok (.iload_n 3, 1) := by decide +kernel
theorem dX4_judge_29 : decode cX4_judge 29 = .ok (.aload_n 0, 1) := by decide +kernel
theorem dX4_judge_30 : decode cX4_judge 30 = .ok (.getfield 47, 3) := by decide +kernel
theorem dX4_judge_33 : decode cX4_judge 33 = .ok (.iload_n 3, 1) := by decide +kernel
theorem dX4_judge_34 : decode cX4_judge 34 = .ok (.iaload, 1) := by decide +kernel
theorem dX4_judge_35 : decode cX4_judge 35 = .ok (.iload_n 2, 1) := by decide +kernel
theorem dX4_judge_36 : decode cX4_judge 36 = .ok (.invokevirtual 133, 3) := by decide +kernel
theorem dX4_judge_39 : decode cX4_judge 39 = .ok (.istore 4, 2) := by decide +kernel
theorem dX4_judge_41 : decode cX4_judge 41 = .ok (.iload 4, 2) := by decide +kernel
theorem dX4_judge_43 : decode cX4_judge 43 = .ok (.ifCond .eq 14, 3) := by decide +kernel
theorem dX4_judge_46 : decode cX4_judge 46 = .ok (.iload_n 1, 1) := by decide +kernel
theorem dX4_judge_47 : decode cX4_judge 47 = .ok (.ifCond .ne 7, 3) := by decide +kernel
theorem dX4_judge_50 : decode cX4_judge 50 = .ok (.iload_n 3, 1) := by decide +kernel
theorem dX4_judge_51 : decode cX4_judge 51 = .ok (.goto 5, 3) := by decide +kernel
theorem dX4_judge_54 : decode cX4_judge 54 = .ok (.iload 4, 2) := by decide +kernel
theorem dX4_judge_56 : decode cX4_judge 56 = .ok (.ireturn, 1) := by decide +kernel
theorem dX4_judge_57 : decode cX4_judge 57 = .ok (.iload_n 2, 1) := by decide +kernel
theorem dX4_judge_58 : decode cX4_judge 58 = .ok (.iconst 1, 1) := by decide +kernel
theorem dX4_judge_59 : decode cX4_judge 59 = .ok (.aload_n 0, 1) := by decide +kernel
theorem dX4_judge_60 : decode cX4_judge 60 = .ok (.getfield 47, 3) := by decide +kernel
theorem dX4_judge_63 : decode cX4_judge 63 = .ok (.iload_n 3, 1) := by decide +kernel
theorem dX4_judge_64 : decode cX4_judge 64 = .ok (.iaload, 1) := by decide +kernel
theorem dX4_judge_65 : decode cX4_judge 65 = .ok (.ishl, 1) := by decide +kernel
theorem dX4_judge_66 : decode cX4_judge 66 = .ok (.ior, 1) := by decide +kernel
theorem dX4_judge_67 : decode cX4_judge 67 = .ok (.istore_n 2, 1) := by decide +kernel
theorem dX4_judge_68 : decode cX4_judge 68 = .ok (.iinc 3 1, 3) := by decide +kernel
theorem dX4_judge_71 : decode cX4_judge 71 = .ok (.goto (-55), 3) := by decide +kernel
theorem dX4_judge_74 : decode cX4_judge 74 = .ok (.iload_n 1, 1) := by decide +kernel
theorem dX4_judge_75 : decode cX4_judge 75 = .ok (.ifCond .ne 7, 3) := by decide +kernel
theorem dX4_judge_78 : decode cX4_judge 78 = .ok (.iconst (-1), 1) := by decide +kernel
theorem dX4_judge_79 : decode cX4_judge 79 = .ok (.goto 4, 3) := by decide +kernel
theorem dX4_judge_82 : decode cX4_judge 82 = .ok (.iconst 0, 1) := by decide +kernel
theorem dX4_judge_83 : decode cX4_judge 83 = .ok (.ireturn, 1) := by decide +kernel
theorem dX4_seen_0 : decode cX4_seen 0 = .ok (.iload_n 1, 1) := by decide +kernel
theorem dX4_seen_1 : decode cX4_seen 1 = .ok (.ifCond .lt 25, 3) := by decide +kernel
theorem dX4_seen_4 : decode cX4_seen 4 = .ok (.iload_n 1, 1) := by decide +kernel
theorem dX4_seen_5 : decode cX4_seen 5 = .ok (.aload_n 0, 1) := by decide +kernel
theorem dX4_seen_6 : decode cX4_seen 6 = .ok (.getfield 35, 3) := by decide +kernel
theorem dX4_seen_9 : decode cX4_seen 9 = .ok (.getfield 140, 3) := by decide +kernel
theorem dX4_seen_12 : decode cX4_seen 12 = .ok (.if_icmp .ge 14, 3) := by decide +kernel
theorem dX4_seen_15 : decode cX4_seen 15 = .ok (.iload_n 2, 1) := by decide +kernel
theorem dX4_seen_16 : decode cX4_seen 16 = .ok (.ifCond .lt 10, 3) := by decide +kernel
theorem dX4_seen_19 : decode cX4_seen 19 = .ok (.iload_n 2, 1) := by decide +kernel
theorem dX4_seen_20 : decode cX4_seen 20 = .ok (.sipush 999, 3) := by decide +kernel
theorem dX4_seen_23 : decode cX4_seen 23 = .ok (.if_icmp .le 6, 3) := by decide +kernel
theorem dX4_seen_26 : decode cX4_seen 26 = .ok (.bipush (-3), 2) := by decide +kernel
theorem dX4_seen_28 : decode cX4_seen 28 = .ok (.ireturn, 1) := by decide +kernel
theorem dX4_seen_29 : decode cX4_seen 29 = .ok (.aload_n 0, 1) := by decide +kernel
theorem dX4_seen_30 : decode cX4_seen 30 = .ok (.getfield 90, 3) := by decide +kernel
theorem dX4_seen_33 : decode cX4_seen 33 = .ok (.bipush 8, 2) := by decide +kernel
theorem dX4_seen_35 : decode cX4_seen 35 = .ok (.if_icmp .lt 6, 3) := by decide +kernel
theorem dX4_seen_38 : decode cX4_seen 38 = .ok (.bipush (-5), 2) := by decide +kernel
theorem dX4_seen_40 : decode cX4_seen 40 = .ok (.ireturn, 1) := by decide +kernel
theorem dX4_seen_41 : decode cX4_seen 41 = .ok (.aload_n 0, 1) := by decide +kernel
theorem dX4_seen_42 : decode cX4_seen 42 = .ok (.getfield 51, 3) := by decide +kernel
theorem dX4_seen_45 : decode cX4_seen 45 = .ok (.aload_n 0, 1) := by decide +kernel
theorem dX4_seen_46 : decode cX4_seen 46 = .ok (.getfield 90, 3) := by decide +kernel
theorem dX4_seen_49 : decode cX4_seen 49 = .ok (.iload_n 1, 1) := by decide +kernel
theorem dX4_seen_50 : decode cX4_seen 50 = .ok (.iastore, 1) := by decide +kernel
theorem dX4_seen_51 : decode cX4_seen 51 = .ok (.aload_n 0, 1) := by decide +kernel
theorem dX4_seen_52 : decode cX4_seen 52 = .ok (.getfield 54, 3) := by decide +kernel
theorem dX4_seen_55 : decode cX4_seen 55 = .ok (.aload_n 0, 1) := by decide +kernel
theorem dX4_seen_56 : decode cX4_seen 56 = .ok (.getfield 90, 3) := by decide +kernel
theorem dX4_seen_59 : decode cX4_seen 59 = .ok (.iload_n 2, 1) := by decide +kernel
theorem dX4_seen_60 : decode cX4_seen 60 = .ok (.iastore, 1) := by decide +kernel
theorem dX4_seen_61 : decode cX4_seen 61 = .ok (.aload_n 0, 1) := by decide +kernel
theorem dX4_seen_62 : decode cX4_seen 62 = .ok (.dup, 1) := by decide +kernel
theorem dX4_seen_63 : decode cX4_seen 63 = .ok (.getfield 90, 3) := by decide +kernel
theorem dX4_seen_66 : decode cX4_seen 66 = .ok (.iconst 1, 1) := by decide +kernel
theorem dX4_seen_67 : decode cX4_seen 67 = .ok (.iadd, 1) := by decide +kernel
theorem dX4_seen_68 : decode cX4_seen 68 = .ok (.putfield 90, 3) := by decide +kernel
theorem dX4_seen_71 : decode cX4_seen 71 = .ok (.aload_n 0, 1) := by decide +kernel
theorem dX4_seen_72 : decode cX4_seen 72 = .ok (.getfield 90, 3) := by decide +kernel
theorem dX4_seen_75 : decode cX4_seen 75 = .ok (.ireturn, 1) := by decide +kernel
theorem dX4_forget_0 : decode cX4_forget 0 = .ok (.aload_n 0, 1) := by decide +kernel
theorem dX4_forget_1 : decode cX4_forget 1 = .ok (.getfield 90, 3) := by decide +kernel
theorem dX4_forget_4 : decode cX4_forget 4 = .ok (.istore_n 1, 1) := by decide +kernel
theorem dX4_forget_5 : decode cX4_forget 5 = .ok (.aload_n 0, 1) := by decide +kernel
theorem dX4_forget_6 : decode cX4_forget 6 = .ok (.iconst 0, 1) := by decide +kernel
theorem dX4_forget_7 : decode cX4_forget 7 = .ok (.putfield 90, 3) := by decide +kernel
theorem dX4_forget_10 : decode cX4_forget 10 = .ok (.iload_n 1, 1) := by decide +kernel
theorem dX4_forget_11 : decode cX4_forget 11 = .ok (.ireturn, 1) := by decide +kernel
theorem dX4_fits_0 : decode cX4_fits 0 = .ok (.aload_n 0, 1) := by decide +kernel
theorem dX4_fits_1 : decode cX4_fits 1 = .ok (.getfield 19, 3) := by decide +kernel
theorem dX4_fits_4 : decode cX4_fits 4 = .ok (.iload_n 1, 1) := by decide +kernel
theorem dX4_fits_5 : decode cX4_fits 5 = .ok (.invokevirtual 96, 3) := by decide +kernel
theorem dX4_fits_8 : decode cX4_fits 8 = .ok (.ifCond .ne 6, 3) := by decide +kernel
theorem dX4_fits_11 : decode cX4_fits 11 = .ok (.bipush (-2), 2) := by decide +kernel
theorem dX4_fits_13 : decode cX4_fits 13 = .ok (.ireturn, 1) := by decide +kernel
theorem dX4_fits_14 : decode cX4_fits 14 = .ok (.iload_n 2, 1) := by decide +kernel
theorem dX4_fits_15 : decode cX4_fits 15 = .ok (.ifCond .lt 8, 3) := by decide +kernel
theorem dX4_fits_18 : decode cX4_fits 18 = .ok (.iload_n 2, 1) := by decide +kernel
theorem dX4_fits_19 : decode cX4_fits 19 = .ok (.iconst 2, 1) := by decide +kernel
theorem dX4_fits_20 : decode cX4_fits 20 = .ok (.if_icmp .le 6, 3) := by decide +kernel
theorem dX4_fits_23 : decode cX4_fits 23 = .ok (.bipush (-3), 2) := by decide +kernel
theorem dX4_fits_25 : decode cX4_fits 25 = .ok (.ireturn, 1) := by decide +kernel
theorem dX4_fits_26 : decode cX4_fits 26 = .ok (.iconst 1, 1) := by decide +kernel
theorem dX4_fits_27 : decode cX4_fits 27 = .ok (.istore_n 3, 1) := by decide +kernel
theorem dX4_fits_28 : decode cX4_fits 28 = .ok (.bipush 99, 2) := by decide +kernel
theorem dX4_fits_30 : decode cX4_fits 30 = .ok (.istore 4, 2) := by decide +kernel
theorem dX4_fits_32 : decode cX4_fits 32 = .ok (.iconst 0, 1) := by decide +kernel
theorem dX4_fits_33 : decode cX4_fits 33 = .ok (.istore 5, 2) := by decide +kernel
theorem dX4_fits_35 : decode cX4_fits 35 = .ok (.iload 5, 2) := by decide +kernel
theorem dX4_fits_37 : decode cX4_fits 37 = .ok (.aload_n 0, 1) := by decide +kernel
theorem dX4_fits_38 : decode cX4_fits 38 = .ok (.getfield 90, 3) := by decide +kernel
theorem dX4_fits_41 : decode cX4_fits 41 = .ok (.if_icmp .ge 128, 3) := by decide +kernel
theorem dX4_fits_44 : decode cX4_fits 44 = .ok (.aload_n 0, 1) := by decide +kernel
theorem dX4_fits_45 : decode cX4_fits 45 = .ok (.getfield 35, 3) := by decide +kernel
theorem dX4_fits_48 : decode cX4_fits 48 = .ok (.aload_n 0, 1) := by decide +kernel
theorem dX4_fits_49 : decode cX4_fits 49 = .ok (.getfield 51, 3) := by decide +kernel
theorem dX4_fits_52 : decode cX4_fits 52 = .ok (.iload 5, 2) := by decide +kernel
theorem dX4_fits_54 : decode cX4_fits 54 = .ok (.iaload, 1) := by decide +kernel
theorem dX4_fits_55 : decode cX4_fits 55 = .ok (.invokevirtual 149, 3) := by decide +kernel
theorem dX4_fits_58 : decode cX4_fits 58 = .ok (.istore 6, 2) := by decide +kernel
theorem dX4_fits_60 : decode cX4_fits 60 = .ok (.aload_n 0, 1) := by decide +kernel
theorem dX4_fits_61 : decode cX4_fits 61 = .ok (.getfield 54, 3) := by decide +kernel
theorem dX4_fits_64 : decode cX4_fits 64 = .ok (.iload 5, 2) := by decide +kernel
theorem dX4_fits_66 : decode cX4_fits 66 = .ok (.iaload, 1) := by decide +kernel
theorem dX4_fits_67 : decode cX4_fits 67 = .ok (.aload_n 0, 1) := by decide +kernel
theorem dX4_fits_68 : decode cX4_fits 68 = .ok (.getfield 19, 3) := by decide +kernel
theorem dX4_fits_71 : decode cX4_fits 71 = .ok (.getfield 206, 3) := by decide +kernel
theorem dX4_fits_74 : decode cX4_fits 74 = .ok (.imul, 1) := by decide +kernel
theorem dX4_fits_75 : decode cX4_fits 75 = .ok (.aload_n 0, 1) := by decide +kernel
theorem dX4_fits_76 : decode cX4_fits 76 = .ok (.getfield 19, 3) := by decide +kernel
theorem dX4_fits_79 : decode cX4_fits 79 = .ok (.iload 6, 2) := by decide +kernel
theorem dX4_fits_81 : decode cX4_fits 81 = .ok (.invokevirtual 119, 3) := by decide +kernel
theorem dX4_fits_84 : decode cX4_fits 84 = .ok (.isub, 1) := by decide +kernel
theorem dX4_fits_85 : decode cX4_fits 85 = .ok (.istore 7, 2) := by decide +kernel
theorem dX4_fits_87 : decode cX4_fits 87 = .ok (.iload 7, 2) := by decide +kernel
theorem dX4_fits_89 : decode cX4_fits 89 = .ok (.aload_n 0, 1) := by decide +kernel
theorem dX4_fits_90 : decode cX4_fits 90 = .ok (.getfield 19, 3) := by decide +kernel
theorem dX4_fits_93 : decode cX4_fits 93 = .ok (.getfield 206, 3) := by decide +kernel
theorem dX4_fits_96 : decode cX4_fits 96 = .ok (.iadd, 1) := by decide +kernel
theorem dX4_fits_97 : decode cX4_fits 97 = .ok (.iconst 1, 1) := by decide +kernel
theorem dX4_fits_98 : decode cX4_fits 98 = .ok (.isub, 1) := by decide +kernel
theorem dX4_fits_99 : decode cX4_fits 99 = .ok (.istore 8, 2) := by decide +kernel
theorem dX4_fits_101 : decode cX4_fits 101 = .ok (.iload 6, 2) := by decide +kernel
theorem dX4_fits_103 : decode cX4_fits 103 = .ok (.iload_n 1, 1) := by decide +kernel
theorem dX4_fits_104 : decode cX4_fits 104 = .ok (.ishr, 1) := by decide +kernel
theorem dX4_fits_105 : decode cX4_fits 105 = .ok (.iconst 1, 1) := by decide +kernel
theorem dX4_fits_106 : decode cX4_fits 106 = .ok (.iand, 1) := by decide +kernel
theorem dX4_fits_107 : decode cX4_fits 107 = .ok (.iconst 1, 1) := by decide +kernel
theorem dX4_fits_108 : decode cX4_fits 108 = .ok (.if_icmp .ne 42, 3) := by decide +kernel
theorem dX4_fits_111 : decode cX4_fits 111 = .ok (.iload_n 3, 1) := by decide +kernel
theorem dX4_fits_112 : decode cX4_fits 112 = .ok (.aload_n 0, 1) := by decide +kernel
theorem dX4_fits_113 : decode cX4_fits 113 = .ok (.getfield 19, 3) := by decide +kernel
theorem dX4_fits_116 : decode cX4_fits 116 = .ok (.getfield 103, 3) := by decide +kernel
theorem dX4_fits_119 : decode cX4_fits 119 = .ok (.iload_n 1, 1) := by decide +kernel
theorem dX4_fits_120 : decode cX4_fits 120 = .ok (.iaload, 1) := by decide +kernel
theorem dX4_fits_121 : decode cX4_fits 121 = .ok (.iload 7, 2) := by decide +kernel
theorem dX4_fits_123 : decode cX4_fits 123 = .ok (.iadd, 1) := by decide +kernel
theorem dX4_fits_124 : decode cX4_fits 124 = .ok (.invokestatic 209, 3) := by decide +kernel
theorem dX4_fits_127 : decode cX4_fits 127 = .ok (.istore_n 3, 1) := by decide +kernel
theorem dX4_fits_128 : decode cX4_fits 128 = .ok (.iload 4, 2) := by decide +kernel
theorem dX4_fits_130 : decode cX4_fits 130 = .ok (.aload_n 0, 1) := by decide +kernel
theorem dX4_fits_131 : decode cX4_fits 131 = .ok (.getfield 19, 3) := by decide +kernel
theorem dX4_fits_134 : decode cX4_fits 134 = .ok (.getfield 103, 3) := by decide +kernel
theorem dX4_fits_137 : decode cX4_fits 137 = .ok (.iload_n 1, 1) := by decide +kernel
theorem dX4_fits_138 : decode cX4_fits 138 = .ok (.iaload, 1) := by decide +kernel
theorem dX4_fits_139 : decode cX4_fits 139 = .ok (.iload 8, 2) := by decide +kernel
theorem dX4_fits_141 : decode cX4_fits 141 = .ok (.iadd, 1) := by decide +kernel
theorem dX4_fits_142 : decode cX4_fits 142 = .ok (.invokestatic 215, 3) := by decide +kernel
theorem dX4_fits_145 : decode cX4_fits 145 = .ok (.istore 4, 2) := by decide +kernel
theorem dX4_fits_147 : decode cX4_fits 147 = .ok (.goto 16, 3) := by decide +kernel
theorem dX4_fits_150 : decode cX4_fits 150 = .ok (.iload 7, 2) := by decide +kernel
theorem dX4_fits_152 : decode cX4_fits 152 = .ok (.ifCond .gt 8, 3) := by decide +kernel
theorem dX4_fits_155 : decode cX4_fits 155 = .ok (.iload 8, 2) := by decide +kernel
theorem dX4_fits_157 : decode cX4_fits 157 = .ok (.ifCond .ge 6, 3) := by decide +kernel
theorem dX4_fits_160 : decode cX4_fits 160 = .ok (.iconst 0, 1) := by decide +kernel
theorem dX4_fits_161 : decode cX4_fits 161 = .ok (.istore 4, 2) := by decide +kernel
theorem dX4_fits_163 : decode cX4_fits 163 = .ok (.iinc 5 1, 3) := by decide +kernel
theorem dX4_fits_166 : decode cX4_fits 166 = .ok (.goto (-131), 3) := by decide +kernel
theorem dX4_fits_169 : decode cX4_fits 169 = .ok (.iconst 0, 1) := by decide +kernel
theorem dX4_fits_170 : decode cX4_fits 170 = .ok (.iload 4, 2) := by decide +kernel
theorem dX4_fits_172 : decode cX4_fits 172 = .ok (.iload_n 3, 1) := by decide +kernel
theorem dX4_fits_173 : decode cX4_fits 173 = .ok (.isub, 1) := by decide +kernel
theorem dX4_fits_174 : decode cX4_fits 174 = .ok (.iconst 1, 1) := by decide +kernel
theorem dX4_fits_175 : decode cX4_fits 175 = .ok (.iadd, 1) := by decide +kernel
theorem dX4_fits_176 : decode cX4_fits 176 = .ok (.invokestatic 209, 3) := by decide +kernel
theorem dX4_fits_179 : decode cX4_fits 179 = .ok (.istore 5, 2) := by decide +kernel
theorem dX4_fits_181 : decode cX4_fits 181 = .ok (.iload_n 2, 1) := by decide +kernel
theorem dX4_fits_182 : decode cX4_fits 182 = .ok (.ifCond .ne 6, 3) := by decide +kernel
theorem dX4_fits_185 : decode cX4_fits 185 = .ok (.iload 5, 2) := by decide +kernel
theorem dX4_fits_187 : decode cX4_fits 187 = .ok (.ireturn, 1) := by decide +kernel
theorem dX4_fits_188 : decode cX4_fits 188 = .ok (.iload 5, 2) := by decide +kernel
theorem dX4_fits_190 : decode cX4_fits 190 = .ok (.ifCond .ne 5, 3) := by decide +kernel
theorem dX4_fits_193 : decode cX4_fits 193 = .ok (.iconst (-1), 1) := by decide +kernel
theorem dX4_fits_194 : decode cX4_fits 194 = .ok (.ireturn, 1) := by decide +kernel
theorem dX4_fits_195 : decode cX4_fits 195 = .ok (.iload_n 2, 1) := by decide +kernel
theorem dX4_fits_196 : decode cX4_fits 196 = .ok (.iconst 1, 1) := by decide +kernel
theorem dX4_fits_197 : decode cX4_fits 197 = .ok (.if_icmp .ne 7, 3) := by decide +kernel
theorem dX4_fits_200 : decode cX4_fits 200 = .ok (.iload_n 3, 1) := by decide +kernel
theorem dX4_fits_201 : decode cX4_fits 201 = .ok (.goto 5, 3) := by decide +kernel
theorem dX4_fits_204 : decode cX4_fits 204 = .ok (.iload 4, 2) := by decide +kernel
theorem dX4_fits_206 : decode cX4_fits 206 = .ok (.ireturn, 1) := by decide +kernel
theorem dX4_count_0 : decode cX4_count 0 = .ok (.iload_n 1, 1) := by decide +kernel
theorem dX4_count_1 : decode cX4_count 1 = .ok (.tableswitch 174 0 11 #[63, 71, 79, 87, 95, 103, 111, 126, 141, 156, 161, 166], 63) := by decide +kernel
theorem dX4_count_64 : decode cX4_count 64 = .ok (.aload_n 0, 1) := by decide +kernel
theorem dX4_count_65 : decode cX4_count 65 = .ok (.getfield 19, 3) := by decide +kernel
theorem dX4_count_68 : decode cX4_count 68 = .ok (.getfield 164, 3) := by decide +kernel
theorem dX4_count_71 : decode cX4_count 71 = .ok (.ireturn, 1) := by decide +kernel
theorem dX4_count_72 : decode cX4_count 72 = .ok (.aload_n 0, 1) := by decide +kernel
theorem dX4_count_73 : decode cX4_count 73 = .ok (.getfield 19, 3) := by decide +kernel
theorem dX4_count_76 : decode cX4_count 76 = .ok (.getfield 173, 3) := by decide +kernel
theorem dX4_count_79 : decode cX4_count 79 = .ok (.ireturn, 1) := by decide +kernel
theorem dX4_count_80 : decode cX4_count 80 = .ok (.aload_n 0, 1) := by decide +kernel
theorem dX4_count_81 : decode cX4_count 81 = .ok (.getfield 19, 3) := by decide +kernel
theorem dX4_count_84 : decode cX4_count 84 = .ok (.getfield 206, 3) := by decide +kernel
theorem dX4_count_87 : decode cX4_count 87 = .ok (.ireturn, 1) := by decide +kernel
theorem dX4_count_88 : decode cX4_count 88 = .ok (.aload_n 0, 1) := by decide +kernel
theorem dX4_count_89 : decode cX4_count 89 = .ok (.getfield 19, 3) := by decide +kernel
theorem dX4_count_92 : decode cX4_count 92 = .ok (.getfield 218, 3) := by decide +kernel
theorem dX4_count_95 : decode cX4_count 95 = .ok (.ireturn, 1) := by decide +kernel
theorem dX4_count_96 : decode cX4_count 96 = .ok (.aload_n 0, 1) := by decide +kernel
theorem dX4_count_97 : decode cX4_count 97 = .ok (.getfield 35, 3) := by decide +kernel
theorem dX4_count_100 : decode cX4_count 100 = .ok (.getfield 140, 3) := by decide +kernel
theorem dX4_count_103 : decode cX4_count 103 = .ok (.ireturn, 1) := by decide +kernel
theorem dX4_count_104 : decode cX4_count 104 = .ok (.aload_n 0, 1) := by decide +kernel
theorem dX4_count_105 : decode cX4_count 105 = .ok (.getfield 35, 3) := by decide +kernel
theorem dX4_count_108 : decode cX4_count 108 = .ok (.getfield 126, 3) := by decide +kernel
theorem dX4_count_111 : decode cX4_count 111 = .ok (.ireturn, 1) := by decide +kernel
theorem dX4_count_112 : decode cX4_count 112 = .ok (.aload_n 0, 1) := by decide +kernel
theorem dX4_count_113 : decode cX4_count 113 = .ok (.getfield 19, 3) := by decide +kernel
theorem dX4_count_116 : decode cX4_count 116 = .ok (.aload_n 0, 1) := by decide +kernel
theorem dX4_count_117 : decode cX4_count 117 = .ok (.getfield 35, 3) := by decide +kernel
theorem dX4_count_120 : decode cX4_count 120 = .ok (.invokevirtual 129, 3) := by decide +kernel
theorem dX4_count_123 : decode cX4_count 123 = .ok (.invokevirtual 152, 3) := by decide +kernel
theorem dX4_count_126 : decode cX4_count 126 = .ok (.ireturn, 1) := by decide +kernel
theorem dX4_count_127 : decode cX4_count 127 = .ok (.aload_n 0, 1) := by decide +kernel
theorem dX4_count_128 : decode cX4_count 128 = .ok (.getfield 19, 3) := by decide +kernel
theorem dX4_count_131 : decode cX4_count 131 = .ok (.aload_n 0, 1) := by decide +kernel
theorem dX4_count_132 : decode cX4_count 132 = .ok (.getfield 35, 3) := by decide +kernel
theorem dX4_count_135 : decode cX4_count 135 = .ok (.invokevirtual 129, 3) := by decide +kernel
theorem dX4_count_138 : decode cX4_count 138 = .ok (.invokevirtual 119, 3) := by decide +kernel
theorem dX4_count_141 : decode cX4_count 141 = .ok (.ireturn, 1) := by decide +kernel
theorem dX4_count_142 : decode cX4_count 142 = .ok (.aload_n 0, 1) := by decide +kernel
theorem dX4_count_143 : decode cX4_count 143 = .ok (.getfield 19, 3) := by decide +kernel
theorem dX4_count_146 : decode cX4_count 146 = .ok (.aload_n 0, 1) := by decide +kernel
theorem dX4_count_147 : decode cX4_count 147 = .ok (.getfield 35, 3) := by decide +kernel
theorem dX4_count_150 : decode cX4_count 150 = .ok (.getfield 126, 3) := by decide +kernel
theorem dX4_count_153 : decode cX4_count 153 = .ok (.invokevirtual 190, 3) := by decide +kernel
theorem dX4_count_156 : decode cX4_count 156 = .ok (.ireturn, 1) := by decide +kernel
theorem dX4_count_157 : decode cX4_count 157 = .ok (.aload_n 0, 1) := by decide +kernel
theorem dX4_count_158 : decode cX4_count 158 = .ok (.getfield 87, 3) := by decide +kernel
theorem dX4_count_161 : decode cX4_count 161 = .ok (.ireturn, 1) := by decide +kernel
theorem dX4_count_162 : decode cX4_count 162 = .ok (.aload_n 0, 1) := by decide +kernel
theorem dX4_count_163 : decode cX4_count 163 = .ok (.getfield 90, 3) := by decide +kernel
theorem dX4_count_166 : decode cX4_count 166 = .ok (.ireturn, 1) := by decide +kernel
theorem dX4_count_167 : decode cX4_count 167 = .ok (.aload_n 0, 1) := by decide +kernel
theorem dX4_count_168 : decode cX4_count 168 = .ok (.getfield 10, 3) := by decide +kernel
theorem dX4_count_171 : decode cX4_count 171 = .ok (.getfield 63, 3) := by decide +kernel
theorem dX4_count_174 : decode cX4_count 174 = .ok (.ireturn, 1) := by decide +kernel
theorem dX4_count_175 : decode cX4_count 175 = .ok (.bipush (-3), 2) := by decide +kernel
theorem dX4_count_177 : decode cX4_count 177 = .ok (.ireturn, 1) := by decide +kernel
