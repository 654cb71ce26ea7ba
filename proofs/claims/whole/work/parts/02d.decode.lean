theorem dX9_init_0 : decode cX9_init 0 = .ok (.aload_n 0, 1) := by decide +kernel
theorem dX9_init_1 : decode cX9_init 1 = .ok (.invokespecial 1, 3) := by decide +kernel
theorem dX9_init_4 : decode cX9_init 4 = .ok (.aload_n 0, 1) := by decide +kernel
theorem dX9_init_5 : decode cX9_init 5 = .ok (.bipush 96, 2) := by decide +kernel
theorem dX9_init_7 : decode cX9_init 7 = .ok (.newarray .int, 2) := by decide +kernel
theorem dX9_init_9 : decode cX9_init 9 = .ok (.putfield 7, 3) := by decide +kernel
theorem dX9_init_12 : decode cX9_init 12 = .ok (.aload_n 0, 1) := by decide +kernel
theorem dX9_init_13 : decode cX9_init 13 = .ok (.bipush 30, 2) := by decide +kernel
theorem dX9_init_15 : decode cX9_init 15 = .ok (.newarray .int, 2) := by decide +kernel
theorem dX9_init_17 : decode cX9_init 17 = .ok (.putfield 13, 3) := by decide +kernel
theorem dX9_init_20 : decode cX9_init 20 = .ok (.aload_n 0, 1) := by decide +kernel
theorem dX9_init_21 : decode cX9_init 21 = .ok (.bipush 20, 2) := by decide +kernel
theorem dX9_init_23 : decode cX9_init 23 = .ok (.newarray .int, 2) := by decide +kernel
theorem dX9_init_25 : decode cX9_init 25 = .ok (.putfield 16, 3) := by decide +kernel
theorem dX9_init_28 : decode cX9_init 28 = .ok (.aload_n 0, 1) := by decide +kernel
theorem dX9_init_29 : decode cX9_init 29 = .ok (.bipush 30, 2) := by decide +kernel
theorem dX9_init_31 : decode cX9_init 31 = .ok (.putfield 19, 3) := by decide +kernel
theorem dX9_init_34 : decode cX9_init 34 = .ok (.aload_n 0, 1) := by decide +kernel
theorem dX9_init_35 : decode cX9_init 35 = .ok (.sipush 200, 3) := by decide +kernel
theorem dX9_init_38 : decode cX9_init 38 = .ok (.newarray .int, 2) := by decide +kernel
theorem dX9_init_40 : decode cX9_init 40 = .ok (.putfield 23, 3) := by decide +kernel
theorem dX9_init_43 : decode cX9_init 43 = .ok (.aload_n 0, 1) := by decide +kernel
theorem dX9_init_44 : decode cX9_init 44 = .ok (.bipush 70, 2) := by decide +kernel
theorem dX9_init_46 : decode cX9_init 46 = .ok (.newarray .int, 2) := by decide +kernel
theorem dX9_init_48 : decode cX9_init 48 = .ok (.putfield 26, 3) := by decide +kernel
theorem dX9_init_51 : decode cX9_init 51 = .ok (.aload_n 0, 1) := by decide +kernel
theorem dX9_init_52 : decode cX9_init 52 = .ok (.sipush 1197, 3) := by decide +kernel
theorem dX9_init_55 : decode cX9_init 55 = .ok (.newarray .int, 2) := by decide +kernel
theorem dX9_init_57 : decode cX9_init 57 = .ok (.putfield 29, 3) := by decide +kernel
theorem dX9_init_60 : decode cX9_init 60 = .ok (.aload_n 0, 1) := by decide +kernel
theorem dX9_init_61 : decode cX9_init 61 = .ok (.sipush 1197, 3) := by decide +kernel
theorem dX9_init_64 : decode cX9_init 64 = .ok (.newarray .int, 2) := by decide +kernel
theorem dX9_init_66 : decode cX9_init 66 = .ok (.putfield 32, 3) := by decide +kernel
theorem dX9_init_69 : decode cX9_init 69 = .ok (.aload_n 0, 1) := by decide +kernel
theorem dX9_init_70 : decode cX9_init 70 = .ok (.sipush 2394, 3) := by decide +kernel
theorem dX9_init_73 : decode cX9_init 73 = .ok (.newarray .int, 2) := by decide +kernel
theorem dX9_init_75 : decode cX9_init 75 = .ok (.putfield 35, 3) := by decide +kernel
theorem dX9_init_78 : decode cX9_init 78 = .ok (.aload_n 0, 1) := by decide +kernel
theorem dX9_init_79 : decode cX9_init 79 = .ok (.iconst 2, 1) := by decide +kernel
theorem dX9_init_80 : decode cX9_init 80 = .ok (.newarray .boolean, 2) := by decide +kernel
theorem dX9_init_82 : decode cX9_init 82 = .ok (.putfield 38, 3) := by decide +kernel
theorem dX9_init_85 : decode cX9_init 85 = .ok (.aload_n 0, 1) := by decide +kernel
theorem dX9_init_86 : decode cX9_init 86 = .ok (.invokevirtual 42, 3) := by decide +kernel
theorem dX9_init_89 : decode cX9_init 89 = .ok (.return_, 1) := by decide +kernel
theorem dX9_in_0 : decode cX9_in 0 = .ok (.iload_n 0, 1) := by decide +kernel
theorem dX9_in_1 : decode cX9_in 1 = .ok (.iload_n 1, 1) := by decide +kernel
theorem dX9_in_2 : decode cX9_in 2 = .ok (.if_icmp .lt 12, 3) := by decide +kernel
theorem dX9_in_5 : decode cX9_in 5 = .ok (.iload_n 0, 1) := by decide +kernel
theorem dX9_in_6 : decode cX9_in 6 = .ok (.iload_n 2, 1) := by decide +kernel
theorem dX9_in_7 : decode cX9_in 7 = .ok (.if_icmp .gt 7, 3) := by decide +kernel
theorem dX9_in_10 : decode cX9_in 10 = .ok (.iconst 1, 1) := by decide +kernel
theorem dX9_in_11 : decode cX9_in 11 = .ok (.goto 4, 3) := by decide +kernel
theorem dX9_in_14 : decode cX9_in 14 = .ok (.iconst 0, 1) := by decide +kernel
theorem dX9_in_15 : decode cX9_in 15 = .ok (.ireturn, 1) := by decide +kernel
theorem dX9_has_0 : decode cX9_has 0 = .ok (.iload_n 0, 1) := by decide +kernel
theorem dX9_has_1 : decode cX9_has 1 = .ok (.iload_n 1, 1) := by decide +kernel
theorem dX9_has_2 : decode cX9_has 2 = .ok (.ishr, 1) := by decide +kernel
theorem dX9_has_3 : decode cX9_has 3 = .ok (.iconst 1, 1) := by decide +kernel
theorem dX9_has_4 : decode cX9_has 4 = .ok (.iand, 1) := by decide +kernel
theorem dX9_has_5 : decode cX9_has 5 = .ok (.iconst 1, 1) := by decide +kernel
theorem dX9_has_6 : decode cX9_has 6 = .ok (.if_icmp .ne 7, 3) := by decide +kernel
theorem dX9_has_9 : decode cX9_has 9 = .ok (.iconst 1, 1) := by decide +kernel
theorem dX9_has_10 : decode cX9_has 10 = .ok (.goto 4, 3) := by decide +kernel
theorem dX9_has_13 : decode cX9_has 13 = .ok (.iconst 0, 1) := by decide +kernel
theorem dX9_has_14 : decode cX9_has 14 = .ok (.ireturn, 1) := by decide +kernel
theorem dX9_isKite_0 : decode cX9_isKite 0 = .ok (.iload_n 1, 1) := by decide +kernel
theorem dX9_isKite_1 : decode cX9_isKite 1 = .ok (.iconst 0, 1) := by decide +kernel
theorem dX9_isKite_2 : decode cX9_isKite 2 = .ok (.iconst 5, 1) := by decide +kernel
theorem dX9_isKite_3 : decode cX9_isKite 3 = .ok (.invokestatic 45, 3) := by decide +kernel
theorem dX9_isKite_6 : decode cX9_isKite 6 = .ok (.ifCond .eq 18, 3) := by decide +kernel
theorem dX9_isKite_9 : decode cX9_isKite 9 = .ok (.aload_n 0, 1) := by decide +kernel
theorem dX9_isKite_10 : decode cX9_isKite 10 = .ok (.getfield 49, 3) := by decide +kernel
theorem dX9_isKite_13 : decode cX9_isKite 13 = .ok (.iload_n 1, 1) := by decide +kernel
theorem dX9_isKite_14 : decode cX9_isKite 14 = .ok (.invokestatic 52, 3) := by decide +kernel
theorem dX9_isKite_17 : decode cX9_isKite 17 = .ok (.ifCond .eq 7, 3) := by decide +kernel
theorem dX9_isKite_20 : decode cX9_isKite 20 = .ok (.iconst 1, 1) := by decide +kernel
theorem dX9_isKite_21 : decode cX9_isKite 21 = .ok (.goto 4, 3) := by decide +kernel
theorem dX9_isKite_24 : decode cX9_isKite 24 = .ok (.iconst 0, 1) := by decide +kernel
theorem dX9_isKite_25 : decode cX9_isKite 25 = .ok (.ireturn, 1) := by decide +kernel
theorem dX9_isHeight_0 : decode cX9_isHeight 0 = .ok (.iload_n 0, 1) := by decide +kernel
theorem dX9_isHeight_1 : decode cX9_isHeight 1 = .ok (.iconst 1, 1) := by decide +kernel
theorem dX9_isHeight_2 : decode cX9_isHeight 2 = .ok (.iconst 3, 1) := by decide +kernel
theorem dX9_isHeight_3 : decode cX9_isHeight 3 = .ok (.invokestatic 45, 3) := by decide +kernel
theorem dX9_isHeight_6 : decode cX9_isHeight 6 = .ok (.ireturn, 1) := by decide +kernel
theorem dX9_isHour_0 : decode cX9_isHour 0 = .ok (.iload_n 0, 1) := by decide +kernel
theorem dX9_isHour_1 : decode cX9_isHour 1 = .ok (.iconst 0, 1) := by decide +kernel
theorem dX9_isHour_2 : decode cX9_isHour 2 = .ok (.bipush 11, 2) := by decide +kernel
theorem dX9_isHour_4 : decode cX9_isHour 4 = .ok (.invokestatic 45, 3) := by decide +kernel
theorem dX9_isHour_7 : decode cX9_isHour 7 = .ok (.ireturn, 1) := by decide +kernel
theorem dX9_write_0 : decode cX9_write 0 = .ok (.iload_n 3, 1) := by decide +kernel
theorem dX9_write_1 : decode cX9_write 1 = .ok (.iconst 1, 1) := by decide +kernel
theorem dX9_write_2 : decode cX9_write 2 = .ok (.bipush 8, 2) := by decide +kernel
theorem dX9_write_4 : decode cX9_write 4 = .ok (.invokestatic 45, 3) := by decide +kernel
theorem dX9_write_7 : decode cX9_write 7 = .ok (.ifCond .ne 6, 3) := by decide +kernel
theorem dX9_write_10 : decode cX9_write 10 = .ok (.bipush (-3), 2) := by decide +kernel
theorem dX9_write_12 : decode cX9_write 12 = .ok (.ireturn, 1) := by decide +kernel
theorem dX9_write_13 : decode cX9_write 13 = .ok (.aload_n 0, 1) := by decide +kernel
theorem dX9_write_14 : decode cX9_write 14 = .ok (.getfield 56, 3) := by decide +kernel
theorem dX9_write_17 : decode cX9_write 17 = .ok (.iload_n 3, 1) := by decide +kernel
theorem dX9_write_18 : decode cX9_write 18 = .ok (.iadd, 1) := by decide +kernel
theorem dX9_write_19 : decode cX9_write 19 = .ok (.sipush 200, 3) := by decide +kernel
theorem dX9_write_22 : decode cX9_write 22 = .ok (.if_icmp .le 6, 3) := by decide +kernel
theorem dX9_write_25 : decode cX9_write 25 = .ok (.bipush (-5), 2) := by decide +kernel
theorem dX9_write_27 : decode cX9_write 27 = .ok (.ireturn, 1) := by decide +kernel
theorem dX9_write_28 : decode cX9_write 28 = .ok (.iconst 0, 1) := by decide +kernel
theorem dX9_write_29 : decode cX9_write 29 = .ok (.istore 4, 2) := by decide +kernel
theorem dX9_write_31 : decode cX9_write 31 = .ok (.iload 4, 2) := by decide +kernel
theorem dX9_write_33 : decode cX9_write 33 = .ok (.iload_n 3, 1) := by decide +kernel
theorem dX9_write_34 : decode cX9_write 34 = .ok (.if_icmp .ge 33, 3) := by decide +kernel
theorem dX9_write_37 : decode cX9_write 37 = .ok (.aload_n 0, 1) := by decide +kernel
theorem dX9_write_38 : decode cX9_write 38 = .ok (.getfield 23, 3) := by decide +kernel
theorem dX9_write_41 : decode cX9_write 41 = .ok (.aload_n 0, 1) := by decide +kernel
theorem dX9_write_42 : decode cX9_write 42 = .ok (.getfield 56, 3) := by decide +kernel
theorem dX9_write_45 : decode cX9_write 45 = .ok (.iload 4, 2) := by decide +kernel
theorem dX9_write_47 : decode cX9_write 47 = .ok (.iadd, 1) := by decide +kernel
theorem dX9_write_48 : decode cX9_write 48 = .ok (.lload_n 1, 1) := by decide +kernel
theorem dX9_write_49 : decode cX9_write 49 = .ok (.bipush 8, 2) := by decide +kernel
theorem dX9_write_51 : decode cX9_write 51 = .ok (.iload 4, 2) := by decide +kernel
theorem dX9_write_53 : decode cX9_write 53 = .ok (.imul, 1) := by decide +kernel
theorem dX9_write_54 : decode cX9_write 54 = .ok (.lshr, 1) := by decide +kernel
theorem dX9_write_55 : decode cX9_write 55 = .ok (.ldc2_w 59, 3) := by decide +kernel
theorem dX9_write_58 : decode cX9_write 58 = .ok (.land, 1) := by decide +kernel
theorem dX9_write_59 : decode cX9_write 59 = .ok (.l2i, 1) := by decide +kernel
theorem dX9_write_60 : decode cX9_write 60 = .ok (.iastore, 1) := by decide +kernel
theorem dX9_write_61 : decode cX9_write 61 = .ok (.iinc 4 1, 3) := by decide +kernel
theorem dX9_write_64 : decode cX9_write 64 = .ok (.goto (-33), 3) := by decide +kernel
theorem dX9_write_67 : decode cX9_write 67 = .ok (.aload_n 0, 1) := by decide +kernel
theorem dX9_write_68 : decode cX9_write 68 = .ok (.dup, 1) := by decide +kernel
theorem dX9_write_69 : decode cX9_write 69 = .ok (.getfield 56, 3) := by decide +kernel
theorem dX9_write_72 : decode cX9_write 72 = .ok (.iload_n 3, 1) := by decide +kernel
theorem dX9_write_73 : decode cX9_write 73 = .ok (.iadd, 1) := by decide +kernel
theorem dX9_write_74 : decode cX9_write 74 = .ok (.putfield 56, 3) := by decide +kernel
theorem dX9_write_77 : decode cX9_write 77 = .ok (.aload_n 0, 1) := by decide +kernel
theorem dX9_write_78 : decode cX9_write 78 = .ok (.getfield 56, 3) := by decide +kernel
theorem dX9_write_81 : decode cX9_write 81 = .ok (.ireturn, 1) := by decide +kernel
theorem dX9_erase_0 : decode cX9_erase 0 = .ok (.aload_n 0, 1) := by decide +kernel
theorem dX9_erase_1 : decode cX9_erase 1 = .ok (.getfield 56, 3) := by decide +kernel
theorem dX9_erase_4 : decode cX9_erase 4 = .ok (.istore_n 1, 1) := by decide +kernel
theorem dX9_erase_5 : decode cX9_erase 5 = .ok (.aload_n 0, 1) := by decide +kernel
theorem dX9_erase_6 : decode cX9_erase 6 = .ok (.iconst 0, 1) := by decide +kernel
theorem dX9_erase_7 : decode cX9_erase 7 = .ok (.putfield 56, 3) := by decide +kernel
theorem dX9_erase_10 : decode cX9_erase 10 = .ok (.iload_n 1, 1) := by decide +kernel
theorem dX9_erase_11 : decode cX9_erase 11 = .ok (.ireturn, 1) := by decide +kernel
theorem dX9_nextToken_0 : decode cX9_nextToken 0 = .ok (.aload_n 0, 1) := by decide +kernel
theorem dX9_nextToken_1 : decode cX9_nextToken 1 = .ok (.getfield 61, 3) := by decide +kernel
theorem dX9_nextToken_4 : decode cX9_nextToken 4 = .ok (.aload_n 0, 1) := by decide +kernel
theorem dX9_nextToken_5 : decode cX9_nextToken 5 = .ok (.getfield 56, 3) := by decide +kernel
theorem dX9_nextToken_8 : decode cX9_nextToken 8 = .ok (.if_icmp .ge 30, 3) := by decide +kernel
theorem dX9_nextToken_11 : decode cX9_nextToken 11 = .ok (.aload_n 0, 1) := by decide +kernel
theorem dX9_nextToken_12 : decode cX9_nextToken 12 = .ok (.getfield 23, 3) := by decide +kernel
theorem dX9_nextToken_15 : decode cX9_nextToken 15 = .ok (.aload_n 0, 1) := by decide +kernel
theorem dX9_nextToken_16 : decode cX9_nextToken 16 = .ok (.getfield 61, 3) := by decide +kernel
theorem dX9_nextToken_19 : decode cX9_nextToken 19 = .ok (.iaload, 1) := by decide +kernel
theorem dX9_nextToken_20 : decode cX9_nextToken 20 = .ok (.bipush 32, 2) := by decide +kernel
theorem dX9_nextToken_22 : decode cX9_nextToken 22 = .ok (.if_icmp .ne 16, 3) := by decide +kernel
theorem dX9_nextToken_25 : decode cX9_nextToken 25 = .ok (.aload_n 0, 1) := by decide +kernel
theorem dX9_nextToken_26 : decode cX9_nextToken 26 = .ok (.dup, 1) := by decide +kernel
theorem dX9_nextToken_27 : decode cX9_nextToken 27 = .ok (.getfield 61, 3) := by decide +kernel
theorem dX9_nextToken_30 : decode cX9_nextToken 30 = .ok (.iconst 1, 1) := by decide +kernel
theorem dX9_nextToken_31 : decode cX9_nextToken 31 = .ok (.iadd, 1) := by decide +kernel
theorem dX9_nextToken_32 : decode cX9_nextToken 32 = .ok (.putfield 61, 3) := by decide +kernel
theorem dX9_nextToken_35 : decode cX9_nextToken 35 = .ok (.goto (-35), 3) := by decide +kernel
theorem dX9_nextToken_38 : decode cX9_nextToken 38 = .ok (.aload_n 0, 1) := by decide +kernel
theorem dX9_nextToken_39 : decode cX9_nextToken 39 = .ok (.aload_n 0, 1) := by decide +kernel
theorem dX9_nextToken_40 : decode cX9_nextToken 40 = .ok (.getfield 61, 3) := by decide +kernel
theorem dX9_nextToken_43 : decode cX9_nextToken 43 = .ok (.putfield 64, 3) := by decide +kernel
theorem dX9_nextToken_46 : decode cX9_nextToken 46 = .ok (.aload_n 0, 1) := by decide +kernel
theorem dX9_nextToken_47 : decode cX9_nextToken 47 = .ok (.iconst 0, 1) := by decide +kernel
theorem dX9_nextToken_48 : decode cX9_nextToken 48 = .ok (.putfield 67, 3) := by decide +kernel
theorem dX9_nextToken_51 : decode cX9_nextToken 51 = .ok (.aload_n 0, 1) := by decide +kernel
theorem dX9_nextToken_52 : decode cX9_nextToken 52 = .ok (.iconst 0, 1) := by decide +kernel
theorem dX9_nextToken_53 : decode cX9_nextToken 53 = .ok (.putfield 70, 3) := by decide +kernel
theorem dX9_nextToken_56 : decode cX9_nextToken 56 = .ok (.aload_n 0, 1) := by decide +kernel
theorem dX9_nextToken_57 : decode cX9_nextToken 57 = .ok (.getfield 61, 3) := by decide +kernel
theorem dX9_nextToken_60 : decode cX9_nextToken 60 = .ok (.aload_n 0, 1) := by decide +kernel
theorem dX9_nextToken_61 : decode cX9_nextToken 61 = .ok (.getfield 56, 3) := by decide +kernel
theorem dX9_nextToken_64 : decode cX9_nextToken 64 = .ok (.if_icmp .ne 13, 3) := by decide +kernel
theorem dX9_nextToken_67 : decode cX9_nextToken 67 = .ok (.aload_n 0, 1) := by decide +kernel
theorem dX9_nextToken_68 : decode cX9_nextToken 68 = .ok (.ldc2_w 73, 3) := by decide +kernel
theorem dX9_nextToken_71 : decode cX9_nextToken 71 = .ok (.putfield 75, 3) := by decide +kernel
theorem dX9_nextToken_74 : decode cX9_nextToken 74 = .ok (.goto 320, 3) := by decide +kernel
theorem dX9_nextToken_77 : decode cX9_nextToken 77 = .ok (.aload_n 0, 1) := by decide +kernel
theorem dX9_nextToken_78 : decode cX9_nextToken 78 = .ok (.getfield 23, 3) := by decide +kernel
theorem dX9_nextToken_81 : decode cX9_nextToken 81 = .ok (.aload_n 0, 1) := by decide +kernel
theorem dX9_nextToken_82 : decode cX9_nextToken 82 = .ok (.getfield 61, 3) := by decide +kernel
theorem dX9_nextToken_85 : decode cX9_nextToken 85 = .ok (.iaload, 1) := by decide +kernel
theorem dX9_nextToken_86 : decode cX9_nextToken 86 = .ok (.bipush 97, 2) := by decide +kernel
theorem dX9_nextToken_88 : decode cX9_nextToken 88 = .ok (.bipush 122, 2) := by decide +kernel
theorem dX9_nextToken_90 : decode cX9_nextToken 90 = .ok (.invokestatic 45, 3) := by decide +kernel
theorem dX9_nextToken_93 : decode cX9_nextToken 93 = .ok (.ifCond .eq 129, 3) := by decide +kernel
theorem dX9_nextToken_96 : decode cX9_nextToken 96 = .ok (.aload_n 0, 1) := by decide +kernel
theorem dX9_nextToken_97 : decode cX9_nextToken 97 = .ok (.lconst 0, 1) := by decide +kernel
theorem dX9_nextToken_98 : decode cX9_nextToken 98 = .ok (.putfield 75, 3) := by decide +kernel
theorem dX9_nextToken_101 : decode cX9_nextToken 101 = .ok (.aload_n 0, 1) := by decide +kernel
theorem dX9_nextToken_102 : decode cX9_nextToken 102 = .ok (.getfield 61, 3) := by decide +kernel
theorem dX9_nextToken_105 : decode cX9_nextToken 105 = .ok (.aload_n 0, 1) := by decide +kernel
theorem dX9_nextToken_106 : decode cX9_nextToken 106 = .ok (.getfield 56, 3) := by decide +kernel
theorem dX9_nextToken_109 : decode cX9_nextToken 109 = .ok (.if_icmp .ge 82, 3) := by decide +kernel
theorem dX9_nextToken_112 : decode cX9_nextToken 112 = .ok (.aload_n 0, 1) := by decide +kernel
theorem dX9_nextToken_113 : decode cX9_nextToken 113 = .ok (.getfield 23, 3) := by decide +kernel
theorem dX9_nextToken_116 : decode cX9_nextToken 116 = .ok (.aload_n 0, 1) := by decide +kernel
theorem dX9_nextToken_117 : decode cX9_nextToken 117 = .ok (.getfield 61, 3) := by decide +kernel
theorem dX9_nextToken_120 : decode cX9_nextToken 120 = .ok (.iaload, 1) := by decide +kernel
theorem dX9_nextToken_121 : decode cX9_nextToken 121 = .ok (.bipush 97, 2) := by decide +kernel
theorem dX9_nextToken_123 : decode cX9_nextToken 123 = .ok (.bipush 122, 2) := by decide +kernel
theorem dX9_nextToken_125 : decode cX9_nextToken 125 = .ok (.invokestatic 45, 3) := by decide +kernel
theorem dX9_nextToken_128 : decode cX9_nextToken 128 = .ok (.ifCond .eq 63, 3) := by decide +kernel
theorem dX9_nextToken_131 : decode cX9_nextToken 131 = .ok (.aload_n 0, 1) := by decide +kernel
theorem dX9_nextToken_132 : decode cX9_nextToken 132 = .ok (.aload_n 0, 1) := by decide +kernel
theorem dX9_nextToken_133 : decode cX9_nextToken 133 = .ok (.getfield 61, 3) := by decide +kernel
theorem dX9_nextToken_136 : decode cX9_nextToken 136 = .ok (.aload_n 0, 1) := by decide +kernel
theorem dX9_nextToken_137 : decode cX9_nextToken 137 = .ok (.getfield 64, 3) := by decide +kernel
theorem dX9_nextToken_140 : decode cX9_nextToken 140 = .ok (.isub, 1) := by decide +kernel
theorem dX9_nextToken_141 : decode cX9_nextToken 141 = .ok (.bipush 9, 2) := by decide +kernel
theorem dX9_nextToken_143 : decode cX9_nextToken 143 = .ok (.if_icmp .ge 29, 3) := by decide +kernel
theorem dX9_nextToken_146 : decode cX9_nextToken 146 = .ok (.ldc2_w 79, 3) := by decide +kernel
theorem dX9_nextToken_149 : decode cX9_nextToken 149 = .ok (.aload_n 0, 1) := by decide +kernel
theorem dX9_nextToken_150 : decode cX9_nextToken 150 = .ok (.getfield 75, 3) := by decide +kernel
theorem dX9_nextToken_153 : decode cX9_nextToken 153 = .ok (.lmul, 1) := by decide +kernel
theorem dX9_nextToken_154 : decode cX9_nextToken 154 = .ok (.aload_n 0, 1) := by decide +kernel
theorem dX9_nextToken_155 : decode cX9_nextToken 155 = .ok (.getfield 23, 3) := by decide +kernel
theorem dX9_nextToken_158 : decode cX9_nextToken 158 = .ok (.aload_n 0, 1) := by decide +kernel
theorem dX9_nextToken_159 : decode cX9_nextToken 159 = .ok (.getfield 61, 3) := by decide +kernel
theorem dX9_nextToken_162 : decode cX9_nextToken 162 = .ok (.iaload, 1) := by decide +kernel
theorem dX9_nextToken_163 : decode cX9_nextToken 163 = .ok (.i2l, 1) := by decide +kernel
theorem dX9_nextToken_164 : decode cX9_nextToken 164 = .ok (.ladd, 1) := by decide +kernel
theorem dX9_nextToken_165 : decode cX9_nextToken 165 = .ok (.ldc2_w 81, 3) := by decide +kernel
theorem dX9_nextToken_168 : decode cX9_nextToken 168 = .ok (.lsub, 1) := by decide +kernel
theorem dX9_nextToken_169 : decode cX9_nextToken 169 = .ok (.goto 6, 3) := by decide +kernel
theorem dX9_nextToken_172 : decode cX9_nextToken 172 = .ok (.ldc2_w 83, 3) := by decide +kernel
theorem dX9_nextToken_175 : decode cX9_nextToken 175 = .ok (.putfield 75, 3) := by decide +kernel
theorem dX9_nextToken_178 : decode cX9_nextToken 178 = .ok (.aload_n 0, 1) := by decide +kernel
theorem dX9_nextToken_179 : decode cX9_nextToken 179 = .ok (.dup, 1) := by decide +kernel
theorem dX9_nextToken_180 : decode cX9_nextToken 180 = .ok (.getfield 61, 3) := by decide +kernel
theorem dX9_nextToken_183 : decode cX9_nextToken 183 = .ok (.iconst 1, 1) := by decide +kernel
theorem dX9_nextToken_184 : decode cX9_nextToken 184 = .ok (.iadd, 1) := by decide +kernel
theorem dX9_nextToken_185 : decode cX9_nextToken 185 = .ok (.putfield 61, 3) := by decide +kernel
theorem dX9_nextToken_188 : decode cX9_nextToken 188 = .ok (.goto (-87), 3) := by decide +kernel
theorem dX9_nextToken_191 : decode cX9_nextToken 191 = .ok (.aload_n 0, 1) := by decide +kernel
theorem dX9_nextToken_192 : decode cX9_nextToken 192 = .ok (.aload_n 0, 1) := by decide +kernel
theorem dX9_nextToken_193 : decode cX9_nextToken 193 = .ok (.getfield 61, 3) := by decide +kernel
theorem dX9_nextToken_196 : decode cX9_nextToken 196 = .ok (.aload_n 0, 1) := by decide +kernel
theorem dX9_nextToken_197 : decode cX9_nextToken 197 = .ok (.getfield 64, 3) := by decide +kernel
theorem dX9_nextToken_200 : decode cX9_nextToken 200 = .ok (.isub, 1) := by decide +kernel
theorem dX9_nextToken_201 : decode cX9_nextToken 201 = .ok (.bipush 9, 2) := by decide +kernel
theorem dX9_nextToken_203 : decode cX9_nextToken 203 = .ok (.if_icmp .le 9, 3) := by decide +kernel
theorem dX9_nextToken_206 : decode cX9_nextToken 206 = .ok (.ldc2_w 83, 3) := by decide +kernel
theorem dX9_nextToken_209 : decode cX9_nextToken 209 = .ok (.goto 7, 3) := by decide +kernel
theorem dX9_nextToken_212 : decode cX9_nextToken 212 = .ok (.aload_n 0, 1) := by decide +kernel
theorem dX9_nextToken_213 : decode cX9_nextToken 213 = .ok (.getfield 75, 3) := by decide +kernel
theorem dX9_nextToken_216 : decode cX9_nextToken 216 = .ok (.putfield 75, 3) := by decide +kernel
theorem dX9_nextToken_219 : decode cX9_nextToken 219 = .ok (.goto 175, 3) := by decide +kernel
theorem dX9_nextToken_222 : decode cX9_nextToken 222 = .ok (.aload_n 0, 1) := by decide +kernel
theorem dX9_nextToken_223 : decode cX9_nextToken 223 = .ok (.getfield 23, 3) := by decide +kernel
theorem dX9_nextToken_226 : decode cX9_nextToken 226 = .ok (.aload_n 0, 1) := by decide +kernel
theorem dX9_nextToken_227 : decode cX9_nextToken 227 = .ok (.getfield 61, 3) := by decide +kernel
theorem dX9_nextToken_230 : decode cX9_nextToken 230 = .ok (.iaload, 1) := by decide +kernel
theorem dX9_nextToken_231 : decode cX9_nextToken 231 = .ok (.bipush 48, 2) := by decide +kernel
theorem dX9_nextToken_233 : decode cX9_nextToken 233 = .ok (.bipush 57, 2) := by decide +kernel
theorem dX9_nextToken_235 : decode cX9_nextToken 235 = .ok (.invokestatic 45, 3) := by decide +kernel
theorem dX9_nextToken_238 : decode cX9_nextToken 238 = .ok (.ifCond .eq 119, 3) := by decide +kernel
theorem dX9_nextToken_241 : decode cX9_nextToken 241 = .ok (.aload_n 0, 1) := by decide +kernel
theorem dX9_nextToken_242 : decode cX9_nextToken 242 = .ok (.getfield 61, 3) := by decide +kernel
theorem dX9_nextToken_245 : decode cX9_nextToken 245 = .ok (.aload_n 0, 1) := by decide +kernel
theorem dX9_nextToken_246 : decode cX9_nextToken 246 = .ok (.getfield 56, 3) := by decide +kernel
theorem dX9_nextToken_249 : decode cX9_nextToken 249 = .ok (.if_icmp .ge 84, 3) := by decide +kernel
theorem dX9_nextToken_252 : decode cX9_nextToken 252 = .ok (.aload_n 0, 1) := by decide +kernel
theorem dX9_nextToken_253 : decode cX9_nextToken 253 = .ok (.getfield 23, 3) := by decide +kernel
theorem dX9_nextToken_256 : decode cX9_nextToken 256 = .ok (.aload_n 0, 1) := by decide +kernel
theorem dX9_nextToken_257 : decode cX9_nextToken 257 = .ok (.getfield 61, 3) := by decide +kernel
theorem dX9_nextToken_260 : decode cX9_nextToken 260 = .ok (.iaload, 1) := by decide +kernel
theorem dX9_nextToken_261 : decode cX9_nextToken 261 = .ok (.bipush 48, 2) := by decide +kernel
theorem dX9_nextToken_263 : decode cX9_nextToken 263 = .ok (.bipush 57, 2) := by decide +kernel
theorem dX9_nextToken_265 : decode cX9_nextToken 265 = .ok (.invokestatic 45, 3) := by decide +kernel
theorem dX9_nextToken_268 : decode cX9_nextToken 268 = .ok (.ifCond .eq 65, 3) := by decide +kernel
theorem dX9_nextToken_271 : decode cX9_nextToken 271 = .ok (.aload_n 0, 1) := by decide +kernel
theorem dX9_nextToken_272 : decode cX9_nextToken 272 = .ok (.aload_n 0, 1) := by decide +kernel
theorem dX9_nextToken_273 : decode cX9_nextToken 273 = .ok (.getfield 67, 3) := by decide +kernel
theorem dX9_nextToken_276 : decode cX9_nextToken 276 = .ok (.iconst 2, 1) := by decide +kernel
theorem dX9_nextToken_277 : decode cX9_nextToken 277 = .ok (.if_icmp .ge 26, 3) := by decide +kernel
theorem dX9_nextToken_280 : decode cX9_nextToken 280 = .ok (.bipush 10, 2) := by decide +kernel
theorem dX9_nextToken_282 : decode cX9_nextToken 282 = .ok (.aload_n 0, 1) := by decide +kernel
theorem dX9_nextToken_283 : decode cX9_nextToken 283 = .ok (.getfield 70, 3) := by decide +kernel
theorem dX9_nextToken_286 : decode cX9_nextToken 286 = .ok (.imul, 1) := by decide +kernel
theorem dX9_nextToken_287 : decode cX9_nextToken 287 = .ok (.aload_n 0, 1) := by decide +kernel
theorem dX9_nextToken_288 : decode cX9_nextToken 288 = .ok (.getfield 23, 3) := by decide +kernel
theorem dX9_nextToken_291 : decode cX9_nextToken 291 = .ok (.aload_n 0, 1) := by decide +kernel
theorem dX9_nextToken_292 : decode cX9_nextToken 292 = .ok (.getfield 61, 3) := by decide +kernel
theorem dX9_nextToken_295 : decode cX9_nextToken 295 = .ok (.iaload, 1) := by decide +kernel
theorem dX9_nextToken_296 : decode cX9_nextToken 296 = .ok (.iadd, 1) := by decide +kernel
theorem dX9_nextToken_297 : decode cX9_nextToken 297 = .ok (.bipush 48, 2) := by decide +kernel
theorem dX9_nextToken_299 : decode cX9_nextToken 299 = .ok (.isub, 1) := by decide +kernel
theorem dX9_nextToken_300 : decode cX9_nextToken 300 = .ok (.goto 7, 3) := by decide +kernel
theorem dX9_nextToken_303 : decode cX9_nextToken 303 = .ok (.aload_n 0, 1) := by decide +kernel
theorem dX9_nextToken_304 : decode cX9_nextToken 304 = .ok (.getfield 70, 3) := by decide +kernel
theorem dX9_nextToken_307 : decode cX9_nextToken 307 = .ok (.putfield 70, 3) := by decide +kernel
theorem dX9_nextToken_310 : decode cX9_nextToken 310 = .ok (.aload_n 0, 1) := by decide +kernel
theorem dX9_nextToken_311 : decode cX9_nextToken 311 = .ok (.dup, 1) := by decide +kernel
theorem dX9_nextToken_312 : decode cX9_nextToken 312 = .ok (.getfield 67, 3) := by decide +kernel
theorem dX9_nextToken_315 : decode cX9_nextToken 315 = .ok (.iconst 1, 1) := by decide +kernel
theorem dX9_nextToken_316 : decode cX9_nextToken 316 = .ok (.iadd, 1) := by decide +kernel
theorem dX9_nextToken_317 : decode cX9_nextToken 317 = .ok (.putfield 67, 3) := by decide +kernel
theorem dX9_nextToken_320 : decode cX9_nextToken 320 = .ok (.aload_n 0, 1) := by decide +kernel
theorem dX9_nextToken_321 : decode cX9_nextToken 321 = .ok (.dup, 1) := by decide +kernel
theorem dX9_nextToken_322 : decode cX9_nextToken 322 = .ok (.getfield 61, 3) := by decide +kernel
theorem dX9_nextToken_325 : decode cX9_nextToken 325 = .ok (.iconst 1, 1) := by decide +kernel
theorem dX9_nextToken_326 : decode cX9_nextToken 326 = .ok (.iadd, 1) := by decide +kernel
theorem dX9_nextToken_327 : decode cX9_nextToken 327 = .ok (.putfield 61, 3) := by decide +kernel
theorem dX9_nextToken_330 : decode cX9_nextToken 330 = .ok (.goto (-89), 3) := by decide +kernel
theorem dX9_nextToken_333 : decode cX9_nextToken 333 = .ok (.aload_n 0, 1) := by decide +kernel
theorem dX9_nextToken_334 : decode cX9_nextToken 334 = .ok (.aload_n 0, 1) := by decide +kernel
theorem dX9_nextToken_335 : decode cX9_nextToken 335 = .ok (.getfield 67, 3) := by decide +kernel
theorem dX9_nextToken_338 : decode cX9_nextToken 338 = .ok (.iconst 2, 1) := by decide +kernel
theorem dX9_nextToken_339 : decode cX9_nextToken 339 = .ok (.if_icmp .le 9, 3) := by decide +kernel
theorem dX9_nextToken_342 : decode cX9_nextToken 342 = .ok (.ldc2_w 83, 3) := by decide +kernel
theorem dX9_nextToken_345 : decode cX9_nextToken 345 = .ok (.goto 6, 3) := by decide +kernel
theorem dX9_nextToken_348 : decode cX9_nextToken 348 = .ok (.ldc2_w 85, 3) := by decide +kernel
theorem dX9_nextToken_351 : decode cX9_nextToken 351 = .ok (.putfield 75, 3) := by decide +kernel
theorem dX9_nextToken_354 : decode cX9_nextToken 354 = .ok (.goto 40, 3) := by decide +kernel
theorem dX9_nextToken_357 : decode cX9_nextToken 357 = .ok (.aload_n 0, 1) := by decide +kernel
theorem dX9_nextToken_358 : decode cX9_nextToken 358 = .ok (.aload_n 0, 1) := by decide +kernel
theorem dX9_nextToken_359 : decode cX9_nextToken 359 = .ok (.getfield 23, 3) := by decide +kernel
theorem dX9_nextToken_362 : decode cX9_nextToken 362 = .ok (.aload_n 0, 1) := by decide +kernel
theorem dX9_nextToken_363 : decode cX9_nextToken 363 = .ok (.getfield 61, 3) := by decide +kernel
theorem dX9_nextToken_366 : decode cX9_nextToken 366 = .ok (.iaload, 1) := by decide +kernel
theorem dX9_nextToken_367 : decode cX9_nextToken 367 = .ok (.bipush 59, 2) := by decide +kernel
theorem dX9_nextToken_369 : decode cX9_nextToken 369 = .ok (.if_icmp .ne 9, 3) := by decide +kernel
theorem dX9_nextToken_372 : decode cX9_nextToken 372 = .ok (.ldc2_w 87, 3) := by decide +kernel
theorem dX9_nextToken_375 : decode cX9_nextToken 375 = .ok (.goto 6, 3) := by decide +kernel
theorem dX9_nextToken_378 : decode cX9_nextToken 378 = .ok (.ldc2_w 83, 3) := by decide +kernel
theorem dX9_nextToken_381 : decode cX9_nextToken 381 = .ok (.putfield 75, 3) := by decide +kernel
theorem dX9_nextToken_384 : decode cX9_nextToken 384 = .ok (.aload_n 0, 1) := by decide +kernel
theorem dX9_nextToken_385 : decode cX9_nextToken 385 = .ok (.dup, 1) := by decide +kernel
theorem dX9_nextToken_386 : decode cX9_nextToken 386 = .ok (.getfield 61, 3) := by decide +kernel
theorem dX9_nextToken_389 : decode cX9_nextToken 389 = .ok (.iconst 1, 1) := by decide +kernel
theorem dX9_nextToken_390 : decode cX9_nextToken 390 = .ok (.iadd, 1) := by decide +kernel
theorem dX9_nextToken_391 : decode cX9_nextToken 391 = .ok (.putfield 61, 3) := by decide +kernel
theorem dX9_nextToken_394 : decode cX9_nextToken 394 = .ok (.return_, 1) := by decide +kernel
theorem dX9_fails_0 : decode cX9_fails 0 = .ok (.aload_n 0, 1) := by decide +kernel
theorem dX9_fails_1 : decode cX9_fails 1 = .ok (.aload_n 0, 1) := by decide +kernel
theorem dX9_fails_2 : decode cX9_fails 2 = .ok (.getfield 64, 3) := by decide +kernel
theorem dX9_fails_5 : decode cX9_fails 5 = .ok (.putfield 89, 3) := by decide +kernel
theorem dX9_fails_8 : decode cX9_fails 8 = .ok (.iconst 0, 1) := by decide +kernel
theorem dX9_fails_9 : decode cX9_fails 9 = .ok (.ireturn, 1) := by decide +kernel
theorem dX9_isNumber_0 : decode cX9_isNumber 0 = .ok (.aload_n 0, 1) := by decide +kernel
theorem dX9_isNumber_1 : decode cX9_isNumber 1 = .ok (.invokevirtual 92, 3) := by decide +kernel
theorem dX9_isNumber_4 : decode cX9_isNumber 4 = .ok (.aload_n 0, 1) := by decide +kernel
theorem dX9_isNumber_5 : decode cX9_isNumber 5 = .ok (.getfield 75, 3) := by decide +kernel
theorem dX9_isNumber_8 : decode cX9_isNumber 8 = .ok (.ldc2_w 85, 3) := by decide +kernel
theorem dX9_isNumber_11 : decode cX9_isNumber 11 = .ok (.lcmp, 1) := by decide +kernel
theorem dX9_isNumber_12 : decode cX9_isNumber 12 = .ok (.ifCond .ne 15, 3) := by decide +kernel
theorem dX9_isNumber_15 : decode cX9_isNumber 15 = .ok (.aload_n 0, 1) := by decide +kernel
theorem dX9_isNumber_16 : decode cX9_isNumber 16 = .ok (.getfield 70, 3) := by decide +kernel
theorem dX9_isNumber_19 : decode cX9_isNumber 19 = .ok (.iload_n 2, 1) := by decide +kernel
theorem dX9_isNumber_20 : decode cX9_isNumber 20 = .ok (.iload_n 3, 1) := by decide +kernel
theorem dX9_isNumber_21 : decode cX9_isNumber 21 = .ok (.invokestatic 45, 3) := by decide +kernel
theorem dX9_isNumber_24 : decode cX9_isNumber 24 = .ok (.ifCond .ne 8, 3) := by decide +kernel
theorem dX9_isNumber_27 : decode cX9_isNumber 27 = .ok (.aload_n 0, 1) := by decide +kernel
theorem dX9_isNumber_28 : decode cX9_isNumber 28 = .ok (.invokevirtual 95, 3) := by decide +kernel
theorem dX9_isNumber_31 : decode cX9_isNumber 31 = .ok (.ireturn, 1) := by decide +kernel
theorem dX9_isNumber_32 : decode cX9_isNumber 32 = .ok (.aload_n 0, 1) := by decide +kernel
theorem dX9_isNumber_33 : decode cX9_isNumber 33 = .ok (.getfield 26, 3) := by decide +kernel
theorem dX9_isNumber_36 : decode cX9_isNumber 36 = .ok (.iload_n 1, 1) := by decide +kernel
theorem dX9_isNumber_37 : decode cX9_isNumber 37 = .ok (.aload_n 0, 1) := by decide +kernel
theorem dX9_isNumber_38 : decode cX9_isNumber 38 = .ok (.getfield 70, 3) := by decide +kernel
theorem dX9_isNumber_41 : decode cX9_isNumber 41 = .ok (.iastore, 1) := by decide +kernel
theorem dX9_isNumber_42 : decode cX9_isNumber 42 = .ok (.iconst 1, 1) := by decide +kernel
theorem dX9_isNumber_43 : decode cX9_isNumber 43 = .ok (.ireturn, 1) := by decide +kernel
theorem dX9_areHours_0 : decode cX9_areHours 0 = .ok (.aload_n 0, 1) := by decide +kernel
theorem dX9_areHours_1 : decode cX9_areHours 1 = .ok (.iload_n 1, 1) := by decide +kernel
theorem dX9_areHours_2 : decode cX9_areHours 2 = .ok (.iconst 0, 1) := by decide +kernel
theorem dX9_areHours_3 : decode cX9_areHours 3 = .ok (.bipush 11, 2) := by decide +kernel
theorem dX9_areHours_5 : decode cX9_areHours 5 = .ok (.invokevirtual 99, 3) := by decide +kernel
theorem dX9_areHours_8 : decode cX9_areHours 8 = .ok (.ifCond .eq 25, 3) := by decide +kernel
theorem dX9_areHours_11 : decode cX9_areHours 11 = .ok (.aload_n 0, 1) := by decide +kernel
theorem dX9_areHours_12 : decode cX9_areHours 12 = .ok (.iload_n 1, 1) := by decide +kernel
theorem dX9_areHours_13 : decode cX9_areHours 13 = .ok (.iconst 1, 1) := by decide +kernel
theorem dX9_areHours_14 : decode cX9_areHours 14 = .ok (.iadd, 1) := by decide +kernel
theorem dX9_areHours_15 : decode cX9_areHours 15 = .ok (.aload_n 0, 1) := by decide +kernel
theorem dX9_areHours_16 : decode cX9_areHours 16 = .ok (.getfield 26, 3) := by decide +kernel
theorem dX9_areHours_19 : decode cX9_areHours 19 = .ok (.iload_n 1, 1) := by decide +kernel
theorem dX9_areHours_20 : decode cX9_areHours 20 = .ok (.iaload, 1) := by decide +kernel
theorem dX9_areHours_21 : decode cX9_areHours 21 = .ok (.bipush 11, 2) := by decide +kernel
theorem dX9_areHours_23 : decode cX9_areHours 23 = .ok (.invokevirtual 99, 3) := by decide +kernel
theorem dX9_areHours_26 : decode cX9_areHours 26 = .ok (.ifCond .eq 7, 3) := by decide +kernel
theorem dX9_areHours_29 : decode cX9_areHours 29 = .ok (.iconst 1, 1) := by decide +kernel
theorem dX9_areHours_30 : decode cX9_areHours 30 = .ok (.goto 4, 3) := by decide +kernel
theorem dX9_areHours_33 : decode cX9_areHours 33 = .ok (.iconst 0, 1) := by decide +kernel
theorem dX9_areHours_34 : decode cX9_areHours 34 = .ok (.ireturn, 1) := by decide +kernel
theorem dX9_isKiteLine_0 : decode cX9_isKiteLine 0 = .ok (.aload_n 0, 1) := by decide +kernel
theorem dX9_isKiteLine_1 : decode cX9_isKiteLine 1 = .ok (.iload_n 1, 1) := by decide +kernel
theorem dX9_isKiteLine_2 : decode cX9_isKiteLine 2 = .ok (.iconst 1, 1) := by decide +kernel
theorem dX9_isKiteLine_3 : decode cX9_isKiteLine 3 = .ok (.iadd, 1) := by decide +kernel
theorem dX9_isKiteLine_4 : decode cX9_isKiteLine 4 = .ok (.iconst 0, 1) := by decide +kernel
theorem dX9_isKiteLine_5 : decode cX9_isKiteLine 5 = .ok (.iconst 5, 1) := by decide +kernel
theorem dX9_isKiteLine_6 : decode cX9_isKiteLine 6 = .ok (.invokevirtual 99, 3) := by decide +kernel
theorem dX9_isKiteLine_9 : decode cX9_isKiteLine 9 = .ok (.ifCond .eq 71, 3) := by decide +kernel
theorem dX9_isKiteLine_12 : decode cX9_isKiteLine 12 = .ok (.aload_n 0, 1) := by decide +kernel
theorem dX9_isKiteLine_13 : decode cX9_isKiteLine 13 = .ok (.iload_n 1, 1) := by decide +kernel
theorem dX9_isKiteLine_14 : decode cX9_isKiteLine 14 = .ok (.iconst 2, 1) := by decide +kernel
theorem dX9_isKiteLine_15 : decode cX9_isKiteLine 15 = .ok (.iadd, 1) := by decide +kernel
theorem dX9_isKiteLine_16 : decode cX9_isKiteLine 16 = .ok (.iconst 0, 1) := by decide +kernel
theorem dX9_isKiteLine_17 : decode cX9_isKiteLine 17 = .ok (.bipush 9, 2) := by decide +kernel
theorem dX9_isKiteLine_19 : decode cX9_isKiteLine 19 = .ok (.invokevirtual 99, 3) := by decide +kernel
theorem dX9_isKiteLine_22 : decode cX9_isKiteLine 22 = .ok (.ifCond .eq 58, 3) := by decide +kernel
theorem dX9_isKiteLine_25 : decode cX9_isKiteLine 25 = .ok (.aload_n 0, 1) := by decide +kernel
theorem dX9_isKiteLine_26 : decode cX9_isKiteLine 26 = .ok (.iload_n 1, 1) := by decide +kernel
theorem dX9_isKiteLine_27 : decode cX9_isKiteLine 27 = .ok (.iconst 3, 1) := by decide +kernel
theorem dX9_isKiteLine_28 : decode cX9_isKiteLine 28 = .ok (.iadd, 1) := by decide +kernel
theorem dX9_isKiteLine_29 : decode cX9_isKiteLine 29 = .ok (.iconst 1, 1) := by decide +kernel
theorem dX9_isKiteLine_30 : decode cX9_isKiteLine 30 = .ok (.iconst 5, 1) := by decide +kernel
theorem dX9_isKiteLine_31 : decode cX9_isKiteLine 31 = .ok (.invokevirtual 99, 3) := by decide +kernel
theorem dX9_isKiteLine_34 : decode cX9_isKiteLine 34 = .ok (.ifCond .eq 46, 3) := by decide +kernel
theorem dX9_isKiteLine_37 : decode cX9_isKiteLine 37 = .ok (.aload_n 0, 1) := by decide +kernel
theorem dX9_isKiteLine_38 : decode cX9_isKiteLine 38 = .ok (.iload_n 1, 1) := by decide +kernel
theorem dX9_isKiteLine_39 : decode cX9_isKiteLine 39 = .ok (.iconst 4, 1) := by decide +kernel
theorem dX9_isKiteLine_40 : decode cX9_isKiteLine 40 = .ok (.iadd, 1) := by decide +kernel
theorem dX9_isKiteLine_41 : decode cX9_isKiteLine 41 = .ok (.iconst 1, 1) := by decide +kernel
theorem dX9_isKiteLine_42 : decode cX9_isKiteLine 42 = .ok (.bipush 9, 2) := by decide +kernel
theorem dX9_isKiteLine_44 : decode cX9_isKiteLine 44 = .ok (.invokevirtual 99, 3) := by decide +kernel
theorem dX9_isKiteLine_47 : decode cX9_isKiteLine 47 = .ok (.ifCond .eq 33, 3) := by decide +kernel
theorem dX9_isKiteLine_50 : decode cX9_isKiteLine 50 = .ok (.aload_n 0, 1) := by decide +kernel
theorem dX9_isKiteLine_51 : decode cX9_isKiteLine 51 = .ok (.iload_n 1, 1) := by decide +kernel
theorem dX9_isKiteLine_52 : decode cX9_isKiteLine 52 = .ok (.iconst 5, 1) := by decide +kernel
theorem dX9_isKiteLine_53 : decode cX9_isKiteLine 53 = .ok (.iadd, 1) := by decide +kernel
theorem dX9_isKiteLine_54 : decode cX9_isKiteLine 54 = .ok (.iconst 0, 1) := by decide +kernel
theorem dX9_isKiteLine_55 : decode cX9_isKiteLine 55 = .ok (.bipush 9, 2) := by decide +kernel
theorem dX9_isKiteLine_57 : decode cX9_isKiteLine 57 = .ok (.invokevirtual 99, 3) := by decide +kernel
theorem dX9_isKiteLine_60 : decode cX9_isKiteLine 60 = .ok (.ifCond .eq 20, 3) := by decide +kernel
theorem dX9_isKiteLine_63 : decode cX9_isKiteLine 63 = .ok (.aload_n 0, 1) := by decide +kernel
theorem dX9_isKiteLine_64 : decode cX9_isKiteLine 64 = .ok (.iload_n 1, 1) := by decide +kernel
theorem dX9_isKiteLine_65 : decode cX9_isKiteLine 65 = .ok (.bipush 6, 2) := by decide +kernel
theorem dX9_isKiteLine_67 : decode cX9_isKiteLine 67 = .ok (.iadd, 1) := by decide +kernel
theorem dX9_isKiteLine_68 : decode cX9_isKiteLine 68 = .ok (.iconst 0, 1) := by decide +kernel
theorem dX9_isKiteLine_69 : decode cX9_isKiteLine 69 = .ok (.iconst 2, 1) := by decide +kernel
theorem dX9_isKiteLine_70 : decode cX9_isKiteLine 70 = .ok (.invokevirtual 99, 3) := by decide +kernel
theorem dX9_isKiteLine_73 : decode cX9_isKiteLine 73 = .ok (.ifCond .eq 7, 3) := by decide +kernel
theorem dX9_isKiteLine_76 : decode cX9_isKiteLine 76 = .ok (.iconst 1, 1) := by decide +kernel
theorem dX9_isKiteLine_77 : decode cX9_isKiteLine 77 = .ok (.goto 4, 3) := by decide +kernel
theorem dX9_isKiteLine_80 : decode cX9_isKiteLine 80 = .ok (.iconst 0, 1) := by decide +kernel
theorem dX9_isKiteLine_81 : decode cX9_isKiteLine 81 = .ok (.ireturn, 1) := by decide +kernel
theorem dX9_isShoalLine_0 : decode cX9_isShoalLine 0 = .ok (.aload_n 0, 1) := by decide +kernel
theorem dX9_isShoalLine_1 : decode cX9_isShoalLine 1 = .ok (.iload_n 1, 1) := by decide +kernel
theorem dX9_isShoalLine_2 : decode cX9_isShoalLine 2 = .ok (.iconst 1, 1) := by decide +kernel
theorem dX9_isShoalLine_3 : decode cX9_isShoalLine 3 = .ok (.iadd, 1) := by decide +kernel
theorem dX9_isShoalLine_4 : decode cX9_isShoalLine 4 = .ok (.iconst 0, 1) := by decide +kernel
theorem dX9_isShoalLine_5 : decode cX9_isShoalLine 5 = .ok (.iconst 3, 1) := by decide +kernel
theorem dX9_isShoalLine_6 : decode cX9_isShoalLine 6 = .ok (.invokevirtual 99, 3) := by decide +kernel
theorem dX9_isShoalLine_9 : decode cX9_isShoalLine 9 = .ok (.ifCond .eq 71, 3) := by decide +kernel
theorem dX9_isShoalLine_12 : decode cX9_isShoalLine 12 = .ok (.aload_n 0, 1) := by decide +kernel
theorem dX9_isShoalLine_13 : decode cX9_isShoalLine 13 = .ok (.iload_n 1, 1) := by decide +kernel
theorem dX9_isShoalLine_14 : decode cX9_isShoalLine 14 = .ok (.iconst 2, 1) := by decide +kernel
theorem dX9_isShoalLine_15 : decode cX9_isShoalLine 15 = .ok (.iadd, 1) := by decide +kernel
theorem dX9_isShoalLine_16 : decode cX9_isShoalLine 16 = .ok (.iconst 0, 1) := by decide +kernel
theorem dX9_isShoalLine_17 : decode cX9_isShoalLine 17 = .ok (.bipush 9, 2) := by decide +kernel
theorem dX9_isShoalLine_19 : decode cX9_isShoalLine 19 = .ok (.invokevirtual 99, 3) := by decide +kernel
theorem dX9_isShoalLine_22 : decode cX9_isShoalLine 22 = .ok (.ifCond .eq 58, 3) := by decide +kernel
theorem dX9_isShoalLine_25 : decode cX9_isShoalLine 25 = .ok (.aload_n 0, 1) := by decide +kernel
theorem dX9_isShoalLine_26 : decode cX9_isShoalLine 26 = .ok (.iload_n 1, 1) := by decide +kernel
theorem dX9_isShoalLine_27 : decode cX9_isShoalLine 27 = .ok (.iconst 3, 1) := by decide +kernel
theorem dX9_isShoalLine_28 : decode cX9_isShoalLine 28 = .ok (.iadd, 1) := by decide +kernel
theorem dX9_isShoalLine_29 : decode cX9_isShoalLine 29 = .ok (.iconst 1, 1) := by decide +kernel
theorem dX9_isShoalLine_30 : decode cX9_isShoalLine 30 = .ok (.bipush 6, 2) := by decide +kernel
theorem dX9_isShoalLine_32 : decode cX9_isShoalLine 32 = .ok (.invokevirtual 99, 3) := by decide +kernel
theorem dX9_isShoalLine_35 : decode cX9_isShoalLine 35 = .ok (.ifCond .eq 45, 3) := by decide +kernel
theorem dX9_isShoalLine_38 : decode cX9_isShoalLine 38 = .ok (.aload_n 0, 1) := by decide +kernel
theorem dX9_isShoalLine_39 : decode cX9_isShoalLine 39 = .ok (.iload_n 1, 1) := by decide +kernel
theorem dX9_isShoalLine_40 : decode cX9_isShoalLine 40 = .ok (.iconst 4, 1) := by decide +kernel
theorem dX9_isShoalLine_41 : decode cX9_isShoalLine 41 = .ok (.iadd, 1) := by decide +kernel
theorem dX9_isShoalLine_42 : decode cX9_isShoalLine 42 = .ok (.iconst 0, 1) := by decide +kernel
theorem dX9_isShoalLine_43 : decode cX9_isShoalLine 43 = .ok (.iconst 2, 1) := by decide +kernel
theorem dX9_isShoalLine_44 : decode cX9_isShoalLine 44 = .ok (.invokevirtual 99, 3) := by decide +kernel
theorem dX9_isShoalLine_47 : decode cX9_isShoalLine 47 = .ok (.ifCond .eq 33, 3) := by decide +kernel
theorem dX9_isShoalLine_50 : decode cX9_isShoalLine 50 = .ok (.aload_n 0, 1) := by decide +kernel
theorem dX9_isShoalLine_51 : decode cX9_isShoalLine 51 = .ok (.iload_n 1, 1) := by decide +kernel
theorem dX9_isShoalLine_52 : decode cX9_isShoalLine 52 = .ok (.iconst 5, 1) := by decide +kernel
theorem dX9_isShoalLine_53 : decode cX9_isShoalLine 53 = .ok (.iadd, 1) := by decide +kernel
theorem dX9_isShoalLine_54 : decode cX9_isShoalLine 54 = .ok (.iconst 0, 1) := by decide +kernel
theorem dX9_isShoalLine_55 : decode cX9_isShoalLine 55 = .ok (.iconst 2, 1) := by decide +kernel
theorem dX9_isShoalLine_56 : decode cX9_isShoalLine 56 = .ok (.invokevirtual 99, 3) := by decide +kernel
theorem dX9_isShoalLine_59 : decode cX9_isShoalLine 59 = .ok (.ifCond .eq 21, 3) := by decide +kernel
theorem dX9_isShoalLine_62 : decode cX9_isShoalLine 62 = .ok (.aload_n 0, 1) := by decide +kernel
theorem dX9_isShoalLine_63 : decode cX9_isShoalLine 63 = .ok (.iload_n 1, 1) := by decide +kernel
theorem dX9_isShoalLine_64 : decode cX9_isShoalLine 64 = .ok (.bipush 6, 2) := by decide +kernel
theorem dX9_isShoalLine_66 : decode cX9_isShoalLine 66 = .ok (.iadd, 1) := by decide +kernel
theorem dX9_isShoalLine_67 : decode cX9_isShoalLine 67 = .ok (.iconst 0, 1) := by decide +kernel
theorem dX9_isShoalLine_68 : decode cX9_isShoalLine 68 = .ok (.bipush 99, 2) := by decide +kernel
theorem dX9_isShoalLine_70 : decode cX9_isShoalLine 70 = .ok (.invokevirtual 99, 3) := by decide +kernel
theorem dX9_isShoalLine_73 : decode cX9_isShoalLine 73 = .ok (.ifCond .eq 7, 3) := by decide +kernel
theorem dX9_isShoalLine_76 : decode cX9_isShoalLine 76 = .ok (.iconst 1, 1) := by decide +kernel
theorem dX9_isShoalLine_77 : decode cX9_isShoalLine 77 = .ok (.goto 4, 3) := by decide +kernel
theorem dX9_isShoalLine_80 : decode cX9_isShoalLine 80 = .ok (.iconst 0, 1) := by decide +kernel
theorem dX9_isShoalLine_81 : decode cX9_isShoalLine 81 = .ok (.ireturn, 1) := by decide +kernel
theorem dX9_isLine_0 : decode cX9_isLine 0 = .ok (.aload_n 0, 1) := by decide +kernel
theorem dX9_isLine_1 : decode cX9_isLine 1 = .ok (.invokevirtual 92, 3) := by decide +kernel
theorem dX9_isLine_4 : decode cX9_isLine 4 = .ok (.aload_n 0, 1) := by decide +kernel
theorem dX9_isLine_5 : decode cX9_isLine 5 = .ok (.getfield 75, 3) := by decide +kernel
theorem dX9_isLine_8 : decode cX9_isLine 8 = .ok (.ldc2_w 102, 3) := by decide +kernel
theorem dX9_isLine_11 : decode cX9_isLine 11 = .ok (.lcmp, 1) := by decide +kernel
theorem dX9_isLine_12 : decode cX9_isLine 12 = .ok (.ifCond .ne 7, 3) := by decide +kernel
theorem dX9_isLine_15 : decode cX9_isLine 15 = .ok (.iconst 0, 1) := by decide +kernel
theorem dX9_isLine_16 : decode cX9_isLine 16 = .ok (.goto 64, 3) := by decide +kernel
theorem dX9_isLine_19 : decode cX9_isLine 19 = .ok (.aload_n 0, 1) := by decide +kernel
theorem dX9_isLine_20 : decode cX9_isLine 20 = .ok (.getfield 75, 3) := by decide +kernel
theorem dX9_isLine_23 : decode cX9_isLine 23 = .ok (.ldc2_w 104, 3) := by decide +kernel
theorem dX9_isLine_26 : decode cX9_isLine 26 = .ok (.lcmp, 1) := by decide +kernel
theorem dX9_isLine_27 : decode cX9_isLine 27 = .ok (.ifCond .ne 7, 3) := by decide +kernel
theorem dX9_isLine_30 : decode cX9_isLine 30 = .ok (.iconst 1, 1) := by decide +kernel
theorem dX9_isLine_31 : decode cX9_isLine 31 = .ok (.goto 49, 3) := by decide +kernel
theorem dX9_isLine_34 : decode cX9_isLine 34 = .ok (.aload_n 0, 1) := by decide +kernel
theorem dX9_isLine_35 : decode cX9_isLine 35 = .ok (.getfield 75, 3) := by decide +kernel
theorem dX9_isLine_38 : decode cX9_isLine 38 = .ok (.ldc2_w 106, 3) := by decide +kernel
theorem dX9_isLine_41 : decode cX9_isLine 41 = .ok (.lcmp, 1) := by decide +kernel
theorem dX9_isLine_42 : decode cX9_isLine 42 = .ok (.ifCond .ne 7, 3) := by decide +kernel
theorem dX9_isLine_45 : decode cX9_isLine 45 = .ok (.iconst 2, 1) := by decide +kernel
theorem dX9_isLine_46 : decode cX9_isLine 46 = .ok (.goto 34, 3) := by decide +kernel
theorem dX9_isLine_49 : decode cX9_isLine 49 = .ok (.aload_n 0, 1) := by decide +kernel
theorem dX9_isLine_50 : decode cX9_isLine 50 = .ok (.getfield 75, 3) := by decide +kernel
theorem dX9_isLine_53 : decode cX9_isLine 53 = .ok (.ldc2_w 108, 3) := by decide +kernel
theorem dX9_isLine_56 : decode cX9_isLine 56 = .ok (.lcmp, 1) := by decide +kernel
theorem dX9_isLine_57 : decode cX9_isLine 57 = .ok (.ifCond .ne 7, 3) := by decide +kernel
theorem dX9_isLine_60 : decode cX9_isLine 60 = .ok (.iconst 3, 1) := by decide +kernel
theorem dX9_isLine_61 : decode cX9_isLine 61 = .ok (.goto 19, 3) := by decide +kernel
theorem dX9_isLine_64 : decode cX9_isLine 64 = .ok (.aload_n 0, 1) := by decide +kernel
theorem dX9_isLine_65 : decode cX9_isLine 65 = .ok (.getfield 75, 3) := by decide +kernel
theorem dX9_isLine_68 : decode cX9_isLine 68 = .ok (.ldc2_w 110, 3) := by decide +kernel
theorem dX9_isLine_71 : decode cX9_isLine 71 = .ok (.lcmp, 1) := by decide +kernel
theorem dX9_isLine_72 : decode cX9_isLine 72 = .ok (.ifCond .ne 7, 3) := by decide +kernel
theorem dX9_isLine_75 : decode cX9_isLine 75 = .ok (.iconst 4, 1) := by decide +kernel
theorem dX9_isLine_76 : decode cX9_isLine 76 = .ok (.goto 4, 3) := by decide +kernel
theorem dX9_isLine_79 : decode cX9_isLine 79 = .ok (.iconst (-1), 1) := by decide +kernel
theorem dX9_isLine_80 : decode cX9_isLine 80 = .ok (.istore_n 2, 1) := by decide +kernel
theorem dX9_isLine_81 : decode cX9_isLine 81 = .ok (.aload_n 0, 1) := by decide +kernel
theorem dX9_isLine_82 : decode cX9_isLine 82 = .ok (.getfield 75, 3) := by decide +kernel
theorem dX9_isLine_85 : decode cX9_isLine 85 = .ok (.ldc2_w 112, 3) := by decide +kernel
theorem dX9_isLine_88 : decode cX9_isLine 88 = .ok (.lcmp, 1) := by decide +kernel
theorem dX9_isLine_89 : decode cX9_isLine 89 = .ok (.ifCond .ne 7, 3) := by decide +kernel
theorem dX9_isLine_92 : decode cX9_isLine 92 = .ok (.iconst 5, 1) := by decide +kernel
theorem dX9_isLine_93 : decode cX9_isLine 93 = .ok (.goto 52, 3) := by decide +kernel
theorem dX9_isLine_96 : decode cX9_isLine 96 = .ok (.aload_n 0, 1) := by decide +kernel
theorem dX9_isLine_97 : decode cX9_isLine 97 = .ok (.getfield 75, 3) := by decide +kernel
theorem dX9_isLine_100 : decode cX9_isLine 100 = .ok (.ldc2_w 114, 3) := by decide +kernel
theorem dX9_isLine_103 : decode cX9_isLine 103 = .ok (.lcmp, 1) := by decide +kernel
theorem dX9_isLine_104 : decode cX9_isLine 104 = .ok (.ifCond .ne 8, 3) := by decide +kernel
theorem dX9_isLine_107 : decode cX9_isLine 107 = .ok (.bipush 6, 2) := by decide +kernel
theorem dX9_isLine_109 : decode cX9_isLine 109 = .ok (.goto 36, 3) := by decide +kernel
theorem dX9_isLine_112 : decode cX9_isLine 112 = .ok (.aload_n 0, 1) := by decide +kernel
theorem dX9_isLine_113 : decode cX9_isLine 113 = .ok (.getfield 75, 3) := by decide +kernel
theorem dX9_isLine_116 : decode cX9_isLine 116 = .ok (.ldc2_w 116, 3) := by decide +kernel
theorem dX9_isLine_119 : decode cX9_isLine 119 = .ok (.lcmp, 1) := by decide +kernel
theorem dX9_isLine_120 : decode cX9_isLine 120 = .ok (.ifCond .ne 8, 3) := by decide +kernel
theorem dX9_isLine_123 : decode cX9_isLine 123 = .ok (.bipush 7, 2) := by decide +kernel
theorem dX9_isLine_125 : decode cX9_isLine 125 = .ok (.goto 20, 3) := by decide +kernel
theorem dX9_isLine_128 : decode cX9_isLine 128 = .ok (.aload_n 0, 1) := by decide +kernel
theorem dX9_isLine_129 : decode cX9_isLine 129 = .ok (.getfield 75, 3) := by decide +kernel
theorem dX9_isLine_132 : decode cX9_isLine 132 = .ok (.ldc2_w 118, 3) := by decide +kernel
theorem dX9_isLine_135 : decode cX9_isLine 135 = .ok (.lcmp, 1) := by decide +kernel
theorem dX9_isLine_136 : decode cX9_isLine 136 = .ok (.ifCond .ne 8, 3) := by decide +kernel
theorem dX9_isLine_139 : decode cX9_isLine 139 = .ok (.bipush 8, 2) := by decide +kernel
theorem dX9_isLine_141 : decode cX9_isLine 141 = .ok (.goto 4, 3) := by decide +kernel
theorem dX9_isLine_144 : decode cX9_isLine 144 = .ok (.iconst (-1), 1) := by decide +kernel
theorem dX9_isLine_145 : decode cX9_isLine 145 = .ok (.istore_n 3, 1) := by decide +kernel
theorem dX9_isLine_146 : decode cX9_isLine 146 = .ok (.aload_n 0, 1) := by decide +kernel
theorem dX9_isLine_147 : decode cX9_isLine 147 = .ok (.getfield 26, 3) := by decide +kernel
theorem dX9_isLine_150 : decode cX9_isLine 150 = .ok (.iload_n 1, 1) := by decide +kernel
theorem dX9_isLine_151 : decode cX9_isLine 151 = .ok (.iload_n 2, 1) := by decide +kernel
theorem dX9_isLine_152 : decode cX9_isLine 152 = .ok (.iconst (-1), 1) := by decide +kernel
theorem dX9_isLine_153 : decode cX9_isLine 153 = .ok (.if_icmp .ne 7, 3) := by decide +kernel
theorem dX9_isLine_156 : decode cX9_isLine 156 = .ok (.iload_n 3, 1) := by decide +kernel
theorem dX9_isLine_157 : decode cX9_isLine 157 = .ok (.goto 4, 3) := by decide +kernel
theorem dX9_isLine_160 : decode cX9_isLine 160 = .ok (.iload_n 2, 1) := by decide +kernel
theorem dX9_isLine_161 : decode cX9_isLine 161 = .ok (.iastore, 1) := by decide +kernel
theorem dX9_isLine_162 : decode cX9_isLine 162 = .ok (.aload_n 0, 1) := by decide +kernel
theorem dX9_isLine_163 : decode cX9_isLine 163 = .ok (.getfield 26, 3) := by decide +kernel
theorem dX9_isLine_166 : decode cX9_isLine 166 = .ok (.iload_n 1, 1) := by decide +kernel
theorem dX9_isLine_167 : decode cX9_isLine 167 = .ok (.iaload, 1) := by decide +kernel
theorem dX9_isLine_168 : decode cX9_isLine 168 = .ok (.tableswitch 170 0 8 #[52, 106, 112, 118, 128, 139, 147, 158, 160], 52) := by decide +kernel
theorem dX9_isLine_220 : decode cX9_isLine 220 = .ok (.aload_n 0, 1) := by decide +kernel
theorem dX9_isLine_221 : decode cX9_isLine 221 = .ok (.iload_n 1, 1) := by decide +kernel
theorem dX9_isLine_222 : decode cX9_isLine 222 = .ok (.iconst 1, 1) := by decide +kernel
theorem dX9_isLine_223 : decode cX9_isLine 223 = .ok (.iadd, 1) := by decide +kernel
theorem dX9_isLine_224 : decode cX9_isLine 224 = .ok (.iconst 1, 1) := by decide +kernel
theorem dX9_isLine_225 : decode cX9_isLine 225 = .ok (.iconst 3, 1) := by decide +kernel
theorem dX9_isLine_226 : decode cX9_isLine 226 = .ok (.invokevirtual 99, 3) := by decide +kernel
theorem dX9_isLine_229 : decode cX9_isLine 229 = .ok (.ifCond .eq 43, 3) := by decide +kernel
theorem dX9_isLine_232 : decode cX9_isLine 232 = .ok (.aload_n 0, 1) := by decide +kernel
theorem dX9_isLine_233 : decode cX9_isLine 233 = .ok (.iload_n 1, 1) := by decide +kernel
theorem dX9_isLine_234 : decode cX9_isLine 234 = .ok (.iconst 2, 1) := by decide +kernel
theorem dX9_isLine_235 : decode cX9_isLine 235 = .ok (.iadd, 1) := by decide +kernel
theorem dX9_isLine_236 : decode cX9_isLine 236 = .ok (.invokevirtual 120, 3) := by decide +kernel
theorem dX9_isLine_239 : decode cX9_isLine 239 = .ok (.ifCond .eq 33, 3) := by decide +kernel
theorem dX9_isLine_242 : decode cX9_isLine 242 = .ok (.aload_n 0, 1) := by decide +kernel
theorem dX9_isLine_243 : decode cX9_isLine 243 = .ok (.iload_n 1, 1) := by decide +kernel
theorem dX9_isLine_244 : decode cX9_isLine 244 = .ok (.iconst 4, 1) := by decide +kernel
theorem dX9_isLine_245 : decode cX9_isLine 245 = .ok (.iadd, 1) := by decide +kernel
theorem dX9_isLine_246 : decode cX9_isLine 246 = .ok (.iconst 0, 1) := by decide +kernel
theorem dX9_isLine_247 : decode cX9_isLine 247 = .ok (.bipush 9, 2) := by decide +kernel
theorem dX9_isLine_249 : decode cX9_isLine 249 = .ok (.invokevirtual 99, 3) := by decide +kernel
theorem dX9_isLine_252 : decode cX9_isLine 252 = .ok (.ifCond .eq 20, 3) := by decide +kernel
theorem dX9_isLine_255 : decode cX9_isLine 255 = .ok (.aload_n 0, 1) := by decide +kernel
theorem dX9_isLine_256 : decode cX9_isLine 256 = .ok (.iload_n 1, 1) := by decide +kernel
theorem dX9_isLine_257 : decode cX9_isLine 257 = .ok (.iconst 5, 1) := by decide +kernel
theorem dX9_isLine_258 : decode cX9_isLine 258 = .ok (.iadd, 1) := by decide +kernel
theorem dX9_isLine_259 : decode cX9_isLine 259 = .ok (.iconst 0, 1) := by decide +kernel
theorem dX9_isLine_260 : decode cX9_isLine 260 = .ok (.bipush 6, 2) := by decide +kernel
theorem dX9_isLine_262 : decode cX9_isLine 262 = .ok (.invokevirtual 99, 3) := by decide +kernel
theorem dX9_isLine_265 : decode cX9_isLine 265 = .ok (.ifCond .eq 7, 3) := by decide +kernel
theorem dX9_isLine_268 : decode cX9_isLine 268 = .ok (.iconst 1, 1) := by decide +kernel
theorem dX9_isLine_269 : decode cX9_isLine 269 = .ok (.goto 4, 3) := by decide +kernel
theorem dX9_isLine_272 : decode cX9_isLine 272 = .ok (.iconst 0, 1) := by decide +kernel
theorem dX9_isLine_273 : decode cX9_isLine 273 = .ok (.ireturn, 1) := by decide +kernel
theorem dX9_isLine_274 : decode cX9_isLine 274 = .ok (.aload_n 0, 1) := by decide +kernel
theorem dX9_isLine_275 : decode cX9_isLine 275 = .ok (.iload_n 1, 1) := by decide +kernel
theorem dX9_isLine_276 : decode cX9_isLine 276 = .ok (.invokevirtual 124, 3) := by decide +kernel
theorem dX9_isLine_279 : decode cX9_isLine 279 = .ok (.ireturn, 1) := by decide +kernel
theorem dX9_isLine_280 : decode cX9_isLine 280 = .ok (.aload_n 0, 1) := by decide +kernel
theorem dX9_isLine_281 : decode cX9_isLine 281 = .ok (.iload_n 1, 1) := by decide +kernel
theorem dX9_isLine_282 : decode cX9_isLine 282 = .ok (.invokevirtual 127, 3) := by decide +kernel
theorem dX9_isLine_285 : decode cX9_isLine 285 = .ok (.ireturn, 1) := by decide +kernel
theorem dX9_isLine_286 : decode cX9_isLine 286 = .ok (.aload_n 0, 1) := by decide +kernel
theorem dX9_isLine_287 : decode cX9_isLine 287 = .ok (.iload_n 1, 1) := by decide +kernel
theorem dX9_isLine_288 : decode cX9_isLine 288 = .ok (.iconst 1, 1) := by decide +kernel
theorem dX9_isLine_289 : decode cX9_isLine 289 = .ok (.iadd, 1) := by decide +kernel
theorem dX9_isLine_290 : decode cX9_isLine 290 = .ok (.iconst 0, 1) := by decide +kernel
theorem dX9_isLine_291 : decode cX9_isLine 291 = .ok (.iconst 2, 1) := by decide +kernel
theorem dX9_isLine_292 : decode cX9_isLine 292 = .ok (.invokevirtual 99, 3) := by decide +kernel
theorem dX9_isLine_295 : decode cX9_isLine 295 = .ok (.ireturn, 1) := by decide +kernel
theorem dX9_isLine_296 : decode cX9_isLine 296 = .ok (.aload_n 0, 1) := by decide +kernel
theorem dX9_isLine_297 : decode cX9_isLine 297 = .ok (.iload_n 1, 1) := by decide +kernel
theorem dX9_isLine_298 : decode cX9_isLine 298 = .ok (.iconst 1, 1) := by decide +kernel
theorem dX9_isLine_299 : decode cX9_isLine 299 = .ok (.iadd, 1) := by decide +kernel
theorem dX9_isLine_300 : decode cX9_isLine 300 = .ok (.iconst 0, 1) := by decide +kernel
theorem dX9_isLine_301 : decode cX9_isLine 301 = .ok (.bipush 99, 2) := by decide +kernel
theorem dX9_isLine_303 : decode cX9_isLine 303 = .ok (.invokevirtual 99, 3) := by decide +kernel
theorem dX9_isLine_306 : decode cX9_isLine 306 = .ok (.ireturn, 1) := by decide +kernel
theorem dX9_isLine_307 : decode cX9_isLine 307 = .ok (.aload_n 0, 1) := by decide +kernel
theorem dX9_isLine_308 : decode cX9_isLine 308 = .ok (.iload_n 1, 1) := by decide +kernel
theorem dX9_isLine_309 : decode cX9_isLine 309 = .ok (.iconst 1, 1) := by decide +kernel
theorem dX9_isLine_310 : decode cX9_isLine 310 = .ok (.iadd, 1) := by decide +kernel
theorem dX9_isLine_311 : decode cX9_isLine 311 = .ok (.invokevirtual 120, 3) := by decide +kernel
theorem dX9_isLine_314 : decode cX9_isLine 314 = .ok (.ireturn, 1) := by decide +kernel
theorem dX9_isLine_315 : decode cX9_isLine 315 = .ok (.aload_n 0, 1) := by decide +kernel
theorem dX9_isLine_316 : decode cX9_isLine 316 = .ok (.iload_n 1, 1) := by decide +kernel
theorem dX9_isLine_317 : decode cX9_isLine 317 = .ok (.iconst 1, 1) := by decide +kernel
theorem dX9_isLine_318 : decode cX9_isLine 318 = .ok (.iadd, 1) := by decide +kernel
theorem dX9_isLine_319 : decode cX9_isLine 319 = .ok (.iconst 0, 1) := by decide +kernel
theorem dX9_isLine_320 : decode cX9_isLine 320 = .ok (.bipush 9, 2) := by decide +kernel
theorem dX9_isLine_322 : decode cX9_isLine 322 = .ok (.invokevirtual 99, 3) := by decide +kernel
theorem dX9_isLine_325 : decode cX9_isLine 325 = .ok (.ireturn, 1) := by decide +kernel
theorem dX9_isLine_326 : decode cX9_isLine 326 = .ok (.iconst 1, 1) := by decide +kernel
theorem dX9_isLine_327 : decode cX9_isLine 327 = .ok (.ireturn, 1) := by decide +kernel
theorem dX9_isLine_328 : decode cX9_isLine 328 = .ok (.aload_n 0, 1) := by decide +kernel
theorem dX9_isLine_329 : decode cX9_isLine 329 = .ok (.iload_n 1, 1) := by decide +kernel
theorem dX9_isLine_330 : decode cX9_isLine 330 = .ok (.iconst 1, 1) := by decide +kernel
theorem dX9_isLine_331 : decode cX9_isLine 331 = .ok (.iadd, 1) := by decide +kernel
theorem dX9_isLine_332 : decode cX9_isLine 332 = .ok (.iconst 0, 1) := by decide +kernel
theorem dX9_isLine_333 : decode cX9_isLine 333 = .ok (.iconst 5, 1) := by decide +kernel
theorem dX9_isLine_334 : decode cX9_isLine 334 = .ok (.invokevirtual 99, 3) := by decide +kernel
theorem dX9_isLine_337 : decode cX9_isLine 337 = .ok (.ireturn, 1) := by decide +kernel
theorem dX9_isLine_338 : decode cX9_isLine 338 = .ok (.aload_n 0, 1) := by decide +kernel
theorem dX9_isLine_339 : decode cX9_isLine 339 = .ok (.invokevirtual 95, 3) := by decide +kernel
theorem dX9_isLine_342 : decode cX9_isLine 342 = .ok (.ireturn, 1) := by decide +kernel
theorem dX9_isRead_0 : decode cX9_isRead 0 = .ok (.aload_n 0, 1) := by decide +kernel
theorem dX9_isRead_1 : decode cX9_isRead 1 = .ok (.iconst 0, 1) := by decide +kernel
theorem dX9_isRead_2 : decode cX9_isRead 2 = .ok (.putfield 61, 3) := by decide +kernel
theorem dX9_isRead_5 : decode cX9_isRead 5 = .ok (.aload_n 0, 1) := by decide +kernel
theorem dX9_isRead_6 : decode cX9_isRead 6 = .ok (.iconst 0, 1) := by decide +kernel
theorem dX9_isRead_7 : decode cX9_isRead 7 = .ok (.putfield 130, 3) := by decide +kernel
theorem dX9_isRead_10 : decode cX9_isRead 10 = .ok (.iconst 1, 1) := by decide +kernel
theorem dX9_isRead_11 : decode cX9_isRead 11 = .ok (.istore_n 1, 1) := by decide +kernel
theorem dX9_isRead_12 : decode cX9_isRead 12 = .ok (.iload_n 1, 1) := by decide +kernel
theorem dX9_isRead_13 : decode cX9_isRead 13 = .ok (.ifCond .eq 62, 3) := by decide +kernel
theorem dX9_isRead_16 : decode cX9_isRead 16 = .ok (.aload_n 0, 1) := by decide +kernel
theorem dX9_isRead_17 : decode cX9_isRead 17 = .ok (.bipush 7, 2) := by decide +kernel
theorem dX9_isRead_19 : decode cX9_isRead 19 = .ok (.aload_n 0, 1) := by decide +kernel
theorem dX9_isRead_20 : decode cX9_isRead 20 = .ok (.getfield 130, 3) := by decide +kernel
theorem dX9_isRead_23 : decode cX9_isRead 23 = .ok (.imul, 1) := by decide +kernel
theorem dX9_isRead_24 : decode cX9_isRead 24 = .ok (.invokevirtual 133, 3) := by decide +kernel
theorem dX9_isRead_27 : decode cX9_isRead 27 = .ok (.ifCond .ne 5, 3) := by decide +kernel
theorem dX9_isRead_30 : decode cX9_isRead 30 = .ok (.iconst 0, 1) := by decide +kernel
theorem dX9_isRead_31 : decode cX9_isRead 31 = .ok (.ireturn, 1) := by decide +kernel
theorem dX9_isRead_32 : decode cX9_isRead 32 = .ok (.aload_n 0, 1) := by decide +kernel
theorem dX9_isRead_33 : decode cX9_isRead 33 = .ok (.dup, 1) := by decide +kernel
theorem dX9_isRead_34 : decode cX9_isRead 34 = .ok (.getfield 130, 3) := by decide +kernel
theorem dX9_isRead_37 : decode cX9_isRead 37 = .ok (.iconst 1, 1) := by decide +kernel
theorem dX9_isRead_38 : decode cX9_isRead 38 = .ok (.iadd, 1) := by decide +kernel
theorem dX9_isRead_39 : decode cX9_isRead 39 = .ok (.putfield 130, 3) := by decide +kernel
theorem dX9_isRead_42 : decode cX9_isRead 42 = .ok (.aload_n 0, 1) := by decide +kernel
theorem dX9_isRead_43 : decode cX9_isRead 43 = .ok (.invokevirtual 92, 3) := by decide +kernel
theorem dX9_isRead_46 : decode cX9_isRead 46 = .ok (.aload_n 0, 1) := by decide +kernel
theorem dX9_isRead_47 : decode cX9_isRead 47 = .ok (.getfield 75, 3) := by decide +kernel
theorem dX9_isRead_50 : decode cX9_isRead 50 = .ok (.ldc2_w 87, 3) := by decide +kernel
theorem dX9_isRead_53 : decode cX9_isRead 53 = .ok (.lcmp, 1) := by decide +kernel
theorem dX9_isRead_54 : decode cX9_isRead 54 = .ok (.ifCond .ne 16, 3) := by decide +kernel
theorem dX9_isRead_57 : decode cX9_isRead 57 = .ok (.aload_n 0, 1) := by decide +kernel
theorem dX9_isRead_58 : decode cX9_isRead 58 = .ok (.getfield 130, 3) := by decide +kernel
theorem dX9_isRead_61 : decode cX9_isRead 61 = .ok (.bipush 10, 2) := by decide +kernel
theorem dX9_isRead_63 : decode cX9_isRead 63 = .ok (.if_icmp .ge 7, 3) := by decide +kernel
theorem dX9_isRead_66 : decode cX9_isRead 66 = .ok (.iconst 1, 1) := by decide +kernel
theorem dX9_isRead_67 : decode cX9_isRead 67 = .ok (.goto 4, 3) := by decide +kernel
theorem dX9_isRead_70 : decode cX9_isRead 70 = .ok (.iconst 0, 1) := by decide +kernel
theorem dX9_isRead_71 : decode cX9_isRead 71 = .ok (.istore_n 1, 1) := by decide +kernel
theorem dX9_isRead_72 : decode cX9_isRead 72 = .ok (.goto (-60), 3) := by decide +kernel
theorem dX9_isRead_75 : decode cX9_isRead 75 = .ok (.aload_n 0, 1) := by decide +kernel
theorem dX9_isRead_76 : decode cX9_isRead 76 = .ok (.getfield 75, 3) := by decide +kernel
theorem dX9_isRead_79 : decode cX9_isRead 79 = .ok (.ldc2_w 73, 3) := by decide +kernel
theorem dX9_isRead_82 : decode cX9_isRead 82 = .ok (.lcmp, 1) := by decide +kernel
theorem dX9_isRead_83 : decode cX9_isRead 83 = .ok (.ifCond .eq 10, 3) := by decide +kernel
theorem dX9_isRead_86 : decode cX9_isRead 86 = .ok (.aload_n 0, 1) := by decide +kernel
theorem dX9_isRead_87 : decode cX9_isRead 87 = .ok (.invokevirtual 95, 3) := by decide +kernel
theorem dX9_isRead_90 : decode cX9_isRead 90 = .ok (.ifCond .eq 7, 3) := by decide +kernel
theorem dX9_isRead_93 : decode cX9_isRead 93 = .ok (.iconst 1, 1) := by decide +kernel
theorem dX9_isRead_94 : decode cX9_isRead 94 = .ok (.goto 4, 3) := by decide +kernel
theorem dX9_isRead_97 : decode cX9_isRead 97 = .ok (.iconst 0, 1) := by decide +kernel
theorem dX9_isRead_98 : decode cX9_isRead 98 = .ok (.ireturn, 1) := by decide +kernel
theorem dX9_fault_0 : decode cX9_fault 0 = .ok (.aload_n 0, 1) := by decide +kernel
theorem dX9_fault_1 : decode cX9_fault 1 = .ok (.invokevirtual 136, 3) := by decide +kernel
theorem dX9_fault_4 : decode cX9_fault 4 = .ok (.ifCond .eq 7, 3) := by decide +kernel
theorem dX9_fault_7 : decode cX9_fault 7 = .ok (.iconst (-1), 1) := by decide +kernel
theorem dX9_fault_8 : decode cX9_fault 8 = .ok (.goto 7, 3) := by decide +kernel
theorem dX9_fault_11 : decode cX9_fault 11 = .ok (.aload_n 0, 1) := by decide +kernel
theorem dX9_fault_12 : decode cX9_fault 12 = .ok (.getfield 89, 3) := by decide +kernel
theorem dX9_fault_15 : decode cX9_fault 15 = .ok (.ireturn, 1) := by decide +kernel
theorem dX9_putWind_0 : decode cX9_putWind 0 = .ok (.iload_n 2, 1) := by decide +kernel
theorem dX9_putWind_1 : decode cX9_putWind 1 = .ok (.istore 6, 2) := by decide +kernel
theorem dX9_putWind_3 : decode cX9_putWind 3 = .ok (.iload 6, 2) := by decide +kernel
theorem dX9_putWind_5 : decode cX9_putWind 5 = .ok (.iload_n 3, 1) := by decide +kernel
theorem dX9_putWind_6 : decode cX9_putWind 6 = .ok (.if_icmp .gt 43, 3) := by decide +kernel
theorem dX9_putWind_9 : decode cX9_putWind 9 = .ok (.aload_n 0, 1) := by decide +kernel
theorem dX9_putWind_10 : decode cX9_putWind 10 = .ok (.getfield 7, 3) := by decide +kernel
theorem dX9_putWind_13 : decode cX9_putWind 13 = .ok (.bipush 24, 2) := by decide +kernel
theorem dX9_putWind_15 : decode cX9_putWind 15 = .ok (.iload_n 1, 1) := by decide +kernel
theorem dX9_putWind_16 : decode cX9_putWind 16 = .ok (.imul, 1) := by decide +kernel
theorem dX9_putWind_17 : decode cX9_putWind 17 = .ok (.iconst 2, 1) := by decide +kernel
theorem dX9_putWind_18 : decode cX9_putWind 18 = .ok (.iload 6, 2) := by decide +kernel
theorem dX9_putWind_20 : decode cX9_putWind 20 = .ok (.imul, 1) := by decide +kernel
theorem dX9_putWind_21 : decode cX9_putWind 21 = .ok (.iadd, 1) := by decide +kernel
theorem dX9_putWind_22 : decode cX9_putWind 22 = .ok (.iload 4, 2) := by decide +kernel
theorem dX9_putWind_24 : decode cX9_putWind 24 = .ok (.iastore, 1) := by decide +kernel
theorem dX9_putWind_25 : decode cX9_putWind 25 = .ok (.aload_n 0, 1) := by decide +kernel
theorem dX9_putWind_26 : decode cX9_putWind 26 = .ok (.getfield 7, 3) := by decide +kernel
theorem dX9_putWind_29 : decode cX9_putWind 29 = .ok (.bipush 24, 2) := by decide +kernel
theorem dX9_putWind_31 : decode cX9_putWind 31 = .ok (.iload_n 1, 1) := by decide +kernel
theorem dX9_putWind_32 : decode cX9_putWind 32 = .ok (.imul, 1) := by decide +kernel
theorem dX9_putWind_33 : decode cX9_putWind 33 = .ok (.iconst 2, 1) := by decide +kernel
theorem dX9_putWind_34 : decode cX9_putWind 34 = .ok (.iload 6, 2) := by decide +kernel
theorem dX9_putWind_36 : decode cX9_putWind 36 = .ok (.imul, 1) := by decide +kernel
theorem dX9_putWind_37 : decode cX9_putWind 37 = .ok (.iadd, 1) := by decide +kernel
theorem dX9_putWind_38 : decode cX9_putWind 38 = .ok (.iconst 1, 1) := by decide +kernel
theorem dX9_putWind_39 : decode cX9_putWind 39 = .ok (.iadd, 1) := by decide +kernel
theorem dX9_putWind_40 : decode cX9_putWind 40 = .ok (.iload 5, 2) := by decide +kernel
theorem dX9_putWind_42 : decode cX9_putWind 42 = .ok (.iastore, 1) := by decide +kernel
theorem dX9_putWind_43 : decode cX9_putWind 43 = .ok (.iinc 6 1, 3) := by decide +kernel
theorem dX9_putWind_46 : decode cX9_putWind 46 = .ok (.goto (-43), 3) := by decide +kernel
theorem dX9_putWind_49 : decode cX9_putWind 49 = .ok (.return_, 1) := by decide +kernel
theorem dX9_calm_0 : decode cX9_calm 0 = .ok (.iconst 1, 1) := by decide +kernel
theorem dX9_calm_1 : decode cX9_calm 1 = .ok (.istore_n 1, 1) := by decide +kernel
theorem dX9_calm_2 : decode cX9_calm 2 = .ok (.iload_n 1, 1) := by decide +kernel
theorem dX9_calm_3 : decode cX9_calm 3 = .ok (.iconst 4, 1) := by decide +kernel
theorem dX9_calm_4 : decode cX9_calm 4 = .ok (.if_icmp .ge 19, 3) := by decide +kernel
theorem dX9_calm_7 : decode cX9_calm 7 = .ok (.aload_n 0, 1) := by decide +kernel
theorem dX9_calm_8 : decode cX9_calm 8 = .ok (.iload_n 1, 1) := by decide +kernel
theorem dX9_calm_9 : decode cX9_calm 9 = .ok (.iconst 0, 1) := by decide +kernel
theorem dX9_calm_10 : decode cX9_calm 10 = .ok (.bipush 11, 2) := by decide +kernel
theorem dX9_calm_12 : decode cX9_calm 12 = .ok (.iconst 0, 1) := by decide +kernel
theorem dX9_calm_13 : decode cX9_calm 13 = .ok (.iconst 0, 1) := by decide +kernel
theorem dX9_calm_14 : decode cX9_calm 14 = .ok (.invokevirtual 139, 3) := by decide +kernel
theorem dX9_calm_17 : decode cX9_calm 17 = .ok (.iinc 1 1, 3) := by decide +kernel
theorem dX9_calm_20 : decode cX9_calm 20 = .ok (.goto (-18), 3) := by decide +kernel
theorem dX9_calm_23 : decode cX9_calm 23 = .ok (.aload_n 0, 1) := by decide +kernel
theorem dX9_calm_24 : decode cX9_calm 24 = .ok (.iconst 0, 1) := by decide +kernel
theorem dX9_calm_25 : decode cX9_calm 25 = .ok (.putfield 143, 3) := by decide +kernel
theorem dX9_calm_28 : decode cX9_calm 28 = .ok (.aload_n 0, 1) := by decide +kernel
theorem dX9_calm_29 : decode cX9_calm 29 = .ok (.iconst 0, 1) := by decide +kernel
theorem dX9_calm_30 : decode cX9_calm 30 = .ok (.putfield 146, 3) := by decide +kernel
theorem dX9_calm_33 : decode cX9_calm 33 = .ok (.return_, 1) := by decide +kernel
theorem dX9_doLine_0 : decode cX9_doLine 0 = .ok (.aload_n 0, 1) := by decide +kernel
theorem dX9_doLine_1 : decode cX9_doLine 1 = .ok (.getfield 26, 3) := by decide +kernel
theorem dX9_doLine_4 : decode cX9_doLine 4 = .ok (.iload_n 1, 1) := by decide +kernel
theorem dX9_doLine_5 : decode cX9_doLine 5 = .ok (.iconst 1, 1) := by decide +kernel
theorem dX9_doLine_6 : decode cX9_doLine 6 = .ok (.iadd, 1) := by decide +kernel
theorem dX9_doLine_7 : decode cX9_doLine 7 = .ok (.iaload, 1) := by decide +kernel
theorem dX9_doLine_8 : decode cX9_doLine 8 = .ok (.istore_n 2, 1) := by decide +kernel
theorem dX9_doLine_9 : decode cX9_doLine 9 = .ok (.aload_n 0, 1) := by decide +kernel
theorem dX9_doLine_10 : decode cX9_doLine 10 = .ok (.getfield 26, 3) := by decide +kernel
theorem dX9_doLine_13 : decode cX9_doLine 13 = .ok (.iload_n 1, 1) := by decide +kernel
theorem dX9_doLine_14 : decode cX9_doLine 14 = .ok (.iaload, 1) := by decide +kernel
theorem dX9_doLine_15 : decode cX9_doLine 15 = .ok (.tableswitch 265 0 7 #[45, 87, 135, 199, 207, 215, 250, 258], 45) := by decide +kernel
theorem dX9_doLine_60 : decode cX9_doLine 60 = .ok (.aload_n 0, 1) := by decide +kernel
theorem dX9_doLine_61 : decode cX9_doLine 61 = .ok (.iload_n 2, 1) := by decide +kernel
theorem dX9_doLine_62 : decode cX9_doLine 62 = .ok (.aload_n 0, 1) := by decide +kernel
theorem dX9_doLine_63 : decode cX9_doLine 63 = .ok (.getfield 26, 3) := by decide +kernel
theorem dX9_doLine_66 : decode cX9_doLine 66 = .ok (.iload_n 1, 1) := by decide +kernel
theorem dX9_doLine_67 : decode cX9_doLine 67 = .ok (.iconst 2, 1) := by decide +kernel
theorem dX9_doLine_68 : decode cX9_doLine 68 = .ok (.iadd, 1) := by decide +kernel
theorem dX9_doLine_69 : decode cX9_doLine 69 = .ok (.iaload, 1) := by decide +kernel
theorem dX9_doLine_70 : decode cX9_doLine 70 = .ok (.aload_n 0, 1) := by decide +kernel
theorem dX9_doLine_71 : decode cX9_doLine 71 = .ok (.getfield 26, 3) := by decide +kernel
theorem dX9_doLine_74 : decode cX9_doLine 74 = .ok (.iload_n 1, 1) := by decide +kernel
theorem dX9_doLine_75 : decode cX9_doLine 75 = .ok (.iconst 3, 1) := by decide +kernel
theorem dX9_doLine_76 : decode cX9_doLine 76 = .ok (.iadd, 1) := by decide +kernel
theorem dX9_doLine_77 : decode cX9_doLine 77 = .ok (.iaload, 1) := by decide +kernel
theorem dX9_doLine_78 : decode cX9_doLine 78 = .ok (.aload_n 0, 1) := by decide +kernel
theorem dX9_doLine_79 : decode cX9_doLine 79 = .ok (.getfield 26, 3) := by decide +kernel
theorem dX9_doLine_82 : decode cX9_doLine 82 = .ok (.iload_n 1, 1) := by decide +kernel
theorem dX9_doLine_83 : decode cX9_doLine 83 = .ok (.iconst 4, 1) := by decide +kernel
theorem dX9_doLine_84 : decode cX9_doLine 84 = .ok (.iadd, 1) := by decide +kernel
theorem dX9_doLine_85 : decode cX9_doLine 85 = .ok (.iaload, 1) := by decide +kernel
theorem dX9_doLine_86 : decode cX9_doLine 86 = .ok (.aload_n 0, 1) := by decide +kernel
theorem dX9_doLine_87 : decode cX9_doLine 87 = .ok (.getfield 26, 3) := by decide +kernel
theorem dX9_doLine_90 : decode cX9_doLine 90 = .ok (.iload_n 1, 1) := by decide +kernel
theorem dX9_doLine_91 : decode cX9_doLine 91 = .ok (.iconst 5, 1) := by decide +kernel
theorem dX9_doLine_92 : decode cX9_doLine 92 = .ok (.iadd, 1) := by decide +kernel
theorem dX9_doLine_93 : decode cX9_doLine 93 = .ok (.iaload, 1) := by decide +kernel
theorem dX9_doLine_94 : decode cX9_doLine 94 = .ok (.iconst 3, 1) := by decide +kernel
theorem dX9_doLine_95 : decode cX9_doLine 95 = .ok (.isub, 1) := by decide +kernel
theorem dX9_doLine_96 : decode cX9_doLine 96 = .ok (.invokevirtual 139, 3) := by decide +kernel
theorem dX9_doLine_99 : decode cX9_doLine 99 = .ok (.goto 195, 3) := by decide +kernel
theorem dX9_doLine_102 : decode cX9_doLine 102 = .ok (.aload_n 0, 1) := by decide +kernel
theorem dX9_doLine_103 : decode cX9_doLine 103 = .ok (.aload_n 0, 1) := by decide +kernel
theorem dX9_doLine_104 : decode cX9_doLine 104 = .ok (.getfield 49, 3) := by decide +kernel
theorem dX9_doLine_107 : decode cX9_doLine 107 = .ok (.iconst 1, 1) := by decide +kernel
theorem dX9_doLine_108 : decode cX9_doLine 108 = .ok (.iload_n 2, 1) := by decide +kernel
theorem dX9_doLine_109 : decode cX9_doLine 109 = .ok (.ishl, 1) := by decide +kernel
theorem dX9_doLine_110 : decode cX9_doLine 110 = .ok (.ior, 1) := by decide +kernel
theorem dX9_doLine_111 : decode cX9_doLine 111 = .ok (.putfield 49, 3) := by decide +kernel
theorem dX9_doLine_114 : decode cX9_doLine 114 = .ok (.iconst 0, 1) := by decide +kernel
theorem dX9_doLine_115 : decode cX9_doLine 115 = .ok (.istore_n 3, 1) := by decide +kernel
theorem dX9_doLine_116 : decode cX9_doLine 116 = .ok (.iload_n 3, 1) := by decide +kernel
theorem dX9_doLine_117 : decode cX9_doLine 117 = .ok (.iconst 5, 1) := by decide +kernel
theorem dX9_doLine_118 : decode cX9_doLine 118 = .ok (.if_icmp .ge 29, 3) := by decide +kernel
theorem dX9_doLine_121 : decode cX9_doLine 121 = .ok (.aload_n 0, 1) := by decide +kernel
theorem dX9_doLine_122 : decode cX9_doLine 122 = .ok (.getfield 13, 3) := by decide +kernel
theorem dX9_doLine_125 : decode cX9_doLine 125 = .ok (.iconst 5, 1) := by decide +kernel
theorem dX9_doLine_126 : decode cX9_doLine 126 = .ok (.iload_n 2, 1) := by decide +kernel
theorem dX9_doLine_127 : decode cX9_doLine 127 = .ok (.imul, 1) := by decide +kernel
theorem dX9_doLine_128 : decode cX9_doLine 128 = .ok (.iload_n 3, 1) := by decide +kernel
theorem dX9_doLine_129 : decode cX9_doLine 129 = .ok (.iadd, 1) := by decide +kernel
theorem dX9_doLine_130 : decode cX9_doLine 130 = .ok (.aload_n 0, 1) := by decide +kernel
theorem dX9_doLine_131 : decode cX9_doLine 131 = .ok (.getfield 26, 3) := by decide +kernel
theorem dX9_doLine_134 : decode cX9_doLine 134 = .ok (.iload_n 1, 1) := by decide +kernel
theorem dX9_doLine_135 : decode cX9_doLine 135 = .ok (.iconst 2, 1) := by decide +kernel
theorem dX9_doLine_136 : decode cX9_doLine 136 = .ok (.iadd, 1) := by decide +kernel
theorem dX9_doLine_137 : decode cX9_doLine 137 = .ok (.iload_n 3, 1) := by decide +kernel
theorem dX9_doLine_138 : decode cX9_doLine 138 = .ok (.iadd, 1) := by decide +kernel
theorem dX9_doLine_139 : decode cX9_doLine 139 = .ok (.iaload, 1) := by decide +kernel
theorem dX9_doLine_140 : decode cX9_doLine 140 = .ok (.iastore, 1) := by decide +kernel
theorem dX9_doLine_141 : decode cX9_doLine 141 = .ok (.iinc 3 1, 3) := by decide +kernel
theorem dX9_doLine_144 : decode cX9_doLine 144 = .ok (.goto (-28), 3) := by decide +kernel
theorem dX9_doLine_147 : decode cX9_doLine 147 = .ok (.goto 147, 3) := by decide +kernel
theorem dX9_doLine_150 : decode cX9_doLine 150 = .ok (.aload_n 0, 1) := by decide +kernel
theorem dX9_doLine_151 : decode cX9_doLine 151 = .ok (.aload_n 0, 1) := by decide +kernel
theorem dX9_doLine_152 : decode cX9_doLine 152 = .ok (.getfield 149, 3) := by decide +kernel
theorem dX9_doLine_155 : decode cX9_doLine 155 = .ok (.iconst 1, 1) := by decide +kernel
theorem dX9_doLine_156 : decode cX9_doLine 156 = .ok (.iload_n 2, 1) := by decide +kernel
theorem dX9_doLine_157 : decode cX9_doLine 157 = .ok (.ishl, 1) := by decide +kernel
theorem dX9_doLine_158 : decode cX9_doLine 158 = .ok (.ior, 1) := by decide +kernel
theorem dX9_doLine_159 : decode cX9_doLine 159 = .ok (.putfield 149, 3) := by decide +kernel
theorem dX9_doLine_162 : decode cX9_doLine 162 = .ok (.iconst 0, 1) := by decide +kernel
theorem dX9_doLine_163 : decode cX9_doLine 163 = .ok (.istore_n 3, 1) := by decide +kernel
theorem dX9_doLine_164 : decode cX9_doLine 164 = .ok (.iload_n 3, 1) := by decide +kernel
theorem dX9_doLine_165 : decode cX9_doLine 165 = .ok (.iconst 5, 1) := by decide +kernel
theorem dX9_doLine_166 : decode cX9_doLine 166 = .ok (.if_icmp .ge 45, 3) := by decide +kernel
theorem dX9_doLine_169 : decode cX9_doLine 169 = .ok (.aload_n 0, 1) := by decide +kernel
theorem dX9_doLine_170 : decode cX9_doLine 170 = .ok (.getfield 16, 3) := by decide +kernel
theorem dX9_doLine_173 : decode cX9_doLine 173 = .ok (.iconst 5, 1) := by decide +kernel
theorem dX9_doLine_174 : decode cX9_doLine 174 = .ok (.iload_n 2, 1) := by decide +kernel
theorem dX9_doLine_175 : decode cX9_doLine 175 = .ok (.imul, 1) := by decide +kernel
theorem dX9_doLine_176 : decode cX9_doLine 176 = .ok (.iload_n 3, 1) := by decide +kernel
theorem dX9_doLine_177 : decode cX9_doLine 177 = .ok (.iadd, 1) := by decide +kernel
theorem dX9_doLine_178 : decode cX9_doLine 178 = .ok (.aload_n 0, 1) := by decide +kernel
theorem dX9_doLine_179 : decode cX9_doLine 179 = .ok (.getfield 26, 3) := by decide +kernel
theorem dX9_doLine_182 : decode cX9_doLine 182 = .ok (.iload_n 1, 1) := by decide +kernel
theorem dX9_doLine_183 : decode cX9_doLine 183 = .ok (.iconst 2, 1) := by decide +kernel
theorem dX9_doLine_184 : decode cX9_doLine 184 = .ok (.iadd, 1) := by decide +kernel
theorem dX9_doLine_185 : decode cX9_doLine 185 = .ok (.iload_n 3, 1) := by decide +kernel
theorem dX9_doLine_186 : decode cX9_doLine 186 = .ok (.iadd, 1) := by decide +kernel
theorem dX9_doLine_187 : decode cX9_doLine 187 = .ok (.iaload, 1) := by decide +kernel
theorem dX9_doLine_188 : decode cX9_doLine 188 = .ok (.iload_n 3, 1) := by decide +kernel
theorem dX9_doLine_189 : decode cX9_doLine 189 = .ok (.iconst 2, 1) := by decide +kernel
theorem dX9_doLine_190 : decode cX9_doLine 190 = .ok (.if_icmp .eq 8, 3) := by decide +kernel
theorem dX9_doLine_193 : decode cX9_doLine 193 = .ok (.iload_n 3, 1) := by decide +kernel
theorem dX9_doLine_194 : decode cX9_doLine 194 = .ok (.iconst 3, 1) := by decide +kernel
theorem dX9_doLine_195 : decode cX9_doLine 195 = .ok (.if_icmp .ne 7, 3) := by decide +kernel
theorem dX9_doLine_198 : decode cX9_doLine 198 = .ok (.iconst 1, 1) := by decide +kernel
theorem dX9_doLine_199 : decode cX9_doLine 199 = .ok (.goto 4, 3) := by decide +kernel
theorem dX9_doLine_202 : decode cX9_doLine 202 = .ok (.iconst 0, 1) := by decide +kernel
theorem dX9_doLine_203 : decode cX9_doLine 203 = .ok (.isub, 1) := by decide +kernel
theorem dX9_doLine_204 : decode cX9_doLine 204 = .ok (.iastore, 1) := by decide +kernel
theorem dX9_doLine_205 : decode cX9_doLine 205 = .ok (.iinc 3 1, 3) := by decide +kernel
theorem dX9_doLine_208 : decode cX9_doLine 208 = .ok (.goto (-44), 3) := by decide +kernel
theorem dX9_doLine_211 : decode cX9_doLine 211 = .ok (.goto 83, 3) := by decide +kernel
theorem dX9_doLine_214 : decode cX9_doLine 214 = .ok (.aload_n 0, 1) := by decide +kernel
theorem dX9_doLine_215 : decode cX9_doLine 215 = .ok (.iload_n 2, 1) := by decide +kernel
theorem dX9_doLine_216 : decode cX9_doLine 216 = .ok (.putfield 152, 3) := by decide +kernel
theorem dX9_doLine_219 : decode cX9_doLine 219 = .ok (.goto 75, 3) := by decide +kernel
theorem dX9_doLine_222 : decode cX9_doLine 222 = .ok (.aload_n 0, 1) := by decide +kernel
theorem dX9_doLine_223 : decode cX9_doLine 223 = .ok (.iload_n 2, 1) := by decide +kernel
theorem dX9_doLine_224 : decode cX9_doLine 224 = .ok (.putfield 19, 3) := by decide +kernel
theorem dX9_doLine_227 : decode cX9_doLine 227 = .ok (.goto 67, 3) := by decide +kernel
theorem dX9_doLine_230 : decode cX9_doLine 230 = .ok (.iload_n 2, 1) := by decide +kernel
theorem dX9_doLine_231 : decode cX9_doLine 231 = .ok (.istore_n 3, 1) := by decide +kernel
theorem dX9_doLine_232 : decode cX9_doLine 232 = .ok (.iload_n 3, 1) := by decide +kernel
theorem dX9_doLine_233 : decode cX9_doLine 233 = .ok (.aload_n 0, 1) := by decide +kernel
theorem dX9_doLine_234 : decode cX9_doLine 234 = .ok (.getfield 26, 3) := by decide +kernel
theorem dX9_doLine_237 : decode cX9_doLine 237 = .ok (.iload_n 1, 1) := by decide +kernel
theorem dX9_doLine_238 : decode cX9_doLine 238 = .ok (.iconst 2, 1) := by decide +kernel
theorem dX9_doLine_239 : decode cX9_doLine 239 = .ok (.iadd, 1) := by decide +kernel
theorem dX9_doLine_240 : decode cX9_doLine 240 = .ok (.iaload, 1) := by decide +kernel
theorem dX9_doLine_241 : decode cX9_doLine 241 = .ok (.if_icmp .gt 21, 3) := by decide +kernel
theorem dX9_doLine_244 : decode cX9_doLine 244 = .ok (.aload_n 0, 1) := by decide +kernel
theorem dX9_doLine_245 : decode cX9_doLine 245 = .ok (.aload_n 0, 1) := by decide +kernel
theorem dX9_doLine_246 : decode cX9_doLine 246 = .ok (.getfield 143, 3) := by decide +kernel
theorem dX9_doLine_249 : decode cX9_doLine 249 = .ok (.iconst 1, 1) := by decide +kernel
theorem dX9_doLine_250 : decode cX9_doLine 250 = .ok (.iload_n 3, 1) := by decide +kernel
theorem dX9_doLine_251 : decode cX9_doLine 251 = .ok (.ishl, 1) := by decide +kernel
theorem dX9_doLine_252 : decode cX9_doLine 252 = .ok (.ior, 1) := by decide +kernel
theorem dX9_doLine_253 : decode cX9_doLine 253 = .ok (.putfield 143, 3) := by decide +kernel
theorem dX9_doLine_256 : decode cX9_doLine 256 = .ok (.iinc 3 1, 3) := by decide +kernel
theorem dX9_doLine_259 : decode cX9_doLine 259 = .ok (.goto (-27), 3) := by decide +kernel
theorem dX9_doLine_262 : decode cX9_doLine 262 = .ok (.goto 32, 3) := by decide +kernel
theorem dX9_doLine_265 : decode cX9_doLine 265 = .ok (.aload_n 0, 1) := by decide +kernel
theorem dX9_doLine_266 : decode cX9_doLine 266 = .ok (.iload_n 2, 1) := by decide +kernel
theorem dX9_doLine_267 : decode cX9_doLine 267 = .ok (.putfield 146, 3) := by decide +kernel
theorem dX9_doLine_270 : decode cX9_doLine 270 = .ok (.goto 24, 3) := by decide +kernel
theorem dX9_doLine_273 : decode cX9_doLine 273 = .ok (.aload_n 0, 1) := by decide +kernel
theorem dX9_doLine_274 : decode cX9_doLine 274 = .ok (.invokevirtual 155, 3) := by decide +kernel
theorem dX9_doLine_277 : decode cX9_doLine 277 = .ok (.goto 17, 3) := by decide +kernel
theorem dX9_doLine_280 : decode cX9_doLine 280 = .ok (.aload_n 0, 1) := by decide +kernel
theorem dX9_doLine_281 : decode cX9_doLine 281 = .ok (.aload_n 0, 1) := by decide +kernel
theorem dX9_doLine_282 : decode cX9_doLine 282 = .ok (.getfield 49, 3) := by decide +kernel
theorem dX9_doLine_285 : decode cX9_doLine 285 = .ok (.iconst 1, 1) := by decide +kernel
theorem dX9_doLine_286 : decode cX9_doLine 286 = .ok (.iload_n 2, 1) := by decide +kernel
theorem dX9_doLine_287 : decode cX9_doLine 287 = .ok (.ishl, 1) := by decide +kernel
theorem dX9_doLine_288 : decode cX9_doLine 288 = .ok (.iconst (-1), 1) := by decide +kernel
theorem dX9_doLine_289 : decode cX9_doLine 289 = .ok (.ixor, 1) := by decide +kernel
theorem dX9_doLine_290 : decode cX9_doLine 290 = .ok (.iand, 1) := by decide +kernel
theorem dX9_doLine_291 : decode cX9_doLine 291 = .ok (.putfield 49, 3) := by decide +kernel
theorem dX9_doLine_294 : decode cX9_doLine 294 = .ok (.return_, 1) := by decide +kernel
theorem dX9_anew_0 : decode cX9_anew 0 = .ok (.iconst 0, 1) := by decide +kernel
theorem dX9_anew_1 : decode cX9_anew 1 = .ok (.istore_n 1, 1) := by decide +kernel
theorem dX9_anew_2 : decode cX9_anew 2 = .ok (.iload_n 1, 1) := by decide +kernel
theorem dX9_anew_3 : decode cX9_anew 3 = .ok (.sipush 1197, 3) := by decide +kernel
theorem dX9_anew_6 : decode cX9_anew 6 = .ok (.if_icmp .ge 36, 3) := by decide +kernel
theorem dX9_anew_9 : decode cX9_anew 9 = .ok (.aload_n 0, 1) := by decide +kernel
theorem dX9_anew_10 : decode cX9_anew 10 = .ok (.getfield 29, 3) := by decide +kernel
theorem dX9_anew_13 : decode cX9_anew 13 = .ok (.iload_n 1, 1) := by decide +kernel
theorem dX9_anew_14 : decode cX9_anew 14 = .ok (.iload_n 1, 1) := by decide +kernel
theorem dX9_anew_15 : decode cX9_anew 15 = .ok (.bipush 7, 2) := by decide +kernel
theorem dX9_anew_17 : decode cX9_anew 17 = .ok (.bipush 12, 2) := by decide +kernel
theorem dX9_anew_19 : decode cX9_anew 19 = .ok (.invokestatic 45, 3) := by decide +kernel
theorem dX9_anew_22 : decode cX9_anew 22 = .ok (.ifCond .eq 12, 3) := by decide +kernel
theorem dX9_anew_25 : decode cX9_anew 25 = .ok (.aload_n 0, 1) := by decide +kernel
theorem dX9_anew_26 : decode cX9_anew 26 = .ok (.getfield 29, 3) := by decide +kernel
theorem dX9_anew_29 : decode cX9_anew 29 = .ok (.iload_n 1, 1) := by decide +kernel
theorem dX9_anew_30 : decode cX9_anew 30 = .ok (.iaload, 1) := by decide +kernel
theorem dX9_anew_31 : decode cX9_anew 31 = .ok (.goto 4, 3) := by decide +kernel
theorem dX9_anew_34 : decode cX9_anew 34 = .ok (.iconst 0, 1) := by decide +kernel
theorem dX9_anew_35 : decode cX9_anew 35 = .ok (.iastore, 1) := by decide +kernel
theorem dX9_anew_36 : decode cX9_anew 36 = .ok (.iinc 1 1, 3) := by decide +kernel
theorem dX9_anew_39 : decode cX9_anew 39 = .ok (.goto (-37), 3) := by decide +kernel
theorem dX9_anew_42 : decode cX9_anew 42 = .ok (.iconst 0, 1) := by decide +kernel
theorem dX9_anew_43 : decode cX9_anew 43 = .ok (.istore_n 1, 1) := by decide +kernel
theorem dX9_anew_44 : decode cX9_anew 44 = .ok (.iload_n 1, 1) := by decide +kernel
theorem dX9_anew_45 : decode cX9_anew 45 = .ok (.iconst 4, 1) := by decide +kernel
theorem dX9_anew_46 : decode cX9_anew 46 = .ok (.if_icmp .ge 64, 3) := by decide +kernel
theorem dX9_anew_49 : decode cX9_anew 49 = .ok (.aload_n 0, 1) := by decide +kernel
theorem dX9_anew_50 : decode cX9_anew 50 = .ok (.getfield 29, 3) := by decide +kernel
theorem dX9_anew_53 : decode cX9_anew 53 = .ok (.bipush 31, 2) := by decide +kernel
theorem dX9_anew_55 : decode cX9_anew 55 = .ok (.iload_n 1, 1) := by decide +kernel
theorem dX9_anew_56 : decode cX9_anew 56 = .ok (.iadd, 1) := by decide +kernel
theorem dX9_anew_57 : decode cX9_anew 57 = .ok (.aload_n 0, 1) := by decide +kernel
theorem dX9_anew_58 : decode cX9_anew 58 = .ok (.getfield 16, 3) := by decide +kernel
theorem dX9_anew_61 : decode cX9_anew 61 = .ok (.iconst 5, 1) := by decide +kernel
theorem dX9_anew_62 : decode cX9_anew 62 = .ok (.iload_n 1, 1) := by decide +kernel
theorem dX9_anew_63 : decode cX9_anew 63 = .ok (.imul, 1) := by decide +kernel
theorem dX9_anew_64 : decode cX9_anew 64 = .ok (.iaload, 1) := by decide +kernel
theorem dX9_anew_65 : decode cX9_anew 65 = .ok (.iastore, 1) := by decide +kernel
theorem dX9_anew_66 : decode cX9_anew 66 = .ok (.aload_n 0, 1) := by decide +kernel
theorem dX9_anew_67 : decode cX9_anew 67 = .ok (.getfield 29, 3) := by decide +kernel
theorem dX9_anew_70 : decode cX9_anew 70 = .ok (.bipush 35, 2) := by decide +kernel
theorem dX9_anew_72 : decode cX9_anew 72 = .ok (.iload_n 1, 1) := by decide +kernel
theorem dX9_anew_73 : decode cX9_anew 73 = .ok (.iadd, 1) := by decide +kernel
theorem dX9_anew_74 : decode cX9_anew 74 = .ok (.aload_n 0, 1) := by decide +kernel
theorem dX9_anew_75 : decode cX9_anew 75 = .ok (.getfield 16, 3) := by decide +kernel
theorem dX9_anew_78 : decode cX9_anew 78 = .ok (.iconst 5, 1) := by decide +kernel
theorem dX9_anew_79 : decode cX9_anew 79 = .ok (.iload_n 1, 1) := by decide +kernel
theorem dX9_anew_80 : decode cX9_anew 80 = .ok (.imul, 1) := by decide +kernel
theorem dX9_anew_81 : decode cX9_anew 81 = .ok (.iconst 1, 1) := by decide +kernel
theorem dX9_anew_82 : decode cX9_anew 82 = .ok (.iadd, 1) := by decide +kernel
theorem dX9_anew_83 : decode cX9_anew 83 = .ok (.iaload, 1) := by decide +kernel
theorem dX9_anew_84 : decode cX9_anew 84 = .ok (.iastore, 1) := by decide +kernel
theorem dX9_anew_85 : decode cX9_anew 85 = .ok (.aload_n 0, 1) := by decide +kernel
theorem dX9_anew_86 : decode cX9_anew 86 = .ok (.getfield 29, 3) := by decide +kernel
theorem dX9_anew_89 : decode cX9_anew 89 = .ok (.bipush 39, 2) := by decide +kernel
theorem dX9_anew_91 : decode cX9_anew 91 = .ok (.iload_n 1, 1) := by decide +kernel
theorem dX9_anew_92 : decode cX9_anew 92 = .ok (.iadd, 1) := by decide +kernel
theorem dX9_anew_93 : decode cX9_anew 93 = .ok (.aload_n 0, 1) := by decide +kernel
theorem dX9_anew_94 : decode cX9_anew 94 = .ok (.getfield 16, 3) := by decide +kernel
theorem dX9_anew_97 : decode cX9_anew 97 = .ok (.iconst 5, 1) := by decide +kernel
theorem dX9_anew_98 : decode cX9_anew 98 = .ok (.iload_n 1, 1) := by decide +kernel
theorem dX9_anew_99 : decode cX9_anew 99 = .ok (.imul, 1) := by decide +kernel
theorem dX9_anew_100 : decode cX9_anew 100 = .ok (.iconst 4, 1) := by decide +kernel
theorem dX9_anew_101 : decode cX9_anew 101 = .ok (.iadd, 1) := by decide +kernel
theorem dX9_anew_102 : decode cX9_anew 102 = .ok (.iaload, 1) := by decide +kernel
theorem dX9_anew_103 : decode cX9_anew 103 = .ok (.iastore, 1) := by decide +kernel
theorem dX9_anew_104 : decode cX9_anew 104 = .ok (.iinc 1 1, 3) := by decide +kernel
theorem dX9_anew_107 : decode cX9_anew 107 = .ok (.goto (-63), 3) := by decide +kernel
theorem dX9_anew_110 : decode cX9_anew 110 = .ok (.return_, 1) := by decide +kernel
theorem dX9_begin_0 : decode cX9_begin 0 = .ok (.iconst 0, 1) := by decide +kernel
theorem dX9_begin_1 : decode cX9_begin 1 = .ok (.istore_n 1, 1) := by decide +kernel
theorem dX9_begin_2 : decode cX9_begin 2 = .ok (.iload_n 1, 1) := by decide +kernel
theorem dX9_begin_3 : decode cX9_begin 3 = .ok (.bipush 6, 2) := by decide +kernel
theorem dX9_begin_5 : decode cX9_begin 5 = .ok (.if_icmp .ge 19, 3) := by decide +kernel
theorem dX9_begin_8 : decode cX9_begin 8 = .ok (.aload_n 0, 1) := by decide +kernel
theorem dX9_begin_9 : decode cX9_begin 9 = .ok (.getfield 29, 3) := by decide +kernel
theorem dX9_begin_12 : decode cX9_begin 12 = .ok (.bipush 7, 2) := by decide +kernel
theorem dX9_begin_14 : decode cX9_begin 14 = .ok (.iload_n 1, 1) := by decide +kernel
theorem dX9_begin_15 : decode cX9_begin 15 = .ok (.iadd, 1) := by decide +kernel
theorem dX9_begin_16 : decode cX9_begin 16 = .ok (.iconst 0, 1) := by decide +kernel
theorem dX9_begin_17 : decode cX9_begin 17 = .ok (.iastore, 1) := by decide +kernel
theorem dX9_begin_18 : decode cX9_begin 18 = .ok (.iinc 1 1, 3) := by decide +kernel
theorem dX9_begin_21 : decode cX9_begin 21 = .ok (.goto (-19), 3) := by decide +kernel
theorem dX9_begin_24 : decode cX9_begin 24 = .ok (.aload_n 0, 1) := by decide +kernel
theorem dX9_begin_25 : decode cX9_begin 25 = .ok (.invokevirtual 158, 3) := by decide +kernel
theorem dX9_begin_28 : decode cX9_begin 28 = .ok (.return_, 1) := by decide +kernel
theorem dX9_cliff_0 : decode cX9_cliff 0 = .ok (.aload_n 0, 1) := by decide +kernel
theorem dX9_cliff_1 : decode cX9_cliff 1 = .ok (.invokevirtual 136, 3) := by decide +kernel
theorem dX9_cliff_4 : decode cX9_cliff 4 = .ok (.ifCond .ne 6, 3) := by decide +kernel
theorem dX9_cliff_7 : decode cX9_cliff 7 = .ok (.bipush (-4), 2) := by decide +kernel
theorem dX9_cliff_9 : decode cX9_cliff 9 = .ok (.ireturn, 1) := by decide +kernel
theorem dX9_cliff_10 : decode cX9_cliff 10 = .ok (.iconst 0, 1) := by decide +kernel
theorem dX9_cliff_11 : decode cX9_cliff 11 = .ok (.istore_n 1, 1) := by decide +kernel
theorem dX9_cliff_12 : decode cX9_cliff 12 = .ok (.iload_n 1, 1) := by decide +kernel
theorem dX9_cliff_13 : decode cX9_cliff 13 = .ok (.aload_n 0, 1) := by decide +kernel
theorem dX9_cliff_14 : decode cX9_cliff 14 = .ok (.getfield 130, 3) := by decide +kernel
theorem dX9_cliff_17 : decode cX9_cliff 17 = .ok (.if_icmp .ge 17, 3) := by decide +kernel
theorem dX9_cliff_20 : decode cX9_cliff 20 = .ok (.aload_n 0, 1) := by decide +kernel
theorem dX9_cliff_21 : decode cX9_cliff 21 = .ok (.bipush 7, 2) := by decide +kernel
theorem dX9_cliff_23 : decode cX9_cliff 23 = .ok (.iload_n 1, 1) := by decide +kernel
theorem dX9_cliff_24 : decode cX9_cliff 24 = .ok (.imul, 1) := by decide +kernel
theorem dX9_cliff_25 : decode cX9_cliff 25 = .ok (.invokevirtual 161, 3) := by decide +kernel
theorem dX9_cliff_28 : decode cX9_cliff 28 = .ok (.iinc 1 1, 3) := by decide +kernel
theorem dX9_cliff_31 : decode cX9_cliff 31 = .ok (.goto (-19), 3) := by decide +kernel
theorem dX9_cliff_34 : decode cX9_cliff 34 = .ok (.aload_n 0, 1) := by decide +kernel
theorem dX9_cliff_35 : decode cX9_cliff 35 = .ok (.iconst 0, 1) := by decide +kernel
theorem dX9_cliff_36 : decode cX9_cliff 36 = .ok (.putfield 56, 3) := by decide +kernel
theorem dX9_cliff_39 : decode cX9_cliff 39 = .ok (.aload_n 0, 1) := by decide +kernel
theorem dX9_cliff_40 : decode cX9_cliff 40 = .ok (.invokevirtual 42, 3) := by decide +kernel
theorem dX9_cliff_43 : decode cX9_cliff 43 = .ok (.aload_n 0, 1) := by decide +kernel
theorem dX9_cliff_44 : decode cX9_cliff 44 = .ok (.getfield 38, 3) := by decide +kernel
theorem dX9_cliff_47 : decode cX9_cliff 47 = .ok (.iconst 0, 1) := by decide +kernel
theorem dX9_cliff_48 : decode cX9_cliff 48 = .ok (.iconst 0, 1) := by decide +kernel
theorem dX9_cliff_49 : decode cX9_cliff 49 = .ok (.bastore, 1) := by decide +kernel
theorem dX9_cliff_50 : decode cX9_cliff 50 = .ok (.aload_n 0, 1) := by decide +kernel
theorem dX9_cliff_51 : decode cX9_cliff 51 = .ok (.getfield 38, 3) := by decide +kernel
theorem dX9_cliff_54 : decode cX9_cliff 54 = .ok (.iconst 1, 1) := by decide +kernel
theorem dX9_cliff_55 : decode cX9_cliff 55 = .ok (.iconst 0, 1) := by decide +kernel
theorem dX9_cliff_56 : decode cX9_cliff 56 = .ok (.bastore, 1) := by decide +kernel
theorem dX9_cliff_57 : decode cX9_cliff 57 = .ok (.aload_n 0, 1) := by decide +kernel
theorem dX9_cliff_58 : decode cX9_cliff 58 = .ok (.getfield 130, 3) := by decide +kernel
theorem dX9_cliff_61 : decode cX9_cliff 61 = .ok (.ireturn, 1) := by decide +kernel
theorem dX9_wind_0 : decode cX9_wind 0 = .ok (.iload_n 1, 1) := by decide +kernel
theorem dX9_wind_1 : decode cX9_wind 1 = .ok (.invokestatic 165, 3) := by decide +kernel
theorem dX9_wind_4 : decode cX9_wind 4 = .ok (.ifCond .eq 10, 3) := by decide +kernel
theorem dX9_wind_7 : decode cX9_wind 7 = .ok (.iload_n 2, 1) := by decide +kernel
theorem dX9_wind_8 : decode cX9_wind 8 = .ok (.invokestatic 168, 3) := by decide +kernel
theorem dX9_wind_11 : decode cX9_wind 11 = .ok (.ifCond .ne 6, 3) := by decide +kernel
theorem dX9_wind_14 : decode cX9_wind 14 = .ok (.bipush (-2), 2) := by decide +kernel
theorem dX9_wind_16 : decode cX9_wind 16 = .ok (.ireturn, 1) := by decide +kernel
theorem dX9_wind_17 : decode cX9_wind 17 = .ok (.iload_n 3, 1) := by decide +kernel
theorem dX9_wind_18 : decode cX9_wind 18 = .ok (.ifCond .ne 19, 3) := by decide +kernel
theorem dX9_wind_21 : decode cX9_wind 21 = .ok (.aload_n 0, 1) := by decide +kernel
theorem dX9_wind_22 : decode cX9_wind 22 = .ok (.getfield 7, 3) := by decide +kernel
theorem dX9_wind_25 : decode cX9_wind 25 = .ok (.bipush 24, 2) := by decide +kernel
theorem dX9_wind_27 : decode cX9_wind 27 = .ok (.iload_n 1, 1) := by decide +kernel
theorem dX9_wind_28 : decode cX9_wind 28 = .ok (.imul, 1) := by decide +kernel
theorem dX9_wind_29 : decode cX9_wind 29 = .ok (.iconst 2, 1) := by decide +kernel
theorem dX9_wind_30 : decode cX9_wind 30 = .ok (.iload_n 2, 1) := by decide +kernel
theorem dX9_wind_31 : decode cX9_wind 31 = .ok (.imul, 1) := by decide +kernel
theorem dX9_wind_32 : decode cX9_wind 32 = .ok (.iadd, 1) := by decide +kernel
theorem dX9_wind_33 : decode cX9_wind 33 = .ok (.iaload, 1) := by decide +kernel
theorem dX9_wind_34 : decode cX9_wind 34 = .ok (.goto 30, 3) := by decide +kernel
theorem dX9_wind_37 : decode cX9_wind 37 = .ok (.iload_n 3, 1) := by decide +kernel
theorem dX9_wind_38 : decode cX9_wind 38 = .ok (.iconst 1, 1) := by decide +kernel
theorem dX9_wind_39 : decode cX9_wind 39 = .ok (.if_icmp .ne 23, 3) := by decide +kernel
theorem dX9_wind_42 : decode cX9_wind 42 = .ok (.aload_n 0, 1) := by decide +kernel
theorem dX9_wind_43 : decode cX9_wind 43 = .ok (.getfield 7, 3) := by decide +kernel
theorem dX9_wind_46 : decode cX9_wind 46 = .ok (.bipush 24, 2) := by decide +kernel
theorem dX9_wind_48 : decode cX9_wind 48 = .ok (.iload_n 1, 1) := by decide +kernel
theorem dX9_wind_49 : decode cX9_wind 49 = .ok (.imul, 1) := by decide +kernel
theorem dX9_wind_50 : decode cX9_wind 50 = .ok (.iconst 2, 1) := by decide +kernel
theorem dX9_wind_51 : decode cX9_wind 51 = .ok (.iload_n 2, 1) := by decide +kernel
theorem dX9_wind_52 : decode cX9_wind 52 = .ok (.imul, 1) := by decide +kernel
theorem dX9_wind_53 : decode cX9_wind 53 = .ok (.iadd, 1) := by decide +kernel
theorem dX9_wind_54 : decode cX9_wind 54 = .ok (.iconst 1, 1) := by decide +kernel
theorem dX9_wind_55 : decode cX9_wind 55 = .ok (.iadd, 1) := by decide +kernel
theorem dX9_wind_56 : decode cX9_wind 56 = .ok (.iaload, 1) := by decide +kernel
theorem dX9_wind_57 : decode cX9_wind 57 = .ok (.iconst 3, 1) := by decide +kernel
theorem dX9_wind_58 : decode cX9_wind 58 = .ok (.iadd, 1) := by decide +kernel
theorem dX9_wind_59 : decode cX9_wind 59 = .ok (.goto 5, 3) := by decide +kernel
theorem dX9_wind_62 : decode cX9_wind 62 = .ok (.bipush (-3), 2) := by decide +kernel
theorem dX9_wind_64 : decode cX9_wind 64 = .ok (.ireturn, 1) := by decide +kernel
theorem dX9_shoal_0 : decode cX9_shoal 0 = .ok (.iload_n 1, 1) := by decide +kernel
theorem dX9_shoal_1 : decode cX9_shoal 1 = .ok (.iconst 0, 1) := by decide +kernel
theorem dX9_shoal_2 : decode cX9_shoal 2 = .ok (.iconst 3, 1) := by decide +kernel
theorem dX9_shoal_3 : decode cX9_shoal 3 = .ok (.invokestatic 45, 3) := by decide +kernel
theorem dX9_shoal_6 : decode cX9_shoal 6 = .ok (.ifCond .eq 14, 3) := by decide +kernel
theorem dX9_shoal_9 : decode cX9_shoal 9 = .ok (.aload_n 0, 1) := by decide +kernel
theorem dX9_shoal_10 : decode cX9_shoal 10 = .ok (.getfield 149, 3) := by decide +kernel
theorem dX9_shoal_13 : decode cX9_shoal 13 = .ok (.iload_n 1, 1) := by decide +kernel
theorem dX9_shoal_14 : decode cX9_shoal 14 = .ok (.invokestatic 52, 3) := by decide +kernel
theorem dX9_shoal_17 : decode cX9_shoal 17 = .ok (.ifCond .ne 6, 3) := by decide +kernel
theorem dX9_shoal_20 : decode cX9_shoal 20 = .ok (.bipush (-2), 2) := by decide +kernel
theorem dX9_shoal_22 : decode cX9_shoal 22 = .ok (.ireturn, 1) := by decide +kernel
theorem dX9_shoal_23 : decode cX9_shoal 23 = .ok (.iload_n 2, 1) := by decide +kernel
theorem dX9_shoal_24 : decode cX9_shoal 24 = .ok (.ifCond .ne 18, 3) := by decide +kernel
theorem dX9_shoal_27 : decode cX9_shoal 27 = .ok (.aload_n 0, 1) := by decide +kernel
theorem dX9_shoal_28 : decode cX9_shoal 28 = .ok (.getfield 29, 3) := by decide +kernel
theorem dX9_shoal_31 : decode cX9_shoal 31 = .ok (.bipush 31, 2) := by decide +kernel
theorem dX9_shoal_33 : decode cX9_shoal 33 = .ok (.iload_n 1, 1) := by decide +kernel
theorem dX9_shoal_34 : decode cX9_shoal 34 = .ok (.iadd, 1) := by decide +kernel
theorem dX9_shoal_35 : decode cX9_shoal 35 = .ok (.iaload, 1) := by decide +kernel
theorem dX9_shoal_36 : decode cX9_shoal 36 = .ok (.bipush 100, 2) := by decide +kernel
theorem dX9_shoal_38 : decode cX9_shoal 38 = .ok (.iadd, 1) := by decide +kernel
theorem dX9_shoal_39 : decode cX9_shoal 39 = .ok (.goto 42, 3) := by decide +kernel
theorem dX9_shoal_42 : decode cX9_shoal 42 = .ok (.iload_n 2, 1) := by decide +kernel
theorem dX9_shoal_43 : decode cX9_shoal 43 = .ok (.iconst 1, 1) := by decide +kernel
theorem dX9_shoal_44 : decode cX9_shoal 44 = .ok (.if_icmp .ne 18, 3) := by decide +kernel
theorem dX9_shoal_47 : decode cX9_shoal 47 = .ok (.aload_n 0, 1) := by decide +kernel
theorem dX9_shoal_48 : decode cX9_shoal 48 = .ok (.getfield 29, 3) := by decide +kernel
theorem dX9_shoal_51 : decode cX9_shoal 51 = .ok (.bipush 35, 2) := by decide +kernel
theorem dX9_shoal_53 : decode cX9_shoal 53 = .ok (.iload_n 1, 1) := by decide +kernel
theorem dX9_shoal_54 : decode cX9_shoal 54 = .ok (.iadd, 1) := by decide +kernel
theorem dX9_shoal_55 : decode cX9_shoal 55 = .ok (.iaload, 1) := by decide +kernel
theorem dX9_shoal_56 : decode cX9_shoal 56 = .ok (.bipush 100, 2) := by decide +kernel
theorem dX9_shoal_58 : decode cX9_shoal 58 = .ok (.iadd, 1) := by decide +kernel
theorem dX9_shoal_59 : decode cX9_shoal 59 = .ok (.goto 22, 3) := by decide +kernel
theorem dX9_shoal_62 : decode cX9_shoal 62 = .ok (.iload_n 2, 1) := by decide +kernel
theorem dX9_shoal_63 : decode cX9_shoal 63 = .ok (.iconst 2, 1) := by decide +kernel
theorem dX9_shoal_64 : decode cX9_shoal 64 = .ok (.if_icmp .ne 15, 3) := by decide +kernel
theorem dX9_shoal_67 : decode cX9_shoal 67 = .ok (.aload_n 0, 1) := by decide +kernel
theorem dX9_shoal_68 : decode cX9_shoal 68 = .ok (.getfield 29, 3) := by decide +kernel
theorem dX9_shoal_71 : decode cX9_shoal 71 = .ok (.bipush 39, 2) := by decide +kernel
theorem dX9_shoal_73 : decode cX9_shoal 73 = .ok (.iload_n 1, 1) := by decide +kernel
theorem dX9_shoal_74 : decode cX9_shoal 74 = .ok (.iadd, 1) := by decide +kernel
theorem dX9_shoal_75 : decode cX9_shoal 75 = .ok (.iaload, 1) := by decide +kernel
theorem dX9_shoal_76 : decode cX9_shoal 76 = .ok (.goto 5, 3) := by decide +kernel
theorem dX9_shoal_79 : decode cX9_shoal 79 = .ok (.bipush (-3), 2) := by decide +kernel
theorem dX9_shoal_81 : decode cX9_shoal 81 = .ok (.ireturn, 1) := by decide +kernel
theorem dX9_ask_0 : decode cX9_ask 0 = .ok (.aload_n 0, 1) := by decide +kernel
theorem dX9_ask_1 : decode cX9_ask 1 = .ok (.iload_n 1, 1) := by decide +kernel
theorem dX9_ask_2 : decode cX9_ask 2 = .ok (.invokevirtual 171, 3) := by decide +kernel
theorem dX9_ask_5 : decode cX9_ask 5 = .ok (.ifCond .ne 6, 3) := by decide +kernel
theorem dX9_ask_8 : decode cX9_ask 8 = .ok (.bipush (-2), 2) := by decide +kernel
theorem dX9_ask_10 : decode cX9_ask 10 = .ok (.ireturn, 1) := by decide +kernel
theorem dX9_ask_11 : decode cX9_ask 11 = .ok (.iload_n 2, 1) := by decide +kernel
theorem dX9_ask_12 : decode cX9_ask 12 = .ok (.iconst 0, 1) := by decide +kernel
theorem dX9_ask_13 : decode cX9_ask 13 = .ok (.iconst 3, 1) := by decide +kernel
theorem dX9_ask_14 : decode cX9_ask 14 = .ok (.invokestatic 45, 3) := by decide +kernel
theorem dX9_ask_17 : decode cX9_ask 17 = .ok (.ifCond .ne 6, 3) := by decide +kernel
theorem dX9_ask_20 : decode cX9_ask 20 = .ok (.bipush (-3), 2) := by decide +kernel
theorem dX9_ask_22 : decode cX9_ask 22 = .ok (.ireturn, 1) := by decide +kernel
theorem dX9_ask_23 : decode cX9_ask 23 = .ok (.aload_n 0, 1) := by decide +kernel
theorem dX9_ask_24 : decode cX9_ask 24 = .ok (.getfield 29, 3) := by decide +kernel
theorem dX9_ask_27 : decode cX9_ask 27 = .ok (.bipush 7, 2) := by decide +kernel
theorem dX9_ask_29 : decode cX9_ask 29 = .ok (.iload_n 1, 1) := by decide +kernel
theorem dX9_ask_30 : decode cX9_ask 30 = .ok (.iadd, 1) := by decide +kernel
theorem dX9_ask_31 : decode cX9_ask 31 = .ok (.iaload, 1) := by decide +kernel
theorem dX9_ask_32 : decode cX9_ask 32 = .ok (.istore_n 3, 1) := by decide +kernel
theorem dX9_ask_33 : decode cX9_ask 33 = .ok (.aload_n 0, 1) := by decide +kernel
theorem dX9_ask_34 : decode cX9_ask 34 = .ok (.getfield 29, 3) := by decide +kernel
theorem dX9_ask_37 : decode cX9_ask 37 = .ok (.bipush 7, 2) := by decide +kernel
theorem dX9_ask_39 : decode cX9_ask 39 = .ok (.iload_n 1, 1) := by decide +kernel
theorem dX9_ask_40 : decode cX9_ask 40 = .ok (.iadd, 1) := by decide +kernel
theorem dX9_ask_41 : decode cX9_ask 41 = .ok (.iload_n 2, 1) := by decide +kernel
theorem dX9_ask_42 : decode cX9_ask 42 = .ok (.iastore, 1) := by decide +kernel
theorem dX9_ask_43 : decode cX9_ask 43 = .ok (.iload_n 3, 1) := by decide +kernel
theorem dX9_ask_44 : decode cX9_ask 44 = .ok (.ireturn, 1) := by decide +kernel
theorem dX9_xOf_0 : decode cX9_xOf 0 = .ok (.aload_n 0, 1) := by decide +kernel
theorem dX9_xOf_1 : decode cX9_xOf 1 = .ok (.getfield 13, 3) := by decide +kernel
theorem dX9_xOf_4 : decode cX9_xOf 4 = .ok (.iconst 5, 1) := by decide +kernel
theorem dX9_xOf_5 : decode cX9_xOf 5 = .ok (.iload_n 1, 1) := by decide +kernel
theorem dX9_xOf_6 : decode cX9_xOf 6 = .ok (.imul, 1) := by decide +kernel
theorem dX9_xOf_7 : decode cX9_xOf 7 = .ok (.iaload, 1) := by decide +kernel
theorem dX9_xOf_8 : decode cX9_xOf 8 = .ok (.aload_n 0, 1) := by decide +kernel
theorem dX9_xOf_9 : decode cX9_xOf 9 = .ok (.getfield 7, 3) := by decide +kernel
theorem dX9_xOf_12 : decode cX9_xOf 12 = .ok (.bipush 24, 2) := by decide +kernel
theorem dX9_xOf_14 : decode cX9_xOf 14 = .ok (.iload_n 2, 1) := by decide +kernel
theorem dX9_xOf_15 : decode cX9_xOf 15 = .ok (.imul, 1) := by decide +kernel
theorem dX9_xOf_16 : decode cX9_xOf 16 = .ok (.iconst 2, 1) := by decide +kernel
theorem dX9_xOf_17 : decode cX9_xOf 17 = .ok (.iload_n 3, 1) := by decide +kernel
theorem dX9_xOf_18 : decode cX9_xOf 18 = .ok (.imul, 1) := by decide +kernel
theorem dX9_xOf_19 : decode cX9_xOf 19 = .ok (.iadd, 1) := by decide +kernel
theorem dX9_xOf_20 : decode cX9_xOf 20 = .ok (.iconst 1, 1) := by decide +kernel
theorem dX9_xOf_21 : decode cX9_xOf 21 = .ok (.iadd, 1) := by decide +kernel
theorem dX9_xOf_22 : decode cX9_xOf 22 = .ok (.iaload, 1) := by decide +kernel
theorem dX9_xOf_23 : decode cX9_xOf 23 = .ok (.aload_n 0, 1) := by decide +kernel
theorem dX9_xOf_24 : decode cX9_xOf 24 = .ok (.getfield 13, 3) := by decide +kernel
theorem dX9_xOf_27 : decode cX9_xOf 27 = .ok (.iconst 5, 1) := by decide +kernel
theorem dX9_xOf_28 : decode cX9_xOf 28 = .ok (.iload_n 1, 1) := by decide +kernel
theorem dX9_xOf_29 : decode cX9_xOf 29 = .ok (.imul, 1) := by decide +kernel
theorem dX9_xOf_30 : decode cX9_xOf 30 = .ok (.iconst 2, 1) := by decide +kernel
theorem dX9_xOf_31 : decode cX9_xOf 31 = .ok (.iadd, 1) := by decide +kernel
theorem dX9_xOf_32 : decode cX9_xOf 32 = .ok (.iaload, 1) := by decide +kernel
theorem dX9_xOf_33 : decode cX9_xOf 33 = .ok (.imul, 1) := by decide +kernel
theorem dX9_xOf_34 : decode cX9_xOf 34 = .ok (.iconst 3, 1) := by decide +kernel
theorem dX9_xOf_35 : decode cX9_xOf 35 = .ok (.idiv, 1) := by decide +kernel
theorem dX9_xOf_36 : decode cX9_xOf 36 = .ok (.iadd, 1) := by decide +kernel
theorem dX9_xOf_37 : decode cX9_xOf 37 = .ok (.ireturn, 1) := by decide +kernel
theorem dX9_yOf_0 : decode cX9_yOf 0 = .ok (.aload_n 0, 1) := by decide +kernel
theorem dX9_yOf_1 : decode cX9_yOf 1 = .ok (.getfield 13, 3) := by decide +kernel
theorem dX9_yOf_4 : decode cX9_yOf 4 = .ok (.iconst 5, 1) := by decide +kernel
theorem dX9_yOf_5 : decode cX9_yOf 5 = .ok (.iload_n 1, 1) := by decide +kernel
theorem dX9_yOf_6 : decode cX9_yOf 6 = .ok (.imul, 1) := by decide +kernel
theorem dX9_yOf_7 : decode cX9_yOf 7 = .ok (.iconst 2, 1) := by decide +kernel
theorem dX9_yOf_8 : decode cX9_yOf 8 = .ok (.iadd, 1) := by decide +kernel
theorem dX9_yOf_9 : decode cX9_yOf 9 = .ok (.iaload, 1) := by decide +kernel
theorem dX9_yOf_10 : decode cX9_yOf 10 = .ok (.iload_n 2, 1) := by decide +kernel
theorem dX9_yOf_11 : decode cX9_yOf 11 = .ok (.isub, 1) := by decide +kernel
theorem dX9_yOf_12 : decode cX9_yOf 12 = .ok (.ireturn, 1) := by decide +kernel
theorem dX9_isInSea_0 : decode cX9_isInSea 0 = .ok (.aload_n 0, 1) := by decide +kernel
theorem dX9_isInSea_1 : decode cX9_isInSea 1 = .ok (.iload_n 1, 1) := by decide +kernel
theorem dX9_isInSea_2 : decode cX9_isInSea 2 = .ok (.iload_n 2, 1) := by decide +kernel
theorem dX9_isInSea_3 : decode cX9_isInSea 3 = .ok (.iload_n 3, 1) := by decide +kernel
theorem dX9_isInSea_4 : decode cX9_isInSea 4 = .ok (.invokevirtual 174, 3) := by decide +kernel
theorem dX9_isInSea_7 : decode cX9_isInSea 7 = .ok (.iconst 0, 1) := by decide +kernel
theorem dX9_isInSea_8 : decode cX9_isInSea 8 = .ok (.bipush 9, 2) := by decide +kernel
theorem dX9_isInSea_10 : decode cX9_isInSea 10 = .ok (.invokestatic 45, 3) := by decide +kernel
theorem dX9_isInSea_13 : decode cX9_isInSea 13 = .ok (.ifCond .eq 22, 3) := by decide +kernel
theorem dX9_isInSea_16 : decode cX9_isInSea 16 = .ok (.aload_n 0, 1) := by decide +kernel
theorem dX9_isInSea_17 : decode cX9_isInSea 17 = .ok (.iload_n 1, 1) := by decide +kernel
theorem dX9_isInSea_18 : decode cX9_isInSea 18 = .ok (.iload_n 2, 1) := by decide +kernel
theorem dX9_isInSea_19 : decode cX9_isInSea 19 = .ok (.invokevirtual 178, 3) := by decide +kernel
theorem dX9_isInSea_22 : decode cX9_isInSea 22 = .ok (.iconst 1, 1) := by decide +kernel
theorem dX9_isInSea_23 : decode cX9_isInSea 23 = .ok (.bipush 6, 2) := by decide +kernel
theorem dX9_isInSea_25 : decode cX9_isInSea 25 = .ok (.invokestatic 45, 3) := by decide +kernel
theorem dX9_isInSea_28 : decode cX9_isInSea 28 = .ok (.ifCond .eq 7, 3) := by decide +kernel
theorem dX9_isInSea_31 : decode cX9_isInSea 31 = .ok (.iconst 1, 1) := by decide +kernel
theorem dX9_isInSea_32 : decode cX9_isInSea 32 = .ok (.goto 4, 3) := by decide +kernel
theorem dX9_isInSea_35 : decode cX9_isInSea 35 = .ok (.iconst 0, 1) := by decide +kernel
theorem dX9_isInSea_36 : decode cX9_isInSea 36 = .ok (.ireturn, 1) := by decide +kernel
theorem dX9_hasLift_0 : decode cX9_hasLift 0 = .ok (.aload_n 0, 1) := by decide +kernel
theorem dX9_hasLift_1 : decode cX9_hasLift 1 = .ok (.getfield 13, 3) := by decide +kernel
theorem dX9_hasLift_4 : decode cX9_hasLift 4 = .ok (.iconst 5, 1) := by decide +kernel
theorem dX9_hasLift_5 : decode cX9_hasLift 5 = .ok (.iload_n 1, 1) := by decide +kernel
theorem dX9_hasLift_6 : decode cX9_hasLift 6 = .ok (.imul, 1) := by decide +kernel
theorem dX9_hasLift_7 : decode cX9_hasLift 7 = .ok (.iconst 1, 1) := by decide +kernel
theorem dX9_hasLift_8 : decode cX9_hasLift 8 = .ok (.iadd, 1) := by decide +kernel
theorem dX9_hasLift_9 : decode cX9_hasLift 9 = .ok (.iaload, 1) := by decide +kernel
theorem dX9_hasLift_10 : decode cX9_hasLift 10 = .ok (.aload_n 0, 1) := by decide +kernel
theorem dX9_hasLift_11 : decode cX9_hasLift 11 = .ok (.getfield 7, 3) := by decide +kernel
theorem dX9_hasLift_14 : decode cX9_hasLift 14 = .ok (.bipush 24, 2) := by decide +kernel
theorem dX9_hasLift_16 : decode cX9_hasLift 16 = .ok (.iload_n 2, 1) := by decide +kernel
theorem dX9_hasLift_17 : decode cX9_hasLift 17 = .ok (.imul, 1) := by decide +kernel
theorem dX9_hasLift_18 : decode cX9_hasLift 18 = .ok (.iconst 2, 1) := by decide +kernel
theorem dX9_hasLift_19 : decode cX9_hasLift 19 = .ok (.iload_n 3, 1) := by decide +kernel
theorem dX9_hasLift_20 : decode cX9_hasLift 20 = .ok (.imul, 1) := by decide +kernel
theorem dX9_hasLift_21 : decode cX9_hasLift 21 = .ok (.iadd, 1) := by decide +kernel
theorem dX9_hasLift_22 : decode cX9_hasLift 22 = .ok (.iaload, 1) := by decide +kernel
theorem dX9_hasLift_23 : decode cX9_hasLift 23 = .ok (.imul, 1) := by decide +kernel
theorem dX9_hasLift_24 : decode cX9_hasLift 24 = .ok (.aload_n 0, 1) := by decide +kernel
theorem dX9_hasLift_25 : decode cX9_hasLift 25 = .ok (.getfield 13, 3) := by decide +kernel
theorem dX9_hasLift_28 : decode cX9_hasLift 28 = .ok (.iconst 5, 1) := by decide +kernel
theorem dX9_hasLift_29 : decode cX9_hasLift 29 = .ok (.iload_n 1, 1) := by decide +kernel
theorem dX9_hasLift_30 : decode cX9_hasLift 30 = .ok (.imul, 1) := by decide +kernel
theorem dX9_hasLift_31 : decode cX9_hasLift 31 = .ok (.iconst 3, 1) := by decide +kernel
theorem dX9_hasLift_32 : decode cX9_hasLift 32 = .ok (.iadd, 1) := by decide +kernel
theorem dX9_hasLift_33 : decode cX9_hasLift 33 = .ok (.iaload, 1) := by decide +kernel
theorem dX9_hasLift_34 : decode cX9_hasLift 34 = .ok (.if_icmp .lt 7, 3) := by decide +kernel
theorem dX9_hasLift_37 : decode cX9_hasLift 37 = .ok (.iconst 1, 1) := by decide +kernel
theorem dX9_hasLift_38 : decode cX9_hasLift 38 = .ok (.goto 4, 3) := by decide +kernel
theorem dX9_hasLift_41 : decode cX9_hasLift 41 = .ok (.iconst 0, 1) := by decide +kernel
theorem dX9_hasLift_42 : decode cX9_hasLift 42 = .ok (.ireturn, 1) := by decide +kernel
theorem dX9_doTangle_0 : decode cX9_doTangle 0 = .ok (.aload_n 0, 1) := by decide +kernel
theorem dX9_doTangle_1 : decode cX9_doTangle 1 = .ok (.getfield 13, 3) := by decide +kernel
theorem dX9_doTangle_4 : decode cX9_doTangle 4 = .ok (.iconst 5, 1) := by decide +kernel
theorem dX9_doTangle_5 : decode cX9_doTangle 5 = .ok (.iload_n 1, 1) := by decide +kernel
theorem dX9_doTangle_6 : decode cX9_doTangle 6 = .ok (.imul, 1) := by decide +kernel
theorem dX9_doTangle_7 : decode cX9_doTangle 7 = .ok (.iaload, 1) := by decide +kernel
theorem dX9_doTangle_8 : decode cX9_doTangle 8 = .ok (.aload_n 0, 1) := by decide +kernel
theorem dX9_doTangle_9 : decode cX9_doTangle 9 = .ok (.getfield 13, 3) := by decide +kernel
theorem dX9_doTangle_12 : decode cX9_doTangle 12 = .ok (.iconst 5, 1) := by decide +kernel
theorem dX9_doTangle_13 : decode cX9_doTangle 13 = .ok (.iload_n 2, 1) := by decide +kernel
theorem dX9_doTangle_14 : decode cX9_doTangle 14 = .ok (.imul, 1) := by decide +kernel
theorem dX9_doTangle_15 : decode cX9_doTangle 15 = .ok (.iaload, 1) := by decide +kernel
theorem dX9_doTangle_16 : decode cX9_doTangle 16 = .ok (.isub, 1) := by decide +kernel
theorem dX9_doTangle_17 : decode cX9_doTangle 17 = .ok (.istore 5, 2) := by decide +kernel
theorem dX9_doTangle_19 : decode cX9_doTangle 19 = .ok (.aload_n 0, 1) := by decide +kernel
theorem dX9_doTangle_20 : decode cX9_doTangle 20 = .ok (.iload_n 1, 1) := by decide +kernel
theorem dX9_doTangle_21 : decode cX9_doTangle 21 = .ok (.iload_n 3, 1) := by decide +kernel
theorem dX9_doTangle_22 : decode cX9_doTangle 22 = .ok (.iload 4, 2) := by decide +kernel
theorem dX9_doTangle_24 : decode cX9_doTangle 24 = .ok (.invokevirtual 174, 3) := by decide +kernel
theorem dX9_doTangle_27 : decode cX9_doTangle 27 = .ok (.aload_n 0, 1) := by decide +kernel
theorem dX9_doTangle_28 : decode cX9_doTangle 28 = .ok (.iload_n 2, 1) := by decide +kernel
theorem dX9_doTangle_29 : decode cX9_doTangle 29 = .ok (.iload_n 3, 1) := by decide +kernel
theorem dX9_doTangle_30 : decode cX9_doTangle 30 = .ok (.iload 4, 2) := by decide +kernel
theorem dX9_doTangle_32 : decode cX9_doTangle 32 = .ok (.invokevirtual 174, 3) := by decide +kernel
theorem dX9_doTangle_35 : decode cX9_doTangle 35 = .ok (.isub, 1) := by decide +kernel
theorem dX9_doTangle_36 : decode cX9_doTangle 36 = .ok (.istore 6, 2) := by decide +kernel
theorem dX9_doTangle_38 : decode cX9_doTangle 38 = .ok (.iload 5, 2) := by decide +kernel
theorem dX9_doTangle_40 : decode cX9_doTangle 40 = .ok (.ifCond .eq 21, 3) := by decide +kernel
theorem dX9_doTangle_43 : decode cX9_doTangle 43 = .ok (.iload 5, 2) := by decide +kernel
theorem dX9_doTangle_45 : decode cX9_doTangle 45 = .ok (.ifCond .ge 11, 3) := by decide +kernel
theorem dX9_doTangle_48 : decode cX9_doTangle 48 = .ok (.iload 6, 2) := by decide +kernel
theorem dX9_doTangle_50 : decode cX9_doTangle 50 = .ok (.ifCond .lt 15, 3) := by decide +kernel
theorem dX9_doTangle_53 : decode cX9_doTangle 53 = .ok (.goto 8, 3) := by decide +kernel
theorem dX9_doTangle_56 : decode cX9_doTangle 56 = .ok (.iload 6, 2) := by decide +kernel
theorem dX9_doTangle_58 : decode cX9_doTangle 58 = .ok (.ifCond .gt 7, 3) := by decide +kernel
theorem dX9_doTangle_61 : decode cX9_doTangle 61 = .ok (.iconst 1, 1) := by decide +kernel
theorem dX9_doTangle_62 : decode cX9_doTangle 62 = .ok (.goto 4, 3) := by decide +kernel
theorem dX9_doTangle_65 : decode cX9_doTangle 65 = .ok (.iconst 0, 1) := by decide +kernel
theorem dX9_doTangle_66 : decode cX9_doTangle 66 = .ok (.ireturn, 1) := by decide +kernel
theorem dX9_givesWay_0 : decode cX9_givesWay 0 = .ok (.aload_n 0, 1) := by decide +kernel
theorem dX9_givesWay_1 : decode cX9_givesWay 1 = .ok (.getfield 152, 3) := by decide +kernel
theorem dX9_givesWay_4 : decode cX9_givesWay 4 = .ok (.ifCond .ne 27, 3) := by decide +kernel
theorem dX9_givesWay_7 : decode cX9_givesWay 7 = .ok (.aload_n 0, 1) := by decide +kernel
theorem dX9_givesWay_8 : decode cX9_givesWay 8 = .ok (.getfield 13, 3) := by decide +kernel
theorem dX9_givesWay_11 : decode cX9_givesWay 11 = .ok (.iconst 5, 1) := by decide +kernel
theorem dX9_givesWay_12 : decode cX9_givesWay 12 = .ok (.iload_n 1, 1) := by decide +kernel
theorem dX9_givesWay_13 : decode cX9_givesWay 13 = .ok (.imul, 1) := by decide +kernel
theorem dX9_givesWay_14 : decode cX9_givesWay 14 = .ok (.iconst 1, 1) := by decide +kernel
theorem dX9_givesWay_15 : decode cX9_givesWay 15 = .ok (.iadd, 1) := by decide +kernel
theorem dX9_givesWay_16 : decode cX9_givesWay 16 = .ok (.iaload, 1) := by decide +kernel
theorem dX9_givesWay_17 : decode cX9_givesWay 17 = .ok (.aload_n 0, 1) := by decide +kernel
theorem dX9_givesWay_18 : decode cX9_givesWay 18 = .ok (.getfield 13, 3) := by decide +kernel
theorem dX9_givesWay_21 : decode cX9_givesWay 21 = .ok (.iconst 5, 1) := by decide +kernel
theorem dX9_givesWay_22 : decode cX9_givesWay 22 = .ok (.iload_n 2, 1) := by decide +kernel
theorem dX9_givesWay_23 : decode cX9_givesWay 23 = .ok (.imul, 1) := by decide +kernel
theorem dX9_givesWay_24 : decode cX9_givesWay 24 = .ok (.iconst 1, 1) := by decide +kernel
theorem dX9_givesWay_25 : decode cX9_givesWay 25 = .ok (.iadd, 1) := by decide +kernel
theorem dX9_givesWay_26 : decode cX9_givesWay 26 = .ok (.iaload, 1) := by decide +kernel
theorem dX9_givesWay_27 : decode cX9_givesWay 27 = .ok (.isub, 1) := by decide +kernel
theorem dX9_givesWay_28 : decode cX9_givesWay 28 = .ok (.goto 36, 3) := by decide +kernel
theorem dX9_givesWay_31 : decode cX9_givesWay 31 = .ok (.aload_n 0, 1) := by decide +kernel
theorem dX9_givesWay_32 : decode cX9_givesWay 32 = .ok (.getfield 152, 3) := by decide +kernel
theorem dX9_givesWay_35 : decode cX9_givesWay 35 = .ok (.iconst 1, 1) := by decide +kernel
theorem dX9_givesWay_36 : decode cX9_givesWay 36 = .ok (.if_icmp .ne 27, 3) := by decide +kernel
theorem dX9_givesWay_39 : decode cX9_givesWay 39 = .ok (.aload_n 0, 1) := by decide +kernel
theorem dX9_givesWay_40 : decode cX9_givesWay 40 = .ok (.getfield 13, 3) := by decide +kernel
theorem dX9_givesWay_43 : decode cX9_givesWay 43 = .ok (.iconst 5, 1) := by decide +kernel
theorem dX9_givesWay_44 : decode cX9_givesWay 44 = .ok (.iload_n 2, 1) := by decide +kernel
theorem dX9_givesWay_45 : decode cX9_givesWay 45 = .ok (.imul, 1) := by decide +kernel
theorem dX9_givesWay_46 : decode cX9_givesWay 46 = .ok (.iconst 4, 1) := by decide +kernel
theorem dX9_givesWay_47 : decode cX9_givesWay 47 = .ok (.iadd, 1) := by decide +kernel
theorem dX9_givesWay_48 : decode cX9_givesWay 48 = .ok (.iaload, 1) := by decide +kernel
theorem dX9_givesWay_49 : decode cX9_givesWay 49 = .ok (.aload_n 0, 1) := by decide +kernel
theorem dX9_givesWay_50 : decode cX9_givesWay 50 = .ok (.getfield 13, 3) := by decide +kernel
theorem dX9_givesWay_53 : decode cX9_givesWay 53 = .ok (.iconst 5, 1) := by decide +kernel
theorem dX9_givesWay_54 : decode cX9_givesWay 54 = .ok (.iload_n 1, 1) := by decide +kernel
theorem dX9_givesWay_55 : decode cX9_givesWay 55 = .ok (.imul, 1) := by decide +kernel
theorem dX9_givesWay_56 : decode cX9_givesWay 56 = .ok (.iconst 4, 1) := by decide +kernel
theorem dX9_givesWay_57 : decode cX9_givesWay 57 = .ok (.iadd, 1) := by decide +kernel
theorem dX9_givesWay_58 : decode cX9_givesWay 58 = .ok (.iaload, 1) := by decide +kernel
theorem dX9_givesWay_59 : decode cX9_givesWay 59 = .ok (.isub, 1) := by decide +kernel
theorem dX9_givesWay_60 : decode cX9_givesWay 60 = .ok (.goto 4, 3) := by decide +kernel
theorem dX9_givesWay_63 : decode cX9_givesWay 63 = .ok (.iconst 0, 1) := by decide +kernel
theorem dX9_givesWay_64 : decode cX9_givesWay 64 = .ok (.istore_n 3, 1) := by decide +kernel
theorem dX9_givesWay_65 : decode cX9_givesWay 65 = .ok (.iload_n 3, 1) := by decide +kernel
theorem dX9_givesWay_66 : decode cX9_givesWay 66 = .ok (.ifCond .ge 7, 3) := by decide +kernel
theorem dX9_givesWay_69 : decode cX9_givesWay 69 = .ok (.iload_n 1, 1) := by decide +kernel
theorem dX9_givesWay_70 : decode cX9_givesWay 70 = .ok (.goto 4, 3) := by decide +kernel
theorem dX9_givesWay_73 : decode cX9_givesWay 73 = .ok (.iload_n 2, 1) := by decide +kernel
theorem dX9_givesWay_74 : decode cX9_givesWay 74 = .ok (.ireturn, 1) := by decide +kernel
theorem dX9_findUp_0 : decode cX9_findUp 0 = .ok (.iconst 0, 1) := by decide +kernel
theorem dX9_findUp_1 : decode cX9_findUp 1 = .ok (.istore_n 2, 1) := by decide +kernel
theorem dX9_findUp_2 : decode cX9_findUp 2 = .ok (.iconst 0, 1) := by decide +kernel
theorem dX9_findUp_3 : decode cX9_findUp 3 = .ok (.istore_n 3, 1) := by decide +kernel
theorem dX9_findUp_4 : decode cX9_findUp 4 = .ok (.iload_n 3, 1) := by decide +kernel
theorem dX9_findUp_5 : decode cX9_findUp 5 = .ok (.bipush 6, 2) := by decide +kernel
theorem dX9_findUp_7 : decode cX9_findUp 7 = .ok (.if_icmp .ge 159, 3) := by decide +kernel
theorem dX9_findUp_10 : decode cX9_findUp 10 = .ok (.aload_n 0, 1) := by decide +kernel
theorem dX9_findUp_11 : decode cX9_findUp 11 = .ok (.getfield 29, 3) := by decide +kernel
theorem dX9_findUp_14 : decode cX9_findUp 14 = .ok (.bipush 7, 2) := by decide +kernel
theorem dX9_findUp_16 : decode cX9_findUp 16 = .ok (.iload_n 3, 1) := by decide +kernel
theorem dX9_findUp_17 : decode cX9_findUp 17 = .ok (.iadd, 1) := by decide +kernel
theorem dX9_findUp_18 : decode cX9_findUp 18 = .ok (.iaload, 1) := by decide +kernel
theorem dX9_findUp_19 : decode cX9_findUp 19 = .ok (.istore 4, 2) := by decide +kernel
theorem dX9_findUp_21 : decode cX9_findUp 21 = .ok (.aload_n 0, 1) := by decide +kernel
theorem dX9_findUp_22 : decode cX9_findUp 22 = .ok (.getfield 49, 3) := by decide +kernel
theorem dX9_findUp_25 : decode cX9_findUp 25 = .ok (.iload_n 3, 1) := by decide +kernel
theorem dX9_findUp_26 : decode cX9_findUp 26 = .ok (.invokestatic 52, 3) := by decide +kernel
theorem dX9_findUp_29 : decode cX9_findUp 29 = .ok (.ifCond .eq 34, 3) := by decide +kernel
theorem dX9_findUp_32 : decode cX9_findUp 32 = .ok (.iload 4, 2) := by decide +kernel
theorem dX9_findUp_34 : decode cX9_findUp 34 = .ok (.ifCond .le 29, 3) := by decide +kernel
theorem dX9_findUp_37 : decode cX9_findUp 37 = .ok (.aload_n 0, 1) := by decide +kernel
theorem dX9_findUp_38 : decode cX9_findUp 38 = .ok (.iload_n 3, 1) := by decide +kernel
theorem dX9_findUp_39 : decode cX9_findUp 39 = .ok (.iload 4, 2) := by decide +kernel
theorem dX9_findUp_41 : decode cX9_findUp 41 = .ok (.iload_n 1, 1) := by decide +kernel
theorem dX9_findUp_42 : decode cX9_findUp 42 = .ok (.invokevirtual 182, 3) := by decide +kernel
theorem dX9_findUp_45 : decode cX9_findUp 45 = .ok (.ifCond .eq 18, 3) := by decide +kernel
theorem dX9_findUp_48 : decode cX9_findUp 48 = .ok (.aload_n 0, 1) := by decide +kernel
theorem dX9_findUp_49 : decode cX9_findUp 49 = .ok (.iload_n 3, 1) := by decide +kernel
theorem dX9_findUp_50 : decode cX9_findUp 50 = .ok (.iload 4, 2) := by decide +kernel
theorem dX9_findUp_52 : decode cX9_findUp 52 = .ok (.iload_n 1, 1) := by decide +kernel
theorem dX9_findUp_53 : decode cX9_findUp 53 = .ok (.invokevirtual 185, 3) := by decide +kernel
theorem dX9_findUp_56 : decode cX9_findUp 56 = .ok (.ifCond .eq 7, 3) := by decide +kernel
theorem dX9_findUp_59 : decode cX9_findUp 59 = .ok (.iconst 1, 1) := by decide +kernel
theorem dX9_findUp_60 : decode cX9_findUp 60 = .ok (.goto 4, 3) := by decide +kernel
theorem dX9_findUp_63 : decode cX9_findUp 63 = .ok (.iconst 0, 1) := by decide +kernel
theorem dX9_findUp_64 : decode cX9_findUp 64 = .ok (.istore 5, 2) := by decide +kernel
theorem dX9_findUp_66 : decode cX9_findUp 66 = .ok (.iload 5, 2) := by decide +kernel
theorem dX9_findUp_68 : decode cX9_findUp 68 = .ok (.ifCond .eq 49, 3) := by decide +kernel
theorem dX9_findUp_71 : decode cX9_findUp 71 = .ok (.aload_n 0, 1) := by decide +kernel
theorem dX9_findUp_72 : decode cX9_findUp 72 = .ok (.getfield 143, 3) := by decide +kernel
theorem dX9_findUp_75 : decode cX9_findUp 75 = .ok (.iload_n 1, 1) := by decide +kernel
theorem dX9_findUp_76 : decode cX9_findUp 76 = .ok (.invokestatic 52, 3) := by decide +kernel
theorem dX9_findUp_79 : decode cX9_findUp 79 = .ok (.ifCond .eq 15, 3) := by decide +kernel
theorem dX9_findUp_82 : decode cX9_findUp 82 = .ok (.aload_n 0, 1) := by decide +kernel
theorem dX9_findUp_83 : decode cX9_findUp 83 = .ok (.getfield 29, 3) := by decide +kernel
theorem dX9_findUp_86 : decode cX9_findUp 86 = .ok (.iconst 1, 1) := by decide +kernel
theorem dX9_findUp_87 : decode cX9_findUp 87 = .ok (.iload_n 3, 1) := by decide +kernel
theorem dX9_findUp_88 : decode cX9_findUp 88 = .ok (.iadd, 1) := by decide +kernel
theorem dX9_findUp_89 : decode cX9_findUp 89 = .ok (.iaload, 1) := by decide +kernel
theorem dX9_findUp_90 : decode cX9_findUp 90 = .ok (.iconst 1, 1) := by decide +kernel
theorem dX9_findUp_91 : decode cX9_findUp 91 = .ok (.if_icmp .ne 26, 3) := by decide +kernel
theorem dX9_findUp_94 : decode cX9_findUp 94 = .ok (.iload_n 2, 1) := by decide +kernel
theorem dX9_findUp_95 : decode cX9_findUp 95 = .ok (.aload_n 0, 1) := by decide +kernel
theorem dX9_findUp_96 : decode cX9_findUp 96 = .ok (.getfield 13, 3) := by decide +kernel
theorem dX9_findUp_99 : decode cX9_findUp 99 = .ok (.iconst 5, 1) := by decide +kernel
theorem dX9_findUp_100 : decode cX9_findUp 100 = .ok (.iload_n 3, 1) := by decide +kernel
theorem dX9_findUp_101 : decode cX9_findUp 101 = .ok (.imul, 1) := by decide +kernel
theorem dX9_findUp_102 : decode cX9_findUp 102 = .ok (.iconst 2, 1) := by decide +kernel
theorem dX9_findUp_103 : decode cX9_findUp 103 = .ok (.iadd, 1) := by decide +kernel
theorem dX9_findUp_104 : decode cX9_findUp 104 = .ok (.iaload, 1) := by decide +kernel
theorem dX9_findUp_105 : decode cX9_findUp 105 = .ok (.iadd, 1) := by decide +kernel
theorem dX9_findUp_106 : decode cX9_findUp 106 = .ok (.aload_n 0, 1) := by decide +kernel
theorem dX9_findUp_107 : decode cX9_findUp 107 = .ok (.getfield 19, 3) := by decide +kernel
theorem dX9_findUp_110 : decode cX9_findUp 110 = .ok (.if_icmp .gt 7, 3) := by decide +kernel
theorem dX9_findUp_113 : decode cX9_findUp 113 = .ok (.iconst 1, 1) := by decide +kernel
theorem dX9_findUp_114 : decode cX9_findUp 114 = .ok (.goto 4, 3) := by decide +kernel
theorem dX9_findUp_117 : decode cX9_findUp 117 = .ok (.iconst 0, 1) := by decide +kernel
theorem dX9_findUp_118 : decode cX9_findUp 118 = .ok (.istore 5, 2) := by decide +kernel
theorem dX9_findUp_120 : decode cX9_findUp 120 = .ok (.aload_n 0, 1) := by decide +kernel
theorem dX9_findUp_121 : decode cX9_findUp 121 = .ok (.getfield 29, 3) := by decide +kernel
theorem dX9_findUp_124 : decode cX9_findUp 124 = .ok (.iconst 1, 1) := by decide +kernel
theorem dX9_findUp_125 : decode cX9_findUp 125 = .ok (.iload_n 3, 1) := by decide +kernel
theorem dX9_findUp_126 : decode cX9_findUp 126 = .ok (.iadd, 1) := by decide +kernel
theorem dX9_findUp_127 : decode cX9_findUp 127 = .ok (.iload 5, 2) := by decide +kernel
theorem dX9_findUp_129 : decode cX9_findUp 129 = .ok (.ifCond .eq 7, 3) := by decide +kernel
theorem dX9_findUp_132 : decode cX9_findUp 132 = .ok (.iconst 1, 1) := by decide +kernel
theorem dX9_findUp_133 : decode cX9_findUp 133 = .ok (.goto 4, 3) := by decide +kernel
theorem dX9_findUp_136 : decode cX9_findUp 136 = .ok (.iconst 0, 1) := by decide +kernel
theorem dX9_findUp_137 : decode cX9_findUp 137 = .ok (.iastore, 1) := by decide +kernel
theorem dX9_findUp_138 : decode cX9_findUp 138 = .ok (.iload_n 2, 1) := by decide +kernel
theorem dX9_findUp_139 : decode cX9_findUp 139 = .ok (.iload 5, 2) := by decide +kernel
theorem dX9_findUp_141 : decode cX9_findUp 141 = .ok (.ifCond .eq 16, 3) := by decide +kernel
theorem dX9_findUp_144 : decode cX9_findUp 144 = .ok (.aload_n 0, 1) := by decide +kernel
theorem dX9_findUp_145 : decode cX9_findUp 145 = .ok (.getfield 13, 3) := by decide +kernel
theorem dX9_findUp_148 : decode cX9_findUp 148 = .ok (.iconst 5, 1) := by decide +kernel
theorem dX9_findUp_149 : decode cX9_findUp 149 = .ok (.iload_n 3, 1) := by decide +kernel
theorem dX9_findUp_150 : decode cX9_findUp 150 = .ok (.imul, 1) := by decide +kernel
theorem dX9_findUp_151 : decode cX9_findUp 151 = .ok (.iconst 2, 1) := by decide +kernel
theorem dX9_findUp_152 : decode cX9_findUp 152 = .ok (.iadd, 1) := by decide +kernel
theorem dX9_findUp_153 : decode cX9_findUp 153 = .ok (.iaload, 1) := by decide +kernel
theorem dX9_findUp_154 : decode cX9_findUp 154 = .ok (.goto 4, 3) := by decide +kernel
theorem dX9_findUp_157 : decode cX9_findUp 157 = .ok (.iconst 0, 1) := by decide +kernel
theorem dX9_findUp_158 : decode cX9_findUp 158 = .ok (.iadd, 1) := by decide +kernel
theorem dX9_findUp_159 : decode cX9_findUp 159 = .ok (.istore_n 2, 1) := by decide +kernel
theorem dX9_findUp_160 : decode cX9_findUp 160 = .ok (.iinc 3 1, 3) := by decide +kernel
theorem dX9_findUp_163 : decode cX9_findUp 163 = .ok (.goto (-159), 3) := by decide +kernel
theorem dX9_findUp_166 : decode cX9_findUp 166 = .ok (.iconst 0, 1) := by decide +kernel
theorem dX9_findUp_167 : decode cX9_findUp 167 = .ok (.istore_n 3, 1) := by decide +kernel
theorem dX9_findUp_168 : decode cX9_findUp 168 = .ok (.iload_n 3, 1) := by decide +kernel
theorem dX9_findUp_169 : decode cX9_findUp 169 = .ok (.bipush 6, 2) := by decide +kernel
theorem dX9_findUp_171 : decode cX9_findUp 171 = .ok (.if_icmp .ge 124, 3) := by decide +kernel
theorem dX9_findUp_174 : decode cX9_findUp 174 = .ok (.iload_n 3, 1) := by decide +kernel
theorem dX9_findUp_175 : decode cX9_findUp 175 = .ok (.iconst 1, 1) := by decide +kernel
theorem dX9_findUp_176 : decode cX9_findUp 176 = .ok (.iadd, 1) := by decide +kernel
theorem dX9_findUp_177 : decode cX9_findUp 177 = .ok (.istore 4, 2) := by decide +kernel
theorem dX9_findUp_179 : decode cX9_findUp 179 = .ok (.iload 4, 2) := by decide +kernel
theorem dX9_findUp_181 : decode cX9_findUp 181 = .ok (.bipush 6, 2) := by decide +kernel
theorem dX9_findUp_183 : decode cX9_findUp 183 = .ok (.if_icmp .ge 106, 3) := by decide +kernel
theorem dX9_findUp_186 : decode cX9_findUp 186 = .ok (.aload_n 0, 1) := by decide +kernel
theorem dX9_findUp_187 : decode cX9_findUp 187 = .ok (.getfield 29, 3) := by decide +kernel
theorem dX9_findUp_190 : decode cX9_findUp 190 = .ok (.bipush 7, 2) := by decide +kernel
theorem dX9_findUp_192 : decode cX9_findUp 192 = .ok (.iload_n 3, 1) := by decide +kernel
theorem dX9_findUp_193 : decode cX9_findUp 193 = .ok (.iadd, 1) := by decide +kernel
theorem dX9_findUp_194 : decode cX9_findUp 194 = .ok (.iaload, 1) := by decide +kernel
theorem dX9_findUp_195 : decode cX9_findUp 195 = .ok (.istore 5, 2) := by decide +kernel
theorem dX9_findUp_197 : decode cX9_findUp 197 = .ok (.aload_n 0, 1) := by decide +kernel
theorem dX9_findUp_198 : decode cX9_findUp 198 = .ok (.getfield 29, 3) := by decide +kernel
theorem dX9_findUp_201 : decode cX9_findUp 201 = .ok (.iconst 1, 1) := by decide +kernel
theorem dX9_findUp_202 : decode cX9_findUp 202 = .ok (.iload_n 3, 1) := by decide +kernel
theorem dX9_findUp_203 : decode cX9_findUp 203 = .ok (.iadd, 1) := by decide +kernel
theorem dX9_findUp_204 : decode cX9_findUp 204 = .ok (.iaload, 1) := by decide +kernel
theorem dX9_findUp_205 : decode cX9_findUp 205 = .ok (.iconst 1, 1) := by decide +kernel
theorem dX9_findUp_206 : decode cX9_findUp 206 = .ok (.if_icmp .ne 77, 3) := by decide +kernel
theorem dX9_findUp_209 : decode cX9_findUp 209 = .ok (.aload_n 0, 1) := by decide +kernel
theorem dX9_findUp_210 : decode cX9_findUp 210 = .ok (.getfield 29, 3) := by decide +kernel
theorem dX9_findUp_213 : decode cX9_findUp 213 = .ok (.iconst 1, 1) := by decide +kernel
theorem dX9_findUp_214 : decode cX9_findUp 214 = .ok (.iload 4, 2) := by decide +kernel
theorem dX9_findUp_216 : decode cX9_findUp 216 = .ok (.iadd, 1) := by decide +kernel
theorem dX9_findUp_217 : decode cX9_findUp 217 = .ok (.iaload, 1) := by decide +kernel
theorem dX9_findUp_218 : decode cX9_findUp 218 = .ok (.iconst 1, 1) := by decide +kernel
theorem dX9_findUp_219 : decode cX9_findUp 219 = .ok (.if_icmp .ne 64, 3) := by decide +kernel
theorem dX9_findUp_222 : decode cX9_findUp 222 = .ok (.iload 5, 2) := by decide +kernel
theorem dX9_findUp_224 : decode cX9_findUp 224 = .ok (.aload_n 0, 1) := by decide +kernel
theorem dX9_findUp_225 : decode cX9_findUp 225 = .ok (.getfield 29, 3) := by decide +kernel
theorem dX9_findUp_228 : decode cX9_findUp 228 = .ok (.bipush 7, 2) := by decide +kernel
theorem dX9_findUp_230 : decode cX9_findUp 230 = .ok (.iload 4, 2) := by decide +kernel
theorem dX9_findUp_232 : decode cX9_findUp 232 = .ok (.iadd, 1) := by decide +kernel
theorem dX9_findUp_233 : decode cX9_findUp 233 = .ok (.iaload, 1) := by decide +kernel
theorem dX9_findUp_234 : decode cX9_findUp 234 = .ok (.if_icmp .ne 49, 3) := by decide +kernel
theorem dX9_findUp_237 : decode cX9_findUp 237 = .ok (.aload_n 0, 1) := by decide +kernel
theorem dX9_findUp_238 : decode cX9_findUp 238 = .ok (.iload_n 3, 1) := by decide +kernel
theorem dX9_findUp_239 : decode cX9_findUp 239 = .ok (.iload 4, 2) := by decide +kernel
theorem dX9_findUp_241 : decode cX9_findUp 241 = .ok (.iload 5, 2) := by decide +kernel
theorem dX9_findUp_243 : decode cX9_findUp 243 = .ok (.iload_n 1, 1) := by decide +kernel
theorem dX9_findUp_244 : decode cX9_findUp 244 = .ok (.invokevirtual 188, 3) := by decide +kernel
theorem dX9_findUp_247 : decode cX9_findUp 247 = .ok (.ifCond .eq 36, 3) := by decide +kernel
theorem dX9_findUp_250 : decode cX9_findUp 250 = .ok (.aload_n 0, 1) := by decide +kernel
theorem dX9_findUp_251 : decode cX9_findUp 251 = .ok (.iload_n 3, 1) := by decide +kernel
theorem dX9_findUp_252 : decode cX9_findUp 252 = .ok (.iload 4, 2) := by decide +kernel
theorem dX9_findUp_254 : decode cX9_findUp 254 = .ok (.invokevirtual 192, 3) := by decide +kernel
theorem dX9_findUp_257 : decode cX9_findUp 257 = .ok (.istore 6, 2) := by decide +kernel
theorem dX9_findUp_259 : decode cX9_findUp 259 = .ok (.aload_n 0, 1) := by decide +kernel
theorem dX9_findUp_260 : decode cX9_findUp 260 = .ok (.getfield 29, 3) := by decide +kernel
theorem dX9_findUp_263 : decode cX9_findUp 263 = .ok (.iconst 1, 1) := by decide +kernel
theorem dX9_findUp_264 : decode cX9_findUp 264 = .ok (.iload 6, 2) := by decide +kernel
theorem dX9_findUp_266 : decode cX9_findUp 266 = .ok (.iadd, 1) := by decide +kernel
theorem dX9_findUp_267 : decode cX9_findUp 267 = .ok (.iconst 0, 1) := by decide +kernel
theorem dX9_findUp_268 : decode cX9_findUp 268 = .ok (.iastore, 1) := by decide +kernel
theorem dX9_findUp_269 : decode cX9_findUp 269 = .ok (.aload_n 0, 1) := by decide +kernel
theorem dX9_findUp_270 : decode cX9_findUp 270 = .ok (.getfield 29, 3) := by decide +kernel
theorem dX9_findUp_273 : decode cX9_findUp 273 = .ok (.bipush 25, 2) := by decide +kernel
theorem dX9_findUp_275 : decode cX9_findUp 275 = .ok (.iload 6, 2) := by decide +kernel
theorem dX9_findUp_277 : decode cX9_findUp 277 = .ok (.iadd, 1) := by decide +kernel
theorem dX9_findUp_278 : decode cX9_findUp 278 = .ok (.dup2, 1) := by decide +kernel
theorem dX9_findUp_279 : decode cX9_findUp 279 = .ok (.iaload, 1) := by decide +kernel
theorem dX9_findUp_280 : decode cX9_findUp 280 = .ok (.iconst 1, 1) := by decide +kernel
theorem dX9_findUp_281 : decode cX9_findUp 281 = .ok (.iadd, 1) := by decide +kernel
theorem dX9_findUp_282 : decode cX9_findUp 282 = .ok (.iastore, 1) := by decide +kernel
theorem dX9_findUp_283 : decode cX9_findUp 283 = .ok (.iinc 4 1, 3) := by decide +kernel
theorem dX9_findUp_286 : decode cX9_findUp 286 = .ok (.goto (-107), 3) := by decide +kernel
theorem dX9_findUp_289 : decode cX9_findUp 289 = .ok (.iinc 3 1, 3) := by decide +kernel
theorem dX9_findUp_292 : decode cX9_findUp 292 = .ok (.goto (-124), 3) := by decide +kernel
theorem dX9_findUp_295 : decode cX9_findUp 295 = .ok (.return_, 1) := by decide +kernel
theorem dX9_take_0 : decode cX9_take 0 = .ok (.iconst 3, 1) := by decide +kernel
theorem dX9_take_1 : decode cX9_take 1 = .ok (.aload_n 0, 1) := by decide +kernel
theorem dX9_take_2 : decode cX9_take 2 = .ok (.getfield 13, 3) := by decide +kernel
theorem dX9_take_5 : decode cX9_take 5 = .ok (.iconst 5, 1) := by decide +kernel
theorem dX9_take_6 : decode cX9_take 6 = .ok (.iload_n 1, 1) := by decide +kernel
theorem dX9_take_7 : decode cX9_take 7 = .ok (.imul, 1) := by decide +kernel
theorem dX9_take_8 : decode cX9_take 8 = .ok (.iconst 3, 1) := by decide +kernel
theorem dX9_take_9 : decode cX9_take 9 = .ok (.iadd, 1) := by decide +kernel
theorem dX9_take_10 : decode cX9_take 10 = .ok (.iaload, 1) := by decide +kernel
theorem dX9_take_11 : decode cX9_take 11 = .ok (.imul, 1) := by decide +kernel
theorem dX9_take_12 : decode cX9_take 12 = .ok (.istore_n 3, 1) := by decide +kernel
theorem dX9_take_13 : decode cX9_take 13 = .ok (.iconst 0, 1) := by decide +kernel
theorem dX9_take_14 : decode cX9_take 14 = .ok (.istore 4, 2) := by decide +kernel
theorem dX9_take_16 : decode cX9_take 16 = .ok (.iconst 0, 1) := by decide +kernel
theorem dX9_take_17 : decode cX9_take 17 = .ok (.istore 5, 2) := by decide +kernel
theorem dX9_take_19 : decode cX9_take 19 = .ok (.iload 5, 2) := by decide +kernel
theorem dX9_take_21 : decode cX9_take 21 = .ok (.iconst 4, 1) := by decide +kernel
theorem dX9_take_22 : decode cX9_take 22 = .ok (.if_icmp .ge 219, 3) := by decide +kernel
theorem dX9_take_25 : decode cX9_take 25 = .ok (.aload_n 0, 1) := by decide +kernel
theorem dX9_take_26 : decode cX9_take 26 = .ok (.getfield 149, 3) := by decide +kernel
theorem dX9_take_29 : decode cX9_take 29 = .ok (.iload 5, 2) := by decide +kernel
theorem dX9_take_31 : decode cX9_take 31 = .ok (.invokestatic 52, 3) := by decide +kernel
theorem dX9_take_34 : decode cX9_take 34 = .ok (.ifCond .eq 62, 3) := by decide +kernel
theorem dX9_take_37 : decode cX9_take 37 = .ok (.aload_n 0, 1) := by decide +kernel
theorem dX9_take_38 : decode cX9_take 38 = .ok (.getfield 29, 3) := by decide +kernel
theorem dX9_take_41 : decode cX9_take 41 = .ok (.bipush 31, 2) := by decide +kernel
theorem dX9_take_43 : decode cX9_take 43 = .ok (.iload 5, 2) := by decide +kernel
theorem dX9_take_45 : decode cX9_take 45 = .ok (.iadd, 1) := by decide +kernel
theorem dX9_take_46 : decode cX9_take 46 = .ok (.iaload, 1) := by decide +kernel
theorem dX9_take_47 : decode cX9_take 47 = .ok (.aload_n 0, 1) := by decide +kernel
theorem dX9_take_48 : decode cX9_take 48 = .ok (.iload_n 1, 1) := by decide +kernel
theorem dX9_take_49 : decode cX9_take 49 = .ok (.aload_n 0, 1) := by decide +kernel
theorem dX9_take_50 : decode cX9_take 50 = .ok (.getfield 29, 3) := by decide +kernel
theorem dX9_take_53 : decode cX9_take 53 = .ok (.bipush 7, 2) := by decide +kernel
theorem dX9_take_55 : decode cX9_take 55 = .ok (.iload_n 1, 1) := by decide +kernel
theorem dX9_take_56 : decode cX9_take 56 = .ok (.iadd, 1) := by decide +kernel
theorem dX9_take_57 : decode cX9_take 57 = .ok (.iaload, 1) := by decide +kernel
theorem dX9_take_58 : decode cX9_take 58 = .ok (.iload_n 2, 1) := by decide +kernel
theorem dX9_take_59 : decode cX9_take 59 = .ok (.invokevirtual 174, 3) := by decide +kernel
theorem dX9_take_62 : decode cX9_take 62 = .ok (.if_icmp .ne 34, 3) := by decide +kernel
theorem dX9_take_65 : decode cX9_take 65 = .ok (.aload_n 0, 1) := by decide +kernel
theorem dX9_take_66 : decode cX9_take 66 = .ok (.getfield 29, 3) := by decide +kernel
theorem dX9_take_69 : decode cX9_take 69 = .ok (.bipush 35, 2) := by decide +kernel
theorem dX9_take_71 : decode cX9_take 71 = .ok (.iload 5, 2) := by decide +kernel
theorem dX9_take_73 : decode cX9_take 73 = .ok (.iadd, 1) := by decide +kernel
theorem dX9_take_74 : decode cX9_take 74 = .ok (.iaload, 1) := by decide +kernel
theorem dX9_take_75 : decode cX9_take 75 = .ok (.aload_n 0, 1) := by decide +kernel
theorem dX9_take_76 : decode cX9_take 76 = .ok (.iload_n 1, 1) := by decide +kernel
theorem dX9_take_77 : decode cX9_take 77 = .ok (.aload_n 0, 1) := by decide +kernel
theorem dX9_take_78 : decode cX9_take 78 = .ok (.getfield 29, 3) := by decide +kernel
theorem dX9_take_81 : decode cX9_take 81 = .ok (.bipush 7, 2) := by decide +kernel
theorem dX9_take_83 : decode cX9_take 83 = .ok (.iload_n 1, 1) := by decide +kernel
theorem dX9_take_84 : decode cX9_take 84 = .ok (.iadd, 1) := by decide +kernel
theorem dX9_take_85 : decode cX9_take 85 = .ok (.iaload, 1) := by decide +kernel
theorem dX9_take_86 : decode cX9_take 86 = .ok (.invokevirtual 178, 3) := by decide +kernel
theorem dX9_take_89 : decode cX9_take 89 = .ok (.if_icmp .ne 7, 3) := by decide +kernel
theorem dX9_take_92 : decode cX9_take 92 = .ok (.iconst 1, 1) := by decide +kernel
theorem dX9_take_93 : decode cX9_take 93 = .ok (.goto 4, 3) := by decide +kernel
theorem dX9_take_96 : decode cX9_take 96 = .ok (.iconst 0, 1) := by decide +kernel
theorem dX9_take_97 : decode cX9_take 97 = .ok (.istore 6, 2) := by decide +kernel
theorem dX9_take_99 : decode cX9_take 99 = .ok (.iload 6, 2) := by decide +kernel
theorem dX9_take_101 : decode cX9_take 101 = .ok (.ifCond .ne 7, 3) := by decide +kernel
theorem dX9_take_104 : decode cX9_take 104 = .ok (.iconst 0, 1) := by decide +kernel
theorem dX9_take_105 : decode cX9_take 105 = .ok (.goto 31, 3) := by decide +kernel
theorem dX9_take_108 : decode cX9_take 108 = .ok (.aload_n 0, 1) := by decide +kernel
theorem dX9_take_109 : decode cX9_take 109 = .ok (.getfield 29, 3) := by decide +kernel
theorem dX9_take_112 : decode cX9_take 112 = .ok (.bipush 39, 2) := by decide +kernel
theorem dX9_take_114 : decode cX9_take 114 = .ok (.iload 5, 2) := by decide +kernel
theorem dX9_take_116 : decode cX9_take 116 = .ok (.iadd, 1) := by decide +kernel
theorem dX9_take_117 : decode cX9_take 117 = .ok (.iaload, 1) := by decide +kernel
theorem dX9_take_118 : decode cX9_take 118 = .ok (.iload_n 3, 1) := by decide +kernel
theorem dX9_take_119 : decode cX9_take 119 = .ok (.if_icmp .ge 16, 3) := by decide +kernel
theorem dX9_take_122 : decode cX9_take 122 = .ok (.aload_n 0, 1) := by decide +kernel
theorem dX9_take_123 : decode cX9_take 123 = .ok (.getfield 29, 3) := by decide +kernel
theorem dX9_take_126 : decode cX9_take 126 = .ok (.bipush 39, 2) := by decide +kernel
theorem dX9_take_128 : decode cX9_take 128 = .ok (.iload 5, 2) := by decide +kernel
theorem dX9_take_130 : decode cX9_take 130 = .ok (.iadd, 1) := by decide +kernel
theorem dX9_take_131 : decode cX9_take 131 = .ok (.iaload, 1) := by decide +kernel
theorem dX9_take_132 : decode cX9_take 132 = .ok (.goto 4, 3) := by decide +kernel
theorem dX9_take_135 : decode cX9_take 135 = .ok (.iload_n 3, 1) := by decide +kernel
theorem dX9_take_136 : decode cX9_take 136 = .ok (.istore 7, 2) := by decide +kernel
theorem dX9_take_138 : decode cX9_take 138 = .ok (.iload 7, 2) := by decide +kernel
theorem dX9_take_140 : decode cX9_take 140 = .ok (.ifCond .le 95, 3) := by decide +kernel
theorem dX9_take_143 : decode cX9_take 143 = .ok (.bipush 45, 2) := by decide +kernel
theorem dX9_take_145 : decode cX9_take 145 = .ok (.iconst 4, 1) := by decide +kernel
theorem dX9_take_146 : decode cX9_take 146 = .ok (.aload_n 0, 1) := by decide +kernel
theorem dX9_take_147 : decode cX9_take 147 = .ok (.getfield 29, 3) := by decide +kernel
theorem dX9_take_150 : decode cX9_take 150 = .ok (.bipush 44, 2) := by decide +kernel
theorem dX9_take_152 : decode cX9_take 152 = .ok (.iaload, 1) := by decide +kernel
theorem dX9_take_153 : decode cX9_take 153 = .ok (.imul, 1) := by decide +kernel
theorem dX9_take_154 : decode cX9_take 154 = .ok (.iadd, 1) := by decide +kernel
theorem dX9_take_155 : decode cX9_take 155 = .ok (.istore 8, 2) := by decide +kernel
theorem dX9_take_157 : decode cX9_take 157 = .ok (.aload_n 0, 1) := by decide +kernel
theorem dX9_take_158 : decode cX9_take 158 = .ok (.getfield 29, 3) := by decide +kernel
theorem dX9_take_161 : decode cX9_take 161 = .ok (.iload 8, 2) := by decide +kernel
theorem dX9_take_163 : decode cX9_take 163 = .ok (.iload_n 1, 1) := by decide +kernel
theorem dX9_take_164 : decode cX9_take 164 = .ok (.iastore, 1) := by decide +kernel
theorem dX9_take_165 : decode cX9_take 165 = .ok (.aload_n 0, 1) := by decide +kernel
theorem dX9_take_166 : decode cX9_take 166 = .ok (.getfield 29, 3) := by decide +kernel
theorem dX9_take_169 : decode cX9_take 169 = .ok (.iload 8, 2) := by decide +kernel
theorem dX9_take_171 : decode cX9_take 171 = .ok (.iconst 1, 1) := by decide +kernel
theorem dX9_take_172 : decode cX9_take 172 = .ok (.iadd, 1) := by decide +kernel
theorem dX9_take_173 : decode cX9_take 173 = .ok (.iload 5, 2) := by decide +kernel
theorem dX9_take_175 : decode cX9_take 175 = .ok (.iastore, 1) := by decide +kernel
theorem dX9_take_176 : decode cX9_take 176 = .ok (.aload_n 0, 1) := by decide +kernel
theorem dX9_take_177 : decode cX9_take 177 = .ok (.getfield 29, 3) := by decide +kernel
theorem dX9_take_180 : decode cX9_take 180 = .ok (.iload 8, 2) := by decide +kernel
theorem dX9_take_182 : decode cX9_take 182 = .ok (.iconst 2, 1) := by decide +kernel
theorem dX9_take_183 : decode cX9_take 183 = .ok (.iadd, 1) := by decide +kernel
theorem dX9_take_184 : decode cX9_take 184 = .ok (.iload_n 2, 1) := by decide +kernel
theorem dX9_take_185 : decode cX9_take 185 = .ok (.iastore, 1) := by decide +kernel
theorem dX9_take_186 : decode cX9_take 186 = .ok (.aload_n 0, 1) := by decide +kernel
theorem dX9_take_187 : decode cX9_take 187 = .ok (.getfield 29, 3) := by decide +kernel
theorem dX9_take_190 : decode cX9_take 190 = .ok (.iload 8, 2) := by decide +kernel
theorem dX9_take_192 : decode cX9_take 192 = .ok (.iconst 3, 1) := by decide +kernel
theorem dX9_take_193 : decode cX9_take 193 = .ok (.iadd, 1) := by decide +kernel
theorem dX9_take_194 : decode cX9_take 194 = .ok (.iload 7, 2) := by decide +kernel
theorem dX9_take_196 : decode cX9_take 196 = .ok (.iastore, 1) := by decide +kernel
theorem dX9_take_197 : decode cX9_take 197 = .ok (.aload_n 0, 1) := by decide +kernel
theorem dX9_take_198 : decode cX9_take 198 = .ok (.getfield 29, 3) := by decide +kernel
theorem dX9_take_201 : decode cX9_take 201 = .ok (.bipush 44, 2) := by decide +kernel
theorem dX9_take_203 : decode cX9_take 203 = .ok (.dup2, 1) := by decide +kernel
theorem dX9_take_204 : decode cX9_take 204 = .ok (.iaload, 1) := by decide +kernel
theorem dX9_take_205 : decode cX9_take 205 = .ok (.iconst 1, 1) := by decide +kernel
theorem dX9_take_206 : decode cX9_take 206 = .ok (.iadd, 1) := by decide +kernel
theorem dX9_take_207 : decode cX9_take 207 = .ok (.iastore, 1) := by decide +kernel
theorem dX9_take_208 : decode cX9_take 208 = .ok (.aload_n 0, 1) := by decide +kernel
theorem dX9_take_209 : decode cX9_take 209 = .ok (.getfield 29, 3) := by decide +kernel
theorem dX9_take_212 : decode cX9_take 212 = .ok (.bipush 39, 2) := by decide +kernel
theorem dX9_take_214 : decode cX9_take 214 = .ok (.iload 5, 2) := by decide +kernel
theorem dX9_take_216 : decode cX9_take 216 = .ok (.iadd, 1) := by decide +kernel
theorem dX9_take_217 : decode cX9_take 217 = .ok (.dup2, 1) := by decide +kernel
theorem dX9_take_218 : decode cX9_take 218 = .ok (.iaload, 1) := by decide +kernel
theorem dX9_take_219 : decode cX9_take 219 = .ok (.iload 7, 2) := by decide +kernel
theorem dX9_take_221 : decode cX9_take 221 = .ok (.isub, 1) := by decide +kernel
theorem dX9_take_222 : decode cX9_take 222 = .ok (.iastore, 1) := by decide +kernel
theorem dX9_take_223 : decode cX9_take 223 = .ok (.iload_n 3, 1) := by decide +kernel
theorem dX9_take_224 : decode cX9_take 224 = .ok (.iload 7, 2) := by decide +kernel
theorem dX9_take_226 : decode cX9_take 226 = .ok (.isub, 1) := by decide +kernel
theorem dX9_take_227 : decode cX9_take 227 = .ok (.istore_n 3, 1) := by decide +kernel
theorem dX9_take_228 : decode cX9_take 228 = .ok (.iload 4, 2) := by decide +kernel
theorem dX9_take_230 : decode cX9_take 230 = .ok (.iload 7, 2) := by decide +kernel
theorem dX9_take_232 : decode cX9_take 232 = .ok (.iadd, 1) := by decide +kernel
theorem dX9_take_233 : decode cX9_take 233 = .ok (.istore 4, 2) := by decide +kernel
theorem dX9_take_235 : decode cX9_take 235 = .ok (.iinc 5 1, 3) := by decide +kernel
theorem dX9_take_238 : decode cX9_take 238 = .ok (.goto (-219), 3) := by decide +kernel
theorem dX9_take_241 : decode cX9_take 241 = .ok (.aload_n 0, 1) := by decide +kernel
theorem dX9_take_242 : decode cX9_take 242 = .ok (.getfield 146, 3) := by decide +kernel
theorem dX9_take_245 : decode cX9_take 245 = .ok (.ifCond .ne 7, 3) := by decide +kernel
theorem dX9_take_248 : decode cX9_take 248 = .ok (.iconst 0, 1) := by decide +kernel
theorem dX9_take_249 : decode cX9_take 249 = .ok (.goto 10, 3) := by decide +kernel
theorem dX9_take_252 : decode cX9_take 252 = .ok (.iload 4, 2) := by decide +kernel
theorem dX9_take_254 : decode cX9_take 254 = .ok (.aload_n 0, 1) := by decide +kernel
theorem dX9_take_255 : decode cX9_take 255 = .ok (.getfield 146, 3) := by decide +kernel
theorem dX9_take_258 : decode cX9_take 258 = .ok (.idiv, 1) := by decide +kernel
theorem dX9_take_259 : decode cX9_take 259 = .ok (.istore 5, 2) := by decide +kernel
theorem dX9_take_261 : decode cX9_take 261 = .ok (.aload_n 0, 1) := by decide +kernel
theorem dX9_take_262 : decode cX9_take 262 = .ok (.getfield 29, 3) := by decide +kernel
theorem dX9_take_265 : decode cX9_take 265 = .ok (.bipush 43, 2) := by decide +kernel
theorem dX9_take_267 : decode cX9_take 267 = .ok (.dup2, 1) := by decide +kernel
theorem dX9_take_268 : decode cX9_take 268 = .ok (.iaload, 1) := by decide +kernel
theorem dX9_take_269 : decode cX9_take 269 = .ok (.iload 5, 2) := by decide +kernel
theorem dX9_take_271 : decode cX9_take 271 = .ok (.iadd, 1) := by decide +kernel
theorem dX9_take_272 : decode cX9_take 272 = .ok (.iastore, 1) := by decide +kernel
theorem dX9_take_273 : decode cX9_take 273 = .ok (.aload_n 0, 1) := by decide +kernel
theorem dX9_take_274 : decode cX9_take 274 = .ok (.getfield 29, 3) := by decide +kernel
theorem dX9_take_277 : decode cX9_take 277 = .ok (.bipush 13, 2) := by decide +kernel
theorem dX9_take_279 : decode cX9_take 279 = .ok (.iload_n 1, 1) := by decide +kernel
theorem dX9_take_280 : decode cX9_take 280 = .ok (.iadd, 1) := by decide +kernel
theorem dX9_take_281 : decode cX9_take 281 = .ok (.dup2, 1) := by decide +kernel
theorem dX9_take_282 : decode cX9_take 282 = .ok (.iaload, 1) := by decide +kernel
theorem dX9_take_283 : decode cX9_take 283 = .ok (.iload 4, 2) := by decide +kernel
theorem dX9_take_285 : decode cX9_take 285 = .ok (.iload 5, 2) := by decide +kernel
theorem dX9_take_287 : decode cX9_take 287 = .ok (.isub, 1) := by decide +kernel
theorem dX9_take_288 : decode cX9_take 288 = .ok (.iadd, 1) := by decide +kernel
theorem dX9_take_289 : decode cX9_take 289 = .ok (.iastore, 1) := by decide +kernel
theorem dX9_take_290 : decode cX9_take 290 = .ok (.return_, 1) := by decide +kernel
theorem dX9_goHour_0 : decode cX9_goHour 0 = .ok (.aload_n 0, 1) := by decide +kernel
theorem dX9_goHour_1 : decode cX9_goHour 1 = .ok (.getfield 29, 3) := by decide +kernel
theorem dX9_goHour_4 : decode cX9_goHour 4 = .ok (.iconst 0, 1) := by decide +kernel
theorem dX9_goHour_5 : decode cX9_goHour 5 = .ok (.iaload, 1) := by decide +kernel
theorem dX9_goHour_6 : decode cX9_goHour 6 = .ok (.istore_n 1, 1) := by decide +kernel
theorem dX9_goHour_7 : decode cX9_goHour 7 = .ok (.aload_n 0, 1) := by decide +kernel
theorem dX9_goHour_8 : decode cX9_goHour 8 = .ok (.iload_n 1, 1) := by decide +kernel
theorem dX9_goHour_9 : decode cX9_goHour 9 = .ok (.invokevirtual 195, 3) := by decide +kernel
theorem dX9_goHour_12 : decode cX9_goHour 12 = .ok (.iconst 0, 1) := by decide +kernel
theorem dX9_goHour_13 : decode cX9_goHour 13 = .ok (.istore_n 2, 1) := by decide +kernel
theorem dX9_goHour_14 : decode cX9_goHour 14 = .ok (.iload_n 2, 1) := by decide +kernel
theorem dX9_goHour_15 : decode cX9_goHour 15 = .ok (.bipush 6, 2) := by decide +kernel
theorem dX9_goHour_17 : decode cX9_goHour 17 = .ok (.if_icmp .ge 40, 3) := by decide +kernel
theorem dX9_goHour_20 : decode cX9_goHour 20 = .ok (.aload_n 0, 1) := by decide +kernel
theorem dX9_goHour_21 : decode cX9_goHour 21 = .ok (.getfield 29, 3) := by decide +kernel
theorem dX9_goHour_24 : decode cX9_goHour 24 = .ok (.iconst 1, 1) := by decide +kernel
theorem dX9_goHour_25 : decode cX9_goHour 25 = .ok (.iload_n 2, 1) := by decide +kernel
theorem dX9_goHour_26 : decode cX9_goHour 26 = .ok (.iadd, 1) := by decide +kernel
theorem dX9_goHour_27 : decode cX9_goHour 27 = .ok (.iaload, 1) := by decide +kernel
theorem dX9_goHour_28 : decode cX9_goHour 28 = .ok (.iconst 1, 1) := by decide +kernel
theorem dX9_goHour_29 : decode cX9_goHour 29 = .ok (.if_icmp .ne 22, 3) := by decide +kernel
theorem dX9_goHour_32 : decode cX9_goHour 32 = .ok (.aload_n 0, 1) := by decide +kernel
theorem dX9_goHour_33 : decode cX9_goHour 33 = .ok (.getfield 29, 3) := by decide +kernel
theorem dX9_goHour_36 : decode cX9_goHour 36 = .ok (.bipush 19, 2) := by decide +kernel
theorem dX9_goHour_38 : decode cX9_goHour 38 = .ok (.iload_n 2, 1) := by decide +kernel
theorem dX9_goHour_39 : decode cX9_goHour 39 = .ok (.iadd, 1) := by decide +kernel
theorem dX9_goHour_40 : decode cX9_goHour 40 = .ok (.dup2, 1) := by decide +kernel
theorem dX9_goHour_41 : decode cX9_goHour 41 = .ok (.iaload, 1) := by decide +kernel
theorem dX9_goHour_42 : decode cX9_goHour 42 = .ok (.iconst 1, 1) := by decide +kernel
theorem dX9_goHour_43 : decode cX9_goHour 43 = .ok (.iadd, 1) := by decide +kernel
theorem dX9_goHour_44 : decode cX9_goHour 44 = .ok (.iastore, 1) := by decide +kernel
theorem dX9_goHour_45 : decode cX9_goHour 45 = .ok (.aload_n 0, 1) := by decide +kernel
theorem dX9_goHour_46 : decode cX9_goHour 46 = .ok (.iload_n 2, 1) := by decide +kernel
theorem dX9_goHour_47 : decode cX9_goHour 47 = .ok (.iload_n 1, 1) := by decide +kernel
theorem dX9_goHour_48 : decode cX9_goHour 48 = .ok (.invokevirtual 198, 3) := by decide +kernel
theorem dX9_goHour_51 : decode cX9_goHour 51 = .ok (.iinc 2 1, 3) := by decide +kernel
theorem dX9_goHour_54 : decode cX9_goHour 54 = .ok (.goto (-40), 3) := by decide +kernel
theorem dX9_goHour_57 : decode cX9_goHour 57 = .ok (.iconst 0, 1) := by decide +kernel
theorem dX9_goHour_58 : decode cX9_goHour 58 = .ok (.istore_n 2, 1) := by decide +kernel
theorem dX9_goHour_59 : decode cX9_goHour 59 = .ok (.iload_n 2, 1) := by decide +kernel
theorem dX9_goHour_60 : decode cX9_goHour 60 = .ok (.iconst 4, 1) := by decide +kernel
theorem dX9_goHour_61 : decode cX9_goHour 61 = .ok (.if_icmp .ge 53, 3) := by decide +kernel
theorem dX9_goHour_64 : decode cX9_goHour 64 = .ok (.aload_n 0, 1) := by decide +kernel
theorem dX9_goHour_65 : decode cX9_goHour 65 = .ok (.getfield 29, 3) := by decide +kernel
theorem dX9_goHour_68 : decode cX9_goHour 68 = .ok (.bipush 31, 2) := by decide +kernel
theorem dX9_goHour_70 : decode cX9_goHour 70 = .ok (.iload_n 2, 1) := by decide +kernel
theorem dX9_goHour_71 : decode cX9_goHour 71 = .ok (.iadd, 1) := by decide +kernel
theorem dX9_goHour_72 : decode cX9_goHour 72 = .ok (.dup2, 1) := by decide +kernel
theorem dX9_goHour_73 : decode cX9_goHour 73 = .ok (.iaload, 1) := by decide +kernel
theorem dX9_goHour_74 : decode cX9_goHour 74 = .ok (.aload_n 0, 1) := by decide +kernel
theorem dX9_goHour_75 : decode cX9_goHour 75 = .ok (.getfield 16, 3) := by decide +kernel
theorem dX9_goHour_78 : decode cX9_goHour 78 = .ok (.iconst 5, 1) := by decide +kernel
theorem dX9_goHour_79 : decode cX9_goHour 79 = .ok (.iload_n 2, 1) := by decide +kernel
theorem dX9_goHour_80 : decode cX9_goHour 80 = .ok (.imul, 1) := by decide +kernel
theorem dX9_goHour_81 : decode cX9_goHour 81 = .ok (.iconst 2, 1) := by decide +kernel
theorem dX9_goHour_82 : decode cX9_goHour 82 = .ok (.iadd, 1) := by decide +kernel
theorem dX9_goHour_83 : decode cX9_goHour 83 = .ok (.iaload, 1) := by decide +kernel
theorem dX9_goHour_84 : decode cX9_goHour 84 = .ok (.iadd, 1) := by decide +kernel
theorem dX9_goHour_85 : decode cX9_goHour 85 = .ok (.iastore, 1) := by decide +kernel
theorem dX9_goHour_86 : decode cX9_goHour 86 = .ok (.aload_n 0, 1) := by decide +kernel
theorem dX9_goHour_87 : decode cX9_goHour 87 = .ok (.getfield 29, 3) := by decide +kernel
theorem dX9_goHour_90 : decode cX9_goHour 90 = .ok (.bipush 35, 2) := by decide +kernel
theorem dX9_goHour_92 : decode cX9_goHour 92 = .ok (.iload_n 2, 1) := by decide +kernel
theorem dX9_goHour_93 : decode cX9_goHour 93 = .ok (.iadd, 1) := by decide +kernel
theorem dX9_goHour_94 : decode cX9_goHour 94 = .ok (.dup2, 1) := by decide +kernel
theorem dX9_goHour_95 : decode cX9_goHour 95 = .ok (.iaload, 1) := by decide +kernel
theorem dX9_goHour_96 : decode cX9_goHour 96 = .ok (.aload_n 0, 1) := by decide +kernel
theorem dX9_goHour_97 : decode cX9_goHour 97 = .ok (.getfield 16, 3) := by decide +kernel
theorem dX9_goHour_100 : decode cX9_goHour 100 = .ok (.iconst 5, 1) := by decide +kernel
theorem dX9_goHour_101 : decode cX9_goHour 101 = .ok (.iload_n 2, 1) := by decide +kernel
theorem dX9_goHour_102 : decode cX9_goHour 102 = .ok (.imul, 1) := by decide +kernel
theorem dX9_goHour_103 : decode cX9_goHour 103 = .ok (.iconst 3, 1) := by decide +kernel
theorem dX9_goHour_104 : decode cX9_goHour 104 = .ok (.iadd, 1) := by decide +kernel
theorem dX9_goHour_105 : decode cX9_goHour 105 = .ok (.iaload, 1) := by decide +kernel
theorem dX9_goHour_106 : decode cX9_goHour 106 = .ok (.iadd, 1) := by decide +kernel
theorem dX9_goHour_107 : decode cX9_goHour 107 = .ok (.iastore, 1) := by decide +kernel
theorem dX9_goHour_108 : decode cX9_goHour 108 = .ok (.iinc 2 1, 3) := by decide +kernel
theorem dX9_goHour_111 : decode cX9_goHour 111 = .ok (.goto (-52), 3) := by decide +kernel
theorem dX9_goHour_114 : decode cX9_goHour 114 = .ok (.aload_n 0, 1) := by decide +kernel
theorem dX9_goHour_115 : decode cX9_goHour 115 = .ok (.getfield 29, 3) := by decide +kernel
theorem dX9_goHour_118 : decode cX9_goHour 118 = .ok (.iconst 0, 1) := by decide +kernel
theorem dX9_goHour_119 : decode cX9_goHour 119 = .ok (.dup2, 1) := by decide +kernel
theorem dX9_goHour_120 : decode cX9_goHour 120 = .ok (.iaload, 1) := by decide +kernel
theorem dX9_goHour_121 : decode cX9_goHour 121 = .ok (.iconst 1, 1) := by decide +kernel
theorem dX9_goHour_122 : decode cX9_goHour 122 = .ok (.iadd, 1) := by decide +kernel
theorem dX9_goHour_123 : decode cX9_goHour 123 = .ok (.iastore, 1) := by decide +kernel
theorem dX9_goHour_124 : decode cX9_goHour 124 = .ok (.return_, 1) := by decide +kernel
theorem dX9_go_0 : decode cX9_go 0 = .ok (.iload_n 1, 1) := by decide +kernel
theorem dX9_go_1 : decode cX9_go 1 = .ok (.iconst 1, 1) := by decide +kernel
theorem dX9_go_2 : decode cX9_go 2 = .ok (.bipush 12, 2) := by decide +kernel
theorem dX9_go_4 : decode cX9_go 4 = .ok (.invokestatic 45, 3) := by decide +kernel
theorem dX9_go_7 : decode cX9_go 7 = .ok (.ifCond .ne 6, 3) := by decide +kernel
theorem dX9_go_10 : decode cX9_go 10 = .ok (.bipush (-3), 2) := by decide +kernel
theorem dX9_go_12 : decode cX9_go 12 = .ok (.ireturn, 1) := by decide +kernel
theorem dX9_go_13 : decode cX9_go 13 = .ok (.iconst 0, 1) := by decide +kernel
theorem dX9_go_14 : decode cX9_go 14 = .ok (.istore_n 2, 1) := by decide +kernel
theorem dX9_go_15 : decode cX9_go 15 = .ok (.iload_n 2, 1) := by decide +kernel
theorem dX9_go_16 : decode cX9_go 16 = .ok (.iload_n 1, 1) := by decide +kernel
theorem dX9_go_17 : decode cX9_go 17 = .ok (.if_icmp .ge 24, 3) := by decide +kernel
theorem dX9_go_20 : decode cX9_go 20 = .ok (.aload_n 0, 1) := by decide +kernel
theorem dX9_go_21 : decode cX9_go 21 = .ok (.getfield 29, 3) := by decide +kernel
theorem dX9_go_24 : decode cX9_go 24 = .ok (.iconst 0, 1) := by decide +kernel
theorem dX9_go_25 : decode cX9_go 25 = .ok (.iaload, 1) := by decide +kernel
theorem dX9_go_26 : decode cX9_go 26 = .ok (.bipush 12, 2) := by decide +kernel
theorem dX9_go_28 : decode cX9_go 28 = .ok (.if_icmp .ge 13, 3) := by decide +kernel
theorem dX9_go_31 : decode cX9_go 31 = .ok (.aload_n 0, 1) := by decide +kernel
theorem dX9_go_32 : decode cX9_go 32 = .ok (.invokevirtual 202, 3) := by decide +kernel
theorem dX9_go_35 : decode cX9_go 35 = .ok (.iinc 2 1, 3) := by decide +kernel
theorem dX9_go_38 : decode cX9_go 38 = .ok (.goto (-23), 3) := by decide +kernel
theorem dX9_go_41 : decode cX9_go 41 = .ok (.aload_n 0, 1) := by decide +kernel
theorem dX9_go_42 : decode cX9_go 42 = .ok (.getfield 29, 3) := by decide +kernel
theorem dX9_go_45 : decode cX9_go 45 = .ok (.iconst 0, 1) := by decide +kernel
theorem dX9_go_46 : decode cX9_go 46 = .ok (.iaload, 1) := by decide +kernel
theorem dX9_go_47 : decode cX9_go 47 = .ok (.ireturn, 1) := by decide +kernel
theorem dX9_kite_0 : decode cX9_kite 0 = .ok (.aload_n 0, 1) := by decide +kernel
theorem dX9_kite_1 : decode cX9_kite 1 = .ok (.iload_n 1, 1) := by decide +kernel
theorem dX9_kite_2 : decode cX9_kite 2 = .ok (.invokevirtual 171, 3) := by decide +kernel
theorem dX9_kite_5 : decode cX9_kite 5 = .ok (.ifCond .ne 6, 3) := by decide +kernel
theorem dX9_kite_8 : decode cX9_kite 8 = .ok (.bipush (-2), 2) := by decide +kernel
theorem dX9_kite_10 : decode cX9_kite 10 = .ok (.ireturn, 1) := by decide +kernel
theorem dX9_kite_11 : decode cX9_kite 11 = .ok (.iload_n 2, 1) := by decide +kernel
theorem dX9_kite_12 : decode cX9_kite 12 = .ok (.iconst 0, 1) := by decide +kernel
theorem dX9_kite_13 : decode cX9_kite 13 = .ok (.iconst 4, 1) := by decide +kernel
theorem dX9_kite_14 : decode cX9_kite 14 = .ok (.invokestatic 45, 3) := by decide +kernel
theorem dX9_kite_17 : decode cX9_kite 17 = .ok (.ifCond .eq 19, 3) := by decide +kernel
theorem dX9_kite_20 : decode cX9_kite 20 = .ok (.aload_n 0, 1) := by decide +kernel
theorem dX9_kite_21 : decode cX9_kite 21 = .ok (.getfield 29, 3) := by decide +kernel
theorem dX9_kite_24 : decode cX9_kite 24 = .ok (.iconst 1, 1) := by decide +kernel
theorem dX9_kite_25 : decode cX9_kite 25 = .ok (.bipush 6, 2) := by decide +kernel
theorem dX9_kite_27 : decode cX9_kite 27 = .ok (.iload_n 2, 1) := by decide +kernel
theorem dX9_kite_28 : decode cX9_kite 28 = .ok (.imul, 1) := by decide +kernel
theorem dX9_kite_29 : decode cX9_kite 29 = .ok (.iadd, 1) := by decide +kernel
theorem dX9_kite_30 : decode cX9_kite 30 = .ok (.iload_n 1, 1) := by decide +kernel
theorem dX9_kite_31 : decode cX9_kite 31 = .ok (.iadd, 1) := by decide +kernel
theorem dX9_kite_32 : decode cX9_kite 32 = .ok (.iaload, 1) := by decide +kernel
theorem dX9_kite_33 : decode cX9_kite 33 = .ok (.goto 5, 3) := by decide +kernel
theorem dX9_kite_36 : decode cX9_kite 36 = .ok (.bipush (-3), 2) := by decide +kernel
theorem dX9_kite_38 : decode cX9_kite 38 = .ok (.ireturn, 1) := by decide +kernel
theorem dX9_where_0 : decode cX9_where 0 = .ok (.aload_n 0, 1) := by decide +kernel
theorem dX9_where_1 : decode cX9_where 1 = .ok (.iload_n 1, 1) := by decide +kernel
theorem dX9_where_2 : decode cX9_where 2 = .ok (.invokevirtual 171, 3) := by decide +kernel
theorem dX9_where_5 : decode cX9_where 5 = .ok (.ifCond .eq 17, 3) := by decide +kernel
theorem dX9_where_8 : decode cX9_where 8 = .ok (.iload_n 2, 1) := by decide +kernel
theorem dX9_where_9 : decode cX9_where 9 = .ok (.invokestatic 165, 3) := by decide +kernel
theorem dX9_where_12 : decode cX9_where 12 = .ok (.ifCond .eq 10, 3) := by decide +kernel
theorem dX9_where_15 : decode cX9_where 15 = .ok (.iload_n 3, 1) := by decide +kernel
theorem dX9_where_16 : decode cX9_where 16 = .ok (.invokestatic 168, 3) := by decide +kernel
theorem dX9_where_19 : decode cX9_where 19 = .ok (.ifCond .ne 6, 3) := by decide +kernel
theorem dX9_where_22 : decode cX9_where 22 = .ok (.bipush (-2), 2) := by decide +kernel
theorem dX9_where_24 : decode cX9_where 24 = .ok (.ireturn, 1) := by decide +kernel
theorem dX9_where_25 : decode cX9_where 25 = .ok (.aload_n 0, 1) := by decide +kernel
theorem dX9_where_26 : decode cX9_where 26 = .ok (.iload_n 1, 1) := by decide +kernel
theorem dX9_where_27 : decode cX9_where 27 = .ok (.iload_n 2, 1) := by decide +kernel
theorem dX9_where_28 : decode cX9_where 28 = .ok (.iload_n 3, 1) := by decide +kernel
theorem dX9_where_29 : decode cX9_where 29 = .ok (.invokevirtual 185, 3) := by decide +kernel
theorem dX9_where_32 : decode cX9_where 32 = .ok (.ifCond .eq 23, 3) := by decide +kernel
theorem dX9_where_35 : decode cX9_where 35 = .ok (.aload_n 0, 1) := by decide +kernel
theorem dX9_where_36 : decode cX9_where 36 = .ok (.iload_n 1, 1) := by decide +kernel
theorem dX9_where_37 : decode cX9_where 37 = .ok (.iload_n 2, 1) := by decide +kernel
theorem dX9_where_38 : decode cX9_where 38 = .ok (.iload_n 3, 1) := by decide +kernel
theorem dX9_where_39 : decode cX9_where 39 = .ok (.invokevirtual 174, 3) := by decide +kernel
theorem dX9_where_42 : decode cX9_where 42 = .ok (.bipush 10, 2) := by decide +kernel
theorem dX9_where_44 : decode cX9_where 44 = .ok (.aload_n 0, 1) := by decide +kernel
theorem dX9_where_45 : decode cX9_where 45 = .ok (.iload_n 1, 1) := by decide +kernel
theorem dX9_where_46 : decode cX9_where 46 = .ok (.iload_n 2, 1) := by decide +kernel
theorem dX9_where_47 : decode cX9_where 47 = .ok (.invokevirtual 178, 3) := by decide +kernel
theorem dX9_where_50 : decode cX9_where 50 = .ok (.imul, 1) := by decide +kernel
theorem dX9_where_51 : decode cX9_where 51 = .ok (.iadd, 1) := by decide +kernel
theorem dX9_where_52 : decode cX9_where 52 = .ok (.goto 4, 3) := by decide +kernel
theorem dX9_where_55 : decode cX9_where 55 = .ok (.iconst (-1), 1) := by decide +kernel
theorem dX9_where_56 : decode cX9_where 56 = .ok (.ireturn, 1) := by decide +kernel
theorem dX9_hinders_0 : decode cX9_hinders 0 = .ok (.aload_n 0, 1) := by decide +kernel
theorem dX9_hinders_1 : decode cX9_hinders 1 = .ok (.iload_n 1, 1) := by decide +kernel
theorem dX9_hinders_2 : decode cX9_hinders 2 = .ok (.invokevirtual 171, 3) := by decide +kernel
theorem dX9_hinders_5 : decode cX9_hinders 5 = .ok (.ifCond .eq 17, 3) := by decide +kernel
theorem dX9_hinders_8 : decode cX9_hinders 8 = .ok (.iload_n 2, 1) := by decide +kernel
theorem dX9_hinders_9 : decode cX9_hinders 9 = .ok (.invokestatic 165, 3) := by decide +kernel
theorem dX9_hinders_12 : decode cX9_hinders 12 = .ok (.ifCond .eq 10, 3) := by decide +kernel
theorem dX9_hinders_15 : decode cX9_hinders 15 = .ok (.iload_n 3, 1) := by decide +kernel
theorem dX9_hinders_16 : decode cX9_hinders 16 = .ok (.invokestatic 168, 3) := by decide +kernel
theorem dX9_hinders_19 : decode cX9_hinders 19 = .ok (.ifCond .ne 6, 3) := by decide +kernel
theorem dX9_hinders_22 : decode cX9_hinders 22 = .ok (.bipush (-2), 2) := by decide +kernel
theorem dX9_hinders_24 : decode cX9_hinders 24 = .ok (.ireturn, 1) := by decide +kernel
theorem dX9_hinders_25 : decode cX9_hinders 25 = .ok (.aload_n 0, 1) := by decide +kernel
theorem dX9_hinders_26 : decode cX9_hinders 26 = .ok (.iload_n 1, 1) := by decide +kernel
theorem dX9_hinders_27 : decode cX9_hinders 27 = .ok (.iload_n 2, 1) := by decide +kernel
theorem dX9_hinders_28 : decode cX9_hinders 28 = .ok (.iload_n 3, 1) := by decide +kernel
theorem dX9_hinders_29 : decode cX9_hinders 29 = .ok (.invokevirtual 185, 3) := by decide +kernel
theorem dX9_hinders_32 : decode cX9_hinders 32 = .ok (.ifCond .ne 7, 3) := by decide +kernel
theorem dX9_hinders_35 : decode cX9_hinders 35 = .ok (.iconst 2, 1) := by decide +kernel
theorem dX9_hinders_36 : decode cX9_hinders 36 = .ok (.goto 18, 3) := by decide +kernel
theorem dX9_hinders_39 : decode cX9_hinders 39 = .ok (.aload_n 0, 1) := by decide +kernel
theorem dX9_hinders_40 : decode cX9_hinders 40 = .ok (.iload_n 1, 1) := by decide +kernel
theorem dX9_hinders_41 : decode cX9_hinders 41 = .ok (.iload_n 2, 1) := by decide +kernel
theorem dX9_hinders_42 : decode cX9_hinders 42 = .ok (.iload_n 3, 1) := by decide +kernel
theorem dX9_hinders_43 : decode cX9_hinders 43 = .ok (.invokevirtual 182, 3) := by decide +kernel
theorem dX9_hinders_46 : decode cX9_hinders 46 = .ok (.ifCond .eq 7, 3) := by decide +kernel
theorem dX9_hinders_49 : decode cX9_hinders 49 = .ok (.iconst 0, 1) := by decide +kernel
theorem dX9_hinders_50 : decode cX9_hinders 50 = .ok (.goto 4, 3) := by decide +kernel
theorem dX9_hinders_53 : decode cX9_hinders 53 = .ok (.iconst 1, 1) := by decide +kernel
theorem dX9_hinders_54 : decode cX9_hinders 54 = .ok (.ireturn, 1) := by decide +kernel
theorem dX9_tangle_0 : decode cX9_tangle 0 = .ok (.aload_n 0, 1) := by decide +kernel
theorem dX9_tangle_1 : decode cX9_tangle 1 = .ok (.iload_n 1, 1) := by decide +kernel
theorem dX9_tangle_2 : decode cX9_tangle 2 = .ok (.invokevirtual 171, 3) := by decide +kernel
theorem dX9_tangle_5 : decode cX9_tangle 5 = .ok (.ifCond .eq 26, 3) := by decide +kernel
theorem dX9_tangle_8 : decode cX9_tangle 8 = .ok (.aload_n 0, 1) := by decide +kernel
theorem dX9_tangle_9 : decode cX9_tangle 9 = .ok (.iload_n 2, 1) := by decide +kernel
theorem dX9_tangle_10 : decode cX9_tangle 10 = .ok (.invokevirtual 171, 3) := by decide +kernel
theorem dX9_tangle_13 : decode cX9_tangle 13 = .ok (.ifCond .eq 18, 3) := by decide +kernel
theorem dX9_tangle_16 : decode cX9_tangle 16 = .ok (.iload_n 3, 1) := by decide +kernel
theorem dX9_tangle_17 : decode cX9_tangle 17 = .ok (.invokestatic 165, 3) := by decide +kernel
theorem dX9_tangle_20 : decode cX9_tangle 20 = .ok (.ifCond .eq 11, 3) := by decide +kernel
theorem dX9_tangle_23 : decode cX9_tangle 23 = .ok (.iload 4, 2) := by decide +kernel
theorem dX9_tangle_25 : decode cX9_tangle 25 = .ok (.invokestatic 168, 3) := by decide +kernel
theorem dX9_tangle_28 : decode cX9_tangle 28 = .ok (.ifCond .ne 6, 3) := by decide +kernel
theorem dX9_tangle_31 : decode cX9_tangle 31 = .ok (.bipush (-2), 2) := by decide +kernel
theorem dX9_tangle_33 : decode cX9_tangle 33 = .ok (.ireturn, 1) := by decide +kernel
theorem dX9_tangle_34 : decode cX9_tangle 34 = .ok (.iload_n 1, 1) := by decide +kernel
theorem dX9_tangle_35 : decode cX9_tangle 35 = .ok (.iload_n 2, 1) := by decide +kernel
theorem dX9_tangle_36 : decode cX9_tangle 36 = .ok (.if_icmp .ne 6, 3) := by decide +kernel
theorem dX9_tangle_39 : decode cX9_tangle 39 = .ok (.bipush (-3), 2) := by decide +kernel
theorem dX9_tangle_41 : decode cX9_tangle 41 = .ok (.ireturn, 1) := by decide +kernel
theorem dX9_tangle_42 : decode cX9_tangle 42 = .ok (.aload_n 0, 1) := by decide +kernel
theorem dX9_tangle_43 : decode cX9_tangle 43 = .ok (.iload_n 1, 1) := by decide +kernel
theorem dX9_tangle_44 : decode cX9_tangle 44 = .ok (.iload_n 2, 1) := by decide +kernel
theorem dX9_tangle_45 : decode cX9_tangle 45 = .ok (.iload_n 3, 1) := by decide +kernel
theorem dX9_tangle_46 : decode cX9_tangle 46 = .ok (.iload 4, 2) := by decide +kernel
theorem dX9_tangle_48 : decode cX9_tangle 48 = .ok (.invokevirtual 188, 3) := by decide +kernel
theorem dX9_tangle_51 : decode cX9_tangle 51 = .ok (.ifCond .eq 26, 3) := by decide +kernel
theorem dX9_tangle_54 : decode cX9_tangle 54 = .ok (.iload_n 1, 1) := by decide +kernel
theorem dX9_tangle_55 : decode cX9_tangle 55 = .ok (.iload_n 2, 1) := by decide +kernel
theorem dX9_tangle_56 : decode cX9_tangle 56 = .ok (.if_icmp .ge 12, 3) := by decide +kernel
theorem dX9_tangle_59 : decode cX9_tangle 59 = .ok (.aload_n 0, 1) := by decide +kernel
theorem dX9_tangle_60 : decode cX9_tangle 60 = .ok (.iload_n 1, 1) := by decide +kernel
theorem dX9_tangle_61 : decode cX9_tangle 61 = .ok (.iload_n 2, 1) := by decide +kernel
theorem dX9_tangle_62 : decode cX9_tangle 62 = .ok (.invokevirtual 192, 3) := by decide +kernel
theorem dX9_tangle_65 : decode cX9_tangle 65 = .ok (.goto 13, 3) := by decide +kernel
theorem dX9_tangle_68 : decode cX9_tangle 68 = .ok (.aload_n 0, 1) := by decide +kernel
theorem dX9_tangle_69 : decode cX9_tangle 69 = .ok (.iload_n 2, 1) := by decide +kernel
theorem dX9_tangle_70 : decode cX9_tangle 70 = .ok (.iload_n 1, 1) := by decide +kernel
theorem dX9_tangle_71 : decode cX9_tangle 71 = .ok (.invokevirtual 192, 3) := by decide +kernel
theorem dX9_tangle_74 : decode cX9_tangle 74 = .ok (.goto 4, 3) := by decide +kernel
theorem dX9_tangle_77 : decode cX9_tangle 77 = .ok (.iconst (-1), 1) := by decide +kernel
theorem dX9_tangle_78 : decode cX9_tangle 78 = .ok (.ireturn, 1) := by decide +kernel
theorem dX9_taking_0 : decode cX9_taking 0 = .ok (.iload_n 1, 1) := by decide +kernel
theorem dX9_taking_1 : decode cX9_taking 1 = .ok (.ifCond .lt 12, 3) := by decide +kernel
theorem dX9_taking_4 : decode cX9_taking 4 = .ok (.iload_n 2, 1) := by decide +kernel
theorem dX9_taking_5 : decode cX9_taking 5 = .ok (.iconst 0, 1) := by decide +kernel
theorem dX9_taking_6 : decode cX9_taking 6 = .ok (.iconst 3, 1) := by decide +kernel
theorem dX9_taking_7 : decode cX9_taking 7 = .ok (.invokestatic 45, 3) := by decide +kernel
theorem dX9_taking_10 : decode cX9_taking 10 = .ok (.ifCond .ne 6, 3) := by decide +kernel
theorem dX9_taking_13 : decode cX9_taking 13 = .ok (.bipush (-3), 2) := by decide +kernel
theorem dX9_taking_15 : decode cX9_taking 15 = .ok (.ireturn, 1) := by decide +kernel
theorem dX9_taking_16 : decode cX9_taking 16 = .ok (.iload_n 1, 1) := by decide +kernel
theorem dX9_taking_17 : decode cX9_taking 17 = .ok (.aload_n 0, 1) := by decide +kernel
theorem dX9_taking_18 : decode cX9_taking 18 = .ok (.getfield 29, 3) := by decide +kernel
theorem dX9_taking_21 : decode cX9_taking 21 = .ok (.bipush 44, 2) := by decide +kernel
theorem dX9_taking_23 : decode cX9_taking 23 = .ok (.iaload, 1) := by decide +kernel
theorem dX9_taking_24 : decode cX9_taking 24 = .ok (.if_icmp .ge 19, 3) := by decide +kernel
theorem dX9_taking_27 : decode cX9_taking 27 = .ok (.aload_n 0, 1) := by decide +kernel
theorem dX9_taking_28 : decode cX9_taking 28 = .ok (.getfield 29, 3) := by decide +kernel
theorem dX9_taking_31 : decode cX9_taking 31 = .ok (.bipush 45, 2) := by decide +kernel
theorem dX9_taking_33 : decode cX9_taking 33 = .ok (.iconst 4, 1) := by decide +kernel
theorem dX9_taking_34 : decode cX9_taking 34 = .ok (.iload_n 1, 1) := by decide +kernel
theorem dX9_taking_35 : decode cX9_taking 35 = .ok (.imul, 1) := by decide +kernel
theorem dX9_taking_36 : decode cX9_taking 36 = .ok (.iadd, 1) := by decide +kernel
theorem dX9_taking_37 : decode cX9_taking 37 = .ok (.iload_n 2, 1) := by decide +kernel
theorem dX9_taking_38 : decode cX9_taking 38 = .ok (.iadd, 1) := by decide +kernel
theorem dX9_taking_39 : decode cX9_taking 39 = .ok (.iaload, 1) := by decide +kernel
theorem dX9_taking_40 : decode cX9_taking 40 = .ok (.goto 4, 3) := by decide +kernel
theorem dX9_taking_43 : decode cX9_taking 43 = .ok (.iconst (-1), 1) := by decide +kernel
theorem dX9_taking_44 : decode cX9_taking 44 = .ok (.ireturn, 1) := by decide +kernel
theorem dX9_copy_0 : decode cX9_copy 0 = .ok (.iconst 0, 1) := by decide +kernel
theorem dX9_copy_1 : decode cX9_copy 1 = .ok (.istore 4, 2) := by decide +kernel
theorem dX9_copy_3 : decode cX9_copy 3 = .ok (.iload 4, 2) := by decide +kernel
theorem dX9_copy_5 : decode cX9_copy 5 = .ok (.sipush 1197, 3) := by decide +kernel
theorem dX9_copy_8 : decode cX9_copy 8 = .ok (.if_icmp .ge 21, 3) := by decide +kernel
theorem dX9_copy_11 : decode cX9_copy 11 = .ok (.aload_n 2, 1) := by decide +kernel
theorem dX9_copy_12 : decode cX9_copy 12 = .ok (.iload_n 3, 1) := by decide +kernel
theorem dX9_copy_13 : decode cX9_copy 13 = .ok (.iload 4, 2) := by decide +kernel
theorem dX9_copy_15 : decode cX9_copy 15 = .ok (.iadd, 1) := by decide +kernel
theorem dX9_copy_16 : decode cX9_copy 16 = .ok (.aload_n 0, 1) := by decide +kernel
theorem dX9_copy_17 : decode cX9_copy 17 = .ok (.iload_n 1, 1) := by decide +kernel
theorem dX9_copy_18 : decode cX9_copy 18 = .ok (.iload 4, 2) := by decide +kernel
theorem dX9_copy_20 : decode cX9_copy 20 = .ok (.iadd, 1) := by decide +kernel
theorem dX9_copy_21 : decode cX9_copy 21 = .ok (.iaload, 1) := by decide +kernel
theorem dX9_copy_22 : decode cX9_copy 22 = .ok (.iastore, 1) := by decide +kernel
theorem dX9_copy_23 : decode cX9_copy 23 = .ok (.iinc 4 1, 3) := by decide +kernel
theorem dX9_copy_26 : decode cX9_copy 26 = .ok (.goto (-23), 3) := by decide +kernel
theorem dX9_copy_29 : decode cX9_copy 29 = .ok (.return_, 1) := by decide +kernel
theorem dX9_keep_0 : decode cX9_keep 0 = .ok (.iload_n 1, 1) := by decide +kernel
theorem dX9_keep_1 : decode cX9_keep 1 = .ok (.iconst 0, 1) := by decide +kernel
theorem dX9_keep_2 : decode cX9_keep 2 = .ok (.iconst 1, 1) := by decide +kernel
theorem dX9_keep_3 : decode cX9_keep 3 = .ok (.invokestatic 45, 3) := by decide +kernel
theorem dX9_keep_6 : decode cX9_keep 6 = .ok (.ifCond .ne 6, 3) := by decide +kernel
theorem dX9_keep_9 : decode cX9_keep 9 = .ok (.bipush (-2), 2) := by decide +kernel
theorem dX9_keep_11 : decode cX9_keep 11 = .ok (.ireturn, 1) := by decide +kernel
theorem dX9_keep_12 : decode cX9_keep 12 = .ok (.aload_n 0, 1) := by decide +kernel
theorem dX9_keep_13 : decode cX9_keep 13 = .ok (.getfield 29, 3) := by decide +kernel
theorem dX9_keep_16 : decode cX9_keep 16 = .ok (.iconst 0, 1) := by decide +kernel
theorem dX9_keep_17 : decode cX9_keep 17 = .ok (.aload_n 0, 1) := by decide +kernel
theorem dX9_keep_18 : decode cX9_keep 18 = .ok (.getfield 35, 3) := by decide +kernel
theorem dX9_keep_21 : decode cX9_keep 21 = .ok (.sipush 1197, 3) := by decide +kernel
theorem dX9_keep_24 : decode cX9_keep 24 = .ok (.iload_n 1, 1) := by decide +kernel
theorem dX9_keep_25 : decode cX9_keep 25 = .ok (.imul, 1) := by decide +kernel
theorem dX9_keep_26 : decode cX9_keep 26 = .ok (.invokestatic 205, 3) := by decide +kernel
theorem dX9_keep_29 : decode cX9_keep 29 = .ok (.aload_n 0, 1) := by decide +kernel
theorem dX9_keep_30 : decode cX9_keep 30 = .ok (.getfield 38, 3) := by decide +kernel
theorem dX9_keep_33 : decode cX9_keep 33 = .ok (.iload_n 1, 1) := by decide +kernel
theorem dX9_keep_34 : decode cX9_keep 34 = .ok (.iconst 1, 1) := by decide +kernel
theorem dX9_keep_35 : decode cX9_keep 35 = .ok (.bastore, 1) := by decide +kernel
theorem dX9_keep_36 : decode cX9_keep 36 = .ok (.aload_n 0, 1) := by decide +kernel
theorem dX9_keep_37 : decode cX9_keep 37 = .ok (.getfield 29, 3) := by decide +kernel
theorem dX9_keep_40 : decode cX9_keep 40 = .ok (.iconst 0, 1) := by decide +kernel
theorem dX9_keep_41 : decode cX9_keep 41 = .ok (.iaload, 1) := by decide +kernel
theorem dX9_keep_42 : decode cX9_keep 42 = .ok (.ireturn, 1) := by decide +kernel
theorem dX9_back_0 : decode cX9_back 0 = .ok (.iload_n 1, 1) := by decide +kernel
theorem dX9_back_1 : decode cX9_back 1 = .ok (.iconst 0, 1) := by decide +kernel
theorem dX9_back_2 : decode cX9_back 2 = .ok (.iconst 1, 1) := by decide +kernel
theorem dX9_back_3 : decode cX9_back 3 = .ok (.invokestatic 45, 3) := by decide +kernel
theorem dX9_back_6 : decode cX9_back 6 = .ok (.ifCond .ne 6, 3) := by decide +kernel
theorem dX9_back_9 : decode cX9_back 9 = .ok (.bipush (-2), 2) := by decide +kernel
theorem dX9_back_11 : decode cX9_back 11 = .ok (.ireturn, 1) := by decide +kernel
theorem dX9_back_12 : decode cX9_back 12 = .ok (.aload_n 0, 1) := by decide +kernel
theorem dX9_back_13 : decode cX9_back 13 = .ok (.getfield 38, 3) := by decide +kernel
theorem dX9_back_16 : decode cX9_back 16 = .ok (.iload_n 1, 1) := by decide +kernel
theorem dX9_back_17 : decode cX9_back 17 = .ok (.baload, 1) := by decide +kernel
theorem dX9_back_18 : decode cX9_back 18 = .ok (.ifCond .ne 6, 3) := by decide +kernel
theorem dX9_back_21 : decode cX9_back 21 = .ok (.bipush (-4), 2) := by decide +kernel
theorem dX9_back_23 : decode cX9_back 23 = .ok (.ireturn, 1) := by decide +kernel
theorem dX9_back_24 : decode cX9_back 24 = .ok (.aload_n 0, 1) := by decide +kernel
theorem dX9_back_25 : decode cX9_back 25 = .ok (.getfield 35, 3) := by decide +kernel
theorem dX9_back_28 : decode cX9_back 28 = .ok (.sipush 1197, 3) := by decide +kernel
theorem dX9_back_31 : decode cX9_back 31 = .ok (.iload_n 1, 1) := by decide +kernel
theorem dX9_back_32 : decode cX9_back 32 = .ok (.imul, 1) := by decide +kernel
theorem dX9_back_33 : decode cX9_back 33 = .ok (.aload_n 0, 1) := by decide +kernel
theorem dX9_back_34 : decode cX9_back 34 = .ok (.getfield 29, 3) := by decide +kernel
theorem dX9_back_37 : decode cX9_back 37 = .ok (.iconst 0, 1) := by decide +kernel
theorem dX9_back_38 : decode cX9_back 38 = .ok (.invokestatic 205, 3) := by decide +kernel
theorem dX9_back_41 : decode cX9_back 41 = .ok (.aload_n 0, 1) := by decide +kernel
theorem dX9_back_42 : decode cX9_back 42 = .ok (.getfield 29, 3) := by decide +kernel
theorem dX9_back_45 : decode cX9_back 45 = .ok (.iconst 0, 1) := by decide +kernel
theorem dX9_back_46 : decode cX9_back 46 = .ok (.iaload, 1) := by decide +kernel
theorem dX9_back_47 : decode cX9_back 47 = .ok (.ireturn, 1) := by decide +kernel
theorem dX9_caught_0 : decode cX9_caught 0 = .ok (.iconst 0, 1) := by decide +kernel
theorem dX9_caught_1 : decode cX9_caught 1 = .ok (.istore_n 1, 1) := by decide +kernel
theorem dX9_caught_2 : decode cX9_caught 2 = .ok (.iconst 0, 1) := by decide +kernel
theorem dX9_caught_3 : decode cX9_caught 3 = .ok (.istore_n 2, 1) := by decide +kernel
theorem dX9_caught_4 : decode cX9_caught 4 = .ok (.iload_n 2, 1) := by decide +kernel
theorem dX9_caught_5 : decode cX9_caught 5 = .ok (.bipush 6, 2) := by decide +kernel
theorem dX9_caught_7 : decode cX9_caught 7 = .ok (.if_icmp .ge 21, 3) := by decide +kernel
theorem dX9_caught_10 : decode cX9_caught 10 = .ok (.iload_n 1, 1) := by decide +kernel
theorem dX9_caught_11 : decode cX9_caught 11 = .ok (.aload_n 0, 1) := by decide +kernel
theorem dX9_caught_12 : decode cX9_caught 12 = .ok (.getfield 29, 3) := by decide +kernel
theorem dX9_caught_15 : decode cX9_caught 15 = .ok (.bipush 13, 2) := by decide +kernel
theorem dX9_caught_17 : decode cX9_caught 17 = .ok (.iload_n 2, 1) := by decide +kernel
theorem dX9_caught_18 : decode cX9_caught 18 = .ok (.iadd, 1) := by decide +kernel
theorem dX9_caught_19 : decode cX9_caught 19 = .ok (.iaload, 1) := by decide +kernel
theorem dX9_caught_20 : decode cX9_caught 20 = .ok (.iadd, 1) := by decide +kernel
theorem dX9_caught_21 : decode cX9_caught 21 = .ok (.istore_n 1, 1) := by decide +kernel
theorem dX9_caught_22 : decode cX9_caught 22 = .ok (.iinc 2 1, 3) := by decide +kernel
theorem dX9_caught_25 : decode cX9_caught 25 = .ok (.goto (-21), 3) := by decide +kernel
theorem dX9_caught_28 : decode cX9_caught 28 = .ok (.iload_n 1, 1) := by decide +kernel
theorem dX9_caught_29 : decode cX9_caught 29 = .ok (.ireturn, 1) := by decide +kernel
theorem dX9_toldMany_0 : decode cX9_toldMany 0 = .ok (.iconst 0, 1) := by decide +kernel
theorem dX9_toldMany_1 : decode cX9_toldMany 1 = .ok (.istore_n 1, 1) := by decide +kernel
theorem dX9_toldMany_2 : decode cX9_toldMany 2 = .ok (.iconst 0, 1) := by decide +kernel
theorem dX9_toldMany_3 : decode cX9_toldMany 3 = .ok (.istore_n 2, 1) := by decide +kernel
theorem dX9_toldMany_4 : decode cX9_toldMany 4 = .ok (.iload_n 2, 1) := by decide +kernel
theorem dX9_toldMany_5 : decode cX9_toldMany 5 = .ok (.bipush 6, 2) := by decide +kernel
theorem dX9_toldMany_7 : decode cX9_toldMany 7 = .ok (.if_icmp .ge 28, 3) := by decide +kernel
theorem dX9_toldMany_10 : decode cX9_toldMany 10 = .ok (.iload_n 1, 1) := by decide +kernel
theorem dX9_toldMany_11 : decode cX9_toldMany 11 = .ok (.aload_n 0, 1) := by decide +kernel
theorem dX9_toldMany_12 : decode cX9_toldMany 12 = .ok (.getfield 49, 3) := by decide +kernel
theorem dX9_toldMany_15 : decode cX9_toldMany 15 = .ok (.iload_n 2, 1) := by decide +kernel
theorem dX9_toldMany_16 : decode cX9_toldMany 16 = .ok (.invokestatic 52, 3) := by decide +kernel
theorem dX9_toldMany_19 : decode cX9_toldMany 19 = .ok (.ifCond .eq 7, 3) := by decide +kernel
theorem dX9_toldMany_22 : decode cX9_toldMany 22 = .ok (.iconst 1, 1) := by decide +kernel
theorem dX9_toldMany_23 : decode cX9_toldMany 23 = .ok (.goto 4, 3) := by decide +kernel
theorem dX9_toldMany_26 : decode cX9_toldMany 26 = .ok (.iconst 0, 1) := by decide +kernel
theorem dX9_toldMany_27 : decode cX9_toldMany 27 = .ok (.iadd, 1) := by decide +kernel
theorem dX9_toldMany_28 : decode cX9_toldMany 28 = .ok (.istore_n 1, 1) := by decide +kernel
theorem dX9_toldMany_29 : decode cX9_toldMany 29 = .ok (.iinc 2 1, 3) := by decide +kernel
theorem dX9_toldMany_32 : decode cX9_toldMany 32 = .ok (.goto (-28), 3) := by decide +kernel
theorem dX9_toldMany_35 : decode cX9_toldMany 35 = .ok (.iload_n 1, 1) := by decide +kernel
theorem dX9_toldMany_36 : decode cX9_toldMany 36 = .ok (.ireturn, 1) := by decide +kernel
theorem dX9_askAll_0 : decode cX9_askAll 0 = .ok (.iload_n 1, 1) := by decide +kernel
theorem dX9_askAll_1 : decode cX9_askAll 1 = .ok (.istore_n 2, 1) := by decide +kernel
theorem dX9_askAll_2 : decode cX9_askAll 2 = .ok (.iconst 5, 1) := by decide +kernel
theorem dX9_askAll_3 : decode cX9_askAll 3 = .ok (.istore_n 3, 1) := by decide +kernel
theorem dX9_askAll_4 : decode cX9_askAll 4 = .ok (.iload_n 3, 1) := by decide +kernel
theorem dX9_askAll_5 : decode cX9_askAll 5 = .ok (.ifCond .lt 36, 3) := by decide +kernel
theorem dX9_askAll_8 : decode cX9_askAll 8 = .ok (.aload_n 0, 1) := by decide +kernel
theorem dX9_askAll_9 : decode cX9_askAll 9 = .ok (.getfield 49, 3) := by decide +kernel
theorem dX9_askAll_12 : decode cX9_askAll 12 = .ok (.iload_n 3, 1) := by decide +kernel
theorem dX9_askAll_13 : decode cX9_askAll 13 = .ok (.invokestatic 52, 3) := by decide +kernel
theorem dX9_askAll_16 : decode cX9_askAll 16 = .ok (.ifCond .eq 19, 3) := by decide +kernel
theorem dX9_askAll_19 : decode cX9_askAll 19 = .ok (.aload_n 0, 1) := by decide +kernel
theorem dX9_askAll_20 : decode cX9_askAll 20 = .ok (.getfield 29, 3) := by decide +kernel
theorem dX9_askAll_23 : decode cX9_askAll 23 = .ok (.bipush 7, 2) := by decide +kernel
theorem dX9_askAll_25 : decode cX9_askAll 25 = .ok (.iload_n 3, 1) := by decide +kernel
theorem dX9_askAll_26 : decode cX9_askAll 26 = .ok (.iadd, 1) := by decide +kernel
theorem dX9_askAll_27 : decode cX9_askAll 27 = .ok (.iload_n 2, 1) := by decide +kernel
theorem dX9_askAll_28 : decode cX9_askAll 28 = .ok (.iconst 4, 1) := by decide +kernel
theorem dX9_askAll_29 : decode cX9_askAll 29 = .ok (.irem, 1) := by decide +kernel
theorem dX9_askAll_30 : decode cX9_askAll 30 = .ok (.iastore, 1) := by decide +kernel
theorem dX9_askAll_31 : decode cX9_askAll 31 = .ok (.iload_n 2, 1) := by decide +kernel
theorem dX9_askAll_32 : decode cX9_askAll 32 = .ok (.iconst 4, 1) := by decide +kernel
theorem dX9_askAll_33 : decode cX9_askAll 33 = .ok (.idiv, 1) := by decide +kernel
theorem dX9_askAll_34 : decode cX9_askAll 34 = .ok (.istore_n 2, 1) := by decide +kernel
theorem dX9_askAll_35 : decode cX9_askAll 35 = .ok (.iinc 3 (-1), 3) := by decide +kernel
theorem dX9_askAll_38 : decode cX9_askAll 38 = .ok (.goto (-34), 3) := by decide +kernel
theorem dX9_askAll_41 : decode cX9_askAll 41 = .ok (.return_, 1) := by decide +kernel
theorem dX9_bestOf_0 : decode cX9_bestOf 0 = .ok (.iconst 1, 1) := by decide +kernel
theorem dX9_bestOf_1 : decode cX9_bestOf 1 = .ok (.iconst 2, 1) := by decide +kernel
theorem dX9_bestOf_2 : decode cX9_bestOf 2 = .ok (.aload_n 0, 1) := by decide +kernel
theorem dX9_bestOf_3 : decode cX9_bestOf 3 = .ok (.invokevirtual 209, 3) := by decide +kernel
theorem dX9_bestOf_6 : decode cX9_bestOf 6 = .ok (.imul, 1) := by decide +kernel
theorem dX9_bestOf_7 : decode cX9_bestOf 7 = .ok (.ishl, 1) := by decide +kernel
theorem dX9_bestOf_8 : decode cX9_bestOf 8 = .ok (.istore_n 2, 1) := by decide +kernel
theorem dX9_bestOf_9 : decode cX9_bestOf 9 = .ok (.iconst (-1), 1) := by decide +kernel
theorem dX9_bestOf_10 : decode cX9_bestOf 10 = .ok (.istore_n 3, 1) := by decide +kernel
theorem dX9_bestOf_11 : decode cX9_bestOf 11 = .ok (.aload_n 0, 1) := by decide +kernel
theorem dX9_bestOf_12 : decode cX9_bestOf 12 = .ok (.iconst (-1), 1) := by decide +kernel
theorem dX9_bestOf_13 : decode cX9_bestOf 13 = .ok (.putfield 213, 3) := by decide +kernel
theorem dX9_bestOf_16 : decode cX9_bestOf 16 = .ok (.aload_n 0, 1) := by decide +kernel
theorem dX9_bestOf_17 : decode cX9_bestOf 17 = .ok (.getfield 29, 3) := by decide +kernel
theorem dX9_bestOf_20 : decode cX9_bestOf 20 = .ok (.iconst 0, 1) := by decide +kernel
theorem dX9_bestOf_21 : decode cX9_bestOf 21 = .ok (.aload_n 0, 1) := by decide +kernel
theorem dX9_bestOf_22 : decode cX9_bestOf 22 = .ok (.getfield 32, 3) := by decide +kernel
theorem dX9_bestOf_25 : decode cX9_bestOf 25 = .ok (.iconst 0, 1) := by decide +kernel
theorem dX9_bestOf_26 : decode cX9_bestOf 26 = .ok (.invokestatic 205, 3) := by decide +kernel
theorem dX9_bestOf_29 : decode cX9_bestOf 29 = .ok (.iconst 0, 1) := by decide +kernel
theorem dX9_bestOf_30 : decode cX9_bestOf 30 = .ok (.istore 4, 2) := by decide +kernel
theorem dX9_bestOf_32 : decode cX9_bestOf 32 = .ok (.iload 4, 2) := by decide +kernel
theorem dX9_bestOf_34 : decode cX9_bestOf 34 = .ok (.iload_n 2, 1) := by decide +kernel
theorem dX9_bestOf_35 : decode cX9_bestOf 35 = .ok (.if_icmp .ge 105, 3) := by decide +kernel
theorem dX9_bestOf_38 : decode cX9_bestOf 38 = .ok (.aload_n 0, 1) := by decide +kernel
theorem dX9_bestOf_39 : decode cX9_bestOf 39 = .ok (.invokevirtual 216, 3) := by decide +kernel
theorem dX9_bestOf_42 : decode cX9_bestOf 42 = .ok (.aload_n 0, 1) := by decide +kernel
theorem dX9_bestOf_43 : decode cX9_bestOf 43 = .ok (.iload 4, 2) := by decide +kernel
theorem dX9_bestOf_45 : decode cX9_bestOf 45 = .ok (.invokevirtual 219, 3) := by decide +kernel
theorem dX9_bestOf_48 : decode cX9_bestOf 48 = .ok (.aload_n 0, 1) := by decide +kernel
theorem dX9_bestOf_49 : decode cX9_bestOf 49 = .ok (.invokevirtual 222, 3) := by decide +kernel
theorem dX9_bestOf_52 : decode cX9_bestOf 52 = .ok (.istore 5, 2) := by decide +kernel
theorem dX9_bestOf_54 : decode cX9_bestOf 54 = .ok (.iload_n 1, 1) := by decide +kernel
theorem dX9_bestOf_55 : decode cX9_bestOf 55 = .ok (.ifCond .eq 28, 3) := by decide +kernel
theorem dX9_bestOf_58 : decode cX9_bestOf 58 = .ok (.aload_n 0, 1) := by decide +kernel
theorem dX9_bestOf_59 : decode cX9_bestOf 59 = .ok (.invokevirtual 158, 3) := by decide +kernel
theorem dX9_bestOf_62 : decode cX9_bestOf 62 = .ok (.iconst 0, 1) := by decide +kernel
theorem dX9_bestOf_63 : decode cX9_bestOf 63 = .ok (.istore 5, 2) := by decide +kernel
theorem dX9_bestOf_65 : decode cX9_bestOf 65 = .ok (.aload_n 0, 1) := by decide +kernel
theorem dX9_bestOf_66 : decode cX9_bestOf 66 = .ok (.getfield 29, 3) := by decide +kernel
theorem dX9_bestOf_69 : decode cX9_bestOf 69 = .ok (.iconst 0, 1) := by decide +kernel
theorem dX9_bestOf_70 : decode cX9_bestOf 70 = .ok (.iaload, 1) := by decide +kernel
theorem dX9_bestOf_71 : decode cX9_bestOf 71 = .ok (.bipush 12, 2) := by decide +kernel
theorem dX9_bestOf_73 : decode cX9_bestOf 73 = .ok (.if_icmp .ge 14, 3) := by decide +kernel
theorem dX9_bestOf_76 : decode cX9_bestOf 76 = .ok (.aload_n 0, 1) := by decide +kernel
theorem dX9_bestOf_77 : decode cX9_bestOf 77 = .ok (.invokevirtual 202, 3) := by decide +kernel
theorem dX9_bestOf_80 : decode cX9_bestOf 80 = .ok (.goto (-15), 3) := by decide +kernel
theorem dX9_bestOf_83 : decode cX9_bestOf 83 = .ok (.aload_n 0, 1) := by decide +kernel
theorem dX9_bestOf_84 : decode cX9_bestOf 84 = .ok (.invokevirtual 202, 3) := by decide +kernel
theorem dX9_bestOf_87 : decode cX9_bestOf 87 = .ok (.aload_n 0, 1) := by decide +kernel
theorem dX9_bestOf_88 : decode cX9_bestOf 88 = .ok (.invokevirtual 222, 3) := by decide +kernel
theorem dX9_bestOf_91 : decode cX9_bestOf 91 = .ok (.iload 5, 2) := by decide +kernel
theorem dX9_bestOf_93 : decode cX9_bestOf 93 = .ok (.isub, 1) := by decide +kernel
theorem dX9_bestOf_94 : decode cX9_bestOf 94 = .ok (.istore 6, 2) := by decide +kernel
theorem dX9_bestOf_96 : decode cX9_bestOf 96 = .ok (.iload 6, 2) := by decide +kernel
theorem dX9_bestOf_98 : decode cX9_bestOf 98 = .ok (.aload_n 0, 1) := by decide +kernel
theorem dX9_bestOf_99 : decode cX9_bestOf 99 = .ok (.getfield 213, 3) := by decide +kernel
theorem dX9_bestOf_102 : decode cX9_bestOf 102 = .ok (.if_icmp .le 8, 3) := by decide +kernel
theorem dX9_bestOf_105 : decode cX9_bestOf 105 = .ok (.iload 4, 2) := by decide +kernel
theorem dX9_bestOf_107 : decode cX9_bestOf 107 = .ok (.goto 4, 3) := by decide +kernel
theorem dX9_bestOf_110 : decode cX9_bestOf 110 = .ok (.iload_n 3, 1) := by decide +kernel
theorem dX9_bestOf_111 : decode cX9_bestOf 111 = .ok (.istore_n 3, 1) := by decide +kernel
theorem dX9_bestOf_112 : decode cX9_bestOf 112 = .ok (.aload_n 0, 1) := by decide +kernel
theorem dX9_bestOf_113 : decode cX9_bestOf 113 = .ok (.iload 6, 2) := by decide +kernel
theorem dX9_bestOf_115 : decode cX9_bestOf 115 = .ok (.aload_n 0, 1) := by decide +kernel
theorem dX9_bestOf_116 : decode cX9_bestOf 116 = .ok (.getfield 213, 3) := by decide +kernel
theorem dX9_bestOf_119 : decode cX9_bestOf 119 = .ok (.if_icmp .le 8, 3) := by decide +kernel
theorem dX9_bestOf_122 : decode cX9_bestOf 122 = .ok (.iload 6, 2) := by decide +kernel
theorem dX9_bestOf_124 : decode cX9_bestOf 124 = .ok (.goto 7, 3) := by decide +kernel
theorem dX9_bestOf_127 : decode cX9_bestOf 127 = .ok (.aload_n 0, 1) := by decide +kernel
theorem dX9_bestOf_128 : decode cX9_bestOf 128 = .ok (.getfield 213, 3) := by decide +kernel
theorem dX9_bestOf_131 : decode cX9_bestOf 131 = .ok (.putfield 213, 3) := by decide +kernel
theorem dX9_bestOf_134 : decode cX9_bestOf 134 = .ok (.iinc 4 1, 3) := by decide +kernel
theorem dX9_bestOf_137 : decode cX9_bestOf 137 = .ok (.goto (-105), 3) := by decide +kernel
theorem dX9_bestOf_140 : decode cX9_bestOf 140 = .ok (.aload_n 0, 1) := by decide +kernel
theorem dX9_bestOf_141 : decode cX9_bestOf 141 = .ok (.getfield 32, 3) := by decide +kernel
theorem dX9_bestOf_144 : decode cX9_bestOf 144 = .ok (.iconst 0, 1) := by decide +kernel
theorem dX9_bestOf_145 : decode cX9_bestOf 145 = .ok (.aload_n 0, 1) := by decide +kernel
theorem dX9_bestOf_146 : decode cX9_bestOf 146 = .ok (.getfield 29, 3) := by decide +kernel
theorem dX9_bestOf_149 : decode cX9_bestOf 149 = .ok (.iconst 0, 1) := by decide +kernel
theorem dX9_bestOf_150 : decode cX9_bestOf 150 = .ok (.invokestatic 205, 3) := by decide +kernel
theorem dX9_bestOf_153 : decode cX9_bestOf 153 = .ok (.iload_n 3, 1) := by decide +kernel
theorem dX9_bestOf_154 : decode cX9_bestOf 154 = .ok (.ireturn, 1) := by decide +kernel
theorem dX9_copyState_0 : decode cX9_copyState 0 = .ok (.iconst 0, 1) := by decide +kernel
theorem dX9_copyState_1 : decode cX9_copyState 1 = .ok (.istore_n 1, 1) := by decide +kernel
theorem dX9_copyState_2 : decode cX9_copyState 2 = .ok (.iload_n 1, 1) := by decide +kernel
theorem dX9_copyState_3 : decode cX9_copyState 3 = .ok (.bipush 45, 2) := by decide +kernel
theorem dX9_copyState_5 : decode cX9_copyState 5 = .ok (.if_icmp .ge 21, 3) := by decide +kernel
theorem dX9_copyState_8 : decode cX9_copyState 8 = .ok (.aload_n 0, 1) := by decide +kernel
theorem dX9_copyState_9 : decode cX9_copyState 9 = .ok (.getfield 29, 3) := by decide +kernel
theorem dX9_copyState_12 : decode cX9_copyState 12 = .ok (.iload_n 1, 1) := by decide +kernel
theorem dX9_copyState_13 : decode cX9_copyState 13 = .ok (.aload_n 0, 1) := by decide +kernel
theorem dX9_copyState_14 : decode cX9_copyState 14 = .ok (.getfield 32, 3) := by decide +kernel
theorem dX9_copyState_17 : decode cX9_copyState 17 = .ok (.iload_n 1, 1) := by decide +kernel
theorem dX9_copyState_18 : decode cX9_copyState 18 = .ok (.iaload, 1) := by decide +kernel
theorem dX9_copyState_19 : decode cX9_copyState 19 = .ok (.iastore, 1) := by decide +kernel
theorem dX9_copyState_20 : decode cX9_copyState 20 = .ok (.iinc 1 1, 3) := by decide +kernel
theorem dX9_copyState_23 : decode cX9_copyState 23 = .ok (.goto (-21), 3) := by decide +kernel
theorem dX9_copyState_26 : decode cX9_copyState 26 = .ok (.return_, 1) := by decide +kernel
theorem dX9_heightIn_0 : decode cX9_heightIn 0 = .ok (.iconst 0, 1) := by decide +kernel
theorem dX9_heightIn_1 : decode cX9_heightIn 1 = .ok (.istore_n 3, 1) := by decide +kernel
theorem dX9_heightIn_2 : decode cX9_heightIn 2 = .ok (.iload_n 2, 1) := by decide +kernel
theorem dX9_heightIn_3 : decode cX9_heightIn 3 = .ok (.iconst 1, 1) := by decide +kernel
theorem dX9_heightIn_4 : decode cX9_heightIn 4 = .ok (.iadd, 1) := by decide +kernel
theorem dX9_heightIn_5 : decode cX9_heightIn 5 = .ok (.istore 4, 2) := by decide +kernel
theorem dX9_heightIn_7 : decode cX9_heightIn 7 = .ok (.iload 4, 2) := by decide +kernel
theorem dX9_heightIn_9 : decode cX9_heightIn 9 = .ok (.bipush 6, 2) := by decide +kernel
theorem dX9_heightIn_11 : decode cX9_heightIn 11 = .ok (.if_icmp .ge 29, 3) := by decide +kernel
theorem dX9_heightIn_14 : decode cX9_heightIn 14 = .ok (.iload_n 3, 1) := by decide +kernel
theorem dX9_heightIn_15 : decode cX9_heightIn 15 = .ok (.aload_n 0, 1) := by decide +kernel
theorem dX9_heightIn_16 : decode cX9_heightIn 16 = .ok (.getfield 49, 3) := by decide +kernel
theorem dX9_heightIn_19 : decode cX9_heightIn 19 = .ok (.iload 4, 2) := by decide +kernel
theorem dX9_heightIn_21 : decode cX9_heightIn 21 = .ok (.invokestatic 52, 3) := by decide +kernel
theorem dX9_heightIn_24 : decode cX9_heightIn 24 = .ok (.ifCond .eq 7, 3) := by decide +kernel
theorem dX9_heightIn_27 : decode cX9_heightIn 27 = .ok (.iconst 1, 1) := by decide +kernel
theorem dX9_heightIn_28 : decode cX9_heightIn 28 = .ok (.goto 4, 3) := by decide +kernel
theorem dX9_heightIn_31 : decode cX9_heightIn 31 = .ok (.iconst 0, 1) := by decide +kernel
theorem dX9_heightIn_32 : decode cX9_heightIn 32 = .ok (.iadd, 1) := by decide +kernel
theorem dX9_heightIn_33 : decode cX9_heightIn 33 = .ok (.istore_n 3, 1) := by decide +kernel
theorem dX9_heightIn_34 : decode cX9_heightIn 34 = .ok (.iinc 4 1, 3) := by decide +kernel
theorem dX9_heightIn_37 : decode cX9_heightIn 37 = .ok (.goto (-30), 3) := by decide +kernel
theorem dX9_heightIn_40 : decode cX9_heightIn 40 = .ok (.iload_n 1, 1) := by decide +kernel
theorem dX9_heightIn_41 : decode cX9_heightIn 41 = .ok (.iconst 2, 1) := by decide +kernel
theorem dX9_heightIn_42 : decode cX9_heightIn 42 = .ok (.iload_n 3, 1) := by decide +kernel
theorem dX9_heightIn_43 : decode cX9_heightIn 43 = .ok (.imul, 1) := by decide +kernel
theorem dX9_heightIn_44 : decode cX9_heightIn 44 = .ok (.ishr, 1) := by decide +kernel
theorem dX9_heightIn_45 : decode cX9_heightIn 45 = .ok (.iconst 3, 1) := by decide +kernel
theorem dX9_heightIn_46 : decode cX9_heightIn 46 = .ok (.iand, 1) := by decide +kernel
theorem dX9_heightIn_47 : decode cX9_heightIn 47 = .ok (.ireturn, 1) := by decide +kernel
theorem dX9_best_0 : decode cX9_best 0 = .ok (.iload_n 1, 1) := by decide +kernel
theorem dX9_best_1 : decode cX9_best 1 = .ok (.iconst (-1), 1) := by decide +kernel
theorem dX9_best_2 : decode cX9_best 2 = .ok (.if_icmp .eq 14, 3) := by decide +kernel
theorem dX9_best_5 : decode cX9_best 5 = .ok (.aload_n 0, 1) := by decide +kernel
theorem dX9_best_6 : decode cX9_best 6 = .ok (.iload_n 1, 1) := by decide +kernel
theorem dX9_best_7 : decode cX9_best 7 = .ok (.invokevirtual 171, 3) := by decide +kernel
theorem dX9_best_10 : decode cX9_best 10 = .ok (.ifCond .ne 6, 3) := by decide +kernel
theorem dX9_best_13 : decode cX9_best 13 = .ok (.bipush (-2), 2) := by decide +kernel
theorem dX9_best_15 : decode cX9_best 15 = .ok (.ireturn, 1) := by decide +kernel
theorem dX9_best_16 : decode cX9_best 16 = .ok (.aload_n 0, 1) := by decide +kernel
theorem dX9_best_17 : decode cX9_best 17 = .ok (.getfield 29, 3) := by decide +kernel
theorem dX9_best_20 : decode cX9_best 20 = .ok (.iconst 0, 1) := by decide +kernel
theorem dX9_best_21 : decode cX9_best 21 = .ok (.iaload, 1) := by decide +kernel
theorem dX9_best_22 : decode cX9_best 22 = .ok (.bipush 12, 2) := by decide +kernel
theorem dX9_best_24 : decode cX9_best 24 = .ok (.if_icmp .ne 6, 3) := by decide +kernel
theorem dX9_best_27 : decode cX9_best 27 = .ok (.bipush (-4), 2) := by decide +kernel
theorem dX9_best_29 : decode cX9_best 29 = .ok (.ireturn, 1) := by decide +kernel
theorem dX9_best_30 : decode cX9_best 30 = .ok (.aload_n 0, 1) := by decide +kernel
theorem dX9_best_31 : decode cX9_best 31 = .ok (.iconst 0, 1) := by decide +kernel
theorem dX9_best_32 : decode cX9_best 32 = .ok (.invokevirtual 225, 3) := by decide +kernel
theorem dX9_best_35 : decode cX9_best 35 = .ok (.istore_n 2, 1) := by decide +kernel
theorem dX9_best_36 : decode cX9_best 36 = .ok (.iload_n 1, 1) := by decide +kernel
theorem dX9_best_37 : decode cX9_best 37 = .ok (.iconst (-1), 1) := by decide +kernel
theorem dX9_best_38 : decode cX9_best 38 = .ok (.if_icmp .ne 10, 3) := by decide +kernel
theorem dX9_best_41 : decode cX9_best 41 = .ok (.aload_n 0, 1) := by decide +kernel
theorem dX9_best_42 : decode cX9_best 42 = .ok (.getfield 213, 3) := by decide +kernel
theorem dX9_best_45 : decode cX9_best 45 = .ok (.goto 9, 3) := by decide +kernel
theorem dX9_best_48 : decode cX9_best 48 = .ok (.aload_n 0, 1) := by decide +kernel
theorem dX9_best_49 : decode cX9_best 49 = .ok (.iload_n 2, 1) := by decide +kernel
theorem dX9_best_50 : decode cX9_best 50 = .ok (.iload_n 1, 1) := by decide +kernel
theorem dX9_best_51 : decode cX9_best 51 = .ok (.invokevirtual 229, 3) := by decide +kernel
theorem dX9_best_54 : decode cX9_best 54 = .ok (.ireturn, 1) := by decide +kernel
theorem dX9_allDay_0 : decode cX9_allDay 0 = .ok (.iload_n 1, 1) := by decide +kernel
theorem dX9_allDay_1 : decode cX9_allDay 1 = .ok (.iconst (-1), 1) := by decide +kernel
theorem dX9_allDay_2 : decode cX9_allDay 2 = .ok (.if_icmp .eq 14, 3) := by decide +kernel
theorem dX9_allDay_5 : decode cX9_allDay 5 = .ok (.aload_n 0, 1) := by decide +kernel
theorem dX9_allDay_6 : decode cX9_allDay 6 = .ok (.iload_n 1, 1) := by decide +kernel
theorem dX9_allDay_7 : decode cX9_allDay 7 = .ok (.invokevirtual 171, 3) := by decide +kernel
theorem dX9_allDay_10 : decode cX9_allDay 10 = .ok (.ifCond .ne 6, 3) := by decide +kernel
theorem dX9_allDay_13 : decode cX9_allDay 13 = .ok (.bipush (-2), 2) := by decide +kernel
theorem dX9_allDay_15 : decode cX9_allDay 15 = .ok (.ireturn, 1) := by decide +kernel
theorem dX9_allDay_16 : decode cX9_allDay 16 = .ok (.aload_n 0, 1) := by decide +kernel
theorem dX9_allDay_17 : decode cX9_allDay 17 = .ok (.iconst 1, 1) := by decide +kernel
theorem dX9_allDay_18 : decode cX9_allDay 18 = .ok (.invokevirtual 225, 3) := by decide +kernel
theorem dX9_allDay_21 : decode cX9_allDay 21 = .ok (.istore_n 2, 1) := by decide +kernel
theorem dX9_allDay_22 : decode cX9_allDay 22 = .ok (.iload_n 1, 1) := by decide +kernel
theorem dX9_allDay_23 : decode cX9_allDay 23 = .ok (.iconst (-1), 1) := by decide +kernel
theorem dX9_allDay_24 : decode cX9_allDay 24 = .ok (.if_icmp .ne 10, 3) := by decide +kernel
theorem dX9_allDay_27 : decode cX9_allDay 27 = .ok (.aload_n 0, 1) := by decide +kernel
theorem dX9_allDay_28 : decode cX9_allDay 28 = .ok (.getfield 213, 3) := by decide +kernel
theorem dX9_allDay_31 : decode cX9_allDay 31 = .ok (.goto 9, 3) := by decide +kernel
theorem dX9_allDay_34 : decode cX9_allDay 34 = .ok (.aload_n 0, 1) := by decide +kernel
theorem dX9_allDay_35 : decode cX9_allDay 35 = .ok (.iload_n 2, 1) := by decide +kernel
theorem dX9_allDay_36 : decode cX9_allDay 36 = .ok (.iload_n 1, 1) := by decide +kernel
theorem dX9_allDay_37 : decode cX9_allDay 37 = .ok (.invokevirtual 229, 3) := by decide +kernel
theorem dX9_allDay_40 : decode cX9_allDay 40 = .ok (.ireturn, 1) := by decide +kernel
theorem dX9_laws_0 : decode cX9_laws 0 = .ok (.iload_n 1, 1) := by decide +kernel
theorem dX9_laws_1 : decode cX9_laws 1 = .ok (.iconst 0, 1) := by decide +kernel
theorem dX9_laws_2 : decode cX9_laws 2 = .ok (.iconst 1, 1) := by decide +kernel
theorem dX9_laws_3 : decode cX9_laws 3 = .ok (.invokestatic 45, 3) := by decide +kernel
theorem dX9_laws_6 : decode cX9_laws 6 = .ok (.ifCond .ne 6, 3) := by decide +kernel
theorem dX9_laws_9 : decode cX9_laws 9 = .ok (.bipush (-3), 2) := by decide +kernel
theorem dX9_laws_11 : decode cX9_laws 11 = .ok (.ireturn, 1) := by decide +kernel
theorem dX9_laws_12 : decode cX9_laws 12 = .ok (.aload_n 0, 1) := by decide +kernel
theorem dX9_laws_13 : decode cX9_laws 13 = .ok (.getfield 152, 3) := by decide +kernel
theorem dX9_laws_16 : decode cX9_laws 16 = .ok (.istore_n 2, 1) := by decide +kernel
theorem dX9_laws_17 : decode cX9_laws 17 = .ok (.iconst (-1), 1) := by decide +kernel
theorem dX9_laws_18 : decode cX9_laws 18 = .ok (.istore_n 3, 1) := by decide +kernel
theorem dX9_laws_19 : decode cX9_laws 19 = .ok (.iconst (-1), 1) := by decide +kernel
theorem dX9_laws_20 : decode cX9_laws 20 = .ok (.istore 4, 2) := by decide +kernel
theorem dX9_laws_22 : decode cX9_laws 22 = .ok (.aload_n 0, 1) := by decide +kernel
theorem dX9_laws_23 : decode cX9_laws 23 = .ok (.getfield 29, 3) := by decide +kernel
theorem dX9_laws_26 : decode cX9_laws 26 = .ok (.iconst 0, 1) := by decide +kernel
theorem dX9_laws_27 : decode cX9_laws 27 = .ok (.aload_n 0, 1) := by decide +kernel
theorem dX9_laws_28 : decode cX9_laws 28 = .ok (.getfield 32, 3) := by decide +kernel
theorem dX9_laws_31 : decode cX9_laws 31 = .ok (.iconst 0, 1) := by decide +kernel
theorem dX9_laws_32 : decode cX9_laws 32 = .ok (.invokestatic 205, 3) := by decide +kernel
theorem dX9_laws_35 : decode cX9_laws 35 = .ok (.iconst 0, 1) := by decide +kernel
theorem dX9_laws_36 : decode cX9_laws 36 = .ok (.istore 5, 2) := by decide +kernel
theorem dX9_laws_38 : decode cX9_laws 38 = .ok (.iload 5, 2) := by decide +kernel
theorem dX9_laws_40 : decode cX9_laws 40 = .ok (.iconst 3, 1) := by decide +kernel
theorem dX9_laws_41 : decode cX9_laws 41 = .ok (.if_icmp .ge 77, 3) := by decide +kernel
theorem dX9_laws_44 : decode cX9_laws 44 = .ok (.aload_n 0, 1) := by decide +kernel
theorem dX9_laws_45 : decode cX9_laws 45 = .ok (.iload 5, 2) := by decide +kernel
theorem dX9_laws_47 : decode cX9_laws 47 = .ok (.putfield 152, 3) := by decide +kernel
theorem dX9_laws_50 : decode cX9_laws 50 = .ok (.aload_n 0, 1) := by decide +kernel
theorem dX9_laws_51 : decode cX9_laws 51 = .ok (.invokevirtual 216, 3) := by decide +kernel
theorem dX9_laws_54 : decode cX9_laws 54 = .ok (.aload_n 0, 1) := by decide +kernel
theorem dX9_laws_55 : decode cX9_laws 55 = .ok (.invokevirtual 158, 3) := by decide +kernel
theorem dX9_laws_58 : decode cX9_laws 58 = .ok (.aload_n 0, 1) := by decide +kernel
theorem dX9_laws_59 : decode cX9_laws 59 = .ok (.getfield 29, 3) := by decide +kernel
theorem dX9_laws_62 : decode cX9_laws 62 = .ok (.iconst 0, 1) := by decide +kernel
theorem dX9_laws_63 : decode cX9_laws 63 = .ok (.iaload, 1) := by decide +kernel
theorem dX9_laws_64 : decode cX9_laws 64 = .ok (.bipush 12, 2) := by decide +kernel
theorem dX9_laws_66 : decode cX9_laws 66 = .ok (.if_icmp .ge 10, 3) := by decide +kernel
theorem dX9_laws_69 : decode cX9_laws 69 = .ok (.aload_n 0, 1) := by decide +kernel
theorem dX9_laws_70 : decode cX9_laws 70 = .ok (.invokevirtual 202, 3) := by decide +kernel
theorem dX9_laws_73 : decode cX9_laws 73 = .ok (.goto (-15), 3) := by decide +kernel
theorem dX9_laws_76 : decode cX9_laws 76 = .ok (.aload_n 0, 1) := by decide +kernel
theorem dX9_laws_77 : decode cX9_laws 77 = .ok (.invokevirtual 222, 3) := by decide +kernel
theorem dX9_laws_80 : decode cX9_laws 80 = .ok (.iload 4, 2) := by decide +kernel
theorem dX9_laws_82 : decode cX9_laws 82 = .ok (.if_icmp .le 8, 3) := by decide +kernel
theorem dX9_laws_85 : decode cX9_laws 85 = .ok (.iload 5, 2) := by decide +kernel
theorem dX9_laws_87 : decode cX9_laws 87 = .ok (.goto 4, 3) := by decide +kernel
theorem dX9_laws_90 : decode cX9_laws 90 = .ok (.iload_n 3, 1) := by decide +kernel
theorem dX9_laws_91 : decode cX9_laws 91 = .ok (.istore_n 3, 1) := by decide +kernel
theorem dX9_laws_92 : decode cX9_laws 92 = .ok (.aload_n 0, 1) := by decide +kernel
theorem dX9_laws_93 : decode cX9_laws 93 = .ok (.invokevirtual 222, 3) := by decide +kernel
theorem dX9_laws_96 : decode cX9_laws 96 = .ok (.iload 4, 2) := by decide +kernel
theorem dX9_laws_98 : decode cX9_laws 98 = .ok (.if_icmp .le 10, 3) := by decide +kernel
theorem dX9_laws_101 : decode cX9_laws 101 = .ok (.aload_n 0, 1) := by decide +kernel
theorem dX9_laws_102 : decode cX9_laws 102 = .ok (.invokevirtual 222, 3) := by decide +kernel
theorem dX9_laws_105 : decode cX9_laws 105 = .ok (.goto 5, 3) := by decide +kernel
theorem dX9_laws_108 : decode cX9_laws 108 = .ok (.iload 4, 2) := by decide +kernel
theorem dX9_laws_110 : decode cX9_laws 110 = .ok (.istore 4, 2) := by decide +kernel
theorem dX9_laws_112 : decode cX9_laws 112 = .ok (.iinc 5 1, 3) := by decide +kernel
theorem dX9_laws_115 : decode cX9_laws 115 = .ok (.goto (-77), 3) := by decide +kernel
theorem dX9_laws_118 : decode cX9_laws 118 = .ok (.aload_n 0, 1) := by decide +kernel
theorem dX9_laws_119 : decode cX9_laws 119 = .ok (.getfield 32, 3) := by decide +kernel
theorem dX9_laws_122 : decode cX9_laws 122 = .ok (.iconst 0, 1) := by decide +kernel
theorem dX9_laws_123 : decode cX9_laws 123 = .ok (.aload_n 0, 1) := by decide +kernel
theorem dX9_laws_124 : decode cX9_laws 124 = .ok (.getfield 29, 3) := by decide +kernel
theorem dX9_laws_127 : decode cX9_laws 127 = .ok (.iconst 0, 1) := by decide +kernel
theorem dX9_laws_128 : decode cX9_laws 128 = .ok (.invokestatic 205, 3) := by decide +kernel
theorem dX9_laws_131 : decode cX9_laws 131 = .ok (.aload_n 0, 1) := by decide +kernel
theorem dX9_laws_132 : decode cX9_laws 132 = .ok (.iload_n 2, 1) := by decide +kernel
theorem dX9_laws_133 : decode cX9_laws 133 = .ok (.putfield 152, 3) := by decide +kernel
theorem dX9_laws_136 : decode cX9_laws 136 = .ok (.iload_n 1, 1) := by decide +kernel
theorem dX9_laws_137 : decode cX9_laws 137 = .ok (.ifCond .ne 7, 3) := by decide +kernel
theorem dX9_laws_140 : decode cX9_laws 140 = .ok (.iload_n 3, 1) := by decide +kernel
theorem dX9_laws_141 : decode cX9_laws 141 = .ok (.goto 5, 3) := by decide +kernel
theorem dX9_laws_144 : decode cX9_laws 144 = .ok (.iload 4, 2) := by decide +kernel
theorem dX9_laws_146 : decode cX9_laws 146 = .ok (.ireturn, 1) := by decide +kernel
theorem dX9_part_0 : decode cX9_part 0 = .ok (.lload_n 0, 1) := by decide +kernel
theorem dX9_part_1 : decode cX9_part 1 = .ok (.lstore 5, 2) := by decide +kernel
theorem dX9_part_3 : decode cX9_part 3 = .ok (.lload_n 2, 1) := by decide +kernel
theorem dX9_part_4 : decode cX9_part 4 = .ok (.lstore 7, 2) := by decide +kernel
theorem dX9_part_6 : decode cX9_part 6 = .ok (.lload 7, 2) := by decide +kernel
theorem dX9_part_8 : decode cX9_part 8 = .ok (.lconst 0, 1) := by decide +kernel
theorem dX9_part_9 : decode cX9_part 9 = .ok (.lcmp, 1) := by decide +kernel
theorem dX9_part_10 : decode cX9_part 10 = .ok (.ifCond .eq 21, 3) := by decide +kernel
theorem dX9_part_13 : decode cX9_part 13 = .ok (.lload 5, 2) := by decide +kernel
theorem dX9_part_15 : decode cX9_part 15 = .ok (.lload 7, 2) := by decide +kernel
theorem dX9_part_17 : decode cX9_part 17 = .ok (.lrem, 1) := by decide +kernel
theorem dX9_part_18 : decode cX9_part 18 = .ok (.lstore 9, 2) := by decide +kernel
theorem dX9_part_20 : decode cX9_part 20 = .ok (.lload 7, 2) := by decide +kernel
theorem dX9_part_22 : decode cX9_part 22 = .ok (.lstore 5, 2) := by decide +kernel
theorem dX9_part_24 : decode cX9_part 24 = .ok (.lload 9, 2) := by decide +kernel
theorem dX9_part_26 : decode cX9_part 26 = .ok (.lstore 7, 2) := by decide +kernel
theorem dX9_part_28 : decode cX9_part 28 = .ok (.goto (-22), 3) := by decide +kernel
theorem dX9_part_31 : decode cX9_part 31 = .ok (.iload 4, 2) := by decide +kernel
theorem dX9_part_33 : decode cX9_part 33 = .ok (.ifCond .ne 7, 3) := by decide +kernel
theorem dX9_part_36 : decode cX9_part 36 = .ok (.lload_n 0, 1) := by decide +kernel
theorem dX9_part_37 : decode cX9_part 37 = .ok (.goto 4, 3) := by decide +kernel
theorem dX9_part_40 : decode cX9_part 40 = .ok (.lload_n 2, 1) := by decide +kernel
theorem dX9_part_41 : decode cX9_part 41 = .ok (.lload 5, 2) := by decide +kernel
theorem dX9_part_43 : decode cX9_part 43 = .ok (.ldiv, 1) := by decide +kernel
theorem dX9_part_44 : decode cX9_part 44 = .ok (.lreturn, 1) := by decide +kernel
theorem dX9_food_0 : decode cX9_food 0 = .ok (.iload_n 1, 1) := by decide +kernel
theorem dX9_food_1 : decode cX9_food 1 = .ok (.iconst 0, 1) := by decide +kernel
theorem dX9_food_2 : decode cX9_food 2 = .ok (.sipush 999, 3) := by decide +kernel
theorem dX9_food_5 : decode cX9_food 5 = .ok (.invokestatic 45, 3) := by decide +kernel
theorem dX9_food_8 : decode cX9_food 8 = .ok (.ifCond .eq 55, 3) := by decide +kernel
theorem dX9_food_11 : decode cX9_food 11 = .ok (.iload_n 2, 1) := by decide +kernel
theorem dX9_food_12 : decode cX9_food 12 = .ok (.iconst 1, 1) := by decide +kernel
theorem dX9_food_13 : decode cX9_food 13 = .ok (.bipush 99, 2) := by decide +kernel
theorem dX9_food_15 : decode cX9_food 15 = .ok (.invokestatic 45, 3) := by decide +kernel
theorem dX9_food_18 : decode cX9_food 18 = .ok (.ifCond .eq 45, 3) := by decide +kernel
theorem dX9_food_21 : decode cX9_food 21 = .ok (.iload_n 3, 1) := by decide +kernel
theorem dX9_food_22 : decode cX9_food 22 = .ok (.iconst 0, 1) := by decide +kernel
theorem dX9_food_23 : decode cX9_food 23 = .ok (.bipush 99, 2) := by decide +kernel
theorem dX9_food_25 : decode cX9_food 25 = .ok (.invokestatic 45, 3) := by decide +kernel
theorem dX9_food_28 : decode cX9_food 28 = .ok (.ifCond .eq 35, 3) := by decide +kernel
theorem dX9_food_31 : decode cX9_food 31 = .ok (.iload 4, 2) := by decide +kernel
theorem dX9_food_33 : decode cX9_food 33 = .ok (.iconst 0, 1) := by decide +kernel
theorem dX9_food_34 : decode cX9_food 34 = .ok (.bipush 10, 2) := by decide +kernel
theorem dX9_food_36 : decode cX9_food 36 = .ok (.invokestatic 45, 3) := by decide +kernel
theorem dX9_food_39 : decode cX9_food 39 = .ok (.ifCond .eq 24, 3) := by decide +kernel
theorem dX9_food_42 : decode cX9_food 42 = .ok (.iload 5, 2) := by decide +kernel
theorem dX9_food_44 : decode cX9_food 44 = .ok (.iconst 0, 1) := by decide +kernel
theorem dX9_food_45 : decode cX9_food 45 = .ok (.bipush 8, 2) := by decide +kernel
theorem dX9_food_47 : decode cX9_food 47 = .ok (.invokestatic 45, 3) := by decide +kernel
theorem dX9_food_50 : decode cX9_food 50 = .ok (.ifCond .eq 13, 3) := by decide +kernel
theorem dX9_food_53 : decode cX9_food 53 = .ok (.iload 6, 2) := by decide +kernel
theorem dX9_food_55 : decode cX9_food 55 = .ok (.iconst 0, 1) := by decide +kernel
theorem dX9_food_56 : decode cX9_food 56 = .ok (.iconst 1, 1) := by decide +kernel
theorem dX9_food_57 : decode cX9_food 57 = .ok (.invokestatic 45, 3) := by decide +kernel
theorem dX9_food_60 : decode cX9_food 60 = .ok (.ifCond .ne 7, 3) := by decide +kernel
theorem dX9_food_63 : decode cX9_food 63 = .ok (.ldc2_w 87, 3) := by decide +kernel
theorem dX9_food_66 : decode cX9_food 66 = .ok (.lreturn, 1) := by decide +kernel
theorem dX9_food_67 : decode cX9_food 67 = .ok (.lconst 0, 1) := by decide +kernel
theorem dX9_food_68 : decode cX9_food 68 = .ok (.lstore 7, 2) := by decide +kernel
theorem dX9_food_70 : decode cX9_food 70 = .ok (.lconst 1, 1) := by decide +kernel
theorem dX9_food_71 : decode cX9_food 71 = .ok (.lstore 9, 2) := by decide +kernel
theorem dX9_food_73 : decode cX9_food 73 = .ok (.iconst 0, 1) := by decide +kernel
theorem dX9_food_74 : decode cX9_food 74 = .ok (.istore 11, 2) := by decide +kernel
theorem dX9_food_76 : decode cX9_food 76 = .ok (.iload 11, 2) := by decide +kernel
theorem dX9_food_78 : decode cX9_food 78 = .ok (.iconst 1, 1) := by decide +kernel
theorem dX9_food_79 : decode cX9_food 79 = .ok (.iload 5, 2) := by decide +kernel
theorem dX9_food_81 : decode cX9_food 81 = .ok (.ishl, 1) := by decide +kernel
theorem dX9_food_82 : decode cX9_food 82 = .ok (.if_icmp .ge 113, 3) := by decide +kernel
theorem dX9_food_85 : decode cX9_food 85 = .ok (.iload_n 1, 1) := by decide +kernel
theorem dX9_food_86 : decode cX9_food 86 = .ok (.istore 12, 2) := by decide +kernel
theorem dX9_food_88 : decode cX9_food 88 = .ok (.lconst 1, 1) := by decide +kernel
theorem dX9_food_89 : decode cX9_food 89 = .ok (.lstore 13, 2) := by decide +kernel
theorem dX9_food_91 : decode cX9_food 91 = .ok (.iconst 0, 1) := by decide +kernel
theorem dX9_food_92 : decode cX9_food 92 = .ok (.istore 15, 2) := by decide +kernel
theorem dX9_food_94 : decode cX9_food 94 = .ok (.iload 15, 2) := by decide +kernel
theorem dX9_food_96 : decode cX9_food 96 = .ok (.iload 5, 2) := by decide +kernel
theorem dX9_food_98 : decode cX9_food 98 = .ok (.if_icmp .ge 75, 3) := by decide +kernel
theorem dX9_food_101 : decode cX9_food 101 = .ok (.iload 11, 2) := by decide +kernel
theorem dX9_food_103 : decode cX9_food 103 = .ok (.iload 15, 2) := by decide +kernel
theorem dX9_food_105 : decode cX9_food 105 = .ok (.invokestatic 52, 3) := by decide +kernel
theorem dX9_food_108 : decode cX9_food 108 = .ok (.istore 16, 2) := by decide +kernel
theorem dX9_food_110 : decode cX9_food 110 = .ok (.lload 13, 2) := by decide +kernel
theorem dX9_food_112 : decode cX9_food 112 = .ok (.iload 16, 2) := by decide +kernel
theorem dX9_food_114 : decode cX9_food 114 = .ok (.ifCond .eq 9, 3) := by decide +kernel
theorem dX9_food_117 : decode cX9_food 117 = .ok (.iload 4, 2) := by decide +kernel
theorem dX9_food_119 : decode cX9_food 119 = .ok (.i2l, 1) := by decide +kernel
theorem dX9_food_120 : decode cX9_food 120 = .ok (.goto 9, 3) := by decide +kernel
theorem dX9_food_123 : decode cX9_food 123 = .ok (.bipush 10, 2) := by decide +kernel
theorem dX9_food_125 : decode cX9_food 125 = .ok (.iload 4, 2) := by decide +kernel
theorem dX9_food_127 : decode cX9_food 127 = .ok (.isub, 1) := by decide +kernel
theorem dX9_food_128 : decode cX9_food 128 = .ok (.i2l, 1) := by decide +kernel
theorem dX9_food_129 : decode cX9_food 129 = .ok (.lmul, 1) := by decide +kernel
theorem dX9_food_130 : decode cX9_food 130 = .ok (.lstore 13, 2) := by decide +kernel
theorem dX9_food_132 : decode cX9_food 132 = .ok (.iload 12, 2) := by decide +kernel
theorem dX9_food_134 : decode cX9_food 134 = .ok (.iload 12, 2) := by decide +kernel
theorem dX9_food_136 : decode cX9_food 136 = .ok (.ifCond .lt 8, 3) := by decide +kernel
theorem dX9_food_139 : decode cX9_food 139 = .ok (.iload 16, 2) := by decide +kernel
theorem dX9_food_141 : decode cX9_food 141 = .ok (.ifCond .eq 7, 3) := by decide +kernel
theorem dX9_food_144 : decode cX9_food 144 = .ok (.iconst 0, 1) := by decide +kernel
theorem dX9_food_145 : decode cX9_food 145 = .ok (.goto 4, 3) := by decide +kernel
theorem dX9_food_148 : decode cX9_food 148 = .ok (.iload_n 3, 1) := by decide +kernel
theorem dX9_food_149 : decode cX9_food 149 = .ok (.iadd, 1) := by decide +kernel
theorem dX9_food_150 : decode cX9_food 150 = .ok (.istore 12, 2) := by decide +kernel
theorem dX9_food_152 : decode cX9_food 152 = .ok (.iload 12, 2) := by decide +kernel
theorem dX9_food_154 : decode cX9_food 154 = .ok (.iload 12, 2) := by decide +kernel
theorem dX9_food_156 : decode cX9_food 156 = .ok (.ifCond .ge 7, 3) := by decide +kernel
theorem dX9_food_159 : decode cX9_food 159 = .ok (.iconst 0, 1) := by decide +kernel
theorem dX9_food_160 : decode cX9_food 160 = .ok (.goto 4, 3) := by decide +kernel
theorem dX9_food_163 : decode cX9_food 163 = .ok (.iload_n 2, 1) := by decide +kernel
theorem dX9_food_164 : decode cX9_food 164 = .ok (.isub, 1) := by decide +kernel
theorem dX9_food_165 : decode cX9_food 165 = .ok (.istore 12, 2) := by decide +kernel
theorem dX9_food_167 : decode cX9_food 167 = .ok (.iinc 15 1, 3) := by decide +kernel
theorem dX9_food_170 : decode cX9_food 170 = .ok (.goto (-76), 3) := by decide +kernel
theorem dX9_food_173 : decode cX9_food 173 = .ok (.lload 7, 2) := by decide +kernel
theorem dX9_food_175 : decode cX9_food 175 = .ok (.iload 12, 2) := by decide +kernel
theorem dX9_food_177 : decode cX9_food 177 = .ok (.ifCond .ge 7, 3) := by decide +kernel
theorem dX9_food_180 : decode cX9_food 180 = .ok (.lconst 0, 1) := by decide +kernel
theorem dX9_food_181 : decode cX9_food 181 = .ok (.goto 5, 3) := by decide +kernel
theorem dX9_food_184 : decode cX9_food 184 = .ok (.lload 13, 2) := by decide +kernel
theorem dX9_food_186 : decode cX9_food 186 = .ok (.ladd, 1) := by decide +kernel
theorem dX9_food_187 : decode cX9_food 187 = .ok (.lstore 7, 2) := by decide +kernel
theorem dX9_food_189 : decode cX9_food 189 = .ok (.iinc 11 1, 3) := by decide +kernel
theorem dX9_food_192 : decode cX9_food 192 = .ok (.goto (-116), 3) := by decide +kernel
theorem dX9_food_195 : decode cX9_food 195 = .ok (.iconst 0, 1) := by decide +kernel
theorem dX9_food_196 : decode cX9_food 196 = .ok (.istore 11, 2) := by decide +kernel
theorem dX9_food_198 : decode cX9_food 198 = .ok (.iload 11, 2) := by decide +kernel
theorem dX9_food_200 : decode cX9_food 200 = .ok (.iload 5, 2) := by decide +kernel
theorem dX9_food_202 : decode cX9_food 202 = .ok (.if_icmp .ge 17, 3) := by decide +kernel
theorem dX9_food_205 : decode cX9_food 205 = .ok (.lload 9, 2) := by decide +kernel
theorem dX9_food_207 : decode cX9_food 207 = .ok (.ldc2_w 232, 3) := by decide +kernel
theorem dX9_food_210 : decode cX9_food 210 = .ok (.lmul, 1) := by decide +kernel
theorem dX9_food_211 : decode cX9_food 211 = .ok (.lstore 9, 2) := by decide +kernel
theorem dX9_food_213 : decode cX9_food 213 = .ok (.iinc 11 1, 3) := by decide +kernel
theorem dX9_food_216 : decode cX9_food 216 = .ok (.goto (-18), 3) := by decide +kernel
theorem dX9_food_219 : decode cX9_food 219 = .ok (.lload 7, 2) := by decide +kernel
theorem dX9_food_221 : decode cX9_food 221 = .ok (.lload 9, 2) := by decide +kernel
theorem dX9_food_223 : decode cX9_food 223 = .ok (.iload 6, 2) := by decide +kernel
theorem dX9_food_225 : decode cX9_food 225 = .ok (.invokestatic 234, 3) := by decide +kernel
theorem dX9_food_228 : decode cX9_food 228 = .ok (.lreturn, 1) := by decide +kernel
theorem dX9_cut_0 : decode cX9_cut 0 = .ok (.aload_n 0, 1) := by decide +kernel
theorem dX9_cut_1 : decode cX9_cut 1 = .ok (.iload_n 1, 1) := by decide +kernel
theorem dX9_cut_2 : decode cX9_cut 2 = .ok (.invokevirtual 171, 3) := by decide +kernel
theorem dX9_cut_5 : decode cX9_cut 5 = .ok (.ifCond .eq 10, 3) := by decide +kernel
theorem dX9_cut_8 : decode cX9_cut 8 = .ok (.iload_n 2, 1) := by decide +kernel
theorem dX9_cut_9 : decode cX9_cut 9 = .ok (.invokestatic 168, 3) := by decide +kernel
theorem dX9_cut_12 : decode cX9_cut 12 = .ok (.ifCond .ne 7, 3) := by decide +kernel
theorem dX9_cut_15 : decode cX9_cut 15 = .ok (.ldc2_w 73, 3) := by decide +kernel
theorem dX9_cut_18 : decode cX9_cut 18 = .ok (.lreturn, 1) := by decide +kernel
theorem dX9_cut_19 : decode cX9_cut 19 = .ok (.iload_n 3, 1) := by decide +kernel
theorem dX9_cut_20 : decode cX9_cut 20 = .ok (.iconst 0, 1) := by decide +kernel
theorem dX9_cut_21 : decode cX9_cut 21 = .ok (.bipush 40, 2) := by decide +kernel
theorem dX9_cut_23 : decode cX9_cut 23 = .ok (.invokestatic 45, 3) := by decide +kernel
theorem dX9_cut_26 : decode cX9_cut 26 = .ok (.ifCond .eq 24, 3) := by decide +kernel
theorem dX9_cut_29 : decode cX9_cut 29 = .ok (.iload 4, 2) := by decide +kernel
theorem dX9_cut_31 : decode cX9_cut 31 = .ok (.iconst 0, 1) := by decide +kernel
theorem dX9_cut_32 : decode cX9_cut 32 = .ok (.bipush 10, 2) := by decide +kernel
theorem dX9_cut_34 : decode cX9_cut 34 = .ok (.invokestatic 45, 3) := by decide +kernel
theorem dX9_cut_37 : decode cX9_cut 37 = .ok (.ifCond .eq 13, 3) := by decide +kernel
theorem dX9_cut_40 : decode cX9_cut 40 = .ok (.iload 5, 2) := by decide +kernel
theorem dX9_cut_42 : decode cX9_cut 42 = .ok (.iconst 0, 1) := by decide +kernel
theorem dX9_cut_43 : decode cX9_cut 43 = .ok (.iconst 1, 1) := by decide +kernel
theorem dX9_cut_44 : decode cX9_cut 44 = .ok (.invokestatic 45, 3) := by decide +kernel
theorem dX9_cut_47 : decode cX9_cut 47 = .ok (.ifCond .ne 7, 3) := by decide +kernel
theorem dX9_cut_50 : decode cX9_cut 50 = .ok (.ldc2_w 87, 3) := by decide +kernel
theorem dX9_cut_53 : decode cX9_cut 53 = .ok (.lreturn, 1) := by decide +kernel
theorem dX9_cut_54 : decode cX9_cut 54 = .ok (.aload_n 0, 1) := by decide +kernel
theorem dX9_cut_55 : decode cX9_cut 55 = .ok (.getfield 29, 3) := by decide +kernel
theorem dX9_cut_58 : decode cX9_cut 58 = .ok (.bipush 7, 2) := by decide +kernel
theorem dX9_cut_60 : decode cX9_cut 60 = .ok (.iload_n 1, 1) := by decide +kernel
theorem dX9_cut_61 : decode cX9_cut 61 = .ok (.iadd, 1) := by decide +kernel
theorem dX9_cut_62 : decode cX9_cut 62 = .ok (.iaload, 1) := by decide +kernel
theorem dX9_cut_63 : decode cX9_cut 63 = .ok (.istore 6, 2) := by decide +kernel
theorem dX9_cut_65 : decode cX9_cut 65 = .ok (.iload 6, 2) := by decide +kernel
theorem dX9_cut_67 : decode cX9_cut 67 = .ok (.ifCond .ne 7, 3) := by decide +kernel
theorem dX9_cut_70 : decode cX9_cut 70 = .ok (.ldc2_w 83, 3) := by decide +kernel
theorem dX9_cut_73 : decode cX9_cut 73 = .ok (.lreturn, 1) := by decide +kernel
theorem dX9_cut_74 : decode cX9_cut 74 = .ok (.lconst 0, 1) := by decide +kernel
theorem dX9_cut_75 : decode cX9_cut 75 = .ok (.lstore 7, 2) := by decide +kernel
theorem dX9_cut_77 : decode cX9_cut 77 = .ok (.lconst 1, 1) := by decide +kernel
theorem dX9_cut_78 : decode cX9_cut 78 = .ok (.lstore 9, 2) := by decide +kernel
theorem dX9_cut_80 : decode cX9_cut 80 = .ok (.iconst 0, 1) := by decide +kernel
theorem dX9_cut_81 : decode cX9_cut 81 = .ok (.istore 11, 2) := by decide +kernel
theorem dX9_cut_83 : decode cX9_cut 83 = .ok (.iload 11, 2) := by decide +kernel
theorem dX9_cut_85 : decode cX9_cut 85 = .ok (.iconst 1, 1) := by decide +kernel
theorem dX9_cut_86 : decode cX9_cut 86 = .ok (.bipush 12, 2) := by decide +kernel
theorem dX9_cut_88 : decode cX9_cut 88 = .ok (.iload_n 2, 1) := by decide +kernel
theorem dX9_cut_89 : decode cX9_cut 89 = .ok (.isub, 1) := by decide +kernel
theorem dX9_cut_90 : decode cX9_cut 90 = .ok (.ishl, 1) := by decide +kernel
theorem dX9_cut_91 : decode cX9_cut 91 = .ok (.if_icmp .ge 119, 3) := by decide +kernel
theorem dX9_cut_94 : decode cX9_cut 94 = .ok (.aload_n 0, 1) := by decide +kernel
theorem dX9_cut_95 : decode cX9_cut 95 = .ok (.iload_n 1, 1) := by decide +kernel
theorem dX9_cut_96 : decode cX9_cut 96 = .ok (.iload 6, 2) := by decide +kernel
theorem dX9_cut_98 : decode cX9_cut 98 = .ok (.iload_n 2, 1) := by decide +kernel
theorem dX9_cut_99 : decode cX9_cut 99 = .ok (.invokevirtual 174, 3) := by decide +kernel
theorem dX9_cut_102 : decode cX9_cut 102 = .ok (.istore 12, 2) := by decide +kernel
theorem dX9_cut_104 : decode cX9_cut 104 = .ok (.lconst 1, 1) := by decide +kernel
theorem dX9_cut_105 : decode cX9_cut 105 = .ok (.lstore 13, 2) := by decide +kernel
theorem dX9_cut_107 : decode cX9_cut 107 = .ok (.iload_n 2, 1) := by decide +kernel
theorem dX9_cut_108 : decode cX9_cut 108 = .ok (.istore 15, 2) := by decide +kernel
theorem dX9_cut_110 : decode cX9_cut 110 = .ok (.iload 15, 2) := by decide +kernel
theorem dX9_cut_112 : decode cX9_cut 112 = .ok (.bipush 12, 2) := by decide +kernel
theorem dX9_cut_114 : decode cX9_cut 114 = .ok (.if_icmp .ge 73, 3) := by decide +kernel
theorem dX9_cut_117 : decode cX9_cut 117 = .ok (.iload 11, 2) := by decide +kernel
theorem dX9_cut_119 : decode cX9_cut 119 = .ok (.iload 15, 2) := by decide +kernel
theorem dX9_cut_121 : decode cX9_cut 121 = .ok (.iload_n 2, 1) := by decide +kernel
theorem dX9_cut_122 : decode cX9_cut 122 = .ok (.isub, 1) := by decide +kernel
theorem dX9_cut_123 : decode cX9_cut 123 = .ok (.invokestatic 52, 3) := by decide +kernel
theorem dX9_cut_126 : decode cX9_cut 126 = .ok (.istore 16, 2) := by decide +kernel
theorem dX9_cut_128 : decode cX9_cut 128 = .ok (.lload 13, 2) := by decide +kernel
theorem dX9_cut_130 : decode cX9_cut 130 = .ok (.iload 16, 2) := by decide +kernel
theorem dX9_cut_132 : decode cX9_cut 132 = .ok (.ifCond .eq 9, 3) := by decide +kernel
theorem dX9_cut_135 : decode cX9_cut 135 = .ok (.iload 4, 2) := by decide +kernel
theorem dX9_cut_137 : decode cX9_cut 137 = .ok (.i2l, 1) := by decide +kernel
theorem dX9_cut_138 : decode cX9_cut 138 = .ok (.goto 9, 3) := by decide +kernel
theorem dX9_cut_141 : decode cX9_cut 141 = .ok (.bipush 10, 2) := by decide +kernel
theorem dX9_cut_143 : decode cX9_cut 143 = .ok (.iload 4, 2) := by decide +kernel
theorem dX9_cut_145 : decode cX9_cut 145 = .ok (.isub, 1) := by decide +kernel
theorem dX9_cut_146 : decode cX9_cut 146 = .ok (.i2l, 1) := by decide +kernel
theorem dX9_cut_147 : decode cX9_cut 147 = .ok (.lmul, 1) := by decide +kernel
theorem dX9_cut_148 : decode cX9_cut 148 = .ok (.lstore 13, 2) := by decide +kernel
theorem dX9_cut_150 : decode cX9_cut 150 = .ok (.iload 12, 2) := by decide +kernel
theorem dX9_cut_152 : decode cX9_cut 152 = .ok (.iload 16, 2) := by decide +kernel
theorem dX9_cut_154 : decode cX9_cut 154 = .ok (.ifCond .eq 23, 3) := by decide +kernel
theorem dX9_cut_157 : decode cX9_cut 157 = .ok (.aload_n 0, 1) := by decide +kernel
theorem dX9_cut_158 : decode cX9_cut 158 = .ok (.getfield 7, 3) := by decide +kernel
theorem dX9_cut_161 : decode cX9_cut 161 = .ok (.bipush 24, 2) := by decide +kernel
theorem dX9_cut_163 : decode cX9_cut 163 = .ok (.iload 6, 2) := by decide +kernel
theorem dX9_cut_165 : decode cX9_cut 165 = .ok (.imul, 1) := by decide +kernel
theorem dX9_cut_166 : decode cX9_cut 166 = .ok (.iconst 2, 1) := by decide +kernel
theorem dX9_cut_167 : decode cX9_cut 167 = .ok (.iload 15, 2) := by decide +kernel
theorem dX9_cut_169 : decode cX9_cut 169 = .ok (.imul, 1) := by decide +kernel
theorem dX9_cut_170 : decode cX9_cut 170 = .ok (.iadd, 1) := by decide +kernel
theorem dX9_cut_171 : decode cX9_cut 171 = .ok (.iconst 1, 1) := by decide +kernel
theorem dX9_cut_172 : decode cX9_cut 172 = .ok (.iadd, 1) := by decide +kernel
theorem dX9_cut_173 : decode cX9_cut 173 = .ok (.iaload, 1) := by decide +kernel
theorem dX9_cut_174 : decode cX9_cut 174 = .ok (.goto 4, 3) := by decide +kernel
theorem dX9_cut_177 : decode cX9_cut 177 = .ok (.iconst 0, 1) := by decide +kernel
theorem dX9_cut_178 : decode cX9_cut 178 = .ok (.iadd, 1) := by decide +kernel
theorem dX9_cut_179 : decode cX9_cut 179 = .ok (.istore 12, 2) := by decide +kernel
theorem dX9_cut_181 : decode cX9_cut 181 = .ok (.iinc 15 1, 3) := by decide +kernel
theorem dX9_cut_184 : decode cX9_cut 184 = .ok (.goto (-74), 3) := by decide +kernel
theorem dX9_cut_187 : decode cX9_cut 187 = .ok (.lload 7, 2) := by decide +kernel
theorem dX9_cut_189 : decode cX9_cut 189 = .ok (.iload 12, 2) := by decide +kernel
theorem dX9_cut_191 : decode cX9_cut 191 = .ok (.iload_n 3, 1) := by decide +kernel
theorem dX9_cut_192 : decode cX9_cut 192 = .ok (.if_icmp .lt 8, 3) := by decide +kernel
theorem dX9_cut_195 : decode cX9_cut 195 = .ok (.lload 13, 2) := by decide +kernel
theorem dX9_cut_197 : decode cX9_cut 197 = .ok (.goto 4, 3) := by decide +kernel
theorem dX9_cut_200 : decode cX9_cut 200 = .ok (.lconst 0, 1) := by decide +kernel
theorem dX9_cut_201 : decode cX9_cut 201 = .ok (.ladd, 1) := by decide +kernel
theorem dX9_cut_202 : decode cX9_cut 202 = .ok (.lstore 7, 2) := by decide +kernel
theorem dX9_cut_204 : decode cX9_cut 204 = .ok (.iinc 11 1, 3) := by decide +kernel
theorem dX9_cut_207 : decode cX9_cut 207 = .ok (.goto (-124), 3) := by decide +kernel
theorem dX9_cut_210 : decode cX9_cut 210 = .ok (.iload_n 2, 1) := by decide +kernel
theorem dX9_cut_211 : decode cX9_cut 211 = .ok (.istore 11, 2) := by decide +kernel
theorem dX9_cut_213 : decode cX9_cut 213 = .ok (.iload 11, 2) := by decide +kernel
theorem dX9_cut_215 : decode cX9_cut 215 = .ok (.bipush 12, 2) := by decide +kernel
theorem dX9_cut_217 : decode cX9_cut 217 = .ok (.if_icmp .ge 17, 3) := by decide +kernel
theorem dX9_cut_220 : decode cX9_cut 220 = .ok (.lload 9, 2) := by decide +kernel
theorem dX9_cut_222 : decode cX9_cut 222 = .ok (.ldc2_w 232, 3) := by decide +kernel
theorem dX9_cut_225 : decode cX9_cut 225 = .ok (.lmul, 1) := by decide +kernel
theorem dX9_cut_226 : decode cX9_cut 226 = .ok (.lstore 9, 2) := by decide +kernel
theorem dX9_cut_228 : decode cX9_cut 228 = .ok (.iinc 11 1, 3) := by decide +kernel
theorem dX9_cut_231 : decode cX9_cut 231 = .ok (.goto (-18), 3) := by decide +kernel
theorem dX9_cut_234 : decode cX9_cut 234 = .ok (.lload 7, 2) := by decide +kernel
theorem dX9_cut_236 : decode cX9_cut 236 = .ok (.lload 9, 2) := by decide +kernel
theorem dX9_cut_238 : decode cX9_cut 238 = .ok (.iload 5, 2) := by decide +kernel
theorem dX9_cut_240 : decode cX9_cut 240 = .ok (.invokestatic 234, 3) := by decide +kernel
theorem dX9_cut_243 : decode cX9_cut 243 = .ok (.lreturn, 1) := by decide +kernel
theorem dX9_share_0 : decode cX9_share 0 = .ok (.aload_n 0, 1) := by decide +kernel
theorem dX9_share_1 : decode cX9_share 1 = .ok (.iload_n 2, 1) := by decide +kernel
theorem dX9_share_2 : decode cX9_share 2 = .ok (.invokevirtual 171, 3) := by decide +kernel
theorem dX9_share_5 : decode cX9_share 5 = .ok (.ifCond .ne 6, 3) := by decide +kernel
theorem dX9_share_8 : decode cX9_share 8 = .ok (.bipush (-2), 2) := by decide +kernel
theorem dX9_share_10 : decode cX9_share 10 = .ok (.ireturn, 1) := by decide +kernel
theorem dX9_share_11 : decode cX9_share 11 = .ok (.iload_n 1, 1) := by decide +kernel
theorem dX9_share_12 : decode cX9_share 12 = .ok (.iconst 0, 1) := by decide +kernel
theorem dX9_share_13 : decode cX9_share 13 = .ok (.sipush 999, 3) := by decide +kernel
theorem dX9_share_16 : decode cX9_share 16 = .ok (.invokestatic 45, 3) := by decide +kernel
theorem dX9_share_19 : decode cX9_share 19 = .ok (.ifCond .ne 6, 3) := by decide +kernel
theorem dX9_share_22 : decode cX9_share 22 = .ok (.bipush (-3), 2) := by decide +kernel
theorem dX9_share_24 : decode cX9_share 24 = .ok (.ireturn, 1) := by decide +kernel
theorem dX9_share_25 : decode cX9_share 25 = .ok (.iconst 0, 1) := by decide +kernel
theorem dX9_share_26 : decode cX9_share 26 = .ok (.istore_n 3, 1) := by decide +kernel
theorem dX9_share_27 : decode cX9_share 27 = .ok (.iconst 0, 1) := by decide +kernel
theorem dX9_share_28 : decode cX9_share 28 = .ok (.istore 4, 2) := by decide +kernel
theorem dX9_share_30 : decode cX9_share 30 = .ok (.iconst 0, 1) := by decide +kernel
theorem dX9_share_31 : decode cX9_share 31 = .ok (.istore 5, 2) := by decide +kernel
theorem dX9_share_33 : decode cX9_share 33 = .ok (.iload 5, 2) := by decide +kernel
theorem dX9_share_35 : decode cX9_share 35 = .ok (.bipush 6, 2) := by decide +kernel
theorem dX9_share_37 : decode cX9_share 37 = .ok (.if_icmp .ge 39, 3) := by decide +kernel
theorem dX9_share_40 : decode cX9_share 40 = .ok (.iload_n 3, 1) := by decide +kernel
theorem dX9_share_41 : decode cX9_share 41 = .ok (.aload_n 0, 1) := by decide +kernel
theorem dX9_share_42 : decode cX9_share 42 = .ok (.getfield 49, 3) := by decide +kernel
theorem dX9_share_45 : decode cX9_share 45 = .ok (.iload 5, 2) := by decide +kernel
theorem dX9_share_47 : decode cX9_share 47 = .ok (.invokestatic 52, 3) := by decide +kernel
theorem dX9_share_50 : decode cX9_share 50 = .ok (.ifCond .eq 17, 3) := by decide +kernel
theorem dX9_share_53 : decode cX9_share 53 = .ok (.aload_n 0, 1) := by decide +kernel
theorem dX9_share_54 : decode cX9_share 54 = .ok (.getfield 13, 3) := by decide +kernel
theorem dX9_share_57 : decode cX9_share 57 = .ok (.iconst 5, 1) := by decide +kernel
theorem dX9_share_58 : decode cX9_share 58 = .ok (.iload 5, 2) := by decide +kernel
theorem dX9_share_60 : decode cX9_share 60 = .ok (.imul, 1) := by decide +kernel
theorem dX9_share_61 : decode cX9_share 61 = .ok (.iconst 2, 1) := by decide +kernel
theorem dX9_share_62 : decode cX9_share 62 = .ok (.iadd, 1) := by decide +kernel
theorem dX9_share_63 : decode cX9_share 63 = .ok (.iaload, 1) := by decide +kernel
theorem dX9_share_64 : decode cX9_share 64 = .ok (.goto 4, 3) := by decide +kernel
theorem dX9_share_67 : decode cX9_share 67 = .ok (.iconst 0, 1) := by decide +kernel
theorem dX9_share_68 : decode cX9_share 68 = .ok (.iadd, 1) := by decide +kernel
theorem dX9_share_69 : decode cX9_share 69 = .ok (.istore_n 3, 1) := by decide +kernel
theorem dX9_share_70 : decode cX9_share 70 = .ok (.iinc 5 1, 3) := by decide +kernel
theorem dX9_share_73 : decode cX9_share 73 = .ok (.goto (-40), 3) := by decide +kernel
theorem dX9_share_76 : decode cX9_share 76 = .ok (.iload_n 1, 1) := by decide +kernel
theorem dX9_share_77 : decode cX9_share 77 = .ok (.aload_n 0, 1) := by decide +kernel
theorem dX9_share_78 : decode cX9_share 78 = .ok (.getfield 13, 3) := by decide +kernel
theorem dX9_share_81 : decode cX9_share 81 = .ok (.iconst 5, 1) := by decide +kernel
theorem dX9_share_82 : decode cX9_share 82 = .ok (.iload_n 2, 1) := by decide +kernel
theorem dX9_share_83 : decode cX9_share 83 = .ok (.imul, 1) := by decide +kernel
theorem dX9_share_84 : decode cX9_share 84 = .ok (.iconst 2, 1) := by decide +kernel
theorem dX9_share_85 : decode cX9_share 85 = .ok (.iadd, 1) := by decide +kernel
theorem dX9_share_86 : decode cX9_share 86 = .ok (.iaload, 1) := by decide +kernel
theorem dX9_share_87 : decode cX9_share 87 = .ok (.imul, 1) := by decide +kernel
theorem dX9_share_88 : decode cX9_share 88 = .ok (.iload_n 3, 1) := by decide +kernel
theorem dX9_share_89 : decode cX9_share 89 = .ok (.idiv, 1) := by decide +kernel
theorem dX9_share_90 : decode cX9_share 90 = .ok (.istore 5, 2) := by decide +kernel
theorem dX9_share_92 : decode cX9_share 92 = .ok (.iload_n 1, 1) := by decide +kernel
theorem dX9_share_93 : decode cX9_share 93 = .ok (.aload_n 0, 1) := by decide +kernel
theorem dX9_share_94 : decode cX9_share 94 = .ok (.getfield 13, 3) := by decide +kernel
theorem dX9_share_97 : decode cX9_share 97 = .ok (.iconst 5, 1) := by decide +kernel
theorem dX9_share_98 : decode cX9_share 98 = .ok (.iload_n 2, 1) := by decide +kernel
theorem dX9_share_99 : decode cX9_share 99 = .ok (.imul, 1) := by decide +kernel
theorem dX9_share_100 : decode cX9_share 100 = .ok (.iconst 2, 1) := by decide +kernel
theorem dX9_share_101 : decode cX9_share 101 = .ok (.iadd, 1) := by decide +kernel
theorem dX9_share_102 : decode cX9_share 102 = .ok (.iaload, 1) := by decide +kernel
theorem dX9_share_103 : decode cX9_share 103 = .ok (.imul, 1) := by decide +kernel
theorem dX9_share_104 : decode cX9_share 104 = .ok (.iload_n 3, 1) := by decide +kernel
theorem dX9_share_105 : decode cX9_share 105 = .ok (.irem, 1) := by decide +kernel
theorem dX9_share_106 : decode cX9_share 106 = .ok (.istore 6, 2) := by decide +kernel
theorem dX9_share_108 : decode cX9_share 108 = .ok (.iconst 0, 1) := by decide +kernel
theorem dX9_share_109 : decode cX9_share 109 = .ok (.istore 7, 2) := by decide +kernel
theorem dX9_share_111 : decode cX9_share 111 = .ok (.iconst 0, 1) := by decide +kernel
theorem dX9_share_112 : decode cX9_share 112 = .ok (.istore 8, 2) := by decide +kernel
theorem dX9_share_114 : decode cX9_share 114 = .ok (.iload 8, 2) := by decide +kernel
theorem dX9_share_116 : decode cX9_share 116 = .ok (.bipush 6, 2) := by decide +kernel
theorem dX9_share_118 : decode cX9_share 118 = .ok (.if_icmp .ge 88, 3) := by decide +kernel
theorem dX9_share_121 : decode cX9_share 121 = .ok (.aload_n 0, 1) := by decide +kernel
theorem dX9_share_122 : decode cX9_share 122 = .ok (.getfield 49, 3) := by decide +kernel
theorem dX9_share_125 : decode cX9_share 125 = .ok (.iload 8, 2) := by decide +kernel
theorem dX9_share_127 : decode cX9_share 127 = .ok (.invokestatic 52, 3) := by decide +kernel
theorem dX9_share_130 : decode cX9_share 130 = .ok (.ifCond .eq 70, 3) := by decide +kernel
theorem dX9_share_133 : decode cX9_share 133 = .ok (.iload_n 1, 1) := by decide +kernel
theorem dX9_share_134 : decode cX9_share 134 = .ok (.aload_n 0, 1) := by decide +kernel
theorem dX9_share_135 : decode cX9_share 135 = .ok (.getfield 13, 3) := by decide +kernel
theorem dX9_share_138 : decode cX9_share 138 = .ok (.iconst 5, 1) := by decide +kernel
theorem dX9_share_139 : decode cX9_share 139 = .ok (.iload 8, 2) := by decide +kernel
theorem dX9_share_141 : decode cX9_share 141 = .ok (.imul, 1) := by decide +kernel
theorem dX9_share_142 : decode cX9_share 142 = .ok (.iconst 2, 1) := by decide +kernel
theorem dX9_share_143 : decode cX9_share 143 = .ok (.iadd, 1) := by decide +kernel
theorem dX9_share_144 : decode cX9_share 144 = .ok (.iaload, 1) := by decide +kernel
theorem dX9_share_145 : decode cX9_share 145 = .ok (.imul, 1) := by decide +kernel
theorem dX9_share_146 : decode cX9_share 146 = .ok (.iload_n 3, 1) := by decide +kernel
theorem dX9_share_147 : decode cX9_share 147 = .ok (.irem, 1) := by decide +kernel
theorem dX9_share_148 : decode cX9_share 148 = .ok (.istore 9, 2) := by decide +kernel
theorem dX9_share_150 : decode cX9_share 150 = .ok (.iload 4, 2) := by decide +kernel
theorem dX9_share_152 : decode cX9_share 152 = .ok (.iload_n 1, 1) := by decide +kernel
theorem dX9_share_153 : decode cX9_share 153 = .ok (.aload_n 0, 1) := by decide +kernel
theorem dX9_share_154 : decode cX9_share 154 = .ok (.getfield 13, 3) := by decide +kernel
theorem dX9_share_157 : decode cX9_share 157 = .ok (.iconst 5, 1) := by decide +kernel
theorem dX9_share_158 : decode cX9_share 158 = .ok (.iload 8, 2) := by decide +kernel
theorem dX9_share_160 : decode cX9_share 160 = .ok (.imul, 1) := by decide +kernel
theorem dX9_share_161 : decode cX9_share 161 = .ok (.iconst 2, 1) := by decide +kernel
theorem dX9_share_162 : decode cX9_share 162 = .ok (.iadd, 1) := by decide +kernel
theorem dX9_share_163 : decode cX9_share 163 = .ok (.iaload, 1) := by decide +kernel
theorem dX9_share_164 : decode cX9_share 164 = .ok (.imul, 1) := by decide +kernel
theorem dX9_share_165 : decode cX9_share 165 = .ok (.iload_n 3, 1) := by decide +kernel
theorem dX9_share_166 : decode cX9_share 166 = .ok (.idiv, 1) := by decide +kernel
theorem dX9_share_167 : decode cX9_share 167 = .ok (.iadd, 1) := by decide +kernel
theorem dX9_share_168 : decode cX9_share 168 = .ok (.istore 4, 2) := by decide +kernel
theorem dX9_share_170 : decode cX9_share 170 = .ok (.iload 7, 2) := by decide +kernel
theorem dX9_share_172 : decode cX9_share 172 = .ok (.iload 9, 2) := by decide +kernel
theorem dX9_share_174 : decode cX9_share 174 = .ok (.iload 6, 2) := by decide +kernel
theorem dX9_share_176 : decode cX9_share 176 = .ok (.if_icmp .gt 16, 3) := by decide +kernel
theorem dX9_share_179 : decode cX9_share 179 = .ok (.iload 9, 2) := by decide +kernel
theorem dX9_share_181 : decode cX9_share 181 = .ok (.iload 6, 2) := by decide +kernel
theorem dX9_share_183 : decode cX9_share 183 = .ok (.if_icmp .ne 13, 3) := by decide +kernel
theorem dX9_share_186 : decode cX9_share 186 = .ok (.iload 8, 2) := by decide +kernel
theorem dX9_share_188 : decode cX9_share 188 = .ok (.iload_n 2, 1) := by decide +kernel
theorem dX9_share_189 : decode cX9_share 189 = .ok (.if_icmp .ge 7, 3) := by decide +kernel
theorem dX9_share_192 : decode cX9_share 192 = .ok (.iconst 1, 1) := by decide +kernel
theorem dX9_share_193 : decode cX9_share 193 = .ok (.goto 4, 3) := by decide +kernel
theorem dX9_share_196 : decode cX9_share 196 = .ok (.iconst 0, 1) := by decide +kernel
theorem dX9_share_197 : decode cX9_share 197 = .ok (.iadd, 1) := by decide +kernel
theorem dX9_share_198 : decode cX9_share 198 = .ok (.istore 7, 2) := by decide +kernel
theorem dX9_share_200 : decode cX9_share 200 = .ok (.iinc 8 1, 3) := by decide +kernel
theorem dX9_share_203 : decode cX9_share 203 = .ok (.goto (-89), 3) := by decide +kernel
theorem dX9_share_206 : decode cX9_share 206 = .ok (.iload 7, 2) := by decide +kernel
theorem dX9_share_208 : decode cX9_share 208 = .ok (.iload_n 1, 1) := by decide +kernel
theorem dX9_share_209 : decode cX9_share 209 = .ok (.iload 4, 2) := by decide +kernel
theorem dX9_share_211 : decode cX9_share 211 = .ok (.isub, 1) := by decide +kernel
theorem dX9_share_212 : decode cX9_share 212 = .ok (.if_icmp .ge 10, 3) := by decide +kernel
theorem dX9_share_215 : decode cX9_share 215 = .ok (.iload 5, 2) := by decide +kernel
theorem dX9_share_217 : decode cX9_share 217 = .ok (.iconst 1, 1) := by decide +kernel
theorem dX9_share_218 : decode cX9_share 218 = .ok (.iadd, 1) := by decide +kernel
theorem dX9_share_219 : decode cX9_share 219 = .ok (.goto 5, 3) := by decide +kernel
theorem dX9_share_222 : decode cX9_share 222 = .ok (.iload 5, 2) := by decide +kernel
theorem dX9_share_224 : decode cX9_share 224 = .ok (.ireturn, 1) := by decide +kernel
theorem dX9_count_0 : decode cX9_count 0 = .ok (.iload_n 1, 1) := by decide +kernel
theorem dX9_count_1 : decode cX9_count 1 = .ok (.tableswitch 122 0 10 #[59, 64, 69, 74, 79, 84, 89, 96, 104, 109, 117], 59) := by decide +kernel
theorem dX9_count_60 : decode cX9_count 60 = .ok (.aload_n 0, 1) := by decide +kernel
theorem dX9_count_61 : decode cX9_count 61 = .ok (.getfield 49, 3) := by decide +kernel
theorem dX9_count_64 : decode cX9_count 64 = .ok (.ireturn, 1) := by decide +kernel
theorem dX9_count_65 : decode cX9_count 65 = .ok (.aload_n 0, 1) := by decide +kernel
theorem dX9_count_66 : decode cX9_count 66 = .ok (.getfield 149, 3) := by decide +kernel
theorem dX9_count_69 : decode cX9_count 69 = .ok (.ireturn, 1) := by decide +kernel
theorem dX9_count_70 : decode cX9_count 70 = .ok (.aload_n 0, 1) := by decide +kernel
theorem dX9_count_71 : decode cX9_count 71 = .ok (.getfield 152, 3) := by decide +kernel
theorem dX9_count_74 : decode cX9_count 74 = .ok (.ireturn, 1) := by decide +kernel
theorem dX9_count_75 : decode cX9_count 75 = .ok (.aload_n 0, 1) := by decide +kernel
theorem dX9_count_76 : decode cX9_count 76 = .ok (.getfield 19, 3) := by decide +kernel
theorem dX9_count_79 : decode cX9_count 79 = .ok (.ireturn, 1) := by decide +kernel
theorem dX9_count_80 : decode cX9_count 80 = .ok (.aload_n 0, 1) := by decide +kernel
theorem dX9_count_81 : decode cX9_count 81 = .ok (.getfield 143, 3) := by decide +kernel
theorem dX9_count_84 : decode cX9_count 84 = .ok (.ireturn, 1) := by decide +kernel
theorem dX9_count_85 : decode cX9_count 85 = .ok (.aload_n 0, 1) := by decide +kernel
theorem dX9_count_86 : decode cX9_count 86 = .ok (.getfield 146, 3) := by decide +kernel
theorem dX9_count_89 : decode cX9_count 89 = .ok (.ireturn, 1) := by decide +kernel
theorem dX9_count_90 : decode cX9_count 90 = .ok (.aload_n 0, 1) := by decide +kernel
theorem dX9_count_91 : decode cX9_count 91 = .ok (.getfield 29, 3) := by decide +kernel
theorem dX9_count_94 : decode cX9_count 94 = .ok (.iconst 0, 1) := by decide +kernel
theorem dX9_count_95 : decode cX9_count 95 = .ok (.iaload, 1) := by decide +kernel
theorem dX9_count_96 : decode cX9_count 96 = .ok (.ireturn, 1) := by decide +kernel
theorem dX9_count_97 : decode cX9_count 97 = .ok (.aload_n 0, 1) := by decide +kernel
theorem dX9_count_98 : decode cX9_count 98 = .ok (.getfield 29, 3) := by decide +kernel
theorem dX9_count_101 : decode cX9_count 101 = .ok (.bipush 44, 2) := by decide +kernel
theorem dX9_count_103 : decode cX9_count 103 = .ok (.iaload, 1) := by decide +kernel
theorem dX9_count_104 : decode cX9_count 104 = .ok (.ireturn, 1) := by decide +kernel
theorem dX9_count_105 : decode cX9_count 105 = .ok (.aload_n 0, 1) := by decide +kernel
theorem dX9_count_106 : decode cX9_count 106 = .ok (.invokevirtual 222, 3) := by decide +kernel
theorem dX9_count_109 : decode cX9_count 109 = .ok (.ireturn, 1) := by decide +kernel
theorem dX9_count_110 : decode cX9_count 110 = .ok (.aload_n 0, 1) := by decide +kernel
theorem dX9_count_111 : decode cX9_count 111 = .ok (.getfield 29, 3) := by decide +kernel
theorem dX9_count_114 : decode cX9_count 114 = .ok (.bipush 43, 2) := by decide +kernel
theorem dX9_count_116 : decode cX9_count 116 = .ok (.iaload, 1) := by decide +kernel
theorem dX9_count_117 : decode cX9_count 117 = .ok (.ireturn, 1) := by decide +kernel
theorem dX9_count_118 : decode cX9_count 118 = .ok (.aload_n 0, 1) := by decide +kernel
theorem dX9_count_119 : decode cX9_count 119 = .ok (.getfield 56, 3) := by decide +kernel
theorem dX9_count_122 : decode cX9_count 122 = .ok (.ireturn, 1) := by decide +kernel
theorem dX9_count_123 : decode cX9_count 123 = .ok (.bipush (-3), 2) := by decide +kernel
theorem dX9_count_125 : decode cX9_count 125 = .ok (.ireturn, 1) := by decide +kernel
