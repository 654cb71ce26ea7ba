theorem dX8_init_0 : decode cX8_init 0 = .ok (.aload_n 0, 1) := by decide +kernel
theorem dX8_init_1 : decode cX8_init 1 = .ok (.invokespecial 3, 3) := by decide +kernel
theorem dX8_init_4 : decode cX8_init 4 = .ok (.aload_n 0, 1) := by decide +kernel
theorem dX8_init_5 : decode cX8_init 5 = .ok (.new 9, 3) := by decide +kernel
theorem dX8_init_8 : decode cX8_init 8 = .ok (.dup, 1) := by decide +kernel
theorem dX8_init_9 : decode cX8_init 9 = .ok (.invokespecial 11, 3) := by decide +kernel
theorem dX8_init_12 : decode cX8_init 12 = .ok (.putfield 12, 3) := by decide +kernel
theorem dX8_init_15 : decode cX8_init 15 = .ok (.aload_n 0, 1) := by decide +kernel
theorem dX8_init_16 : decode cX8_init 16 = .ok (.new 16, 3) := by decide +kernel
theorem dX8_init_19 : decode cX8_init 19 = .ok (.dup, 1) := by decide +kernel
theorem dX8_init_20 : decode cX8_init 20 = .ok (.invokespecial 18, 3) := by decide +kernel
theorem dX8_init_23 : decode cX8_init 23 = .ok (.putfield 19, 3) := by decide +kernel
theorem dX8_init_26 : decode cX8_init 26 = .ok (.aload_n 0, 1) := by decide +kernel
theorem dX8_init_27 : decode cX8_init 27 = .ok (.new 23, 3) := by decide +kernel
theorem dX8_init_30 : decode cX8_init 30 = .ok (.dup, 1) := by decide +kernel
theorem dX8_init_31 : decode cX8_init 31 = .ok (.invokespecial 25, 3) := by decide +kernel
theorem dX8_init_34 : decode cX8_init 34 = .ok (.putfield 26, 3) := by decide +kernel
theorem dX8_init_37 : decode cX8_init 37 = .ok (.aload_n 0, 1) := by decide +kernel
theorem dX8_init_38 : decode cX8_init 38 = .ok (.new 30, 3) := by decide +kernel
theorem dX8_init_41 : decode cX8_init 41 = .ok (.dup, 1) := by decide +kernel
theorem dX8_init_42 : decode cX8_init 42 = .ok (.invokespecial 32, 3) := by decide +kernel
theorem dX8_init_45 : decode cX8_init 45 = .ok (.putfield 33, 3) := by decide +kernel
theorem dX8_init_48 : decode cX8_init 48 = .ok (.aload_n 0, 1) := by decide +kernel
theorem dX8_init_49 : decode cX8_init 49 = .ok (.new 30, 3) := by decide +kernel
theorem dX8_init_52 : decode cX8_init 52 = .ok (.dup, 1) := by decide +kernel
theorem dX8_init_53 : decode cX8_init 53 = .ok (.invokespecial 32, 3) := by decide +kernel
theorem dX8_init_56 : decode cX8_init 56 = .ok (.putfield 37, 3) := by decide +kernel
theorem dX8_init_59 : decode cX8_init 59 = .ok (.aload_n 0, 1) := by decide +kernel
theorem dX8_init_60 : decode cX8_init 60 = .ok (.new 30, 3) := by decide +kernel
theorem dX8_init_63 : decode cX8_init 63 = .ok (.dup, 1) := by decide +kernel
theorem dX8_init_64 : decode cX8_init 64 = .ok (.invokespecial 32, 3) := by decide +kernel
theorem dX8_init_67 : decode cX8_init 67 = .ok (.putfield 40, 3) := by decide +kernel
theorem dX8_init_70 : decode cX8_init 70 = .ok (.aload_n 0, 1) := by decide +kernel
theorem dX8_init_71 : decode cX8_init 71 = .ok (.iconst 2, 1) := by decide +kernel
theorem dX8_init_72 : decode cX8_init 72 = .ok (.anewarray 30, 3) := by decide +kernel
theorem dX8_init_75 : decode cX8_init 75 = .ok (.putfield 43, 3) := by decide +kernel
theorem dX8_init_78 : decode cX8_init 78 = .ok (.aload_n 0, 1) := by decide +kernel
theorem dX8_init_79 : decode cX8_init 79 = .ok (.new 47, 3) := by decide +kernel
theorem dX8_init_82 : decode cX8_init 82 = .ok (.dup, 1) := by decide +kernel
theorem dX8_init_83 : decode cX8_init 83 = .ok (.invokespecial 49, 3) := by decide +kernel
theorem dX8_init_86 : decode cX8_init 86 = .ok (.putfield 50, 3) := by decide +kernel
theorem dX8_init_89 : decode cX8_init 89 = .ok (.aload_n 0, 1) := by decide +kernel
theorem dX8_init_90 : decode cX8_init 90 = .ok (.new 47, 3) := by decide +kernel
theorem dX8_init_93 : decode cX8_init 93 = .ok (.dup, 1) := by decide +kernel
theorem dX8_init_94 : decode cX8_init 94 = .ok (.invokespecial 49, 3) := by decide +kernel
theorem dX8_init_97 : decode cX8_init 97 = .ok (.putfield 54, 3) := by decide +kernel
theorem dX8_init_100 : decode cX8_init 100 = .ok (.aload_n 0, 1) := by decide +kernel
theorem dX8_init_101 : decode cX8_init 101 = .ok (.new 57, 3) := by decide +kernel
theorem dX8_init_104 : decode cX8_init 104 = .ok (.dup, 1) := by decide +kernel
theorem dX8_init_105 : decode cX8_init 105 = .ok (.invokespecial 59, 3) := by decide +kernel
theorem dX8_init_108 : decode cX8_init 108 = .ok (.putfield 60, 3) := by decide +kernel
theorem dX8_init_111 : decode cX8_init 111 = .ok (.iconst 0, 1) := by decide +kernel
theorem dX8_init_112 : decode cX8_init 112 = .ok (.istore_n 1, 1) := by decide +kernel
theorem dX8_init_113 : decode cX8_init 113 = .ok (.iload_n 1, 1) := by decide +kernel
theorem dX8_init_114 : decode cX8_init 114 = .ok (.iconst 2, 1) := by decide +kernel
theorem dX8_init_115 : decode cX8_init 115 = .ok (.if_icmp .ge 22, 3) := by decide +kernel
theorem dX8_init_118 : decode cX8_init 118 = .ok (.aload_n 0, 1) := by decide +kernel
theorem dX8_init_119 : decode cX8_init 119 = .ok (.getfield 43, 3) := by decide +kernel
theorem dX8_init_122 : decode cX8_init 122 = .ok (.iload_n 1, 1) := by decide +kernel
theorem dX8_init_123 : decode cX8_init 123 = .ok (.new 30, 3) := by decide +kernel
theorem dX8_init_126 : decode cX8_init 126 = .ok (.dup, 1) := by decide +kernel
theorem dX8_init_127 : decode cX8_init 127 = .ok (.invokespecial 32, 3) := by decide +kernel
theorem dX8_init_130 : decode cX8_init 130 = .ok (.aastore, 1) := by decide +kernel
theorem dX8_init_131 : decode cX8_init 131 = .ok (.iinc 1 1, 3) := by decide +kernel
theorem dX8_init_134 : decode cX8_init 134 = .ok (.goto (-21), 3) := by decide +kernel
theorem dX8_init_137 : decode cX8_init 137 = .ok (.return_, 1) := by decide +kernel
theorem dX8_write_0 : decode cX8_write 0 = .ok (.iload_n 3, 1) := by decide +kernel
theorem dX8_write_1 : decode cX8_write 1 = .ok (.iconst 1, 1) := by decide +kernel
theorem dX8_write_2 : decode cX8_write 2 = .ok (.if_icmp .lt 9, 3) := by decide +kernel
theorem dX8_write_5 : decode cX8_write 5 = .ok (.iload_n 3, 1) := by decide +kernel
theorem dX8_write_6 : decode cX8_write 6 = .ok (.bipush 8, 2) := by decide +kernel
theorem dX8_write_8 : decode cX8_write 8 = .ok (.if_icmp .le 6, 3) := by decide +kernel
theorem dX8_write_11 : decode cX8_write 11 = .ok (.bipush (-3), 2) := by decide +kernel
theorem dX8_write_13 : decode cX8_write 13 = .ok (.ireturn, 1) := by decide +kernel
theorem dX8_write_14 : decode cX8_write 14 = .ok (.aload_n 0, 1) := by decide +kernel
theorem dX8_write_15 : decode cX8_write 15 = .ok (.getfield 12, 3) := by decide +kernel
theorem dX8_write_18 : decode cX8_write 18 = .ok (.iload_n 3, 1) := by decide +kernel
theorem dX8_write_19 : decode cX8_write 19 = .ok (.invokevirtual 64, 3) := by decide +kernel
theorem dX8_write_22 : decode cX8_write 22 = .ok (.ifCond .ne 6, 3) := by decide +kernel
theorem dX8_write_25 : decode cX8_write 25 = .ok (.bipush (-5), 2) := by decide +kernel
theorem dX8_write_27 : decode cX8_write 27 = .ok (.ireturn, 1) := by decide +kernel
theorem dX8_write_28 : decode cX8_write 28 = .ok (.aload_n 0, 1) := by decide +kernel
theorem dX8_write_29 : decode cX8_write 29 = .ok (.getfield 12, 3) := by decide +kernel
theorem dX8_write_32 : decode cX8_write 32 = .ok (.lload_n 1, 1) := by decide +kernel
theorem dX8_write_33 : decode cX8_write 33 = .ok (.iload_n 3, 1) := by decide +kernel
theorem dX8_write_34 : decode cX8_write 34 = .ok (.invokevirtual 68, 3) := by decide +kernel
theorem dX8_write_37 : decode cX8_write 37 = .ok (.aload_n 0, 1) := by decide +kernel
theorem dX8_write_38 : decode cX8_write 38 = .ok (.getfield 12, 3) := by decide +kernel
theorem dX8_write_41 : decode cX8_write 41 = .ok (.getfield 72, 3) := by decide +kernel
theorem dX8_write_44 : decode cX8_write 44 = .ok (.ireturn, 1) := by decide +kernel
theorem dX8_erase_0 : decode cX8_erase 0 = .ok (.aload_n 0, 1) := by decide +kernel
theorem dX8_erase_1 : decode cX8_erase 1 = .ok (.getfield 12, 3) := by decide +kernel
theorem dX8_erase_4 : decode cX8_erase 4 = .ok (.getfield 72, 3) := by decide +kernel
theorem dX8_erase_7 : decode cX8_erase 7 = .ok (.istore_n 1, 1) := by decide +kernel
theorem dX8_erase_8 : decode cX8_erase 8 = .ok (.aload_n 0, 1) := by decide +kernel
theorem dX8_erase_9 : decode cX8_erase 9 = .ok (.getfield 12, 3) := by decide +kernel
theorem dX8_erase_12 : decode cX8_erase 12 = .ok (.iconst 0, 1) := by decide +kernel
theorem dX8_erase_13 : decode cX8_erase 13 = .ok (.putfield 72, 3) := by decide +kernel
theorem dX8_erase_16 : decode cX8_erase 16 = .ok (.iload_n 1, 1) := by decide +kernel
theorem dX8_erase_17 : decode cX8_erase 17 = .ok (.ireturn, 1) := by decide +kernel
theorem dX8_fault_0 : decode cX8_fault 0 = .ok (.aload_n 0, 1) := by decide +kernel
theorem dX8_fault_1 : decode cX8_fault 1 = .ok (.getfield 12, 3) := by decide +kernel
theorem dX8_fault_4 : decode cX8_fault 4 = .ok (.aconst_null, 1) := by decide +kernel
theorem dX8_fault_5 : decode cX8_fault 5 = .ok (.invokevirtual 76, 3) := by decide +kernel
theorem dX8_fault_8 : decode cX8_fault 8 = .ok (.ireturn, 1) := by decide +kernel
theorem dX8_cliff_0 : decode cX8_cliff 0 = .ok (.aload_n 0, 1) := by decide +kernel
theorem dX8_cliff_1 : decode cX8_cliff 1 = .ok (.getfield 12, 3) := by decide +kernel
theorem dX8_cliff_4 : decode cX8_cliff 4 = .ok (.aconst_null, 1) := by decide +kernel
theorem dX8_cliff_5 : decode cX8_cliff 5 = .ok (.invokevirtual 76, 3) := by decide +kernel
theorem dX8_cliff_8 : decode cX8_cliff 8 = .ok (.iconst (-1), 1) := by decide +kernel
theorem dX8_cliff_9 : decode cX8_cliff 9 = .ok (.if_icmp .eq 6, 3) := by decide +kernel
theorem dX8_cliff_12 : decode cX8_cliff 12 = .ok (.bipush (-4), 2) := by decide +kernel
theorem dX8_cliff_14 : decode cX8_cliff 14 = .ok (.ireturn, 1) := by decide +kernel
theorem dX8_cliff_15 : decode cX8_cliff 15 = .ok (.aload_n 0, 1) := by decide +kernel
theorem dX8_cliff_16 : decode cX8_cliff 16 = .ok (.getfield 12, 3) := by decide +kernel
theorem dX8_cliff_19 : decode cX8_cliff 19 = .ok (.aload_n 0, 1) := by decide +kernel
theorem dX8_cliff_20 : decode cX8_cliff 20 = .ok (.getfield 19, 3) := by decide +kernel
theorem dX8_cliff_23 : decode cX8_cliff 23 = .ok (.invokevirtual 76, 3) := by decide +kernel
theorem dX8_cliff_26 : decode cX8_cliff 26 = .ok (.pop, 1) := by decide +kernel
theorem dX8_cliff_27 : decode cX8_cliff 27 = .ok (.aload_n 0, 1) := by decide +kernel
theorem dX8_cliff_28 : decode cX8_cliff 28 = .ok (.getfield 12, 3) := by decide +kernel
theorem dX8_cliff_31 : decode cX8_cliff 31 = .ok (.iconst 0, 1) := by decide +kernel
theorem dX8_cliff_32 : decode cX8_cliff 32 = .ok (.putfield 72, 3) := by decide +kernel
theorem dX8_cliff_35 : decode cX8_cliff 35 = .ok (.aload_n 0, 1) := by decide +kernel
theorem dX8_cliff_36 : decode cX8_cliff 36 = .ok (.getfield 26, 3) := by decide +kernel
theorem dX8_cliff_39 : decode cX8_cliff 39 = .ok (.aload_n 0, 1) := by decide +kernel
theorem dX8_cliff_40 : decode cX8_cliff 40 = .ok (.getfield 19, 3) := by decide +kernel
theorem dX8_cliff_43 : decode cX8_cliff 43 = .ok (.invokevirtual 80, 3) := by decide +kernel
theorem dX8_cliff_46 : decode cX8_cliff 46 = .ok (.aload_n 0, 1) := by decide +kernel
theorem dX8_cliff_47 : decode cX8_cliff 47 = .ok (.getfield 37, 3) := by decide +kernel
theorem dX8_cliff_50 : decode cX8_cliff 50 = .ok (.aload_n 0, 1) := by decide +kernel
theorem dX8_cliff_51 : decode cX8_cliff 51 = .ok (.getfield 19, 3) := by decide +kernel
theorem dX8_cliff_54 : decode cX8_cliff 54 = .ok (.invokevirtual 84, 3) := by decide +kernel
theorem dX8_cliff_57 : decode cX8_cliff 57 = .ok (.aload_n 0, 1) := by decide +kernel
theorem dX8_cliff_58 : decode cX8_cliff 58 = .ok (.getfield 33, 3) := by decide +kernel
theorem dX8_cliff_61 : decode cX8_cliff 61 = .ok (.aload_n 0, 1) := by decide +kernel
theorem dX8_cliff_62 : decode cX8_cliff 62 = .ok (.getfield 37, 3) := by decide +kernel
theorem dX8_cliff_65 : decode cX8_cliff 65 = .ok (.invokevirtual 87, 3) := by decide +kernel
theorem dX8_cliff_68 : decode cX8_cliff 68 = .ok (.aload_n 0, 1) := by decide +kernel
theorem dX8_cliff_69 : decode cX8_cliff 69 = .ok (.iconst 0, 1) := by decide +kernel
theorem dX8_cliff_70 : decode cX8_cliff 70 = .ok (.putfield 91, 3) := by decide +kernel
theorem dX8_cliff_73 : decode cX8_cliff 73 = .ok (.aload_n 0, 1) := by decide +kernel
theorem dX8_cliff_74 : decode cX8_cliff 74 = .ok (.getfield 50, 3) := by decide +kernel
theorem dX8_cliff_77 : decode cX8_cliff 77 = .ok (.invokevirtual 94, 3) := by decide +kernel
theorem dX8_cliff_80 : decode cX8_cliff 80 = .ok (.aload_n 0, 1) := by decide +kernel
theorem dX8_cliff_81 : decode cX8_cliff 81 = .ok (.getfield 54, 3) := by decide +kernel
theorem dX8_cliff_84 : decode cX8_cliff 84 = .ok (.invokevirtual 94, 3) := by decide +kernel
theorem dX8_cliff_87 : decode cX8_cliff 87 = .ok (.aload_n 0, 1) := by decide +kernel
theorem dX8_cliff_88 : decode cX8_cliff 88 = .ok (.getfield 12, 3) := by decide +kernel
theorem dX8_cliff_91 : decode cX8_cliff 91 = .ok (.getfield 97, 3) := by decide +kernel
theorem dX8_cliff_94 : decode cX8_cliff 94 = .ok (.ireturn, 1) := by decide +kernel
theorem dX8_wind_0 : decode cX8_wind 0 = .ok (.iload_n 1, 1) := by decide +kernel
theorem dX8_wind_1 : decode cX8_wind 1 = .ok (.invokestatic 100, 3) := by decide +kernel
theorem dX8_wind_4 : decode cX8_wind 4 = .ok (.ifCond .eq 10, 3) := by decide +kernel
theorem dX8_wind_7 : decode cX8_wind 7 = .ok (.iload_n 2, 1) := by decide +kernel
theorem dX8_wind_8 : decode cX8_wind 8 = .ok (.invokestatic 103, 3) := by decide +kernel
theorem dX8_wind_11 : decode cX8_wind 11 = .ok (.ifCond .ne 6, 3) := by decide +kernel
theorem dX8_wind_14 : decode cX8_wind 14 = .ok (.bipush (-2), 2) := by decide +kernel
theorem dX8_wind_16 : decode cX8_wind 16 = .ok (.ireturn, 1) := by decide +kernel
theorem dX8_wind_17 : decode cX8_wind 17 = .ok (.iload_n 3, 1) := by decide +kernel
theorem dX8_wind_18 : decode cX8_wind 18 = .ok (.lookupswitch 54 #[(0, 26), (1, 39)], 26) := by decide +kernel
theorem dX8_wind_44 : decode cX8_wind 44 = .ok (.aload_n 0, 1) := by decide +kernel
theorem dX8_wind_45 : decode cX8_wind 45 = .ok (.getfield 19, 3) := by decide +kernel
theorem dX8_wind_48 : decode cX8_wind 48 = .ok (.getfield 106, 3) := by decide +kernel
theorem dX8_wind_51 : decode cX8_wind 51 = .ok (.iload_n 1, 1) := by decide +kernel
theorem dX8_wind_52 : decode cX8_wind 52 = .ok (.iload_n 2, 1) := by decide +kernel
theorem dX8_wind_53 : decode cX8_wind 53 = .ok (.invokestatic 110, 3) := by decide +kernel
theorem dX8_wind_56 : decode cX8_wind 56 = .ok (.ireturn, 1) := by decide +kernel
theorem dX8_wind_57 : decode cX8_wind 57 = .ok (.aload_n 0, 1) := by decide +kernel
theorem dX8_wind_58 : decode cX8_wind 58 = .ok (.getfield 19, 3) := by decide +kernel
theorem dX8_wind_61 : decode cX8_wind 61 = .ok (.getfield 114, 3) := by decide +kernel
theorem dX8_wind_64 : decode cX8_wind 64 = .ok (.iload_n 1, 1) := by decide +kernel
theorem dX8_wind_65 : decode cX8_wind 65 = .ok (.iload_n 2, 1) := by decide +kernel
theorem dX8_wind_66 : decode cX8_wind 66 = .ok (.invokestatic 110, 3) := by decide +kernel
theorem dX8_wind_69 : decode cX8_wind 69 = .ok (.iconst 3, 1) := by decide +kernel
theorem dX8_wind_70 : decode cX8_wind 70 = .ok (.iadd, 1) := by decide +kernel
theorem dX8_wind_71 : decode cX8_wind 71 = .ok (.ireturn, 1) := by decide +kernel
theorem dX8_wind_72 : decode cX8_wind 72 = .ok (.bipush (-3), 2) := by decide +kernel
theorem dX8_wind_74 : decode cX8_wind 74 = .ok (.ireturn, 1) := by decide +kernel
theorem dX8_shoal_0 : decode cX8_shoal 0 = .ok (.aload_n 0, 1) := by decide +kernel
theorem dX8_shoal_1 : decode cX8_shoal 1 = .ok (.getfield 19, 3) := by decide +kernel
theorem dX8_shoal_4 : decode cX8_shoal 4 = .ok (.iload_n 1, 1) := by decide +kernel
theorem dX8_shoal_5 : decode cX8_shoal 5 = .ok (.invokevirtual 117, 3) := by decide +kernel
theorem dX8_shoal_8 : decode cX8_shoal 8 = .ok (.ifCond .ne 6, 3) := by decide +kernel
theorem dX8_shoal_11 : decode cX8_shoal 11 = .ok (.bipush (-2), 2) := by decide +kernel
theorem dX8_shoal_13 : decode cX8_shoal 13 = .ok (.ireturn, 1) := by decide +kernel
theorem dX8_shoal_14 : decode cX8_shoal 14 = .ok (.iload_n 2, 1) := by decide +kernel
theorem dX8_shoal_15 : decode cX8_shoal 15 = .ok (.tableswitch 73 0 2 #[25, 44, 63], 25) := by decide +kernel
theorem dX8_shoal_40 : decode cX8_shoal 40 = .ok (.aload_n 0, 1) := by decide +kernel
theorem dX8_shoal_41 : decode cX8_shoal 41 = .ok (.getfield 19, 3) := by decide +kernel
theorem dX8_shoal_44 : decode cX8_shoal 44 = .ok (.iload_n 1, 1) := by decide +kernel
theorem dX8_shoal_45 : decode cX8_shoal 45 = .ok (.aload_n 0, 1) := by decide +kernel
theorem dX8_shoal_46 : decode cX8_shoal 46 = .ok (.getfield 33, 3) := by decide +kernel
theorem dX8_shoal_49 : decode cX8_shoal 49 = .ok (.getfield 120, 3) := by decide +kernel
theorem dX8_shoal_52 : decode cX8_shoal 52 = .ok (.invokevirtual 123, 3) := by decide +kernel
theorem dX8_shoal_55 : decode cX8_shoal 55 = .ok (.bipush 100, 2) := by decide +kernel
theorem dX8_shoal_57 : decode cX8_shoal 57 = .ok (.iadd, 1) := by decide +kernel
theorem dX8_shoal_58 : decode cX8_shoal 58 = .ok (.ireturn, 1) := by decide +kernel
theorem dX8_shoal_59 : decode cX8_shoal 59 = .ok (.aload_n 0, 1) := by decide +kernel
theorem dX8_shoal_60 : decode cX8_shoal 60 = .ok (.getfield 19, 3) := by decide +kernel
theorem dX8_shoal_63 : decode cX8_shoal 63 = .ok (.iload_n 1, 1) := by decide +kernel
theorem dX8_shoal_64 : decode cX8_shoal 64 = .ok (.aload_n 0, 1) := by decide +kernel
theorem dX8_shoal_65 : decode cX8_shoal 65 = .ok (.getfield 33, 3) := by decide +kernel
theorem dX8_shoal_68 : decode cX8_shoal 68 = .ok (.getfield 120, 3) := by decide +kernel
theorem dX8_shoal_71 : decode cX8_shoal 71 = .ok (.invokevirtual 127, 3) := by decide +kernel
theorem dX8_shoal_74 : decode cX8_shoal 74 = .ok (.bipush 100, 2) := by decide +kernel
theorem dX8_shoal_76 : decode cX8_shoal 76 = .ok (.iadd, 1) := by decide +kernel
theorem dX8_shoal_77 : decode cX8_shoal 77 = .ok (.ireturn, 1) := by decide +kernel
theorem dX8_shoal_78 : decode cX8_shoal 78 = .ok (.aload_n 0, 1) := by decide +kernel
theorem dX8_shoal_79 : decode cX8_shoal 79 = .ok (.getfield 33, 3) := by decide +kernel
theorem dX8_shoal_82 : decode cX8_shoal 82 = .ok (.getfield 130, 3) := by decide +kernel
theorem dX8_shoal_85 : decode cX8_shoal 85 = .ok (.iload_n 1, 1) := by decide +kernel
theorem dX8_shoal_86 : decode cX8_shoal 86 = .ok (.iaload, 1) := by decide +kernel
theorem dX8_shoal_87 : decode cX8_shoal 87 = .ok (.ireturn, 1) := by decide +kernel
theorem dX8_shoal_88 : decode cX8_shoal 88 = .ok (.bipush (-3), 2) := by decide +kernel
theorem dX8_shoal_90 : decode cX8_shoal 90 = .ok (.ireturn, 1) := by decide +kernel
theorem dX8_ask_0 : decode cX8_ask 0 = .ok (.aload_n 0, 1) := by decide +kernel
theorem dX8_ask_1 : decode cX8_ask 1 = .ok (.getfield 19, 3) := by decide +kernel
theorem dX8_ask_4 : decode cX8_ask 4 = .ok (.iload_n 1, 1) := by decide +kernel
theorem dX8_ask_5 : decode cX8_ask 5 = .ok (.invokevirtual 133, 3) := by decide +kernel
theorem dX8_ask_8 : decode cX8_ask 8 = .ok (.ifCond .ne 6, 3) := by decide +kernel
theorem dX8_ask_11 : decode cX8_ask 11 = .ok (.bipush (-2), 2) := by decide +kernel
theorem dX8_ask_13 : decode cX8_ask 13 = .ok (.ireturn, 1) := by decide +kernel
theorem dX8_ask_14 : decode cX8_ask 14 = .ok (.iload_n 2, 1) := by decide +kernel
theorem dX8_ask_15 : decode cX8_ask 15 = .ok (.ifCond .lt 8, 3) := by decide +kernel
theorem dX8_ask_18 : decode cX8_ask 18 = .ok (.iload_n 2, 1) := by decide +kernel
theorem dX8_ask_19 : decode cX8_ask 19 = .ok (.iconst 4, 1) := by decide +kernel
theorem dX8_ask_20 : decode cX8_ask 20 = .ok (.if_icmp .lt 6, 3) := by decide +kernel
theorem dX8_ask_23 : decode cX8_ask 23 = .ok (.bipush (-3), 2) := by decide +kernel
theorem dX8_ask_25 : decode cX8_ask 25 = .ok (.ireturn, 1) := by decide +kernel
theorem dX8_ask_26 : decode cX8_ask 26 = .ok (.aload_n 0, 1) := by decide +kernel
theorem dX8_ask_27 : decode cX8_ask 27 = .ok (.getfield 33, 3) := by decide +kernel
theorem dX8_ask_30 : decode cX8_ask 30 = .ok (.getfield 136, 3) := by decide +kernel
theorem dX8_ask_33 : decode cX8_ask 33 = .ok (.iload_n 1, 1) := by decide +kernel
theorem dX8_ask_34 : decode cX8_ask 34 = .ok (.iaload, 1) := by decide +kernel
theorem dX8_ask_35 : decode cX8_ask 35 = .ok (.istore_n 3, 1) := by decide +kernel
theorem dX8_ask_36 : decode cX8_ask 36 = .ok (.aload_n 0, 1) := by decide +kernel
theorem dX8_ask_37 : decode cX8_ask 37 = .ok (.getfield 33, 3) := by decide +kernel
theorem dX8_ask_40 : decode cX8_ask 40 = .ok (.getfield 136, 3) := by decide +kernel
theorem dX8_ask_43 : decode cX8_ask 43 = .ok (.iload_n 1, 1) := by decide +kernel
theorem dX8_ask_44 : decode cX8_ask 44 = .ok (.iload_n 2, 1) := by decide +kernel
theorem dX8_ask_45 : decode cX8_ask 45 = .ok (.iastore, 1) := by decide +kernel
theorem dX8_ask_46 : decode cX8_ask 46 = .ok (.iload_n 3, 1) := by decide +kernel
theorem dX8_ask_47 : decode cX8_ask 47 = .ok (.ireturn, 1) := by decide +kernel
theorem dX8_go_0 : decode cX8_go 0 = .ok (.iload_n 1, 1) := by decide +kernel
theorem dX8_go_1 : decode cX8_go 1 = .ok (.iconst 1, 1) := by decide +kernel
theorem dX8_go_2 : decode cX8_go 2 = .ok (.if_icmp .lt 9, 3) := by decide +kernel
theorem dX8_go_5 : decode cX8_go 5 = .ok (.iload_n 1, 1) := by decide +kernel
theorem dX8_go_6 : decode cX8_go 6 = .ok (.bipush 12, 2) := by decide +kernel
theorem dX8_go_8 : decode cX8_go 8 = .ok (.if_icmp .le 6, 3) := by decide +kernel
theorem dX8_go_11 : decode cX8_go 11 = .ok (.bipush (-3), 2) := by decide +kernel
theorem dX8_go_13 : decode cX8_go 13 = .ok (.ireturn, 1) := by decide +kernel
theorem dX8_go_14 : decode cX8_go 14 = .ok (.aload_n 0, 1) := by decide +kernel
theorem dX8_go_15 : decode cX8_go 15 = .ok (.getfield 33, 3) := by decide +kernel
theorem dX8_go_18 : decode cX8_go 18 = .ok (.iload_n 1, 1) := by decide +kernel
theorem dX8_go_19 : decode cX8_go 19 = .ok (.aload_n 0, 1) := by decide +kernel
theorem dX8_go_20 : decode cX8_go 20 = .ok (.getfield 19, 3) := by decide +kernel
theorem dX8_go_23 : decode cX8_go 23 = .ok (.aload_n 0, 1) := by decide +kernel
theorem dX8_go_24 : decode cX8_go 24 = .ok (.getfield 26, 3) := by decide +kernel
theorem dX8_go_27 : decode cX8_go 27 = .ok (.aload_n 0, 1) := by decide +kernel
theorem dX8_go_28 : decode cX8_go 28 = .ok (.getfield 19, 3) := by decide +kernel
theorem dX8_go_31 : decode cX8_go 31 = .ok (.getfield 139, 3) := by decide +kernel
theorem dX8_go_34 : decode cX8_go 34 = .ok (.invokevirtual 142, 3) := by decide +kernel
theorem dX8_go_37 : decode cX8_go 37 = .ok (.aload_n 0, 1) := by decide +kernel
theorem dX8_go_38 : decode cX8_go 38 = .ok (.getfield 50, 3) := by decide +kernel
theorem dX8_go_41 : decode cX8_go 41 = .ok (.invokevirtual 94, 3) := by decide +kernel
theorem dX8_go_44 : decode cX8_go 44 = .ok (.aload_n 0, 1) := by decide +kernel
theorem dX8_go_45 : decode cX8_go 45 = .ok (.getfield 33, 3) := by decide +kernel
theorem dX8_go_48 : decode cX8_go 48 = .ok (.getfield 120, 3) := by decide +kernel
theorem dX8_go_51 : decode cX8_go 51 = .ok (.ireturn, 1) := by decide +kernel
theorem dX8_kite_0 : decode cX8_kite 0 = .ok (.aload_n 0, 1) := by decide +kernel
theorem dX8_kite_1 : decode cX8_kite 1 = .ok (.getfield 19, 3) := by decide +kernel
theorem dX8_kite_4 : decode cX8_kite 4 = .ok (.iload_n 1, 1) := by decide +kernel
theorem dX8_kite_5 : decode cX8_kite 5 = .ok (.invokevirtual 133, 3) := by decide +kernel
theorem dX8_kite_8 : decode cX8_kite 8 = .ok (.ifCond .ne 6, 3) := by decide +kernel
theorem dX8_kite_11 : decode cX8_kite 11 = .ok (.bipush (-2), 2) := by decide +kernel
theorem dX8_kite_13 : decode cX8_kite 13 = .ok (.ireturn, 1) := by decide +kernel
theorem dX8_kite_14 : decode cX8_kite 14 = .ok (.iload_n 2, 1) := by decide +kernel
theorem dX8_kite_15 : decode cX8_kite 15 = .ok (.tableswitch 93 0 4 #[33, 53, 63, 73, 83], 33) := by decide +kernel
theorem dX8_kite_48 : decode cX8_kite 48 = .ok (.aload_n 0, 1) := by decide +kernel
theorem dX8_kite_49 : decode cX8_kite 49 = .ok (.getfield 33, 3) := by decide +kernel
theorem dX8_kite_52 : decode cX8_kite 52 = .ok (.getfield 146, 3) := by decide +kernel
theorem dX8_kite_55 : decode cX8_kite 55 = .ok (.iload_n 1, 1) := by decide +kernel
theorem dX8_kite_56 : decode cX8_kite 56 = .ok (.invokestatic 149, 3) := by decide +kernel
theorem dX8_kite_59 : decode cX8_kite 59 = .ok (.ifCond .eq 7, 3) := by decide +kernel
theorem dX8_kite_62 : decode cX8_kite 62 = .ok (.iconst 1, 1) := by decide +kernel
theorem dX8_kite_63 : decode cX8_kite 63 = .ok (.goto 4, 3) := by decide +kernel
theorem dX8_kite_66 : decode cX8_kite 66 = .ok (.iconst 0, 1) := by decide +kernel
theorem dX8_kite_67 : decode cX8_kite 67 = .ok (.ireturn, 1) := by decide +kernel
theorem dX8_kite_68 : decode cX8_kite 68 = .ok (.aload_n 0, 1) := by decide +kernel
theorem dX8_kite_69 : decode cX8_kite 69 = .ok (.getfield 33, 3) := by decide +kernel
theorem dX8_kite_72 : decode cX8_kite 72 = .ok (.getfield 136, 3) := by decide +kernel
theorem dX8_kite_75 : decode cX8_kite 75 = .ok (.iload_n 1, 1) := by decide +kernel
theorem dX8_kite_76 : decode cX8_kite 76 = .ok (.iaload, 1) := by decide +kernel
theorem dX8_kite_77 : decode cX8_kite 77 = .ok (.ireturn, 1) := by decide +kernel
theorem dX8_kite_78 : decode cX8_kite 78 = .ok (.aload_n 0, 1) := by decide +kernel
theorem dX8_kite_79 : decode cX8_kite 79 = .ok (.getfield 33, 3) := by decide +kernel
theorem dX8_kite_82 : decode cX8_kite 82 = .ok (.getfield 153, 3) := by decide +kernel
theorem dX8_kite_85 : decode cX8_kite 85 = .ok (.iload_n 1, 1) := by decide +kernel
theorem dX8_kite_86 : decode cX8_kite 86 = .ok (.iaload, 1) := by decide +kernel
theorem dX8_kite_87 : decode cX8_kite 87 = .ok (.ireturn, 1) := by decide +kernel
theorem dX8_kite_88 : decode cX8_kite 88 = .ok (.aload_n 0, 1) := by decide +kernel
theorem dX8_kite_89 : decode cX8_kite 89 = .ok (.getfield 33, 3) := by decide +kernel
theorem dX8_kite_92 : decode cX8_kite 92 = .ok (.getfield 156, 3) := by decide +kernel
theorem dX8_kite_95 : decode cX8_kite 95 = .ok (.iload_n 1, 1) := by decide +kernel
theorem dX8_kite_96 : decode cX8_kite 96 = .ok (.iaload, 1) := by decide +kernel
theorem dX8_kite_97 : decode cX8_kite 97 = .ok (.ireturn, 1) := by decide +kernel
theorem dX8_kite_98 : decode cX8_kite 98 = .ok (.aload_n 0, 1) := by decide +kernel
theorem dX8_kite_99 : decode cX8_kite 99 = .ok (.getfield 33, 3) := by decide +kernel
theorem dX8_kite_102 : decode cX8_kite 102 = .ok (.getfield 159, 3) := by decide +kernel
theorem dX8_kite_105 : decode cX8_kite 105 = .ok (.iload_n 1, 1) := by decide +kernel
theorem dX8_kite_106 : decode cX8_kite 106 = .ok (.iaload, 1) := by decide +kernel
theorem dX8_kite_107 : decode cX8_kite 107 = .ok (.ireturn, 1) := by decide +kernel
theorem dX8_kite_108 : decode cX8_kite 108 = .ok (.bipush (-3), 2) := by decide +kernel
theorem dX8_kite_110 : decode cX8_kite 110 = .ok (.ireturn, 1) := by decide +kernel
theorem dX8_where_0 : decode cX8_where 0 = .ok (.aload_n 0, 1) := by decide +kernel
theorem dX8_where_1 : decode cX8_where 1 = .ok (.iload_n 1, 1) := by decide +kernel
theorem dX8_where_2 : decode cX8_where 2 = .ok (.iload_n 2, 1) := by decide +kernel
theorem dX8_where_3 : decode cX8_where 3 = .ok (.iload_n 3, 1) := by decide +kernel
theorem dX8_where_4 : decode cX8_where 4 = .ok (.invokevirtual 162, 3) := by decide +kernel
theorem dX8_where_7 : decode cX8_where 7 = .ok (.ifCond .ne 6, 3) := by decide +kernel
theorem dX8_where_10 : decode cX8_where 10 = .ok (.bipush (-2), 2) := by decide +kernel
theorem dX8_where_12 : decode cX8_where 12 = .ok (.ireturn, 1) := by decide +kernel
theorem dX8_where_13 : decode cX8_where 13 = .ok (.aload_n 0, 1) := by decide +kernel
theorem dX8_where_14 : decode cX8_where 14 = .ok (.getfield 19, 3) := by decide +kernel
theorem dX8_where_17 : decode cX8_where 17 = .ok (.iload_n 1, 1) := by decide +kernel
theorem dX8_where_18 : decode cX8_where 18 = .ok (.iload_n 2, 1) := by decide +kernel
theorem dX8_where_19 : decode cX8_where 19 = .ok (.iload_n 3, 1) := by decide +kernel
theorem dX8_where_20 : decode cX8_where 20 = .ok (.invokevirtual 166, 3) := by decide +kernel
theorem dX8_where_23 : decode cX8_where 23 = .ok (.ifCond .ne 5, 3) := by decide +kernel
theorem dX8_where_26 : decode cX8_where 26 = .ok (.iconst (-1), 1) := by decide +kernel
theorem dX8_where_27 : decode cX8_where 27 = .ok (.ireturn, 1) := by decide +kernel
theorem dX8_where_28 : decode cX8_where 28 = .ok (.aload_n 0, 1) := by decide +kernel
theorem dX8_where_29 : decode cX8_where 29 = .ok (.getfield 19, 3) := by decide +kernel
theorem dX8_where_32 : decode cX8_where 32 = .ok (.iload_n 1, 1) := by decide +kernel
theorem dX8_where_33 : decode cX8_where 33 = .ok (.iload_n 2, 1) := by decide +kernel
theorem dX8_where_34 : decode cX8_where 34 = .ok (.iload_n 3, 1) := by decide +kernel
theorem dX8_where_35 : decode cX8_where 35 = .ok (.invokevirtual 169, 3) := by decide +kernel
theorem dX8_where_38 : decode cX8_where 38 = .ok (.bipush 10, 2) := by decide +kernel
theorem dX8_where_40 : decode cX8_where 40 = .ok (.aload_n 0, 1) := by decide +kernel
theorem dX8_where_41 : decode cX8_where 41 = .ok (.getfield 19, 3) := by decide +kernel
theorem dX8_where_44 : decode cX8_where 44 = .ok (.iload_n 1, 1) := by decide +kernel
theorem dX8_where_45 : decode cX8_where 45 = .ok (.iload_n 2, 1) := by decide +kernel
theorem dX8_where_46 : decode cX8_where 46 = .ok (.invokevirtual 173, 3) := by decide +kernel
theorem dX8_where_49 : decode cX8_where 49 = .ok (.imul, 1) := by decide +kernel
theorem dX8_where_50 : decode cX8_where 50 = .ok (.iadd, 1) := by decide +kernel
theorem dX8_where_51 : decode cX8_where 51 = .ok (.ireturn, 1) := by decide +kernel
theorem dX8_hinders_0 : decode cX8_hinders 0 = .ok (.aload_n 0, 1) := by decide +kernel
theorem dX8_hinders_1 : decode cX8_hinders 1 = .ok (.iload_n 1, 1) := by decide +kernel
theorem dX8_hinders_2 : decode cX8_hinders 2 = .ok (.iload_n 2, 1) := by decide +kernel
theorem dX8_hinders_3 : decode cX8_hinders 3 = .ok (.iload_n 3, 1) := by decide +kernel
theorem dX8_hinders_4 : decode cX8_hinders 4 = .ok (.invokevirtual 162, 3) := by decide +kernel
theorem dX8_hinders_7 : decode cX8_hinders 7 = .ok (.ifCond .ne 6, 3) := by decide +kernel
theorem dX8_hinders_10 : decode cX8_hinders 10 = .ok (.bipush (-2), 2) := by decide +kernel
theorem dX8_hinders_12 : decode cX8_hinders 12 = .ok (.ireturn, 1) := by decide +kernel
theorem dX8_hinders_13 : decode cX8_hinders 13 = .ok (.aload_n 0, 1) := by decide +kernel
theorem dX8_hinders_14 : decode cX8_hinders 14 = .ok (.getfield 19, 3) := by decide +kernel
theorem dX8_hinders_17 : decode cX8_hinders 17 = .ok (.iload_n 1, 1) := by decide +kernel
theorem dX8_hinders_18 : decode cX8_hinders 18 = .ok (.iload_n 2, 1) := by decide +kernel
theorem dX8_hinders_19 : decode cX8_hinders 19 = .ok (.iload_n 3, 1) := by decide +kernel
theorem dX8_hinders_20 : decode cX8_hinders 20 = .ok (.invokevirtual 166, 3) := by decide +kernel
theorem dX8_hinders_23 : decode cX8_hinders 23 = .ok (.ifCond .ne 5, 3) := by decide +kernel
theorem dX8_hinders_26 : decode cX8_hinders 26 = .ok (.iconst 2, 1) := by decide +kernel
theorem dX8_hinders_27 : decode cX8_hinders 27 = .ok (.ireturn, 1) := by decide +kernel
theorem dX8_hinders_28 : decode cX8_hinders 28 = .ok (.aload_n 0, 1) := by decide +kernel
theorem dX8_hinders_29 : decode cX8_hinders 29 = .ok (.getfield 19, 3) := by decide +kernel
theorem dX8_hinders_32 : decode cX8_hinders 32 = .ok (.iload_n 1, 1) := by decide +kernel
theorem dX8_hinders_33 : decode cX8_hinders 33 = .ok (.iload_n 2, 1) := by decide +kernel
theorem dX8_hinders_34 : decode cX8_hinders 34 = .ok (.iload_n 3, 1) := by decide +kernel
theorem dX8_hinders_35 : decode cX8_hinders 35 = .ok (.invokevirtual 176, 3) := by decide +kernel
theorem dX8_hinders_38 : decode cX8_hinders 38 = .ok (.ifCond .eq 7, 3) := by decide +kernel
theorem dX8_hinders_41 : decode cX8_hinders 41 = .ok (.iconst 0, 1) := by decide +kernel
theorem dX8_hinders_42 : decode cX8_hinders 42 = .ok (.goto 4, 3) := by decide +kernel
theorem dX8_hinders_45 : decode cX8_hinders 45 = .ok (.iconst 1, 1) := by decide +kernel
theorem dX8_hinders_46 : decode cX8_hinders 46 = .ok (.ireturn, 1) := by decide +kernel
theorem dX8_tangle_0 : decode cX8_tangle 0 = .ok (.aload_n 0, 1) := by decide +kernel
theorem dX8_tangle_1 : decode cX8_tangle 1 = .ok (.iload_n 1, 1) := by decide +kernel
theorem dX8_tangle_2 : decode cX8_tangle 2 = .ok (.iload_n 3, 1) := by decide +kernel
theorem dX8_tangle_3 : decode cX8_tangle 3 = .ok (.iload 4, 2) := by decide +kernel
theorem dX8_tangle_5 : decode cX8_tangle 5 = .ok (.invokevirtual 162, 3) := by decide +kernel
theorem dX8_tangle_8 : decode cX8_tangle 8 = .ok (.ifCond .eq 14, 3) := by decide +kernel
theorem dX8_tangle_11 : decode cX8_tangle 11 = .ok (.aload_n 0, 1) := by decide +kernel
theorem dX8_tangle_12 : decode cX8_tangle 12 = .ok (.getfield 19, 3) := by decide +kernel
theorem dX8_tangle_15 : decode cX8_tangle 15 = .ok (.iload_n 2, 1) := by decide +kernel
theorem dX8_tangle_16 : decode cX8_tangle 16 = .ok (.invokevirtual 133, 3) := by decide +kernel
theorem dX8_tangle_19 : decode cX8_tangle 19 = .ok (.ifCond .ne 6, 3) := by decide +kernel
theorem dX8_tangle_22 : decode cX8_tangle 22 = .ok (.bipush (-2), 2) := by decide +kernel
theorem dX8_tangle_24 : decode cX8_tangle 24 = .ok (.ireturn, 1) := by decide +kernel
theorem dX8_tangle_25 : decode cX8_tangle 25 = .ok (.iload_n 1, 1) := by decide +kernel
theorem dX8_tangle_26 : decode cX8_tangle 26 = .ok (.iload_n 2, 1) := by decide +kernel
theorem dX8_tangle_27 : decode cX8_tangle 27 = .ok (.if_icmp .ne 6, 3) := by decide +kernel
theorem dX8_tangle_30 : decode cX8_tangle 30 = .ok (.bipush (-3), 2) := by decide +kernel
theorem dX8_tangle_32 : decode cX8_tangle 32 = .ok (.ireturn, 1) := by decide +kernel
theorem dX8_tangle_33 : decode cX8_tangle 33 = .ok (.aload_n 0, 1) := by decide +kernel
theorem dX8_tangle_34 : decode cX8_tangle 34 = .ok (.getfield 19, 3) := by decide +kernel
theorem dX8_tangle_37 : decode cX8_tangle 37 = .ok (.iload_n 1, 1) := by decide +kernel
theorem dX8_tangle_38 : decode cX8_tangle 38 = .ok (.iload_n 2, 1) := by decide +kernel
theorem dX8_tangle_39 : decode cX8_tangle 39 = .ok (.iload_n 3, 1) := by decide +kernel
theorem dX8_tangle_40 : decode cX8_tangle 40 = .ok (.iload 4, 2) := by decide +kernel
theorem dX8_tangle_42 : decode cX8_tangle 42 = .ok (.invokevirtual 179, 3) := by decide +kernel
theorem dX8_tangle_45 : decode cX8_tangle 45 = .ok (.ifCond .ne 5, 3) := by decide +kernel
theorem dX8_tangle_48 : decode cX8_tangle 48 = .ok (.iconst (-1), 1) := by decide +kernel
theorem dX8_tangle_49 : decode cX8_tangle 49 = .ok (.ireturn, 1) := by decide +kernel
theorem dX8_tangle_50 : decode cX8_tangle 50 = .ok (.aload_n 0, 1) := by decide +kernel
theorem dX8_tangle_51 : decode cX8_tangle 51 = .ok (.getfield 19, 3) := by decide +kernel
theorem dX8_tangle_54 : decode cX8_tangle 54 = .ok (.iload_n 1, 1) := by decide +kernel
theorem dX8_tangle_55 : decode cX8_tangle 55 = .ok (.iload_n 2, 1) := by decide +kernel
theorem dX8_tangle_56 : decode cX8_tangle 56 = .ok (.invokestatic 183, 3) := by decide +kernel
theorem dX8_tangle_59 : decode cX8_tangle 59 = .ok (.iload_n 1, 1) := by decide +kernel
theorem dX8_tangle_60 : decode cX8_tangle 60 = .ok (.iload_n 2, 1) := by decide +kernel
theorem dX8_tangle_61 : decode cX8_tangle 61 = .ok (.invokestatic 188, 3) := by decide +kernel
theorem dX8_tangle_64 : decode cX8_tangle 64 = .ok (.aload_n 0, 1) := by decide +kernel
theorem dX8_tangle_65 : decode cX8_tangle 65 = .ok (.getfield 19, 3) := by decide +kernel
theorem dX8_tangle_68 : decode cX8_tangle 68 = .ok (.getfield 139, 3) := by decide +kernel
theorem dX8_tangle_71 : decode cX8_tangle 71 = .ok (.invokevirtual 191, 3) := by decide +kernel
theorem dX8_tangle_74 : decode cX8_tangle 74 = .ok (.ireturn, 1) := by decide +kernel
theorem dX8_taking_0 : decode cX8_taking 0 = .ok (.iload_n 1, 1) := by decide +kernel
theorem dX8_taking_1 : decode cX8_taking 1 = .ok (.ifCond .lt 12, 3) := by decide +kernel
theorem dX8_taking_4 : decode cX8_taking 4 = .ok (.iload_n 2, 1) := by decide +kernel
theorem dX8_taking_5 : decode cX8_taking 5 = .ok (.ifCond .lt 8, 3) := by decide +kernel
theorem dX8_taking_8 : decode cX8_taking 8 = .ok (.iload_n 2, 1) := by decide +kernel
theorem dX8_taking_9 : decode cX8_taking 9 = .ok (.iconst 3, 1) := by decide +kernel
theorem dX8_taking_10 : decode cX8_taking 10 = .ok (.if_icmp .le 6, 3) := by decide +kernel
theorem dX8_taking_13 : decode cX8_taking 13 = .ok (.bipush (-3), 2) := by decide +kernel
theorem dX8_taking_15 : decode cX8_taking 15 = .ok (.ireturn, 1) := by decide +kernel
theorem dX8_taking_16 : decode cX8_taking 16 = .ok (.iload_n 1, 1) := by decide +kernel
theorem dX8_taking_17 : decode cX8_taking 17 = .ok (.aload_n 0, 1) := by decide +kernel
theorem dX8_taking_18 : decode cX8_taking 18 = .ok (.getfield 33, 3) := by decide +kernel
theorem dX8_taking_21 : decode cX8_taking 21 = .ok (.getfield 194, 3) := by decide +kernel
theorem dX8_taking_24 : decode cX8_taking 24 = .ok (.if_icmp .ge 10, 3) := by decide +kernel
theorem dX8_taking_27 : decode cX8_taking 27 = .ok (.iload_n 1, 1) := by decide +kernel
theorem dX8_taking_28 : decode cX8_taking 28 = .ok (.sipush 288, 3) := by decide +kernel
theorem dX8_taking_31 : decode cX8_taking 31 = .ok (.if_icmp .lt 5, 3) := by decide +kernel
theorem dX8_taking_34 : decode cX8_taking 34 = .ok (.iconst (-1), 1) := by decide +kernel
theorem dX8_taking_35 : decode cX8_taking 35 = .ok (.ireturn, 1) := by decide +kernel
theorem dX8_taking_36 : decode cX8_taking 36 = .ok (.aload_n 0, 1) := by decide +kernel
theorem dX8_taking_37 : decode cX8_taking 37 = .ok (.getfield 33, 3) := by decide +kernel
theorem dX8_taking_40 : decode cX8_taking 40 = .ok (.getfield 197, 3) := by decide +kernel
theorem dX8_taking_43 : decode cX8_taking 43 = .ok (.iload_n 1, 1) := by decide +kernel
theorem dX8_taking_44 : decode cX8_taking 44 = .ok (.iaload, 1) := by decide +kernel
theorem dX8_taking_45 : decode cX8_taking 45 = .ok (.iconst 4, 1) := by decide +kernel
theorem dX8_taking_46 : decode cX8_taking 46 = .ok (.iload_n 2, 1) := by decide +kernel
theorem dX8_taking_47 : decode cX8_taking 47 = .ok (.imul, 1) := by decide +kernel
theorem dX8_taking_48 : decode cX8_taking 48 = .ok (.ishr, 1) := by decide +kernel
theorem dX8_taking_49 : decode cX8_taking 49 = .ok (.istore_n 3, 1) := by decide +kernel
theorem dX8_taking_50 : decode cX8_taking 50 = .ok (.iload_n 2, 1) := by decide +kernel
theorem dX8_taking_51 : decode cX8_taking 51 = .ok (.iconst 3, 1) := by decide +kernel
theorem dX8_taking_52 : decode cX8_taking 52 = .ok (.if_icmp .ne 7, 3) := by decide +kernel
theorem dX8_taking_55 : decode cX8_taking 55 = .ok (.iload_n 3, 1) := by decide +kernel
theorem dX8_taking_56 : decode cX8_taking 56 = .ok (.goto 7, 3) := by decide +kernel
theorem dX8_taking_59 : decode cX8_taking 59 = .ok (.iload_n 3, 1) := by decide +kernel
theorem dX8_taking_60 : decode cX8_taking 60 = .ok (.bipush 15, 2) := by decide +kernel
theorem dX8_taking_62 : decode cX8_taking 62 = .ok (.iand, 1) := by decide +kernel
theorem dX8_taking_63 : decode cX8_taking 63 = .ok (.ireturn, 1) := by decide +kernel
theorem dX8_keep_0 : decode cX8_keep 0 = .ok (.iload_n 1, 1) := by decide +kernel
theorem dX8_keep_1 : decode cX8_keep 1 = .ok (.ifCond .lt 8, 3) := by decide +kernel
theorem dX8_keep_4 : decode cX8_keep 4 = .ok (.iload_n 1, 1) := by decide +kernel
theorem dX8_keep_5 : decode cX8_keep 5 = .ok (.iconst 2, 1) := by decide +kernel
theorem dX8_keep_6 : decode cX8_keep 6 = .ok (.if_icmp .lt 6, 3) := by decide +kernel
theorem dX8_keep_9 : decode cX8_keep 9 = .ok (.bipush (-2), 2) := by decide +kernel
theorem dX8_keep_11 : decode cX8_keep 11 = .ok (.ireturn, 1) := by decide +kernel
theorem dX8_keep_12 : decode cX8_keep 12 = .ok (.aload_n 0, 1) := by decide +kernel
theorem dX8_keep_13 : decode cX8_keep 13 = .ok (.getfield 43, 3) := by decide +kernel
theorem dX8_keep_16 : decode cX8_keep 16 = .ok (.iload_n 1, 1) := by decide +kernel
theorem dX8_keep_17 : decode cX8_keep 17 = .ok (.aaload, 1) := by decide +kernel
theorem dX8_keep_18 : decode cX8_keep 18 = .ok (.aload_n 0, 1) := by decide +kernel
theorem dX8_keep_19 : decode cX8_keep 19 = .ok (.getfield 33, 3) := by decide +kernel
theorem dX8_keep_22 : decode cX8_keep 22 = .ok (.invokevirtual 87, 3) := by decide +kernel
theorem dX8_keep_25 : decode cX8_keep 25 = .ok (.aload_n 0, 1) := by decide +kernel
theorem dX8_keep_26 : decode cX8_keep 26 = .ok (.dup, 1) := by decide +kernel
theorem dX8_keep_27 : decode cX8_keep 27 = .ok (.getfield 91, 3) := by decide +kernel
theorem dX8_keep_30 : decode cX8_keep 30 = .ok (.iconst 1, 1) := by decide +kernel
theorem dX8_keep_31 : decode cX8_keep 31 = .ok (.iload_n 1, 1) := by decide +kernel
theorem dX8_keep_32 : decode cX8_keep 32 = .ok (.ishl, 1) := by decide +kernel
theorem dX8_keep_33 : decode cX8_keep 33 = .ok (.ior, 1) := by decide +kernel
theorem dX8_keep_34 : decode cX8_keep 34 = .ok (.putfield 91, 3) := by decide +kernel
theorem dX8_keep_37 : decode cX8_keep 37 = .ok (.aload_n 0, 1) := by decide +kernel
theorem dX8_keep_38 : decode cX8_keep 38 = .ok (.getfield 33, 3) := by decide +kernel
theorem dX8_keep_41 : decode cX8_keep 41 = .ok (.getfield 120, 3) := by decide +kernel
theorem dX8_keep_44 : decode cX8_keep 44 = .ok (.ireturn, 1) := by decide +kernel
theorem dX8_back_0 : decode cX8_back 0 = .ok (.iload_n 1, 1) := by decide +kernel
theorem dX8_back_1 : decode cX8_back 1 = .ok (.ifCond .lt 8, 3) := by decide +kernel
theorem dX8_back_4 : decode cX8_back 4 = .ok (.iload_n 1, 1) := by decide +kernel
theorem dX8_back_5 : decode cX8_back 5 = .ok (.iconst 2, 1) := by decide +kernel
theorem dX8_back_6 : decode cX8_back 6 = .ok (.if_icmp .lt 6, 3) := by decide +kernel
theorem dX8_back_9 : decode cX8_back 9 = .ok (.bipush (-2), 2) := by decide +kernel
theorem dX8_back_11 : decode cX8_back 11 = .ok (.ireturn, 1) := by decide +kernel
theorem dX8_back_12 : decode cX8_back 12 = .ok (.aload_n 0, 1) := by decide +kernel
theorem dX8_back_13 : decode cX8_back 13 = .ok (.getfield 91, 3) := by decide +kernel
theorem dX8_back_16 : decode cX8_back 16 = .ok (.iload_n 1, 1) := by decide +kernel
theorem dX8_back_17 : decode cX8_back 17 = .ok (.invokestatic 149, 3) := by decide +kernel
theorem dX8_back_20 : decode cX8_back 20 = .ok (.ifCond .ne 6, 3) := by decide +kernel
theorem dX8_back_23 : decode cX8_back 23 = .ok (.bipush (-4), 2) := by decide +kernel
theorem dX8_back_25 : decode cX8_back 25 = .ok (.ireturn, 1) := by decide +kernel
theorem dX8_back_26 : decode cX8_back 26 = .ok (.aload_n 0, 1) := by decide +kernel
theorem dX8_back_27 : decode cX8_back 27 = .ok (.getfield 33, 3) := by decide +kernel
theorem dX8_back_30 : decode cX8_back 30 = .ok (.aload_n 0, 1) := by decide +kernel
theorem dX8_back_31 : decode cX8_back 31 = .ok (.getfield 43, 3) := by decide +kernel
theorem dX8_back_34 : decode cX8_back 34 = .ok (.iload_n 1, 1) := by decide +kernel
theorem dX8_back_35 : decode cX8_back 35 = .ok (.aaload, 1) := by decide +kernel
theorem dX8_back_36 : decode cX8_back 36 = .ok (.invokevirtual 87, 3) := by decide +kernel
theorem dX8_back_39 : decode cX8_back 39 = .ok (.aload_n 0, 1) := by decide +kernel
theorem dX8_back_40 : decode cX8_back 40 = .ok (.getfield 50, 3) := by decide +kernel
theorem dX8_back_43 : decode cX8_back 43 = .ok (.invokevirtual 94, 3) := by decide +kernel
theorem dX8_back_46 : decode cX8_back 46 = .ok (.aload_n 0, 1) := by decide +kernel
theorem dX8_back_47 : decode cX8_back 47 = .ok (.getfield 33, 3) := by decide +kernel
theorem dX8_back_50 : decode cX8_back 50 = .ok (.getfield 120, 3) := by decide +kernel
theorem dX8_back_53 : decode cX8_back 53 = .ok (.ireturn, 1) := by decide +kernel
theorem dX8_best_0 : decode cX8_best 0 = .ok (.iload_n 1, 1) := by decide +kernel
theorem dX8_best_1 : decode cX8_best 1 = .ok (.iconst (-1), 1) := by decide +kernel
theorem dX8_best_2 : decode cX8_best 2 = .ok (.if_icmp .eq 17, 3) := by decide +kernel
theorem dX8_best_5 : decode cX8_best 5 = .ok (.aload_n 0, 1) := by decide +kernel
theorem dX8_best_6 : decode cX8_best 6 = .ok (.getfield 19, 3) := by decide +kernel
theorem dX8_best_9 : decode cX8_best 9 = .ok (.iload_n 1, 1) := by decide +kernel
theorem dX8_best_10 : decode cX8_best 10 = .ok (.invokevirtual 133, 3) := by decide +kernel
theorem dX8_best_13 : decode cX8_best 13 = .ok (.ifCond .ne 6, 3) := by decide +kernel
theorem dX8_best_16 : decode cX8_best 16 = .ok (.bipush (-2), 2) := by decide +kernel
theorem dX8_best_18 : decode cX8_best 18 = .ok (.ireturn, 1) := by decide +kernel
theorem dX8_best_19 : decode cX8_best 19 = .ok (.aload_n 0, 1) := by decide +kernel
theorem dX8_best_20 : decode cX8_best 20 = .ok (.getfield 33, 3) := by decide +kernel
theorem dX8_best_23 : decode cX8_best 23 = .ok (.getfield 120, 3) := by decide +kernel
theorem dX8_best_26 : decode cX8_best 26 = .ok (.bipush 12, 2) := by decide +kernel
theorem dX8_best_28 : decode cX8_best 28 = .ok (.if_icmp .lt 6, 3) := by decide +kernel
theorem dX8_best_31 : decode cX8_best 31 = .ok (.bipush (-4), 2) := by decide +kernel
theorem dX8_best_33 : decode cX8_best 33 = .ok (.ireturn, 1) := by decide +kernel
theorem dX8_best_34 : decode cX8_best 34 = .ok (.aload_n 0, 1) := by decide +kernel
theorem dX8_best_35 : decode cX8_best 35 = .ok (.getfield 50, 3) := by decide +kernel
theorem dX8_best_38 : decode cX8_best 38 = .ok (.aload_n 0, 1) := by decide +kernel
theorem dX8_best_39 : decode cX8_best 39 = .ok (.getfield 33, 3) := by decide +kernel
theorem dX8_best_42 : decode cX8_best 42 = .ok (.iconst 1, 1) := by decide +kernel
theorem dX8_best_43 : decode cX8_best 43 = .ok (.aload_n 0, 1) := by decide +kernel
theorem dX8_best_44 : decode cX8_best 44 = .ok (.getfield 40, 3) := by decide +kernel
theorem dX8_best_47 : decode cX8_best 47 = .ok (.aload_n 0, 1) := by decide +kernel
theorem dX8_best_48 : decode cX8_best 48 = .ok (.getfield 19, 3) := by decide +kernel
theorem dX8_best_51 : decode cX8_best 51 = .ok (.aload_n 0, 1) := by decide +kernel
theorem dX8_best_52 : decode cX8_best 52 = .ok (.getfield 26, 3) := by decide +kernel
theorem dX8_best_55 : decode cX8_best 55 = .ok (.invokevirtual 200, 3) := by decide +kernel
theorem dX8_best_58 : decode cX8_best 58 = .ok (.iload_n 1, 1) := by decide +kernel
theorem dX8_best_59 : decode cX8_best 59 = .ok (.iconst (-1), 1) := by decide +kernel
theorem dX8_best_60 : decode cX8_best 60 = .ok (.if_icmp .ne 13, 3) := by decide +kernel
theorem dX8_best_63 : decode cX8_best 63 = .ok (.aload_n 0, 1) := by decide +kernel
theorem dX8_best_64 : decode cX8_best 64 = .ok (.getfield 50, 3) := by decide +kernel
theorem dX8_best_67 : decode cX8_best 67 = .ok (.getfield 204, 3) := by decide +kernel
theorem dX8_best_70 : decode cX8_best 70 = .ok (.goto 11, 3) := by decide +kernel
theorem dX8_best_73 : decode cX8_best 73 = .ok (.aload_n 0, 1) := by decide +kernel
theorem dX8_best_74 : decode cX8_best 74 = .ok (.getfield 50, 3) := by decide +kernel
theorem dX8_best_77 : decode cX8_best 77 = .ok (.iload_n 1, 1) := by decide +kernel
theorem dX8_best_78 : decode cX8_best 78 = .ok (.invokevirtual 207, 3) := by decide +kernel
theorem dX8_best_81 : decode cX8_best 81 = .ok (.ireturn, 1) := by decide +kernel
theorem dX8_allDay_0 : decode cX8_allDay 0 = .ok (.iload_n 1, 1) := by decide +kernel
theorem dX8_allDay_1 : decode cX8_allDay 1 = .ok (.iconst (-1), 1) := by decide +kernel
theorem dX8_allDay_2 : decode cX8_allDay 2 = .ok (.if_icmp .eq 17, 3) := by decide +kernel
theorem dX8_allDay_5 : decode cX8_allDay 5 = .ok (.aload_n 0, 1) := by decide +kernel
theorem dX8_allDay_6 : decode cX8_allDay 6 = .ok (.getfield 19, 3) := by decide +kernel
theorem dX8_allDay_9 : decode cX8_allDay 9 = .ok (.iload_n 1, 1) := by decide +kernel
theorem dX8_allDay_10 : decode cX8_allDay 10 = .ok (.invokevirtual 133, 3) := by decide +kernel
theorem dX8_allDay_13 : decode cX8_allDay 13 = .ok (.ifCond .ne 6, 3) := by decide +kernel
theorem dX8_allDay_16 : decode cX8_allDay 16 = .ok (.bipush (-2), 2) := by decide +kernel
theorem dX8_allDay_18 : decode cX8_allDay 18 = .ok (.ireturn, 1) := by decide +kernel
theorem dX8_allDay_19 : decode cX8_allDay 19 = .ok (.aload_n 0, 1) := by decide +kernel
theorem dX8_allDay_20 : decode cX8_allDay 20 = .ok (.getfield 54, 3) := by decide +kernel
theorem dX8_allDay_23 : decode cX8_allDay 23 = .ok (.aload_n 0, 1) := by decide +kernel
theorem dX8_allDay_24 : decode cX8_allDay 24 = .ok (.getfield 37, 3) := by decide +kernel
theorem dX8_allDay_27 : decode cX8_allDay 27 = .ok (.bipush 12, 2) := by decide +kernel
theorem dX8_allDay_29 : decode cX8_allDay 29 = .ok (.aload_n 0, 1) := by decide +kernel
theorem dX8_allDay_30 : decode cX8_allDay 30 = .ok (.getfield 40, 3) := by decide +kernel
theorem dX8_allDay_33 : decode cX8_allDay 33 = .ok (.aload_n 0, 1) := by decide +kernel
theorem dX8_allDay_34 : decode cX8_allDay 34 = .ok (.getfield 19, 3) := by decide +kernel
theorem dX8_allDay_37 : decode cX8_allDay 37 = .ok (.aload_n 0, 1) := by decide +kernel
theorem dX8_allDay_38 : decode cX8_allDay 38 = .ok (.getfield 26, 3) := by decide +kernel
theorem dX8_allDay_41 : decode cX8_allDay 41 = .ok (.invokevirtual 200, 3) := by decide +kernel
theorem dX8_allDay_44 : decode cX8_allDay 44 = .ok (.iload_n 1, 1) := by decide +kernel
theorem dX8_allDay_45 : decode cX8_allDay 45 = .ok (.iconst (-1), 1) := by decide +kernel
theorem dX8_allDay_46 : decode cX8_allDay 46 = .ok (.if_icmp .ne 13, 3) := by decide +kernel
theorem dX8_allDay_49 : decode cX8_allDay 49 = .ok (.aload_n 0, 1) := by decide +kernel
theorem dX8_allDay_50 : decode cX8_allDay 50 = .ok (.getfield 54, 3) := by decide +kernel
theorem dX8_allDay_53 : decode cX8_allDay 53 = .ok (.getfield 204, 3) := by decide +kernel
theorem dX8_allDay_56 : decode cX8_allDay 56 = .ok (.goto 11, 3) := by decide +kernel
theorem dX8_allDay_59 : decode cX8_allDay 59 = .ok (.aload_n 0, 1) := by decide +kernel
theorem dX8_allDay_60 : decode cX8_allDay 60 = .ok (.getfield 54, 3) := by decide +kernel
theorem dX8_allDay_63 : decode cX8_allDay 63 = .ok (.iload_n 1, 1) := by decide +kernel
theorem dX8_allDay_64 : decode cX8_allDay 64 = .ok (.invokevirtual 207, 3) := by decide +kernel
theorem dX8_allDay_67 : decode cX8_allDay 67 = .ok (.ireturn, 1) := by decide +kernel
theorem dX8_laws_0 : decode cX8_laws 0 = .ok (.iload_n 1, 1) := by decide +kernel
theorem dX8_laws_1 : decode cX8_laws 1 = .ok (.ifCond .lt 8, 3) := by decide +kernel
theorem dX8_laws_4 : decode cX8_laws 4 = .ok (.iload_n 1, 1) := by decide +kernel
theorem dX8_laws_5 : decode cX8_laws 5 = .ok (.iconst 1, 1) := by decide +kernel
theorem dX8_laws_6 : decode cX8_laws 6 = .ok (.if_icmp .le 6, 3) := by decide +kernel
theorem dX8_laws_9 : decode cX8_laws 9 = .ok (.bipush (-3), 2) := by decide +kernel
theorem dX8_laws_11 : decode cX8_laws 11 = .ok (.ireturn, 1) := by decide +kernel
theorem dX8_laws_12 : decode cX8_laws 12 = .ok (.iconst 0, 1) := by decide +kernel
theorem dX8_laws_13 : decode cX8_laws 13 = .ok (.istore_n 2, 1) := by decide +kernel
theorem dX8_laws_14 : decode cX8_laws 14 = .ok (.iconst (-1), 1) := by decide +kernel
theorem dX8_laws_15 : decode cX8_laws 15 = .ok (.istore_n 3, 1) := by decide +kernel
theorem dX8_laws_16 : decode cX8_laws 16 = .ok (.iconst 0, 1) := by decide +kernel
theorem dX8_laws_17 : decode cX8_laws 17 = .ok (.istore 4, 2) := by decide +kernel
theorem dX8_laws_19 : decode cX8_laws 19 = .ok (.iload 4, 2) := by decide +kernel
theorem dX8_laws_21 : decode cX8_laws 21 = .ok (.iconst 3, 1) := by decide +kernel
theorem dX8_laws_22 : decode cX8_laws 22 = .ok (.if_icmp .ge 29, 3) := by decide +kernel
theorem dX8_laws_25 : decode cX8_laws 25 = .ok (.aload_n 0, 1) := by decide +kernel
theorem dX8_laws_26 : decode cX8_laws 26 = .ok (.iload 4, 2) := by decide +kernel
theorem dX8_laws_28 : decode cX8_laws 28 = .ok (.invokevirtual 211, 3) := by decide +kernel
theorem dX8_laws_31 : decode cX8_laws 31 = .ok (.istore 5, 2) := by decide +kernel
theorem dX8_laws_33 : decode cX8_laws 33 = .ok (.iload 5, 2) := by decide +kernel
theorem dX8_laws_35 : decode cX8_laws 35 = .ok (.iload_n 3, 1) := by decide +kernel
theorem dX8_laws_36 : decode cX8_laws 36 = .ok (.if_icmp .le 9, 3) := by decide +kernel
theorem dX8_laws_39 : decode cX8_laws 39 = .ok (.iload 5, 2) := by decide +kernel
theorem dX8_laws_41 : decode cX8_laws 41 = .ok (.istore_n 3, 1) := by decide +kernel
theorem dX8_laws_42 : decode cX8_laws 42 = .ok (.iload 4, 2) := by decide +kernel
theorem dX8_laws_44 : decode cX8_laws 44 = .ok (.istore_n 2, 1) := by decide +kernel
theorem dX8_laws_45 : decode cX8_laws 45 = .ok (.iinc 4 1, 3) := by decide +kernel
theorem dX8_laws_48 : decode cX8_laws 48 = .ok (.goto (-29), 3) := by decide +kernel
theorem dX8_laws_51 : decode cX8_laws 51 = .ok (.iload_n 1, 1) := by decide +kernel
theorem dX8_laws_52 : decode cX8_laws 52 = .ok (.ifCond .ne 7, 3) := by decide +kernel
theorem dX8_laws_55 : decode cX8_laws 55 = .ok (.iload_n 2, 1) := by decide +kernel
theorem dX8_laws_56 : decode cX8_laws 56 = .ok (.goto 4, 3) := by decide +kernel
theorem dX8_laws_59 : decode cX8_laws 59 = .ok (.iload_n 3, 1) := by decide +kernel
theorem dX8_laws_60 : decode cX8_laws 60 = .ok (.ireturn, 1) := by decide +kernel
theorem dX8_food_0 : decode cX8_food 0 = .ok (.iload_n 1, 1) := by decide +kernel
theorem dX8_food_1 : decode cX8_food 1 = .ok (.ifCond .lt 31, 3) := by decide +kernel
theorem dX8_food_4 : decode cX8_food 4 = .ok (.iload_n 1, 1) := by decide +kernel
theorem dX8_food_5 : decode cX8_food 5 = .ok (.sipush 999, 3) := by decide +kernel
theorem dX8_food_8 : decode cX8_food 8 = .ok (.if_icmp .gt 24, 3) := by decide +kernel
theorem dX8_food_11 : decode cX8_food 11 = .ok (.iload_n 2, 1) := by decide +kernel
theorem dX8_food_12 : decode cX8_food 12 = .ok (.iconst 1, 1) := by decide +kernel
theorem dX8_food_13 : decode cX8_food 13 = .ok (.if_icmp .lt 19, 3) := by decide +kernel
theorem dX8_food_16 : decode cX8_food 16 = .ok (.iload_n 2, 1) := by decide +kernel
theorem dX8_food_17 : decode cX8_food 17 = .ok (.bipush 99, 2) := by decide +kernel
theorem dX8_food_19 : decode cX8_food 19 = .ok (.if_icmp .gt 13, 3) := by decide +kernel
theorem dX8_food_22 : decode cX8_food 22 = .ok (.iload_n 3, 1) := by decide +kernel
theorem dX8_food_23 : decode cX8_food 23 = .ok (.ifCond .lt 9, 3) := by decide +kernel
theorem dX8_food_26 : decode cX8_food 26 = .ok (.iload_n 3, 1) := by decide +kernel
theorem dX8_food_27 : decode cX8_food 27 = .ok (.bipush 99, 2) := by decide +kernel
theorem dX8_food_29 : decode cX8_food 29 = .ok (.if_icmp .le 7, 3) := by decide +kernel
theorem dX8_food_32 : decode cX8_food 32 = .ok (.ldc2_w 214, 3) := by decide +kernel
theorem dX8_food_35 : decode cX8_food 35 = .ok (.lreturn, 1) := by decide +kernel
theorem dX8_food_36 : decode cX8_food 36 = .ok (.iload 4, 2) := by decide +kernel
theorem dX8_food_38 : decode cX8_food 38 = .ok (.ifCond .lt 33, 3) := by decide +kernel
theorem dX8_food_41 : decode cX8_food 41 = .ok (.iload 4, 2) := by decide +kernel
theorem dX8_food_43 : decode cX8_food 43 = .ok (.bipush 10, 2) := by decide +kernel
theorem dX8_food_45 : decode cX8_food 45 = .ok (.if_icmp .gt 26, 3) := by decide +kernel
theorem dX8_food_48 : decode cX8_food 48 = .ok (.iload 5, 2) := by decide +kernel
theorem dX8_food_50 : decode cX8_food 50 = .ok (.ifCond .lt 21, 3) := by decide +kernel
theorem dX8_food_53 : decode cX8_food 53 = .ok (.iload 5, 2) := by decide +kernel
theorem dX8_food_55 : decode cX8_food 55 = .ok (.bipush 8, 2) := by decide +kernel
theorem dX8_food_57 : decode cX8_food 57 = .ok (.if_icmp .gt 14, 3) := by decide +kernel
theorem dX8_food_60 : decode cX8_food 60 = .ok (.iload 6, 2) := by decide +kernel
theorem dX8_food_62 : decode cX8_food 62 = .ok (.ifCond .lt 9, 3) := by decide +kernel
theorem dX8_food_65 : decode cX8_food 65 = .ok (.iload 6, 2) := by decide +kernel
theorem dX8_food_67 : decode cX8_food 67 = .ok (.iconst 1, 1) := by decide +kernel
theorem dX8_food_68 : decode cX8_food 68 = .ok (.if_icmp .le 7, 3) := by decide +kernel
theorem dX8_food_71 : decode cX8_food 71 = .ok (.ldc2_w 214, 3) := by decide +kernel
theorem dX8_food_74 : decode cX8_food 74 = .ok (.lreturn, 1) := by decide +kernel
theorem dX8_food_75 : decode cX8_food 75 = .ok (.aload_n 0, 1) := by decide +kernel
theorem dX8_food_76 : decode cX8_food 76 = .ok (.getfield 60, 3) := by decide +kernel
theorem dX8_food_79 : decode cX8_food 79 = .ok (.iload_n 1, 1) := by decide +kernel
theorem dX8_food_80 : decode cX8_food 80 = .ok (.iload_n 2, 1) := by decide +kernel
theorem dX8_food_81 : decode cX8_food 81 = .ok (.iload_n 3, 1) := by decide +kernel
theorem dX8_food_82 : decode cX8_food 82 = .ok (.iload 4, 2) := by decide +kernel
theorem dX8_food_84 : decode cX8_food 84 = .ok (.iload 5, 2) := by decide +kernel
theorem dX8_food_86 : decode cX8_food 86 = .ok (.invokevirtual 216, 3) := by decide +kernel
theorem dX8_food_89 : decode cX8_food 89 = .ok (.iload 5, 2) := by decide +kernel
theorem dX8_food_91 : decode cX8_food 91 = .ok (.invokestatic 220, 3) := by decide +kernel
theorem dX8_food_94 : decode cX8_food 94 = .ok (.iload 6, 2) := by decide +kernel
theorem dX8_food_96 : decode cX8_food 96 = .ok (.invokestatic 224, 3) := by decide +kernel
theorem dX8_food_99 : decode cX8_food 99 = .ok (.lreturn, 1) := by decide +kernel
theorem dX8_cut_0 : decode cX8_cut 0 = .ok (.aload_n 0, 1) := by decide +kernel
theorem dX8_cut_1 : decode cX8_cut 1 = .ok (.getfield 19, 3) := by decide +kernel
theorem dX8_cut_4 : decode cX8_cut 4 = .ok (.iload_n 1, 1) := by decide +kernel
theorem dX8_cut_5 : decode cX8_cut 5 = .ok (.invokevirtual 133, 3) := by decide +kernel
theorem dX8_cut_8 : decode cX8_cut 8 = .ok (.ifCond .eq 10, 3) := by decide +kernel
theorem dX8_cut_11 : decode cX8_cut 11 = .ok (.iload_n 2, 1) := by decide +kernel
theorem dX8_cut_12 : decode cX8_cut 12 = .ok (.invokestatic 103, 3) := by decide +kernel
theorem dX8_cut_15 : decode cX8_cut 15 = .ok (.ifCond .ne 7, 3) := by decide +kernel
theorem dX8_cut_18 : decode cX8_cut 18 = .ok (.ldc2_w 228, 3) := by decide +kernel
theorem dX8_cut_21 : decode cX8_cut 21 = .ok (.lreturn, 1) := by decide +kernel
theorem dX8_cut_22 : decode cX8_cut 22 = .ok (.iload_n 3, 1) := by decide +kernel
theorem dX8_cut_23 : decode cX8_cut 23 = .ok (.ifCond .lt 32, 3) := by decide +kernel
theorem dX8_cut_26 : decode cX8_cut 26 = .ok (.iload_n 3, 1) := by decide +kernel
theorem dX8_cut_27 : decode cX8_cut 27 = .ok (.bipush 40, 2) := by decide +kernel
theorem dX8_cut_29 : decode cX8_cut 29 = .ok (.if_icmp .gt 26, 3) := by decide +kernel
theorem dX8_cut_32 : decode cX8_cut 32 = .ok (.iload 4, 2) := by decide +kernel
theorem dX8_cut_34 : decode cX8_cut 34 = .ok (.ifCond .lt 21, 3) := by decide +kernel
theorem dX8_cut_37 : decode cX8_cut 37 = .ok (.iload 4, 2) := by decide +kernel
theorem dX8_cut_39 : decode cX8_cut 39 = .ok (.bipush 10, 2) := by decide +kernel
theorem dX8_cut_41 : decode cX8_cut 41 = .ok (.if_icmp .gt 14, 3) := by decide +kernel
theorem dX8_cut_44 : decode cX8_cut 44 = .ok (.iload 5, 2) := by decide +kernel
theorem dX8_cut_46 : decode cX8_cut 46 = .ok (.ifCond .lt 9, 3) := by decide +kernel
theorem dX8_cut_49 : decode cX8_cut 49 = .ok (.iload 5, 2) := by decide +kernel
theorem dX8_cut_51 : decode cX8_cut 51 = .ok (.iconst 1, 1) := by decide +kernel
theorem dX8_cut_52 : decode cX8_cut 52 = .ok (.if_icmp .le 7, 3) := by decide +kernel
theorem dX8_cut_55 : decode cX8_cut 55 = .ok (.ldc2_w 214, 3) := by decide +kernel
theorem dX8_cut_58 : decode cX8_cut 58 = .ok (.lreturn, 1) := by decide +kernel
theorem dX8_cut_59 : decode cX8_cut 59 = .ok (.aload_n 0, 1) := by decide +kernel
theorem dX8_cut_60 : decode cX8_cut 60 = .ok (.getfield 33, 3) := by decide +kernel
theorem dX8_cut_63 : decode cX8_cut 63 = .ok (.getfield 136, 3) := by decide +kernel
theorem dX8_cut_66 : decode cX8_cut 66 = .ok (.iload_n 1, 1) := by decide +kernel
theorem dX8_cut_67 : decode cX8_cut 67 = .ok (.iaload, 1) := by decide +kernel
theorem dX8_cut_68 : decode cX8_cut 68 = .ok (.istore 6, 2) := by decide +kernel
theorem dX8_cut_70 : decode cX8_cut 70 = .ok (.iload 6, 2) := by decide +kernel
theorem dX8_cut_72 : decode cX8_cut 72 = .ok (.ifCond .ne 7, 3) := by decide +kernel
theorem dX8_cut_75 : decode cX8_cut 75 = .ok (.ldc2_w 230, 3) := by decide +kernel
theorem dX8_cut_78 : decode cX8_cut 78 = .ok (.lreturn, 1) := by decide +kernel
theorem dX8_cut_79 : decode cX8_cut 79 = .ok (.aload_n 0, 1) := by decide +kernel
theorem dX8_cut_80 : decode cX8_cut 80 = .ok (.getfield 19, 3) := by decide +kernel
theorem dX8_cut_83 : decode cX8_cut 83 = .ok (.iload_n 1, 1) := by decide +kernel
theorem dX8_cut_84 : decode cX8_cut 84 = .ok (.iload 6, 2) := by decide +kernel
theorem dX8_cut_86 : decode cX8_cut 86 = .ok (.iload_n 2, 1) := by decide +kernel
theorem dX8_cut_87 : decode cX8_cut 87 = .ok (.invokevirtual 169, 3) := by decide +kernel
theorem dX8_cut_90 : decode cX8_cut 90 = .ok (.istore 7, 2) := by decide +kernel
theorem dX8_cut_92 : decode cX8_cut 92 = .ok (.aload_n 0, 1) := by decide +kernel
theorem dX8_cut_93 : decode cX8_cut 93 = .ok (.getfield 60, 3) := by decide +kernel
theorem dX8_cut_96 : decode cX8_cut 96 = .ok (.iload 7, 2) := by decide +kernel
theorem dX8_cut_98 : decode cX8_cut 98 = .ok (.bipush (-45), 2) := by decide +kernel
theorem dX8_cut_100 : decode cX8_cut 100 = .ok (.isub, 1) := by decide +kernel
theorem dX8_cut_101 : decode cX8_cut 101 = .ok (.invokevirtual 232, 3) := by decide +kernel
theorem dX8_cut_104 : decode cX8_cut 104 = .ok (.iload_n 2, 1) := by decide +kernel
theorem dX8_cut_105 : decode cX8_cut 105 = .ok (.istore 8, 2) := by decide +kernel
theorem dX8_cut_107 : decode cX8_cut 107 = .ok (.iload 8, 2) := by decide +kernel
theorem dX8_cut_109 : decode cX8_cut 109 = .ok (.bipush 12, 2) := by decide +kernel
theorem dX8_cut_111 : decode cX8_cut 111 = .ok (.if_icmp .ge 32, 3) := by decide +kernel
theorem dX8_cut_114 : decode cX8_cut 114 = .ok (.aload_n 0, 1) := by decide +kernel
theorem dX8_cut_115 : decode cX8_cut 115 = .ok (.getfield 60, 3) := by decide +kernel
theorem dX8_cut_118 : decode cX8_cut 118 = .ok (.aload_n 0, 1) := by decide +kernel
theorem dX8_cut_119 : decode cX8_cut 119 = .ok (.getfield 19, 3) := by decide +kernel
theorem dX8_cut_122 : decode cX8_cut 122 = .ok (.getfield 114, 3) := by decide +kernel
theorem dX8_cut_125 : decode cX8_cut 125 = .ok (.iload 6, 2) := by decide +kernel
theorem dX8_cut_127 : decode cX8_cut 127 = .ok (.iload 8, 2) := by decide +kernel
theorem dX8_cut_129 : decode cX8_cut 129 = .ok (.invokestatic 110, 3) := by decide +kernel
theorem dX8_cut_132 : decode cX8_cut 132 = .ok (.iload 4, 2) := by decide +kernel
theorem dX8_cut_134 : decode cX8_cut 134 = .ok (.invokevirtual 236, 3) := by decide +kernel
theorem dX8_cut_137 : decode cX8_cut 137 = .ok (.iinc 8 1, 3) := by decide +kernel
theorem dX8_cut_140 : decode cX8_cut 140 = .ok (.goto (-33), 3) := by decide +kernel
theorem dX8_cut_143 : decode cX8_cut 143 = .ok (.aload_n 0, 1) := by decide +kernel
theorem dX8_cut_144 : decode cX8_cut 144 = .ok (.getfield 60, 3) := by decide +kernel
theorem dX8_cut_147 : decode cX8_cut 147 = .ok (.iload_n 3, 1) := by decide +kernel
theorem dX8_cut_148 : decode cX8_cut 148 = .ok (.bipush (-45), 2) := by decide +kernel
theorem dX8_cut_150 : decode cX8_cut 150 = .ok (.isub, 1) := by decide +kernel
theorem dX8_cut_151 : decode cX8_cut 151 = .ok (.invokevirtual 239, 3) := by decide +kernel
theorem dX8_cut_154 : decode cX8_cut 154 = .ok (.bipush 12, 2) := by decide +kernel
theorem dX8_cut_156 : decode cX8_cut 156 = .ok (.iload_n 2, 1) := by decide +kernel
theorem dX8_cut_157 : decode cX8_cut 157 = .ok (.isub, 1) := by decide +kernel
theorem dX8_cut_158 : decode cX8_cut 158 = .ok (.invokestatic 220, 3) := by decide +kernel
theorem dX8_cut_161 : decode cX8_cut 161 = .ok (.iload 5, 2) := by decide +kernel
theorem dX8_cut_163 : decode cX8_cut 163 = .ok (.invokestatic 224, 3) := by decide +kernel
theorem dX8_cut_166 : decode cX8_cut 166 = .ok (.lreturn, 1) := by decide +kernel
theorem dX8_share_0 : decode cX8_share 0 = .ok (.aload_n 0, 1) := by decide +kernel
theorem dX8_share_1 : decode cX8_share 1 = .ok (.getfield 19, 3) := by decide +kernel
theorem dX8_share_4 : decode cX8_share 4 = .ok (.iload_n 2, 1) := by decide +kernel
theorem dX8_share_5 : decode cX8_share 5 = .ok (.invokevirtual 133, 3) := by decide +kernel
theorem dX8_share_8 : decode cX8_share 8 = .ok (.ifCond .ne 6, 3) := by decide +kernel
theorem dX8_share_11 : decode cX8_share 11 = .ok (.bipush (-2), 2) := by decide +kernel
theorem dX8_share_13 : decode cX8_share 13 = .ok (.ireturn, 1) := by decide +kernel
theorem dX8_share_14 : decode cX8_share 14 = .ok (.iload_n 1, 1) := by decide +kernel
theorem dX8_share_15 : decode cX8_share 15 = .ok (.ifCond .lt 10, 3) := by decide +kernel
theorem dX8_share_18 : decode cX8_share 18 = .ok (.iload_n 1, 1) := by decide +kernel
theorem dX8_share_19 : decode cX8_share 19 = .ok (.sipush 999, 3) := by decide +kernel
theorem dX8_share_22 : decode cX8_share 22 = .ok (.if_icmp .le 6, 3) := by decide +kernel
theorem dX8_share_25 : decode cX8_share 25 = .ok (.bipush (-3), 2) := by decide +kernel
theorem dX8_share_27 : decode cX8_share 27 = .ok (.ireturn, 1) := by decide +kernel
theorem dX8_share_28 : decode cX8_share 28 = .ok (.aload_n 0, 1) := by decide +kernel
theorem dX8_share_29 : decode cX8_share 29 = .ok (.getfield 19, 3) := by decide +kernel
theorem dX8_share_32 : decode cX8_share 32 = .ok (.iload_n 1, 1) := by decide +kernel
theorem dX8_share_33 : decode cX8_share 33 = .ok (.iload_n 2, 1) := by decide +kernel
theorem dX8_share_34 : decode cX8_share 34 = .ok (.invokevirtual 242, 3) := by decide +kernel
theorem dX8_share_37 : decode cX8_share 37 = .ok (.ireturn, 1) := by decide +kernel
theorem dX8_count_0 : decode cX8_count 0 = .ok (.iload_n 1, 1) := by decide +kernel
theorem dX8_count_1 : decode cX8_count 1 = .ok (.tableswitch 147 0 10 #[59, 67, 75, 83, 91, 99, 107, 115, 123, 131, 139], 59) := by decide +kernel
theorem dX8_count_60 : decode cX8_count 60 = .ok (.aload_n 0, 1) := by decide +kernel
theorem dX8_count_61 : decode cX8_count 61 = .ok (.getfield 19, 3) := by decide +kernel
theorem dX8_count_64 : decode cX8_count 64 = .ok (.invokevirtual 245, 3) := by decide +kernel
theorem dX8_count_67 : decode cX8_count 67 = .ok (.ireturn, 1) := by decide +kernel
theorem dX8_count_68 : decode cX8_count 68 = .ok (.aload_n 0, 1) := by decide +kernel
theorem dX8_count_69 : decode cX8_count 69 = .ok (.getfield 19, 3) := by decide +kernel
theorem dX8_count_72 : decode cX8_count 72 = .ok (.invokevirtual 249, 3) := by decide +kernel
theorem dX8_count_75 : decode cX8_count 75 = .ok (.ireturn, 1) := by decide +kernel
theorem dX8_count_76 : decode cX8_count 76 = .ok (.aload_n 0, 1) := by decide +kernel
theorem dX8_count_77 : decode cX8_count 77 = .ok (.getfield 19, 3) := by decide +kernel
theorem dX8_count_80 : decode cX8_count 80 = .ok (.getfield 139, 3) := by decide +kernel
theorem dX8_count_83 : decode cX8_count 83 = .ok (.ireturn, 1) := by decide +kernel
theorem dX8_count_84 : decode cX8_count 84 = .ok (.aload_n 0, 1) := by decide +kernel
theorem dX8_count_85 : decode cX8_count 85 = .ok (.getfield 19, 3) := by decide +kernel
theorem dX8_count_88 : decode cX8_count 88 = .ok (.getfield 252, 3) := by decide +kernel
theorem dX8_count_91 : decode cX8_count 91 = .ok (.ireturn, 1) := by decide +kernel
theorem dX8_count_92 : decode cX8_count 92 = .ok (.aload_n 0, 1) := by decide +kernel
theorem dX8_count_93 : decode cX8_count 93 = .ok (.getfield 19, 3) := by decide +kernel
theorem dX8_count_96 : decode cX8_count 96 = .ok (.getfield 255, 3) := by decide +kernel
theorem dX8_count_99 : decode cX8_count 99 = .ok (.ireturn, 1) := by decide +kernel
theorem dX8_count_100 : decode cX8_count 100 = .ok (.aload_n 0, 1) := by decide +kernel
theorem dX8_count_101 : decode cX8_count 101 = .ok (.getfield 19, 3) := by decide +kernel
theorem dX8_count_104 : decode cX8_count 104 = .ok (.getfield 258, 3) := by decide +kernel
theorem dX8_count_107 : decode cX8_count 107 = .ok (.ireturn, 1) := by decide +kernel
theorem dX8_count_108 : decode cX8_count 108 = .ok (.aload_n 0, 1) := by decide +kernel
theorem dX8_count_109 : decode cX8_count 109 = .ok (.getfield 33, 3) := by decide +kernel
theorem dX8_count_112 : decode cX8_count 112 = .ok (.getfield 120, 3) := by decide +kernel
theorem dX8_count_115 : decode cX8_count 115 = .ok (.ireturn, 1) := by decide +kernel
theorem dX8_count_116 : decode cX8_count 116 = .ok (.aload_n 0, 1) := by decide +kernel
theorem dX8_count_117 : decode cX8_count 117 = .ok (.getfield 33, 3) := by decide +kernel
theorem dX8_count_120 : decode cX8_count 120 = .ok (.getfield 194, 3) := by decide +kernel
theorem dX8_count_123 : decode cX8_count 123 = .ok (.ireturn, 1) := by decide +kernel
theorem dX8_count_124 : decode cX8_count 124 = .ok (.aload_n 0, 1) := by decide +kernel
theorem dX8_count_125 : decode cX8_count 125 = .ok (.getfield 33, 3) := by decide +kernel
theorem dX8_count_128 : decode cX8_count 128 = .ok (.getfield 261, 3) := by decide +kernel
theorem dX8_count_131 : decode cX8_count 131 = .ok (.ireturn, 1) := by decide +kernel
theorem dX8_count_132 : decode cX8_count 132 = .ok (.aload_n 0, 1) := by decide +kernel
theorem dX8_count_133 : decode cX8_count 133 = .ok (.getfield 33, 3) := by decide +kernel
theorem dX8_count_136 : decode cX8_count 136 = .ok (.getfield 264, 3) := by decide +kernel
theorem dX8_count_139 : decode cX8_count 139 = .ok (.ireturn, 1) := by decide +kernel
theorem dX8_count_140 : decode cX8_count 140 = .ok (.aload_n 0, 1) := by decide +kernel
theorem dX8_count_141 : decode cX8_count 141 = .ok (.getfield 12, 3) := by decide +kernel
theorem dX8_count_144 : decode cX8_count 144 = .ok (.getfield 72, 3) := by decide +kernel
theorem dX8_count_147 : decode cX8_count 147 = .ok (.ireturn, 1) := by decide +kernel
theorem dX8_count_148 : decode cX8_count 148 = .ok (.bipush (-3), 2) := by decide +kernel
theorem dX8_count_150 : decode cX8_count 150 = .ok (.ireturn, 1) := by decide +kernel
theorem dX8_caughtAllDayBy_0 : decode cX8_caughtAllDayBy 0 = .ok (.aload_n 0, 1) := by decide +kernel
theorem dX8_caughtAllDayBy_1 : decode cX8_caughtAllDayBy 1 = .ok (.getfield 40, 3) := by decide +kernel
theorem dX8_caughtAllDayBy_4 : decode cX8_caughtAllDayBy 4 = .ok (.aload_n 0, 1) := by decide +kernel
theorem dX8_caughtAllDayBy_5 : decode cX8_caughtAllDayBy 5 = .ok (.getfield 37, 3) := by decide +kernel
theorem dX8_caughtAllDayBy_8 : decode cX8_caughtAllDayBy 8 = .ok (.invokevirtual 267, 3) := by decide +kernel
theorem dX8_caughtAllDayBy_11 : decode cX8_caughtAllDayBy 11 = .ok (.iconst 0, 1) := by decide +kernel
theorem dX8_caughtAllDayBy_12 : decode cX8_caughtAllDayBy 12 = .ok (.istore_n 2, 1) := by decide +kernel
theorem dX8_caughtAllDayBy_13 : decode cX8_caughtAllDayBy 13 = .ok (.iload_n 2, 1) := by decide +kernel
theorem dX8_caughtAllDayBy_14 : decode cX8_caughtAllDayBy 14 = .ok (.bipush 6, 2) := by decide +kernel
theorem dX8_caughtAllDayBy_16 : decode cX8_caughtAllDayBy 16 = .ok (.if_icmp .ge 27, 3) := by decide +kernel
theorem dX8_caughtAllDayBy_19 : decode cX8_caughtAllDayBy 19 = .ok (.aload_n 0, 1) := by decide +kernel
theorem dX8_caughtAllDayBy_20 : decode cX8_caughtAllDayBy 20 = .ok (.getfield 40, 3) := by decide +kernel
theorem dX8_caughtAllDayBy_23 : decode cX8_caughtAllDayBy 23 = .ok (.getfield 136, 3) := by decide +kernel
theorem dX8_caughtAllDayBy_26 : decode cX8_caughtAllDayBy 26 = .ok (.iload_n 2, 1) := by decide +kernel
theorem dX8_caughtAllDayBy_27 : decode cX8_caughtAllDayBy 27 = .ok (.aload_n 0, 1) := by decide +kernel
theorem dX8_caughtAllDayBy_28 : decode cX8_caughtAllDayBy 28 = .ok (.getfield 33, 3) := by decide +kernel
theorem dX8_caughtAllDayBy_31 : decode cX8_caughtAllDayBy 31 = .ok (.getfield 136, 3) := by decide +kernel
theorem dX8_caughtAllDayBy_34 : decode cX8_caughtAllDayBy 34 = .ok (.iload_n 2, 1) := by decide +kernel
theorem dX8_caughtAllDayBy_35 : decode cX8_caughtAllDayBy 35 = .ok (.iaload, 1) := by decide +kernel
theorem dX8_caughtAllDayBy_36 : decode cX8_caughtAllDayBy 36 = .ok (.iastore, 1) := by decide +kernel
theorem dX8_caughtAllDayBy_37 : decode cX8_caughtAllDayBy 37 = .ok (.iinc 2 1, 3) := by decide +kernel
theorem dX8_caughtAllDayBy_40 : decode cX8_caughtAllDayBy 40 = .ok (.goto (-27), 3) := by decide +kernel
theorem dX8_caughtAllDayBy_43 : decode cX8_caughtAllDayBy 43 = .ok (.aload_n 0, 1) := by decide +kernel
theorem dX8_caughtAllDayBy_44 : decode cX8_caughtAllDayBy 44 = .ok (.getfield 40, 3) := by decide +kernel
theorem dX8_caughtAllDayBy_47 : decode cX8_caughtAllDayBy 47 = .ok (.bipush 12, 2) := by decide +kernel
theorem dX8_caughtAllDayBy_49 : decode cX8_caughtAllDayBy 49 = .ok (.aload_n 0, 1) := by decide +kernel
theorem dX8_caughtAllDayBy_50 : decode cX8_caughtAllDayBy 50 = .ok (.getfield 19, 3) := by decide +kernel
theorem dX8_caughtAllDayBy_53 : decode cX8_caughtAllDayBy 53 = .ok (.aload_n 0, 1) := by decide +kernel
theorem dX8_caughtAllDayBy_54 : decode cX8_caughtAllDayBy 54 = .ok (.getfield 26, 3) := by decide +kernel
theorem dX8_caughtAllDayBy_57 : decode cX8_caughtAllDayBy 57 = .ok (.iload_n 1, 1) := by decide +kernel
theorem dX8_caughtAllDayBy_58 : decode cX8_caughtAllDayBy 58 = .ok (.invokevirtual 142, 3) := by decide +kernel
theorem dX8_caughtAllDayBy_61 : decode cX8_caughtAllDayBy 61 = .ok (.aload_n 0, 1) := by decide +kernel
theorem dX8_caughtAllDayBy_62 : decode cX8_caughtAllDayBy 62 = .ok (.getfield 40, 3) := by decide +kernel
theorem dX8_caughtAllDayBy_65 : decode cX8_caughtAllDayBy 65 = .ok (.getfield 261, 3) := by decide +kernel
theorem dX8_caughtAllDayBy_68 : decode cX8_caughtAllDayBy 68 = .ok (.ireturn, 1) := by decide +kernel
theorem dX8_isPlace_0 : decode cX8_isPlace 0 = .ok (.aload_n 0, 1) := by decide +kernel
theorem dX8_isPlace_1 : decode cX8_isPlace 1 = .ok (.getfield 19, 3) := by decide +kernel
theorem dX8_isPlace_4 : decode cX8_isPlace 4 = .ok (.iload_n 1, 1) := by decide +kernel
theorem dX8_isPlace_5 : decode cX8_isPlace 5 = .ok (.invokevirtual 133, 3) := by decide +kernel
theorem dX8_isPlace_8 : decode cX8_isPlace 8 = .ok (.ifCond .eq 21, 3) := by decide +kernel
theorem dX8_isPlace_11 : decode cX8_isPlace 11 = .ok (.iload_n 2, 1) := by decide +kernel
theorem dX8_isPlace_12 : decode cX8_isPlace 12 = .ok (.invokestatic 100, 3) := by decide +kernel
theorem dX8_isPlace_15 : decode cX8_isPlace 15 = .ok (.ifCond .eq 14, 3) := by decide +kernel
theorem dX8_isPlace_18 : decode cX8_isPlace 18 = .ok (.iload_n 3, 1) := by decide +kernel
theorem dX8_isPlace_19 : decode cX8_isPlace 19 = .ok (.invokestatic 103, 3) := by decide +kernel
theorem dX8_isPlace_22 : decode cX8_isPlace 22 = .ok (.ifCond .eq 7, 3) := by decide +kernel
theorem dX8_isPlace_25 : decode cX8_isPlace 25 = .ok (.iconst 1, 1) := by decide +kernel
theorem dX8_isPlace_26 : decode cX8_isPlace 26 = .ok (.goto 4, 3) := by decide +kernel
theorem dX8_isPlace_29 : decode cX8_isPlace 29 = .ok (.iconst 0, 1) := by decide +kernel
theorem dX8_isPlace_30 : decode cX8_isPlace 30 = .ok (.ireturn, 1) := by decide +kernel
theorem dX8_isHeight_0 : decode cX8_isHeight 0 = .ok (.iload_n 0, 1) := by decide +kernel
theorem dX8_isHeight_1 : decode cX8_isHeight 1 = .ok (.iconst 1, 1) := by decide +kernel
theorem dX8_isHeight_2 : decode cX8_isHeight 2 = .ok (.if_icmp .lt 12, 3) := by decide +kernel
theorem dX8_isHeight_5 : decode cX8_isHeight 5 = .ok (.iload_n 0, 1) := by decide +kernel
theorem dX8_isHeight_6 : decode cX8_isHeight 6 = .ok (.iconst 3, 1) := by decide +kernel
theorem dX8_isHeight_7 : decode cX8_isHeight 7 = .ok (.if_icmp .gt 7, 3) := by decide +kernel
theorem dX8_isHeight_10 : decode cX8_isHeight 10 = .ok (.iconst 1, 1) := by decide +kernel
theorem dX8_isHeight_11 : decode cX8_isHeight 11 = .ok (.goto 4, 3) := by decide +kernel
theorem dX8_isHeight_14 : decode cX8_isHeight 14 = .ok (.iconst 0, 1) := by decide +kernel
theorem dX8_isHeight_15 : decode cX8_isHeight 15 = .ok (.ireturn, 1) := by decide +kernel
theorem dX8_isHour_0 : decode cX8_isHour 0 = .ok (.iload_n 0, 1) := by decide +kernel
theorem dX8_isHour_1 : decode cX8_isHour 1 = .ok (.ifCond .lt 13, 3) := by decide +kernel
theorem dX8_isHour_4 : decode cX8_isHour 4 = .ok (.iload_n 0, 1) := by decide +kernel
theorem dX8_isHour_5 : decode cX8_isHour 5 = .ok (.bipush 12, 2) := by decide +kernel
theorem dX8_isHour_7 : decode cX8_isHour 7 = .ok (.if_icmp .ge 7, 3) := by decide +kernel
theorem dX8_isHour_10 : decode cX8_isHour 10 = .ok (.iconst 1, 1) := by decide +kernel
theorem dX8_isHour_11 : decode cX8_isHour 11 = .ok (.goto 4, 3) := by decide +kernel
theorem dX8_isHour_14 : decode cX8_isHour 14 = .ok (.iconst 0, 1) := by decide +kernel
theorem dX8_isHour_15 : decode cX8_isHour 15 = .ok (.ireturn, 1) := by decide +kernel
theorem dX8_isIn_0 : decode cX8_isIn 0 = .ok (.iload_n 0, 1) := by decide +kernel
theorem dX8_isIn_1 : decode cX8_isIn 1 = .ok (.iload_n 1, 1) := by decide +kernel
theorem dX8_isIn_2 : decode cX8_isIn 2 = .ok (.ishr, 1) := by decide +kernel
theorem dX8_isIn_3 : decode cX8_isIn 3 = .ok (.iconst 1, 1) := by decide +kernel
theorem dX8_isIn_4 : decode cX8_isIn 4 = .ok (.iand, 1) := by decide +kernel
theorem dX8_isIn_5 : decode cX8_isIn 5 = .ok (.iconst 1, 1) := by decide +kernel
theorem dX8_isIn_6 : decode cX8_isIn 6 = .ok (.if_icmp .ne 7, 3) := by decide +kernel
theorem dX8_isIn_9 : decode cX8_isIn 9 = .ok (.iconst 1, 1) := by decide +kernel
theorem dX8_isIn_10 : decode cX8_isIn 10 = .ok (.goto 4, 3) := by decide +kernel
theorem dX8_isIn_13 : decode cX8_isIn 13 = .ok (.iconst 0, 1) := by decide +kernel
theorem dX8_isIn_14 : decode cX8_isIn 14 = .ok (.ireturn, 1) := by decide +kernel
theorem dX8_tenToThe_0 : decode cX8_tenToThe 0 = .ok (.lconst 1, 1) := by decide +kernel
theorem dX8_tenToThe_1 : decode cX8_tenToThe 1 = .ok (.lstore_n 1, 1) := by decide +kernel
theorem dX8_tenToThe_2 : decode cX8_tenToThe 2 = .ok (.iconst 0, 1) := by decide +kernel
theorem dX8_tenToThe_3 : decode cX8_tenToThe 3 = .ok (.istore_n 3, 1) := by decide +kernel
theorem dX8_tenToThe_4 : decode cX8_tenToThe 4 = .ok (.iload_n 3, 1) := by decide +kernel
theorem dX8_tenToThe_5 : decode cX8_tenToThe 5 = .ok (.iload_n 0, 1) := by decide +kernel
theorem dX8_tenToThe_6 : decode cX8_tenToThe 6 = .ok (.if_icmp .ge 15, 3) := by decide +kernel
theorem dX8_tenToThe_9 : decode cX8_tenToThe 9 = .ok (.lload_n 1, 1) := by decide +kernel
theorem dX8_tenToThe_10 : decode cX8_tenToThe 10 = .ok (.ldc2_w 270, 3) := by decide +kernel
theorem dX8_tenToThe_13 : decode cX8_tenToThe 13 = .ok (.lmul, 1) := by decide +kernel
theorem dX8_tenToThe_14 : decode cX8_tenToThe 14 = .ok (.lstore_n 1, 1) := by decide +kernel
theorem dX8_tenToThe_15 : decode cX8_tenToThe 15 = .ok (.iinc 3 1, 3) := by decide +kernel
theorem dX8_tenToThe_18 : decode cX8_tenToThe 18 = .ok (.goto (-14), 3) := by decide +kernel
theorem dX8_tenToThe_21 : decode cX8_tenToThe 21 = .ok (.lload_n 1, 1) := by decide +kernel
theorem dX8_tenToThe_22 : decode cX8_tenToThe 22 = .ok (.lreturn, 1) := by decide +kernel
theorem dX8_lowestTerm_0 : decode cX8_lowestTerm 0 = .ok (.lload_n 2, 1) := by decide +kernel
theorem dX8_lowestTerm_1 : decode cX8_lowestTerm 1 = .ok (.lstore 5, 2) := by decide +kernel
theorem dX8_lowestTerm_3 : decode cX8_lowestTerm 3 = .ok (.lload_n 0, 1) := by decide +kernel
theorem dX8_lowestTerm_4 : decode cX8_lowestTerm 4 = .ok (.lstore 7, 2) := by decide +kernel
theorem dX8_lowestTerm_6 : decode cX8_lowestTerm 6 = .ok (.iconst 0, 1) := by decide +kernel
theorem dX8_lowestTerm_7 : decode cX8_lowestTerm 7 = .ok (.istore 9, 2) := by decide +kernel
theorem dX8_lowestTerm_9 : decode cX8_lowestTerm 9 = .ok (.iload 9, 2) := by decide +kernel
theorem dX8_lowestTerm_11 : decode cX8_lowestTerm 11 = .ok (.sipush 1000, 3) := by decide +kernel
theorem dX8_lowestTerm_14 : decode cX8_lowestTerm 14 = .ok (.if_icmp .ge 31, 3) := by decide +kernel
theorem dX8_lowestTerm_17 : decode cX8_lowestTerm 17 = .ok (.lload 7, 2) := by decide +kernel
theorem dX8_lowestTerm_19 : decode cX8_lowestTerm 19 = .ok (.lconst 0, 1) := by decide +kernel
theorem dX8_lowestTerm_20 : decode cX8_lowestTerm 20 = .ok (.lcmp, 1) := by decide +kernel
theorem dX8_lowestTerm_21 : decode cX8_lowestTerm 21 = .ok (.ifCond .eq 24, 3) := by decide +kernel
theorem dX8_lowestTerm_24 : decode cX8_lowestTerm 24 = .ok (.lload 5, 2) := by decide +kernel
theorem dX8_lowestTerm_26 : decode cX8_lowestTerm 26 = .ok (.lload 7, 2) := by decide +kernel
theorem dX8_lowestTerm_28 : decode cX8_lowestTerm 28 = .ok (.lrem, 1) := by decide +kernel
theorem dX8_lowestTerm_29 : decode cX8_lowestTerm 29 = .ok (.lstore 10, 2) := by decide +kernel
theorem dX8_lowestTerm_31 : decode cX8_lowestTerm 31 = .ok (.lload 7, 2) := by decide +kernel
theorem dX8_lowestTerm_33 : decode cX8_lowestTerm 33 = .ok (.lstore 5, 2) := by decide +kernel
theorem dX8_lowestTerm_35 : decode cX8_lowestTerm 35 = .ok (.lload 10, 2) := by decide +kernel
theorem dX8_lowestTerm_37 : decode cX8_lowestTerm 37 = .ok (.lstore 7, 2) := by decide +kernel
theorem dX8_lowestTerm_39 : decode cX8_lowestTerm 39 = .ok (.iinc 9 1, 3) := by decide +kernel
theorem dX8_lowestTerm_42 : decode cX8_lowestTerm 42 = .ok (.goto (-33), 3) := by decide +kernel
theorem dX8_lowestTerm_45 : decode cX8_lowestTerm 45 = .ok (.iload 4, 2) := by decide +kernel
theorem dX8_lowestTerm_47 : decode cX8_lowestTerm 47 = .ok (.ifCond .ne 7, 3) := by decide +kernel
theorem dX8_lowestTerm_50 : decode cX8_lowestTerm 50 = .ok (.lload_n 0, 1) := by decide +kernel
theorem dX8_lowestTerm_51 : decode cX8_lowestTerm 51 = .ok (.goto 4, 3) := by decide +kernel
theorem dX8_lowestTerm_54 : decode cX8_lowestTerm 54 = .ok (.lload_n 2, 1) := by decide +kernel
theorem dX8_lowestTerm_55 : decode cX8_lowestTerm 55 = .ok (.lstore 9, 2) := by decide +kernel
theorem dX8_lowestTerm_57 : decode cX8_lowestTerm 57 = .ok (.lload 5, 2) := by decide +kernel
theorem dX8_lowestTerm_59 : decode cX8_lowestTerm 59 = .ok (.lconst 0, 1) := by decide +kernel
theorem dX8_lowestTerm_60 : decode cX8_lowestTerm 60 = .ok (.lcmp, 1) := by decide +kernel
theorem dX8_lowestTerm_61 : decode cX8_lowestTerm 61 = .ok (.ifCond .le 11, 3) := by decide +kernel
theorem dX8_lowestTerm_64 : decode cX8_lowestTerm 64 = .ok (.lload 9, 2) := by decide +kernel
theorem dX8_lowestTerm_66 : decode cX8_lowestTerm 66 = .ok (.lload 5, 2) := by decide +kernel
theorem dX8_lowestTerm_68 : decode cX8_lowestTerm 68 = .ok (.ldiv, 1) := by decide +kernel
theorem dX8_lowestTerm_69 : decode cX8_lowestTerm 69 = .ok (.goto 5, 3) := by decide +kernel
theorem dX8_lowestTerm_72 : decode cX8_lowestTerm 72 = .ok (.lload 9, 2) := by decide +kernel
theorem dX8_lowestTerm_74 : decode cX8_lowestTerm 74 = .ok (.lreturn, 1) := by decide +kernel
