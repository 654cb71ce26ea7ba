theorem dX4_init_0 : decode cX4_init 0 = .ok (.aload_n 0, 1) := by decide +kernel
theorem dX4_init_1 : decode cX4_init 1 = .ok (.invokespecial 3, 3) := by decide +kernel
theorem dX4_init_4 : decode cX4_init 4 = .ok (.aload_n 0, 1) := by decide +kernel
theorem dX4_init_5 : decode cX4_init 5 = .ok (.bipush 6, 2) := by decide +kernel
theorem dX4_init_7 : decode cX4_init 7 = .ok (.anewarray 9, 3) := by decide +kernel
theorem dX4_init_10 : decode cX4_init 10 = .ok (.putfield 11, 3) := by decide +kernel
theorem dX4_init_13 : decode cX4_init 13 = .ok (.aload_n 0, 1) := by decide +kernel
theorem dX4_init_14 : decode cX4_init 14 = .ok (.iconst 4, 1) := by decide +kernel
theorem dX4_init_15 : decode cX4_init 15 = .ok (.anewarray 17, 3) := by decide +kernel
theorem dX4_init_18 : decode cX4_init 18 = .ok (.putfield 19, 3) := by decide +kernel
theorem dX4_init_21 : decode cX4_init 21 = .ok (.aload_n 0, 1) := by decide +kernel
theorem dX4_init_22 : decode cX4_init 22 = .ok (.bipush 36, 2) := by decide +kernel
theorem dX4_init_24 : decode cX4_init 24 = .ok (.newarray .int, 2) := by decide +kernel
theorem dX4_init_26 : decode cX4_init 26 = .ok (.putfield 23, 3) := by decide +kernel
theorem dX4_init_29 : decode cX4_init 29 = .ok (.aload_n 0, 1) := by decide +kernel
theorem dX4_init_30 : decode cX4_init 30 = .ok (.bipush 36, 2) := by decide +kernel
theorem dX4_init_32 : decode cX4_init 32 = .ok (.newarray .int, 2) := by decide +kernel
theorem dX4_init_34 : decode cX4_init 34 = .ok (.putfield 27, 3) := by decide +kernel
theorem dX4_init_37 : decode cX4_init 37 = .ok (.aload_n 0, 1) := by decide +kernel
theorem dX4_init_38 : decode cX4_init 38 = .ok (.bipush 30, 2) := by decide +kernel
theorem dX4_init_40 : decode cX4_init 40 = .ok (.putfield 30, 3) := by decide +kernel
theorem dX4_init_43 : decode cX4_init 43 = .ok (.iconst 0, 1) := by decide +kernel
theorem dX4_init_44 : decode cX4_init 44 = .ok (.istore_n 1, 1) := by decide +kernel
theorem dX4_init_45 : decode cX4_init 45 = .ok (.iload_n 1, 1) := by decide +kernel
theorem dX4_init_46 : decode cX4_init 46 = .ok (.bipush 6, 2) := by decide +kernel
theorem dX4_init_48 : decode cX4_init 48 = .ok (.if_icmp .ge 22, 3) := by decide +kernel
theorem dX4_init_51 : decode cX4_init 51 = .ok (.aload_n 0, 1) := by decide +kernel
theorem dX4_init_52 : decode cX4_init 52 = .ok (.getfield 11, 3) := by decide +kernel
theorem dX4_init_55 : decode cX4_init 55 = .ok (.iload_n 1, 1) := by decide +kernel
theorem dX4_init_56 : decode cX4_init 56 = .ok (.new 9, 3) := by decide +kernel
theorem dX4_init_59 : decode cX4_init 59 = .ok (.dup, 1) := by decide +kernel
theorem dX4_init_60 : decode cX4_init 60 = .ok (.invokespecial 34, 3) := by decide +kernel
theorem dX4_init_63 : decode cX4_init 63 = .ok (.aastore, 1) := by decide +kernel
theorem dX4_init_64 : decode cX4_init 64 = .ok (.iinc 1 1, 3) := by decide +kernel
theorem dX4_init_67 : decode cX4_init 67 = .ok (.goto (-22), 3) := by decide +kernel
theorem dX4_init_70 : decode cX4_init 70 = .ok (.iconst 0, 1) := by decide +kernel
theorem dX4_init_71 : decode cX4_init 71 = .ok (.istore_n 1, 1) := by decide +kernel
theorem dX4_init_72 : decode cX4_init 72 = .ok (.iload_n 1, 1) := by decide +kernel
theorem dX4_init_73 : decode cX4_init 73 = .ok (.iconst 4, 1) := by decide +kernel
theorem dX4_init_74 : decode cX4_init 74 = .ok (.if_icmp .ge 22, 3) := by decide +kernel
theorem dX4_init_77 : decode cX4_init 77 = .ok (.aload_n 0, 1) := by decide +kernel
theorem dX4_init_78 : decode cX4_init 78 = .ok (.getfield 19, 3) := by decide +kernel
theorem dX4_init_81 : decode cX4_init 81 = .ok (.iload_n 1, 1) := by decide +kernel
theorem dX4_init_82 : decode cX4_init 82 = .ok (.new 17, 3) := by decide +kernel
theorem dX4_init_85 : decode cX4_init 85 = .ok (.dup, 1) := by decide +kernel
theorem dX4_init_86 : decode cX4_init 86 = .ok (.invokespecial 35, 3) := by decide +kernel
theorem dX4_init_89 : decode cX4_init 89 = .ok (.aastore, 1) := by decide +kernel
theorem dX4_init_90 : decode cX4_init 90 = .ok (.iinc 1 1, 3) := by decide +kernel
theorem dX4_init_93 : decode cX4_init 93 = .ok (.goto (-21), 3) := by decide +kernel
theorem dX4_init_96 : decode cX4_init 96 = .ok (.return_, 1) := by decide +kernel
theorem dX4_tell_0 : decode cX4_tell 0 = .ok (.iload_n 1, 1) := by decide +kernel
theorem dX4_tell_1 : decode cX4_tell 1 = .ok (.tableswitch 121 0 7 #[47, 55, 63, 71, 81, 91, 104, 114], 47) := by decide +kernel
theorem dX4_tell_48 : decode cX4_tell 48 = .ok (.aload_n 0, 1) := by decide +kernel
theorem dX4_tell_49 : decode cX4_tell 49 = .ok (.aload_n 2, 1) := by decide +kernel
theorem dX4_tell_50 : decode cX4_tell 50 = .ok (.invokevirtual 36, 3) := by decide +kernel
theorem dX4_tell_53 : decode cX4_tell 53 = .ok (.goto 76, 3) := by decide +kernel
theorem dX4_tell_56 : decode cX4_tell 56 = .ok (.aload_n 0, 1) := by decide +kernel
theorem dX4_tell_57 : decode cX4_tell 57 = .ok (.aload_n 2, 1) := by decide +kernel
theorem dX4_tell_58 : decode cX4_tell 58 = .ok (.invokevirtual 40, 3) := by decide +kernel
theorem dX4_tell_61 : decode cX4_tell 61 = .ok (.goto 68, 3) := by decide +kernel
theorem dX4_tell_64 : decode cX4_tell 64 = .ok (.aload_n 0, 1) := by decide +kernel
theorem dX4_tell_65 : decode cX4_tell 65 = .ok (.aload_n 2, 1) := by decide +kernel
theorem dX4_tell_66 : decode cX4_tell 66 = .ok (.invokevirtual 43, 3) := by decide +kernel
theorem dX4_tell_69 : decode cX4_tell 69 = .ok (.goto 60, 3) := by decide +kernel
theorem dX4_tell_72 : decode cX4_tell 72 = .ok (.aload_n 0, 1) := by decide +kernel
theorem dX4_tell_73 : decode cX4_tell 73 = .ok (.aload_n 2, 1) := by decide +kernel
theorem dX4_tell_74 : decode cX4_tell 74 = .ok (.iconst 0, 1) := by decide +kernel
theorem dX4_tell_75 : decode cX4_tell 75 = .ok (.iaload, 1) := by decide +kernel
theorem dX4_tell_76 : decode cX4_tell 76 = .ok (.putfield 46, 3) := by decide +kernel
theorem dX4_tell_79 : decode cX4_tell 79 = .ok (.goto 50, 3) := by decide +kernel
theorem dX4_tell_82 : decode cX4_tell 82 = .ok (.aload_n 0, 1) := by decide +kernel
theorem dX4_tell_83 : decode cX4_tell 83 = .ok (.aload_n 2, 1) := by decide +kernel
theorem dX4_tell_84 : decode cX4_tell 84 = .ok (.iconst 0, 1) := by decide +kernel
theorem dX4_tell_85 : decode cX4_tell 85 = .ok (.iaload, 1) := by decide +kernel
theorem dX4_tell_86 : decode cX4_tell 86 = .ok (.putfield 30, 3) := by decide +kernel
theorem dX4_tell_89 : decode cX4_tell 89 = .ok (.goto 40, 3) := by decide +kernel
theorem dX4_tell_92 : decode cX4_tell 92 = .ok (.aload_n 0, 1) := by decide +kernel
theorem dX4_tell_93 : decode cX4_tell 93 = .ok (.aload_n 2, 1) := by decide +kernel
theorem dX4_tell_94 : decode cX4_tell 94 = .ok (.iconst 0, 1) := by decide +kernel
theorem dX4_tell_95 : decode cX4_tell 95 = .ok (.iaload, 1) := by decide +kernel
theorem dX4_tell_96 : decode cX4_tell 96 = .ok (.aload_n 2, 1) := by decide +kernel
theorem dX4_tell_97 : decode cX4_tell 97 = .ok (.iconst 1, 1) := by decide +kernel
theorem dX4_tell_98 : decode cX4_tell 98 = .ok (.iaload, 1) := by decide +kernel
theorem dX4_tell_99 : decode cX4_tell 99 = .ok (.invokevirtual 49, 3) := by decide +kernel
theorem dX4_tell_102 : decode cX4_tell 102 = .ok (.goto 27, 3) := by decide +kernel
theorem dX4_tell_105 : decode cX4_tell 105 = .ok (.aload_n 0, 1) := by decide +kernel
theorem dX4_tell_106 : decode cX4_tell 106 = .ok (.aload_n 2, 1) := by decide +kernel
theorem dX4_tell_107 : decode cX4_tell 107 = .ok (.iconst 0, 1) := by decide +kernel
theorem dX4_tell_108 : decode cX4_tell 108 = .ok (.iaload, 1) := by decide +kernel
theorem dX4_tell_109 : decode cX4_tell 109 = .ok (.putfield 53, 3) := by decide +kernel
theorem dX4_tell_112 : decode cX4_tell 112 = .ok (.goto 17, 3) := by decide +kernel
theorem dX4_tell_115 : decode cX4_tell 115 = .ok (.aload_n 0, 1) := by decide +kernel
theorem dX4_tell_116 : decode cX4_tell 116 = .ok (.invokevirtual 56, 3) := by decide +kernel
theorem dX4_tell_119 : decode cX4_tell 119 = .ok (.goto 10, 3) := by decide +kernel
theorem dX4_tell_122 : decode cX4_tell 122 = .ok (.aload_n 0, 1) := by decide +kernel
theorem dX4_tell_123 : decode cX4_tell 123 = .ok (.aload_n 2, 1) := by decide +kernel
theorem dX4_tell_124 : decode cX4_tell 124 = .ok (.iconst 0, 1) := by decide +kernel
theorem dX4_tell_125 : decode cX4_tell 125 = .ok (.iaload, 1) := by decide +kernel
theorem dX4_tell_126 : decode cX4_tell 126 = .ok (.invokevirtual 59, 3) := by decide +kernel
theorem dX4_tell_129 : decode cX4_tell 129 = .ok (.return_, 1) := by decide +kernel
theorem dX4_tellWind_0 : decode cX4_tellWind 0 = .ok (.aload_n 1, 1) := by decide +kernel
theorem dX4_tellWind_1 : decode cX4_tellWind 1 = .ok (.iconst 0, 1) := by decide +kernel
theorem dX4_tellWind_2 : decode cX4_tellWind 2 = .ok (.iaload, 1) := by decide +kernel
theorem dX4_tellWind_3 : decode cX4_tellWind 3 = .ok (.invokestatic 63, 3) := by decide +kernel
theorem dX4_tellWind_6 : decode cX4_tellWind 6 = .ok (.ifCond .ne 4, 3) := by decide +kernel
theorem dX4_tellWind_9 : decode cX4_tellWind 9 = .ok (.return_, 1) := by decide +kernel
theorem dX4_tellWind_10 : decode cX4_tellWind 10 = .ok (.aload_n 1, 1) := by decide +kernel
theorem dX4_tellWind_11 : decode cX4_tellWind 11 = .ok (.iconst 0, 1) := by decide +kernel
theorem dX4_tellWind_12 : decode cX4_tellWind 12 = .ok (.iaload, 1) := by decide +kernel
theorem dX4_tellWind_13 : decode cX4_tellWind 13 = .ok (.iconst 1, 1) := by decide +kernel
theorem dX4_tellWind_14 : decode cX4_tellWind 14 = .ok (.isub, 1) := by decide +kernel
theorem dX4_tellWind_15 : decode cX4_tellWind 15 = .ok (.bipush 12, 2) := by decide +kernel
theorem dX4_tellWind_17 : decode cX4_tellWind 17 = .ok (.imul, 1) := by decide +kernel
theorem dX4_tellWind_18 : decode cX4_tellWind 18 = .ok (.istore_n 2, 1) := by decide +kernel
theorem dX4_tellWind_19 : decode cX4_tellWind 19 = .ok (.iconst 0, 1) := by decide +kernel
theorem dX4_tellWind_20 : decode cX4_tellWind 20 = .ok (.istore_n 3, 1) := by decide +kernel
theorem dX4_tellWind_21 : decode cX4_tellWind 21 = .ok (.iload_n 3, 1) := by decide +kernel
theorem dX4_tellWind_22 : decode cX4_tellWind 22 = .ok (.bipush 12, 2) := by decide +kernel
theorem dX4_tellWind_24 : decode cX4_tellWind 24 = .ok (.if_icmp .ge 47, 3) := by decide +kernel
theorem dX4_tellWind_27 : decode cX4_tellWind 27 = .ok (.iload_n 3, 1) := by decide +kernel
theorem dX4_tellWind_28 : decode cX4_tellWind 28 = .ok (.aload_n 1, 1) := by decide +kernel
theorem dX4_tellWind_29 : decode cX4_tellWind 29 = .ok (.iconst 1, 1) := by decide +kernel
theorem dX4_tellWind_30 : decode cX4_tellWind 30 = .ok (.iaload, 1) := by decide +kernel
theorem dX4_tellWind_31 : decode cX4_tellWind 31 = .ok (.if_icmp .lt 34, 3) := by decide +kernel
theorem dX4_tellWind_34 : decode cX4_tellWind 34 = .ok (.iload_n 3, 1) := by decide +kernel
theorem dX4_tellWind_35 : decode cX4_tellWind 35 = .ok (.aload_n 1, 1) := by decide +kernel
theorem dX4_tellWind_36 : decode cX4_tellWind 36 = .ok (.iconst 2, 1) := by decide +kernel
theorem dX4_tellWind_37 : decode cX4_tellWind 37 = .ok (.iaload, 1) := by decide +kernel
theorem dX4_tellWind_38 : decode cX4_tellWind 38 = .ok (.if_icmp .gt 27, 3) := by decide +kernel
theorem dX4_tellWind_41 : decode cX4_tellWind 41 = .ok (.aload_n 0, 1) := by decide +kernel
theorem dX4_tellWind_42 : decode cX4_tellWind 42 = .ok (.getfield 23, 3) := by decide +kernel
theorem dX4_tellWind_45 : decode cX4_tellWind 45 = .ok (.iload_n 2, 1) := by decide +kernel
theorem dX4_tellWind_46 : decode cX4_tellWind 46 = .ok (.iload_n 3, 1) := by decide +kernel
theorem dX4_tellWind_47 : decode cX4_tellWind 47 = .ok (.iadd, 1) := by decide +kernel
theorem dX4_tellWind_48 : decode cX4_tellWind 48 = .ok (.aload_n 1, 1) := by decide +kernel
theorem dX4_tellWind_49 : decode cX4_tellWind 49 = .ok (.iconst 3, 1) := by decide +kernel
theorem dX4_tellWind_50 : decode cX4_tellWind 50 = .ok (.iaload, 1) := by decide +kernel
theorem dX4_tellWind_51 : decode cX4_tellWind 51 = .ok (.iastore, 1) := by decide +kernel
theorem dX4_tellWind_52 : decode cX4_tellWind 52 = .ok (.aload_n 0, 1) := by decide +kernel
theorem dX4_tellWind_53 : decode cX4_tellWind 53 = .ok (.getfield 27, 3) := by decide +kernel
theorem dX4_tellWind_56 : decode cX4_tellWind 56 = .ok (.iload_n 2, 1) := by decide +kernel
theorem dX4_tellWind_57 : decode cX4_tellWind 57 = .ok (.iload_n 3, 1) := by decide +kernel
theorem dX4_tellWind_58 : decode cX4_tellWind 58 = .ok (.iadd, 1) := by decide +kernel
theorem dX4_tellWind_59 : decode cX4_tellWind 59 = .ok (.aload_n 1, 1) := by decide +kernel
theorem dX4_tellWind_60 : decode cX4_tellWind 60 = .ok (.iconst 4, 1) := by decide +kernel
theorem dX4_tellWind_61 : decode cX4_tellWind 61 = .ok (.iaload, 1) := by decide +kernel
theorem dX4_tellWind_62 : decode cX4_tellWind 62 = .ok (.iconst 3, 1) := by decide +kernel
theorem dX4_tellWind_63 : decode cX4_tellWind 63 = .ok (.isub, 1) := by decide +kernel
theorem dX4_tellWind_64 : decode cX4_tellWind 64 = .ok (.iastore, 1) := by decide +kernel
theorem dX4_tellWind_65 : decode cX4_tellWind 65 = .ok (.iinc 3 1, 3) := by decide +kernel
theorem dX4_tellWind_68 : decode cX4_tellWind 68 = .ok (.goto (-47), 3) := by decide +kernel
theorem dX4_tellWind_71 : decode cX4_tellWind 71 = .ok (.return_, 1) := by decide +kernel
theorem dX4_tellKite_0 : decode cX4_tellKite 0 = .ok (.aload_n 1, 1) := by decide +kernel
theorem dX4_tellKite_1 : decode cX4_tellKite 1 = .ok (.iconst 0, 1) := by decide +kernel
theorem dX4_tellKite_2 : decode cX4_tellKite 2 = .ok (.iaload, 1) := by decide +kernel
theorem dX4_tellKite_3 : decode cX4_tellKite 3 = .ok (.ifCond .lt 11, 3) := by decide +kernel
theorem dX4_tellKite_6 : decode cX4_tellKite 6 = .ok (.aload_n 1, 1) := by decide +kernel
theorem dX4_tellKite_7 : decode cX4_tellKite 7 = .ok (.iconst 0, 1) := by decide +kernel
theorem dX4_tellKite_8 : decode cX4_tellKite 8 = .ok (.iaload, 1) := by decide +kernel
theorem dX4_tellKite_9 : decode cX4_tellKite 9 = .ok (.bipush 6, 2) := by decide +kernel
theorem dX4_tellKite_11 : decode cX4_tellKite 11 = .ok (.if_icmp .lt 4, 3) := by decide +kernel
theorem dX4_tellKite_14 : decode cX4_tellKite 14 = .ok (.return_, 1) := by decide +kernel
theorem dX4_tellKite_15 : decode cX4_tellKite 15 = .ok (.aload_n 0, 1) := by decide +kernel
theorem dX4_tellKite_16 : decode cX4_tellKite 16 = .ok (.getfield 11, 3) := by decide +kernel
theorem dX4_tellKite_19 : decode cX4_tellKite 19 = .ok (.aload_n 1, 1) := by decide +kernel
theorem dX4_tellKite_20 : decode cX4_tellKite 20 = .ok (.iconst 0, 1) := by decide +kernel
theorem dX4_tellKite_21 : decode cX4_tellKite 21 = .ok (.iaload, 1) := by decide +kernel
theorem dX4_tellKite_22 : decode cX4_tellKite 22 = .ok (.aaload, 1) := by decide +kernel
theorem dX4_tellKite_23 : decode cX4_tellKite 23 = .ok (.astore_n 2, 1) := by decide +kernel
theorem dX4_tellKite_24 : decode cX4_tellKite 24 = .ok (.aload_n 2, 1) := by decide +kernel
theorem dX4_tellKite_25 : decode cX4_tellKite 25 = .ok (.iconst 1, 1) := by decide +kernel
theorem dX4_tellKite_26 : decode cX4_tellKite 26 = .ok (.putfield 67, 3) := by decide +kernel
theorem dX4_tellKite_29 : decode cX4_tellKite 29 = .ok (.aload_n 2, 1) := by decide +kernel
theorem dX4_tellKite_30 : decode cX4_tellKite 30 = .ok (.aload_n 1, 1) := by decide +kernel
theorem dX4_tellKite_31 : decode cX4_tellKite 31 = .ok (.iconst 1, 1) := by decide +kernel
theorem dX4_tellKite_32 : decode cX4_tellKite 32 = .ok (.iaload, 1) := by decide +kernel
theorem dX4_tellKite_33 : decode cX4_tellKite 33 = .ok (.putfield 71, 3) := by decide +kernel
theorem dX4_tellKite_36 : decode cX4_tellKite 36 = .ok (.aload_n 2, 1) := by decide +kernel
theorem dX4_tellKite_37 : decode cX4_tellKite 37 = .ok (.aload_n 1, 1) := by decide +kernel
theorem dX4_tellKite_38 : decode cX4_tellKite 38 = .ok (.iconst 2, 1) := by decide +kernel
theorem dX4_tellKite_39 : decode cX4_tellKite 39 = .ok (.iaload, 1) := by decide +kernel
theorem dX4_tellKite_40 : decode cX4_tellKite 40 = .ok (.putfield 74, 3) := by decide +kernel
theorem dX4_tellKite_43 : decode cX4_tellKite 43 = .ok (.aload_n 2, 1) := by decide +kernel
theorem dX4_tellKite_44 : decode cX4_tellKite 44 = .ok (.aload_n 1, 1) := by decide +kernel
theorem dX4_tellKite_45 : decode cX4_tellKite 45 = .ok (.iconst 3, 1) := by decide +kernel
theorem dX4_tellKite_46 : decode cX4_tellKite 46 = .ok (.iaload, 1) := by decide +kernel
theorem dX4_tellKite_47 : decode cX4_tellKite 47 = .ok (.putfield 77, 3) := by decide +kernel
theorem dX4_tellKite_50 : decode cX4_tellKite 50 = .ok (.aload_n 2, 1) := by decide +kernel
theorem dX4_tellKite_51 : decode cX4_tellKite 51 = .ok (.aload_n 1, 1) := by decide +kernel
theorem dX4_tellKite_52 : decode cX4_tellKite 52 = .ok (.iconst 4, 1) := by decide +kernel
theorem dX4_tellKite_53 : decode cX4_tellKite 53 = .ok (.iaload, 1) := by decide +kernel
theorem dX4_tellKite_54 : decode cX4_tellKite 54 = .ok (.putfield 80, 3) := by decide +kernel
theorem dX4_tellKite_57 : decode cX4_tellKite 57 = .ok (.aload_n 2, 1) := by decide +kernel
theorem dX4_tellKite_58 : decode cX4_tellKite 58 = .ok (.aload_n 1, 1) := by decide +kernel
theorem dX4_tellKite_59 : decode cX4_tellKite 59 = .ok (.iconst 5, 1) := by decide +kernel
theorem dX4_tellKite_60 : decode cX4_tellKite 60 = .ok (.iaload, 1) := by decide +kernel
theorem dX4_tellKite_61 : decode cX4_tellKite 61 = .ok (.putfield 83, 3) := by decide +kernel
theorem dX4_tellKite_64 : decode cX4_tellKite 64 = .ok (.return_, 1) := by decide +kernel
theorem dX4_tellShoal_0 : decode cX4_tellShoal 0 = .ok (.aload_n 1, 1) := by decide +kernel
theorem dX4_tellShoal_1 : decode cX4_tellShoal 1 = .ok (.iconst 0, 1) := by decide +kernel
theorem dX4_tellShoal_2 : decode cX4_tellShoal 2 = .ok (.iaload, 1) := by decide +kernel
theorem dX4_tellShoal_3 : decode cX4_tellShoal 3 = .ok (.ifCond .lt 10, 3) := by decide +kernel
theorem dX4_tellShoal_6 : decode cX4_tellShoal 6 = .ok (.aload_n 1, 1) := by decide +kernel
theorem dX4_tellShoal_7 : decode cX4_tellShoal 7 = .ok (.iconst 0, 1) := by decide +kernel
theorem dX4_tellShoal_8 : decode cX4_tellShoal 8 = .ok (.iaload, 1) := by decide +kernel
theorem dX4_tellShoal_9 : decode cX4_tellShoal 9 = .ok (.iconst 4, 1) := by decide +kernel
theorem dX4_tellShoal_10 : decode cX4_tellShoal 10 = .ok (.if_icmp .lt 4, 3) := by decide +kernel
theorem dX4_tellShoal_13 : decode cX4_tellShoal 13 = .ok (.return_, 1) := by decide +kernel
theorem dX4_tellShoal_14 : decode cX4_tellShoal 14 = .ok (.aload_n 0, 1) := by decide +kernel
theorem dX4_tellShoal_15 : decode cX4_tellShoal 15 = .ok (.getfield 19, 3) := by decide +kernel
theorem dX4_tellShoal_18 : decode cX4_tellShoal 18 = .ok (.aload_n 1, 1) := by decide +kernel
theorem dX4_tellShoal_19 : decode cX4_tellShoal 19 = .ok (.iconst 0, 1) := by decide +kernel
theorem dX4_tellShoal_20 : decode cX4_tellShoal 20 = .ok (.iaload, 1) := by decide +kernel
theorem dX4_tellShoal_21 : decode cX4_tellShoal 21 = .ok (.aaload, 1) := by decide +kernel
theorem dX4_tellShoal_22 : decode cX4_tellShoal 22 = .ok (.astore_n 2, 1) := by decide +kernel
theorem dX4_tellShoal_23 : decode cX4_tellShoal 23 = .ok (.aload_n 2, 1) := by decide +kernel
theorem dX4_tellShoal_24 : decode cX4_tellShoal 24 = .ok (.iconst 1, 1) := by decide +kernel
theorem dX4_tellShoal_25 : decode cX4_tellShoal 25 = .ok (.putfield 86, 3) := by decide +kernel
theorem dX4_tellShoal_28 : decode cX4_tellShoal 28 = .ok (.aload_n 2, 1) := by decide +kernel
theorem dX4_tellShoal_29 : decode cX4_tellShoal 29 = .ok (.aload_n 1, 1) := by decide +kernel
theorem dX4_tellShoal_30 : decode cX4_tellShoal 30 = .ok (.iconst 1, 1) := by decide +kernel
theorem dX4_tellShoal_31 : decode cX4_tellShoal 31 = .ok (.iaload, 1) := by decide +kernel
theorem dX4_tellShoal_32 : decode cX4_tellShoal 32 = .ok (.putfield 87, 3) := by decide +kernel
theorem dX4_tellShoal_35 : decode cX4_tellShoal 35 = .ok (.aload_n 2, 1) := by decide +kernel
theorem dX4_tellShoal_36 : decode cX4_tellShoal 36 = .ok (.aload_n 1, 1) := by decide +kernel
theorem dX4_tellShoal_37 : decode cX4_tellShoal 37 = .ok (.iconst 2, 1) := by decide +kernel
theorem dX4_tellShoal_38 : decode cX4_tellShoal 38 = .ok (.iaload, 1) := by decide +kernel
theorem dX4_tellShoal_39 : decode cX4_tellShoal 39 = .ok (.putfield 90, 3) := by decide +kernel
theorem dX4_tellShoal_42 : decode cX4_tellShoal 42 = .ok (.aload_n 2, 1) := by decide +kernel
theorem dX4_tellShoal_43 : decode cX4_tellShoal 43 = .ok (.aload_n 1, 1) := by decide +kernel
theorem dX4_tellShoal_44 : decode cX4_tellShoal 44 = .ok (.iconst 3, 1) := by decide +kernel
theorem dX4_tellShoal_45 : decode cX4_tellShoal 45 = .ok (.iaload, 1) := by decide +kernel
theorem dX4_tellShoal_46 : decode cX4_tellShoal 46 = .ok (.iconst 1, 1) := by decide +kernel
theorem dX4_tellShoal_47 : decode cX4_tellShoal 47 = .ok (.isub, 1) := by decide +kernel
theorem dX4_tellShoal_48 : decode cX4_tellShoal 48 = .ok (.putfield 93, 3) := by decide +kernel
theorem dX4_tellShoal_51 : decode cX4_tellShoal 51 = .ok (.aload_n 2, 1) := by decide +kernel
theorem dX4_tellShoal_52 : decode cX4_tellShoal 52 = .ok (.aload_n 1, 1) := by decide +kernel
theorem dX4_tellShoal_53 : decode cX4_tellShoal 53 = .ok (.iconst 4, 1) := by decide +kernel
theorem dX4_tellShoal_54 : decode cX4_tellShoal 54 = .ok (.iaload, 1) := by decide +kernel
theorem dX4_tellShoal_55 : decode cX4_tellShoal 55 = .ok (.iconst 1, 1) := by decide +kernel
theorem dX4_tellShoal_56 : decode cX4_tellShoal 56 = .ok (.isub, 1) := by decide +kernel
theorem dX4_tellShoal_57 : decode cX4_tellShoal 57 = .ok (.putfield 96, 3) := by decide +kernel
theorem dX4_tellShoal_60 : decode cX4_tellShoal 60 = .ok (.aload_n 2, 1) := by decide +kernel
theorem dX4_tellShoal_61 : decode cX4_tellShoal 61 = .ok (.aload_n 1, 1) := by decide +kernel
theorem dX4_tellShoal_62 : decode cX4_tellShoal 62 = .ok (.iconst 5, 1) := by decide +kernel
theorem dX4_tellShoal_63 : decode cX4_tellShoal 63 = .ok (.iaload, 1) := by decide +kernel
theorem dX4_tellShoal_64 : decode cX4_tellShoal 64 = .ok (.putfield 99, 3) := by decide +kernel
theorem dX4_tellShoal_67 : decode cX4_tellShoal 67 = .ok (.return_, 1) := by decide +kernel
theorem dX4_tellFog_0 : decode cX4_tellFog 0 = .ok (.iconst 0, 1) := by decide +kernel
theorem dX4_tellFog_1 : decode cX4_tellFog 1 = .ok (.istore_n 3, 1) := by decide +kernel
theorem dX4_tellFog_2 : decode cX4_tellFog 2 = .ok (.iload_n 3, 1) := by decide +kernel
theorem dX4_tellFog_3 : decode cX4_tellFog 3 = .ok (.bipush 12, 2) := by decide +kernel
theorem dX4_tellFog_5 : decode cX4_tellFog 5 = .ok (.if_icmp .ge 31, 3) := by decide +kernel
theorem dX4_tellFog_8 : decode cX4_tellFog 8 = .ok (.iload_n 3, 1) := by decide +kernel
theorem dX4_tellFog_9 : decode cX4_tellFog 9 = .ok (.iload_n 1, 1) := by decide +kernel
theorem dX4_tellFog_10 : decode cX4_tellFog 10 = .ok (.if_icmp .lt 20, 3) := by decide +kernel
theorem dX4_tellFog_13 : decode cX4_tellFog 13 = .ok (.iload_n 3, 1) := by decide +kernel
theorem dX4_tellFog_14 : decode cX4_tellFog 14 = .ok (.iload_n 2, 1) := by decide +kernel
theorem dX4_tellFog_15 : decode cX4_tellFog 15 = .ok (.if_icmp .gt 15, 3) := by decide +kernel
theorem dX4_tellFog_18 : decode cX4_tellFog 18 = .ok (.aload_n 0, 1) := by decide +kernel
theorem dX4_tellFog_19 : decode cX4_tellFog 19 = .ok (.dup, 1) := by decide +kernel
theorem dX4_tellFog_20 : decode cX4_tellFog 20 = .ok (.getfield 102, 3) := by decide +kernel
theorem dX4_tellFog_23 : decode cX4_tellFog 23 = .ok (.iconst 1, 1) := by decide +kernel
theorem dX4_tellFog_24 : decode cX4_tellFog 24 = .ok (.iload_n 3, 1) := by decide +kernel
theorem dX4_tellFog_25 : decode cX4_tellFog 25 = .ok (.ishl, 1) := by decide +kernel
theorem dX4_tellFog_26 : decode cX4_tellFog 26 = .ok (.ior, 1) := by decide +kernel
theorem dX4_tellFog_27 : decode cX4_tellFog 27 = .ok (.putfield 102, 3) := by decide +kernel
theorem dX4_tellFog_30 : decode cX4_tellFog 30 = .ok (.iinc 3 1, 3) := by decide +kernel
theorem dX4_tellFog_33 : decode cX4_tellFog 33 = .ok (.goto (-31), 3) := by decide +kernel
theorem dX4_tellFog_36 : decode cX4_tellFog 36 = .ok (.return_, 1) := by decide +kernel
theorem dX4_tellCalm_0 : decode cX4_tellCalm 0 = .ok (.aload_n 0, 1) := by decide +kernel
theorem dX4_tellCalm_1 : decode cX4_tellCalm 1 = .ok (.getfield 23, 3) := by decide +kernel
theorem dX4_tellCalm_4 : decode cX4_tellCalm 4 = .ok (.iconst 0, 1) := by decide +kernel
theorem dX4_tellCalm_5 : decode cX4_tellCalm 5 = .ok (.invokestatic 105, 3) := by decide +kernel
theorem dX4_tellCalm_8 : decode cX4_tellCalm 8 = .ok (.aload_n 0, 1) := by decide +kernel
theorem dX4_tellCalm_9 : decode cX4_tellCalm 9 = .ok (.getfield 27, 3) := by decide +kernel
theorem dX4_tellCalm_12 : decode cX4_tellCalm 12 = .ok (.iconst 0, 1) := by decide +kernel
theorem dX4_tellCalm_13 : decode cX4_tellCalm 13 = .ok (.invokestatic 105, 3) := by decide +kernel
theorem dX4_tellCalm_16 : decode cX4_tellCalm 16 = .ok (.aload_n 0, 1) := by decide +kernel
theorem dX4_tellCalm_17 : decode cX4_tellCalm 17 = .ok (.iconst 0, 1) := by decide +kernel
theorem dX4_tellCalm_18 : decode cX4_tellCalm 18 = .ok (.putfield 102, 3) := by decide +kernel
theorem dX4_tellCalm_21 : decode cX4_tellCalm 21 = .ok (.aload_n 0, 1) := by decide +kernel
theorem dX4_tellCalm_22 : decode cX4_tellCalm 22 = .ok (.iconst 0, 1) := by decide +kernel
theorem dX4_tellCalm_23 : decode cX4_tellCalm 23 = .ok (.putfield 53, 3) := by decide +kernel
theorem dX4_tellCalm_26 : decode cX4_tellCalm 26 = .ok (.return_, 1) := by decide +kernel
theorem dX4_tellLost_0 : decode cX4_tellLost 0 = .ok (.iload_n 1, 1) := by decide +kernel
theorem dX4_tellLost_1 : decode cX4_tellLost 1 = .ok (.ifCond .lt 19, 3) := by decide +kernel
theorem dX4_tellLost_4 : decode cX4_tellLost 4 = .ok (.iload_n 1, 1) := by decide +kernel
theorem dX4_tellLost_5 : decode cX4_tellLost 5 = .ok (.bipush 6, 2) := by decide +kernel
theorem dX4_tellLost_7 : decode cX4_tellLost 7 = .ok (.if_icmp .ge 13, 3) := by decide +kernel
theorem dX4_tellLost_10 : decode cX4_tellLost 10 = .ok (.aload_n 0, 1) := by decide +kernel
theorem dX4_tellLost_11 : decode cX4_tellLost 11 = .ok (.getfield 11, 3) := by decide +kernel
theorem dX4_tellLost_14 : decode cX4_tellLost 14 = .ok (.iload_n 1, 1) := by decide +kernel
theorem dX4_tellLost_15 : decode cX4_tellLost 15 = .ok (.aaload, 1) := by decide +kernel
theorem dX4_tellLost_16 : decode cX4_tellLost 16 = .ok (.iconst 0, 1) := by decide +kernel
theorem dX4_tellLost_17 : decode cX4_tellLost 17 = .ok (.putfield 67, 3) := by decide +kernel
theorem dX4_tellLost_20 : decode cX4_tellLost 20 = .ok (.return_, 1) := by decide +kernel
theorem dX4_windAt_0 : decode cX4_windAt 0 = .ok (.iload_n 1, 1) := by decide +kernel
theorem dX4_windAt_1 : decode cX4_windAt 1 = .ok (.iconst 1, 1) := by decide +kernel
theorem dX4_windAt_2 : decode cX4_windAt 2 = .ok (.isub, 1) := by decide +kernel
theorem dX4_windAt_3 : decode cX4_windAt 3 = .ok (.bipush 12, 2) := by decide +kernel
theorem dX4_windAt_5 : decode cX4_windAt 5 = .ok (.imul, 1) := by decide +kernel
theorem dX4_windAt_6 : decode cX4_windAt 6 = .ok (.iload_n 2, 1) := by decide +kernel
theorem dX4_windAt_7 : decode cX4_windAt 7 = .ok (.iadd, 1) := by decide +kernel
theorem dX4_windAt_8 : decode cX4_windAt 8 = .ok (.istore_n 3, 1) := by decide +kernel
theorem dX4_windAt_9 : decode cX4_windAt 9 = .ok (.iload_n 3, 1) := by decide +kernel
theorem dX4_windAt_10 : decode cX4_windAt 10 = .ok (.ifCond .lt 15, 3) := by decide +kernel
theorem dX4_windAt_13 : decode cX4_windAt 13 = .ok (.iload_n 3, 1) := by decide +kernel
theorem dX4_windAt_14 : decode cX4_windAt 14 = .ok (.aload_n 0, 1) := by decide +kernel
theorem dX4_windAt_15 : decode cX4_windAt 15 = .ok (.arraylength, 1) := by decide +kernel
theorem dX4_windAt_16 : decode cX4_windAt 16 = .ok (.if_icmp .ge 9, 3) := by decide +kernel
theorem dX4_windAt_19 : decode cX4_windAt 19 = .ok (.aload_n 0, 1) := by decide +kernel
theorem dX4_windAt_20 : decode cX4_windAt 20 = .ok (.iload_n 3, 1) := by decide +kernel
theorem dX4_windAt_21 : decode cX4_windAt 21 = .ok (.iaload, 1) := by decide +kernel
theorem dX4_windAt_22 : decode cX4_windAt 22 = .ok (.goto 4, 3) := by decide +kernel
theorem dX4_windAt_25 : decode cX4_windAt 25 = .ok (.iconst 0, 1) := by decide +kernel
theorem dX4_windAt_26 : decode cX4_windAt 26 = .ok (.ireturn, 1) := by decide +kernel
theorem dX4_isToldKite_0 : decode cX4_isToldKite 0 = .ok (.iload_n 1, 1) := by decide +kernel
theorem dX4_isToldKite_1 : decode cX4_isToldKite 1 = .ok (.ifCond .lt 25, 3) := by decide +kernel
theorem dX4_isToldKite_4 : decode cX4_isToldKite 4 = .ok (.iload_n 1, 1) := by decide +kernel
theorem dX4_isToldKite_5 : decode cX4_isToldKite 5 = .ok (.bipush 6, 2) := by decide +kernel
theorem dX4_isToldKite_7 : decode cX4_isToldKite 7 = .ok (.if_icmp .ge 19, 3) := by decide +kernel
theorem dX4_isToldKite_10 : decode cX4_isToldKite 10 = .ok (.aload_n 0, 1) := by decide +kernel
theorem dX4_isToldKite_11 : decode cX4_isToldKite 11 = .ok (.getfield 11, 3) := by decide +kernel
theorem dX4_isToldKite_14 : decode cX4_isToldKite 14 = .ok (.iload_n 1, 1) := by decide +kernel
theorem dX4_isToldKite_15 : decode cX4_isToldKite 15 = .ok (.aaload, 1) := by decide +kernel
theorem dX4_isToldKite_16 : decode cX4_isToldKite 16 = .ok (.getfield 67, 3) := by decide +kernel
theorem dX4_isToldKite_19 : decode cX4_isToldKite 19 = .ok (.ifCond .eq 7, 3) := by decide +kernel
theorem dX4_isToldKite_22 : decode cX4_isToldKite 22 = .ok (.iconst 1, 1) := by decide +kernel
theorem dX4_isToldKite_23 : decode cX4_isToldKite 23 = .ok (.goto 4, 3) := by decide +kernel
theorem dX4_isToldKite_26 : decode cX4_isToldKite 26 = .ok (.iconst 0, 1) := by decide +kernel
theorem dX4_isToldKite_27 : decode cX4_isToldKite 27 = .ok (.ireturn, 1) := by decide +kernel
theorem dX4_isToldShoal_0 : decode cX4_isToldShoal 0 = .ok (.iload_n 1, 1) := by decide +kernel
theorem dX4_isToldShoal_1 : decode cX4_isToldShoal 1 = .ok (.ifCond .lt 24, 3) := by decide +kernel
theorem dX4_isToldShoal_4 : decode cX4_isToldShoal 4 = .ok (.iload_n 1, 1) := by decide +kernel
theorem dX4_isToldShoal_5 : decode cX4_isToldShoal 5 = .ok (.iconst 4, 1) := by decide +kernel
theorem dX4_isToldShoal_6 : decode cX4_isToldShoal 6 = .ok (.if_icmp .ge 19, 3) := by decide +kernel
theorem dX4_isToldShoal_9 : decode cX4_isToldShoal 9 = .ok (.aload_n 0, 1) := by decide +kernel
theorem dX4_isToldShoal_10 : decode cX4_isToldShoal 10 = .ok (.getfield 19, 3) := by decide +kernel
theorem dX4_isToldShoal_13 : decode cX4_isToldShoal 13 = .ok (.iload_n 1, 1) := by decide +kernel
theorem dX4_isToldShoal_14 : decode cX4_isToldShoal 14 = .ok (.aaload, 1) := by decide +kernel
theorem dX4_isToldShoal_15 : decode cX4_isToldShoal 15 = .ok (.getfield 86, 3) := by decide +kernel
theorem dX4_isToldShoal_18 : decode cX4_isToldShoal 18 = .ok (.ifCond .eq 7, 3) := by decide +kernel
theorem dX4_isToldShoal_21 : decode cX4_isToldShoal 21 = .ok (.iconst 1, 1) := by decide +kernel
theorem dX4_isToldShoal_22 : decode cX4_isToldShoal 22 = .ok (.goto 4, 3) := by decide +kernel
theorem dX4_isToldShoal_25 : decode cX4_isToldShoal 25 = .ok (.iconst 0, 1) := by decide +kernel
theorem dX4_isToldShoal_26 : decode cX4_isToldShoal 26 = .ok (.ireturn, 1) := by decide +kernel
theorem dX4_isFoggy_0 : decode cX4_isFoggy 0 = .ok (.aload_n 0, 1) := by decide +kernel
theorem dX4_isFoggy_1 : decode cX4_isFoggy 1 = .ok (.getfield 102, 3) := by decide +kernel
theorem dX4_isFoggy_4 : decode cX4_isFoggy 4 = .ok (.iload_n 1, 1) := by decide +kernel
theorem dX4_isFoggy_5 : decode cX4_isFoggy 5 = .ok (.invokestatic 111, 3) := by decide +kernel
theorem dX4_isFoggy_8 : decode cX4_isFoggy 8 = .ok (.ireturn, 1) := by decide +kernel
theorem dX4_kiteBits_0 : decode cX4_kiteBits 0 = .ok (.iconst 0, 1) := by decide +kernel
theorem dX4_kiteBits_1 : decode cX4_kiteBits 1 = .ok (.istore_n 1, 1) := by decide +kernel
theorem dX4_kiteBits_2 : decode cX4_kiteBits 2 = .ok (.iconst 0, 1) := by decide +kernel
theorem dX4_kiteBits_3 : decode cX4_kiteBits 3 = .ok (.istore_n 2, 1) := by decide +kernel
theorem dX4_kiteBits_4 : decode cX4_kiteBits 4 = .ok (.iload_n 2, 1) := by decide +kernel
theorem dX4_kiteBits_5 : decode cX4_kiteBits 5 = .ok (.bipush 6, 2) := by decide +kernel
theorem dX4_kiteBits_7 : decode cX4_kiteBits 7 = .ok (.if_icmp .ge 31, 3) := by decide +kernel
theorem dX4_kiteBits_10 : decode cX4_kiteBits 10 = .ok (.iload_n 1, 1) := by decide +kernel
theorem dX4_kiteBits_11 : decode cX4_kiteBits 11 = .ok (.aload_n 0, 1) := by decide +kernel
theorem dX4_kiteBits_12 : decode cX4_kiteBits 12 = .ok (.getfield 11, 3) := by decide +kernel
theorem dX4_kiteBits_15 : decode cX4_kiteBits 15 = .ok (.iload_n 2, 1) := by decide +kernel
theorem dX4_kiteBits_16 : decode cX4_kiteBits 16 = .ok (.aaload, 1) := by decide +kernel
theorem dX4_kiteBits_17 : decode cX4_kiteBits 17 = .ok (.getfield 67, 3) := by decide +kernel
theorem dX4_kiteBits_20 : decode cX4_kiteBits 20 = .ok (.ifCond .eq 9, 3) := by decide +kernel
theorem dX4_kiteBits_23 : decode cX4_kiteBits 23 = .ok (.iconst 1, 1) := by decide +kernel
theorem dX4_kiteBits_24 : decode cX4_kiteBits 24 = .ok (.iload_n 2, 1) := by decide +kernel
theorem dX4_kiteBits_25 : decode cX4_kiteBits 25 = .ok (.ishl, 1) := by decide +kernel
theorem dX4_kiteBits_26 : decode cX4_kiteBits 26 = .ok (.goto 4, 3) := by decide +kernel
theorem dX4_kiteBits_29 : decode cX4_kiteBits 29 = .ok (.iconst 0, 1) := by decide +kernel
theorem dX4_kiteBits_30 : decode cX4_kiteBits 30 = .ok (.ior, 1) := by decide +kernel
theorem dX4_kiteBits_31 : decode cX4_kiteBits 31 = .ok (.istore_n 1, 1) := by decide +kernel
theorem dX4_kiteBits_32 : decode cX4_kiteBits 32 = .ok (.iinc 2 1, 3) := by decide +kernel
theorem dX4_kiteBits_35 : decode cX4_kiteBits 35 = .ok (.goto (-31), 3) := by decide +kernel
theorem dX4_kiteBits_38 : decode cX4_kiteBits 38 = .ok (.iload_n 1, 1) := by decide +kernel
theorem dX4_kiteBits_39 : decode cX4_kiteBits 39 = .ok (.ireturn, 1) := by decide +kernel
theorem dX4_shoalBits_0 : decode cX4_shoalBits 0 = .ok (.iconst 0, 1) := by decide +kernel
theorem dX4_shoalBits_1 : decode cX4_shoalBits 1 = .ok (.istore_n 1, 1) := by decide +kernel
theorem dX4_shoalBits_2 : decode cX4_shoalBits 2 = .ok (.iconst 0, 1) := by decide +kernel
theorem dX4_shoalBits_3 : decode cX4_shoalBits 3 = .ok (.istore_n 2, 1) := by decide +kernel
theorem dX4_shoalBits_4 : decode cX4_shoalBits 4 = .ok (.iload_n 2, 1) := by decide +kernel
theorem dX4_shoalBits_5 : decode cX4_shoalBits 5 = .ok (.iconst 4, 1) := by decide +kernel
theorem dX4_shoalBits_6 : decode cX4_shoalBits 6 = .ok (.if_icmp .ge 31, 3) := by decide +kernel
theorem dX4_shoalBits_9 : decode cX4_shoalBits 9 = .ok (.iload_n 1, 1) := by decide +kernel
theorem dX4_shoalBits_10 : decode cX4_shoalBits 10 = .ok (.aload_n 0, 1) := by decide +kernel
theorem dX4_shoalBits_11 : decode cX4_shoalBits 11 = .ok (.getfield 19, 3) := by decide +kernel
theorem dX4_shoalBits_14 : decode cX4_shoalBits 14 = .ok (.iload_n 2, 1) := by decide +kernel
theorem dX4_shoalBits_15 : decode cX4_shoalBits 15 = .ok (.aaload, 1) := by decide +kernel
theorem dX4_shoalBits_16 : decode cX4_shoalBits 16 = .ok (.getfield 86, 3) := by decide +kernel
theorem dX4_shoalBits_19 : decode cX4_shoalBits 19 = .ok (.ifCond .eq 9, 3) := by decide +kernel
theorem dX4_shoalBits_22 : decode cX4_shoalBits 22 = .ok (.iconst 1, 1) := by decide +kernel
theorem dX4_shoalBits_23 : decode cX4_shoalBits 23 = .ok (.iload_n 2, 1) := by decide +kernel
theorem dX4_shoalBits_24 : decode cX4_shoalBits 24 = .ok (.ishl, 1) := by decide +kernel
theorem dX4_shoalBits_25 : decode cX4_shoalBits 25 = .ok (.goto 4, 3) := by decide +kernel
theorem dX4_shoalBits_28 : decode cX4_shoalBits 28 = .ok (.iconst 0, 1) := by decide +kernel
theorem dX4_shoalBits_29 : decode cX4_shoalBits 29 = .ok (.ior, 1) := by decide +kernel
theorem dX4_shoalBits_30 : decode cX4_shoalBits 30 = .ok (.istore_n 1, 1) := by decide +kernel
theorem dX4_shoalBits_31 : decode cX4_shoalBits 31 = .ok (.iinc 2 1, 3) := by decide +kernel
theorem dX4_shoalBits_34 : decode cX4_shoalBits 34 = .ok (.goto (-30), 3) := by decide +kernel
theorem dX4_shoalBits_37 : decode cX4_shoalBits 37 = .ok (.iload_n 1, 1) := by decide +kernel
theorem dX4_shoalBits_38 : decode cX4_shoalBits 38 = .ok (.ireturn, 1) := by decide +kernel
theorem dX4_shoalX_0 : decode cX4_shoalX 0 = .ok (.aload_n 0, 1) := by decide +kernel
theorem dX4_shoalX_1 : decode cX4_shoalX 1 = .ok (.iload_n 1, 1) := by decide +kernel
theorem dX4_shoalX_2 : decode cX4_shoalX 2 = .ok (.invokevirtual 115, 3) := by decide +kernel
theorem dX4_shoalX_5 : decode cX4_shoalX 5 = .ok (.ifCond .eq 27, 3) := by decide +kernel
theorem dX4_shoalX_8 : decode cX4_shoalX 8 = .ok (.aload_n 0, 1) := by decide +kernel
theorem dX4_shoalX_9 : decode cX4_shoalX 9 = .ok (.getfield 19, 3) := by decide +kernel
theorem dX4_shoalX_12 : decode cX4_shoalX 12 = .ok (.iload_n 1, 1) := by decide +kernel
theorem dX4_shoalX_13 : decode cX4_shoalX 13 = .ok (.aaload, 1) := by decide +kernel
theorem dX4_shoalX_14 : decode cX4_shoalX 14 = .ok (.getfield 87, 3) := by decide +kernel
theorem dX4_shoalX_17 : decode cX4_shoalX 17 = .ok (.iload_n 2, 1) := by decide +kernel
theorem dX4_shoalX_18 : decode cX4_shoalX 18 = .ok (.aload_n 0, 1) := by decide +kernel
theorem dX4_shoalX_19 : decode cX4_shoalX 19 = .ok (.getfield 19, 3) := by decide +kernel
theorem dX4_shoalX_22 : decode cX4_shoalX 22 = .ok (.iload_n 1, 1) := by decide +kernel
theorem dX4_shoalX_23 : decode cX4_shoalX 23 = .ok (.aaload, 1) := by decide +kernel
theorem dX4_shoalX_24 : decode cX4_shoalX 24 = .ok (.getfield 93, 3) := by decide +kernel
theorem dX4_shoalX_27 : decode cX4_shoalX 27 = .ok (.imul, 1) := by decide +kernel
theorem dX4_shoalX_28 : decode cX4_shoalX 28 = .ok (.iadd, 1) := by decide +kernel
theorem dX4_shoalX_29 : decode cX4_shoalX 29 = .ok (.goto 4, 3) := by decide +kernel
theorem dX4_shoalX_32 : decode cX4_shoalX 32 = .ok (.iconst (-1), 1) := by decide +kernel
theorem dX4_shoalX_33 : decode cX4_shoalX 33 = .ok (.ireturn, 1) := by decide +kernel
theorem dX4_shoalY_0 : decode cX4_shoalY 0 = .ok (.aload_n 0, 1) := by decide +kernel
theorem dX4_shoalY_1 : decode cX4_shoalY 1 = .ok (.iload_n 1, 1) := by decide +kernel
theorem dX4_shoalY_2 : decode cX4_shoalY 2 = .ok (.invokevirtual 115, 3) := by decide +kernel
theorem dX4_shoalY_5 : decode cX4_shoalY 5 = .ok (.ifCond .eq 27, 3) := by decide +kernel
theorem dX4_shoalY_8 : decode cX4_shoalY 8 = .ok (.aload_n 0, 1) := by decide +kernel
theorem dX4_shoalY_9 : decode cX4_shoalY 9 = .ok (.getfield 19, 3) := by decide +kernel
theorem dX4_shoalY_12 : decode cX4_shoalY 12 = .ok (.iload_n 1, 1) := by decide +kernel
theorem dX4_shoalY_13 : decode cX4_shoalY 13 = .ok (.aaload, 1) := by decide +kernel
theorem dX4_shoalY_14 : decode cX4_shoalY 14 = .ok (.getfield 90, 3) := by decide +kernel
theorem dX4_shoalY_17 : decode cX4_shoalY 17 = .ok (.iload_n 2, 1) := by decide +kernel
theorem dX4_shoalY_18 : decode cX4_shoalY 18 = .ok (.aload_n 0, 1) := by decide +kernel
theorem dX4_shoalY_19 : decode cX4_shoalY 19 = .ok (.getfield 19, 3) := by decide +kernel
theorem dX4_shoalY_22 : decode cX4_shoalY 22 = .ok (.iload_n 1, 1) := by decide +kernel
theorem dX4_shoalY_23 : decode cX4_shoalY 23 = .ok (.aaload, 1) := by decide +kernel
theorem dX4_shoalY_24 : decode cX4_shoalY 24 = .ok (.getfield 96, 3) := by decide +kernel
theorem dX4_shoalY_27 : decode cX4_shoalY 27 = .ok (.imul, 1) := by decide +kernel
theorem dX4_shoalY_28 : decode cX4_shoalY 28 = .ok (.iadd, 1) := by decide +kernel
theorem dX4_shoalY_29 : decode cX4_shoalY 29 = .ok (.goto 4, 3) := by decide +kernel
theorem dX4_shoalY_32 : decode cX4_shoalY 32 = .ok (.iconst (-1), 1) := by decide +kernel
theorem dX4_shoalY_33 : decode cX4_shoalY 33 = .ok (.ireturn, 1) := by decide +kernel
theorem dX4_kiteX_0 : decode cX4_kiteX 0 = .ok (.aload_n 0, 1) := by decide +kernel
theorem dX4_kiteX_1 : decode cX4_kiteX 1 = .ok (.iload_n 1, 1) := by decide +kernel
theorem dX4_kiteX_2 : decode cX4_kiteX 2 = .ok (.invokevirtual 118, 3) := by decide +kernel
theorem dX4_kiteX_5 : decode cX4_kiteX 5 = .ok (.ifCond .eq 37, 3) := by decide +kernel
theorem dX4_kiteX_8 : decode cX4_kiteX 8 = .ok (.aload_n 0, 1) := by decide +kernel
theorem dX4_kiteX_9 : decode cX4_kiteX 9 = .ok (.getfield 11, 3) := by decide +kernel
theorem dX4_kiteX_12 : decode cX4_kiteX 12 = .ok (.iload_n 1, 1) := by decide +kernel
theorem dX4_kiteX_13 : decode cX4_kiteX 13 = .ok (.aaload, 1) := by decide +kernel
theorem dX4_kiteX_14 : decode cX4_kiteX 14 = .ok (.getfield 71, 3) := by decide +kernel
theorem dX4_kiteX_17 : decode cX4_kiteX 17 = .ok (.aload_n 0, 1) := by decide +kernel
theorem dX4_kiteX_18 : decode cX4_kiteX 18 = .ok (.getfield 27, 3) := by decide +kernel
theorem dX4_kiteX_21 : decode cX4_kiteX 21 = .ok (.iload_n 2, 1) := by decide +kernel
theorem dX4_kiteX_22 : decode cX4_kiteX 22 = .ok (.iload_n 3, 1) := by decide +kernel
theorem dX4_kiteX_23 : decode cX4_kiteX 23 = .ok (.invokestatic 121, 3) := by decide +kernel
theorem dX4_kiteX_26 : decode cX4_kiteX 26 = .ok (.aload_n 0, 1) := by decide +kernel
theorem dX4_kiteX_27 : decode cX4_kiteX 27 = .ok (.getfield 11, 3) := by decide +kernel
theorem dX4_kiteX_30 : decode cX4_kiteX 30 = .ok (.iload_n 1, 1) := by decide +kernel
theorem dX4_kiteX_31 : decode cX4_kiteX 31 = .ok (.aaload, 1) := by decide +kernel
theorem dX4_kiteX_32 : decode cX4_kiteX 32 = .ok (.getfield 77, 3) := by decide +kernel
theorem dX4_kiteX_35 : decode cX4_kiteX 35 = .ok (.imul, 1) := by decide +kernel
theorem dX4_kiteX_36 : decode cX4_kiteX 36 = .ok (.iconst 3, 1) := by decide +kernel
theorem dX4_kiteX_37 : decode cX4_kiteX 37 = .ok (.idiv, 1) := by decide +kernel
theorem dX4_kiteX_38 : decode cX4_kiteX 38 = .ok (.iadd, 1) := by decide +kernel
theorem dX4_kiteX_39 : decode cX4_kiteX 39 = .ok (.goto 4, 3) := by decide +kernel
theorem dX4_kiteX_42 : decode cX4_kiteX 42 = .ok (.iconst (-1), 1) := by decide +kernel
theorem dX4_kiteX_43 : decode cX4_kiteX 43 = .ok (.ireturn, 1) := by decide +kernel
theorem dX4_kiteY_0 : decode cX4_kiteY 0 = .ok (.aload_n 0, 1) := by decide +kernel
theorem dX4_kiteY_1 : decode cX4_kiteY 1 = .ok (.iload_n 1, 1) := by decide +kernel
theorem dX4_kiteY_2 : decode cX4_kiteY 2 = .ok (.invokevirtual 118, 3) := by decide +kernel
theorem dX4_kiteY_5 : decode cX4_kiteY 5 = .ok (.ifCond .eq 17, 3) := by decide +kernel
theorem dX4_kiteY_8 : decode cX4_kiteY 8 = .ok (.aload_n 0, 1) := by decide +kernel
theorem dX4_kiteY_9 : decode cX4_kiteY 9 = .ok (.getfield 11, 3) := by decide +kernel
theorem dX4_kiteY_12 : decode cX4_kiteY 12 = .ok (.iload_n 1, 1) := by decide +kernel
theorem dX4_kiteY_13 : decode cX4_kiteY 13 = .ok (.aaload, 1) := by decide +kernel
theorem dX4_kiteY_14 : decode cX4_kiteY 14 = .ok (.getfield 77, 3) := by decide +kernel
theorem dX4_kiteY_17 : decode cX4_kiteY 17 = .ok (.iload_n 2, 1) := by decide +kernel
theorem dX4_kiteY_18 : decode cX4_kiteY 18 = .ok (.isub, 1) := by decide +kernel
theorem dX4_kiteY_19 : decode cX4_kiteY 19 = .ok (.goto 4, 3) := by decide +kernel
theorem dX4_kiteY_22 : decode cX4_kiteY 22 = .ok (.iconst (-1), 1) := by decide +kernel
theorem dX4_kiteY_23 : decode cX4_kiteY 23 = .ok (.ireturn, 1) := by decide +kernel
theorem dX4_isInSea_0 : decode cX4_isInSea 0 = .ok (.aload_n 0, 1) := by decide +kernel
theorem dX4_isInSea_1 : decode cX4_isInSea 1 = .ok (.iload_n 1, 1) := by decide +kernel
theorem dX4_isInSea_2 : decode cX4_isInSea 2 = .ok (.iload_n 2, 1) := by decide +kernel
theorem dX4_isInSea_3 : decode cX4_isInSea 3 = .ok (.iload_n 3, 1) := by decide +kernel
theorem dX4_isInSea_4 : decode cX4_isInSea 4 = .ok (.invokevirtual 125, 3) := by decide +kernel
theorem dX4_isInSea_7 : decode cX4_isInSea 7 = .ok (.istore 4, 2) := by decide +kernel
theorem dX4_isInSea_9 : decode cX4_isInSea 9 = .ok (.aload_n 0, 1) := by decide +kernel
theorem dX4_isInSea_10 : decode cX4_isInSea 10 = .ok (.iload_n 1, 1) := by decide +kernel
theorem dX4_isInSea_11 : decode cX4_isInSea 11 = .ok (.iload_n 2, 1) := by decide +kernel
theorem dX4_isInSea_12 : decode cX4_isInSea 12 = .ok (.invokevirtual 129, 3) := by decide +kernel
theorem dX4_isInSea_15 : decode cX4_isInSea 15 = .ok (.istore 5, 2) := by decide +kernel
theorem dX4_isInSea_17 : decode cX4_isInSea 17 = .ok (.iload 4, 2) := by decide +kernel
theorem dX4_isInSea_19 : decode cX4_isInSea 19 = .ok (.ifCond .lt 27, 3) := by decide +kernel
theorem dX4_isInSea_22 : decode cX4_isInSea 22 = .ok (.iload 4, 2) := by decide +kernel
theorem dX4_isInSea_24 : decode cX4_isInSea 24 = .ok (.bipush 9, 2) := by decide +kernel
theorem dX4_isInSea_26 : decode cX4_isInSea 26 = .ok (.if_icmp .gt 20, 3) := by decide +kernel
theorem dX4_isInSea_29 : decode cX4_isInSea 29 = .ok (.iload 5, 2) := by decide +kernel
theorem dX4_isInSea_31 : decode cX4_isInSea 31 = .ok (.iconst 1, 1) := by decide +kernel
theorem dX4_isInSea_32 : decode cX4_isInSea 32 = .ok (.if_icmp .lt 14, 3) := by decide +kernel
theorem dX4_isInSea_35 : decode cX4_isInSea 35 = .ok (.iload 5, 2) := by decide +kernel
theorem dX4_isInSea_37 : decode cX4_isInSea 37 = .ok (.bipush 6, 2) := by decide +kernel
theorem dX4_isInSea_39 : decode cX4_isInSea 39 = .ok (.if_icmp .gt 7, 3) := by decide +kernel
theorem dX4_isInSea_42 : decode cX4_isInSea 42 = .ok (.iconst 1, 1) := by decide +kernel
theorem dX4_isInSea_43 : decode cX4_isInSea 43 = .ok (.goto 4, 3) := by decide +kernel
theorem dX4_isInSea_46 : decode cX4_isInSea 46 = .ok (.iconst 0, 1) := by decide +kernel
theorem dX4_isInSea_47 : decode cX4_isInSea 47 = .ok (.ireturn, 1) := by decide +kernel
theorem dX4_hasLift_0 : decode cX4_hasLift 0 = .ok (.aload_n 0, 1) := by decide +kernel
theorem dX4_hasLift_1 : decode cX4_hasLift 1 = .ok (.iload_n 1, 1) := by decide +kernel
theorem dX4_hasLift_2 : decode cX4_hasLift 2 = .ok (.invokevirtual 118, 3) := by decide +kernel
theorem dX4_hasLift_5 : decode cX4_hasLift 5 = .ok (.ifCond .eq 38, 3) := by decide +kernel
theorem dX4_hasLift_8 : decode cX4_hasLift 8 = .ok (.aload_n 0, 1) := by decide +kernel
theorem dX4_hasLift_9 : decode cX4_hasLift 9 = .ok (.getfield 11, 3) := by decide +kernel
theorem dX4_hasLift_12 : decode cX4_hasLift 12 = .ok (.iload_n 1, 1) := by decide +kernel
theorem dX4_hasLift_13 : decode cX4_hasLift 13 = .ok (.aaload, 1) := by decide +kernel
theorem dX4_hasLift_14 : decode cX4_hasLift 14 = .ok (.getfield 74, 3) := by decide +kernel
theorem dX4_hasLift_17 : decode cX4_hasLift 17 = .ok (.aload_n 0, 1) := by decide +kernel
theorem dX4_hasLift_18 : decode cX4_hasLift 18 = .ok (.getfield 23, 3) := by decide +kernel
theorem dX4_hasLift_21 : decode cX4_hasLift 21 = .ok (.iload_n 2, 1) := by decide +kernel
theorem dX4_hasLift_22 : decode cX4_hasLift 22 = .ok (.iload_n 3, 1) := by decide +kernel
theorem dX4_hasLift_23 : decode cX4_hasLift 23 = .ok (.invokestatic 121, 3) := by decide +kernel
theorem dX4_hasLift_26 : decode cX4_hasLift 26 = .ok (.imul, 1) := by decide +kernel
theorem dX4_hasLift_27 : decode cX4_hasLift 27 = .ok (.aload_n 0, 1) := by decide +kernel
theorem dX4_hasLift_28 : decode cX4_hasLift 28 = .ok (.getfield 11, 3) := by decide +kernel
theorem dX4_hasLift_31 : decode cX4_hasLift 31 = .ok (.iload_n 1, 1) := by decide +kernel
theorem dX4_hasLift_32 : decode cX4_hasLift 32 = .ok (.aaload, 1) := by decide +kernel
theorem dX4_hasLift_33 : decode cX4_hasLift 33 = .ok (.getfield 80, 3) := by decide +kernel
theorem dX4_hasLift_36 : decode cX4_hasLift 36 = .ok (.if_icmp .lt 7, 3) := by decide +kernel
theorem dX4_hasLift_39 : decode cX4_hasLift 39 = .ok (.iconst 1, 1) := by decide +kernel
theorem dX4_hasLift_40 : decode cX4_hasLift 40 = .ok (.goto 4, 3) := by decide +kernel
theorem dX4_hasLift_43 : decode cX4_hasLift 43 = .ok (.iconst 0, 1) := by decide +kernel
theorem dX4_hasLift_44 : decode cX4_hasLift 44 = .ok (.ireturn, 1) := by decide +kernel
theorem dX4_wouldCross_0 : decode cX4_wouldCross 0 = .ok (.aload_n 0, 1) := by decide +kernel
theorem dX4_wouldCross_1 : decode cX4_wouldCross 1 = .ok (.iload_n 1, 1) := by decide +kernel
theorem dX4_wouldCross_2 : decode cX4_wouldCross 2 = .ok (.invokevirtual 118, 3) := by decide +kernel
theorem dX4_wouldCross_5 : decode cX4_wouldCross 5 = .ok (.ifCond .eq 11, 3) := by decide +kernel
theorem dX4_wouldCross_8 : decode cX4_wouldCross 8 = .ok (.aload_n 0, 1) := by decide +kernel
theorem dX4_wouldCross_9 : decode cX4_wouldCross 9 = .ok (.iload_n 2, 1) := by decide +kernel
theorem dX4_wouldCross_10 : decode cX4_wouldCross 10 = .ok (.invokevirtual 118, 3) := by decide +kernel
theorem dX4_wouldCross_13 : decode cX4_wouldCross 13 = .ok (.ifCond .ne 5, 3) := by decide +kernel
theorem dX4_wouldCross_16 : decode cX4_wouldCross 16 = .ok (.iconst 0, 1) := by decide +kernel
theorem dX4_wouldCross_17 : decode cX4_wouldCross 17 = .ok (.ireturn, 1) := by decide +kernel
theorem dX4_wouldCross_18 : decode cX4_wouldCross 18 = .ok (.aload_n 0, 1) := by decide +kernel
theorem dX4_wouldCross_19 : decode cX4_wouldCross 19 = .ok (.getfield 11, 3) := by decide +kernel
theorem dX4_wouldCross_22 : decode cX4_wouldCross 22 = .ok (.iload_n 1, 1) := by decide +kernel
theorem dX4_wouldCross_23 : decode cX4_wouldCross 23 = .ok (.aaload, 1) := by decide +kernel
theorem dX4_wouldCross_24 : decode cX4_wouldCross 24 = .ok (.getfield 71, 3) := by decide +kernel
theorem dX4_wouldCross_27 : decode cX4_wouldCross 27 = .ok (.aload_n 0, 1) := by decide +kernel
theorem dX4_wouldCross_28 : decode cX4_wouldCross 28 = .ok (.getfield 11, 3) := by decide +kernel
theorem dX4_wouldCross_31 : decode cX4_wouldCross 31 = .ok (.iload_n 2, 1) := by decide +kernel
theorem dX4_wouldCross_32 : decode cX4_wouldCross 32 = .ok (.aaload, 1) := by decide +kernel
theorem dX4_wouldCross_33 : decode cX4_wouldCross 33 = .ok (.getfield 71, 3) := by decide +kernel
theorem dX4_wouldCross_36 : decode cX4_wouldCross 36 = .ok (.isub, 1) := by decide +kernel
theorem dX4_wouldCross_37 : decode cX4_wouldCross 37 = .ok (.istore 5, 2) := by decide +kernel
theorem dX4_wouldCross_39 : decode cX4_wouldCross 39 = .ok (.aload_n 0, 1) := by decide +kernel
theorem dX4_wouldCross_40 : decode cX4_wouldCross 40 = .ok (.iload_n 1, 1) := by decide +kernel
theorem dX4_wouldCross_41 : decode cX4_wouldCross 41 = .ok (.iload_n 3, 1) := by decide +kernel
theorem dX4_wouldCross_42 : decode cX4_wouldCross 42 = .ok (.iload 4, 2) := by decide +kernel
theorem dX4_wouldCross_44 : decode cX4_wouldCross 44 = .ok (.invokevirtual 125, 3) := by decide +kernel
theorem dX4_wouldCross_47 : decode cX4_wouldCross 47 = .ok (.aload_n 0, 1) := by decide +kernel
theorem dX4_wouldCross_48 : decode cX4_wouldCross 48 = .ok (.iload_n 2, 1) := by decide +kernel
theorem dX4_wouldCross_49 : decode cX4_wouldCross 49 = .ok (.iload_n 3, 1) := by decide +kernel
theorem dX4_wouldCross_50 : decode cX4_wouldCross 50 = .ok (.iload 4, 2) := by decide +kernel
theorem dX4_wouldCross_52 : decode cX4_wouldCross 52 = .ok (.invokevirtual 125, 3) := by decide +kernel
theorem dX4_wouldCross_55 : decode cX4_wouldCross 55 = .ok (.isub, 1) := by decide +kernel
theorem dX4_wouldCross_56 : decode cX4_wouldCross 56 = .ok (.istore 6, 2) := by decide +kernel
theorem dX4_wouldCross_58 : decode cX4_wouldCross 58 = .ok (.iload 5, 2) := by decide +kernel
theorem dX4_wouldCross_60 : decode cX4_wouldCross 60 = .ok (.ifCond .ne 5, 3) := by decide +kernel
theorem dX4_wouldCross_63 : decode cX4_wouldCross 63 = .ok (.iconst 1, 1) := by decide +kernel
theorem dX4_wouldCross_64 : decode cX4_wouldCross 64 = .ok (.ireturn, 1) := by decide +kernel
theorem dX4_wouldCross_65 : decode cX4_wouldCross 65 = .ok (.iload 5, 2) := by decide +kernel
theorem dX4_wouldCross_67 : decode cX4_wouldCross 67 = .ok (.ifCond .ge 16, 3) := by decide +kernel
theorem dX4_wouldCross_70 : decode cX4_wouldCross 70 = .ok (.iload 6, 2) := by decide +kernel
theorem dX4_wouldCross_72 : decode cX4_wouldCross 72 = .ok (.ifCond .lt 7, 3) := by decide +kernel
theorem dX4_wouldCross_75 : decode cX4_wouldCross 75 = .ok (.iconst 1, 1) := by decide +kernel
theorem dX4_wouldCross_76 : decode cX4_wouldCross 76 = .ok (.goto 17, 3) := by decide +kernel
theorem dX4_wouldCross_79 : decode cX4_wouldCross 79 = .ok (.iconst 0, 1) := by decide +kernel
theorem dX4_wouldCross_80 : decode cX4_wouldCross 80 = .ok (.goto 13, 3) := by decide +kernel
theorem dX4_wouldCross_83 : decode cX4_wouldCross 83 = .ok (.iload 6, 2) := by decide +kernel
theorem dX4_wouldCross_85 : decode cX4_wouldCross 85 = .ok (.ifCond .gt 7, 3) := by decide +kernel
theorem dX4_wouldCross_88 : decode cX4_wouldCross 88 = .ok (.iconst 1, 1) := by decide +kernel
theorem dX4_wouldCross_89 : decode cX4_wouldCross 89 = .ok (.goto 4, 3) := by decide +kernel
theorem dX4_wouldCross_92 : decode cX4_wouldCross 92 = .ok (.iconst 0, 1) := by decide +kernel
theorem dX4_wouldCross_93 : decode cX4_wouldCross 93 = .ok (.ireturn, 1) := by decide +kernel
theorem dX4_givingWay_0 : decode cX4_givingWay 0 = .ok (.aload_n 0, 1) := by decide +kernel
theorem dX4_givingWay_1 : decode cX4_givingWay 1 = .ok (.iload_n 1, 1) := by decide +kernel
theorem dX4_givingWay_2 : decode cX4_givingWay 2 = .ok (.invokevirtual 118, 3) := by decide +kernel
theorem dX4_givingWay_5 : decode cX4_givingWay 5 = .ok (.ifCond .eq 11, 3) := by decide +kernel
theorem dX4_givingWay_8 : decode cX4_givingWay 8 = .ok (.aload_n 0, 1) := by decide +kernel
theorem dX4_givingWay_9 : decode cX4_givingWay 9 = .ok (.iload_n 2, 1) := by decide +kernel
theorem dX4_givingWay_10 : decode cX4_givingWay 10 = .ok (.invokevirtual 118, 3) := by decide +kernel
theorem dX4_givingWay_13 : decode cX4_givingWay 13 = .ok (.ifCond .ne 5, 3) := by decide +kernel
theorem dX4_givingWay_16 : decode cX4_givingWay 16 = .ok (.iload_n 2, 1) := by decide +kernel
theorem dX4_givingWay_17 : decode cX4_givingWay 17 = .ok (.ireturn, 1) := by decide +kernel
theorem dX4_givingWay_18 : decode cX4_givingWay 18 = .ok (.aload_n 0, 1) := by decide +kernel
theorem dX4_givingWay_19 : decode cX4_givingWay 19 = .ok (.getfield 11, 3) := by decide +kernel
theorem dX4_givingWay_22 : decode cX4_givingWay 22 = .ok (.iload_n 1, 1) := by decide +kernel
theorem dX4_givingWay_23 : decode cX4_givingWay 23 = .ok (.aaload, 1) := by decide +kernel
theorem dX4_givingWay_24 : decode cX4_givingWay 24 = .ok (.getfield 74, 3) := by decide +kernel
theorem dX4_givingWay_27 : decode cX4_givingWay 27 = .ok (.aload_n 0, 1) := by decide +kernel
theorem dX4_givingWay_28 : decode cX4_givingWay 28 = .ok (.getfield 11, 3) := by decide +kernel
theorem dX4_givingWay_31 : decode cX4_givingWay 31 = .ok (.iload_n 2, 1) := by decide +kernel
theorem dX4_givingWay_32 : decode cX4_givingWay 32 = .ok (.aaload, 1) := by decide +kernel
theorem dX4_givingWay_33 : decode cX4_givingWay 33 = .ok (.getfield 74, 3) := by decide +kernel
theorem dX4_givingWay_36 : decode cX4_givingWay 36 = .ok (.if_icmp .ge 7, 3) := by decide +kernel
theorem dX4_givingWay_39 : decode cX4_givingWay 39 = .ok (.iconst 1, 1) := by decide +kernel
theorem dX4_givingWay_40 : decode cX4_givingWay 40 = .ok (.goto 4, 3) := by decide +kernel
theorem dX4_givingWay_43 : decode cX4_givingWay 43 = .ok (.iconst 0, 1) := by decide +kernel
theorem dX4_givingWay_44 : decode cX4_givingWay 44 = .ok (.istore 4, 2) := by decide +kernel
theorem dX4_givingWay_46 : decode cX4_givingWay 46 = .ok (.aload_n 0, 1) := by decide +kernel
theorem dX4_givingWay_47 : decode cX4_givingWay 47 = .ok (.getfield 11, 3) := by decide +kernel
theorem dX4_givingWay_50 : decode cX4_givingWay 50 = .ok (.iload_n 1, 1) := by decide +kernel
theorem dX4_givingWay_51 : decode cX4_givingWay 51 = .ok (.aaload, 1) := by decide +kernel
theorem dX4_givingWay_52 : decode cX4_givingWay 52 = .ok (.getfield 83, 3) := by decide +kernel
theorem dX4_givingWay_55 : decode cX4_givingWay 55 = .ok (.aload_n 0, 1) := by decide +kernel
theorem dX4_givingWay_56 : decode cX4_givingWay 56 = .ok (.getfield 11, 3) := by decide +kernel
theorem dX4_givingWay_59 : decode cX4_givingWay 59 = .ok (.iload_n 2, 1) := by decide +kernel
theorem dX4_givingWay_60 : decode cX4_givingWay 60 = .ok (.aaload, 1) := by decide +kernel
theorem dX4_givingWay_61 : decode cX4_givingWay 61 = .ok (.getfield 83, 3) := by decide +kernel
theorem dX4_givingWay_64 : decode cX4_givingWay 64 = .ok (.if_icmp .le 7, 3) := by decide +kernel
theorem dX4_givingWay_67 : decode cX4_givingWay 67 = .ok (.iconst 1, 1) := by decide +kernel
theorem dX4_givingWay_68 : decode cX4_givingWay 68 = .ok (.goto 4, 3) := by decide +kernel
theorem dX4_givingWay_71 : decode cX4_givingWay 71 = .ok (.iconst 0, 1) := by decide +kernel
theorem dX4_givingWay_72 : decode cX4_givingWay 72 = .ok (.istore 5, 2) := by decide +kernel
theorem dX4_givingWay_74 : decode cX4_givingWay 74 = .ok (.iload_n 3, 1) := by decide +kernel
theorem dX4_givingWay_75 : decode cX4_givingWay 75 = .ok (.ifCond .ne 8, 3) := by decide +kernel
theorem dX4_givingWay_78 : decode cX4_givingWay 78 = .ok (.iload 4, 2) := by decide +kernel
theorem dX4_givingWay_80 : decode cX4_givingWay 80 = .ok (.ifCond .ne 13, 3) := by decide +kernel
theorem dX4_givingWay_83 : decode cX4_givingWay 83 = .ok (.iload_n 3, 1) := by decide +kernel
theorem dX4_givingWay_84 : decode cX4_givingWay 84 = .ok (.iconst 1, 1) := by decide +kernel
theorem dX4_givingWay_85 : decode cX4_givingWay 85 = .ok (.if_icmp .ne 12, 3) := by decide +kernel
theorem dX4_givingWay_88 : decode cX4_givingWay 88 = .ok (.iload 5, 2) := by decide +kernel
theorem dX4_givingWay_90 : decode cX4_givingWay 90 = .ok (.ifCond .eq 7, 3) := by decide +kernel
theorem dX4_givingWay_93 : decode cX4_givingWay 93 = .ok (.iconst 1, 1) := by decide +kernel
theorem dX4_givingWay_94 : decode cX4_givingWay 94 = .ok (.goto 4, 3) := by decide +kernel
theorem dX4_givingWay_97 : decode cX4_givingWay 97 = .ok (.iconst 0, 1) := by decide +kernel
theorem dX4_givingWay_98 : decode cX4_givingWay 98 = .ok (.istore 6, 2) := by decide +kernel
theorem dX4_givingWay_100 : decode cX4_givingWay 100 = .ok (.iload 6, 2) := by decide +kernel
theorem dX4_givingWay_102 : decode cX4_givingWay 102 = .ok (.ifCond .eq 7, 3) := by decide +kernel
theorem dX4_givingWay_105 : decode cX4_givingWay 105 = .ok (.iload_n 1, 1) := by decide +kernel
theorem dX4_givingWay_106 : decode cX4_givingWay 106 = .ok (.goto 4, 3) := by decide +kernel
theorem dX4_givingWay_109 : decode cX4_givingWay 109 = .ok (.iload_n 2, 1) := by decide +kernel
theorem dX4_givingWay_110 : decode cX4_givingWay 110 = .ok (.ireturn, 1) := by decide +kernel
theorem dX4_afterGulls_0 : decode cX4_afterGulls 0 = .ok (.aload_n 0, 1) := by decide +kernel
theorem dX4_afterGulls_1 : decode cX4_afterGulls 1 = .ok (.getfield 53, 3) := by decide +kernel
theorem dX4_afterGulls_4 : decode cX4_afterGulls 4 = .ok (.ifCond .le 14, 3) := by decide +kernel
theorem dX4_afterGulls_7 : decode cX4_afterGulls 7 = .ok (.iload_n 1, 1) := by decide +kernel
theorem dX4_afterGulls_8 : decode cX4_afterGulls 8 = .ok (.iload_n 1, 1) := by decide +kernel
theorem dX4_afterGulls_9 : decode cX4_afterGulls 9 = .ok (.aload_n 0, 1) := by decide +kernel
theorem dX4_afterGulls_10 : decode cX4_afterGulls 10 = .ok (.getfield 53, 3) := by decide +kernel
theorem dX4_afterGulls_13 : decode cX4_afterGulls 13 = .ok (.idiv, 1) := by decide +kernel
theorem dX4_afterGulls_14 : decode cX4_afterGulls 14 = .ok (.isub, 1) := by decide +kernel
theorem dX4_afterGulls_15 : decode cX4_afterGulls 15 = .ok (.goto 4, 3) := by decide +kernel
theorem dX4_afterGulls_18 : decode cX4_afterGulls 18 = .ok (.iload_n 1, 1) := by decide +kernel
theorem dX4_afterGulls_19 : decode cX4_afterGulls 19 = .ok (.ireturn, 1) := by decide +kernel
theorem dX4_shareOf_0 : decode cX4_shareOf 0 = .ok (.iconst 0, 1) := by decide +kernel
theorem dX4_shareOf_1 : decode cX4_shareOf 1 = .ok (.istore_n 3, 1) := by decide +kernel
theorem dX4_shareOf_2 : decode cX4_shareOf 2 = .ok (.iconst 0, 1) := by decide +kernel
theorem dX4_shareOf_3 : decode cX4_shareOf 3 = .ok (.istore 4, 2) := by decide +kernel
theorem dX4_shareOf_5 : decode cX4_shareOf 5 = .ok (.iload 4, 2) := by decide +kernel
theorem dX4_shareOf_7 : decode cX4_shareOf 7 = .ok (.bipush 6, 2) := by decide +kernel
theorem dX4_shareOf_9 : decode cX4_shareOf 9 = .ok (.if_icmp .ge 35, 3) := by decide +kernel
theorem dX4_shareOf_12 : decode cX4_shareOf 12 = .ok (.iload_n 3, 1) := by decide +kernel
theorem dX4_shareOf_13 : decode cX4_shareOf 13 = .ok (.aload_n 0, 1) := by decide +kernel
theorem dX4_shareOf_14 : decode cX4_shareOf 14 = .ok (.iload 4, 2) := by decide +kernel
theorem dX4_shareOf_16 : decode cX4_shareOf 16 = .ok (.invokevirtual 118, 3) := by decide +kernel
theorem dX4_shareOf_19 : decode cX4_shareOf 19 = .ok (.ifCond .eq 16, 3) := by decide +kernel
theorem dX4_shareOf_22 : decode cX4_shareOf 22 = .ok (.aload_n 0, 1) := by decide +kernel
theorem dX4_shareOf_23 : decode cX4_shareOf 23 = .ok (.getfield 11, 3) := by decide +kernel
theorem dX4_shareOf_26 : decode cX4_shareOf 26 = .ok (.iload 4, 2) := by decide +kernel
theorem dX4_shareOf_28 : decode cX4_shareOf 28 = .ok (.aaload, 1) := by decide +kernel
theorem dX4_shareOf_29 : decode cX4_shareOf 29 = .ok (.getfield 77, 3) := by decide +kernel
theorem dX4_shareOf_32 : decode cX4_shareOf 32 = .ok (.goto 4, 3) := by decide +kernel
theorem dX4_shareOf_35 : decode cX4_shareOf 35 = .ok (.iconst 0, 1) := by decide +kernel
theorem dX4_shareOf_36 : decode cX4_shareOf 36 = .ok (.iadd, 1) := by decide +kernel
theorem dX4_shareOf_37 : decode cX4_shareOf 37 = .ok (.istore_n 3, 1) := by decide +kernel
theorem dX4_shareOf_38 : decode cX4_shareOf 38 = .ok (.iinc 4 1, 3) := by decide +kernel
theorem dX4_shareOf_41 : decode cX4_shareOf 41 = .ok (.goto (-36), 3) := by decide +kernel
theorem dX4_shareOf_44 : decode cX4_shareOf 44 = .ok (.iload_n 3, 1) := by decide +kernel
theorem dX4_shareOf_45 : decode cX4_shareOf 45 = .ok (.ifCond .le 11, 3) := by decide +kernel
theorem dX4_shareOf_48 : decode cX4_shareOf 48 = .ok (.aload_n 0, 1) := by decide +kernel
theorem dX4_shareOf_49 : decode cX4_shareOf 49 = .ok (.iload_n 2, 1) := by decide +kernel
theorem dX4_shareOf_50 : decode cX4_shareOf 50 = .ok (.invokevirtual 118, 3) := by decide +kernel
theorem dX4_shareOf_53 : decode cX4_shareOf 53 = .ok (.ifCond .ne 5, 3) := by decide +kernel
theorem dX4_shareOf_56 : decode cX4_shareOf 56 = .ok (.iconst 0, 1) := by decide +kernel
theorem dX4_shareOf_57 : decode cX4_shareOf 57 = .ok (.ireturn, 1) := by decide +kernel
theorem dX4_shareOf_58 : decode cX4_shareOf 58 = .ok (.iload_n 1, 1) := by decide +kernel
theorem dX4_shareOf_59 : decode cX4_shareOf 59 = .ok (.aload_n 0, 1) := by decide +kernel
theorem dX4_shareOf_60 : decode cX4_shareOf 60 = .ok (.getfield 11, 3) := by decide +kernel
theorem dX4_shareOf_63 : decode cX4_shareOf 63 = .ok (.iload_n 2, 1) := by decide +kernel
theorem dX4_shareOf_64 : decode cX4_shareOf 64 = .ok (.aaload, 1) := by decide +kernel
theorem dX4_shareOf_65 : decode cX4_shareOf 65 = .ok (.getfield 77, 3) := by decide +kernel
theorem dX4_shareOf_68 : decode cX4_shareOf 68 = .ok (.imul, 1) := by decide +kernel
theorem dX4_shareOf_69 : decode cX4_shareOf 69 = .ok (.iload_n 3, 1) := by decide +kernel
theorem dX4_shareOf_70 : decode cX4_shareOf 70 = .ok (.irem, 1) := by decide +kernel
theorem dX4_shareOf_71 : decode cX4_shareOf 71 = .ok (.istore 4, 2) := by decide +kernel
theorem dX4_shareOf_73 : decode cX4_shareOf 73 = .ok (.iload_n 1, 1) := by decide +kernel
theorem dX4_shareOf_74 : decode cX4_shareOf 74 = .ok (.istore 5, 2) := by decide +kernel
theorem dX4_shareOf_76 : decode cX4_shareOf 76 = .ok (.iconst 0, 1) := by decide +kernel
theorem dX4_shareOf_77 : decode cX4_shareOf 77 = .ok (.istore 6, 2) := by decide +kernel
theorem dX4_shareOf_79 : decode cX4_shareOf 79 = .ok (.iconst 0, 1) := by decide +kernel
theorem dX4_shareOf_80 : decode cX4_shareOf 80 = .ok (.istore 7, 2) := by decide +kernel
theorem dX4_shareOf_82 : decode cX4_shareOf 82 = .ok (.iload 7, 2) := by decide +kernel
theorem dX4_shareOf_84 : decode cX4_shareOf 84 = .ok (.bipush 6, 2) := by decide +kernel
theorem dX4_shareOf_86 : decode cX4_shareOf 86 = .ok (.if_icmp .ge 83, 3) := by decide +kernel
theorem dX4_shareOf_89 : decode cX4_shareOf 89 = .ok (.aload_n 0, 1) := by decide +kernel
theorem dX4_shareOf_90 : decode cX4_shareOf 90 = .ok (.iload 7, 2) := by decide +kernel
theorem dX4_shareOf_92 : decode cX4_shareOf 92 = .ok (.invokevirtual 118, 3) := by decide +kernel
theorem dX4_shareOf_95 : decode cX4_shareOf 95 = .ok (.ifCond .eq 68, 3) := by decide +kernel
theorem dX4_shareOf_98 : decode cX4_shareOf 98 = .ok (.iload_n 1, 1) := by decide +kernel
theorem dX4_shareOf_99 : decode cX4_shareOf 99 = .ok (.aload_n 0, 1) := by decide +kernel
theorem dX4_shareOf_100 : decode cX4_shareOf 100 = .ok (.getfield 11, 3) := by decide +kernel
theorem dX4_shareOf_103 : decode cX4_shareOf 103 = .ok (.iload 7, 2) := by decide +kernel
theorem dX4_shareOf_105 : decode cX4_shareOf 105 = .ok (.aaload, 1) := by decide +kernel
theorem dX4_shareOf_106 : decode cX4_shareOf 106 = .ok (.getfield 77, 3) := by decide +kernel
theorem dX4_shareOf_109 : decode cX4_shareOf 109 = .ok (.imul, 1) := by decide +kernel
theorem dX4_shareOf_110 : decode cX4_shareOf 110 = .ok (.iload_n 3, 1) := by decide +kernel
theorem dX4_shareOf_111 : decode cX4_shareOf 111 = .ok (.irem, 1) := by decide +kernel
theorem dX4_shareOf_112 : decode cX4_shareOf 112 = .ok (.istore 8, 2) := by decide +kernel
theorem dX4_shareOf_114 : decode cX4_shareOf 114 = .ok (.iload 5, 2) := by decide +kernel
theorem dX4_shareOf_116 : decode cX4_shareOf 116 = .ok (.iload_n 1, 1) := by decide +kernel
theorem dX4_shareOf_117 : decode cX4_shareOf 117 = .ok (.aload_n 0, 1) := by decide +kernel
theorem dX4_shareOf_118 : decode cX4_shareOf 118 = .ok (.getfield 11, 3) := by decide +kernel
theorem dX4_shareOf_121 : decode cX4_shareOf 121 = .ok (.iload 7, 2) := by decide +kernel
theorem dX4_shareOf_123 : decode cX4_shareOf 123 = .ok (.aaload, 1) := by decide +kernel
theorem dX4_shareOf_124 : decode cX4_shareOf 124 = .ok (.getfield 77, 3) := by decide +kernel
theorem dX4_shareOf_127 : decode cX4_shareOf 127 = .ok (.imul, 1) := by decide +kernel
theorem dX4_shareOf_128 : decode cX4_shareOf 128 = .ok (.iload_n 3, 1) := by decide +kernel
theorem dX4_shareOf_129 : decode cX4_shareOf 129 = .ok (.idiv, 1) := by decide +kernel
theorem dX4_shareOf_130 : decode cX4_shareOf 130 = .ok (.isub, 1) := by decide +kernel
theorem dX4_shareOf_131 : decode cX4_shareOf 131 = .ok (.istore 5, 2) := by decide +kernel
theorem dX4_shareOf_133 : decode cX4_shareOf 133 = .ok (.iload 6, 2) := by decide +kernel
theorem dX4_shareOf_135 : decode cX4_shareOf 135 = .ok (.iload 8, 2) := by decide +kernel
theorem dX4_shareOf_137 : decode cX4_shareOf 137 = .ok (.iload 4, 2) := by decide +kernel
theorem dX4_shareOf_139 : decode cX4_shareOf 139 = .ok (.if_icmp .gt 16, 3) := by decide +kernel
theorem dX4_shareOf_142 : decode cX4_shareOf 142 = .ok (.iload 8, 2) := by decide +kernel
theorem dX4_shareOf_144 : decode cX4_shareOf 144 = .ok (.iload 4, 2) := by decide +kernel
theorem dX4_shareOf_146 : decode cX4_shareOf 146 = .ok (.if_icmp .ne 13, 3) := by decide +kernel
theorem dX4_shareOf_149 : decode cX4_shareOf 149 = .ok (.iload 7, 2) := by decide +kernel
theorem dX4_shareOf_151 : decode cX4_shareOf 151 = .ok (.iload_n 2, 1) := by decide +kernel
theorem dX4_shareOf_152 : decode cX4_shareOf 152 = .ok (.if_icmp .ge 7, 3) := by decide +kernel
theorem dX4_shareOf_155 : decode cX4_shareOf 155 = .ok (.iconst 1, 1) := by decide +kernel
theorem dX4_shareOf_156 : decode cX4_shareOf 156 = .ok (.goto 4, 3) := by decide +kernel
theorem dX4_shareOf_159 : decode cX4_shareOf 159 = .ok (.iconst 0, 1) := by decide +kernel
theorem dX4_shareOf_160 : decode cX4_shareOf 160 = .ok (.iadd, 1) := by decide +kernel
theorem dX4_shareOf_161 : decode cX4_shareOf 161 = .ok (.istore 6, 2) := by decide +kernel
theorem dX4_shareOf_163 : decode cX4_shareOf 163 = .ok (.iinc 7 1, 3) := by decide +kernel
theorem dX4_shareOf_166 : decode cX4_shareOf 166 = .ok (.goto (-84), 3) := by decide +kernel
theorem dX4_shareOf_169 : decode cX4_shareOf 169 = .ok (.iload_n 1, 1) := by decide +kernel
theorem dX4_shareOf_170 : decode cX4_shareOf 170 = .ok (.aload_n 0, 1) := by decide +kernel
theorem dX4_shareOf_171 : decode cX4_shareOf 171 = .ok (.getfield 11, 3) := by decide +kernel
theorem dX4_shareOf_174 : decode cX4_shareOf 174 = .ok (.iload_n 2, 1) := by decide +kernel
theorem dX4_shareOf_175 : decode cX4_shareOf 175 = .ok (.aaload, 1) := by decide +kernel
theorem dX4_shareOf_176 : decode cX4_shareOf 176 = .ok (.getfield 77, 3) := by decide +kernel
theorem dX4_shareOf_179 : decode cX4_shareOf 179 = .ok (.imul, 1) := by decide +kernel
theorem dX4_shareOf_180 : decode cX4_shareOf 180 = .ok (.iload_n 3, 1) := by decide +kernel
theorem dX4_shareOf_181 : decode cX4_shareOf 181 = .ok (.idiv, 1) := by decide +kernel
theorem dX4_shareOf_182 : decode cX4_shareOf 182 = .ok (.iload 6, 2) := by decide +kernel
theorem dX4_shareOf_184 : decode cX4_shareOf 184 = .ok (.iload 5, 2) := by decide +kernel
theorem dX4_shareOf_186 : decode cX4_shareOf 186 = .ok (.if_icmp .ge 7, 3) := by decide +kernel
theorem dX4_shareOf_189 : decode cX4_shareOf 189 = .ok (.iconst 1, 1) := by decide +kernel
theorem dX4_shareOf_190 : decode cX4_shareOf 190 = .ok (.goto 4, 3) := by decide +kernel
theorem dX4_shareOf_193 : decode cX4_shareOf 193 = .ok (.iconst 0, 1) := by decide +kernel
theorem dX4_shareOf_194 : decode cX4_shareOf 194 = .ok (.iadd, 1) := by decide +kernel
theorem dX4_shareOf_195 : decode cX4_shareOf 195 = .ok (.ireturn, 1) := by decide +kernel
theorem dX5_init_0 : decode cX5_init 0 = .ok (.aload_n 0, 1) := by decide +kernel
theorem dX5_init_1 : decode cX5_init 1 = .ok (.invokespecial 3, 3) := by decide +kernel
theorem dX5_init_4 : decode cX5_init 4 = .ok (.aload_n 0, 1) := by decide +kernel
theorem dX5_init_5 : decode cX5_init 5 = .ok (.bipush 24, 2) := by decide +kernel
theorem dX5_init_7 : decode cX5_init 7 = .ok (.newarray .int, 2) := by decide +kernel
theorem dX5_init_9 : decode cX5_init 9 = .ok (.putfield 9, 3) := by decide +kernel
theorem dX5_init_12 : decode cX5_init 12 = .ok (.aload_n 0, 1) := by decide +kernel
theorem dX5_init_13 : decode cX5_init 13 = .ok (.bipush 7, 2) := by decide +kernel
theorem dX5_init_15 : decode cX5_init 15 = .ok (.newarray .int, 2) := by decide +kernel
theorem dX5_init_17 : decode cX5_init 17 = .ok (.putfield 15, 3) := by decide +kernel
theorem dX5_init_20 : decode cX5_init 20 = .ok (.return_, 1) := by decide +kernel
theorem dX5_forget_0 : decode cX5_forget 0 = .ok (.aload_n 0, 1) := by decide +kernel
theorem dX5_forget_1 : decode cX5_forget 1 = .ok (.iconst 0, 1) := by decide +kernel
theorem dX5_forget_2 : decode cX5_forget 2 = .ok (.putfield 18, 3) := by decide +kernel
theorem dX5_forget_5 : decode cX5_forget 5 = .ok (.return_, 1) := by decide +kernel
theorem dX5_heightOf_0 : decode cX5_heightOf 0 = .ok (.aload_n 0, 1) := by decide +kernel
theorem dX5_heightOf_1 : decode cX5_heightOf 1 = .ok (.getfield 22, 3) := by decide +kernel
theorem dX5_heightOf_4 : decode cX5_heightOf 4 = .ok (.iload_n 1, 1) := by decide +kernel
theorem dX5_heightOf_5 : decode cX5_heightOf 5 = .ok (.invokestatic 26, 3) := by decide +kernel
theorem dX5_heightOf_8 : decode cX5_heightOf 8 = .ok (.ireturn, 1) := by decide +kernel
theorem dX5_heightIn_0 : decode cX5_heightIn 0 = .ok (.iload_n 1, 1) := by decide +kernel
theorem dX5_heightIn_1 : decode cX5_heightIn 1 = .ok (.ifCond .lt 20, 3) := by decide +kernel
theorem dX5_heightIn_4 : decode cX5_heightIn 4 = .ok (.iload_n 1, 1) := by decide +kernel
theorem dX5_heightIn_5 : decode cX5_heightIn 5 = .ok (.bipush 6, 2) := by decide +kernel
theorem dX5_heightIn_7 : decode cX5_heightIn 7 = .ok (.if_icmp .ge 14, 3) := by decide +kernel
theorem dX5_heightIn_10 : decode cX5_heightIn 10 = .ok (.iload_n 0, 1) := by decide +kernel
theorem dX5_heightIn_11 : decode cX5_heightIn 11 = .ok (.iload_n 1, 1) := by decide +kernel
theorem dX5_heightIn_12 : decode cX5_heightIn 12 = .ok (.invokestatic 30, 3) := by decide +kernel
theorem dX5_heightIn_15 : decode cX5_heightIn 15 = .ok (.ishr, 1) := by decide +kernel
theorem dX5_heightIn_16 : decode cX5_heightIn 16 = .ok (.iconst 3, 1) := by decide +kernel
theorem dX5_heightIn_17 : decode cX5_heightIn 17 = .ok (.iand, 1) := by decide +kernel
theorem dX5_heightIn_18 : decode cX5_heightIn 18 = .ok (.goto 4, 3) := by decide +kernel
theorem dX5_heightIn_21 : decode cX5_heightIn 21 = .ok (.iconst 0, 1) := by decide +kernel
theorem dX5_heightIn_22 : decode cX5_heightIn 22 = .ok (.ireturn, 1) := by decide +kernel
theorem dX5_shiftOf_0 : decode cX5_shiftOf 0 = .ok (.iconst 2, 1) := by decide +kernel
theorem dX5_shiftOf_1 : decode cX5_shiftOf 1 = .ok (.iconst 5, 1) := by decide +kernel
theorem dX5_shiftOf_2 : decode cX5_shiftOf 2 = .ok (.iload_n 0, 1) := by decide +kernel
theorem dX5_shiftOf_3 : decode cX5_shiftOf 3 = .ok (.isub, 1) := by decide +kernel
theorem dX5_shiftOf_4 : decode cX5_shiftOf 4 = .ok (.imul, 1) := by decide +kernel
theorem dX5_shiftOf_5 : decode cX5_shiftOf 5 = .ok (.ireturn, 1) := by decide +kernel
theorem dX5_find_0 : decode cX5_find 0 = .ok (.aload_n 0, 1) := by decide +kernel
theorem dX5_find_1 : decode cX5_find 1 = .ok (.getfield 18, 3) := by decide +kernel
theorem dX5_find_4 : decode cX5_find 4 = .ok (.ifCond .eq 4, 3) := by decide +kernel
theorem dX5_find_7 : decode cX5_find 7 = .ok (.return_, 1) := by decide +kernel
theorem dX5_find_8 : decode cX5_find 8 = .ok (.aload_n 0, 1) := by decide +kernel
theorem dX5_find_9 : decode cX5_find 9 = .ok (.aload_n 1, 1) := by decide +kernel
theorem dX5_find_10 : decode cX5_find 10 = .ok (.iload_n 2, 1) := by decide +kernel
theorem dX5_find_11 : decode cX5_find 11 = .ok (.aload 4, 2) := by decide +kernel
theorem dX5_find_13 : decode cX5_find 13 = .ok (.aload 5, 2) := by decide +kernel
theorem dX5_find_15 : decode cX5_find 15 = .ok (.invokevirtual 34, 3) := by decide +kernel
theorem dX5_find_18 : decode cX5_find 18 = .ok (.aload_n 0, 1) := by decide +kernel
theorem dX5_find_19 : decode cX5_find 19 = .ok (.iconst (-1), 1) := by decide +kernel
theorem dX5_find_20 : decode cX5_find 20 = .ok (.putfield 38, 3) := by decide +kernel
theorem dX5_find_23 : decode cX5_find 23 = .ok (.iconst 0, 1) := by decide +kernel
theorem dX5_find_24 : decode cX5_find 24 = .ok (.istore 6, 2) := by decide +kernel
theorem dX5_find_26 : decode cX5_find 26 = .ok (.iconst 0, 1) := by decide +kernel
theorem dX5_find_27 : decode cX5_find 27 = .ok (.istore 7, 2) := by decide +kernel
theorem dX5_find_29 : decode cX5_find 29 = .ok (.iload 7, 2) := by decide +kernel
theorem dX5_find_31 : decode cX5_find 31 = .ok (.sipush 4096, 3) := by decide +kernel
theorem dX5_find_34 : decode cX5_find 34 = .ok (.if_icmp .ge 69, 3) := by decide +kernel
theorem dX5_find_37 : decode cX5_find 37 = .ok (.iload 6, 2) := by decide +kernel
theorem dX5_find_39 : decode cX5_find 39 = .ok (.sipush 4096, 3) := by decide +kernel
theorem dX5_find_42 : decode cX5_find 42 = .ok (.if_icmp .ge 61, 3) := by decide +kernel
theorem dX5_find_45 : decode cX5_find 45 = .ok (.aload_n 0, 1) := by decide +kernel
theorem dX5_find_46 : decode cX5_find 46 = .ok (.iload 6, 2) := by decide +kernel
theorem dX5_find_48 : decode cX5_find 48 = .ok (.invokevirtual 41, 3) := by decide +kernel
theorem dX5_find_51 : decode cX5_find 51 = .ok (.istore 8, 2) := by decide +kernel
theorem dX5_find_53 : decode cX5_find 53 = .ok (.iload 8, 2) := by decide +kernel
theorem dX5_find_55 : decode cX5_find 55 = .ok (.bipush 6, 2) := by decide +kernel
theorem dX5_find_57 : decode cX5_find 57 = .ok (.if_icmp .ge 24, 3) := by decide +kernel
theorem dX5_find_60 : decode cX5_find 60 = .ok (.iload 6, 2) := by decide +kernel
theorem dX5_find_62 : decode cX5_find 62 = .ok (.iload 8, 2) := by decide +kernel
theorem dX5_find_64 : decode cX5_find 64 = .ok (.invokestatic 30, 3) := by decide +kernel
theorem dX5_find_67 : decode cX5_find 67 = .ok (.ishr, 1) := by decide +kernel
theorem dX5_find_68 : decode cX5_find 68 = .ok (.iconst 1, 1) := by decide +kernel
theorem dX5_find_69 : decode cX5_find 69 = .ok (.iadd, 1) := by decide +kernel
theorem dX5_find_70 : decode cX5_find 70 = .ok (.iload 8, 2) := by decide +kernel
theorem dX5_find_72 : decode cX5_find 72 = .ok (.invokestatic 30, 3) := by decide +kernel
theorem dX5_find_75 : decode cX5_find 75 = .ok (.ishl, 1) := by decide +kernel
theorem dX5_find_76 : decode cX5_find 76 = .ok (.istore 6, 2) := by decide +kernel
theorem dX5_find_78 : decode cX5_find 78 = .ok (.goto 19, 3) := by decide +kernel
theorem dX5_find_81 : decode cX5_find 81 = .ok (.aload_n 0, 1) := by decide +kernel
theorem dX5_find_82 : decode cX5_find 82 = .ok (.iload 6, 2) := by decide +kernel
theorem dX5_find_84 : decode cX5_find 84 = .ok (.aload_n 1, 1) := by decide +kernel
theorem dX5_find_85 : decode cX5_find 85 = .ok (.iload_n 2, 1) := by decide +kernel
theorem dX5_find_86 : decode cX5_find 86 = .ok (.aload_n 3, 1) := by decide +kernel
theorem dX5_find_87 : decode cX5_find 87 = .ok (.aload 4, 2) := by decide +kernel
theorem dX5_find_89 : decode cX5_find 89 = .ok (.aload 5, 2) := by decide +kernel
theorem dX5_find_91 : decode cX5_find 91 = .ok (.invokevirtual 44, 3) := by decide +kernel
theorem dX5_find_94 : decode cX5_find 94 = .ok (.iinc 6 1, 3) := by decide +kernel
theorem dX5_find_97 : decode cX5_find 97 = .ok (.iinc 7 1, 3) := by decide +kernel
theorem dX5_find_100 : decode cX5_find 100 = .ok (.goto (-71), 3) := by decide +kernel
theorem dX5_find_103 : decode cX5_find 103 = .ok (.aload_n 0, 1) := by decide +kernel
theorem dX5_find_104 : decode cX5_find 104 = .ok (.iconst 1, 1) := by decide +kernel
theorem dX5_find_105 : decode cX5_find 105 = .ok (.putfield 18, 3) := by decide +kernel
theorem dX5_find_108 : decode cX5_find 108 = .ok (.return_, 1) := by decide +kernel
theorem dX5_tryPlan_0 : decode cX5_tryPlan 0 = .ok (.aload 4, 2) := by decide +kernel
theorem dX5_tryPlan_2 : decode cX5_tryPlan 2 = .ok (.aload_n 2, 1) := by decide +kernel
theorem dX5_tryPlan_3 : decode cX5_tryPlan 3 = .ok (.invokevirtual 48, 3) := by decide +kernel
theorem dX5_tryPlan_6 : decode cX5_tryPlan 6 = .ok (.iconst 0, 1) := by decide +kernel
theorem dX5_tryPlan_7 : decode cX5_tryPlan 7 = .ok (.istore 7, 2) := by decide +kernel
theorem dX5_tryPlan_9 : decode cX5_tryPlan 9 = .ok (.iload 7, 2) := by decide +kernel
theorem dX5_tryPlan_11 : decode cX5_tryPlan 11 = .ok (.bipush 6, 2) := by decide +kernel
theorem dX5_tryPlan_13 : decode cX5_tryPlan 13 = .ok (.if_icmp .ge 23, 3) := by decide +kernel
theorem dX5_tryPlan_16 : decode cX5_tryPlan 16 = .ok (.aload 4, 2) := by decide +kernel
theorem dX5_tryPlan_18 : decode cX5_tryPlan 18 = .ok (.getfield 54, 3) := by decide +kernel
theorem dX5_tryPlan_21 : decode cX5_tryPlan 21 = .ok (.iload 7, 2) := by decide +kernel
theorem dX5_tryPlan_23 : decode cX5_tryPlan 23 = .ok (.iload_n 1, 1) := by decide +kernel
theorem dX5_tryPlan_24 : decode cX5_tryPlan 24 = .ok (.iload 7, 2) := by decide +kernel
theorem dX5_tryPlan_26 : decode cX5_tryPlan 26 = .ok (.invokestatic 26, 3) := by decide +kernel
theorem dX5_tryPlan_29 : decode cX5_tryPlan 29 = .ok (.iastore, 1) := by decide +kernel
theorem dX5_tryPlan_30 : decode cX5_tryPlan 30 = .ok (.iinc 7 1, 3) := by decide +kernel
theorem dX5_tryPlan_33 : decode cX5_tryPlan 33 = .ok (.goto (-24), 3) := by decide +kernel
theorem dX5_tryPlan_36 : decode cX5_tryPlan 36 = .ok (.aload 4, 2) := by decide +kernel
theorem dX5_tryPlan_38 : decode cX5_tryPlan 38 = .ok (.iload_n 3, 1) := by decide +kernel
theorem dX5_tryPlan_39 : decode cX5_tryPlan 39 = .ok (.aload 5, 2) := by decide +kernel
theorem dX5_tryPlan_41 : decode cX5_tryPlan 41 = .ok (.aload 6, 2) := by decide +kernel
theorem dX5_tryPlan_43 : decode cX5_tryPlan 43 = .ok (.aload 5, 2) := by decide +kernel
theorem dX5_tryPlan_45 : decode cX5_tryPlan 45 = .ok (.getfield 57, 3) := by decide +kernel
theorem dX5_tryPlan_48 : decode cX5_tryPlan 48 = .ok (.invokevirtual 62, 3) := by decide +kernel
theorem dX5_tryPlan_51 : decode cX5_tryPlan 51 = .ok (.aload 4, 2) := by decide +kernel
theorem dX5_tryPlan_53 : decode cX5_tryPlan 53 = .ok (.getfield 66, 3) := by decide +kernel
theorem dX5_tryPlan_56 : decode cX5_tryPlan 56 = .ok (.aload_n 0, 1) := by decide +kernel
theorem dX5_tryPlan_57 : decode cX5_tryPlan 57 = .ok (.getfield 38, 3) := by decide +kernel
theorem dX5_tryPlan_60 : decode cX5_tryPlan 60 = .ok (.if_icmp .le 17, 3) := by decide +kernel
theorem dX5_tryPlan_63 : decode cX5_tryPlan 63 = .ok (.aload_n 0, 1) := by decide +kernel
theorem dX5_tryPlan_64 : decode cX5_tryPlan 64 = .ok (.aload 4, 2) := by decide +kernel
theorem dX5_tryPlan_66 : decode cX5_tryPlan 66 = .ok (.getfield 66, 3) := by decide +kernel
theorem dX5_tryPlan_69 : decode cX5_tryPlan 69 = .ok (.putfield 38, 3) := by decide +kernel
theorem dX5_tryPlan_72 : decode cX5_tryPlan 72 = .ok (.aload_n 0, 1) := by decide +kernel
theorem dX5_tryPlan_73 : decode cX5_tryPlan 73 = .ok (.iload_n 1, 1) := by decide +kernel
theorem dX5_tryPlan_74 : decode cX5_tryPlan 74 = .ok (.putfield 22, 3) := by decide +kernel
theorem dX5_tryPlan_77 : decode cX5_tryPlan 77 = .ok (.return_, 1) := by decide +kernel
theorem dX5_firstHopeless_0 : decode cX5_firstHopeless 0 = .ok (.iconst 0, 1) := by decide +kernel
theorem dX5_firstHopeless_1 : decode cX5_firstHopeless 1 = .ok (.istore_n 2, 1) := by decide +kernel
theorem dX5_firstHopeless_2 : decode cX5_firstHopeless 2 = .ok (.iconst 0, 1) := by decide +kernel
theorem dX5_firstHopeless_3 : decode cX5_firstHopeless 3 = .ok (.istore_n 3, 1) := by decide +kernel
theorem dX5_firstHopeless_4 : decode cX5_firstHopeless 4 = .ok (.iload_n 3, 1) := by decide +kernel
theorem dX5_firstHopeless_5 : decode cX5_firstHopeless 5 = .ok (.bipush 6, 2) := by decide +kernel
theorem dX5_firstHopeless_7 : decode cX5_firstHopeless 7 = .ok (.if_icmp .ge 55, 3) := by decide +kernel
theorem dX5_firstHopeless_10 : decode cX5_firstHopeless 10 = .ok (.aload_n 0, 1) := by decide +kernel
theorem dX5_firstHopeless_11 : decode cX5_firstHopeless 11 = .ok (.getfield 9, 3) := by decide +kernel
theorem dX5_firstHopeless_14 : decode cX5_firstHopeless 14 = .ok (.iload_n 3, 1) := by decide +kernel
theorem dX5_firstHopeless_15 : decode cX5_firstHopeless 15 = .ok (.iconst 4, 1) := by decide +kernel
theorem dX5_firstHopeless_16 : decode cX5_firstHopeless 16 = .ok (.imul, 1) := by decide +kernel
theorem dX5_firstHopeless_17 : decode cX5_firstHopeless 17 = .ok (.iload_n 1, 1) := by decide +kernel
theorem dX5_firstHopeless_18 : decode cX5_firstHopeless 18 = .ok (.iload_n 3, 1) := by decide +kernel
theorem dX5_firstHopeless_19 : decode cX5_firstHopeless 19 = .ok (.invokestatic 26, 3) := by decide +kernel
theorem dX5_firstHopeless_22 : decode cX5_firstHopeless 22 = .ok (.iadd, 1) := by decide +kernel
theorem dX5_firstHopeless_23 : decode cX5_firstHopeless 23 = .ok (.iaload, 1) := by decide +kernel
theorem dX5_firstHopeless_24 : decode cX5_firstHopeless 24 = .ok (.istore 4, 2) := by decide +kernel
theorem dX5_firstHopeless_26 : decode cX5_firstHopeless 26 = .ok (.iload_n 2, 1) := by decide +kernel
theorem dX5_firstHopeless_27 : decode cX5_firstHopeless 27 = .ok (.iload 4, 2) := by decide +kernel
theorem dX5_firstHopeless_29 : decode cX5_firstHopeless 29 = .ok (.iadd, 1) := by decide +kernel
theorem dX5_firstHopeless_30 : decode cX5_firstHopeless 30 = .ok (.istore_n 2, 1) := by decide +kernel
theorem dX5_firstHopeless_31 : decode cX5_firstHopeless 31 = .ok (.iload 4, 2) := by decide +kernel
theorem dX5_firstHopeless_33 : decode cX5_firstHopeless 33 = .ok (.iconst (-1), 1) := by decide +kernel
theorem dX5_firstHopeless_34 : decode cX5_firstHopeless 34 = .ok (.if_icmp .eq 20, 3) := by decide +kernel
theorem dX5_firstHopeless_37 : decode cX5_firstHopeless 37 = .ok (.iload_n 2, 1) := by decide +kernel
theorem dX5_firstHopeless_38 : decode cX5_firstHopeless 38 = .ok (.aload_n 0, 1) := by decide +kernel
theorem dX5_firstHopeless_39 : decode cX5_firstHopeless 39 = .ok (.getfield 15, 3) := by decide +kernel
theorem dX5_firstHopeless_42 : decode cX5_firstHopeless 42 = .ok (.iload_n 3, 1) := by decide +kernel
theorem dX5_firstHopeless_43 : decode cX5_firstHopeless 43 = .ok (.iconst 1, 1) := by decide +kernel
theorem dX5_firstHopeless_44 : decode cX5_firstHopeless 44 = .ok (.iadd, 1) := by decide +kernel
theorem dX5_firstHopeless_45 : decode cX5_firstHopeless 45 = .ok (.iaload, 1) := by decide +kernel
theorem dX5_firstHopeless_46 : decode cX5_firstHopeless 46 = .ok (.iadd, 1) := by decide +kernel
theorem dX5_firstHopeless_47 : decode cX5_firstHopeless 47 = .ok (.aload_n 0, 1) := by decide +kernel
theorem dX5_firstHopeless_48 : decode cX5_firstHopeless 48 = .ok (.getfield 38, 3) := by decide +kernel
theorem dX5_firstHopeless_51 : decode cX5_firstHopeless 51 = .ok (.if_icmp .gt 5, 3) := by decide +kernel
theorem dX5_firstHopeless_54 : decode cX5_firstHopeless 54 = .ok (.iload_n 3, 1) := by decide +kernel
theorem dX5_firstHopeless_55 : decode cX5_firstHopeless 55 = .ok (.ireturn, 1) := by decide +kernel
theorem dX5_firstHopeless_56 : decode cX5_firstHopeless 56 = .ok (.iinc 3 1, 3) := by decide +kernel
theorem dX5_firstHopeless_59 : decode cX5_firstHopeless 59 = .ok (.goto (-55), 3) := by decide +kernel
theorem dX5_firstHopeless_62 : decode cX5_firstHopeless 62 = .ok (.bipush 6, 2) := by decide +kernel
theorem dX5_firstHopeless_64 : decode cX5_firstHopeless 64 = .ok (.ireturn, 1) := by decide +kernel
theorem dX5_setBounds_0 : decode cX5_setBounds 0 = .ok (.aload_n 0, 1) := by decide +kernel
theorem dX5_setBounds_1 : decode cX5_setBounds 1 = .ok (.getfield 15, 3) := by decide +kernel
theorem dX5_setBounds_4 : decode cX5_setBounds 4 = .ok (.bipush 6, 2) := by decide +kernel
theorem dX5_setBounds_6 : decode cX5_setBounds 6 = .ok (.iconst 0, 1) := by decide +kernel
theorem dX5_setBounds_7 : decode cX5_setBounds 7 = .ok (.iastore, 1) := by decide +kernel
theorem dX5_setBounds_8 : decode cX5_setBounds 8 = .ok (.iconst 5, 1) := by decide +kernel
theorem dX5_setBounds_9 : decode cX5_setBounds 9 = .ok (.istore 5, 2) := by decide +kernel
theorem dX5_setBounds_11 : decode cX5_setBounds 11 = .ok (.iload 5, 2) := by decide +kernel
theorem dX5_setBounds_13 : decode cX5_setBounds 13 = .ok (.ifCond .lt 93, 3) := by decide +kernel
theorem dX5_setBounds_16 : decode cX5_setBounds 16 = .ok (.iconst 0, 1) := by decide +kernel
theorem dX5_setBounds_17 : decode cX5_setBounds 17 = .ok (.istore 6, 2) := by decide +kernel
theorem dX5_setBounds_19 : decode cX5_setBounds 19 = .ok (.aload_n 0, 1) := by decide +kernel
theorem dX5_setBounds_20 : decode cX5_setBounds 20 = .ok (.getfield 9, 3) := by decide +kernel
theorem dX5_setBounds_23 : decode cX5_setBounds 23 = .ok (.iload 5, 2) := by decide +kernel
theorem dX5_setBounds_25 : decode cX5_setBounds 25 = .ok (.iconst 4, 1) := by decide +kernel
theorem dX5_setBounds_26 : decode cX5_setBounds 26 = .ok (.imul, 1) := by decide +kernel
theorem dX5_setBounds_27 : decode cX5_setBounds 27 = .ok (.iconst 0, 1) := by decide +kernel
theorem dX5_setBounds_28 : decode cX5_setBounds 28 = .ok (.iastore, 1) := by decide +kernel
theorem dX5_setBounds_29 : decode cX5_setBounds 29 = .ok (.iconst 1, 1) := by decide +kernel
theorem dX5_setBounds_30 : decode cX5_setBounds 30 = .ok (.istore 7, 2) := by decide +kernel
theorem dX5_setBounds_32 : decode cX5_setBounds 32 = .ok (.iload 7, 2) := by decide +kernel
theorem dX5_setBounds_34 : decode cX5_setBounds 34 = .ok (.iconst 4, 1) := by decide +kernel
theorem dX5_setBounds_35 : decode cX5_setBounds 35 = .ok (.if_icmp .ge 46, 3) := by decide +kernel
theorem dX5_setBounds_38 : decode cX5_setBounds 38 = .ok (.iload 5, 2) := by decide +kernel
theorem dX5_setBounds_40 : decode cX5_setBounds 40 = .ok (.iload 7, 2) := by decide +kernel
theorem dX5_setBounds_42 : decode cX5_setBounds 42 = .ok (.aload_n 1, 1) := by decide +kernel
theorem dX5_setBounds_43 : decode cX5_setBounds 43 = .ok (.iload_n 2, 1) := by decide +kernel
theorem dX5_setBounds_44 : decode cX5_setBounds 44 = .ok (.aload_n 3, 1) := by decide +kernel
theorem dX5_setBounds_45 : decode cX5_setBounds 45 = .ok (.aload 4, 2) := by decide +kernel
theorem dX5_setBounds_47 : decode cX5_setBounds 47 = .ok (.invokestatic 69, 3) := by decide +kernel
theorem dX5_setBounds_50 : decode cX5_setBounds 50 = .ok (.istore 8, 2) := by decide +kernel
theorem dX5_setBounds_52 : decode cX5_setBounds 52 = .ok (.aload_n 0, 1) := by decide +kernel
theorem dX5_setBounds_53 : decode cX5_setBounds 53 = .ok (.getfield 9, 3) := by decide +kernel
theorem dX5_setBounds_56 : decode cX5_setBounds 56 = .ok (.iload 5, 2) := by decide +kernel
theorem dX5_setBounds_58 : decode cX5_setBounds 58 = .ok (.iconst 4, 1) := by decide +kernel
theorem dX5_setBounds_59 : decode cX5_setBounds 59 = .ok (.imul, 1) := by decide +kernel
theorem dX5_setBounds_60 : decode cX5_setBounds 60 = .ok (.iload 7, 2) := by decide +kernel
theorem dX5_setBounds_62 : decode cX5_setBounds 62 = .ok (.iadd, 1) := by decide +kernel
theorem dX5_setBounds_63 : decode cX5_setBounds 63 = .ok (.iload 8, 2) := by decide +kernel
theorem dX5_setBounds_65 : decode cX5_setBounds 65 = .ok (.iastore, 1) := by decide +kernel
theorem dX5_setBounds_66 : decode cX5_setBounds 66 = .ok (.iload 6, 2) := by decide +kernel
theorem dX5_setBounds_68 : decode cX5_setBounds 68 = .ok (.iload 8, 2) := by decide +kernel
theorem dX5_setBounds_70 : decode cX5_setBounds 70 = .ok (.invokestatic 73, 3) := by decide +kernel
theorem dX5_setBounds_73 : decode cX5_setBounds 73 = .ok (.istore 6, 2) := by decide +kernel
theorem dX5_setBounds_75 : decode cX5_setBounds 75 = .ok (.iinc 7 1, 3) := by decide +kernel
theorem dX5_setBounds_78 : decode cX5_setBounds 78 = .ok (.goto (-46), 3) := by decide +kernel
theorem dX5_setBounds_81 : decode cX5_setBounds 81 = .ok (.aload_n 0, 1) := by decide +kernel
theorem dX5_setBounds_82 : decode cX5_setBounds 82 = .ok (.getfield 15, 3) := by decide +kernel
theorem dX5_setBounds_85 : decode cX5_setBounds 85 = .ok (.iload 5, 2) := by decide +kernel
theorem dX5_setBounds_87 : decode cX5_setBounds 87 = .ok (.aload_n 0, 1) := by decide +kernel
theorem dX5_setBounds_88 : decode cX5_setBounds 88 = .ok (.getfield 15, 3) := by decide +kernel
theorem dX5_setBounds_91 : decode cX5_setBounds 91 = .ok (.iload 5, 2) := by decide +kernel
theorem dX5_setBounds_93 : decode cX5_setBounds 93 = .ok (.iconst 1, 1) := by decide +kernel
theorem dX5_setBounds_94 : decode cX5_setBounds 94 = .ok (.iadd, 1) := by decide +kernel
theorem dX5_setBounds_95 : decode cX5_setBounds 95 = .ok (.iaload, 1) := by decide +kernel
theorem dX5_setBounds_96 : decode cX5_setBounds 96 = .ok (.iload 6, 2) := by decide +kernel
theorem dX5_setBounds_98 : decode cX5_setBounds 98 = .ok (.iadd, 1) := by decide +kernel
theorem dX5_setBounds_99 : decode cX5_setBounds 99 = .ok (.iastore, 1) := by decide +kernel
theorem dX5_setBounds_100 : decode cX5_setBounds 100 = .ok (.iinc 5 (-1), 3) := by decide +kernel
theorem dX5_setBounds_103 : decode cX5_setBounds 103 = .ok (.goto (-92), 3) := by decide +kernel
theorem dX5_setBounds_106 : decode cX5_setBounds 106 = .ok (.return_, 1) := by decide +kernel
theorem dX5_boundOf_0 : decode cX5_boundOf 0 = .ok (.aload_n 2, 1) := by decide +kernel
theorem dX5_boundOf_1 : decode cX5_boundOf 1 = .ok (.getfield 78, 3) := by decide +kernel
theorem dX5_boundOf_4 : decode cX5_boundOf 4 = .ok (.iload_n 0, 1) := by decide +kernel
theorem dX5_boundOf_5 : decode cX5_boundOf 5 = .ok (.invokestatic 81, 3) := by decide +kernel
theorem dX5_boundOf_8 : decode cX5_boundOf 8 = .ok (.istore 6, 2) := by decide +kernel
theorem dX5_boundOf_10 : decode cX5_boundOf 10 = .ok (.iconst 0, 1) := by decide +kernel
theorem dX5_boundOf_11 : decode cX5_boundOf 11 = .ok (.istore 7, 2) := by decide +kernel
theorem dX5_boundOf_13 : decode cX5_boundOf 13 = .ok (.iconst 0, 1) := by decide +kernel
theorem dX5_boundOf_14 : decode cX5_boundOf 14 = .ok (.istore 8, 2) := by decide +kernel
theorem dX5_boundOf_16 : decode cX5_boundOf 16 = .ok (.iconst 0, 1) := by decide +kernel
theorem dX5_boundOf_17 : decode cX5_boundOf 17 = .ok (.istore 9, 2) := by decide +kernel
theorem dX5_boundOf_19 : decode cX5_boundOf 19 = .ok (.iconst 3, 1) := by decide +kernel
theorem dX5_boundOf_20 : decode cX5_boundOf 20 = .ok (.aload 4, 2) := by decide +kernel
theorem dX5_boundOf_22 : decode cX5_boundOf 22 = .ok (.getfield 85, 3) := by decide +kernel
theorem dX5_boundOf_25 : decode cX5_boundOf 25 = .ok (.iload_n 0, 1) := by decide +kernel
theorem dX5_boundOf_26 : decode cX5_boundOf 26 = .ok (.aaload, 1) := by decide +kernel
theorem dX5_boundOf_27 : decode cX5_boundOf 27 = .ok (.getfield 89, 3) := by decide +kernel
theorem dX5_boundOf_30 : decode cX5_boundOf 30 = .ok (.imul, 1) := by decide +kernel
theorem dX5_boundOf_31 : decode cX5_boundOf 31 = .ok (.istore 10, 2) := by decide +kernel
theorem dX5_boundOf_33 : decode cX5_boundOf 33 = .ok (.iconst 0, 1) := by decide +kernel
theorem dX5_boundOf_34 : decode cX5_boundOf 34 = .ok (.istore 11, 2) := by decide +kernel
theorem dX5_boundOf_36 : decode cX5_boundOf 36 = .ok (.iload 11, 2) := by decide +kernel
theorem dX5_boundOf_38 : decode cX5_boundOf 38 = .ok (.iload_n 3, 1) := by decide +kernel
theorem dX5_boundOf_39 : decode cX5_boundOf 39 = .ok (.if_icmp .ge 129, 3) := by decide +kernel
theorem dX5_boundOf_42 : decode cX5_boundOf 42 = .ok (.aload_n 2, 1) := by decide +kernel
theorem dX5_boundOf_43 : decode cX5_boundOf 43 = .ok (.getfield 94, 3) := by decide +kernel
theorem dX5_boundOf_46 : decode cX5_boundOf 46 = .ok (.iload 11, 2) := by decide +kernel
theorem dX5_boundOf_48 : decode cX5_boundOf 48 = .ok (.iadd, 1) := by decide +kernel
theorem dX5_boundOf_49 : decode cX5_boundOf 49 = .ok (.bipush 12, 2) := by decide +kernel
theorem dX5_boundOf_51 : decode cX5_boundOf 51 = .ok (.if_icmp .ge 117, 3) := by decide +kernel
theorem dX5_boundOf_54 : decode cX5_boundOf 54 = .ok (.aload_n 2, 1) := by decide +kernel
theorem dX5_boundOf_55 : decode cX5_boundOf 55 = .ok (.getfield 94, 3) := by decide +kernel
theorem dX5_boundOf_58 : decode cX5_boundOf 58 = .ok (.iload 11, 2) := by decide +kernel
theorem dX5_boundOf_60 : decode cX5_boundOf 60 = .ok (.iadd, 1) := by decide +kernel
theorem dX5_boundOf_61 : decode cX5_boundOf 61 = .ok (.istore 12, 2) := by decide +kernel
theorem dX5_boundOf_63 : decode cX5_boundOf 63 = .ok (.aload 5, 2) := by decide +kernel
theorem dX5_boundOf_65 : decode cX5_boundOf 65 = .ok (.iload_n 0, 1) := by decide +kernel
theorem dX5_boundOf_66 : decode cX5_boundOf 66 = .ok (.iload_n 1, 1) := by decide +kernel
theorem dX5_boundOf_67 : decode cX5_boundOf 67 = .ok (.iload 12, 2) := by decide +kernel
theorem dX5_boundOf_69 : decode cX5_boundOf 69 = .ok (.invokevirtual 97, 3) := by decide +kernel
theorem dX5_boundOf_72 : decode cX5_boundOf 72 = .ok (.ifCond .eq 40, 3) := by decide +kernel
theorem dX5_boundOf_75 : decode cX5_boundOf 75 = .ok (.iload 6, 2) := by decide +kernel
theorem dX5_boundOf_77 : decode cX5_boundOf 77 = .ok (.ifCond .ne 13, 3) := by decide +kernel
theorem dX5_boundOf_80 : decode cX5_boundOf 80 = .ok (.aload 4, 2) := by decide +kernel
theorem dX5_boundOf_82 : decode cX5_boundOf 82 = .ok (.iload 12, 2) := by decide +kernel
theorem dX5_boundOf_84 : decode cX5_boundOf 84 = .ok (.invokevirtual 103, 3) := by decide +kernel
theorem dX5_boundOf_87 : decode cX5_boundOf 87 = .ok (.ifCond .ne 25, 3) := by decide +kernel
theorem dX5_boundOf_90 : decode cX5_boundOf 90 = .ok (.aload 4, 2) := by decide +kernel
theorem dX5_boundOf_92 : decode cX5_boundOf 92 = .ok (.getfield 85, 3) := by decide +kernel
theorem dX5_boundOf_95 : decode cX5_boundOf 95 = .ok (.iload_n 0, 1) := by decide +kernel
theorem dX5_boundOf_96 : decode cX5_boundOf 96 = .ok (.aaload, 1) := by decide +kernel
theorem dX5_boundOf_97 : decode cX5_boundOf 97 = .ok (.getfield 107, 3) := by decide +kernel
theorem dX5_boundOf_100 : decode cX5_boundOf 100 = .ok (.aload 4, 2) := by decide +kernel
theorem dX5_boundOf_102 : decode cX5_boundOf 102 = .ok (.getfield 110, 3) := by decide +kernel
theorem dX5_boundOf_105 : decode cX5_boundOf 105 = .ok (.if_icmp .gt 7, 3) := by decide +kernel
theorem dX5_boundOf_108 : decode cX5_boundOf 108 = .ok (.iconst 1, 1) := by decide +kernel
theorem dX5_boundOf_109 : decode cX5_boundOf 109 = .ok (.goto 4, 3) := by decide +kernel
theorem dX5_boundOf_112 : decode cX5_boundOf 112 = .ok (.iconst 0, 1) := by decide +kernel
theorem dX5_boundOf_113 : decode cX5_boundOf 113 = .ok (.istore 6, 2) := by decide +kernel
theorem dX5_boundOf_115 : decode cX5_boundOf 115 = .ok (.iload 6, 2) := by decide +kernel
theorem dX5_boundOf_117 : decode cX5_boundOf 117 = .ok (.ifCond .eq 45, 3) := by decide +kernel
theorem dX5_boundOf_120 : decode cX5_boundOf 120 = .ok (.aload 5, 2) := by decide +kernel
theorem dX5_boundOf_122 : decode cX5_boundOf 122 = .ok (.iload_n 0, 1) := by decide +kernel
theorem dX5_boundOf_123 : decode cX5_boundOf 123 = .ok (.iload_n 1, 1) := by decide +kernel
theorem dX5_boundOf_124 : decode cX5_boundOf 124 = .ok (.iload 12, 2) := by decide +kernel
theorem dX5_boundOf_126 : decode cX5_boundOf 126 = .ok (.invokevirtual 113, 3) := by decide +kernel
theorem dX5_boundOf_129 : decode cX5_boundOf 129 = .ok (.istore 13, 2) := by decide +kernel
theorem dX5_boundOf_131 : decode cX5_boundOf 131 = .ok (.iconst 1, 1) := by decide +kernel
theorem dX5_boundOf_132 : decode cX5_boundOf 132 = .ok (.istore 7, 2) := by decide +kernel
theorem dX5_boundOf_134 : decode cX5_boundOf 134 = .ok (.iload 9, 2) := by decide +kernel
theorem dX5_boundOf_136 : decode cX5_boundOf 136 = .ok (.iload 13, 2) := by decide +kernel
theorem dX5_boundOf_138 : decode cX5_boundOf 138 = .ok (.ior, 1) := by decide +kernel
theorem dX5_boundOf_139 : decode cX5_boundOf 139 = .ok (.istore 9, 2) := by decide +kernel
theorem dX5_boundOf_141 : decode cX5_boundOf 141 = .ok (.iload 8, 2) := by decide +kernel
theorem dX5_boundOf_143 : decode cX5_boundOf 143 = .ok (.aload 4, 2) := by decide +kernel
theorem dX5_boundOf_145 : decode cX5_boundOf 145 = .ok (.aload_n 2, 1) := by decide +kernel
theorem dX5_boundOf_146 : decode cX5_boundOf 146 = .ok (.iload 13, 2) := by decide +kernel
theorem dX5_boundOf_148 : decode cX5_boundOf 148 = .ok (.invokevirtual 117, 3) := by decide +kernel
theorem dX5_boundOf_151 : decode cX5_boundOf 151 = .ok (.iload 10, 2) := by decide +kernel
theorem dX5_boundOf_153 : decode cX5_boundOf 153 = .ok (.invokestatic 120, 3) := by decide +kernel
theorem dX5_boundOf_156 : decode cX5_boundOf 156 = .ok (.invokevirtual 123, 3) := by decide +kernel
theorem dX5_boundOf_159 : decode cX5_boundOf 159 = .ok (.iadd, 1) := by decide +kernel
theorem dX5_boundOf_160 : decode cX5_boundOf 160 = .ok (.istore 8, 2) := by decide +kernel
theorem dX5_boundOf_162 : decode cX5_boundOf 162 = .ok (.iinc 11 1, 3) := by decide +kernel
theorem dX5_boundOf_165 : decode cX5_boundOf 165 = .ok (.goto (-129), 3) := by decide +kernel
theorem dX5_boundOf_168 : decode cX5_boundOf 168 = .ok (.iload 7, 2) := by decide +kernel
theorem dX5_boundOf_170 : decode cX5_boundOf 170 = .ok (.ifCond .eq 17, 3) := by decide +kernel
theorem dX5_boundOf_173 : decode cX5_boundOf 173 = .ok (.iload 8, 2) := by decide +kernel
theorem dX5_boundOf_175 : decode cX5_boundOf 175 = .ok (.aload_n 2, 1) := by decide +kernel
theorem dX5_boundOf_176 : decode cX5_boundOf 176 = .ok (.iload 9, 2) := by decide +kernel
theorem dX5_boundOf_178 : decode cX5_boundOf 178 = .ok (.invokevirtual 117, 3) := by decide +kernel
theorem dX5_boundOf_181 : decode cX5_boundOf 181 = .ok (.invokestatic 120, 3) := by decide +kernel
theorem dX5_boundOf_184 : decode cX5_boundOf 184 = .ok (.goto 4, 3) := by decide +kernel
theorem dX5_boundOf_187 : decode cX5_boundOf 187 = .ok (.iconst (-1), 1) := by decide +kernel
theorem dX5_boundOf_188 : decode cX5_boundOf 188 = .ok (.ireturn, 1) := by decide +kernel
theorem dX6_init_0 : decode cX6_init 0 = .ok (.aload_n 0, 1) := by decide +kernel
theorem dX6_init_1 : decode cX6_init 1 = .ok (.invokespecial 1, 3) := by decide +kernel
theorem dX6_init_4 : decode cX6_init 4 = .ok (.return_, 1) := by decide +kernel
theorem dX7_init_0 : decode cX7_init 0 = .ok (.aload_n 0, 1) := by decide +kernel
theorem dX7_init_1 : decode cX7_init 1 = .ok (.invokespecial 3, 3) := by decide +kernel
theorem dX7_init_4 : decode cX7_init 4 = .ok (.aload_n 0, 1) := by decide +kernel
theorem dX7_init_5 : decode cX7_init 5 = .ok (.sipush 200, 3) := by decide +kernel
theorem dX7_init_8 : decode cX7_init 8 = .ok (.newarray .int, 2) := by decide +kernel
theorem dX7_init_10 : decode cX7_init 10 = .ok (.putfield 9, 3) := by decide +kernel
theorem dX7_init_13 : decode cX7_init 13 = .ok (.aload_n 0, 1) := by decide +kernel
theorem dX7_init_14 : decode cX7_init 14 = .ok (.bipush 6, 2) := by decide +kernel
theorem dX7_init_16 : decode cX7_init 16 = .ok (.newarray .int, 2) := by decide +kernel
theorem dX7_init_18 : decode cX7_init 18 = .ok (.putfield 15, 3) := by decide +kernel
theorem dX7_init_21 : decode cX7_init 21 = .ok (.return_, 1) := by decide +kernel
theorem dX7_hasRoom_0 : decode cX7_hasRoom 0 = .ok (.aload_n 0, 1) := by decide +kernel
theorem dX7_hasRoom_1 : decode cX7_hasRoom 1 = .ok (.getfield 18, 3) := by decide +kernel
theorem dX7_hasRoom_4 : decode cX7_hasRoom 4 = .ok (.iload_n 1, 1) := by decide +kernel
theorem dX7_hasRoom_5 : decode cX7_hasRoom 5 = .ok (.iadd, 1) := by decide +kernel
theorem dX7_hasRoom_6 : decode cX7_hasRoom 6 = .ok (.sipush 200, 3) := by decide +kernel
theorem dX7_hasRoom_9 : decode cX7_hasRoom 9 = .ok (.if_icmp .gt 7, 3) := by decide +kernel
theorem dX7_hasRoom_12 : decode cX7_hasRoom 12 = .ok (.iconst 1, 1) := by decide +kernel
theorem dX7_hasRoom_13 : decode cX7_hasRoom 13 = .ok (.goto 4, 3) := by decide +kernel
theorem dX7_hasRoom_16 : decode cX7_hasRoom 16 = .ok (.iconst 0, 1) := by decide +kernel
theorem dX7_hasRoom_17 : decode cX7_hasRoom 17 = .ok (.ireturn, 1) := by decide +kernel
theorem dX7_append_0 : decode cX7_append 0 = .ok (.iconst 0, 1) := by decide +kernel
theorem dX7_append_1 : decode cX7_append 1 = .ok (.istore 4, 2) := by decide +kernel
theorem dX7_append_3 : decode cX7_append 3 = .ok (.iload 4, 2) := by decide +kernel
theorem dX7_append_5 : decode cX7_append 5 = .ok (.iload_n 3, 1) := by decide +kernel
theorem dX7_append_6 : decode cX7_append 6 = .ok (.if_icmp .ge 50, 3) := by decide +kernel
theorem dX7_append_9 : decode cX7_append 9 = .ok (.aload_n 0, 1) := by decide +kernel
theorem dX7_append_10 : decode cX7_append 10 = .ok (.getfield 18, 3) := by decide +kernel
theorem dX7_append_13 : decode cX7_append 13 = .ok (.sipush 200, 3) := by decide +kernel
theorem dX7_append_16 : decode cX7_append 16 = .ok (.if_icmp .ge 40, 3) := by decide +kernel
theorem dX7_append_19 : decode cX7_append 19 = .ok (.aload_n 0, 1) := by decide +kernel
theorem dX7_append_20 : decode cX7_append 20 = .ok (.getfield 9, 3) := by decide +kernel
theorem dX7_append_23 : decode cX7_append 23 = .ok (.aload_n 0, 1) := by decide +kernel
theorem dX7_append_24 : decode cX7_append 24 = .ok (.getfield 18, 3) := by decide +kernel
theorem dX7_append_27 : decode cX7_append 27 = .ok (.lload_n 1, 1) := by decide +kernel
theorem dX7_append_28 : decode cX7_append 28 = .ok (.bipush 8, 2) := by decide +kernel
theorem dX7_append_30 : decode cX7_append 30 = .ok (.iload 4, 2) := by decide +kernel
theorem dX7_append_32 : decode cX7_append 32 = .ok (.imul, 1) := by decide +kernel
theorem dX7_append_33 : decode cX7_append 33 = .ok (.lshr, 1) := by decide +kernel
theorem dX7_append_34 : decode cX7_append 34 = .ok (.ldc2_w 22, 3) := by decide +kernel
theorem dX7_append_37 : decode cX7_append 37 = .ok (.land, 1) := by decide +kernel
theorem dX7_append_38 : decode cX7_append 38 = .ok (.l2i, 1) := by decide +kernel
theorem dX7_append_39 : decode cX7_append 39 = .ok (.iastore, 1) := by decide +kernel
theorem dX7_append_40 : decode cX7_append 40 = .ok (.aload_n 0, 1) := by decide +kernel
theorem dX7_append_41 : decode cX7_append 41 = .ok (.dup, 1) := by decide +kernel
theorem dX7_append_42 : decode cX7_append 42 = .ok (.getfield 18, 3) := by decide +kernel
theorem dX7_append_45 : decode cX7_append 45 = .ok (.iconst 1, 1) := by decide +kernel
theorem dX7_append_46 : decode cX7_append 46 = .ok (.iadd, 1) := by decide +kernel
theorem dX7_append_47 : decode cX7_append 47 = .ok (.putfield 18, 3) := by decide +kernel
theorem dX7_append_50 : decode cX7_append 50 = .ok (.iinc 4 1, 3) := by decide +kernel
theorem dX7_append_53 : decode cX7_append 53 = .ok (.goto (-50), 3) := by decide +kernel
theorem dX7_append_56 : decode cX7_append 56 = .ok (.return_, 1) := by decide +kernel
theorem dX7_readInto_0 : decode cX7_readInto 0 = .ok (.aload_n 0, 1) := by decide +kernel
theorem dX7_readInto_1 : decode cX7_readInto 1 = .ok (.iconst 0, 1) := by decide +kernel
theorem dX7_readInto_2 : decode cX7_readInto 2 = .ok (.putfield 24, 3) := by decide +kernel
theorem dX7_readInto_5 : decode cX7_readInto 5 = .ok (.aload_n 0, 1) := by decide +kernel
theorem dX7_readInto_6 : decode cX7_readInto 6 = .ok (.iconst 0, 1) := by decide +kernel
theorem dX7_readInto_7 : decode cX7_readInto 7 = .ok (.putfield 27, 3) := by decide +kernel
theorem dX7_readInto_10 : decode cX7_readInto 10 = .ok (.iconst 0, 1) := by decide +kernel
theorem dX7_readInto_11 : decode cX7_readInto 11 = .ok (.istore_n 2, 1) := by decide +kernel
theorem dX7_readInto_12 : decode cX7_readInto 12 = .ok (.iload_n 2, 1) := by decide +kernel
theorem dX7_readInto_13 : decode cX7_readInto 13 = .ok (.bipush 10, 2) := by decide +kernel
theorem dX7_readInto_15 : decode cX7_readInto 15 = .ok (.if_icmp .ge 99, 3) := by decide +kernel
theorem dX7_readInto_18 : decode cX7_readInto 18 = .ok (.aload_n 0, 1) := by decide +kernel
theorem dX7_readInto_19 : decode cX7_readInto 19 = .ok (.invokevirtual 30, 3) := by decide +kernel
theorem dX7_readInto_22 : decode cX7_readInto 22 = .ok (.aload_n 0, 1) := by decide +kernel
theorem dX7_readInto_23 : decode cX7_readInto 23 = .ok (.invokevirtual 33, 3) := by decide +kernel
theorem dX7_readInto_26 : decode cX7_readInto 26 = .ok (.istore_n 3, 1) := by decide +kernel
theorem dX7_readInto_27 : decode cX7_readInto 27 = .ok (.aload_n 0, 1) := by decide +kernel
theorem dX7_readInto_28 : decode cX7_readInto 28 = .ok (.iload_n 3, 1) := by decide +kernel
theorem dX7_readInto_29 : decode cX7_readInto 29 = .ok (.invokevirtual 37, 3) := by decide +kernel
theorem dX7_readInto_32 : decode cX7_readInto 32 = .ok (.ifCond .ne 8, 3) := by decide +kernel
theorem dX7_readInto_35 : decode cX7_readInto 35 = .ok (.aload_n 0, 1) := by decide +kernel
theorem dX7_readInto_36 : decode cX7_readInto 36 = .ok (.getfield 24, 3) := by decide +kernel
theorem dX7_readInto_39 : decode cX7_readInto 39 = .ok (.ireturn, 1) := by decide +kernel
theorem dX7_readInto_40 : decode cX7_readInto 40 = .ok (.aload_n 0, 1) := by decide +kernel
theorem dX7_readInto_41 : decode cX7_readInto 41 = .ok (.dup, 1) := by decide +kernel
theorem dX7_readInto_42 : decode cX7_readInto 42 = .ok (.getfield 27, 3) := by decide +kernel
theorem dX7_readInto_45 : decode cX7_readInto 45 = .ok (.iconst 1, 1) := by decide +kernel
theorem dX7_readInto_46 : decode cX7_readInto 46 = .ok (.iadd, 1) := by decide +kernel
theorem dX7_readInto_47 : decode cX7_readInto 47 = .ok (.putfield 27, 3) := by decide +kernel
theorem dX7_readInto_50 : decode cX7_readInto 50 = .ok (.aload_n 1, 1) := by decide +kernel
theorem dX7_readInto_51 : decode cX7_readInto 51 = .ok (.ifnull 12, 3) := by decide +kernel
theorem dX7_readInto_54 : decode cX7_readInto 54 = .ok (.aload_n 1, 1) := by decide +kernel
theorem dX7_readInto_55 : decode cX7_readInto 55 = .ok (.iload_n 3, 1) := by decide +kernel
theorem dX7_readInto_56 : decode cX7_readInto 56 = .ok (.aload_n 0, 1) := by decide +kernel
theorem dX7_readInto_57 : decode cX7_readInto 57 = .ok (.getfield 15, 3) := by decide +kernel
theorem dX7_readInto_60 : decode cX7_readInto 60 = .ok (.invokevirtual 41, 3) := by decide +kernel
theorem dX7_readInto_63 : decode cX7_readInto 63 = .ok (.aload_n 0, 1) := by decide +kernel
theorem dX7_readInto_64 : decode cX7_readInto 64 = .ok (.invokevirtual 30, 3) := by decide +kernel
theorem dX7_readInto_67 : decode cX7_readInto 67 = .ok (.aload_n 0, 1) := by decide +kernel
theorem dX7_readInto_68 : decode cX7_readInto 68 = .ok (.getfield 24, 3) := by decide +kernel
theorem dX7_readInto_71 : decode cX7_readInto 71 = .ok (.aload_n 0, 1) := by decide +kernel
theorem dX7_readInto_72 : decode cX7_readInto 72 = .ok (.getfield 18, 3) := by decide +kernel
theorem dX7_readInto_75 : decode cX7_readInto 75 = .ok (.if_icmp .lt 5, 3) := by decide +kernel
theorem dX7_readInto_78 : decode cX7_readInto 78 = .ok (.iconst (-1), 1) := by decide +kernel
theorem dX7_readInto_79 : decode cX7_readInto 79 = .ok (.ireturn, 1) := by decide +kernel
theorem dX7_readInto_80 : decode cX7_readInto 80 = .ok (.aload_n 0, 1) := by decide +kernel
theorem dX7_readInto_81 : decode cX7_readInto 81 = .ok (.aload_n 0, 1) := by decide +kernel
theorem dX7_readInto_82 : decode cX7_readInto 82 = .ok (.getfield 24, 3) := by decide +kernel
theorem dX7_readInto_85 : decode cX7_readInto 85 = .ok (.invokevirtual 47, 3) := by decide +kernel
theorem dX7_readInto_88 : decode cX7_readInto 88 = .ok (.bipush 59, 2) := by decide +kernel
theorem dX7_readInto_90 : decode cX7_readInto 90 = .ok (.if_icmp .eq 8, 3) := by decide +kernel
theorem dX7_readInto_93 : decode cX7_readInto 93 = .ok (.aload_n 0, 1) := by decide +kernel
theorem dX7_readInto_94 : decode cX7_readInto 94 = .ok (.getfield 24, 3) := by decide +kernel
theorem dX7_readInto_97 : decode cX7_readInto 97 = .ok (.ireturn, 1) := by decide +kernel
theorem dX7_readInto_98 : decode cX7_readInto 98 = .ok (.aload_n 0, 1) := by decide +kernel
theorem dX7_readInto_99 : decode cX7_readInto 99 = .ok (.dup, 1) := by decide +kernel
theorem dX7_readInto_100 : decode cX7_readInto 100 = .ok (.getfield 24, 3) := by decide +kernel
theorem dX7_readInto_103 : decode cX7_readInto 103 = .ok (.iconst 1, 1) := by decide +kernel
theorem dX7_readInto_104 : decode cX7_readInto 104 = .ok (.iadd, 1) := by decide +kernel
theorem dX7_readInto_105 : decode cX7_readInto 105 = .ok (.putfield 24, 3) := by decide +kernel
theorem dX7_readInto_108 : decode cX7_readInto 108 = .ok (.iinc 2 1, 3) := by decide +kernel
theorem dX7_readInto_111 : decode cX7_readInto 111 = .ok (.goto (-99), 3) := by decide +kernel
theorem dX7_readInto_114 : decode cX7_readInto 114 = .ok (.aload_n 0, 1) := by decide +kernel
theorem dX7_readInto_115 : decode cX7_readInto 115 = .ok (.getfield 24, 3) := by decide +kernel
theorem dX7_readInto_118 : decode cX7_readInto 118 = .ok (.iconst 1, 1) := by decide +kernel
theorem dX7_readInto_119 : decode cX7_readInto 119 = .ok (.isub, 1) := by decide +kernel
theorem dX7_readInto_120 : decode cX7_readInto 120 = .ok (.ireturn, 1) := by decide +kernel
theorem dX7_peek_0 : decode cX7_peek 0 = .ok (.iload_n 1, 1) := by decide +kernel
theorem dX7_peek_1 : decode cX7_peek 1 = .ok (.ifCond .lt 27, 3) := by decide +kernel
theorem dX7_peek_4 : decode cX7_peek 4 = .ok (.iload_n 1, 1) := by decide +kernel
theorem dX7_peek_5 : decode cX7_peek 5 = .ok (.aload_n 0, 1) := by decide +kernel
theorem dX7_peek_6 : decode cX7_peek 6 = .ok (.getfield 18, 3) := by decide +kernel
theorem dX7_peek_9 : decode cX7_peek 9 = .ok (.if_icmp .ge 19, 3) := by decide +kernel
theorem dX7_peek_12 : decode cX7_peek 12 = .ok (.iload_n 1, 1) := by decide +kernel
theorem dX7_peek_13 : decode cX7_peek 13 = .ok (.sipush 200, 3) := by decide +kernel
theorem dX7_peek_16 : decode cX7_peek 16 = .ok (.if_icmp .ge 12, 3) := by decide +kernel
theorem dX7_peek_19 : decode cX7_peek 19 = .ok (.aload_n 0, 1) := by decide +kernel
theorem dX7_peek_20 : decode cX7_peek 20 = .ok (.getfield 9, 3) := by decide +kernel
theorem dX7_peek_23 : decode cX7_peek 23 = .ok (.iload_n 1, 1) := by decide +kernel
theorem dX7_peek_24 : decode cX7_peek 24 = .ok (.iaload, 1) := by decide +kernel
theorem dX7_peek_25 : decode cX7_peek 25 = .ok (.goto 4, 3) := by decide +kernel
theorem dX7_peek_28 : decode cX7_peek 28 = .ok (.iconst (-1), 1) := by decide +kernel
theorem dX7_peek_29 : decode cX7_peek 29 = .ok (.ireturn, 1) := by decide +kernel
theorem dX7_skipBlanks_0 : decode cX7_skipBlanks 0 = .ok (.iconst 0, 1) := by decide +kernel
theorem dX7_skipBlanks_1 : decode cX7_skipBlanks 1 = .ok (.istore_n 1, 1) := by decide +kernel
theorem dX7_skipBlanks_2 : decode cX7_skipBlanks 2 = .ok (.iload_n 1, 1) := by decide +kernel
theorem dX7_skipBlanks_3 : decode cX7_skipBlanks 3 = .ok (.sipush 200, 3) := by decide +kernel
theorem dX7_skipBlanks_6 : decode cX7_skipBlanks 6 = .ok (.if_icmp .ge 32, 3) := by decide +kernel
theorem dX7_skipBlanks_9 : decode cX7_skipBlanks 9 = .ok (.aload_n 0, 1) := by decide +kernel
theorem dX7_skipBlanks_10 : decode cX7_skipBlanks 10 = .ok (.aload_n 0, 1) := by decide +kernel
theorem dX7_skipBlanks_11 : decode cX7_skipBlanks 11 = .ok (.getfield 24, 3) := by decide +kernel
theorem dX7_skipBlanks_14 : decode cX7_skipBlanks 14 = .ok (.invokevirtual 47, 3) := by decide +kernel
theorem dX7_skipBlanks_17 : decode cX7_skipBlanks 17 = .ok (.bipush 32, 2) := by decide +kernel
theorem dX7_skipBlanks_19 : decode cX7_skipBlanks 19 = .ok (.if_icmp .ne 19, 3) := by decide +kernel
theorem dX7_skipBlanks_22 : decode cX7_skipBlanks 22 = .ok (.aload_n 0, 1) := by decide +kernel
theorem dX7_skipBlanks_23 : decode cX7_skipBlanks 23 = .ok (.dup, 1) := by decide +kernel
theorem dX7_skipBlanks_24 : decode cX7_skipBlanks 24 = .ok (.getfield 24, 3) := by decide +kernel
theorem dX7_skipBlanks_27 : decode cX7_skipBlanks 27 = .ok (.iconst 1, 1) := by decide +kernel
theorem dX7_skipBlanks_28 : decode cX7_skipBlanks 28 = .ok (.iadd, 1) := by decide +kernel
theorem dX7_skipBlanks_29 : decode cX7_skipBlanks 29 = .ok (.putfield 24, 3) := by decide +kernel
theorem dX7_skipBlanks_32 : decode cX7_skipBlanks 32 = .ok (.iinc 1 1, 3) := by decide +kernel
theorem dX7_skipBlanks_35 : decode cX7_skipBlanks 35 = .ok (.goto (-33), 3) := by decide +kernel
theorem dX7_skipBlanks_38 : decode cX7_skipBlanks 38 = .ok (.return_, 1) := by decide +kernel
theorem dX7_readWord_0 : decode cX7_readWord 0 = .ok (.aload_n 0, 1) := by decide +kernel
theorem dX7_readWord_1 : decode cX7_readWord 1 = .ok (.getfield 24, 3) := by decide +kernel
theorem dX7_readWord_4 : decode cX7_readWord 4 = .ok (.istore_n 1, 1) := by decide +kernel
theorem dX7_readWord_5 : decode cX7_readWord 5 = .ok (.iconst 0, 1) := by decide +kernel
theorem dX7_readWord_6 : decode cX7_readWord 6 = .ok (.istore_n 2, 1) := by decide +kernel
theorem dX7_readWord_7 : decode cX7_readWord 7 = .ok (.iload_n 2, 1) := by decide +kernel
theorem dX7_readWord_8 : decode cX7_readWord 8 = .ok (.sipush 200, 3) := by decide +kernel
theorem dX7_readWord_11 : decode cX7_readWord 11 = .ok (.if_icmp .ge 23, 3) := by decide +kernel
theorem dX7_readWord_14 : decode cX7_readWord 14 = .ok (.aload_n 0, 1) := by decide +kernel
theorem dX7_readWord_15 : decode cX7_readWord 15 = .ok (.iload_n 1, 1) := by decide +kernel
theorem dX7_readWord_16 : decode cX7_readWord 16 = .ok (.invokevirtual 47, 3) := by decide +kernel
theorem dX7_readWord_19 : decode cX7_readWord 19 = .ok (.invokestatic 51, 3) := by decide +kernel
theorem dX7_readWord_22 : decode cX7_readWord 22 = .ok (.ifCond .eq 12, 3) := by decide +kernel
theorem dX7_readWord_25 : decode cX7_readWord 25 = .ok (.iinc 1 1, 3) := by decide +kernel
theorem dX7_readWord_28 : decode cX7_readWord 28 = .ok (.iinc 2 1, 3) := by decide +kernel
theorem dX7_readWord_31 : decode cX7_readWord 31 = .ok (.goto (-24), 3) := by decide +kernel
theorem dX7_readWord_34 : decode cX7_readWord 34 = .ok (.iconst 0, 1) := by decide +kernel
theorem dX7_readWord_35 : decode cX7_readWord 35 = .ok (.istore_n 2, 1) := by decide +kernel
theorem dX7_readWord_36 : decode cX7_readWord 36 = .ok (.iload_n 2, 1) := by decide +kernel
theorem dX7_readWord_37 : decode cX7_readWord 37 = .ok (.bipush 9, 2) := by decide +kernel
theorem dX7_readWord_39 : decode cX7_readWord 39 = .ok (.if_icmp .ge 28, 3) := by decide +kernel
theorem dX7_readWord_42 : decode cX7_readWord 42 = .ok (.aload_n 0, 1) := by decide +kernel
theorem dX7_readWord_43 : decode cX7_readWord 43 = .ok (.iload_n 2, 1) := by decide +kernel
theorem dX7_readWord_44 : decode cX7_readWord 44 = .ok (.invokestatic 54, 3) := by decide +kernel
theorem dX7_readWord_47 : decode cX7_readWord 47 = .ok (.iload_n 1, 1) := by decide +kernel
theorem dX7_readWord_48 : decode cX7_readWord 48 = .ok (.invokevirtual 58, 3) := by decide +kernel
theorem dX7_readWord_51 : decode cX7_readWord 51 = .ok (.ifCond .eq 10, 3) := by decide +kernel
theorem dX7_readWord_54 : decode cX7_readWord 54 = .ok (.aload_n 0, 1) := by decide +kernel
theorem dX7_readWord_55 : decode cX7_readWord 55 = .ok (.iload_n 1, 1) := by decide +kernel
theorem dX7_readWord_56 : decode cX7_readWord 56 = .ok (.putfield 24, 3) := by decide +kernel
theorem dX7_readWord_59 : decode cX7_readWord 59 = .ok (.iload_n 2, 1) := by decide +kernel
theorem dX7_readWord_60 : decode cX7_readWord 60 = .ok (.ireturn, 1) := by decide +kernel
theorem dX7_readWord_61 : decode cX7_readWord 61 = .ok (.iinc 2 1, 3) := by decide +kernel
theorem dX7_readWord_64 : decode cX7_readWord 64 = .ok (.goto (-28), 3) := by decide +kernel
theorem dX7_readWord_67 : decode cX7_readWord 67 = .ok (.iconst (-1), 1) := by decide +kernel
theorem dX7_readWord_68 : decode cX7_readWord 68 = .ok (.ireturn, 1) := by decide +kernel
theorem dX7_isSpelled_0 : decode cX7_isSpelled 0 = .ok (.aload_n 1, 1) := by decide +kernel
theorem dX7_isSpelled_1 : decode cX7_isSpelled 1 = .ok (.invokevirtual 62, 3) := by decide +kernel
theorem dX7_isSpelled_4 : decode cX7_isSpelled 4 = .ok (.iload_n 2, 1) := by decide +kernel
theorem dX7_isSpelled_5 : decode cX7_isSpelled 5 = .ok (.aload_n 0, 1) := by decide +kernel
theorem dX7_isSpelled_6 : decode cX7_isSpelled 6 = .ok (.getfield 24, 3) := by decide +kernel
theorem dX7_isSpelled_9 : decode cX7_isSpelled 9 = .ok (.isub, 1) := by decide +kernel
theorem dX7_isSpelled_10 : decode cX7_isSpelled 10 = .ok (.if_icmp .eq 5, 3) := by decide +kernel
theorem dX7_isSpelled_13 : decode cX7_isSpelled 13 = .ok (.iconst 0, 1) := by decide +kernel
theorem dX7_isSpelled_14 : decode cX7_isSpelled 14 = .ok (.ireturn, 1) := by decide +kernel
theorem dX7_isSpelled_15 : decode cX7_isSpelled 15 = .ok (.iconst 0, 1) := by decide +kernel
theorem dX7_isSpelled_16 : decode cX7_isSpelled 16 = .ok (.istore_n 3, 1) := by decide +kernel
theorem dX7_isSpelled_17 : decode cX7_isSpelled 17 = .ok (.iload_n 3, 1) := by decide +kernel
theorem dX7_isSpelled_18 : decode cX7_isSpelled 18 = .ok (.aload_n 1, 1) := by decide +kernel
theorem dX7_isSpelled_19 : decode cX7_isSpelled 19 = .ok (.invokevirtual 62, 3) := by decide +kernel
theorem dX7_isSpelled_22 : decode cX7_isSpelled 22 = .ok (.if_icmp .ge 29, 3) := by decide +kernel
theorem dX7_isSpelled_25 : decode cX7_isSpelled 25 = .ok (.aload_n 1, 1) := by decide +kernel
theorem dX7_isSpelled_26 : decode cX7_isSpelled 26 = .ok (.iload_n 3, 1) := by decide +kernel
theorem dX7_isSpelled_27 : decode cX7_isSpelled 27 = .ok (.invokevirtual 66, 3) := by decide +kernel
theorem dX7_isSpelled_30 : decode cX7_isSpelled 30 = .ok (.aload_n 0, 1) := by decide +kernel
theorem dX7_isSpelled_31 : decode cX7_isSpelled 31 = .ok (.aload_n 0, 1) := by decide +kernel
theorem dX7_isSpelled_32 : decode cX7_isSpelled 32 = .ok (.getfield 24, 3) := by decide +kernel
theorem dX7_isSpelled_35 : decode cX7_isSpelled 35 = .ok (.iload_n 3, 1) := by decide +kernel
theorem dX7_isSpelled_36 : decode cX7_isSpelled 36 = .ok (.iadd, 1) := by decide +kernel
theorem dX7_isSpelled_37 : decode cX7_isSpelled 37 = .ok (.invokevirtual 47, 3) := by decide +kernel
theorem dX7_isSpelled_40 : decode cX7_isSpelled 40 = .ok (.if_icmp .eq 5, 3) := by decide +kernel
theorem dX7_isSpelled_43 : decode cX7_isSpelled 43 = .ok (.iconst 0, 1) := by decide +kernel
theorem dX7_isSpelled_44 : decode cX7_isSpelled 44 = .ok (.ireturn, 1) := by decide +kernel
theorem dX7_isSpelled_45 : decode cX7_isSpelled 45 = .ok (.iinc 3 1, 3) := by decide +kernel
theorem dX7_isSpelled_48 : decode cX7_isSpelled 48 = .ok (.goto (-31), 3) := by decide +kernel
theorem dX7_isSpelled_51 : decode cX7_isSpelled 51 = .ok (.iconst 1, 1) := by decide +kernel
theorem dX7_isSpelled_52 : decode cX7_isSpelled 52 = .ok (.ireturn, 1) := by decide +kernel
theorem dX7_readNumbers_0 : decode cX7_readNumbers 0 = .ok (.iload_n 1, 1) := by decide +kernel
theorem dX7_readNumbers_1 : decode cX7_readNumbers 1 = .ok (.ifCond .lt 9, 3) := by decide +kernel
theorem dX7_readNumbers_4 : decode cX7_readNumbers 4 = .ok (.iload_n 1, 1) := by decide +kernel
theorem dX7_readNumbers_5 : decode cX7_readNumbers 5 = .ok (.bipush 9, 2) := by decide +kernel
theorem dX7_readNumbers_7 : decode cX7_readNumbers 7 = .ok (.if_icmp .lt 5, 3) := by decide +kernel
theorem dX7_readNumbers_10 : decode cX7_readNumbers 10 = .ok (.iconst 0, 1) := by decide +kernel
theorem dX7_readNumbers_11 : decode cX7_readNumbers 11 = .ok (.ireturn, 1) := by decide +kernel
theorem dX7_readNumbers_12 : decode cX7_readNumbers 12 = .ok (.getstatic 70, 3) := by decide +kernel
theorem dX7_readNumbers_15 : decode cX7_readNumbers 15 = .ok (.iload_n 1, 1) := by decide +kernel
theorem dX7_readNumbers_16 : decode cX7_readNumbers 16 = .ok (.iaload, 1) := by decide +kernel
theorem dX7_readNumbers_17 : decode cX7_readNumbers 17 = .ok (.istore_n 2, 1) := by decide +kernel
theorem dX7_readNumbers_18 : decode cX7_readNumbers 18 = .ok (.getstatic 70, 3) := by decide +kernel
theorem dX7_readNumbers_21 : decode cX7_readNumbers 21 = .ok (.iload_n 1, 1) := by decide +kernel
theorem dX7_readNumbers_22 : decode cX7_readNumbers 22 = .ok (.iconst 1, 1) := by decide +kernel
theorem dX7_readNumbers_23 : decode cX7_readNumbers 23 = .ok (.iadd, 1) := by decide +kernel
theorem dX7_readNumbers_24 : decode cX7_readNumbers 24 = .ok (.iaload, 1) := by decide +kernel
theorem dX7_readNumbers_25 : decode cX7_readNumbers 25 = .ok (.iload_n 2, 1) := by decide +kernel
theorem dX7_readNumbers_26 : decode cX7_readNumbers 26 = .ok (.isub, 1) := by decide +kernel
theorem dX7_readNumbers_27 : decode cX7_readNumbers 27 = .ok (.istore_n 3, 1) := by decide +kernel
theorem dX7_readNumbers_28 : decode cX7_readNumbers 28 = .ok (.iconst 0, 1) := by decide +kernel
theorem dX7_readNumbers_29 : decode cX7_readNumbers 29 = .ok (.istore 4, 2) := by decide +kernel
theorem dX7_readNumbers_31 : decode cX7_readNumbers 31 = .ok (.iload 4, 2) := by decide +kernel
theorem dX7_readNumbers_33 : decode cX7_readNumbers 33 = .ok (.iload_n 3, 1) := by decide +kernel
theorem dX7_readNumbers_34 : decode cX7_readNumbers 34 = .ok (.if_icmp .ge 84, 3) := by decide +kernel
theorem dX7_readNumbers_37 : decode cX7_readNumbers 37 = .ok (.iload 4, 2) := by decide +kernel
theorem dX7_readNumbers_39 : decode cX7_readNumbers 39 = .ok (.bipush 6, 2) := by decide +kernel
theorem dX7_readNumbers_41 : decode cX7_readNumbers 41 = .ok (.if_icmp .ge 77, 3) := by decide +kernel
theorem dX7_readNumbers_44 : decode cX7_readNumbers 44 = .ok (.aload_n 0, 1) := by decide +kernel
theorem dX7_readNumbers_45 : decode cX7_readNumbers 45 = .ok (.invokevirtual 30, 3) := by decide +kernel
theorem dX7_readNumbers_48 : decode cX7_readNumbers 48 = .ok (.iload_n 1, 1) := by decide +kernel
theorem dX7_readNumbers_49 : decode cX7_readNumbers 49 = .ok (.iload 4, 2) := by decide +kernel
theorem dX7_readNumbers_51 : decode cX7_readNumbers 51 = .ok (.invokestatic 73, 3) := by decide +kernel
theorem dX7_readNumbers_54 : decode cX7_readNumbers 54 = .ok (.ifCond .eq 15, 3) := by decide +kernel
theorem dX7_readNumbers_57 : decode cX7_readNumbers 57 = .ok (.aload_n 0, 1) := by decide +kernel
theorem dX7_readNumbers_58 : decode cX7_readNumbers 58 = .ok (.getfield 15, 3) := by decide +kernel
theorem dX7_readNumbers_61 : decode cX7_readNumbers 61 = .ok (.iload 4, 2) := by decide +kernel
theorem dX7_readNumbers_63 : decode cX7_readNumbers 63 = .ok (.iconst 1, 1) := by decide +kernel
theorem dX7_readNumbers_64 : decode cX7_readNumbers 64 = .ok (.isub, 1) := by decide +kernel
theorem dX7_readNumbers_65 : decode cX7_readNumbers 65 = .ok (.iaload, 1) := by decide +kernel
theorem dX7_readNumbers_66 : decode cX7_readNumbers 66 = .ok (.goto 11, 3) := by decide +kernel
theorem dX7_readNumbers_69 : decode cX7_readNumbers 69 = .ok (.getstatic 77, 3) := by decide +kernel
theorem dX7_readNumbers_72 : decode cX7_readNumbers 72 = .ok (.iload_n 2, 1) := by decide +kernel
theorem dX7_readNumbers_73 : decode cX7_readNumbers 73 = .ok (.iload 4, 2) := by decide +kernel
theorem dX7_readNumbers_75 : decode cX7_readNumbers 75 = .ok (.iadd, 1) := by decide +kernel
theorem dX7_readNumbers_76 : decode cX7_readNumbers 76 = .ok (.iaload, 1) := by decide +kernel
theorem dX7_readNumbers_77 : decode cX7_readNumbers 77 = .ok (.istore 5, 2) := by decide +kernel
theorem dX7_readNumbers_79 : decode cX7_readNumbers 79 = .ok (.aload_n 0, 1) := by decide +kernel
theorem dX7_readNumbers_80 : decode cX7_readNumbers 80 = .ok (.iload 5, 2) := by decide +kernel
theorem dX7_readNumbers_82 : decode cX7_readNumbers 82 = .ok (.getstatic 80, 3) := by decide +kernel
theorem dX7_readNumbers_85 : decode cX7_readNumbers 85 = .ok (.iload_n 2, 1) := by decide +kernel
theorem dX7_readNumbers_86 : decode cX7_readNumbers 86 = .ok (.iload 4, 2) := by decide +kernel
theorem dX7_readNumbers_88 : decode cX7_readNumbers 88 = .ok (.iadd, 1) := by decide +kernel
theorem dX7_readNumbers_89 : decode cX7_readNumbers 89 = .ok (.iaload, 1) := by decide +kernel
theorem dX7_readNumbers_90 : decode cX7_readNumbers 90 = .ok (.invokevirtual 83, 3) := by decide +kernel
theorem dX7_readNumbers_93 : decode cX7_readNumbers 93 = .ok (.istore 6, 2) := by decide +kernel
theorem dX7_readNumbers_95 : decode cX7_readNumbers 95 = .ok (.iload 6, 2) := by decide +kernel
theorem dX7_readNumbers_97 : decode cX7_readNumbers 97 = .ok (.iconst (-1), 1) := by decide +kernel
theorem dX7_readNumbers_98 : decode cX7_readNumbers 98 = .ok (.if_icmp .ne 5, 3) := by decide +kernel
theorem dX7_readNumbers_101 : decode cX7_readNumbers 101 = .ok (.iconst 0, 1) := by decide +kernel
theorem dX7_readNumbers_102 : decode cX7_readNumbers 102 = .ok (.ireturn, 1) := by decide +kernel
theorem dX7_readNumbers_103 : decode cX7_readNumbers 103 = .ok (.aload_n 0, 1) := by decide +kernel
theorem dX7_readNumbers_104 : decode cX7_readNumbers 104 = .ok (.getfield 15, 3) := by decide +kernel
theorem dX7_readNumbers_107 : decode cX7_readNumbers 107 = .ok (.iload 4, 2) := by decide +kernel
theorem dX7_readNumbers_109 : decode cX7_readNumbers 109 = .ok (.iload 6, 2) := by decide +kernel
theorem dX7_readNumbers_111 : decode cX7_readNumbers 111 = .ok (.iastore, 1) := by decide +kernel
theorem dX7_readNumbers_112 : decode cX7_readNumbers 112 = .ok (.iinc 4 1, 3) := by decide +kernel
theorem dX7_readNumbers_115 : decode cX7_readNumbers 115 = .ok (.goto (-84), 3) := by decide +kernel
theorem dX7_readNumbers_118 : decode cX7_readNumbers 118 = .ok (.iconst 1, 1) := by decide +kernel
theorem dX7_readNumbers_119 : decode cX7_readNumbers 119 = .ok (.ireturn, 1) := by decide +kernel
theorem dX7_readNumber_0 : decode cX7_readNumber 0 = .ok (.aload_n 0, 1) := by decide +kernel
theorem dX7_readNumber_1 : decode cX7_readNumber 1 = .ok (.getfield 24, 3) := by decide +kernel
theorem dX7_readNumber_4 : decode cX7_readNumber 4 = .ok (.istore_n 3, 1) := by decide +kernel
theorem dX7_readNumber_5 : decode cX7_readNumber 5 = .ok (.iconst 0, 1) := by decide +kernel
theorem dX7_readNumber_6 : decode cX7_readNumber 6 = .ok (.istore 4, 2) := by decide +kernel
theorem dX7_readNumber_8 : decode cX7_readNumber 8 = .ok (.iconst 0, 1) := by decide +kernel
theorem dX7_readNumber_9 : decode cX7_readNumber 9 = .ok (.istore 5, 2) := by decide +kernel
theorem dX7_readNumber_11 : decode cX7_readNumber 11 = .ok (.iload 5, 2) := by decide +kernel
theorem dX7_readNumber_13 : decode cX7_readNumber 13 = .ok (.sipush 200, 3) := by decide +kernel
theorem dX7_readNumber_16 : decode cX7_readNumber 16 = .ok (.if_icmp .ge 45, 3) := by decide +kernel
theorem dX7_readNumber_19 : decode cX7_readNumber 19 = .ok (.aload_n 0, 1) := by decide +kernel
theorem dX7_readNumber_20 : decode cX7_readNumber 20 = .ok (.iload_n 3, 1) := by decide +kernel
theorem dX7_readNumber_21 : decode cX7_readNumber 21 = .ok (.invokevirtual 47, 3) := by decide +kernel
theorem dX7_readNumber_24 : decode cX7_readNumber 24 = .ok (.invokestatic 87, 3) := by decide +kernel
theorem dX7_readNumber_27 : decode cX7_readNumber 27 = .ok (.ifCond .eq 34, 3) := by decide +kernel
theorem dX7_readNumber_30 : decode cX7_readNumber 30 = .ok (.iload 5, 2) := by decide +kernel
theorem dX7_readNumber_32 : decode cX7_readNumber 32 = .ok (.iconst 2, 1) := by decide +kernel
theorem dX7_readNumber_33 : decode cX7_readNumber 33 = .ok (.if_icmp .ge 19, 3) := by decide +kernel
theorem dX7_readNumber_36 : decode cX7_readNumber 36 = .ok (.bipush 10, 2) := by decide +kernel
theorem dX7_readNumber_38 : decode cX7_readNumber 38 = .ok (.iload 4, 2) := by decide +kernel
theorem dX7_readNumber_40 : decode cX7_readNumber 40 = .ok (.imul, 1) := by decide +kernel
theorem dX7_readNumber_41 : decode cX7_readNumber 41 = .ok (.aload_n 0, 1) := by decide +kernel
theorem dX7_readNumber_42 : decode cX7_readNumber 42 = .ok (.iload_n 3, 1) := by decide +kernel
theorem dX7_readNumber_43 : decode cX7_readNumber 43 = .ok (.invokevirtual 47, 3) := by decide +kernel
theorem dX7_readNumber_46 : decode cX7_readNumber 46 = .ok (.iadd, 1) := by decide +kernel
theorem dX7_readNumber_47 : decode cX7_readNumber 47 = .ok (.bipush 48, 2) := by decide +kernel
theorem dX7_readNumber_49 : decode cX7_readNumber 49 = .ok (.isub, 1) := by decide +kernel
theorem dX7_readNumber_50 : decode cX7_readNumber 50 = .ok (.istore 4, 2) := by decide +kernel
theorem dX7_readNumber_52 : decode cX7_readNumber 52 = .ok (.iinc 3 1, 3) := by decide +kernel
theorem dX7_readNumber_55 : decode cX7_readNumber 55 = .ok (.iinc 5 1, 3) := by decide +kernel
theorem dX7_readNumber_58 : decode cX7_readNumber 58 = .ok (.goto (-47), 3) := by decide +kernel
theorem dX7_readNumber_61 : decode cX7_readNumber 61 = .ok (.iload_n 3, 1) := by decide +kernel
theorem dX7_readNumber_62 : decode cX7_readNumber 62 = .ok (.aload_n 0, 1) := by decide +kernel
theorem dX7_readNumber_63 : decode cX7_readNumber 63 = .ok (.getfield 24, 3) := by decide +kernel
theorem dX7_readNumber_66 : decode cX7_readNumber 66 = .ok (.isub, 1) := by decide +kernel
theorem dX7_readNumber_67 : decode cX7_readNumber 67 = .ok (.istore 5, 2) := by decide +kernel
theorem dX7_readNumber_69 : decode cX7_readNumber 69 = .ok (.iload 5, 2) := by decide +kernel
theorem dX7_readNumber_71 : decode cX7_readNumber 71 = .ok (.ifCond .eq 21, 3) := by decide +kernel
theorem dX7_readNumber_74 : decode cX7_readNumber 74 = .ok (.iload 5, 2) := by decide +kernel
theorem dX7_readNumber_76 : decode cX7_readNumber 76 = .ok (.iconst 2, 1) := by decide +kernel
theorem dX7_readNumber_77 : decode cX7_readNumber 77 = .ok (.if_icmp .gt 15, 3) := by decide +kernel
theorem dX7_readNumber_80 : decode cX7_readNumber 80 = .ok (.iload 4, 2) := by decide +kernel
theorem dX7_readNumber_82 : decode cX7_readNumber 82 = .ok (.iload_n 1, 1) := by decide +kernel
theorem dX7_readNumber_83 : decode cX7_readNumber 83 = .ok (.if_icmp .lt 9, 3) := by decide +kernel
theorem dX7_readNumber_86 : decode cX7_readNumber 86 = .ok (.iload 4, 2) := by decide +kernel
theorem dX7_readNumber_88 : decode cX7_readNumber 88 = .ok (.iload_n 2, 1) := by decide +kernel
theorem dX7_readNumber_89 : decode cX7_readNumber 89 = .ok (.if_icmp .le 5, 3) := by decide +kernel
theorem dX7_readNumber_92 : decode cX7_readNumber 92 = .ok (.iconst (-1), 1) := by decide +kernel
theorem dX7_readNumber_93 : decode cX7_readNumber 93 = .ok (.ireturn, 1) := by decide +kernel
theorem dX7_readNumber_94 : decode cX7_readNumber 94 = .ok (.aload_n 0, 1) := by decide +kernel
theorem dX7_readNumber_95 : decode cX7_readNumber 95 = .ok (.iload_n 3, 1) := by decide +kernel
theorem dX7_readNumber_96 : decode cX7_readNumber 96 = .ok (.putfield 24, 3) := by decide +kernel
theorem dX7_readNumber_99 : decode cX7_readNumber 99 = .ok (.iload 4, 2) := by decide +kernel
theorem dX7_readNumber_101 : decode cX7_readNumber 101 = .ok (.ireturn, 1) := by decide +kernel
theorem dX7_isEndOfHours_0 : decode cX7_isEndOfHours 0 = .ok (.iload_n 0, 1) := by decide +kernel
theorem dX7_isEndOfHours_1 : decode cX7_isEndOfHours 1 = .ok (.ifCond .ne 8, 3) := by decide +kernel
theorem dX7_isEndOfHours_4 : decode cX7_isEndOfHours 4 = .ok (.iload_n 1, 1) := by decide +kernel
theorem dX7_isEndOfHours_5 : decode cX7_isEndOfHours 5 = .ok (.iconst 2, 1) := by decide +kernel
theorem dX7_isEndOfHours_6 : decode cX7_isEndOfHours 6 = .ok (.if_icmp .eq 13, 3) := by decide +kernel
theorem dX7_isEndOfHours_9 : decode cX7_isEndOfHours 9 = .ok (.iload_n 0, 1) := by decide +kernel
theorem dX7_isEndOfHours_10 : decode cX7_isEndOfHours 10 = .ok (.iconst 5, 1) := by decide +kernel
theorem dX7_isEndOfHours_11 : decode cX7_isEndOfHours 11 = .ok (.if_icmp .ne 12, 3) := by decide +kernel
theorem dX7_isEndOfHours_14 : decode cX7_isEndOfHours 14 = .ok (.iload_n 1, 1) := by decide +kernel
theorem dX7_isEndOfHours_15 : decode cX7_isEndOfHours 15 = .ok (.iconst 1, 1) := by decide +kernel
theorem dX7_isEndOfHours_16 : decode cX7_isEndOfHours 16 = .ok (.if_icmp .ne 7, 3) := by decide +kernel
theorem dX7_isEndOfHours_19 : decode cX7_isEndOfHours 19 = .ok (.iconst 1, 1) := by decide +kernel
theorem dX7_isEndOfHours_20 : decode cX7_isEndOfHours 20 = .ok (.goto 4, 3) := by decide +kernel
theorem dX7_isEndOfHours_23 : decode cX7_isEndOfHours 23 = .ok (.iconst 0, 1) := by decide +kernel
theorem dX7_isEndOfHours_24 : decode cX7_isEndOfHours 24 = .ok (.ireturn, 1) := by decide +kernel
theorem dX7_isLetter_0 : decode cX7_isLetter 0 = .ok (.iload_n 0, 1) := by decide +kernel
theorem dX7_isLetter_1 : decode cX7_isLetter 1 = .ok (.bipush 97, 2) := by decide +kernel
theorem dX7_isLetter_3 : decode cX7_isLetter 3 = .ok (.if_icmp .lt 13, 3) := by decide +kernel
theorem dX7_isLetter_6 : decode cX7_isLetter 6 = .ok (.iload_n 0, 1) := by decide +kernel
theorem dX7_isLetter_7 : decode cX7_isLetter 7 = .ok (.bipush 122, 2) := by decide +kernel
theorem dX7_isLetter_9 : decode cX7_isLetter 9 = .ok (.if_icmp .gt 7, 3) := by decide +kernel
theorem dX7_isLetter_12 : decode cX7_isLetter 12 = .ok (.iconst 1, 1) := by decide +kernel
theorem dX7_isLetter_13 : decode cX7_isLetter 13 = .ok (.goto 4, 3) := by decide +kernel
theorem dX7_isLetter_16 : decode cX7_isLetter 16 = .ok (.iconst 0, 1) := by decide +kernel
theorem dX7_isLetter_17 : decode cX7_isLetter 17 = .ok (.ireturn, 1) := by decide +kernel
theorem dX7_isDigit_0 : decode cX7_isDigit 0 = .ok (.iload_n 0, 1) := by decide +kernel
theorem dX7_isDigit_1 : decode cX7_isDigit 1 = .ok (.bipush 48, 2) := by decide +kernel
theorem dX7_isDigit_3 : decode cX7_isDigit 3 = .ok (.if_icmp .lt 13, 3) := by decide +kernel
theorem dX7_isDigit_6 : decode cX7_isDigit 6 = .ok (.iload_n 0, 1) := by decide +kernel
theorem dX7_isDigit_7 : decode cX7_isDigit 7 = .ok (.bipush 57, 2) := by decide +kernel
theorem dX7_isDigit_9 : decode cX7_isDigit 9 = .ok (.if_icmp .gt 7, 3) := by decide +kernel
theorem dX7_isDigit_12 : decode cX7_isDigit 12 = .ok (.iconst 1, 1) := by decide +kernel
theorem dX7_isDigit_13 : decode cX7_isDigit 13 = .ok (.goto 4, 3) := by decide +kernel
theorem dX7_isDigit_16 : decode cX7_isDigit 16 = .ok (.iconst 0, 1) := by decide +kernel
theorem dX7_isDigit_17 : decode cX7_isDigit 17 = .ok (.ireturn, 1) := by decide +kernel
theorem dX7_nameOf_0 : decode cX7_nameOf 0 = .ok (.iload_n 0, 1) := by decide +kernel
theorem dX7_nameOf_1 : decode cX7_nameOf 1 = .ok (.tableswitch 71 0 7 #[47, 50, 53, 56, 59, 62, 65, 68], 47) := by decide +kernel
theorem dX7_nameOf_48 : decode cX7_nameOf 48 = .ok (.ldc 90, 2) := by decide +kernel
theorem dX7_nameOf_50 : decode cX7_nameOf 50 = .ok (.areturn, 1) := by decide +kernel
theorem dX7_nameOf_51 : decode cX7_nameOf 51 = .ok (.ldc 92, 2) := by decide +kernel
theorem dX7_nameOf_53 : decode cX7_nameOf 53 = .ok (.areturn, 1) := by decide +kernel
theorem dX7_nameOf_54 : decode cX7_nameOf 54 = .ok (.ldc 94, 2) := by decide +kernel
theorem dX7_nameOf_56 : decode cX7_nameOf 56 = .ok (.areturn, 1) := by decide +kernel
theorem dX7_nameOf_57 : decode cX7_nameOf 57 = .ok (.ldc 96, 2) := by decide +kernel
theorem dX7_nameOf_59 : decode cX7_nameOf 59 = .ok (.areturn, 1) := by decide +kernel
theorem dX7_nameOf_60 : decode cX7_nameOf 60 = .ok (.ldc 98, 2) := by decide +kernel
theorem dX7_nameOf_62 : decode cX7_nameOf 62 = .ok (.areturn, 1) := by decide +kernel
theorem dX7_nameOf_63 : decode cX7_nameOf 63 = .ok (.ldc 100, 2) := by decide +kernel
theorem dX7_nameOf_65 : decode cX7_nameOf 65 = .ok (.areturn, 1) := by decide +kernel
theorem dX7_nameOf_66 : decode cX7_nameOf 66 = .ok (.ldc 102, 2) := by decide +kernel
theorem dX7_nameOf_68 : decode cX7_nameOf 68 = .ok (.areturn, 1) := by decide +kernel
theorem dX7_nameOf_69 : decode cX7_nameOf 69 = .ok (.ldc 104, 2) := by decide +kernel
theorem dX7_nameOf_71 : decode cX7_nameOf 71 = .ok (.areturn, 1) := by decide +kernel
theorem dX7_nameOf_72 : decode cX7_nameOf 72 = .ok (.ldc 106, 2) := by decide +kernel
theorem dX7_nameOf_74 : decode cX7_nameOf 74 = .ok (.areturn, 1) := by decide +kernel
