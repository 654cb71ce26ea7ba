theorem dX0_init_0 : decode cX0_init 0 = .ok (.aload_n 0, 1) := by decide +kernel
theorem dX0_init_1 : decode cX0_init 1 = .ok (.invokespecial 3, 3) := by decide +kernel
theorem dX0_init_4 : decode cX0_init 4 = .ok (.aload_n 0, 1) := by decide +kernel
theorem dX0_init_5 : decode cX0_init 5 = .ok (.bipush 24, 2) := by decide +kernel
theorem dX0_init_7 : decode cX0_init 7 = .ok (.newarray .int, 2) := by decide +kernel
theorem dX0_init_9 : decode cX0_init 9 = .ok (.putfield 9, 3) := by decide +kernel
theorem dX0_init_12 : decode cX0_init 12 = .ok (.aload_n 0, 1) := by decide +kernel
theorem dX0_init_13 : decode cX0_init 13 = .ok (.sipush 288, 3) := by decide +kernel
theorem dX0_init_16 : decode cX0_init 16 = .ok (.newarray .int, 2) := by decide +kernel
theorem dX0_init_18 : decode cX0_init 18 = .ok (.putfield 15, 3) := by decide +kernel
theorem dX0_init_21 : decode cX0_init 21 = .ok (.aload_n 0, 1) := by decide +kernel
theorem dX0_init_22 : decode cX0_init 22 = .ok (.sipush 288, 3) := by decide +kernel
theorem dX0_init_25 : decode cX0_init 25 = .ok (.newarray .int, 2) := by decide +kernel
theorem dX0_init_27 : decode cX0_init 27 = .ok (.putfield 18, 3) := by decide +kernel
theorem dX0_init_30 : decode cX0_init 30 = .ok (.return_, 1) := by decide +kernel
theorem dX0_draw_0 : decode cX0_draw 0 = .ok (.iconst 0, 1) := by decide +kernel
theorem dX0_draw_1 : decode cX0_draw 1 = .ok (.istore_n 2, 1) := by decide +kernel
theorem dX0_draw_2 : decode cX0_draw 2 = .ok (.iload_n 2, 1) := by decide +kernel
theorem dX0_draw_3 : decode cX0_draw 3 = .ok (.bipush 6, 2) := by decide +kernel
theorem dX0_draw_5 : decode cX0_draw 5 = .ok (.if_icmp .ge 29, 3) := by decide +kernel
theorem dX0_draw_8 : decode cX0_draw 8 = .ok (.iconst 1, 1) := by decide +kernel
theorem dX0_draw_9 : decode cX0_draw 9 = .ok (.istore_n 3, 1) := by decide +kernel
theorem dX0_draw_10 : decode cX0_draw 10 = .ok (.iload_n 3, 1) := by decide +kernel
theorem dX0_draw_11 : decode cX0_draw 11 = .ok (.iconst 4, 1) := by decide +kernel
theorem dX0_draw_12 : decode cX0_draw 12 = .ok (.if_icmp .ge 16, 3) := by decide +kernel
theorem dX0_draw_15 : decode cX0_draw 15 = .ok (.aload_n 0, 1) := by decide +kernel
theorem dX0_draw_16 : decode cX0_draw 16 = .ok (.aload_n 1, 1) := by decide +kernel
theorem dX0_draw_17 : decode cX0_draw 17 = .ok (.iload_n 2, 1) := by decide +kernel
theorem dX0_draw_18 : decode cX0_draw 18 = .ok (.iload_n 3, 1) := by decide +kernel
theorem dX0_draw_19 : decode cX0_draw 19 = .ok (.invokevirtual 21, 3) := by decide +kernel
theorem dX0_draw_22 : decode cX0_draw 22 = .ok (.iinc 3 1, 3) := by decide +kernel
theorem dX0_draw_25 : decode cX0_draw 25 = .ok (.goto (-15), 3) := by decide +kernel
theorem dX0_draw_28 : decode cX0_draw 28 = .ok (.iinc 2 1, 3) := by decide +kernel
theorem dX0_draw_31 : decode cX0_draw 31 = .ok (.goto (-29), 3) := by decide +kernel
theorem dX0_draw_34 : decode cX0_draw 34 = .ok (.return_, 1) := by decide +kernel
theorem dX0_drawKite_0 : decode cX0_drawKite 0 = .ok (.iload_n 2, 1) := by decide +kernel
theorem dX0_drawKite_1 : decode cX0_drawKite 1 = .ok (.iconst 4, 1) := by decide +kernel
theorem dX0_drawKite_2 : decode cX0_drawKite 2 = .ok (.imul, 1) := by decide +kernel
theorem dX0_drawKite_3 : decode cX0_drawKite 3 = .ok (.iload_n 3, 1) := by decide +kernel
theorem dX0_drawKite_4 : decode cX0_drawKite 4 = .ok (.iadd, 1) := by decide +kernel
theorem dX0_drawKite_5 : decode cX0_drawKite 5 = .ok (.istore 4, 2) := by decide +kernel
theorem dX0_drawKite_7 : decode cX0_drawKite 7 = .ok (.iconst 0, 1) := by decide +kernel
theorem dX0_drawKite_8 : decode cX0_drawKite 8 = .ok (.istore 5, 2) := by decide +kernel
theorem dX0_drawKite_10 : decode cX0_drawKite 10 = .ok (.iconst 0, 1) := by decide +kernel
theorem dX0_drawKite_11 : decode cX0_drawKite 11 = .ok (.istore 6, 2) := by decide +kernel
theorem dX0_drawKite_13 : decode cX0_drawKite 13 = .ok (.iload 6, 2) := by decide +kernel
theorem dX0_drawKite_15 : decode cX0_drawKite 15 = .ok (.bipush 12, 2) := by decide +kernel
theorem dX0_drawKite_17 : decode cX0_drawKite 17 = .ok (.if_icmp .ge 116, 3) := by decide +kernel
theorem dX0_drawKite_20 : decode cX0_drawKite 20 = .ok (.aload_n 1, 1) := by decide +kernel
theorem dX0_drawKite_21 : decode cX0_drawKite 21 = .ok (.iload_n 2, 1) := by decide +kernel
theorem dX0_drawKite_22 : decode cX0_drawKite 22 = .ok (.iload_n 3, 1) := by decide +kernel
theorem dX0_drawKite_23 : decode cX0_drawKite 23 = .ok (.iload 6, 2) := by decide +kernel
theorem dX0_drawKite_25 : decode cX0_drawKite 25 = .ok (.invokevirtual 25, 3) := by decide +kernel
theorem dX0_drawKite_28 : decode cX0_drawKite 28 = .ok (.ifCond .eq 18, 3) := by decide +kernel
theorem dX0_drawKite_31 : decode cX0_drawKite 31 = .ok (.aload_n 1, 1) := by decide +kernel
theorem dX0_drawKite_32 : decode cX0_drawKite 32 = .ok (.iload_n 2, 1) := by decide +kernel
theorem dX0_drawKite_33 : decode cX0_drawKite 33 = .ok (.iload_n 3, 1) := by decide +kernel
theorem dX0_drawKite_34 : decode cX0_drawKite 34 = .ok (.iload 6, 2) := by decide +kernel
theorem dX0_drawKite_36 : decode cX0_drawKite 36 = .ok (.invokevirtual 31, 3) := by decide +kernel
theorem dX0_drawKite_39 : decode cX0_drawKite 39 = .ok (.ifCond .eq 7, 3) := by decide +kernel
theorem dX0_drawKite_42 : decode cX0_drawKite 42 = .ok (.iconst 1, 1) := by decide +kernel
theorem dX0_drawKite_43 : decode cX0_drawKite 43 = .ok (.goto 4, 3) := by decide +kernel
theorem dX0_drawKite_46 : decode cX0_drawKite 46 = .ok (.iconst 0, 1) := by decide +kernel
theorem dX0_drawKite_47 : decode cX0_drawKite 47 = .ok (.istore 7, 2) := by decide +kernel
theorem dX0_drawKite_49 : decode cX0_drawKite 49 = .ok (.iload 5, 2) := by decide +kernel
theorem dX0_drawKite_51 : decode cX0_drawKite 51 = .ok (.iload 7, 2) := by decide +kernel
theorem dX0_drawKite_53 : decode cX0_drawKite 53 = .ok (.ifCond .eq 10, 3) := by decide +kernel
theorem dX0_drawKite_56 : decode cX0_drawKite 56 = .ok (.iconst 1, 1) := by decide +kernel
theorem dX0_drawKite_57 : decode cX0_drawKite 57 = .ok (.iload 6, 2) := by decide +kernel
theorem dX0_drawKite_59 : decode cX0_drawKite 59 = .ok (.ishl, 1) := by decide +kernel
theorem dX0_drawKite_60 : decode cX0_drawKite 60 = .ok (.goto 4, 3) := by decide +kernel
theorem dX0_drawKite_63 : decode cX0_drawKite 63 = .ok (.iconst 0, 1) := by decide +kernel
theorem dX0_drawKite_64 : decode cX0_drawKite 64 = .ok (.ior, 1) := by decide +kernel
theorem dX0_drawKite_65 : decode cX0_drawKite 65 = .ok (.istore 5, 2) := by decide +kernel
theorem dX0_drawKite_67 : decode cX0_drawKite 67 = .ok (.aload_n 0, 1) := by decide +kernel
theorem dX0_drawKite_68 : decode cX0_drawKite 68 = .ok (.getfield 15, 3) := by decide +kernel
theorem dX0_drawKite_71 : decode cX0_drawKite 71 = .ok (.iload 4, 2) := by decide +kernel
theorem dX0_drawKite_73 : decode cX0_drawKite 73 = .ok (.bipush 12, 2) := by decide +kernel
theorem dX0_drawKite_75 : decode cX0_drawKite 75 = .ok (.imul, 1) := by decide +kernel
theorem dX0_drawKite_76 : decode cX0_drawKite 76 = .ok (.iload 6, 2) := by decide +kernel
theorem dX0_drawKite_78 : decode cX0_drawKite 78 = .ok (.iadd, 1) := by decide +kernel
theorem dX0_drawKite_79 : decode cX0_drawKite 79 = .ok (.iload 7, 2) := by decide +kernel
theorem dX0_drawKite_81 : decode cX0_drawKite 81 = .ok (.ifCond .eq 14, 3) := by decide +kernel
theorem dX0_drawKite_84 : decode cX0_drawKite 84 = .ok (.aload_n 1, 1) := by decide +kernel
theorem dX0_drawKite_85 : decode cX0_drawKite 85 = .ok (.iload_n 2, 1) := by decide +kernel
theorem dX0_drawKite_86 : decode cX0_drawKite 86 = .ok (.iload_n 3, 1) := by decide +kernel
theorem dX0_drawKite_87 : decode cX0_drawKite 87 = .ok (.iload 6, 2) := by decide +kernel
theorem dX0_drawKite_89 : decode cX0_drawKite 89 = .ok (.invokestatic 34, 3) := by decide +kernel
theorem dX0_drawKite_92 : decode cX0_drawKite 92 = .ok (.goto 4, 3) := by decide +kernel
theorem dX0_drawKite_95 : decode cX0_drawKite 95 = .ok (.iconst 0, 1) := by decide +kernel
theorem dX0_drawKite_96 : decode cX0_drawKite 96 = .ok (.iastore, 1) := by decide +kernel
theorem dX0_drawKite_97 : decode cX0_drawKite 97 = .ok (.aload_n 0, 1) := by decide +kernel
theorem dX0_drawKite_98 : decode cX0_drawKite 98 = .ok (.getfield 18, 3) := by decide +kernel
theorem dX0_drawKite_101 : decode cX0_drawKite 101 = .ok (.iload 4, 2) := by decide +kernel
theorem dX0_drawKite_103 : decode cX0_drawKite 103 = .ok (.bipush 12, 2) := by decide +kernel
theorem dX0_drawKite_105 : decode cX0_drawKite 105 = .ok (.imul, 1) := by decide +kernel
theorem dX0_drawKite_106 : decode cX0_drawKite 106 = .ok (.iload 6, 2) := by decide +kernel
theorem dX0_drawKite_108 : decode cX0_drawKite 108 = .ok (.iadd, 1) := by decide +kernel
theorem dX0_drawKite_109 : decode cX0_drawKite 109 = .ok (.iload 7, 2) := by decide +kernel
theorem dX0_drawKite_111 : decode cX0_drawKite 111 = .ok (.ifCond .eq 14, 3) := by decide +kernel
theorem dX0_drawKite_114 : decode cX0_drawKite 114 = .ok (.aload_n 1, 1) := by decide +kernel
theorem dX0_drawKite_115 : decode cX0_drawKite 115 = .ok (.iload_n 2, 1) := by decide +kernel
theorem dX0_drawKite_116 : decode cX0_drawKite 116 = .ok (.iload_n 3, 1) := by decide +kernel
theorem dX0_drawKite_117 : decode cX0_drawKite 117 = .ok (.iload 6, 2) := by decide +kernel
theorem dX0_drawKite_119 : decode cX0_drawKite 119 = .ok (.invokestatic 38, 3) := by decide +kernel
theorem dX0_drawKite_122 : decode cX0_drawKite 122 = .ok (.goto 4, 3) := by decide +kernel
theorem dX0_drawKite_125 : decode cX0_drawKite 125 = .ok (.iconst 0, 1) := by decide +kernel
theorem dX0_drawKite_126 : decode cX0_drawKite 126 = .ok (.iastore, 1) := by decide +kernel
theorem dX0_drawKite_127 : decode cX0_drawKite 127 = .ok (.iinc 6 1, 3) := by decide +kernel
theorem dX0_drawKite_130 : decode cX0_drawKite 130 = .ok (.goto (-117), 3) := by decide +kernel
theorem dX0_drawKite_133 : decode cX0_drawKite 133 = .ok (.aload_n 0, 1) := by decide +kernel
theorem dX0_drawKite_134 : decode cX0_drawKite 134 = .ok (.getfield 9, 3) := by decide +kernel
theorem dX0_drawKite_137 : decode cX0_drawKite 137 = .ok (.iload 4, 2) := by decide +kernel
theorem dX0_drawKite_139 : decode cX0_drawKite 139 = .ok (.iload 5, 2) := by decide +kernel
theorem dX0_drawKite_141 : decode cX0_drawKite 141 = .ok (.iastore, 1) := by decide +kernel
theorem dX0_drawKite_142 : decode cX0_drawKite 142 = .ok (.return_, 1) := by decide +kernel
theorem dX0_shoalsAt_0 : decode cX0_shoalsAt 0 = .ok (.aload_n 0, 1) := by decide +kernel
theorem dX0_shoalsAt_1 : decode cX0_shoalsAt 1 = .ok (.iload_n 1, 1) := by decide +kernel
theorem dX0_shoalsAt_2 : decode cX0_shoalsAt 2 = .ok (.iload_n 2, 1) := by decide +kernel
theorem dX0_shoalsAt_3 : decode cX0_shoalsAt 3 = .ok (.iload_n 3, 1) := by decide +kernel
theorem dX0_shoalsAt_4 : decode cX0_shoalsAt 4 = .ok (.invokevirtual 41, 3) := by decide +kernel
theorem dX0_shoalsAt_7 : decode cX0_shoalsAt 7 = .ok (.istore 4, 2) := by decide +kernel
theorem dX0_shoalsAt_9 : decode cX0_shoalsAt 9 = .ok (.aload_n 0, 1) := by decide +kernel
theorem dX0_shoalsAt_10 : decode cX0_shoalsAt 10 = .ok (.iload_n 1, 1) := by decide +kernel
theorem dX0_shoalsAt_11 : decode cX0_shoalsAt 11 = .ok (.iload_n 2, 1) := by decide +kernel
theorem dX0_shoalsAt_12 : decode cX0_shoalsAt 12 = .ok (.invokevirtual 45, 3) := by decide +kernel
theorem dX0_shoalsAt_15 : decode cX0_shoalsAt 15 = .ok (.istore 5, 2) := by decide +kernel
theorem dX0_shoalsAt_17 : decode cX0_shoalsAt 17 = .ok (.iconst 0, 1) := by decide +kernel
theorem dX0_shoalsAt_18 : decode cX0_shoalsAt 18 = .ok (.istore 6, 2) := by decide +kernel
theorem dX0_shoalsAt_20 : decode cX0_shoalsAt 20 = .ok (.iconst 0, 1) := by decide +kernel
theorem dX0_shoalsAt_21 : decode cX0_shoalsAt 21 = .ok (.istore 7, 2) := by decide +kernel
theorem dX0_shoalsAt_23 : decode cX0_shoalsAt 23 = .ok (.iload 7, 2) := by decide +kernel
theorem dX0_shoalsAt_25 : decode cX0_shoalsAt 25 = .ok (.iconst 4, 1) := by decide +kernel
theorem dX0_shoalsAt_26 : decode cX0_shoalsAt 26 = .ok (.if_icmp .ge 67, 3) := by decide +kernel
theorem dX0_shoalsAt_29 : decode cX0_shoalsAt 29 = .ok (.aload_n 0, 1) := by decide +kernel
theorem dX0_shoalsAt_30 : decode cX0_shoalsAt 30 = .ok (.iload 7, 2) := by decide +kernel
theorem dX0_shoalsAt_32 : decode cX0_shoalsAt 32 = .ok (.invokevirtual 49, 3) := by decide +kernel
theorem dX0_shoalsAt_35 : decode cX0_shoalsAt 35 = .ok (.ifCond .eq 31, 3) := by decide +kernel
theorem dX0_shoalsAt_38 : decode cX0_shoalsAt 38 = .ok (.aload_n 0, 1) := by decide +kernel
theorem dX0_shoalsAt_39 : decode cX0_shoalsAt 39 = .ok (.iload 7, 2) := by decide +kernel
theorem dX0_shoalsAt_41 : decode cX0_shoalsAt 41 = .ok (.iload_n 3, 1) := by decide +kernel
theorem dX0_shoalsAt_42 : decode cX0_shoalsAt 42 = .ok (.invokevirtual 53, 3) := by decide +kernel
theorem dX0_shoalsAt_45 : decode cX0_shoalsAt 45 = .ok (.iload 4, 2) := by decide +kernel
theorem dX0_shoalsAt_47 : decode cX0_shoalsAt 47 = .ok (.if_icmp .ne 19, 3) := by decide +kernel
theorem dX0_shoalsAt_50 : decode cX0_shoalsAt 50 = .ok (.aload_n 0, 1) := by decide +kernel
theorem dX0_shoalsAt_51 : decode cX0_shoalsAt 51 = .ok (.iload 7, 2) := by decide +kernel
theorem dX0_shoalsAt_53 : decode cX0_shoalsAt 53 = .ok (.iload_n 3, 1) := by decide +kernel
theorem dX0_shoalsAt_54 : decode cX0_shoalsAt 54 = .ok (.invokevirtual 56, 3) := by decide +kernel
theorem dX0_shoalsAt_57 : decode cX0_shoalsAt 57 = .ok (.iload 5, 2) := by decide +kernel
theorem dX0_shoalsAt_59 : decode cX0_shoalsAt 59 = .ok (.if_icmp .ne 7, 3) := by decide +kernel
theorem dX0_shoalsAt_62 : decode cX0_shoalsAt 62 = .ok (.iconst 1, 1) := by decide +kernel
theorem dX0_shoalsAt_63 : decode cX0_shoalsAt 63 = .ok (.goto 4, 3) := by decide +kernel
theorem dX0_shoalsAt_66 : decode cX0_shoalsAt 66 = .ok (.iconst 0, 1) := by decide +kernel
theorem dX0_shoalsAt_67 : decode cX0_shoalsAt 67 = .ok (.istore 8, 2) := by decide +kernel
theorem dX0_shoalsAt_69 : decode cX0_shoalsAt 69 = .ok (.iload 6, 2) := by decide +kernel
theorem dX0_shoalsAt_71 : decode cX0_shoalsAt 71 = .ok (.iload 8, 2) := by decide +kernel
theorem dX0_shoalsAt_73 : decode cX0_shoalsAt 73 = .ok (.ifCond .eq 10, 3) := by decide +kernel
theorem dX0_shoalsAt_76 : decode cX0_shoalsAt 76 = .ok (.iconst 1, 1) := by decide +kernel
theorem dX0_shoalsAt_77 : decode cX0_shoalsAt 77 = .ok (.iload 7, 2) := by decide +kernel
theorem dX0_shoalsAt_79 : decode cX0_shoalsAt 79 = .ok (.ishl, 1) := by decide +kernel
theorem dX0_shoalsAt_80 : decode cX0_shoalsAt 80 = .ok (.goto 4, 3) := by decide +kernel
theorem dX0_shoalsAt_83 : decode cX0_shoalsAt 83 = .ok (.iconst 0, 1) := by decide +kernel
theorem dX0_shoalsAt_84 : decode cX0_shoalsAt 84 = .ok (.ior, 1) := by decide +kernel
theorem dX0_shoalsAt_85 : decode cX0_shoalsAt 85 = .ok (.istore 6, 2) := by decide +kernel
theorem dX0_shoalsAt_87 : decode cX0_shoalsAt 87 = .ok (.iinc 7 1, 3) := by decide +kernel
theorem dX0_shoalsAt_90 : decode cX0_shoalsAt 90 = .ok (.goto (-67), 3) := by decide +kernel
theorem dX0_shoalsAt_93 : decode cX0_shoalsAt 93 = .ok (.iload 6, 2) := by decide +kernel
theorem dX0_shoalsAt_95 : decode cX0_shoalsAt 95 = .ok (.ireturn, 1) := by decide +kernel
theorem dX0_kitesAcross_0 : decode cX0_kitesAcross 0 = .ok (.iconst 0, 1) := by decide +kernel
theorem dX0_kitesAcross_1 : decode cX0_kitesAcross 1 = .ok (.istore 4, 2) := by decide +kernel
theorem dX0_kitesAcross_3 : decode cX0_kitesAcross 3 = .ok (.iload_n 1, 1) := by decide +kernel
theorem dX0_kitesAcross_4 : decode cX0_kitesAcross 4 = .ok (.iconst 1, 1) := by decide +kernel
theorem dX0_kitesAcross_5 : decode cX0_kitesAcross 5 = .ok (.iadd, 1) := by decide +kernel
theorem dX0_kitesAcross_6 : decode cX0_kitesAcross 6 = .ok (.istore 5, 2) := by decide +kernel
theorem dX0_kitesAcross_8 : decode cX0_kitesAcross 8 = .ok (.iload 5, 2) := by decide +kernel
theorem dX0_kitesAcross_10 : decode cX0_kitesAcross 10 = .ok (.bipush 6, 2) := by decide +kernel
theorem dX0_kitesAcross_12 : decode cX0_kitesAcross 12 = .ok (.if_icmp .ge 34, 3) := by decide +kernel
theorem dX0_kitesAcross_15 : decode cX0_kitesAcross 15 = .ok (.iload 4, 2) := by decide +kernel
theorem dX0_kitesAcross_17 : decode cX0_kitesAcross 17 = .ok (.aload_n 0, 1) := by decide +kernel
theorem dX0_kitesAcross_18 : decode cX0_kitesAcross 18 = .ok (.iload_n 1, 1) := by decide +kernel
theorem dX0_kitesAcross_19 : decode cX0_kitesAcross 19 = .ok (.iload 5, 2) := by decide +kernel
theorem dX0_kitesAcross_21 : decode cX0_kitesAcross 21 = .ok (.iload_n 2, 1) := by decide +kernel
theorem dX0_kitesAcross_22 : decode cX0_kitesAcross 22 = .ok (.iload_n 3, 1) := by decide +kernel
theorem dX0_kitesAcross_23 : decode cX0_kitesAcross 23 = .ok (.invokevirtual 59, 3) := by decide +kernel
theorem dX0_kitesAcross_26 : decode cX0_kitesAcross 26 = .ok (.ifCond .eq 10, 3) := by decide +kernel
theorem dX0_kitesAcross_29 : decode cX0_kitesAcross 29 = .ok (.iconst 1, 1) := by decide +kernel
theorem dX0_kitesAcross_30 : decode cX0_kitesAcross 30 = .ok (.iload 5, 2) := by decide +kernel
theorem dX0_kitesAcross_32 : decode cX0_kitesAcross 32 = .ok (.ishl, 1) := by decide +kernel
theorem dX0_kitesAcross_33 : decode cX0_kitesAcross 33 = .ok (.goto 4, 3) := by decide +kernel
theorem dX0_kitesAcross_36 : decode cX0_kitesAcross 36 = .ok (.iconst 0, 1) := by decide +kernel
theorem dX0_kitesAcross_37 : decode cX0_kitesAcross 37 = .ok (.ior, 1) := by decide +kernel
theorem dX0_kitesAcross_38 : decode cX0_kitesAcross 38 = .ok (.istore 4, 2) := by decide +kernel
theorem dX0_kitesAcross_40 : decode cX0_kitesAcross 40 = .ok (.iinc 5 1, 3) := by decide +kernel
theorem dX0_kitesAcross_43 : decode cX0_kitesAcross 43 = .ok (.goto (-35), 3) := by decide +kernel
theorem dX0_kitesAcross_46 : decode cX0_kitesAcross 46 = .ok (.iload 4, 2) := by decide +kernel
theorem dX0_kitesAcross_48 : decode cX0_kitesAcross 48 = .ok (.ireturn, 1) := by decide +kernel
theorem dX0_isFree_0 : decode cX0_isFree 0 = .ok (.iload_n 1, 1) := by decide +kernel
theorem dX0_isFree_1 : decode cX0_isFree 1 = .ok (.iconst 4, 1) := by decide +kernel
theorem dX0_isFree_2 : decode cX0_isFree 2 = .ok (.imul, 1) := by decide +kernel
theorem dX0_isFree_3 : decode cX0_isFree 3 = .ok (.iload_n 2, 1) := by decide +kernel
theorem dX0_isFree_4 : decode cX0_isFree 4 = .ok (.iadd, 1) := by decide +kernel
theorem dX0_isFree_5 : decode cX0_isFree 5 = .ok (.istore 4, 2) := by decide +kernel
theorem dX0_isFree_7 : decode cX0_isFree 7 = .ok (.iload 4, 2) := by decide +kernel
theorem dX0_isFree_9 : decode cX0_isFree 9 = .ok (.ifCond .lt 28, 3) := by decide +kernel
theorem dX0_isFree_12 : decode cX0_isFree 12 = .ok (.iload 4, 2) := by decide +kernel
theorem dX0_isFree_14 : decode cX0_isFree 14 = .ok (.bipush 24, 2) := by decide +kernel
theorem dX0_isFree_16 : decode cX0_isFree 16 = .ok (.if_icmp .ge 21, 3) := by decide +kernel
theorem dX0_isFree_19 : decode cX0_isFree 19 = .ok (.aload_n 0, 1) := by decide +kernel
theorem dX0_isFree_20 : decode cX0_isFree 20 = .ok (.getfield 9, 3) := by decide +kernel
theorem dX0_isFree_23 : decode cX0_isFree 23 = .ok (.iload 4, 2) := by decide +kernel
theorem dX0_isFree_25 : decode cX0_isFree 25 = .ok (.iaload, 1) := by decide +kernel
theorem dX0_isFree_26 : decode cX0_isFree 26 = .ok (.iload_n 3, 1) := by decide +kernel
theorem dX0_isFree_27 : decode cX0_isFree 27 = .ok (.invokestatic 63, 3) := by decide +kernel
theorem dX0_isFree_30 : decode cX0_isFree 30 = .ok (.ifCond .eq 7, 3) := by decide +kernel
theorem dX0_isFree_33 : decode cX0_isFree 33 = .ok (.iconst 1, 1) := by decide +kernel
theorem dX0_isFree_34 : decode cX0_isFree 34 = .ok (.goto 4, 3) := by decide +kernel
theorem dX0_isFree_37 : decode cX0_isFree 37 = .ok (.iconst 0, 1) := by decide +kernel
theorem dX0_isFree_38 : decode cX0_isFree 38 = .ok (.ireturn, 1) := by decide +kernel
theorem dX0_met_0 : decode cX0_met 0 = .ok (.iload_n 1, 1) := by decide +kernel
theorem dX0_met_1 : decode cX0_met 1 = .ok (.iconst 4, 1) := by decide +kernel
theorem dX0_met_2 : decode cX0_met 2 = .ok (.imul, 1) := by decide +kernel
theorem dX0_met_3 : decode cX0_met 3 = .ok (.iload_n 2, 1) := by decide +kernel
theorem dX0_met_4 : decode cX0_met 4 = .ok (.iadd, 1) := by decide +kernel
theorem dX0_met_5 : decode cX0_met 5 = .ok (.bipush 12, 2) := by decide +kernel
theorem dX0_met_7 : decode cX0_met 7 = .ok (.imul, 1) := by decide +kernel
theorem dX0_met_8 : decode cX0_met 8 = .ok (.iload_n 3, 1) := by decide +kernel
theorem dX0_met_9 : decode cX0_met 9 = .ok (.iadd, 1) := by decide +kernel
theorem dX0_met_10 : decode cX0_met 10 = .ok (.istore 4, 2) := by decide +kernel
theorem dX0_met_12 : decode cX0_met 12 = .ok (.iload 4, 2) := by decide +kernel
theorem dX0_met_14 : decode cX0_met 14 = .ok (.ifCond .lt 21, 3) := by decide +kernel
theorem dX0_met_17 : decode cX0_met 17 = .ok (.iload 4, 2) := by decide +kernel
theorem dX0_met_19 : decode cX0_met 19 = .ok (.sipush 288, 3) := by decide +kernel
theorem dX0_met_22 : decode cX0_met 22 = .ok (.if_icmp .ge 13, 3) := by decide +kernel
theorem dX0_met_25 : decode cX0_met 25 = .ok (.aload_n 0, 1) := by decide +kernel
theorem dX0_met_26 : decode cX0_met 26 = .ok (.getfield 15, 3) := by decide +kernel
theorem dX0_met_29 : decode cX0_met 29 = .ok (.iload 4, 2) := by decide +kernel
theorem dX0_met_31 : decode cX0_met 31 = .ok (.iaload, 1) := by decide +kernel
theorem dX0_met_32 : decode cX0_met 32 = .ok (.goto 4, 3) := by decide +kernel
theorem dX0_met_35 : decode cX0_met 35 = .ok (.iconst 0, 1) := by decide +kernel
theorem dX0_met_36 : decode cX0_met 36 = .ok (.ireturn, 1) := by decide +kernel
theorem dX0_crossed_0 : decode cX0_crossed 0 = .ok (.iload_n 1, 1) := by decide +kernel
theorem dX0_crossed_1 : decode cX0_crossed 1 = .ok (.iconst 4, 1) := by decide +kernel
theorem dX0_crossed_2 : decode cX0_crossed 2 = .ok (.imul, 1) := by decide +kernel
theorem dX0_crossed_3 : decode cX0_crossed 3 = .ok (.iload_n 2, 1) := by decide +kernel
theorem dX0_crossed_4 : decode cX0_crossed 4 = .ok (.iadd, 1) := by decide +kernel
theorem dX0_crossed_5 : decode cX0_crossed 5 = .ok (.bipush 12, 2) := by decide +kernel
theorem dX0_crossed_7 : decode cX0_crossed 7 = .ok (.imul, 1) := by decide +kernel
theorem dX0_crossed_8 : decode cX0_crossed 8 = .ok (.iload_n 3, 1) := by decide +kernel
theorem dX0_crossed_9 : decode cX0_crossed 9 = .ok (.iadd, 1) := by decide +kernel
theorem dX0_crossed_10 : decode cX0_crossed 10 = .ok (.istore 4, 2) := by decide +kernel
theorem dX0_crossed_12 : decode cX0_crossed 12 = .ok (.iload 4, 2) := by decide +kernel
theorem dX0_crossed_14 : decode cX0_crossed 14 = .ok (.ifCond .lt 21, 3) := by decide +kernel
theorem dX0_crossed_17 : decode cX0_crossed 17 = .ok (.iload 4, 2) := by decide +kernel
theorem dX0_crossed_19 : decode cX0_crossed 19 = .ok (.sipush 288, 3) := by decide +kernel
theorem dX0_crossed_22 : decode cX0_crossed 22 = .ok (.if_icmp .ge 13, 3) := by decide +kernel
theorem dX0_crossed_25 : decode cX0_crossed 25 = .ok (.aload_n 0, 1) := by decide +kernel
theorem dX0_crossed_26 : decode cX0_crossed 26 = .ok (.getfield 18, 3) := by decide +kernel
theorem dX0_crossed_29 : decode cX0_crossed 29 = .ok (.iload 4, 2) := by decide +kernel
theorem dX0_crossed_31 : decode cX0_crossed 31 = .ok (.iaload, 1) := by decide +kernel
theorem dX0_crossed_32 : decode cX0_crossed 32 = .ok (.goto 4, 3) := by decide +kernel
theorem dX0_crossed_35 : decode cX0_crossed 35 = .ok (.iconst 0, 1) := by decide +kernel
theorem dX0_crossed_36 : decode cX0_crossed 36 = .ok (.ireturn, 1) := by decide +kernel
theorem dX1_init_0 : decode cX1_init 0 = .ok (.aload_n 0, 1) := by decide +kernel
theorem dX1_init_1 : decode cX1_init 1 = .ok (.invokespecial 3, 3) := by decide +kernel
theorem dX1_init_4 : decode cX1_init 4 = .ok (.aload_n 0, 1) := by decide +kernel
theorem dX1_init_5 : decode cX1_init 5 = .ok (.bipush 6, 2) := by decide +kernel
theorem dX1_init_7 : decode cX1_init 7 = .ok (.newarray .int, 2) := by decide +kernel
theorem dX1_init_9 : decode cX1_init 9 = .ok (.putfield 9, 3) := by decide +kernel
theorem dX1_init_12 : decode cX1_init 12 = .ok (.aload_n 0, 1) := by decide +kernel
theorem dX1_init_13 : decode cX1_init 13 = .ok (.bipush 6, 2) := by decide +kernel
theorem dX1_init_15 : decode cX1_init 15 = .ok (.newarray .int, 2) := by decide +kernel
theorem dX1_init_17 : decode cX1_init 17 = .ok (.putfield 15, 3) := by decide +kernel
theorem dX1_init_20 : decode cX1_init 20 = .ok (.aload_n 0, 1) := by decide +kernel
theorem dX1_init_21 : decode cX1_init 21 = .ok (.bipush 6, 2) := by decide +kernel
theorem dX1_init_23 : decode cX1_init 23 = .ok (.newarray .int, 2) := by decide +kernel
theorem dX1_init_25 : decode cX1_init 25 = .ok (.putfield 18, 3) := by decide +kernel
theorem dX1_init_28 : decode cX1_init 28 = .ok (.aload_n 0, 1) := by decide +kernel
theorem dX1_init_29 : decode cX1_init 29 = .ok (.bipush 6, 2) := by decide +kernel
theorem dX1_init_31 : decode cX1_init 31 = .ok (.newarray .int, 2) := by decide +kernel
theorem dX1_init_33 : decode cX1_init 33 = .ok (.putfield 21, 3) := by decide +kernel
theorem dX1_init_36 : decode cX1_init 36 = .ok (.aload_n 0, 1) := by decide +kernel
theorem dX1_init_37 : decode cX1_init 37 = .ok (.iconst 4, 1) := by decide +kernel
theorem dX1_init_38 : decode cX1_init 38 = .ok (.newarray .int, 2) := by decide +kernel
theorem dX1_init_40 : decode cX1_init 40 = .ok (.putfield 24, 3) := by decide +kernel
theorem dX1_init_43 : decode cX1_init 43 = .ok (.aload_n 0, 1) := by decide +kernel
theorem dX1_init_44 : decode cX1_init 44 = .ok (.sipush 288, 3) := by decide +kernel
theorem dX1_init_47 : decode cX1_init 47 = .ok (.newarray .int, 2) := by decide +kernel
theorem dX1_init_49 : decode cX1_init 49 = .ok (.putfield 27, 3) := by decide +kernel
theorem dX1_init_52 : decode cX1_init 52 = .ok (.return_, 1) := by decide +kernel
theorem dX1_stockShoals_0 : decode cX1_stockShoals 0 = .ok (.iconst 0, 1) := by decide +kernel
theorem dX1_stockShoals_1 : decode cX1_stockShoals 1 = .ok (.istore_n 2, 1) := by decide +kernel
theorem dX1_stockShoals_2 : decode cX1_stockShoals 2 = .ok (.iload_n 2, 1) := by decide +kernel
theorem dX1_stockShoals_3 : decode cX1_stockShoals 3 = .ok (.iconst 4, 1) := by decide +kernel
theorem dX1_stockShoals_4 : decode cX1_stockShoals 4 = .ok (.if_icmp .ge 36, 3) := by decide +kernel
theorem dX1_stockShoals_7 : decode cX1_stockShoals 7 = .ok (.aload_n 0, 1) := by decide +kernel
theorem dX1_stockShoals_8 : decode cX1_stockShoals 8 = .ok (.getfield 24, 3) := by decide +kernel
theorem dX1_stockShoals_11 : decode cX1_stockShoals 11 = .ok (.iload_n 2, 1) := by decide +kernel
theorem dX1_stockShoals_12 : decode cX1_stockShoals 12 = .ok (.aload_n 1, 1) := by decide +kernel
theorem dX1_stockShoals_13 : decode cX1_stockShoals 13 = .ok (.iload_n 2, 1) := by decide +kernel
theorem dX1_stockShoals_14 : decode cX1_stockShoals 14 = .ok (.invokevirtual 30, 3) := by decide +kernel
theorem dX1_stockShoals_17 : decode cX1_stockShoals 17 = .ok (.ifCond .eq 15, 3) := by decide +kernel
theorem dX1_stockShoals_20 : decode cX1_stockShoals 20 = .ok (.aload_n 1, 1) := by decide +kernel
theorem dX1_stockShoals_21 : decode cX1_stockShoals 21 = .ok (.getfield 36, 3) := by decide +kernel
theorem dX1_stockShoals_24 : decode cX1_stockShoals 24 = .ok (.iload_n 2, 1) := by decide +kernel
theorem dX1_stockShoals_25 : decode cX1_stockShoals 25 = .ok (.aaload, 1) := by decide +kernel
theorem dX1_stockShoals_26 : decode cX1_stockShoals 26 = .ok (.getfield 40, 3) := by decide +kernel
theorem dX1_stockShoals_29 : decode cX1_stockShoals 29 = .ok (.goto 4, 3) := by decide +kernel
theorem dX1_stockShoals_32 : decode cX1_stockShoals 32 = .ok (.iconst 0, 1) := by decide +kernel
theorem dX1_stockShoals_33 : decode cX1_stockShoals 33 = .ok (.iastore, 1) := by decide +kernel
theorem dX1_stockShoals_34 : decode cX1_stockShoals 34 = .ok (.iinc 2 1, 3) := by decide +kernel
theorem dX1_stockShoals_37 : decode cX1_stockShoals 37 = .ok (.goto (-35), 3) := by decide +kernel
theorem dX1_stockShoals_40 : decode cX1_stockShoals 40 = .ok (.return_, 1) := by decide +kernel
theorem dX1_become_0 : decode cX1_become 0 = .ok (.aload_n 0, 1) := by decide +kernel
theorem dX1_become_1 : decode cX1_become 1 = .ok (.aload_n 1, 1) := by decide +kernel
theorem dX1_become_2 : decode cX1_become 2 = .ok (.invokevirtual 46, 3) := by decide +kernel
theorem dX1_become_5 : decode cX1_become 5 = .ok (.aload_n 0, 1) := by decide +kernel
theorem dX1_become_6 : decode cX1_become 6 = .ok (.aload_n 1, 1) := by decide +kernel
theorem dX1_become_7 : decode cX1_become 7 = .ok (.getfield 50, 3) := by decide +kernel
theorem dX1_become_10 : decode cX1_become 10 = .ok (.putfield 50, 3) := by decide +kernel
theorem dX1_become_13 : decode cX1_become 13 = .ok (.aload_n 0, 1) := by decide +kernel
theorem dX1_become_14 : decode cX1_become 14 = .ok (.aload_n 1, 1) := by decide +kernel
theorem dX1_become_15 : decode cX1_become 15 = .ok (.getfield 53, 3) := by decide +kernel
theorem dX1_become_18 : decode cX1_become 18 = .ok (.putfield 53, 3) := by decide +kernel
theorem dX1_become_21 : decode cX1_become 21 = .ok (.aload_n 0, 1) := by decide +kernel
theorem dX1_become_22 : decode cX1_become 22 = .ok (.aload_n 1, 1) := by decide +kernel
theorem dX1_become_23 : decode cX1_become 23 = .ok (.getfield 56, 3) := by decide +kernel
theorem dX1_become_26 : decode cX1_become 26 = .ok (.putfield 56, 3) := by decide +kernel
theorem dX1_become_29 : decode cX1_become 29 = .ok (.aload_n 1, 1) := by decide +kernel
theorem dX1_become_30 : decode cX1_become 30 = .ok (.getfield 9, 3) := by decide +kernel
theorem dX1_become_33 : decode cX1_become 33 = .ok (.iconst 0, 1) := by decide +kernel
theorem dX1_become_34 : decode cX1_become 34 = .ok (.aload_n 0, 1) := by decide +kernel
theorem dX1_become_35 : decode cX1_become 35 = .ok (.getfield 9, 3) := by decide +kernel
theorem dX1_become_38 : decode cX1_become 38 = .ok (.iconst 0, 1) := by decide +kernel
theorem dX1_become_39 : decode cX1_become 39 = .ok (.bipush 6, 2) := by decide +kernel
theorem dX1_become_41 : decode cX1_become 41 = .ok (.invokestatic 59, 3) := by decide +kernel
theorem dX1_become_44 : decode cX1_become 44 = .ok (.aload_n 1, 1) := by decide +kernel
theorem dX1_become_45 : decode cX1_become 45 = .ok (.getfield 15, 3) := by decide +kernel
theorem dX1_become_48 : decode cX1_become 48 = .ok (.iconst 0, 1) := by decide +kernel
theorem dX1_become_49 : decode cX1_become 49 = .ok (.aload_n 0, 1) := by decide +kernel
theorem dX1_become_50 : decode cX1_become 50 = .ok (.getfield 15, 3) := by decide +kernel
theorem dX1_become_53 : decode cX1_become 53 = .ok (.iconst 0, 1) := by decide +kernel
theorem dX1_become_54 : decode cX1_become 54 = .ok (.bipush 6, 2) := by decide +kernel
theorem dX1_become_56 : decode cX1_become 56 = .ok (.invokestatic 59, 3) := by decide +kernel
theorem dX1_become_59 : decode cX1_become 59 = .ok (.aload_n 1, 1) := by decide +kernel
theorem dX1_become_60 : decode cX1_become 60 = .ok (.getfield 18, 3) := by decide +kernel
theorem dX1_become_63 : decode cX1_become 63 = .ok (.iconst 0, 1) := by decide +kernel
theorem dX1_become_64 : decode cX1_become 64 = .ok (.aload_n 0, 1) := by decide +kernel
theorem dX1_become_65 : decode cX1_become 65 = .ok (.getfield 18, 3) := by decide +kernel
theorem dX1_become_68 : decode cX1_become 68 = .ok (.iconst 0, 1) := by decide +kernel
theorem dX1_become_69 : decode cX1_become 69 = .ok (.bipush 6, 2) := by decide +kernel
theorem dX1_become_71 : decode cX1_become 71 = .ok (.invokestatic 59, 3) := by decide +kernel
theorem dX1_become_74 : decode cX1_become 74 = .ok (.aload_n 1, 1) := by decide +kernel
theorem dX1_become_75 : decode cX1_become 75 = .ok (.getfield 21, 3) := by decide +kernel
theorem dX1_become_78 : decode cX1_become 78 = .ok (.iconst 0, 1) := by decide +kernel
theorem dX1_become_79 : decode cX1_become 79 = .ok (.aload_n 0, 1) := by decide +kernel
theorem dX1_become_80 : decode cX1_become 80 = .ok (.getfield 21, 3) := by decide +kernel
theorem dX1_become_83 : decode cX1_become 83 = .ok (.iconst 0, 1) := by decide +kernel
theorem dX1_become_84 : decode cX1_become 84 = .ok (.bipush 6, 2) := by decide +kernel
theorem dX1_become_86 : decode cX1_become 86 = .ok (.invokestatic 59, 3) := by decide +kernel
theorem dX1_become_89 : decode cX1_become 89 = .ok (.aload_n 1, 1) := by decide +kernel
theorem dX1_become_90 : decode cX1_become 90 = .ok (.getfield 27, 3) := by decide +kernel
theorem dX1_become_93 : decode cX1_become 93 = .ok (.iconst 0, 1) := by decide +kernel
theorem dX1_become_94 : decode cX1_become 94 = .ok (.aload_n 0, 1) := by decide +kernel
theorem dX1_become_95 : decode cX1_become 95 = .ok (.getfield 27, 3) := by decide +kernel
theorem dX1_become_98 : decode cX1_become 98 = .ok (.iconst 0, 1) := by decide +kernel
theorem dX1_become_99 : decode cX1_become 99 = .ok (.sipush 288, 3) := by decide +kernel
theorem dX1_become_102 : decode cX1_become 102 = .ok (.invokestatic 59, 3) := by decide +kernel
theorem dX1_become_105 : decode cX1_become 105 = .ok (.return_, 1) := by decide +kernel
theorem dX1_resume_0 : decode cX1_resume 0 = .ok (.aload_n 0, 1) := by decide +kernel
theorem dX1_resume_1 : decode cX1_resume 1 = .ok (.aload_n 1, 1) := by decide +kernel
theorem dX1_resume_2 : decode cX1_resume 2 = .ok (.getfield 65, 3) := by decide +kernel
theorem dX1_resume_5 : decode cX1_resume 5 = .ok (.putfield 65, 3) := by decide +kernel
theorem dX1_resume_8 : decode cX1_resume 8 = .ok (.aload_n 0, 1) := by decide +kernel
theorem dX1_resume_9 : decode cX1_resume 9 = .ok (.aload_n 1, 1) := by decide +kernel
theorem dX1_resume_10 : decode cX1_resume 10 = .ok (.getfield 68, 3) := by decide +kernel
theorem dX1_resume_13 : decode cX1_resume 13 = .ok (.putfield 68, 3) := by decide +kernel
theorem dX1_resume_16 : decode cX1_resume 16 = .ok (.aload_n 0, 1) := by decide +kernel
theorem dX1_resume_17 : decode cX1_resume 17 = .ok (.iconst 0, 1) := by decide +kernel
theorem dX1_resume_18 : decode cX1_resume 18 = .ok (.putfield 50, 3) := by decide +kernel
theorem dX1_resume_21 : decode cX1_resume 21 = .ok (.aload_n 0, 1) := by decide +kernel
theorem dX1_resume_22 : decode cX1_resume 22 = .ok (.iconst 0, 1) := by decide +kernel
theorem dX1_resume_23 : decode cX1_resume 23 = .ok (.putfield 53, 3) := by decide +kernel
theorem dX1_resume_26 : decode cX1_resume 26 = .ok (.aload_n 0, 1) := by decide +kernel
theorem dX1_resume_27 : decode cX1_resume 27 = .ok (.iconst 0, 1) := by decide +kernel
theorem dX1_resume_28 : decode cX1_resume 28 = .ok (.putfield 56, 3) := by decide +kernel
theorem dX1_resume_31 : decode cX1_resume 31 = .ok (.aload_n 1, 1) := by decide +kernel
theorem dX1_resume_32 : decode cX1_resume 32 = .ok (.getfield 24, 3) := by decide +kernel
theorem dX1_resume_35 : decode cX1_resume 35 = .ok (.iconst 0, 1) := by decide +kernel
theorem dX1_resume_36 : decode cX1_resume 36 = .ok (.aload_n 0, 1) := by decide +kernel
theorem dX1_resume_37 : decode cX1_resume 37 = .ok (.getfield 24, 3) := by decide +kernel
theorem dX1_resume_40 : decode cX1_resume 40 = .ok (.iconst 0, 1) := by decide +kernel
theorem dX1_resume_41 : decode cX1_resume 41 = .ok (.iconst 4, 1) := by decide +kernel
theorem dX1_resume_42 : decode cX1_resume 42 = .ok (.invokestatic 59, 3) := by decide +kernel
theorem dX1_resume_45 : decode cX1_resume 45 = .ok (.return_, 1) := by decide +kernel
theorem dX1_pass_0 : decode cX1_pass 0 = .ok (.iconst 0, 1) := by decide +kernel
theorem dX1_pass_1 : decode cX1_pass 1 = .ok (.istore 5, 2) := by decide +kernel
theorem dX1_pass_3 : decode cX1_pass 3 = .ok (.iload 5, 2) := by decide +kernel
theorem dX1_pass_5 : decode cX1_pass 5 = .ok (.iload_n 1, 1) := by decide +kernel
theorem dX1_pass_6 : decode cX1_pass 6 = .ok (.if_icmp .ge 93, 3) := by decide +kernel
theorem dX1_pass_9 : decode cX1_pass 9 = .ok (.aload_n 0, 1) := by decide +kernel
theorem dX1_pass_10 : decode cX1_pass 10 = .ok (.getfield 65, 3) := by decide +kernel
theorem dX1_pass_13 : decode cX1_pass 13 = .ok (.bipush 12, 2) := by decide +kernel
theorem dX1_pass_15 : decode cX1_pass 15 = .ok (.if_icmp .ge 84, 3) := by decide +kernel
theorem dX1_pass_18 : decode cX1_pass 18 = .ok (.aload_n 0, 1) := by decide +kernel
theorem dX1_pass_19 : decode cX1_pass 19 = .ok (.aload_n 0, 1) := by decide +kernel
theorem dX1_pass_20 : decode cX1_pass 20 = .ok (.aload_n 0, 1) := by decide +kernel
theorem dX1_pass_21 : decode cX1_pass 21 = .ok (.aload_n 2, 1) := by decide +kernel
theorem dX1_pass_22 : decode cX1_pass 22 = .ok (.aload_n 3, 1) := by decide +kernel
theorem dX1_pass_23 : decode cX1_pass 23 = .ok (.invokevirtual 71, 3) := by decide +kernel
theorem dX1_pass_26 : decode cX1_pass 26 = .ok (.aload_n 2, 1) := by decide +kernel
theorem dX1_pass_27 : decode cX1_pass 27 = .ok (.aload_n 3, 1) := by decide +kernel
theorem dX1_pass_28 : decode cX1_pass 28 = .ok (.iload 4, 2) := by decide +kernel
theorem dX1_pass_30 : decode cX1_pass 30 = .ok (.invokevirtual 75, 3) := by decide +kernel
theorem dX1_pass_33 : decode cX1_pass 33 = .ok (.putfield 68, 3) := by decide +kernel
theorem dX1_pass_36 : decode cX1_pass 36 = .ok (.iconst 0, 1) := by decide +kernel
theorem dX1_pass_37 : decode cX1_pass 37 = .ok (.istore 6, 2) := by decide +kernel
theorem dX1_pass_39 : decode cX1_pass 39 = .ok (.iload 6, 2) := by decide +kernel
theorem dX1_pass_41 : decode cX1_pass 41 = .ok (.bipush 6, 2) := by decide +kernel
theorem dX1_pass_43 : decode cX1_pass 43 = .ok (.if_icmp .ge 40, 3) := by decide +kernel
theorem dX1_pass_46 : decode cX1_pass 46 = .ok (.aload_n 0, 1) := by decide +kernel
theorem dX1_pass_47 : decode cX1_pass 47 = .ok (.getfield 68, 3) := by decide +kernel
theorem dX1_pass_50 : decode cX1_pass 50 = .ok (.iload 6, 2) := by decide +kernel
theorem dX1_pass_52 : decode cX1_pass 52 = .ok (.invokestatic 79, 3) := by decide +kernel
theorem dX1_pass_55 : decode cX1_pass 55 = .ok (.ifCond .eq 22, 3) := by decide +kernel
theorem dX1_pass_58 : decode cX1_pass 58 = .ok (.aload_n 0, 1) := by decide +kernel
theorem dX1_pass_59 : decode cX1_pass 59 = .ok (.getfield 18, 3) := by decide +kernel
theorem dX1_pass_62 : decode cX1_pass 62 = .ok (.iload 6, 2) := by decide +kernel
theorem dX1_pass_64 : decode cX1_pass 64 = .ok (.dup2, 1) := by decide +kernel
theorem dX1_pass_65 : decode cX1_pass 65 = .ok (.iaload, 1) := by decide +kernel
theorem dX1_pass_66 : decode cX1_pass 66 = .ok (.iconst 1, 1) := by decide +kernel
theorem dX1_pass_67 : decode cX1_pass 67 = .ok (.iadd, 1) := by decide +kernel
theorem dX1_pass_68 : decode cX1_pass 68 = .ok (.iastore, 1) := by decide +kernel
theorem dX1_pass_69 : decode cX1_pass 69 = .ok (.aload_n 0, 1) := by decide +kernel
theorem dX1_pass_70 : decode cX1_pass 70 = .ok (.iload 6, 2) := by decide +kernel
theorem dX1_pass_72 : decode cX1_pass 72 = .ok (.aload_n 2, 1) := by decide +kernel
theorem dX1_pass_73 : decode cX1_pass 73 = .ok (.aload_n 3, 1) := by decide +kernel
theorem dX1_pass_74 : decode cX1_pass 74 = .ok (.invokevirtual 83, 3) := by decide +kernel
theorem dX1_pass_77 : decode cX1_pass 77 = .ok (.iinc 6 1, 3) := by decide +kernel
theorem dX1_pass_80 : decode cX1_pass 80 = .ok (.goto (-41), 3) := by decide +kernel
theorem dX1_pass_83 : decode cX1_pass 83 = .ok (.aload_n 0, 1) := by decide +kernel
theorem dX1_pass_84 : decode cX1_pass 84 = .ok (.dup, 1) := by decide +kernel
theorem dX1_pass_85 : decode cX1_pass 85 = .ok (.getfield 65, 3) := by decide +kernel
theorem dX1_pass_88 : decode cX1_pass 88 = .ok (.iconst 1, 1) := by decide +kernel
theorem dX1_pass_89 : decode cX1_pass 89 = .ok (.iadd, 1) := by decide +kernel
theorem dX1_pass_90 : decode cX1_pass 90 = .ok (.putfield 65, 3) := by decide +kernel
theorem dX1_pass_93 : decode cX1_pass 93 = .ok (.iinc 5 1, 3) := by decide +kernel
theorem dX1_pass_96 : decode cX1_pass 96 = .ok (.goto (-93), 3) := by decide +kernel
theorem dX1_pass_99 : decode cX1_pass 99 = .ok (.return_, 1) := by decide +kernel
theorem dX1_risen_0 : decode cX1_risen 0 = .ok (.aload_n 1, 1) := by decide +kernel
theorem dX1_risen_1 : decode cX1_risen 1 = .ok (.aload_n 0, 1) := by decide +kernel
theorem dX1_risen_2 : decode cX1_risen 2 = .ok (.getfield 65, 3) := by decide +kernel
theorem dX1_risen_5 : decode cX1_risen 5 = .ok (.invokevirtual 87, 3) := by decide +kernel
theorem dX1_risen_8 : decode cX1_risen 8 = .ok (.istore_n 3, 1) := by decide +kernel
theorem dX1_risen_9 : decode cX1_risen 9 = .ok (.iconst 0, 1) := by decide +kernel
theorem dX1_risen_10 : decode cX1_risen 10 = .ok (.istore 4, 2) := by decide +kernel
theorem dX1_risen_12 : decode cX1_risen 12 = .ok (.iconst 0, 1) := by decide +kernel
theorem dX1_risen_13 : decode cX1_risen 13 = .ok (.istore 5, 2) := by decide +kernel
theorem dX1_risen_15 : decode cX1_risen 15 = .ok (.iconst 0, 1) := by decide +kernel
theorem dX1_risen_16 : decode cX1_risen 16 = .ok (.istore 6, 2) := by decide +kernel
theorem dX1_risen_18 : decode cX1_risen 18 = .ok (.iload 6, 2) := by decide +kernel
theorem dX1_risen_20 : decode cX1_risen 20 = .ok (.bipush 6, 2) := by decide +kernel
theorem dX1_risen_22 : decode cX1_risen 22 = .ok (.if_icmp .ge 85, 3) := by decide +kernel
theorem dX1_risen_25 : decode cX1_risen 25 = .ok (.aload_n 2, 1) := by decide +kernel
theorem dX1_risen_26 : decode cX1_risen 26 = .ok (.iload 6, 2) := by decide +kernel
theorem dX1_risen_28 : decode cX1_risen 28 = .ok (.aload_n 0, 1) := by decide +kernel
theorem dX1_risen_29 : decode cX1_risen 29 = .ok (.getfield 9, 3) := by decide +kernel
theorem dX1_risen_32 : decode cX1_risen 32 = .ok (.iload 6, 2) := by decide +kernel
theorem dX1_risen_34 : decode cX1_risen 34 = .ok (.iaload, 1) := by decide +kernel
theorem dX1_risen_35 : decode cX1_risen 35 = .ok (.aload_n 0, 1) := by decide +kernel
theorem dX1_risen_36 : decode cX1_risen 36 = .ok (.getfield 65, 3) := by decide +kernel
theorem dX1_risen_39 : decode cX1_risen 39 = .ok (.invokevirtual 90, 3) := by decide +kernel
theorem dX1_risen_42 : decode cX1_risen 42 = .ok (.ifCond .eq 59, 3) := by decide +kernel
theorem dX1_risen_45 : decode cX1_risen 45 = .ok (.iload_n 3, 1) := by decide +kernel
theorem dX1_risen_46 : decode cX1_risen 46 = .ok (.ifCond .eq 18, 3) := by decide +kernel
theorem dX1_risen_49 : decode cX1_risen 49 = .ok (.aload_n 0, 1) := by decide +kernel
theorem dX1_risen_50 : decode cX1_risen 50 = .ok (.getfield 68, 3) := by decide +kernel
theorem dX1_risen_53 : decode cX1_risen 53 = .ok (.iload 6, 2) := by decide +kernel
theorem dX1_risen_55 : decode cX1_risen 55 = .ok (.invokestatic 79, 3) := by decide +kernel
theorem dX1_risen_58 : decode cX1_risen 58 = .ok (.ifCond .ne 6, 3) := by decide +kernel
theorem dX1_risen_61 : decode cX1_risen 61 = .ok (.goto 40, 3) := by decide +kernel
theorem dX1_risen_64 : decode cX1_risen 64 = .ok (.iload 5, 2) := by decide +kernel
theorem dX1_risen_66 : decode cX1_risen 66 = .ok (.aload_n 1, 1) := by decide +kernel
theorem dX1_risen_67 : decode cX1_risen 67 = .ok (.getfield 96, 3) := by decide +kernel
theorem dX1_risen_70 : decode cX1_risen 70 = .ok (.iload 6, 2) := by decide +kernel
theorem dX1_risen_72 : decode cX1_risen 72 = .ok (.aaload, 1) := by decide +kernel
theorem dX1_risen_73 : decode cX1_risen 73 = .ok (.getfield 100, 3) := by decide +kernel
theorem dX1_risen_76 : decode cX1_risen 76 = .ok (.iadd, 1) := by decide +kernel
theorem dX1_risen_77 : decode cX1_risen 77 = .ok (.istore 7, 2) := by decide +kernel
theorem dX1_risen_79 : decode cX1_risen 79 = .ok (.iload 7, 2) := by decide +kernel
theorem dX1_risen_81 : decode cX1_risen 81 = .ok (.aload_n 1, 1) := by decide +kernel
theorem dX1_risen_82 : decode cX1_risen 82 = .ok (.getfield 105, 3) := by decide +kernel
theorem dX1_risen_85 : decode cX1_risen 85 = .ok (.if_icmp .gt 16, 3) := by decide +kernel
theorem dX1_risen_88 : decode cX1_risen 88 = .ok (.iload 7, 2) := by decide +kernel
theorem dX1_risen_90 : decode cX1_risen 90 = .ok (.istore 5, 2) := by decide +kernel
theorem dX1_risen_92 : decode cX1_risen 92 = .ok (.iload 4, 2) := by decide +kernel
theorem dX1_risen_94 : decode cX1_risen 94 = .ok (.iconst 1, 1) := by decide +kernel
theorem dX1_risen_95 : decode cX1_risen 95 = .ok (.iload 6, 2) := by decide +kernel
theorem dX1_risen_97 : decode cX1_risen 97 = .ok (.ishl, 1) := by decide +kernel
theorem dX1_risen_98 : decode cX1_risen 98 = .ok (.ior, 1) := by decide +kernel
theorem dX1_risen_99 : decode cX1_risen 99 = .ok (.istore 4, 2) := by decide +kernel
theorem dX1_risen_101 : decode cX1_risen 101 = .ok (.iinc 6 1, 3) := by decide +kernel
theorem dX1_risen_104 : decode cX1_risen 104 = .ok (.goto (-86), 3) := by decide +kernel
theorem dX1_risen_107 : decode cX1_risen 107 = .ok (.iload 4, 2) := by decide +kernel
theorem dX1_risen_109 : decode cX1_risen 109 = .ok (.ireturn, 1) := by decide +kernel
theorem dX1_untangled_0 : decode cX1_untangled 0 = .ok (.iload_n 1, 1) := by decide +kernel
theorem dX1_untangled_1 : decode cX1_untangled 1 = .ok (.istore 5, 2) := by decide +kernel
theorem dX1_untangled_3 : decode cX1_untangled 3 = .ok (.iconst 0, 1) := by decide +kernel
theorem dX1_untangled_4 : decode cX1_untangled 4 = .ok (.istore 6, 2) := by decide +kernel
theorem dX1_untangled_6 : decode cX1_untangled 6 = .ok (.iload 6, 2) := by decide +kernel
theorem dX1_untangled_8 : decode cX1_untangled 8 = .ok (.bipush 6, 2) := by decide +kernel
theorem dX1_untangled_10 : decode cX1_untangled 10 = .ok (.if_icmp .ge 162, 3) := by decide +kernel
theorem dX1_untangled_13 : decode cX1_untangled 13 = .ok (.iload 5, 2) := by decide +kernel
theorem dX1_untangled_15 : decode cX1_untangled 15 = .ok (.iload 6, 2) := by decide +kernel
theorem dX1_untangled_17 : decode cX1_untangled 17 = .ok (.invokestatic 79, 3) := by decide +kernel
theorem dX1_untangled_20 : decode cX1_untangled 20 = .ok (.ifCond .eq 23, 3) := by decide +kernel
theorem dX1_untangled_23 : decode cX1_untangled 23 = .ok (.aload_n 3, 1) := by decide +kernel
theorem dX1_untangled_24 : decode cX1_untangled 24 = .ok (.iload 6, 2) := by decide +kernel
theorem dX1_untangled_26 : decode cX1_untangled 26 = .ok (.aload_n 0, 1) := by decide +kernel
theorem dX1_untangled_27 : decode cX1_untangled 27 = .ok (.getfield 9, 3) := by decide +kernel
theorem dX1_untangled_30 : decode cX1_untangled 30 = .ok (.iload 6, 2) := by decide +kernel
theorem dX1_untangled_32 : decode cX1_untangled 32 = .ok (.iaload, 1) := by decide +kernel
theorem dX1_untangled_33 : decode cX1_untangled 33 = .ok (.aload_n 0, 1) := by decide +kernel
theorem dX1_untangled_34 : decode cX1_untangled 34 = .ok (.getfield 65, 3) := by decide +kernel
theorem dX1_untangled_37 : decode cX1_untangled 37 = .ok (.invokevirtual 108, 3) := by decide +kernel
theorem dX1_untangled_40 : decode cX1_untangled 40 = .ok (.goto 4, 3) := by decide +kernel
theorem dX1_untangled_43 : decode cX1_untangled 43 = .ok (.iconst 0, 1) := by decide +kernel
theorem dX1_untangled_44 : decode cX1_untangled 44 = .ok (.istore 7, 2) := by decide +kernel
theorem dX1_untangled_46 : decode cX1_untangled 46 = .ok (.iload 6, 2) := by decide +kernel
theorem dX1_untangled_48 : decode cX1_untangled 48 = .ok (.iconst 1, 1) := by decide +kernel
theorem dX1_untangled_49 : decode cX1_untangled 49 = .ok (.iadd, 1) := by decide +kernel
theorem dX1_untangled_50 : decode cX1_untangled 50 = .ok (.istore 8, 2) := by decide +kernel
theorem dX1_untangled_52 : decode cX1_untangled 52 = .ok (.iload 8, 2) := by decide +kernel
theorem dX1_untangled_54 : decode cX1_untangled 54 = .ok (.bipush 6, 2) := by decide +kernel
theorem dX1_untangled_56 : decode cX1_untangled 56 = .ok (.if_icmp .ge 110, 3) := by decide +kernel
theorem dX1_untangled_59 : decode cX1_untangled 59 = .ok (.iload 7, 2) := by decide +kernel
theorem dX1_untangled_61 : decode cX1_untangled 61 = .ok (.iload 8, 2) := by decide +kernel
theorem dX1_untangled_63 : decode cX1_untangled 63 = .ok (.ishr, 1) := by decide +kernel
theorem dX1_untangled_64 : decode cX1_untangled 64 = .ok (.ifCond .eq 102, 3) := by decide +kernel
theorem dX1_untangled_67 : decode cX1_untangled 67 = .ok (.iload 5, 2) := by decide +kernel
theorem dX1_untangled_69 : decode cX1_untangled 69 = .ok (.iload 6, 2) := by decide +kernel
theorem dX1_untangled_71 : decode cX1_untangled 71 = .ok (.invokestatic 79, 3) := by decide +kernel
theorem dX1_untangled_74 : decode cX1_untangled 74 = .ok (.ifCond .eq 17, 3) := by decide +kernel
theorem dX1_untangled_77 : decode cX1_untangled 77 = .ok (.iload 5, 2) := by decide +kernel
theorem dX1_untangled_79 : decode cX1_untangled 79 = .ok (.iload 8, 2) := by decide +kernel
theorem dX1_untangled_81 : decode cX1_untangled 81 = .ok (.invokestatic 79, 3) := by decide +kernel
theorem dX1_untangled_84 : decode cX1_untangled 84 = .ok (.ifCond .eq 7, 3) := by decide +kernel
theorem dX1_untangled_87 : decode cX1_untangled 87 = .ok (.iconst 1, 1) := by decide +kernel
theorem dX1_untangled_88 : decode cX1_untangled 88 = .ok (.goto 4, 3) := by decide +kernel
theorem dX1_untangled_91 : decode cX1_untangled 91 = .ok (.iconst 0, 1) := by decide +kernel
theorem dX1_untangled_92 : decode cX1_untangled 92 = .ok (.istore 9, 2) := by decide +kernel
theorem dX1_untangled_94 : decode cX1_untangled 94 = .ok (.iload 9, 2) := by decide +kernel
theorem dX1_untangled_96 : decode cX1_untangled 96 = .ok (.ifCond .eq 64, 3) := by decide +kernel
theorem dX1_untangled_99 : decode cX1_untangled 99 = .ok (.iload 7, 2) := by decide +kernel
theorem dX1_untangled_101 : decode cX1_untangled 101 = .ok (.iload 8, 2) := by decide +kernel
theorem dX1_untangled_103 : decode cX1_untangled 103 = .ok (.invokestatic 79, 3) := by decide +kernel
theorem dX1_untangled_106 : decode cX1_untangled 106 = .ok (.ifCond .eq 54, 3) := by decide +kernel
theorem dX1_untangled_109 : decode cX1_untangled 109 = .ok (.aload_n 0, 1) := by decide +kernel
theorem dX1_untangled_110 : decode cX1_untangled 110 = .ok (.getfield 9, 3) := by decide +kernel
theorem dX1_untangled_113 : decode cX1_untangled 113 = .ok (.iload 6, 2) := by decide +kernel
theorem dX1_untangled_115 : decode cX1_untangled 115 = .ok (.iaload, 1) := by decide +kernel
theorem dX1_untangled_116 : decode cX1_untangled 116 = .ok (.aload_n 0, 1) := by decide +kernel
theorem dX1_untangled_117 : decode cX1_untangled 117 = .ok (.getfield 9, 3) := by decide +kernel
theorem dX1_untangled_120 : decode cX1_untangled 120 = .ok (.iload 8, 2) := by decide +kernel
theorem dX1_untangled_122 : decode cX1_untangled 122 = .ok (.iaload, 1) := by decide +kernel
theorem dX1_untangled_123 : decode cX1_untangled 123 = .ok (.if_icmp .ne 37, 3) := by decide +kernel
theorem dX1_untangled_126 : decode cX1_untangled 126 = .ok (.aload_n 2, 1) := by decide +kernel
theorem dX1_untangled_127 : decode cX1_untangled 127 = .ok (.iload 6, 2) := by decide +kernel
theorem dX1_untangled_129 : decode cX1_untangled 129 = .ok (.iload 8, 2) := by decide +kernel
theorem dX1_untangled_131 : decode cX1_untangled 131 = .ok (.iload 4, 2) := by decide +kernel
theorem dX1_untangled_133 : decode cX1_untangled 133 = .ok (.invokevirtual 112, 3) := by decide +kernel
theorem dX1_untangled_136 : decode cX1_untangled 136 = .ok (.istore 10, 2) := by decide +kernel
theorem dX1_untangled_138 : decode cX1_untangled 138 = .ok (.iload 5, 2) := by decide +kernel
theorem dX1_untangled_140 : decode cX1_untangled 140 = .ok (.iconst 1, 1) := by decide +kernel
theorem dX1_untangled_141 : decode cX1_untangled 141 = .ok (.iload 10, 2) := by decide +kernel
theorem dX1_untangled_143 : decode cX1_untangled 143 = .ok (.ishl, 1) := by decide +kernel
theorem dX1_untangled_144 : decode cX1_untangled 144 = .ok (.iconst (-1), 1) := by decide +kernel
theorem dX1_untangled_145 : decode cX1_untangled 145 = .ok (.ixor, 1) := by decide +kernel
theorem dX1_untangled_146 : decode cX1_untangled 146 = .ok (.iand, 1) := by decide +kernel
theorem dX1_untangled_147 : decode cX1_untangled 147 = .ok (.istore 5, 2) := by decide +kernel
theorem dX1_untangled_149 : decode cX1_untangled 149 = .ok (.aload_n 0, 1) := by decide +kernel
theorem dX1_untangled_150 : decode cX1_untangled 150 = .ok (.getfield 21, 3) := by decide +kernel
theorem dX1_untangled_153 : decode cX1_untangled 153 = .ok (.iload 10, 2) := by decide +kernel
theorem dX1_untangled_155 : decode cX1_untangled 155 = .ok (.dup2, 1) := by decide +kernel
theorem dX1_untangled_156 : decode cX1_untangled 156 = .ok (.iaload, 1) := by decide +kernel
theorem dX1_untangled_157 : decode cX1_untangled 157 = .ok (.iconst 1, 1) := by decide +kernel
theorem dX1_untangled_158 : decode cX1_untangled 158 = .ok (.iadd, 1) := by decide +kernel
theorem dX1_untangled_159 : decode cX1_untangled 159 = .ok (.iastore, 1) := by decide +kernel
theorem dX1_untangled_160 : decode cX1_untangled 160 = .ok (.iinc 8 1, 3) := by decide +kernel
theorem dX1_untangled_163 : decode cX1_untangled 163 = .ok (.goto (-111), 3) := by decide +kernel
theorem dX1_untangled_166 : decode cX1_untangled 166 = .ok (.iinc 6 1, 3) := by decide +kernel
theorem dX1_untangled_169 : decode cX1_untangled 169 = .ok (.goto (-163), 3) := by decide +kernel
theorem dX1_untangled_172 : decode cX1_untangled 172 = .ok (.iload 5, 2) := by decide +kernel
theorem dX1_untangled_174 : decode cX1_untangled 174 = .ok (.ireturn, 1) := by decide +kernel
theorem dX1_fish_0 : decode cX1_fish 0 = .ok (.aload_n 3, 1) := by decide +kernel
theorem dX1_fish_1 : decode cX1_fish 1 = .ok (.iload_n 1, 1) := by decide +kernel
theorem dX1_fish_2 : decode cX1_fish 2 = .ok (.aload_n 0, 1) := by decide +kernel
theorem dX1_fish_3 : decode cX1_fish 3 = .ok (.getfield 9, 3) := by decide +kernel
theorem dX1_fish_6 : decode cX1_fish 6 = .ok (.iload_n 1, 1) := by decide +kernel
theorem dX1_fish_7 : decode cX1_fish 7 = .ok (.iaload, 1) := by decide +kernel
theorem dX1_fish_8 : decode cX1_fish 8 = .ok (.aload_n 0, 1) := by decide +kernel
theorem dX1_fish_9 : decode cX1_fish 9 = .ok (.getfield 65, 3) := by decide +kernel
theorem dX1_fish_12 : decode cX1_fish 12 = .ok (.invokevirtual 115, 3) := by decide +kernel
theorem dX1_fish_15 : decode cX1_fish 15 = .ok (.istore 4, 2) := by decide +kernel
theorem dX1_fish_17 : decode cX1_fish 17 = .ok (.iload 4, 2) := by decide +kernel
theorem dX1_fish_19 : decode cX1_fish 19 = .ok (.ifCond .ne 4, 3) := by decide +kernel
theorem dX1_fish_22 : decode cX1_fish 22 = .ok (.return_, 1) := by decide +kernel
theorem dX1_fish_23 : decode cX1_fish 23 = .ok (.iconst 3, 1) := by decide +kernel
theorem dX1_fish_24 : decode cX1_fish 24 = .ok (.aload_n 2, 1) := by decide +kernel
theorem dX1_fish_25 : decode cX1_fish 25 = .ok (.getfield 96, 3) := by decide +kernel
theorem dX1_fish_28 : decode cX1_fish 28 = .ok (.iload_n 1, 1) := by decide +kernel
theorem dX1_fish_29 : decode cX1_fish 29 = .ok (.aaload, 1) := by decide +kernel
theorem dX1_fish_30 : decode cX1_fish 30 = .ok (.getfield 118, 3) := by decide +kernel
theorem dX1_fish_33 : decode cX1_fish 33 = .ok (.imul, 1) := by decide +kernel
theorem dX1_fish_34 : decode cX1_fish 34 = .ok (.istore 5, 2) := by decide +kernel
theorem dX1_fish_36 : decode cX1_fish 36 = .ok (.iconst 0, 1) := by decide +kernel
theorem dX1_fish_37 : decode cX1_fish 37 = .ok (.istore 6, 2) := by decide +kernel
theorem dX1_fish_39 : decode cX1_fish 39 = .ok (.iconst 0, 1) := by decide +kernel
theorem dX1_fish_40 : decode cX1_fish 40 = .ok (.istore 7, 2) := by decide +kernel
theorem dX1_fish_42 : decode cX1_fish 42 = .ok (.iload 7, 2) := by decide +kernel
theorem dX1_fish_44 : decode cX1_fish 44 = .ok (.iconst 4, 1) := by decide +kernel
theorem dX1_fish_45 : decode cX1_fish 45 = .ok (.if_icmp .ge 73, 3) := by decide +kernel
theorem dX1_fish_48 : decode cX1_fish 48 = .ok (.iload 4, 2) := by decide +kernel
theorem dX1_fish_50 : decode cX1_fish 50 = .ok (.iload 7, 2) := by decide +kernel
theorem dX1_fish_52 : decode cX1_fish 52 = .ok (.invokestatic 79, 3) := by decide +kernel
theorem dX1_fish_55 : decode cX1_fish 55 = .ok (.ifCond .eq 21, 3) := by decide +kernel
theorem dX1_fish_58 : decode cX1_fish 58 = .ok (.aload_n 0, 1) := by decide +kernel
theorem dX1_fish_59 : decode cX1_fish 59 = .ok (.getfield 24, 3) := by decide +kernel
theorem dX1_fish_62 : decode cX1_fish 62 = .ok (.iload 7, 2) := by decide +kernel
theorem dX1_fish_64 : decode cX1_fish 64 = .ok (.iaload, 1) := by decide +kernel
theorem dX1_fish_65 : decode cX1_fish 65 = .ok (.iload 5, 2) := by decide +kernel
theorem dX1_fish_67 : decode cX1_fish 67 = .ok (.iload 6, 2) := by decide +kernel
theorem dX1_fish_69 : decode cX1_fish 69 = .ok (.isub, 1) := by decide +kernel
theorem dX1_fish_70 : decode cX1_fish 70 = .ok (.invokestatic 121, 3) := by decide +kernel
theorem dX1_fish_73 : decode cX1_fish 73 = .ok (.goto 4, 3) := by decide +kernel
theorem dX1_fish_76 : decode cX1_fish 76 = .ok (.iconst 0, 1) := by decide +kernel
theorem dX1_fish_77 : decode cX1_fish 77 = .ok (.istore 8, 2) := by decide +kernel
theorem dX1_fish_79 : decode cX1_fish 79 = .ok (.iload 8, 2) := by decide +kernel
theorem dX1_fish_81 : decode cX1_fish 81 = .ok (.ifCond .le 31, 3) := by decide +kernel
theorem dX1_fish_84 : decode cX1_fish 84 = .ok (.aload_n 0, 1) := by decide +kernel
theorem dX1_fish_85 : decode cX1_fish 85 = .ok (.getfield 24, 3) := by decide +kernel
theorem dX1_fish_88 : decode cX1_fish 88 = .ok (.iload 7, 2) := by decide +kernel
theorem dX1_fish_90 : decode cX1_fish 90 = .ok (.dup2, 1) := by decide +kernel
theorem dX1_fish_91 : decode cX1_fish 91 = .ok (.iaload, 1) := by decide +kernel
theorem dX1_fish_92 : decode cX1_fish 92 = .ok (.iload 8, 2) := by decide +kernel
theorem dX1_fish_94 : decode cX1_fish 94 = .ok (.isub, 1) := by decide +kernel
theorem dX1_fish_95 : decode cX1_fish 95 = .ok (.iastore, 1) := by decide +kernel
theorem dX1_fish_96 : decode cX1_fish 96 = .ok (.iload 6, 2) := by decide +kernel
theorem dX1_fish_98 : decode cX1_fish 98 = .ok (.iload 8, 2) := by decide +kernel
theorem dX1_fish_100 : decode cX1_fish 100 = .ok (.iadd, 1) := by decide +kernel
theorem dX1_fish_101 : decode cX1_fish 101 = .ok (.istore 6, 2) := by decide +kernel
theorem dX1_fish_103 : decode cX1_fish 103 = .ok (.aload_n 0, 1) := by decide +kernel
theorem dX1_fish_104 : decode cX1_fish 104 = .ok (.iload_n 1, 1) := by decide +kernel
theorem dX1_fish_105 : decode cX1_fish 105 = .ok (.iload 7, 2) := by decide +kernel
theorem dX1_fish_107 : decode cX1_fish 107 = .ok (.iload 8, 2) := by decide +kernel
theorem dX1_fish_109 : decode cX1_fish 109 = .ok (.invokevirtual 127, 3) := by decide +kernel
theorem dX1_fish_112 : decode cX1_fish 112 = .ok (.iinc 7 1, 3) := by decide +kernel
theorem dX1_fish_115 : decode cX1_fish 115 = .ok (.goto (-73), 3) := by decide +kernel
theorem dX1_fish_118 : decode cX1_fish 118 = .ok (.aload_n 2, 1) := by decide +kernel
theorem dX1_fish_119 : decode cX1_fish 119 = .ok (.iload 6, 2) := by decide +kernel
theorem dX1_fish_121 : decode cX1_fish 121 = .ok (.invokevirtual 131, 3) := by decide +kernel
theorem dX1_fish_124 : decode cX1_fish 124 = .ok (.istore 7, 2) := by decide +kernel
theorem dX1_fish_126 : decode cX1_fish 126 = .ok (.aload_n 0, 1) := by decide +kernel
theorem dX1_fish_127 : decode cX1_fish 127 = .ok (.getfield 15, 3) := by decide +kernel
theorem dX1_fish_130 : decode cX1_fish 130 = .ok (.iload_n 1, 1) := by decide +kernel
theorem dX1_fish_131 : decode cX1_fish 131 = .ok (.dup2, 1) := by decide +kernel
theorem dX1_fish_132 : decode cX1_fish 132 = .ok (.iaload, 1) := by decide +kernel
theorem dX1_fish_133 : decode cX1_fish 133 = .ok (.iload 7, 2) := by decide +kernel
theorem dX1_fish_135 : decode cX1_fish 135 = .ok (.iadd, 1) := by decide +kernel
theorem dX1_fish_136 : decode cX1_fish 136 = .ok (.iastore, 1) := by decide +kernel
theorem dX1_fish_137 : decode cX1_fish 137 = .ok (.aload_n 0, 1) := by decide +kernel
theorem dX1_fish_138 : decode cX1_fish 138 = .ok (.dup, 1) := by decide +kernel
theorem dX1_fish_139 : decode cX1_fish 139 = .ok (.getfield 50, 3) := by decide +kernel
theorem dX1_fish_142 : decode cX1_fish 142 = .ok (.iload 7, 2) := by decide +kernel
theorem dX1_fish_144 : decode cX1_fish 144 = .ok (.iadd, 1) := by decide +kernel
theorem dX1_fish_145 : decode cX1_fish 145 = .ok (.putfield 50, 3) := by decide +kernel
theorem dX1_fish_148 : decode cX1_fish 148 = .ok (.aload_n 0, 1) := by decide +kernel
theorem dX1_fish_149 : decode cX1_fish 149 = .ok (.dup, 1) := by decide +kernel
theorem dX1_fish_150 : decode cX1_fish 150 = .ok (.getfield 53, 3) := by decide +kernel
theorem dX1_fish_153 : decode cX1_fish 153 = .ok (.iload 6, 2) := by decide +kernel
theorem dX1_fish_155 : decode cX1_fish 155 = .ok (.iload 7, 2) := by decide +kernel
theorem dX1_fish_157 : decode cX1_fish 157 = .ok (.isub, 1) := by decide +kernel
theorem dX1_fish_158 : decode cX1_fish 158 = .ok (.iadd, 1) := by decide +kernel
theorem dX1_fish_159 : decode cX1_fish 159 = .ok (.putfield 53, 3) := by decide +kernel
theorem dX1_fish_162 : decode cX1_fish 162 = .ok (.return_, 1) := by decide +kernel
theorem dX1_fishIn_0 : decode cX1_fishIn 0 = .ok (.iconst 0, 1) := by decide +kernel
theorem dX1_fishIn_1 : decode cX1_fishIn 1 = .ok (.istore_n 2, 1) := by decide +kernel
theorem dX1_fishIn_2 : decode cX1_fishIn 2 = .ok (.iconst 0, 1) := by decide +kernel
theorem dX1_fishIn_3 : decode cX1_fishIn 3 = .ok (.istore_n 3, 1) := by decide +kernel
theorem dX1_fishIn_4 : decode cX1_fishIn 4 = .ok (.iload_n 3, 1) := by decide +kernel
theorem dX1_fishIn_5 : decode cX1_fishIn 5 = .ok (.iconst 4, 1) := by decide +kernel
theorem dX1_fishIn_6 : decode cX1_fishIn 6 = .ok (.if_icmp .ge 30, 3) := by decide +kernel
theorem dX1_fishIn_9 : decode cX1_fishIn 9 = .ok (.iload_n 2, 1) := by decide +kernel
theorem dX1_fishIn_10 : decode cX1_fishIn 10 = .ok (.iload_n 1, 1) := by decide +kernel
theorem dX1_fishIn_11 : decode cX1_fishIn 11 = .ok (.iload_n 3, 1) := by decide +kernel
theorem dX1_fishIn_12 : decode cX1_fishIn 12 = .ok (.invokestatic 79, 3) := by decide +kernel
theorem dX1_fishIn_15 : decode cX1_fishIn 15 = .ok (.ifCond .eq 12, 3) := by decide +kernel
theorem dX1_fishIn_18 : decode cX1_fishIn 18 = .ok (.aload_n 0, 1) := by decide +kernel
theorem dX1_fishIn_19 : decode cX1_fishIn 19 = .ok (.getfield 24, 3) := by decide +kernel
theorem dX1_fishIn_22 : decode cX1_fishIn 22 = .ok (.iload_n 3, 1) := by decide +kernel
theorem dX1_fishIn_23 : decode cX1_fishIn 23 = .ok (.iaload, 1) := by decide +kernel
theorem dX1_fishIn_24 : decode cX1_fishIn 24 = .ok (.goto 4, 3) := by decide +kernel
theorem dX1_fishIn_27 : decode cX1_fishIn 27 = .ok (.iconst 0, 1) := by decide +kernel
theorem dX1_fishIn_28 : decode cX1_fishIn 28 = .ok (.iadd, 1) := by decide +kernel
theorem dX1_fishIn_29 : decode cX1_fishIn 29 = .ok (.istore_n 2, 1) := by decide +kernel
theorem dX1_fishIn_30 : decode cX1_fishIn 30 = .ok (.iinc 3 1, 3) := by decide +kernel
theorem dX1_fishIn_33 : decode cX1_fishIn 33 = .ok (.goto (-29), 3) := by decide +kernel
theorem dX1_fishIn_36 : decode cX1_fishIn 36 = .ok (.iload_n 2, 1) := by decide +kernel
theorem dX1_fishIn_37 : decode cX1_fishIn 37 = .ok (.ireturn, 1) := by decide +kernel
theorem dX1_note_0 : decode cX1_note 0 = .ok (.aload_n 0, 1) := by decide +kernel
theorem dX1_note_1 : decode cX1_note 1 = .ok (.getfield 56, 3) := by decide +kernel
theorem dX1_note_4 : decode cX1_note 4 = .ok (.sipush 288, 3) := by decide +kernel
theorem dX1_note_7 : decode cX1_note 7 = .ok (.if_icmp .ge 38, 3) := by decide +kernel
theorem dX1_note_10 : decode cX1_note 10 = .ok (.aload_n 0, 1) := by decide +kernel
theorem dX1_note_11 : decode cX1_note 11 = .ok (.getfield 27, 3) := by decide +kernel
theorem dX1_note_14 : decode cX1_note 14 = .ok (.aload_n 0, 1) := by decide +kernel
theorem dX1_note_15 : decode cX1_note 15 = .ok (.getfield 56, 3) := by decide +kernel
theorem dX1_note_18 : decode cX1_note 18 = .ok (.iload_n 3, 1) := by decide +kernel
theorem dX1_note_19 : decode cX1_note 19 = .ok (.iconst 4, 1) := by decide +kernel
theorem dX1_note_20 : decode cX1_note 20 = .ok (.ishl, 1) := by decide +kernel
theorem dX1_note_21 : decode cX1_note 21 = .ok (.aload_n 0, 1) := by decide +kernel
theorem dX1_note_22 : decode cX1_note 22 = .ok (.getfield 65, 3) := by decide +kernel
theorem dX1_note_25 : decode cX1_note 25 = .ok (.ior, 1) := by decide +kernel
theorem dX1_note_26 : decode cX1_note 26 = .ok (.iconst 4, 1) := by decide +kernel
theorem dX1_note_27 : decode cX1_note 27 = .ok (.ishl, 1) := by decide +kernel
theorem dX1_note_28 : decode cX1_note 28 = .ok (.iload_n 2, 1) := by decide +kernel
theorem dX1_note_29 : decode cX1_note 29 = .ok (.ior, 1) := by decide +kernel
theorem dX1_note_30 : decode cX1_note 30 = .ok (.iconst 4, 1) := by decide +kernel
theorem dX1_note_31 : decode cX1_note 31 = .ok (.ishl, 1) := by decide +kernel
theorem dX1_note_32 : decode cX1_note 32 = .ok (.iload_n 1, 1) := by decide +kernel
theorem dX1_note_33 : decode cX1_note 33 = .ok (.ior, 1) := by decide +kernel
theorem dX1_note_34 : decode cX1_note 34 = .ok (.iastore, 1) := by decide +kernel
theorem dX1_note_35 : decode cX1_note 35 = .ok (.aload_n 0, 1) := by decide +kernel
theorem dX1_note_36 : decode cX1_note 36 = .ok (.dup, 1) := by decide +kernel
theorem dX1_note_37 : decode cX1_note 37 = .ok (.getfield 56, 3) := by decide +kernel
theorem dX1_note_40 : decode cX1_note 40 = .ok (.iconst 1, 1) := by decide +kernel
theorem dX1_note_41 : decode cX1_note 41 = .ok (.iadd, 1) := by decide +kernel
theorem dX1_note_42 : decode cX1_note 42 = .ok (.putfield 56, 3) := by decide +kernel
theorem dX1_note_45 : decode cX1_note 45 = .ok (.return_, 1) := by decide +kernel
theorem dX2_init_0 : decode cX2_init 0 = .ok (.aload_n 0, 1) := by decide +kernel
theorem dX2_init_1 : decode cX2_init 1 = .ok (.invokespecial 1, 3) := by decide +kernel
theorem dX2_init_4 : decode cX2_init 4 = .ok (.return_, 1) := by decide +kernel
theorem dX3_init_0 : decode cX3_init 0 = .ok (.aload_n 0, 1) := by decide +kernel
theorem dX3_init_1 : decode cX3_init 1 = .ok (.invokespecial 3, 3) := by decide +kernel
theorem dX3_init_4 : decode cX3_init 4 = .ok (.aload_n 0, 1) := by decide +kernel
theorem dX3_init_5 : decode cX3_init 5 = .ok (.bipush 100, 2) := by decide +kernel
theorem dX3_init_7 : decode cX3_init 7 = .ok (.newarray .long, 2) := by decide +kernel
theorem dX3_init_9 : decode cX3_init 9 = .ok (.putfield 9, 3) := by decide +kernel
theorem dX3_init_12 : decode cX3_init 12 = .ok (.aload_n 0, 1) := by decide +kernel
theorem dX3_init_13 : decode cX3_init 13 = .ok (.bipush 100, 2) := by decide +kernel
theorem dX3_init_15 : decode cX3_init 15 = .ok (.newarray .long, 2) := by decide +kernel
theorem dX3_init_17 : decode cX3_init 17 = .ok (.putfield 15, 3) := by decide +kernel
theorem dX3_init_20 : decode cX3_init 20 = .ok (.return_, 1) := by decide +kernel
theorem dX3_begin_0 : decode cX3_begin 0 = .ok (.aload_n 0, 1) := by decide +kernel
theorem dX3_begin_1 : decode cX3_begin 1 = .ok (.getfield 9, 3) := by decide +kernel
theorem dX3_begin_4 : decode cX3_begin 4 = .ok (.lconst 0, 1) := by decide +kernel
theorem dX3_begin_5 : decode cX3_begin 5 = .ok (.invokestatic 18, 3) := by decide +kernel
theorem dX3_begin_8 : decode cX3_begin 8 = .ok (.iload_n 1, 1) := by decide +kernel
theorem dX3_begin_9 : decode cX3_begin 9 = .ok (.ifCond .lt 16, 3) := by decide +kernel
theorem dX3_begin_12 : decode cX3_begin 12 = .ok (.iload_n 1, 1) := by decide +kernel
theorem dX3_begin_13 : decode cX3_begin 13 = .ok (.bipush 100, 2) := by decide +kernel
theorem dX3_begin_15 : decode cX3_begin 15 = .ok (.if_icmp .ge 10, 3) := by decide +kernel
theorem dX3_begin_18 : decode cX3_begin 18 = .ok (.aload_n 0, 1) := by decide +kernel
theorem dX3_begin_19 : decode cX3_begin 19 = .ok (.getfield 9, 3) := by decide +kernel
theorem dX3_begin_22 : decode cX3_begin 22 = .ok (.iload_n 1, 1) := by decide +kernel
theorem dX3_begin_23 : decode cX3_begin 23 = .ok (.lconst 1, 1) := by decide +kernel
theorem dX3_begin_24 : decode cX3_begin 24 = .ok (.lastore, 1) := by decide +kernel
theorem dX3_begin_25 : decode cX3_begin 25 = .ok (.return_, 1) := by decide +kernel
theorem dX3_enough_0 : decode cX3_enough 0 = .ok (.aload_n 0, 1) := by decide +kernel
theorem dX3_enough_1 : decode cX3_enough 1 = .ok (.iconst 0, 1) := by decide +kernel
theorem dX3_enough_2 : decode cX3_enough 2 = .ok (.invokevirtual 24, 3) := by decide +kernel
theorem dX3_enough_5 : decode cX3_enough 5 = .ok (.iconst 1, 1) := by decide +kernel
theorem dX3_enough_6 : decode cX3_enough 6 = .ok (.istore 6, 2) := by decide +kernel
theorem dX3_enough_8 : decode cX3_enough 8 = .ok (.iload 6, 2) := by decide +kernel
theorem dX3_enough_10 : decode cX3_enough 10 = .ok (.iload 5, 2) := by decide +kernel
theorem dX3_enough_12 : decode cX3_enough 12 = .ok (.if_icmp .gt 97, 3) := by decide +kernel
theorem dX3_enough_15 : decode cX3_enough 15 = .ok (.iload 6, 2) := by decide +kernel
theorem dX3_enough_17 : decode cX3_enough 17 = .ok (.bipush 100, 2) := by decide +kernel
theorem dX3_enough_19 : decode cX3_enough 19 = .ok (.if_icmp .ge 90, 3) := by decide +kernel
theorem dX3_enough_22 : decode cX3_enough 22 = .ok (.iload 6, 2) := by decide +kernel
theorem dX3_enough_24 : decode cX3_enough 24 = .ok (.istore 7, 2) := by decide +kernel
theorem dX3_enough_26 : decode cX3_enough 26 = .ok (.iload 7, 2) := by decide +kernel
theorem dX3_enough_28 : decode cX3_enough 28 = .ok (.ifCond .lt 75, 3) := by decide +kernel
theorem dX3_enough_31 : decode cX3_enough 31 = .ok (.aload_n 0, 1) := by decide +kernel
theorem dX3_enough_32 : decode cX3_enough 32 = .ok (.getfield 9, 3) := by decide +kernel
theorem dX3_enough_35 : decode cX3_enough 35 = .ok (.iload 7, 2) := by decide +kernel
theorem dX3_enough_37 : decode cX3_enough 37 = .ok (.laload, 1) := by decide +kernel
theorem dX3_enough_38 : decode cX3_enough 38 = .ok (.iload 4, 2) := by decide +kernel
theorem dX3_enough_40 : decode cX3_enough 40 = .ok (.i2l, 1) := by decide +kernel
theorem dX3_enough_41 : decode cX3_enough 41 = .ok (.lmul, 1) := by decide +kernel
theorem dX3_enough_42 : decode cX3_enough 42 = .ok (.lstore 8, 2) := by decide +kernel
theorem dX3_enough_44 : decode cX3_enough 44 = .ok (.iload 7, 2) := by decide +kernel
theorem dX3_enough_46 : decode cX3_enough 46 = .ok (.ifCond .le 24, 3) := by decide +kernel
theorem dX3_enough_49 : decode cX3_enough 49 = .ok (.lload 8, 2) := by decide +kernel
theorem dX3_enough_51 : decode cX3_enough 51 = .ok (.aload_n 0, 1) := by decide +kernel
theorem dX3_enough_52 : decode cX3_enough 52 = .ok (.getfield 9, 3) := by decide +kernel
theorem dX3_enough_55 : decode cX3_enough 55 = .ok (.iload 7, 2) := by decide +kernel
theorem dX3_enough_57 : decode cX3_enough 57 = .ok (.iconst 1, 1) := by decide +kernel
theorem dX3_enough_58 : decode cX3_enough 58 = .ok (.isub, 1) := by decide +kernel
theorem dX3_enough_59 : decode cX3_enough 59 = .ok (.laload, 1) := by decide +kernel
theorem dX3_enough_60 : decode cX3_enough 60 = .ok (.bipush 10, 2) := by decide +kernel
theorem dX3_enough_62 : decode cX3_enough 62 = .ok (.iload 4, 2) := by decide +kernel
theorem dX3_enough_64 : decode cX3_enough 64 = .ok (.isub, 1) := by decide +kernel
theorem dX3_enough_65 : decode cX3_enough 65 = .ok (.i2l, 1) := by decide +kernel
theorem dX3_enough_66 : decode cX3_enough 66 = .ok (.lmul, 1) := by decide +kernel
theorem dX3_enough_67 : decode cX3_enough 67 = .ok (.ladd, 1) := by decide +kernel
theorem dX3_enough_68 : decode cX3_enough 68 = .ok (.lstore 8, 2) := by decide +kernel
theorem dX3_enough_70 : decode cX3_enough 70 = .ok (.aload_n 0, 1) := by decide +kernel
theorem dX3_enough_71 : decode cX3_enough 71 = .ok (.getfield 9, 3) := by decide +kernel
theorem dX3_enough_74 : decode cX3_enough 74 = .ok (.iload 7, 2) := by decide +kernel
theorem dX3_enough_76 : decode cX3_enough 76 = .ok (.iload_n 1, 1) := by decide +kernel
theorem dX3_enough_77 : decode cX3_enough 77 = .ok (.iload_n 3, 1) := by decide +kernel
theorem dX3_enough_78 : decode cX3_enough 78 = .ok (.iload 7, 2) := by decide +kernel
theorem dX3_enough_80 : decode cX3_enough 80 = .ok (.imul, 1) := by decide +kernel
theorem dX3_enough_81 : decode cX3_enough 81 = .ok (.iadd, 1) := by decide +kernel
theorem dX3_enough_82 : decode cX3_enough 82 = .ok (.iload_n 2, 1) := by decide +kernel
theorem dX3_enough_83 : decode cX3_enough 83 = .ok (.iload 6, 2) := by decide +kernel
theorem dX3_enough_85 : decode cX3_enough 85 = .ok (.imul, 1) := by decide +kernel
theorem dX3_enough_86 : decode cX3_enough 86 = .ok (.isub, 1) := by decide +kernel
theorem dX3_enough_87 : decode cX3_enough 87 = .ok (.ifCond .lt 8, 3) := by decide +kernel
theorem dX3_enough_90 : decode cX3_enough 90 = .ok (.lload 8, 2) := by decide +kernel
theorem dX3_enough_92 : decode cX3_enough 92 = .ok (.goto 4, 3) := by decide +kernel
theorem dX3_enough_95 : decode cX3_enough 95 = .ok (.lconst 0, 1) := by decide +kernel
theorem dX3_enough_96 : decode cX3_enough 96 = .ok (.lastore, 1) := by decide +kernel
theorem dX3_enough_97 : decode cX3_enough 97 = .ok (.iinc 7 (-1), 3) := by decide +kernel
theorem dX3_enough_100 : decode cX3_enough 100 = .ok (.goto (-74), 3) := by decide +kernel
theorem dX3_enough_103 : decode cX3_enough 103 = .ok (.iinc 6 1, 3) := by decide +kernel
theorem dX3_enough_106 : decode cX3_enough 106 = .ok (.goto (-98), 3) := by decide +kernel
theorem dX3_enough_109 : decode cX3_enough 109 = .ok (.aload_n 0, 1) := by decide +kernel
theorem dX3_enough_110 : decode cX3_enough 110 = .ok (.iconst 0, 1) := by decide +kernel
theorem dX3_enough_111 : decode cX3_enough 111 = .ok (.invokevirtual 28, 3) := by decide +kernel
theorem dX3_enough_114 : decode cX3_enough 114 = .ok (.lreturn, 1) := by decide +kernel
theorem dX3_drift_0 : decode cX3_drift 0 = .ok (.iconst 0, 1) := by decide +kernel
theorem dX3_drift_1 : decode cX3_drift 1 = .ok (.istore_n 3, 1) := by decide +kernel
theorem dX3_drift_2 : decode cX3_drift 2 = .ok (.iload_n 3, 1) := by decide +kernel
theorem dX3_drift_3 : decode cX3_drift 3 = .ok (.bipush 100, 2) := by decide +kernel
theorem dX3_drift_5 : decode cX3_drift 5 = .ok (.if_icmp .ge 63, 3) := by decide +kernel
theorem dX3_drift_8 : decode cX3_drift 8 = .ok (.iload_n 3, 1) := by decide +kernel
theorem dX3_drift_9 : decode cX3_drift 9 = .ok (.iload_n 1, 1) := by decide +kernel
theorem dX3_drift_10 : decode cX3_drift 10 = .ok (.isub, 1) := by decide +kernel
theorem dX3_drift_11 : decode cX3_drift 11 = .ok (.istore 4, 2) := by decide +kernel
theorem dX3_drift_13 : decode cX3_drift 13 = .ok (.iload 4, 2) := by decide +kernel
theorem dX3_drift_15 : decode cX3_drift 15 = .ok (.ifCond .lt 20, 3) := by decide +kernel
theorem dX3_drift_18 : decode cX3_drift 18 = .ok (.iload 4, 2) := by decide +kernel
theorem dX3_drift_20 : decode cX3_drift 20 = .ok (.bipush 100, 2) := by decide +kernel
theorem dX3_drift_22 : decode cX3_drift 22 = .ok (.if_icmp .ge 13, 3) := by decide +kernel
theorem dX3_drift_25 : decode cX3_drift 25 = .ok (.aload_n 0, 1) := by decide +kernel
theorem dX3_drift_26 : decode cX3_drift 26 = .ok (.getfield 9, 3) := by decide +kernel
theorem dX3_drift_29 : decode cX3_drift 29 = .ok (.iload 4, 2) := by decide +kernel
theorem dX3_drift_31 : decode cX3_drift 31 = .ok (.laload, 1) := by decide +kernel
theorem dX3_drift_32 : decode cX3_drift 32 = .ok (.goto 4, 3) := by decide +kernel
theorem dX3_drift_35 : decode cX3_drift 35 = .ok (.lconst 0, 1) := by decide +kernel
theorem dX3_drift_36 : decode cX3_drift 36 = .ok (.lstore 5, 2) := by decide +kernel
theorem dX3_drift_38 : decode cX3_drift 38 = .ok (.aload_n 0, 1) := by decide +kernel
theorem dX3_drift_39 : decode cX3_drift 39 = .ok (.getfield 15, 3) := by decide +kernel
theorem dX3_drift_42 : decode cX3_drift 42 = .ok (.iload_n 3, 1) := by decide +kernel
theorem dX3_drift_43 : decode cX3_drift 43 = .ok (.aload_n 0, 1) := by decide +kernel
theorem dX3_drift_44 : decode cX3_drift 44 = .ok (.getfield 9, 3) := by decide +kernel
theorem dX3_drift_47 : decode cX3_drift 47 = .ok (.iload_n 3, 1) := by decide +kernel
theorem dX3_drift_48 : decode cX3_drift 48 = .ok (.laload, 1) := by decide +kernel
theorem dX3_drift_49 : decode cX3_drift 49 = .ok (.bipush 10, 2) := by decide +kernel
theorem dX3_drift_51 : decode cX3_drift 51 = .ok (.iload_n 2, 1) := by decide +kernel
theorem dX3_drift_52 : decode cX3_drift 52 = .ok (.isub, 1) := by decide +kernel
theorem dX3_drift_53 : decode cX3_drift 53 = .ok (.i2l, 1) := by decide +kernel
theorem dX3_drift_54 : decode cX3_drift 54 = .ok (.lmul, 1) := by decide +kernel
theorem dX3_drift_55 : decode cX3_drift 55 = .ok (.lload 5, 2) := by decide +kernel
theorem dX3_drift_57 : decode cX3_drift 57 = .ok (.iload_n 2, 1) := by decide +kernel
theorem dX3_drift_58 : decode cX3_drift 58 = .ok (.i2l, 1) := by decide +kernel
theorem dX3_drift_59 : decode cX3_drift 59 = .ok (.lmul, 1) := by decide +kernel
theorem dX3_drift_60 : decode cX3_drift 60 = .ok (.ladd, 1) := by decide +kernel
theorem dX3_drift_61 : decode cX3_drift 61 = .ok (.lastore, 1) := by decide +kernel
theorem dX3_drift_62 : decode cX3_drift 62 = .ok (.iinc 3 1, 3) := by decide +kernel
theorem dX3_drift_65 : decode cX3_drift 65 = .ok (.goto (-63), 3) := by decide +kernel
theorem dX3_drift_68 : decode cX3_drift 68 = .ok (.aload_n 0, 1) := by decide +kernel
theorem dX3_drift_69 : decode cX3_drift 69 = .ok (.getfield 15, 3) := by decide +kernel
theorem dX3_drift_72 : decode cX3_drift 72 = .ok (.iconst 0, 1) := by decide +kernel
theorem dX3_drift_73 : decode cX3_drift 73 = .ok (.aload_n 0, 1) := by decide +kernel
theorem dX3_drift_74 : decode cX3_drift 74 = .ok (.getfield 9, 3) := by decide +kernel
theorem dX3_drift_77 : decode cX3_drift 77 = .ok (.iconst 0, 1) := by decide +kernel
theorem dX3_drift_78 : decode cX3_drift 78 = .ok (.bipush 100, 2) := by decide +kernel
theorem dX3_drift_80 : decode cX3_drift 80 = .ok (.invokestatic 32, 3) := by decide +kernel
theorem dX3_drift_83 : decode cX3_drift 83 = .ok (.return_, 1) := by decide +kernel
theorem dX3_sumFrom_0 : decode cX3_sumFrom 0 = .ok (.lconst 0, 1) := by decide +kernel
theorem dX3_sumFrom_1 : decode cX3_sumFrom 1 = .ok (.lstore_n 2, 1) := by decide +kernel
theorem dX3_sumFrom_2 : decode cX3_sumFrom 2 = .ok (.iload_n 1, 1) := by decide +kernel
theorem dX3_sumFrom_3 : decode cX3_sumFrom 3 = .ok (.iconst 0, 1) := by decide +kernel
theorem dX3_sumFrom_4 : decode cX3_sumFrom 4 = .ok (.invokestatic 38, 3) := by decide +kernel
theorem dX3_sumFrom_7 : decode cX3_sumFrom 7 = .ok (.istore 4, 2) := by decide +kernel
theorem dX3_sumFrom_9 : decode cX3_sumFrom 9 = .ok (.iload 4, 2) := by decide +kernel
theorem dX3_sumFrom_11 : decode cX3_sumFrom 11 = .ok (.bipush 100, 2) := by decide +kernel
theorem dX3_sumFrom_13 : decode cX3_sumFrom 13 = .ok (.if_icmp .ge 19, 3) := by decide +kernel
theorem dX3_sumFrom_16 : decode cX3_sumFrom 16 = .ok (.lload_n 2, 1) := by decide +kernel
theorem dX3_sumFrom_17 : decode cX3_sumFrom 17 = .ok (.aload_n 0, 1) := by decide +kernel
theorem dX3_sumFrom_18 : decode cX3_sumFrom 18 = .ok (.getfield 9, 3) := by decide +kernel
theorem dX3_sumFrom_21 : decode cX3_sumFrom 21 = .ok (.iload 4, 2) := by decide +kernel
theorem dX3_sumFrom_23 : decode cX3_sumFrom 23 = .ok (.laload, 1) := by decide +kernel
theorem dX3_sumFrom_24 : decode cX3_sumFrom 24 = .ok (.ladd, 1) := by decide +kernel
theorem dX3_sumFrom_25 : decode cX3_sumFrom 25 = .ok (.lstore_n 2, 1) := by decide +kernel
theorem dX3_sumFrom_26 : decode cX3_sumFrom 26 = .ok (.iinc 4 1, 3) := by decide +kernel
theorem dX3_sumFrom_29 : decode cX3_sumFrom 29 = .ok (.goto (-20), 3) := by decide +kernel
theorem dX3_sumFrom_32 : decode cX3_sumFrom 32 = .ok (.lload_n 2, 1) := by decide +kernel
theorem dX3_sumFrom_33 : decode cX3_sumFrom 33 = .ok (.lreturn, 1) := by decide +kernel
