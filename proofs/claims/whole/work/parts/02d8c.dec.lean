theorem dX8_faces_34 : decode cX8_faces 34 = .ok (.iconst 0, 1) := by decide +kernel
theorem dX8_faces_35 : decode cX8_faces 35 = .ok (.istore_n 3, 1) := by decide +kernel
theorem dX8_faces_36 : decode cX8_faces 36 = .ok (.iload_n 3, 1) := by decide +kernel
theorem dX8_faces_37 : decode cX8_faces 37 = .ok (.aload_n 0, 1) := by decide +kernel
theorem dX8_faces_38 : decode cX8_faces 38 = .ok (.getfield 251, 3) := by decide +kernel
theorem dX8_faces_41 : decode cX8_faces 41 = .ok (.if_icmp .ge 33, 3) := by decide +kernel
theorem dX8_faces_44 : decode cX8_faces 44 = .ok (.iload_n 2, 1) := by decide +kernel
theorem dX8_faces_45 : decode cX8_faces 45 = .ok (.aload_n 0, 1) := by decide +kernel
theorem dX8_faces_46 : decode cX8_faces 46 = .ok (.getfield 63, 3) := by decide +kernel
theorem dX8_faces_49 : decode cX8_faces 49 = .ok (.iload_n 3, 1) := by decide +kernel
theorem dX8_faces_50 : decode cX8_faces 50 = .ok (.iaload, 1) := by decide +kernel
theorem dX8_faces_51 : decode cX8_faces 51 = .ok (.iload_n 1, 1) := by decide +kernel
theorem dX8_faces_52 : decode cX8_faces 52 = .ok (.if_icmp .ne 13, 3) := by decide +kernel
theorem dX8_faces_55 : decode cX8_faces 55 = .ok (.iconst 1, 1) := by decide +kernel
theorem dX8_faces_56 : decode cX8_faces 56 = .ok (.aload_n 0, 1) := by decide +kernel
theorem dX8_faces_57 : decode cX8_faces 57 = .ok (.iload_n 3, 1) := by decide +kernel
theorem dX8_faces_58 : decode cX8_faces 58 = .ok (.invokevirtual 300, 3) := by decide +kernel
theorem dX8_faces_61 : decode cX8_faces 61 = .ok (.ishl, 1) := by decide +kernel
theorem dX8_faces_62 : decode cX8_faces 62 = .ok (.goto 4, 3) := by decide +kernel
theorem dX8_faces_65 : decode cX8_faces 65 = .ok (.iconst 0, 1) := by decide +kernel
theorem dX8_faces_66 : decode cX8_faces 66 = .ok (.ior, 1) := by decide +kernel
theorem dX8_faces_67 : decode cX8_faces 67 = .ok (.istore_n 2, 1) := by decide +kernel
theorem dX8_faces_68 : decode cX8_faces 68 = .ok (.iinc 3 1, 3) := by decide +kernel
theorem dX8_faces_71 : decode cX8_faces 71 = .ok (.goto (-35), 3) := by decide +kernel
theorem dX8_faces_74 : decode cX8_faces 74 = .ok (.iload_n 2, 1) := by decide +kernel
theorem dX8_faces_75 : decode cX8_faces 75 = .ok (.ireturn, 1) := by decide +kernel
theorem dX8_fill_0 : decode cX8_fill 0 = .ok (.iload_n 1, 1) := by decide +kernel
theorem dX8_fill_1 : decode cX8_fill 1 = .ok (.i2l, 1) := by decide +kernel
theorem dX8_fill_2 : decode cX8_fill 2 = .ok (.lconst 0, 1) := by decide +kernel
theorem dX8_fill_3 : decode cX8_fill 3 = .ok (.lconst 1, 1) := by decide +kernel
theorem dX8_fill_4 : decode cX8_fill 4 = .ok (.invokestatic 129, 3) := by decide +kernel
theorem dX8_fill_7 : decode cX8_fill 7 = .ok (.ifCond .ne 10, 3) := by decide +kernel
theorem dX8_fill_10 : decode cX8_fill 10 = .ok (.aload_n 0, 1) := by decide +kernel
theorem dX8_fill_11 : decode cX8_fill 11 = .ok (.bipush (-2), 2) := by decide +kernel
theorem dX8_fill_13 : decode cX8_fill 13 = .ok (.invokevirtual 13, 3) := by decide +kernel
theorem dX8_fill_16 : decode cX8_fill 16 = .ok (.ireturn, 1) := by decide +kernel
theorem dX8_fill_17 : decode cX8_fill 17 = .ok (.aload_n 0, 1) := by decide +kernel
theorem dX8_fill_18 : decode cX8_fill 18 = .ok (.getfield 38, 3) := by decide +kernel
theorem dX8_fill_21 : decode cX8_fill 21 = .ok (.ifCond .ne 10, 3) := by decide +kernel
theorem dX8_fill_24 : decode cX8_fill 24 = .ok (.aload_n 0, 1) := by decide +kernel
theorem dX8_fill_25 : decode cX8_fill 25 = .ok (.bipush (-3), 2) := by decide +kernel
theorem dX8_fill_27 : decode cX8_fill 27 = .ok (.invokevirtual 13, 3) := by decide +kernel
theorem dX8_fill_30 : decode cX8_fill 30 = .ok (.ireturn, 1) := by decide +kernel
theorem dX8_fill_31 : decode cX8_fill 31 = .ok (.aload_n 0, 1) := by decide +kernel
theorem dX8_fill_32 : decode cX8_fill 32 = .ok (.invokevirtual 263, 3) := by decide +kernel
theorem dX8_fill_35 : decode cX8_fill 35 = .ok (.aload_n 0, 1) := by decide +kernel
theorem dX8_fill_36 : decode cX8_fill 36 = .ok (.getfield 251, 3) := by decide +kernel
theorem dX8_fill_39 : decode cX8_fill 39 = .ok (.istore_n 2, 1) := by decide +kernel
theorem dX8_fill_40 : decode cX8_fill 40 = .ok (.bipush (-9), 2) := by decide +kernel
theorem dX8_fill_42 : decode cX8_fill 42 = .ok (.istore_n 3, 1) := by decide +kernel
theorem dX8_fill_43 : decode cX8_fill 43 = .ok (.iconst 0, 1) := by decide +kernel
theorem dX8_fill_44 : decode cX8_fill 44 = .ok (.istore 4, 2) := by decide +kernel
theorem dX8_fill_46 : decode cX8_fill 46 = .ok (.iload 4, 2) := by decide +kernel
theorem dX8_fill_48 : decode cX8_fill 48 = .ok (.aload_n 0, 1) := by decide +kernel
theorem dX8_fill_49 : decode cX8_fill 49 = .ok (.invokevirtual 125, 3) := by decide +kernel
theorem dX8_fill_52 : decode cX8_fill 52 = .ok (.if_icmp .ge 59, 3) := by decide +kernel
theorem dX8_fill_55 : decode cX8_fill 55 = .ok (.aload_n 0, 1) := by decide +kernel
theorem dX8_fill_56 : decode cX8_fill 56 = .ok (.getfield 29, 3) := by decide +kernel
theorem dX8_fill_59 : decode cX8_fill 59 = .ok (.iload 4, 2) := by decide +kernel
theorem dX8_fill_61 : decode cX8_fill 61 = .ok (.iaload, 1) := by decide +kernel
theorem dX8_fill_62 : decode cX8_fill 62 = .ok (.iconst 1, 1) := by decide +kernel
theorem dX8_fill_63 : decode cX8_fill 63 = .ok (.if_icmp .eq 6, 3) := by decide +kernel
theorem dX8_fill_66 : decode cX8_fill 66 = .ok (.goto 39, 3) := by decide +kernel
theorem dX8_fill_69 : decode cX8_fill 69 = .ok (.aload_n 0, 1) := by decide +kernel
theorem dX8_fill_70 : decode cX8_fill 70 = .ok (.getfield 29, 3) := by decide +kernel
theorem dX8_fill_73 : decode cX8_fill 73 = .ok (.iload 4, 2) := by decide +kernel
theorem dX8_fill_75 : decode cX8_fill 75 = .ok (.iconst 0, 1) := by decide +kernel
theorem dX8_fill_76 : decode cX8_fill 76 = .ok (.iastore, 1) := by decide +kernel
theorem dX8_fill_77 : decode cX8_fill 77 = .ok (.aload_n 0, 1) := by decide +kernel
theorem dX8_fill_78 : decode cX8_fill 78 = .ok (.invokevirtual 263, 3) := by decide +kernel
theorem dX8_fill_81 : decode cX8_fill 81 = .ok (.aload_n 0, 1) := by decide +kernel
theorem dX8_fill_82 : decode cX8_fill 82 = .ok (.getfield 29, 3) := by decide +kernel
theorem dX8_fill_85 : decode cX8_fill 85 = .ok (.iload 4, 2) := by decide +kernel
theorem dX8_fill_87 : decode cX8_fill 87 = .ok (.iconst 1, 1) := by decide +kernel
theorem dX8_fill_88 : decode cX8_fill 88 = .ok (.iastore, 1) := by decide +kernel
theorem dX8_fill_89 : decode cX8_fill 89 = .ok (.aload_n 0, 1) := by decide +kernel
theorem dX8_fill_90 : decode cX8_fill 90 = .ok (.getfield 251, 3) := by decide +kernel
theorem dX8_fill_93 : decode cX8_fill 93 = .ok (.iload_n 2, 1) := by decide +kernel
theorem dX8_fill_94 : decode cX8_fill 94 = .ok (.if_icmp .le 11, 3) := by decide +kernel
theorem dX8_fill_97 : decode cX8_fill 97 = .ok (.aload_n 0, 1) := by decide +kernel
theorem dX8_fill_98 : decode cX8_fill 98 = .ok (.getfield 251, 3) := by decide +kernel
theorem dX8_fill_101 : decode cX8_fill 101 = .ok (.istore_n 2, 1) := by decide +kernel
theorem dX8_fill_102 : decode cX8_fill 102 = .ok (.iload 4, 2) := by decide +kernel
theorem dX8_fill_104 : decode cX8_fill 104 = .ok (.istore_n 3, 1) := by decide +kernel
theorem dX8_fill_105 : decode cX8_fill 105 = .ok (.iinc 4 1, 3) := by decide +kernel
theorem dX8_fill_108 : decode cX8_fill 108 = .ok (.goto (-62), 3) := by decide +kernel
theorem dX8_fill_111 : decode cX8_fill 111 = .ok (.iload_n 1, 1) := by decide +kernel
theorem dX8_fill_112 : decode cX8_fill 112 = .ok (.ifCond .eq 9, 3) := by decide +kernel
theorem dX8_fill_115 : decode cX8_fill 115 = .ok (.iload_n 3, 1) := by decide +kernel
theorem dX8_fill_116 : decode cX8_fill 116 = .ok (.bipush (-9), 2) := by decide +kernel
theorem dX8_fill_118 : decode cX8_fill 118 = .ok (.if_icmp .ne 7, 3) := by decide +kernel
theorem dX8_fill_121 : decode cX8_fill 121 = .ok (.iload_n 3, 1) := by decide +kernel
theorem dX8_fill_122 : decode cX8_fill 122 = .ok (.goto 4, 3) := by decide +kernel
theorem dX8_fill_125 : decode cX8_fill 125 = .ok (.iload_n 2, 1) := by decide +kernel
theorem dX8_fill_126 : decode cX8_fill 126 = .ok (.ireturn, 1) := by decide +kernel
theorem dX8_needed_0 : decode cX8_needed 0 = .ok (.aload_n 0, 1) := by decide +kernel
theorem dX8_needed_1 : decode cX8_needed 1 = .ok (.iload_n 1, 1) := by decide +kernel
theorem dX8_needed_2 : decode cX8_needed 2 = .ok (.invokevirtual 209, 3) := by decide +kernel
theorem dX8_needed_5 : decode cX8_needed 5 = .ok (.ifCond .ne 9, 3) := by decide +kernel
theorem dX8_needed_8 : decode cX8_needed 8 = .ok (.aload_n 0, 1) := by decide +kernel
theorem dX8_needed_9 : decode cX8_needed 9 = .ok (.iconst (-1), 1) := by decide +kernel
theorem dX8_needed_10 : decode cX8_needed 10 = .ok (.invokevirtual 303, 3) := by decide +kernel
theorem dX8_needed_13 : decode cX8_needed 13 = .ok (.lreturn, 1) := by decide +kernel
theorem dX8_needed_14 : decode cX8_needed 14 = .ok (.aload_n 0, 1) := by decide +kernel
theorem dX8_needed_15 : decode cX8_needed 15 = .ok (.getfield 38, 3) := by decide +kernel
theorem dX8_needed_18 : decode cX8_needed 18 = .ok (.ifCond .ne 10, 3) := by decide +kernel
theorem dX8_needed_21 : decode cX8_needed 21 = .ok (.aload_n 0, 1) := by decide +kernel
theorem dX8_needed_22 : decode cX8_needed 22 = .ok (.bipush (-3), 2) := by decide +kernel
theorem dX8_needed_24 : decode cX8_needed 24 = .ok (.invokevirtual 303, 3) := by decide +kernel
theorem dX8_needed_27 : decode cX8_needed 27 = .ok (.lreturn, 1) := by decide +kernel
theorem dX8_needed_28 : decode cX8_needed 28 = .ok (.aload_n 0, 1) := by decide +kernel
theorem dX8_needed_29 : decode cX8_needed 29 = .ok (.invokevirtual 263, 3) := by decide +kernel
theorem dX8_needed_32 : decode cX8_needed 32 = .ok (.aload_n 0, 1) := by decide +kernel
theorem dX8_needed_33 : decode cX8_needed 33 = .ok (.iload_n 1, 1) := by decide +kernel
theorem dX8_needed_34 : decode cX8_needed 34 = .ok (.iconst (-1), 1) := by decide +kernel
theorem dX8_needed_35 : decode cX8_needed 35 = .ok (.invokevirtual 292, 3) := by decide +kernel
theorem dX8_needed_38 : decode cX8_needed 38 = .ok (.istore_n 2, 1) := by decide +kernel
theorem dX8_needed_39 : decode cX8_needed 39 = .ok (.lconst 0, 1) := by decide +kernel
theorem dX8_needed_40 : decode cX8_needed 40 = .ok (.lstore_n 3, 1) := by decide +kernel
theorem dX8_needed_41 : decode cX8_needed 41 = .ok (.iconst 0, 1) := by decide +kernel
theorem dX8_needed_42 : decode cX8_needed 42 = .ok (.istore 5, 2) := by decide +kernel
theorem dX8_needed_44 : decode cX8_needed 44 = .ok (.iload 5, 2) := by decide +kernel
theorem dX8_needed_46 : decode cX8_needed 46 = .ok (.aload_n 0, 1) := by decide +kernel
theorem dX8_needed_47 : decode cX8_needed 47 = .ok (.invokevirtual 125, 3) := by decide +kernel
theorem dX8_needed_50 : decode cX8_needed 50 = .ok (.if_icmp .ge 96, 3) := by decide +kernel
theorem dX8_needed_53 : decode cX8_needed 53 = .ok (.iload_n 2, 1) := by decide +kernel
theorem dX8_needed_54 : decode cX8_needed 54 = .ok (.bipush (-9), 2) := by decide +kernel
theorem dX8_needed_56 : decode cX8_needed 56 = .ok (.if_icmp .eq 90, 3) := by decide +kernel
theorem dX8_needed_59 : decode cX8_needed 59 = .ok (.aload_n 0, 1) := by decide +kernel
theorem dX8_needed_60 : decode cX8_needed 60 = .ok (.iload 5, 2) := by decide +kernel
theorem dX8_needed_62 : decode cX8_needed 62 = .ok (.invokevirtual 206, 3) := by decide +kernel
theorem dX8_needed_65 : decode cX8_needed 65 = .ok (.ifCond .ne 75, 3) := by decide +kernel
theorem dX8_needed_68 : decode cX8_needed 68 = .ok (.aload_n 0, 1) := by decide +kernel
theorem dX8_needed_69 : decode cX8_needed 69 = .ok (.getfield 29, 3) := by decide +kernel
theorem dX8_needed_72 : decode cX8_needed 72 = .ok (.iload 5, 2) := by decide +kernel
theorem dX8_needed_74 : decode cX8_needed 74 = .ok (.iaload, 1) := by decide +kernel
theorem dX8_needed_75 : decode cX8_needed 75 = .ok (.iconst 1, 1) := by decide +kernel
theorem dX8_needed_76 : decode cX8_needed 76 = .ok (.if_icmp .ne 6, 3) := by decide +kernel
theorem dX8_needed_79 : decode cX8_needed 79 = .ok (.goto 61, 3) := by decide +kernel
theorem dX8_needed_82 : decode cX8_needed 82 = .ok (.aload_n 0, 1) := by decide +kernel
theorem dX8_needed_83 : decode cX8_needed 83 = .ok (.getfield 29, 3) := by decide +kernel
theorem dX8_needed_86 : decode cX8_needed 86 = .ok (.iload 5, 2) := by decide +kernel
theorem dX8_needed_88 : decode cX8_needed 88 = .ok (.iaload, 1) := by decide +kernel
theorem dX8_needed_89 : decode cX8_needed 89 = .ok (.istore 6, 2) := by decide +kernel
theorem dX8_needed_91 : decode cX8_needed 91 = .ok (.aload_n 0, 1) := by decide +kernel
theorem dX8_needed_92 : decode cX8_needed 92 = .ok (.getfield 29, 3) := by decide +kernel
theorem dX8_needed_95 : decode cX8_needed 95 = .ok (.iload 5, 2) := by decide +kernel
theorem dX8_needed_97 : decode cX8_needed 97 = .ok (.iconst 1, 1) := by decide +kernel
theorem dX8_needed_98 : decode cX8_needed 98 = .ok (.iastore, 1) := by decide +kernel
theorem dX8_needed_99 : decode cX8_needed 99 = .ok (.aload_n 0, 1) := by decide +kernel
theorem dX8_needed_100 : decode cX8_needed 100 = .ok (.invokevirtual 263, 3) := by decide +kernel
theorem dX8_needed_103 : decode cX8_needed 103 = .ok (.aload_n 0, 1) := by decide +kernel
theorem dX8_needed_104 : decode cX8_needed 104 = .ok (.iload_n 1, 1) := by decide +kernel
theorem dX8_needed_105 : decode cX8_needed 105 = .ok (.iconst (-1), 1) := by decide +kernel
theorem dX8_needed_106 : decode cX8_needed 106 = .ok (.invokevirtual 292, 3) := by decide +kernel
theorem dX8_needed_109 : decode cX8_needed 109 = .ok (.istore 7, 2) := by decide +kernel
theorem dX8_needed_111 : decode cX8_needed 111 = .ok (.aload_n 0, 1) := by decide +kernel
theorem dX8_needed_112 : decode cX8_needed 112 = .ok (.getfield 29, 3) := by decide +kernel
theorem dX8_needed_115 : decode cX8_needed 115 = .ok (.iload 5, 2) := by decide +kernel
theorem dX8_needed_117 : decode cX8_needed 117 = .ok (.iload 6, 2) := by decide +kernel
theorem dX8_needed_119 : decode cX8_needed 119 = .ok (.iastore, 1) := by decide +kernel
theorem dX8_needed_120 : decode cX8_needed 120 = .ok (.iload 7, 2) := by decide +kernel
theorem dX8_needed_122 : decode cX8_needed 122 = .ok (.bipush (-9), 2) := by decide +kernel
theorem dX8_needed_124 : decode cX8_needed 124 = .ok (.if_icmp .eq 9, 3) := by decide +kernel
theorem dX8_needed_127 : decode cX8_needed 127 = .ok (.iload 7, 2) := by decide +kernel
theorem dX8_needed_129 : decode cX8_needed 129 = .ok (.iload_n 2, 1) := by decide +kernel
theorem dX8_needed_130 : decode cX8_needed 130 = .ok (.if_icmp .le 10, 3) := by decide +kernel
theorem dX8_needed_133 : decode cX8_needed 133 = .ok (.lload_n 3, 1) := by decide +kernel
theorem dX8_needed_134 : decode cX8_needed 134 = .ok (.lconst 1, 1) := by decide +kernel
theorem dX8_needed_135 : decode cX8_needed 135 = .ok (.iload 5, 2) := by decide +kernel
theorem dX8_needed_137 : decode cX8_needed 137 = .ok (.lshl, 1) := by decide +kernel
theorem dX8_needed_138 : decode cX8_needed 138 = .ok (.lor, 1) := by decide +kernel
theorem dX8_needed_139 : decode cX8_needed 139 = .ok (.lstore_n 3, 1) := by decide +kernel
theorem dX8_needed_140 : decode cX8_needed 140 = .ok (.iinc 5 1, 3) := by decide +kernel
theorem dX8_needed_143 : decode cX8_needed 143 = .ok (.goto (-99), 3) := by decide +kernel
theorem dX8_needed_146 : decode cX8_needed 146 = .ok (.lload_n 3, 1) := by decide +kernel
theorem dX8_needed_147 : decode cX8_needed 147 = .ok (.lreturn, 1) := by decide +kernel
theorem dX8_paints_0 : decode cX8_paints 0 = .ok (.aload_n 0, 1) := by decide +kernel
theorem dX8_paints_1 : decode cX8_paints 1 = .ok (.iload_n 1, 1) := by decide +kernel
theorem dX8_paints_2 : decode cX8_paints 2 = .ok (.invokevirtual 300, 3) := by decide +kernel
theorem dX8_paints_5 : decode cX8_paints 5 = .ok (.iload_n 3, 1) := by decide +kernel
theorem dX8_paints_6 : decode cX8_paints 6 = .ok (.if_icmp .eq 5, 3) := by decide +kernel
theorem dX8_paints_9 : decode cX8_paints 9 = .ok (.iconst 0, 1) := by decide +kernel
theorem dX8_paints_10 : decode cX8_paints 10 = .ok (.ireturn, 1) := by decide +kernel
theorem dX8_paints_11 : decode cX8_paints 11 = .ok (.aload_n 0, 1) := by decide +kernel
theorem dX8_paints_12 : decode cX8_paints 12 = .ok (.invokevirtual 272, 3) := by decide +kernel
theorem dX8_paints_15 : decode cX8_paints 15 = .ok (.aload_n 0, 1) := by decide +kernel
theorem dX8_paints_16 : decode cX8_paints 16 = .ok (.iload_n 1, 1) := by decide +kernel
theorem dX8_paints_17 : decode cX8_paints 17 = .ok (.invokevirtual 260, 3) := by decide +kernel
theorem dX8_paints_20 : decode cX8_paints 20 = .ok (.aload_n 0, 1) := by decide +kernel
theorem dX8_paints_21 : decode cX8_paints 21 = .ok (.iload_n 2, 1) := by decide +kernel
theorem dX8_paints_22 : decode cX8_paints 22 = .ok (.invokevirtual 206, 3) := by decide +kernel
theorem dX8_paints_25 : decode cX8_paints 25 = .ok (.istore 4, 2) := by decide +kernel
theorem dX8_paints_27 : decode cX8_paints 27 = .ok (.aload_n 0, 1) := by decide +kernel
theorem dX8_paints_28 : decode cX8_paints 28 = .ok (.invokevirtual 275, 3) := by decide +kernel
theorem dX8_paints_31 : decode cX8_paints 31 = .ok (.iload 4, 2) := by decide +kernel
theorem dX8_paints_33 : decode cX8_paints 33 = .ok (.ireturn, 1) := by decide +kernel
theorem dX8_paint_0 : decode cX8_paint 0 = .ok (.aload_n 0, 1) := by decide +kernel
theorem dX8_paint_1 : decode cX8_paint 1 = .ok (.iload_n 1, 1) := by decide +kernel
theorem dX8_paint_2 : decode cX8_paint 2 = .ok (.invokevirtual 150, 3) := by decide +kernel
theorem dX8_paint_5 : decode cX8_paint 5 = .ok (.ifCond .eq 11, 3) := by decide +kernel
theorem dX8_paint_8 : decode cX8_paint 8 = .ok (.aload_n 0, 1) := by decide +kernel
theorem dX8_paint_9 : decode cX8_paint 9 = .ok (.iload_n 2, 1) := by decide +kernel
theorem dX8_paint_10 : decode cX8_paint 10 = .ok (.invokevirtual 285, 3) := by decide +kernel
theorem dX8_paint_13 : decode cX8_paint 13 = .ok (.ifCond .ne 9, 3) := by decide +kernel
theorem dX8_paint_16 : decode cX8_paint 16 = .ok (.aload_n 0, 1) := by decide +kernel
theorem dX8_paint_17 : decode cX8_paint 17 = .ok (.iconst (-1), 1) := by decide +kernel
theorem dX8_paint_18 : decode cX8_paint 18 = .ok (.invokevirtual 13, 3) := by decide +kernel
theorem dX8_paint_21 : decode cX8_paint 21 = .ok (.ireturn, 1) := by decide +kernel
theorem dX8_paint_22 : decode cX8_paint 22 = .ok (.aload_n 0, 1) := by decide +kernel
theorem dX8_paint_23 : decode cX8_paint 23 = .ok (.getfield 38, 3) := by decide +kernel
theorem dX8_paint_26 : decode cX8_paint 26 = .ok (.ifCond .ne 10, 3) := by decide +kernel
theorem dX8_paint_29 : decode cX8_paint 29 = .ok (.aload_n 0, 1) := by decide +kernel
theorem dX8_paint_30 : decode cX8_paint 30 = .ok (.bipush (-3), 2) := by decide +kernel
theorem dX8_paint_32 : decode cX8_paint 32 = .ok (.invokevirtual 13, 3) := by decide +kernel
theorem dX8_paint_35 : decode cX8_paint 35 = .ok (.ireturn, 1) := by decide +kernel
theorem dX8_paint_36 : decode cX8_paint 36 = .ok (.aload_n 0, 1) := by decide +kernel
theorem dX8_paint_37 : decode cX8_paint 37 = .ok (.getfield 32, 3) := by decide +kernel
theorem dX8_paint_40 : decode cX8_paint 40 = .ok (.iload_n 1, 1) := by decide +kernel
theorem dX8_paint_41 : decode cX8_paint 41 = .ok (.iaload, 1) := by decide +kernel
theorem dX8_paint_42 : decode cX8_paint 42 = .ok (.iload_n 2, 1) := by decide +kernel
theorem dX8_paint_43 : decode cX8_paint 43 = .ok (.if_icmp .ne 5, 3) := by decide +kernel
theorem dX8_paint_46 : decode cX8_paint 46 = .ok (.iconst 0, 1) := by decide +kernel
theorem dX8_paint_47 : decode cX8_paint 47 = .ok (.ireturn, 1) := by decide +kernel
theorem dX8_paint_48 : decode cX8_paint 48 = .ok (.aload_n 0, 1) := by decide +kernel
theorem dX8_paint_49 : decode cX8_paint 49 = .ok (.invokevirtual 263, 3) := by decide +kernel
theorem dX8_paint_52 : decode cX8_paint 52 = .ok (.aload_n 0, 1) := by decide +kernel
theorem dX8_paint_53 : decode cX8_paint 53 = .ok (.iconst 0, 1) := by decide +kernel
theorem dX8_paint_54 : decode cX8_paint 54 = .ok (.iload_n 1, 1) := by decide +kernel
theorem dX8_paint_55 : decode cX8_paint 55 = .ok (.iload_n 2, 1) := by decide +kernel
theorem dX8_paint_56 : decode cX8_paint 56 = .ok (.invokevirtual 307, 3) := by decide +kernel
theorem dX8_paint_59 : decode cX8_paint 59 = .ok (.ifCond .eq 10, 3) := by decide +kernel
theorem dX8_paint_62 : decode cX8_paint 62 = .ok (.aload_n 0, 1) := by decide +kernel
theorem dX8_paint_63 : decode cX8_paint 63 = .ok (.getfield 254, 3) := by decide +kernel
theorem dX8_paint_66 : decode cX8_paint 66 = .ok (.goto 4, 3) := by decide +kernel
theorem dX8_paint_69 : decode cX8_paint 69 = .ok (.iconst (-1), 1) := by decide +kernel
theorem dX8_paint_70 : decode cX8_paint 70 = .ok (.istore_n 3, 1) := by decide +kernel
theorem dX8_paint_71 : decode cX8_paint 71 = .ok (.iconst 1, 1) := by decide +kernel
theorem dX8_paint_72 : decode cX8_paint 72 = .ok (.istore 4, 2) := by decide +kernel
theorem dX8_paint_74 : decode cX8_paint 74 = .ok (.iload 4, 2) := by decide +kernel
theorem dX8_paint_76 : decode cX8_paint 76 = .ok (.aload_n 0, 1) := by decide +kernel
theorem dX8_paint_77 : decode cX8_paint 77 = .ok (.getfield 251, 3) := by decide +kernel
theorem dX8_paint_80 : decode cX8_paint 80 = .ok (.if_icmp .ge 44, 3) := by decide +kernel
theorem dX8_paint_83 : decode cX8_paint 83 = .ok (.iload_n 3, 1) := by decide +kernel
theorem dX8_paint_84 : decode cX8_paint 84 = .ok (.iconst (-1), 1) := by decide +kernel
theorem dX8_paint_85 : decode cX8_paint 85 = .ok (.if_icmp .eq 14, 3) := by decide +kernel
theorem dX8_paint_88 : decode cX8_paint 88 = .ok (.aload_n 0, 1) := by decide +kernel
theorem dX8_paint_89 : decode cX8_paint 89 = .ok (.getfield 69, 3) := by decide +kernel
theorem dX8_paint_92 : decode cX8_paint 92 = .ok (.iload 4, 2) := by decide +kernel
theorem dX8_paint_94 : decode cX8_paint 94 = .ok (.iaload, 1) := by decide +kernel
theorem dX8_paint_95 : decode cX8_paint 95 = .ok (.iload_n 3, 1) := by decide +kernel
theorem dX8_paint_96 : decode cX8_paint 96 = .ok (.if_icmp .ge 22, 3) := by decide +kernel
theorem dX8_paint_99 : decode cX8_paint 99 = .ok (.aload_n 0, 1) := by decide +kernel
theorem dX8_paint_100 : decode cX8_paint 100 = .ok (.iload 4, 2) := by decide +kernel
theorem dX8_paint_102 : decode cX8_paint 102 = .ok (.iload_n 1, 1) := by decide +kernel
theorem dX8_paint_103 : decode cX8_paint 103 = .ok (.iload_n 2, 1) := by decide +kernel
theorem dX8_paint_104 : decode cX8_paint 104 = .ok (.invokevirtual 307, 3) := by decide +kernel
theorem dX8_paint_107 : decode cX8_paint 107 = .ok (.ifCond .eq 11, 3) := by decide +kernel
theorem dX8_paint_110 : decode cX8_paint 110 = .ok (.aload_n 0, 1) := by decide +kernel
theorem dX8_paint_111 : decode cX8_paint 111 = .ok (.getfield 69, 3) := by decide +kernel
theorem dX8_paint_114 : decode cX8_paint 114 = .ok (.iload 4, 2) := by decide +kernel
theorem dX8_paint_116 : decode cX8_paint 116 = .ok (.iaload, 1) := by decide +kernel
theorem dX8_paint_117 : decode cX8_paint 117 = .ok (.istore_n 3, 1) := by decide +kernel
theorem dX8_paint_118 : decode cX8_paint 118 = .ok (.iinc 4 1, 3) := by decide +kernel
theorem dX8_paint_121 : decode cX8_paint 121 = .ok (.goto (-47), 3) := by decide +kernel
theorem dX8_paint_124 : decode cX8_paint 124 = .ok (.iload_n 3, 1) := by decide +kernel
theorem dX8_paint_125 : decode cX8_paint 125 = .ok (.iconst (-1), 1) := by decide +kernel
theorem dX8_paint_126 : decode cX8_paint 126 = .ok (.if_icmp .ne 8, 3) := by decide +kernel
theorem dX8_paint_129 : decode cX8_paint 129 = .ok (.bipush (-9), 2) := by decide +kernel
theorem dX8_paint_131 : decode cX8_paint 131 = .ok (.goto 4, 3) := by decide +kernel
theorem dX8_paint_134 : decode cX8_paint 134 = .ok (.iload_n 3, 1) := by decide +kernel
theorem dX8_paint_135 : decode cX8_paint 135 = .ok (.ireturn, 1) := by decide +kernel
theorem dX8_likely_0 : decode cX8_likely 0 = .ok (.aload_n 0, 1) := by decide +kernel
theorem dX8_likely_1 : decode cX8_likely 1 = .ok (.iload_n 2, 1) := by decide +kernel
theorem dX8_likely_2 : decode cX8_likely 2 = .ok (.invokevirtual 209, 3) := by decide +kernel
theorem dX8_likely_5 : decode cX8_likely 5 = .ok (.ifCond .ne 9, 3) := by decide +kernel
theorem dX8_likely_8 : decode cX8_likely 8 = .ok (.aload_n 0, 1) := by decide +kernel
theorem dX8_likely_9 : decode cX8_likely 9 = .ok (.iconst (-1), 1) := by decide +kernel
theorem dX8_likely_10 : decode cX8_likely 10 = .ok (.invokevirtual 303, 3) := by decide +kernel
theorem dX8_likely_13 : decode cX8_likely 13 = .ok (.lreturn, 1) := by decide +kernel
theorem dX8_likely_14 : decode cX8_likely 14 = .ok (.iload_n 1, 1) := by decide +kernel
theorem dX8_likely_15 : decode cX8_likely 15 = .ok (.ifCond .ge 10, 3) := by decide +kernel
theorem dX8_likely_18 : decode cX8_likely 18 = .ok (.aload_n 0, 1) := by decide +kernel
theorem dX8_likely_19 : decode cX8_likely 19 = .ok (.bipush (-4), 2) := by decide +kernel
theorem dX8_likely_21 : decode cX8_likely 21 = .ok (.invokevirtual 303, 3) := by decide +kernel
theorem dX8_likely_24 : decode cX8_likely 24 = .ok (.lreturn, 1) := by decide +kernel
theorem dX8_likely_25 : decode cX8_likely 25 = .ok (.iload_n 1, 1) := by decide +kernel
theorem dX8_likely_26 : decode cX8_likely 26 = .ok (.bipush 12, 2) := by decide +kernel
theorem dX8_likely_28 : decode cX8_likely 28 = .ok (.if_icmp .le 10, 3) := by decide +kernel
theorem dX8_likely_31 : decode cX8_likely 31 = .ok (.aload_n 0, 1) := by decide +kernel
theorem dX8_likely_32 : decode cX8_likely 32 = .ok (.bipush (-6), 2) := by decide +kernel
theorem dX8_likely_34 : decode cX8_likely 34 = .ok (.invokevirtual 303, 3) := by decide +kernel
theorem dX8_likely_37 : decode cX8_likely 37 = .ok (.lreturn, 1) := by decide +kernel
theorem dX8_likely_38 : decode cX8_likely 38 = .ok (.iload_n 3, 1) := by decide +kernel
theorem dX8_likely_39 : decode cX8_likely 39 = .ok (.i2l, 1) := by decide +kernel
theorem dX8_likely_40 : decode cX8_likely 40 = .ok (.lconst 0, 1) := by decide +kernel
theorem dX8_likely_41 : decode cX8_likely 41 = .ok (.lconst 1, 1) := by decide +kernel
theorem dX8_likely_42 : decode cX8_likely 42 = .ok (.invokestatic 129, 3) := by decide +kernel
theorem dX8_likely_45 : decode cX8_likely 45 = .ok (.ifCond .ne 10, 3) := by decide +kernel
theorem dX8_likely_48 : decode cX8_likely 48 = .ok (.aload_n 0, 1) := by decide +kernel
theorem dX8_likely_49 : decode cX8_likely 49 = .ok (.bipush (-2), 2) := by decide +kernel
theorem dX8_likely_51 : decode cX8_likely 51 = .ok (.invokevirtual 303, 3) := by decide +kernel
theorem dX8_likely_54 : decode cX8_likely 54 = .ok (.lreturn, 1) := by decide +kernel
theorem dX8_likely_55 : decode cX8_likely 55 = .ok (.aload_n 0, 1) := by decide +kernel
theorem dX8_likely_56 : decode cX8_likely 56 = .ok (.getfield 38, 3) := by decide +kernel
theorem dX8_likely_59 : decode cX8_likely 59 = .ok (.ifCond .ne 10, 3) := by decide +kernel
theorem dX8_likely_62 : decode cX8_likely 62 = .ok (.aload_n 0, 1) := by decide +kernel
theorem dX8_likely_63 : decode cX8_likely 63 = .ok (.bipush (-3), 2) := by decide +kernel
theorem dX8_likely_65 : decode cX8_likely 65 = .ok (.invokevirtual 303, 3) := by decide +kernel
theorem dX8_likely_68 : decode cX8_likely 68 = .ok (.lreturn, 1) := by decide +kernel
theorem dX8_likely_69 : decode cX8_likely 69 = .ok (.aload_n 0, 1) := by decide +kernel
theorem dX8_likely_70 : decode cX8_likely 70 = .ok (.invokevirtual 263, 3) := by decide +kernel
theorem dX8_likely_73 : decode cX8_likely 73 = .ok (.iconst 0, 1) := by decide +kernel
theorem dX8_likely_74 : decode cX8_likely 74 = .ok (.istore 4, 2) := by decide +kernel
theorem dX8_likely_76 : decode cX8_likely 76 = .ok (.iload 4, 2) := by decide +kernel
theorem dX8_likely_78 : decode cX8_likely 78 = .ok (.aload_n 0, 1) := by decide +kernel
theorem dX8_likely_79 : decode cX8_likely 79 = .ok (.getfield 251, 3) := by decide +kernel
theorem dX8_likely_82 : decode cX8_likely 82 = .ok (.if_icmp .ge 26, 3) := by decide +kernel
theorem dX8_likely_85 : decode cX8_likely 85 = .ok (.aload_n 0, 1) := by decide +kernel
theorem dX8_likely_86 : decode cX8_likely 86 = .ok (.getfield 88, 3) := by decide +kernel
theorem dX8_likely_89 : decode cX8_likely 89 = .ok (.iload 4, 2) := by decide +kernel
theorem dX8_likely_91 : decode cX8_likely 91 = .ok (.iload 4, 2) := by decide +kernel
theorem dX8_likely_93 : decode cX8_likely 93 = .ok (.ifCond .ne 7, 3) := by decide +kernel
theorem dX8_likely_96 : decode cX8_likely 96 = .ok (.lconst 1, 1) := by decide +kernel
theorem dX8_likely_97 : decode cX8_likely 97 = .ok (.goto 4, 3) := by decide +kernel
theorem dX8_likely_100 : decode cX8_likely 100 = .ok (.lconst 0, 1) := by decide +kernel
theorem dX8_likely_101 : decode cX8_likely 101 = .ok (.lastore, 1) := by decide +kernel
theorem dX8_likely_102 : decode cX8_likely 102 = .ok (.iinc 4 1, 3) := by decide +kernel
theorem dX8_likely_105 : decode cX8_likely 105 = .ok (.goto (-29), 3) := by decide +kernel
theorem dX8_likely_108 : decode cX8_likely 108 = .ok (.lconst 1, 1) := by decide +kernel
theorem dX8_likely_109 : decode cX8_likely 109 = .ok (.lstore 4, 2) := by decide +kernel
theorem dX8_likely_111 : decode cX8_likely 111 = .ok (.iconst 0, 1) := by decide +kernel
theorem dX8_likely_112 : decode cX8_likely 112 = .ok (.istore 6, 2) := by decide +kernel
theorem dX8_likely_114 : decode cX8_likely 114 = .ok (.iload 6, 2) := by decide +kernel
theorem dX8_likely_116 : decode cX8_likely 116 = .ok (.iload_n 1, 1) := by decide +kernel
theorem dX8_likely_117 : decode cX8_likely 117 = .ok (.if_icmp .ge 155, 3) := by decide +kernel
theorem dX8_likely_120 : decode cX8_likely 120 = .ok (.iconst 0, 1) := by decide +kernel
theorem dX8_likely_121 : decode cX8_likely 121 = .ok (.istore 7, 2) := by decide +kernel
theorem dX8_likely_123 : decode cX8_likely 123 = .ok (.iload 7, 2) := by decide +kernel
theorem dX8_likely_125 : decode cX8_likely 125 = .ok (.aload_n 0, 1) := by decide +kernel
theorem dX8_likely_126 : decode cX8_likely 126 = .ok (.getfield 251, 3) := by decide +kernel
theorem dX8_likely_129 : decode cX8_likely 129 = .ok (.if_icmp .ge 17, 3) := by decide +kernel
theorem dX8_likely_132 : decode cX8_likely 132 = .ok (.aload_n 0, 1) := by decide +kernel
theorem dX8_likely_133 : decode cX8_likely 133 = .ok (.getfield 92, 3) := by decide +kernel
theorem dX8_likely_136 : decode cX8_likely 136 = .ok (.iload 7, 2) := by decide +kernel
theorem dX8_likely_138 : decode cX8_likely 138 = .ok (.lconst 0, 1) := by decide +kernel
theorem dX8_likely_139 : decode cX8_likely 139 = .ok (.lastore, 1) := by decide +kernel
theorem dX8_likely_140 : decode cX8_likely 140 = .ok (.iinc 7 1, 3) := by decide +kernel
theorem dX8_likely_143 : decode cX8_likely 143 = .ok (.goto (-20), 3) := by decide +kernel
theorem dX8_likely_146 : decode cX8_likely 146 = .ok (.iconst 0, 1) := by decide +kernel
theorem dX8_likely_147 : decode cX8_likely 147 = .ok (.istore 7, 2) := by decide +kernel
theorem dX8_likely_149 : decode cX8_likely 149 = .ok (.iload 7, 2) := by decide +kernel
theorem dX8_likely_151 : decode cX8_likely 151 = .ok (.aload_n 0, 1) := by decide +kernel
theorem dX8_likely_152 : decode cX8_likely 152 = .ok (.getfield 251, 3) := by decide +kernel
theorem dX8_likely_155 : decode cX8_likely 155 = .ok (.if_icmp .ge 71, 3) := by decide +kernel
theorem dX8_likely_158 : decode cX8_likely 158 = .ok (.iconst 0, 1) := by decide +kernel
theorem dX8_likely_159 : decode cX8_likely 159 = .ok (.istore 8, 2) := by decide +kernel
theorem dX8_likely_161 : decode cX8_likely 161 = .ok (.iload 8, 2) := by decide +kernel
theorem dX8_likely_163 : decode cX8_likely 163 = .ok (.iconst 4, 1) := by decide +kernel
theorem dX8_likely_164 : decode cX8_likely 164 = .ok (.if_icmp .ge 56, 3) := by decide +kernel
theorem dX8_likely_167 : decode cX8_likely 167 = .ok (.aload_n 0, 1) := by decide +kernel
theorem dX8_likely_168 : decode cX8_likely 168 = .ok (.getfield 92, 3) := by decide +kernel
theorem dX8_likely_171 : decode cX8_likely 171 = .ok (.aload_n 0, 1) := by decide +kernel
theorem dX8_likely_172 : decode cX8_likely 172 = .ok (.getfield 72, 3) := by decide +kernel
theorem dX8_likely_175 : decode cX8_likely 175 = .ok (.iconst 4, 1) := by decide +kernel
theorem dX8_likely_176 : decode cX8_likely 176 = .ok (.iload 7, 2) := by decide +kernel
theorem dX8_likely_178 : decode cX8_likely 178 = .ok (.imul, 1) := by decide +kernel
theorem dX8_likely_179 : decode cX8_likely 179 = .ok (.iload 8, 2) := by decide +kernel
theorem dX8_likely_181 : decode cX8_likely 181 = .ok (.iadd, 1) := by decide +kernel
theorem dX8_likely_182 : decode cX8_likely 182 = .ok (.iaload, 1) := by decide +kernel
theorem dX8_likely_183 : decode cX8_likely 183 = .ok (.ifCond .ge 8, 3) := by decide +kernel
theorem dX8_likely_186 : decode cX8_likely 186 = .ok (.iload 7, 2) := by decide +kernel
theorem dX8_likely_188 : decode cX8_likely 188 = .ok (.goto 15, 3) := by decide +kernel
theorem dX8_likely_191 : decode cX8_likely 191 = .ok (.aload_n 0, 1) := by decide +kernel
theorem dX8_likely_192 : decode cX8_likely 192 = .ok (.getfield 72, 3) := by decide +kernel
theorem dX8_likely_195 : decode cX8_likely 195 = .ok (.iconst 4, 1) := by decide +kernel
theorem dX8_likely_196 : decode cX8_likely 196 = .ok (.iload 7, 2) := by decide +kernel
theorem dX8_likely_198 : decode cX8_likely 198 = .ok (.imul, 1) := by decide +kernel
theorem dX8_likely_199 : decode cX8_likely 199 = .ok (.iload 8, 2) := by decide +kernel
theorem dX8_likely_201 : decode cX8_likely 201 = .ok (.iadd, 1) := by decide +kernel
theorem dX8_likely_202 : decode cX8_likely 202 = .ok (.iaload, 1) := by decide +kernel
theorem dX8_likely_203 : decode cX8_likely 203 = .ok (.dup2, 1) := by decide +kernel
theorem dX8_likely_204 : decode cX8_likely 204 = .ok (.laload, 1) := by decide +kernel
theorem dX8_likely_205 : decode cX8_likely 205 = .ok (.aload_n 0, 1) := by decide +kernel
theorem dX8_likely_206 : decode cX8_likely 206 = .ok (.getfield 88, 3) := by decide +kernel
theorem dX8_likely_209 : decode cX8_likely 209 = .ok (.iload 7, 2) := by decide +kernel
theorem dX8_likely_211 : decode cX8_likely 211 = .ok (.laload, 1) := by decide +kernel
theorem dX8_likely_212 : decode cX8_likely 212 = .ok (.ladd, 1) := by decide +kernel
theorem dX8_likely_213 : decode cX8_likely 213 = .ok (.lastore, 1) := by decide +kernel
theorem dX8_likely_214 : decode cX8_likely 214 = .ok (.iinc 8 1, 3) := by decide +kernel
theorem dX8_likely_217 : decode cX8_likely 217 = .ok (.goto (-56), 3) := by decide +kernel
theorem dX8_likely_220 : decode cX8_likely 220 = .ok (.iinc 7 1, 3) := by decide +kernel
theorem dX8_likely_223 : decode cX8_likely 223 = .ok (.goto (-74), 3) := by decide +kernel
theorem dX8_likely_226 : decode cX8_likely 226 = .ok (.iconst 0, 1) := by decide +kernel
theorem dX8_likely_227 : decode cX8_likely 227 = .ok (.istore 7, 2) := by decide +kernel
theorem dX8_likely_229 : decode cX8_likely 229 = .ok (.iload 7, 2) := by decide +kernel
theorem dX8_likely_231 : decode cX8_likely 231 = .ok (.aload_n 0, 1) := by decide +kernel
theorem dX8_likely_232 : decode cX8_likely 232 = .ok (.getfield 251, 3) := by decide +kernel
theorem dX8_likely_235 : decode cX8_likely 235 = .ok (.if_icmp .ge 23, 3) := by decide +kernel
theorem dX8_likely_238 : decode cX8_likely 238 = .ok (.aload_n 0, 1) := by decide +kernel
theorem dX8_likely_239 : decode cX8_likely 239 = .ok (.getfield 88, 3) := by decide +kernel
theorem dX8_likely_242 : decode cX8_likely 242 = .ok (.iload 7, 2) := by decide +kernel
theorem dX8_likely_244 : decode cX8_likely 244 = .ok (.aload_n 0, 1) := by decide +kernel
theorem dX8_likely_245 : decode cX8_likely 245 = .ok (.getfield 92, 3) := by decide +kernel
theorem dX8_likely_248 : decode cX8_likely 248 = .ok (.iload 7, 2) := by decide +kernel
theorem dX8_likely_250 : decode cX8_likely 250 = .ok (.laload, 1) := by decide +kernel
theorem dX8_likely_251 : decode cX8_likely 251 = .ok (.lastore, 1) := by decide +kernel
theorem dX8_likely_252 : decode cX8_likely 252 = .ok (.iinc 7 1, 3) := by decide +kernel
theorem dX8_likely_255 : decode cX8_likely 255 = .ok (.goto (-26), 3) := by decide +kernel
theorem dX8_likely_258 : decode cX8_likely 258 = .ok (.lload 4, 2) := by decide +kernel
theorem dX8_likely_260 : decode cX8_likely 260 = .ok (.ldc2_w 310, 3) := by decide +kernel
theorem dX8_likely_263 : decode cX8_likely 263 = .ok (.lmul, 1) := by decide +kernel
theorem dX8_likely_264 : decode cX8_likely 264 = .ok (.lstore 4, 2) := by decide +kernel
theorem dX8_likely_266 : decode cX8_likely 266 = .ok (.iinc 6 1, 3) := by decide +kernel
theorem dX8_likely_269 : decode cX8_likely 269 = .ok (.goto (-155), 3) := by decide +kernel
theorem dX8_likely_272 : decode cX8_likely 272 = .ok (.lconst 0, 1) := by decide +kernel
theorem dX8_likely_273 : decode cX8_likely 273 = .ok (.lstore 6, 2) := by decide +kernel
theorem dX8_likely_275 : decode cX8_likely 275 = .ok (.iconst 0, 1) := by decide +kernel
theorem dX8_likely_276 : decode cX8_likely 276 = .ok (.istore 8, 2) := by decide +kernel
theorem dX8_likely_278 : decode cX8_likely 278 = .ok (.iload 8, 2) := by decide +kernel
theorem dX8_likely_280 : decode cX8_likely 280 = .ok (.aload_n 0, 1) := by decide +kernel
theorem dX8_likely_281 : decode cX8_likely 281 = .ok (.getfield 251, 3) := by decide +kernel
theorem dX8_likely_284 : decode cX8_likely 284 = .ok (.if_icmp .ge 36, 3) := by decide +kernel
theorem dX8_likely_287 : decode cX8_likely 287 = .ok (.lload 6, 2) := by decide +kernel
theorem dX8_likely_289 : decode cX8_likely 289 = .ok (.aload_n 0, 1) := by decide +kernel
theorem dX8_likely_290 : decode cX8_likely 290 = .ok (.getfield 63, 3) := by decide +kernel
theorem dX8_likely_293 : decode cX8_likely 293 = .ok (.iload 8, 2) := by decide +kernel
theorem dX8_likely_295 : decode cX8_likely 295 = .ok (.iaload, 1) := by decide +kernel
theorem dX8_likely_296 : decode cX8_likely 296 = .ok (.iload_n 2, 1) := by decide +kernel
theorem dX8_likely_297 : decode cX8_likely 297 = .ok (.if_icmp .ne 13, 3) := by decide +kernel
theorem dX8_likely_300 : decode cX8_likely 300 = .ok (.aload_n 0, 1) := by decide +kernel
theorem dX8_likely_301 : decode cX8_likely 301 = .ok (.getfield 88, 3) := by decide +kernel
theorem dX8_likely_304 : decode cX8_likely 304 = .ok (.iload 8, 2) := by decide +kernel
theorem dX8_likely_306 : decode cX8_likely 306 = .ok (.laload, 1) := by decide +kernel
theorem dX8_likely_307 : decode cX8_likely 307 = .ok (.goto 4, 3) := by decide +kernel
theorem dX8_likely_310 : decode cX8_likely 310 = .ok (.lconst 0, 1) := by decide +kernel
theorem dX8_likely_311 : decode cX8_likely 311 = .ok (.ladd, 1) := by decide +kernel
theorem dX8_likely_312 : decode cX8_likely 312 = .ok (.lstore 6, 2) := by decide +kernel
theorem dX8_likely_314 : decode cX8_likely 314 = .ok (.iinc 8 1, 3) := by decide +kernel
theorem dX8_likely_317 : decode cX8_likely 317 = .ok (.goto (-39), 3) := by decide +kernel
theorem dX8_likely_320 : decode cX8_likely 320 = .ok (.lload 6, 2) := by decide +kernel
theorem dX8_likely_322 : decode cX8_likely 322 = .ok (.lstore 8, 2) := by decide +kernel
theorem dX8_likely_324 : decode cX8_likely 324 = .ok (.lload 4, 2) := by decide +kernel
theorem dX8_likely_326 : decode cX8_likely 326 = .ok (.lstore 10, 2) := by decide +kernel
theorem dX8_likely_328 : decode cX8_likely 328 = .ok (.lload 10, 2) := by decide +kernel
theorem dX8_likely_330 : decode cX8_likely 330 = .ok (.lconst 0, 1) := by decide +kernel
theorem dX8_likely_331 : decode cX8_likely 331 = .ok (.lcmp, 1) := by decide +kernel
theorem dX8_likely_332 : decode cX8_likely 332 = .ok (.ifCond .eq 21, 3) := by decide +kernel
theorem dX8_likely_335 : decode cX8_likely 335 = .ok (.lload 8, 2) := by decide +kernel
theorem dX8_likely_337 : decode cX8_likely 337 = .ok (.lload 10, 2) := by decide +kernel
theorem dX8_likely_339 : decode cX8_likely 339 = .ok (.lrem, 1) := by decide +kernel
theorem dX8_likely_340 : decode cX8_likely 340 = .ok (.lstore 12, 2) := by decide +kernel
theorem dX8_likely_342 : decode cX8_likely 342 = .ok (.lload 10, 2) := by decide +kernel
theorem dX8_likely_344 : decode cX8_likely 344 = .ok (.lstore 8, 2) := by decide +kernel
theorem dX8_likely_346 : decode cX8_likely 346 = .ok (.lload 12, 2) := by decide +kernel
theorem dX8_likely_348 : decode cX8_likely 348 = .ok (.lstore 10, 2) := by decide +kernel
theorem dX8_likely_350 : decode cX8_likely 350 = .ok (.goto (-22), 3) := by decide +kernel
theorem dX8_likely_353 : decode cX8_likely 353 = .ok (.iload_n 3, 1) := by decide +kernel
theorem dX8_likely_354 : decode cX8_likely 354 = .ok (.ifCond .ne 11, 3) := by decide +kernel
theorem dX8_likely_357 : decode cX8_likely 357 = .ok (.lload 6, 2) := by decide +kernel
theorem dX8_likely_359 : decode cX8_likely 359 = .ok (.lload 8, 2) := by decide +kernel
theorem dX8_likely_361 : decode cX8_likely 361 = .ok (.ldiv, 1) := by decide +kernel
theorem dX8_likely_362 : decode cX8_likely 362 = .ok (.goto 8, 3) := by decide +kernel
theorem dX8_likely_365 : decode cX8_likely 365 = .ok (.lload 4, 2) := by decide +kernel
theorem dX8_likely_367 : decode cX8_likely 367 = .ok (.lload 8, 2) := by decide +kernel
theorem dX8_likely_369 : decode cX8_likely 369 = .ok (.ldiv, 1) := by decide +kernel
theorem dX8_likely_370 : decode cX8_likely 370 = .ok (.lreturn, 1) := by decide +kernel
theorem dX8_lots_0 : decode cX8_lots 0 = .ok (.iload_n 1, 1) := by decide +kernel
theorem dX8_lots_1 : decode cX8_lots 1 = .ok (.iconst 1, 1) := by decide +kernel
theorem dX8_lots_2 : decode cX8_lots 2 = .ok (.if_icmp .ge 10, 3) := by decide +kernel
theorem dX8_lots_5 : decode cX8_lots 5 = .ok (.aload_n 0, 1) := by decide +kernel
theorem dX8_lots_6 : decode cX8_lots 6 = .ok (.bipush (-4), 2) := by decide +kernel
theorem dX8_lots_8 : decode cX8_lots 8 = .ok (.invokevirtual 13, 3) := by decide +kernel
theorem dX8_lots_11 : decode cX8_lots 11 = .ok (.ireturn, 1) := by decide +kernel
theorem dX8_lots_12 : decode cX8_lots 12 = .ok (.iload_n 1, 1) := by decide +kernel
theorem dX8_lots_13 : decode cX8_lots 13 = .ok (.bipush 50, 2) := by decide +kernel
theorem dX8_lots_15 : decode cX8_lots 15 = .ok (.if_icmp .le 10, 3) := by decide +kernel
theorem dX8_lots_18 : decode cX8_lots 18 = .ok (.aload_n 0, 1) := by decide +kernel
theorem dX8_lots_19 : decode cX8_lots 19 = .ok (.bipush (-6), 2) := by decide +kernel
theorem dX8_lots_21 : decode cX8_lots 21 = .ok (.invokevirtual 13, 3) := by decide +kernel
theorem dX8_lots_24 : decode cX8_lots 24 = .ok (.ireturn, 1) := by decide +kernel
theorem dX8_lots_25 : decode cX8_lots 25 = .ok (.iload_n 3, 1) := by decide +kernel
theorem dX8_lots_26 : decode cX8_lots 26 = .ok (.i2l, 1) := by decide +kernel
theorem dX8_lots_27 : decode cX8_lots 27 = .ok (.lconst 0, 1) := by decide +kernel
theorem dX8_lots_28 : decode cX8_lots 28 = .ok (.lconst 1, 1) := by decide +kernel
theorem dX8_lots_29 : decode cX8_lots 29 = .ok (.invokestatic 129, 3) := by decide +kernel
theorem dX8_lots_32 : decode cX8_lots 32 = .ok (.ifCond .ne 10, 3) := by decide +kernel
theorem dX8_lots_35 : decode cX8_lots 35 = .ok (.aload_n 0, 1) := by decide +kernel
theorem dX8_lots_36 : decode cX8_lots 36 = .ok (.bipush (-2), 2) := by decide +kernel
theorem dX8_lots_38 : decode cX8_lots 38 = .ok (.invokevirtual 13, 3) := by decide +kernel
theorem dX8_lots_41 : decode cX8_lots 41 = .ok (.ireturn, 1) := by decide +kernel
theorem dX8_lots_42 : decode cX8_lots 42 = .ok (.aload_n 0, 1) := by decide +kernel
theorem dX8_lots_43 : decode cX8_lots 43 = .ok (.getfield 38, 3) := by decide +kernel
theorem dX8_lots_46 : decode cX8_lots 46 = .ok (.ifCond .ne 10, 3) := by decide +kernel
theorem dX8_lots_49 : decode cX8_lots 49 = .ok (.aload_n 0, 1) := by decide +kernel
theorem dX8_lots_50 : decode cX8_lots 50 = .ok (.bipush (-3), 2) := by decide +kernel
theorem dX8_lots_52 : decode cX8_lots 52 = .ok (.invokevirtual 13, 3) := by decide +kernel
theorem dX8_lots_55 : decode cX8_lots 55 = .ok (.ireturn, 1) := by decide +kernel
theorem dX8_lots_56 : decode cX8_lots 56 = .ok (.aload_n 0, 1) := by decide +kernel
theorem dX8_lots_57 : decode cX8_lots 57 = .ok (.invokevirtual 227, 3) := by decide +kernel
theorem dX8_lots_60 : decode cX8_lots 60 = .ok (.iload_n 2, 1) := by decide +kernel
theorem dX8_lots_61 : decode cX8_lots 61 = .ok (.istore 4, 2) := by decide +kernel
theorem dX8_lots_63 : decode cX8_lots 63 = .ok (.iconst 0, 1) := by decide +kernel
theorem dX8_lots_64 : decode cX8_lots 64 = .ok (.istore 5, 2) := by decide +kernel
theorem dX8_lots_66 : decode cX8_lots 66 = .ok (.iconst 0, 1) := by decide +kernel
theorem dX8_lots_67 : decode cX8_lots 67 = .ok (.istore 6, 2) := by decide +kernel
theorem dX8_lots_69 : decode cX8_lots 69 = .ok (.iload 6, 2) := by decide +kernel
theorem dX8_lots_71 : decode cX8_lots 71 = .ok (.iload_n 1, 1) := by decide +kernel
theorem dX8_lots_72 : decode cX8_lots 72 = .ok (.if_icmp .ge 50, 3) := by decide +kernel
theorem dX8_lots_75 : decode cX8_lots 75 = .ok (.iload 4, 2) := by decide +kernel
theorem dX8_lots_77 : decode cX8_lots 77 = .ok (.ldc_w 312, 3) := by decide +kernel
theorem dX8_lots_80 : decode cX8_lots 80 = .ok (.imul, 1) := by decide +kernel
theorem dX8_lots_81 : decode cX8_lots 81 = .ok (.ldc_w 313, 3) := by decide +kernel
theorem dX8_lots_84 : decode cX8_lots 84 = .ok (.iadd, 1) := by decide +kernel
theorem dX8_lots_85 : decode cX8_lots 85 = .ok (.istore 4, 2) := by decide +kernel
theorem dX8_lots_87 : decode cX8_lots 87 = .ok (.iload 5, 2) := by decide +kernel
theorem dX8_lots_89 : decode cX8_lots 89 = .ok (.aload_n 0, 1) := by decide +kernel
theorem dX8_lots_90 : decode cX8_lots 90 = .ok (.iload 4, 2) := by decide +kernel
theorem dX8_lots_92 : decode cX8_lots 92 = .ok (.ldc_w 314, 3) := by decide +kernel
theorem dX8_lots_95 : decode cX8_lots 95 = .ok (.iand, 1) := by decide +kernel
theorem dX8_lots_96 : decode cX8_lots 96 = .ok (.sipush 256, 3) := by decide +kernel
theorem dX8_lots_99 : decode cX8_lots 99 = .ok (.idiv, 1) := by decide +kernel
theorem dX8_lots_100 : decode cX8_lots 100 = .ok (.iconst 4, 1) := by decide +kernel
theorem dX8_lots_101 : decode cX8_lots 101 = .ok (.irem, 1) := by decide +kernel
theorem dX8_lots_102 : decode cX8_lots 102 = .ok (.invokevirtual 230, 3) := by decide +kernel
theorem dX8_lots_105 : decode cX8_lots 105 = .ok (.ifCond .eq 7, 3) := by decide +kernel
theorem dX8_lots_108 : decode cX8_lots 108 = .ok (.iconst 1, 1) := by decide +kernel
theorem dX8_lots_109 : decode cX8_lots 109 = .ok (.goto 4, 3) := by decide +kernel
theorem dX8_lots_112 : decode cX8_lots 112 = .ok (.iconst 0, 1) := by decide +kernel
theorem dX8_lots_113 : decode cX8_lots 113 = .ok (.iadd, 1) := by decide +kernel
theorem dX8_lots_114 : decode cX8_lots 114 = .ok (.istore 5, 2) := by decide +kernel
theorem dX8_lots_116 : decode cX8_lots 116 = .ok (.iinc 6 1, 3) := by decide +kernel
theorem dX8_lots_119 : decode cX8_lots 119 = .ok (.goto (-50), 3) := by decide +kernel
theorem dX8_lots_122 : decode cX8_lots 122 = .ok (.aload_n 0, 1) := by decide +kernel
theorem dX8_lots_123 : decode cX8_lots 123 = .ok (.getfield 147, 3) := by decide +kernel
theorem dX8_lots_126 : decode cX8_lots 126 = .ok (.istore 6, 2) := by decide +kernel
theorem dX8_lots_128 : decode cX8_lots 128 = .ok (.aload_n 0, 1) := by decide +kernel
theorem dX8_lots_129 : decode cX8_lots 129 = .ok (.invokevirtual 242, 3) := by decide +kernel
theorem dX8_lots_132 : decode cX8_lots 132 = .ok (.iload_n 3, 1) := by decide +kernel
theorem dX8_lots_133 : decode cX8_lots 133 = .ok (.ifCond .ne 8, 3) := by decide +kernel
theorem dX8_lots_136 : decode cX8_lots 136 = .ok (.iload 5, 2) := by decide +kernel
theorem dX8_lots_138 : decode cX8_lots 138 = .ok (.goto 5, 3) := by decide +kernel
theorem dX8_lots_141 : decode cX8_lots 141 = .ok (.iload 6, 2) := by decide +kernel
theorem dX8_lots_143 : decode cX8_lots 143 = .ok (.ireturn, 1) := by decide +kernel
theorem dX8_isList_0 : decode cX8_isList 0 = .ok (.iload_n 0, 1) := by decide +kernel
theorem dX8_isList_1 : decode cX8_isList 1 = .ok (.i2l, 1) := by decide +kernel
theorem dX8_isList_2 : decode cX8_isList 2 = .ok (.lconst 0, 1) := by decide +kernel
theorem dX8_isList_3 : decode cX8_isList 3 = .ok (.ldc2_w 204, 3) := by decide +kernel
theorem dX8_isList_6 : decode cX8_isList 6 = .ok (.invokestatic 129, 3) := by decide +kernel
theorem dX8_isList_9 : decode cX8_isList 9 = .ok (.ireturn, 1) := by decide +kernel
theorem dX8_list_0 : decode cX8_list 0 = .ok (.iload_n 1, 1) := by decide +kernel
theorem dX8_list_1 : decode cX8_list 1 = .ok (.invokestatic 315, 3) := by decide +kernel
theorem dX8_list_4 : decode cX8_list 4 = .ok (.ifCond .ne 9, 3) := by decide +kernel
theorem dX8_list_7 : decode cX8_list 7 = .ok (.aload_n 0, 1) := by decide +kernel
theorem dX8_list_8 : decode cX8_list 8 = .ok (.iconst (-1), 1) := by decide +kernel
theorem dX8_list_9 : decode cX8_list 9 = .ok (.invokevirtual 13, 3) := by decide +kernel
theorem dX8_list_12 : decode cX8_list 12 = .ok (.ireturn, 1) := by decide +kernel
theorem dX8_list_13 : decode cX8_list 13 = .ok (.iload_n 2, 1) := by decide +kernel
theorem dX8_list_14 : decode cX8_list 14 = .ok (.bipush 40, 2) := by decide +kernel
theorem dX8_list_16 : decode cX8_list 16 = .ok (.if_icmp .le 10, 3) := by decide +kernel
theorem dX8_list_19 : decode cX8_list 19 = .ok (.aload_n 0, 1) := by decide +kernel
theorem dX8_list_20 : decode cX8_list 20 = .ok (.bipush (-6), 2) := by decide +kernel
theorem dX8_list_22 : decode cX8_list 22 = .ok (.invokevirtual 13, 3) := by decide +kernel
theorem dX8_list_25 : decode cX8_list 25 = .ok (.ireturn, 1) := by decide +kernel
theorem dX8_list_26 : decode cX8_list 26 = .ok (.iload_n 2, 1) := by decide +kernel
theorem dX8_list_27 : decode cX8_list 27 = .ok (.ifCond .ge 6, 3) := by decide +kernel
theorem dX8_list_30 : decode cX8_list 30 = .ok (.bipush (-14), 2) := by decide +kernel
theorem dX8_list_32 : decode cX8_list 32 = .ok (.ireturn, 1) := by decide +kernel
theorem dX8_list_33 : decode cX8_list 33 = .ok (.aload_n 0, 1) := by decide +kernel
theorem dX8_list_34 : decode cX8_list 34 = .ok (.getfield 95, 3) := by decide +kernel
theorem dX8_list_37 : decode cX8_list 37 = .ok (.iload_n 1, 1) := by decide +kernel
theorem dX8_list_38 : decode cX8_list 38 = .ok (.iload_n 2, 1) := by decide +kernel
theorem dX8_list_39 : decode cX8_list 39 = .ok (.iastore, 1) := by decide +kernel
theorem dX8_list_40 : decode cX8_list 40 = .ok (.iconst 0, 1) := by decide +kernel
theorem dX8_list_41 : decode cX8_list 41 = .ok (.istore_n 3, 1) := by decide +kernel
theorem dX8_list_42 : decode cX8_list 42 = .ok (.iload_n 3, 1) := by decide +kernel
theorem dX8_list_43 : decode cX8_list 43 = .ok (.bipush 40, 2) := by decide +kernel
theorem dX8_list_45 : decode cX8_list 45 = .ok (.if_icmp .ge 21, 3) := by decide +kernel
theorem dX8_list_48 : decode cX8_list 48 = .ok (.aload_n 0, 1) := by decide +kernel
theorem dX8_list_49 : decode cX8_list 49 = .ok (.getfield 98, 3) := by decide +kernel
theorem dX8_list_52 : decode cX8_list 52 = .ok (.bipush 40, 2) := by decide +kernel
theorem dX8_list_54 : decode cX8_list 54 = .ok (.iload_n 1, 1) := by decide +kernel
theorem dX8_list_55 : decode cX8_list 55 = .ok (.imul, 1) := by decide +kernel
theorem dX8_list_56 : decode cX8_list 56 = .ok (.iload_n 3, 1) := by decide +kernel
theorem dX8_list_57 : decode cX8_list 57 = .ok (.iadd, 1) := by decide +kernel
theorem dX8_list_58 : decode cX8_list 58 = .ok (.iconst 0, 1) := by decide +kernel
theorem dX8_list_59 : decode cX8_list 59 = .ok (.iastore, 1) := by decide +kernel
theorem dX8_list_60 : decode cX8_list 60 = .ok (.iinc 3 1, 3) := by decide +kernel
theorem dX8_list_63 : decode cX8_list 63 = .ok (.goto (-21), 3) := by decide +kernel
theorem dX8_list_66 : decode cX8_list 66 = .ok (.iconst 1, 1) := by decide +kernel
theorem dX8_list_67 : decode cX8_list 67 = .ok (.ireturn, 1) := by decide +kernel
theorem dX8_put_0 : decode cX8_put 0 = .ok (.iload_n 1, 1) := by decide +kernel
theorem dX8_put_1 : decode cX8_put 1 = .ok (.invokestatic 315, 3) := by decide +kernel
theorem dX8_put_4 : decode cX8_put 4 = .ok (.ifCond .ne 9, 3) := by decide +kernel
theorem dX8_put_7 : decode cX8_put 7 = .ok (.aload_n 0, 1) := by decide +kernel
theorem dX8_put_8 : decode cX8_put 8 = .ok (.iconst (-1), 1) := by decide +kernel
theorem dX8_put_9 : decode cX8_put 9 = .ok (.invokevirtual 13, 3) := by decide +kernel
theorem dX8_put_12 : decode cX8_put 12 = .ok (.ireturn, 1) := by decide +kernel
theorem dX8_put_13 : decode cX8_put 13 = .ok (.aload_n 0, 1) := by decide +kernel
theorem dX8_put_14 : decode cX8_put 14 = .ok (.getfield 95, 3) := by decide +kernel
theorem dX8_put_17 : decode cX8_put 17 = .ok (.iload_n 1, 1) := by decide +kernel
theorem dX8_put_18 : decode cX8_put 18 = .ok (.iaload, 1) := by decide +kernel
theorem dX8_put_19 : decode cX8_put 19 = .ok (.ifCond .ge 6, 3) := by decide +kernel
theorem dX8_put_22 : decode cX8_put 22 = .ok (.bipush (-11), 2) := by decide +kernel
theorem dX8_put_24 : decode cX8_put 24 = .ok (.ireturn, 1) := by decide +kernel
theorem dX8_put_25 : decode cX8_put 25 = .ok (.iload_n 2, 1) := by decide +kernel
theorem dX8_put_26 : decode cX8_put 26 = .ok (.i2l, 1) := by decide +kernel
theorem dX8_put_27 : decode cX8_put 27 = .ok (.lconst 0, 1) := by decide +kernel
theorem dX8_put_28 : decode cX8_put 28 = .ok (.aload_n 0, 1) := by decide +kernel
theorem dX8_put_29 : decode cX8_put 29 = .ok (.getfield 95, 3) := by decide +kernel
theorem dX8_put_32 : decode cX8_put 32 = .ok (.iload_n 1, 1) := by decide +kernel
theorem dX8_put_33 : decode cX8_put 33 = .ok (.iaload, 1) := by decide +kernel
theorem dX8_put_34 : decode cX8_put 34 = .ok (.iconst 1, 1) := by decide +kernel
theorem dX8_put_35 : decode cX8_put 35 = .ok (.isub, 1) := by decide +kernel
theorem dX8_put_36 : decode cX8_put 36 = .ok (.i2l, 1) := by decide +kernel
theorem dX8_put_37 : decode cX8_put 37 = .ok (.invokestatic 129, 3) := by decide +kernel
theorem dX8_put_40 : decode cX8_put 40 = .ok (.ifCond .ne 6, 3) := by decide +kernel
theorem dX8_put_43 : decode cX8_put 43 = .ok (.bipush (-13), 2) := by decide +kernel
theorem dX8_put_45 : decode cX8_put 45 = .ok (.ireturn, 1) := by decide +kernel
theorem dX8_put_46 : decode cX8_put 46 = .ok (.aload_n 0, 1) := by decide +kernel
theorem dX8_put_47 : decode cX8_put 47 = .ok (.getfield 98, 3) := by decide +kernel
theorem dX8_put_50 : decode cX8_put 50 = .ok (.bipush 40, 2) := by decide +kernel
theorem dX8_put_52 : decode cX8_put 52 = .ok (.iload_n 1, 1) := by decide +kernel
theorem dX8_put_53 : decode cX8_put 53 = .ok (.imul, 1) := by decide +kernel
theorem dX8_put_54 : decode cX8_put 54 = .ok (.iload_n 2, 1) := by decide +kernel
theorem dX8_put_55 : decode cX8_put 55 = .ok (.iadd, 1) := by decide +kernel
theorem dX8_put_56 : decode cX8_put 56 = .ok (.iload_n 3, 1) := by decide +kernel
theorem dX8_put_57 : decode cX8_put 57 = .ok (.iastore, 1) := by decide +kernel
theorem dX8_put_58 : decode cX8_put 58 = .ok (.iconst 1, 1) := by decide +kernel
theorem dX8_put_59 : decode cX8_put 59 = .ok (.ireturn, 1) := by decide +kernel
theorem dX8_look_0 : decode cX8_look 0 = .ok (.iload_n 1, 1) := by decide +kernel
theorem dX8_look_1 : decode cX8_look 1 = .ok (.invokestatic 315, 3) := by decide +kernel
theorem dX8_look_4 : decode cX8_look 4 = .ok (.ifCond .ne 9, 3) := by decide +kernel
theorem dX8_look_7 : decode cX8_look 7 = .ok (.aload_n 0, 1) := by decide +kernel
theorem dX8_look_8 : decode cX8_look 8 = .ok (.iconst (-1), 1) := by decide +kernel
theorem dX8_look_9 : decode cX8_look 9 = .ok (.invokevirtual 303, 3) := by decide +kernel
theorem dX8_look_12 : decode cX8_look 12 = .ok (.lreturn, 1) := by decide +kernel
theorem dX8_look_13 : decode cX8_look 13 = .ok (.aload_n 0, 1) := by decide +kernel
theorem dX8_look_14 : decode cX8_look 14 = .ok (.getfield 95, 3) := by decide +kernel
theorem dX8_look_17 : decode cX8_look 17 = .ok (.iload_n 1, 1) := by decide +kernel
theorem dX8_look_18 : decode cX8_look 18 = .ok (.iaload, 1) := by decide +kernel
theorem dX8_look_19 : decode cX8_look 19 = .ok (.ifCond .ge 10, 3) := by decide +kernel
theorem dX8_look_22 : decode cX8_look 22 = .ok (.aload_n 0, 1) := by decide +kernel
theorem dX8_look_23 : decode cX8_look 23 = .ok (.bipush (-11), 2) := by decide +kernel
theorem dX8_look_25 : decode cX8_look 25 = .ok (.invokevirtual 303, 3) := by decide +kernel
theorem dX8_look_28 : decode cX8_look 28 = .ok (.lreturn, 1) := by decide +kernel
theorem dX8_look_29 : decode cX8_look 29 = .ok (.iload_n 2, 1) := by decide +kernel
theorem dX8_look_30 : decode cX8_look 30 = .ok (.i2l, 1) := by decide +kernel
theorem dX8_look_31 : decode cX8_look 31 = .ok (.lconst 0, 1) := by decide +kernel
theorem dX8_look_32 : decode cX8_look 32 = .ok (.aload_n 0, 1) := by decide +kernel
theorem dX8_look_33 : decode cX8_look 33 = .ok (.getfield 95, 3) := by decide +kernel
theorem dX8_look_36 : decode cX8_look 36 = .ok (.iload_n 1, 1) := by decide +kernel
theorem dX8_look_37 : decode cX8_look 37 = .ok (.iaload, 1) := by decide +kernel
theorem dX8_look_38 : decode cX8_look 38 = .ok (.iconst 1, 1) := by decide +kernel
theorem dX8_look_39 : decode cX8_look 39 = .ok (.isub, 1) := by decide +kernel
theorem dX8_look_40 : decode cX8_look 40 = .ok (.i2l, 1) := by decide +kernel
theorem dX8_look_41 : decode cX8_look 41 = .ok (.invokestatic 129, 3) := by decide +kernel
theorem dX8_look_44 : decode cX8_look 44 = .ok (.ifCond .eq 18, 3) := by decide +kernel
theorem dX8_look_47 : decode cX8_look 47 = .ok (.aload_n 0, 1) := by decide +kernel
theorem dX8_look_48 : decode cX8_look 48 = .ok (.getfield 98, 3) := by decide +kernel
theorem dX8_look_51 : decode cX8_look 51 = .ok (.bipush 40, 2) := by decide +kernel
theorem dX8_look_53 : decode cX8_look 53 = .ok (.iload_n 1, 1) := by decide +kernel
theorem dX8_look_54 : decode cX8_look 54 = .ok (.imul, 1) := by decide +kernel
theorem dX8_look_55 : decode cX8_look 55 = .ok (.iload_n 2, 1) := by decide +kernel
theorem dX8_look_56 : decode cX8_look 56 = .ok (.iadd, 1) := by decide +kernel
theorem dX8_look_57 : decode cX8_look 57 = .ok (.iaload, 1) := by decide +kernel
theorem dX8_look_58 : decode cX8_look 58 = .ok (.i2l, 1) := by decide +kernel
theorem dX8_look_59 : decode cX8_look 59 = .ok (.goto 9, 3) := by decide +kernel
theorem dX8_look_62 : decode cX8_look 62 = .ok (.aload_n 0, 1) := by decide +kernel
theorem dX8_look_63 : decode cX8_look 63 = .ok (.bipush (-13), 2) := by decide +kernel
theorem dX8_look_65 : decode cX8_look 65 = .ok (.invokevirtual 303, 3) := by decide +kernel
theorem dX8_look_68 : decode cX8_look 68 = .ok (.lreturn, 1) := by decide +kernel
theorem dX8_lays_0 : decode cX8_lays 0 = .ok (.iload_n 1, 1) := by decide +kernel
theorem dX8_lays_1 : decode cX8_lays 1 = .ok (.invokestatic 315, 3) := by decide +kernel
theorem dX8_lays_4 : decode cX8_lays 4 = .ok (.ifCond .ne 9, 3) := by decide +kernel
theorem dX8_lays_7 : decode cX8_lays 7 = .ok (.aload_n 0, 1) := by decide +kernel
theorem dX8_lays_8 : decode cX8_lays 8 = .ok (.iconst (-1), 1) := by decide +kernel
theorem dX8_lays_9 : decode cX8_lays 9 = .ok (.invokevirtual 13, 3) := by decide +kernel
theorem dX8_lays_12 : decode cX8_lays 12 = .ok (.ireturn, 1) := by decide +kernel
theorem dX8_lays_13 : decode cX8_lays 13 = .ok (.aload_n 0, 1) := by decide +kernel
theorem dX8_lays_14 : decode cX8_lays 14 = .ok (.getfield 95, 3) := by decide +kernel
theorem dX8_lays_17 : decode cX8_lays 17 = .ok (.iload_n 1, 1) := by decide +kernel
theorem dX8_lays_18 : decode cX8_lays 18 = .ok (.iaload, 1) := by decide +kernel
theorem dX8_lays_19 : decode cX8_lays 19 = .ok (.ifCond .ge 6, 3) := by decide +kernel
theorem dX8_lays_22 : decode cX8_lays 22 = .ok (.bipush (-11), 2) := by decide +kernel
theorem dX8_lays_24 : decode cX8_lays 24 = .ok (.ireturn, 1) := by decide +kernel
theorem dX8_lays_25 : decode cX8_lays 25 = .ok (.iload_n 2, 1) := by decide +kernel
theorem dX8_lays_26 : decode cX8_lays 26 = .ok (.ifCond .ge 6, 3) := by decide +kernel
theorem dX8_lays_29 : decode cX8_lays 29 = .ok (.bipush (-13), 2) := by decide +kernel
theorem dX8_lays_31 : decode cX8_lays 31 = .ok (.ireturn, 1) := by decide +kernel
theorem dX8_lays_32 : decode cX8_lays 32 = .ok (.iconst 0, 1) := by decide +kernel
theorem dX8_lays_33 : decode cX8_lays 33 = .ok (.istore_n 3, 1) := by decide +kernel
theorem dX8_lays_34 : decode cX8_lays 34 = .ok (.iload_n 3, 1) := by decide +kernel
theorem dX8_lays_35 : decode cX8_lays 35 = .ok (.aload_n 0, 1) := by decide +kernel
theorem dX8_lays_36 : decode cX8_lays 36 = .ok (.invokevirtual 125, 3) := by decide +kernel
theorem dX8_lays_39 : decode cX8_lays 39 = .ok (.if_icmp .ge 43, 3) := by decide +kernel
theorem dX8_lays_42 : decode cX8_lays 42 = .ok (.iload_n 2, 1) := by decide +kernel
theorem dX8_lays_43 : decode cX8_lays 43 = .ok (.aload_n 0, 1) := by decide +kernel
theorem dX8_lays_44 : decode cX8_lays 44 = .ok (.getfield 95, 3) := by decide +kernel
theorem dX8_lays_47 : decode cX8_lays 47 = .ok (.iload_n 1, 1) := by decide +kernel
theorem dX8_lays_48 : decode cX8_lays 48 = .ok (.iaload, 1) := by decide +kernel
theorem dX8_lays_49 : decode cX8_lays 49 = .ok (.iload_n 3, 1) := by decide +kernel
theorem dX8_lays_50 : decode cX8_lays 50 = .ok (.isub, 1) := by decide +kernel
theorem dX8_lays_51 : decode cX8_lays 51 = .ok (.if_icmp .lt 6, 3) := by decide +kernel
theorem dX8_lays_54 : decode cX8_lays 54 = .ok (.bipush (-13), 2) := by decide +kernel
theorem dX8_lays_56 : decode cX8_lays 56 = .ok (.ireturn, 1) := by decide +kernel
theorem dX8_lays_57 : decode cX8_lays 57 = .ok (.aload_n 0, 1) := by decide +kernel
theorem dX8_lays_58 : decode cX8_lays 58 = .ok (.getfield 98, 3) := by decide +kernel
theorem dX8_lays_61 : decode cX8_lays 61 = .ok (.bipush 40, 2) := by decide +kernel
theorem dX8_lays_63 : decode cX8_lays 63 = .ok (.iload_n 1, 1) := by decide +kernel
theorem dX8_lays_64 : decode cX8_lays 64 = .ok (.imul, 1) := by decide +kernel
theorem dX8_lays_65 : decode cX8_lays 65 = .ok (.iload_n 2, 1) := by decide +kernel
theorem dX8_lays_66 : decode cX8_lays 66 = .ok (.iadd, 1) := by decide +kernel
theorem dX8_lays_67 : decode cX8_lays 67 = .ok (.iload_n 3, 1) := by decide +kernel
theorem dX8_lays_68 : decode cX8_lays 68 = .ok (.iadd, 1) := by decide +kernel
theorem dX8_lays_69 : decode cX8_lays 69 = .ok (.aload_n 0, 1) := by decide +kernel
theorem dX8_lays_70 : decode cX8_lays 70 = .ok (.getfield 32, 3) := by decide +kernel
theorem dX8_lays_73 : decode cX8_lays 73 = .ok (.iload_n 3, 1) := by decide +kernel
theorem dX8_lays_74 : decode cX8_lays 74 = .ok (.iaload, 1) := by decide +kernel
theorem dX8_lays_75 : decode cX8_lays 75 = .ok (.iastore, 1) := by decide +kernel
theorem dX8_lays_76 : decode cX8_lays 76 = .ok (.iinc 3 1, 3) := by decide +kernel
theorem dX8_lays_79 : decode cX8_lays 79 = .ok (.goto (-45), 3) := by decide +kernel
theorem dX8_lays_82 : decode cX8_lays 82 = .ok (.aload_n 0, 1) := by decide +kernel
theorem dX8_lays_83 : decode cX8_lays 83 = .ok (.invokevirtual 125, 3) := by decide +kernel
theorem dX8_lays_86 : decode cX8_lays 86 = .ok (.ireturn, 1) := by decide +kernel
theorem dX8_tells_0 : decode cX8_tells 0 = .ok (.iload_n 1, 1) := by decide +kernel
theorem dX8_tells_1 : decode cX8_tells 1 = .ok (.invokestatic 315, 3) := by decide +kernel
theorem dX8_tells_4 : decode cX8_tells 4 = .ok (.ifCond .ne 9, 3) := by decide +kernel
theorem dX8_tells_7 : decode cX8_tells 7 = .ok (.aload_n 0, 1) := by decide +kernel
theorem dX8_tells_8 : decode cX8_tells 8 = .ok (.iconst (-1), 1) := by decide +kernel
theorem dX8_tells_9 : decode cX8_tells 9 = .ok (.invokevirtual 13, 3) := by decide +kernel
theorem dX8_tells_12 : decode cX8_tells 12 = .ok (.ireturn, 1) := by decide +kernel
theorem dX8_tells_13 : decode cX8_tells 13 = .ok (.aload_n 0, 1) := by decide +kernel
theorem dX8_tells_14 : decode cX8_tells 14 = .ok (.getfield 95, 3) := by decide +kernel
theorem dX8_tells_17 : decode cX8_tells 17 = .ok (.iload_n 1, 1) := by decide +kernel
theorem dX8_tells_18 : decode cX8_tells 18 = .ok (.iaload, 1) := by decide +kernel
theorem dX8_tells_19 : decode cX8_tells 19 = .ok (.ifCond .ge 6, 3) := by decide +kernel
theorem dX8_tells_22 : decode cX8_tells 22 = .ok (.bipush (-11), 2) := by decide +kernel
theorem dX8_tells_24 : decode cX8_tells 24 = .ok (.ireturn, 1) := by decide +kernel
theorem dX8_tells_25 : decode cX8_tells 25 = .ok (.iconst 0, 1) := by decide +kernel
theorem dX8_tells_26 : decode cX8_tells 26 = .ok (.istore_n 2, 1) := by decide +kernel
theorem dX8_tells_27 : decode cX8_tells 27 = .ok (.iload_n 2, 1) := by decide +kernel
theorem dX8_tells_28 : decode cX8_tells 28 = .ok (.aload_n 0, 1) := by decide +kernel
theorem dX8_tells_29 : decode cX8_tells 29 = .ok (.getfield 95, 3) := by decide +kernel
theorem dX8_tells_32 : decode cX8_tells 32 = .ok (.iload_n 1, 1) := by decide +kernel
theorem dX8_tells_33 : decode cX8_tells 33 = .ok (.iaload, 1) := by decide +kernel
theorem dX8_tells_34 : decode cX8_tells 34 = .ok (.if_icmp .ge 39, 3) := by decide +kernel
theorem dX8_tells_37 : decode cX8_tells 37 = .ok (.aload_n 0, 1) := by decide +kernel
theorem dX8_tells_38 : decode cX8_tells 38 = .ok (.iload_n 2, 1) := by decide +kernel
theorem dX8_tells_39 : decode cX8_tells 39 = .ok (.invokevirtual 150, 3) := by decide +kernel
theorem dX8_tells_42 : decode cX8_tells 42 = .ok (.ifCond .eq 23, 3) := by decide +kernel
theorem dX8_tells_45 : decode cX8_tells 45 = .ok (.aload_n 0, 1) := by decide +kernel
theorem dX8_tells_46 : decode cX8_tells 46 = .ok (.getfield 98, 3) := by decide +kernel
theorem dX8_tells_49 : decode cX8_tells 49 = .ok (.bipush 40, 2) := by decide +kernel
theorem dX8_tells_51 : decode cX8_tells 51 = .ok (.iload_n 1, 1) := by decide +kernel
theorem dX8_tells_52 : decode cX8_tells 52 = .ok (.imul, 1) := by decide +kernel
theorem dX8_tells_53 : decode cX8_tells 53 = .ok (.iload_n 2, 1) := by decide +kernel
theorem dX8_tells_54 : decode cX8_tells 54 = .ok (.iadd, 1) := by decide +kernel
theorem dX8_tells_55 : decode cX8_tells 55 = .ok (.iaload, 1) := by decide +kernel
theorem dX8_tells_56 : decode cX8_tells 56 = .ok (.aload_n 0, 1) := by decide +kernel
theorem dX8_tells_57 : decode cX8_tells 57 = .ok (.getfield 32, 3) := by decide +kernel
theorem dX8_tells_60 : decode cX8_tells 60 = .ok (.iload_n 2, 1) := by decide +kernel
theorem dX8_tells_61 : decode cX8_tells 61 = .ok (.iaload, 1) := by decide +kernel
theorem dX8_tells_62 : decode cX8_tells 62 = .ok (.if_icmp .eq 5, 3) := by decide +kernel
theorem dX8_tells_65 : decode cX8_tells 65 = .ok (.iload_n 2, 1) := by decide +kernel
theorem dX8_tells_66 : decode cX8_tells 66 = .ok (.ireturn, 1) := by decide +kernel
theorem dX8_tells_67 : decode cX8_tells 67 = .ok (.iinc 2 1, 3) := by decide +kernel
theorem dX8_tells_70 : decode cX8_tells 70 = .ok (.goto (-43), 3) := by decide +kernel
theorem dX8_tells_73 : decode cX8_tells 73 = .ok (.bipush (-9), 2) := by decide +kernel
theorem dX8_tells_75 : decode cX8_tells 75 = .ok (.ireturn, 1) := by decide +kernel
theorem dX8_isRack_0 : decode cX8_isRack 0 = .ok (.iload_n 0, 1) := by decide +kernel
theorem dX8_isRack_1 : decode cX8_isRack 1 = .ok (.i2l, 1) := by decide +kernel
theorem dX8_isRack_2 : decode cX8_isRack 2 = .ok (.lconst 0, 1) := by decide +kernel
theorem dX8_isRack_3 : decode cX8_isRack 3 = .ok (.ldc2_w 204, 3) := by decide +kernel
theorem dX8_isRack_6 : decode cX8_isRack 6 = .ok (.invokestatic 129, 3) := by decide +kernel
theorem dX8_isRack_9 : decode cX8_isRack 9 = .ok (.ireturn, 1) := by decide +kernel
theorem dX8_rack_0 : decode cX8_rack 0 = .ok (.iload_n 1, 1) := by decide +kernel
theorem dX8_rack_1 : decode cX8_rack 1 = .ok (.invokestatic 318, 3) := by decide +kernel
theorem dX8_rack_4 : decode cX8_rack 4 = .ok (.ifCond .ne 9, 3) := by decide +kernel
theorem dX8_rack_7 : decode cX8_rack 7 = .ok (.aload_n 0, 1) := by decide +kernel
theorem dX8_rack_8 : decode cX8_rack 8 = .ok (.iconst (-1), 1) := by decide +kernel
theorem dX8_rack_9 : decode cX8_rack 9 = .ok (.invokevirtual 13, 3) := by decide +kernel
theorem dX8_rack_12 : decode cX8_rack 12 = .ok (.ireturn, 1) := by decide +kernel
theorem dX8_rack_13 : decode cX8_rack 13 = .ok (.iload_n 2, 1) := by decide +kernel
theorem dX8_rack_14 : decode cX8_rack 14 = .ok (.i2l, 1) := by decide +kernel
theorem dX8_rack_15 : decode cX8_rack 15 = .ok (.lconst 0, 1) := by decide +kernel
theorem dX8_rack_16 : decode cX8_rack 16 = .ok (.ldc2_w 142, 3) := by decide +kernel
theorem dX8_rack_19 : decode cX8_rack 19 = .ok (.invokestatic 129, 3) := by decide +kernel
theorem dX8_rack_22 : decode cX8_rack 22 = .ok (.ifCond .ne 10, 3) := by decide +kernel
theorem dX8_rack_25 : decode cX8_rack 25 = .ok (.aload_n 0, 1) := by decide +kernel
theorem dX8_rack_26 : decode cX8_rack 26 = .ok (.bipush (-2), 2) := by decide +kernel
theorem dX8_rack_28 : decode cX8_rack 28 = .ok (.invokevirtual 13, 3) := by decide +kernel
theorem dX8_rack_31 : decode cX8_rack 31 = .ok (.ireturn, 1) := by decide +kernel
theorem dX8_rack_32 : decode cX8_rack 32 = .ok (.iload_n 3, 1) := by decide +kernel
theorem dX8_rack_33 : decode cX8_rack 33 = .ok (.bipush 9, 2) := by decide +kernel
theorem dX8_rack_35 : decode cX8_rack 35 = .ok (.if_icmp .le 10, 3) := by decide +kernel
theorem dX8_rack_38 : decode cX8_rack 38 = .ok (.aload_n 0, 1) := by decide +kernel
theorem dX8_rack_39 : decode cX8_rack 39 = .ok (.bipush (-6), 2) := by decide +kernel
theorem dX8_rack_41 : decode cX8_rack 41 = .ok (.invokevirtual 13, 3) := by decide +kernel
theorem dX8_rack_44 : decode cX8_rack 44 = .ok (.ireturn, 1) := by decide +kernel
theorem dX8_rack_45 : decode cX8_rack 45 = .ok (.iload_n 3, 1) := by decide +kernel
theorem dX8_rack_46 : decode cX8_rack 46 = .ok (.ifCond .ge 6, 3) := by decide +kernel
theorem dX8_rack_49 : decode cX8_rack 49 = .ok (.bipush (-14), 2) := by decide +kernel
theorem dX8_rack_51 : decode cX8_rack 51 = .ok (.ireturn, 1) := by decide +kernel
theorem dX8_rack_52 : decode cX8_rack 52 = .ok (.aload_n 0, 1) := by decide +kernel
theorem dX8_rack_53 : decode cX8_rack 53 = .ok (.getfield 101, 3) := by decide +kernel
theorem dX8_rack_56 : decode cX8_rack 56 = .ok (.iload_n 1, 1) := by decide +kernel
theorem dX8_rack_57 : decode cX8_rack 57 = .ok (.iload_n 3, 1) := by decide +kernel
theorem dX8_rack_58 : decode cX8_rack 58 = .ok (.iastore, 1) := by decide +kernel
theorem dX8_rack_59 : decode cX8_rack 59 = .ok (.aload_n 0, 1) := by decide +kernel
theorem dX8_rack_60 : decode cX8_rack 60 = .ok (.getfield 104, 3) := by decide +kernel
theorem dX8_rack_63 : decode cX8_rack 63 = .ok (.iload_n 1, 1) := by decide +kernel
theorem dX8_rack_64 : decode cX8_rack 64 = .ok (.iload_n 2, 1) := by decide +kernel
theorem dX8_rack_65 : decode cX8_rack 65 = .ok (.iastore, 1) := by decide +kernel
theorem dX8_rack_66 : decode cX8_rack 66 = .ok (.iconst 0, 1) := by decide +kernel
theorem dX8_rack_67 : decode cX8_rack 67 = .ok (.istore 4, 2) := by decide +kernel
theorem dX8_rack_69 : decode cX8_rack 69 = .ok (.iload 4, 2) := by decide +kernel
theorem dX8_rack_71 : decode cX8_rack 71 = .ok (.bipush 9, 2) := by decide +kernel
theorem dX8_rack_73 : decode cX8_rack 73 = .ok (.if_icmp .ge 22, 3) := by decide +kernel
theorem dX8_rack_76 : decode cX8_rack 76 = .ok (.aload_n 0, 1) := by decide +kernel
theorem dX8_rack_77 : decode cX8_rack 77 = .ok (.getfield 107, 3) := by decide +kernel
theorem dX8_rack_80 : decode cX8_rack 80 = .ok (.bipush 9, 2) := by decide +kernel
theorem dX8_rack_82 : decode cX8_rack 82 = .ok (.iload_n 1, 1) := by decide +kernel
theorem dX8_rack_83 : decode cX8_rack 83 = .ok (.imul, 1) := by decide +kernel
theorem dX8_rack_84 : decode cX8_rack 84 = .ok (.iload 4, 2) := by decide +kernel
theorem dX8_rack_86 : decode cX8_rack 86 = .ok (.iadd, 1) := by decide +kernel
theorem dX8_rack_87 : decode cX8_rack 87 = .ok (.iconst (-1), 1) := by decide +kernel
theorem dX8_rack_88 : decode cX8_rack 88 = .ok (.iastore, 1) := by decide +kernel
theorem dX8_rack_89 : decode cX8_rack 89 = .ok (.iinc 4 1, 3) := by decide +kernel
theorem dX8_rack_92 : decode cX8_rack 92 = .ok (.goto (-23), 3) := by decide +kernel
theorem dX8_rack_95 : decode cX8_rack 95 = .ok (.iconst 1, 1) := by decide +kernel
theorem dX8_rack_96 : decode cX8_rack 96 = .ok (.ireturn, 1) := by decide +kernel
theorem dX8_racks_0 : decode cX8_racks 0 = .ok (.iload_n 1, 1) := by decide +kernel
theorem dX8_racks_1 : decode cX8_racks 1 = .ok (.invokestatic 318, 3) := by decide +kernel
theorem dX8_racks_4 : decode cX8_racks 4 = .ok (.ifCond .ne 9, 3) := by decide +kernel
theorem dX8_racks_7 : decode cX8_racks 7 = .ok (.aload_n 0, 1) := by decide +kernel
theorem dX8_racks_8 : decode cX8_racks 8 = .ok (.iconst (-1), 1) := by decide +kernel
theorem dX8_racks_9 : decode cX8_racks 9 = .ok (.invokevirtual 13, 3) := by decide +kernel
theorem dX8_racks_12 : decode cX8_racks 12 = .ok (.ireturn, 1) := by decide +kernel
theorem dX8_racks_13 : decode cX8_racks 13 = .ok (.iload_n 3, 1) := by decide +kernel
theorem dX8_racks_14 : decode cX8_racks 14 = .ok (.i2l, 1) := by decide +kernel
theorem dX8_racks_15 : decode cX8_racks 15 = .ok (.lconst 0, 1) := by decide +kernel
theorem dX8_racks_16 : decode cX8_racks 16 = .ok (.lconst 1, 1) := by decide +kernel
theorem dX8_racks_17 : decode cX8_racks 17 = .ok (.invokestatic 129, 3) := by decide +kernel
theorem dX8_racks_20 : decode cX8_racks 20 = .ok (.ifCond .ne 10, 3) := by decide +kernel
theorem dX8_racks_23 : decode cX8_racks 23 = .ok (.aload_n 0, 1) := by decide +kernel
theorem dX8_racks_24 : decode cX8_racks 24 = .ok (.bipush (-2), 2) := by decide +kernel
theorem dX8_racks_26 : decode cX8_racks 26 = .ok (.invokevirtual 13, 3) := by decide +kernel
theorem dX8_racks_29 : decode cX8_racks 29 = .ok (.ireturn, 1) := by decide +kernel
theorem dX8_racks_30 : decode cX8_racks 30 = .ok (.iload_n 3, 1) := by decide +kernel
theorem dX8_racks_31 : decode cX8_racks 31 = .ok (.iconst 1, 1) := by decide +kernel
theorem dX8_racks_32 : decode cX8_racks 32 = .ok (.if_icmp .ne 17, 3) := by decide +kernel
theorem dX8_racks_35 : decode cX8_racks 35 = .ok (.aload_n 0, 1) := by decide +kernel
theorem dX8_racks_36 : decode cX8_racks 36 = .ok (.getfield 38, 3) := by decide +kernel
theorem dX8_racks_39 : decode cX8_racks 39 = .ok (.ifCond .ne 10, 3) := by decide +kernel
theorem dX8_racks_42 : decode cX8_racks 42 = .ok (.aload_n 0, 1) := by decide +kernel
theorem dX8_racks_43 : decode cX8_racks 43 = .ok (.bipush (-3), 2) := by decide +kernel
theorem dX8_racks_45 : decode cX8_racks 45 = .ok (.invokevirtual 13, 3) := by decide +kernel
theorem dX8_racks_48 : decode cX8_racks 48 = .ok (.ireturn, 1) := by decide +kernel
theorem dX8_racks_49 : decode cX8_racks 49 = .ok (.aload_n 0, 1) := by decide +kernel
theorem dX8_racks_50 : decode cX8_racks 50 = .ok (.getfield 101, 3) := by decide +kernel
theorem dX8_racks_53 : decode cX8_racks 53 = .ok (.iload_n 1, 1) := by decide +kernel
theorem dX8_racks_54 : decode cX8_racks 54 = .ok (.iaload, 1) := by decide +kernel
theorem dX8_racks_55 : decode cX8_racks 55 = .ok (.ifCond .ge 6, 3) := by decide +kernel
theorem dX8_racks_58 : decode cX8_racks 58 = .ok (.bipush (-11), 2) := by decide +kernel
theorem dX8_racks_60 : decode cX8_racks 60 = .ok (.ireturn, 1) := by decide +kernel
theorem dX8_racks_61 : decode cX8_racks 61 = .ok (.iload_n 2, 1) := by decide +kernel
theorem dX8_racks_62 : decode cX8_racks 62 = .ok (.i2l, 1) := by decide +kernel
theorem dX8_racks_63 : decode cX8_racks 63 = .ok (.lconst 0, 1) := by decide +kernel
theorem dX8_racks_64 : decode cX8_racks 64 = .ok (.aload_n 0, 1) := by decide +kernel
theorem dX8_racks_65 : decode cX8_racks 65 = .ok (.getfield 101, 3) := by decide +kernel
theorem dX8_racks_68 : decode cX8_racks 68 = .ok (.iload_n 1, 1) := by decide +kernel
theorem dX8_racks_69 : decode cX8_racks 69 = .ok (.iaload, 1) := by decide +kernel
theorem dX8_racks_70 : decode cX8_racks 70 = .ok (.iconst 1, 1) := by decide +kernel
theorem dX8_racks_71 : decode cX8_racks 71 = .ok (.isub, 1) := by decide +kernel
theorem dX8_racks_72 : decode cX8_racks 72 = .ok (.i2l, 1) := by decide +kernel
theorem dX8_racks_73 : decode cX8_racks 73 = .ok (.invokestatic 129, 3) := by decide +kernel
theorem dX8_racks_76 : decode cX8_racks 76 = .ok (.ifCond .ne 6, 3) := by decide +kernel
theorem dX8_racks_79 : decode cX8_racks 79 = .ok (.bipush (-13), 2) := by decide +kernel
theorem dX8_racks_81 : decode cX8_racks 81 = .ok (.ireturn, 1) := by decide +kernel
theorem dX8_racks_82 : decode cX8_racks 82 = .ok (.iload_n 3, 1) := by decide +kernel
theorem dX8_racks_83 : decode cX8_racks 83 = .ok (.iconst 1, 1) := by decide +kernel
theorem dX8_racks_84 : decode cX8_racks 84 = .ok (.if_icmp .ne 46, 3) := by decide +kernel
theorem dX8_racks_87 : decode cX8_racks 87 = .ok (.aload_n 0, 1) := by decide +kernel
theorem dX8_racks_88 : decode cX8_racks 88 = .ok (.getfield 133, 3) := by decide +kernel
theorem dX8_racks_91 : decode cX8_racks 91 = .ok (.aload_n 0, 1) := by decide +kernel
theorem dX8_racks_92 : decode cX8_racks 92 = .ok (.getfield 104, 3) := by decide +kernel
theorem dX8_racks_95 : decode cX8_racks 95 = .ok (.iload_n 1, 1) := by decide +kernel
theorem dX8_racks_96 : decode cX8_racks 96 = .ok (.iaload, 1) := by decide +kernel
theorem dX8_racks_97 : decode cX8_racks 97 = .ok (.if_icmp .eq 33, 3) := by decide +kernel
theorem dX8_racks_100 : decode cX8_racks 100 = .ok (.aload_n 0, 1) := by decide +kernel
theorem dX8_racks_101 : decode cX8_racks 101 = .ok (.getfield 104, 3) := by decide +kernel
theorem dX8_racks_104 : decode cX8_racks 104 = .ok (.iload_n 1, 1) := by decide +kernel
theorem dX8_racks_105 : decode cX8_racks 105 = .ok (.iaload, 1) := by decide +kernel
theorem dX8_racks_106 : decode cX8_racks 106 = .ok (.iconst 2, 1) := by decide +kernel
theorem dX8_racks_107 : decode cX8_racks 107 = .ok (.irem, 1) := by decide +kernel
theorem dX8_racks_108 : decode cX8_racks 108 = .ok (.iconst 1, 1) := by decide +kernel
theorem dX8_racks_109 : decode cX8_racks 109 = .ok (.if_icmp .eq 18, 3) := by decide +kernel
theorem dX8_racks_112 : decode cX8_racks 112 = .ok (.aload_n 0, 1) := by decide +kernel
theorem dX8_racks_113 : decode cX8_racks 113 = .ok (.getfield 133, 3) := by decide +kernel
theorem dX8_racks_116 : decode cX8_racks 116 = .ok (.aload_n 0, 1) := by decide +kernel
theorem dX8_racks_117 : decode cX8_racks 117 = .ok (.getfield 104, 3) := by decide +kernel
theorem dX8_racks_120 : decode cX8_racks 120 = .ok (.iload_n 1, 1) := by decide +kernel
theorem dX8_racks_121 : decode cX8_racks 121 = .ok (.iaload, 1) := by decide +kernel
theorem dX8_racks_122 : decode cX8_racks 122 = .ok (.iconst 1, 1) := by decide +kernel
theorem dX8_racks_123 : decode cX8_racks 123 = .ok (.iadd, 1) := by decide +kernel
theorem dX8_racks_124 : decode cX8_racks 124 = .ok (.if_icmp .eq 6, 3) := by decide +kernel
theorem dX8_racks_127 : decode cX8_racks 127 = .ok (.bipush (-16), 2) := by decide +kernel
theorem dX8_racks_129 : decode cX8_racks 129 = .ok (.ireturn, 1) := by decide +kernel
theorem dX8_racks_130 : decode cX8_racks 130 = .ok (.aload_n 0, 1) := by decide +kernel
theorem dX8_racks_131 : decode cX8_racks 131 = .ok (.getfield 107, 3) := by decide +kernel
theorem dX8_racks_134 : decode cX8_racks 134 = .ok (.bipush 9, 2) := by decide +kernel
theorem dX8_racks_136 : decode cX8_racks 136 = .ok (.iload_n 1, 1) := by decide +kernel
theorem dX8_racks_137 : decode cX8_racks 137 = .ok (.imul, 1) := by decide +kernel
theorem dX8_racks_138 : decode cX8_racks 138 = .ok (.iload_n 2, 1) := by decide +kernel
theorem dX8_racks_139 : decode cX8_racks 139 = .ok (.iadd, 1) := by decide +kernel
theorem dX8_racks_140 : decode cX8_racks 140 = .ok (.iload_n 3, 1) := by decide +kernel
theorem dX8_racks_141 : decode cX8_racks 141 = .ok (.iconst 1, 1) := by decide +kernel
theorem dX8_racks_142 : decode cX8_racks 142 = .ok (.if_icmp .ne 10, 3) := by decide +kernel
theorem dX8_racks_145 : decode cX8_racks 145 = .ok (.aload_n 0, 1) := by decide +kernel
theorem dX8_racks_146 : decode cX8_racks 146 = .ok (.getfield 133, 3) := by decide +kernel
theorem dX8_racks_149 : decode cX8_racks 149 = .ok (.goto 4, 3) := by decide +kernel
theorem dX8_racks_152 : decode cX8_racks 152 = .ok (.iconst (-1), 1) := by decide +kernel
theorem dX8_racks_153 : decode cX8_racks 153 = .ok (.iastore, 1) := by decide +kernel
theorem dX8_racks_154 : decode cX8_racks 154 = .ok (.aload_n 0, 1) := by decide +kernel
theorem dX8_racks_155 : decode cX8_racks 155 = .ok (.getfield 110, 3) := by decide +kernel
theorem dX8_racks_158 : decode cX8_racks 158 = .ok (.bipush 9, 2) := by decide +kernel
theorem dX8_racks_160 : decode cX8_racks 160 = .ok (.iload_n 1, 1) := by decide +kernel
theorem dX8_racks_161 : decode cX8_racks 161 = .ok (.imul, 1) := by decide +kernel
theorem dX8_racks_162 : decode cX8_racks 162 = .ok (.iload_n 2, 1) := by decide +kernel
theorem dX8_racks_163 : decode cX8_racks 163 = .ok (.iadd, 1) := by decide +kernel
theorem dX8_racks_164 : decode cX8_racks 164 = .ok (.iload_n 3, 1) := by decide +kernel
theorem dX8_racks_165 : decode cX8_racks 165 = .ok (.iconst 1, 1) := by decide +kernel
theorem dX8_racks_166 : decode cX8_racks 166 = .ok (.if_icmp .ne 10, 3) := by decide +kernel
theorem dX8_racks_169 : decode cX8_racks 169 = .ok (.aload_n 0, 1) := by decide +kernel
theorem dX8_racks_170 : decode cX8_racks 170 = .ok (.invokevirtual 221, 3) := by decide +kernel
theorem dX8_racks_173 : decode cX8_racks 173 = .ok (.goto 4, 3) := by decide +kernel
theorem dX8_racks_176 : decode cX8_racks 176 = .ok (.iconst 0, 1) := by decide +kernel
theorem dX8_racks_177 : decode cX8_racks 177 = .ok (.iastore, 1) := by decide +kernel
theorem dX8_racks_178 : decode cX8_racks 178 = .ok (.iconst 1, 1) := by decide +kernel
theorem dX8_racks_179 : decode cX8_racks 179 = .ok (.ireturn, 1) := by decide +kernel
theorem dX8_racked_0 : decode cX8_racked 0 = .ok (.iload_n 1, 1) := by decide +kernel
theorem dX8_racked_1 : decode cX8_racked 1 = .ok (.invokestatic 318, 3) := by decide +kernel
theorem dX8_racked_4 : decode cX8_racked 4 = .ok (.ifCond .ne 9, 3) := by decide +kernel
theorem dX8_racked_7 : decode cX8_racked 7 = .ok (.aload_n 0, 1) := by decide +kernel
theorem dX8_racked_8 : decode cX8_racked 8 = .ok (.iconst (-1), 1) := by decide +kernel
theorem dX8_racked_9 : decode cX8_racked 9 = .ok (.invokevirtual 13, 3) := by decide +kernel
theorem dX8_racked_12 : decode cX8_racked 12 = .ok (.ireturn, 1) := by decide +kernel
theorem dX8_racked_13 : decode cX8_racked 13 = .ok (.iload_n 3, 1) := by decide +kernel
theorem dX8_racked_14 : decode cX8_racked 14 = .ok (.i2l, 1) := by decide +kernel
theorem dX8_racked_15 : decode cX8_racked 15 = .ok (.lconst 0, 1) := by decide +kernel
theorem dX8_racked_16 : decode cX8_racked 16 = .ok (.lconst 1, 1) := by decide +kernel
theorem dX8_racked_17 : decode cX8_racked 17 = .ok (.invokestatic 129, 3) := by decide +kernel
theorem dX8_racked_20 : decode cX8_racked 20 = .ok (.ifCond .ne 10, 3) := by decide +kernel
theorem dX8_racked_23 : decode cX8_racked 23 = .ok (.aload_n 0, 1) := by decide +kernel
theorem dX8_racked_24 : decode cX8_racked 24 = .ok (.bipush (-2), 2) := by decide +kernel
theorem dX8_racked_26 : decode cX8_racked 26 = .ok (.invokevirtual 13, 3) := by decide +kernel
theorem dX8_racked_29 : decode cX8_racked 29 = .ok (.ireturn, 1) := by decide +kernel
theorem dX8_racked_30 : decode cX8_racked 30 = .ok (.aload_n 0, 1) := by decide +kernel
theorem dX8_racked_31 : decode cX8_racked 31 = .ok (.getfield 101, 3) := by decide +kernel
theorem dX8_racked_34 : decode cX8_racked 34 = .ok (.iload_n 1, 1) := by decide +kernel
theorem dX8_racked_35 : decode cX8_racked 35 = .ok (.iaload, 1) := by decide +kernel
theorem dX8_racked_36 : decode cX8_racked 36 = .ok (.ifCond .ge 6, 3) := by decide +kernel
theorem dX8_racked_39 : decode cX8_racked 39 = .ok (.bipush (-11), 2) := by decide +kernel
theorem dX8_racked_41 : decode cX8_racked 41 = .ok (.ireturn, 1) := by decide +kernel
theorem dX8_racked_42 : decode cX8_racked 42 = .ok (.iload_n 2, 1) := by decide +kernel
theorem dX8_racked_43 : decode cX8_racked 43 = .ok (.i2l, 1) := by decide +kernel
theorem dX8_racked_44 : decode cX8_racked 44 = .ok (.lconst 0, 1) := by decide +kernel
theorem dX8_racked_45 : decode cX8_racked 45 = .ok (.aload_n 0, 1) := by decide +kernel
theorem dX8_racked_46 : decode cX8_racked 46 = .ok (.getfield 101, 3) := by decide +kernel
theorem dX8_racked_49 : decode cX8_racked 49 = .ok (.iload_n 1, 1) := by decide +kernel
theorem dX8_racked_50 : decode cX8_racked 50 = .ok (.iaload, 1) := by decide +kernel
theorem dX8_racked_51 : decode cX8_racked 51 = .ok (.iconst 1, 1) := by decide +kernel
theorem dX8_racked_52 : decode cX8_racked 52 = .ok (.isub, 1) := by decide +kernel
theorem dX8_racked_53 : decode cX8_racked 53 = .ok (.i2l, 1) := by decide +kernel
theorem dX8_racked_54 : decode cX8_racked 54 = .ok (.invokestatic 129, 3) := by decide +kernel
theorem dX8_racked_57 : decode cX8_racked 57 = .ok (.ifCond .ne 6, 3) := by decide +kernel
theorem dX8_racked_60 : decode cX8_racked 60 = .ok (.bipush (-13), 2) := by decide +kernel
theorem dX8_racked_62 : decode cX8_racked 62 = .ok (.ireturn, 1) := by decide +kernel
theorem dX8_racked_63 : decode cX8_racked 63 = .ok (.bipush 9, 2) := by decide +kernel
theorem dX8_racked_65 : decode cX8_racked 65 = .ok (.iload_n 1, 1) := by decide +kernel
theorem dX8_racked_66 : decode cX8_racked 66 = .ok (.imul, 1) := by decide +kernel
theorem dX8_racked_67 : decode cX8_racked 67 = .ok (.iload_n 2, 1) := by decide +kernel
theorem dX8_racked_68 : decode cX8_racked 68 = .ok (.iadd, 1) := by decide +kernel
theorem dX8_racked_69 : decode cX8_racked 69 = .ok (.istore 4, 2) := by decide +kernel
theorem dX8_racked_71 : decode cX8_racked 71 = .ok (.aload_n 0, 1) := by decide +kernel
theorem dX8_racked_72 : decode cX8_racked 72 = .ok (.getfield 107, 3) := by decide +kernel
theorem dX8_racked_75 : decode cX8_racked 75 = .ok (.iload 4, 2) := by decide +kernel
theorem dX8_racked_77 : decode cX8_racked 77 = .ok (.iaload, 1) := by decide +kernel
theorem dX8_racked_78 : decode cX8_racked 78 = .ok (.ifCond .ge 8, 3) := by decide +kernel
theorem dX8_racked_81 : decode cX8_racked 81 = .ok (.bipush (-9), 2) := by decide +kernel
theorem dX8_racked_83 : decode cX8_racked 83 = .ok (.goto 24, 3) := by decide +kernel
theorem dX8_racked_86 : decode cX8_racked 86 = .ok (.iload_n 3, 1) := by decide +kernel
theorem dX8_racked_87 : decode cX8_racked 87 = .ok (.ifCond .ne 13, 3) := by decide +kernel
theorem dX8_racked_90 : decode cX8_racked 90 = .ok (.aload_n 0, 1) := by decide +kernel
theorem dX8_racked_91 : decode cX8_racked 91 = .ok (.getfield 107, 3) := by decide +kernel
theorem dX8_racked_94 : decode cX8_racked 94 = .ok (.iload 4, 2) := by decide +kernel
theorem dX8_racked_96 : decode cX8_racked 96 = .ok (.iaload, 1) := by decide +kernel
theorem dX8_racked_97 : decode cX8_racked 97 = .ok (.goto 10, 3) := by decide +kernel
theorem dX8_racked_100 : decode cX8_racked 100 = .ok (.aload_n 0, 1) := by decide +kernel
theorem dX8_racked_101 : decode cX8_racked 101 = .ok (.getfield 110, 3) := by decide +kernel
theorem dX8_racked_104 : decode cX8_racked 104 = .ok (.iload 4, 2) := by decide +kernel
theorem dX8_racked_106 : decode cX8_racked 106 = .ok (.iaload, 1) := by decide +kernel
theorem dX8_racked_107 : decode cX8_racked 107 = .ok (.ireturn, 1) := by decide +kernel
theorem dX8_like_0 : decode cX8_like 0 = .ok (.iload_n 1, 1) := by decide +kernel
theorem dX8_like_1 : decode cX8_like 1 = .ok (.invokestatic 318, 3) := by decide +kernel
theorem dX8_like_4 : decode cX8_like 4 = .ok (.ifCond .eq 10, 3) := by decide +kernel
theorem dX8_like_7 : decode cX8_like 7 = .ok (.iload_n 2, 1) := by decide +kernel
theorem dX8_like_8 : decode cX8_like 8 = .ok (.invokestatic 318, 3) := by decide +kernel
theorem dX8_like_11 : decode cX8_like 11 = .ok (.ifCond .ne 9, 3) := by decide +kernel
theorem dX8_like_14 : decode cX8_like 14 = .ok (.aload_n 0, 1) := by decide +kernel
theorem dX8_like_15 : decode cX8_like 15 = .ok (.iconst (-1), 1) := by decide +kernel
theorem dX8_like_16 : decode cX8_like 16 = .ok (.invokevirtual 13, 3) := by decide +kernel
theorem dX8_like_19 : decode cX8_like 19 = .ok (.ireturn, 1) := by decide +kernel
theorem dX8_like_20 : decode cX8_like 20 = .ok (.aload_n 0, 1) := by decide +kernel
theorem dX8_like_21 : decode cX8_like 21 = .ok (.getfield 101, 3) := by decide +kernel
theorem dX8_like_24 : decode cX8_like 24 = .ok (.iload_n 2, 1) := by decide +kernel
theorem dX8_like_25 : decode cX8_like 25 = .ok (.iaload, 1) := by decide +kernel
theorem dX8_like_26 : decode cX8_like 26 = .ok (.ifCond .ge 6, 3) := by decide +kernel
theorem dX8_like_29 : decode cX8_like 29 = .ok (.bipush (-11), 2) := by decide +kernel
theorem dX8_like_31 : decode cX8_like 31 = .ok (.ireturn, 1) := by decide +kernel
theorem dX8_like_32 : decode cX8_like 32 = .ok (.aload_n 0, 1) := by decide +kernel
theorem dX8_like_33 : decode cX8_like 33 = .ok (.getfield 101, 3) := by decide +kernel
theorem dX8_like_36 : decode cX8_like 36 = .ok (.iload_n 1, 1) := by decide +kernel
theorem dX8_like_37 : decode cX8_like 37 = .ok (.aload_n 0, 1) := by decide +kernel
theorem dX8_like_38 : decode cX8_like 38 = .ok (.getfield 101, 3) := by decide +kernel
theorem dX8_like_41 : decode cX8_like 41 = .ok (.iload_n 2, 1) := by decide +kernel
theorem dX8_like_42 : decode cX8_like 42 = .ok (.iaload, 1) := by decide +kernel
theorem dX8_like_43 : decode cX8_like 43 = .ok (.iastore, 1) := by decide +kernel
theorem dX8_like_44 : decode cX8_like 44 = .ok (.aload_n 0, 1) := by decide +kernel
theorem dX8_like_45 : decode cX8_like 45 = .ok (.getfield 104, 3) := by decide +kernel
theorem dX8_like_48 : decode cX8_like 48 = .ok (.iload_n 1, 1) := by decide +kernel
theorem dX8_like_49 : decode cX8_like 49 = .ok (.aload_n 0, 1) := by decide +kernel
theorem dX8_like_50 : decode cX8_like 50 = .ok (.getfield 104, 3) := by decide +kernel
theorem dX8_like_53 : decode cX8_like 53 = .ok (.iload_n 2, 1) := by decide +kernel
theorem dX8_like_54 : decode cX8_like 54 = .ok (.iaload, 1) := by decide +kernel
theorem dX8_like_55 : decode cX8_like 55 = .ok (.iastore, 1) := by decide +kernel
theorem dX8_like_56 : decode cX8_like 56 = .ok (.iconst 0, 1) := by decide +kernel
theorem dX8_like_57 : decode cX8_like 57 = .ok (.istore_n 3, 1) := by decide +kernel
theorem dX8_like_58 : decode cX8_like 58 = .ok (.iload_n 3, 1) := by decide +kernel
theorem dX8_like_59 : decode cX8_like 59 = .ok (.bipush 9, 2) := by decide +kernel
theorem dX8_like_61 : decode cX8_like 61 = .ok (.if_icmp .ge 53, 3) := by decide +kernel
theorem dX8_like_64 : decode cX8_like 64 = .ok (.aload_n 0, 1) := by decide +kernel
theorem dX8_like_65 : decode cX8_like 65 = .ok (.getfield 107, 3) := by decide +kernel
theorem dX8_like_68 : decode cX8_like 68 = .ok (.bipush 9, 2) := by decide +kernel
theorem dX8_like_70 : decode cX8_like 70 = .ok (.iload_n 1, 1) := by decide +kernel
theorem dX8_like_71 : decode cX8_like 71 = .ok (.imul, 1) := by decide +kernel
theorem dX8_like_72 : decode cX8_like 72 = .ok (.iload_n 3, 1) := by decide +kernel
theorem dX8_like_73 : decode cX8_like 73 = .ok (.iadd, 1) := by decide +kernel
theorem dX8_like_74 : decode cX8_like 74 = .ok (.aload_n 0, 1) := by decide +kernel
theorem dX8_like_75 : decode cX8_like 75 = .ok (.getfield 107, 3) := by decide +kernel
theorem dX8_like_78 : decode cX8_like 78 = .ok (.bipush 9, 2) := by decide +kernel
theorem dX8_like_80 : decode cX8_like 80 = .ok (.iload_n 2, 1) := by decide +kernel
theorem dX8_like_81 : decode cX8_like 81 = .ok (.imul, 1) := by decide +kernel
theorem dX8_like_82 : decode cX8_like 82 = .ok (.iload_n 3, 1) := by decide +kernel
theorem dX8_like_83 : decode cX8_like 83 = .ok (.iadd, 1) := by decide +kernel
theorem dX8_like_84 : decode cX8_like 84 = .ok (.iaload, 1) := by decide +kernel
theorem dX8_like_85 : decode cX8_like 85 = .ok (.iastore, 1) := by decide +kernel
theorem dX8_like_86 : decode cX8_like 86 = .ok (.aload_n 0, 1) := by decide +kernel
theorem dX8_like_87 : decode cX8_like 87 = .ok (.getfield 110, 3) := by decide +kernel
theorem dX8_like_90 : decode cX8_like 90 = .ok (.bipush 9, 2) := by decide +kernel
theorem dX8_like_92 : decode cX8_like 92 = .ok (.iload_n 1, 1) := by decide +kernel
theorem dX8_like_93 : decode cX8_like 93 = .ok (.imul, 1) := by decide +kernel
theorem dX8_like_94 : decode cX8_like 94 = .ok (.iload_n 3, 1) := by decide +kernel
theorem dX8_like_95 : decode cX8_like 95 = .ok (.iadd, 1) := by decide +kernel
theorem dX8_like_96 : decode cX8_like 96 = .ok (.aload_n 0, 1) := by decide +kernel
theorem dX8_like_97 : decode cX8_like 97 = .ok (.getfield 110, 3) := by decide +kernel
theorem dX8_like_100 : decode cX8_like 100 = .ok (.bipush 9, 2) := by decide +kernel
theorem dX8_like_102 : decode cX8_like 102 = .ok (.iload_n 2, 1) := by decide +kernel
theorem dX8_like_103 : decode cX8_like 103 = .ok (.imul, 1) := by decide +kernel
theorem dX8_like_104 : decode cX8_like 104 = .ok (.iload_n 3, 1) := by decide +kernel
theorem dX8_like_105 : decode cX8_like 105 = .ok (.iadd, 1) := by decide +kernel
theorem dX8_like_106 : decode cX8_like 106 = .ok (.iaload, 1) := by decide +kernel
theorem dX8_like_107 : decode cX8_like 107 = .ok (.iastore, 1) := by decide +kernel
theorem dX8_like_108 : decode cX8_like 108 = .ok (.iinc 3 1, 3) := by decide +kernel
theorem dX8_like_111 : decode cX8_like 111 = .ok (.goto (-53), 3) := by decide +kernel
theorem dX8_like_114 : decode cX8_like 114 = .ok (.aload_n 0, 1) := by decide +kernel
theorem dX8_like_115 : decode cX8_like 115 = .ok (.getfield 101, 3) := by decide +kernel
theorem dX8_like_118 : decode cX8_like 118 = .ok (.iload_n 1, 1) := by decide +kernel
theorem dX8_like_119 : decode cX8_like 119 = .ok (.iaload, 1) := by decide +kernel
theorem dX8_like_120 : decode cX8_like 120 = .ok (.ireturn, 1) := by decide +kernel
theorem dX8_image_0 : decode cX8_image 0 = .ok (.aload_n 0, 1) := by decide +kernel
theorem dX8_image_1 : decode cX8_image 1 = .ok (.iconst 1, 1) := by decide +kernel
theorem dX8_image_2 : decode cX8_image 2 = .ok (.putfield 321, 3) := by decide +kernel
theorem dX8_image_5 : decode cX8_image 5 = .ok (.aload_n 0, 1) := by decide +kernel
theorem dX8_image_6 : decode cX8_image 6 = .ok (.aload_n 0, 1) := by decide +kernel
theorem dX8_image_7 : decode cX8_image 7 = .ok (.getfield 38, 3) := by decide +kernel
theorem dX8_image_10 : decode cX8_image 10 = .ok (.putfield 324, 3) := by decide +kernel
theorem dX8_image_13 : decode cX8_image 13 = .ok (.aload_n 0, 1) := by decide +kernel
theorem dX8_image_14 : decode cX8_image 14 = .ok (.getfield 113, 3) := by decide +kernel
theorem dX8_image_17 : decode cX8_image 17 = .ok (.iconst 0, 1) := by decide +kernel
theorem dX8_image_18 : decode cX8_image 18 = .ok (.aload_n 0, 1) := by decide +kernel
theorem dX8_image_19 : decode cX8_image 19 = .ok (.getfield 23, 3) := by decide +kernel
theorem dX8_image_22 : decode cX8_image 22 = .ok (.iastore, 1) := by decide +kernel
theorem dX8_image_23 : decode cX8_image 23 = .ok (.aload_n 0, 1) := by decide +kernel
theorem dX8_image_24 : decode cX8_image 24 = .ok (.getfield 113, 3) := by decide +kernel
theorem dX8_image_27 : decode cX8_image 27 = .ok (.iconst 1, 1) := by decide +kernel
theorem dX8_image_28 : decode cX8_image 28 = .ok (.aload_n 0, 1) := by decide +kernel
theorem dX8_image_29 : decode cX8_image 29 = .ok (.getfield 26, 3) := by decide +kernel
theorem dX8_image_32 : decode cX8_image 32 = .ok (.iastore, 1) := by decide +kernel
theorem dX8_image_33 : decode cX8_image 33 = .ok (.aload_n 0, 1) := by decide +kernel
theorem dX8_image_34 : decode cX8_image 34 = .ok (.getfield 113, 3) := by decide +kernel
theorem dX8_image_37 : decode cX8_image 37 = .ok (.iconst 2, 1) := by decide +kernel
theorem dX8_image_38 : decode cX8_image 38 = .ok (.aload_n 0, 1) := by decide +kernel
theorem dX8_image_39 : decode cX8_image 39 = .ok (.getfield 133, 3) := by decide +kernel
theorem dX8_image_42 : decode cX8_image 42 = .ok (.iastore, 1) := by decide +kernel
theorem dX8_image_43 : decode cX8_image 43 = .ok (.aload_n 0, 1) := by decide +kernel
theorem dX8_image_44 : decode cX8_image 44 = .ok (.getfield 113, 3) := by decide +kernel
theorem dX8_image_47 : decode cX8_image 47 = .ok (.iconst 3, 1) := by decide +kernel
theorem dX8_image_48 : decode cX8_image 48 = .ok (.aload_n 0, 1) := by decide +kernel
theorem dX8_image_49 : decode cX8_image 49 = .ok (.getfield 147, 3) := by decide +kernel
theorem dX8_image_52 : decode cX8_image 52 = .ok (.iastore, 1) := by decide +kernel
theorem dX8_image_53 : decode cX8_image 53 = .ok (.aload_n 0, 1) := by decide +kernel
theorem dX8_image_54 : decode cX8_image 54 = .ok (.getfield 113, 3) := by decide +kernel
theorem dX8_image_57 : decode cX8_image 57 = .ok (.iconst 4, 1) := by decide +kernel
theorem dX8_image_58 : decode cX8_image 58 = .ok (.aload_n 0, 1) := by decide +kernel
theorem dX8_image_59 : decode cX8_image 59 = .ok (.getfield 35, 3) := by decide +kernel
theorem dX8_image_62 : decode cX8_image 62 = .ok (.iastore, 1) := by decide +kernel
theorem dX8_image_63 : decode cX8_image 63 = .ok (.iconst 0, 1) := by decide +kernel
theorem dX8_image_64 : decode cX8_image 64 = .ok (.istore_n 1, 1) := by decide +kernel
theorem dX8_image_65 : decode cX8_image 65 = .ok (.iload_n 1, 1) := by decide +kernel
theorem dX8_image_66 : decode cX8_image 66 = .ok (.bipush 6, 2) := by decide +kernel
theorem dX8_image_68 : decode cX8_image 68 = .ok (.if_icmp .ge 21, 3) := by decide +kernel
theorem dX8_image_71 : decode cX8_image 71 = .ok (.aload_n 0, 1) := by decide +kernel
theorem dX8_image_72 : decode cX8_image 72 = .ok (.getfield 116, 3) := by decide +kernel
theorem dX8_image_75 : decode cX8_image 75 = .ok (.iload_n 1, 1) := by decide +kernel
theorem dX8_image_76 : decode cX8_image 76 = .ok (.aload_n 0, 1) := by decide +kernel
theorem dX8_image_77 : decode cX8_image 77 = .ok (.getfield 42, 3) := by decide +kernel
theorem dX8_image_80 : decode cX8_image 80 = .ok (.iload_n 1, 1) := by decide +kernel
theorem dX8_image_81 : decode cX8_image 81 = .ok (.iaload, 1) := by decide +kernel
theorem dX8_image_82 : decode cX8_image 82 = .ok (.iastore, 1) := by decide +kernel
theorem dX8_image_83 : decode cX8_image 83 = .ok (.iinc 1 1, 3) := by decide +kernel
theorem dX8_image_86 : decode cX8_image 86 = .ok (.goto (-21), 3) := by decide +kernel
theorem dX8_image_89 : decode cX8_image 89 = .ok (.iconst 0, 1) := by decide +kernel
theorem dX8_image_90 : decode cX8_image 90 = .ok (.istore_n 1, 1) := by decide +kernel
theorem dX8_image_91 : decode cX8_image 91 = .ok (.iload_n 1, 1) := by decide +kernel
theorem dX8_image_92 : decode cX8_image 92 = .ok (.bipush 36, 2) := by decide +kernel
theorem dX8_image_94 : decode cX8_image 94 = .ok (.if_icmp .ge 33, 3) := by decide +kernel
theorem dX8_image_97 : decode cX8_image 97 = .ok (.aload_n 0, 1) := by decide +kernel
theorem dX8_image_98 : decode cX8_image 98 = .ok (.getfield 119, 3) := by decide +kernel
theorem dX8_image_101 : decode cX8_image 101 = .ok (.iload_n 1, 1) := by decide +kernel
theorem dX8_image_102 : decode cX8_image 102 = .ok (.aload_n 0, 1) := by decide +kernel
theorem dX8_image_103 : decode cX8_image 103 = .ok (.getfield 29, 3) := by decide +kernel
theorem dX8_image_106 : decode cX8_image 106 = .ok (.iload_n 1, 1) := by decide +kernel
theorem dX8_image_107 : decode cX8_image 107 = .ok (.iaload, 1) := by decide +kernel
theorem dX8_image_108 : decode cX8_image 108 = .ok (.iastore, 1) := by decide +kernel
theorem dX8_image_109 : decode cX8_image 109 = .ok (.aload_n 0, 1) := by decide +kernel
theorem dX8_image_110 : decode cX8_image 110 = .ok (.getfield 122, 3) := by decide +kernel
theorem dX8_image_113 : decode cX8_image 113 = .ok (.iload_n 1, 1) := by decide +kernel
theorem dX8_image_114 : decode cX8_image 114 = .ok (.aload_n 0, 1) := by decide +kernel
theorem dX8_image_115 : decode cX8_image 115 = .ok (.getfield 32, 3) := by decide +kernel
theorem dX8_image_118 : decode cX8_image 118 = .ok (.iload_n 1, 1) := by decide +kernel
theorem dX8_image_119 : decode cX8_image 119 = .ok (.iaload, 1) := by decide +kernel
theorem dX8_image_120 : decode cX8_image 120 = .ok (.iastore, 1) := by decide +kernel
theorem dX8_image_121 : decode cX8_image 121 = .ok (.iinc 1 1, 3) := by decide +kernel
theorem dX8_image_124 : decode cX8_image 124 = .ok (.goto (-33), 3) := by decide +kernel
theorem dX8_image_127 : decode cX8_image 127 = .ok (.aload_n 0, 1) := by decide +kernel
theorem dX8_image_128 : decode cX8_image 128 = .ok (.getfield 38, 3) := by decide +kernel
theorem dX8_image_131 : decode cX8_image 131 = .ok (.ifCond .eq 10, 3) := by decide +kernel
theorem dX8_image_134 : decode cX8_image 134 = .ok (.aload_n 0, 1) := by decide +kernel
theorem dX8_image_135 : decode cX8_image 135 = .ok (.getfield 147, 3) := by decide +kernel
theorem dX8_image_138 : decode cX8_image 138 = .ok (.goto 5, 3) := by decide +kernel
theorem dX8_image_141 : decode cX8_image 141 = .ok (.bipush (-9), 2) := by decide +kernel
theorem dX8_image_143 : decode cX8_image 143 = .ok (.ireturn, 1) := by decide +kernel
theorem dX8_on_0 : decode cX8_on 0 = .ok (.aload_n 0, 1) := by decide +kernel
theorem dX8_on_1 : decode cX8_on 1 = .ok (.getfield 321, 3) := by decide +kernel
theorem dX8_on_4 : decode cX8_on 4 = .ok (.ifCond .ne 10, 3) := by decide +kernel
theorem dX8_on_7 : decode cX8_on 7 = .ok (.aload_n 0, 1) := by decide +kernel
theorem dX8_on_8 : decode cX8_on 8 = .ok (.bipush (-3), 2) := by decide +kernel
theorem dX8_on_10 : decode cX8_on 10 = .ok (.invokevirtual 13, 3) := by decide +kernel
theorem dX8_on_13 : decode cX8_on 13 = .ok (.ireturn, 1) := by decide +kernel
theorem dX8_on_14 : decode cX8_on 14 = .ok (.aload_n 0, 1) := by decide +kernel
theorem dX8_on_15 : decode cX8_on 15 = .ok (.aload_n 0, 1) := by decide +kernel
theorem dX8_on_16 : decode cX8_on 16 = .ok (.getfield 324, 3) := by decide +kernel
theorem dX8_on_19 : decode cX8_on 19 = .ok (.putfield 38, 3) := by decide +kernel
theorem dX8_on_22 : decode cX8_on 22 = .ok (.aload_n 0, 1) := by decide +kernel
theorem dX8_on_23 : decode cX8_on 23 = .ok (.aload_n 0, 1) := by decide +kernel
theorem dX8_on_24 : decode cX8_on 24 = .ok (.getfield 113, 3) := by decide +kernel
theorem dX8_on_27 : decode cX8_on 27 = .ok (.iconst 0, 1) := by decide +kernel
theorem dX8_on_28 : decode cX8_on 28 = .ok (.iaload, 1) := by decide +kernel
theorem dX8_on_29 : decode cX8_on 29 = .ok (.putfield 23, 3) := by decide +kernel
theorem dX8_on_32 : decode cX8_on 32 = .ok (.aload_n 0, 1) := by decide +kernel
theorem dX8_on_33 : decode cX8_on 33 = .ok (.aload_n 0, 1) := by decide +kernel
theorem dX8_on_34 : decode cX8_on 34 = .ok (.getfield 113, 3) := by decide +kernel
theorem dX8_on_37 : decode cX8_on 37 = .ok (.iconst 1, 1) := by decide +kernel
theorem dX8_on_38 : decode cX8_on 38 = .ok (.iaload, 1) := by decide +kernel
theorem dX8_on_39 : decode cX8_on 39 = .ok (.putfield 26, 3) := by decide +kernel
theorem dX8_on_42 : decode cX8_on 42 = .ok (.aload_n 0, 1) := by decide +kernel
theorem dX8_on_43 : decode cX8_on 43 = .ok (.aload_n 0, 1) := by decide +kernel
theorem dX8_on_44 : decode cX8_on 44 = .ok (.getfield 113, 3) := by decide +kernel
theorem dX8_on_47 : decode cX8_on 47 = .ok (.iconst 2, 1) := by decide +kernel
theorem dX8_on_48 : decode cX8_on 48 = .ok (.iaload, 1) := by decide +kernel
theorem dX8_on_49 : decode cX8_on 49 = .ok (.putfield 133, 3) := by decide +kernel
theorem dX8_on_52 : decode cX8_on 52 = .ok (.aload_n 0, 1) := by decide +kernel
theorem dX8_on_53 : decode cX8_on 53 = .ok (.aload_n 0, 1) := by decide +kernel
theorem dX8_on_54 : decode cX8_on 54 = .ok (.getfield 113, 3) := by decide +kernel
theorem dX8_on_57 : decode cX8_on 57 = .ok (.iconst 3, 1) := by decide +kernel
theorem dX8_on_58 : decode cX8_on 58 = .ok (.iaload, 1) := by decide +kernel
theorem dX8_on_59 : decode cX8_on 59 = .ok (.putfield 147, 3) := by decide +kernel
theorem dX8_on_62 : decode cX8_on 62 = .ok (.aload_n 0, 1) := by decide +kernel
theorem dX8_on_63 : decode cX8_on 63 = .ok (.aload_n 0, 1) := by decide +kernel
theorem dX8_on_64 : decode cX8_on 64 = .ok (.getfield 113, 3) := by decide +kernel
theorem dX8_on_67 : decode cX8_on 67 = .ok (.iconst 4, 1) := by decide +kernel
theorem dX8_on_68 : decode cX8_on 68 = .ok (.iaload, 1) := by decide +kernel
theorem dX8_on_69 : decode cX8_on 69 = .ok (.putfield 35, 3) := by decide +kernel
theorem dX8_on_72 : decode cX8_on 72 = .ok (.iconst 0, 1) := by decide +kernel
theorem dX8_on_73 : decode cX8_on 73 = .ok (.istore_n 1, 1) := by decide +kernel
theorem dX8_on_74 : decode cX8_on 74 = .ok (.iload_n 1, 1) := by decide +kernel
theorem dX8_on_75 : decode cX8_on 75 = .ok (.bipush 6, 2) := by decide +kernel
theorem dX8_on_77 : decode cX8_on 77 = .ok (.if_icmp .ge 21, 3) := by decide +kernel
theorem dX8_on_80 : decode cX8_on 80 = .ok (.aload_n 0, 1) := by decide +kernel
theorem dX8_on_81 : decode cX8_on 81 = .ok (.getfield 42, 3) := by decide +kernel
theorem dX8_on_84 : decode cX8_on 84 = .ok (.iload_n 1, 1) := by decide +kernel
theorem dX8_on_85 : decode cX8_on 85 = .ok (.aload_n 0, 1) := by decide +kernel
theorem dX8_on_86 : decode cX8_on 86 = .ok (.getfield 116, 3) := by decide +kernel
theorem dX8_on_89 : decode cX8_on 89 = .ok (.iload_n 1, 1) := by decide +kernel
theorem dX8_on_90 : decode cX8_on 90 = .ok (.iaload, 1) := by decide +kernel
theorem dX8_on_91 : decode cX8_on 91 = .ok (.iastore, 1) := by decide +kernel
theorem dX8_on_92 : decode cX8_on 92 = .ok (.iinc 1 1, 3) := by decide +kernel
theorem dX8_on_95 : decode cX8_on 95 = .ok (.goto (-21), 3) := by decide +kernel
theorem dX8_on_98 : decode cX8_on 98 = .ok (.iconst 0, 1) := by decide +kernel
theorem dX8_on_99 : decode cX8_on 99 = .ok (.istore_n 1, 1) := by decide +kernel
theorem dX8_on_100 : decode cX8_on 100 = .ok (.iload_n 1, 1) := by decide +kernel
theorem dX8_on_101 : decode cX8_on 101 = .ok (.bipush 36, 2) := by decide +kernel
theorem dX8_on_103 : decode cX8_on 103 = .ok (.if_icmp .ge 33, 3) := by decide +kernel
theorem dX8_on_106 : decode cX8_on 106 = .ok (.aload_n 0, 1) := by decide +kernel
theorem dX8_on_107 : decode cX8_on 107 = .ok (.getfield 29, 3) := by decide +kernel
theorem dX8_on_110 : decode cX8_on 110 = .ok (.iload_n 1, 1) := by decide +kernel
theorem dX8_on_111 : decode cX8_on 111 = .ok (.aload_n 0, 1) := by decide +kernel
theorem dX8_on_112 : decode cX8_on 112 = .ok (.getfield 119, 3) := by decide +kernel
theorem dX8_on_115 : decode cX8_on 115 = .ok (.iload_n 1, 1) := by decide +kernel
theorem dX8_on_116 : decode cX8_on 116 = .ok (.iaload, 1) := by decide +kernel
theorem dX8_on_117 : decode cX8_on 117 = .ok (.iastore, 1) := by decide +kernel
theorem dX8_on_118 : decode cX8_on 118 = .ok (.aload_n 0, 1) := by decide +kernel
theorem dX8_on_119 : decode cX8_on 119 = .ok (.getfield 32, 3) := by decide +kernel
theorem dX8_on_122 : decode cX8_on 122 = .ok (.iload_n 1, 1) := by decide +kernel
theorem dX8_on_123 : decode cX8_on 123 = .ok (.aload_n 0, 1) := by decide +kernel
theorem dX8_on_124 : decode cX8_on 124 = .ok (.getfield 122, 3) := by decide +kernel
theorem dX8_on_127 : decode cX8_on 127 = .ok (.iload_n 1, 1) := by decide +kernel
theorem dX8_on_128 : decode cX8_on 128 = .ok (.iaload, 1) := by decide +kernel
theorem dX8_on_129 : decode cX8_on 129 = .ok (.iastore, 1) := by decide +kernel
theorem dX8_on_130 : decode cX8_on 130 = .ok (.iinc 1 1, 3) := by decide +kernel
theorem dX8_on_133 : decode cX8_on 133 = .ok (.goto (-33), 3) := by decide +kernel
theorem dX8_on_136 : decode cX8_on 136 = .ok (.aload_n 0, 1) := by decide +kernel
theorem dX8_on_137 : decode cX8_on 137 = .ok (.iconst 0, 1) := by decide +kernel
theorem dX8_on_138 : decode cX8_on 138 = .ok (.putfield 198, 3) := by decide +kernel
theorem dX8_on_141 : decode cX8_on 141 = .ok (.aload_n 0, 1) := by decide +kernel
theorem dX8_on_142 : decode cX8_on 142 = .ok (.getfield 38, 3) := by decide +kernel
theorem dX8_on_145 : decode cX8_on 145 = .ok (.ifCond .eq 10, 3) := by decide +kernel
theorem dX8_on_148 : decode cX8_on 148 = .ok (.aload_n 0, 1) := by decide +kernel
theorem dX8_on_149 : decode cX8_on 149 = .ok (.getfield 147, 3) := by decide +kernel
theorem dX8_on_152 : decode cX8_on 152 = .ok (.goto 5, 3) := by decide +kernel
theorem dX8_on_155 : decode cX8_on 155 = .ok (.bipush (-9), 2) := by decide +kernel
theorem dX8_on_157 : decode cX8_on 157 = .ok (.ireturn, 1) := by decide +kernel
theorem dX8_tilesThatAre_0 : decode cX8_tilesThatAre 0 = .ok (.iconst 0, 1) := by decide +kernel
theorem dX8_tilesThatAre_1 : decode cX8_tilesThatAre 1 = .ok (.istore_n 2, 1) := by decide +kernel
theorem dX8_tilesThatAre_2 : decode cX8_tilesThatAre 2 = .ok (.iconst 0, 1) := by decide +kernel
theorem dX8_tilesThatAre_3 : decode cX8_tilesThatAre 3 = .ok (.istore_n 3, 1) := by decide +kernel
theorem dX8_tilesThatAre_4 : decode cX8_tilesThatAre 4 = .ok (.iload_n 3, 1) := by decide +kernel
theorem dX8_tilesThatAre_5 : decode cX8_tilesThatAre 5 = .ok (.aload_n 0, 1) := by decide +kernel
theorem dX8_tilesThatAre_6 : decode cX8_tilesThatAre 6 = .ok (.invokevirtual 125, 3) := by decide +kernel
theorem dX8_tilesThatAre_9 : decode cX8_tilesThatAre 9 = .ok (.if_icmp .ge 27, 3) := by decide +kernel
theorem dX8_tilesThatAre_12 : decode cX8_tilesThatAre 12 = .ok (.iload_n 2, 1) := by decide +kernel
theorem dX8_tilesThatAre_13 : decode cX8_tilesThatAre 13 = .ok (.aload_n 0, 1) := by decide +kernel
theorem dX8_tilesThatAre_14 : decode cX8_tilesThatAre 14 = .ok (.getfield 29, 3) := by decide +kernel
theorem dX8_tilesThatAre_17 : decode cX8_tilesThatAre 17 = .ok (.iload_n 3, 1) := by decide +kernel
theorem dX8_tilesThatAre_18 : decode cX8_tilesThatAre 18 = .ok (.iaload, 1) := by decide +kernel
theorem dX8_tilesThatAre_19 : decode cX8_tilesThatAre 19 = .ok (.iload_n 1, 1) := by decide +kernel
theorem dX8_tilesThatAre_20 : decode cX8_tilesThatAre 20 = .ok (.if_icmp .ne 7, 3) := by decide +kernel
theorem dX8_tilesThatAre_23 : decode cX8_tilesThatAre 23 = .ok (.iconst 1, 1) := by decide +kernel
theorem dX8_tilesThatAre_24 : decode cX8_tilesThatAre 24 = .ok (.goto 4, 3) := by decide +kernel
theorem dX8_tilesThatAre_27 : decode cX8_tilesThatAre 27 = .ok (.iconst 0, 1) := by decide +kernel
theorem dX8_tilesThatAre_28 : decode cX8_tilesThatAre 28 = .ok (.iadd, 1) := by decide +kernel
theorem dX8_tilesThatAre_29 : decode cX8_tilesThatAre 29 = .ok (.istore_n 2, 1) := by decide +kernel
theorem dX8_tilesThatAre_30 : decode cX8_tilesThatAre 30 = .ok (.iinc 3 1, 3) := by decide +kernel
theorem dX8_tilesThatAre_33 : decode cX8_tilesThatAre 33 = .ok (.goto (-29), 3) := by decide +kernel
theorem dX8_tilesThatAre_36 : decode cX8_tilesThatAre 36 = .ok (.iload_n 2, 1) := by decide +kernel
theorem dX8_tilesThatAre_37 : decode cX8_tilesThatAre 37 = .ok (.ireturn, 1) := by decide +kernel
theorem dX8_count_0 : decode cX8_count 0 = .ok (.iload_n 1, 1) := by decide +kernel
theorem dX8_count_1 : decode cX8_count 1 = .ok (.tableswitch 98 0 8 #[51, 56, 61, 67, 73, 78, 83, 88, 93], 51) := by decide +kernel
theorem dX8_count_52 : decode cX8_count 52 = .ok (.aload_n 0, 1) := by decide +kernel
theorem dX8_count_53 : decode cX8_count 53 = .ok (.getfield 23, 3) := by decide +kernel
theorem dX8_count_56 : decode cX8_count 56 = .ok (.ireturn, 1) := by decide +kernel
theorem dX8_count_57 : decode cX8_count 57 = .ok (.aload_n 0, 1) := by decide +kernel
theorem dX8_count_58 : decode cX8_count 58 = .ok (.getfield 26, 3) := by decide +kernel
theorem dX8_count_61 : decode cX8_count 61 = .ok (.ireturn, 1) := by decide +kernel
theorem dX8_count_62 : decode cX8_count 62 = .ok (.aload_n 0, 1) := by decide +kernel
theorem dX8_count_63 : decode cX8_count 63 = .ok (.iconst 1, 1) := by decide +kernel
theorem dX8_count_64 : decode cX8_count 64 = .ok (.invokevirtual 327, 3) := by decide +kernel
theorem dX8_count_67 : decode cX8_count 67 = .ok (.ireturn, 1) := by decide +kernel
theorem dX8_count_68 : decode cX8_count 68 = .ok (.aload_n 0, 1) := by decide +kernel
theorem dX8_count_69 : decode cX8_count 69 = .ok (.iconst 2, 1) := by decide +kernel
theorem dX8_count_70 : decode cX8_count 70 = .ok (.invokevirtual 327, 3) := by decide +kernel
theorem dX8_count_73 : decode cX8_count 73 = .ok (.ireturn, 1) := by decide +kernel
theorem dX8_count_74 : decode cX8_count 74 = .ok (.aload_n 0, 1) := by decide +kernel
theorem dX8_count_75 : decode cX8_count 75 = .ok (.invokevirtual 212, 3) := by decide +kernel
theorem dX8_count_78 : decode cX8_count 78 = .ok (.ireturn, 1) := by decide +kernel
theorem dX8_count_79 : decode cX8_count 79 = .ok (.aload_n 0, 1) := by decide +kernel
theorem dX8_count_80 : decode cX8_count 80 = .ok (.getfield 35, 3) := by decide +kernel
theorem dX8_count_83 : decode cX8_count 83 = .ok (.ireturn, 1) := by decide +kernel
theorem dX8_count_84 : decode cX8_count 84 = .ok (.aload_n 0, 1) := by decide +kernel
theorem dX8_count_85 : decode cX8_count 85 = .ok (.getfield 183, 3) := by decide +kernel
theorem dX8_count_88 : decode cX8_count 88 = .ok (.ireturn, 1) := by decide +kernel
theorem dX8_count_89 : decode cX8_count 89 = .ok (.aload_n 0, 1) := by decide +kernel
theorem dX8_count_90 : decode cX8_count 90 = .ok (.getfield 198, 3) := by decide +kernel
theorem dX8_count_93 : decode cX8_count 93 = .ok (.ireturn, 1) := by decide +kernel
theorem dX8_count_94 : decode cX8_count 94 = .ok (.aload_n 0, 1) := by decide +kernel
theorem dX8_count_95 : decode cX8_count 95 = .ok (.getfield 133, 3) := by decide +kernel
theorem dX8_count_98 : decode cX8_count 98 = .ok (.ireturn, 1) := by decide +kernel
theorem dX8_count_99 : decode cX8_count 99 = .ok (.iload_n 1, 1) := by decide +kernel
theorem dX8_count_100 : decode cX8_count 100 = .ok (.i2l, 1) := by decide +kernel
theorem dX8_count_101 : decode cX8_count 101 = .ok (.ldc2_w 330, 3) := by decide +kernel
theorem dX8_count_104 : decode cX8_count 104 = .ok (.ldc2_w 332, 3) := by decide +kernel
theorem dX8_count_107 : decode cX8_count 107 = .ok (.invokestatic 129, 3) := by decide +kernel
theorem dX8_count_110 : decode cX8_count 110 = .ok (.ifCond .eq 15, 3) := by decide +kernel
theorem dX8_count_113 : decode cX8_count 113 = .ok (.aload_n 0, 1) := by decide +kernel
theorem dX8_count_114 : decode cX8_count 114 = .ok (.getfield 7, 3) := by decide +kernel
theorem dX8_count_117 : decode cX8_count 117 = .ok (.iload_n 1, 1) := by decide +kernel
theorem dX8_count_118 : decode cX8_count 118 = .ok (.bipush 10, 2) := by decide +kernel
theorem dX8_count_120 : decode cX8_count 120 = .ok (.isub, 1) := by decide +kernel
theorem dX8_count_121 : decode cX8_count 121 = .ok (.iaload, 1) := by decide +kernel
theorem dX8_count_122 : decode cX8_count 122 = .ok (.goto 5, 3) := by decide +kernel
theorem dX8_count_125 : decode cX8_count 125 = .ok (.bipush (-9), 2) := by decide +kernel
theorem dX8_count_127 : decode cX8_count 127 = .ok (.ireturn, 1) := by decide +kernel
