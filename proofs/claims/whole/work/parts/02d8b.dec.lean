theorem dX8_printed_12 : decode cX8_printed 12 = .ok (.iload_n 1, 1) := by decide +kernel
theorem dX8_printed_13 : decode cX8_printed 13 = .ok (.aload_n 0, 1) := by decide +kernel
theorem dX8_printed_14 : decode cX8_printed 14 = .ok (.getfield 32, 3) := by decide +kernel
theorem dX8_printed_17 : decode cX8_printed 17 = .ok (.iload_n 2, 1) := by decide +kernel
theorem dX8_printed_18 : decode cX8_printed 18 = .ok (.iaload, 1) := by decide +kernel
theorem dX8_printed_19 : decode cX8_printed 19 = .ok (.ifCond .lt 7, 3) := by decide +kernel
theorem dX8_printed_22 : decode cX8_printed 22 = .ok (.iconst 1, 1) := by decide +kernel
theorem dX8_printed_23 : decode cX8_printed 23 = .ok (.goto 4, 3) := by decide +kernel
theorem dX8_printed_26 : decode cX8_printed 26 = .ok (.iconst 0, 1) := by decide +kernel
theorem dX8_printed_27 : decode cX8_printed 27 = .ok (.iadd, 1) := by decide +kernel
theorem dX8_printed_28 : decode cX8_printed 28 = .ok (.istore_n 1, 1) := by decide +kernel
theorem dX8_printed_29 : decode cX8_printed 29 = .ok (.iinc 2 1, 3) := by decide +kernel
theorem dX8_printed_32 : decode cX8_printed 32 = .ok (.goto (-28), 3) := by decide +kernel
theorem dX8_printed_35 : decode cX8_printed 35 = .ok (.iload_n 1, 1) := by decide +kernel
theorem dX8_printed_36 : decode cX8_printed 36 = .ok (.ireturn, 1) := by decide +kernel
theorem dX8_wipes_0 : decode cX8_wipes 0 = .ok (.aload_n 0, 1) := by decide +kernel
theorem dX8_wipes_1 : decode cX8_wipes 1 = .ok (.invokevirtual 212, 3) := by decide +kernel
theorem dX8_wipes_4 : decode cX8_wipes 4 = .ok (.istore_n 1, 1) := by decide +kernel
theorem dX8_wipes_5 : decode cX8_wipes 5 = .ok (.iconst 0, 1) := by decide +kernel
theorem dX8_wipes_6 : decode cX8_wipes 6 = .ok (.istore_n 2, 1) := by decide +kernel
theorem dX8_wipes_7 : decode cX8_wipes 7 = .ok (.iload_n 2, 1) := by decide +kernel
theorem dX8_wipes_8 : decode cX8_wipes 8 = .ok (.bipush 36, 2) := by decide +kernel
theorem dX8_wipes_10 : decode cX8_wipes 10 = .ok (.if_icmp .ge 16, 3) := by decide +kernel
theorem dX8_wipes_13 : decode cX8_wipes 13 = .ok (.aload_n 0, 1) := by decide +kernel
theorem dX8_wipes_14 : decode cX8_wipes 14 = .ok (.getfield 32, 3) := by decide +kernel
theorem dX8_wipes_17 : decode cX8_wipes 17 = .ok (.iload_n 2, 1) := by decide +kernel
theorem dX8_wipes_18 : decode cX8_wipes 18 = .ok (.iconst (-1), 1) := by decide +kernel
theorem dX8_wipes_19 : decode cX8_wipes 19 = .ok (.iastore, 1) := by decide +kernel
theorem dX8_wipes_20 : decode cX8_wipes 20 = .ok (.iinc 2 1, 3) := by decide +kernel
theorem dX8_wipes_23 : decode cX8_wipes 23 = .ok (.goto (-16), 3) := by decide +kernel
theorem dX8_wipes_26 : decode cX8_wipes 26 = .ok (.iload_n 1, 1) := by decide +kernel
theorem dX8_wipes_27 : decode cX8_wipes 27 = .ok (.ireturn, 1) := by decide +kernel
theorem dX8_whereFace_0 : decode cX8_whereFace 0 = .ok (.iconst 0, 1) := by decide +kernel
theorem dX8_whereFace_1 : decode cX8_whereFace 1 = .ok (.istore_n 2, 1) := by decide +kernel
theorem dX8_whereFace_2 : decode cX8_whereFace 2 = .ok (.aload_n 0, 1) := by decide +kernel
theorem dX8_whereFace_3 : decode cX8_whereFace 3 = .ok (.getfield 42, 3) := by decide +kernel
theorem dX8_whereFace_6 : decode cX8_whereFace 6 = .ok (.iload_n 2, 1) := by decide +kernel
theorem dX8_whereFace_7 : decode cX8_whereFace 7 = .ok (.iaload, 1) := by decide +kernel
theorem dX8_whereFace_8 : decode cX8_whereFace 8 = .ok (.iload_n 1, 1) := by decide +kernel
theorem dX8_whereFace_9 : decode cX8_whereFace 9 = .ok (.if_icmp .eq 9, 3) := by decide +kernel
theorem dX8_whereFace_12 : decode cX8_whereFace 12 = .ok (.iinc 2 1, 3) := by decide +kernel
theorem dX8_whereFace_15 : decode cX8_whereFace 15 = .ok (.goto (-13), 3) := by decide +kernel
theorem dX8_whereFace_18 : decode cX8_whereFace 18 = .ok (.iload_n 2, 1) := by decide +kernel
theorem dX8_whereFace_19 : decode cX8_whereFace 19 = .ok (.ireturn, 1) := by decide +kernel
theorem dX8_solid_0 : decode cX8_solid 0 = .ok (.iload_n 1, 1) := by decide +kernel
theorem dX8_solid_1 : decode cX8_solid 1 = .ok (.i2l, 1) := by decide +kernel
theorem dX8_solid_2 : decode cX8_solid 2 = .ok (.lconst 0, 1) := by decide +kernel
theorem dX8_solid_3 : decode cX8_solid 3 = .ok (.ldc2_w 142, 3) := by decide +kernel
theorem dX8_solid_6 : decode cX8_solid 6 = .ok (.invokestatic 129, 3) := by decide +kernel
theorem dX8_solid_9 : decode cX8_solid 9 = .ok (.ifCond .ne 37, 3) := by decide +kernel
theorem dX8_solid_12 : decode cX8_solid 12 = .ok (.iload_n 1, 1) := by decide +kernel
theorem dX8_solid_13 : decode cX8_solid 13 = .ok (.i2l, 1) := by decide +kernel
theorem dX8_solid_14 : decode cX8_solid 14 = .ok (.ldc2_w 215, 3) := by decide +kernel
theorem dX8_solid_17 : decode cX8_solid 17 = .ok (.aload_n 0, 1) := by decide +kernel
theorem dX8_solid_18 : decode cX8_solid 18 = .ok (.invokevirtual 136, 3) := by decide +kernel
theorem dX8_solid_21 : decode cX8_solid 21 = .ok (.ifCond .eq 9, 3) := by decide +kernel
theorem dX8_solid_24 : decode cX8_solid 24 = .ok (.ldc2_w 217, 3) := by decide +kernel
theorem dX8_solid_27 : decode cX8_solid 27 = .ok (.goto 6, 3) := by decide +kernel
theorem dX8_solid_30 : decode cX8_solid 30 = .ok (.ldc2_w 219, 3) := by decide +kernel
theorem dX8_solid_33 : decode cX8_solid 33 = .ok (.invokestatic 129, 3) := by decide +kernel
theorem dX8_solid_36 : decode cX8_solid 36 = .ok (.ifCond .ne 10, 3) := by decide +kernel
theorem dX8_solid_39 : decode cX8_solid 39 = .ok (.aload_n 0, 1) := by decide +kernel
theorem dX8_solid_40 : decode cX8_solid 40 = .ok (.bipush (-2), 2) := by decide +kernel
theorem dX8_solid_42 : decode cX8_solid 42 = .ok (.invokevirtual 13, 3) := by decide +kernel
theorem dX8_solid_45 : decode cX8_solid 45 = .ok (.ireturn, 1) := by decide +kernel
theorem dX8_solid_46 : decode cX8_solid 46 = .ok (.aload_n 0, 1) := by decide +kernel
theorem dX8_solid_47 : decode cX8_solid 47 = .ok (.getfield 38, 3) := by decide +kernel
theorem dX8_solid_50 : decode cX8_solid 50 = .ok (.ifCond .ne 10, 3) := by decide +kernel
theorem dX8_solid_53 : decode cX8_solid 53 = .ok (.aload_n 0, 1) := by decide +kernel
theorem dX8_solid_54 : decode cX8_solid 54 = .ok (.bipush (-3), 2) := by decide +kernel
theorem dX8_solid_56 : decode cX8_solid 56 = .ok (.invokevirtual 13, 3) := by decide +kernel
theorem dX8_solid_59 : decode cX8_solid 59 = .ok (.ireturn, 1) := by decide +kernel
theorem dX8_solid_60 : decode cX8_solid 60 = .ok (.aload_n 0, 1) := by decide +kernel
theorem dX8_solid_61 : decode cX8_solid 61 = .ok (.invokevirtual 160, 3) := by decide +kernel
theorem dX8_solid_64 : decode cX8_solid 64 = .ok (.istore_n 2, 1) := by decide +kernel
theorem dX8_solid_65 : decode cX8_solid 65 = .ok (.iload_n 1, 1) := by decide +kernel
theorem dX8_solid_66 : decode cX8_solid 66 = .ok (.tableswitch 119 0 5 #[38, 43, 48, 53, 58, 78], 38) := by decide +kernel
theorem dX8_solid_104 : decode cX8_solid 104 = .ok (.aload_n 0, 1) := by decide +kernel
theorem dX8_solid_105 : decode cX8_solid 105 = .ok (.getfield 133, 3) := by decide +kernel
theorem dX8_solid_108 : decode cX8_solid 108 = .ok (.ireturn, 1) := by decide +kernel
theorem dX8_solid_109 : decode cX8_solid 109 = .ok (.aload_n 0, 1) := by decide +kernel
theorem dX8_solid_110 : decode cX8_solid 110 = .ok (.getfield 147, 3) := by decide +kernel
theorem dX8_solid_113 : decode cX8_solid 113 = .ok (.ireturn, 1) := by decide +kernel
theorem dX8_solid_114 : decode cX8_solid 114 = .ok (.aload_n 0, 1) := by decide +kernel
theorem dX8_solid_115 : decode cX8_solid 115 = .ok (.invokevirtual 221, 3) := by decide +kernel
theorem dX8_solid_118 : decode cX8_solid 118 = .ok (.ireturn, 1) := by decide +kernel
theorem dX8_solid_119 : decode cX8_solid 119 = .ok (.aload_n 0, 1) := by decide +kernel
theorem dX8_solid_120 : decode cX8_solid 120 = .ok (.getfield 144, 3) := by decide +kernel
theorem dX8_solid_123 : decode cX8_solid 123 = .ok (.ireturn, 1) := by decide +kernel
theorem dX8_solid_124 : decode cX8_solid 124 = .ok (.aload_n 0, 1) := by decide +kernel
theorem dX8_solid_125 : decode cX8_solid 125 = .ok (.invokevirtual 154, 3) := by decide +kernel
theorem dX8_solid_128 : decode cX8_solid 128 = .ok (.ifCond .eq 14, 3) := by decide +kernel
theorem dX8_solid_131 : decode cX8_solid 131 = .ok (.aload_n 0, 1) := by decide +kernel
theorem dX8_solid_132 : decode cX8_solid 132 = .ok (.invokevirtual 157, 3) := by decide +kernel
theorem dX8_solid_135 : decode cX8_solid 135 = .ok (.ifCond .ne 7, 3) := by decide +kernel
theorem dX8_solid_138 : decode cX8_solid 138 = .ok (.iconst 1, 1) := by decide +kernel
theorem dX8_solid_139 : decode cX8_solid 139 = .ok (.goto 4, 3) := by decide +kernel
theorem dX8_solid_142 : decode cX8_solid 142 = .ok (.iconst 0, 1) := by decide +kernel
theorem dX8_solid_143 : decode cX8_solid 143 = .ok (.ireturn, 1) := by decide +kernel
theorem dX8_solid_144 : decode cX8_solid 144 = .ok (.aload_n 0, 1) := by decide +kernel
theorem dX8_solid_145 : decode cX8_solid 145 = .ok (.invokevirtual 136, 3) := by decide +kernel
theorem dX8_solid_148 : decode cX8_solid 148 = .ok (.ifCond .eq 35, 3) := by decide +kernel
theorem dX8_solid_151 : decode cX8_solid 151 = .ok (.aload_n 0, 1) := by decide +kernel
theorem dX8_solid_152 : decode cX8_solid 152 = .ok (.getfield 147, 3) := by decide +kernel
theorem dX8_solid_155 : decode cX8_solid 155 = .ok (.iconst 2, 1) := by decide +kernel
theorem dX8_solid_156 : decode cX8_solid 156 = .ok (.aload_n 0, 1) := by decide +kernel
theorem dX8_solid_157 : decode cX8_solid 157 = .ok (.getfield 26, 3) := by decide +kernel
theorem dX8_solid_160 : decode cX8_solid 160 = .ok (.imul, 1) := by decide +kernel
theorem dX8_solid_161 : decode cX8_solid 161 = .ok (.idiv, 1) := by decide +kernel
theorem dX8_solid_162 : decode cX8_solid 162 = .ok (.aload_n 0, 1) := by decide +kernel
theorem dX8_solid_163 : decode cX8_solid 163 = .ok (.getfield 147, 3) := by decide +kernel
theorem dX8_solid_166 : decode cX8_solid 166 = .ok (.iconst 2, 1) := by decide +kernel
theorem dX8_solid_167 : decode cX8_solid 167 = .ok (.aload_n 0, 1) := by decide +kernel
theorem dX8_solid_168 : decode cX8_solid 168 = .ok (.getfield 26, 3) := by decide +kernel
theorem dX8_solid_171 : decode cX8_solid 171 = .ok (.imul, 1) := by decide +kernel
theorem dX8_solid_172 : decode cX8_solid 172 = .ok (.irem, 1) := by decide +kernel
theorem dX8_solid_173 : decode cX8_solid 173 = .ok (.iadd, 1) := by decide +kernel
theorem dX8_solid_174 : decode cX8_solid 174 = .ok (.iconst 2, 1) := by decide +kernel
theorem dX8_solid_175 : decode cX8_solid 175 = .ok (.irem, 1) := by decide +kernel
theorem dX8_solid_176 : decode cX8_solid 176 = .ok (.ifCond .ne 7, 3) := by decide +kernel
theorem dX8_solid_179 : decode cX8_solid 179 = .ok (.iconst 1, 1) := by decide +kernel
theorem dX8_solid_180 : decode cX8_solid 180 = .ok (.goto 4, 3) := by decide +kernel
theorem dX8_solid_183 : decode cX8_solid 183 = .ok (.iconst 0, 1) := by decide +kernel
theorem dX8_solid_184 : decode cX8_solid 184 = .ok (.ireturn, 1) := by decide +kernel
theorem dX8_solid_185 : decode cX8_solid 185 = .ok (.aload_n 0, 1) := by decide +kernel
theorem dX8_solid_186 : decode cX8_solid 186 = .ok (.iload_n 1, 1) := by decide +kernel
theorem dX8_solid_187 : decode cX8_solid 187 = .ok (.bipush 10, 2) := by decide +kernel
theorem dX8_solid_189 : decode cX8_solid 189 = .ok (.isub, 1) := by decide +kernel
theorem dX8_solid_190 : decode cX8_solid 190 = .ok (.invokevirtual 224, 3) := by decide +kernel
theorem dX8_solid_193 : decode cX8_solid 193 = .ok (.ireturn, 1) := by decide +kernel
theorem dX8_keeps_0 : decode cX8_keeps 0 = .ok (.aload_n 0, 1) := by decide +kernel
theorem dX8_keeps_1 : decode cX8_keeps 1 = .ok (.getfield 198, 3) := by decide +kernel
theorem dX8_keeps_4 : decode cX8_keeps 4 = .ok (.bipush 20, 2) := by decide +kernel
theorem dX8_keeps_6 : decode cX8_keeps 6 = .ok (.if_icmp .ne 44, 3) := by decide +kernel
theorem dX8_keeps_9 : decode cX8_keeps 9 = .ok (.bipush 64, 2) := by decide +kernel
theorem dX8_keeps_11 : decode cX8_keeps 11 = .ok (.istore_n 1, 1) := by decide +kernel
theorem dX8_keeps_12 : decode cX8_keeps 12 = .ok (.iload_n 1, 1) := by decide +kernel
theorem dX8_keeps_13 : decode cX8_keeps 13 = .ok (.sipush 1280, 3) := by decide +kernel
theorem dX8_keeps_16 : decode cX8_keeps 16 = .ok (.if_icmp .ge 24, 3) := by decide +kernel
theorem dX8_keeps_19 : decode cX8_keeps 19 = .ok (.aload_n 0, 1) := by decide +kernel
theorem dX8_keeps_20 : decode cX8_keeps 20 = .ok (.getfield 54, 3) := by decide +kernel
theorem dX8_keeps_23 : decode cX8_keeps 23 = .ok (.iload_n 1, 1) := by decide +kernel
theorem dX8_keeps_24 : decode cX8_keeps 24 = .ok (.bipush 64, 2) := by decide +kernel
theorem dX8_keeps_26 : decode cX8_keeps 26 = .ok (.isub, 1) := by decide +kernel
theorem dX8_keeps_27 : decode cX8_keeps 27 = .ok (.aload_n 0, 1) := by decide +kernel
theorem dX8_keeps_28 : decode cX8_keeps 28 = .ok (.getfield 54, 3) := by decide +kernel
theorem dX8_keeps_31 : decode cX8_keeps 31 = .ok (.iload_n 1, 1) := by decide +kernel
theorem dX8_keeps_32 : decode cX8_keeps 32 = .ok (.iaload, 1) := by decide +kernel
theorem dX8_keeps_33 : decode cX8_keeps 33 = .ok (.iastore, 1) := by decide +kernel
theorem dX8_keeps_34 : decode cX8_keeps 34 = .ok (.iinc 1 1, 3) := by decide +kernel
theorem dX8_keeps_37 : decode cX8_keeps 37 = .ok (.goto (-25), 3) := by decide +kernel
theorem dX8_keeps_40 : decode cX8_keeps 40 = .ok (.aload_n 0, 1) := by decide +kernel
theorem dX8_keeps_41 : decode cX8_keeps 41 = .ok (.dup, 1) := by decide +kernel
theorem dX8_keeps_42 : decode cX8_keeps 42 = .ok (.getfield 198, 3) := by decide +kernel
theorem dX8_keeps_45 : decode cX8_keeps 45 = .ok (.iconst 1, 1) := by decide +kernel
theorem dX8_keeps_46 : decode cX8_keeps 46 = .ok (.isub, 1) := by decide +kernel
theorem dX8_keeps_47 : decode cX8_keeps 47 = .ok (.putfield 198, 3) := by decide +kernel
theorem dX8_keeps_50 : decode cX8_keeps 50 = .ok (.bipush 64, 2) := by decide +kernel
theorem dX8_keeps_52 : decode cX8_keeps 52 = .ok (.aload_n 0, 1) := by decide +kernel
theorem dX8_keeps_53 : decode cX8_keeps 53 = .ok (.getfield 198, 3) := by decide +kernel
theorem dX8_keeps_56 : decode cX8_keeps 56 = .ok (.imul, 1) := by decide +kernel
theorem dX8_keeps_57 : decode cX8_keeps 57 = .ok (.istore_n 1, 1) := by decide +kernel
theorem dX8_keeps_58 : decode cX8_keeps 58 = .ok (.aload_n 0, 1) := by decide +kernel
theorem dX8_keeps_59 : decode cX8_keeps 59 = .ok (.getfield 54, 3) := by decide +kernel
theorem dX8_keeps_62 : decode cX8_keeps 62 = .ok (.iload_n 1, 1) := by decide +kernel
theorem dX8_keeps_63 : decode cX8_keeps 63 = .ok (.aload_n 0, 1) := by decide +kernel
theorem dX8_keeps_64 : decode cX8_keeps 64 = .ok (.getfield 147, 3) := by decide +kernel
theorem dX8_keeps_67 : decode cX8_keeps 67 = .ok (.iastore, 1) := by decide +kernel
theorem dX8_keeps_68 : decode cX8_keeps 68 = .ok (.iconst 0, 1) := by decide +kernel
theorem dX8_keeps_69 : decode cX8_keeps 69 = .ok (.istore_n 2, 1) := by decide +kernel
theorem dX8_keeps_70 : decode cX8_keeps 70 = .ok (.iload_n 2, 1) := by decide +kernel
theorem dX8_keeps_71 : decode cX8_keeps 71 = .ok (.bipush 6, 2) := by decide +kernel
theorem dX8_keeps_73 : decode cX8_keeps 73 = .ok (.if_icmp .ge 25, 3) := by decide +kernel
theorem dX8_keeps_76 : decode cX8_keeps 76 = .ok (.aload_n 0, 1) := by decide +kernel
theorem dX8_keeps_77 : decode cX8_keeps 77 = .ok (.getfield 54, 3) := by decide +kernel
theorem dX8_keeps_80 : decode cX8_keeps 80 = .ok (.iload_n 1, 1) := by decide +kernel
theorem dX8_keeps_81 : decode cX8_keeps 81 = .ok (.iconst 1, 1) := by decide +kernel
theorem dX8_keeps_82 : decode cX8_keeps 82 = .ok (.iadd, 1) := by decide +kernel
theorem dX8_keeps_83 : decode cX8_keeps 83 = .ok (.iload_n 2, 1) := by decide +kernel
theorem dX8_keeps_84 : decode cX8_keeps 84 = .ok (.iadd, 1) := by decide +kernel
theorem dX8_keeps_85 : decode cX8_keeps 85 = .ok (.aload_n 0, 1) := by decide +kernel
theorem dX8_keeps_86 : decode cX8_keeps 86 = .ok (.getfield 42, 3) := by decide +kernel
theorem dX8_keeps_89 : decode cX8_keeps 89 = .ok (.iload_n 2, 1) := by decide +kernel
theorem dX8_keeps_90 : decode cX8_keeps 90 = .ok (.iaload, 1) := by decide +kernel
theorem dX8_keeps_91 : decode cX8_keeps 91 = .ok (.iastore, 1) := by decide +kernel
theorem dX8_keeps_92 : decode cX8_keeps 92 = .ok (.iinc 2 1, 3) := by decide +kernel
theorem dX8_keeps_95 : decode cX8_keeps 95 = .ok (.goto (-25), 3) := by decide +kernel
theorem dX8_keeps_98 : decode cX8_keeps 98 = .ok (.iconst 0, 1) := by decide +kernel
theorem dX8_keeps_99 : decode cX8_keeps 99 = .ok (.istore_n 2, 1) := by decide +kernel
theorem dX8_keeps_100 : decode cX8_keeps 100 = .ok (.iload_n 2, 1) := by decide +kernel
theorem dX8_keeps_101 : decode cX8_keeps 101 = .ok (.bipush 36, 2) := by decide +kernel
theorem dX8_keeps_103 : decode cX8_keeps 103 = .ok (.if_icmp .ge 26, 3) := by decide +kernel
theorem dX8_keeps_106 : decode cX8_keeps 106 = .ok (.aload_n 0, 1) := by decide +kernel
theorem dX8_keeps_107 : decode cX8_keeps 107 = .ok (.getfield 54, 3) := by decide +kernel
theorem dX8_keeps_110 : decode cX8_keeps 110 = .ok (.iload_n 1, 1) := by decide +kernel
theorem dX8_keeps_111 : decode cX8_keeps 111 = .ok (.bipush 7, 2) := by decide +kernel
theorem dX8_keeps_113 : decode cX8_keeps 113 = .ok (.iadd, 1) := by decide +kernel
theorem dX8_keeps_114 : decode cX8_keeps 114 = .ok (.iload_n 2, 1) := by decide +kernel
theorem dX8_keeps_115 : decode cX8_keeps 115 = .ok (.iadd, 1) := by decide +kernel
theorem dX8_keeps_116 : decode cX8_keeps 116 = .ok (.aload_n 0, 1) := by decide +kernel
theorem dX8_keeps_117 : decode cX8_keeps 117 = .ok (.getfield 32, 3) := by decide +kernel
theorem dX8_keeps_120 : decode cX8_keeps 120 = .ok (.iload_n 2, 1) := by decide +kernel
theorem dX8_keeps_121 : decode cX8_keeps 121 = .ok (.iaload, 1) := by decide +kernel
theorem dX8_keeps_122 : decode cX8_keeps 122 = .ok (.iastore, 1) := by decide +kernel
theorem dX8_keeps_123 : decode cX8_keeps 123 = .ok (.iinc 2 1, 3) := by decide +kernel
theorem dX8_keeps_126 : decode cX8_keeps 126 = .ok (.goto (-26), 3) := by decide +kernel
theorem dX8_keeps_129 : decode cX8_keeps 129 = .ok (.aload_n 0, 1) := by decide +kernel
theorem dX8_keeps_130 : decode cX8_keeps 130 = .ok (.dup, 1) := by decide +kernel
theorem dX8_keeps_131 : decode cX8_keeps 131 = .ok (.getfield 198, 3) := by decide +kernel
theorem dX8_keeps_134 : decode cX8_keeps 134 = .ok (.iconst 1, 1) := by decide +kernel
theorem dX8_keeps_135 : decode cX8_keeps 135 = .ok (.iadd, 1) := by decide +kernel
theorem dX8_keeps_136 : decode cX8_keeps 136 = .ok (.putfield 198, 3) := by decide +kernel
theorem dX8_keeps_139 : decode cX8_keeps 139 = .ok (.return_, 1) := by decide +kernel
theorem dX8_rollsTruly_0 : decode cX8_rollsTruly 0 = .ok (.aload_n 0, 1) := by decide +kernel
theorem dX8_rollsTruly_1 : decode cX8_rollsTruly 1 = .ok (.invokevirtual 227, 3) := by decide +kernel
theorem dX8_rollsTruly_4 : decode cX8_rollsTruly 4 = .ok (.aload_n 0, 1) := by decide +kernel
theorem dX8_rollsTruly_5 : decode cX8_rollsTruly 5 = .ok (.iload_n 1, 1) := by decide +kernel
theorem dX8_rollsTruly_6 : decode cX8_rollsTruly 6 = .ok (.invokevirtual 230, 3) := by decide +kernel
theorem dX8_rollsTruly_9 : decode cX8_rollsTruly 9 = .ok (.ifCond .ne 5, 3) := by decide +kernel
theorem dX8_rollsTruly_12 : decode cX8_rollsTruly 12 = .ok (.iconst 0, 1) := by decide +kernel
theorem dX8_rollsTruly_13 : decode cX8_rollsTruly 13 = .ok (.ireturn, 1) := by decide +kernel
theorem dX8_rollsTruly_14 : decode cX8_rollsTruly 14 = .ok (.aload_n 0, 1) := by decide +kernel
theorem dX8_rollsTruly_15 : decode cX8_rollsTruly 15 = .ok (.getfield 147, 3) := by decide +kernel
theorem dX8_rollsTruly_18 : decode cX8_rollsTruly 18 = .ok (.istore_n 2, 1) := by decide +kernel
theorem dX8_rollsTruly_19 : decode cX8_rollsTruly 19 = .ok (.iconst 0, 1) := by decide +kernel
theorem dX8_rollsTruly_20 : decode cX8_rollsTruly 20 = .ok (.istore_n 3, 1) := by decide +kernel
theorem dX8_rollsTruly_21 : decode cX8_rollsTruly 21 = .ok (.iload_n 3, 1) := by decide +kernel
theorem dX8_rollsTruly_22 : decode cX8_rollsTruly 22 = .ok (.bipush 6, 2) := by decide +kernel
theorem dX8_rollsTruly_24 : decode cX8_rollsTruly 24 = .ok (.if_icmp .ge 21, 3) := by decide +kernel
theorem dX8_rollsTruly_27 : decode cX8_rollsTruly 27 = .ok (.aload_n 0, 1) := by decide +kernel
theorem dX8_rollsTruly_28 : decode cX8_rollsTruly 28 = .ok (.getfield 48, 3) := by decide +kernel
theorem dX8_rollsTruly_31 : decode cX8_rollsTruly 31 = .ok (.iload_n 3, 1) := by decide +kernel
theorem dX8_rollsTruly_32 : decode cX8_rollsTruly 32 = .ok (.aload_n 0, 1) := by decide +kernel
theorem dX8_rollsTruly_33 : decode cX8_rollsTruly 33 = .ok (.getfield 42, 3) := by decide +kernel
theorem dX8_rollsTruly_36 : decode cX8_rollsTruly 36 = .ok (.iload_n 3, 1) := by decide +kernel
theorem dX8_rollsTruly_37 : decode cX8_rollsTruly 37 = .ok (.iaload, 1) := by decide +kernel
theorem dX8_rollsTruly_38 : decode cX8_rollsTruly 38 = .ok (.iastore, 1) := by decide +kernel
theorem dX8_rollsTruly_39 : decode cX8_rollsTruly 39 = .ok (.iinc 3 1, 3) := by decide +kernel
theorem dX8_rollsTruly_42 : decode cX8_rollsTruly 42 = .ok (.goto (-21), 3) := by decide +kernel
theorem dX8_rollsTruly_45 : decode cX8_rollsTruly 45 = .ok (.aload_n 0, 1) := by decide +kernel
theorem dX8_rollsTruly_46 : decode cX8_rollsTruly 46 = .ok (.aload_n 0, 1) := by decide +kernel
theorem dX8_rollsTruly_47 : decode cX8_rollsTruly 47 = .ok (.getfield 233, 3) := by decide +kernel
theorem dX8_rollsTruly_50 : decode cX8_rollsTruly 50 = .ok (.putfield 147, 3) := by decide +kernel
theorem dX8_rollsTruly_53 : decode cX8_rollsTruly 53 = .ok (.iconst 0, 1) := by decide +kernel
theorem dX8_rollsTruly_54 : decode cX8_rollsTruly 54 = .ok (.istore_n 3, 1) := by decide +kernel
theorem dX8_rollsTruly_55 : decode cX8_rollsTruly 55 = .ok (.iload_n 3, 1) := by decide +kernel
theorem dX8_rollsTruly_56 : decode cX8_rollsTruly 56 = .ok (.bipush 6, 2) := by decide +kernel
theorem dX8_rollsTruly_58 : decode cX8_rollsTruly 58 = .ok (.if_icmp .ge 21, 3) := by decide +kernel
theorem dX8_rollsTruly_61 : decode cX8_rollsTruly 61 = .ok (.aload_n 0, 1) := by decide +kernel
theorem dX8_rollsTruly_62 : decode cX8_rollsTruly 62 = .ok (.getfield 42, 3) := by decide +kernel
theorem dX8_rollsTruly_65 : decode cX8_rollsTruly 65 = .ok (.iload_n 3, 1) := by decide +kernel
theorem dX8_rollsTruly_66 : decode cX8_rollsTruly 66 = .ok (.aload_n 0, 1) := by decide +kernel
theorem dX8_rollsTruly_67 : decode cX8_rollsTruly 67 = .ok (.getfield 57, 3) := by decide +kernel
theorem dX8_rollsTruly_70 : decode cX8_rollsTruly 70 = .ok (.iload_n 3, 1) := by decide +kernel
theorem dX8_rollsTruly_71 : decode cX8_rollsTruly 71 = .ok (.iaload, 1) := by decide +kernel
theorem dX8_rollsTruly_72 : decode cX8_rollsTruly 72 = .ok (.iastore, 1) := by decide +kernel
theorem dX8_rollsTruly_73 : decode cX8_rollsTruly 73 = .ok (.iinc 3 1, 3) := by decide +kernel
theorem dX8_rollsTruly_76 : decode cX8_rollsTruly 76 = .ok (.goto (-21), 3) := by decide +kernel
theorem dX8_rollsTruly_79 : decode cX8_rollsTruly 79 = .ok (.aload_n 0, 1) := by decide +kernel
theorem dX8_rollsTruly_80 : decode cX8_rollsTruly 80 = .ok (.invokevirtual 236, 3) := by decide +kernel
theorem dX8_rollsTruly_83 : decode cX8_rollsTruly 83 = .ok (.aload_n 0, 1) := by decide +kernel
theorem dX8_rollsTruly_84 : decode cX8_rollsTruly 84 = .ok (.iload_n 2, 1) := by decide +kernel
theorem dX8_rollsTruly_85 : decode cX8_rollsTruly 85 = .ok (.putfield 147, 3) := by decide +kernel
theorem dX8_rollsTruly_88 : decode cX8_rollsTruly 88 = .ok (.iconst 0, 1) := by decide +kernel
theorem dX8_rollsTruly_89 : decode cX8_rollsTruly 89 = .ok (.istore_n 3, 1) := by decide +kernel
theorem dX8_rollsTruly_90 : decode cX8_rollsTruly 90 = .ok (.iload_n 3, 1) := by decide +kernel
theorem dX8_rollsTruly_91 : decode cX8_rollsTruly 91 = .ok (.bipush 6, 2) := by decide +kernel
theorem dX8_rollsTruly_93 : decode cX8_rollsTruly 93 = .ok (.if_icmp .ge 21, 3) := by decide +kernel
theorem dX8_rollsTruly_96 : decode cX8_rollsTruly 96 = .ok (.aload_n 0, 1) := by decide +kernel
theorem dX8_rollsTruly_97 : decode cX8_rollsTruly 97 = .ok (.getfield 42, 3) := by decide +kernel
theorem dX8_rollsTruly_100 : decode cX8_rollsTruly 100 = .ok (.iload_n 3, 1) := by decide +kernel
theorem dX8_rollsTruly_101 : decode cX8_rollsTruly 101 = .ok (.aload_n 0, 1) := by decide +kernel
theorem dX8_rollsTruly_102 : decode cX8_rollsTruly 102 = .ok (.getfield 48, 3) := by decide +kernel
theorem dX8_rollsTruly_105 : decode cX8_rollsTruly 105 = .ok (.iload_n 3, 1) := by decide +kernel
theorem dX8_rollsTruly_106 : decode cX8_rollsTruly 106 = .ok (.iaload, 1) := by decide +kernel
theorem dX8_rollsTruly_107 : decode cX8_rollsTruly 107 = .ok (.iastore, 1) := by decide +kernel
theorem dX8_rollsTruly_108 : decode cX8_rollsTruly 108 = .ok (.iinc 3 1, 3) := by decide +kernel
theorem dX8_rollsTruly_111 : decode cX8_rollsTruly 111 = .ok (.goto (-21), 3) := by decide +kernel
theorem dX8_rollsTruly_114 : decode cX8_rollsTruly 114 = .ok (.aload_n 0, 1) := by decide +kernel
theorem dX8_rollsTruly_115 : decode cX8_rollsTruly 115 = .ok (.invokevirtual 160, 3) := by decide +kernel
theorem dX8_rollsTruly_118 : decode cX8_rollsTruly 118 = .ok (.istore_n 3, 1) := by decide +kernel
theorem dX8_rollsTruly_119 : decode cX8_rollsTruly 119 = .ok (.iconst 0, 1) := by decide +kernel
theorem dX8_rollsTruly_120 : decode cX8_rollsTruly 120 = .ok (.istore 4, 2) := by decide +kernel
theorem dX8_rollsTruly_122 : decode cX8_rollsTruly 122 = .ok (.iload 4, 2) := by decide +kernel
theorem dX8_rollsTruly_124 : decode cX8_rollsTruly 124 = .ok (.aload_n 0, 1) := by decide +kernel
theorem dX8_rollsTruly_125 : decode cX8_rollsTruly 125 = .ok (.getfield 144, 3) := by decide +kernel
theorem dX8_rollsTruly_128 : decode cX8_rollsTruly 128 = .ok (.if_icmp .ge 33, 3) := by decide +kernel
theorem dX8_rollsTruly_131 : decode cX8_rollsTruly 131 = .ok (.aload_n 0, 1) := by decide +kernel
theorem dX8_rollsTruly_132 : decode cX8_rollsTruly 132 = .ok (.getfield 35, 3) := by decide +kernel
theorem dX8_rollsTruly_135 : decode cX8_rollsTruly 135 = .ok (.iconst 1, 1) := by decide +kernel
theorem dX8_rollsTruly_136 : decode cX8_rollsTruly 136 = .ok (.if_icmp .ne 25, 3) := by decide +kernel
theorem dX8_rollsTruly_139 : decode cX8_rollsTruly 139 = .ok (.aload_n 0, 1) := by decide +kernel
theorem dX8_rollsTruly_140 : decode cX8_rollsTruly 140 = .ok (.getfield 32, 3) := by decide +kernel
theorem dX8_rollsTruly_143 : decode cX8_rollsTruly 143 = .ok (.aload_n 0, 1) := by decide +kernel
theorem dX8_rollsTruly_144 : decode cX8_rollsTruly 144 = .ok (.getfield 45, 3) := by decide +kernel
theorem dX8_rollsTruly_147 : decode cX8_rollsTruly 147 = .ok (.iload 4, 2) := by decide +kernel
theorem dX8_rollsTruly_149 : decode cX8_rollsTruly 149 = .ok (.iaload, 1) := by decide +kernel
theorem dX8_rollsTruly_150 : decode cX8_rollsTruly 150 = .ok (.aload_n 0, 1) := by decide +kernel
theorem dX8_rollsTruly_151 : decode cX8_rollsTruly 151 = .ok (.invokevirtual 221, 3) := by decide +kernel
theorem dX8_rollsTruly_154 : decode cX8_rollsTruly 154 = .ok (.iastore, 1) := by decide +kernel
theorem dX8_rollsTruly_155 : decode cX8_rollsTruly 155 = .ok (.iinc 4 1, 3) := by decide +kernel
theorem dX8_rollsTruly_158 : decode cX8_rollsTruly 158 = .ok (.goto (-36), 3) := by decide +kernel
theorem dX8_rollsTruly_161 : decode cX8_rollsTruly 161 = .ok (.iconst 1, 1) := by decide +kernel
theorem dX8_rollsTruly_162 : decode cX8_rollsTruly 162 = .ok (.ireturn, 1) := by decide +kernel
theorem dX8_keeps1_0 : decode cX8_keeps1 0 = .ok (.aload_n 0, 1) := by decide +kernel
theorem dX8_keeps1_1 : decode cX8_keeps1 1 = .ok (.aload_n 0, 1) := by decide +kernel
theorem dX8_keeps1_2 : decode cX8_keeps1 2 = .ok (.getfield 147, 3) := by decide +kernel
theorem dX8_keeps1_5 : decode cX8_keeps1 5 = .ok (.putfield 233, 3) := by decide +kernel
theorem dX8_keeps1_8 : decode cX8_keeps1 8 = .ok (.iconst 0, 1) := by decide +kernel
theorem dX8_keeps1_9 : decode cX8_keeps1 9 = .ok (.istore_n 1, 1) := by decide +kernel
theorem dX8_keeps1_10 : decode cX8_keeps1 10 = .ok (.iload_n 1, 1) := by decide +kernel
theorem dX8_keeps1_11 : decode cX8_keeps1 11 = .ok (.bipush 6, 2) := by decide +kernel
theorem dX8_keeps1_13 : decode cX8_keeps1 13 = .ok (.if_icmp .ge 21, 3) := by decide +kernel
theorem dX8_keeps1_16 : decode cX8_keeps1 16 = .ok (.aload_n 0, 1) := by decide +kernel
theorem dX8_keeps1_17 : decode cX8_keeps1 17 = .ok (.getfield 57, 3) := by decide +kernel
theorem dX8_keeps1_20 : decode cX8_keeps1 20 = .ok (.iload_n 1, 1) := by decide +kernel
theorem dX8_keeps1_21 : decode cX8_keeps1 21 = .ok (.aload_n 0, 1) := by decide +kernel
theorem dX8_keeps1_22 : decode cX8_keeps1 22 = .ok (.getfield 42, 3) := by decide +kernel
theorem dX8_keeps1_25 : decode cX8_keeps1 25 = .ok (.iload_n 1, 1) := by decide +kernel
theorem dX8_keeps1_26 : decode cX8_keeps1 26 = .ok (.iaload, 1) := by decide +kernel
theorem dX8_keeps1_27 : decode cX8_keeps1 27 = .ok (.iastore, 1) := by decide +kernel
theorem dX8_keeps1_28 : decode cX8_keeps1 28 = .ok (.iinc 1 1, 3) := by decide +kernel
theorem dX8_keeps1_31 : decode cX8_keeps1 31 = .ok (.goto (-21), 3) := by decide +kernel
theorem dX8_keeps1_34 : decode cX8_keeps1 34 = .ok (.return_, 1) := by decide +kernel
theorem dX8_lays1_0 : decode cX8_lays1 0 = .ok (.aload_n 0, 1) := by decide +kernel
theorem dX8_lays1_1 : decode cX8_lays1 1 = .ok (.aload_n 0, 1) := by decide +kernel
theorem dX8_lays1_2 : decode cX8_lays1 2 = .ok (.getfield 233, 3) := by decide +kernel
theorem dX8_lays1_5 : decode cX8_lays1 5 = .ok (.putfield 147, 3) := by decide +kernel
theorem dX8_lays1_8 : decode cX8_lays1 8 = .ok (.iconst 0, 1) := by decide +kernel
theorem dX8_lays1_9 : decode cX8_lays1 9 = .ok (.istore_n 1, 1) := by decide +kernel
theorem dX8_lays1_10 : decode cX8_lays1 10 = .ok (.iload_n 1, 1) := by decide +kernel
theorem dX8_lays1_11 : decode cX8_lays1 11 = .ok (.bipush 6, 2) := by decide +kernel
theorem dX8_lays1_13 : decode cX8_lays1 13 = .ok (.if_icmp .ge 21, 3) := by decide +kernel
theorem dX8_lays1_16 : decode cX8_lays1 16 = .ok (.aload_n 0, 1) := by decide +kernel
theorem dX8_lays1_17 : decode cX8_lays1 17 = .ok (.getfield 42, 3) := by decide +kernel
theorem dX8_lays1_20 : decode cX8_lays1 20 = .ok (.iload_n 1, 1) := by decide +kernel
theorem dX8_lays1_21 : decode cX8_lays1 21 = .ok (.aload_n 0, 1) := by decide +kernel
theorem dX8_lays1_22 : decode cX8_lays1 22 = .ok (.getfield 57, 3) := by decide +kernel
theorem dX8_lays1_25 : decode cX8_lays1 25 = .ok (.iload_n 1, 1) := by decide +kernel
theorem dX8_lays1_26 : decode cX8_lays1 26 = .ok (.iaload, 1) := by decide +kernel
theorem dX8_lays1_27 : decode cX8_lays1 27 = .ok (.iastore, 1) := by decide +kernel
theorem dX8_lays1_28 : decode cX8_lays1 28 = .ok (.iinc 1 1, 3) := by decide +kernel
theorem dX8_lays1_31 : decode cX8_lays1 31 = .ok (.goto (-21), 3) := by decide +kernel
theorem dX8_lays1_34 : decode cX8_lays1 34 = .ok (.return_, 1) := by decide +kernel
theorem dX8_roll_0 : decode cX8_roll 0 = .ok (.iload_n 1, 1) := by decide +kernel
theorem dX8_roll_1 : decode cX8_roll 1 = .ok (.i2l, 1) := by decide +kernel
theorem dX8_roll_2 : decode cX8_roll 2 = .ok (.lconst 0, 1) := by decide +kernel
theorem dX8_roll_3 : decode cX8_roll 3 = .ok (.ldc2_w 140, 3) := by decide +kernel
theorem dX8_roll_6 : decode cX8_roll 6 = .ok (.invokestatic 129, 3) := by decide +kernel
theorem dX8_roll_9 : decode cX8_roll 9 = .ok (.ifCond .ne 10, 3) := by decide +kernel
theorem dX8_roll_12 : decode cX8_roll 12 = .ok (.aload_n 0, 1) := by decide +kernel
theorem dX8_roll_13 : decode cX8_roll 13 = .ok (.bipush (-2), 2) := by decide +kernel
theorem dX8_roll_15 : decode cX8_roll 15 = .ok (.invokevirtual 13, 3) := by decide +kernel
theorem dX8_roll_18 : decode cX8_roll 18 = .ok (.ireturn, 1) := by decide +kernel
theorem dX8_roll_19 : decode cX8_roll 19 = .ok (.aload_n 0, 1) := by decide +kernel
theorem dX8_roll_20 : decode cX8_roll 20 = .ok (.getfield 38, 3) := by decide +kernel
theorem dX8_roll_23 : decode cX8_roll 23 = .ok (.ifCond .eq 11, 3) := by decide +kernel
theorem dX8_roll_26 : decode cX8_roll 26 = .ok (.aload_n 0, 1) := by decide +kernel
theorem dX8_roll_27 : decode cX8_roll 27 = .ok (.iload_n 1, 1) := by decide +kernel
theorem dX8_roll_28 : decode cX8_roll 28 = .ok (.invokevirtual 239, 3) := by decide +kernel
theorem dX8_roll_31 : decode cX8_roll 31 = .ok (.ifCond .ne 10, 3) := by decide +kernel
theorem dX8_roll_34 : decode cX8_roll 34 = .ok (.aload_n 0, 1) := by decide +kernel
theorem dX8_roll_35 : decode cX8_roll 35 = .ok (.bipush (-3), 2) := by decide +kernel
theorem dX8_roll_37 : decode cX8_roll 37 = .ok (.invokevirtual 13, 3) := by decide +kernel
theorem dX8_roll_40 : decode cX8_roll 40 = .ok (.ireturn, 1) := by decide +kernel
theorem dX8_roll_41 : decode cX8_roll 41 = .ok (.aload_n 0, 1) := by decide +kernel
theorem dX8_roll_42 : decode cX8_roll 42 = .ok (.invokevirtual 221, 3) := by decide +kernel
theorem dX8_roll_45 : decode cX8_roll 45 = .ok (.ireturn, 1) := by decide +kernel
theorem dX8_ways_0 : decode cX8_ways 0 = .ok (.aload_n 0, 1) := by decide +kernel
theorem dX8_ways_1 : decode cX8_ways 1 = .ok (.getfield 38, 3) := by decide +kernel
theorem dX8_ways_4 : decode cX8_ways 4 = .ok (.ifCond .ne 10, 3) := by decide +kernel
theorem dX8_ways_7 : decode cX8_ways 7 = .ok (.aload_n 0, 1) := by decide +kernel
theorem dX8_ways_8 : decode cX8_ways 8 = .ok (.bipush (-3), 2) := by decide +kernel
theorem dX8_ways_10 : decode cX8_ways 10 = .ok (.invokevirtual 13, 3) := by decide +kernel
theorem dX8_ways_13 : decode cX8_ways 13 = .ok (.ireturn, 1) := by decide +kernel
theorem dX8_ways_14 : decode cX8_ways 14 = .ok (.aload_n 0, 1) := by decide +kernel
theorem dX8_ways_15 : decode cX8_ways 15 = .ok (.invokevirtual 227, 3) := by decide +kernel
theorem dX8_ways_18 : decode cX8_ways 18 = .ok (.iconst 0, 1) := by decide +kernel
theorem dX8_ways_19 : decode cX8_ways 19 = .ok (.istore_n 1, 1) := by decide +kernel
theorem dX8_ways_20 : decode cX8_ways 20 = .ok (.iconst 0, 1) := by decide +kernel
theorem dX8_ways_21 : decode cX8_ways 21 = .ok (.istore_n 2, 1) := by decide +kernel
theorem dX8_ways_22 : decode cX8_ways 22 = .ok (.iload_n 2, 1) := by decide +kernel
theorem dX8_ways_23 : decode cX8_ways 23 = .ok (.iconst 4, 1) := by decide +kernel
theorem dX8_ways_24 : decode cX8_ways 24 = .ok (.if_icmp .ge 27, 3) := by decide +kernel
theorem dX8_ways_27 : decode cX8_ways 27 = .ok (.aload_n 0, 1) := by decide +kernel
theorem dX8_ways_28 : decode cX8_ways 28 = .ok (.iload_n 2, 1) := by decide +kernel
theorem dX8_ways_29 : decode cX8_ways 29 = .ok (.invokevirtual 230, 3) := by decide +kernel
theorem dX8_ways_32 : decode cX8_ways 32 = .ok (.ifCond .eq 13, 3) := by decide +kernel
theorem dX8_ways_35 : decode cX8_ways 35 = .ok (.iload_n 1, 1) := by decide +kernel
theorem dX8_ways_36 : decode cX8_ways 36 = .ok (.iconst 1, 1) := by decide +kernel
theorem dX8_ways_37 : decode cX8_ways 37 = .ok (.iload_n 2, 1) := by decide +kernel
theorem dX8_ways_38 : decode cX8_ways 38 = .ok (.ishl, 1) := by decide +kernel
theorem dX8_ways_39 : decode cX8_ways 39 = .ok (.ior, 1) := by decide +kernel
theorem dX8_ways_40 : decode cX8_ways 40 = .ok (.istore_n 1, 1) := by decide +kernel
theorem dX8_ways_41 : decode cX8_ways 41 = .ok (.aload_n 0, 1) := by decide +kernel
theorem dX8_ways_42 : decode cX8_ways 42 = .ok (.invokevirtual 242, 3) := by decide +kernel
theorem dX8_ways_45 : decode cX8_ways 45 = .ok (.iinc 2 1, 3) := by decide +kernel
theorem dX8_ways_48 : decode cX8_ways 48 = .ok (.goto (-26), 3) := by decide +kernel
theorem dX8_ways_51 : decode cX8_ways 51 = .ok (.iload_n 1, 1) := by decide +kernel
theorem dX8_ways_52 : decode cX8_ways 52 = .ok (.ireturn, 1) := by decide +kernel
theorem dX8_wayOf_0 : decode cX8_wayOf 0 = .ok (.iload_n 0, 1) := by decide +kernel
theorem dX8_wayOf_1 : decode cX8_wayOf 1 = .ok (.bipush 117, 2) := by decide +kernel
theorem dX8_wayOf_3 : decode cX8_wayOf 3 = .ok (.if_icmp .ne 7, 3) := by decide +kernel
theorem dX8_wayOf_6 : decode cX8_wayOf 6 = .ok (.iconst 0, 1) := by decide +kernel
theorem dX8_wayOf_7 : decode cX8_wayOf 7 = .ok (.goto 34, 3) := by decide +kernel
theorem dX8_wayOf_10 : decode cX8_wayOf 10 = .ok (.iload_n 0, 1) := by decide +kernel
theorem dX8_wayOf_11 : decode cX8_wayOf 11 = .ok (.bipush 114, 2) := by decide +kernel
theorem dX8_wayOf_13 : decode cX8_wayOf 13 = .ok (.if_icmp .ne 7, 3) := by decide +kernel
theorem dX8_wayOf_16 : decode cX8_wayOf 16 = .ok (.iconst 1, 1) := by decide +kernel
theorem dX8_wayOf_17 : decode cX8_wayOf 17 = .ok (.goto 24, 3) := by decide +kernel
theorem dX8_wayOf_20 : decode cX8_wayOf 20 = .ok (.iload_n 0, 1) := by decide +kernel
theorem dX8_wayOf_21 : decode cX8_wayOf 21 = .ok (.bipush 100, 2) := by decide +kernel
theorem dX8_wayOf_23 : decode cX8_wayOf 23 = .ok (.if_icmp .ne 7, 3) := by decide +kernel
theorem dX8_wayOf_26 : decode cX8_wayOf 26 = .ok (.iconst 2, 1) := by decide +kernel
theorem dX8_wayOf_27 : decode cX8_wayOf 27 = .ok (.goto 14, 3) := by decide +kernel
theorem dX8_wayOf_30 : decode cX8_wayOf 30 = .ok (.iload_n 0, 1) := by decide +kernel
theorem dX8_wayOf_31 : decode cX8_wayOf 31 = .ok (.bipush 108, 2) := by decide +kernel
theorem dX8_wayOf_33 : decode cX8_wayOf 33 = .ok (.if_icmp .ne 7, 3) := by decide +kernel
theorem dX8_wayOf_36 : decode cX8_wayOf 36 = .ok (.iconst 3, 1) := by decide +kernel
theorem dX8_wayOf_37 : decode cX8_wayOf 37 = .ok (.goto 4, 3) := by decide +kernel
theorem dX8_wayOf_40 : decode cX8_wayOf 40 = .ok (.iconst (-1), 1) := by decide +kernel
theorem dX8_wayOf_41 : decode cX8_wayOf 41 = .ok (.ireturn, 1) := by decide +kernel
theorem dX8_walks_0 : decode cX8_walks 0 = .ok (.aload_n 0, 1) := by decide +kernel
theorem dX8_walks_1 : decode cX8_walks 1 = .ok (.getfield 38, 3) := by decide +kernel
theorem dX8_walks_4 : decode cX8_walks 4 = .ok (.ifCond .ne 10, 3) := by decide +kernel
theorem dX8_walks_7 : decode cX8_walks 7 = .ok (.aload_n 0, 1) := by decide +kernel
theorem dX8_walks_8 : decode cX8_walks 8 = .ok (.bipush (-3), 2) := by decide +kernel
theorem dX8_walks_10 : decode cX8_walks 10 = .ok (.invokevirtual 13, 3) := by decide +kernel
theorem dX8_walks_13 : decode cX8_walks 13 = .ok (.ireturn, 1) := by decide +kernel
theorem dX8_walks_14 : decode cX8_walks 14 = .ok (.iconst 0, 1) := by decide +kernel
theorem dX8_walks_15 : decode cX8_walks 15 = .ok (.istore_n 1, 1) := by decide +kernel
theorem dX8_walks_16 : decode cX8_walks 16 = .ok (.iload_n 1, 1) := by decide +kernel
theorem dX8_walks_17 : decode cX8_walks 17 = .ok (.aload_n 0, 1) := by decide +kernel
theorem dX8_walks_18 : decode cX8_walks 18 = .ok (.getfield 183, 3) := by decide +kernel
theorem dX8_walks_21 : decode cX8_walks 21 = .ok (.if_icmp .ge 37, 3) := by decide +kernel
theorem dX8_walks_24 : decode cX8_walks 24 = .ok (.aload_n 0, 1) := by decide +kernel
theorem dX8_walks_25 : decode cX8_walks 25 = .ok (.getfield 51, 3) := by decide +kernel
theorem dX8_walks_28 : decode cX8_walks 28 = .ok (.iload_n 1, 1) := by decide +kernel
theorem dX8_walks_29 : decode cX8_walks 29 = .ok (.iaload, 1) := by decide +kernel
theorem dX8_walks_30 : decode cX8_walks 30 = .ok (.invokestatic 245, 3) := by decide +kernel
theorem dX8_walks_33 : decode cX8_walks 33 = .ok (.ifCond .lt 25, 3) := by decide +kernel
theorem dX8_walks_36 : decode cX8_walks 36 = .ok (.aload_n 0, 1) := by decide +kernel
theorem dX8_walks_37 : decode cX8_walks 37 = .ok (.aload_n 0, 1) := by decide +kernel
theorem dX8_walks_38 : decode cX8_walks 38 = .ok (.getfield 51, 3) := by decide +kernel
theorem dX8_walks_41 : decode cX8_walks 41 = .ok (.iload_n 1, 1) := by decide +kernel
theorem dX8_walks_42 : decode cX8_walks 42 = .ok (.iaload, 1) := by decide +kernel
theorem dX8_walks_43 : decode cX8_walks 43 = .ok (.invokestatic 245, 3) := by decide +kernel
theorem dX8_walks_46 : decode cX8_walks 46 = .ok (.invokevirtual 239, 3) := by decide +kernel
theorem dX8_walks_49 : decode cX8_walks 49 = .ok (.ifCond .eq 9, 3) := by decide +kernel
theorem dX8_walks_52 : decode cX8_walks 52 = .ok (.iinc 1 1, 3) := by decide +kernel
theorem dX8_walks_55 : decode cX8_walks 55 = .ok (.goto (-39), 3) := by decide +kernel
theorem dX8_walks_58 : decode cX8_walks 58 = .ok (.aload_n 0, 1) := by decide +kernel
theorem dX8_walks_59 : decode cX8_walks 59 = .ok (.iconst 0, 1) := by decide +kernel
theorem dX8_walks_60 : decode cX8_walks 60 = .ok (.putfield 183, 3) := by decide +kernel
theorem dX8_walks_63 : decode cX8_walks 63 = .ok (.iload_n 1, 1) := by decide +kernel
theorem dX8_walks_64 : decode cX8_walks 64 = .ok (.ireturn, 1) := by decide +kernel
theorem dX8_judge_0 : decode cX8_judge 0 = .ok (.aload_n 0, 1) := by decide +kernel
theorem dX8_judge_1 : decode cX8_judge 1 = .ok (.getfield 38, 3) := by decide +kernel
theorem dX8_judge_4 : decode cX8_judge 4 = .ok (.ifCond .ne 10, 3) := by decide +kernel
theorem dX8_judge_7 : decode cX8_judge 7 = .ok (.aload_n 0, 1) := by decide +kernel
theorem dX8_judge_8 : decode cX8_judge 8 = .ok (.bipush (-3), 2) := by decide +kernel
theorem dX8_judge_10 : decode cX8_judge 10 = .ok (.invokevirtual 13, 3) := by decide +kernel
theorem dX8_judge_13 : decode cX8_judge 13 = .ok (.ireturn, 1) := by decide +kernel
theorem dX8_judge_14 : decode cX8_judge 14 = .ok (.aload_n 0, 1) := by decide +kernel
theorem dX8_judge_15 : decode cX8_judge 15 = .ok (.invokevirtual 227, 3) := by decide +kernel
theorem dX8_judge_18 : decode cX8_judge 18 = .ok (.aload_n 0, 1) := by decide +kernel
theorem dX8_judge_19 : decode cX8_judge 19 = .ok (.getfield 147, 3) := by decide +kernel
theorem dX8_judge_22 : decode cX8_judge 22 = .ok (.istore_n 1, 1) := by decide +kernel
theorem dX8_judge_23 : decode cX8_judge 23 = .ok (.iconst 0, 1) := by decide +kernel
theorem dX8_judge_24 : decode cX8_judge 24 = .ok (.istore_n 2, 1) := by decide +kernel
theorem dX8_judge_25 : decode cX8_judge 25 = .ok (.iload_n 2, 1) := by decide +kernel
theorem dX8_judge_26 : decode cX8_judge 26 = .ok (.aload_n 0, 1) := by decide +kernel
theorem dX8_judge_27 : decode cX8_judge 27 = .ok (.getfield 183, 3) := by decide +kernel
theorem dX8_judge_30 : decode cX8_judge 30 = .ok (.if_icmp .ge 37, 3) := by decide +kernel
theorem dX8_judge_33 : decode cX8_judge 33 = .ok (.aload_n 0, 1) := by decide +kernel
theorem dX8_judge_34 : decode cX8_judge 34 = .ok (.getfield 51, 3) := by decide +kernel
theorem dX8_judge_37 : decode cX8_judge 37 = .ok (.iload_n 2, 1) := by decide +kernel
theorem dX8_judge_38 : decode cX8_judge 38 = .ok (.iaload, 1) := by decide +kernel
theorem dX8_judge_39 : decode cX8_judge 39 = .ok (.invokestatic 245, 3) := by decide +kernel
theorem dX8_judge_42 : decode cX8_judge 42 = .ok (.ifCond .lt 25, 3) := by decide +kernel
theorem dX8_judge_45 : decode cX8_judge 45 = .ok (.aload_n 0, 1) := by decide +kernel
theorem dX8_judge_46 : decode cX8_judge 46 = .ok (.aload_n 0, 1) := by decide +kernel
theorem dX8_judge_47 : decode cX8_judge 47 = .ok (.getfield 51, 3) := by decide +kernel
theorem dX8_judge_50 : decode cX8_judge 50 = .ok (.iload_n 2, 1) := by decide +kernel
theorem dX8_judge_51 : decode cX8_judge 51 = .ok (.iaload, 1) := by decide +kernel
theorem dX8_judge_52 : decode cX8_judge 52 = .ok (.invokestatic 245, 3) := by decide +kernel
theorem dX8_judge_55 : decode cX8_judge 55 = .ok (.invokevirtual 230, 3) := by decide +kernel
theorem dX8_judge_58 : decode cX8_judge 58 = .ok (.ifCond .eq 9, 3) := by decide +kernel
theorem dX8_judge_61 : decode cX8_judge 61 = .ok (.iinc 2 1, 3) := by decide +kernel
theorem dX8_judge_64 : decode cX8_judge 64 = .ok (.goto (-39), 3) := by decide +kernel
theorem dX8_judge_67 : decode cX8_judge 67 = .ok (.aload_n 0, 1) := by decide +kernel
theorem dX8_judge_68 : decode cX8_judge 68 = .ok (.invokevirtual 242, 3) := by decide +kernel
theorem dX8_judge_71 : decode cX8_judge 71 = .ok (.iload_n 2, 1) := by decide +kernel
theorem dX8_judge_72 : decode cX8_judge 72 = .ok (.aload_n 0, 1) := by decide +kernel
theorem dX8_judge_73 : decode cX8_judge 73 = .ok (.getfield 183, 3) := by decide +kernel
theorem dX8_judge_76 : decode cX8_judge 76 = .ok (.if_icmp .ge 7, 3) := by decide +kernel
theorem dX8_judge_79 : decode cX8_judge 79 = .ok (.iload_n 2, 1) := by decide +kernel
theorem dX8_judge_80 : decode cX8_judge 80 = .ok (.goto 5, 3) := by decide +kernel
theorem dX8_judge_83 : decode cX8_judge 83 = .ok (.bipush (-9), 2) := by decide +kernel
theorem dX8_judge_85 : decode cX8_judge 85 = .ok (.ireturn, 1) := by decide +kernel
theorem dX8_undo_0 : decode cX8_undo 0 = .ok (.aload_n 0, 1) := by decide +kernel
theorem dX8_undo_1 : decode cX8_undo 1 = .ok (.getfield 198, 3) := by decide +kernel
theorem dX8_undo_4 : decode cX8_undo 4 = .ok (.ifCond .ne 10, 3) := by decide +kernel
theorem dX8_undo_7 : decode cX8_undo 7 = .ok (.aload_n 0, 1) := by decide +kernel
theorem dX8_undo_8 : decode cX8_undo 8 = .ok (.bipush (-3), 2) := by decide +kernel
theorem dX8_undo_10 : decode cX8_undo 10 = .ok (.invokevirtual 13, 3) := by decide +kernel
theorem dX8_undo_13 : decode cX8_undo 13 = .ok (.ireturn, 1) := by decide +kernel
theorem dX8_undo_14 : decode cX8_undo 14 = .ok (.aload_n 0, 1) := by decide +kernel
theorem dX8_undo_15 : decode cX8_undo 15 = .ok (.dup, 1) := by decide +kernel
theorem dX8_undo_16 : decode cX8_undo 16 = .ok (.getfield 198, 3) := by decide +kernel
theorem dX8_undo_19 : decode cX8_undo 19 = .ok (.iconst 1, 1) := by decide +kernel
theorem dX8_undo_20 : decode cX8_undo 20 = .ok (.isub, 1) := by decide +kernel
theorem dX8_undo_21 : decode cX8_undo 21 = .ok (.putfield 198, 3) := by decide +kernel
theorem dX8_undo_24 : decode cX8_undo 24 = .ok (.bipush 64, 2) := by decide +kernel
theorem dX8_undo_26 : decode cX8_undo 26 = .ok (.aload_n 0, 1) := by decide +kernel
theorem dX8_undo_27 : decode cX8_undo 27 = .ok (.getfield 198, 3) := by decide +kernel
theorem dX8_undo_30 : decode cX8_undo 30 = .ok (.imul, 1) := by decide +kernel
theorem dX8_undo_31 : decode cX8_undo 31 = .ok (.istore_n 1, 1) := by decide +kernel
theorem dX8_undo_32 : decode cX8_undo 32 = .ok (.aload_n 0, 1) := by decide +kernel
theorem dX8_undo_33 : decode cX8_undo 33 = .ok (.aload_n 0, 1) := by decide +kernel
theorem dX8_undo_34 : decode cX8_undo 34 = .ok (.getfield 54, 3) := by decide +kernel
theorem dX8_undo_37 : decode cX8_undo 37 = .ok (.iload_n 1, 1) := by decide +kernel
theorem dX8_undo_38 : decode cX8_undo 38 = .ok (.iaload, 1) := by decide +kernel
theorem dX8_undo_39 : decode cX8_undo 39 = .ok (.putfield 147, 3) := by decide +kernel
theorem dX8_undo_42 : decode cX8_undo 42 = .ok (.iconst 0, 1) := by decide +kernel
theorem dX8_undo_43 : decode cX8_undo 43 = .ok (.istore_n 2, 1) := by decide +kernel
theorem dX8_undo_44 : decode cX8_undo 44 = .ok (.iload_n 2, 1) := by decide +kernel
theorem dX8_undo_45 : decode cX8_undo 45 = .ok (.bipush 6, 2) := by decide +kernel
theorem dX8_undo_47 : decode cX8_undo 47 = .ok (.if_icmp .ge 25, 3) := by decide +kernel
theorem dX8_undo_50 : decode cX8_undo 50 = .ok (.aload_n 0, 1) := by decide +kernel
theorem dX8_undo_51 : decode cX8_undo 51 = .ok (.getfield 42, 3) := by decide +kernel
theorem dX8_undo_54 : decode cX8_undo 54 = .ok (.iload_n 2, 1) := by decide +kernel
theorem dX8_undo_55 : decode cX8_undo 55 = .ok (.aload_n 0, 1) := by decide +kernel
theorem dX8_undo_56 : decode cX8_undo 56 = .ok (.getfield 54, 3) := by decide +kernel
theorem dX8_undo_59 : decode cX8_undo 59 = .ok (.iload_n 1, 1) := by decide +kernel
theorem dX8_undo_60 : decode cX8_undo 60 = .ok (.iconst 1, 1) := by decide +kernel
theorem dX8_undo_61 : decode cX8_undo 61 = .ok (.iadd, 1) := by decide +kernel
theorem dX8_undo_62 : decode cX8_undo 62 = .ok (.iload_n 2, 1) := by decide +kernel
theorem dX8_undo_63 : decode cX8_undo 63 = .ok (.iadd, 1) := by decide +kernel
theorem dX8_undo_64 : decode cX8_undo 64 = .ok (.iaload, 1) := by decide +kernel
theorem dX8_undo_65 : decode cX8_undo 65 = .ok (.iastore, 1) := by decide +kernel
theorem dX8_undo_66 : decode cX8_undo 66 = .ok (.iinc 2 1, 3) := by decide +kernel
theorem dX8_undo_69 : decode cX8_undo 69 = .ok (.goto (-25), 3) := by decide +kernel
theorem dX8_undo_72 : decode cX8_undo 72 = .ok (.iconst 0, 1) := by decide +kernel
theorem dX8_undo_73 : decode cX8_undo 73 = .ok (.istore_n 2, 1) := by decide +kernel
theorem dX8_undo_74 : decode cX8_undo 74 = .ok (.iload_n 2, 1) := by decide +kernel
theorem dX8_undo_75 : decode cX8_undo 75 = .ok (.bipush 36, 2) := by decide +kernel
theorem dX8_undo_77 : decode cX8_undo 77 = .ok (.if_icmp .ge 26, 3) := by decide +kernel
theorem dX8_undo_80 : decode cX8_undo 80 = .ok (.aload_n 0, 1) := by decide +kernel
theorem dX8_undo_81 : decode cX8_undo 81 = .ok (.getfield 32, 3) := by decide +kernel
theorem dX8_undo_84 : decode cX8_undo 84 = .ok (.iload_n 2, 1) := by decide +kernel
theorem dX8_undo_85 : decode cX8_undo 85 = .ok (.aload_n 0, 1) := by decide +kernel
theorem dX8_undo_86 : decode cX8_undo 86 = .ok (.getfield 54, 3) := by decide +kernel
theorem dX8_undo_89 : decode cX8_undo 89 = .ok (.iload_n 1, 1) := by decide +kernel
theorem dX8_undo_90 : decode cX8_undo 90 = .ok (.bipush 7, 2) := by decide +kernel
theorem dX8_undo_92 : decode cX8_undo 92 = .ok (.iadd, 1) := by decide +kernel
theorem dX8_undo_93 : decode cX8_undo 93 = .ok (.iload_n 2, 1) := by decide +kernel
theorem dX8_undo_94 : decode cX8_undo 94 = .ok (.iadd, 1) := by decide +kernel
theorem dX8_undo_95 : decode cX8_undo 95 = .ok (.iaload, 1) := by decide +kernel
theorem dX8_undo_96 : decode cX8_undo 96 = .ok (.iastore, 1) := by decide +kernel
theorem dX8_undo_97 : decode cX8_undo 97 = .ok (.iinc 2 1, 3) := by decide +kernel
theorem dX8_undo_100 : decode cX8_undo 100 = .ok (.goto (-26), 3) := by decide +kernel
theorem dX8_undo_103 : decode cX8_undo 103 = .ok (.aload_n 0, 1) := by decide +kernel
theorem dX8_undo_104 : decode cX8_undo 104 = .ok (.getfield 198, 3) := by decide +kernel
theorem dX8_undo_107 : decode cX8_undo 107 = .ok (.ireturn, 1) := by decide +kernel
theorem dX8_key_0 : decode cX8_key 0 = .ok (.bipush 64, 2) := by decide +kernel
theorem dX8_key_2 : decode cX8_key 2 = .ok (.aload_n 0, 1) := by decide +kernel
theorem dX8_key_3 : decode cX8_key 3 = .ok (.getfield 147, 3) := by decide +kernel
theorem dX8_key_6 : decode cX8_key 6 = .ok (.imul, 1) := by decide +kernel
theorem dX8_key_7 : decode cX8_key 7 = .ok (.aload_n 0, 1) := by decide +kernel
theorem dX8_key_8 : decode cX8_key 8 = .ok (.invokevirtual 136, 3) := by decide +kernel
theorem dX8_key_11 : decode cX8_key 11 = .ok (.ifCond .eq 31, 3) := by decide +kernel
theorem dX8_key_14 : decode cX8_key 14 = .ok (.bipush 16, 2) := by decide +kernel
theorem dX8_key_16 : decode cX8_key 16 = .ok (.aload_n 0, 1) := by decide +kernel
theorem dX8_key_17 : decode cX8_key 17 = .ok (.getfield 42, 3) := by decide +kernel
theorem dX8_key_20 : decode cX8_key 20 = .ok (.iconst 0, 1) := by decide +kernel
theorem dX8_key_21 : decode cX8_key 21 = .ok (.iaload, 1) := by decide +kernel
theorem dX8_key_22 : decode cX8_key 22 = .ok (.imul, 1) := by decide +kernel
theorem dX8_key_23 : decode cX8_key 23 = .ok (.iconst 4, 1) := by decide +kernel
theorem dX8_key_24 : decode cX8_key 24 = .ok (.aload_n 0, 1) := by decide +kernel
theorem dX8_key_25 : decode cX8_key 25 = .ok (.getfield 42, 3) := by decide +kernel
theorem dX8_key_28 : decode cX8_key 28 = .ok (.iconst 1, 1) := by decide +kernel
theorem dX8_key_29 : decode cX8_key 29 = .ok (.iaload, 1) := by decide +kernel
theorem dX8_key_30 : decode cX8_key 30 = .ok (.imul, 1) := by decide +kernel
theorem dX8_key_31 : decode cX8_key 31 = .ok (.iadd, 1) := by decide +kernel
theorem dX8_key_32 : decode cX8_key 32 = .ok (.aload_n 0, 1) := by decide +kernel
theorem dX8_key_33 : decode cX8_key 33 = .ok (.getfield 42, 3) := by decide +kernel
theorem dX8_key_36 : decode cX8_key 36 = .ok (.iconst 2, 1) := by decide +kernel
theorem dX8_key_37 : decode cX8_key 37 = .ok (.iaload, 1) := by decide +kernel
theorem dX8_key_38 : decode cX8_key 38 = .ok (.iadd, 1) := by decide +kernel
theorem dX8_key_39 : decode cX8_key 39 = .ok (.goto 19, 3) := by decide +kernel
theorem dX8_key_42 : decode cX8_key 42 = .ok (.bipush 6, 2) := by decide +kernel
theorem dX8_key_44 : decode cX8_key 44 = .ok (.aload_n 0, 1) := by decide +kernel
theorem dX8_key_45 : decode cX8_key 45 = .ok (.getfield 42, 3) := by decide +kernel
theorem dX8_key_48 : decode cX8_key 48 = .ok (.iconst 1, 1) := by decide +kernel
theorem dX8_key_49 : decode cX8_key 49 = .ok (.iaload, 1) := by decide +kernel
theorem dX8_key_50 : decode cX8_key 50 = .ok (.imul, 1) := by decide +kernel
theorem dX8_key_51 : decode cX8_key 51 = .ok (.aload_n 0, 1) := by decide +kernel
theorem dX8_key_52 : decode cX8_key 52 = .ok (.getfield 42, 3) := by decide +kernel
theorem dX8_key_55 : decode cX8_key 55 = .ok (.iconst 3, 1) := by decide +kernel
theorem dX8_key_56 : decode cX8_key 56 = .ok (.iaload, 1) := by decide +kernel
theorem dX8_key_57 : decode cX8_key 57 = .ok (.iadd, 1) := by decide +kernel
theorem dX8_key_58 : decode cX8_key 58 = .ok (.iadd, 1) := by decide +kernel
theorem dX8_key_59 : decode cX8_key 59 = .ok (.ireturn, 1) := by decide +kernel
theorem dX8_loads_0 : decode cX8_loads 0 = .ok (.aload_n 0, 1) := by decide +kernel
theorem dX8_loads_1 : decode cX8_loads 1 = .ok (.aload_n 0, 1) := by decide +kernel
theorem dX8_loads_2 : decode cX8_loads 2 = .ok (.getfield 63, 3) := by decide +kernel
theorem dX8_loads_5 : decode cX8_loads 5 = .ok (.iload_n 1, 1) := by decide +kernel
theorem dX8_loads_6 : decode cX8_loads 6 = .ok (.iaload, 1) := by decide +kernel
theorem dX8_loads_7 : decode cX8_loads 7 = .ok (.putfield 147, 3) := by decide +kernel
theorem dX8_loads_10 : decode cX8_loads 10 = .ok (.iconst 0, 1) := by decide +kernel
theorem dX8_loads_11 : decode cX8_loads 11 = .ok (.istore_n 2, 1) := by decide +kernel
theorem dX8_loads_12 : decode cX8_loads 12 = .ok (.iload_n 2, 1) := by decide +kernel
theorem dX8_loads_13 : decode cX8_loads 13 = .ok (.bipush 6, 2) := by decide +kernel
theorem dX8_loads_15 : decode cX8_loads 15 = .ok (.if_icmp .ge 26, 3) := by decide +kernel
theorem dX8_loads_18 : decode cX8_loads 18 = .ok (.aload_n 0, 1) := by decide +kernel
theorem dX8_loads_19 : decode cX8_loads 19 = .ok (.getfield 42, 3) := by decide +kernel
theorem dX8_loads_22 : decode cX8_loads 22 = .ok (.iload_n 2, 1) := by decide +kernel
theorem dX8_loads_23 : decode cX8_loads 23 = .ok (.aload_n 0, 1) := by decide +kernel
theorem dX8_loads_24 : decode cX8_loads 24 = .ok (.getfield 66, 3) := by decide +kernel
theorem dX8_loads_27 : decode cX8_loads 27 = .ok (.bipush 6, 2) := by decide +kernel
theorem dX8_loads_29 : decode cX8_loads 29 = .ok (.iload_n 1, 1) := by decide +kernel
theorem dX8_loads_30 : decode cX8_loads 30 = .ok (.imul, 1) := by decide +kernel
theorem dX8_loads_31 : decode cX8_loads 31 = .ok (.iload_n 2, 1) := by decide +kernel
theorem dX8_loads_32 : decode cX8_loads 32 = .ok (.iadd, 1) := by decide +kernel
theorem dX8_loads_33 : decode cX8_loads 33 = .ok (.iaload, 1) := by decide +kernel
theorem dX8_loads_34 : decode cX8_loads 34 = .ok (.iastore, 1) := by decide +kernel
theorem dX8_loads_35 : decode cX8_loads 35 = .ok (.iinc 2 1, 3) := by decide +kernel
theorem dX8_loads_38 : decode cX8_loads 38 = .ok (.goto (-26), 3) := by decide +kernel
theorem dX8_loads_41 : decode cX8_loads 41 = .ok (.return_, 1) := by decide +kernel
theorem dX8_found_0 : decode cX8_found 0 = .ok (.aload_n 0, 1) := by decide +kernel
theorem dX8_found_1 : decode cX8_found 1 = .ok (.invokevirtual 248, 3) := by decide +kernel
theorem dX8_found_4 : decode cX8_found 4 = .ok (.istore_n 2, 1) := by decide +kernel
theorem dX8_found_5 : decode cX8_found 5 = .ok (.aload_n 0, 1) := by decide +kernel
theorem dX8_found_6 : decode cX8_found 6 = .ok (.getfield 60, 3) := by decide +kernel
theorem dX8_found_9 : decode cX8_found 9 = .ok (.iload_n 2, 1) := by decide +kernel
theorem dX8_found_10 : decode cX8_found 10 = .ok (.iaload, 1) := by decide +kernel
theorem dX8_found_11 : decode cX8_found 11 = .ok (.ifCond .ge 80, 3) := by decide +kernel
theorem dX8_found_14 : decode cX8_found 14 = .ok (.aload_n 0, 1) := by decide +kernel
theorem dX8_found_15 : decode cX8_found 15 = .ok (.getfield 60, 3) := by decide +kernel
theorem dX8_found_18 : decode cX8_found 18 = .ok (.iload_n 2, 1) := by decide +kernel
theorem dX8_found_19 : decode cX8_found 19 = .ok (.aload_n 0, 1) := by decide +kernel
theorem dX8_found_20 : decode cX8_found 20 = .ok (.getfield 251, 3) := by decide +kernel
theorem dX8_found_23 : decode cX8_found 23 = .ok (.iastore, 1) := by decide +kernel
theorem dX8_found_24 : decode cX8_found 24 = .ok (.aload_n 0, 1) := by decide +kernel
theorem dX8_found_25 : decode cX8_found 25 = .ok (.getfield 63, 3) := by decide +kernel
theorem dX8_found_28 : decode cX8_found 28 = .ok (.aload_n 0, 1) := by decide +kernel
theorem dX8_found_29 : decode cX8_found 29 = .ok (.getfield 251, 3) := by decide +kernel
theorem dX8_found_32 : decode cX8_found 32 = .ok (.aload_n 0, 1) := by decide +kernel
theorem dX8_found_33 : decode cX8_found 33 = .ok (.getfield 147, 3) := by decide +kernel
theorem dX8_found_36 : decode cX8_found 36 = .ok (.iastore, 1) := by decide +kernel
theorem dX8_found_37 : decode cX8_found 37 = .ok (.iconst 0, 1) := by decide +kernel
theorem dX8_found_38 : decode cX8_found 38 = .ok (.istore_n 3, 1) := by decide +kernel
theorem dX8_found_39 : decode cX8_found 39 = .ok (.iload_n 3, 1) := by decide +kernel
theorem dX8_found_40 : decode cX8_found 40 = .ok (.bipush 6, 2) := by decide +kernel
theorem dX8_found_42 : decode cX8_found 42 = .ok (.if_icmp .ge 29, 3) := by decide +kernel
theorem dX8_found_45 : decode cX8_found 45 = .ok (.aload_n 0, 1) := by decide +kernel
theorem dX8_found_46 : decode cX8_found 46 = .ok (.getfield 66, 3) := by decide +kernel
theorem dX8_found_49 : decode cX8_found 49 = .ok (.bipush 6, 2) := by decide +kernel
theorem dX8_found_51 : decode cX8_found 51 = .ok (.aload_n 0, 1) := by decide +kernel
theorem dX8_found_52 : decode cX8_found 52 = .ok (.getfield 251, 3) := by decide +kernel
theorem dX8_found_55 : decode cX8_found 55 = .ok (.imul, 1) := by decide +kernel
theorem dX8_found_56 : decode cX8_found 56 = .ok (.iload_n 3, 1) := by decide +kernel
theorem dX8_found_57 : decode cX8_found 57 = .ok (.iadd, 1) := by decide +kernel
theorem dX8_found_58 : decode cX8_found 58 = .ok (.aload_n 0, 1) := by decide +kernel
theorem dX8_found_59 : decode cX8_found 59 = .ok (.getfield 42, 3) := by decide +kernel
theorem dX8_found_62 : decode cX8_found 62 = .ok (.iload_n 3, 1) := by decide +kernel
theorem dX8_found_63 : decode cX8_found 63 = .ok (.iaload, 1) := by decide +kernel
theorem dX8_found_64 : decode cX8_found 64 = .ok (.iastore, 1) := by decide +kernel
theorem dX8_found_65 : decode cX8_found 65 = .ok (.iinc 3 1, 3) := by decide +kernel
theorem dX8_found_68 : decode cX8_found 68 = .ok (.goto (-29), 3) := by decide +kernel
theorem dX8_found_71 : decode cX8_found 71 = .ok (.aload_n 0, 1) := by decide +kernel
theorem dX8_found_72 : decode cX8_found 72 = .ok (.getfield 69, 3) := by decide +kernel
theorem dX8_found_75 : decode cX8_found 75 = .ok (.aload_n 0, 1) := by decide +kernel
theorem dX8_found_76 : decode cX8_found 76 = .ok (.getfield 251, 3) := by decide +kernel
theorem dX8_found_79 : decode cX8_found 79 = .ok (.iload_n 1, 1) := by decide +kernel
theorem dX8_found_80 : decode cX8_found 80 = .ok (.iastore, 1) := by decide +kernel
theorem dX8_found_81 : decode cX8_found 81 = .ok (.aload_n 0, 1) := by decide +kernel
theorem dX8_found_82 : decode cX8_found 82 = .ok (.dup, 1) := by decide +kernel
theorem dX8_found_83 : decode cX8_found 83 = .ok (.getfield 251, 3) := by decide +kernel
theorem dX8_found_86 : decode cX8_found 86 = .ok (.iconst 1, 1) := by decide +kernel
theorem dX8_found_87 : decode cX8_found 87 = .ok (.iadd, 1) := by decide +kernel
theorem dX8_found_88 : decode cX8_found 88 = .ok (.putfield 251, 3) := by decide +kernel
theorem dX8_found_91 : decode cX8_found 91 = .ok (.aload_n 0, 1) := by decide +kernel
theorem dX8_found_92 : decode cX8_found 92 = .ok (.getfield 60, 3) := by decide +kernel
theorem dX8_found_95 : decode cX8_found 95 = .ok (.iload_n 2, 1) := by decide +kernel
theorem dX8_found_96 : decode cX8_found 96 = .ok (.iaload, 1) := by decide +kernel
theorem dX8_found_97 : decode cX8_found 97 = .ok (.ireturn, 1) := by decide +kernel
theorem dX8_goesThrough_0 : decode cX8_goesThrough 0 = .ok (.aload_n 0, 1) := by decide +kernel
theorem dX8_goesThrough_1 : decode cX8_goesThrough 1 = .ok (.invokevirtual 227, 3) := by decide +kernel
theorem dX8_goesThrough_4 : decode cX8_goesThrough 4 = .ok (.iconst 0, 1) := by decide +kernel
theorem dX8_goesThrough_5 : decode cX8_goesThrough 5 = .ok (.istore_n 1, 1) := by decide +kernel
theorem dX8_goesThrough_6 : decode cX8_goesThrough 6 = .ok (.iload_n 1, 1) := by decide +kernel
theorem dX8_goesThrough_7 : decode cX8_goesThrough 7 = .ok (.sipush 4608, 3) := by decide +kernel
theorem dX8_goesThrough_10 : decode cX8_goesThrough 10 = .ok (.if_icmp .ge 16, 3) := by decide +kernel
theorem dX8_goesThrough_13 : decode cX8_goesThrough 13 = .ok (.aload_n 0, 1) := by decide +kernel
theorem dX8_goesThrough_14 : decode cX8_goesThrough 14 = .ok (.getfield 60, 3) := by decide +kernel
theorem dX8_goesThrough_17 : decode cX8_goesThrough 17 = .ok (.iload_n 1, 1) := by decide +kernel
theorem dX8_goesThrough_18 : decode cX8_goesThrough 18 = .ok (.iconst (-1), 1) := by decide +kernel
theorem dX8_goesThrough_19 : decode cX8_goesThrough 19 = .ok (.iastore, 1) := by decide +kernel
theorem dX8_goesThrough_20 : decode cX8_goesThrough 20 = .ok (.iinc 1 1, 3) := by decide +kernel
theorem dX8_goesThrough_23 : decode cX8_goesThrough 23 = .ok (.goto (-17), 3) := by decide +kernel
theorem dX8_goesThrough_26 : decode cX8_goesThrough 26 = .ok (.aload_n 0, 1) := by decide +kernel
theorem dX8_goesThrough_27 : decode cX8_goesThrough 27 = .ok (.iconst 0, 1) := by decide +kernel
theorem dX8_goesThrough_28 : decode cX8_goesThrough 28 = .ok (.putfield 251, 3) := by decide +kernel
theorem dX8_goesThrough_31 : decode cX8_goesThrough 31 = .ok (.aload_n 0, 1) := by decide +kernel
theorem dX8_goesThrough_32 : decode cX8_goesThrough 32 = .ok (.iconst (-1), 1) := by decide +kernel
theorem dX8_goesThrough_33 : decode cX8_goesThrough 33 = .ok (.putfield 254, 3) := by decide +kernel
theorem dX8_goesThrough_36 : decode cX8_goesThrough 36 = .ok (.aload_n 0, 1) := by decide +kernel
theorem dX8_goesThrough_37 : decode cX8_goesThrough 37 = .ok (.iconst 0, 1) := by decide +kernel
theorem dX8_goesThrough_38 : decode cX8_goesThrough 38 = .ok (.invokevirtual 257, 3) := by decide +kernel
theorem dX8_goesThrough_41 : decode cX8_goesThrough 41 = .ok (.istore_n 1, 1) := by decide +kernel
theorem dX8_goesThrough_42 : decode cX8_goesThrough 42 = .ok (.iconst 0, 1) := by decide +kernel
theorem dX8_goesThrough_43 : decode cX8_goesThrough 43 = .ok (.istore_n 2, 1) := by decide +kernel
theorem dX8_goesThrough_44 : decode cX8_goesThrough 44 = .ok (.iload_n 2, 1) := by decide +kernel
theorem dX8_goesThrough_45 : decode cX8_goesThrough 45 = .ok (.aload_n 0, 1) := by decide +kernel
theorem dX8_goesThrough_46 : decode cX8_goesThrough 46 = .ok (.getfield 251, 3) := by decide +kernel
theorem dX8_goesThrough_49 : decode cX8_goesThrough 49 = .ok (.if_icmp .ge 95, 3) := by decide +kernel
theorem dX8_goesThrough_52 : decode cX8_goesThrough 52 = .ok (.iconst 0, 1) := by decide +kernel
theorem dX8_goesThrough_53 : decode cX8_goesThrough 53 = .ok (.istore_n 3, 1) := by decide +kernel
theorem dX8_goesThrough_54 : decode cX8_goesThrough 54 = .ok (.iload_n 3, 1) := by decide +kernel
theorem dX8_goesThrough_55 : decode cX8_goesThrough 55 = .ok (.iconst 4, 1) := by decide +kernel
theorem dX8_goesThrough_56 : decode cX8_goesThrough 56 = .ok (.if_icmp .ge 82, 3) := by decide +kernel
theorem dX8_goesThrough_59 : decode cX8_goesThrough 59 = .ok (.aload_n 0, 1) := by decide +kernel
theorem dX8_goesThrough_60 : decode cX8_goesThrough 60 = .ok (.iload_n 2, 1) := by decide +kernel
theorem dX8_goesThrough_61 : decode cX8_goesThrough 61 = .ok (.invokevirtual 260, 3) := by decide +kernel
theorem dX8_goesThrough_64 : decode cX8_goesThrough 64 = .ok (.aload_n 0, 1) := by decide +kernel
theorem dX8_goesThrough_65 : decode cX8_goesThrough 65 = .ok (.getfield 72, 3) := by decide +kernel
theorem dX8_goesThrough_68 : decode cX8_goesThrough 68 = .ok (.iconst 4, 1) := by decide +kernel
theorem dX8_goesThrough_69 : decode cX8_goesThrough 69 = .ok (.iload_n 2, 1) := by decide +kernel
theorem dX8_goesThrough_70 : decode cX8_goesThrough 70 = .ok (.imul, 1) := by decide +kernel
theorem dX8_goesThrough_71 : decode cX8_goesThrough 71 = .ok (.iload_n 3, 1) := by decide +kernel
theorem dX8_goesThrough_72 : decode cX8_goesThrough 72 = .ok (.iadd, 1) := by decide +kernel
theorem dX8_goesThrough_73 : decode cX8_goesThrough 73 = .ok (.aload_n 0, 1) := by decide +kernel
theorem dX8_goesThrough_74 : decode cX8_goesThrough 74 = .ok (.iload_n 3, 1) := by decide +kernel
theorem dX8_goesThrough_75 : decode cX8_goesThrough 75 = .ok (.invokevirtual 230, 3) := by decide +kernel
theorem dX8_goesThrough_78 : decode cX8_goesThrough 78 = .ok (.ifCond .eq 18, 3) := by decide +kernel
theorem dX8_goesThrough_81 : decode cX8_goesThrough 81 = .ok (.aload_n 0, 1) := by decide +kernel
theorem dX8_goesThrough_82 : decode cX8_goesThrough 82 = .ok (.aload_n 0, 1) := by decide +kernel
theorem dX8_goesThrough_83 : decode cX8_goesThrough 83 = .ok (.getfield 69, 3) := by decide +kernel
theorem dX8_goesThrough_86 : decode cX8_goesThrough 86 = .ok (.iload_n 2, 1) := by decide +kernel
theorem dX8_goesThrough_87 : decode cX8_goesThrough 87 = .ok (.iaload, 1) := by decide +kernel
theorem dX8_goesThrough_88 : decode cX8_goesThrough 88 = .ok (.iconst 1, 1) := by decide +kernel
theorem dX8_goesThrough_89 : decode cX8_goesThrough 89 = .ok (.iadd, 1) := by decide +kernel
theorem dX8_goesThrough_90 : decode cX8_goesThrough 90 = .ok (.invokevirtual 257, 3) := by decide +kernel
theorem dX8_goesThrough_93 : decode cX8_goesThrough 93 = .ok (.goto 4, 3) := by decide +kernel
theorem dX8_goesThrough_96 : decode cX8_goesThrough 96 = .ok (.iconst (-1), 1) := by decide +kernel
theorem dX8_goesThrough_97 : decode cX8_goesThrough 97 = .ok (.iastore, 1) := by decide +kernel
theorem dX8_goesThrough_98 : decode cX8_goesThrough 98 = .ok (.aload_n 0, 1) := by decide +kernel
theorem dX8_goesThrough_99 : decode cX8_goesThrough 99 = .ok (.getfield 72, 3) := by decide +kernel
theorem dX8_goesThrough_102 : decode cX8_goesThrough 102 = .ok (.iconst 4, 1) := by decide +kernel
theorem dX8_goesThrough_103 : decode cX8_goesThrough 103 = .ok (.iload_n 2, 1) := by decide +kernel
theorem dX8_goesThrough_104 : decode cX8_goesThrough 104 = .ok (.imul, 1) := by decide +kernel
theorem dX8_goesThrough_105 : decode cX8_goesThrough 105 = .ok (.iload_n 3, 1) := by decide +kernel
theorem dX8_goesThrough_106 : decode cX8_goesThrough 106 = .ok (.iadd, 1) := by decide +kernel
theorem dX8_goesThrough_107 : decode cX8_goesThrough 107 = .ok (.iaload, 1) := by decide +kernel
theorem dX8_goesThrough_108 : decode cX8_goesThrough 108 = .ok (.iload_n 1, 1) := by decide +kernel
theorem dX8_goesThrough_109 : decode cX8_goesThrough 109 = .ok (.if_icmp .ne 23, 3) := by decide +kernel
theorem dX8_goesThrough_112 : decode cX8_goesThrough 112 = .ok (.aload_n 0, 1) := by decide +kernel
theorem dX8_goesThrough_113 : decode cX8_goesThrough 113 = .ok (.getfield 254, 3) := by decide +kernel
theorem dX8_goesThrough_116 : decode cX8_goesThrough 116 = .ok (.iconst (-1), 1) := by decide +kernel
theorem dX8_goesThrough_117 : decode cX8_goesThrough 117 = .ok (.if_icmp .ne 15, 3) := by decide +kernel
theorem dX8_goesThrough_120 : decode cX8_goesThrough 120 = .ok (.aload_n 0, 1) := by decide +kernel
theorem dX8_goesThrough_121 : decode cX8_goesThrough 121 = .ok (.aload_n 0, 1) := by decide +kernel
theorem dX8_goesThrough_122 : decode cX8_goesThrough 122 = .ok (.getfield 69, 3) := by decide +kernel
theorem dX8_goesThrough_125 : decode cX8_goesThrough 125 = .ok (.iload_n 2, 1) := by decide +kernel
theorem dX8_goesThrough_126 : decode cX8_goesThrough 126 = .ok (.iaload, 1) := by decide +kernel
theorem dX8_goesThrough_127 : decode cX8_goesThrough 127 = .ok (.iconst 1, 1) := by decide +kernel
theorem dX8_goesThrough_128 : decode cX8_goesThrough 128 = .ok (.iadd, 1) := by decide +kernel
theorem dX8_goesThrough_129 : decode cX8_goesThrough 129 = .ok (.putfield 254, 3) := by decide +kernel
theorem dX8_goesThrough_132 : decode cX8_goesThrough 132 = .ok (.iinc 3 1, 3) := by decide +kernel
theorem dX8_goesThrough_135 : decode cX8_goesThrough 135 = .ok (.goto (-81), 3) := by decide +kernel
theorem dX8_goesThrough_138 : decode cX8_goesThrough 138 = .ok (.iinc 2 1, 3) := by decide +kernel
theorem dX8_goesThrough_141 : decode cX8_goesThrough 141 = .ok (.goto (-97), 3) := by decide +kernel
theorem dX8_goesThrough_144 : decode cX8_goesThrough 144 = .ok (.aload_n 0, 1) := by decide +kernel
theorem dX8_goesThrough_145 : decode cX8_goesThrough 145 = .ok (.invokevirtual 242, 3) := by decide +kernel
theorem dX8_goesThrough_148 : decode cX8_goesThrough 148 = .ok (.return_, 1) := by decide +kernel
theorem dX8_placesReached_0 : decode cX8_placesReached 0 = .ok (.iconst 0, 1) := by decide +kernel
theorem dX8_placesReached_1 : decode cX8_placesReached 1 = .ok (.istore_n 1, 1) := by decide +kernel
theorem dX8_placesReached_2 : decode cX8_placesReached 2 = .ok (.iload_n 1, 1) := by decide +kernel
theorem dX8_placesReached_3 : decode cX8_placesReached 3 = .ok (.bipush 72, 2) := by decide +kernel
theorem dX8_placesReached_5 : decode cX8_placesReached 5 = .ok (.if_icmp .ge 16, 3) := by decide +kernel
theorem dX8_placesReached_8 : decode cX8_placesReached 8 = .ok (.aload_n 0, 1) := by decide +kernel
theorem dX8_placesReached_9 : decode cX8_placesReached 9 = .ok (.getfield 75, 3) := by decide +kernel
theorem dX8_placesReached_12 : decode cX8_placesReached 12 = .ok (.iload_n 1, 1) := by decide +kernel
theorem dX8_placesReached_13 : decode cX8_placesReached 13 = .ok (.iconst 0, 1) := by decide +kernel
theorem dX8_placesReached_14 : decode cX8_placesReached 14 = .ok (.bastore, 1) := by decide +kernel
theorem dX8_placesReached_15 : decode cX8_placesReached 15 = .ok (.iinc 1 1, 3) := by decide +kernel
theorem dX8_placesReached_18 : decode cX8_placesReached 18 = .ok (.goto (-16), 3) := by decide +kernel
theorem dX8_placesReached_21 : decode cX8_placesReached 21 = .ok (.iconst 0, 1) := by decide +kernel
theorem dX8_placesReached_22 : decode cX8_placesReached 22 = .ok (.istore_n 1, 1) := by decide +kernel
theorem dX8_placesReached_23 : decode cX8_placesReached 23 = .ok (.iconst 0, 1) := by decide +kernel
theorem dX8_placesReached_24 : decode cX8_placesReached 24 = .ok (.istore_n 2, 1) := by decide +kernel
theorem dX8_placesReached_25 : decode cX8_placesReached 25 = .ok (.iload_n 2, 1) := by decide +kernel
theorem dX8_placesReached_26 : decode cX8_placesReached 26 = .ok (.aload_n 0, 1) := by decide +kernel
theorem dX8_placesReached_27 : decode cX8_placesReached 27 = .ok (.getfield 251, 3) := by decide +kernel
theorem dX8_placesReached_30 : decode cX8_placesReached 30 = .ok (.if_icmp .ge 38, 3) := by decide +kernel
theorem dX8_placesReached_33 : decode cX8_placesReached 33 = .ok (.aload_n 0, 1) := by decide +kernel
theorem dX8_placesReached_34 : decode cX8_placesReached 34 = .ok (.getfield 75, 3) := by decide +kernel
theorem dX8_placesReached_37 : decode cX8_placesReached 37 = .ok (.aload_n 0, 1) := by decide +kernel
theorem dX8_placesReached_38 : decode cX8_placesReached 38 = .ok (.getfield 63, 3) := by decide +kernel
theorem dX8_placesReached_41 : decode cX8_placesReached 41 = .ok (.iload_n 2, 1) := by decide +kernel
theorem dX8_placesReached_42 : decode cX8_placesReached 42 = .ok (.iaload, 1) := by decide +kernel
theorem dX8_placesReached_43 : decode cX8_placesReached 43 = .ok (.baload, 1) := by decide +kernel
theorem dX8_placesReached_44 : decode cX8_placesReached 44 = .ok (.ifCond .ne 6, 3) := by decide +kernel
theorem dX8_placesReached_47 : decode cX8_placesReached 47 = .ok (.iinc 1 1, 3) := by decide +kernel
theorem dX8_placesReached_50 : decode cX8_placesReached 50 = .ok (.aload_n 0, 1) := by decide +kernel
theorem dX8_placesReached_51 : decode cX8_placesReached 51 = .ok (.getfield 75, 3) := by decide +kernel
theorem dX8_placesReached_54 : decode cX8_placesReached 54 = .ok (.aload_n 0, 1) := by decide +kernel
theorem dX8_placesReached_55 : decode cX8_placesReached 55 = .ok (.getfield 63, 3) := by decide +kernel
theorem dX8_placesReached_58 : decode cX8_placesReached 58 = .ok (.iload_n 2, 1) := by decide +kernel
theorem dX8_placesReached_59 : decode cX8_placesReached 59 = .ok (.iaload, 1) := by decide +kernel
theorem dX8_placesReached_60 : decode cX8_placesReached 60 = .ok (.iconst 1, 1) := by decide +kernel
theorem dX8_placesReached_61 : decode cX8_placesReached 61 = .ok (.bastore, 1) := by decide +kernel
theorem dX8_placesReached_62 : decode cX8_placesReached 62 = .ok (.iinc 2 1, 3) := by decide +kernel
theorem dX8_placesReached_65 : decode cX8_placesReached 65 = .ok (.goto (-40), 3) := by decide +kernel
theorem dX8_placesReached_68 : decode cX8_placesReached 68 = .ok (.iload_n 1, 1) := by decide +kernel
theorem dX8_placesReached_69 : decode cX8_placesReached 69 = .ok (.ireturn, 1) := by decide +kernel
theorem dX8_isEven_0 : decode cX8_isEven 0 = .ok (.iconst 0, 1) := by decide +kernel
theorem dX8_isEven_1 : decode cX8_isEven 1 = .ok (.istore_n 1, 1) := by decide +kernel
theorem dX8_isEven_2 : decode cX8_isEven 2 = .ok (.iload_n 1, 1) := by decide +kernel
theorem dX8_isEven_3 : decode cX8_isEven 3 = .ok (.aload_n 0, 1) := by decide +kernel
theorem dX8_isEven_4 : decode cX8_isEven 4 = .ok (.getfield 251, 3) := by decide +kernel
theorem dX8_isEven_7 : decode cX8_isEven 7 = .ok (.if_icmp .ge 24, 3) := by decide +kernel
theorem dX8_isEven_10 : decode cX8_isEven 10 = .ok (.aload_n 0, 1) := by decide +kernel
theorem dX8_isEven_11 : decode cX8_isEven 11 = .ok (.getfield 79, 3) := by decide +kernel
theorem dX8_isEven_14 : decode cX8_isEven 14 = .ok (.iload_n 1, 1) := by decide +kernel
theorem dX8_isEven_15 : decode cX8_isEven 15 = .ok (.iload_n 1, 1) := by decide +kernel
theorem dX8_isEven_16 : decode cX8_isEven 16 = .ok (.ifCond .ne 7, 3) := by decide +kernel
theorem dX8_isEven_19 : decode cX8_isEven 19 = .ok (.iconst 1, 1) := by decide +kernel
theorem dX8_isEven_20 : decode cX8_isEven 20 = .ok (.goto 4, 3) := by decide +kernel
theorem dX8_isEven_23 : decode cX8_isEven 23 = .ok (.iconst 0, 1) := by decide +kernel
theorem dX8_isEven_24 : decode cX8_isEven 24 = .ok (.iastore, 1) := by decide +kernel
theorem dX8_isEven_25 : decode cX8_isEven 25 = .ok (.iinc 1 1, 3) := by decide +kernel
theorem dX8_isEven_28 : decode cX8_isEven 28 = .ok (.goto (-26), 3) := by decide +kernel
theorem dX8_isEven_31 : decode cX8_isEven 31 = .ok (.iconst 1, 1) := by decide +kernel
theorem dX8_isEven_32 : decode cX8_isEven 32 = .ok (.istore_n 1, 1) := by decide +kernel
theorem dX8_isEven_33 : decode cX8_isEven 33 = .ok (.iload_n 1, 1) := by decide +kernel
theorem dX8_isEven_34 : decode cX8_isEven 34 = .ok (.ifCond .eq 109, 3) := by decide +kernel
theorem dX8_isEven_37 : decode cX8_isEven 37 = .ok (.iconst 0, 1) := by decide +kernel
theorem dX8_isEven_38 : decode cX8_isEven 38 = .ok (.istore_n 1, 1) := by decide +kernel
theorem dX8_isEven_39 : decode cX8_isEven 39 = .ok (.iconst 0, 1) := by decide +kernel
theorem dX8_isEven_40 : decode cX8_isEven 40 = .ok (.istore_n 2, 1) := by decide +kernel
theorem dX8_isEven_41 : decode cX8_isEven 41 = .ok (.iload_n 2, 1) := by decide +kernel
theorem dX8_isEven_42 : decode cX8_isEven 42 = .ok (.aload_n 0, 1) := by decide +kernel
theorem dX8_isEven_43 : decode cX8_isEven 43 = .ok (.getfield 251, 3) := by decide +kernel
theorem dX8_isEven_46 : decode cX8_isEven 46 = .ok (.if_icmp .ge 94, 3) := by decide +kernel
theorem dX8_isEven_49 : decode cX8_isEven 49 = .ok (.aload_n 0, 1) := by decide +kernel
theorem dX8_isEven_50 : decode cX8_isEven 50 = .ok (.getfield 79, 3) := by decide +kernel
theorem dX8_isEven_53 : decode cX8_isEven 53 = .ok (.iload_n 2, 1) := by decide +kernel
theorem dX8_isEven_54 : decode cX8_isEven 54 = .ok (.iaload, 1) := by decide +kernel
theorem dX8_isEven_55 : decode cX8_isEven 55 = .ok (.iconst 1, 1) := by decide +kernel
theorem dX8_isEven_56 : decode cX8_isEven 56 = .ok (.iand, 1) := by decide +kernel
theorem dX8_isEven_57 : decode cX8_isEven 57 = .ok (.iconst 1, 1) := by decide +kernel
theorem dX8_isEven_58 : decode cX8_isEven 58 = .ok (.ishl, 1) := by decide +kernel
theorem dX8_isEven_59 : decode cX8_isEven 59 = .ok (.aload_n 0, 1) := by decide +kernel
theorem dX8_isEven_60 : decode cX8_isEven 60 = .ok (.getfield 79, 3) := by decide +kernel
theorem dX8_isEven_63 : decode cX8_isEven 63 = .ok (.iload_n 2, 1) := by decide +kernel
theorem dX8_isEven_64 : decode cX8_isEven 64 = .ok (.iaload, 1) := by decide +kernel
theorem dX8_isEven_65 : decode cX8_isEven 65 = .ok (.iconst 1, 1) := by decide +kernel
theorem dX8_isEven_66 : decode cX8_isEven 66 = .ok (.ishr, 1) := by decide +kernel
theorem dX8_isEven_67 : decode cX8_isEven 67 = .ok (.ior, 1) := by decide +kernel
theorem dX8_isEven_68 : decode cX8_isEven 68 = .ok (.istore_n 3, 1) := by decide +kernel
theorem dX8_isEven_69 : decode cX8_isEven 69 = .ok (.iconst 0, 1) := by decide +kernel
theorem dX8_isEven_70 : decode cX8_isEven 70 = .ok (.istore 4, 2) := by decide +kernel
theorem dX8_isEven_72 : decode cX8_isEven 72 = .ok (.iload 4, 2) := by decide +kernel
theorem dX8_isEven_74 : decode cX8_isEven 74 = .ok (.iconst 4, 1) := by decide +kernel
theorem dX8_isEven_75 : decode cX8_isEven 75 = .ok (.if_icmp .ge 59, 3) := by decide +kernel
theorem dX8_isEven_78 : decode cX8_isEven 78 = .ok (.aload_n 0, 1) := by decide +kernel
theorem dX8_isEven_79 : decode cX8_isEven 79 = .ok (.getfield 72, 3) := by decide +kernel
theorem dX8_isEven_82 : decode cX8_isEven 82 = .ok (.iconst 4, 1) := by decide +kernel
theorem dX8_isEven_83 : decode cX8_isEven 83 = .ok (.iload_n 2, 1) := by decide +kernel
theorem dX8_isEven_84 : decode cX8_isEven 84 = .ok (.imul, 1) := by decide +kernel
theorem dX8_isEven_85 : decode cX8_isEven 85 = .ok (.iload 4, 2) := by decide +kernel
theorem dX8_isEven_87 : decode cX8_isEven 87 = .ok (.iadd, 1) := by decide +kernel
theorem dX8_isEven_88 : decode cX8_isEven 88 = .ok (.iaload, 1) := by decide +kernel
theorem dX8_isEven_89 : decode cX8_isEven 89 = .ok (.istore 5, 2) := by decide +kernel
theorem dX8_isEven_91 : decode cX8_isEven 91 = .ok (.iload 5, 2) := by decide +kernel
theorem dX8_isEven_93 : decode cX8_isEven 93 = .ok (.ifCond .lt 35, 3) := by decide +kernel
theorem dX8_isEven_96 : decode cX8_isEven 96 = .ok (.aload_n 0, 1) := by decide +kernel
theorem dX8_isEven_97 : decode cX8_isEven 97 = .ok (.getfield 79, 3) := by decide +kernel
theorem dX8_isEven_100 : decode cX8_isEven 100 = .ok (.iload 5, 2) := by decide +kernel
theorem dX8_isEven_102 : decode cX8_isEven 102 = .ok (.iaload, 1) := by decide +kernel
theorem dX8_isEven_103 : decode cX8_isEven 103 = .ok (.iload_n 3, 1) := by decide +kernel
theorem dX8_isEven_104 : decode cX8_isEven 104 = .ok (.ior, 1) := by decide +kernel
theorem dX8_isEven_105 : decode cX8_isEven 105 = .ok (.aload_n 0, 1) := by decide +kernel
theorem dX8_isEven_106 : decode cX8_isEven 106 = .ok (.getfield 79, 3) := by decide +kernel
theorem dX8_isEven_109 : decode cX8_isEven 109 = .ok (.iload 5, 2) := by decide +kernel
theorem dX8_isEven_111 : decode cX8_isEven 111 = .ok (.iaload, 1) := by decide +kernel
theorem dX8_isEven_112 : decode cX8_isEven 112 = .ok (.if_icmp .eq 16, 3) := by decide +kernel
theorem dX8_isEven_115 : decode cX8_isEven 115 = .ok (.aload_n 0, 1) := by decide +kernel
theorem dX8_isEven_116 : decode cX8_isEven 116 = .ok (.getfield 79, 3) := by decide +kernel
theorem dX8_isEven_119 : decode cX8_isEven 119 = .ok (.iload 5, 2) := by decide +kernel
theorem dX8_isEven_121 : decode cX8_isEven 121 = .ok (.dup2, 1) := by decide +kernel
theorem dX8_isEven_122 : decode cX8_isEven 122 = .ok (.iaload, 1) := by decide +kernel
theorem dX8_isEven_123 : decode cX8_isEven 123 = .ok (.iload_n 3, 1) := by decide +kernel
theorem dX8_isEven_124 : decode cX8_isEven 124 = .ok (.ior, 1) := by decide +kernel
theorem dX8_isEven_125 : decode cX8_isEven 125 = .ok (.iastore, 1) := by decide +kernel
theorem dX8_isEven_126 : decode cX8_isEven 126 = .ok (.iconst 1, 1) := by decide +kernel
theorem dX8_isEven_127 : decode cX8_isEven 127 = .ok (.istore_n 1, 1) := by decide +kernel
theorem dX8_isEven_128 : decode cX8_isEven 128 = .ok (.iinc 4 1, 3) := by decide +kernel
theorem dX8_isEven_131 : decode cX8_isEven 131 = .ok (.goto (-59), 3) := by decide +kernel
theorem dX8_isEven_134 : decode cX8_isEven 134 = .ok (.iinc 2 1, 3) := by decide +kernel
theorem dX8_isEven_137 : decode cX8_isEven 137 = .ok (.goto (-96), 3) := by decide +kernel
theorem dX8_isEven_140 : decode cX8_isEven 140 = .ok (.goto (-107), 3) := by decide +kernel
theorem dX8_isEven_143 : decode cX8_isEven 143 = .ok (.iconst 0, 1) := by decide +kernel
theorem dX8_isEven_144 : decode cX8_isEven 144 = .ok (.istore_n 2, 1) := by decide +kernel
theorem dX8_isEven_145 : decode cX8_isEven 145 = .ok (.iload_n 2, 1) := by decide +kernel
theorem dX8_isEven_146 : decode cX8_isEven 146 = .ok (.aload_n 0, 1) := by decide +kernel
theorem dX8_isEven_147 : decode cX8_isEven 147 = .ok (.getfield 251, 3) := by decide +kernel
theorem dX8_isEven_150 : decode cX8_isEven 150 = .ok (.if_icmp .ge 21, 3) := by decide +kernel
theorem dX8_isEven_153 : decode cX8_isEven 153 = .ok (.aload_n 0, 1) := by decide +kernel
theorem dX8_isEven_154 : decode cX8_isEven 154 = .ok (.getfield 79, 3) := by decide +kernel
theorem dX8_isEven_157 : decode cX8_isEven 157 = .ok (.iload_n 2, 1) := by decide +kernel
theorem dX8_isEven_158 : decode cX8_isEven 158 = .ok (.iaload, 1) := by decide +kernel
theorem dX8_isEven_159 : decode cX8_isEven 159 = .ok (.iconst 3, 1) := by decide +kernel
theorem dX8_isEven_160 : decode cX8_isEven 160 = .ok (.if_icmp .ne 5, 3) := by decide +kernel
theorem dX8_isEven_163 : decode cX8_isEven 163 = .ok (.iconst 1, 1) := by decide +kernel
theorem dX8_isEven_164 : decode cX8_isEven 164 = .ok (.ireturn, 1) := by decide +kernel
theorem dX8_isEven_165 : decode cX8_isEven 165 = .ok (.iinc 2 1, 3) := by decide +kernel
theorem dX8_isEven_168 : decode cX8_isEven 168 = .ok (.goto (-23), 3) := by decide +kernel
theorem dX8_isEven_171 : decode cX8_isEven 171 = .ok (.iconst 0, 1) := by decide +kernel
theorem dX8_isEven_172 : decode cX8_isEven 172 = .ok (.ireturn, 1) := by decide +kernel
theorem dX8_reached_0 : decode cX8_reached 0 = .ok (.iload_n 1, 1) := by decide +kernel
theorem dX8_reached_1 : decode cX8_reached 1 = .ok (.i2l, 1) := by decide +kernel
theorem dX8_reached_2 : decode cX8_reached 2 = .ok (.lconst 0, 1) := by decide +kernel
theorem dX8_reached_3 : decode cX8_reached 3 = .ok (.ldc2_w 140, 3) := by decide +kernel
theorem dX8_reached_6 : decode cX8_reached 6 = .ok (.invokestatic 129, 3) := by decide +kernel
theorem dX8_reached_9 : decode cX8_reached 9 = .ok (.ifCond .ne 10, 3) := by decide +kernel
theorem dX8_reached_12 : decode cX8_reached 12 = .ok (.aload_n 0, 1) := by decide +kernel
theorem dX8_reached_13 : decode cX8_reached 13 = .ok (.bipush (-2), 2) := by decide +kernel
theorem dX8_reached_15 : decode cX8_reached 15 = .ok (.invokevirtual 13, 3) := by decide +kernel
theorem dX8_reached_18 : decode cX8_reached 18 = .ok (.ireturn, 1) := by decide +kernel
theorem dX8_reached_19 : decode cX8_reached 19 = .ok (.aload_n 0, 1) := by decide +kernel
theorem dX8_reached_20 : decode cX8_reached 20 = .ok (.getfield 38, 3) := by decide +kernel
theorem dX8_reached_23 : decode cX8_reached 23 = .ok (.ifCond .ne 10, 3) := by decide +kernel
theorem dX8_reached_26 : decode cX8_reached 26 = .ok (.aload_n 0, 1) := by decide +kernel
theorem dX8_reached_27 : decode cX8_reached 27 = .ok (.bipush (-3), 2) := by decide +kernel
theorem dX8_reached_29 : decode cX8_reached 29 = .ok (.invokevirtual 13, 3) := by decide +kernel
theorem dX8_reached_32 : decode cX8_reached 32 = .ok (.ireturn, 1) := by decide +kernel
theorem dX8_reached_33 : decode cX8_reached 33 = .ok (.aload_n 0, 1) := by decide +kernel
theorem dX8_reached_34 : decode cX8_reached 34 = .ok (.invokevirtual 263, 3) := by decide +kernel
theorem dX8_reached_37 : decode cX8_reached 37 = .ok (.iload_n 1, 1) := by decide +kernel
theorem dX8_reached_38 : decode cX8_reached 38 = .ok (.ifCond .ne 10, 3) := by decide +kernel
theorem dX8_reached_41 : decode cX8_reached 41 = .ok (.aload_n 0, 1) := by decide +kernel
theorem dX8_reached_42 : decode cX8_reached 42 = .ok (.getfield 251, 3) := by decide +kernel
theorem dX8_reached_45 : decode cX8_reached 45 = .ok (.goto 46, 3) := by decide +kernel
theorem dX8_reached_48 : decode cX8_reached 48 = .ok (.iload_n 1, 1) := by decide +kernel
theorem dX8_reached_49 : decode cX8_reached 49 = .ok (.iconst 1, 1) := by decide +kernel
theorem dX8_reached_50 : decode cX8_reached 50 = .ok (.if_icmp .ne 10, 3) := by decide +kernel
theorem dX8_reached_53 : decode cX8_reached 53 = .ok (.aload_n 0, 1) := by decide +kernel
theorem dX8_reached_54 : decode cX8_reached 54 = .ok (.invokevirtual 266, 3) := by decide +kernel
theorem dX8_reached_57 : decode cX8_reached 57 = .ok (.goto 34, 3) := by decide +kernel
theorem dX8_reached_60 : decode cX8_reached 60 = .ok (.iload_n 1, 1) := by decide +kernel
theorem dX8_reached_61 : decode cX8_reached 61 = .ok (.iconst 2, 1) := by decide +kernel
theorem dX8_reached_62 : decode cX8_reached 62 = .ok (.if_icmp .ne 18, 3) := by decide +kernel
theorem dX8_reached_65 : decode cX8_reached 65 = .ok (.aload_n 0, 1) := by decide +kernel
theorem dX8_reached_66 : decode cX8_reached 66 = .ok (.invokevirtual 269, 3) := by decide +kernel
theorem dX8_reached_69 : decode cX8_reached 69 = .ok (.ifCond .eq 7, 3) := by decide +kernel
theorem dX8_reached_72 : decode cX8_reached 72 = .ok (.iconst 1, 1) := by decide +kernel
theorem dX8_reached_73 : decode cX8_reached 73 = .ok (.goto 18, 3) := by decide +kernel
theorem dX8_reached_76 : decode cX8_reached 76 = .ok (.iconst 0, 1) := by decide +kernel
theorem dX8_reached_77 : decode cX8_reached 77 = .ok (.goto 14, 3) := by decide +kernel
theorem dX8_reached_80 : decode cX8_reached 80 = .ok (.aload_n 0, 1) := by decide +kernel
theorem dX8_reached_81 : decode cX8_reached 81 = .ok (.getfield 69, 3) := by decide +kernel
theorem dX8_reached_84 : decode cX8_reached 84 = .ok (.aload_n 0, 1) := by decide +kernel
theorem dX8_reached_85 : decode cX8_reached 85 = .ok (.getfield 251, 3) := by decide +kernel
theorem dX8_reached_88 : decode cX8_reached 88 = .ok (.iconst 1, 1) := by decide +kernel
theorem dX8_reached_89 : decode cX8_reached 89 = .ok (.isub, 1) := by decide +kernel
theorem dX8_reached_90 : decode cX8_reached 90 = .ok (.iaload, 1) := by decide +kernel
theorem dX8_reached_91 : decode cX8_reached 91 = .ok (.ireturn, 1) := by decide +kernel
theorem dX8_isGoal_0 : decode cX8_isGoal 0 = .ok (.aload_n 0, 1) := by decide +kernel
theorem dX8_isGoal_1 : decode cX8_isGoal 1 = .ok (.getfield 63, 3) := by decide +kernel
theorem dX8_isGoal_4 : decode cX8_isGoal 4 = .ok (.iload_n 1, 1) := by decide +kernel
theorem dX8_isGoal_5 : decode cX8_isGoal 5 = .ok (.iaload, 1) := by decide +kernel
theorem dX8_isGoal_6 : decode cX8_isGoal 6 = .ok (.iload_n 2, 1) := by decide +kernel
theorem dX8_isGoal_7 : decode cX8_isGoal 7 = .ok (.if_icmp .eq 5, 3) := by decide +kernel
theorem dX8_isGoal_10 : decode cX8_isGoal 10 = .ok (.iconst 0, 1) := by decide +kernel
theorem dX8_isGoal_11 : decode cX8_isGoal 11 = .ok (.ireturn, 1) := by decide +kernel
theorem dX8_isGoal_12 : decode cX8_isGoal 12 = .ok (.aload_n 0, 1) := by decide +kernel
theorem dX8_isGoal_13 : decode cX8_isGoal 13 = .ok (.invokevirtual 272, 3) := by decide +kernel
theorem dX8_isGoal_16 : decode cX8_isGoal 16 = .ok (.aload_n 0, 1) := by decide +kernel
theorem dX8_isGoal_17 : decode cX8_isGoal 17 = .ok (.iload_n 1, 1) := by decide +kernel
theorem dX8_isGoal_18 : decode cX8_isGoal 18 = .ok (.invokevirtual 260, 3) := by decide +kernel
theorem dX8_isGoal_21 : decode cX8_isGoal 21 = .ok (.iload_n 3, 1) := by decide +kernel
theorem dX8_isGoal_22 : decode cX8_isGoal 22 = .ok (.ifCond .lt 11, 3) := by decide +kernel
theorem dX8_isGoal_25 : decode cX8_isGoal 25 = .ok (.aload_n 0, 1) := by decide +kernel
theorem dX8_isGoal_26 : decode cX8_isGoal 26 = .ok (.invokevirtual 221, 3) := by decide +kernel
theorem dX8_isGoal_29 : decode cX8_isGoal 29 = .ok (.iload_n 3, 1) := by decide +kernel
theorem dX8_isGoal_30 : decode cX8_isGoal 30 = .ok (.if_icmp .ne 21, 3) := by decide +kernel
theorem dX8_isGoal_33 : decode cX8_isGoal 33 = .ok (.aload_n 0, 1) := by decide +kernel
theorem dX8_isGoal_34 : decode cX8_isGoal 34 = .ok (.invokevirtual 154, 3) := by decide +kernel
theorem dX8_isGoal_37 : decode cX8_isGoal 37 = .ok (.ifCond .eq 10, 3) := by decide +kernel
theorem dX8_isGoal_40 : decode cX8_isGoal 40 = .ok (.aload_n 0, 1) := by decide +kernel
theorem dX8_isGoal_41 : decode cX8_isGoal 41 = .ok (.invokevirtual 157, 3) := by decide +kernel
theorem dX8_isGoal_44 : decode cX8_isGoal 44 = .ok (.ifCond .ne 7, 3) := by decide +kernel
theorem dX8_isGoal_47 : decode cX8_isGoal 47 = .ok (.iconst 1, 1) := by decide +kernel
theorem dX8_isGoal_48 : decode cX8_isGoal 48 = .ok (.goto 4, 3) := by decide +kernel
theorem dX8_isGoal_51 : decode cX8_isGoal 51 = .ok (.iconst 0, 1) := by decide +kernel
theorem dX8_isGoal_52 : decode cX8_isGoal 52 = .ok (.istore 4, 2) := by decide +kernel
theorem dX8_isGoal_54 : decode cX8_isGoal 54 = .ok (.aload_n 0, 1) := by decide +kernel
theorem dX8_isGoal_55 : decode cX8_isGoal 55 = .ok (.invokevirtual 275, 3) := by decide +kernel
theorem dX8_isGoal_58 : decode cX8_isGoal 58 = .ok (.iload 4, 2) := by decide +kernel
theorem dX8_isGoal_60 : decode cX8_isGoal 60 = .ok (.ireturn, 1) := by decide +kernel
theorem dX8_keeps2_0 : decode cX8_keeps2 0 = .ok (.aload_n 0, 1) := by decide +kernel
theorem dX8_keeps2_1 : decode cX8_keeps2 1 = .ok (.aload_n 0, 1) := by decide +kernel
theorem dX8_keeps2_2 : decode cX8_keeps2 2 = .ok (.getfield 147, 3) := by decide +kernel
theorem dX8_keeps2_5 : decode cX8_keeps2 5 = .ok (.putfield 278, 3) := by decide +kernel
theorem dX8_keeps2_8 : decode cX8_keeps2 8 = .ok (.iconst 0, 1) := by decide +kernel
theorem dX8_keeps2_9 : decode cX8_keeps2 9 = .ok (.istore_n 1, 1) := by decide +kernel
theorem dX8_keeps2_10 : decode cX8_keeps2 10 = .ok (.iload_n 1, 1) := by decide +kernel
theorem dX8_keeps2_11 : decode cX8_keeps2 11 = .ok (.bipush 6, 2) := by decide +kernel
theorem dX8_keeps2_13 : decode cX8_keeps2 13 = .ok (.if_icmp .ge 21, 3) := by decide +kernel
theorem dX8_keeps2_16 : decode cX8_keeps2 16 = .ok (.aload_n 0, 1) := by decide +kernel
theorem dX8_keeps2_17 : decode cX8_keeps2 17 = .ok (.getfield 82, 3) := by decide +kernel
theorem dX8_keeps2_20 : decode cX8_keeps2 20 = .ok (.iload_n 1, 1) := by decide +kernel
theorem dX8_keeps2_21 : decode cX8_keeps2 21 = .ok (.aload_n 0, 1) := by decide +kernel
theorem dX8_keeps2_22 : decode cX8_keeps2 22 = .ok (.getfield 42, 3) := by decide +kernel
theorem dX8_keeps2_25 : decode cX8_keeps2 25 = .ok (.iload_n 1, 1) := by decide +kernel
theorem dX8_keeps2_26 : decode cX8_keeps2 26 = .ok (.iaload, 1) := by decide +kernel
theorem dX8_keeps2_27 : decode cX8_keeps2 27 = .ok (.iastore, 1) := by decide +kernel
theorem dX8_keeps2_28 : decode cX8_keeps2 28 = .ok (.iinc 1 1, 3) := by decide +kernel
theorem dX8_keeps2_31 : decode cX8_keeps2 31 = .ok (.goto (-21), 3) := by decide +kernel
theorem dX8_keeps2_34 : decode cX8_keeps2 34 = .ok (.return_, 1) := by decide +kernel
theorem dX8_lays2_0 : decode cX8_lays2 0 = .ok (.aload_n 0, 1) := by decide +kernel
theorem dX8_lays2_1 : decode cX8_lays2 1 = .ok (.aload_n 0, 1) := by decide +kernel
theorem dX8_lays2_2 : decode cX8_lays2 2 = .ok (.getfield 278, 3) := by decide +kernel
theorem dX8_lays2_5 : decode cX8_lays2 5 = .ok (.putfield 147, 3) := by decide +kernel
theorem dX8_lays2_8 : decode cX8_lays2 8 = .ok (.iconst 0, 1) := by decide +kernel
theorem dX8_lays2_9 : decode cX8_lays2 9 = .ok (.istore_n 1, 1) := by decide +kernel
theorem dX8_lays2_10 : decode cX8_lays2 10 = .ok (.iload_n 1, 1) := by decide +kernel
theorem dX8_lays2_11 : decode cX8_lays2 11 = .ok (.bipush 6, 2) := by decide +kernel
theorem dX8_lays2_13 : decode cX8_lays2 13 = .ok (.if_icmp .ge 21, 3) := by decide +kernel
theorem dX8_lays2_16 : decode cX8_lays2 16 = .ok (.aload_n 0, 1) := by decide +kernel
theorem dX8_lays2_17 : decode cX8_lays2 17 = .ok (.getfield 42, 3) := by decide +kernel
theorem dX8_lays2_20 : decode cX8_lays2 20 = .ok (.iload_n 1, 1) := by decide +kernel
theorem dX8_lays2_21 : decode cX8_lays2 21 = .ok (.aload_n 0, 1) := by decide +kernel
theorem dX8_lays2_22 : decode cX8_lays2 22 = .ok (.getfield 82, 3) := by decide +kernel
theorem dX8_lays2_25 : decode cX8_lays2 25 = .ok (.iload_n 1, 1) := by decide +kernel
theorem dX8_lays2_26 : decode cX8_lays2 26 = .ok (.iaload, 1) := by decide +kernel
theorem dX8_lays2_27 : decode cX8_lays2 27 = .ok (.iastore, 1) := by decide +kernel
theorem dX8_lays2_28 : decode cX8_lays2 28 = .ok (.iinc 1 1, 3) := by decide +kernel
theorem dX8_lays2_31 : decode cX8_lays2 31 = .ok (.goto (-21), 3) := by decide +kernel
theorem dX8_lays2_34 : decode cX8_lays2 34 = .ok (.return_, 1) := by decide +kernel
theorem dX8_soonestTo_0 : decode cX8_soonestTo 0 = .ok (.iconst 0, 1) := by decide +kernel
theorem dX8_soonestTo_1 : decode cX8_soonestTo 1 = .ok (.istore_n 3, 1) := by decide +kernel
theorem dX8_soonestTo_2 : decode cX8_soonestTo 2 = .ok (.iload_n 3, 1) := by decide +kernel
theorem dX8_soonestTo_3 : decode cX8_soonestTo 3 = .ok (.aload_n 0, 1) := by decide +kernel
theorem dX8_soonestTo_4 : decode cX8_soonestTo 4 = .ok (.getfield 251, 3) := by decide +kernel
theorem dX8_soonestTo_7 : decode cX8_soonestTo 7 = .ok (.if_icmp .ge 26, 3) := by decide +kernel
theorem dX8_soonestTo_10 : decode cX8_soonestTo 10 = .ok (.aload_n 0, 1) := by decide +kernel
theorem dX8_soonestTo_11 : decode cX8_soonestTo 11 = .ok (.iload_n 3, 1) := by decide +kernel
theorem dX8_soonestTo_12 : decode cX8_soonestTo 12 = .ok (.iload_n 1, 1) := by decide +kernel
theorem dX8_soonestTo_13 : decode cX8_soonestTo 13 = .ok (.iload_n 2, 1) := by decide +kernel
theorem dX8_soonestTo_14 : decode cX8_soonestTo 14 = .ok (.invokevirtual 281, 3) := by decide +kernel
theorem dX8_soonestTo_17 : decode cX8_soonestTo 17 = .ok (.ifCond .eq 10, 3) := by decide +kernel
theorem dX8_soonestTo_20 : decode cX8_soonestTo 20 = .ok (.aload_n 0, 1) := by decide +kernel
theorem dX8_soonestTo_21 : decode cX8_soonestTo 21 = .ok (.getfield 69, 3) := by decide +kernel
theorem dX8_soonestTo_24 : decode cX8_soonestTo 24 = .ok (.iload_n 3, 1) := by decide +kernel
theorem dX8_soonestTo_25 : decode cX8_soonestTo 25 = .ok (.iaload, 1) := by decide +kernel
theorem dX8_soonestTo_26 : decode cX8_soonestTo 26 = .ok (.ireturn, 1) := by decide +kernel
theorem dX8_soonestTo_27 : decode cX8_soonestTo 27 = .ok (.iinc 3 1, 3) := by decide +kernel
theorem dX8_soonestTo_30 : decode cX8_soonestTo 30 = .ok (.goto (-28), 3) := by decide +kernel
theorem dX8_soonestTo_33 : decode cX8_soonestTo 33 = .ok (.bipush (-9), 2) := by decide +kernel
theorem dX8_soonestTo_35 : decode cX8_soonestTo 35 = .ok (.ireturn, 1) := by decide +kernel
theorem dX8_areAsked_0 : decode cX8_areAsked 0 = .ok (.aload_n 0, 1) := by decide +kernel
theorem dX8_areAsked_1 : decode cX8_areAsked 1 = .ok (.iload_n 1, 1) := by decide +kernel
theorem dX8_areAsked_2 : decode cX8_areAsked 2 = .ok (.invokevirtual 209, 3) := by decide +kernel
theorem dX8_areAsked_5 : decode cX8_areAsked 5 = .ok (.ifCond .eq 20, 3) := by decide +kernel
theorem dX8_areAsked_8 : decode cX8_areAsked 8 = .ok (.iload_n 2, 1) := by decide +kernel
theorem dX8_areAsked_9 : decode cX8_areAsked 9 = .ok (.iconst (-1), 1) := by decide +kernel
theorem dX8_areAsked_10 : decode cX8_areAsked 10 = .ok (.if_icmp .eq 11, 3) := by decide +kernel
theorem dX8_areAsked_13 : decode cX8_areAsked 13 = .ok (.aload_n 0, 1) := by decide +kernel
theorem dX8_areAsked_14 : decode cX8_areAsked 14 = .ok (.iload_n 2, 1) := by decide +kernel
theorem dX8_areAsked_15 : decode cX8_areAsked 15 = .ok (.invokevirtual 285, 3) := by decide +kernel
theorem dX8_areAsked_18 : decode cX8_areAsked 18 = .ok (.ifCond .eq 7, 3) := by decide +kernel
theorem dX8_areAsked_21 : decode cX8_areAsked 21 = .ok (.iconst 1, 1) := by decide +kernel
theorem dX8_areAsked_22 : decode cX8_areAsked 22 = .ok (.goto 4, 3) := by decide +kernel
theorem dX8_areAsked_25 : decode cX8_areAsked 25 = .ok (.iconst 0, 1) := by decide +kernel
theorem dX8_areAsked_26 : decode cX8_areAsked 26 = .ok (.ireturn, 1) := by decide +kernel
theorem dX8_soonest_0 : decode cX8_soonest 0 = .ok (.aload_n 0, 1) := by decide +kernel
theorem dX8_soonest_1 : decode cX8_soonest 1 = .ok (.iload_n 1, 1) := by decide +kernel
theorem dX8_soonest_2 : decode cX8_soonest 2 = .ok (.iload_n 2, 1) := by decide +kernel
theorem dX8_soonest_3 : decode cX8_soonest 3 = .ok (.invokevirtual 288, 3) := by decide +kernel
theorem dX8_soonest_6 : decode cX8_soonest 6 = .ok (.ifCond .ne 9, 3) := by decide +kernel
theorem dX8_soonest_9 : decode cX8_soonest 9 = .ok (.aload_n 0, 1) := by decide +kernel
theorem dX8_soonest_10 : decode cX8_soonest 10 = .ok (.iconst (-1), 1) := by decide +kernel
theorem dX8_soonest_11 : decode cX8_soonest 11 = .ok (.invokevirtual 13, 3) := by decide +kernel
theorem dX8_soonest_14 : decode cX8_soonest 14 = .ok (.ireturn, 1) := by decide +kernel
theorem dX8_soonest_15 : decode cX8_soonest 15 = .ok (.aload_n 0, 1) := by decide +kernel
theorem dX8_soonest_16 : decode cX8_soonest 16 = .ok (.getfield 38, 3) := by decide +kernel
theorem dX8_soonest_19 : decode cX8_soonest 19 = .ok (.ifCond .ne 10, 3) := by decide +kernel
theorem dX8_soonest_22 : decode cX8_soonest 22 = .ok (.aload_n 0, 1) := by decide +kernel
theorem dX8_soonest_23 : decode cX8_soonest 23 = .ok (.bipush (-3), 2) := by decide +kernel
theorem dX8_soonest_25 : decode cX8_soonest 25 = .ok (.invokevirtual 13, 3) := by decide +kernel
theorem dX8_soonest_28 : decode cX8_soonest 28 = .ok (.ireturn, 1) := by decide +kernel
theorem dX8_soonest_29 : decode cX8_soonest 29 = .ok (.aload_n 0, 1) := by decide +kernel
theorem dX8_soonest_30 : decode cX8_soonest 30 = .ok (.invokevirtual 263, 3) := by decide +kernel
theorem dX8_soonest_33 : decode cX8_soonest 33 = .ok (.aload_n 0, 1) := by decide +kernel
theorem dX8_soonest_34 : decode cX8_soonest 34 = .ok (.iload_n 1, 1) := by decide +kernel
theorem dX8_soonest_35 : decode cX8_soonest 35 = .ok (.iload_n 2, 1) := by decide +kernel
theorem dX8_soonest_36 : decode cX8_soonest 36 = .ok (.invokevirtual 292, 3) := by decide +kernel
theorem dX8_soonest_39 : decode cX8_soonest 39 = .ok (.ireturn, 1) := by decide +kernel
theorem dX8_wayAt_0 : decode cX8_wayAt 0 = .ok (.aload_n 0, 1) := by decide +kernel
theorem dX8_wayAt_1 : decode cX8_wayAt 1 = .ok (.invokevirtual 263, 3) := by decide +kernel
theorem dX8_wayAt_4 : decode cX8_wayAt 4 = .ok (.aload_n 0, 1) := by decide +kernel
theorem dX8_wayAt_5 : decode cX8_wayAt 5 = .ok (.iload_n 1, 1) := by decide +kernel
theorem dX8_wayAt_6 : decode cX8_wayAt 6 = .ok (.iload_n 2, 1) := by decide +kernel
theorem dX8_wayAt_7 : decode cX8_wayAt 7 = .ok (.invokevirtual 292, 3) := by decide +kernel
theorem dX8_wayAt_10 : decode cX8_wayAt 10 = .ok (.istore 4, 2) := by decide +kernel
theorem dX8_wayAt_12 : decode cX8_wayAt 12 = .ok (.iload 4, 2) := by decide +kernel
theorem dX8_wayAt_14 : decode cX8_wayAt 14 = .ok (.bipush (-9), 2) := by decide +kernel
theorem dX8_wayAt_16 : decode cX8_wayAt 16 = .ok (.if_icmp .eq 9, 3) := by decide +kernel
theorem dX8_wayAt_19 : decode cX8_wayAt 19 = .ok (.iload_n 3, 1) := by decide +kernel
theorem dX8_wayAt_20 : decode cX8_wayAt 20 = .ok (.iload 4, 2) := by decide +kernel
theorem dX8_wayAt_22 : decode cX8_wayAt 22 = .ok (.if_icmp .lt 6, 3) := by decide +kernel
theorem dX8_wayAt_25 : decode cX8_wayAt 25 = .ok (.bipush (-9), 2) := by decide +kernel
theorem dX8_wayAt_27 : decode cX8_wayAt 27 = .ok (.ireturn, 1) := by decide +kernel
theorem dX8_wayAt_28 : decode cX8_wayAt 28 = .ok (.aload_n 0, 1) := by decide +kernel
theorem dX8_wayAt_29 : decode cX8_wayAt 29 = .ok (.getfield 251, 3) := by decide +kernel
theorem dX8_wayAt_32 : decode cX8_wayAt 32 = .ok (.iconst 1, 1) := by decide +kernel
theorem dX8_wayAt_33 : decode cX8_wayAt 33 = .ok (.isub, 1) := by decide +kernel
theorem dX8_wayAt_34 : decode cX8_wayAt 34 = .ok (.istore 5, 2) := by decide +kernel
theorem dX8_wayAt_36 : decode cX8_wayAt 36 = .ok (.iload 5, 2) := by decide +kernel
theorem dX8_wayAt_38 : decode cX8_wayAt 38 = .ok (.ifCond .lt 141, 3) := by decide +kernel
theorem dX8_wayAt_41 : decode cX8_wayAt 41 = .ok (.aload_n 0, 1) := by decide +kernel
theorem dX8_wayAt_42 : decode cX8_wayAt 42 = .ok (.getfield 85, 3) := by decide +kernel
theorem dX8_wayAt_45 : decode cX8_wayAt 45 = .ok (.iload 5, 2) := by decide +kernel
theorem dX8_wayAt_47 : decode cX8_wayAt 47 = .ok (.aload_n 0, 1) := by decide +kernel
theorem dX8_wayAt_48 : decode cX8_wayAt 48 = .ok (.getfield 69, 3) := by decide +kernel
theorem dX8_wayAt_51 : decode cX8_wayAt 51 = .ok (.iload 5, 2) := by decide +kernel
theorem dX8_wayAt_53 : decode cX8_wayAt 53 = .ok (.iaload, 1) := by decide +kernel
theorem dX8_wayAt_54 : decode cX8_wayAt 54 = .ok (.iload 4, 2) := by decide +kernel
theorem dX8_wayAt_56 : decode cX8_wayAt 56 = .ok (.if_icmp .ne 18, 3) := by decide +kernel
theorem dX8_wayAt_59 : decode cX8_wayAt 59 = .ok (.aload_n 0, 1) := by decide +kernel
theorem dX8_wayAt_60 : decode cX8_wayAt 60 = .ok (.iload 5, 2) := by decide +kernel
theorem dX8_wayAt_62 : decode cX8_wayAt 62 = .ok (.iload_n 1, 1) := by decide +kernel
theorem dX8_wayAt_63 : decode cX8_wayAt 63 = .ok (.iload_n 2, 1) := by decide +kernel
theorem dX8_wayAt_64 : decode cX8_wayAt 64 = .ok (.invokevirtual 281, 3) := by decide +kernel
theorem dX8_wayAt_67 : decode cX8_wayAt 67 = .ok (.ifCond .eq 7, 3) := by decide +kernel
theorem dX8_wayAt_70 : decode cX8_wayAt 70 = .ok (.iconst 1, 1) := by decide +kernel
theorem dX8_wayAt_71 : decode cX8_wayAt 71 = .ok (.goto 4, 3) := by decide +kernel
theorem dX8_wayAt_74 : decode cX8_wayAt 74 = .ok (.iconst 0, 1) := by decide +kernel
theorem dX8_wayAt_75 : decode cX8_wayAt 75 = .ok (.bastore, 1) := by decide +kernel
theorem dX8_wayAt_76 : decode cX8_wayAt 76 = .ok (.iconst 0, 1) := by decide +kernel
theorem dX8_wayAt_77 : decode cX8_wayAt 77 = .ok (.istore 6, 2) := by decide +kernel
theorem dX8_wayAt_79 : decode cX8_wayAt 79 = .ok (.iload 6, 2) := by decide +kernel
theorem dX8_wayAt_81 : decode cX8_wayAt 81 = .ok (.iconst 4, 1) := by decide +kernel
theorem dX8_wayAt_82 : decode cX8_wayAt 82 = .ok (.if_icmp .ge 91, 3) := by decide +kernel
theorem dX8_wayAt_85 : decode cX8_wayAt 85 = .ok (.aload_n 0, 1) := by decide +kernel
theorem dX8_wayAt_86 : decode cX8_wayAt 86 = .ok (.getfield 85, 3) := by decide +kernel
theorem dX8_wayAt_89 : decode cX8_wayAt 89 = .ok (.iload 5, 2) := by decide +kernel
theorem dX8_wayAt_91 : decode cX8_wayAt 91 = .ok (.baload, 1) := by decide +kernel
theorem dX8_wayAt_92 : decode cX8_wayAt 92 = .ok (.ifCond .ne 81, 3) := by decide +kernel
theorem dX8_wayAt_95 : decode cX8_wayAt 95 = .ok (.aload_n 0, 1) := by decide +kernel
theorem dX8_wayAt_96 : decode cX8_wayAt 96 = .ok (.getfield 69, 3) := by decide +kernel
theorem dX8_wayAt_99 : decode cX8_wayAt 99 = .ok (.iload 5, 2) := by decide +kernel
theorem dX8_wayAt_101 : decode cX8_wayAt 101 = .ok (.iaload, 1) := by decide +kernel
theorem dX8_wayAt_102 : decode cX8_wayAt 102 = .ok (.iload 4, 2) := by decide +kernel
theorem dX8_wayAt_104 : decode cX8_wayAt 104 = .ok (.if_icmp .ge 69, 3) := by decide +kernel
theorem dX8_wayAt_107 : decode cX8_wayAt 107 = .ok (.aload_n 0, 1) := by decide +kernel
theorem dX8_wayAt_108 : decode cX8_wayAt 108 = .ok (.getfield 72, 3) := by decide +kernel
theorem dX8_wayAt_111 : decode cX8_wayAt 111 = .ok (.iconst 4, 1) := by decide +kernel
theorem dX8_wayAt_112 : decode cX8_wayAt 112 = .ok (.iload 5, 2) := by decide +kernel
theorem dX8_wayAt_114 : decode cX8_wayAt 114 = .ok (.imul, 1) := by decide +kernel
theorem dX8_wayAt_115 : decode cX8_wayAt 115 = .ok (.iload 6, 2) := by decide +kernel
theorem dX8_wayAt_117 : decode cX8_wayAt 117 = .ok (.iadd, 1) := by decide +kernel
theorem dX8_wayAt_118 : decode cX8_wayAt 118 = .ok (.iaload, 1) := by decide +kernel
theorem dX8_wayAt_119 : decode cX8_wayAt 119 = .ok (.istore 7, 2) := by decide +kernel
theorem dX8_wayAt_121 : decode cX8_wayAt 121 = .ok (.aload_n 0, 1) := by decide +kernel
theorem dX8_wayAt_122 : decode cX8_wayAt 122 = .ok (.getfield 85, 3) := by decide +kernel
theorem dX8_wayAt_125 : decode cX8_wayAt 125 = .ok (.iload 5, 2) := by decide +kernel
theorem dX8_wayAt_127 : decode cX8_wayAt 127 = .ok (.iload 7, 2) := by decide +kernel
theorem dX8_wayAt_129 : decode cX8_wayAt 129 = .ok (.ifCond .lt 36, 3) := by decide +kernel
theorem dX8_wayAt_132 : decode cX8_wayAt 132 = .ok (.aload_n 0, 1) := by decide +kernel
theorem dX8_wayAt_133 : decode cX8_wayAt 133 = .ok (.getfield 69, 3) := by decide +kernel
theorem dX8_wayAt_136 : decode cX8_wayAt 136 = .ok (.iload 7, 2) := by decide +kernel
theorem dX8_wayAt_138 : decode cX8_wayAt 138 = .ok (.iaload, 1) := by decide +kernel
theorem dX8_wayAt_139 : decode cX8_wayAt 139 = .ok (.aload_n 0, 1) := by decide +kernel
theorem dX8_wayAt_140 : decode cX8_wayAt 140 = .ok (.getfield 69, 3) := by decide +kernel
theorem dX8_wayAt_143 : decode cX8_wayAt 143 = .ok (.iload 5, 2) := by decide +kernel
theorem dX8_wayAt_145 : decode cX8_wayAt 145 = .ok (.iaload, 1) := by decide +kernel
theorem dX8_wayAt_146 : decode cX8_wayAt 146 = .ok (.iconst 1, 1) := by decide +kernel
theorem dX8_wayAt_147 : decode cX8_wayAt 147 = .ok (.iadd, 1) := by decide +kernel
theorem dX8_wayAt_148 : decode cX8_wayAt 148 = .ok (.if_icmp .ne 17, 3) := by decide +kernel
theorem dX8_wayAt_151 : decode cX8_wayAt 151 = .ok (.aload_n 0, 1) := by decide +kernel
theorem dX8_wayAt_152 : decode cX8_wayAt 152 = .ok (.getfield 85, 3) := by decide +kernel
theorem dX8_wayAt_155 : decode cX8_wayAt 155 = .ok (.iload 7, 2) := by decide +kernel
theorem dX8_wayAt_157 : decode cX8_wayAt 157 = .ok (.baload, 1) := by decide +kernel
theorem dX8_wayAt_158 : decode cX8_wayAt 158 = .ok (.ifCond .eq 7, 3) := by decide +kernel
theorem dX8_wayAt_161 : decode cX8_wayAt 161 = .ok (.iconst 1, 1) := by decide +kernel
theorem dX8_wayAt_162 : decode cX8_wayAt 162 = .ok (.goto 4, 3) := by decide +kernel
theorem dX8_wayAt_165 : decode cX8_wayAt 165 = .ok (.iconst 0, 1) := by decide +kernel
theorem dX8_wayAt_166 : decode cX8_wayAt 166 = .ok (.bastore, 1) := by decide +kernel
theorem dX8_wayAt_167 : decode cX8_wayAt 167 = .ok (.iinc 6 1, 3) := by decide +kernel
theorem dX8_wayAt_170 : decode cX8_wayAt 170 = .ok (.goto (-91), 3) := by decide +kernel
theorem dX8_wayAt_173 : decode cX8_wayAt 173 = .ok (.iinc 5 (-1), 3) := by decide +kernel
theorem dX8_wayAt_176 : decode cX8_wayAt 176 = .ok (.goto (-140), 3) := by decide +kernel
theorem dX8_wayAt_179 : decode cX8_wayAt 179 = .ok (.iconst 0, 1) := by decide +kernel
theorem dX8_wayAt_180 : decode cX8_wayAt 180 = .ok (.istore 5, 2) := by decide +kernel
theorem dX8_wayAt_182 : decode cX8_wayAt 182 = .ok (.iconst 0, 1) := by decide +kernel
theorem dX8_wayAt_183 : decode cX8_wayAt 183 = .ok (.istore 6, 2) := by decide +kernel
theorem dX8_wayAt_185 : decode cX8_wayAt 185 = .ok (.iconst 0, 1) := by decide +kernel
theorem dX8_wayAt_186 : decode cX8_wayAt 186 = .ok (.istore 7, 2) := by decide +kernel
theorem dX8_wayAt_188 : decode cX8_wayAt 188 = .ok (.iload 7, 2) := by decide +kernel
theorem dX8_wayAt_190 : decode cX8_wayAt 190 = .ok (.iload_n 3, 1) := by decide +kernel
theorem dX8_wayAt_191 : decode cX8_wayAt 191 = .ok (.if_icmp .gt 96, 3) := by decide +kernel
theorem dX8_wayAt_194 : decode cX8_wayAt 194 = .ok (.iconst 0, 1) := by decide +kernel
theorem dX8_wayAt_195 : decode cX8_wayAt 195 = .ok (.istore 6, 2) := by decide +kernel
theorem dX8_wayAt_197 : decode cX8_wayAt 197 = .ok (.aload_n 0, 1) := by decide +kernel
theorem dX8_wayAt_198 : decode cX8_wayAt 198 = .ok (.getfield 72, 3) := by decide +kernel
theorem dX8_wayAt_201 : decode cX8_wayAt 201 = .ok (.iconst 4, 1) := by decide +kernel
theorem dX8_wayAt_202 : decode cX8_wayAt 202 = .ok (.iload 5, 2) := by decide +kernel
theorem dX8_wayAt_204 : decode cX8_wayAt 204 = .ok (.imul, 1) := by decide +kernel
theorem dX8_wayAt_205 : decode cX8_wayAt 205 = .ok (.iload 6, 2) := by decide +kernel
theorem dX8_wayAt_207 : decode cX8_wayAt 207 = .ok (.iadd, 1) := by decide +kernel
theorem dX8_wayAt_208 : decode cX8_wayAt 208 = .ok (.iaload, 1) := by decide +kernel
theorem dX8_wayAt_209 : decode cX8_wayAt 209 = .ok (.ifCond .lt 52, 3) := by decide +kernel
theorem dX8_wayAt_212 : decode cX8_wayAt 212 = .ok (.aload_n 0, 1) := by decide +kernel
theorem dX8_wayAt_213 : decode cX8_wayAt 213 = .ok (.getfield 69, 3) := by decide +kernel
theorem dX8_wayAt_216 : decode cX8_wayAt 216 = .ok (.aload_n 0, 1) := by decide +kernel
theorem dX8_wayAt_217 : decode cX8_wayAt 217 = .ok (.getfield 72, 3) := by decide +kernel
theorem dX8_wayAt_220 : decode cX8_wayAt 220 = .ok (.iconst 4, 1) := by decide +kernel
theorem dX8_wayAt_221 : decode cX8_wayAt 221 = .ok (.iload 5, 2) := by decide +kernel
theorem dX8_wayAt_223 : decode cX8_wayAt 223 = .ok (.imul, 1) := by decide +kernel
theorem dX8_wayAt_224 : decode cX8_wayAt 224 = .ok (.iload 6, 2) := by decide +kernel
theorem dX8_wayAt_226 : decode cX8_wayAt 226 = .ok (.iadd, 1) := by decide +kernel
theorem dX8_wayAt_227 : decode cX8_wayAt 227 = .ok (.iaload, 1) := by decide +kernel
theorem dX8_wayAt_228 : decode cX8_wayAt 228 = .ok (.iaload, 1) := by decide +kernel
theorem dX8_wayAt_229 : decode cX8_wayAt 229 = .ok (.aload_n 0, 1) := by decide +kernel
theorem dX8_wayAt_230 : decode cX8_wayAt 230 = .ok (.getfield 69, 3) := by decide +kernel
theorem dX8_wayAt_233 : decode cX8_wayAt 233 = .ok (.iload 5, 2) := by decide +kernel
theorem dX8_wayAt_235 : decode cX8_wayAt 235 = .ok (.iaload, 1) := by decide +kernel
theorem dX8_wayAt_236 : decode cX8_wayAt 236 = .ok (.iconst 1, 1) := by decide +kernel
theorem dX8_wayAt_237 : decode cX8_wayAt 237 = .ok (.iadd, 1) := by decide +kernel
theorem dX8_wayAt_238 : decode cX8_wayAt 238 = .ok (.if_icmp .ne 23, 3) := by decide +kernel
theorem dX8_wayAt_241 : decode cX8_wayAt 241 = .ok (.aload_n 0, 1) := by decide +kernel
theorem dX8_wayAt_242 : decode cX8_wayAt 242 = .ok (.getfield 85, 3) := by decide +kernel
theorem dX8_wayAt_245 : decode cX8_wayAt 245 = .ok (.aload_n 0, 1) := by decide +kernel
theorem dX8_wayAt_246 : decode cX8_wayAt 246 = .ok (.getfield 72, 3) := by decide +kernel
theorem dX8_wayAt_249 : decode cX8_wayAt 249 = .ok (.iconst 4, 1) := by decide +kernel
theorem dX8_wayAt_250 : decode cX8_wayAt 250 = .ok (.iload 5, 2) := by decide +kernel
theorem dX8_wayAt_252 : decode cX8_wayAt 252 = .ok (.imul, 1) := by decide +kernel
theorem dX8_wayAt_253 : decode cX8_wayAt 253 = .ok (.iload 6, 2) := by decide +kernel
theorem dX8_wayAt_255 : decode cX8_wayAt 255 = .ok (.iadd, 1) := by decide +kernel
theorem dX8_wayAt_256 : decode cX8_wayAt 256 = .ok (.iaload, 1) := by decide +kernel
theorem dX8_wayAt_257 : decode cX8_wayAt 257 = .ok (.baload, 1) := by decide +kernel
theorem dX8_wayAt_258 : decode cX8_wayAt 258 = .ok (.ifCond .ne 9, 3) := by decide +kernel
theorem dX8_wayAt_261 : decode cX8_wayAt 261 = .ok (.iinc 6 1, 3) := by decide +kernel
theorem dX8_wayAt_264 : decode cX8_wayAt 264 = .ok (.goto (-67), 3) := by decide +kernel
theorem dX8_wayAt_267 : decode cX8_wayAt 267 = .ok (.aload_n 0, 1) := by decide +kernel
theorem dX8_wayAt_268 : decode cX8_wayAt 268 = .ok (.getfield 72, 3) := by decide +kernel
theorem dX8_wayAt_271 : decode cX8_wayAt 271 = .ok (.iconst 4, 1) := by decide +kernel
theorem dX8_wayAt_272 : decode cX8_wayAt 272 = .ok (.iload 5, 2) := by decide +kernel
theorem dX8_wayAt_274 : decode cX8_wayAt 274 = .ok (.imul, 1) := by decide +kernel
theorem dX8_wayAt_275 : decode cX8_wayAt 275 = .ok (.iload 6, 2) := by decide +kernel
theorem dX8_wayAt_277 : decode cX8_wayAt 277 = .ok (.iadd, 1) := by decide +kernel
theorem dX8_wayAt_278 : decode cX8_wayAt 278 = .ok (.iaload, 1) := by decide +kernel
theorem dX8_wayAt_279 : decode cX8_wayAt 279 = .ok (.istore 5, 2) := by decide +kernel
theorem dX8_wayAt_281 : decode cX8_wayAt 281 = .ok (.iinc 7 1, 3) := by decide +kernel
theorem dX8_wayAt_284 : decode cX8_wayAt 284 = .ok (.goto (-96), 3) := by decide +kernel
theorem dX8_wayAt_287 : decode cX8_wayAt 287 = .ok (.iload 6, 2) := by decide +kernel
theorem dX8_wayAt_289 : decode cX8_wayAt 289 = .ok (.ireturn, 1) := by decide +kernel
theorem dX8_walk_0 : decode cX8_walk 0 = .ok (.aload_n 0, 1) := by decide +kernel
theorem dX8_walk_1 : decode cX8_walk 1 = .ok (.iload_n 1, 1) := by decide +kernel
theorem dX8_walk_2 : decode cX8_walk 2 = .ok (.iload_n 2, 1) := by decide +kernel
theorem dX8_walk_3 : decode cX8_walk 3 = .ok (.invokevirtual 288, 3) := by decide +kernel
theorem dX8_walk_6 : decode cX8_walk 6 = .ok (.ifCond .ne 9, 3) := by decide +kernel
theorem dX8_walk_9 : decode cX8_walk 9 = .ok (.aload_n 0, 1) := by decide +kernel
theorem dX8_walk_10 : decode cX8_walk 10 = .ok (.iconst (-1), 1) := by decide +kernel
theorem dX8_walk_11 : decode cX8_walk 11 = .ok (.invokevirtual 13, 3) := by decide +kernel
theorem dX8_walk_14 : decode cX8_walk 14 = .ok (.ireturn, 1) := by decide +kernel
theorem dX8_walk_15 : decode cX8_walk 15 = .ok (.iload_n 3, 1) := by decide +kernel
theorem dX8_walk_16 : decode cX8_walk 16 = .ok (.ifCond .ge 10, 3) := by decide +kernel
theorem dX8_walk_19 : decode cX8_walk 19 = .ok (.aload_n 0, 1) := by decide +kernel
theorem dX8_walk_20 : decode cX8_walk 20 = .ok (.bipush (-4), 2) := by decide +kernel
theorem dX8_walk_22 : decode cX8_walk 22 = .ok (.invokevirtual 13, 3) := by decide +kernel
theorem dX8_walk_25 : decode cX8_walk 25 = .ok (.ireturn, 1) := by decide +kernel
theorem dX8_walk_26 : decode cX8_walk 26 = .ok (.aload_n 0, 1) := by decide +kernel
theorem dX8_walk_27 : decode cX8_walk 27 = .ok (.getfield 38, 3) := by decide +kernel
theorem dX8_walk_30 : decode cX8_walk 30 = .ok (.ifCond .ne 10, 3) := by decide +kernel
theorem dX8_walk_33 : decode cX8_walk 33 = .ok (.aload_n 0, 1) := by decide +kernel
theorem dX8_walk_34 : decode cX8_walk 34 = .ok (.bipush (-3), 2) := by decide +kernel
theorem dX8_walk_36 : decode cX8_walk 36 = .ok (.invokevirtual 13, 3) := by decide +kernel
theorem dX8_walk_39 : decode cX8_walk 39 = .ok (.ireturn, 1) := by decide +kernel
theorem dX8_walk_40 : decode cX8_walk 40 = .ok (.aload_n 0, 1) := by decide +kernel
theorem dX8_walk_41 : decode cX8_walk 41 = .ok (.iload_n 1, 1) := by decide +kernel
theorem dX8_walk_42 : decode cX8_walk 42 = .ok (.iload_n 2, 1) := by decide +kernel
theorem dX8_walk_43 : decode cX8_walk 43 = .ok (.iload_n 3, 1) := by decide +kernel
theorem dX8_walk_44 : decode cX8_walk 44 = .ok (.invokevirtual 296, 3) := by decide +kernel
theorem dX8_walk_47 : decode cX8_walk 47 = .ok (.ireturn, 1) := by decide +kernel
theorem dX8_belowOf_0 : decode cX8_belowOf 0 = .ok (.aload_n 0, 1) := by decide +kernel
theorem dX8_belowOf_1 : decode cX8_belowOf 1 = .ok (.getfield 66, 3) := by decide +kernel
theorem dX8_belowOf_4 : decode cX8_belowOf 4 = .ok (.bipush 6, 2) := by decide +kernel
theorem dX8_belowOf_6 : decode cX8_belowOf 6 = .ok (.iload_n 1, 1) := by decide +kernel
theorem dX8_belowOf_7 : decode cX8_belowOf 7 = .ok (.imul, 1) := by decide +kernel
theorem dX8_belowOf_8 : decode cX8_belowOf 8 = .ok (.aload_n 0, 1) := by decide +kernel
theorem dX8_belowOf_9 : decode cX8_belowOf 9 = .ok (.invokevirtual 136, 3) := by decide +kernel
theorem dX8_belowOf_12 : decode cX8_belowOf 12 = .ok (.ifCond .eq 7, 3) := by decide +kernel
theorem dX8_belowOf_15 : decode cX8_belowOf 15 = .ok (.iconst 0, 1) := by decide +kernel
theorem dX8_belowOf_16 : decode cX8_belowOf 16 = .ok (.goto 4, 3) := by decide +kernel
theorem dX8_belowOf_19 : decode cX8_belowOf 19 = .ok (.iconst 1, 1) := by decide +kernel
theorem dX8_belowOf_20 : decode cX8_belowOf 20 = .ok (.iadd, 1) := by decide +kernel
theorem dX8_belowOf_21 : decode cX8_belowOf 21 = .ok (.iaload, 1) := by decide +kernel
theorem dX8_belowOf_22 : decode cX8_belowOf 22 = .ok (.ireturn, 1) := by decide +kernel
theorem dX8_faces_0 : decode cX8_faces 0 = .ok (.aload_n 0, 1) := by decide +kernel
theorem dX8_faces_1 : decode cX8_faces 1 = .ok (.iload_n 1, 1) := by decide +kernel
theorem dX8_faces_2 : decode cX8_faces 2 = .ok (.invokevirtual 209, 3) := by decide +kernel
theorem dX8_faces_5 : decode cX8_faces 5 = .ok (.ifCond .ne 9, 3) := by decide +kernel
theorem dX8_faces_8 : decode cX8_faces 8 = .ok (.aload_n 0, 1) := by decide +kernel
theorem dX8_faces_9 : decode cX8_faces 9 = .ok (.iconst (-1), 1) := by decide +kernel
theorem dX8_faces_10 : decode cX8_faces 10 = .ok (.invokevirtual 13, 3) := by decide +kernel
theorem dX8_faces_13 : decode cX8_faces 13 = .ok (.ireturn, 1) := by decide +kernel
theorem dX8_faces_14 : decode cX8_faces 14 = .ok (.aload_n 0, 1) := by decide +kernel
theorem dX8_faces_15 : decode cX8_faces 15 = .ok (.getfield 38, 3) := by decide +kernel
theorem dX8_faces_18 : decode cX8_faces 18 = .ok (.ifCond .ne 10, 3) := by decide +kernel
theorem dX8_faces_21 : decode cX8_faces 21 = .ok (.aload_n 0, 1) := by decide +kernel
theorem dX8_faces_22 : decode cX8_faces 22 = .ok (.bipush (-3), 2) := by decide +kernel
theorem dX8_faces_24 : decode cX8_faces 24 = .ok (.invokevirtual 13, 3) := by decide +kernel
theorem dX8_faces_27 : decode cX8_faces 27 = .ok (.ireturn, 1) := by decide +kernel
theorem dX8_faces_28 : decode cX8_faces 28 = .ok (.aload_n 0, 1) := by decide +kernel
theorem dX8_faces_29 : decode cX8_faces 29 = .ok (.invokevirtual 263, 3) := by decide +kernel
theorem dX8_faces_32 : decode cX8_faces 32 = .ok (.iconst 0, 1) := by decide +kernel
theorem dX8_faces_33 : decode cX8_faces 33 = .ok (.istore_n 2, 1) := by decide +kernel
