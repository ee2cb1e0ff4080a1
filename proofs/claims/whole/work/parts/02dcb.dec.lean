theorem dX5_positionOf_12 : decode cX5_positionOf 12 = .ok (.iaload, 1) := by decide +kernel
theorem dX5_positionOf_13 : decode cX5_positionOf 13 = .ok (.ireturn, 1) := by decide +kernel
theorem dX6_init_0 : decode cX6_init 0 = .ok (.aload_n 0, 1) := by decide +kernel
theorem dX6_init_1 : decode cX6_init 1 = .ok (.invokespecial 3, 3) := by decide +kernel
theorem dX6_init_4 : decode cX6_init 4 = .ok (.aload_n 0, 1) := by decide +kernel
theorem dX6_init_5 : decode cX6_init 5 = .ok (.aload_n 1, 1) := by decide +kernel
theorem dX6_init_6 : decode cX6_init 6 = .ok (.putfield 9, 3) := by decide +kernel
theorem dX6_init_9 : decode cX6_init 9 = .ok (.aload_n 0, 1) := by decide +kernel
theorem dX6_init_10 : decode cX6_init 10 = .ok (.aload_n 2, 1) := by decide +kernel
theorem dX6_init_11 : decode cX6_init 11 = .ok (.putfield 15, 3) := by decide +kernel
theorem dX6_init_14 : decode cX6_init 14 = .ok (.aload_n 0, 1) := by decide +kernel
theorem dX6_init_15 : decode cX6_init 15 = .ok (.bipush 36, 2) := by decide +kernel
theorem dX6_init_17 : decode cX6_init 17 = .ok (.newarray .int, 2) := by decide +kernel
theorem dX6_init_19 : decode cX6_init 19 = .ok (.putfield 18, 3) := by decide +kernel
theorem dX6_init_22 : decode cX6_init 22 = .ok (.aload_n 0, 1) := by decide +kernel
theorem dX6_init_23 : decode cX6_init 23 = .ok (.bipush 36, 2) := by decide +kernel
theorem dX6_init_25 : decode cX6_init 25 = .ok (.newarray .int, 2) := by decide +kernel
theorem dX6_init_27 : decode cX6_init 27 = .ok (.putfield 22, 3) := by decide +kernel
theorem dX6_init_30 : decode cX6_init 30 = .ok (.aload_n 0, 1) := by decide +kernel
theorem dX6_init_31 : decode cX6_init 31 = .ok (.getfield 22, 3) := by decide +kernel
theorem dX6_init_34 : decode cX6_init 34 = .ok (.iconst (-1), 1) := by decide +kernel
theorem dX6_init_35 : decode cX6_init 35 = .ok (.invokestatic 25, 3) := by decide +kernel
theorem dX6_init_38 : decode cX6_init 38 = .ok (.aload_n 0, 1) := by decide +kernel
theorem dX6_init_39 : decode cX6_init 39 = .ok (.iconst 4, 1) := by decide +kernel
theorem dX6_init_40 : decode cX6_init 40 = .ok (.putfield 31, 3) := by decide +kernel
theorem dX6_init_43 : decode cX6_init 43 = .ok (.aload_n 0, 1) := by decide +kernel
theorem dX6_init_44 : decode cX6_init 44 = .ok (.iconst 4, 1) := by decide +kernel
theorem dX6_init_45 : decode cX6_init 45 = .ok (.putfield 35, 3) := by decide +kernel
theorem dX6_init_48 : decode cX6_init 48 = .ok (.aload_n 0, 1) := by decide +kernel
theorem dX6_init_49 : decode cX6_init 49 = .ok (.iconst 0, 1) := by decide +kernel
theorem dX6_init_50 : decode cX6_init 50 = .ok (.putfield 38, 3) := by decide +kernel
theorem dX6_init_53 : decode cX6_init 53 = .ok (.aload_n 0, 1) := by decide +kernel
theorem dX6_init_54 : decode cX6_init 54 = .ok (.iconst 0, 1) := by decide +kernel
theorem dX6_init_55 : decode cX6_init 55 = .ok (.putfield 41, 3) := by decide +kernel
theorem dX6_init_58 : decode cX6_init 58 = .ok (.aload_n 0, 1) := by decide +kernel
theorem dX6_init_59 : decode cX6_init 59 = .ok (.iconst 1, 1) := by decide +kernel
theorem dX6_init_60 : decode cX6_init 60 = .ok (.putfield 44, 3) := by decide +kernel
theorem dX6_init_63 : decode cX6_init 63 = .ok (.return_, 1) := by decide +kernel
theorem dX6_copyFrom_0 : decode cX6_copyFrom 0 = .ok (.aload_n 1, 1) := by decide +kernel
theorem dX6_copyFrom_1 : decode cX6_copyFrom 1 = .ok (.getfield 18, 3) := by decide +kernel
theorem dX6_copyFrom_4 : decode cX6_copyFrom 4 = .ok (.iconst 0, 1) := by decide +kernel
theorem dX6_copyFrom_5 : decode cX6_copyFrom 5 = .ok (.aload_n 0, 1) := by decide +kernel
theorem dX6_copyFrom_6 : decode cX6_copyFrom 6 = .ok (.getfield 18, 3) := by decide +kernel
theorem dX6_copyFrom_9 : decode cX6_copyFrom 9 = .ok (.iconst 0, 1) := by decide +kernel
theorem dX6_copyFrom_10 : decode cX6_copyFrom 10 = .ok (.bipush 36, 2) := by decide +kernel
theorem dX6_copyFrom_12 : decode cX6_copyFrom 12 = .ok (.invokestatic 47, 3) := by decide +kernel
theorem dX6_copyFrom_15 : decode cX6_copyFrom 15 = .ok (.aload_n 1, 1) := by decide +kernel
theorem dX6_copyFrom_16 : decode cX6_copyFrom 16 = .ok (.getfield 22, 3) := by decide +kernel
theorem dX6_copyFrom_19 : decode cX6_copyFrom 19 = .ok (.iconst 0, 1) := by decide +kernel
theorem dX6_copyFrom_20 : decode cX6_copyFrom 20 = .ok (.aload_n 0, 1) := by decide +kernel
theorem dX6_copyFrom_21 : decode cX6_copyFrom 21 = .ok (.getfield 22, 3) := by decide +kernel
theorem dX6_copyFrom_24 : decode cX6_copyFrom 24 = .ok (.iconst 0, 1) := by decide +kernel
theorem dX6_copyFrom_25 : decode cX6_copyFrom 25 = .ok (.bipush 36, 2) := by decide +kernel
theorem dX6_copyFrom_27 : decode cX6_copyFrom 27 = .ok (.invokestatic 47, 3) := by decide +kernel
theorem dX6_copyFrom_30 : decode cX6_copyFrom 30 = .ok (.aload_n 0, 1) := by decide +kernel
theorem dX6_copyFrom_31 : decode cX6_copyFrom 31 = .ok (.aload_n 1, 1) := by decide +kernel
theorem dX6_copyFrom_32 : decode cX6_copyFrom 32 = .ok (.getfield 31, 3) := by decide +kernel
theorem dX6_copyFrom_35 : decode cX6_copyFrom 35 = .ok (.putfield 31, 3) := by decide +kernel
theorem dX6_copyFrom_38 : decode cX6_copyFrom 38 = .ok (.aload_n 0, 1) := by decide +kernel
theorem dX6_copyFrom_39 : decode cX6_copyFrom 39 = .ok (.aload_n 1, 1) := by decide +kernel
theorem dX6_copyFrom_40 : decode cX6_copyFrom 40 = .ok (.getfield 35, 3) := by decide +kernel
theorem dX6_copyFrom_43 : decode cX6_copyFrom 43 = .ok (.putfield 35, 3) := by decide +kernel
theorem dX6_copyFrom_46 : decode cX6_copyFrom 46 = .ok (.aload_n 0, 1) := by decide +kernel
theorem dX6_copyFrom_47 : decode cX6_copyFrom 47 = .ok (.aload_n 1, 1) := by decide +kernel
theorem dX6_copyFrom_48 : decode cX6_copyFrom 48 = .ok (.getfield 38, 3) := by decide +kernel
theorem dX6_copyFrom_51 : decode cX6_copyFrom 51 = .ok (.putfield 38, 3) := by decide +kernel
theorem dX6_copyFrom_54 : decode cX6_copyFrom 54 = .ok (.aload_n 0, 1) := by decide +kernel
theorem dX6_copyFrom_55 : decode cX6_copyFrom 55 = .ok (.aload_n 1, 1) := by decide +kernel
theorem dX6_copyFrom_56 : decode cX6_copyFrom 56 = .ok (.getfield 41, 3) := by decide +kernel
theorem dX6_copyFrom_59 : decode cX6_copyFrom 59 = .ok (.putfield 41, 3) := by decide +kernel
theorem dX6_copyFrom_62 : decode cX6_copyFrom 62 = .ok (.aload_n 0, 1) := by decide +kernel
theorem dX6_copyFrom_63 : decode cX6_copyFrom 63 = .ok (.aload_n 1, 1) := by decide +kernel
theorem dX6_copyFrom_64 : decode cX6_copyFrom 64 = .ok (.getfield 44, 3) := by decide +kernel
theorem dX6_copyFrom_67 : decode cX6_copyFrom 67 = .ok (.putfield 44, 3) := by decide +kernel
theorem dX6_copyFrom_70 : decode cX6_copyFrom 70 = .ok (.return_, 1) := by decide +kernel
theorem dX6_readBoard_0 : decode cX6_readBoard 0 = .ok (.iconst 0, 1) := by decide +kernel
theorem dX6_readBoard_1 : decode cX6_readBoard 1 = .ok (.istore_n 2, 1) := by decide +kernel
theorem dX6_readBoard_2 : decode cX6_readBoard 2 = .ok (.aload_n 0, 1) := by decide +kernel
theorem dX6_readBoard_3 : decode cX6_readBoard 3 = .ok (.iconst 0, 1) := by decide +kernel
theorem dX6_readBoard_4 : decode cX6_readBoard 4 = .ok (.putfield 31, 3) := by decide +kernel
theorem dX6_readBoard_7 : decode cX6_readBoard 7 = .ok (.iconst 0, 1) := by decide +kernel
theorem dX6_readBoard_8 : decode cX6_readBoard 8 = .ok (.istore_n 3, 1) := by decide +kernel
theorem dX6_readBoard_9 : decode cX6_readBoard 9 = .ok (.iload_n 3, 1) := by decide +kernel
theorem dX6_readBoard_10 : decode cX6_readBoard 10 = .ok (.aload_n 1, 1) := by decide +kernel
theorem dX6_readBoard_11 : decode cX6_readBoard 11 = .ok (.getfield 53, 3) := by decide +kernel
theorem dX6_readBoard_14 : decode cX6_readBoard 14 = .ok (.if_icmp .ge 51, 3) := by decide +kernel
theorem dX6_readBoard_17 : decode cX6_readBoard 17 = .ok (.aload_n 1, 1) := by decide +kernel
theorem dX6_readBoard_18 : decode cX6_readBoard 18 = .ok (.iload_n 3, 1) := by decide +kernel
theorem dX6_readBoard_19 : decode cX6_readBoard 19 = .ok (.invokevirtual 58, 3) := by decide +kernel
theorem dX6_readBoard_22 : decode cX6_readBoard 22 = .ok (.istore 4, 2) := by decide +kernel
theorem dX6_readBoard_24 : decode cX6_readBoard 24 = .ok (.iload 4, 2) := by decide +kernel
theorem dX6_readBoard_26 : decode cX6_readBoard 26 = .ok (.ifCond .ge 16, 3) := by decide +kernel
theorem dX6_readBoard_29 : decode cX6_readBoard 29 = .ok (.aload_n 0, 1) := by decide +kernel
theorem dX6_readBoard_30 : decode cX6_readBoard 30 = .ok (.dup, 1) := by decide +kernel
theorem dX6_readBoard_31 : decode cX6_readBoard 31 = .ok (.getfield 31, 3) := by decide +kernel
theorem dX6_readBoard_34 : decode cX6_readBoard 34 = .ok (.iconst 1, 1) := by decide +kernel
theorem dX6_readBoard_35 : decode cX6_readBoard 35 = .ok (.iadd, 1) := by decide +kernel
theorem dX6_readBoard_36 : decode cX6_readBoard 36 = .ok (.putfield 31, 3) := by decide +kernel
theorem dX6_readBoard_39 : decode cX6_readBoard 39 = .ok (.goto 20, 3) := by decide +kernel
theorem dX6_readBoard_42 : decode cX6_readBoard 42 = .ok (.iload_n 2, 1) := by decide +kernel
theorem dX6_readBoard_43 : decode cX6_readBoard 43 = .ok (.bipush 36, 2) := by decide +kernel
theorem dX6_readBoard_45 : decode cX6_readBoard 45 = .ok (.if_icmp .ge 14, 3) := by decide +kernel
theorem dX6_readBoard_48 : decode cX6_readBoard 48 = .ok (.aload_n 0, 1) := by decide +kernel
theorem dX6_readBoard_49 : decode cX6_readBoard 49 = .ok (.getfield 18, 3) := by decide +kernel
theorem dX6_readBoard_52 : decode cX6_readBoard 52 = .ok (.iload_n 2, 1) := by decide +kernel
theorem dX6_readBoard_53 : decode cX6_readBoard 53 = .ok (.iload 4, 2) := by decide +kernel
theorem dX6_readBoard_55 : decode cX6_readBoard 55 = .ok (.iastore, 1) := by decide +kernel
theorem dX6_readBoard_56 : decode cX6_readBoard 56 = .ok (.iinc 2 1, 3) := by decide +kernel
theorem dX6_readBoard_59 : decode cX6_readBoard 59 = .ok (.iinc 3 1, 3) := by decide +kernel
theorem dX6_readBoard_62 : decode cX6_readBoard 62 = .ok (.goto (-53), 3) := by decide +kernel
theorem dX6_readBoard_65 : decode cX6_readBoard 65 = .ok (.aload_n 0, 1) := by decide +kernel
theorem dX6_readBoard_66 : decode cX6_readBoard 66 = .ok (.aload_n 0, 1) := by decide +kernel
theorem dX6_readBoard_67 : decode cX6_readBoard 67 = .ok (.getfield 31, 3) := by decide +kernel
theorem dX6_readBoard_70 : decode cX6_readBoard 70 = .ok (.ifCond .le 12, 3) := by decide +kernel
theorem dX6_readBoard_73 : decode cX6_readBoard 73 = .ok (.iload_n 2, 1) := by decide +kernel
theorem dX6_readBoard_74 : decode cX6_readBoard 74 = .ok (.aload_n 0, 1) := by decide +kernel
theorem dX6_readBoard_75 : decode cX6_readBoard 75 = .ok (.getfield 31, 3) := by decide +kernel
theorem dX6_readBoard_78 : decode cX6_readBoard 78 = .ok (.idiv, 1) := by decide +kernel
theorem dX6_readBoard_79 : decode cX6_readBoard 79 = .ok (.goto 4, 3) := by decide +kernel
theorem dX6_readBoard_82 : decode cX6_readBoard 82 = .ok (.iconst 0, 1) := by decide +kernel
theorem dX6_readBoard_83 : decode cX6_readBoard 83 = .ok (.putfield 35, 3) := by decide +kernel
theorem dX6_readBoard_86 : decode cX6_readBoard 86 = .ok (.aload_n 0, 1) := by decide +kernel
theorem dX6_readBoard_87 : decode cX6_readBoard 87 = .ok (.invokevirtual 62, 3) := by decide +kernel
theorem dX6_readBoard_90 : decode cX6_readBoard 90 = .ok (.aload_n 0, 1) := by decide +kernel
theorem dX6_readBoard_91 : decode cX6_readBoard 91 = .ok (.aload_n 0, 1) := by decide +kernel
theorem dX6_readBoard_92 : decode cX6_readBoard 92 = .ok (.getfield 38, 3) := by decide +kernel
theorem dX6_readBoard_95 : decode cX6_readBoard 95 = .ok (.iconst 0, 1) := by decide +kernel
theorem dX6_readBoard_96 : decode cX6_readBoard 96 = .ok (.invokevirtual 65, 3) := by decide +kernel
theorem dX6_readBoard_99 : decode cX6_readBoard 99 = .ok (.ifCond .eq 15, 3) := by decide +kernel
theorem dX6_readBoard_102 : decode cX6_readBoard 102 = .ok (.aload_n 0, 1) := by decide +kernel
theorem dX6_readBoard_103 : decode cX6_readBoard 103 = .ok (.aload_n 0, 1) := by decide +kernel
theorem dX6_readBoard_104 : decode cX6_readBoard 104 = .ok (.getfield 38, 3) := by decide +kernel
theorem dX6_readBoard_107 : decode cX6_readBoard 107 = .ok (.iconst 0, 1) := by decide +kernel
theorem dX6_readBoard_108 : decode cX6_readBoard 108 = .ok (.invokevirtual 69, 3) := by decide +kernel
theorem dX6_readBoard_111 : decode cX6_readBoard 111 = .ok (.goto 8, 3) := by decide +kernel
theorem dX6_readBoard_114 : decode cX6_readBoard 114 = .ok (.aload_n 0, 1) := by decide +kernel
theorem dX6_readBoard_115 : decode cX6_readBoard 115 = .ok (.iconst (-1), 1) := by decide +kernel
theorem dX6_readBoard_116 : decode cX6_readBoard 116 = .ok (.putfield 41, 3) := by decide +kernel
theorem dX6_readBoard_119 : decode cX6_readBoard 119 = .ok (.return_, 1) := by decide +kernel
theorem dX6_tileCount_0 : decode cX6_tileCount 0 = .ok (.aload_n 0, 1) := by decide +kernel
theorem dX6_tileCount_1 : decode cX6_tileCount 1 = .ok (.getfield 31, 3) := by decide +kernel
theorem dX6_tileCount_4 : decode cX6_tileCount 4 = .ok (.aload_n 0, 1) := by decide +kernel
theorem dX6_tileCount_5 : decode cX6_tileCount 5 = .ok (.getfield 35, 3) := by decide +kernel
theorem dX6_tileCount_8 : decode cX6_tileCount 8 = .ok (.imul, 1) := by decide +kernel
theorem dX6_tileCount_9 : decode cX6_tileCount 9 = .ok (.ireturn, 1) := by decide +kernel
theorem dX6_hasTile_0 : decode cX6_hasTile 0 = .ok (.iload_n 1, 1) := by decide +kernel
theorem dX6_hasTile_1 : decode cX6_hasTile 1 = .ok (.ifCond .lt 15, 3) := by decide +kernel
theorem dX6_hasTile_4 : decode cX6_hasTile 4 = .ok (.iload_n 1, 1) := by decide +kernel
theorem dX6_hasTile_5 : decode cX6_hasTile 5 = .ok (.aload_n 0, 1) := by decide +kernel
theorem dX6_hasTile_6 : decode cX6_hasTile 6 = .ok (.invokevirtual 73, 3) := by decide +kernel
theorem dX6_hasTile_9 : decode cX6_hasTile 9 = .ok (.if_icmp .ge 7, 3) := by decide +kernel
theorem dX6_hasTile_12 : decode cX6_hasTile 12 = .ok (.iconst 1, 1) := by decide +kernel
theorem dX6_hasTile_13 : decode cX6_hasTile 13 = .ok (.goto 4, 3) := by decide +kernel
theorem dX6_hasTile_16 : decode cX6_hasTile 16 = .ok (.iconst 0, 1) := by decide +kernel
theorem dX6_hasTile_17 : decode cX6_hasTile 17 = .ok (.ireturn, 1) := by decide +kernel
theorem dX6_hasPlace_0 : decode cX6_hasPlace 0 = .ok (.iload_n 2, 1) := by decide +kernel
theorem dX6_hasPlace_1 : decode cX6_hasPlace 1 = .ok (.ifCond .lt 28, 3) := by decide +kernel
theorem dX6_hasPlace_4 : decode cX6_hasPlace 4 = .ok (.iload_n 2, 1) := by decide +kernel
theorem dX6_hasPlace_5 : decode cX6_hasPlace 5 = .ok (.iload_n 1, 1) := by decide +kernel
theorem dX6_hasPlace_6 : decode cX6_hasPlace 6 = .ok (.invokestatic 77, 3) := by decide +kernel
theorem dX6_hasPlace_9 : decode cX6_hasPlace 9 = .ok (.ifCond .eq 7, 3) := by decide +kernel
theorem dX6_hasPlace_12 : decode cX6_hasPlace 12 = .ok (.iconst 2, 1) := by decide +kernel
theorem dX6_hasPlace_13 : decode cX6_hasPlace 13 = .ok (.goto 4, 3) := by decide +kernel
theorem dX6_hasPlace_16 : decode cX6_hasPlace 16 = .ok (.iconst 1, 1) := by decide +kernel
theorem dX6_hasPlace_17 : decode cX6_hasPlace 17 = .ok (.aload_n 0, 1) := by decide +kernel
theorem dX6_hasPlace_18 : decode cX6_hasPlace 18 = .ok (.invokevirtual 73, 3) := by decide +kernel
theorem dX6_hasPlace_21 : decode cX6_hasPlace 21 = .ok (.imul, 1) := by decide +kernel
theorem dX6_hasPlace_22 : decode cX6_hasPlace 22 = .ok (.if_icmp .ge 7, 3) := by decide +kernel
theorem dX6_hasPlace_25 : decode cX6_hasPlace 25 = .ok (.iconst 1, 1) := by decide +kernel
theorem dX6_hasPlace_26 : decode cX6_hasPlace 26 = .ok (.goto 4, 3) := by decide +kernel
theorem dX6_hasPlace_29 : decode cX6_hasPlace 29 = .ok (.iconst 0, 1) := by decide +kernel
theorem dX6_hasPlace_30 : decode cX6_hasPlace 30 = .ok (.ireturn, 1) := by decide +kernel
theorem dX6_isNone_0 : decode cX6_isNone 0 = .ok (.aload_n 0, 1) := by decide +kernel
theorem dX6_isNone_1 : decode cX6_isNone 1 = .ok (.getfield 41, 3) := by decide +kernel
theorem dX6_isNone_4 : decode cX6_isNone 4 = .ok (.ifCond .ge 7, 3) := by decide +kernel
theorem dX6_isNone_7 : decode cX6_isNone 7 = .ok (.iconst 1, 1) := by decide +kernel
theorem dX6_isNone_8 : decode cX6_isNone 8 = .ok (.goto 4, 3) := by decide +kernel
theorem dX6_isNone_11 : decode cX6_isNone 11 = .ok (.iconst 0, 1) := by decide +kernel
theorem dX6_isNone_12 : decode cX6_isNone 12 = .ok (.ireturn, 1) := by decide +kernel
theorem dX6_placeNow_0 : decode cX6_placeNow 0 = .ok (.aload_n 0, 1) := by decide +kernel
theorem dX6_placeNow_1 : decode cX6_placeNow 1 = .ok (.getfield 41, 3) := by decide +kernel
theorem dX6_placeNow_4 : decode cX6_placeNow 4 = .ok (.bipush 24, 2) := by decide +kernel
theorem dX6_placeNow_6 : decode cX6_placeNow 6 = .ok (.idiv, 1) := by decide +kernel
theorem dX6_placeNow_7 : decode cX6_placeNow 7 = .ok (.ireturn, 1) := by decide +kernel
theorem dX6_stances_0 : decode cX6_stances 0 = .ok (.aload_n 0, 1) := by decide +kernel
theorem dX6_stances_1 : decode cX6_stances 1 = .ok (.getfield 38, 3) := by decide +kernel
theorem dX6_stances_4 : decode cX6_stances 4 = .ok (.invokestatic 77, 3) := by decide +kernel
theorem dX6_stances_7 : decode cX6_stances 7 = .ok (.ifCond .eq 10, 3) := by decide +kernel
theorem dX6_stances_10 : decode cX6_stances 10 = .ok (.aload_n 0, 1) := by decide +kernel
theorem dX6_stances_11 : decode cX6_stances 11 = .ok (.getfield 15, 3) := by decide +kernel
theorem dX6_stances_14 : decode cX6_stances 14 = .ok (.goto 7, 3) := by decide +kernel
theorem dX6_stances_17 : decode cX6_stances 17 = .ok (.aload_n 0, 1) := by decide +kernel
theorem dX6_stances_18 : decode cX6_stances 18 = .ok (.getfield 9, 3) := by decide +kernel
theorem dX6_stances_21 : decode cX6_stances 21 = .ok (.areturn, 1) := by decide +kernel
theorem dX6_mayBePlaced_0 : decode cX6_mayBePlaced 0 = .ok (.iload_n 1, 1) := by decide +kernel
theorem dX6_mayBePlaced_1 : decode cX6_mayBePlaced 1 = .ok (.invokestatic 77, 3) := by decide +kernel
theorem dX6_mayBePlaced_4 : decode cX6_mayBePlaced 4 = .ok (.ifCond .eq 9, 3) := by decide +kernel
theorem dX6_mayBePlaced_7 : decode cX6_mayBePlaced 7 = .ok (.iload_n 2, 1) := by decide +kernel
theorem dX6_mayBePlaced_8 : decode cX6_mayBePlaced 8 = .ok (.iconst 2, 1) := by decide +kernel
theorem dX6_mayBePlaced_9 : decode cX6_mayBePlaced 9 = .ok (.idiv, 1) := by decide +kernel
theorem dX6_mayBePlaced_10 : decode cX6_mayBePlaced 10 = .ok (.goto 4, 3) := by decide +kernel
theorem dX6_mayBePlaced_13 : decode cX6_mayBePlaced 13 = .ok (.iload_n 2, 1) := by decide +kernel
theorem dX6_mayBePlaced_14 : decode cX6_mayBePlaced 14 = .ok (.istore_n 3, 1) := by decide +kernel
theorem dX6_mayBePlaced_15 : decode cX6_mayBePlaced 15 = .ok (.aload_n 0, 1) := by decide +kernel
theorem dX6_mayBePlaced_16 : decode cX6_mayBePlaced 16 = .ok (.iload_n 3, 1) := by decide +kernel
theorem dX6_mayBePlaced_17 : decode cX6_mayBePlaced 17 = .ok (.iload_n 1, 1) := by decide +kernel
theorem dX6_mayBePlaced_18 : decode cX6_mayBePlaced 18 = .ok (.iconst 1, 1) := by decide +kernel
theorem dX6_mayBePlaced_19 : decode cX6_mayBePlaced 19 = .ok (.if_icmp .ne 7, 3) := by decide +kernel
theorem dX6_mayBePlaced_22 : decode cX6_mayBePlaced 22 = .ok (.iconst 1, 1) := by decide +kernel
theorem dX6_mayBePlaced_23 : decode cX6_mayBePlaced 23 = .ok (.goto 4, 3) := by decide +kernel
theorem dX6_mayBePlaced_26 : decode cX6_mayBePlaced 26 = .ok (.iconst 0, 1) := by decide +kernel
theorem dX6_mayBePlaced_27 : decode cX6_mayBePlaced 27 = .ok (.invokevirtual 81, 3) := by decide +kernel
theorem dX6_mayBePlaced_30 : decode cX6_mayBePlaced 30 = .ok (.ireturn, 1) := by decide +kernel
theorem dX6_setSolid_0 : decode cX6_setSolid 0 = .ok (.aload_n 0, 1) := by decide +kernel
theorem dX6_setSolid_1 : decode cX6_setSolid 1 = .ok (.iload_n 1, 1) := by decide +kernel
theorem dX6_setSolid_2 : decode cX6_setSolid 2 = .ok (.putfield 38, 3) := by decide +kernel
theorem dX6_setSolid_5 : decode cX6_setSolid 5 = .ok (.aload_n 0, 1) := by decide +kernel
theorem dX6_setSolid_6 : decode cX6_setSolid 6 = .ok (.iload_n 2, 1) := by decide +kernel
theorem dX6_setSolid_7 : decode cX6_setSolid 7 = .ok (.bipush 24, 2) := by decide +kernel
theorem dX6_setSolid_9 : decode cX6_setSolid 9 = .ok (.imul, 1) := by decide +kernel
theorem dX6_setSolid_10 : decode cX6_setSolid 10 = .ok (.putfield 41, 3) := by decide +kernel
theorem dX6_setSolid_13 : decode cX6_setSolid 13 = .ok (.return_, 1) := by decide +kernel
theorem dX6_bears_0 : decode cX6_bears 0 = .ok (.aload_n 0, 1) := by decide +kernel
theorem dX6_bears_1 : decode cX6_bears 1 = .ok (.getfield 18, 3) := by decide +kernel
theorem dX6_bears_4 : decode cX6_bears 4 = .ok (.iload_n 1, 1) := by decide +kernel
theorem dX6_bears_5 : decode cX6_bears 5 = .ok (.iaload, 1) := by decide +kernel
theorem dX6_bears_6 : decode cX6_bears 6 = .ok (.iconst 1, 1) := by decide +kernel
theorem dX6_bears_7 : decode cX6_bears 7 = .ok (.if_icmp .eq 21, 3) := by decide +kernel
theorem dX6_bears_10 : decode cX6_bears 10 = .ok (.iload_n 2, 1) := by decide +kernel
theorem dX6_bears_11 : decode cX6_bears 11 = .ok (.ifCond .eq 13, 3) := by decide +kernel
theorem dX6_bears_14 : decode cX6_bears 14 = .ok (.aload_n 0, 1) := by decide +kernel
theorem dX6_bears_15 : decode cX6_bears 15 = .ok (.getfield 18, 3) := by decide +kernel
theorem dX6_bears_18 : decode cX6_bears 18 = .ok (.iload_n 1, 1) := by decide +kernel
theorem dX6_bears_19 : decode cX6_bears 19 = .ok (.iaload, 1) := by decide +kernel
theorem dX6_bears_20 : decode cX6_bears 20 = .ok (.iconst 2, 1) := by decide +kernel
theorem dX6_bears_21 : decode cX6_bears 21 = .ok (.if_icmp .eq 7, 3) := by decide +kernel
theorem dX6_bears_24 : decode cX6_bears 24 = .ok (.iconst 1, 1) := by decide +kernel
theorem dX6_bears_25 : decode cX6_bears 25 = .ok (.goto 4, 3) := by decide +kernel
theorem dX6_bears_28 : decode cX6_bears 28 = .ok (.iconst 0, 1) := by decide +kernel
theorem dX6_bears_29 : decode cX6_bears 29 = .ok (.ireturn, 1) := by decide +kernel
theorem dX6_wouldBar_0 : decode cX6_wouldBar 0 = .ok (.aload_n 0, 1) := by decide +kernel
theorem dX6_wouldBar_1 : decode cX6_wouldBar 1 = .ok (.getfield 38, 3) := by decide +kernel
theorem dX6_wouldBar_4 : decode cX6_wouldBar 4 = .ok (.iconst 1, 1) := by decide +kernel
theorem dX6_wouldBar_5 : decode cX6_wouldBar 5 = .ok (.if_icmp .eq 22, 3) := by decide +kernel
theorem dX6_wouldBar_8 : decode cX6_wouldBar 8 = .ok (.aload_n 0, 1) := by decide +kernel
theorem dX6_wouldBar_9 : decode cX6_wouldBar 9 = .ok (.getfield 38, 3) := by decide +kernel
theorem dX6_wouldBar_12 : decode cX6_wouldBar 12 = .ok (.iconst 3, 1) := by decide +kernel
theorem dX6_wouldBar_13 : decode cX6_wouldBar 13 = .ok (.if_icmp .ne 18, 3) := by decide +kernel
theorem dX6_wouldBar_16 : decode cX6_wouldBar 16 = .ok (.aload_n 0, 1) := by decide +kernel
theorem dX6_wouldBar_17 : decode cX6_wouldBar 17 = .ok (.aload_n 0, 1) := by decide +kernel
theorem dX6_wouldBar_18 : decode cX6_wouldBar 18 = .ok (.getfield 41, 3) := by decide +kernel
theorem dX6_wouldBar_21 : decode cX6_wouldBar 21 = .ok (.invokevirtual 85, 3) := by decide +kernel
theorem dX6_wouldBar_24 : decode cX6_wouldBar 24 = .ok (.ifCond .ne 7, 3) := by decide +kernel
theorem dX6_wouldBar_27 : decode cX6_wouldBar 27 = .ok (.iconst 1, 1) := by decide +kernel
theorem dX6_wouldBar_28 : decode cX6_wouldBar 28 = .ok (.goto 4, 3) := by decide +kernel
theorem dX6_wouldBar_31 : decode cX6_wouldBar 31 = .ok (.iconst 0, 1) := by decide +kernel
theorem dX6_wouldBar_32 : decode cX6_wouldBar 32 = .ok (.istore_n 2, 1) := by decide +kernel
theorem dX6_wouldBar_33 : decode cX6_wouldBar 33 = .ok (.iload_n 1, 1) := by decide +kernel
theorem dX6_wouldBar_34 : decode cX6_wouldBar 34 = .ok (.iconst 1, 1) := by decide +kernel
theorem dX6_wouldBar_35 : decode cX6_wouldBar 35 = .ok (.if_icmp .eq 12, 3) := by decide +kernel
theorem dX6_wouldBar_38 : decode cX6_wouldBar 38 = .ok (.iload_n 2, 1) := by decide +kernel
theorem dX6_wouldBar_39 : decode cX6_wouldBar 39 = .ok (.ifCond .eq 12, 3) := by decide +kernel
theorem dX6_wouldBar_42 : decode cX6_wouldBar 42 = .ok (.iload_n 1, 1) := by decide +kernel
theorem dX6_wouldBar_43 : decode cX6_wouldBar 43 = .ok (.iconst 2, 1) := by decide +kernel
theorem dX6_wouldBar_44 : decode cX6_wouldBar 44 = .ok (.if_icmp .ne 7, 3) := by decide +kernel
theorem dX6_wouldBar_47 : decode cX6_wouldBar 47 = .ok (.iconst 1, 1) := by decide +kernel
theorem dX6_wouldBar_48 : decode cX6_wouldBar 48 = .ok (.goto 4, 3) := by decide +kernel
theorem dX6_wouldBar_51 : decode cX6_wouldBar 51 = .ok (.iconst 0, 1) := by decide +kernel
theorem dX6_wouldBar_52 : decode cX6_wouldBar 52 = .ok (.ireturn, 1) := by decide +kernel
theorem dX6_isOn_0 : decode cX6_isOn 0 = .ok (.aload_n 0, 1) := by decide +kernel
theorem dX6_isOn_1 : decode cX6_isOn 1 = .ok (.invokevirtual 88, 3) := by decide +kernel
theorem dX6_isOn_4 : decode cX6_isOn 4 = .ok (.ifCond .ne 24, 3) := by decide +kernel
theorem dX6_isOn_7 : decode cX6_isOn 7 = .ok (.aload_n 0, 1) := by decide +kernel
theorem dX6_isOn_8 : decode cX6_isOn 8 = .ok (.aload_n 0, 1) := by decide +kernel
theorem dX6_isOn_9 : decode cX6_isOn 9 = .ok (.getfield 41, 3) := by decide +kernel
theorem dX6_isOn_12 : decode cX6_isOn 12 = .ok (.invokevirtual 92, 3) := by decide +kernel
theorem dX6_isOn_15 : decode cX6_isOn 15 = .ok (.iload_n 1, 1) := by decide +kernel
theorem dX6_isOn_16 : decode cX6_isOn 16 = .ok (.lshr, 1) := by decide +kernel
theorem dX6_isOn_17 : decode cX6_isOn 17 = .ok (.lconst 1, 1) := by decide +kernel
theorem dX6_isOn_18 : decode cX6_isOn 18 = .ok (.land, 1) := by decide +kernel
theorem dX6_isOn_19 : decode cX6_isOn 19 = .ok (.lconst 1, 1) := by decide +kernel
theorem dX6_isOn_20 : decode cX6_isOn 20 = .ok (.lcmp, 1) := by decide +kernel
theorem dX6_isOn_21 : decode cX6_isOn 21 = .ok (.ifCond .ne 7, 3) := by decide +kernel
theorem dX6_isOn_24 : decode cX6_isOn 24 = .ok (.iconst 1, 1) := by decide +kernel
theorem dX6_isOn_25 : decode cX6_isOn 25 = .ok (.goto 4, 3) := by decide +kernel
theorem dX6_isOn_28 : decode cX6_isOn 28 = .ok (.iconst 0, 1) := by decide +kernel
theorem dX6_isOn_29 : decode cX6_isOn 29 = .ok (.ireturn, 1) := by decide +kernel
theorem dX6_countTiles_0 : decode cX6_countTiles 0 = .ok (.iconst 0, 1) := by decide +kernel
theorem dX6_countTiles_1 : decode cX6_countTiles 1 = .ok (.istore_n 2, 1) := by decide +kernel
theorem dX6_countTiles_2 : decode cX6_countTiles 2 = .ok (.iconst 0, 1) := by decide +kernel
theorem dX6_countTiles_3 : decode cX6_countTiles 3 = .ok (.istore_n 3, 1) := by decide +kernel
theorem dX6_countTiles_4 : decode cX6_countTiles 4 = .ok (.iload_n 3, 1) := by decide +kernel
theorem dX6_countTiles_5 : decode cX6_countTiles 5 = .ok (.aload_n 0, 1) := by decide +kernel
theorem dX6_countTiles_6 : decode cX6_countTiles 6 = .ok (.invokevirtual 73, 3) := by decide +kernel
theorem dX6_countTiles_9 : decode cX6_countTiles 9 = .ok (.if_icmp .ge 22, 3) := by decide +kernel
theorem dX6_countTiles_12 : decode cX6_countTiles 12 = .ok (.aload_n 0, 1) := by decide +kernel
theorem dX6_countTiles_13 : decode cX6_countTiles 13 = .ok (.getfield 18, 3) := by decide +kernel
theorem dX6_countTiles_16 : decode cX6_countTiles 16 = .ok (.iload_n 3, 1) := by decide +kernel
theorem dX6_countTiles_17 : decode cX6_countTiles 17 = .ok (.iaload, 1) := by decide +kernel
theorem dX6_countTiles_18 : decode cX6_countTiles 18 = .ok (.iload_n 1, 1) := by decide +kernel
theorem dX6_countTiles_19 : decode cX6_countTiles 19 = .ok (.if_icmp .ne 6, 3) := by decide +kernel
theorem dX6_countTiles_22 : decode cX6_countTiles 22 = .ok (.iinc 2 1, 3) := by decide +kernel
theorem dX6_countTiles_25 : decode cX6_countTiles 25 = .ok (.iinc 3 1, 3) := by decide +kernel
theorem dX6_countTiles_28 : decode cX6_countTiles 28 = .ok (.goto (-24), 3) := by decide +kernel
theorem dX6_countTiles_31 : decode cX6_countTiles 31 = .ok (.iload_n 2, 1) := by decide +kernel
theorem dX6_countTiles_32 : decode cX6_countTiles 32 = .ok (.ireturn, 1) := by decide +kernel
theorem dX6_countPrints_0 : decode cX6_countPrints 0 = .ok (.iconst 0, 1) := by decide +kernel
theorem dX6_countPrints_1 : decode cX6_countPrints 1 = .ok (.istore_n 1, 1) := by decide +kernel
theorem dX6_countPrints_2 : decode cX6_countPrints 2 = .ok (.iconst 0, 1) := by decide +kernel
theorem dX6_countPrints_3 : decode cX6_countPrints 3 = .ok (.istore_n 2, 1) := by decide +kernel
theorem dX6_countPrints_4 : decode cX6_countPrints 4 = .ok (.iload_n 2, 1) := by decide +kernel
theorem dX6_countPrints_5 : decode cX6_countPrints 5 = .ok (.aload_n 0, 1) := by decide +kernel
theorem dX6_countPrints_6 : decode cX6_countPrints 6 = .ok (.invokevirtual 73, 3) := by decide +kernel
theorem dX6_countPrints_9 : decode cX6_countPrints 9 = .ok (.if_icmp .ge 22, 3) := by decide +kernel
theorem dX6_countPrints_12 : decode cX6_countPrints 12 = .ok (.aload_n 0, 1) := by decide +kernel
theorem dX6_countPrints_13 : decode cX6_countPrints 13 = .ok (.getfield 22, 3) := by decide +kernel
theorem dX6_countPrints_16 : decode cX6_countPrints 16 = .ok (.iload_n 2, 1) := by decide +kernel
theorem dX6_countPrints_17 : decode cX6_countPrints 17 = .ok (.iaload, 1) := by decide +kernel
theorem dX6_countPrints_18 : decode cX6_countPrints 18 = .ok (.iconst (-1), 1) := by decide +kernel
theorem dX6_countPrints_19 : decode cX6_countPrints 19 = .ok (.if_icmp .eq 6, 3) := by decide +kernel
theorem dX6_countPrints_22 : decode cX6_countPrints 22 = .ok (.iinc 1 1, 3) := by decide +kernel
theorem dX6_countPrints_25 : decode cX6_countPrints 25 = .ok (.iinc 2 1, 3) := by decide +kernel
theorem dX6_countPrints_28 : decode cX6_countPrints 28 = .ok (.goto (-24), 3) := by decide +kernel
theorem dX6_countPrints_31 : decode cX6_countPrints 31 = .ok (.iload_n 1, 1) := by decide +kernel
theorem dX6_countPrints_32 : decode cX6_countPrints 32 = .ok (.ireturn, 1) := by decide +kernel
theorem dX6_clearPrints_0 : decode cX6_clearPrints 0 = .ok (.aload_n 0, 1) := by decide +kernel
theorem dX6_clearPrints_1 : decode cX6_clearPrints 1 = .ok (.getfield 22, 3) := by decide +kernel
theorem dX6_clearPrints_4 : decode cX6_clearPrints 4 = .ok (.iconst (-1), 1) := by decide +kernel
theorem dX6_clearPrints_5 : decode cX6_clearPrints 5 = .ok (.invokestatic 25, 3) := by decide +kernel
theorem dX6_clearPrints_8 : decode cX6_clearPrints 8 = .ok (.return_, 1) := by decide +kernel
theorem dX6_printBelow_0 : decode cX6_printBelow 0 = .ok (.aload_n 0, 1) := by decide +kernel
theorem dX6_printBelow_1 : decode cX6_printBelow 1 = .ok (.aload_n 0, 1) := by decide +kernel
theorem dX6_printBelow_2 : decode cX6_printBelow 2 = .ok (.getfield 41, 3) := by decide +kernel
theorem dX6_printBelow_5 : decode cX6_printBelow 5 = .ok (.invokevirtual 92, 3) := by decide +kernel
theorem dX6_printBelow_8 : decode cX6_printBelow 8 = .ok (.lstore_n 1, 1) := by decide +kernel
theorem dX6_printBelow_9 : decode cX6_printBelow 9 = .ok (.iconst 0, 1) := by decide +kernel
theorem dX6_printBelow_10 : decode cX6_printBelow 10 = .ok (.istore_n 3, 1) := by decide +kernel
theorem dX6_printBelow_11 : decode cX6_printBelow 11 = .ok (.iload_n 3, 1) := by decide +kernel
theorem dX6_printBelow_12 : decode cX6_printBelow 12 = .ok (.bipush 36, 2) := by decide +kernel
theorem dX6_printBelow_14 : decode cX6_printBelow 14 = .ok (.if_icmp .ge 33, 3) := by decide +kernel
theorem dX6_printBelow_17 : decode cX6_printBelow 17 = .ok (.lload_n 1, 1) := by decide +kernel
theorem dX6_printBelow_18 : decode cX6_printBelow 18 = .ok (.iload_n 3, 1) := by decide +kernel
theorem dX6_printBelow_19 : decode cX6_printBelow 19 = .ok (.lshr, 1) := by decide +kernel
theorem dX6_printBelow_20 : decode cX6_printBelow 20 = .ok (.lconst 1, 1) := by decide +kernel
theorem dX6_printBelow_21 : decode cX6_printBelow 21 = .ok (.land, 1) := by decide +kernel
theorem dX6_printBelow_22 : decode cX6_printBelow 22 = .ok (.lconst 1, 1) := by decide +kernel
theorem dX6_printBelow_23 : decode cX6_printBelow 23 = .ok (.lcmp, 1) := by decide +kernel
theorem dX6_printBelow_24 : decode cX6_printBelow 24 = .ok (.ifCond .ne 17, 3) := by decide +kernel
theorem dX6_printBelow_27 : decode cX6_printBelow 27 = .ok (.aload_n 0, 1) := by decide +kernel
theorem dX6_printBelow_28 : decode cX6_printBelow 28 = .ok (.getfield 22, 3) := by decide +kernel
theorem dX6_printBelow_31 : decode cX6_printBelow 31 = .ok (.iload_n 3, 1) := by decide +kernel
theorem dX6_printBelow_32 : decode cX6_printBelow 32 = .ok (.aload_n 0, 1) := by decide +kernel
theorem dX6_printBelow_33 : decode cX6_printBelow 33 = .ok (.aload_n 0, 1) := by decide +kernel
theorem dX6_printBelow_34 : decode cX6_printBelow 34 = .ok (.getfield 41, 3) := by decide +kernel
theorem dX6_printBelow_37 : decode cX6_printBelow 37 = .ok (.invokevirtual 96, 3) := by decide +kernel
theorem dX6_printBelow_40 : decode cX6_printBelow 40 = .ok (.iastore, 1) := by decide +kernel
theorem dX6_printBelow_41 : decode cX6_printBelow 41 = .ok (.iinc 3 1, 3) := by decide +kernel
theorem dX6_printBelow_44 : decode cX6_printBelow 44 = .ok (.goto (-33), 3) := by decide +kernel
theorem dX6_printBelow_47 : decode cX6_printBelow 47 = .ok (.return_, 1) := by decide +kernel
theorem dX6_faceBelow_0 : decode cX6_faceBelow 0 = .ok (.aload_n 0, 1) := by decide +kernel
theorem dX6_faceBelow_1 : decode cX6_faceBelow 1 = .ok (.getfield 38, 3) := by decide +kernel
theorem dX6_faceBelow_4 : decode cX6_faceBelow 4 = .ok (.invokestatic 77, 3) := by decide +kernel
theorem dX6_faceBelow_7 : decode cX6_faceBelow 7 = .ok (.ifCond .eq 10, 3) := by decide +kernel
theorem dX6_faceBelow_10 : decode cX6_faceBelow 10 = .ok (.aload_n 0, 1) := by decide +kernel
theorem dX6_faceBelow_11 : decode cX6_faceBelow 11 = .ok (.getfield 15, 3) := by decide +kernel
theorem dX6_faceBelow_14 : decode cX6_faceBelow 14 = .ok (.goto 7, 3) := by decide +kernel
theorem dX6_faceBelow_17 : decode cX6_faceBelow 17 = .ok (.aload_n 0, 1) := by decide +kernel
theorem dX6_faceBelow_18 : decode cX6_faceBelow 18 = .ok (.getfield 9, 3) := by decide +kernel
theorem dX6_faceBelow_21 : decode cX6_faceBelow 21 = .ok (.astore_n 2, 1) := by decide +kernel
theorem dX6_faceBelow_22 : decode cX6_faceBelow 22 = .ok (.aload_n 2, 1) := by decide +kernel
theorem dX6_faceBelow_23 : decode cX6_faceBelow 23 = .ok (.iload_n 1, 1) := by decide +kernel
theorem dX6_faceBelow_24 : decode cX6_faceBelow 24 = .ok (.bipush 24, 2) := by decide +kernel
theorem dX6_faceBelow_26 : decode cX6_faceBelow 26 = .ok (.irem, 1) := by decide +kernel
theorem dX6_faceBelow_27 : decode cX6_faceBelow 27 = .ok (.invokevirtual 99, 3) := by decide +kernel
theorem dX6_faceBelow_30 : decode cX6_faceBelow 30 = .ok (.ireturn, 1) := by decide +kernel
theorem dX6_positionOf_0 : decode cX6_positionOf 0 = .ok (.aload_n 0, 1) := by decide +kernel
theorem dX6_positionOf_1 : decode cX6_positionOf 1 = .ok (.invokevirtual 102, 3) := by decide +kernel
theorem dX6_positionOf_4 : decode cX6_positionOf 4 = .ok (.aload_n 0, 1) := by decide +kernel
theorem dX6_positionOf_5 : decode cX6_positionOf 5 = .ok (.getfield 41, 3) := by decide +kernel
theorem dX6_positionOf_8 : decode cX6_positionOf 8 = .ok (.bipush 24, 2) := by decide +kernel
theorem dX6_positionOf_10 : decode cX6_positionOf 10 = .ok (.irem, 1) := by decide +kernel
theorem dX6_positionOf_11 : decode cX6_positionOf 11 = .ok (.iload_n 1, 1) := by decide +kernel
theorem dX6_positionOf_12 : decode cX6_positionOf 12 = .ok (.invokevirtual 106, 3) := by decide +kernel
theorem dX6_positionOf_15 : decode cX6_positionOf 15 = .ok (.ireturn, 1) := by decide +kernel
theorem dX6_stands_0 : decode cX6_stands 0 = .ok (.aload_n 0, 1) := by decide +kernel
theorem dX6_stands_1 : decode cX6_stands 1 = .ok (.iload_n 1, 1) := by decide +kernel
theorem dX6_stands_2 : decode cX6_stands 2 = .ok (.bipush 24, 2) := by decide +kernel
theorem dX6_stands_4 : decode cX6_stands 4 = .ok (.irem, 1) := by decide +kernel
theorem dX6_stands_5 : decode cX6_stands 5 = .ok (.invokevirtual 110, 3) := by decide +kernel
theorem dX6_stands_8 : decode cX6_stands 8 = .ok (.ifCond .ne 7, 3) := by decide +kernel
theorem dX6_stands_11 : decode cX6_stands 11 = .ok (.iconst 1, 1) := by decide +kernel
theorem dX6_stands_12 : decode cX6_stands 12 = .ok (.goto 4, 3) := by decide +kernel
theorem dX6_stands_15 : decode cX6_stands 15 = .ok (.iconst 0, 1) := by decide +kernel
theorem dX6_stands_16 : decode cX6_stands 16 = .ok (.ireturn, 1) := by decide +kernel
theorem dX6_lie_0 : decode cX6_lie 0 = .ok (.aload_n 0, 1) := by decide +kernel
theorem dX6_lie_1 : decode cX6_lie 1 = .ok (.getfield 38, 3) := by decide +kernel
theorem dX6_lie_4 : decode cX6_lie 4 = .ok (.invokestatic 113, 3) := by decide +kernel
theorem dX6_lie_7 : decode cX6_lie 7 = .ok (.ifCond .ne 5, 3) := by decide +kernel
theorem dX6_lie_10 : decode cX6_lie 10 = .ok (.iconst 0, 1) := by decide +kernel
theorem dX6_lie_11 : decode cX6_lie 11 = .ok (.ireturn, 1) := by decide +kernel
theorem dX6_lie_12 : decode cX6_lie 12 = .ok (.aload_n 0, 1) := by decide +kernel
theorem dX6_lie_13 : decode cX6_lie 13 = .ok (.getfield 9, 3) := by decide +kernel
theorem dX6_lie_16 : decode cX6_lie 16 = .ok (.iload_n 1, 1) := by decide +kernel
theorem dX6_lie_17 : decode cX6_lie 17 = .ok (.iconst 0, 1) := by decide +kernel
theorem dX6_lie_18 : decode cX6_lie 18 = .ok (.invokevirtual 106, 3) := by decide +kernel
theorem dX6_lie_21 : decode cX6_lie 21 = .ok (.tableswitch 35 2 5 #[33, 31, 33, 31], 31) := by decide +kernel
theorem dX6_lie_52 : decode cX6_lie 52 = .ok (.iconst 1, 1) := by decide +kernel
theorem dX6_lie_53 : decode cX6_lie 53 = .ok (.ireturn, 1) := by decide +kernel
theorem dX6_lie_54 : decode cX6_lie 54 = .ok (.iconst 2, 1) := by decide +kernel
theorem dX6_lie_55 : decode cX6_lie 55 = .ok (.ireturn, 1) := by decide +kernel
theorem dX6_lie_56 : decode cX6_lie 56 = .ok (.iconst 0, 1) := by decide +kernel
theorem dX6_lie_57 : decode cX6_lie 57 = .ok (.ireturn, 1) := by decide +kernel
theorem dX6_tilesUnder_0 : decode cX6_tilesUnder 0 = .ok (.iload_n 1, 1) := by decide +kernel
theorem dX6_tilesUnder_1 : decode cX6_tilesUnder 1 = .ok (.bipush 24, 2) := by decide +kernel
theorem dX6_tilesUnder_3 : decode cX6_tilesUnder 3 = .ok (.idiv, 1) := by decide +kernel
theorem dX6_tilesUnder_4 : decode cX6_tilesUnder 4 = .ok (.istore_n 2, 1) := by decide +kernel
theorem dX6_tilesUnder_5 : decode cX6_tilesUnder 5 = .ok (.aload_n 0, 1) := by decide +kernel
theorem dX6_tilesUnder_6 : decode cX6_tilesUnder 6 = .ok (.getfield 38, 3) := by decide +kernel
theorem dX6_tilesUnder_9 : decode cX6_tilesUnder 9 = .ok (.invokestatic 77, 3) := by decide +kernel
theorem dX6_tilesUnder_12 : decode cX6_tilesUnder 12 = .ok (.ifCond .eq 9, 3) := by decide +kernel
theorem dX6_tilesUnder_15 : decode cX6_tilesUnder 15 = .ok (.lconst 1, 1) := by decide +kernel
theorem dX6_tilesUnder_16 : decode cX6_tilesUnder 16 = .ok (.iload_n 2, 1) := by decide +kernel
theorem dX6_tilesUnder_17 : decode cX6_tilesUnder 17 = .ok (.iconst 2, 1) := by decide +kernel
theorem dX6_tilesUnder_18 : decode cX6_tilesUnder 18 = .ok (.idiv, 1) := by decide +kernel
theorem dX6_tilesUnder_19 : decode cX6_tilesUnder 19 = .ok (.lshl, 1) := by decide +kernel
theorem dX6_tilesUnder_20 : decode cX6_tilesUnder 20 = .ok (.lreturn, 1) := by decide +kernel
theorem dX6_tilesUnder_21 : decode cX6_tilesUnder 21 = .ok (.aload_n 0, 1) := by decide +kernel
theorem dX6_tilesUnder_22 : decode cX6_tilesUnder 22 = .ok (.iload_n 1, 1) := by decide +kernel
theorem dX6_tilesUnder_23 : decode cX6_tilesUnder 23 = .ok (.bipush 24, 2) := by decide +kernel
theorem dX6_tilesUnder_25 : decode cX6_tilesUnder 25 = .ok (.irem, 1) := by decide +kernel
theorem dX6_tilesUnder_26 : decode cX6_tilesUnder 26 = .ok (.invokevirtual 110, 3) := by decide +kernel
theorem dX6_tilesUnder_29 : decode cX6_tilesUnder 29 = .ok (.lookupswitch 46 #[(1, 27), (2, 33)], 27) := by decide +kernel
theorem dX6_tilesUnder_56 : decode cX6_tilesUnder 56 = .ok (.ldc2_w 116, 3) := by decide +kernel
theorem dX6_tilesUnder_59 : decode cX6_tilesUnder 59 = .ok (.iload_n 2, 1) := by decide +kernel
theorem dX6_tilesUnder_60 : decode cX6_tilesUnder 60 = .ok (.lshl, 1) := by decide +kernel
theorem dX6_tilesUnder_61 : decode cX6_tilesUnder 61 = .ok (.lreturn, 1) := by decide +kernel
theorem dX6_tilesUnder_62 : decode cX6_tilesUnder 62 = .ok (.lconst 1, 1) := by decide +kernel
theorem dX6_tilesUnder_63 : decode cX6_tilesUnder 63 = .ok (.iload_n 2, 1) := by decide +kernel
theorem dX6_tilesUnder_64 : decode cX6_tilesUnder 64 = .ok (.lshl, 1) := by decide +kernel
theorem dX6_tilesUnder_65 : decode cX6_tilesUnder 65 = .ok (.lconst 1, 1) := by decide +kernel
theorem dX6_tilesUnder_66 : decode cX6_tilesUnder 66 = .ok (.iload_n 2, 1) := by decide +kernel
theorem dX6_tilesUnder_67 : decode cX6_tilesUnder 67 = .ok (.aload_n 0, 1) := by decide +kernel
theorem dX6_tilesUnder_68 : decode cX6_tilesUnder 68 = .ok (.getfield 35, 3) := by decide +kernel
theorem dX6_tilesUnder_71 : decode cX6_tilesUnder 71 = .ok (.iadd, 1) := by decide +kernel
theorem dX6_tilesUnder_72 : decode cX6_tilesUnder 72 = .ok (.lshl, 1) := by decide +kernel
theorem dX6_tilesUnder_73 : decode cX6_tilesUnder 73 = .ok (.lor, 1) := by decide +kernel
theorem dX6_tilesUnder_74 : decode cX6_tilesUnder 74 = .ok (.lreturn, 1) := by decide +kernel
theorem dX6_tilesUnder_75 : decode cX6_tilesUnder 75 = .ok (.lconst 1, 1) := by decide +kernel
theorem dX6_tilesUnder_76 : decode cX6_tilesUnder 76 = .ok (.iload_n 2, 1) := by decide +kernel
theorem dX6_tilesUnder_77 : decode cX6_tilesUnder 77 = .ok (.lshl, 1) := by decide +kernel
theorem dX6_tilesUnder_78 : decode cX6_tilesUnder 78 = .ok (.lreturn, 1) := by decide +kernel
theorem dX6_pointsUp_0 : decode cX6_pointsUp 0 = .ok (.iconst 2, 1) := by decide +kernel
theorem dX6_pointsUp_1 : decode cX6_pointsUp 1 = .ok (.aload_n 0, 1) := by decide +kernel
theorem dX6_pointsUp_2 : decode cX6_pointsUp 2 = .ok (.getfield 35, 3) := by decide +kernel
theorem dX6_pointsUp_5 : decode cX6_pointsUp 5 = .ok (.imul, 1) := by decide +kernel
theorem dX6_pointsUp_6 : decode cX6_pointsUp 6 = .ok (.istore_n 2, 1) := by decide +kernel
theorem dX6_pointsUp_7 : decode cX6_pointsUp 7 = .ok (.iload_n 1, 1) := by decide +kernel
theorem dX6_pointsUp_8 : decode cX6_pointsUp 8 = .ok (.iload_n 2, 1) := by decide +kernel
theorem dX6_pointsUp_9 : decode cX6_pointsUp 9 = .ok (.invokestatic 118, 3) := by decide +kernel
theorem dX6_pointsUp_12 : decode cX6_pointsUp 12 = .ok (.istore_n 3, 1) := by decide +kernel
theorem dX6_pointsUp_13 : decode cX6_pointsUp 13 = .ok (.iload_n 1, 1) := by decide +kernel
theorem dX6_pointsUp_14 : decode cX6_pointsUp 14 = .ok (.iload_n 3, 1) := by decide +kernel
theorem dX6_pointsUp_15 : decode cX6_pointsUp 15 = .ok (.iload_n 2, 1) := by decide +kernel
theorem dX6_pointsUp_16 : decode cX6_pointsUp 16 = .ok (.imul, 1) := by decide +kernel
theorem dX6_pointsUp_17 : decode cX6_pointsUp 17 = .ok (.isub, 1) := by decide +kernel
theorem dX6_pointsUp_18 : decode cX6_pointsUp 18 = .ok (.istore 4, 2) := by decide +kernel
theorem dX6_pointsUp_20 : decode cX6_pointsUp 20 = .ok (.iload_n 3, 1) := by decide +kernel
theorem dX6_pointsUp_21 : decode cX6_pointsUp 21 = .ok (.iload 4, 2) := by decide +kernel
theorem dX6_pointsUp_23 : decode cX6_pointsUp 23 = .ok (.iadd, 1) := by decide +kernel
theorem dX6_pointsUp_24 : decode cX6_pointsUp 24 = .ok (.iconst 2, 1) := by decide +kernel
theorem dX6_pointsUp_25 : decode cX6_pointsUp 25 = .ok (.irem, 1) := by decide +kernel
theorem dX6_pointsUp_26 : decode cX6_pointsUp 26 = .ok (.ifCond .ne 7, 3) := by decide +kernel
theorem dX6_pointsUp_29 : decode cX6_pointsUp 29 = .ok (.iconst 1, 1) := by decide +kernel
theorem dX6_pointsUp_30 : decode cX6_pointsUp 30 = .ok (.goto 4, 3) := by decide +kernel
theorem dX6_pointsUp_33 : decode cX6_pointsUp 33 = .ok (.iconst 0, 1) := by decide +kernel
theorem dX6_pointsUp_34 : decode cX6_pointsUp 34 = .ok (.ireturn, 1) := by decide +kernel
theorem dX6_rowOf_0 : decode cX6_rowOf 0 = .ok (.iload_n 1, 1) := by decide +kernel
theorem dX6_rowOf_1 : decode cX6_rowOf 1 = .ok (.ifCond .le 9, 3) := by decide +kernel
theorem dX6_rowOf_4 : decode cX6_rowOf 4 = .ok (.iload_n 0, 1) := by decide +kernel
theorem dX6_rowOf_5 : decode cX6_rowOf 5 = .ok (.iload_n 1, 1) := by decide +kernel
theorem dX6_rowOf_6 : decode cX6_rowOf 6 = .ok (.idiv, 1) := by decide +kernel
theorem dX6_rowOf_7 : decode cX6_rowOf 7 = .ok (.goto 4, 3) := by decide +kernel
theorem dX6_rowOf_10 : decode cX6_rowOf 10 = .ok (.iconst 0, 1) := by decide +kernel
theorem dX6_rowOf_11 : decode cX6_rowOf 11 = .ok (.ireturn, 1) := by decide +kernel
theorem dX6_rolled_0 : decode cX6_rolled 0 = .ok (.aload_n 0, 1) := by decide +kernel
theorem dX6_rolled_1 : decode cX6_rolled 1 = .ok (.getfield 38, 3) := by decide +kernel
theorem dX6_rolled_4 : decode cX6_rolled 4 = .ok (.invokestatic 77, 3) := by decide +kernel
theorem dX6_rolled_7 : decode cX6_rolled 7 = .ok (.ifCond .eq 10, 3) := by decide +kernel
theorem dX6_rolled_10 : decode cX6_rolled 10 = .ok (.aload_n 0, 1) := by decide +kernel
theorem dX6_rolled_11 : decode cX6_rolled 11 = .ok (.iload_n 1, 1) := by decide +kernel
theorem dX6_rolled_12 : decode cX6_rolled 12 = .ok (.iload_n 2, 1) := by decide +kernel
theorem dX6_rolled_13 : decode cX6_rolled 13 = .ok (.invokevirtual 121, 3) := by decide +kernel
theorem dX6_rolled_16 : decode cX6_rolled 16 = .ok (.ireturn, 1) := by decide +kernel
theorem dX6_rolled_17 : decode cX6_rolled 17 = .ok (.iload_n 1, 1) := by decide +kernel
theorem dX6_rolled_18 : decode cX6_rolled 18 = .ok (.bipush 24, 2) := by decide +kernel
theorem dX6_rolled_20 : decode cX6_rolled 20 = .ok (.idiv, 1) := by decide +kernel
theorem dX6_rolled_21 : decode cX6_rolled 21 = .ok (.istore_n 3, 1) := by decide +kernel
theorem dX6_rolled_22 : decode cX6_rolled 22 = .ok (.aload_n 0, 1) := by decide +kernel
theorem dX6_rolled_23 : decode cX6_rolled 23 = .ok (.getfield 9, 3) := by decide +kernel
theorem dX6_rolled_26 : decode cX6_rolled 26 = .ok (.iload_n 1, 1) := by decide +kernel
theorem dX6_rolled_27 : decode cX6_rolled 27 = .ok (.bipush 24, 2) := by decide +kernel
theorem dX6_rolled_29 : decode cX6_rolled 29 = .ok (.irem, 1) := by decide +kernel
theorem dX6_rolled_30 : decode cX6_rolled 30 = .ok (.iload_n 2, 1) := by decide +kernel
theorem dX6_rolled_31 : decode cX6_rolled 31 = .ok (.invokevirtual 124, 3) := by decide +kernel
theorem dX6_rolled_34 : decode cX6_rolled 34 = .ok (.istore 4, 2) := by decide +kernel
theorem dX6_rolled_36 : decode cX6_rolled 36 = .ok (.iload_n 3, 1) := by decide +kernel
theorem dX6_rolled_37 : decode cX6_rolled 37 = .ok (.aload_n 0, 1) := by decide +kernel
theorem dX6_rolled_38 : decode cX6_rolled 38 = .ok (.getfield 35, 3) := by decide +kernel
theorem dX6_rolled_41 : decode cX6_rolled 41 = .ok (.invokestatic 118, 3) := by decide +kernel
theorem dX6_rolled_44 : decode cX6_rolled 44 = .ok (.istore 5, 2) := by decide +kernel
theorem dX6_rolled_46 : decode cX6_rolled 46 = .ok (.iload_n 3, 1) := by decide +kernel
theorem dX6_rolled_47 : decode cX6_rolled 47 = .ok (.iload 5, 2) := by decide +kernel
theorem dX6_rolled_49 : decode cX6_rolled 49 = .ok (.aload_n 0, 1) := by decide +kernel
theorem dX6_rolled_50 : decode cX6_rolled 50 = .ok (.getfield 35, 3) := by decide +kernel
theorem dX6_rolled_53 : decode cX6_rolled 53 = .ok (.imul, 1) := by decide +kernel
theorem dX6_rolled_54 : decode cX6_rolled 54 = .ok (.isub, 1) := by decide +kernel
theorem dX6_rolled_55 : decode cX6_rolled 55 = .ok (.istore 6, 2) := by decide +kernel
theorem dX6_rolled_57 : decode cX6_rolled 57 = .ok (.aload_n 0, 1) := by decide +kernel
theorem dX6_rolled_58 : decode cX6_rolled 58 = .ok (.aload_n 0, 1) := by decide +kernel
theorem dX6_rolled_59 : decode cX6_rolled 59 = .ok (.iload_n 1, 1) := by decide +kernel
theorem dX6_rolled_60 : decode cX6_rolled 60 = .ok (.bipush 24, 2) := by decide +kernel
theorem dX6_rolled_62 : decode cX6_rolled 62 = .ok (.irem, 1) := by decide +kernel
theorem dX6_rolled_63 : decode cX6_rolled 63 = .ok (.invokevirtual 110, 3) := by decide +kernel
theorem dX6_rolled_66 : decode cX6_rolled 66 = .ok (.iload_n 2, 1) := by decide +kernel
theorem dX6_rolled_67 : decode cX6_rolled 67 = .ok (.invokevirtual 127, 3) := by decide +kernel
theorem dX6_rolled_70 : decode cX6_rolled 70 = .ok (.istore 7, 2) := by decide +kernel
theorem dX6_rolled_72 : decode cX6_rolled 72 = .ok (.iload_n 2, 1) := by decide +kernel
theorem dX6_rolled_73 : decode cX6_rolled 73 = .ok (.ifCond .eq 8, 3) := by decide +kernel
theorem dX6_rolled_76 : decode cX6_rolled 76 = .ok (.iload_n 2, 1) := by decide +kernel
theorem dX6_rolled_77 : decode cX6_rolled 77 = .ok (.iconst 2, 1) := by decide +kernel
theorem dX6_rolled_78 : decode cX6_rolled 78 = .ok (.if_icmp .ne 24, 3) := by decide +kernel
theorem dX6_rolled_81 : decode cX6_rolled 81 = .ok (.iload 5, 2) := by decide +kernel
theorem dX6_rolled_83 : decode cX6_rolled 83 = .ok (.iload_n 2, 1) := by decide +kernel
theorem dX6_rolled_84 : decode cX6_rolled 84 = .ok (.iconst 2, 1) := by decide +kernel
theorem dX6_rolled_85 : decode cX6_rolled 85 = .ok (.if_icmp .ne 8, 3) := by decide +kernel
theorem dX6_rolled_88 : decode cX6_rolled 88 = .ok (.iload 7, 2) := by decide +kernel
theorem dX6_rolled_90 : decode cX6_rolled 90 = .ok (.goto 6, 3) := by decide +kernel
theorem dX6_rolled_93 : decode cX6_rolled 93 = .ok (.iload 7, 2) := by decide +kernel
theorem dX6_rolled_95 : decode cX6_rolled 95 = .ok (.ineg, 1) := by decide +kernel
theorem dX6_rolled_96 : decode cX6_rolled 96 = .ok (.iadd, 1) := by decide +kernel
theorem dX6_rolled_97 : decode cX6_rolled 97 = .ok (.istore 5, 2) := by decide +kernel
theorem dX6_rolled_99 : decode cX6_rolled 99 = .ok (.goto 21, 3) := by decide +kernel
theorem dX6_rolled_102 : decode cX6_rolled 102 = .ok (.iload 6, 2) := by decide +kernel
theorem dX6_rolled_104 : decode cX6_rolled 104 = .ok (.iload_n 2, 1) := by decide +kernel
theorem dX6_rolled_105 : decode cX6_rolled 105 = .ok (.iconst 1, 1) := by decide +kernel
theorem dX6_rolled_106 : decode cX6_rolled 106 = .ok (.if_icmp .ne 8, 3) := by decide +kernel
theorem dX6_rolled_109 : decode cX6_rolled 109 = .ok (.iload 7, 2) := by decide +kernel
theorem dX6_rolled_111 : decode cX6_rolled 111 = .ok (.goto 6, 3) := by decide +kernel
theorem dX6_rolled_114 : decode cX6_rolled 114 = .ok (.iload 7, 2) := by decide +kernel
theorem dX6_rolled_116 : decode cX6_rolled 116 = .ok (.ineg, 1) := by decide +kernel
theorem dX6_rolled_117 : decode cX6_rolled 117 = .ok (.iadd, 1) := by decide +kernel
theorem dX6_rolled_118 : decode cX6_rolled 118 = .ok (.istore 6, 2) := by decide +kernel
theorem dX6_rolled_120 : decode cX6_rolled 120 = .ok (.aload_n 0, 1) := by decide +kernel
theorem dX6_rolled_121 : decode cX6_rolled 121 = .ok (.iload 5, 2) := by decide +kernel
theorem dX6_rolled_123 : decode cX6_rolled 123 = .ok (.iload 6, 2) := by decide +kernel
theorem dX6_rolled_125 : decode cX6_rolled 125 = .ok (.aload_n 0, 1) := by decide +kernel
theorem dX6_rolled_126 : decode cX6_rolled 126 = .ok (.iload 4, 2) := by decide +kernel
theorem dX6_rolled_128 : decode cX6_rolled 128 = .ok (.invokevirtual 110, 3) := by decide +kernel
theorem dX6_rolled_131 : decode cX6_rolled 131 = .ok (.invokevirtual 130, 3) := by decide +kernel
theorem dX6_rolled_134 : decode cX6_rolled 134 = .ok (.ifCond .eq 22, 3) := by decide +kernel
theorem dX6_rolled_137 : decode cX6_rolled 137 = .ok (.iload 5, 2) := by decide +kernel
theorem dX6_rolled_139 : decode cX6_rolled 139 = .ok (.aload_n 0, 1) := by decide +kernel
theorem dX6_rolled_140 : decode cX6_rolled 140 = .ok (.getfield 35, 3) := by decide +kernel
theorem dX6_rolled_143 : decode cX6_rolled 143 = .ok (.imul, 1) := by decide +kernel
theorem dX6_rolled_144 : decode cX6_rolled 144 = .ok (.iload 6, 2) := by decide +kernel
theorem dX6_rolled_146 : decode cX6_rolled 146 = .ok (.iadd, 1) := by decide +kernel
theorem dX6_rolled_147 : decode cX6_rolled 147 = .ok (.bipush 24, 2) := by decide +kernel
theorem dX6_rolled_149 : decode cX6_rolled 149 = .ok (.imul, 1) := by decide +kernel
theorem dX6_rolled_150 : decode cX6_rolled 150 = .ok (.iload 4, 2) := by decide +kernel
theorem dX6_rolled_152 : decode cX6_rolled 152 = .ok (.iadd, 1) := by decide +kernel
theorem dX6_rolled_153 : decode cX6_rolled 153 = .ok (.goto 4, 3) := by decide +kernel
theorem dX6_rolled_156 : decode cX6_rolled 156 = .ok (.iconst (-1), 1) := by decide +kernel
theorem dX6_rolled_157 : decode cX6_rolled 157 = .ok (.ireturn, 1) := by decide +kernel
theorem dX6_reach_0 : decode cX6_reach 0 = .ok (.aload_n 0, 1) := by decide +kernel
theorem dX6_reach_1 : decode cX6_reach 1 = .ok (.getfield 38, 3) := by decide +kernel
theorem dX6_reach_4 : decode cX6_reach 4 = .ok (.invokestatic 113, 3) := by decide +kernel
theorem dX6_reach_7 : decode cX6_reach 7 = .ok (.ifCond .ne 5, 3) := by decide +kernel
theorem dX6_reach_10 : decode cX6_reach 10 = .ok (.iconst 1, 1) := by decide +kernel
theorem dX6_reach_11 : decode cX6_reach 11 = .ok (.ireturn, 1) := by decide +kernel
theorem dX6_reach_12 : decode cX6_reach 12 = .ok (.iload_n 2, 1) := by decide +kernel
theorem dX6_reach_13 : decode cX6_reach 13 = .ok (.lookupswitch 49 #[(1, 27), (2, 38)], 27) := by decide +kernel
theorem dX6_reach_40 : decode cX6_reach 40 = .ok (.iload_n 1, 1) := by decide +kernel
theorem dX6_reach_41 : decode cX6_reach 41 = .ok (.iconst 1, 1) := by decide +kernel
theorem dX6_reach_42 : decode cX6_reach 42 = .ok (.if_icmp .ne 7, 3) := by decide +kernel
theorem dX6_reach_45 : decode cX6_reach 45 = .ok (.iconst 2, 1) := by decide +kernel
theorem dX6_reach_46 : decode cX6_reach 46 = .ok (.goto 4, 3) := by decide +kernel
theorem dX6_reach_49 : decode cX6_reach 49 = .ok (.iconst 1, 1) := by decide +kernel
theorem dX6_reach_50 : decode cX6_reach 50 = .ok (.ireturn, 1) := by decide +kernel
theorem dX6_reach_51 : decode cX6_reach 51 = .ok (.iload_n 1, 1) := by decide +kernel
theorem dX6_reach_52 : decode cX6_reach 52 = .ok (.iconst 2, 1) := by decide +kernel
theorem dX6_reach_53 : decode cX6_reach 53 = .ok (.if_icmp .ne 7, 3) := by decide +kernel
theorem dX6_reach_56 : decode cX6_reach 56 = .ok (.iconst 2, 1) := by decide +kernel
theorem dX6_reach_57 : decode cX6_reach 57 = .ok (.goto 4, 3) := by decide +kernel
theorem dX6_reach_60 : decode cX6_reach 60 = .ok (.iconst 1, 1) := by decide +kernel
theorem dX6_reach_61 : decode cX6_reach 61 = .ok (.ireturn, 1) := by decide +kernel
theorem dX6_reach_62 : decode cX6_reach 62 = .ok (.iload_n 1, 1) := by decide +kernel
theorem dX6_reach_63 : decode cX6_reach 63 = .ok (.ifCond .ne 7, 3) := by decide +kernel
theorem dX6_reach_66 : decode cX6_reach 66 = .ok (.iconst 2, 1) := by decide +kernel
theorem dX6_reach_67 : decode cX6_reach 67 = .ok (.goto 4, 3) := by decide +kernel
theorem dX6_reach_70 : decode cX6_reach 70 = .ok (.iconst 1, 1) := by decide +kernel
theorem dX6_reach_71 : decode cX6_reach 71 = .ok (.ireturn, 1) := by decide +kernel
theorem dX6_mayLie_0 : decode cX6_mayLie 0 = .ok (.iload_n 3, 1) := by decide +kernel
theorem dX6_mayLie_1 : decode cX6_mayLie 1 = .ok (.iconst 2, 1) := by decide +kernel
theorem dX6_mayLie_2 : decode cX6_mayLie 2 = .ok (.if_icmp .ne 9, 3) := by decide +kernel
theorem dX6_mayLie_5 : decode cX6_mayLie 5 = .ok (.iload_n 1, 1) := by decide +kernel
theorem dX6_mayLie_6 : decode cX6_mayLie 6 = .ok (.iconst 1, 1) := by decide +kernel
theorem dX6_mayLie_7 : decode cX6_mayLie 7 = .ok (.iadd, 1) := by decide +kernel
theorem dX6_mayLie_8 : decode cX6_mayLie 8 = .ok (.goto 4, 3) := by decide +kernel
theorem dX6_mayLie_11 : decode cX6_mayLie 11 = .ok (.iload_n 1, 1) := by decide +kernel
theorem dX6_mayLie_12 : decode cX6_mayLie 12 = .ok (.istore 4, 2) := by decide +kernel
theorem dX6_mayLie_14 : decode cX6_mayLie 14 = .ok (.iload_n 3, 1) := by decide +kernel
theorem dX6_mayLie_15 : decode cX6_mayLie 15 = .ok (.iconst 1, 1) := by decide +kernel
theorem dX6_mayLie_16 : decode cX6_mayLie 16 = .ok (.if_icmp .ne 9, 3) := by decide +kernel
theorem dX6_mayLie_19 : decode cX6_mayLie 19 = .ok (.iload_n 2, 1) := by decide +kernel
theorem dX6_mayLie_20 : decode cX6_mayLie 20 = .ok (.iconst 1, 1) := by decide +kernel
theorem dX6_mayLie_21 : decode cX6_mayLie 21 = .ok (.iadd, 1) := by decide +kernel
theorem dX6_mayLie_22 : decode cX6_mayLie 22 = .ok (.goto 4, 3) := by decide +kernel
theorem dX6_mayLie_25 : decode cX6_mayLie 25 = .ok (.iload_n 2, 1) := by decide +kernel
theorem dX6_mayLie_26 : decode cX6_mayLie 26 = .ok (.istore 5, 2) := by decide +kernel
theorem dX6_mayLie_28 : decode cX6_mayLie 28 = .ok (.iload_n 1, 1) := by decide +kernel
theorem dX6_mayLie_29 : decode cX6_mayLie 29 = .ok (.ifCond .lt 25, 3) := by decide +kernel
theorem dX6_mayLie_32 : decode cX6_mayLie 32 = .ok (.iload 4, 2) := by decide +kernel
theorem dX6_mayLie_34 : decode cX6_mayLie 34 = .ok (.aload_n 0, 1) := by decide +kernel
theorem dX6_mayLie_35 : decode cX6_mayLie 35 = .ok (.getfield 31, 3) := by decide +kernel
theorem dX6_mayLie_38 : decode cX6_mayLie 38 = .ok (.if_icmp .ge 16, 3) := by decide +kernel
theorem dX6_mayLie_41 : decode cX6_mayLie 41 = .ok (.iload_n 2, 1) := by decide +kernel
theorem dX6_mayLie_42 : decode cX6_mayLie 42 = .ok (.ifCond .lt 12, 3) := by decide +kernel
theorem dX6_mayLie_45 : decode cX6_mayLie 45 = .ok (.iload 5, 2) := by decide +kernel
theorem dX6_mayLie_47 : decode cX6_mayLie 47 = .ok (.aload_n 0, 1) := by decide +kernel
theorem dX6_mayLie_48 : decode cX6_mayLie 48 = .ok (.getfield 35, 3) := by decide +kernel
theorem dX6_mayLie_51 : decode cX6_mayLie 51 = .ok (.if_icmp .lt 5, 3) := by decide +kernel
theorem dX6_mayLie_54 : decode cX6_mayLie 54 = .ok (.iconst 0, 1) := by decide +kernel
theorem dX6_mayLie_55 : decode cX6_mayLie 55 = .ok (.ireturn, 1) := by decide +kernel
theorem dX6_mayLie_56 : decode cX6_mayLie 56 = .ok (.aload_n 0, 1) := by decide +kernel
theorem dX6_mayLie_57 : decode cX6_mayLie 57 = .ok (.getfield 38, 3) := by decide +kernel
theorem dX6_mayLie_60 : decode cX6_mayLie 60 = .ok (.iconst 1, 1) := by decide +kernel
theorem dX6_mayLie_61 : decode cX6_mayLie 61 = .ok (.if_icmp .eq 15, 3) := by decide +kernel
theorem dX6_mayLie_64 : decode cX6_mayLie 64 = .ok (.aload_n 0, 1) := by decide +kernel
theorem dX6_mayLie_65 : decode cX6_mayLie 65 = .ok (.getfield 38, 3) := by decide +kernel
theorem dX6_mayLie_68 : decode cX6_mayLie 68 = .ok (.iconst 3, 1) := by decide +kernel
theorem dX6_mayLie_69 : decode cX6_mayLie 69 = .ok (.if_icmp .ne 11, 3) := by decide +kernel
theorem dX6_mayLie_72 : decode cX6_mayLie 72 = .ok (.iload_n 3, 1) := by decide +kernel
theorem dX6_mayLie_73 : decode cX6_mayLie 73 = .ok (.ifCond .eq 7, 3) := by decide +kernel
theorem dX6_mayLie_76 : decode cX6_mayLie 76 = .ok (.iconst 1, 1) := by decide +kernel
theorem dX6_mayLie_77 : decode cX6_mayLie 77 = .ok (.goto 4, 3) := by decide +kernel
theorem dX6_mayLie_80 : decode cX6_mayLie 80 = .ok (.iconst 0, 1) := by decide +kernel
theorem dX6_mayLie_81 : decode cX6_mayLie 81 = .ok (.istore 6, 2) := by decide +kernel
theorem dX6_mayLie_83 : decode cX6_mayLie 83 = .ok (.aload_n 0, 1) := by decide +kernel
theorem dX6_mayLie_84 : decode cX6_mayLie 84 = .ok (.iload_n 1, 1) := by decide +kernel
theorem dX6_mayLie_85 : decode cX6_mayLie 85 = .ok (.aload_n 0, 1) := by decide +kernel
theorem dX6_mayLie_86 : decode cX6_mayLie 86 = .ok (.getfield 35, 3) := by decide +kernel
theorem dX6_mayLie_89 : decode cX6_mayLie 89 = .ok (.imul, 1) := by decide +kernel
theorem dX6_mayLie_90 : decode cX6_mayLie 90 = .ok (.iload_n 2, 1) := by decide +kernel
theorem dX6_mayLie_91 : decode cX6_mayLie 91 = .ok (.iadd, 1) := by decide +kernel
theorem dX6_mayLie_92 : decode cX6_mayLie 92 = .ok (.iload 6, 2) := by decide +kernel
theorem dX6_mayLie_94 : decode cX6_mayLie 94 = .ok (.invokevirtual 81, 3) := by decide +kernel
theorem dX6_mayLie_97 : decode cX6_mayLie 97 = .ok (.ifCond .eq 26, 3) := by decide +kernel
theorem dX6_mayLie_100 : decode cX6_mayLie 100 = .ok (.aload_n 0, 1) := by decide +kernel
theorem dX6_mayLie_101 : decode cX6_mayLie 101 = .ok (.iload 4, 2) := by decide +kernel
theorem dX6_mayLie_103 : decode cX6_mayLie 103 = .ok (.aload_n 0, 1) := by decide +kernel
theorem dX6_mayLie_104 : decode cX6_mayLie 104 = .ok (.getfield 35, 3) := by decide +kernel
theorem dX6_mayLie_107 : decode cX6_mayLie 107 = .ok (.imul, 1) := by decide +kernel
theorem dX6_mayLie_108 : decode cX6_mayLie 108 = .ok (.iload 5, 2) := by decide +kernel
theorem dX6_mayLie_110 : decode cX6_mayLie 110 = .ok (.iadd, 1) := by decide +kernel
theorem dX6_mayLie_111 : decode cX6_mayLie 111 = .ok (.iload 6, 2) := by decide +kernel
theorem dX6_mayLie_113 : decode cX6_mayLie 113 = .ok (.invokevirtual 81, 3) := by decide +kernel
theorem dX6_mayLie_116 : decode cX6_mayLie 116 = .ok (.ifCond .eq 7, 3) := by decide +kernel
theorem dX6_mayLie_119 : decode cX6_mayLie 119 = .ok (.iconst 1, 1) := by decide +kernel
theorem dX6_mayLie_120 : decode cX6_mayLie 120 = .ok (.goto 4, 3) := by decide +kernel
theorem dX6_mayLie_123 : decode cX6_mayLie 123 = .ok (.iconst 0, 1) := by decide +kernel
theorem dX6_mayLie_124 : decode cX6_mayLie 124 = .ok (.ireturn, 1) := by decide +kernel
theorem dX6_rolledTetra_0 : decode cX6_rolledTetra 0 = .ok (.iload_n 1, 1) := by decide +kernel
theorem dX6_rolledTetra_1 : decode cX6_rolledTetra 1 = .ok (.bipush 24, 2) := by decide +kernel
theorem dX6_rolledTetra_3 : decode cX6_rolledTetra 3 = .ok (.idiv, 1) := by decide +kernel
theorem dX6_rolledTetra_4 : decode cX6_rolledTetra 4 = .ok (.istore_n 3, 1) := by decide +kernel
theorem dX6_rolledTetra_5 : decode cX6_rolledTetra 5 = .ok (.iconst 2, 1) := by decide +kernel
theorem dX6_rolledTetra_6 : decode cX6_rolledTetra 6 = .ok (.aload_n 0, 1) := by decide +kernel
theorem dX6_rolledTetra_7 : decode cX6_rolledTetra 7 = .ok (.getfield 35, 3) := by decide +kernel
theorem dX6_rolledTetra_10 : decode cX6_rolledTetra 10 = .ok (.imul, 1) := by decide +kernel
theorem dX6_rolledTetra_11 : decode cX6_rolledTetra 11 = .ok (.istore 4, 2) := by decide +kernel
theorem dX6_rolledTetra_13 : decode cX6_rolledTetra 13 = .ok (.iload_n 3, 1) := by decide +kernel
theorem dX6_rolledTetra_14 : decode cX6_rolledTetra 14 = .ok (.iload 4, 2) := by decide +kernel
theorem dX6_rolledTetra_16 : decode cX6_rolledTetra 16 = .ok (.invokestatic 118, 3) := by decide +kernel
theorem dX6_rolledTetra_19 : decode cX6_rolledTetra 19 = .ok (.istore 5, 2) := by decide +kernel
theorem dX6_rolledTetra_21 : decode cX6_rolledTetra 21 = .ok (.iload_n 3, 1) := by decide +kernel
theorem dX6_rolledTetra_22 : decode cX6_rolledTetra 22 = .ok (.iload 5, 2) := by decide +kernel
theorem dX6_rolledTetra_24 : decode cX6_rolledTetra 24 = .ok (.iload 4, 2) := by decide +kernel
theorem dX6_rolledTetra_26 : decode cX6_rolledTetra 26 = .ok (.imul, 1) := by decide +kernel
theorem dX6_rolledTetra_27 : decode cX6_rolledTetra 27 = .ok (.isub, 1) := by decide +kernel
theorem dX6_rolledTetra_28 : decode cX6_rolledTetra 28 = .ok (.istore 6, 2) := by decide +kernel
theorem dX6_rolledTetra_30 : decode cX6_rolledTetra 30 = .ok (.iload 5, 2) := by decide +kernel
theorem dX6_rolledTetra_32 : decode cX6_rolledTetra 32 = .ok (.iload 6, 2) := by decide +kernel
theorem dX6_rolledTetra_34 : decode cX6_rolledTetra 34 = .ok (.iadd, 1) := by decide +kernel
theorem dX6_rolledTetra_35 : decode cX6_rolledTetra 35 = .ok (.iconst 2, 1) := by decide +kernel
theorem dX6_rolledTetra_36 : decode cX6_rolledTetra 36 = .ok (.irem, 1) := by decide +kernel
theorem dX6_rolledTetra_37 : decode cX6_rolledTetra 37 = .ok (.ifCond .ne 7, 3) := by decide +kernel
theorem dX6_rolledTetra_40 : decode cX6_rolledTetra 40 = .ok (.iconst 1, 1) := by decide +kernel
theorem dX6_rolledTetra_41 : decode cX6_rolledTetra 41 = .ok (.goto 4, 3) := by decide +kernel
theorem dX6_rolledTetra_44 : decode cX6_rolledTetra 44 = .ok (.iconst 0, 1) := by decide +kernel
theorem dX6_rolledTetra_45 : decode cX6_rolledTetra 45 = .ok (.istore 7, 2) := by decide +kernel
theorem dX6_rolledTetra_47 : decode cX6_rolledTetra 47 = .ok (.iload_n 2, 1) := by decide +kernel
theorem dX6_rolledTetra_48 : decode cX6_rolledTetra 48 = .ok (.ifCond .ne 8, 3) := by decide +kernel
theorem dX6_rolledTetra_51 : decode cX6_rolledTetra 51 = .ok (.iload 7, 2) := by decide +kernel
theorem dX6_rolledTetra_53 : decode cX6_rolledTetra 53 = .ok (.ifCond .ne 13, 3) := by decide +kernel
theorem dX6_rolledTetra_56 : decode cX6_rolledTetra 56 = .ok (.iload_n 2, 1) := by decide +kernel
theorem dX6_rolledTetra_57 : decode cX6_rolledTetra 57 = .ok (.iconst 2, 1) := by decide +kernel
theorem dX6_rolledTetra_58 : decode cX6_rolledTetra 58 = .ok (.if_icmp .ne 10, 3) := by decide +kernel
theorem dX6_rolledTetra_61 : decode cX6_rolledTetra 61 = .ok (.iload 7, 2) := by decide +kernel
theorem dX6_rolledTetra_63 : decode cX6_rolledTetra 63 = .ok (.ifCond .ne 5, 3) := by decide +kernel
theorem dX6_rolledTetra_66 : decode cX6_rolledTetra 66 = .ok (.iconst (-1), 1) := by decide +kernel
theorem dX6_rolledTetra_67 : decode cX6_rolledTetra 67 = .ok (.ireturn, 1) := by decide +kernel
theorem dX6_rolledTetra_68 : decode cX6_rolledTetra 68 = .ok (.iload 5, 2) := by decide +kernel
theorem dX6_rolledTetra_70 : decode cX6_rolledTetra 70 = .ok (.iload_n 2, 1) := by decide +kernel
theorem dX6_rolledTetra_71 : decode cX6_rolledTetra 71 = .ok (.iconst 2, 1) := by decide +kernel
theorem dX6_rolledTetra_72 : decode cX6_rolledTetra 72 = .ok (.if_icmp .ne 7, 3) := by decide +kernel
theorem dX6_rolledTetra_75 : decode cX6_rolledTetra 75 = .ok (.iconst 1, 1) := by decide +kernel
theorem dX6_rolledTetra_76 : decode cX6_rolledTetra 76 = .ok (.goto 12, 3) := by decide +kernel
theorem dX6_rolledTetra_79 : decode cX6_rolledTetra 79 = .ok (.iload_n 2, 1) := by decide +kernel
theorem dX6_rolledTetra_80 : decode cX6_rolledTetra 80 = .ok (.ifCond .ne 7, 3) := by decide +kernel
theorem dX6_rolledTetra_83 : decode cX6_rolledTetra 83 = .ok (.iconst (-1), 1) := by decide +kernel
theorem dX6_rolledTetra_84 : decode cX6_rolledTetra 84 = .ok (.goto 4, 3) := by decide +kernel
theorem dX6_rolledTetra_87 : decode cX6_rolledTetra 87 = .ok (.iconst 0, 1) := by decide +kernel
theorem dX6_rolledTetra_88 : decode cX6_rolledTetra 88 = .ok (.iadd, 1) := by decide +kernel
theorem dX6_rolledTetra_89 : decode cX6_rolledTetra 89 = .ok (.istore 5, 2) := by decide +kernel
theorem dX6_rolledTetra_91 : decode cX6_rolledTetra 91 = .ok (.iload 6, 2) := by decide +kernel
theorem dX6_rolledTetra_93 : decode cX6_rolledTetra 93 = .ok (.iload_n 2, 1) := by decide +kernel
theorem dX6_rolledTetra_94 : decode cX6_rolledTetra 94 = .ok (.iconst 1, 1) := by decide +kernel
theorem dX6_rolledTetra_95 : decode cX6_rolledTetra 95 = .ok (.if_icmp .ne 7, 3) := by decide +kernel
theorem dX6_rolledTetra_98 : decode cX6_rolledTetra 98 = .ok (.iconst 1, 1) := by decide +kernel
theorem dX6_rolledTetra_99 : decode cX6_rolledTetra 99 = .ok (.goto 13, 3) := by decide +kernel
theorem dX6_rolledTetra_102 : decode cX6_rolledTetra 102 = .ok (.iload_n 2, 1) := by decide +kernel
theorem dX6_rolledTetra_103 : decode cX6_rolledTetra 103 = .ok (.iconst 3, 1) := by decide +kernel
theorem dX6_rolledTetra_104 : decode cX6_rolledTetra 104 = .ok (.if_icmp .ne 7, 3) := by decide +kernel
theorem dX6_rolledTetra_107 : decode cX6_rolledTetra 107 = .ok (.iconst (-1), 1) := by decide +kernel
theorem dX6_rolledTetra_108 : decode cX6_rolledTetra 108 = .ok (.goto 4, 3) := by decide +kernel
theorem dX6_rolledTetra_111 : decode cX6_rolledTetra 111 = .ok (.iconst 0, 1) := by decide +kernel
theorem dX6_rolledTetra_112 : decode cX6_rolledTetra 112 = .ok (.iadd, 1) := by decide +kernel
theorem dX6_rolledTetra_113 : decode cX6_rolledTetra 113 = .ok (.istore 6, 2) := by decide +kernel
theorem dX6_rolledTetra_115 : decode cX6_rolledTetra 115 = .ok (.iload 5, 2) := by decide +kernel
theorem dX6_rolledTetra_117 : decode cX6_rolledTetra 117 = .ok (.ifCond .lt 24, 3) := by decide +kernel
theorem dX6_rolledTetra_120 : decode cX6_rolledTetra 120 = .ok (.iload 5, 2) := by decide +kernel
theorem dX6_rolledTetra_122 : decode cX6_rolledTetra 122 = .ok (.aload_n 0, 1) := by decide +kernel
theorem dX6_rolledTetra_123 : decode cX6_rolledTetra 123 = .ok (.getfield 31, 3) := by decide +kernel
theorem dX6_rolledTetra_126 : decode cX6_rolledTetra 126 = .ok (.if_icmp .ge 15, 3) := by decide +kernel
theorem dX6_rolledTetra_129 : decode cX6_rolledTetra 129 = .ok (.iload 6, 2) := by decide +kernel
theorem dX6_rolledTetra_131 : decode cX6_rolledTetra 131 = .ok (.ifCond .lt 10, 3) := by decide +kernel
theorem dX6_rolledTetra_134 : decode cX6_rolledTetra 134 = .ok (.iload 6, 2) := by decide +kernel
theorem dX6_rolledTetra_136 : decode cX6_rolledTetra 136 = .ok (.iload 4, 2) := by decide +kernel
theorem dX6_rolledTetra_138 : decode cX6_rolledTetra 138 = .ok (.if_icmp .lt 5, 3) := by decide +kernel
theorem dX6_rolledTetra_141 : decode cX6_rolledTetra 141 = .ok (.iconst (-1), 1) := by decide +kernel
theorem dX6_rolledTetra_142 : decode cX6_rolledTetra 142 = .ok (.ireturn, 1) := by decide +kernel
theorem dX6_rolledTetra_143 : decode cX6_rolledTetra 143 = .ok (.iload 5, 2) := by decide +kernel
theorem dX6_rolledTetra_145 : decode cX6_rolledTetra 145 = .ok (.aload_n 0, 1) := by decide +kernel
theorem dX6_rolledTetra_146 : decode cX6_rolledTetra 146 = .ok (.getfield 35, 3) := by decide +kernel
theorem dX6_rolledTetra_149 : decode cX6_rolledTetra 149 = .ok (.imul, 1) := by decide +kernel
theorem dX6_rolledTetra_150 : decode cX6_rolledTetra 150 = .ok (.iload 6, 2) := by decide +kernel
theorem dX6_rolledTetra_152 : decode cX6_rolledTetra 152 = .ok (.iconst 2, 1) := by decide +kernel
theorem dX6_rolledTetra_153 : decode cX6_rolledTetra 153 = .ok (.idiv, 1) := by decide +kernel
theorem dX6_rolledTetra_154 : decode cX6_rolledTetra 154 = .ok (.iadd, 1) := by decide +kernel
theorem dX6_rolledTetra_155 : decode cX6_rolledTetra 155 = .ok (.istore 8, 2) := by decide +kernel
theorem dX6_rolledTetra_157 : decode cX6_rolledTetra 157 = .ok (.aload_n 0, 1) := by decide +kernel
theorem dX6_rolledTetra_158 : decode cX6_rolledTetra 158 = .ok (.iload 8, 2) := by decide +kernel
theorem dX6_rolledTetra_160 : decode cX6_rolledTetra 160 = .ok (.iconst 0, 1) := by decide +kernel
theorem dX6_rolledTetra_161 : decode cX6_rolledTetra 161 = .ok (.invokevirtual 81, 3) := by decide +kernel
theorem dX6_rolledTetra_164 : decode cX6_rolledTetra 164 = .ok (.ifCond .eq 22, 3) := by decide +kernel
theorem dX6_rolledTetra_167 : decode cX6_rolledTetra 167 = .ok (.aload_n 0, 1) := by decide +kernel
theorem dX6_rolledTetra_168 : decode cX6_rolledTetra 168 = .ok (.getfield 38, 3) := by decide +kernel
theorem dX6_rolledTetra_171 : decode cX6_rolledTetra 171 = .ok (.iconst 5, 1) := by decide +kernel
theorem dX6_rolledTetra_172 : decode cX6_rolledTetra 172 = .ok (.if_icmp .ne 16, 3) := by decide +kernel
theorem dX6_rolledTetra_175 : decode cX6_rolledTetra 175 = .ok (.aload_n 0, 1) := by decide +kernel
theorem dX6_rolledTetra_176 : decode cX6_rolledTetra 176 = .ok (.getfield 22, 3) := by decide +kernel
theorem dX6_rolledTetra_179 : decode cX6_rolledTetra 179 = .ok (.iload 8, 2) := by decide +kernel
theorem dX6_rolledTetra_181 : decode cX6_rolledTetra 181 = .ok (.iaload, 1) := by decide +kernel
theorem dX6_rolledTetra_182 : decode cX6_rolledTetra 182 = .ok (.iconst (-1), 1) := by decide +kernel
theorem dX6_rolledTetra_183 : decode cX6_rolledTetra 183 = .ok (.if_icmp .eq 5, 3) := by decide +kernel
theorem dX6_rolledTetra_186 : decode cX6_rolledTetra 186 = .ok (.iconst (-1), 1) := by decide +kernel
theorem dX6_rolledTetra_187 : decode cX6_rolledTetra 187 = .ok (.ireturn, 1) := by decide +kernel
theorem dX6_rolledTetra_188 : decode cX6_rolledTetra 188 = .ok (.iload 5, 2) := by decide +kernel
theorem dX6_rolledTetra_190 : decode cX6_rolledTetra 190 = .ok (.iload 4, 2) := by decide +kernel
theorem dX6_rolledTetra_192 : decode cX6_rolledTetra 192 = .ok (.imul, 1) := by decide +kernel
theorem dX6_rolledTetra_193 : decode cX6_rolledTetra 193 = .ok (.iload 6, 2) := by decide +kernel
theorem dX6_rolledTetra_195 : decode cX6_rolledTetra 195 = .ok (.iadd, 1) := by decide +kernel
theorem dX6_rolledTetra_196 : decode cX6_rolledTetra 196 = .ok (.bipush 24, 2) := by decide +kernel
theorem dX6_rolledTetra_198 : decode cX6_rolledTetra 198 = .ok (.imul, 1) := by decide +kernel
theorem dX6_rolledTetra_199 : decode cX6_rolledTetra 199 = .ok (.aload_n 0, 1) := by decide +kernel
theorem dX6_rolledTetra_200 : decode cX6_rolledTetra 200 = .ok (.getfield 15, 3) := by decide +kernel
theorem dX6_rolledTetra_203 : decode cX6_rolledTetra 203 = .ok (.iload_n 1, 1) := by decide +kernel
theorem dX6_rolledTetra_204 : decode cX6_rolledTetra 204 = .ok (.bipush 24, 2) := by decide +kernel
theorem dX6_rolledTetra_206 : decode cX6_rolledTetra 206 = .ok (.irem, 1) := by decide +kernel
theorem dX6_rolledTetra_207 : decode cX6_rolledTetra 207 = .ok (.iload_n 2, 1) := by decide +kernel
theorem dX6_rolledTetra_208 : decode cX6_rolledTetra 208 = .ok (.invokevirtual 124, 3) := by decide +kernel
theorem dX6_rolledTetra_211 : decode cX6_rolledTetra 211 = .ok (.iadd, 1) := by decide +kernel
theorem dX6_rolledTetra_212 : decode cX6_rolledTetra 212 = .ok (.ireturn, 1) := by decide +kernel
theorem dX6_isAt_0 : decode cX6_isAt 0 = .ok (.iload_n 1, 1) := by decide +kernel
theorem dX6_isAt_1 : decode cX6_isAt 1 = .ok (.bipush 24, 2) := by decide +kernel
theorem dX6_isAt_3 : decode cX6_isAt 3 = .ok (.idiv, 1) := by decide +kernel
theorem dX6_isAt_4 : decode cX6_isAt 4 = .ok (.iload_n 2, 1) := by decide +kernel
theorem dX6_isAt_5 : decode cX6_isAt 5 = .ok (.if_icmp .ne 32, 3) := by decide +kernel
theorem dX6_isAt_8 : decode cX6_isAt 8 = .ok (.aload_n 0, 1) := by decide +kernel
theorem dX6_isAt_9 : decode cX6_isAt 9 = .ok (.iload_n 1, 1) := by decide +kernel
theorem dX6_isAt_10 : decode cX6_isAt 10 = .ok (.bipush 24, 2) := by decide +kernel
theorem dX6_isAt_12 : decode cX6_isAt 12 = .ok (.irem, 1) := by decide +kernel
theorem dX6_isAt_13 : decode cX6_isAt 13 = .ok (.invokevirtual 110, 3) := by decide +kernel
theorem dX6_isAt_16 : decode cX6_isAt 16 = .ok (.ifCond .ne 21, 3) := by decide +kernel
theorem dX6_isAt_19 : decode cX6_isAt 19 = .ok (.iload_n 3, 1) := by decide +kernel
theorem dX6_isAt_20 : decode cX6_isAt 20 = .ok (.iconst (-1), 1) := by decide +kernel
theorem dX6_isAt_21 : decode cX6_isAt 21 = .ok (.if_icmp .eq 12, 3) := by decide +kernel
theorem dX6_isAt_24 : decode cX6_isAt 24 = .ok (.aload_n 0, 1) := by decide +kernel
theorem dX6_isAt_25 : decode cX6_isAt 25 = .ok (.iload_n 1, 1) := by decide +kernel
theorem dX6_isAt_26 : decode cX6_isAt 26 = .ok (.invokevirtual 96, 3) := by decide +kernel
theorem dX6_isAt_29 : decode cX6_isAt 29 = .ok (.iload_n 3, 1) := by decide +kernel
theorem dX6_isAt_30 : decode cX6_isAt 30 = .ok (.if_icmp .ne 7, 3) := by decide +kernel
theorem dX6_isAt_33 : decode cX6_isAt 33 = .ok (.iconst 1, 1) := by decide +kernel
theorem dX6_isAt_34 : decode cX6_isAt 34 = .ok (.goto 4, 3) := by decide +kernel
theorem dX6_isAt_37 : decode cX6_isAt 37 = .ok (.iconst 0, 1) := by decide +kernel
theorem dX6_isAt_38 : decode cX6_isAt 38 = .ok (.ireturn, 1) := by decide +kernel
theorem dX7_init_0 : decode cX7_init 0 = .ok (.aload_n 0, 1) := by decide +kernel
theorem dX7_init_1 : decode cX7_init 1 = .ok (.invokespecial 3, 3) := by decide +kernel
theorem dX7_init_4 : decode cX7_init 4 = .ok (.new 9, 3) := by decide +kernel
theorem dX7_init_7 : decode cX7_init 7 = .ok (.dup, 1) := by decide +kernel
theorem dX7_init_8 : decode cX7_init 8 = .ok (.bipush 6, 2) := by decide +kernel
theorem dX7_init_10 : decode cX7_init 10 = .ok (.iconst 1, 1) := by decide +kernel
theorem dX7_init_11 : decode cX7_init 11 = .ok (.getstatic 11, 3) := by decide +kernel
theorem dX7_init_14 : decode cX7_init 14 = .ok (.invokespecial 15, 3) := by decide +kernel
theorem dX7_init_17 : decode cX7_init 17 = .ok (.astore_n 1, 1) := by decide +kernel
theorem dX7_init_18 : decode cX7_init 18 = .ok (.new 9, 3) := by decide +kernel
theorem dX7_init_21 : decode cX7_init 21 = .ok (.dup, 1) := by decide +kernel
theorem dX7_init_22 : decode cX7_init 22 = .ok (.iconst 4, 1) := by decide +kernel
theorem dX7_init_23 : decode cX7_init 23 = .ok (.iconst 0, 1) := by decide +kernel
theorem dX7_init_24 : decode cX7_init 24 = .ok (.getstatic 18, 3) := by decide +kernel
theorem dX7_init_27 : decode cX7_init 27 = .ok (.invokespecial 15, 3) := by decide +kernel
theorem dX7_init_30 : decode cX7_init 30 = .ok (.astore_n 2, 1) := by decide +kernel
theorem dX7_init_31 : decode cX7_init 31 = .ok (.aload_n 0, 1) := by decide +kernel
theorem dX7_init_32 : decode cX7_init 32 = .ok (.new 21, 3) := by decide +kernel
theorem dX7_init_35 : decode cX7_init 35 = .ok (.dup, 1) := by decide +kernel
theorem dX7_init_36 : decode cX7_init 36 = .ok (.aload_n 1, 1) := by decide +kernel
theorem dX7_init_37 : decode cX7_init 37 = .ok (.aload_n 2, 1) := by decide +kernel
theorem dX7_init_38 : decode cX7_init 38 = .ok (.invokespecial 23, 3) := by decide +kernel
theorem dX7_init_41 : decode cX7_init 41 = .ok (.putfield 26, 3) := by decide +kernel
theorem dX7_init_44 : decode cX7_init 44 = .ok (.aload_n 0, 1) := by decide +kernel
theorem dX7_init_45 : decode cX7_init 45 = .ok (.new 21, 3) := by decide +kernel
theorem dX7_init_48 : decode cX7_init 48 = .ok (.dup, 1) := by decide +kernel
theorem dX7_init_49 : decode cX7_init 49 = .ok (.aload_n 1, 1) := by decide +kernel
theorem dX7_init_50 : decode cX7_init 50 = .ok (.aload_n 2, 1) := by decide +kernel
theorem dX7_init_51 : decode cX7_init 51 = .ok (.invokespecial 23, 3) := by decide +kernel
theorem dX7_init_54 : decode cX7_init 54 = .ok (.putfield 30, 3) := by decide +kernel
theorem dX7_init_57 : decode cX7_init 57 = .ok (.aload_n 0, 1) := by decide +kernel
theorem dX7_init_58 : decode cX7_init 58 = .ok (.iconst 0, 1) := by decide +kernel
theorem dX7_init_59 : decode cX7_init 59 = .ok (.putfield 33, 3) := by decide +kernel
theorem dX7_init_62 : decode cX7_init 62 = .ok (.aload_n 0, 1) := by decide +kernel
theorem dX7_init_63 : decode cX7_init 63 = .ok (.new 37, 3) := by decide +kernel
theorem dX7_init_66 : decode cX7_init 66 = .ok (.dup, 1) := by decide +kernel
theorem dX7_init_67 : decode cX7_init 67 = .ok (.invokespecial 39, 3) := by decide +kernel
theorem dX7_init_70 : decode cX7_init 70 = .ok (.putfield 40, 3) := by decide +kernel
theorem dX7_init_73 : decode cX7_init 73 = .ok (.aload_n 0, 1) := by decide +kernel
theorem dX7_init_74 : decode cX7_init 74 = .ok (.new 44, 3) := by decide +kernel
theorem dX7_init_77 : decode cX7_init 77 = .ok (.dup, 1) := by decide +kernel
theorem dX7_init_78 : decode cX7_init 78 = .ok (.invokespecial 46, 3) := by decide +kernel
theorem dX7_init_81 : decode cX7_init 81 = .ok (.putfield 47, 3) := by decide +kernel
theorem dX7_init_84 : decode cX7_init 84 = .ok (.aload_n 0, 1) := by decide +kernel
theorem dX7_init_85 : decode cX7_init 85 = .ok (.new 51, 3) := by decide +kernel
theorem dX7_init_88 : decode cX7_init 88 = .ok (.dup, 1) := by decide +kernel
theorem dX7_init_89 : decode cX7_init 89 = .ok (.invokespecial 53, 3) := by decide +kernel
theorem dX7_init_92 : decode cX7_init 92 = .ok (.putfield 54, 3) := by decide +kernel
theorem dX7_init_95 : decode cX7_init 95 = .ok (.aload_n 0, 1) := by decide +kernel
theorem dX7_init_96 : decode cX7_init 96 = .ok (.iconst 3, 1) := by decide +kernel
theorem dX7_init_97 : decode cX7_init 97 = .ok (.anewarray 58, 3) := by decide +kernel
theorem dX7_init_100 : decode cX7_init 100 = .ok (.putfield 60, 3) := by decide +kernel
theorem dX7_init_103 : decode cX7_init 103 = .ok (.iconst 0, 1) := by decide +kernel
theorem dX7_init_104 : decode cX7_init 104 = .ok (.istore_n 3, 1) := by decide +kernel
theorem dX7_init_105 : decode cX7_init 105 = .ok (.iload_n 3, 1) := by decide +kernel
theorem dX7_init_106 : decode cX7_init 106 = .ok (.iconst 3, 1) := by decide +kernel
theorem dX7_init_107 : decode cX7_init 107 = .ok (.if_icmp .ge 22, 3) := by decide +kernel
theorem dX7_init_110 : decode cX7_init 110 = .ok (.aload_n 0, 1) := by decide +kernel
theorem dX7_init_111 : decode cX7_init 111 = .ok (.getfield 60, 3) := by decide +kernel
theorem dX7_init_114 : decode cX7_init 114 = .ok (.iload_n 3, 1) := by decide +kernel
theorem dX7_init_115 : decode cX7_init 115 = .ok (.new 58, 3) := by decide +kernel
theorem dX7_init_118 : decode cX7_init 118 = .ok (.dup, 1) := by decide +kernel
theorem dX7_init_119 : decode cX7_init 119 = .ok (.invokespecial 64, 3) := by decide +kernel
theorem dX7_init_122 : decode cX7_init 122 = .ok (.aastore, 1) := by decide +kernel
theorem dX7_init_123 : decode cX7_init 123 = .ok (.iinc 3 1, 3) := by decide +kernel
theorem dX7_init_126 : decode cX7_init 126 = .ok (.goto (-21), 3) := by decide +kernel
theorem dX7_init_129 : decode cX7_init 129 = .ok (.aload_n 0, 1) := by decide +kernel
theorem dX7_init_130 : decode cX7_init 130 = .ok (.iconst 3, 1) := by decide +kernel
theorem dX7_init_131 : decode cX7_init 131 = .ok (.anewarray 65, 3) := by decide +kernel
theorem dX7_init_134 : decode cX7_init 134 = .ok (.putfield 67, 3) := by decide +kernel
theorem dX7_init_137 : decode cX7_init 137 = .ok (.iconst 0, 1) := by decide +kernel
theorem dX7_init_138 : decode cX7_init 138 = .ok (.istore_n 3, 1) := by decide +kernel
theorem dX7_init_139 : decode cX7_init 139 = .ok (.iload_n 3, 1) := by decide +kernel
theorem dX7_init_140 : decode cX7_init 140 = .ok (.iconst 3, 1) := by decide +kernel
theorem dX7_init_141 : decode cX7_init 141 = .ok (.if_icmp .ge 22, 3) := by decide +kernel
theorem dX7_init_144 : decode cX7_init 144 = .ok (.aload_n 0, 1) := by decide +kernel
theorem dX7_init_145 : decode cX7_init 145 = .ok (.getfield 67, 3) := by decide +kernel
theorem dX7_init_148 : decode cX7_init 148 = .ok (.iload_n 3, 1) := by decide +kernel
theorem dX7_init_149 : decode cX7_init 149 = .ok (.new 65, 3) := by decide +kernel
theorem dX7_init_152 : decode cX7_init 152 = .ok (.dup, 1) := by decide +kernel
theorem dX7_init_153 : decode cX7_init 153 = .ok (.invokespecial 71, 3) := by decide +kernel
theorem dX7_init_156 : decode cX7_init 156 = .ok (.aastore, 1) := by decide +kernel
theorem dX7_init_157 : decode cX7_init 157 = .ok (.iinc 3 1, 3) := by decide +kernel
theorem dX7_init_160 : decode cX7_init 160 = .ok (.goto (-21), 3) := by decide +kernel
theorem dX7_init_163 : decode cX7_init 163 = .ok (.aload_n 0, 1) := by decide +kernel
theorem dX7_init_164 : decode cX7_init 164 = .ok (.bipush 7, 2) := by decide +kernel
theorem dX7_init_166 : decode cX7_init 166 = .ok (.newarray .int, 2) := by decide +kernel
theorem dX7_init_168 : decode cX7_init 168 = .ok (.putfield 72, 3) := by decide +kernel
theorem dX7_init_171 : decode cX7_init 171 = .ok (.return_, 1) := by decide +kernel
theorem dX7_letter_0 : decode cX7_letter 0 = .ok (.iload_n 1, 1) := by decide +kernel
theorem dX7_letter_1 : decode cX7_letter 1 = .ok (.ifCond .ge 10, 3) := by decide +kernel
theorem dX7_letter_4 : decode cX7_letter 4 = .ok (.aload_n 0, 1) := by decide +kernel
theorem dX7_letter_5 : decode cX7_letter 5 = .ok (.bipush (-4), 2) := by decide +kernel
theorem dX7_letter_7 : decode cX7_letter 7 = .ok (.invokevirtual 75, 3) := by decide +kernel
theorem dX7_letter_10 : decode cX7_letter 10 = .ok (.ireturn, 1) := by decide +kernel
theorem dX7_letter_11 : decode cX7_letter 11 = .ok (.iload_n 1, 1) := by decide +kernel
theorem dX7_letter_12 : decode cX7_letter 12 = .ok (.sipush 255, 3) := by decide +kernel
theorem dX7_letter_15 : decode cX7_letter 15 = .ok (.if_icmp .gt 13, 3) := by decide +kernel
theorem dX7_letter_18 : decode cX7_letter 18 = .ok (.aload_n 0, 1) := by decide +kernel
theorem dX7_letter_19 : decode cX7_letter 19 = .ok (.getfield 40, 3) := by decide +kernel
theorem dX7_letter_22 : decode cX7_letter 22 = .ok (.invokevirtual 79, 3) := by decide +kernel
theorem dX7_letter_25 : decode cX7_letter 25 = .ok (.ifCond .eq 10, 3) := by decide +kernel
theorem dX7_letter_28 : decode cX7_letter 28 = .ok (.aload_n 0, 1) := by decide +kernel
theorem dX7_letter_29 : decode cX7_letter 29 = .ok (.bipush (-6), 2) := by decide +kernel
theorem dX7_letter_31 : decode cX7_letter 31 = .ok (.invokevirtual 75, 3) := by decide +kernel
theorem dX7_letter_34 : decode cX7_letter 34 = .ok (.ireturn, 1) := by decide +kernel
theorem dX7_letter_35 : decode cX7_letter 35 = .ok (.aload_n 0, 1) := by decide +kernel
theorem dX7_letter_36 : decode cX7_letter 36 = .ok (.getfield 40, 3) := by decide +kernel
theorem dX7_letter_39 : decode cX7_letter 39 = .ok (.iload_n 1, 1) := by decide +kernel
theorem dX7_letter_40 : decode cX7_letter 40 = .ok (.invokevirtual 83, 3) := by decide +kernel
theorem dX7_letter_43 : decode cX7_letter 43 = .ok (.aload_n 0, 1) := by decide +kernel
theorem dX7_letter_44 : decode cX7_letter 44 = .ok (.getfield 40, 3) := by decide +kernel
theorem dX7_letter_47 : decode cX7_letter 47 = .ok (.getfield 87, 3) := by decide +kernel
theorem dX7_letter_50 : decode cX7_letter 50 = .ok (.ireturn, 1) := by decide +kernel
theorem dX7_board_0 : decode cX7_board 0 = .ok (.aload_n 0, 1) := by decide +kernel
theorem dX7_board_1 : decode cX7_board 1 = .ok (.getfield 40, 3) := by decide +kernel
theorem dX7_board_4 : decode cX7_board 4 = .ok (.invokevirtual 91, 3) := by decide +kernel
theorem dX7_board_7 : decode cX7_board 7 = .ok (.istore_n 1, 1) := by decide +kernel
theorem dX7_board_8 : decode cX7_board 8 = .ok (.iload_n 1, 1) := by decide +kernel
theorem dX7_board_9 : decode cX7_board 9 = .ok (.ifCond .ge 21, 3) := by decide +kernel
theorem dX7_board_12 : decode cX7_board 12 = .ok (.aload_n 0, 1) := by decide +kernel
theorem dX7_board_13 : decode cX7_board 13 = .ok (.getfield 26, 3) := by decide +kernel
theorem dX7_board_16 : decode cX7_board 16 = .ok (.aload_n 0, 1) := by decide +kernel
theorem dX7_board_17 : decode cX7_board 17 = .ok (.getfield 40, 3) := by decide +kernel
theorem dX7_board_20 : decode cX7_board 20 = .ok (.invokevirtual 95, 3) := by decide +kernel
theorem dX7_board_23 : decode cX7_board 23 = .ok (.aload_n 0, 1) := by decide +kernel
theorem dX7_board_24 : decode cX7_board 24 = .ok (.getfield 54, 3) := by decide +kernel
theorem dX7_board_27 : decode cX7_board 27 = .ok (.invokevirtual 99, 3) := by decide +kernel
theorem dX7_board_30 : decode cX7_board 30 = .ok (.aload_n 0, 1) := by decide +kernel
theorem dX7_board_31 : decode cX7_board 31 = .ok (.getfield 40, 3) := by decide +kernel
theorem dX7_board_34 : decode cX7_board 34 = .ok (.invokevirtual 102, 3) := by decide +kernel
theorem dX7_board_37 : decode cX7_board 37 = .ok (.iload_n 1, 1) := by decide +kernel
theorem dX7_board_38 : decode cX7_board 38 = .ok (.ifCond .ge 13, 3) := by decide +kernel
theorem dX7_board_41 : decode cX7_board 41 = .ok (.aload_n 0, 1) := by decide +kernel
theorem dX7_board_42 : decode cX7_board 42 = .ok (.getfield 26, 3) := by decide +kernel
theorem dX7_board_45 : decode cX7_board 45 = .ok (.invokevirtual 105, 3) := by decide +kernel
theorem dX7_board_48 : decode cX7_board 48 = .ok (.goto 8, 3) := by decide +kernel
theorem dX7_board_51 : decode cX7_board 51 = .ok (.sipush (-1000), 3) := by decide +kernel
theorem dX7_board_54 : decode cX7_board 54 = .ok (.iload_n 1, 1) := by decide +kernel
theorem dX7_board_55 : decode cX7_board 55 = .ok (.isub, 1) := by decide +kernel
theorem dX7_board_56 : decode cX7_board 56 = .ok (.ireturn, 1) := by decide +kernel
theorem dX7_tile_0 : decode cX7_tile 0 = .ok (.aload_n 0, 1) := by decide +kernel
theorem dX7_tile_1 : decode cX7_tile 1 = .ok (.getfield 26, 3) := by decide +kernel
theorem dX7_tile_4 : decode cX7_tile 4 = .ok (.iload_n 1, 1) := by decide +kernel
theorem dX7_tile_5 : decode cX7_tile 5 = .ok (.invokevirtual 108, 3) := by decide +kernel
theorem dX7_tile_8 : decode cX7_tile 8 = .ok (.ifCond .ne 9, 3) := by decide +kernel
theorem dX7_tile_11 : decode cX7_tile 11 = .ok (.aload_n 0, 1) := by decide +kernel
theorem dX7_tile_12 : decode cX7_tile 12 = .ok (.iconst (-1), 1) := by decide +kernel
theorem dX7_tile_13 : decode cX7_tile 13 = .ok (.invokevirtual 75, 3) := by decide +kernel
theorem dX7_tile_16 : decode cX7_tile 16 = .ok (.ireturn, 1) := by decide +kernel
theorem dX7_tile_17 : decode cX7_tile 17 = .ok (.iload_n 2, 1) := by decide +kernel
theorem dX7_tile_18 : decode cX7_tile 18 = .ok (.ifCond .lt 8, 3) := by decide +kernel
theorem dX7_tile_21 : decode cX7_tile 21 = .ok (.iload_n 2, 1) := by decide +kernel
theorem dX7_tile_22 : decode cX7_tile 22 = .ok (.iconst 2, 1) := by decide +kernel
theorem dX7_tile_23 : decode cX7_tile 23 = .ok (.if_icmp .le 10, 3) := by decide +kernel
theorem dX7_tile_26 : decode cX7_tile 26 = .ok (.aload_n 0, 1) := by decide +kernel
theorem dX7_tile_27 : decode cX7_tile 27 = .ok (.bipush (-2), 2) := by decide +kernel
theorem dX7_tile_29 : decode cX7_tile 29 = .ok (.invokevirtual 75, 3) := by decide +kernel
theorem dX7_tile_32 : decode cX7_tile 32 = .ok (.ireturn, 1) := by decide +kernel
theorem dX7_tile_33 : decode cX7_tile 33 = .ok (.aload_n 0, 1) := by decide +kernel
theorem dX7_tile_34 : decode cX7_tile 34 = .ok (.getfield 26, 3) := by decide +kernel
theorem dX7_tile_37 : decode cX7_tile 37 = .ok (.iload_n 1, 1) := by decide +kernel
theorem dX7_tile_38 : decode cX7_tile 38 = .ok (.invokevirtual 112, 3) := by decide +kernel
theorem dX7_tile_41 : decode cX7_tile 41 = .ok (.ifCond .eq 21, 3) := by decide +kernel
theorem dX7_tile_44 : decode cX7_tile 44 = .ok (.aload_n 0, 1) := by decide +kernel
theorem dX7_tile_45 : decode cX7_tile 45 = .ok (.getfield 26, 3) := by decide +kernel
theorem dX7_tile_48 : decode cX7_tile 48 = .ok (.iload_n 2, 1) := by decide +kernel
theorem dX7_tile_49 : decode cX7_tile 49 = .ok (.invokevirtual 115, 3) := by decide +kernel
theorem dX7_tile_52 : decode cX7_tile 52 = .ok (.ifCond .eq 10, 3) := by decide +kernel
theorem dX7_tile_55 : decode cX7_tile 55 = .ok (.aload_n 0, 1) := by decide +kernel
theorem dX7_tile_56 : decode cX7_tile 56 = .ok (.bipush (-3), 2) := by decide +kernel
theorem dX7_tile_58 : decode cX7_tile 58 = .ok (.invokevirtual 75, 3) := by decide +kernel
theorem dX7_tile_61 : decode cX7_tile 61 = .ok (.ireturn, 1) := by decide +kernel
theorem dX7_tile_62 : decode cX7_tile 62 = .ok (.aload_n 0, 1) := by decide +kernel
theorem dX7_tile_63 : decode cX7_tile 63 = .ok (.getfield 26, 3) := by decide +kernel
theorem dX7_tile_66 : decode cX7_tile 66 = .ok (.getfield 118, 3) := by decide +kernel
theorem dX7_tile_69 : decode cX7_tile 69 = .ok (.iload_n 1, 1) := by decide +kernel
theorem dX7_tile_70 : decode cX7_tile 70 = .ok (.iaload, 1) := by decide +kernel
theorem dX7_tile_71 : decode cX7_tile 71 = .ok (.istore_n 3, 1) := by decide +kernel
theorem dX7_tile_72 : decode cX7_tile 72 = .ok (.aload_n 0, 1) := by decide +kernel
theorem dX7_tile_73 : decode cX7_tile 73 = .ok (.getfield 26, 3) := by decide +kernel
theorem dX7_tile_76 : decode cX7_tile 76 = .ok (.getfield 118, 3) := by decide +kernel
theorem dX7_tile_79 : decode cX7_tile 79 = .ok (.iload_n 1, 1) := by decide +kernel
theorem dX7_tile_80 : decode cX7_tile 80 = .ok (.iload_n 2, 1) := by decide +kernel
theorem dX7_tile_81 : decode cX7_tile 81 = .ok (.iastore, 1) := by decide +kernel
theorem dX7_tile_82 : decode cX7_tile 82 = .ok (.iload_n 3, 1) := by decide +kernel
theorem dX7_tile_83 : decode cX7_tile 83 = .ok (.ireturn, 1) := by decide +kernel
theorem dX7_of_0 : decode cX7_of 0 = .ok (.aload_n 0, 1) := by decide +kernel
theorem dX7_of_1 : decode cX7_of 1 = .ok (.getfield 26, 3) := by decide +kernel
theorem dX7_of_4 : decode cX7_of 4 = .ok (.iload_n 1, 1) := by decide +kernel
theorem dX7_of_5 : decode cX7_of 5 = .ok (.invokevirtual 108, 3) := by decide +kernel
theorem dX7_of_8 : decode cX7_of 8 = .ok (.ifCond .ne 9, 3) := by decide +kernel
theorem dX7_of_11 : decode cX7_of 11 = .ok (.aload_n 0, 1) := by decide +kernel
theorem dX7_of_12 : decode cX7_of 12 = .ok (.iconst (-1), 1) := by decide +kernel
theorem dX7_of_13 : decode cX7_of 13 = .ok (.invokevirtual 75, 3) := by decide +kernel
theorem dX7_of_16 : decode cX7_of 16 = .ok (.ireturn, 1) := by decide +kernel
theorem dX7_of_17 : decode cX7_of 17 = .ok (.iload_n 2, 1) := by decide +kernel
theorem dX7_of_18 : decode cX7_of 18 = .ok (.ifCond .lt 8, 3) := by decide +kernel
theorem dX7_of_21 : decode cX7_of 21 = .ok (.iload_n 2, 1) := by decide +kernel
theorem dX7_of_22 : decode cX7_of 22 = .ok (.iconst 1, 1) := by decide +kernel
theorem dX7_of_23 : decode cX7_of 23 = .ok (.if_icmp .le 10, 3) := by decide +kernel
theorem dX7_of_26 : decode cX7_of 26 = .ok (.aload_n 0, 1) := by decide +kernel
theorem dX7_of_27 : decode cX7_of 27 = .ok (.bipush (-2), 2) := by decide +kernel
theorem dX7_of_29 : decode cX7_of 29 = .ok (.invokevirtual 75, 3) := by decide +kernel
theorem dX7_of_32 : decode cX7_of 32 = .ok (.ireturn, 1) := by decide +kernel
theorem dX7_of_33 : decode cX7_of 33 = .ok (.iload_n 2, 1) := by decide +kernel
theorem dX7_of_34 : decode cX7_of 34 = .ok (.ifCond .ne 13, 3) := by decide +kernel
theorem dX7_of_37 : decode cX7_of 37 = .ok (.aload_n 0, 1) := by decide +kernel
theorem dX7_of_38 : decode cX7_of 38 = .ok (.getfield 26, 3) := by decide +kernel
theorem dX7_of_41 : decode cX7_of 41 = .ok (.getfield 118, 3) := by decide +kernel
theorem dX7_of_44 : decode cX7_of 44 = .ok (.iload_n 1, 1) := by decide +kernel
theorem dX7_of_45 : decode cX7_of 45 = .ok (.iaload, 1) := by decide +kernel
theorem dX7_of_46 : decode cX7_of 46 = .ok (.ireturn, 1) := by decide +kernel
theorem dX7_of_47 : decode cX7_of 47 = .ok (.aload_n 0, 1) := by decide +kernel
theorem dX7_of_48 : decode cX7_of 48 = .ok (.getfield 26, 3) := by decide +kernel
theorem dX7_of_51 : decode cX7_of 51 = .ok (.getfield 121, 3) := by decide +kernel
theorem dX7_of_54 : decode cX7_of 54 = .ok (.iload_n 1, 1) := by decide +kernel
theorem dX7_of_55 : decode cX7_of 55 = .ok (.iaload, 1) := by decide +kernel
theorem dX7_of_56 : decode cX7_of 56 = .ok (.iconst (-1), 1) := by decide +kernel
theorem dX7_of_57 : decode cX7_of 57 = .ok (.if_icmp .ne 8, 3) := by decide +kernel
theorem dX7_of_60 : decode cX7_of 60 = .ok (.bipush (-9), 2) := by decide +kernel
theorem dX7_of_62 : decode cX7_of 62 = .ok (.goto 12, 3) := by decide +kernel
theorem dX7_of_65 : decode cX7_of 65 = .ok (.aload_n 0, 1) := by decide +kernel
theorem dX7_of_66 : decode cX7_of 66 = .ok (.getfield 26, 3) := by decide +kernel
theorem dX7_of_69 : decode cX7_of 69 = .ok (.getfield 121, 3) := by decide +kernel
theorem dX7_of_72 : decode cX7_of 72 = .ok (.iload_n 1, 1) := by decide +kernel
theorem dX7_of_73 : decode cX7_of 73 = .ok (.iaload, 1) := by decide +kernel
theorem dX7_of_74 : decode cX7_of 74 = .ok (.ireturn, 1) := by decide +kernel
theorem dX7_places_0 : decode cX7_places 0 = .ok (.iload_n 1, 1) := by decide +kernel
theorem dX7_places_1 : decode cX7_places 1 = .ok (.invokestatic 124, 3) := by decide +kernel
theorem dX7_places_4 : decode cX7_places 4 = .ok (.ifCond .ne 10, 3) := by decide +kernel
theorem dX7_places_7 : decode cX7_places 7 = .ok (.aload_n 0, 1) := by decide +kernel
theorem dX7_places_8 : decode cX7_places 8 = .ok (.bipush (-2), 2) := by decide +kernel
theorem dX7_places_10 : decode cX7_places 10 = .ok (.invokevirtual 75, 3) := by decide +kernel
theorem dX7_places_13 : decode cX7_places 13 = .ok (.ireturn, 1) := by decide +kernel
theorem dX7_places_14 : decode cX7_places 14 = .ok (.aload_n 0, 1) := by decide +kernel
theorem dX7_places_15 : decode cX7_places 15 = .ok (.getfield 26, 3) := by decide +kernel
theorem dX7_places_18 : decode cX7_places 18 = .ok (.iload_n 1, 1) := by decide +kernel
theorem dX7_places_19 : decode cX7_places 19 = .ok (.iload_n 2, 1) := by decide +kernel
theorem dX7_places_20 : decode cX7_places 20 = .ok (.invokevirtual 127, 3) := by decide +kernel
theorem dX7_places_23 : decode cX7_places 23 = .ok (.ifCond .ne 9, 3) := by decide +kernel
theorem dX7_places_26 : decode cX7_places 26 = .ok (.aload_n 0, 1) := by decide +kernel
theorem dX7_places_27 : decode cX7_places 27 = .ok (.iconst (-1), 1) := by decide +kernel
theorem dX7_places_28 : decode cX7_places 28 = .ok (.invokevirtual 75, 3) := by decide +kernel
theorem dX7_places_31 : decode cX7_places 31 = .ok (.ireturn, 1) := by decide +kernel
theorem dX7_places_32 : decode cX7_places 32 = .ok (.aload_n 0, 1) := by decide +kernel
theorem dX7_places_33 : decode cX7_places 33 = .ok (.getfield 26, 3) := by decide +kernel
theorem dX7_places_36 : decode cX7_places 36 = .ok (.iload_n 1, 1) := by decide +kernel
theorem dX7_places_37 : decode cX7_places 37 = .ok (.iload_n 2, 1) := by decide +kernel
theorem dX7_places_38 : decode cX7_places 38 = .ok (.invokevirtual 131, 3) := by decide +kernel
theorem dX7_places_41 : decode cX7_places 41 = .ok (.ifCond .ne 10, 3) := by decide +kernel
theorem dX7_places_44 : decode cX7_places 44 = .ok (.aload_n 0, 1) := by decide +kernel
theorem dX7_places_45 : decode cX7_places 45 = .ok (.bipush (-3), 2) := by decide +kernel
theorem dX7_places_47 : decode cX7_places 47 = .ok (.invokevirtual 75, 3) := by decide +kernel
theorem dX7_places_50 : decode cX7_places 50 = .ok (.ireturn, 1) := by decide +kernel
theorem dX7_places_51 : decode cX7_places 51 = .ok (.aload_n 0, 1) := by decide +kernel
theorem dX7_places_52 : decode cX7_places 52 = .ok (.getfield 26, 3) := by decide +kernel
theorem dX7_places_55 : decode cX7_places 55 = .ok (.iload_n 1, 1) := by decide +kernel
theorem dX7_places_56 : decode cX7_places 56 = .ok (.iload_n 2, 1) := by decide +kernel
theorem dX7_places_57 : decode cX7_places 57 = .ok (.invokevirtual 134, 3) := by decide +kernel
theorem dX7_places_60 : decode cX7_places 60 = .ok (.aload_n 0, 1) := by decide +kernel
theorem dX7_places_61 : decode cX7_places 61 = .ok (.getfield 54, 3) := by decide +kernel
theorem dX7_places_64 : decode cX7_places 64 = .ok (.invokevirtual 99, 3) := by decide +kernel
theorem dX7_places_67 : decode cX7_places 67 = .ok (.iconst 1, 1) := by decide +kernel
theorem dX7_places_68 : decode cX7_places 68 = .ok (.ireturn, 1) := by decide +kernel
theorem dX7_ink_0 : decode cX7_ink 0 = .ok (.iload_n 1, 1) := by decide +kernel
theorem dX7_ink_1 : decode cX7_ink 1 = .ok (.ifCond .lt 8, 3) := by decide +kernel
theorem dX7_ink_4 : decode cX7_ink 4 = .ok (.iload_n 1, 1) := by decide +kernel
theorem dX7_ink_5 : decode cX7_ink 5 = .ok (.iconst 1, 1) := by decide +kernel
theorem dX7_ink_6 : decode cX7_ink 6 = .ok (.if_icmp .le 10, 3) := by decide +kernel
theorem dX7_ink_9 : decode cX7_ink 9 = .ok (.aload_n 0, 1) := by decide +kernel
theorem dX7_ink_10 : decode cX7_ink 10 = .ok (.bipush (-2), 2) := by decide +kernel
theorem dX7_ink_12 : decode cX7_ink 12 = .ok (.invokevirtual 75, 3) := by decide +kernel
theorem dX7_ink_15 : decode cX7_ink 15 = .ok (.ireturn, 1) := by decide +kernel
theorem dX7_ink_16 : decode cX7_ink 16 = .ok (.aload_n 0, 1) := by decide +kernel
theorem dX7_ink_17 : decode cX7_ink 17 = .ok (.getfield 26, 3) := by decide +kernel
theorem dX7_ink_20 : decode cX7_ink 20 = .ok (.getfield 138, 3) := by decide +kernel
theorem dX7_ink_23 : decode cX7_ink 23 = .ok (.istore_n 2, 1) := by decide +kernel
theorem dX7_ink_24 : decode cX7_ink 24 = .ok (.aload_n 0, 1) := by decide +kernel
theorem dX7_ink_25 : decode cX7_ink 25 = .ok (.getfield 26, 3) := by decide +kernel
theorem dX7_ink_28 : decode cX7_ink 28 = .ok (.iload_n 1, 1) := by decide +kernel
theorem dX7_ink_29 : decode cX7_ink 29 = .ok (.putfield 138, 3) := by decide +kernel
theorem dX7_ink_32 : decode cX7_ink 32 = .ok (.iload_n 2, 1) := by decide +kernel
theorem dX7_ink_33 : decode cX7_ink 33 = .ok (.ireturn, 1) := by decide +kernel
theorem dX7_wipes_0 : decode cX7_wipes 0 = .ok (.aload_n 0, 1) := by decide +kernel
theorem dX7_wipes_1 : decode cX7_wipes 1 = .ok (.getfield 26, 3) := by decide +kernel
theorem dX7_wipes_4 : decode cX7_wipes 4 = .ok (.invokevirtual 141, 3) := by decide +kernel
theorem dX7_wipes_7 : decode cX7_wipes 7 = .ok (.istore_n 1, 1) := by decide +kernel
theorem dX7_wipes_8 : decode cX7_wipes 8 = .ok (.aload_n 0, 1) := by decide +kernel
theorem dX7_wipes_9 : decode cX7_wipes 9 = .ok (.getfield 26, 3) := by decide +kernel
theorem dX7_wipes_12 : decode cX7_wipes 12 = .ok (.invokevirtual 144, 3) := by decide +kernel
theorem dX7_wipes_15 : decode cX7_wipes 15 = .ok (.iload_n 1, 1) := by decide +kernel
theorem dX7_wipes_16 : decode cX7_wipes 16 = .ok (.ireturn, 1) := by decide +kernel
theorem dX7_solid_0 : decode cX7_solid 0 = .ok (.iload_n 1, 1) := by decide +kernel
theorem dX7_solid_1 : decode cX7_solid 1 = .ok (.ifCond .lt 12, 3) := by decide +kernel
theorem dX7_solid_4 : decode cX7_solid 4 = .ok (.iload_n 1, 1) := by decide +kernel
theorem dX7_solid_5 : decode cX7_solid 5 = .ok (.iconst 5, 1) := by decide +kernel
theorem dX7_solid_6 : decode cX7_solid 6 = .ok (.if_icmp .gt 7, 3) := by decide +kernel
theorem dX7_solid_9 : decode cX7_solid 9 = .ok (.iconst 1, 1) := by decide +kernel
theorem dX7_solid_10 : decode cX7_solid 10 = .ok (.goto 4, 3) := by decide +kernel
theorem dX7_solid_13 : decode cX7_solid 13 = .ok (.iconst 0, 1) := by decide +kernel
theorem dX7_solid_14 : decode cX7_solid 14 = .ok (.istore_n 2, 1) := by decide +kernel
theorem dX7_solid_15 : decode cX7_solid 15 = .ok (.iload_n 1, 1) := by decide +kernel
theorem dX7_solid_16 : decode cX7_solid 16 = .ok (.bipush 10, 2) := by decide +kernel
theorem dX7_solid_18 : decode cX7_solid 18 = .ok (.if_icmp .lt 24, 3) := by decide +kernel
theorem dX7_solid_21 : decode cX7_solid 21 = .ok (.iload_n 1, 1) := by decide +kernel
theorem dX7_solid_22 : decode cX7_solid 22 = .ok (.bipush 10, 2) := by decide +kernel
theorem dX7_solid_24 : decode cX7_solid 24 = .ok (.aload_n 0, 1) := by decide +kernel
theorem dX7_solid_25 : decode cX7_solid 25 = .ok (.getfield 26, 3) := by decide +kernel
theorem dX7_solid_28 : decode cX7_solid 28 = .ok (.invokevirtual 147, 3) := by decide +kernel
theorem dX7_solid_31 : decode cX7_solid 31 = .ok (.getfield 151, 3) := by decide +kernel
theorem dX7_solid_34 : decode cX7_solid 34 = .ok (.iadd, 1) := by decide +kernel
theorem dX7_solid_35 : decode cX7_solid 35 = .ok (.if_icmp .ge 7, 3) := by decide +kernel
theorem dX7_solid_38 : decode cX7_solid 38 = .ok (.iconst 1, 1) := by decide +kernel
theorem dX7_solid_39 : decode cX7_solid 39 = .ok (.goto 4, 3) := by decide +kernel
theorem dX7_solid_42 : decode cX7_solid 42 = .ok (.iconst 0, 1) := by decide +kernel
theorem dX7_solid_43 : decode cX7_solid 43 = .ok (.istore_n 3, 1) := by decide +kernel
theorem dX7_solid_44 : decode cX7_solid 44 = .ok (.iload_n 2, 1) := by decide +kernel
theorem dX7_solid_45 : decode cX7_solid 45 = .ok (.ifCond .ne 14, 3) := by decide +kernel
theorem dX7_solid_48 : decode cX7_solid 48 = .ok (.iload_n 3, 1) := by decide +kernel
theorem dX7_solid_49 : decode cX7_solid 49 = .ok (.ifCond .ne 10, 3) := by decide +kernel
theorem dX7_solid_52 : decode cX7_solid 52 = .ok (.aload_n 0, 1) := by decide +kernel
theorem dX7_solid_53 : decode cX7_solid 53 = .ok (.bipush (-2), 2) := by decide +kernel
theorem dX7_solid_55 : decode cX7_solid 55 = .ok (.invokevirtual 75, 3) := by decide +kernel
theorem dX7_solid_58 : decode cX7_solid 58 = .ok (.ireturn, 1) := by decide +kernel
theorem dX7_solid_59 : decode cX7_solid 59 = .ok (.aload_n 0, 1) := by decide +kernel
theorem dX7_solid_60 : decode cX7_solid 60 = .ok (.getfield 26, 3) := by decide +kernel
theorem dX7_solid_63 : decode cX7_solid 63 = .ok (.invokevirtual 154, 3) := by decide +kernel
theorem dX7_solid_66 : decode cX7_solid 66 = .ok (.ifCond .eq 10, 3) := by decide +kernel
theorem dX7_solid_69 : decode cX7_solid 69 = .ok (.aload_n 0, 1) := by decide +kernel
theorem dX7_solid_70 : decode cX7_solid 70 = .ok (.bipush (-3), 2) := by decide +kernel
theorem dX7_solid_72 : decode cX7_solid 72 = .ok (.invokevirtual 75, 3) := by decide +kernel
theorem dX7_solid_75 : decode cX7_solid 75 = .ok (.ireturn, 1) := by decide +kernel
theorem dX7_solid_76 : decode cX7_solid 76 = .ok (.iload_n 3, 1) := by decide +kernel
theorem dX7_solid_77 : decode cX7_solid 77 = .ok (.ifCond .eq 17, 3) := by decide +kernel
theorem dX7_solid_80 : decode cX7_solid 80 = .ok (.aload_n 0, 1) := by decide +kernel
theorem dX7_solid_81 : decode cX7_solid 81 = .ok (.getfield 26, 3) := by decide +kernel
theorem dX7_solid_84 : decode cX7_solid 84 = .ok (.iload_n 1, 1) := by decide +kernel
theorem dX7_solid_85 : decode cX7_solid 85 = .ok (.bipush 10, 2) := by decide +kernel
theorem dX7_solid_87 : decode cX7_solid 87 = .ok (.isub, 1) := by decide +kernel
theorem dX7_solid_88 : decode cX7_solid 88 = .ok (.invokevirtual 157, 3) := by decide +kernel
theorem dX7_solid_91 : decode cX7_solid 91 = .ok (.goto 8, 3) := by decide +kernel
theorem dX7_solid_94 : decode cX7_solid 94 = .ok (.aload_n 0, 1) := by decide +kernel
theorem dX7_solid_95 : decode cX7_solid 95 = .ok (.iload_n 1, 1) := by decide +kernel
theorem dX7_solid_96 : decode cX7_solid 96 = .ok (.invokevirtual 160, 3) := by decide +kernel
theorem dX7_solid_99 : decode cX7_solid 99 = .ok (.ireturn, 1) := by decide +kernel
theorem dX7_aboutSolid_0 : decode cX7_aboutSolid 0 = .ok (.iload_n 1, 1) := by decide +kernel
theorem dX7_aboutSolid_1 : decode cX7_aboutSolid 1 = .ok (.tableswitch 120 0 4 #[35, 43, 51, 66, 84], 35) := by decide +kernel
theorem dX7_aboutSolid_36 : decode cX7_aboutSolid 36 = .ok (.aload_n 0, 1) := by decide +kernel
theorem dX7_aboutSolid_37 : decode cX7_aboutSolid 37 = .ok (.getfield 26, 3) := by decide +kernel
theorem dX7_aboutSolid_40 : decode cX7_aboutSolid 40 = .ok (.getfield 163, 3) := by decide +kernel
theorem dX7_aboutSolid_43 : decode cX7_aboutSolid 43 = .ok (.ireturn, 1) := by decide +kernel
theorem dX7_aboutSolid_44 : decode cX7_aboutSolid 44 = .ok (.aload_n 0, 1) := by decide +kernel
theorem dX7_aboutSolid_45 : decode cX7_aboutSolid 45 = .ok (.getfield 26, 3) := by decide +kernel
theorem dX7_aboutSolid_48 : decode cX7_aboutSolid 48 = .ok (.invokevirtual 166, 3) := by decide +kernel
theorem dX7_aboutSolid_51 : decode cX7_aboutSolid 51 = .ok (.ireturn, 1) := by decide +kernel
theorem dX7_aboutSolid_52 : decode cX7_aboutSolid 52 = .ok (.aload_n 0, 1) := by decide +kernel
theorem dX7_aboutSolid_53 : decode cX7_aboutSolid 53 = .ok (.getfield 26, 3) := by decide +kernel
theorem dX7_aboutSolid_56 : decode cX7_aboutSolid 56 = .ok (.aload_n 0, 1) := by decide +kernel
theorem dX7_aboutSolid_57 : decode cX7_aboutSolid 57 = .ok (.getfield 26, 3) := by decide +kernel
theorem dX7_aboutSolid_60 : decode cX7_aboutSolid 60 = .ok (.getfield 169, 3) := by decide +kernel
theorem dX7_aboutSolid_63 : decode cX7_aboutSolid 63 = .ok (.invokevirtual 172, 3) := by decide +kernel
theorem dX7_aboutSolid_66 : decode cX7_aboutSolid 66 = .ok (.ireturn, 1) := by decide +kernel
theorem dX7_aboutSolid_67 : decode cX7_aboutSolid 67 = .ok (.aload_n 0, 1) := by decide +kernel
theorem dX7_aboutSolid_68 : decode cX7_aboutSolid 68 = .ok (.getfield 26, 3) := by decide +kernel
theorem dX7_aboutSolid_71 : decode cX7_aboutSolid 71 = .ok (.aload_n 0, 1) := by decide +kernel
theorem dX7_aboutSolid_72 : decode cX7_aboutSolid 72 = .ok (.getfield 26, 3) := by decide +kernel
theorem dX7_aboutSolid_75 : decode cX7_aboutSolid 75 = .ok (.getfield 169, 3) := by decide +kernel
theorem dX7_aboutSolid_78 : decode cX7_aboutSolid 78 = .ok (.invokevirtual 175, 3) := by decide +kernel
theorem dX7_aboutSolid_81 : decode cX7_aboutSolid 81 = .ok (.invokestatic 179, 3) := by decide +kernel
theorem dX7_aboutSolid_84 : decode cX7_aboutSolid 84 = .ok (.ireturn, 1) := by decide +kernel
theorem dX7_aboutSolid_85 : decode cX7_aboutSolid 85 = .ok (.aload_n 0, 1) := by decide +kernel
theorem dX7_aboutSolid_86 : decode cX7_aboutSolid 86 = .ok (.getfield 26, 3) := by decide +kernel
theorem dX7_aboutSolid_89 : decode cX7_aboutSolid 89 = .ok (.getfield 163, 3) := by decide +kernel
theorem dX7_aboutSolid_92 : decode cX7_aboutSolid 92 = .ok (.invokestatic 185, 3) := by decide +kernel
theorem dX7_aboutSolid_95 : decode cX7_aboutSolid 95 = .ok (.ifCond .eq 24, 3) := by decide +kernel
theorem dX7_aboutSolid_98 : decode cX7_aboutSolid 98 = .ok (.aload_n 0, 1) := by decide +kernel
theorem dX7_aboutSolid_99 : decode cX7_aboutSolid 99 = .ok (.getfield 26, 3) := by decide +kernel
theorem dX7_aboutSolid_102 : decode cX7_aboutSolid 102 = .ok (.aload_n 0, 1) := by decide +kernel
theorem dX7_aboutSolid_103 : decode cX7_aboutSolid 103 = .ok (.getfield 26, 3) := by decide +kernel
theorem dX7_aboutSolid_106 : decode cX7_aboutSolid 106 = .ok (.getfield 169, 3) := by decide +kernel
theorem dX7_aboutSolid_109 : decode cX7_aboutSolid 109 = .ok (.invokevirtual 188, 3) := by decide +kernel
theorem dX7_aboutSolid_112 : decode cX7_aboutSolid 112 = .ok (.ifCond .eq 7, 3) := by decide +kernel
theorem dX7_aboutSolid_115 : decode cX7_aboutSolid 115 = .ok (.iconst 1, 1) := by decide +kernel
theorem dX7_aboutSolid_116 : decode cX7_aboutSolid 116 = .ok (.goto 4, 3) := by decide +kernel
theorem dX7_aboutSolid_119 : decode cX7_aboutSolid 119 = .ok (.iconst 0, 1) := by decide +kernel
theorem dX7_aboutSolid_120 : decode cX7_aboutSolid 120 = .ok (.ireturn, 1) := by decide +kernel
theorem dX7_aboutSolid_121 : decode cX7_aboutSolid 121 = .ok (.aload_n 0, 1) := by decide +kernel
theorem dX7_aboutSolid_122 : decode cX7_aboutSolid 122 = .ok (.getfield 26, 3) := by decide +kernel
theorem dX7_aboutSolid_125 : decode cX7_aboutSolid 125 = .ok (.getfield 163, 3) := by decide +kernel
theorem dX7_aboutSolid_128 : decode cX7_aboutSolid 128 = .ok (.invokestatic 191, 3) := by decide +kernel
theorem dX7_aboutSolid_131 : decode cX7_aboutSolid 131 = .ok (.ifCond .eq 24, 3) := by decide +kernel
theorem dX7_aboutSolid_134 : decode cX7_aboutSolid 134 = .ok (.aload_n 0, 1) := by decide +kernel
theorem dX7_aboutSolid_135 : decode cX7_aboutSolid 135 = .ok (.getfield 26, 3) := by decide +kernel
theorem dX7_aboutSolid_138 : decode cX7_aboutSolid 138 = .ok (.aload_n 0, 1) := by decide +kernel
theorem dX7_aboutSolid_139 : decode cX7_aboutSolid 139 = .ok (.getfield 26, 3) := by decide +kernel
theorem dX7_aboutSolid_142 : decode cX7_aboutSolid 142 = .ok (.invokevirtual 166, 3) := by decide +kernel
theorem dX7_aboutSolid_145 : decode cX7_aboutSolid 145 = .ok (.invokevirtual 194, 3) := by decide +kernel
theorem dX7_aboutSolid_148 : decode cX7_aboutSolid 148 = .ok (.ifCond .eq 7, 3) := by decide +kernel
theorem dX7_aboutSolid_151 : decode cX7_aboutSolid 151 = .ok (.iconst 1, 1) := by decide +kernel
theorem dX7_aboutSolid_152 : decode cX7_aboutSolid 152 = .ok (.goto 4, 3) := by decide +kernel
theorem dX7_aboutSolid_155 : decode cX7_aboutSolid 155 = .ok (.iconst 0, 1) := by decide +kernel
theorem dX7_aboutSolid_156 : decode cX7_aboutSolid 156 = .ok (.ireturn, 1) := by decide +kernel
theorem dX7_roll_0 : decode cX7_roll 0 = .ok (.iload_n 1, 1) := by decide +kernel
theorem dX7_roll_1 : decode cX7_roll 1 = .ok (.ifCond .lt 8, 3) := by decide +kernel
theorem dX7_roll_4 : decode cX7_roll 4 = .ok (.iload_n 1, 1) := by decide +kernel
theorem dX7_roll_5 : decode cX7_roll 5 = .ok (.iconst 4, 1) := by decide +kernel
theorem dX7_roll_6 : decode cX7_roll 6 = .ok (.if_icmp .lt 10, 3) := by decide +kernel
theorem dX7_roll_9 : decode cX7_roll 9 = .ok (.aload_n 0, 1) := by decide +kernel
theorem dX7_roll_10 : decode cX7_roll 10 = .ok (.bipush (-2), 2) := by decide +kernel
theorem dX7_roll_12 : decode cX7_roll 12 = .ok (.invokevirtual 75, 3) := by decide +kernel
theorem dX7_roll_15 : decode cX7_roll 15 = .ok (.ireturn, 1) := by decide +kernel
theorem dX7_roll_16 : decode cX7_roll 16 = .ok (.aload_n 0, 1) := by decide +kernel
theorem dX7_roll_17 : decode cX7_roll 17 = .ok (.getfield 26, 3) := by decide +kernel
theorem dX7_roll_20 : decode cX7_roll 20 = .ok (.invokevirtual 154, 3) := by decide +kernel
theorem dX7_roll_23 : decode cX7_roll 23 = .ok (.ifCond .ne 11, 3) := by decide +kernel
theorem dX7_roll_26 : decode cX7_roll 26 = .ok (.aload_n 0, 1) := by decide +kernel
theorem dX7_roll_27 : decode cX7_roll 27 = .ok (.iload_n 1, 1) := by decide +kernel
theorem dX7_roll_28 : decode cX7_roll 28 = .ok (.invokevirtual 197, 3) := by decide +kernel
theorem dX7_roll_31 : decode cX7_roll 31 = .ok (.ifCond .ne 10, 3) := by decide +kernel
theorem dX7_roll_34 : decode cX7_roll 34 = .ok (.aload_n 0, 1) := by decide +kernel
theorem dX7_roll_35 : decode cX7_roll 35 = .ok (.bipush (-3), 2) := by decide +kernel
theorem dX7_roll_37 : decode cX7_roll 37 = .ok (.invokevirtual 75, 3) := by decide +kernel
theorem dX7_roll_40 : decode cX7_roll 40 = .ok (.ireturn, 1) := by decide +kernel
theorem dX7_roll_41 : decode cX7_roll 41 = .ok (.aload_n 0, 1) := by decide +kernel
theorem dX7_roll_42 : decode cX7_roll 42 = .ok (.getfield 26, 3) := by decide +kernel
theorem dX7_roll_45 : decode cX7_roll 45 = .ok (.aload_n 0, 1) := by decide +kernel
theorem dX7_roll_46 : decode cX7_roll 46 = .ok (.getfield 26, 3) := by decide +kernel
theorem dX7_roll_49 : decode cX7_roll 49 = .ok (.getfield 169, 3) := by decide +kernel
theorem dX7_roll_52 : decode cX7_roll 52 = .ok (.invokevirtual 172, 3) := by decide +kernel
theorem dX7_roll_55 : decode cX7_roll 55 = .ok (.ireturn, 1) := by decide +kernel
theorem dX7_rollTruly_0 : decode cX7_rollTruly 0 = .ok (.aload_n 0, 1) := by decide +kernel
theorem dX7_rollTruly_1 : decode cX7_rollTruly 1 = .ok (.getfield 26, 3) := by decide +kernel
theorem dX7_rollTruly_4 : decode cX7_rollTruly 4 = .ok (.aload_n 0, 1) := by decide +kernel
theorem dX7_rollTruly_5 : decode cX7_rollTruly 5 = .ok (.getfield 26, 3) := by decide +kernel
theorem dX7_rollTruly_8 : decode cX7_rollTruly 8 = .ok (.getfield 169, 3) := by decide +kernel
theorem dX7_rollTruly_11 : decode cX7_rollTruly 11 = .ok (.iload_n 1, 1) := by decide +kernel
theorem dX7_rollTruly_12 : decode cX7_rollTruly 12 = .ok (.invokevirtual 200, 3) := by decide +kernel
theorem dX7_rollTruly_15 : decode cX7_rollTruly 15 = .ok (.istore_n 2, 1) := by decide +kernel
theorem dX7_rollTruly_16 : decode cX7_rollTruly 16 = .ok (.iload_n 2, 1) := by decide +kernel
theorem dX7_rollTruly_17 : decode cX7_rollTruly 17 = .ok (.ifCond .ge 5, 3) := by decide +kernel
theorem dX7_rollTruly_20 : decode cX7_rollTruly 20 = .ok (.iconst 0, 1) := by decide +kernel
theorem dX7_rollTruly_21 : decode cX7_rollTruly 21 = .ok (.ireturn, 1) := by decide +kernel
theorem dX7_rollTruly_22 : decode cX7_rollTruly 22 = .ok (.aload_n 0, 1) := by decide +kernel
theorem dX7_rollTruly_23 : decode cX7_rollTruly 23 = .ok (.getfield 54, 3) := by decide +kernel
theorem dX7_rollTruly_26 : decode cX7_rollTruly 26 = .ok (.aload_n 0, 1) := by decide +kernel
theorem dX7_rollTruly_27 : decode cX7_rollTruly 27 = .ok (.getfield 26, 3) := by decide +kernel
