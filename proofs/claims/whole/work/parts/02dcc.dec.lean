theorem dX7_rollTruly_30 : decode cX7_rollTruly 30 = .ok (.invokevirtual 204, 3) := by decide +kernel
theorem dX7_rollTruly_33 : decode cX7_rollTruly 33 = .ok (.aload_n 0, 1) := by decide +kernel
theorem dX7_rollTruly_34 : decode cX7_rollTruly 34 = .ok (.getfield 26, 3) := by decide +kernel
theorem dX7_rollTruly_37 : decode cX7_rollTruly 37 = .ok (.iload_n 2, 1) := by decide +kernel
theorem dX7_rollTruly_38 : decode cX7_rollTruly 38 = .ok (.putfield 169, 3) := by decide +kernel
theorem dX7_rollTruly_41 : decode cX7_rollTruly 41 = .ok (.aload_n 0, 1) := by decide +kernel
theorem dX7_rollTruly_42 : decode cX7_rollTruly 42 = .ok (.getfield 26, 3) := by decide +kernel
theorem dX7_rollTruly_45 : decode cX7_rollTruly 45 = .ok (.getfield 138, 3) := by decide +kernel
theorem dX7_rollTruly_48 : decode cX7_rollTruly 48 = .ok (.iconst 1, 1) := by decide +kernel
theorem dX7_rollTruly_49 : decode cX7_rollTruly 49 = .ok (.if_icmp .ne 10, 3) := by decide +kernel
theorem dX7_rollTruly_52 : decode cX7_rollTruly 52 = .ok (.aload_n 0, 1) := by decide +kernel
theorem dX7_rollTruly_53 : decode cX7_rollTruly 53 = .ok (.getfield 26, 3) := by decide +kernel
theorem dX7_rollTruly_56 : decode cX7_rollTruly 56 = .ok (.invokevirtual 208, 3) := by decide +kernel
theorem dX7_rollTruly_59 : decode cX7_rollTruly 59 = .ok (.iconst 1, 1) := by decide +kernel
theorem dX7_rollTruly_60 : decode cX7_rollTruly 60 = .ok (.ireturn, 1) := by decide +kernel
theorem dX7_ways_0 : decode cX7_ways 0 = .ok (.aload_n 0, 1) := by decide +kernel
theorem dX7_ways_1 : decode cX7_ways 1 = .ok (.getfield 26, 3) := by decide +kernel
theorem dX7_ways_4 : decode cX7_ways 4 = .ok (.invokevirtual 154, 3) := by decide +kernel
theorem dX7_ways_7 : decode cX7_ways 7 = .ok (.ifCond .eq 10, 3) := by decide +kernel
theorem dX7_ways_10 : decode cX7_ways 10 = .ok (.aload_n 0, 1) := by decide +kernel
theorem dX7_ways_11 : decode cX7_ways 11 = .ok (.bipush (-3), 2) := by decide +kernel
theorem dX7_ways_13 : decode cX7_ways 13 = .ok (.invokevirtual 75, 3) := by decide +kernel
theorem dX7_ways_16 : decode cX7_ways 16 = .ok (.ireturn, 1) := by decide +kernel
theorem dX7_ways_17 : decode cX7_ways 17 = .ok (.iconst 0, 1) := by decide +kernel
theorem dX7_ways_18 : decode cX7_ways 18 = .ok (.istore_n 1, 1) := by decide +kernel
theorem dX7_ways_19 : decode cX7_ways 19 = .ok (.iconst 0, 1) := by decide +kernel
theorem dX7_ways_20 : decode cX7_ways 20 = .ok (.istore_n 2, 1) := by decide +kernel
theorem dX7_ways_21 : decode cX7_ways 21 = .ok (.iload_n 2, 1) := by decide +kernel
theorem dX7_ways_22 : decode cX7_ways 22 = .ok (.iconst 4, 1) := by decide +kernel
theorem dX7_ways_23 : decode cX7_ways 23 = .ok (.if_icmp .ge 33, 3) := by decide +kernel
theorem dX7_ways_26 : decode cX7_ways 26 = .ok (.aload_n 0, 1) := by decide +kernel
theorem dX7_ways_27 : decode cX7_ways 27 = .ok (.getfield 26, 3) := by decide +kernel
theorem dX7_ways_30 : decode cX7_ways 30 = .ok (.aload_n 0, 1) := by decide +kernel
theorem dX7_ways_31 : decode cX7_ways 31 = .ok (.getfield 26, 3) := by decide +kernel
theorem dX7_ways_34 : decode cX7_ways 34 = .ok (.getfield 169, 3) := by decide +kernel
theorem dX7_ways_37 : decode cX7_ways 37 = .ok (.iload_n 2, 1) := by decide +kernel
theorem dX7_ways_38 : decode cX7_ways 38 = .ok (.invokevirtual 200, 3) := by decide +kernel
theorem dX7_ways_41 : decode cX7_ways 41 = .ok (.ifCond .lt 9, 3) := by decide +kernel
theorem dX7_ways_44 : decode cX7_ways 44 = .ok (.iload_n 1, 1) := by decide +kernel
theorem dX7_ways_45 : decode cX7_ways 45 = .ok (.iconst 1, 1) := by decide +kernel
theorem dX7_ways_46 : decode cX7_ways 46 = .ok (.iload_n 2, 1) := by decide +kernel
theorem dX7_ways_47 : decode cX7_ways 47 = .ok (.ishl, 1) := by decide +kernel
theorem dX7_ways_48 : decode cX7_ways 48 = .ok (.ior, 1) := by decide +kernel
theorem dX7_ways_49 : decode cX7_ways 49 = .ok (.istore_n 1, 1) := by decide +kernel
theorem dX7_ways_50 : decode cX7_ways 50 = .ok (.iinc 2 1, 3) := by decide +kernel
theorem dX7_ways_53 : decode cX7_ways 53 = .ok (.goto (-32), 3) := by decide +kernel
theorem dX7_ways_56 : decode cX7_ways 56 = .ok (.iload_n 1, 1) := by decide +kernel
theorem dX7_ways_57 : decode cX7_ways 57 = .ok (.ireturn, 1) := by decide +kernel
theorem dX7_walks_0 : decode cX7_walks 0 = .ok (.aload_n 0, 1) := by decide +kernel
theorem dX7_walks_1 : decode cX7_walks 1 = .ok (.getfield 26, 3) := by decide +kernel
theorem dX7_walks_4 : decode cX7_walks 4 = .ok (.invokevirtual 154, 3) := by decide +kernel
theorem dX7_walks_7 : decode cX7_walks 7 = .ok (.ifCond .eq 10, 3) := by decide +kernel
theorem dX7_walks_10 : decode cX7_walks 10 = .ok (.aload_n 0, 1) := by decide +kernel
theorem dX7_walks_11 : decode cX7_walks 11 = .ok (.bipush (-3), 2) := by decide +kernel
theorem dX7_walks_13 : decode cX7_walks 13 = .ok (.invokevirtual 75, 3) := by decide +kernel
theorem dX7_walks_16 : decode cX7_walks 16 = .ok (.ireturn, 1) := by decide +kernel
theorem dX7_walks_17 : decode cX7_walks 17 = .ok (.iconst 0, 1) := by decide +kernel
theorem dX7_walks_18 : decode cX7_walks 18 = .ok (.istore_n 1, 1) := by decide +kernel
theorem dX7_walks_19 : decode cX7_walks 19 = .ok (.iconst 1, 1) := by decide +kernel
theorem dX7_walks_20 : decode cX7_walks 20 = .ok (.istore_n 2, 1) := by decide +kernel
theorem dX7_walks_21 : decode cX7_walks 21 = .ok (.iconst 0, 1) := by decide +kernel
theorem dX7_walks_22 : decode cX7_walks 22 = .ok (.istore_n 3, 1) := by decide +kernel
theorem dX7_walks_23 : decode cX7_walks 23 = .ok (.iload_n 3, 1) := by decide +kernel
theorem dX7_walks_24 : decode cX7_walks 24 = .ok (.aload_n 0, 1) := by decide +kernel
theorem dX7_walks_25 : decode cX7_walks 25 = .ok (.getfield 40, 3) := by decide +kernel
theorem dX7_walks_28 : decode cX7_walks 28 = .ok (.getfield 87, 3) := by decide +kernel
theorem dX7_walks_31 : decode cX7_walks 31 = .ok (.if_icmp .ge 50, 3) := by decide +kernel
theorem dX7_walks_34 : decode cX7_walks 34 = .ok (.iload_n 2, 1) := by decide +kernel
theorem dX7_walks_35 : decode cX7_walks 35 = .ok (.ifCond .eq 46, 3) := by decide +kernel
theorem dX7_walks_38 : decode cX7_walks 38 = .ok (.aload_n 0, 1) := by decide +kernel
theorem dX7_walks_39 : decode cX7_walks 39 = .ok (.getfield 40, 3) := by decide +kernel
theorem dX7_walks_42 : decode cX7_walks 42 = .ok (.iload_n 3, 1) := by decide +kernel
theorem dX7_walks_43 : decode cX7_walks 43 = .ok (.invokevirtual 211, 3) := by decide +kernel
theorem dX7_walks_46 : decode cX7_walks 46 = .ok (.istore 4, 2) := by decide +kernel
theorem dX7_walks_48 : decode cX7_walks 48 = .ok (.iload 4, 2) := by decide +kernel
theorem dX7_walks_50 : decode cX7_walks 50 = .ok (.ifCond .lt 16, 3) := by decide +kernel
theorem dX7_walks_53 : decode cX7_walks 53 = .ok (.aload_n 0, 1) := by decide +kernel
theorem dX7_walks_54 : decode cX7_walks 54 = .ok (.iload 4, 2) := by decide +kernel
theorem dX7_walks_56 : decode cX7_walks 56 = .ok (.invokevirtual 197, 3) := by decide +kernel
theorem dX7_walks_59 : decode cX7_walks 59 = .ok (.ifCond .eq 7, 3) := by decide +kernel
theorem dX7_walks_62 : decode cX7_walks 62 = .ok (.iconst 1, 1) := by decide +kernel
theorem dX7_walks_63 : decode cX7_walks 63 = .ok (.goto 4, 3) := by decide +kernel
theorem dX7_walks_66 : decode cX7_walks 66 = .ok (.iconst 0, 1) := by decide +kernel
theorem dX7_walks_67 : decode cX7_walks 67 = .ok (.istore_n 2, 1) := by decide +kernel
theorem dX7_walks_68 : decode cX7_walks 68 = .ok (.iload_n 2, 1) := by decide +kernel
theorem dX7_walks_69 : decode cX7_walks 69 = .ok (.ifCond .eq 6, 3) := by decide +kernel
theorem dX7_walks_72 : decode cX7_walks 72 = .ok (.iinc 1 1, 3) := by decide +kernel
theorem dX7_walks_75 : decode cX7_walks 75 = .ok (.iinc 3 1, 3) := by decide +kernel
theorem dX7_walks_78 : decode cX7_walks 78 = .ok (.goto (-55), 3) := by decide +kernel
theorem dX7_walks_81 : decode cX7_walks 81 = .ok (.aload_n 0, 1) := by decide +kernel
theorem dX7_walks_82 : decode cX7_walks 82 = .ok (.getfield 40, 3) := by decide +kernel
theorem dX7_walks_85 : decode cX7_walks 85 = .ok (.invokevirtual 102, 3) := by decide +kernel
theorem dX7_walks_88 : decode cX7_walks 88 = .ok (.iload_n 1, 1) := by decide +kernel
theorem dX7_walks_89 : decode cX7_walks 89 = .ok (.ireturn, 1) := by decide +kernel
theorem dX7_judge_0 : decode cX7_judge 0 = .ok (.aload_n 0, 1) := by decide +kernel
theorem dX7_judge_1 : decode cX7_judge 1 = .ok (.getfield 26, 3) := by decide +kernel
theorem dX7_judge_4 : decode cX7_judge 4 = .ok (.invokevirtual 154, 3) := by decide +kernel
theorem dX7_judge_7 : decode cX7_judge 7 = .ok (.ifCond .eq 10, 3) := by decide +kernel
theorem dX7_judge_10 : decode cX7_judge 10 = .ok (.aload_n 0, 1) := by decide +kernel
theorem dX7_judge_11 : decode cX7_judge 11 = .ok (.bipush (-3), 2) := by decide +kernel
theorem dX7_judge_13 : decode cX7_judge 13 = .ok (.invokevirtual 75, 3) := by decide +kernel
theorem dX7_judge_16 : decode cX7_judge 16 = .ok (.ireturn, 1) := by decide +kernel
theorem dX7_judge_17 : decode cX7_judge 17 = .ok (.aload_n 0, 1) := by decide +kernel
theorem dX7_judge_18 : decode cX7_judge 18 = .ok (.getfield 26, 3) := by decide +kernel
theorem dX7_judge_21 : decode cX7_judge 21 = .ok (.getfield 169, 3) := by decide +kernel
theorem dX7_judge_24 : decode cX7_judge 24 = .ok (.istore_n 1, 1) := by decide +kernel
theorem dX7_judge_25 : decode cX7_judge 25 = .ok (.iconst 0, 1) := by decide +kernel
theorem dX7_judge_26 : decode cX7_judge 26 = .ok (.istore_n 2, 1) := by decide +kernel
theorem dX7_judge_27 : decode cX7_judge 27 = .ok (.iload_n 2, 1) := by decide +kernel
theorem dX7_judge_28 : decode cX7_judge 28 = .ok (.aload_n 0, 1) := by decide +kernel
theorem dX7_judge_29 : decode cX7_judge 29 = .ok (.getfield 40, 3) := by decide +kernel
theorem dX7_judge_32 : decode cX7_judge 32 = .ok (.getfield 87, 3) := by decide +kernel
theorem dX7_judge_35 : decode cX7_judge 35 = .ok (.if_icmp .ge 42, 3) := by decide +kernel
theorem dX7_judge_38 : decode cX7_judge 38 = .ok (.aload_n 0, 1) := by decide +kernel
theorem dX7_judge_39 : decode cX7_judge 39 = .ok (.getfield 40, 3) := by decide +kernel
theorem dX7_judge_42 : decode cX7_judge 42 = .ok (.iload_n 2, 1) := by decide +kernel
theorem dX7_judge_43 : decode cX7_judge 43 = .ok (.invokevirtual 211, 3) := by decide +kernel
theorem dX7_judge_46 : decode cX7_judge 46 = .ok (.istore_n 3, 1) := by decide +kernel
theorem dX7_judge_47 : decode cX7_judge 47 = .ok (.iload_n 3, 1) := by decide +kernel
theorem dX7_judge_48 : decode cX7_judge 48 = .ok (.ifCond .ge 7, 3) := by decide +kernel
theorem dX7_judge_51 : decode cX7_judge 51 = .ok (.iconst (-1), 1) := by decide +kernel
theorem dX7_judge_52 : decode cX7_judge 52 = .ok (.goto 12, 3) := by decide +kernel
theorem dX7_judge_55 : decode cX7_judge 55 = .ok (.aload_n 0, 1) := by decide +kernel
theorem dX7_judge_56 : decode cX7_judge 56 = .ok (.getfield 26, 3) := by decide +kernel
theorem dX7_judge_59 : decode cX7_judge 59 = .ok (.iload_n 1, 1) := by decide +kernel
theorem dX7_judge_60 : decode cX7_judge 60 = .ok (.iload_n 3, 1) := by decide +kernel
theorem dX7_judge_61 : decode cX7_judge 61 = .ok (.invokevirtual 200, 3) := by decide +kernel
theorem dX7_judge_64 : decode cX7_judge 64 = .ok (.istore_n 1, 1) := by decide +kernel
theorem dX7_judge_65 : decode cX7_judge 65 = .ok (.iload_n 1, 1) := by decide +kernel
theorem dX7_judge_66 : decode cX7_judge 66 = .ok (.ifCond .ge 5, 3) := by decide +kernel
theorem dX7_judge_69 : decode cX7_judge 69 = .ok (.iload_n 2, 1) := by decide +kernel
theorem dX7_judge_70 : decode cX7_judge 70 = .ok (.ireturn, 1) := by decide +kernel
theorem dX7_judge_71 : decode cX7_judge 71 = .ok (.iinc 2 1, 3) := by decide +kernel
theorem dX7_judge_74 : decode cX7_judge 74 = .ok (.goto (-47), 3) := by decide +kernel
theorem dX7_judge_77 : decode cX7_judge 77 = .ok (.bipush (-9), 2) := by decide +kernel
theorem dX7_judge_79 : decode cX7_judge 79 = .ok (.ireturn, 1) := by decide +kernel
theorem dX7_undo_0 : decode cX7_undo 0 = .ok (.aload_n 0, 1) := by decide +kernel
theorem dX7_undo_1 : decode cX7_undo 1 = .ok (.getfield 54, 3) := by decide +kernel
theorem dX7_undo_4 : decode cX7_undo 4 = .ok (.getfield 214, 3) := by decide +kernel
theorem dX7_undo_7 : decode cX7_undo 7 = .ok (.ifCond .ne 10, 3) := by decide +kernel
theorem dX7_undo_10 : decode cX7_undo 10 = .ok (.aload_n 0, 1) := by decide +kernel
theorem dX7_undo_11 : decode cX7_undo 11 = .ok (.bipush (-3), 2) := by decide +kernel
theorem dX7_undo_13 : decode cX7_undo 13 = .ok (.invokevirtual 75, 3) := by decide +kernel
theorem dX7_undo_16 : decode cX7_undo 16 = .ok (.ireturn, 1) := by decide +kernel
theorem dX7_undo_17 : decode cX7_undo 17 = .ok (.aload_n 0, 1) := by decide +kernel
theorem dX7_undo_18 : decode cX7_undo 18 = .ok (.getfield 54, 3) := by decide +kernel
theorem dX7_undo_21 : decode cX7_undo 21 = .ok (.aload_n 0, 1) := by decide +kernel
theorem dX7_undo_22 : decode cX7_undo 22 = .ok (.getfield 26, 3) := by decide +kernel
theorem dX7_undo_25 : decode cX7_undo 25 = .ok (.invokevirtual 215, 3) := by decide +kernel
theorem dX7_undo_28 : decode cX7_undo 28 = .ok (.aload_n 0, 1) := by decide +kernel
theorem dX7_undo_29 : decode cX7_undo 29 = .ok (.getfield 54, 3) := by decide +kernel
theorem dX7_undo_32 : decode cX7_undo 32 = .ok (.getfield 214, 3) := by decide +kernel
theorem dX7_undo_35 : decode cX7_undo 35 = .ok (.ireturn, 1) := by decide +kernel
theorem dX7_reached_0 : decode cX7_reached 0 = .ok (.iload_n 1, 1) := by decide +kernel
theorem dX7_reached_1 : decode cX7_reached 1 = .ok (.ifCond .lt 8, 3) := by decide +kernel
theorem dX7_reached_4 : decode cX7_reached 4 = .ok (.iload_n 1, 1) := by decide +kernel
theorem dX7_reached_5 : decode cX7_reached 5 = .ok (.iconst 3, 1) := by decide +kernel
theorem dX7_reached_6 : decode cX7_reached 6 = .ok (.if_icmp .le 10, 3) := by decide +kernel
theorem dX7_reached_9 : decode cX7_reached 9 = .ok (.aload_n 0, 1) := by decide +kernel
theorem dX7_reached_10 : decode cX7_reached 10 = .ok (.bipush (-2), 2) := by decide +kernel
theorem dX7_reached_12 : decode cX7_reached 12 = .ok (.invokevirtual 75, 3) := by decide +kernel
theorem dX7_reached_15 : decode cX7_reached 15 = .ok (.ireturn, 1) := by decide +kernel
theorem dX7_reached_16 : decode cX7_reached 16 = .ok (.aload_n 0, 1) := by decide +kernel
theorem dX7_reached_17 : decode cX7_reached 17 = .ok (.getfield 26, 3) := by decide +kernel
theorem dX7_reached_20 : decode cX7_reached 20 = .ok (.invokevirtual 154, 3) := by decide +kernel
theorem dX7_reached_23 : decode cX7_reached 23 = .ok (.ifCond .eq 10, 3) := by decide +kernel
theorem dX7_reached_26 : decode cX7_reached 26 = .ok (.aload_n 0, 1) := by decide +kernel
theorem dX7_reached_27 : decode cX7_reached 27 = .ok (.bipush (-3), 2) := by decide +kernel
theorem dX7_reached_29 : decode cX7_reached 29 = .ok (.invokevirtual 75, 3) := by decide +kernel
theorem dX7_reached_32 : decode cX7_reached 32 = .ok (.ireturn, 1) := by decide +kernel
theorem dX7_reached_33 : decode cX7_reached 33 = .ok (.iload_n 1, 1) := by decide +kernel
theorem dX7_reached_34 : decode cX7_reached 34 = .ok (.iconst 2, 1) := by decide +kernel
theorem dX7_reached_35 : decode cX7_reached 35 = .ok (.if_icmp .ne 23, 3) := by decide +kernel
theorem dX7_reached_38 : decode cX7_reached 38 = .ok (.aload_n 0, 1) := by decide +kernel
theorem dX7_reached_39 : decode cX7_reached 39 = .ok (.getfield 47, 3) := by decide +kernel
theorem dX7_reached_42 : decode cX7_reached 42 = .ok (.aload_n 0, 1) := by decide +kernel
theorem dX7_reached_43 : decode cX7_reached 43 = .ok (.getfield 26, 3) := by decide +kernel
theorem dX7_reached_46 : decode cX7_reached 46 = .ok (.invokevirtual 218, 3) := by decide +kernel
theorem dX7_reached_49 : decode cX7_reached 49 = .ok (.ifCond .eq 7, 3) := by decide +kernel
theorem dX7_reached_52 : decode cX7_reached 52 = .ok (.iconst 1, 1) := by decide +kernel
theorem dX7_reached_53 : decode cX7_reached 53 = .ok (.goto 4, 3) := by decide +kernel
theorem dX7_reached_56 : decode cX7_reached 56 = .ok (.iconst 0, 1) := by decide +kernel
theorem dX7_reached_57 : decode cX7_reached 57 = .ok (.ireturn, 1) := by decide +kernel
theorem dX7_reached_58 : decode cX7_reached 58 = .ok (.aload_n 0, 1) := by decide +kernel
theorem dX7_reached_59 : decode cX7_reached 59 = .ok (.getfield 47, 3) := by decide +kernel
theorem dX7_reached_62 : decode cX7_reached 62 = .ok (.aload_n 0, 1) := by decide +kernel
theorem dX7_reached_63 : decode cX7_reached 63 = .ok (.getfield 26, 3) := by decide +kernel
theorem dX7_reached_66 : decode cX7_reached 66 = .ok (.invokevirtual 222, 3) := by decide +kernel
theorem dX7_reached_69 : decode cX7_reached 69 = .ok (.iload_n 1, 1) := by decide +kernel
theorem dX7_reached_70 : decode cX7_reached 70 = .ok (.ifCond .ne 11, 3) := by decide +kernel
theorem dX7_reached_73 : decode cX7_reached 73 = .ok (.aload_n 0, 1) := by decide +kernel
theorem dX7_reached_74 : decode cX7_reached 74 = .ok (.getfield 47, 3) := by decide +kernel
theorem dX7_reached_77 : decode cX7_reached 77 = .ok (.getfield 225, 3) := by decide +kernel
theorem dX7_reached_80 : decode cX7_reached 80 = .ok (.ireturn, 1) := by decide +kernel
theorem dX7_reached_81 : decode cX7_reached 81 = .ok (.iload_n 1, 1) := by decide +kernel
theorem dX7_reached_82 : decode cX7_reached 82 = .ok (.iconst 1, 1) := by decide +kernel
theorem dX7_reached_83 : decode cX7_reached 83 = .ok (.if_icmp .ne 13, 3) := by decide +kernel
theorem dX7_reached_86 : decode cX7_reached 86 = .ok (.aload_n 0, 1) := by decide +kernel
theorem dX7_reached_87 : decode cX7_reached 87 = .ok (.getfield 47, 3) := by decide +kernel
theorem dX7_reached_90 : decode cX7_reached 90 = .ok (.invokevirtual 226, 3) := by decide +kernel
theorem dX7_reached_93 : decode cX7_reached 93 = .ok (.goto 10, 3) := by decide +kernel
theorem dX7_reached_96 : decode cX7_reached 96 = .ok (.aload_n 0, 1) := by decide +kernel
theorem dX7_reached_97 : decode cX7_reached 97 = .ok (.getfield 47, 3) := by decide +kernel
theorem dX7_reached_100 : decode cX7_reached 100 = .ok (.invokevirtual 229, 3) := by decide +kernel
theorem dX7_reached_103 : decode cX7_reached 103 = .ok (.ireturn, 1) := by decide +kernel
theorem dX7_soonest_0 : decode cX7_soonest 0 = .ok (.aload_n 0, 1) := by decide +kernel
theorem dX7_soonest_1 : decode cX7_soonest 1 = .ok (.iload_n 1, 1) := by decide +kernel
theorem dX7_soonest_2 : decode cX7_soonest 2 = .ok (.iload_n 2, 1) := by decide +kernel
theorem dX7_soonest_3 : decode cX7_soonest 3 = .ok (.invokevirtual 232, 3) := by decide +kernel
theorem dX7_soonest_6 : decode cX7_soonest 6 = .ok (.ifCond .ne 9, 3) := by decide +kernel
theorem dX7_soonest_9 : decode cX7_soonest 9 = .ok (.aload_n 0, 1) := by decide +kernel
theorem dX7_soonest_10 : decode cX7_soonest 10 = .ok (.iconst (-1), 1) := by decide +kernel
theorem dX7_soonest_11 : decode cX7_soonest 11 = .ok (.invokevirtual 75, 3) := by decide +kernel
theorem dX7_soonest_14 : decode cX7_soonest 14 = .ok (.ireturn, 1) := by decide +kernel
theorem dX7_soonest_15 : decode cX7_soonest 15 = .ok (.aload_n 0, 1) := by decide +kernel
theorem dX7_soonest_16 : decode cX7_soonest 16 = .ok (.getfield 26, 3) := by decide +kernel
theorem dX7_soonest_19 : decode cX7_soonest 19 = .ok (.invokevirtual 154, 3) := by decide +kernel
theorem dX7_soonest_22 : decode cX7_soonest 22 = .ok (.ifCond .eq 10, 3) := by decide +kernel
theorem dX7_soonest_25 : decode cX7_soonest 25 = .ok (.aload_n 0, 1) := by decide +kernel
theorem dX7_soonest_26 : decode cX7_soonest 26 = .ok (.bipush (-3), 2) := by decide +kernel
theorem dX7_soonest_28 : decode cX7_soonest 28 = .ok (.invokevirtual 75, 3) := by decide +kernel
theorem dX7_soonest_31 : decode cX7_soonest 31 = .ok (.ireturn, 1) := by decide +kernel
theorem dX7_soonest_32 : decode cX7_soonest 32 = .ok (.aload_n 0, 1) := by decide +kernel
theorem dX7_soonest_33 : decode cX7_soonest 33 = .ok (.getfield 47, 3) := by decide +kernel
theorem dX7_soonest_36 : decode cX7_soonest 36 = .ok (.aload_n 0, 1) := by decide +kernel
theorem dX7_soonest_37 : decode cX7_soonest 37 = .ok (.getfield 26, 3) := by decide +kernel
theorem dX7_soonest_40 : decode cX7_soonest 40 = .ok (.iload_n 1, 1) := by decide +kernel
theorem dX7_soonest_41 : decode cX7_soonest 41 = .ok (.iload_n 2, 1) := by decide +kernel
theorem dX7_soonest_42 : decode cX7_soonest 42 = .ok (.invokevirtual 235, 3) := by decide +kernel
theorem dX7_soonest_45 : decode cX7_soonest 45 = .ok (.istore_n 3, 1) := by decide +kernel
theorem dX7_soonest_46 : decode cX7_soonest 46 = .ok (.iload_n 3, 1) := by decide +kernel
theorem dX7_soonest_47 : decode cX7_soonest 47 = .ok (.ifCond .ge 8, 3) := by decide +kernel
theorem dX7_soonest_50 : decode cX7_soonest 50 = .ok (.bipush (-9), 2) := by decide +kernel
theorem dX7_soonest_52 : decode cX7_soonest 52 = .ok (.goto 12, 3) := by decide +kernel
theorem dX7_soonest_55 : decode cX7_soonest 55 = .ok (.aload_n 0, 1) := by decide +kernel
theorem dX7_soonest_56 : decode cX7_soonest 56 = .ok (.getfield 47, 3) := by decide +kernel
theorem dX7_soonest_59 : decode cX7_soonest 59 = .ok (.getfield 239, 3) := by decide +kernel
theorem dX7_soonest_62 : decode cX7_soonest 62 = .ok (.iload_n 3, 1) := by decide +kernel
theorem dX7_soonest_63 : decode cX7_soonest 63 = .ok (.iaload, 1) := by decide +kernel
theorem dX7_soonest_64 : decode cX7_soonest 64 = .ok (.ireturn, 1) := by decide +kernel
theorem dX7_walk_0 : decode cX7_walk 0 = .ok (.aload_n 0, 1) := by decide +kernel
theorem dX7_walk_1 : decode cX7_walk 1 = .ok (.iload_n 1, 1) := by decide +kernel
theorem dX7_walk_2 : decode cX7_walk 2 = .ok (.iload_n 2, 1) := by decide +kernel
theorem dX7_walk_3 : decode cX7_walk 3 = .ok (.invokevirtual 232, 3) := by decide +kernel
theorem dX7_walk_6 : decode cX7_walk 6 = .ok (.ifCond .ne 9, 3) := by decide +kernel
theorem dX7_walk_9 : decode cX7_walk 9 = .ok (.aload_n 0, 1) := by decide +kernel
theorem dX7_walk_10 : decode cX7_walk 10 = .ok (.iconst (-1), 1) := by decide +kernel
theorem dX7_walk_11 : decode cX7_walk 11 = .ok (.invokevirtual 75, 3) := by decide +kernel
theorem dX7_walk_14 : decode cX7_walk 14 = .ok (.ireturn, 1) := by decide +kernel
theorem dX7_walk_15 : decode cX7_walk 15 = .ok (.iload_n 3, 1) := by decide +kernel
theorem dX7_walk_16 : decode cX7_walk 16 = .ok (.ifCond .ge 10, 3) := by decide +kernel
theorem dX7_walk_19 : decode cX7_walk 19 = .ok (.aload_n 0, 1) := by decide +kernel
theorem dX7_walk_20 : decode cX7_walk 20 = .ok (.bipush (-4), 2) := by decide +kernel
theorem dX7_walk_22 : decode cX7_walk 22 = .ok (.invokevirtual 75, 3) := by decide +kernel
theorem dX7_walk_25 : decode cX7_walk 25 = .ok (.ireturn, 1) := by decide +kernel
theorem dX7_walk_26 : decode cX7_walk 26 = .ok (.aload_n 0, 1) := by decide +kernel
theorem dX7_walk_27 : decode cX7_walk 27 = .ok (.getfield 26, 3) := by decide +kernel
theorem dX7_walk_30 : decode cX7_walk 30 = .ok (.invokevirtual 154, 3) := by decide +kernel
theorem dX7_walk_33 : decode cX7_walk 33 = .ok (.ifCond .eq 10, 3) := by decide +kernel
theorem dX7_walk_36 : decode cX7_walk 36 = .ok (.aload_n 0, 1) := by decide +kernel
theorem dX7_walk_37 : decode cX7_walk 37 = .ok (.bipush (-3), 2) := by decide +kernel
theorem dX7_walk_39 : decode cX7_walk 39 = .ok (.invokevirtual 75, 3) := by decide +kernel
theorem dX7_walk_42 : decode cX7_walk 42 = .ok (.ireturn, 1) := by decide +kernel
theorem dX7_walk_43 : decode cX7_walk 43 = .ok (.aload_n 0, 1) := by decide +kernel
theorem dX7_walk_44 : decode cX7_walk 44 = .ok (.getfield 47, 3) := by decide +kernel
theorem dX7_walk_47 : decode cX7_walk 47 = .ok (.aload_n 0, 1) := by decide +kernel
theorem dX7_walk_48 : decode cX7_walk 48 = .ok (.getfield 26, 3) := by decide +kernel
theorem dX7_walk_51 : decode cX7_walk 51 = .ok (.iload_n 1, 1) := by decide +kernel
theorem dX7_walk_52 : decode cX7_walk 52 = .ok (.iload_n 2, 1) := by decide +kernel
theorem dX7_walk_53 : decode cX7_walk 53 = .ok (.invokevirtual 235, 3) := by decide +kernel
theorem dX7_walk_56 : decode cX7_walk 56 = .ok (.istore 4, 2) := by decide +kernel
theorem dX7_walk_58 : decode cX7_walk 58 = .ok (.iload 4, 2) := by decide +kernel
theorem dX7_walk_60 : decode cX7_walk 60 = .ok (.ifCond .lt 17, 3) := by decide +kernel
theorem dX7_walk_63 : decode cX7_walk 63 = .ok (.iload_n 3, 1) := by decide +kernel
theorem dX7_walk_64 : decode cX7_walk 64 = .ok (.aload_n 0, 1) := by decide +kernel
theorem dX7_walk_65 : decode cX7_walk 65 = .ok (.getfield 47, 3) := by decide +kernel
theorem dX7_walk_68 : decode cX7_walk 68 = .ok (.getfield 239, 3) := by decide +kernel
theorem dX7_walk_71 : decode cX7_walk 71 = .ok (.iload 4, 2) := by decide +kernel
theorem dX7_walk_73 : decode cX7_walk 73 = .ok (.iaload, 1) := by decide +kernel
theorem dX7_walk_74 : decode cX7_walk 74 = .ok (.if_icmp .lt 8, 3) := by decide +kernel
theorem dX7_walk_77 : decode cX7_walk 77 = .ok (.bipush (-9), 2) := by decide +kernel
theorem dX7_walk_79 : decode cX7_walk 79 = .ok (.goto 13, 3) := by decide +kernel
theorem dX7_walk_82 : decode cX7_walk 82 = .ok (.aload_n 0, 1) := by decide +kernel
theorem dX7_walk_83 : decode cX7_walk 83 = .ok (.getfield 47, 3) := by decide +kernel
theorem dX7_walk_86 : decode cX7_walk 86 = .ok (.iload 4, 2) := by decide +kernel
theorem dX7_walk_88 : decode cX7_walk 88 = .ok (.iload_n 3, 1) := by decide +kernel
theorem dX7_walk_89 : decode cX7_walk 89 = .ok (.invokevirtual 242, 3) := by decide +kernel
theorem dX7_walk_92 : decode cX7_walk 92 = .ok (.ireturn, 1) := by decide +kernel
theorem dX7_faces_0 : decode cX7_faces 0 = .ok (.aload_n 0, 1) := by decide +kernel
theorem dX7_faces_1 : decode cX7_faces 1 = .ok (.getfield 26, 3) := by decide +kernel
theorem dX7_faces_4 : decode cX7_faces 4 = .ok (.aload_n 0, 1) := by decide +kernel
theorem dX7_faces_5 : decode cX7_faces 5 = .ok (.getfield 26, 3) := by decide +kernel
theorem dX7_faces_8 : decode cX7_faces 8 = .ok (.getfield 163, 3) := by decide +kernel
theorem dX7_faces_11 : decode cX7_faces 11 = .ok (.iload_n 1, 1) := by decide +kernel
theorem dX7_faces_12 : decode cX7_faces 12 = .ok (.invokevirtual 127, 3) := by decide +kernel
theorem dX7_faces_15 : decode cX7_faces 15 = .ok (.ifCond .ne 9, 3) := by decide +kernel
theorem dX7_faces_18 : decode cX7_faces 18 = .ok (.aload_n 0, 1) := by decide +kernel
theorem dX7_faces_19 : decode cX7_faces 19 = .ok (.iconst (-1), 1) := by decide +kernel
theorem dX7_faces_20 : decode cX7_faces 20 = .ok (.invokevirtual 75, 3) := by decide +kernel
theorem dX7_faces_23 : decode cX7_faces 23 = .ok (.ireturn, 1) := by decide +kernel
theorem dX7_faces_24 : decode cX7_faces 24 = .ok (.aload_n 0, 1) := by decide +kernel
theorem dX7_faces_25 : decode cX7_faces 25 = .ok (.getfield 26, 3) := by decide +kernel
theorem dX7_faces_28 : decode cX7_faces 28 = .ok (.invokevirtual 154, 3) := by decide +kernel
theorem dX7_faces_31 : decode cX7_faces 31 = .ok (.ifCond .eq 10, 3) := by decide +kernel
theorem dX7_faces_34 : decode cX7_faces 34 = .ok (.aload_n 0, 1) := by decide +kernel
theorem dX7_faces_35 : decode cX7_faces 35 = .ok (.bipush (-3), 2) := by decide +kernel
theorem dX7_faces_37 : decode cX7_faces 37 = .ok (.invokevirtual 75, 3) := by decide +kernel
theorem dX7_faces_40 : decode cX7_faces 40 = .ok (.ireturn, 1) := by decide +kernel
theorem dX7_faces_41 : decode cX7_faces 41 = .ok (.aload_n 0, 1) := by decide +kernel
theorem dX7_faces_42 : decode cX7_faces 42 = .ok (.getfield 47, 3) := by decide +kernel
theorem dX7_faces_45 : decode cX7_faces 45 = .ok (.aload_n 0, 1) := by decide +kernel
theorem dX7_faces_46 : decode cX7_faces 46 = .ok (.getfield 26, 3) := by decide +kernel
theorem dX7_faces_49 : decode cX7_faces 49 = .ok (.invokevirtual 222, 3) := by decide +kernel
theorem dX7_faces_52 : decode cX7_faces 52 = .ok (.aload_n 0, 1) := by decide +kernel
theorem dX7_faces_53 : decode cX7_faces 53 = .ok (.getfield 47, 3) := by decide +kernel
theorem dX7_faces_56 : decode cX7_faces 56 = .ok (.aload_n 0, 1) := by decide +kernel
theorem dX7_faces_57 : decode cX7_faces 57 = .ok (.getfield 26, 3) := by decide +kernel
theorem dX7_faces_60 : decode cX7_faces 60 = .ok (.iload_n 1, 1) := by decide +kernel
theorem dX7_faces_61 : decode cX7_faces 61 = .ok (.invokevirtual 245, 3) := by decide +kernel
theorem dX7_faces_64 : decode cX7_faces 64 = .ok (.ireturn, 1) := by decide +kernel
theorem dX7_fill_0 : decode cX7_fill 0 = .ok (.iload_n 1, 1) := by decide +kernel
theorem dX7_fill_1 : decode cX7_fill 1 = .ok (.ifCond .lt 8, 3) := by decide +kernel
theorem dX7_fill_4 : decode cX7_fill 4 = .ok (.iload_n 1, 1) := by decide +kernel
theorem dX7_fill_5 : decode cX7_fill 5 = .ok (.iconst 1, 1) := by decide +kernel
theorem dX7_fill_6 : decode cX7_fill 6 = .ok (.if_icmp .le 10, 3) := by decide +kernel
theorem dX7_fill_9 : decode cX7_fill 9 = .ok (.aload_n 0, 1) := by decide +kernel
theorem dX7_fill_10 : decode cX7_fill 10 = .ok (.bipush (-2), 2) := by decide +kernel
theorem dX7_fill_12 : decode cX7_fill 12 = .ok (.invokevirtual 75, 3) := by decide +kernel
theorem dX7_fill_15 : decode cX7_fill 15 = .ok (.ireturn, 1) := by decide +kernel
theorem dX7_fill_16 : decode cX7_fill 16 = .ok (.aload_n 0, 1) := by decide +kernel
theorem dX7_fill_17 : decode cX7_fill 17 = .ok (.getfield 26, 3) := by decide +kernel
theorem dX7_fill_20 : decode cX7_fill 20 = .ok (.invokevirtual 154, 3) := by decide +kernel
theorem dX7_fill_23 : decode cX7_fill 23 = .ok (.ifCond .eq 10, 3) := by decide +kernel
theorem dX7_fill_26 : decode cX7_fill 26 = .ok (.aload_n 0, 1) := by decide +kernel
theorem dX7_fill_27 : decode cX7_fill 27 = .ok (.bipush (-3), 2) := by decide +kernel
theorem dX7_fill_29 : decode cX7_fill 29 = .ok (.invokevirtual 75, 3) := by decide +kernel
theorem dX7_fill_32 : decode cX7_fill 32 = .ok (.ireturn, 1) := by decide +kernel
theorem dX7_fill_33 : decode cX7_fill 33 = .ok (.aload_n 0, 1) := by decide +kernel
theorem dX7_fill_34 : decode cX7_fill 34 = .ok (.getfield 47, 3) := by decide +kernel
theorem dX7_fill_37 : decode cX7_fill 37 = .ok (.aload_n 0, 1) := by decide +kernel
theorem dX7_fill_38 : decode cX7_fill 38 = .ok (.getfield 26, 3) := by decide +kernel
theorem dX7_fill_41 : decode cX7_fill 41 = .ok (.invokevirtual 249, 3) := by decide +kernel
theorem dX7_fill_44 : decode cX7_fill 44 = .ok (.istore_n 2, 1) := by decide +kernel
theorem dX7_fill_45 : decode cX7_fill 45 = .ok (.iload_n 2, 1) := by decide +kernel
theorem dX7_fill_46 : decode cX7_fill 46 = .ok (.ifCond .ge 6, 3) := by decide +kernel
theorem dX7_fill_49 : decode cX7_fill 49 = .ok (.bipush (-9), 2) := by decide +kernel
theorem dX7_fill_51 : decode cX7_fill 51 = .ok (.ireturn, 1) := by decide +kernel
theorem dX7_fill_52 : decode cX7_fill 52 = .ok (.iload_n 1, 1) := by decide +kernel
theorem dX7_fill_53 : decode cX7_fill 53 = .ok (.ifCond .ne 7, 3) := by decide +kernel
theorem dX7_fill_56 : decode cX7_fill 56 = .ok (.iload_n 2, 1) := by decide +kernel
theorem dX7_fill_57 : decode cX7_fill 57 = .ok (.goto 15, 3) := by decide +kernel
theorem dX7_fill_60 : decode cX7_fill 60 = .ok (.aload_n 0, 1) := by decide +kernel
theorem dX7_fill_61 : decode cX7_fill 61 = .ok (.getfield 47, 3) := by decide +kernel
theorem dX7_fill_64 : decode cX7_fill 64 = .ok (.aload_n 0, 1) := by decide +kernel
theorem dX7_fill_65 : decode cX7_fill 65 = .ok (.getfield 26, 3) := by decide +kernel
theorem dX7_fill_68 : decode cX7_fill 68 = .ok (.iload_n 2, 1) := by decide +kernel
theorem dX7_fill_69 : decode cX7_fill 69 = .ok (.invokevirtual 253, 3) := by decide +kernel
theorem dX7_fill_72 : decode cX7_fill 72 = .ok (.ireturn, 1) := by decide +kernel
theorem dX7_needed_0 : decode cX7_needed 0 = .ok (.aload_n 0, 1) := by decide +kernel
theorem dX7_needed_1 : decode cX7_needed 1 = .ok (.getfield 26, 3) := by decide +kernel
theorem dX7_needed_4 : decode cX7_needed 4 = .ok (.aload_n 0, 1) := by decide +kernel
theorem dX7_needed_5 : decode cX7_needed 5 = .ok (.getfield 26, 3) := by decide +kernel
theorem dX7_needed_8 : decode cX7_needed 8 = .ok (.getfield 163, 3) := by decide +kernel
theorem dX7_needed_11 : decode cX7_needed 11 = .ok (.iload_n 1, 1) := by decide +kernel
theorem dX7_needed_12 : decode cX7_needed 12 = .ok (.invokevirtual 127, 3) := by decide +kernel
theorem dX7_needed_15 : decode cX7_needed 15 = .ok (.ifCond .ne 9, 3) := by decide +kernel
theorem dX7_needed_18 : decode cX7_needed 18 = .ok (.aload_n 0, 1) := by decide +kernel
theorem dX7_needed_19 : decode cX7_needed 19 = .ok (.iconst (-1), 1) := by decide +kernel
theorem dX7_needed_20 : decode cX7_needed 20 = .ok (.invokevirtual 256, 3) := by decide +kernel
theorem dX7_needed_23 : decode cX7_needed 23 = .ok (.lreturn, 1) := by decide +kernel
theorem dX7_needed_24 : decode cX7_needed 24 = .ok (.aload_n 0, 1) := by decide +kernel
theorem dX7_needed_25 : decode cX7_needed 25 = .ok (.getfield 26, 3) := by decide +kernel
theorem dX7_needed_28 : decode cX7_needed 28 = .ok (.invokevirtual 154, 3) := by decide +kernel
theorem dX7_needed_31 : decode cX7_needed 31 = .ok (.ifCond .eq 10, 3) := by decide +kernel
theorem dX7_needed_34 : decode cX7_needed 34 = .ok (.aload_n 0, 1) := by decide +kernel
theorem dX7_needed_35 : decode cX7_needed 35 = .ok (.bipush (-3), 2) := by decide +kernel
theorem dX7_needed_37 : decode cX7_needed 37 = .ok (.invokevirtual 256, 3) := by decide +kernel
theorem dX7_needed_40 : decode cX7_needed 40 = .ok (.lreturn, 1) := by decide +kernel
theorem dX7_needed_41 : decode cX7_needed 41 = .ok (.aload_n 0, 1) := by decide +kernel
theorem dX7_needed_42 : decode cX7_needed 42 = .ok (.getfield 47, 3) := by decide +kernel
theorem dX7_needed_45 : decode cX7_needed 45 = .ok (.aload_n 0, 1) := by decide +kernel
theorem dX7_needed_46 : decode cX7_needed 46 = .ok (.getfield 26, 3) := by decide +kernel
theorem dX7_needed_49 : decode cX7_needed 49 = .ok (.iload_n 1, 1) := by decide +kernel
theorem dX7_needed_50 : decode cX7_needed 50 = .ok (.invokevirtual 259, 3) := by decide +kernel
theorem dX7_needed_53 : decode cX7_needed 53 = .ok (.lreturn, 1) := by decide +kernel
theorem dX7_paint_0 : decode cX7_paint 0 = .ok (.aload_n 0, 1) := by decide +kernel
theorem dX7_paint_1 : decode cX7_paint 1 = .ok (.getfield 26, 3) := by decide +kernel
theorem dX7_paint_4 : decode cX7_paint 4 = .ok (.iload_n 1, 1) := by decide +kernel
theorem dX7_paint_5 : decode cX7_paint 5 = .ok (.invokevirtual 108, 3) := by decide +kernel
theorem dX7_paint_8 : decode cX7_paint 8 = .ok (.ifCond .eq 11, 3) := by decide +kernel
theorem dX7_paint_11 : decode cX7_paint 11 = .ok (.aload_n 0, 1) := by decide +kernel
theorem dX7_paint_12 : decode cX7_paint 12 = .ok (.iload_n 2, 1) := by decide +kernel
theorem dX7_paint_13 : decode cX7_paint 13 = .ok (.invokevirtual 263, 3) := by decide +kernel
theorem dX7_paint_16 : decode cX7_paint 16 = .ok (.ifCond .ne 9, 3) := by decide +kernel
theorem dX7_paint_19 : decode cX7_paint 19 = .ok (.aload_n 0, 1) := by decide +kernel
theorem dX7_paint_20 : decode cX7_paint 20 = .ok (.iconst (-1), 1) := by decide +kernel
theorem dX7_paint_21 : decode cX7_paint 21 = .ok (.invokevirtual 75, 3) := by decide +kernel
theorem dX7_paint_24 : decode cX7_paint 24 = .ok (.ireturn, 1) := by decide +kernel
theorem dX7_paint_25 : decode cX7_paint 25 = .ok (.aload_n 0, 1) := by decide +kernel
theorem dX7_paint_26 : decode cX7_paint 26 = .ok (.getfield 26, 3) := by decide +kernel
theorem dX7_paint_29 : decode cX7_paint 29 = .ok (.invokevirtual 154, 3) := by decide +kernel
theorem dX7_paint_32 : decode cX7_paint 32 = .ok (.ifCond .eq 10, 3) := by decide +kernel
theorem dX7_paint_35 : decode cX7_paint 35 = .ok (.aload_n 0, 1) := by decide +kernel
theorem dX7_paint_36 : decode cX7_paint 36 = .ok (.bipush (-3), 2) := by decide +kernel
theorem dX7_paint_38 : decode cX7_paint 38 = .ok (.invokevirtual 75, 3) := by decide +kernel
theorem dX7_paint_41 : decode cX7_paint 41 = .ok (.ireturn, 1) := by decide +kernel
theorem dX7_paint_42 : decode cX7_paint 42 = .ok (.aload_n 0, 1) := by decide +kernel
theorem dX7_paint_43 : decode cX7_paint 43 = .ok (.getfield 26, 3) := by decide +kernel
theorem dX7_paint_46 : decode cX7_paint 46 = .ok (.getfield 121, 3) := by decide +kernel
theorem dX7_paint_49 : decode cX7_paint 49 = .ok (.iload_n 1, 1) := by decide +kernel
theorem dX7_paint_50 : decode cX7_paint 50 = .ok (.iaload, 1) := by decide +kernel
theorem dX7_paint_51 : decode cX7_paint 51 = .ok (.iload_n 2, 1) := by decide +kernel
theorem dX7_paint_52 : decode cX7_paint 52 = .ok (.if_icmp .ne 7, 3) := by decide +kernel
theorem dX7_paint_55 : decode cX7_paint 55 = .ok (.iconst 0, 1) := by decide +kernel
theorem dX7_paint_56 : decode cX7_paint 56 = .ok (.goto 16, 3) := by decide +kernel
theorem dX7_paint_59 : decode cX7_paint 59 = .ok (.aload_n 0, 1) := by decide +kernel
theorem dX7_paint_60 : decode cX7_paint 60 = .ok (.getfield 47, 3) := by decide +kernel
theorem dX7_paint_63 : decode cX7_paint 63 = .ok (.aload_n 0, 1) := by decide +kernel
theorem dX7_paint_64 : decode cX7_paint 64 = .ok (.getfield 26, 3) := by decide +kernel
theorem dX7_paint_67 : decode cX7_paint 67 = .ok (.iload_n 1, 1) := by decide +kernel
theorem dX7_paint_68 : decode cX7_paint 68 = .ok (.iload_n 2, 1) := by decide +kernel
theorem dX7_paint_69 : decode cX7_paint 69 = .ok (.invokevirtual 266, 3) := by decide +kernel
theorem dX7_paint_72 : decode cX7_paint 72 = .ok (.ireturn, 1) := by decide +kernel
theorem dX7_likely_0 : decode cX7_likely 0 = .ok (.aload_n 0, 1) := by decide +kernel
theorem dX7_likely_1 : decode cX7_likely 1 = .ok (.getfield 26, 3) := by decide +kernel
theorem dX7_likely_4 : decode cX7_likely 4 = .ok (.aload_n 0, 1) := by decide +kernel
theorem dX7_likely_5 : decode cX7_likely 5 = .ok (.getfield 26, 3) := by decide +kernel
theorem dX7_likely_8 : decode cX7_likely 8 = .ok (.getfield 163, 3) := by decide +kernel
theorem dX7_likely_11 : decode cX7_likely 11 = .ok (.iload_n 2, 1) := by decide +kernel
theorem dX7_likely_12 : decode cX7_likely 12 = .ok (.invokevirtual 127, 3) := by decide +kernel
theorem dX7_likely_15 : decode cX7_likely 15 = .ok (.ifCond .ne 9, 3) := by decide +kernel
theorem dX7_likely_18 : decode cX7_likely 18 = .ok (.aload_n 0, 1) := by decide +kernel
theorem dX7_likely_19 : decode cX7_likely 19 = .ok (.iconst (-1), 1) := by decide +kernel
theorem dX7_likely_20 : decode cX7_likely 20 = .ok (.invokevirtual 256, 3) := by decide +kernel
theorem dX7_likely_23 : decode cX7_likely 23 = .ok (.lreturn, 1) := by decide +kernel
theorem dX7_likely_24 : decode cX7_likely 24 = .ok (.iload_n 1, 1) := by decide +kernel
theorem dX7_likely_25 : decode cX7_likely 25 = .ok (.ifCond .ge 10, 3) := by decide +kernel
theorem dX7_likely_28 : decode cX7_likely 28 = .ok (.aload_n 0, 1) := by decide +kernel
theorem dX7_likely_29 : decode cX7_likely 29 = .ok (.bipush (-4), 2) := by decide +kernel
theorem dX7_likely_31 : decode cX7_likely 31 = .ok (.invokevirtual 256, 3) := by decide +kernel
theorem dX7_likely_34 : decode cX7_likely 34 = .ok (.lreturn, 1) := by decide +kernel
theorem dX7_likely_35 : decode cX7_likely 35 = .ok (.iload_n 1, 1) := by decide +kernel
theorem dX7_likely_36 : decode cX7_likely 36 = .ok (.bipush 12, 2) := by decide +kernel
theorem dX7_likely_38 : decode cX7_likely 38 = .ok (.if_icmp .le 10, 3) := by decide +kernel
theorem dX7_likely_41 : decode cX7_likely 41 = .ok (.aload_n 0, 1) := by decide +kernel
theorem dX7_likely_42 : decode cX7_likely 42 = .ok (.bipush (-6), 2) := by decide +kernel
theorem dX7_likely_44 : decode cX7_likely 44 = .ok (.invokevirtual 256, 3) := by decide +kernel
theorem dX7_likely_47 : decode cX7_likely 47 = .ok (.lreturn, 1) := by decide +kernel
theorem dX7_likely_48 : decode cX7_likely 48 = .ok (.iload_n 3, 1) := by decide +kernel
theorem dX7_likely_49 : decode cX7_likely 49 = .ok (.ifCond .lt 8, 3) := by decide +kernel
theorem dX7_likely_52 : decode cX7_likely 52 = .ok (.iload_n 3, 1) := by decide +kernel
theorem dX7_likely_53 : decode cX7_likely 53 = .ok (.iconst 1, 1) := by decide +kernel
theorem dX7_likely_54 : decode cX7_likely 54 = .ok (.if_icmp .le 10, 3) := by decide +kernel
theorem dX7_likely_57 : decode cX7_likely 57 = .ok (.aload_n 0, 1) := by decide +kernel
theorem dX7_likely_58 : decode cX7_likely 58 = .ok (.bipush (-2), 2) := by decide +kernel
theorem dX7_likely_60 : decode cX7_likely 60 = .ok (.invokevirtual 256, 3) := by decide +kernel
theorem dX7_likely_63 : decode cX7_likely 63 = .ok (.lreturn, 1) := by decide +kernel
theorem dX7_likely_64 : decode cX7_likely 64 = .ok (.aload_n 0, 1) := by decide +kernel
theorem dX7_likely_65 : decode cX7_likely 65 = .ok (.getfield 26, 3) := by decide +kernel
theorem dX7_likely_68 : decode cX7_likely 68 = .ok (.invokevirtual 154, 3) := by decide +kernel
theorem dX7_likely_71 : decode cX7_likely 71 = .ok (.ifCond .eq 10, 3) := by decide +kernel
theorem dX7_likely_74 : decode cX7_likely 74 = .ok (.aload_n 0, 1) := by decide +kernel
theorem dX7_likely_75 : decode cX7_likely 75 = .ok (.bipush (-3), 2) := by decide +kernel
theorem dX7_likely_77 : decode cX7_likely 77 = .ok (.invokevirtual 256, 3) := by decide +kernel
theorem dX7_likely_80 : decode cX7_likely 80 = .ok (.lreturn, 1) := by decide +kernel
theorem dX7_likely_81 : decode cX7_likely 81 = .ok (.aload_n 0, 1) := by decide +kernel
theorem dX7_likely_82 : decode cX7_likely 82 = .ok (.getfield 47, 3) := by decide +kernel
theorem dX7_likely_85 : decode cX7_likely 85 = .ok (.aload_n 0, 1) := by decide +kernel
theorem dX7_likely_86 : decode cX7_likely 86 = .ok (.getfield 26, 3) := by decide +kernel
theorem dX7_likely_89 : decode cX7_likely 89 = .ok (.iload_n 1, 1) := by decide +kernel
theorem dX7_likely_90 : decode cX7_likely 90 = .ok (.iload_n 2, 1) := by decide +kernel
theorem dX7_likely_91 : decode cX7_likely 91 = .ok (.invokevirtual 269, 3) := by decide +kernel
theorem dX7_likely_94 : decode cX7_likely 94 = .ok (.iconst 2, 1) := by decide +kernel
theorem dX7_likely_95 : decode cX7_likely 95 = .ok (.iload_n 1, 1) := by decide +kernel
theorem dX7_likely_96 : decode cX7_likely 96 = .ok (.imul, 1) := by decide +kernel
theorem dX7_likely_97 : decode cX7_likely 97 = .ok (.iload_n 3, 1) := by decide +kernel
theorem dX7_likely_98 : decode cX7_likely 98 = .ok (.invokestatic 273, 3) := by decide +kernel
theorem dX7_likely_101 : decode cX7_likely 101 = .ok (.lreturn, 1) := by decide +kernel
theorem dX7_partInLeastTerms_0 : decode cX7_partInLeastTerms 0 = .ok (.lload_n 0, 1) := by decide +kernel
theorem dX7_partInLeastTerms_1 : decode cX7_partInLeastTerms 1 = .ok (.lconst 0, 1) := by decide +kernel
theorem dX7_partInLeastTerms_2 : decode cX7_partInLeastTerms 2 = .ok (.lcmp, 1) := by decide +kernel
theorem dX7_partInLeastTerms_3 : decode cX7_partInLeastTerms 3 = .ok (.ifCond .ne 6, 3) := by decide +kernel
theorem dX7_partInLeastTerms_6 : decode cX7_partInLeastTerms 6 = .ok (.iload_n 3, 1) := by decide +kernel
theorem dX7_partInLeastTerms_7 : decode cX7_partInLeastTerms 7 = .ok (.i2l, 1) := by decide +kernel
theorem dX7_partInLeastTerms_8 : decode cX7_partInLeastTerms 8 = .ok (.lreturn, 1) := by decide +kernel
theorem dX7_partInLeastTerms_9 : decode cX7_partInLeastTerms 9 = .ok (.lload_n 0, 1) := by decide +kernel
theorem dX7_partInLeastTerms_10 : decode cX7_partInLeastTerms 10 = .ok (.lstore 4, 2) := by decide +kernel
theorem dX7_partInLeastTerms_12 : decode cX7_partInLeastTerms 12 = .ok (.iload_n 2, 1) := by decide +kernel
theorem dX7_partInLeastTerms_13 : decode cX7_partInLeastTerms 13 = .ok (.istore 6, 2) := by decide +kernel
theorem dX7_partInLeastTerms_15 : decode cX7_partInLeastTerms 15 = .ok (.iconst 0, 1) := by decide +kernel
theorem dX7_partInLeastTerms_16 : decode cX7_partInLeastTerms 16 = .ok (.istore 7, 2) := by decide +kernel
theorem dX7_partInLeastTerms_18 : decode cX7_partInLeastTerms 18 = .ok (.iload 7, 2) := by decide +kernel
theorem dX7_partInLeastTerms_20 : decode cX7_partInLeastTerms 20 = .ok (.iload_n 2, 1) := by decide +kernel
theorem dX7_partInLeastTerms_21 : decode cX7_partInLeastTerms 21 = .ok (.if_icmp .ge 31, 3) := by decide +kernel
theorem dX7_partInLeastTerms_24 : decode cX7_partInLeastTerms 24 = .ok (.lload 4, 2) := by decide +kernel
theorem dX7_partInLeastTerms_26 : decode cX7_partInLeastTerms 26 = .ok (.ldc2_w 277, 3) := by decide +kernel
theorem dX7_partInLeastTerms_29 : decode cX7_partInLeastTerms 29 = .ok (.lrem, 1) := by decide +kernel
theorem dX7_partInLeastTerms_30 : decode cX7_partInLeastTerms 30 = .ok (.lconst 0, 1) := by decide +kernel
theorem dX7_partInLeastTerms_31 : decode cX7_partInLeastTerms 31 = .ok (.lcmp, 1) := by decide +kernel
theorem dX7_partInLeastTerms_32 : decode cX7_partInLeastTerms 32 = .ok (.ifCond .ne 20, 3) := by decide +kernel
theorem dX7_partInLeastTerms_35 : decode cX7_partInLeastTerms 35 = .ok (.lload 4, 2) := by decide +kernel
theorem dX7_partInLeastTerms_37 : decode cX7_partInLeastTerms 37 = .ok (.ldc2_w 277, 3) := by decide +kernel
theorem dX7_partInLeastTerms_40 : decode cX7_partInLeastTerms 40 = .ok (.ldiv, 1) := by decide +kernel
theorem dX7_partInLeastTerms_41 : decode cX7_partInLeastTerms 41 = .ok (.lstore 4, 2) := by decide +kernel
theorem dX7_partInLeastTerms_43 : decode cX7_partInLeastTerms 43 = .ok (.iinc 6 (-1), 3) := by decide +kernel
theorem dX7_partInLeastTerms_46 : decode cX7_partInLeastTerms 46 = .ok (.iinc 7 1, 3) := by decide +kernel
theorem dX7_partInLeastTerms_49 : decode cX7_partInLeastTerms 49 = .ok (.goto (-31), 3) := by decide +kernel
theorem dX7_partInLeastTerms_52 : decode cX7_partInLeastTerms 52 = .ok (.iload_n 3, 1) := by decide +kernel
theorem dX7_partInLeastTerms_53 : decode cX7_partInLeastTerms 53 = .ok (.ifCond .ne 8, 3) := by decide +kernel
theorem dX7_partInLeastTerms_56 : decode cX7_partInLeastTerms 56 = .ok (.lload 4, 2) := by decide +kernel
theorem dX7_partInLeastTerms_58 : decode cX7_partInLeastTerms 58 = .ok (.goto 7, 3) := by decide +kernel
theorem dX7_partInLeastTerms_61 : decode cX7_partInLeastTerms 61 = .ok (.lconst 1, 1) := by decide +kernel
theorem dX7_partInLeastTerms_62 : decode cX7_partInLeastTerms 62 = .ok (.iload 6, 2) := by decide +kernel
theorem dX7_partInLeastTerms_64 : decode cX7_partInLeastTerms 64 = .ok (.lshl, 1) := by decide +kernel
theorem dX7_partInLeastTerms_65 : decode cX7_partInLeastTerms 65 = .ok (.lreturn, 1) := by decide +kernel
theorem dX7_lots_0 : decode cX7_lots 0 = .ok (.iload_n 1, 1) := by decide +kernel
theorem dX7_lots_1 : decode cX7_lots 1 = .ok (.iconst 1, 1) := by decide +kernel
theorem dX7_lots_2 : decode cX7_lots 2 = .ok (.if_icmp .ge 10, 3) := by decide +kernel
theorem dX7_lots_5 : decode cX7_lots 5 = .ok (.aload_n 0, 1) := by decide +kernel
theorem dX7_lots_6 : decode cX7_lots 6 = .ok (.bipush (-4), 2) := by decide +kernel
theorem dX7_lots_8 : decode cX7_lots 8 = .ok (.invokevirtual 75, 3) := by decide +kernel
theorem dX7_lots_11 : decode cX7_lots 11 = .ok (.ireturn, 1) := by decide +kernel
theorem dX7_lots_12 : decode cX7_lots 12 = .ok (.iload_n 1, 1) := by decide +kernel
theorem dX7_lots_13 : decode cX7_lots 13 = .ok (.bipush 50, 2) := by decide +kernel
theorem dX7_lots_15 : decode cX7_lots 15 = .ok (.if_icmp .le 10, 3) := by decide +kernel
theorem dX7_lots_18 : decode cX7_lots 18 = .ok (.aload_n 0, 1) := by decide +kernel
theorem dX7_lots_19 : decode cX7_lots 19 = .ok (.bipush (-6), 2) := by decide +kernel
theorem dX7_lots_21 : decode cX7_lots 21 = .ok (.invokevirtual 75, 3) := by decide +kernel
theorem dX7_lots_24 : decode cX7_lots 24 = .ok (.ireturn, 1) := by decide +kernel
theorem dX7_lots_25 : decode cX7_lots 25 = .ok (.iload_n 3, 1) := by decide +kernel
theorem dX7_lots_26 : decode cX7_lots 26 = .ok (.ifCond .lt 8, 3) := by decide +kernel
theorem dX7_lots_29 : decode cX7_lots 29 = .ok (.iload_n 3, 1) := by decide +kernel
theorem dX7_lots_30 : decode cX7_lots 30 = .ok (.iconst 1, 1) := by decide +kernel
theorem dX7_lots_31 : decode cX7_lots 31 = .ok (.if_icmp .le 10, 3) := by decide +kernel
theorem dX7_lots_34 : decode cX7_lots 34 = .ok (.aload_n 0, 1) := by decide +kernel
theorem dX7_lots_35 : decode cX7_lots 35 = .ok (.bipush (-2), 2) := by decide +kernel
theorem dX7_lots_37 : decode cX7_lots 37 = .ok (.invokevirtual 75, 3) := by decide +kernel
theorem dX7_lots_40 : decode cX7_lots 40 = .ok (.ireturn, 1) := by decide +kernel
theorem dX7_lots_41 : decode cX7_lots 41 = .ok (.aload_n 0, 1) := by decide +kernel
theorem dX7_lots_42 : decode cX7_lots 42 = .ok (.getfield 26, 3) := by decide +kernel
theorem dX7_lots_45 : decode cX7_lots 45 = .ok (.invokevirtual 154, 3) := by decide +kernel
theorem dX7_lots_48 : decode cX7_lots 48 = .ok (.ifCond .eq 10, 3) := by decide +kernel
theorem dX7_lots_51 : decode cX7_lots 51 = .ok (.aload_n 0, 1) := by decide +kernel
theorem dX7_lots_52 : decode cX7_lots 52 = .ok (.bipush (-3), 2) := by decide +kernel
theorem dX7_lots_54 : decode cX7_lots 54 = .ok (.invokevirtual 75, 3) := by decide +kernel
theorem dX7_lots_57 : decode cX7_lots 57 = .ok (.ireturn, 1) := by decide +kernel
theorem dX7_lots_58 : decode cX7_lots 58 = .ok (.iload_n 2, 1) := by decide +kernel
theorem dX7_lots_59 : decode cX7_lots 59 = .ok (.istore 4, 2) := by decide +kernel
theorem dX7_lots_61 : decode cX7_lots 61 = .ok (.aload_n 0, 1) := by decide +kernel
theorem dX7_lots_62 : decode cX7_lots 62 = .ok (.getfield 26, 3) := by decide +kernel
theorem dX7_lots_65 : decode cX7_lots 65 = .ok (.getfield 169, 3) := by decide +kernel
theorem dX7_lots_68 : decode cX7_lots 68 = .ok (.istore 5, 2) := by decide +kernel
theorem dX7_lots_70 : decode cX7_lots 70 = .ok (.iconst 0, 1) := by decide +kernel
theorem dX7_lots_71 : decode cX7_lots 71 = .ok (.istore 6, 2) := by decide +kernel
theorem dX7_lots_73 : decode cX7_lots 73 = .ok (.iconst 0, 1) := by decide +kernel
theorem dX7_lots_74 : decode cX7_lots 74 = .ok (.istore 7, 2) := by decide +kernel
theorem dX7_lots_76 : decode cX7_lots 76 = .ok (.iload 7, 2) := by decide +kernel
theorem dX7_lots_78 : decode cX7_lots 78 = .ok (.iload_n 1, 1) := by decide +kernel
theorem dX7_lots_79 : decode cX7_lots 79 = .ok (.if_icmp .ge 56, 3) := by decide +kernel
theorem dX7_lots_82 : decode cX7_lots 82 = .ok (.iload 4, 2) := by decide +kernel
theorem dX7_lots_84 : decode cX7_lots 84 = .ok (.ldc_w 279, 3) := by decide +kernel
theorem dX7_lots_87 : decode cX7_lots 87 = .ok (.imul, 1) := by decide +kernel
theorem dX7_lots_88 : decode cX7_lots 88 = .ok (.ldc_w 280, 3) := by decide +kernel
theorem dX7_lots_91 : decode cX7_lots 91 = .ok (.iadd, 1) := by decide +kernel
theorem dX7_lots_92 : decode cX7_lots 92 = .ok (.istore 4, 2) := by decide +kernel
theorem dX7_lots_94 : decode cX7_lots 94 = .ok (.aload_n 0, 1) := by decide +kernel
theorem dX7_lots_95 : decode cX7_lots 95 = .ok (.getfield 26, 3) := by decide +kernel
theorem dX7_lots_98 : decode cX7_lots 98 = .ok (.iload 5, 2) := by decide +kernel
theorem dX7_lots_100 : decode cX7_lots 100 = .ok (.iload 4, 2) := by decide +kernel
theorem dX7_lots_102 : decode cX7_lots 102 = .ok (.ldc_w 281, 3) := by decide +kernel
theorem dX7_lots_105 : decode cX7_lots 105 = .ok (.iand, 1) := by decide +kernel
theorem dX7_lots_106 : decode cX7_lots 106 = .ok (.sipush 256, 3) := by decide +kernel
theorem dX7_lots_109 : decode cX7_lots 109 = .ok (.idiv, 1) := by decide +kernel
theorem dX7_lots_110 : decode cX7_lots 110 = .ok (.iconst 4, 1) := by decide +kernel
theorem dX7_lots_111 : decode cX7_lots 111 = .ok (.irem, 1) := by decide +kernel
theorem dX7_lots_112 : decode cX7_lots 112 = .ok (.invokevirtual 200, 3) := by decide +kernel
theorem dX7_lots_115 : decode cX7_lots 115 = .ok (.istore 8, 2) := by decide +kernel
theorem dX7_lots_117 : decode cX7_lots 117 = .ok (.iload 8, 2) := by decide +kernel
theorem dX7_lots_119 : decode cX7_lots 119 = .ok (.ifCond .lt 10, 3) := by decide +kernel
theorem dX7_lots_122 : decode cX7_lots 122 = .ok (.iload 8, 2) := by decide +kernel
theorem dX7_lots_124 : decode cX7_lots 124 = .ok (.istore 5, 2) := by decide +kernel
theorem dX7_lots_126 : decode cX7_lots 126 = .ok (.iinc 6 1, 3) := by decide +kernel
theorem dX7_lots_129 : decode cX7_lots 129 = .ok (.iinc 7 1, 3) := by decide +kernel
theorem dX7_lots_132 : decode cX7_lots 132 = .ok (.goto (-56), 3) := by decide +kernel
theorem dX7_lots_135 : decode cX7_lots 135 = .ok (.iload_n 3, 1) := by decide +kernel
theorem dX7_lots_136 : decode cX7_lots 136 = .ok (.ifCond .ne 8, 3) := by decide +kernel
theorem dX7_lots_139 : decode cX7_lots 139 = .ok (.iload 6, 2) := by decide +kernel
theorem dX7_lots_141 : decode cX7_lots 141 = .ok (.goto 8, 3) := by decide +kernel
theorem dX7_lots_144 : decode cX7_lots 144 = .ok (.iload 5, 2) := by decide +kernel
theorem dX7_lots_146 : decode cX7_lots 146 = .ok (.bipush 24, 2) := by decide +kernel
theorem dX7_lots_148 : decode cX7_lots 148 = .ok (.idiv, 1) := by decide +kernel
theorem dX7_lots_149 : decode cX7_lots 149 = .ok (.ireturn, 1) := by decide +kernel
theorem dX7_list_0 : decode cX7_list 0 = .ok (.iload_n 1, 1) := by decide +kernel
theorem dX7_list_1 : decode cX7_list 1 = .ok (.invokestatic 282, 3) := by decide +kernel
theorem dX7_list_4 : decode cX7_list 4 = .ok (.ifCond .ne 9, 3) := by decide +kernel
theorem dX7_list_7 : decode cX7_list 7 = .ok (.aload_n 0, 1) := by decide +kernel
theorem dX7_list_8 : decode cX7_list 8 = .ok (.iconst (-1), 1) := by decide +kernel
theorem dX7_list_9 : decode cX7_list 9 = .ok (.invokevirtual 75, 3) := by decide +kernel
theorem dX7_list_12 : decode cX7_list 12 = .ok (.ireturn, 1) := by decide +kernel
theorem dX7_list_13 : decode cX7_list 13 = .ok (.iload_n 2, 1) := by decide +kernel
theorem dX7_list_14 : decode cX7_list 14 = .ok (.bipush 40, 2) := by decide +kernel
theorem dX7_list_16 : decode cX7_list 16 = .ok (.if_icmp .le 10, 3) := by decide +kernel
theorem dX7_list_19 : decode cX7_list 19 = .ok (.aload_n 0, 1) := by decide +kernel
theorem dX7_list_20 : decode cX7_list 20 = .ok (.bipush (-6), 2) := by decide +kernel
theorem dX7_list_22 : decode cX7_list 22 = .ok (.invokevirtual 75, 3) := by decide +kernel
theorem dX7_list_25 : decode cX7_list 25 = .ok (.ireturn, 1) := by decide +kernel
theorem dX7_list_26 : decode cX7_list 26 = .ok (.iload_n 2, 1) := by decide +kernel
theorem dX7_list_27 : decode cX7_list 27 = .ok (.ifCond .ge 6, 3) := by decide +kernel
theorem dX7_list_30 : decode cX7_list 30 = .ok (.bipush (-14), 2) := by decide +kernel
theorem dX7_list_32 : decode cX7_list 32 = .ok (.ireturn, 1) := by decide +kernel
theorem dX7_list_33 : decode cX7_list 33 = .ok (.aload_n 0, 1) := by decide +kernel
theorem dX7_list_34 : decode cX7_list 34 = .ok (.getfield 60, 3) := by decide +kernel
theorem dX7_list_37 : decode cX7_list 37 = .ok (.iload_n 1, 1) := by decide +kernel
theorem dX7_list_38 : decode cX7_list 38 = .ok (.aaload, 1) := by decide +kernel
theorem dX7_list_39 : decode cX7_list 39 = .ok (.iload_n 2, 1) := by decide +kernel
theorem dX7_list_40 : decode cX7_list 40 = .ok (.invokevirtual 285, 3) := by decide +kernel
theorem dX7_list_43 : decode cX7_list 43 = .ok (.iconst 1, 1) := by decide +kernel
theorem dX7_list_44 : decode cX7_list 44 = .ok (.ireturn, 1) := by decide +kernel
theorem dX7_put_0 : decode cX7_put 0 = .ok (.iload_n 1, 1) := by decide +kernel
theorem dX7_put_1 : decode cX7_put 1 = .ok (.invokestatic 282, 3) := by decide +kernel
theorem dX7_put_4 : decode cX7_put 4 = .ok (.ifCond .ne 9, 3) := by decide +kernel
theorem dX7_put_7 : decode cX7_put 7 = .ok (.aload_n 0, 1) := by decide +kernel
theorem dX7_put_8 : decode cX7_put 8 = .ok (.iconst (-1), 1) := by decide +kernel
theorem dX7_put_9 : decode cX7_put 9 = .ok (.invokevirtual 75, 3) := by decide +kernel
theorem dX7_put_12 : decode cX7_put 12 = .ok (.ireturn, 1) := by decide +kernel
theorem dX7_put_13 : decode cX7_put 13 = .ok (.aload_n 0, 1) := by decide +kernel
theorem dX7_put_14 : decode cX7_put 14 = .ok (.getfield 60, 3) := by decide +kernel
theorem dX7_put_17 : decode cX7_put 17 = .ok (.iload_n 1, 1) := by decide +kernel
theorem dX7_put_18 : decode cX7_put 18 = .ok (.aaload, 1) := by decide +kernel
theorem dX7_put_19 : decode cX7_put 19 = .ok (.iload_n 2, 1) := by decide +kernel
theorem dX7_put_20 : decode cX7_put 20 = .ok (.invokevirtual 288, 3) := by decide +kernel
theorem dX7_put_23 : decode cX7_put 23 = .ok (.istore 4, 2) := by decide +kernel
theorem dX7_put_25 : decode cX7_put 25 = .ok (.iload 4, 2) := by decide +kernel
theorem dX7_put_27 : decode cX7_put 27 = .ok (.ifCond .ge 6, 3) := by decide +kernel
theorem dX7_put_30 : decode cX7_put 30 = .ok (.iload 4, 2) := by decide +kernel
theorem dX7_put_32 : decode cX7_put 32 = .ok (.ireturn, 1) := by decide +kernel
theorem dX7_put_33 : decode cX7_put 33 = .ok (.aload_n 0, 1) := by decide +kernel
theorem dX7_put_34 : decode cX7_put 34 = .ok (.getfield 60, 3) := by decide +kernel
theorem dX7_put_37 : decode cX7_put 37 = .ok (.iload_n 1, 1) := by decide +kernel
theorem dX7_put_38 : decode cX7_put 38 = .ok (.aaload, 1) := by decide +kernel
theorem dX7_put_39 : decode cX7_put 39 = .ok (.getfield 291, 3) := by decide +kernel
theorem dX7_put_42 : decode cX7_put 42 = .ok (.iload_n 2, 1) := by decide +kernel
theorem dX7_put_43 : decode cX7_put 43 = .ok (.iload_n 3, 1) := by decide +kernel
theorem dX7_put_44 : decode cX7_put 44 = .ok (.iastore, 1) := by decide +kernel
theorem dX7_put_45 : decode cX7_put 45 = .ok (.iconst 1, 1) := by decide +kernel
theorem dX7_put_46 : decode cX7_put 46 = .ok (.ireturn, 1) := by decide +kernel
theorem dX7_look_0 : decode cX7_look 0 = .ok (.iload_n 1, 1) := by decide +kernel
theorem dX7_look_1 : decode cX7_look 1 = .ok (.invokestatic 282, 3) := by decide +kernel
theorem dX7_look_4 : decode cX7_look 4 = .ok (.ifCond .ne 9, 3) := by decide +kernel
theorem dX7_look_7 : decode cX7_look 7 = .ok (.aload_n 0, 1) := by decide +kernel
theorem dX7_look_8 : decode cX7_look 8 = .ok (.iconst (-1), 1) := by decide +kernel
theorem dX7_look_9 : decode cX7_look 9 = .ok (.invokevirtual 256, 3) := by decide +kernel
theorem dX7_look_12 : decode cX7_look 12 = .ok (.lreturn, 1) := by decide +kernel
theorem dX7_look_13 : decode cX7_look 13 = .ok (.aload_n 0, 1) := by decide +kernel
theorem dX7_look_14 : decode cX7_look 14 = .ok (.getfield 60, 3) := by decide +kernel
theorem dX7_look_17 : decode cX7_look 17 = .ok (.iload_n 1, 1) := by decide +kernel
theorem dX7_look_18 : decode cX7_look 18 = .ok (.aaload, 1) := by decide +kernel
theorem dX7_look_19 : decode cX7_look 19 = .ok (.iload_n 2, 1) := by decide +kernel
theorem dX7_look_20 : decode cX7_look 20 = .ok (.invokevirtual 288, 3) := by decide +kernel
theorem dX7_look_23 : decode cX7_look 23 = .ok (.istore_n 3, 1) := by decide +kernel
theorem dX7_look_24 : decode cX7_look 24 = .ok (.iload_n 3, 1) := by decide +kernel
theorem dX7_look_25 : decode cX7_look 25 = .ok (.ifCond .ge 12, 3) := by decide +kernel
theorem dX7_look_28 : decode cX7_look 28 = .ok (.ldc2_w 294, 3) := by decide +kernel
theorem dX7_look_31 : decode cX7_look 31 = .ok (.iload_n 3, 1) := by decide +kernel
theorem dX7_look_32 : decode cX7_look 32 = .ok (.i2l, 1) := by decide +kernel
theorem dX7_look_33 : decode cX7_look 33 = .ok (.lsub, 1) := by decide +kernel
theorem dX7_look_34 : decode cX7_look 34 = .ok (.goto 15, 3) := by decide +kernel
theorem dX7_look_37 : decode cX7_look 37 = .ok (.aload_n 0, 1) := by decide +kernel
theorem dX7_look_38 : decode cX7_look 38 = .ok (.getfield 60, 3) := by decide +kernel
theorem dX7_look_41 : decode cX7_look 41 = .ok (.iload_n 1, 1) := by decide +kernel
theorem dX7_look_42 : decode cX7_look 42 = .ok (.aaload, 1) := by decide +kernel
theorem dX7_look_43 : decode cX7_look 43 = .ok (.getfield 291, 3) := by decide +kernel
theorem dX7_look_46 : decode cX7_look 46 = .ok (.iload_n 2, 1) := by decide +kernel
theorem dX7_look_47 : decode cX7_look 47 = .ok (.iaload, 1) := by decide +kernel
theorem dX7_look_48 : decode cX7_look 48 = .ok (.i2l, 1) := by decide +kernel
theorem dX7_look_49 : decode cX7_look 49 = .ok (.lreturn, 1) := by decide +kernel
theorem dX7_lays_0 : decode cX7_lays 0 = .ok (.iload_n 1, 1) := by decide +kernel
theorem dX7_lays_1 : decode cX7_lays 1 = .ok (.invokestatic 282, 3) := by decide +kernel
theorem dX7_lays_4 : decode cX7_lays 4 = .ok (.ifCond .ne 9, 3) := by decide +kernel
theorem dX7_lays_7 : decode cX7_lays 7 = .ok (.aload_n 0, 1) := by decide +kernel
theorem dX7_lays_8 : decode cX7_lays 8 = .ok (.iconst (-1), 1) := by decide +kernel
theorem dX7_lays_9 : decode cX7_lays 9 = .ok (.invokevirtual 75, 3) := by decide +kernel
theorem dX7_lays_12 : decode cX7_lays 12 = .ok (.ireturn, 1) := by decide +kernel
theorem dX7_lays_13 : decode cX7_lays 13 = .ok (.aload_n 0, 1) := by decide +kernel
theorem dX7_lays_14 : decode cX7_lays 14 = .ok (.getfield 60, 3) := by decide +kernel
theorem dX7_lays_17 : decode cX7_lays 17 = .ok (.iload_n 1, 1) := by decide +kernel
theorem dX7_lays_18 : decode cX7_lays 18 = .ok (.aaload, 1) := by decide +kernel
theorem dX7_lays_19 : decode cX7_lays 19 = .ok (.astore_n 3, 1) := by decide +kernel
theorem dX7_lays_20 : decode cX7_lays 20 = .ok (.iconst 0, 1) := by decide +kernel
theorem dX7_lays_21 : decode cX7_lays 21 = .ok (.istore 4, 2) := by decide +kernel
theorem dX7_lays_23 : decode cX7_lays 23 = .ok (.iload 4, 2) := by decide +kernel
theorem dX7_lays_25 : decode cX7_lays 25 = .ok (.aload_n 0, 1) := by decide +kernel
theorem dX7_lays_26 : decode cX7_lays 26 = .ok (.getfield 26, 3) := by decide +kernel
theorem dX7_lays_29 : decode cX7_lays 29 = .ok (.invokevirtual 105, 3) := by decide +kernel
theorem dX7_lays_32 : decode cX7_lays 32 = .ok (.if_icmp .ge 57, 3) := by decide +kernel
theorem dX7_lays_35 : decode cX7_lays 35 = .ok (.aload_n 3, 1) := by decide +kernel
theorem dX7_lays_36 : decode cX7_lays 36 = .ok (.iload_n 2, 1) := by decide +kernel
theorem dX7_lays_37 : decode cX7_lays 37 = .ok (.bipush 40, 2) := by decide +kernel
theorem dX7_lays_39 : decode cX7_lays 39 = .ok (.if_icmp .le 8, 3) := by decide +kernel
theorem dX7_lays_42 : decode cX7_lays 42 = .ok (.bipush 40, 2) := by decide +kernel
theorem dX7_lays_44 : decode cX7_lays 44 = .ok (.goto 7, 3) := by decide +kernel
theorem dX7_lays_47 : decode cX7_lays 47 = .ok (.iload_n 2, 1) := by decide +kernel
theorem dX7_lays_48 : decode cX7_lays 48 = .ok (.iload 4, 2) := by decide +kernel
theorem dX7_lays_50 : decode cX7_lays 50 = .ok (.iadd, 1) := by decide +kernel
theorem dX7_lays_51 : decode cX7_lays 51 = .ok (.invokevirtual 288, 3) := by decide +kernel
theorem dX7_lays_54 : decode cX7_lays 54 = .ok (.istore 5, 2) := by decide +kernel
theorem dX7_lays_56 : decode cX7_lays 56 = .ok (.iload 5, 2) := by decide +kernel
theorem dX7_lays_58 : decode cX7_lays 58 = .ok (.ifCond .ge 6, 3) := by decide +kernel
theorem dX7_lays_61 : decode cX7_lays 61 = .ok (.iload 5, 2) := by decide +kernel
theorem dX7_lays_63 : decode cX7_lays 63 = .ok (.ireturn, 1) := by decide +kernel
theorem dX7_lays_64 : decode cX7_lays 64 = .ok (.aload_n 3, 1) := by decide +kernel
theorem dX7_lays_65 : decode cX7_lays 65 = .ok (.getfield 291, 3) := by decide +kernel
theorem dX7_lays_68 : decode cX7_lays 68 = .ok (.iload_n 2, 1) := by decide +kernel
theorem dX7_lays_69 : decode cX7_lays 69 = .ok (.iload 4, 2) := by decide +kernel
theorem dX7_lays_71 : decode cX7_lays 71 = .ok (.iadd, 1) := by decide +kernel
theorem dX7_lays_72 : decode cX7_lays 72 = .ok (.aload_n 0, 1) := by decide +kernel
theorem dX7_lays_73 : decode cX7_lays 73 = .ok (.getfield 26, 3) := by decide +kernel
theorem dX7_lays_76 : decode cX7_lays 76 = .ok (.getfield 121, 3) := by decide +kernel
theorem dX7_lays_79 : decode cX7_lays 79 = .ok (.iload 4, 2) := by decide +kernel
theorem dX7_lays_81 : decode cX7_lays 81 = .ok (.iaload, 1) := by decide +kernel
theorem dX7_lays_82 : decode cX7_lays 82 = .ok (.iastore, 1) := by decide +kernel
theorem dX7_lays_83 : decode cX7_lays 83 = .ok (.iinc 4 1, 3) := by decide +kernel
theorem dX7_lays_86 : decode cX7_lays 86 = .ok (.goto (-63), 3) := by decide +kernel
theorem dX7_lays_89 : decode cX7_lays 89 = .ok (.aload_n 0, 1) := by decide +kernel
theorem dX7_lays_90 : decode cX7_lays 90 = .ok (.getfield 26, 3) := by decide +kernel
theorem dX7_lays_93 : decode cX7_lays 93 = .ok (.invokevirtual 105, 3) := by decide +kernel
theorem dX7_lays_96 : decode cX7_lays 96 = .ok (.ireturn, 1) := by decide +kernel
theorem dX7_tells_0 : decode cX7_tells 0 = .ok (.iload_n 1, 1) := by decide +kernel
theorem dX7_tells_1 : decode cX7_tells 1 = .ok (.invokestatic 282, 3) := by decide +kernel
theorem dX7_tells_4 : decode cX7_tells 4 = .ok (.ifCond .ne 9, 3) := by decide +kernel
theorem dX7_tells_7 : decode cX7_tells 7 = .ok (.aload_n 0, 1) := by decide +kernel
theorem dX7_tells_8 : decode cX7_tells 8 = .ok (.iconst (-1), 1) := by decide +kernel
theorem dX7_tells_9 : decode cX7_tells 9 = .ok (.invokevirtual 75, 3) := by decide +kernel
theorem dX7_tells_12 : decode cX7_tells 12 = .ok (.ireturn, 1) := by decide +kernel
theorem dX7_tells_13 : decode cX7_tells 13 = .ok (.aload_n 0, 1) := by decide +kernel
theorem dX7_tells_14 : decode cX7_tells 14 = .ok (.getfield 60, 3) := by decide +kernel
theorem dX7_tells_17 : decode cX7_tells 17 = .ok (.iload_n 1, 1) := by decide +kernel
theorem dX7_tells_18 : decode cX7_tells 18 = .ok (.aaload, 1) := by decide +kernel
theorem dX7_tells_19 : decode cX7_tells 19 = .ok (.astore_n 2, 1) := by decide +kernel
theorem dX7_tells_20 : decode cX7_tells 20 = .ok (.aload_n 2, 1) := by decide +kernel
theorem dX7_tells_21 : decode cX7_tells 21 = .ok (.invokevirtual 296, 3) := by decide +kernel
theorem dX7_tells_24 : decode cX7_tells 24 = .ok (.ifCond .eq 6, 3) := by decide +kernel
theorem dX7_tells_27 : decode cX7_tells 27 = .ok (.bipush (-11), 2) := by decide +kernel
theorem dX7_tells_29 : decode cX7_tells 29 = .ok (.ireturn, 1) := by decide +kernel
theorem dX7_tells_30 : decode cX7_tells 30 = .ok (.iconst 0, 1) := by decide +kernel
theorem dX7_tells_31 : decode cX7_tells 31 = .ok (.istore_n 3, 1) := by decide +kernel
theorem dX7_tells_32 : decode cX7_tells 32 = .ok (.iload_n 3, 1) := by decide +kernel
theorem dX7_tells_33 : decode cX7_tells 33 = .ok (.aload_n 2, 1) := by decide +kernel
theorem dX7_tells_34 : decode cX7_tells 34 = .ok (.getfield 299, 3) := by decide +kernel
theorem dX7_tells_37 : decode cX7_tells 37 = .ok (.if_icmp .ge 40, 3) := by decide +kernel
theorem dX7_tells_40 : decode cX7_tells 40 = .ok (.aload_n 0, 1) := by decide +kernel
theorem dX7_tells_41 : decode cX7_tells 41 = .ok (.getfield 26, 3) := by decide +kernel
theorem dX7_tells_44 : decode cX7_tells 44 = .ok (.iload_n 3, 1) := by decide +kernel
theorem dX7_tells_45 : decode cX7_tells 45 = .ok (.invokevirtual 108, 3) := by decide +kernel
theorem dX7_tells_48 : decode cX7_tells 48 = .ok (.ifCond .eq 21, 3) := by decide +kernel
theorem dX7_tells_51 : decode cX7_tells 51 = .ok (.aload_n 2, 1) := by decide +kernel
theorem dX7_tells_52 : decode cX7_tells 52 = .ok (.getfield 291, 3) := by decide +kernel
theorem dX7_tells_55 : decode cX7_tells 55 = .ok (.iload_n 3, 1) := by decide +kernel
theorem dX7_tells_56 : decode cX7_tells 56 = .ok (.iaload, 1) := by decide +kernel
theorem dX7_tells_57 : decode cX7_tells 57 = .ok (.aload_n 0, 1) := by decide +kernel
theorem dX7_tells_58 : decode cX7_tells 58 = .ok (.getfield 26, 3) := by decide +kernel
theorem dX7_tells_61 : decode cX7_tells 61 = .ok (.getfield 121, 3) := by decide +kernel
theorem dX7_tells_64 : decode cX7_tells 64 = .ok (.iload_n 3, 1) := by decide +kernel
theorem dX7_tells_65 : decode cX7_tells 65 = .ok (.iaload, 1) := by decide +kernel
theorem dX7_tells_66 : decode cX7_tells 66 = .ok (.if_icmp .eq 5, 3) := by decide +kernel
theorem dX7_tells_69 : decode cX7_tells 69 = .ok (.iload_n 3, 1) := by decide +kernel
theorem dX7_tells_70 : decode cX7_tells 70 = .ok (.ireturn, 1) := by decide +kernel
theorem dX7_tells_71 : decode cX7_tells 71 = .ok (.iinc 3 1, 3) := by decide +kernel
theorem dX7_tells_74 : decode cX7_tells 74 = .ok (.goto (-42), 3) := by decide +kernel
theorem dX7_tells_77 : decode cX7_tells 77 = .ok (.bipush (-9), 2) := by decide +kernel
theorem dX7_tells_79 : decode cX7_tells 79 = .ok (.ireturn, 1) := by decide +kernel
theorem dX7_rack_0 : decode cX7_rack 0 = .ok (.iload_n 1, 1) := by decide +kernel
theorem dX7_rack_1 : decode cX7_rack 1 = .ok (.invokestatic 300, 3) := by decide +kernel
theorem dX7_rack_4 : decode cX7_rack 4 = .ok (.ifCond .ne 9, 3) := by decide +kernel
theorem dX7_rack_7 : decode cX7_rack 7 = .ok (.aload_n 0, 1) := by decide +kernel
theorem dX7_rack_8 : decode cX7_rack 8 = .ok (.iconst (-1), 1) := by decide +kernel
theorem dX7_rack_9 : decode cX7_rack 9 = .ok (.invokevirtual 75, 3) := by decide +kernel
theorem dX7_rack_12 : decode cX7_rack 12 = .ok (.ireturn, 1) := by decide +kernel
theorem dX7_rack_13 : decode cX7_rack 13 = .ok (.iload_n 2, 1) := by decide +kernel
theorem dX7_rack_14 : decode cX7_rack 14 = .ok (.invokestatic 124, 3) := by decide +kernel
theorem dX7_rack_17 : decode cX7_rack 17 = .ok (.ifCond .ne 10, 3) := by decide +kernel
theorem dX7_rack_20 : decode cX7_rack 20 = .ok (.aload_n 0, 1) := by decide +kernel
theorem dX7_rack_21 : decode cX7_rack 21 = .ok (.bipush (-2), 2) := by decide +kernel
theorem dX7_rack_23 : decode cX7_rack 23 = .ok (.invokevirtual 75, 3) := by decide +kernel
theorem dX7_rack_26 : decode cX7_rack 26 = .ok (.ireturn, 1) := by decide +kernel
theorem dX7_rack_27 : decode cX7_rack 27 = .ok (.iload_n 3, 1) := by decide +kernel
theorem dX7_rack_28 : decode cX7_rack 28 = .ok (.bipush 9, 2) := by decide +kernel
theorem dX7_rack_30 : decode cX7_rack 30 = .ok (.if_icmp .le 10, 3) := by decide +kernel
theorem dX7_rack_33 : decode cX7_rack 33 = .ok (.aload_n 0, 1) := by decide +kernel
theorem dX7_rack_34 : decode cX7_rack 34 = .ok (.bipush (-6), 2) := by decide +kernel
theorem dX7_rack_36 : decode cX7_rack 36 = .ok (.invokevirtual 75, 3) := by decide +kernel
theorem dX7_rack_39 : decode cX7_rack 39 = .ok (.ireturn, 1) := by decide +kernel
theorem dX7_rack_40 : decode cX7_rack 40 = .ok (.iload_n 3, 1) := by decide +kernel
theorem dX7_rack_41 : decode cX7_rack 41 = .ok (.ifCond .ge 6, 3) := by decide +kernel
theorem dX7_rack_44 : decode cX7_rack 44 = .ok (.bipush (-14), 2) := by decide +kernel
theorem dX7_rack_46 : decode cX7_rack 46 = .ok (.ireturn, 1) := by decide +kernel
theorem dX7_rack_47 : decode cX7_rack 47 = .ok (.aload_n 0, 1) := by decide +kernel
theorem dX7_rack_48 : decode cX7_rack 48 = .ok (.getfield 67, 3) := by decide +kernel
theorem dX7_rack_51 : decode cX7_rack 51 = .ok (.iload_n 1, 1) := by decide +kernel
theorem dX7_rack_52 : decode cX7_rack 52 = .ok (.aaload, 1) := by decide +kernel
theorem dX7_rack_53 : decode cX7_rack 53 = .ok (.iload_n 2, 1) := by decide +kernel
theorem dX7_rack_54 : decode cX7_rack 54 = .ok (.iload_n 3, 1) := by decide +kernel
theorem dX7_rack_55 : decode cX7_rack 55 = .ok (.invokevirtual 303, 3) := by decide +kernel
theorem dX7_rack_58 : decode cX7_rack 58 = .ok (.iconst 1, 1) := by decide +kernel
theorem dX7_rack_59 : decode cX7_rack 59 = .ok (.ireturn, 1) := by decide +kernel
theorem dX7_racks_0 : decode cX7_racks 0 = .ok (.iload_n 1, 1) := by decide +kernel
theorem dX7_racks_1 : decode cX7_racks 1 = .ok (.invokestatic 300, 3) := by decide +kernel
theorem dX7_racks_4 : decode cX7_racks 4 = .ok (.ifCond .ne 9, 3) := by decide +kernel
theorem dX7_racks_7 : decode cX7_racks 7 = .ok (.aload_n 0, 1) := by decide +kernel
theorem dX7_racks_8 : decode cX7_racks 8 = .ok (.iconst (-1), 1) := by decide +kernel
theorem dX7_racks_9 : decode cX7_racks 9 = .ok (.invokevirtual 75, 3) := by decide +kernel
theorem dX7_racks_12 : decode cX7_racks 12 = .ok (.ireturn, 1) := by decide +kernel
theorem dX7_racks_13 : decode cX7_racks 13 = .ok (.iload_n 3, 1) := by decide +kernel
theorem dX7_racks_14 : decode cX7_racks 14 = .ok (.ifCond .lt 8, 3) := by decide +kernel
theorem dX7_racks_17 : decode cX7_racks 17 = .ok (.iload_n 3, 1) := by decide +kernel
theorem dX7_racks_18 : decode cX7_racks 18 = .ok (.iconst 1, 1) := by decide +kernel
theorem dX7_racks_19 : decode cX7_racks 19 = .ok (.if_icmp .le 10, 3) := by decide +kernel
theorem dX7_racks_22 : decode cX7_racks 22 = .ok (.aload_n 0, 1) := by decide +kernel
theorem dX7_racks_23 : decode cX7_racks 23 = .ok (.bipush (-2), 2) := by decide +kernel
theorem dX7_racks_25 : decode cX7_racks 25 = .ok (.invokevirtual 75, 3) := by decide +kernel
theorem dX7_racks_28 : decode cX7_racks 28 = .ok (.ireturn, 1) := by decide +kernel
theorem dX7_racks_29 : decode cX7_racks 29 = .ok (.iload_n 3, 1) := by decide +kernel
theorem dX7_racks_30 : decode cX7_racks 30 = .ok (.iconst 1, 1) := by decide +kernel
theorem dX7_racks_31 : decode cX7_racks 31 = .ok (.if_icmp .ne 20, 3) := by decide +kernel
theorem dX7_racks_34 : decode cX7_racks 34 = .ok (.aload_n 0, 1) := by decide +kernel
theorem dX7_racks_35 : decode cX7_racks 35 = .ok (.getfield 26, 3) := by decide +kernel
theorem dX7_racks_38 : decode cX7_racks 38 = .ok (.invokevirtual 154, 3) := by decide +kernel
theorem dX7_racks_41 : decode cX7_racks 41 = .ok (.ifCond .eq 10, 3) := by decide +kernel
theorem dX7_racks_44 : decode cX7_racks 44 = .ok (.aload_n 0, 1) := by decide +kernel
theorem dX7_racks_45 : decode cX7_racks 45 = .ok (.bipush (-3), 2) := by decide +kernel
theorem dX7_racks_47 : decode cX7_racks 47 = .ok (.invokevirtual 75, 3) := by decide +kernel
theorem dX7_racks_50 : decode cX7_racks 50 = .ok (.ireturn, 1) := by decide +kernel
theorem dX7_racks_51 : decode cX7_racks 51 = .ok (.aload_n 0, 1) := by decide +kernel
theorem dX7_racks_52 : decode cX7_racks 52 = .ok (.getfield 67, 3) := by decide +kernel
theorem dX7_racks_55 : decode cX7_racks 55 = .ok (.iload_n 1, 1) := by decide +kernel
theorem dX7_racks_56 : decode cX7_racks 56 = .ok (.aaload, 1) := by decide +kernel
theorem dX7_racks_57 : decode cX7_racks 57 = .ok (.astore 4, 2) := by decide +kernel
theorem dX7_racks_59 : decode cX7_racks 59 = .ok (.aload 4, 2) := by decide +kernel
theorem dX7_racks_61 : decode cX7_racks 61 = .ok (.iload_n 2, 1) := by decide +kernel
theorem dX7_racks_62 : decode cX7_racks 62 = .ok (.invokevirtual 305, 3) := by decide +kernel
theorem dX7_racks_65 : decode cX7_racks 65 = .ok (.istore 5, 2) := by decide +kernel
theorem dX7_racks_67 : decode cX7_racks 67 = .ok (.iload 5, 2) := by decide +kernel
theorem dX7_racks_69 : decode cX7_racks 69 = .ok (.ifCond .ge 6, 3) := by decide +kernel
theorem dX7_racks_72 : decode cX7_racks 72 = .ok (.iload 5, 2) := by decide +kernel
theorem dX7_racks_74 : decode cX7_racks 74 = .ok (.ireturn, 1) := by decide +kernel
theorem dX7_racks_75 : decode cX7_racks 75 = .ok (.iload_n 3, 1) := by decide +kernel
theorem dX7_racks_76 : decode cX7_racks 76 = .ok (.ifCond .ne 11, 3) := by decide +kernel
theorem dX7_racks_79 : decode cX7_racks 79 = .ok (.aload 4, 2) := by decide +kernel
theorem dX7_racks_81 : decode cX7_racks 81 = .ok (.iload_n 2, 1) := by decide +kernel
theorem dX7_racks_82 : decode cX7_racks 82 = .ok (.invokevirtual 306, 3) := by decide +kernel
theorem dX7_racks_85 : decode cX7_racks 85 = .ok (.iconst 1, 1) := by decide +kernel
theorem dX7_racks_86 : decode cX7_racks 86 = .ok (.ireturn, 1) := by decide +kernel
theorem dX7_racks_87 : decode cX7_racks 87 = .ok (.aload_n 0, 1) := by decide +kernel
theorem dX7_racks_88 : decode cX7_racks 88 = .ok (.getfield 26, 3) := by decide +kernel
theorem dX7_racks_91 : decode cX7_racks 91 = .ok (.getfield 163, 3) := by decide +kernel
theorem dX7_racks_94 : decode cX7_racks 94 = .ok (.aload 4, 2) := by decide +kernel
theorem dX7_racks_96 : decode cX7_racks 96 = .ok (.getfield 309, 3) := by decide +kernel
theorem dX7_racks_99 : decode cX7_racks 99 = .ok (.invokestatic 312, 3) := by decide +kernel
theorem dX7_racks_102 : decode cX7_racks 102 = .ok (.ifCond .ne 6, 3) := by decide +kernel
theorem dX7_racks_105 : decode cX7_racks 105 = .ok (.bipush (-16), 2) := by decide +kernel
theorem dX7_racks_107 : decode cX7_racks 107 = .ok (.ireturn, 1) := by decide +kernel
theorem dX7_racks_108 : decode cX7_racks 108 = .ok (.aload 4, 2) := by decide +kernel
theorem dX7_racks_110 : decode cX7_racks 110 = .ok (.iload_n 2, 1) := by decide +kernel
theorem dX7_racks_111 : decode cX7_racks 111 = .ok (.aload_n 0, 1) := by decide +kernel
theorem dX7_racks_112 : decode cX7_racks 112 = .ok (.getfield 26, 3) := by decide +kernel
theorem dX7_racks_115 : decode cX7_racks 115 = .ok (.getfield 163, 3) := by decide +kernel
theorem dX7_racks_118 : decode cX7_racks 118 = .ok (.aload_n 0, 1) := by decide +kernel
theorem dX7_racks_119 : decode cX7_racks 119 = .ok (.getfield 26, 3) := by decide +kernel
theorem dX7_racks_122 : decode cX7_racks 122 = .ok (.aload_n 0, 1) := by decide +kernel
theorem dX7_racks_123 : decode cX7_racks 123 = .ok (.getfield 26, 3) := by decide +kernel
theorem dX7_racks_126 : decode cX7_racks 126 = .ok (.getfield 169, 3) := by decide +kernel
theorem dX7_racks_129 : decode cX7_racks 129 = .ok (.invokevirtual 172, 3) := by decide +kernel
theorem dX7_racks_132 : decode cX7_racks 132 = .ok (.invokevirtual 315, 3) := by decide +kernel
theorem dX7_racks_135 : decode cX7_racks 135 = .ok (.iconst 1, 1) := by decide +kernel
theorem dX7_racks_136 : decode cX7_racks 136 = .ok (.ireturn, 1) := by decide +kernel
theorem dX7_racked_0 : decode cX7_racked 0 = .ok (.iload_n 1, 1) := by decide +kernel
theorem dX7_racked_1 : decode cX7_racked 1 = .ok (.invokestatic 300, 3) := by decide +kernel
theorem dX7_racked_4 : decode cX7_racked 4 = .ok (.ifCond .ne 9, 3) := by decide +kernel
theorem dX7_racked_7 : decode cX7_racked 7 = .ok (.aload_n 0, 1) := by decide +kernel
theorem dX7_racked_8 : decode cX7_racked 8 = .ok (.iconst (-1), 1) := by decide +kernel
theorem dX7_racked_9 : decode cX7_racked 9 = .ok (.invokevirtual 75, 3) := by decide +kernel
theorem dX7_racked_12 : decode cX7_racked 12 = .ok (.ireturn, 1) := by decide +kernel
theorem dX7_racked_13 : decode cX7_racked 13 = .ok (.iload_n 3, 1) := by decide +kernel
theorem dX7_racked_14 : decode cX7_racked 14 = .ok (.ifCond .lt 8, 3) := by decide +kernel
theorem dX7_racked_17 : decode cX7_racked 17 = .ok (.iload_n 3, 1) := by decide +kernel
theorem dX7_racked_18 : decode cX7_racked 18 = .ok (.iconst 1, 1) := by decide +kernel
theorem dX7_racked_19 : decode cX7_racked 19 = .ok (.if_icmp .le 10, 3) := by decide +kernel
theorem dX7_racked_22 : decode cX7_racked 22 = .ok (.aload_n 0, 1) := by decide +kernel
theorem dX7_racked_23 : decode cX7_racked 23 = .ok (.bipush (-2), 2) := by decide +kernel
theorem dX7_racked_25 : decode cX7_racked 25 = .ok (.invokevirtual 75, 3) := by decide +kernel
theorem dX7_racked_28 : decode cX7_racked 28 = .ok (.ireturn, 1) := by decide +kernel
theorem dX7_racked_29 : decode cX7_racked 29 = .ok (.aload_n 0, 1) := by decide +kernel
theorem dX7_racked_30 : decode cX7_racked 30 = .ok (.getfield 67, 3) := by decide +kernel
theorem dX7_racked_33 : decode cX7_racked 33 = .ok (.iload_n 1, 1) := by decide +kernel
theorem dX7_racked_34 : decode cX7_racked 34 = .ok (.aaload, 1) := by decide +kernel
theorem dX7_racked_35 : decode cX7_racked 35 = .ok (.astore 4, 2) := by decide +kernel
theorem dX7_racked_37 : decode cX7_racked 37 = .ok (.aload 4, 2) := by decide +kernel
theorem dX7_racked_39 : decode cX7_racked 39 = .ok (.iload_n 2, 1) := by decide +kernel
theorem dX7_racked_40 : decode cX7_racked 40 = .ok (.invokevirtual 305, 3) := by decide +kernel
theorem dX7_racked_43 : decode cX7_racked 43 = .ok (.istore 5, 2) := by decide +kernel
theorem dX7_racked_45 : decode cX7_racked 45 = .ok (.iload 5, 2) := by decide +kernel
theorem dX7_racked_47 : decode cX7_racked 47 = .ok (.ifCond .ge 6, 3) := by decide +kernel
theorem dX7_racked_50 : decode cX7_racked 50 = .ok (.iload 5, 2) := by decide +kernel
theorem dX7_racked_52 : decode cX7_racked 52 = .ok (.ireturn, 1) := by decide +kernel
theorem dX7_racked_53 : decode cX7_racked 53 = .ok (.aload 4, 2) := by decide +kernel
theorem dX7_racked_55 : decode cX7_racked 55 = .ok (.iload_n 2, 1) := by decide +kernel
theorem dX7_racked_56 : decode cX7_racked 56 = .ok (.invokevirtual 319, 3) := by decide +kernel
theorem dX7_racked_59 : decode cX7_racked 59 = .ok (.ifCond .eq 6, 3) := by decide +kernel
theorem dX7_racked_62 : decode cX7_racked 62 = .ok (.bipush (-9), 2) := by decide +kernel
theorem dX7_racked_64 : decode cX7_racked 64 = .ok (.ireturn, 1) := by decide +kernel
theorem dX7_racked_65 : decode cX7_racked 65 = .ok (.iload_n 3, 1) := by decide +kernel
theorem dX7_racked_66 : decode cX7_racked 66 = .ok (.ifCond .ne 13, 3) := by decide +kernel
theorem dX7_racked_69 : decode cX7_racked 69 = .ok (.aload 4, 2) := by decide +kernel
theorem dX7_racked_71 : decode cX7_racked 71 = .ok (.getfield 322, 3) := by decide +kernel
theorem dX7_racked_74 : decode cX7_racked 74 = .ok (.iload_n 2, 1) := by decide +kernel
theorem dX7_racked_75 : decode cX7_racked 75 = .ok (.iaload, 1) := by decide +kernel
theorem dX7_racked_76 : decode cX7_racked 76 = .ok (.goto 10, 3) := by decide +kernel
theorem dX7_racked_79 : decode cX7_racked 79 = .ok (.aload 4, 2) := by decide +kernel
theorem dX7_racked_81 : decode cX7_racked 81 = .ok (.getfield 325, 3) := by decide +kernel
theorem dX7_racked_84 : decode cX7_racked 84 = .ok (.iload_n 2, 1) := by decide +kernel
theorem dX7_racked_85 : decode cX7_racked 85 = .ok (.iaload, 1) := by decide +kernel
theorem dX7_racked_86 : decode cX7_racked 86 = .ok (.ireturn, 1) := by decide +kernel
theorem dX7_like_0 : decode cX7_like 0 = .ok (.iload_n 1, 1) := by decide +kernel
theorem dX7_like_1 : decode cX7_like 1 = .ok (.invokestatic 300, 3) := by decide +kernel
theorem dX7_like_4 : decode cX7_like 4 = .ok (.ifCond .eq 10, 3) := by decide +kernel
theorem dX7_like_7 : decode cX7_like 7 = .ok (.iload_n 2, 1) := by decide +kernel
theorem dX7_like_8 : decode cX7_like 8 = .ok (.invokestatic 300, 3) := by decide +kernel
theorem dX7_like_11 : decode cX7_like 11 = .ok (.ifCond .ne 9, 3) := by decide +kernel
theorem dX7_like_14 : decode cX7_like 14 = .ok (.aload_n 0, 1) := by decide +kernel
theorem dX7_like_15 : decode cX7_like 15 = .ok (.iconst (-1), 1) := by decide +kernel
theorem dX7_like_16 : decode cX7_like 16 = .ok (.invokevirtual 75, 3) := by decide +kernel
theorem dX7_like_19 : decode cX7_like 19 = .ok (.ireturn, 1) := by decide +kernel
theorem dX7_like_20 : decode cX7_like 20 = .ok (.aload_n 0, 1) := by decide +kernel
theorem dX7_like_21 : decode cX7_like 21 = .ok (.getfield 67, 3) := by decide +kernel
theorem dX7_like_24 : decode cX7_like 24 = .ok (.iload_n 2, 1) := by decide +kernel
theorem dX7_like_25 : decode cX7_like 25 = .ok (.aaload, 1) := by decide +kernel
theorem dX7_like_26 : decode cX7_like 26 = .ok (.invokevirtual 328, 3) := by decide +kernel
theorem dX7_like_29 : decode cX7_like 29 = .ok (.ifCond .eq 6, 3) := by decide +kernel
theorem dX7_like_32 : decode cX7_like 32 = .ok (.bipush (-11), 2) := by decide +kernel
theorem dX7_like_34 : decode cX7_like 34 = .ok (.ireturn, 1) := by decide +kernel
theorem dX7_like_35 : decode cX7_like 35 = .ok (.aload_n 0, 1) := by decide +kernel
theorem dX7_like_36 : decode cX7_like 36 = .ok (.getfield 67, 3) := by decide +kernel
theorem dX7_like_39 : decode cX7_like 39 = .ok (.iload_n 1, 1) := by decide +kernel
theorem dX7_like_40 : decode cX7_like 40 = .ok (.aaload, 1) := by decide +kernel
theorem dX7_like_41 : decode cX7_like 41 = .ok (.aload_n 0, 1) := by decide +kernel
theorem dX7_like_42 : decode cX7_like 42 = .ok (.getfield 67, 3) := by decide +kernel
theorem dX7_like_45 : decode cX7_like 45 = .ok (.iload_n 2, 1) := by decide +kernel
theorem dX7_like_46 : decode cX7_like 46 = .ok (.aaload, 1) := by decide +kernel
theorem dX7_like_47 : decode cX7_like 47 = .ok (.invokevirtual 329, 3) := by decide +kernel
theorem dX7_like_50 : decode cX7_like 50 = .ok (.aload_n 0, 1) := by decide +kernel
theorem dX7_like_51 : decode cX7_like 51 = .ok (.getfield 67, 3) := by decide +kernel
theorem dX7_like_54 : decode cX7_like 54 = .ok (.iload_n 1, 1) := by decide +kernel
theorem dX7_like_55 : decode cX7_like 55 = .ok (.aaload, 1) := by decide +kernel
theorem dX7_like_56 : decode cX7_like 56 = .ok (.getfield 333, 3) := by decide +kernel
theorem dX7_like_59 : decode cX7_like 59 = .ok (.ireturn, 1) := by decide +kernel
theorem dX7_image_0 : decode cX7_image 0 = .ok (.aload_n 0, 1) := by decide +kernel
theorem dX7_image_1 : decode cX7_image 1 = .ok (.getfield 30, 3) := by decide +kernel
theorem dX7_image_4 : decode cX7_image 4 = .ok (.aload_n 0, 1) := by decide +kernel
theorem dX7_image_5 : decode cX7_image 5 = .ok (.getfield 26, 3) := by decide +kernel
theorem dX7_image_8 : decode cX7_image 8 = .ok (.invokevirtual 334, 3) := by decide +kernel
theorem dX7_image_11 : decode cX7_image 11 = .ok (.aload_n 0, 1) := by decide +kernel
theorem dX7_image_12 : decode cX7_image 12 = .ok (.iconst 1, 1) := by decide +kernel
theorem dX7_image_13 : decode cX7_image 13 = .ok (.putfield 33, 3) := by decide +kernel
theorem dX7_image_16 : decode cX7_image 16 = .ok (.aload_n 0, 1) := by decide +kernel
theorem dX7_image_17 : decode cX7_image 17 = .ok (.invokevirtual 336, 3) := by decide +kernel
theorem dX7_image_20 : decode cX7_image 20 = .ok (.ireturn, 1) := by decide +kernel
theorem dX7_on_0 : decode cX7_on 0 = .ok (.aload_n 0, 1) := by decide +kernel
theorem dX7_on_1 : decode cX7_on 1 = .ok (.getfield 33, 3) := by decide +kernel
theorem dX7_on_4 : decode cX7_on 4 = .ok (.ifCond .ne 10, 3) := by decide +kernel
theorem dX7_on_7 : decode cX7_on 7 = .ok (.aload_n 0, 1) := by decide +kernel
theorem dX7_on_8 : decode cX7_on 8 = .ok (.bipush (-3), 2) := by decide +kernel
theorem dX7_on_10 : decode cX7_on 10 = .ok (.invokevirtual 75, 3) := by decide +kernel
theorem dX7_on_13 : decode cX7_on 13 = .ok (.ireturn, 1) := by decide +kernel
theorem dX7_on_14 : decode cX7_on 14 = .ok (.aload_n 0, 1) := by decide +kernel
theorem dX7_on_15 : decode cX7_on 15 = .ok (.getfield 26, 3) := by decide +kernel
theorem dX7_on_18 : decode cX7_on 18 = .ok (.aload_n 0, 1) := by decide +kernel
theorem dX7_on_19 : decode cX7_on 19 = .ok (.getfield 30, 3) := by decide +kernel
theorem dX7_on_22 : decode cX7_on 22 = .ok (.invokevirtual 334, 3) := by decide +kernel
theorem dX7_on_25 : decode cX7_on 25 = .ok (.aload_n 0, 1) := by decide +kernel
theorem dX7_on_26 : decode cX7_on 26 = .ok (.getfield 54, 3) := by decide +kernel
theorem dX7_on_29 : decode cX7_on 29 = .ok (.invokevirtual 99, 3) := by decide +kernel
theorem dX7_on_32 : decode cX7_on 32 = .ok (.aload_n 0, 1) := by decide +kernel
theorem dX7_on_33 : decode cX7_on 33 = .ok (.invokevirtual 336, 3) := by decide +kernel
theorem dX7_on_36 : decode cX7_on 36 = .ok (.ireturn, 1) := by decide +kernel
theorem dX7_placeOrNothing_0 : decode cX7_placeOrNothing 0 = .ok (.aload_n 0, 1) := by decide +kernel
theorem dX7_placeOrNothing_1 : decode cX7_placeOrNothing 1 = .ok (.getfield 26, 3) := by decide +kernel
theorem dX7_placeOrNothing_4 : decode cX7_placeOrNothing 4 = .ok (.invokevirtual 154, 3) := by decide +kernel
theorem dX7_placeOrNothing_7 : decode cX7_placeOrNothing 7 = .ok (.ifCond .eq 8, 3) := by decide +kernel
theorem dX7_placeOrNothing_10 : decode cX7_placeOrNothing 10 = .ok (.bipush (-9), 2) := by decide +kernel
theorem dX7_placeOrNothing_12 : decode cX7_placeOrNothing 12 = .ok (.goto 10, 3) := by decide +kernel
theorem dX7_placeOrNothing_15 : decode cX7_placeOrNothing 15 = .ok (.aload_n 0, 1) := by decide +kernel
theorem dX7_placeOrNothing_16 : decode cX7_placeOrNothing 16 = .ok (.getfield 26, 3) := by decide +kernel
theorem dX7_placeOrNothing_19 : decode cX7_placeOrNothing 19 = .ok (.invokevirtual 166, 3) := by decide +kernel
theorem dX7_placeOrNothing_22 : decode cX7_placeOrNothing 22 = .ok (.ireturn, 1) := by decide +kernel
theorem dX7_count_0 : decode cX7_count 0 = .ok (.iload_n 1, 1) := by decide +kernel
theorem dX7_count_1 : decode cX7_count 1 = .ok (.bipush 11, 2) := by decide +kernel
theorem dX7_count_3 : decode cX7_count 3 = .ok (.if_icmp .lt 19, 3) := by decide +kernel
theorem dX7_count_6 : decode cX7_count 6 = .ok (.iload_n 1, 1) := by decide +kernel
theorem dX7_count_7 : decode cX7_count 7 = .ok (.bipush 16, 2) := by decide +kernel
theorem dX7_count_9 : decode cX7_count 9 = .ok (.if_icmp .gt 13, 3) := by decide +kernel
theorem dX7_count_12 : decode cX7_count 12 = .ok (.aload_n 0, 1) := by decide +kernel
theorem dX7_count_13 : decode cX7_count 13 = .ok (.getfield 72, 3) := by decide +kernel
theorem dX7_count_16 : decode cX7_count 16 = .ok (.iload_n 1, 1) := by decide +kernel
theorem dX7_count_17 : decode cX7_count 17 = .ok (.bipush 10, 2) := by decide +kernel
theorem dX7_count_19 : decode cX7_count 19 = .ok (.isub, 1) := by decide +kernel
theorem dX7_count_20 : decode cX7_count 20 = .ok (.iaload, 1) := by decide +kernel
theorem dX7_count_21 : decode cX7_count 21 = .ok (.ireturn, 1) := by decide +kernel
theorem dX7_count_22 : decode cX7_count 22 = .ok (.iload_n 1, 1) := by decide +kernel
theorem dX7_count_23 : decode cX7_count 23 = .ok (.tableswitch 123 0 8 #[49, 57, 65, 74, 83, 91, 99, 107, 115], 49) := by decide +kernel
theorem dX7_count_72 : decode cX7_count 72 = .ok (.aload_n 0, 1) := by decide +kernel
theorem dX7_count_73 : decode cX7_count 73 = .ok (.getfield 26, 3) := by decide +kernel
theorem dX7_count_76 : decode cX7_count 76 = .ok (.getfield 339, 3) := by decide +kernel
theorem dX7_count_79 : decode cX7_count 79 = .ok (.ireturn, 1) := by decide +kernel
theorem dX7_count_80 : decode cX7_count 80 = .ok (.aload_n 0, 1) := by decide +kernel
theorem dX7_count_81 : decode cX7_count 81 = .ok (.getfield 26, 3) := by decide +kernel
theorem dX7_count_84 : decode cX7_count 84 = .ok (.getfield 342, 3) := by decide +kernel
theorem dX7_count_87 : decode cX7_count 87 = .ok (.ireturn, 1) := by decide +kernel
theorem dX7_count_88 : decode cX7_count 88 = .ok (.aload_n 0, 1) := by decide +kernel
theorem dX7_count_89 : decode cX7_count 89 = .ok (.getfield 26, 3) := by decide +kernel
theorem dX7_count_92 : decode cX7_count 92 = .ok (.iconst 1, 1) := by decide +kernel
theorem dX7_count_93 : decode cX7_count 93 = .ok (.invokevirtual 345, 3) := by decide +kernel
theorem dX7_count_96 : decode cX7_count 96 = .ok (.ireturn, 1) := by decide +kernel
theorem dX7_count_97 : decode cX7_count 97 = .ok (.aload_n 0, 1) := by decide +kernel
theorem dX7_count_98 : decode cX7_count 98 = .ok (.getfield 26, 3) := by decide +kernel
theorem dX7_count_101 : decode cX7_count 101 = .ok (.iconst 2, 1) := by decide +kernel
theorem dX7_count_102 : decode cX7_count 102 = .ok (.invokevirtual 345, 3) := by decide +kernel
theorem dX7_count_105 : decode cX7_count 105 = .ok (.ireturn, 1) := by decide +kernel
theorem dX7_count_106 : decode cX7_count 106 = .ok (.aload_n 0, 1) := by decide +kernel
theorem dX7_count_107 : decode cX7_count 107 = .ok (.getfield 26, 3) := by decide +kernel
theorem dX7_count_110 : decode cX7_count 110 = .ok (.invokevirtual 141, 3) := by decide +kernel
theorem dX7_count_113 : decode cX7_count 113 = .ok (.ireturn, 1) := by decide +kernel
theorem dX7_count_114 : decode cX7_count 114 = .ok (.aload_n 0, 1) := by decide +kernel
theorem dX7_count_115 : decode cX7_count 115 = .ok (.getfield 26, 3) := by decide +kernel
theorem dX7_count_118 : decode cX7_count 118 = .ok (.getfield 138, 3) := by decide +kernel
theorem dX7_count_121 : decode cX7_count 121 = .ok (.ireturn, 1) := by decide +kernel
theorem dX7_count_122 : decode cX7_count 122 = .ok (.aload_n 0, 1) := by decide +kernel
theorem dX7_count_123 : decode cX7_count 123 = .ok (.getfield 40, 3) := by decide +kernel
theorem dX7_count_126 : decode cX7_count 126 = .ok (.getfield 87, 3) := by decide +kernel
theorem dX7_count_129 : decode cX7_count 129 = .ok (.ireturn, 1) := by decide +kernel
theorem dX7_count_130 : decode cX7_count 130 = .ok (.aload_n 0, 1) := by decide +kernel
theorem dX7_count_131 : decode cX7_count 131 = .ok (.getfield 54, 3) := by decide +kernel
theorem dX7_count_134 : decode cX7_count 134 = .ok (.getfield 214, 3) := by decide +kernel
theorem dX7_count_137 : decode cX7_count 137 = .ok (.ireturn, 1) := by decide +kernel
theorem dX7_count_138 : decode cX7_count 138 = .ok (.aload_n 0, 1) := by decide +kernel
theorem dX7_count_139 : decode cX7_count 139 = .ok (.getfield 26, 3) := by decide +kernel
theorem dX7_count_142 : decode cX7_count 142 = .ok (.getfield 163, 3) := by decide +kernel
theorem dX7_count_145 : decode cX7_count 145 = .ok (.ireturn, 1) := by decide +kernel
theorem dX7_count_146 : decode cX7_count 146 = .ok (.bipush (-9), 2) := by decide +kernel
theorem dX7_count_148 : decode cX7_count 148 = .ok (.ireturn, 1) := by decide +kernel
theorem dX7_refuse_0 : decode cX7_refuse 0 = .ok (.iload_n 1, 1) := by decide +kernel
theorem dX7_refuse_1 : decode cX7_refuse 1 = .ok (.ineg, 1) := by decide +kernel
theorem dX7_refuse_2 : decode cX7_refuse 2 = .ok (.istore_n 2, 1) := by decide +kernel
theorem dX7_refuse_3 : decode cX7_refuse 3 = .ok (.iload_n 2, 1) := by decide +kernel
theorem dX7_refuse_4 : decode cX7_refuse 4 = .ok (.ifCond .lt 22, 3) := by decide +kernel
theorem dX7_refuse_7 : decode cX7_refuse 7 = .ok (.iload_n 2, 1) := by decide +kernel
theorem dX7_refuse_8 : decode cX7_refuse 8 = .ok (.aload_n 0, 1) := by decide +kernel
theorem dX7_refuse_9 : decode cX7_refuse 9 = .ok (.getfield 72, 3) := by decide +kernel
theorem dX7_refuse_12 : decode cX7_refuse 12 = .ok (.arraylength, 1) := by decide +kernel
theorem dX7_refuse_13 : decode cX7_refuse 13 = .ok (.if_icmp .ge 13, 3) := by decide +kernel
theorem dX7_refuse_16 : decode cX7_refuse 16 = .ok (.aload_n 0, 1) := by decide +kernel
theorem dX7_refuse_17 : decode cX7_refuse 17 = .ok (.getfield 72, 3) := by decide +kernel
theorem dX7_refuse_20 : decode cX7_refuse 20 = .ok (.iload_n 2, 1) := by decide +kernel
theorem dX7_refuse_21 : decode cX7_refuse 21 = .ok (.dup2, 1) := by decide +kernel
theorem dX7_refuse_22 : decode cX7_refuse 22 = .ok (.iaload, 1) := by decide +kernel
theorem dX7_refuse_23 : decode cX7_refuse 23 = .ok (.iconst 1, 1) := by decide +kernel
theorem dX7_refuse_24 : decode cX7_refuse 24 = .ok (.iadd, 1) := by decide +kernel
theorem dX7_refuse_25 : decode cX7_refuse 25 = .ok (.iastore, 1) := by decide +kernel
theorem dX7_refuse_26 : decode cX7_refuse 26 = .ok (.iload_n 1, 1) := by decide +kernel
theorem dX7_refuse_27 : decode cX7_refuse 27 = .ok (.ireturn, 1) := by decide +kernel
theorem dX7_refuseLong_0 : decode cX7_refuseLong 0 = .ok (.ldc2_w 294, 3) := by decide +kernel
theorem dX7_refuseLong_3 : decode cX7_refuseLong 3 = .ok (.aload_n 0, 1) := by decide +kernel
theorem dX7_refuseLong_4 : decode cX7_refuseLong 4 = .ok (.iload_n 1, 1) := by decide +kernel
theorem dX7_refuseLong_5 : decode cX7_refuseLong 5 = .ok (.invokevirtual 75, 3) := by decide +kernel
theorem dX7_refuseLong_8 : decode cX7_refuseLong 8 = .ok (.i2l, 1) := by decide +kernel
theorem dX7_refuseLong_9 : decode cX7_refuseLong 9 = .ok (.lsub, 1) := by decide +kernel
theorem dX7_refuseLong_10 : decode cX7_refuseLong 10 = .ok (.lreturn, 1) := by decide +kernel
theorem dX7_isGoal_0 : decode cX7_isGoal 0 = .ok (.aload_n 0, 1) := by decide +kernel
theorem dX7_isGoal_1 : decode cX7_isGoal 1 = .ok (.getfield 26, 3) := by decide +kernel
theorem dX7_isGoal_4 : decode cX7_isGoal 4 = .ok (.aload_n 0, 1) := by decide +kernel
theorem dX7_isGoal_5 : decode cX7_isGoal 5 = .ok (.getfield 26, 3) := by decide +kernel
theorem dX7_isGoal_8 : decode cX7_isGoal 8 = .ok (.getfield 163, 3) := by decide +kernel
theorem dX7_isGoal_11 : decode cX7_isGoal 11 = .ok (.iload_n 1, 1) := by decide +kernel
theorem dX7_isGoal_12 : decode cX7_isGoal 12 = .ok (.invokevirtual 127, 3) := by decide +kernel
theorem dX7_isGoal_15 : decode cX7_isGoal 15 = .ok (.ifCond .eq 20, 3) := by decide +kernel
theorem dX7_isGoal_18 : decode cX7_isGoal 18 = .ok (.iload_n 2, 1) := by decide +kernel
theorem dX7_isGoal_19 : decode cX7_isGoal 19 = .ok (.iconst (-1), 1) := by decide +kernel
theorem dX7_isGoal_20 : decode cX7_isGoal 20 = .ok (.if_icmp .eq 11, 3) := by decide +kernel
theorem dX7_isGoal_23 : decode cX7_isGoal 23 = .ok (.aload_n 0, 1) := by decide +kernel
theorem dX7_isGoal_24 : decode cX7_isGoal 24 = .ok (.iload_n 2, 1) := by decide +kernel
theorem dX7_isGoal_25 : decode cX7_isGoal 25 = .ok (.invokevirtual 263, 3) := by decide +kernel
theorem dX7_isGoal_28 : decode cX7_isGoal 28 = .ok (.ifCond .eq 7, 3) := by decide +kernel
theorem dX7_isGoal_31 : decode cX7_isGoal 31 = .ok (.iconst 1, 1) := by decide +kernel
theorem dX7_isGoal_32 : decode cX7_isGoal 32 = .ok (.goto 4, 3) := by decide +kernel
theorem dX7_isGoal_35 : decode cX7_isGoal 35 = .ok (.iconst 0, 1) := by decide +kernel
theorem dX7_isGoal_36 : decode cX7_isGoal 36 = .ok (.ireturn, 1) := by decide +kernel
theorem dX7_isFace_0 : decode cX7_isFace 0 = .ok (.iload_n 1, 1) := by decide +kernel
theorem dX7_isFace_1 : decode cX7_isFace 1 = .ok (.ifCond .lt 21, 3) := by decide +kernel
theorem dX7_isFace_4 : decode cX7_isFace 4 = .ok (.iload_n 1, 1) := by decide +kernel
theorem dX7_isFace_5 : decode cX7_isFace 5 = .ok (.aload_n 0, 1) := by decide +kernel
theorem dX7_isFace_6 : decode cX7_isFace 6 = .ok (.getfield 26, 3) := by decide +kernel
theorem dX7_isFace_9 : decode cX7_isFace 9 = .ok (.invokevirtual 147, 3) := by decide +kernel
theorem dX7_isFace_12 : decode cX7_isFace 12 = .ok (.getfield 151, 3) := by decide +kernel
theorem dX7_isFace_15 : decode cX7_isFace 15 = .ok (.if_icmp .ge 7, 3) := by decide +kernel
theorem dX7_isFace_18 : decode cX7_isFace 18 = .ok (.iconst 1, 1) := by decide +kernel
theorem dX7_isFace_19 : decode cX7_isFace 19 = .ok (.goto 4, 3) := by decide +kernel
theorem dX7_isFace_22 : decode cX7_isFace 22 = .ok (.iconst 0, 1) := by decide +kernel
theorem dX7_isFace_23 : decode cX7_isFace 23 = .ok (.ireturn, 1) := by decide +kernel
theorem dX7_isList_0 : decode cX7_isList 0 = .ok (.iload_n 0, 1) := by decide +kernel
theorem dX7_isList_1 : decode cX7_isList 1 = .ok (.ifCond .lt 12, 3) := by decide +kernel
theorem dX7_isList_4 : decode cX7_isList 4 = .ok (.iload_n 0, 1) := by decide +kernel
theorem dX7_isList_5 : decode cX7_isList 5 = .ok (.iconst 3, 1) := by decide +kernel
theorem dX7_isList_6 : decode cX7_isList 6 = .ok (.if_icmp .ge 7, 3) := by decide +kernel
theorem dX7_isList_9 : decode cX7_isList 9 = .ok (.iconst 1, 1) := by decide +kernel
theorem dX7_isList_10 : decode cX7_isList 10 = .ok (.goto 4, 3) := by decide +kernel
theorem dX7_isList_13 : decode cX7_isList 13 = .ok (.iconst 0, 1) := by decide +kernel
theorem dX7_isList_14 : decode cX7_isList 14 = .ok (.ireturn, 1) := by decide +kernel
theorem dX7_isRack_0 : decode cX7_isRack 0 = .ok (.iload_n 0, 1) := by decide +kernel
theorem dX7_isRack_1 : decode cX7_isRack 1 = .ok (.ifCond .lt 12, 3) := by decide +kernel
theorem dX7_isRack_4 : decode cX7_isRack 4 = .ok (.iload_n 0, 1) := by decide +kernel
theorem dX7_isRack_5 : decode cX7_isRack 5 = .ok (.iconst 3, 1) := by decide +kernel
theorem dX7_isRack_6 : decode cX7_isRack 6 = .ok (.if_icmp .ge 7, 3) := by decide +kernel
theorem dX7_isRack_9 : decode cX7_isRack 9 = .ok (.iconst 1, 1) := by decide +kernel
theorem dX7_isRack_10 : decode cX7_isRack 10 = .ok (.goto 4, 3) := by decide +kernel
theorem dX7_isRack_13 : decode cX7_isRack 13 = .ok (.iconst 0, 1) := by decide +kernel
theorem dX7_isRack_14 : decode cX7_isRack 14 = .ok (.ireturn, 1) := by decide +kernel
theorem dX7_lackOf_0 : decode cX7_lackOf 0 = .ok (.iload_n 0, 1) := by decide +kernel
theorem dX7_lackOf_1 : decode cX7_lackOf 1 = .ok (.ifCond .ge 6, 3) := by decide +kernel
theorem dX7_lackOf_4 : decode cX7_lackOf 4 = .ok (.bipush (-11), 2) := by decide +kernel
theorem dX7_lackOf_6 : decode cX7_lackOf 6 = .ok (.ireturn, 1) := by decide +kernel
theorem dX7_lackOf_7 : decode cX7_lackOf 7 = .ok (.iload_n 1, 1) := by decide +kernel
theorem dX7_lackOf_8 : decode cX7_lackOf 8 = .ok (.ifCond .lt 8, 3) := by decide +kernel
theorem dX7_lackOf_11 : decode cX7_lackOf 11 = .ok (.iload_n 1, 1) := by decide +kernel
theorem dX7_lackOf_12 : decode cX7_lackOf 12 = .ok (.iload_n 0, 1) := by decide +kernel
theorem dX7_lackOf_13 : decode cX7_lackOf 13 = .ok (.if_icmp .lt 8, 3) := by decide +kernel
theorem dX7_lackOf_16 : decode cX7_lackOf 16 = .ok (.bipush (-13), 2) := by decide +kernel
theorem dX7_lackOf_18 : decode cX7_lackOf 18 = .ok (.goto 4, 3) := by decide +kernel
theorem dX7_lackOf_21 : decode cX7_lackOf 21 = .ok (.iconst 0, 1) := by decide +kernel
theorem dX7_lackOf_22 : decode cX7_lackOf 22 = .ok (.ireturn, 1) := by decide +kernel
theorem dX7_isKind_0 : decode cX7_isKind 0 = .ok (.iload_n 0, 1) := by decide +kernel
theorem dX7_isKind_1 : decode cX7_isKind 1 = .ok (.ifCond .lt 13, 3) := by decide +kernel
theorem dX7_isKind_4 : decode cX7_isKind 4 = .ok (.iload_n 0, 1) := by decide +kernel
theorem dX7_isKind_5 : decode cX7_isKind 5 = .ok (.bipush 6, 2) := by decide +kernel
theorem dX7_isKind_7 : decode cX7_isKind 7 = .ok (.if_icmp .ge 7, 3) := by decide +kernel
theorem dX7_isKind_10 : decode cX7_isKind 10 = .ok (.iconst 1, 1) := by decide +kernel
theorem dX7_isKind_11 : decode cX7_isKind 11 = .ok (.goto 4, 3) := by decide +kernel
theorem dX7_isKind_14 : decode cX7_isKind 14 = .ok (.iconst 0, 1) := by decide +kernel
theorem dX7_isKind_15 : decode cX7_isKind 15 = .ok (.ireturn, 1) := by decide +kernel
theorem dX7_isBlock_0 : decode cX7_isBlock 0 = .ok (.iload_n 0, 1) := by decide +kernel
theorem dX7_isBlock_1 : decode cX7_isBlock 1 = .ok (.iconst 2, 1) := by decide +kernel
theorem dX7_isBlock_2 : decode cX7_isBlock 2 = .ok (.if_icmp .eq 8, 3) := by decide +kernel
theorem dX7_isBlock_5 : decode cX7_isBlock 5 = .ok (.iload_n 0, 1) := by decide +kernel
theorem dX7_isBlock_6 : decode cX7_isBlock 6 = .ok (.iconst 3, 1) := by decide +kernel
theorem dX7_isBlock_7 : decode cX7_isBlock 7 = .ok (.if_icmp .ne 7, 3) := by decide +kernel
theorem dX7_isBlock_10 : decode cX7_isBlock 10 = .ok (.iconst 1, 1) := by decide +kernel
theorem dX7_isBlock_11 : decode cX7_isBlock 11 = .ok (.goto 4, 3) := by decide +kernel
theorem dX7_isBlock_14 : decode cX7_isBlock 14 = .ok (.iconst 0, 1) := by decide +kernel
theorem dX7_isBlock_15 : decode cX7_isBlock 15 = .ok (.ireturn, 1) := by decide +kernel
theorem dX7_isTetra_0 : decode cX7_isTetra 0 = .ok (.iload_n 0, 1) := by decide +kernel
theorem dX7_isTetra_1 : decode cX7_isTetra 1 = .ok (.iconst 4, 1) := by decide +kernel
theorem dX7_isTetra_2 : decode cX7_isTetra 2 = .ok (.if_icmp .eq 8, 3) := by decide +kernel
theorem dX7_isTetra_5 : decode cX7_isTetra 5 = .ok (.iload_n 0, 1) := by decide +kernel
theorem dX7_isTetra_6 : decode cX7_isTetra 6 = .ok (.iconst 5, 1) := by decide +kernel
theorem dX7_isTetra_7 : decode cX7_isTetra 7 = .ok (.if_icmp .ne 7, 3) := by decide +kernel
theorem dX7_isTetra_10 : decode cX7_isTetra 10 = .ok (.iconst 1, 1) := by decide +kernel
theorem dX7_isTetra_11 : decode cX7_isTetra 11 = .ok (.goto 4, 3) := by decide +kernel
theorem dX7_isTetra_14 : decode cX7_isTetra 14 = .ok (.iconst 0, 1) := by decide +kernel
theorem dX7_isTetra_15 : decode cX7_isTetra 15 = .ok (.ireturn, 1) := by decide +kernel
theorem dX7_isUnder_0 : decode cX7_isUnder 0 = .ok (.iload_n 0, 1) := by decide +kernel
theorem dX7_isUnder_1 : decode cX7_isUnder 1 = .ok (.iload_n 1, 1) := by decide +kernel
theorem dX7_isUnder_2 : decode cX7_isUnder 2 = .ok (.if_icmp .eq 32, 3) := by decide +kernel
theorem dX7_isUnder_5 : decode cX7_isUnder 5 = .ok (.iload_n 0, 1) := by decide +kernel
theorem dX7_isUnder_6 : decode cX7_isUnder 6 = .ok (.iconst 1, 1) := by decide +kernel
theorem dX7_isUnder_7 : decode cX7_isUnder 7 = .ok (.if_icmp .ne 7, 3) := by decide +kernel
theorem dX7_isUnder_10 : decode cX7_isUnder 10 = .ok (.iload_n 1, 1) := by decide +kernel
theorem dX7_isUnder_11 : decode cX7_isUnder 11 = .ok (.ifCond .eq 23, 3) := by decide +kernel
theorem dX7_isUnder_14 : decode cX7_isUnder 14 = .ok (.iload_n 0, 1) := by decide +kernel
theorem dX7_isUnder_15 : decode cX7_isUnder 15 = .ok (.iconst 3, 1) := by decide +kernel
theorem dX7_isUnder_16 : decode cX7_isUnder 16 = .ok (.if_icmp .ne 8, 3) := by decide +kernel
theorem dX7_isUnder_19 : decode cX7_isUnder 19 = .ok (.iload_n 1, 1) := by decide +kernel
theorem dX7_isUnder_20 : decode cX7_isUnder 20 = .ok (.iconst 2, 1) := by decide +kernel
theorem dX7_isUnder_21 : decode cX7_isUnder 21 = .ok (.if_icmp .eq 13, 3) := by decide +kernel
theorem dX7_isUnder_24 : decode cX7_isUnder 24 = .ok (.iload_n 0, 1) := by decide +kernel
theorem dX7_isUnder_25 : decode cX7_isUnder 25 = .ok (.iconst 5, 1) := by decide +kernel
theorem dX7_isUnder_26 : decode cX7_isUnder 26 = .ok (.if_icmp .ne 12, 3) := by decide +kernel
theorem dX7_isUnder_29 : decode cX7_isUnder 29 = .ok (.iload_n 1, 1) := by decide +kernel
theorem dX7_isUnder_30 : decode cX7_isUnder 30 = .ok (.iconst 4, 1) := by decide +kernel
theorem dX7_isUnder_31 : decode cX7_isUnder 31 = .ok (.if_icmp .ne 7, 3) := by decide +kernel
theorem dX7_isUnder_34 : decode cX7_isUnder 34 = .ok (.iconst 1, 1) := by decide +kernel
theorem dX7_isUnder_35 : decode cX7_isUnder 35 = .ok (.goto 4, 3) := by decide +kernel
theorem dX7_isUnder_38 : decode cX7_isUnder 38 = .ok (.iconst 0, 1) := by decide +kernel
theorem dX7_isUnder_39 : decode cX7_isUnder 39 = .ok (.ireturn, 1) := by decide +kernel
theorem dJ13_bitCount_95d88_0 : decode cJ13_bitCount_95d88 0 = .ok (.lload_n 0, 1) := by decide +kernel
theorem dJ13_bitCount_95d88_1 : decode cJ13_bitCount_95d88 1 = .ok (.lload_n 0, 1) := by decide +kernel
theorem dJ13_bitCount_95d88_2 : decode cJ13_bitCount_95d88 2 = .ok (.iconst 1, 1) := by decide +kernel
theorem dJ13_bitCount_95d88_3 : decode cJ13_bitCount_95d88 3 = .ok (.lushr, 1) := by decide +kernel
theorem dJ13_bitCount_95d88_4 : decode cJ13_bitCount_95d88 4 = .ok (.ldc2_w 314, 3) := by decide +kernel
theorem dJ13_bitCount_95d88_7 : decode cJ13_bitCount_95d88 7 = .ok (.land, 1) := by decide +kernel
theorem dJ13_bitCount_95d88_8 : decode cJ13_bitCount_95d88 8 = .ok (.lsub, 1) := by decide +kernel
theorem dJ13_bitCount_95d88_9 : decode cJ13_bitCount_95d88 9 = .ok (.lstore_n 0, 1) := by decide +kernel
theorem dJ13_bitCount_95d88_10 : decode cJ13_bitCount_95d88 10 = .ok (.lload_n 0, 1) := by decide +kernel
theorem dJ13_bitCount_95d88_11 : decode cJ13_bitCount_95d88 11 = .ok (.ldc2_w 316, 3) := by decide +kernel
theorem dJ13_bitCount_95d88_14 : decode cJ13_bitCount_95d88 14 = .ok (.land, 1) := by decide +kernel
theorem dJ13_bitCount_95d88_15 : decode cJ13_bitCount_95d88 15 = .ok (.lload_n 0, 1) := by decide +kernel
theorem dJ13_bitCount_95d88_16 : decode cJ13_bitCount_95d88 16 = .ok (.iconst 2, 1) := by decide +kernel
theorem dJ13_bitCount_95d88_17 : decode cJ13_bitCount_95d88 17 = .ok (.lushr, 1) := by decide +kernel
theorem dJ13_bitCount_95d88_18 : decode cJ13_bitCount_95d88 18 = .ok (.ldc2_w 316, 3) := by decide +kernel
theorem dJ13_bitCount_95d88_21 : decode cJ13_bitCount_95d88 21 = .ok (.land, 1) := by decide +kernel
theorem dJ13_bitCount_95d88_22 : decode cJ13_bitCount_95d88 22 = .ok (.ladd, 1) := by decide +kernel
theorem dJ13_bitCount_95d88_23 : decode cJ13_bitCount_95d88 23 = .ok (.lstore_n 0, 1) := by decide +kernel
theorem dJ13_bitCount_95d88_24 : decode cJ13_bitCount_95d88 24 = .ok (.lload_n 0, 1) := by decide +kernel
theorem dJ13_bitCount_95d88_25 : decode cJ13_bitCount_95d88 25 = .ok (.lload_n 0, 1) := by decide +kernel
theorem dJ13_bitCount_95d88_26 : decode cJ13_bitCount_95d88 26 = .ok (.iconst 4, 1) := by decide +kernel
theorem dJ13_bitCount_95d88_27 : decode cJ13_bitCount_95d88 27 = .ok (.lushr, 1) := by decide +kernel
theorem dJ13_bitCount_95d88_28 : decode cJ13_bitCount_95d88 28 = .ok (.ladd, 1) := by decide +kernel
theorem dJ13_bitCount_95d88_29 : decode cJ13_bitCount_95d88 29 = .ok (.ldc2_w 318, 3) := by decide +kernel
theorem dJ13_bitCount_95d88_32 : decode cJ13_bitCount_95d88 32 = .ok (.land, 1) := by decide +kernel
theorem dJ13_bitCount_95d88_33 : decode cJ13_bitCount_95d88 33 = .ok (.lstore_n 0, 1) := by decide +kernel
theorem dJ13_bitCount_95d88_34 : decode cJ13_bitCount_95d88 34 = .ok (.lload_n 0, 1) := by decide +kernel
theorem dJ13_bitCount_95d88_35 : decode cJ13_bitCount_95d88 35 = .ok (.lload_n 0, 1) := by decide +kernel
theorem dJ13_bitCount_95d88_36 : decode cJ13_bitCount_95d88 36 = .ok (.bipush 8, 2) := by decide +kernel
theorem dJ13_bitCount_95d88_38 : decode cJ13_bitCount_95d88 38 = .ok (.lushr, 1) := by decide +kernel
theorem dJ13_bitCount_95d88_39 : decode cJ13_bitCount_95d88 39 = .ok (.ladd, 1) := by decide +kernel
theorem dJ13_bitCount_95d88_40 : decode cJ13_bitCount_95d88 40 = .ok (.lstore_n 0, 1) := by decide +kernel
theorem dJ13_bitCount_95d88_41 : decode cJ13_bitCount_95d88 41 = .ok (.lload_n 0, 1) := by decide +kernel
theorem dJ13_bitCount_95d88_42 : decode cJ13_bitCount_95d88 42 = .ok (.lload_n 0, 1) := by decide +kernel
theorem dJ13_bitCount_95d88_43 : decode cJ13_bitCount_95d88 43 = .ok (.bipush 16, 2) := by decide +kernel
theorem dJ13_bitCount_95d88_45 : decode cJ13_bitCount_95d88 45 = .ok (.lushr, 1) := by decide +kernel
theorem dJ13_bitCount_95d88_46 : decode cJ13_bitCount_95d88 46 = .ok (.ladd, 1) := by decide +kernel
theorem dJ13_bitCount_95d88_47 : decode cJ13_bitCount_95d88 47 = .ok (.lstore_n 0, 1) := by decide +kernel
theorem dJ13_bitCount_95d88_48 : decode cJ13_bitCount_95d88 48 = .ok (.lload_n 0, 1) := by decide +kernel
theorem dJ13_bitCount_95d88_49 : decode cJ13_bitCount_95d88 49 = .ok (.lload_n 0, 1) := by decide +kernel
theorem dJ13_bitCount_95d88_50 : decode cJ13_bitCount_95d88 50 = .ok (.bipush 32, 2) := by decide +kernel
theorem dJ13_bitCount_95d88_52 : decode cJ13_bitCount_95d88 52 = .ok (.lushr, 1) := by decide +kernel
theorem dJ13_bitCount_95d88_53 : decode cJ13_bitCount_95d88 53 = .ok (.ladd, 1) := by decide +kernel
theorem dJ13_bitCount_95d88_54 : decode cJ13_bitCount_95d88 54 = .ok (.lstore_n 0, 1) := by decide +kernel
theorem dJ13_bitCount_95d88_55 : decode cJ13_bitCount_95d88 55 = .ok (.lload_n 0, 1) := by decide +kernel
theorem dJ13_bitCount_95d88_56 : decode cJ13_bitCount_95d88 56 = .ok (.l2i, 1) := by decide +kernel
theorem dJ13_bitCount_95d88_57 : decode cJ13_bitCount_95d88 57 = .ok (.bipush 127, 2) := by decide +kernel
theorem dJ13_bitCount_95d88_59 : decode cJ13_bitCount_95d88 59 = .ok (.iand, 1) := by decide +kernel
theorem dJ13_bitCount_95d88_60 : decode cJ13_bitCount_95d88 60 = .ok (.ireturn, 1) := by decide +kernel
theorem dJ9_min_7cf53_0 : decode cJ9_min_7cf53 0 = .ok (.iload_n 0, 1) := by decide +kernel
theorem dJ9_min_7cf53_1 : decode cJ9_min_7cf53 1 = .ok (.iload_n 1, 1) := by decide +kernel
theorem dJ9_min_7cf53_2 : decode cJ9_min_7cf53 2 = .ok (.if_icmp .gt 7, 3) := by decide +kernel
theorem dJ9_min_7cf53_5 : decode cJ9_min_7cf53 5 = .ok (.iload_n 0, 1) := by decide +kernel
theorem dJ9_min_7cf53_6 : decode cJ9_min_7cf53 6 = .ok (.goto 4, 3) := by decide +kernel
theorem dJ9_min_7cf53_9 : decode cJ9_min_7cf53 9 = .ok (.iload_n 1, 1) := by decide +kernel
theorem dJ9_min_7cf53_10 : decode cJ9_min_7cf53 10 = .ok (.ireturn, 1) := by decide +kernel
theorem dJ7_fill_53178_0 : decode cJ7_fill_53178 0 = .ok (.iconst 0, 1) := by decide +kernel
theorem dJ7_fill_53178_1 : decode cJ7_fill_53178 1 = .ok (.istore_n 2, 1) := by decide +kernel
theorem dJ7_fill_53178_2 : decode cJ7_fill_53178 2 = .ok (.aload_n 0, 1) := by decide +kernel
theorem dJ7_fill_53178_3 : decode cJ7_fill_53178 3 = .ok (.arraylength, 1) := by decide +kernel
theorem dJ7_fill_53178_4 : decode cJ7_fill_53178 4 = .ok (.istore_n 3, 1) := by decide +kernel
theorem dJ7_fill_53178_5 : decode cJ7_fill_53178 5 = .ok (.iload_n 2, 1) := by decide +kernel
theorem dJ7_fill_53178_6 : decode cJ7_fill_53178 6 = .ok (.iload_n 3, 1) := by decide +kernel
theorem dJ7_fill_53178_7 : decode cJ7_fill_53178 7 = .ok (.if_icmp .ge 13, 3) := by decide +kernel
theorem dJ7_fill_53178_10 : decode cJ7_fill_53178 10 = .ok (.aload_n 0, 1) := by decide +kernel
theorem dJ7_fill_53178_11 : decode cJ7_fill_53178 11 = .ok (.iload_n 2, 1) := by decide +kernel
theorem dJ7_fill_53178_12 : decode cJ7_fill_53178 12 = .ok (.iload_n 1, 1) := by decide +kernel
theorem dJ7_fill_53178_13 : decode cJ7_fill_53178 13 = .ok (.iastore, 1) := by decide +kernel
theorem dJ7_fill_53178_14 : decode cJ7_fill_53178 14 = .ok (.iinc 2 1, 3) := by decide +kernel
theorem dJ7_fill_53178_17 : decode cJ7_fill_53178 17 = .ok (.goto (-12), 3) := by decide +kernel
theorem dJ7_fill_53178_20 : decode cJ7_fill_53178 20 = .ok (.return_, 1) := by decide +kernel
