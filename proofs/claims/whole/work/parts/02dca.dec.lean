theorem dX0_init_0 : decode cX0_init 0 = .ok (.aload_n 0, 1) := by decide +kernel
theorem dX0_init_1 : decode cX0_init 1 = .ok (.invokespecial 3, 3) := by decide +kernel
theorem dX0_init_4 : decode cX0_init 4 = .ok (.aload_n 0, 1) := by decide +kernel
theorem dX0_init_5 : decode cX0_init 5 = .ok (.bipush 20, 2) := by decide +kernel
theorem dX0_init_7 : decode cX0_init 7 = .ok (.newarray .int, 2) := by decide +kernel
theorem dX0_init_9 : decode cX0_init 9 = .ok (.putfield 9, 3) := by decide +kernel
theorem dX0_init_12 : decode cX0_init 12 = .ok (.aload_n 0, 1) := by decide +kernel
theorem dX0_init_13 : decode cX0_init 13 = .ok (.sipush 720, 3) := by decide +kernel
theorem dX0_init_16 : decode cX0_init 16 = .ok (.newarray .int, 2) := by decide +kernel
theorem dX0_init_18 : decode cX0_init 18 = .ok (.putfield 15, 3) := by decide +kernel
theorem dX0_init_21 : decode cX0_init 21 = .ok (.aload_n 0, 1) := by decide +kernel
theorem dX0_init_22 : decode cX0_init 22 = .ok (.iconst 0, 1) := by decide +kernel
theorem dX0_init_23 : decode cX0_init 23 = .ok (.putfield 18, 3) := by decide +kernel
theorem dX0_init_26 : decode cX0_init 26 = .ok (.aload_n 0, 1) := by decide +kernel
theorem dX0_init_27 : decode cX0_init 27 = .ok (.iconst 0, 1) := by decide +kernel
theorem dX0_init_28 : decode cX0_init 28 = .ok (.putfield 22, 3) := by decide +kernel
theorem dX0_init_31 : decode cX0_init 31 = .ok (.return_, 1) := by decide +kernel
theorem dX0_forget_0 : decode cX0_forget 0 = .ok (.aload_n 0, 1) := by decide +kernel
theorem dX0_forget_1 : decode cX0_forget 1 = .ok (.iconst 0, 1) := by decide +kernel
theorem dX0_forget_2 : decode cX0_forget 2 = .ok (.putfield 22, 3) := by decide +kernel
theorem dX0_forget_5 : decode cX0_forget 5 = .ok (.return_, 1) := by decide +kernel
theorem dX0_keep_0 : decode cX0_keep 0 = .ok (.aload_n 0, 1) := by decide +kernel
theorem dX0_keep_1 : decode cX0_keep 1 = .ok (.getfield 9, 3) := by decide +kernel
theorem dX0_keep_4 : decode cX0_keep 4 = .ok (.aload_n 0, 1) := by decide +kernel
theorem dX0_keep_5 : decode cX0_keep 5 = .ok (.getfield 18, 3) := by decide +kernel
theorem dX0_keep_8 : decode cX0_keep 8 = .ok (.aload_n 1, 1) := by decide +kernel
theorem dX0_keep_9 : decode cX0_keep 9 = .ok (.getfield 25, 3) := by decide +kernel
theorem dX0_keep_12 : decode cX0_keep 12 = .ok (.iastore, 1) := by decide +kernel
theorem dX0_keep_13 : decode cX0_keep 13 = .ok (.aload_n 1, 1) := by decide +kernel
theorem dX0_keep_14 : decode cX0_keep 14 = .ok (.getfield 30, 3) := by decide +kernel
theorem dX0_keep_17 : decode cX0_keep 17 = .ok (.iconst 0, 1) := by decide +kernel
theorem dX0_keep_18 : decode cX0_keep 18 = .ok (.aload_n 0, 1) := by decide +kernel
theorem dX0_keep_19 : decode cX0_keep 19 = .ok (.getfield 15, 3) := by decide +kernel
theorem dX0_keep_22 : decode cX0_keep 22 = .ok (.aload_n 0, 1) := by decide +kernel
theorem dX0_keep_23 : decode cX0_keep 23 = .ok (.getfield 18, 3) := by decide +kernel
theorem dX0_keep_26 : decode cX0_keep 26 = .ok (.bipush 36, 2) := by decide +kernel
theorem dX0_keep_28 : decode cX0_keep 28 = .ok (.imul, 1) := by decide +kernel
theorem dX0_keep_29 : decode cX0_keep 29 = .ok (.bipush 36, 2) := by decide +kernel
theorem dX0_keep_31 : decode cX0_keep 31 = .ok (.invokestatic 31, 3) := by decide +kernel
theorem dX0_keep_34 : decode cX0_keep 34 = .ok (.aload_n 0, 1) := by decide +kernel
theorem dX0_keep_35 : decode cX0_keep 35 = .ok (.aload_n 0, 1) := by decide +kernel
theorem dX0_keep_36 : decode cX0_keep 36 = .ok (.getfield 18, 3) := by decide +kernel
theorem dX0_keep_39 : decode cX0_keep 39 = .ok (.iconst 1, 1) := by decide +kernel
theorem dX0_keep_40 : decode cX0_keep 40 = .ok (.iadd, 1) := by decide +kernel
theorem dX0_keep_41 : decode cX0_keep 41 = .ok (.bipush 20, 2) := by decide +kernel
theorem dX0_keep_43 : decode cX0_keep 43 = .ok (.irem, 1) := by decide +kernel
theorem dX0_keep_44 : decode cX0_keep 44 = .ok (.putfield 18, 3) := by decide +kernel
theorem dX0_keep_47 : decode cX0_keep 47 = .ok (.aload_n 0, 1) := by decide +kernel
theorem dX0_keep_48 : decode cX0_keep 48 = .ok (.aload_n 0, 1) := by decide +kernel
theorem dX0_keep_49 : decode cX0_keep 49 = .ok (.getfield 22, 3) := by decide +kernel
theorem dX0_keep_52 : decode cX0_keep 52 = .ok (.iconst 1, 1) := by decide +kernel
theorem dX0_keep_53 : decode cX0_keep 53 = .ok (.iadd, 1) := by decide +kernel
theorem dX0_keep_54 : decode cX0_keep 54 = .ok (.bipush 20, 2) := by decide +kernel
theorem dX0_keep_56 : decode cX0_keep 56 = .ok (.invokestatic 37, 3) := by decide +kernel
theorem dX0_keep_59 : decode cX0_keep 59 = .ok (.putfield 22, 3) := by decide +kernel
theorem dX0_keep_62 : decode cX0_keep 62 = .ok (.return_, 1) := by decide +kernel
theorem dX0_bringBack_0 : decode cX0_bringBack 0 = .ok (.aload_n 0, 1) := by decide +kernel
theorem dX0_bringBack_1 : decode cX0_bringBack 1 = .ok (.aload_n 0, 1) := by decide +kernel
theorem dX0_bringBack_2 : decode cX0_bringBack 2 = .ok (.getfield 18, 3) := by decide +kernel
theorem dX0_bringBack_5 : decode cX0_bringBack 5 = .ok (.bipush 20, 2) := by decide +kernel
theorem dX0_bringBack_7 : decode cX0_bringBack 7 = .ok (.iadd, 1) := by decide +kernel
theorem dX0_bringBack_8 : decode cX0_bringBack 8 = .ok (.iconst 1, 1) := by decide +kernel
theorem dX0_bringBack_9 : decode cX0_bringBack 9 = .ok (.isub, 1) := by decide +kernel
theorem dX0_bringBack_10 : decode cX0_bringBack 10 = .ok (.bipush 20, 2) := by decide +kernel
theorem dX0_bringBack_12 : decode cX0_bringBack 12 = .ok (.irem, 1) := by decide +kernel
theorem dX0_bringBack_13 : decode cX0_bringBack 13 = .ok (.putfield 18, 3) := by decide +kernel
theorem dX0_bringBack_16 : decode cX0_bringBack 16 = .ok (.aload_n 1, 1) := by decide +kernel
theorem dX0_bringBack_17 : decode cX0_bringBack 17 = .ok (.aload_n 0, 1) := by decide +kernel
theorem dX0_bringBack_18 : decode cX0_bringBack 18 = .ok (.getfield 9, 3) := by decide +kernel
theorem dX0_bringBack_21 : decode cX0_bringBack 21 = .ok (.aload_n 0, 1) := by decide +kernel
theorem dX0_bringBack_22 : decode cX0_bringBack 22 = .ok (.getfield 18, 3) := by decide +kernel
theorem dX0_bringBack_25 : decode cX0_bringBack 25 = .ok (.iaload, 1) := by decide +kernel
theorem dX0_bringBack_26 : decode cX0_bringBack 26 = .ok (.putfield 25, 3) := by decide +kernel
theorem dX0_bringBack_29 : decode cX0_bringBack 29 = .ok (.aload_n 0, 1) := by decide +kernel
theorem dX0_bringBack_30 : decode cX0_bringBack 30 = .ok (.getfield 15, 3) := by decide +kernel
theorem dX0_bringBack_33 : decode cX0_bringBack 33 = .ok (.aload_n 0, 1) := by decide +kernel
theorem dX0_bringBack_34 : decode cX0_bringBack 34 = .ok (.getfield 18, 3) := by decide +kernel
theorem dX0_bringBack_37 : decode cX0_bringBack 37 = .ok (.bipush 36, 2) := by decide +kernel
theorem dX0_bringBack_39 : decode cX0_bringBack 39 = .ok (.imul, 1) := by decide +kernel
theorem dX0_bringBack_40 : decode cX0_bringBack 40 = .ok (.aload_n 1, 1) := by decide +kernel
theorem dX0_bringBack_41 : decode cX0_bringBack 41 = .ok (.getfield 30, 3) := by decide +kernel
theorem dX0_bringBack_44 : decode cX0_bringBack 44 = .ok (.iconst 0, 1) := by decide +kernel
theorem dX0_bringBack_45 : decode cX0_bringBack 45 = .ok (.bipush 36, 2) := by decide +kernel
theorem dX0_bringBack_47 : decode cX0_bringBack 47 = .ok (.invokestatic 31, 3) := by decide +kernel
theorem dX0_bringBack_50 : decode cX0_bringBack 50 = .ok (.aload_n 0, 1) := by decide +kernel
theorem dX0_bringBack_51 : decode cX0_bringBack 51 = .ok (.dup, 1) := by decide +kernel
theorem dX0_bringBack_52 : decode cX0_bringBack 52 = .ok (.getfield 22, 3) := by decide +kernel
theorem dX0_bringBack_55 : decode cX0_bringBack 55 = .ok (.iconst 1, 1) := by decide +kernel
theorem dX0_bringBack_56 : decode cX0_bringBack 56 = .ok (.isub, 1) := by decide +kernel
theorem dX0_bringBack_57 : decode cX0_bringBack 57 = .ok (.putfield 22, 3) := by decide +kernel
theorem dX0_bringBack_60 : decode cX0_bringBack 60 = .ok (.return_, 1) := by decide +kernel
theorem dX1_init_0 : decode cX1_init 0 = .ok (.aload_n 0, 1) := by decide +kernel
theorem dX1_init_1 : decode cX1_init 1 = .ok (.invokespecial 3, 3) := by decide +kernel
theorem dX1_init_4 : decode cX1_init 4 = .ok (.aload_n 0, 1) := by decide +kernel
theorem dX1_init_5 : decode cX1_init 5 = .ok (.bipush 72, 2) := by decide +kernel
theorem dX1_init_7 : decode cX1_init 7 = .ok (.newarray .int, 2) := by decide +kernel
theorem dX1_init_9 : decode cX1_init 9 = .ok (.putfield 9, 3) := by decide +kernel
theorem dX1_init_12 : decode cX1_init 12 = .ok (.aload_n 0, 1) := by decide +kernel
theorem dX1_init_13 : decode cX1_init 13 = .ok (.iconst 0, 1) := by decide +kernel
theorem dX1_init_14 : decode cX1_init 14 = .ok (.putfield 15, 3) := by decide +kernel
theorem dX1_init_17 : decode cX1_init 17 = .ok (.return_, 1) := by decide +kernel
theorem dX1_isFull_0 : decode cX1_isFull 0 = .ok (.aload_n 0, 1) := by decide +kernel
theorem dX1_isFull_1 : decode cX1_isFull 1 = .ok (.getfield 15, 3) := by decide +kernel
theorem dX1_isFull_4 : decode cX1_isFull 4 = .ok (.bipush 72, 2) := by decide +kernel
theorem dX1_isFull_6 : decode cX1_isFull 6 = .ok (.if_icmp .lt 7, 3) := by decide +kernel
theorem dX1_isFull_9 : decode cX1_isFull 9 = .ok (.iconst 1, 1) := by decide +kernel
theorem dX1_isFull_10 : decode cX1_isFull 10 = .ok (.goto 4, 3) := by decide +kernel
theorem dX1_isFull_13 : decode cX1_isFull 13 = .ok (.iconst 0, 1) := by decide +kernel
theorem dX1_isFull_14 : decode cX1_isFull 14 = .ok (.ireturn, 1) := by decide +kernel
theorem dX1_append_0 : decode cX1_append 0 = .ok (.aload_n 0, 1) := by decide +kernel
theorem dX1_append_1 : decode cX1_append 1 = .ok (.getfield 9, 3) := by decide +kernel
theorem dX1_append_4 : decode cX1_append 4 = .ok (.aload_n 0, 1) := by decide +kernel
theorem dX1_append_5 : decode cX1_append 5 = .ok (.getfield 15, 3) := by decide +kernel
theorem dX1_append_8 : decode cX1_append 8 = .ok (.iload_n 1, 1) := by decide +kernel
theorem dX1_append_9 : decode cX1_append 9 = .ok (.iastore, 1) := by decide +kernel
theorem dX1_append_10 : decode cX1_append 10 = .ok (.aload_n 0, 1) := by decide +kernel
theorem dX1_append_11 : decode cX1_append 11 = .ok (.dup, 1) := by decide +kernel
theorem dX1_append_12 : decode cX1_append 12 = .ok (.getfield 15, 3) := by decide +kernel
theorem dX1_append_15 : decode cX1_append 15 = .ok (.iconst 1, 1) := by decide +kernel
theorem dX1_append_16 : decode cX1_append 16 = .ok (.iadd, 1) := by decide +kernel
theorem dX1_append_17 : decode cX1_append 17 = .ok (.putfield 15, 3) := by decide +kernel
theorem dX1_append_20 : decode cX1_append 20 = .ok (.return_, 1) := by decide +kernel
theorem dX1_clear_0 : decode cX1_clear 0 = .ok (.aload_n 0, 1) := by decide +kernel
theorem dX1_clear_1 : decode cX1_clear 1 = .ok (.iconst 0, 1) := by decide +kernel
theorem dX1_clear_2 : decode cX1_clear 2 = .ok (.putfield 15, 3) := by decide +kernel
theorem dX1_clear_5 : decode cX1_clear 5 = .ok (.return_, 1) := by decide +kernel
theorem dX1_tileAt_0 : decode cX1_tileAt 0 = .ok (.aload_n 0, 1) := by decide +kernel
theorem dX1_tileAt_1 : decode cX1_tileAt 1 = .ok (.getfield 9, 3) := by decide +kernel
theorem dX1_tileAt_4 : decode cX1_tileAt 4 = .ok (.iload_n 1, 1) := by decide +kernel
theorem dX1_tileAt_5 : decode cX1_tileAt 5 = .ok (.iaload, 1) := by decide +kernel
theorem dX1_tileAt_6 : decode cX1_tileAt 6 = .ok (.lookupswitch 40 #[(35, 36), (46, 34), (126, 38)], 34) := by decide +kernel
theorem dX1_tileAt_40 : decode cX1_tileAt 40 = .ok (.iconst 0, 1) := by decide +kernel
theorem dX1_tileAt_41 : decode cX1_tileAt 41 = .ok (.ireturn, 1) := by decide +kernel
theorem dX1_tileAt_42 : decode cX1_tileAt 42 = .ok (.iconst 1, 1) := by decide +kernel
theorem dX1_tileAt_43 : decode cX1_tileAt 43 = .ok (.ireturn, 1) := by decide +kernel
theorem dX1_tileAt_44 : decode cX1_tileAt 44 = .ok (.iconst 2, 1) := by decide +kernel
theorem dX1_tileAt_45 : decode cX1_tileAt 45 = .ok (.ireturn, 1) := by decide +kernel
theorem dX1_tileAt_46 : decode cX1_tileAt 46 = .ok (.iconst (-1), 1) := by decide +kernel
theorem dX1_tileAt_47 : decode cX1_tileAt 47 = .ok (.ireturn, 1) := by decide +kernel
theorem dX1_wayAt_0 : decode cX1_wayAt 0 = .ok (.aload_n 0, 1) := by decide +kernel
theorem dX1_wayAt_1 : decode cX1_wayAt 1 = .ok (.getfield 9, 3) := by decide +kernel
theorem dX1_wayAt_4 : decode cX1_wayAt 4 = .ok (.iload_n 1, 1) := by decide +kernel
theorem dX1_wayAt_5 : decode cX1_wayAt 5 = .ok (.iaload, 1) := by decide +kernel
theorem dX1_wayAt_6 : decode cX1_wayAt 6 = .ok (.lookupswitch 50 #[(100, 46), (108, 48), (114, 44), (117, 42)], 42) := by decide +kernel
theorem dX1_wayAt_48 : decode cX1_wayAt 48 = .ok (.iconst 0, 1) := by decide +kernel
theorem dX1_wayAt_49 : decode cX1_wayAt 49 = .ok (.ireturn, 1) := by decide +kernel
theorem dX1_wayAt_50 : decode cX1_wayAt 50 = .ok (.iconst 1, 1) := by decide +kernel
theorem dX1_wayAt_51 : decode cX1_wayAt 51 = .ok (.ireturn, 1) := by decide +kernel
theorem dX1_wayAt_52 : decode cX1_wayAt 52 = .ok (.iconst 2, 1) := by decide +kernel
theorem dX1_wayAt_53 : decode cX1_wayAt 53 = .ok (.ireturn, 1) := by decide +kernel
theorem dX1_wayAt_54 : decode cX1_wayAt 54 = .ok (.iconst 3, 1) := by decide +kernel
theorem dX1_wayAt_55 : decode cX1_wayAt 55 = .ok (.ireturn, 1) := by decide +kernel
theorem dX1_wayAt_56 : decode cX1_wayAt 56 = .ok (.iconst (-1), 1) := by decide +kernel
theorem dX1_wayAt_57 : decode cX1_wayAt 57 = .ok (.ireturn, 1) := by decide +kernel
theorem dX1_boardFault_0 : decode cX1_boardFault 0 = .ok (.iconst 0, 1) := by decide +kernel
theorem dX1_boardFault_1 : decode cX1_boardFault 1 = .ok (.istore_n 1, 1) := by decide +kernel
theorem dX1_boardFault_2 : decode cX1_boardFault 2 = .ok (.iconst 0, 1) := by decide +kernel
theorem dX1_boardFault_3 : decode cX1_boardFault 3 = .ok (.istore_n 2, 1) := by decide +kernel
theorem dX1_boardFault_4 : decode cX1_boardFault 4 = .ok (.bipush 6, 2) := by decide +kernel
theorem dX1_boardFault_6 : decode cX1_boardFault 6 = .ok (.istore_n 3, 1) := by decide +kernel
theorem dX1_boardFault_7 : decode cX1_boardFault 7 = .ok (.iconst 0, 1) := by decide +kernel
theorem dX1_boardFault_8 : decode cX1_boardFault 8 = .ok (.istore 4, 2) := by decide +kernel
theorem dX1_boardFault_10 : decode cX1_boardFault 10 = .ok (.iload 4, 2) := by decide +kernel
theorem dX1_boardFault_12 : decode cX1_boardFault 12 = .ok (.aload_n 0, 1) := by decide +kernel
theorem dX1_boardFault_13 : decode cX1_boardFault 13 = .ok (.getfield 15, 3) := by decide +kernel
theorem dX1_boardFault_16 : decode cX1_boardFault 16 = .ok (.if_icmp .ge 104, 3) := by decide +kernel
theorem dX1_boardFault_19 : decode cX1_boardFault 19 = .ok (.aload_n 0, 1) := by decide +kernel
theorem dX1_boardFault_20 : decode cX1_boardFault 20 = .ok (.getfield 9, 3) := by decide +kernel
theorem dX1_boardFault_23 : decode cX1_boardFault 23 = .ok (.iload 4, 2) := by decide +kernel
theorem dX1_boardFault_25 : decode cX1_boardFault 25 = .ok (.iaload, 1) := by decide +kernel
theorem dX1_boardFault_26 : decode cX1_boardFault 26 = .ok (.bipush 59, 2) := by decide +kernel
theorem dX1_boardFault_28 : decode cX1_boardFault 28 = .ok (.if_icmp .ne 20, 3) := by decide +kernel
theorem dX1_boardFault_31 : decode cX1_boardFault 31 = .ok (.iload_n 2, 1) := by decide +kernel
theorem dX1_boardFault_32 : decode cX1_boardFault 32 = .ok (.ifCond .le 16, 3) := by decide +kernel
theorem dX1_boardFault_35 : decode cX1_boardFault 35 = .ok (.iload_n 1, 1) := by decide +kernel
theorem dX1_boardFault_36 : decode cX1_boardFault 36 = .ok (.ifCond .eq 8, 3) := by decide +kernel
theorem dX1_boardFault_39 : decode cX1_boardFault 39 = .ok (.iload_n 2, 1) := by decide +kernel
theorem dX1_boardFault_40 : decode cX1_boardFault 40 = .ok (.iload_n 3, 1) := by decide +kernel
theorem dX1_boardFault_41 : decode cX1_boardFault 41 = .ok (.if_icmp .ne 7, 3) := by decide +kernel
theorem dX1_boardFault_44 : decode cX1_boardFault 44 = .ok (.iconst 1, 1) := by decide +kernel
theorem dX1_boardFault_45 : decode cX1_boardFault 45 = .ok (.goto 4, 3) := by decide +kernel
theorem dX1_boardFault_48 : decode cX1_boardFault 48 = .ok (.iconst 0, 1) := by decide +kernel
theorem dX1_boardFault_49 : decode cX1_boardFault 49 = .ok (.istore 5, 2) := by decide +kernel
theorem dX1_boardFault_51 : decode cX1_boardFault 51 = .ok (.aload_n 0, 1) := by decide +kernel
theorem dX1_boardFault_52 : decode cX1_boardFault 52 = .ok (.iload 4, 2) := by decide +kernel
theorem dX1_boardFault_54 : decode cX1_boardFault 54 = .ok (.invokevirtual 19, 3) := by decide +kernel
theorem dX1_boardFault_57 : decode cX1_boardFault 57 = .ok (.ifCond .lt 12, 3) := by decide +kernel
theorem dX1_boardFault_60 : decode cX1_boardFault 60 = .ok (.iload_n 2, 1) := by decide +kernel
theorem dX1_boardFault_61 : decode cX1_boardFault 61 = .ok (.iload_n 3, 1) := by decide +kernel
theorem dX1_boardFault_62 : decode cX1_boardFault 62 = .ok (.if_icmp .ge 7, 3) := by decide +kernel
theorem dX1_boardFault_65 : decode cX1_boardFault 65 = .ok (.iconst 1, 1) := by decide +kernel
theorem dX1_boardFault_66 : decode cX1_boardFault 66 = .ok (.goto 4, 3) := by decide +kernel
theorem dX1_boardFault_69 : decode cX1_boardFault 69 = .ok (.iconst 0, 1) := by decide +kernel
theorem dX1_boardFault_70 : decode cX1_boardFault 70 = .ok (.istore 6, 2) := by decide +kernel
theorem dX1_boardFault_72 : decode cX1_boardFault 72 = .ok (.iload_n 1, 1) := by decide +kernel
theorem dX1_boardFault_73 : decode cX1_boardFault 73 = .ok (.bipush 6, 2) := by decide +kernel
theorem dX1_boardFault_75 : decode cX1_boardFault 75 = .ok (.if_icmp .eq 13, 3) := by decide +kernel
theorem dX1_boardFault_78 : decode cX1_boardFault 78 = .ok (.iload 5, 2) := by decide +kernel
theorem dX1_boardFault_80 : decode cX1_boardFault 80 = .ok (.ifCond .ne 11, 3) := by decide +kernel
theorem dX1_boardFault_83 : decode cX1_boardFault 83 = .ok (.iload 6, 2) := by decide +kernel
theorem dX1_boardFault_85 : decode cX1_boardFault 85 = .ok (.ifCond .ne 6, 3) := by decide +kernel
theorem dX1_boardFault_88 : decode cX1_boardFault 88 = .ok (.iload 4, 2) := by decide +kernel
theorem dX1_boardFault_90 : decode cX1_boardFault 90 = .ok (.ireturn, 1) := by decide +kernel
theorem dX1_boardFault_91 : decode cX1_boardFault 91 = .ok (.iload 5, 2) := by decide +kernel
theorem dX1_boardFault_93 : decode cX1_boardFault 93 = .ok (.ifCond .eq 8, 3) := by decide +kernel
theorem dX1_boardFault_96 : decode cX1_boardFault 96 = .ok (.iload_n 2, 1) := by decide +kernel
theorem dX1_boardFault_97 : decode cX1_boardFault 97 = .ok (.istore_n 3, 1) := by decide +kernel
theorem dX1_boardFault_98 : decode cX1_boardFault 98 = .ok (.iinc 1 1, 3) := by decide +kernel
theorem dX1_boardFault_101 : decode cX1_boardFault 101 = .ok (.iload 5, 2) := by decide +kernel
theorem dX1_boardFault_103 : decode cX1_boardFault 103 = .ok (.ifCond .eq 7, 3) := by decide +kernel
theorem dX1_boardFault_106 : decode cX1_boardFault 106 = .ok (.iconst 0, 1) := by decide +kernel
theorem dX1_boardFault_107 : decode cX1_boardFault 107 = .ok (.goto 6, 3) := by decide +kernel
theorem dX1_boardFault_110 : decode cX1_boardFault 110 = .ok (.iload_n 2, 1) := by decide +kernel
theorem dX1_boardFault_111 : decode cX1_boardFault 111 = .ok (.iconst 1, 1) := by decide +kernel
theorem dX1_boardFault_112 : decode cX1_boardFault 112 = .ok (.iadd, 1) := by decide +kernel
theorem dX1_boardFault_113 : decode cX1_boardFault 113 = .ok (.istore_n 2, 1) := by decide +kernel
theorem dX1_boardFault_114 : decode cX1_boardFault 114 = .ok (.iinc 4 1, 3) := by decide +kernel
theorem dX1_boardFault_117 : decode cX1_boardFault 117 = .ok (.goto (-107), 3) := by decide +kernel
theorem dX1_boardFault_120 : decode cX1_boardFault 120 = .ok (.iload_n 1, 1) := by decide +kernel
theorem dX1_boardFault_121 : decode cX1_boardFault 121 = .ok (.ifCond .eq 7, 3) := by decide +kernel
theorem dX1_boardFault_124 : decode cX1_boardFault 124 = .ok (.iload_n 2, 1) := by decide +kernel
theorem dX1_boardFault_125 : decode cX1_boardFault 125 = .ok (.ifCond .le 10, 3) := by decide +kernel
theorem dX1_boardFault_128 : decode cX1_boardFault 128 = .ok (.aload_n 0, 1) := by decide +kernel
theorem dX1_boardFault_129 : decode cX1_boardFault 129 = .ok (.getfield 15, 3) := by decide +kernel
theorem dX1_boardFault_132 : decode cX1_boardFault 132 = .ok (.goto 4, 3) := by decide +kernel
theorem dX1_boardFault_135 : decode cX1_boardFault 135 = .ok (.iconst (-1), 1) := by decide +kernel
theorem dX1_boardFault_136 : decode cX1_boardFault 136 = .ok (.ireturn, 1) := by decide +kernel
theorem dX2_init_0 : decode cX2_init 0 = .ok (.aload_n 0, 1) := by decide +kernel
theorem dX2_init_1 : decode cX2_init 1 = .ok (.invokespecial 3, 3) := by decide +kernel
theorem dX2_init_4 : decode cX2_init 4 = .ok (.aload_n 0, 1) := by decide +kernel
theorem dX2_init_5 : decode cX2_init 5 = .ok (.bipush 9, 2) := by decide +kernel
theorem dX2_init_7 : decode cX2_init 7 = .ok (.newarray .int, 2) := by decide +kernel
theorem dX2_init_9 : decode cX2_init 9 = .ok (.putfield 9, 3) := by decide +kernel
theorem dX2_init_12 : decode cX2_init 12 = .ok (.aload_n 0, 1) := by decide +kernel
theorem dX2_init_13 : decode cX2_init 13 = .ok (.bipush 9, 2) := by decide +kernel
theorem dX2_init_15 : decode cX2_init 15 = .ok (.newarray .int, 2) := by decide +kernel
theorem dX2_init_17 : decode cX2_init 17 = .ok (.putfield 15, 3) := by decide +kernel
theorem dX2_init_20 : decode cX2_init 20 = .ok (.aload_n 0, 1) := by decide +kernel
theorem dX2_init_21 : decode cX2_init 21 = .ok (.iconst 0, 1) := by decide +kernel
theorem dX2_init_22 : decode cX2_init 22 = .ok (.putfield 18, 3) := by decide +kernel
theorem dX2_init_25 : decode cX2_init 25 = .ok (.aload_n 0, 1) := by decide +kernel
theorem dX2_init_26 : decode cX2_init 26 = .ok (.iconst (-1), 1) := by decide +kernel
theorem dX2_init_27 : decode cX2_init 27 = .ok (.putfield 22, 3) := by decide +kernel
theorem dX2_init_30 : decode cX2_init 30 = .ok (.return_, 1) := by decide +kernel
theorem dX2_isMissing_0 : decode cX2_isMissing 0 = .ok (.aload_n 0, 1) := by decide +kernel
theorem dX2_isMissing_1 : decode cX2_isMissing 1 = .ok (.getfield 22, 3) := by decide +kernel
theorem dX2_isMissing_4 : decode cX2_isMissing 4 = .ok (.ifCond .ge 7, 3) := by decide +kernel
theorem dX2_isMissing_7 : decode cX2_isMissing 7 = .ok (.iconst 1, 1) := by decide +kernel
theorem dX2_isMissing_8 : decode cX2_isMissing 8 = .ok (.goto 4, 3) := by decide +kernel
theorem dX2_isMissing_11 : decode cX2_isMissing 11 = .ok (.iconst 0, 1) := by decide +kernel
theorem dX2_isMissing_12 : decode cX2_isMissing 12 = .ok (.ireturn, 1) := by decide +kernel
theorem dX2_begin_0 : decode cX2_begin 0 = .ok (.aload_n 0, 1) := by decide +kernel
theorem dX2_begin_1 : decode cX2_begin 1 = .ok (.getfield 9, 3) := by decide +kernel
theorem dX2_begin_4 : decode cX2_begin 4 = .ok (.iconst (-1), 1) := by decide +kernel
theorem dX2_begin_5 : decode cX2_begin 5 = .ok (.invokestatic 25, 3) := by decide +kernel
theorem dX2_begin_8 : decode cX2_begin 8 = .ok (.aload_n 0, 1) := by decide +kernel
theorem dX2_begin_9 : decode cX2_begin 9 = .ok (.iload_n 1, 1) := by decide +kernel
theorem dX2_begin_10 : decode cX2_begin 10 = .ok (.putfield 18, 3) := by decide +kernel
theorem dX2_begin_13 : decode cX2_begin 13 = .ok (.aload_n 0, 1) := by decide +kernel
theorem dX2_begin_14 : decode cX2_begin 14 = .ok (.iload_n 2, 1) := by decide +kernel
theorem dX2_begin_15 : decode cX2_begin 15 = .ok (.putfield 22, 3) := by decide +kernel
theorem dX2_begin_18 : decode cX2_begin 18 = .ok (.return_, 1) := by decide +kernel
theorem dX2_lackAt_0 : decode cX2_lackAt 0 = .ok (.aload_n 0, 1) := by decide +kernel
theorem dX2_lackAt_1 : decode cX2_lackAt 1 = .ok (.getfield 22, 3) := by decide +kernel
theorem dX2_lackAt_4 : decode cX2_lackAt 4 = .ok (.iload_n 1, 1) := by decide +kernel
theorem dX2_lackAt_5 : decode cX2_lackAt 5 = .ok (.invokestatic 31, 3) := by decide +kernel
theorem dX2_lackAt_8 : decode cX2_lackAt 8 = .ok (.ireturn, 1) := by decide +kernel
theorem dX2_store_0 : decode cX2_store 0 = .ok (.aload_n 0, 1) := by decide +kernel
theorem dX2_store_1 : decode cX2_store 1 = .ok (.getfield 9, 3) := by decide +kernel
theorem dX2_store_4 : decode cX2_store 4 = .ok (.iload_n 1, 1) := by decide +kernel
theorem dX2_store_5 : decode cX2_store 5 = .ok (.iload_n 2, 1) := by decide +kernel
theorem dX2_store_6 : decode cX2_store 6 = .ok (.iastore, 1) := by decide +kernel
theorem dX2_store_7 : decode cX2_store 7 = .ok (.aload_n 0, 1) := by decide +kernel
theorem dX2_store_8 : decode cX2_store 8 = .ok (.getfield 15, 3) := by decide +kernel
theorem dX2_store_11 : decode cX2_store 11 = .ok (.iload_n 1, 1) := by decide +kernel
theorem dX2_store_12 : decode cX2_store 12 = .ok (.iload_n 3, 1) := by decide +kernel
theorem dX2_store_13 : decode cX2_store 13 = .ok (.iastore, 1) := by decide +kernel
theorem dX2_store_14 : decode cX2_store 14 = .ok (.return_, 1) := by decide +kernel
theorem dX2_empty_0 : decode cX2_empty 0 = .ok (.aload_n 0, 1) := by decide +kernel
theorem dX2_empty_1 : decode cX2_empty 1 = .ok (.getfield 9, 3) := by decide +kernel
theorem dX2_empty_4 : decode cX2_empty 4 = .ok (.iload_n 1, 1) := by decide +kernel
theorem dX2_empty_5 : decode cX2_empty 5 = .ok (.iconst (-1), 1) := by decide +kernel
theorem dX2_empty_6 : decode cX2_empty 6 = .ok (.iastore, 1) := by decide +kernel
theorem dX2_empty_7 : decode cX2_empty 7 = .ok (.return_, 1) := by decide +kernel
theorem dX2_isEmptyAt_0 : decode cX2_isEmptyAt 0 = .ok (.aload_n 0, 1) := by decide +kernel
theorem dX2_isEmptyAt_1 : decode cX2_isEmptyAt 1 = .ok (.getfield 9, 3) := by decide +kernel
theorem dX2_isEmptyAt_4 : decode cX2_isEmptyAt 4 = .ok (.iload_n 1, 1) := by decide +kernel
theorem dX2_isEmptyAt_5 : decode cX2_isEmptyAt 5 = .ok (.iaload, 1) := by decide +kernel
theorem dX2_isEmptyAt_6 : decode cX2_isEmptyAt 6 = .ok (.iconst (-1), 1) := by decide +kernel
theorem dX2_isEmptyAt_7 : decode cX2_isEmptyAt 7 = .ok (.if_icmp .ne 7, 3) := by decide +kernel
theorem dX2_isEmptyAt_10 : decode cX2_isEmptyAt 10 = .ok (.iconst 1, 1) := by decide +kernel
theorem dX2_isEmptyAt_11 : decode cX2_isEmptyAt 11 = .ok (.goto 4, 3) := by decide +kernel
theorem dX2_isEmptyAt_14 : decode cX2_isEmptyAt 14 = .ok (.iconst 0, 1) := by decide +kernel
theorem dX2_isEmptyAt_15 : decode cX2_isEmptyAt 15 = .ok (.ireturn, 1) := by decide +kernel
theorem dX2_copyFrom_0 : decode cX2_copyFrom 0 = .ok (.aload_n 1, 1) := by decide +kernel
theorem dX2_copyFrom_1 : decode cX2_copyFrom 1 = .ok (.getfield 9, 3) := by decide +kernel
theorem dX2_copyFrom_4 : decode cX2_copyFrom 4 = .ok (.iconst 0, 1) := by decide +kernel
theorem dX2_copyFrom_5 : decode cX2_copyFrom 5 = .ok (.aload_n 0, 1) := by decide +kernel
theorem dX2_copyFrom_6 : decode cX2_copyFrom 6 = .ok (.getfield 9, 3) := by decide +kernel
theorem dX2_copyFrom_9 : decode cX2_copyFrom 9 = .ok (.iconst 0, 1) := by decide +kernel
theorem dX2_copyFrom_10 : decode cX2_copyFrom 10 = .ok (.bipush 9, 2) := by decide +kernel
theorem dX2_copyFrom_12 : decode cX2_copyFrom 12 = .ok (.invokestatic 35, 3) := by decide +kernel
theorem dX2_copyFrom_15 : decode cX2_copyFrom 15 = .ok (.aload_n 1, 1) := by decide +kernel
theorem dX2_copyFrom_16 : decode cX2_copyFrom 16 = .ok (.getfield 15, 3) := by decide +kernel
theorem dX2_copyFrom_19 : decode cX2_copyFrom 19 = .ok (.iconst 0, 1) := by decide +kernel
theorem dX2_copyFrom_20 : decode cX2_copyFrom 20 = .ok (.aload_n 0, 1) := by decide +kernel
theorem dX2_copyFrom_21 : decode cX2_copyFrom 21 = .ok (.getfield 15, 3) := by decide +kernel
theorem dX2_copyFrom_24 : decode cX2_copyFrom 24 = .ok (.iconst 0, 1) := by decide +kernel
theorem dX2_copyFrom_25 : decode cX2_copyFrom 25 = .ok (.bipush 9, 2) := by decide +kernel
theorem dX2_copyFrom_27 : decode cX2_copyFrom 27 = .ok (.invokestatic 35, 3) := by decide +kernel
theorem dX2_copyFrom_30 : decode cX2_copyFrom 30 = .ok (.aload_n 0, 1) := by decide +kernel
theorem dX2_copyFrom_31 : decode cX2_copyFrom 31 = .ok (.aload_n 1, 1) := by decide +kernel
theorem dX2_copyFrom_32 : decode cX2_copyFrom 32 = .ok (.getfield 18, 3) := by decide +kernel
theorem dX2_copyFrom_35 : decode cX2_copyFrom 35 = .ok (.putfield 18, 3) := by decide +kernel
theorem dX2_copyFrom_38 : decode cX2_copyFrom 38 = .ok (.aload_n 0, 1) := by decide +kernel
theorem dX2_copyFrom_39 : decode cX2_copyFrom 39 = .ok (.aload_n 1, 1) := by decide +kernel
theorem dX2_copyFrom_40 : decode cX2_copyFrom 40 = .ok (.getfield 22, 3) := by decide +kernel
theorem dX2_copyFrom_43 : decode cX2_copyFrom 43 = .ok (.putfield 22, 3) := by decide +kernel
theorem dX2_copyFrom_46 : decode cX2_copyFrom 46 = .ok (.return_, 1) := by decide +kernel
theorem dX3_init_0 : decode cX3_init 0 = .ok (.aload_n 0, 1) := by decide +kernel
theorem dX3_init_1 : decode cX3_init 1 = .ok (.invokespecial 3, 3) := by decide +kernel
theorem dX3_init_4 : decode cX3_init 4 = .ok (.aload_n 0, 1) := by decide +kernel
theorem dX3_init_5 : decode cX3_init 5 = .ok (.bipush 40, 2) := by decide +kernel
theorem dX3_init_7 : decode cX3_init 7 = .ok (.newarray .int, 2) := by decide +kernel
theorem dX3_init_9 : decode cX3_init 9 = .ok (.putfield 9, 3) := by decide +kernel
theorem dX3_init_12 : decode cX3_init 12 = .ok (.aload_n 0, 1) := by decide +kernel
theorem dX3_init_13 : decode cX3_init 13 = .ok (.iconst (-1), 1) := by decide +kernel
theorem dX3_init_14 : decode cX3_init 14 = .ok (.putfield 15, 3) := by decide +kernel
theorem dX3_init_17 : decode cX3_init 17 = .ok (.return_, 1) := by decide +kernel
theorem dX3_isMissing_0 : decode cX3_isMissing 0 = .ok (.aload_n 0, 1) := by decide +kernel
theorem dX3_isMissing_1 : decode cX3_isMissing 1 = .ok (.getfield 15, 3) := by decide +kernel
theorem dX3_isMissing_4 : decode cX3_isMissing 4 = .ok (.ifCond .ge 7, 3) := by decide +kernel
theorem dX3_isMissing_7 : decode cX3_isMissing 7 = .ok (.iconst 1, 1) := by decide +kernel
theorem dX3_isMissing_8 : decode cX3_isMissing 8 = .ok (.goto 4, 3) := by decide +kernel
theorem dX3_isMissing_11 : decode cX3_isMissing 11 = .ok (.iconst 0, 1) := by decide +kernel
theorem dX3_isMissing_12 : decode cX3_isMissing 12 = .ok (.ireturn, 1) := by decide +kernel
theorem dX3_begin_0 : decode cX3_begin 0 = .ok (.aload_n 0, 1) := by decide +kernel
theorem dX3_begin_1 : decode cX3_begin 1 = .ok (.getfield 9, 3) := by decide +kernel
theorem dX3_begin_4 : decode cX3_begin 4 = .ok (.iconst 0, 1) := by decide +kernel
theorem dX3_begin_5 : decode cX3_begin 5 = .ok (.invokestatic 19, 3) := by decide +kernel
theorem dX3_begin_8 : decode cX3_begin 8 = .ok (.aload_n 0, 1) := by decide +kernel
theorem dX3_begin_9 : decode cX3_begin 9 = .ok (.iload_n 1, 1) := by decide +kernel
theorem dX3_begin_10 : decode cX3_begin 10 = .ok (.putfield 15, 3) := by decide +kernel
theorem dX3_begin_13 : decode cX3_begin 13 = .ok (.return_, 1) := by decide +kernel
theorem dX3_lackAt_0 : decode cX3_lackAt 0 = .ok (.aload_n 0, 1) := by decide +kernel
theorem dX3_lackAt_1 : decode cX3_lackAt 1 = .ok (.getfield 15, 3) := by decide +kernel
theorem dX3_lackAt_4 : decode cX3_lackAt 4 = .ok (.iload_n 1, 1) := by decide +kernel
theorem dX3_lackAt_5 : decode cX3_lackAt 5 = .ok (.invokestatic 25, 3) := by decide +kernel
theorem dX3_lackAt_8 : decode cX3_lackAt 8 = .ok (.ireturn, 1) := by decide +kernel
theorem dX4_init_0 : decode cX4_init 0 = .ok (.aload_n 0, 1) := by decide +kernel
theorem dX4_init_1 : decode cX4_init 1 = .ok (.invokespecial 3, 3) := by decide +kernel
theorem dX4_init_4 : decode cX4_init 4 = .ok (.aload_n 0, 1) := by decide +kernel
theorem dX4_init_5 : decode cX4_init 5 = .ok (.sipush 1728, 3) := by decide +kernel
theorem dX4_init_8 : decode cX4_init 8 = .ok (.newarray .int, 2) := by decide +kernel
theorem dX4_init_10 : decode cX4_init 10 = .ok (.putfield 9, 3) := by decide +kernel
theorem dX4_init_13 : decode cX4_init 13 = .ok (.aload_n 0, 1) := by decide +kernel
theorem dX4_init_14 : decode cX4_init 14 = .ok (.sipush 1728, 3) := by decide +kernel
theorem dX4_init_17 : decode cX4_init 17 = .ok (.newarray .int, 2) := by decide +kernel
theorem dX4_init_19 : decode cX4_init 19 = .ok (.putfield 15, 3) := by decide +kernel
theorem dX4_init_22 : decode cX4_init 22 = .ok (.aload_n 0, 1) := by decide +kernel
theorem dX4_init_23 : decode cX4_init 23 = .ok (.sipush 1728, 3) := by decide +kernel
theorem dX4_init_26 : decode cX4_init 26 = .ok (.newarray .int, 2) := by decide +kernel
theorem dX4_init_28 : decode cX4_init 28 = .ok (.putfield 18, 3) := by decide +kernel
theorem dX4_init_31 : decode cX4_init 31 = .ok (.aload_n 0, 1) := by decide +kernel
theorem dX4_init_32 : decode cX4_init 32 = .ok (.sipush 1728, 3) := by decide +kernel
theorem dX4_init_35 : decode cX4_init 35 = .ok (.newarray .int, 2) := by decide +kernel
theorem dX4_init_37 : decode cX4_init 37 = .ok (.putfield 21, 3) := by decide +kernel
theorem dX4_init_40 : decode cX4_init 40 = .ok (.aload_n 0, 1) := by decide +kernel
theorem dX4_init_41 : decode cX4_init 41 = .ok (.sipush 1728, 3) := by decide +kernel
theorem dX4_init_44 : decode cX4_init 44 = .ok (.newarray .int, 2) := by decide +kernel
theorem dX4_init_46 : decode cX4_init 46 = .ok (.putfield 24, 3) := by decide +kernel
theorem dX4_init_49 : decode cX4_init 49 = .ok (.aload_n 0, 1) := by decide +kernel
theorem dX4_init_50 : decode cX4_init 50 = .ok (.sipush 1728, 3) := by decide +kernel
theorem dX4_init_53 : decode cX4_init 53 = .ok (.newarray .int, 2) := by decide +kernel
theorem dX4_init_55 : decode cX4_init 55 = .ok (.putfield 27, 3) := by decide +kernel
theorem dX4_init_58 : decode cX4_init 58 = .ok (.aload_n 0, 1) := by decide +kernel
theorem dX4_init_59 : decode cX4_init 59 = .ok (.sipush 1728, 3) := by decide +kernel
theorem dX4_init_62 : decode cX4_init 62 = .ok (.newarray .int, 2) := by decide +kernel
theorem dX4_init_64 : decode cX4_init 64 = .ok (.putfield 30, 3) := by decide +kernel
theorem dX4_init_67 : decode cX4_init 67 = .ok (.aload_n 0, 1) := by decide +kernel
theorem dX4_init_68 : decode cX4_init 68 = .ok (.iconst 0, 1) := by decide +kernel
theorem dX4_init_69 : decode cX4_init 69 = .ok (.putfield 33, 3) := by decide +kernel
theorem dX4_init_72 : decode cX4_init 72 = .ok (.return_, 1) := by decide +kernel
theorem dX4_floodAll_0 : decode cX4_floodAll 0 = .ok (.aload_n 0, 1) := by decide +kernel
theorem dX4_floodAll_1 : decode cX4_floodAll 1 = .ok (.aload_n 1, 1) := by decide +kernel
theorem dX4_floodAll_2 : decode cX4_floodAll 2 = .ok (.iconst (-1), 1) := by decide +kernel
theorem dX4_floodAll_3 : decode cX4_floodAll 3 = .ok (.iconst (-1), 1) := by decide +kernel
theorem dX4_floodAll_4 : decode cX4_floodAll 4 = .ok (.invokevirtual 37, 3) := by decide +kernel
theorem dX4_floodAll_7 : decode cX4_floodAll 7 = .ok (.pop, 1) := by decide +kernel
theorem dX4_floodAll_8 : decode cX4_floodAll 8 = .ok (.return_, 1) := by decide +kernel
theorem dX4_floodTo_0 : decode cX4_floodTo 0 = .ok (.aload_n 0, 1) := by decide +kernel
theorem dX4_floodTo_1 : decode cX4_floodTo 1 = .ok (.getfield 9, 3) := by decide +kernel
theorem dX4_floodTo_4 : decode cX4_floodTo 4 = .ok (.iconst (-1), 1) := by decide +kernel
theorem dX4_floodTo_5 : decode cX4_floodTo 5 = .ok (.invokestatic 41, 3) := by decide +kernel
theorem dX4_floodTo_8 : decode cX4_floodTo 8 = .ok (.aload_n 0, 1) := by decide +kernel
theorem dX4_floodTo_9 : decode cX4_floodTo 9 = .ok (.iconst 0, 1) := by decide +kernel
theorem dX4_floodTo_10 : decode cX4_floodTo 10 = .ok (.putfield 33, 3) := by decide +kernel
theorem dX4_floodTo_13 : decode cX4_floodTo 13 = .ok (.aload_n 0, 1) := by decide +kernel
theorem dX4_floodTo_14 : decode cX4_floodTo 14 = .ok (.aload_n 1, 1) := by decide +kernel
theorem dX4_floodTo_15 : decode cX4_floodTo 15 = .ok (.getfield 47, 3) := by decide +kernel
theorem dX4_floodTo_18 : decode cX4_floodTo 18 = .ok (.iconst (-1), 1) := by decide +kernel
theorem dX4_floodTo_19 : decode cX4_floodTo 19 = .ok (.iconst (-1), 1) := by decide +kernel
theorem dX4_floodTo_20 : decode cX4_floodTo 20 = .ok (.iconst 0, 1) := by decide +kernel
theorem dX4_floodTo_21 : decode cX4_floodTo 21 = .ok (.invokevirtual 52, 3) := by decide +kernel
theorem dX4_floodTo_24 : decode cX4_floodTo 24 = .ok (.iconst 0, 1) := by decide +kernel
theorem dX4_floodTo_25 : decode cX4_floodTo 25 = .ok (.istore 4, 2) := by decide +kernel
theorem dX4_floodTo_27 : decode cX4_floodTo 27 = .ok (.iload 4, 2) := by decide +kernel
theorem dX4_floodTo_29 : decode cX4_floodTo 29 = .ok (.aload_n 0, 1) := by decide +kernel
theorem dX4_floodTo_30 : decode cX4_floodTo 30 = .ok (.getfield 33, 3) := by decide +kernel
theorem dX4_floodTo_33 : decode cX4_floodTo 33 = .ok (.if_icmp .ge 99, 3) := by decide +kernel
theorem dX4_floodTo_36 : decode cX4_floodTo 36 = .ok (.iload 4, 2) := by decide +kernel
theorem dX4_floodTo_38 : decode cX4_floodTo 38 = .ok (.sipush 1728, 3) := by decide +kernel
theorem dX4_floodTo_41 : decode cX4_floodTo 41 = .ok (.if_icmp .ge 91, 3) := by decide +kernel
theorem dX4_floodTo_44 : decode cX4_floodTo 44 = .ok (.aload_n 0, 1) := by decide +kernel
theorem dX4_floodTo_45 : decode cX4_floodTo 45 = .ok (.getfield 21, 3) := by decide +kernel
theorem dX4_floodTo_48 : decode cX4_floodTo 48 = .ok (.iload 4, 2) := by decide +kernel
theorem dX4_floodTo_50 : decode cX4_floodTo 50 = .ok (.iaload, 1) := by decide +kernel
theorem dX4_floodTo_51 : decode cX4_floodTo 51 = .ok (.istore 5, 2) := by decide +kernel
theorem dX4_floodTo_53 : decode cX4_floodTo 53 = .ok (.aload_n 1, 1) := by decide +kernel
theorem dX4_floodTo_54 : decode cX4_floodTo 54 = .ok (.iload 5, 2) := by decide +kernel
theorem dX4_floodTo_56 : decode cX4_floodTo 56 = .ok (.iload_n 2, 1) := by decide +kernel
theorem dX4_floodTo_57 : decode cX4_floodTo 57 = .ok (.iload_n 3, 1) := by decide +kernel
theorem dX4_floodTo_58 : decode cX4_floodTo 58 = .ok (.invokevirtual 56, 3) := by decide +kernel
theorem dX4_floodTo_61 : decode cX4_floodTo 61 = .ok (.ifCond .eq 6, 3) := by decide +kernel
theorem dX4_floodTo_64 : decode cX4_floodTo 64 = .ok (.iload 5, 2) := by decide +kernel
theorem dX4_floodTo_66 : decode cX4_floodTo 66 = .ok (.ireturn, 1) := by decide +kernel
theorem dX4_floodTo_67 : decode cX4_floodTo 67 = .ok (.iconst 0, 1) := by decide +kernel
theorem dX4_floodTo_68 : decode cX4_floodTo 68 = .ok (.istore 6, 2) := by decide +kernel
theorem dX4_floodTo_70 : decode cX4_floodTo 70 = .ok (.iload 6, 2) := by decide +kernel
theorem dX4_floodTo_72 : decode cX4_floodTo 72 = .ok (.iconst 4, 1) := by decide +kernel
theorem dX4_floodTo_73 : decode cX4_floodTo 73 = .ok (.if_icmp .ge 53, 3) := by decide +kernel
theorem dX4_floodTo_76 : decode cX4_floodTo 76 = .ok (.aload_n 1, 1) := by decide +kernel
theorem dX4_floodTo_77 : decode cX4_floodTo 77 = .ok (.iload 5, 2) := by decide +kernel
theorem dX4_floodTo_79 : decode cX4_floodTo 79 = .ok (.iload 6, 2) := by decide +kernel
theorem dX4_floodTo_81 : decode cX4_floodTo 81 = .ok (.invokevirtual 60, 3) := by decide +kernel
theorem dX4_floodTo_84 : decode cX4_floodTo 84 = .ok (.istore 7, 2) := by decide +kernel
theorem dX4_floodTo_86 : decode cX4_floodTo 86 = .ok (.iload 7, 2) := by decide +kernel
theorem dX4_floodTo_88 : decode cX4_floodTo 88 = .ok (.ifCond .lt 32, 3) := by decide +kernel
theorem dX4_floodTo_91 : decode cX4_floodTo 91 = .ok (.aload_n 0, 1) := by decide +kernel
theorem dX4_floodTo_92 : decode cX4_floodTo 92 = .ok (.getfield 9, 3) := by decide +kernel
theorem dX4_floodTo_95 : decode cX4_floodTo 95 = .ok (.iload 7, 2) := by decide +kernel
theorem dX4_floodTo_97 : decode cX4_floodTo 97 = .ok (.iaload, 1) := by decide +kernel
theorem dX4_floodTo_98 : decode cX4_floodTo 98 = .ok (.ifCond .ge 22, 3) := by decide +kernel
theorem dX4_floodTo_101 : decode cX4_floodTo 101 = .ok (.aload_n 0, 1) := by decide +kernel
theorem dX4_floodTo_102 : decode cX4_floodTo 102 = .ok (.iload 7, 2) := by decide +kernel
theorem dX4_floodTo_104 : decode cX4_floodTo 104 = .ok (.iload 5, 2) := by decide +kernel
theorem dX4_floodTo_106 : decode cX4_floodTo 106 = .ok (.iload 6, 2) := by decide +kernel
theorem dX4_floodTo_108 : decode cX4_floodTo 108 = .ok (.aload_n 0, 1) := by decide +kernel
theorem dX4_floodTo_109 : decode cX4_floodTo 109 = .ok (.getfield 9, 3) := by decide +kernel
theorem dX4_floodTo_112 : decode cX4_floodTo 112 = .ok (.iload 5, 2) := by decide +kernel
theorem dX4_floodTo_114 : decode cX4_floodTo 114 = .ok (.iaload, 1) := by decide +kernel
theorem dX4_floodTo_115 : decode cX4_floodTo 115 = .ok (.iconst 1, 1) := by decide +kernel
theorem dX4_floodTo_116 : decode cX4_floodTo 116 = .ok (.iadd, 1) := by decide +kernel
theorem dX4_floodTo_117 : decode cX4_floodTo 117 = .ok (.invokevirtual 52, 3) := by decide +kernel
theorem dX4_floodTo_120 : decode cX4_floodTo 120 = .ok (.iinc 6 1, 3) := by decide +kernel
theorem dX4_floodTo_123 : decode cX4_floodTo 123 = .ok (.goto (-53), 3) := by decide +kernel
theorem dX4_floodTo_126 : decode cX4_floodTo 126 = .ok (.iinc 4 1, 3) := by decide +kernel
theorem dX4_floodTo_129 : decode cX4_floodTo 129 = .ok (.goto (-102), 3) := by decide +kernel
theorem dX4_floodTo_132 : decode cX4_floodTo 132 = .ok (.iconst (-1), 1) := by decide +kernel
theorem dX4_floodTo_133 : decode cX4_floodTo 133 = .ok (.ireturn, 1) := by decide +kernel
theorem dX4_add_0 : decode cX4_add 0 = .ok (.aload_n 0, 1) := by decide +kernel
theorem dX4_add_1 : decode cX4_add 1 = .ok (.getfield 9, 3) := by decide +kernel
theorem dX4_add_4 : decode cX4_add 4 = .ok (.iload_n 1, 1) := by decide +kernel
theorem dX4_add_5 : decode cX4_add 5 = .ok (.iload 4, 2) := by decide +kernel
theorem dX4_add_7 : decode cX4_add 7 = .ok (.iastore, 1) := by decide +kernel
theorem dX4_add_8 : decode cX4_add 8 = .ok (.aload_n 0, 1) := by decide +kernel
theorem dX4_add_9 : decode cX4_add 9 = .ok (.getfield 15, 3) := by decide +kernel
theorem dX4_add_12 : decode cX4_add 12 = .ok (.iload_n 1, 1) := by decide +kernel
theorem dX4_add_13 : decode cX4_add 13 = .ok (.iload_n 2, 1) := by decide +kernel
theorem dX4_add_14 : decode cX4_add 14 = .ok (.iastore, 1) := by decide +kernel
theorem dX4_add_15 : decode cX4_add 15 = .ok (.aload_n 0, 1) := by decide +kernel
theorem dX4_add_16 : decode cX4_add 16 = .ok (.getfield 18, 3) := by decide +kernel
theorem dX4_add_19 : decode cX4_add 19 = .ok (.iload_n 1, 1) := by decide +kernel
theorem dX4_add_20 : decode cX4_add 20 = .ok (.iload_n 3, 1) := by decide +kernel
theorem dX4_add_21 : decode cX4_add 21 = .ok (.iastore, 1) := by decide +kernel
theorem dX4_add_22 : decode cX4_add 22 = .ok (.aload_n 0, 1) := by decide +kernel
theorem dX4_add_23 : decode cX4_add 23 = .ok (.getfield 21, 3) := by decide +kernel
theorem dX4_add_26 : decode cX4_add 26 = .ok (.aload_n 0, 1) := by decide +kernel
theorem dX4_add_27 : decode cX4_add 27 = .ok (.getfield 33, 3) := by decide +kernel
theorem dX4_add_30 : decode cX4_add 30 = .ok (.iload_n 1, 1) := by decide +kernel
theorem dX4_add_31 : decode cX4_add 31 = .ok (.iastore, 1) := by decide +kernel
theorem dX4_add_32 : decode cX4_add 32 = .ok (.aload_n 0, 1) := by decide +kernel
theorem dX4_add_33 : decode cX4_add 33 = .ok (.dup, 1) := by decide +kernel
theorem dX4_add_34 : decode cX4_add 34 = .ok (.getfield 33, 3) := by decide +kernel
theorem dX4_add_37 : decode cX4_add 37 = .ok (.iconst 1, 1) := by decide +kernel
theorem dX4_add_38 : decode cX4_add 38 = .ok (.iadd, 1) := by decide +kernel
theorem dX4_add_39 : decode cX4_add 39 = .ok (.putfield 33, 3) := by decide +kernel
theorem dX4_add_42 : decode cX4_add 42 = .ok (.return_, 1) := by decide +kernel
theorem dX4_wayToward_0 : decode cX4_wayToward 0 = .ok (.iload_n 1, 1) := by decide +kernel
theorem dX4_wayToward_1 : decode cX4_wayToward 1 = .ok (.istore_n 3, 1) := by decide +kernel
theorem dX4_wayToward_2 : decode cX4_wayToward 2 = .ok (.aload_n 0, 1) := by decide +kernel
theorem dX4_wayToward_3 : decode cX4_wayToward 3 = .ok (.getfield 9, 3) := by decide +kernel
theorem dX4_wayToward_6 : decode cX4_wayToward 6 = .ok (.iload_n 1, 1) := by decide +kernel
theorem dX4_wayToward_7 : decode cX4_wayToward 7 = .ok (.iaload, 1) := by decide +kernel
theorem dX4_wayToward_8 : decode cX4_wayToward 8 = .ok (.iconst 1, 1) := by decide +kernel
theorem dX4_wayToward_9 : decode cX4_wayToward 9 = .ok (.isub, 1) := by decide +kernel
theorem dX4_wayToward_10 : decode cX4_wayToward 10 = .ok (.istore 4, 2) := by decide +kernel
theorem dX4_wayToward_12 : decode cX4_wayToward 12 = .ok (.iload 4, 2) := by decide +kernel
theorem dX4_wayToward_14 : decode cX4_wayToward 14 = .ok (.iload_n 2, 1) := by decide +kernel
theorem dX4_wayToward_15 : decode cX4_wayToward 15 = .ok (.if_icmp .le 16, 3) := by decide +kernel
theorem dX4_wayToward_18 : decode cX4_wayToward 18 = .ok (.aload_n 0, 1) := by decide +kernel
theorem dX4_wayToward_19 : decode cX4_wayToward 19 = .ok (.getfield 15, 3) := by decide +kernel
theorem dX4_wayToward_22 : decode cX4_wayToward 22 = .ok (.iload_n 3, 1) := by decide +kernel
theorem dX4_wayToward_23 : decode cX4_wayToward 23 = .ok (.iaload, 1) := by decide +kernel
theorem dX4_wayToward_24 : decode cX4_wayToward 24 = .ok (.istore_n 3, 1) := by decide +kernel
theorem dX4_wayToward_25 : decode cX4_wayToward 25 = .ok (.iinc 4 (-1), 3) := by decide +kernel
theorem dX4_wayToward_28 : decode cX4_wayToward 28 = .ok (.goto (-16), 3) := by decide +kernel
theorem dX4_wayToward_31 : decode cX4_wayToward 31 = .ok (.aload_n 0, 1) := by decide +kernel
theorem dX4_wayToward_32 : decode cX4_wayToward 32 = .ok (.getfield 18, 3) := by decide +kernel
theorem dX4_wayToward_35 : decode cX4_wayToward 35 = .ok (.iload_n 3, 1) := by decide +kernel
theorem dX4_wayToward_36 : decode cX4_wayToward 36 = .ok (.iaload, 1) := by decide +kernel
theorem dX4_wayToward_37 : decode cX4_wayToward 37 = .ok (.ireturn, 1) := by decide +kernel
theorem dX4_countPlaces_0 : decode cX4_countPlaces 0 = .ok (.aload_n 0, 1) := by decide +kernel
theorem dX4_countPlaces_1 : decode cX4_countPlaces 1 = .ok (.getfield 24, 3) := by decide +kernel
theorem dX4_countPlaces_4 : decode cX4_countPlaces 4 = .ok (.iconst 0, 1) := by decide +kernel
theorem dX4_countPlaces_5 : decode cX4_countPlaces 5 = .ok (.invokestatic 41, 3) := by decide +kernel
theorem dX4_countPlaces_8 : decode cX4_countPlaces 8 = .ok (.iconst 0, 1) := by decide +kernel
theorem dX4_countPlaces_9 : decode cX4_countPlaces 9 = .ok (.istore_n 1, 1) := by decide +kernel
theorem dX4_countPlaces_10 : decode cX4_countPlaces 10 = .ok (.iconst 0, 1) := by decide +kernel
theorem dX4_countPlaces_11 : decode cX4_countPlaces 11 = .ok (.istore_n 2, 1) := by decide +kernel
theorem dX4_countPlaces_12 : decode cX4_countPlaces 12 = .ok (.iload_n 2, 1) := by decide +kernel
theorem dX4_countPlaces_13 : decode cX4_countPlaces 13 = .ok (.aload_n 0, 1) := by decide +kernel
theorem dX4_countPlaces_14 : decode cX4_countPlaces 14 = .ok (.getfield 33, 3) := by decide +kernel
theorem dX4_countPlaces_17 : decode cX4_countPlaces 17 = .ok (.if_icmp .ge 37, 3) := by decide +kernel
theorem dX4_countPlaces_20 : decode cX4_countPlaces 20 = .ok (.aload_n 0, 1) := by decide +kernel
theorem dX4_countPlaces_21 : decode cX4_countPlaces 21 = .ok (.getfield 21, 3) := by decide +kernel
theorem dX4_countPlaces_24 : decode cX4_countPlaces 24 = .ok (.iload_n 2, 1) := by decide +kernel
theorem dX4_countPlaces_25 : decode cX4_countPlaces 25 = .ok (.iaload, 1) := by decide +kernel
theorem dX4_countPlaces_26 : decode cX4_countPlaces 26 = .ok (.bipush 24, 2) := by decide +kernel
theorem dX4_countPlaces_28 : decode cX4_countPlaces 28 = .ok (.idiv, 1) := by decide +kernel
theorem dX4_countPlaces_29 : decode cX4_countPlaces 29 = .ok (.istore_n 3, 1) := by decide +kernel
theorem dX4_countPlaces_30 : decode cX4_countPlaces 30 = .ok (.iload_n 1, 1) := by decide +kernel
theorem dX4_countPlaces_31 : decode cX4_countPlaces 31 = .ok (.iconst 1, 1) := by decide +kernel
theorem dX4_countPlaces_32 : decode cX4_countPlaces 32 = .ok (.aload_n 0, 1) := by decide +kernel
theorem dX4_countPlaces_33 : decode cX4_countPlaces 33 = .ok (.getfield 24, 3) := by decide +kernel
theorem dX4_countPlaces_36 : decode cX4_countPlaces 36 = .ok (.iload_n 3, 1) := by decide +kernel
theorem dX4_countPlaces_37 : decode cX4_countPlaces 37 = .ok (.iaload, 1) := by decide +kernel
theorem dX4_countPlaces_38 : decode cX4_countPlaces 38 = .ok (.isub, 1) := by decide +kernel
theorem dX4_countPlaces_39 : decode cX4_countPlaces 39 = .ok (.iadd, 1) := by decide +kernel
theorem dX4_countPlaces_40 : decode cX4_countPlaces 40 = .ok (.istore_n 1, 1) := by decide +kernel
theorem dX4_countPlaces_41 : decode cX4_countPlaces 41 = .ok (.aload_n 0, 1) := by decide +kernel
theorem dX4_countPlaces_42 : decode cX4_countPlaces 42 = .ok (.getfield 24, 3) := by decide +kernel
theorem dX4_countPlaces_45 : decode cX4_countPlaces 45 = .ok (.iload_n 3, 1) := by decide +kernel
theorem dX4_countPlaces_46 : decode cX4_countPlaces 46 = .ok (.iconst 1, 1) := by decide +kernel
theorem dX4_countPlaces_47 : decode cX4_countPlaces 47 = .ok (.iastore, 1) := by decide +kernel
theorem dX4_countPlaces_48 : decode cX4_countPlaces 48 = .ok (.iinc 2 1, 3) := by decide +kernel
theorem dX4_countPlaces_51 : decode cX4_countPlaces 51 = .ok (.goto (-39), 3) := by decide +kernel
theorem dX4_countPlaces_54 : decode cX4_countPlaces 54 = .ok (.iload_n 1, 1) := by decide +kernel
theorem dX4_countPlaces_55 : decode cX4_countPlaces 55 = .ok (.ireturn, 1) := by decide +kernel
theorem dX4_farthest_0 : decode cX4_farthest 0 = .ok (.aload_n 0, 1) := by decide +kernel
theorem dX4_farthest_1 : decode cX4_farthest 1 = .ok (.getfield 33, 3) := by decide +kernel
theorem dX4_farthest_4 : decode cX4_farthest 4 = .ok (.ifCond .le 22, 3) := by decide +kernel
theorem dX4_farthest_7 : decode cX4_farthest 7 = .ok (.aload_n 0, 1) := by decide +kernel
theorem dX4_farthest_8 : decode cX4_farthest 8 = .ok (.getfield 9, 3) := by decide +kernel
theorem dX4_farthest_11 : decode cX4_farthest 11 = .ok (.aload_n 0, 1) := by decide +kernel
theorem dX4_farthest_12 : decode cX4_farthest 12 = .ok (.getfield 21, 3) := by decide +kernel
theorem dX4_farthest_15 : decode cX4_farthest 15 = .ok (.aload_n 0, 1) := by decide +kernel
theorem dX4_farthest_16 : decode cX4_farthest 16 = .ok (.getfield 33, 3) := by decide +kernel
theorem dX4_farthest_19 : decode cX4_farthest 19 = .ok (.iconst 1, 1) := by decide +kernel
theorem dX4_farthest_20 : decode cX4_farthest 20 = .ok (.isub, 1) := by decide +kernel
theorem dX4_farthest_21 : decode cX4_farthest 21 = .ok (.iaload, 1) := by decide +kernel
theorem dX4_farthest_22 : decode cX4_farthest 22 = .ok (.iaload, 1) := by decide +kernel
theorem dX4_farthest_23 : decode cX4_farthest 23 = .ok (.goto 4, 3) := by decide +kernel
theorem dX4_farthest_26 : decode cX4_farthest 26 = .ok (.iconst 0, 1) := by decide +kernel
theorem dX4_farthest_27 : decode cX4_farthest 27 = .ok (.ireturn, 1) := by decide +kernel
theorem dX4_facesAt_0 : decode cX4_facesAt 0 = .ok (.iconst 0, 1) := by decide +kernel
theorem dX4_facesAt_1 : decode cX4_facesAt 1 = .ok (.istore_n 3, 1) := by decide +kernel
theorem dX4_facesAt_2 : decode cX4_facesAt 2 = .ok (.iconst 0, 1) := by decide +kernel
theorem dX4_facesAt_3 : decode cX4_facesAt 3 = .ok (.istore 4, 2) := by decide +kernel
theorem dX4_facesAt_5 : decode cX4_facesAt 5 = .ok (.iload 4, 2) := by decide +kernel
theorem dX4_facesAt_7 : decode cX4_facesAt 7 = .ok (.aload_n 0, 1) := by decide +kernel
theorem dX4_facesAt_8 : decode cX4_facesAt 8 = .ok (.getfield 33, 3) := by decide +kernel
theorem dX4_facesAt_11 : decode cX4_facesAt 11 = .ok (.if_icmp .ge 39, 3) := by decide +kernel
theorem dX4_facesAt_14 : decode cX4_facesAt 14 = .ok (.aload_n 0, 1) := by decide +kernel
theorem dX4_facesAt_15 : decode cX4_facesAt 15 = .ok (.getfield 21, 3) := by decide +kernel
theorem dX4_facesAt_18 : decode cX4_facesAt 18 = .ok (.iload 4, 2) := by decide +kernel
theorem dX4_facesAt_20 : decode cX4_facesAt 20 = .ok (.iaload, 1) := by decide +kernel
theorem dX4_facesAt_21 : decode cX4_facesAt 21 = .ok (.bipush 24, 2) := by decide +kernel
theorem dX4_facesAt_23 : decode cX4_facesAt 23 = .ok (.idiv, 1) := by decide +kernel
theorem dX4_facesAt_24 : decode cX4_facesAt 24 = .ok (.iload_n 2, 1) := by decide +kernel
theorem dX4_facesAt_25 : decode cX4_facesAt 25 = .ok (.if_icmp .ne 19, 3) := by decide +kernel
theorem dX4_facesAt_28 : decode cX4_facesAt 28 = .ok (.iload_n 3, 1) := by decide +kernel
theorem dX4_facesAt_29 : decode cX4_facesAt 29 = .ok (.iconst 1, 1) := by decide +kernel
theorem dX4_facesAt_30 : decode cX4_facesAt 30 = .ok (.aload_n 1, 1) := by decide +kernel
theorem dX4_facesAt_31 : decode cX4_facesAt 31 = .ok (.aload_n 0, 1) := by decide +kernel
theorem dX4_facesAt_32 : decode cX4_facesAt 32 = .ok (.getfield 21, 3) := by decide +kernel
theorem dX4_facesAt_35 : decode cX4_facesAt 35 = .ok (.iload 4, 2) := by decide +kernel
theorem dX4_facesAt_37 : decode cX4_facesAt 37 = .ok (.iaload, 1) := by decide +kernel
theorem dX4_facesAt_38 : decode cX4_facesAt 38 = .ok (.invokevirtual 64, 3) := by decide +kernel
theorem dX4_facesAt_41 : decode cX4_facesAt 41 = .ok (.ishl, 1) := by decide +kernel
theorem dX4_facesAt_42 : decode cX4_facesAt 42 = .ok (.ior, 1) := by decide +kernel
theorem dX4_facesAt_43 : decode cX4_facesAt 43 = .ok (.istore_n 3, 1) := by decide +kernel
theorem dX4_facesAt_44 : decode cX4_facesAt 44 = .ok (.iinc 4 1, 3) := by decide +kernel
theorem dX4_facesAt_47 : decode cX4_facesAt 47 = .ok (.goto (-42), 3) := by decide +kernel
theorem dX4_facesAt_50 : decode cX4_facesAt 50 = .ok (.iload_n 3, 1) := by decide +kernel
theorem dX4_facesAt_51 : decode cX4_facesAt 51 = .ok (.ireturn, 1) := by decide +kernel
theorem dX4_hasEven_0 : decode cX4_hasEven 0 = .ok (.aload_n 0, 1) := by decide +kernel
theorem dX4_hasEven_1 : decode cX4_hasEven 1 = .ok (.aload_n 1, 1) := by decide +kernel
theorem dX4_hasEven_2 : decode cX4_hasEven 2 = .ok (.invokevirtual 68, 3) := by decide +kernel
theorem dX4_hasEven_5 : decode cX4_hasEven 5 = .ok (.iconst 0, 1) := by decide +kernel
theorem dX4_hasEven_6 : decode cX4_hasEven 6 = .ok (.istore_n 2, 1) := by decide +kernel
theorem dX4_hasEven_7 : decode cX4_hasEven 7 = .ok (.iload_n 2, 1) := by decide +kernel
theorem dX4_hasEven_8 : decode cX4_hasEven 8 = .ok (.aload_n 0, 1) := by decide +kernel
theorem dX4_hasEven_9 : decode cX4_hasEven 9 = .ok (.getfield 33, 3) := by decide +kernel
theorem dX4_hasEven_12 : decode cX4_hasEven 12 = .ok (.if_icmp .ge 68, 3) := by decide +kernel
theorem dX4_hasEven_15 : decode cX4_hasEven 15 = .ok (.iconst 0, 1) := by decide +kernel
theorem dX4_hasEven_16 : decode cX4_hasEven 16 = .ok (.istore_n 3, 1) := by decide +kernel
theorem dX4_hasEven_17 : decode cX4_hasEven 17 = .ok (.iload_n 3, 1) := by decide +kernel
theorem dX4_hasEven_18 : decode cX4_hasEven 18 = .ok (.iconst 4, 1) := by decide +kernel
theorem dX4_hasEven_19 : decode cX4_hasEven 19 = .ok (.if_icmp .ge 55, 3) := by decide +kernel
theorem dX4_hasEven_22 : decode cX4_hasEven 22 = .ok (.aload_n 1, 1) := by decide +kernel
theorem dX4_hasEven_23 : decode cX4_hasEven 23 = .ok (.aload_n 0, 1) := by decide +kernel
theorem dX4_hasEven_24 : decode cX4_hasEven 24 = .ok (.getfield 21, 3) := by decide +kernel
theorem dX4_hasEven_27 : decode cX4_hasEven 27 = .ok (.iload_n 2, 1) := by decide +kernel
theorem dX4_hasEven_28 : decode cX4_hasEven 28 = .ok (.iaload, 1) := by decide +kernel
theorem dX4_hasEven_29 : decode cX4_hasEven 29 = .ok (.iload_n 3, 1) := by decide +kernel
theorem dX4_hasEven_30 : decode cX4_hasEven 30 = .ok (.invokevirtual 60, 3) := by decide +kernel
theorem dX4_hasEven_33 : decode cX4_hasEven 33 = .ok (.istore 4, 2) := by decide +kernel
theorem dX4_hasEven_35 : decode cX4_hasEven 35 = .ok (.iload 4, 2) := by decide +kernel
theorem dX4_hasEven_37 : decode cX4_hasEven 37 = .ok (.ifCond .lt 31, 3) := by decide +kernel
theorem dX4_hasEven_40 : decode cX4_hasEven 40 = .ok (.aload_n 0, 1) := by decide +kernel
theorem dX4_hasEven_41 : decode cX4_hasEven 41 = .ok (.getfield 9, 3) := by decide +kernel
theorem dX4_hasEven_44 : decode cX4_hasEven 44 = .ok (.aload_n 0, 1) := by decide +kernel
theorem dX4_hasEven_45 : decode cX4_hasEven 45 = .ok (.getfield 21, 3) := by decide +kernel
theorem dX4_hasEven_48 : decode cX4_hasEven 48 = .ok (.iload_n 2, 1) := by decide +kernel
theorem dX4_hasEven_49 : decode cX4_hasEven 49 = .ok (.iaload, 1) := by decide +kernel
theorem dX4_hasEven_50 : decode cX4_hasEven 50 = .ok (.iaload, 1) := by decide +kernel
theorem dX4_hasEven_51 : decode cX4_hasEven 51 = .ok (.iconst 1, 1) := by decide +kernel
theorem dX4_hasEven_52 : decode cX4_hasEven 52 = .ok (.iadd, 1) := by decide +kernel
theorem dX4_hasEven_53 : decode cX4_hasEven 53 = .ok (.aload_n 0, 1) := by decide +kernel
theorem dX4_hasEven_54 : decode cX4_hasEven 54 = .ok (.getfield 9, 3) := by decide +kernel
theorem dX4_hasEven_57 : decode cX4_hasEven 57 = .ok (.iload 4, 2) := by decide +kernel
theorem dX4_hasEven_59 : decode cX4_hasEven 59 = .ok (.iaload, 1) := by decide +kernel
theorem dX4_hasEven_60 : decode cX4_hasEven 60 = .ok (.isub, 1) := by decide +kernel
theorem dX4_hasEven_61 : decode cX4_hasEven 61 = .ok (.iconst 2, 1) := by decide +kernel
theorem dX4_hasEven_62 : decode cX4_hasEven 62 = .ok (.irem, 1) := by decide +kernel
theorem dX4_hasEven_63 : decode cX4_hasEven 63 = .ok (.ifCond .eq 5, 3) := by decide +kernel
theorem dX4_hasEven_66 : decode cX4_hasEven 66 = .ok (.iconst 1, 1) := by decide +kernel
theorem dX4_hasEven_67 : decode cX4_hasEven 67 = .ok (.ireturn, 1) := by decide +kernel
theorem dX4_hasEven_68 : decode cX4_hasEven 68 = .ok (.iinc 3 1, 3) := by decide +kernel
theorem dX4_hasEven_71 : decode cX4_hasEven 71 = .ok (.goto (-54), 3) := by decide +kernel
theorem dX4_hasEven_74 : decode cX4_hasEven 74 = .ok (.iinc 2 1, 3) := by decide +kernel
theorem dX4_hasEven_77 : decode cX4_hasEven 77 = .ok (.goto (-70), 3) := by decide +kernel
theorem dX4_hasEven_80 : decode cX4_hasEven 80 = .ok (.iconst 0, 1) := by decide +kernel
theorem dX4_hasEven_81 : decode cX4_hasEven 81 = .ok (.ireturn, 1) := by decide +kernel
theorem dX4_bestFilled_0 : decode cX4_bestFilled 0 = .ok (.aload_n 0, 1) := by decide +kernel
theorem dX4_bestFilled_1 : decode cX4_bestFilled 1 = .ok (.aload_n 1, 1) := by decide +kernel
theorem dX4_bestFilled_2 : decode cX4_bestFilled 2 = .ok (.invokevirtual 68, 3) := by decide +kernel
theorem dX4_bestFilled_5 : decode cX4_bestFilled 5 = .ok (.aload_n 0, 1) := by decide +kernel
theorem dX4_bestFilled_6 : decode cX4_bestFilled 6 = .ok (.getfield 33, 3) := by decide +kernel
theorem dX4_bestFilled_9 : decode cX4_bestFilled 9 = .ok (.istore_n 2, 1) := by decide +kernel
theorem dX4_bestFilled_10 : decode cX4_bestFilled 10 = .ok (.iconst (-1), 1) := by decide +kernel
theorem dX4_bestFilled_11 : decode cX4_bestFilled 11 = .ok (.istore_n 3, 1) := by decide +kernel
theorem dX4_bestFilled_12 : decode cX4_bestFilled 12 = .ok (.iconst 0, 1) := by decide +kernel
theorem dX4_bestFilled_13 : decode cX4_bestFilled 13 = .ok (.istore 4, 2) := by decide +kernel
theorem dX4_bestFilled_15 : decode cX4_bestFilled 15 = .ok (.iload 4, 2) := by decide +kernel
theorem dX4_bestFilled_17 : decode cX4_bestFilled 17 = .ok (.aload_n 1, 1) := by decide +kernel
theorem dX4_bestFilled_18 : decode cX4_bestFilled 18 = .ok (.invokevirtual 72, 3) := by decide +kernel
theorem dX4_bestFilled_21 : decode cX4_bestFilled 21 = .ok (.if_icmp .ge 45, 3) := by decide +kernel
theorem dX4_bestFilled_24 : decode cX4_bestFilled 24 = .ok (.aload_n 1, 1) := by decide +kernel
theorem dX4_bestFilled_25 : decode cX4_bestFilled 25 = .ok (.getfield 76, 3) := by decide +kernel
theorem dX4_bestFilled_28 : decode cX4_bestFilled 28 = .ok (.iload 4, 2) := by decide +kernel
theorem dX4_bestFilled_30 : decode cX4_bestFilled 30 = .ok (.iaload, 1) := by decide +kernel
theorem dX4_bestFilled_31 : decode cX4_bestFilled 31 = .ok (.iconst 1, 1) := by decide +kernel
theorem dX4_bestFilled_32 : decode cX4_bestFilled 32 = .ok (.if_icmp .ne 13, 3) := by decide +kernel
theorem dX4_bestFilled_35 : decode cX4_bestFilled 35 = .ok (.aload_n 0, 1) := by decide +kernel
theorem dX4_bestFilled_36 : decode cX4_bestFilled 36 = .ok (.aload_n 1, 1) := by decide +kernel
theorem dX4_bestFilled_37 : decode cX4_bestFilled 37 = .ok (.iload 4, 2) := by decide +kernel
theorem dX4_bestFilled_39 : decode cX4_bestFilled 39 = .ok (.invokevirtual 79, 3) := by decide +kernel
theorem dX4_bestFilled_42 : decode cX4_bestFilled 42 = .ok (.goto 4, 3) := by decide +kernel
theorem dX4_bestFilled_45 : decode cX4_bestFilled 45 = .ok (.iconst 0, 1) := by decide +kernel
theorem dX4_bestFilled_46 : decode cX4_bestFilled 46 = .ok (.istore 5, 2) := by decide +kernel
theorem dX4_bestFilled_48 : decode cX4_bestFilled 48 = .ok (.iload 5, 2) := by decide +kernel
theorem dX4_bestFilled_50 : decode cX4_bestFilled 50 = .ok (.iload_n 2, 1) := by decide +kernel
theorem dX4_bestFilled_51 : decode cX4_bestFilled 51 = .ok (.if_icmp .le 9, 3) := by decide +kernel
theorem dX4_bestFilled_54 : decode cX4_bestFilled 54 = .ok (.iload 5, 2) := by decide +kernel
theorem dX4_bestFilled_56 : decode cX4_bestFilled 56 = .ok (.istore_n 2, 1) := by decide +kernel
theorem dX4_bestFilled_57 : decode cX4_bestFilled 57 = .ok (.iload 4, 2) := by decide +kernel
theorem dX4_bestFilled_59 : decode cX4_bestFilled 59 = .ok (.istore_n 3, 1) := by decide +kernel
theorem dX4_bestFilled_60 : decode cX4_bestFilled 60 = .ok (.iinc 4 1, 3) := by decide +kernel
theorem dX4_bestFilled_63 : decode cX4_bestFilled 63 = .ok (.goto (-48), 3) := by decide +kernel
theorem dX4_bestFilled_66 : decode cX4_bestFilled 66 = .ok (.iload_n 3, 1) := by decide +kernel
theorem dX4_bestFilled_67 : decode cX4_bestFilled 67 = .ok (.ireturn, 1) := by decide +kernel
theorem dX4_statesFilled_0 : decode cX4_statesFilled 0 = .ok (.aload_n 1, 1) := by decide +kernel
theorem dX4_statesFilled_1 : decode cX4_statesFilled 1 = .ok (.getfield 76, 3) := by decide +kernel
theorem dX4_statesFilled_4 : decode cX4_statesFilled 4 = .ok (.iload_n 2, 1) := by decide +kernel
theorem dX4_statesFilled_5 : decode cX4_statesFilled 5 = .ok (.iconst 0, 1) := by decide +kernel
theorem dX4_statesFilled_6 : decode cX4_statesFilled 6 = .ok (.iastore, 1) := by decide +kernel
theorem dX4_statesFilled_7 : decode cX4_statesFilled 7 = .ok (.aload_n 0, 1) := by decide +kernel
theorem dX4_statesFilled_8 : decode cX4_statesFilled 8 = .ok (.aload_n 1, 1) := by decide +kernel
theorem dX4_statesFilled_9 : decode cX4_statesFilled 9 = .ok (.iconst (-1), 1) := by decide +kernel
theorem dX4_statesFilled_10 : decode cX4_statesFilled 10 = .ok (.iconst (-1), 1) := by decide +kernel
theorem dX4_statesFilled_11 : decode cX4_statesFilled 11 = .ok (.invokevirtual 37, 3) := by decide +kernel
theorem dX4_statesFilled_14 : decode cX4_statesFilled 14 = .ok (.pop, 1) := by decide +kernel
theorem dX4_statesFilled_15 : decode cX4_statesFilled 15 = .ok (.aload_n 1, 1) := by decide +kernel
theorem dX4_statesFilled_16 : decode cX4_statesFilled 16 = .ok (.getfield 76, 3) := by decide +kernel
theorem dX4_statesFilled_19 : decode cX4_statesFilled 19 = .ok (.iload_n 2, 1) := by decide +kernel
theorem dX4_statesFilled_20 : decode cX4_statesFilled 20 = .ok (.iconst 1, 1) := by decide +kernel
theorem dX4_statesFilled_21 : decode cX4_statesFilled 21 = .ok (.iastore, 1) := by decide +kernel
theorem dX4_statesFilled_22 : decode cX4_statesFilled 22 = .ok (.aload_n 0, 1) := by decide +kernel
theorem dX4_statesFilled_23 : decode cX4_statesFilled 23 = .ok (.getfield 33, 3) := by decide +kernel
theorem dX4_statesFilled_26 : decode cX4_statesFilled 26 = .ok (.ireturn, 1) := by decide +kernel
theorem dX4_tilesNeeded_0 : decode cX4_tilesNeeded 0 = .ok (.aload_n 0, 1) := by decide +kernel
theorem dX4_tilesNeeded_1 : decode cX4_tilesNeeded 1 = .ok (.aload_n 1, 1) := by decide +kernel
theorem dX4_tilesNeeded_2 : decode cX4_tilesNeeded 2 = .ok (.iload_n 2, 1) := by decide +kernel
theorem dX4_tilesNeeded_3 : decode cX4_tilesNeeded 3 = .ok (.iconst (-1), 1) := by decide +kernel
theorem dX4_tilesNeeded_4 : decode cX4_tilesNeeded 4 = .ok (.invokevirtual 37, 3) := by decide +kernel
theorem dX4_tilesNeeded_7 : decode cX4_tilesNeeded 7 = .ok (.istore_n 3, 1) := by decide +kernel
theorem dX4_tilesNeeded_8 : decode cX4_tilesNeeded 8 = .ok (.iload_n 3, 1) := by decide +kernel
theorem dX4_tilesNeeded_9 : decode cX4_tilesNeeded 9 = .ok (.ifCond .ge 5, 3) := by decide +kernel
theorem dX4_tilesNeeded_12 : decode cX4_tilesNeeded 12 = .ok (.lconst 0, 1) := by decide +kernel
theorem dX4_tilesNeeded_13 : decode cX4_tilesNeeded 13 = .ok (.lreturn, 1) := by decide +kernel
theorem dX4_tilesNeeded_14 : decode cX4_tilesNeeded 14 = .ok (.aload_n 0, 1) := by decide +kernel
theorem dX4_tilesNeeded_15 : decode cX4_tilesNeeded 15 = .ok (.getfield 9, 3) := by decide +kernel
theorem dX4_tilesNeeded_18 : decode cX4_tilesNeeded 18 = .ok (.iload_n 3, 1) := by decide +kernel
theorem dX4_tilesNeeded_19 : decode cX4_tilesNeeded 19 = .ok (.iaload, 1) := by decide +kernel
theorem dX4_tilesNeeded_20 : decode cX4_tilesNeeded 20 = .ok (.istore 4, 2) := by decide +kernel
theorem dX4_tilesNeeded_22 : decode cX4_tilesNeeded 22 = .ok (.aload_n 0, 1) := by decide +kernel
theorem dX4_tilesNeeded_23 : decode cX4_tilesNeeded 23 = .ok (.aload_n 1, 1) := by decide +kernel
theorem dX4_tilesNeeded_24 : decode cX4_tilesNeeded 24 = .ok (.iload_n 3, 1) := by decide +kernel
theorem dX4_tilesNeeded_25 : decode cX4_tilesNeeded 25 = .ok (.invokevirtual 83, 3) := by decide +kernel
theorem dX4_tilesNeeded_28 : decode cX4_tilesNeeded 28 = .ok (.aload_n 1, 1) := by decide +kernel
theorem dX4_tilesNeeded_29 : decode cX4_tilesNeeded 29 = .ok (.aload_n 1, 1) := by decide +kernel
theorem dX4_tilesNeeded_30 : decode cX4_tilesNeeded 30 = .ok (.getfield 47, 3) := by decide +kernel
theorem dX4_tilesNeeded_33 : decode cX4_tilesNeeded 33 = .ok (.invokevirtual 87, 3) := by decide +kernel
theorem dX4_tilesNeeded_36 : decode cX4_tilesNeeded 36 = .ok (.ldc2_w 91, 3) := by decide +kernel
theorem dX4_tilesNeeded_39 : decode cX4_tilesNeeded 39 = .ok (.lxor, 1) := by decide +kernel
theorem dX4_tilesNeeded_40 : decode cX4_tilesNeeded 40 = .ok (.land, 1) := by decide +kernel
theorem dX4_tilesNeeded_41 : decode cX4_tilesNeeded 41 = .ok (.lstore 5, 2) := by decide +kernel
theorem dX4_tilesNeeded_43 : decode cX4_tilesNeeded 43 = .ok (.lconst 0, 1) := by decide +kernel
theorem dX4_tilesNeeded_44 : decode cX4_tilesNeeded 44 = .ok (.lstore 7, 2) := by decide +kernel
theorem dX4_tilesNeeded_46 : decode cX4_tilesNeeded 46 = .ok (.iconst 0, 1) := by decide +kernel
theorem dX4_tilesNeeded_47 : decode cX4_tilesNeeded 47 = .ok (.istore 9, 2) := by decide +kernel
theorem dX4_tilesNeeded_49 : decode cX4_tilesNeeded 49 = .ok (.iload 9, 2) := by decide +kernel
theorem dX4_tilesNeeded_51 : decode cX4_tilesNeeded 51 = .ok (.aload_n 1, 1) := by decide +kernel
theorem dX4_tilesNeeded_52 : decode cX4_tilesNeeded 52 = .ok (.invokevirtual 72, 3) := by decide +kernel
theorem dX4_tilesNeeded_55 : decode cX4_tilesNeeded 55 = .ok (.if_icmp .ge 43, 3) := by decide +kernel
theorem dX4_tilesNeeded_58 : decode cX4_tilesNeeded 58 = .ok (.lload 5, 2) := by decide +kernel
theorem dX4_tilesNeeded_60 : decode cX4_tilesNeeded 60 = .ok (.iload 9, 2) := by decide +kernel
theorem dX4_tilesNeeded_62 : decode cX4_tilesNeeded 62 = .ok (.lshr, 1) := by decide +kernel
theorem dX4_tilesNeeded_63 : decode cX4_tilesNeeded 63 = .ok (.lconst 1, 1) := by decide +kernel
theorem dX4_tilesNeeded_64 : decode cX4_tilesNeeded 64 = .ok (.land, 1) := by decide +kernel
theorem dX4_tilesNeeded_65 : decode cX4_tilesNeeded 65 = .ok (.lconst 1, 1) := by decide +kernel
theorem dX4_tilesNeeded_66 : decode cX4_tilesNeeded 66 = .ok (.lcmp, 1) := by decide +kernel
theorem dX4_tilesNeeded_67 : decode cX4_tilesNeeded 67 = .ok (.ifCond .ne 25, 3) := by decide +kernel
theorem dX4_tilesNeeded_70 : decode cX4_tilesNeeded 70 = .ok (.aload_n 0, 1) := by decide +kernel
theorem dX4_tilesNeeded_71 : decode cX4_tilesNeeded 71 = .ok (.aload_n 1, 1) := by decide +kernel
theorem dX4_tilesNeeded_72 : decode cX4_tilesNeeded 72 = .ok (.iload 9, 2) := by decide +kernel
theorem dX4_tilesNeeded_74 : decode cX4_tilesNeeded 74 = .ok (.iload_n 2, 1) := by decide +kernel
theorem dX4_tilesNeeded_75 : decode cX4_tilesNeeded 75 = .ok (.iload 4, 2) := by decide +kernel
theorem dX4_tilesNeeded_77 : decode cX4_tilesNeeded 77 = .ok (.invokevirtual 93, 3) := by decide +kernel
theorem dX4_tilesNeeded_80 : decode cX4_tilesNeeded 80 = .ok (.ifCond .eq 12, 3) := by decide +kernel
theorem dX4_tilesNeeded_83 : decode cX4_tilesNeeded 83 = .ok (.lload 7, 2) := by decide +kernel
theorem dX4_tilesNeeded_85 : decode cX4_tilesNeeded 85 = .ok (.lconst 1, 1) := by decide +kernel
theorem dX4_tilesNeeded_86 : decode cX4_tilesNeeded 86 = .ok (.iload 9, 2) := by decide +kernel
theorem dX4_tilesNeeded_88 : decode cX4_tilesNeeded 88 = .ok (.lshl, 1) := by decide +kernel
theorem dX4_tilesNeeded_89 : decode cX4_tilesNeeded 89 = .ok (.lor, 1) := by decide +kernel
theorem dX4_tilesNeeded_90 : decode cX4_tilesNeeded 90 = .ok (.lstore 7, 2) := by decide +kernel
theorem dX4_tilesNeeded_92 : decode cX4_tilesNeeded 92 = .ok (.iinc 9 1, 3) := by decide +kernel
theorem dX4_tilesNeeded_95 : decode cX4_tilesNeeded 95 = .ok (.goto (-46), 3) := by decide +kernel
theorem dX4_tilesNeeded_98 : decode cX4_tilesNeeded 98 = .ok (.lload 7, 2) := by decide +kernel
theorem dX4_tilesNeeded_100 : decode cX4_tilesNeeded 100 = .ok (.lreturn, 1) := by decide +kernel
theorem dX4_tilesToward_0 : decode cX4_tilesToward 0 = .ok (.lconst 0, 1) := by decide +kernel
theorem dX4_tilesToward_1 : decode cX4_tilesToward 1 = .ok (.lstore_n 3, 1) := by decide +kernel
theorem dX4_tilesToward_2 : decode cX4_tilesToward 2 = .ok (.iload_n 2, 1) := by decide +kernel
theorem dX4_tilesToward_3 : decode cX4_tilesToward 3 = .ok (.istore 5, 2) := by decide +kernel
theorem dX4_tilesToward_5 : decode cX4_tilesToward 5 = .ok (.aload_n 0, 1) := by decide +kernel
theorem dX4_tilesToward_6 : decode cX4_tilesToward 6 = .ok (.getfield 9, 3) := by decide +kernel
theorem dX4_tilesToward_9 : decode cX4_tilesToward 9 = .ok (.iload_n 2, 1) := by decide +kernel
theorem dX4_tilesToward_10 : decode cX4_tilesToward 10 = .ok (.iaload, 1) := by decide +kernel
theorem dX4_tilesToward_11 : decode cX4_tilesToward 11 = .ok (.istore 6, 2) := by decide +kernel
theorem dX4_tilesToward_13 : decode cX4_tilesToward 13 = .ok (.iload 6, 2) := by decide +kernel
theorem dX4_tilesToward_15 : decode cX4_tilesToward 15 = .ok (.ifCond .le 27, 3) := by decide +kernel
theorem dX4_tilesToward_18 : decode cX4_tilesToward 18 = .ok (.lload_n 3, 1) := by decide +kernel
theorem dX4_tilesToward_19 : decode cX4_tilesToward 19 = .ok (.aload_n 1, 1) := by decide +kernel
theorem dX4_tilesToward_20 : decode cX4_tilesToward 20 = .ok (.iload 5, 2) := by decide +kernel
theorem dX4_tilesToward_22 : decode cX4_tilesToward 22 = .ok (.invokevirtual 87, 3) := by decide +kernel
theorem dX4_tilesToward_25 : decode cX4_tilesToward 25 = .ok (.lor, 1) := by decide +kernel
theorem dX4_tilesToward_26 : decode cX4_tilesToward 26 = .ok (.lstore_n 3, 1) := by decide +kernel
theorem dX4_tilesToward_27 : decode cX4_tilesToward 27 = .ok (.aload_n 0, 1) := by decide +kernel
theorem dX4_tilesToward_28 : decode cX4_tilesToward 28 = .ok (.getfield 15, 3) := by decide +kernel
theorem dX4_tilesToward_31 : decode cX4_tilesToward 31 = .ok (.iload 5, 2) := by decide +kernel
theorem dX4_tilesToward_33 : decode cX4_tilesToward 33 = .ok (.iaload, 1) := by decide +kernel
theorem dX4_tilesToward_34 : decode cX4_tilesToward 34 = .ok (.istore 5, 2) := by decide +kernel
theorem dX4_tilesToward_36 : decode cX4_tilesToward 36 = .ok (.iinc 6 (-1), 3) := by decide +kernel
theorem dX4_tilesToward_39 : decode cX4_tilesToward 39 = .ok (.goto (-26), 3) := by decide +kernel
theorem dX4_tilesToward_42 : decode cX4_tilesToward 42 = .ok (.lload_n 3, 1) := by decide +kernel
theorem dX4_tilesToward_43 : decode cX4_tilesToward 43 = .ok (.lreturn, 1) := by decide +kernel
theorem dX4_isLaterWithout_0 : decode cX4_isLaterWithout 0 = .ok (.aload_n 1, 1) := by decide +kernel
theorem dX4_isLaterWithout_1 : decode cX4_isLaterWithout 1 = .ok (.getfield 76, 3) := by decide +kernel
theorem dX4_isLaterWithout_4 : decode cX4_isLaterWithout 4 = .ok (.iload_n 2, 1) := by decide +kernel
theorem dX4_isLaterWithout_5 : decode cX4_isLaterWithout 5 = .ok (.iaload, 1) := by decide +kernel
theorem dX4_isLaterWithout_6 : decode cX4_isLaterWithout 6 = .ok (.istore 5, 2) := by decide +kernel
theorem dX4_isLaterWithout_8 : decode cX4_isLaterWithout 8 = .ok (.aload_n 1, 1) := by decide +kernel
theorem dX4_isLaterWithout_9 : decode cX4_isLaterWithout 9 = .ok (.getfield 76, 3) := by decide +kernel
theorem dX4_isLaterWithout_12 : decode cX4_isLaterWithout 12 = .ok (.iload_n 2, 1) := by decide +kernel
theorem dX4_isLaterWithout_13 : decode cX4_isLaterWithout 13 = .ok (.iconst 1, 1) := by decide +kernel
theorem dX4_isLaterWithout_14 : decode cX4_isLaterWithout 14 = .ok (.iastore, 1) := by decide +kernel
theorem dX4_isLaterWithout_15 : decode cX4_isLaterWithout 15 = .ok (.aload_n 0, 1) := by decide +kernel
theorem dX4_isLaterWithout_16 : decode cX4_isLaterWithout 16 = .ok (.aload_n 1, 1) := by decide +kernel
theorem dX4_isLaterWithout_17 : decode cX4_isLaterWithout 17 = .ok (.iload_n 3, 1) := by decide +kernel
theorem dX4_isLaterWithout_18 : decode cX4_isLaterWithout 18 = .ok (.iconst (-1), 1) := by decide +kernel
theorem dX4_isLaterWithout_19 : decode cX4_isLaterWithout 19 = .ok (.invokevirtual 37, 3) := by decide +kernel
theorem dX4_isLaterWithout_22 : decode cX4_isLaterWithout 22 = .ok (.istore 6, 2) := by decide +kernel
theorem dX4_isLaterWithout_24 : decode cX4_isLaterWithout 24 = .ok (.aload_n 1, 1) := by decide +kernel
theorem dX4_isLaterWithout_25 : decode cX4_isLaterWithout 25 = .ok (.getfield 76, 3) := by decide +kernel
theorem dX4_isLaterWithout_28 : decode cX4_isLaterWithout 28 = .ok (.iload_n 2, 1) := by decide +kernel
theorem dX4_isLaterWithout_29 : decode cX4_isLaterWithout 29 = .ok (.iload 5, 2) := by decide +kernel
theorem dX4_isLaterWithout_31 : decode cX4_isLaterWithout 31 = .ok (.iastore, 1) := by decide +kernel
theorem dX4_isLaterWithout_32 : decode cX4_isLaterWithout 32 = .ok (.iload 6, 2) := by decide +kernel
theorem dX4_isLaterWithout_34 : decode cX4_isLaterWithout 34 = .ok (.ifCond .lt 15, 3) := by decide +kernel
theorem dX4_isLaterWithout_37 : decode cX4_isLaterWithout 37 = .ok (.aload_n 0, 1) := by decide +kernel
theorem dX4_isLaterWithout_38 : decode cX4_isLaterWithout 38 = .ok (.getfield 9, 3) := by decide +kernel
theorem dX4_isLaterWithout_41 : decode cX4_isLaterWithout 41 = .ok (.iload 6, 2) := by decide +kernel
theorem dX4_isLaterWithout_43 : decode cX4_isLaterWithout 43 = .ok (.iaload, 1) := by decide +kernel
theorem dX4_isLaterWithout_44 : decode cX4_isLaterWithout 44 = .ok (.iload 4, 2) := by decide +kernel
theorem dX4_isLaterWithout_46 : decode cX4_isLaterWithout 46 = .ok (.if_icmp .le 7, 3) := by decide +kernel
theorem dX4_isLaterWithout_49 : decode cX4_isLaterWithout 49 = .ok (.iconst 1, 1) := by decide +kernel
theorem dX4_isLaterWithout_50 : decode cX4_isLaterWithout 50 = .ok (.goto 4, 3) := by decide +kernel
theorem dX4_isLaterWithout_53 : decode cX4_isLaterWithout 53 = .ok (.iconst 0, 1) := by decide +kernel
theorem dX4_isLaterWithout_54 : decode cX4_isLaterWithout 54 = .ok (.ireturn, 1) := by decide +kernel
theorem dX4_rollsToPaint_0 : decode cX4_rollsToPaint 0 = .ok (.aload_n 0, 1) := by decide +kernel
theorem dX4_rollsToPaint_1 : decode cX4_rollsToPaint 1 = .ok (.aload_n 1, 1) := by decide +kernel
theorem dX4_rollsToPaint_2 : decode cX4_rollsToPaint 2 = .ok (.invokevirtual 68, 3) := by decide +kernel
theorem dX4_rollsToPaint_5 : decode cX4_rollsToPaint 5 = .ok (.iconst 0, 1) := by decide +kernel
theorem dX4_rollsToPaint_6 : decode cX4_rollsToPaint 6 = .ok (.istore 4, 2) := by decide +kernel
theorem dX4_rollsToPaint_8 : decode cX4_rollsToPaint 8 = .ok (.iload 4, 2) := by decide +kernel
theorem dX4_rollsToPaint_10 : decode cX4_rollsToPaint 10 = .ok (.aload_n 0, 1) := by decide +kernel
theorem dX4_rollsToPaint_11 : decode cX4_rollsToPaint 11 = .ok (.getfield 33, 3) := by decide +kernel
theorem dX4_rollsToPaint_14 : decode cX4_rollsToPaint 14 = .ok (.if_icmp .ge 84, 3) := by decide +kernel
theorem dX4_rollsToPaint_17 : decode cX4_rollsToPaint 17 = .ok (.iconst 0, 1) := by decide +kernel
theorem dX4_rollsToPaint_18 : decode cX4_rollsToPaint 18 = .ok (.istore 5, 2) := by decide +kernel
theorem dX4_rollsToPaint_20 : decode cX4_rollsToPaint 20 = .ok (.iload 5, 2) := by decide +kernel
theorem dX4_rollsToPaint_22 : decode cX4_rollsToPaint 22 = .ok (.iconst 4, 1) := by decide +kernel
theorem dX4_rollsToPaint_23 : decode cX4_rollsToPaint 23 = .ok (.if_icmp .ge 69, 3) := by decide +kernel
theorem dX4_rollsToPaint_26 : decode cX4_rollsToPaint 26 = .ok (.aload_n 1, 1) := by decide +kernel
theorem dX4_rollsToPaint_27 : decode cX4_rollsToPaint 27 = .ok (.aload_n 0, 1) := by decide +kernel
theorem dX4_rollsToPaint_28 : decode cX4_rollsToPaint 28 = .ok (.getfield 21, 3) := by decide +kernel
theorem dX4_rollsToPaint_31 : decode cX4_rollsToPaint 31 = .ok (.iload 4, 2) := by decide +kernel
theorem dX4_rollsToPaint_33 : decode cX4_rollsToPaint 33 = .ok (.iaload, 1) := by decide +kernel
theorem dX4_rollsToPaint_34 : decode cX4_rollsToPaint 34 = .ok (.iload 5, 2) := by decide +kernel
theorem dX4_rollsToPaint_36 : decode cX4_rollsToPaint 36 = .ok (.invokevirtual 60, 3) := by decide +kernel
theorem dX4_rollsToPaint_39 : decode cX4_rollsToPaint 39 = .ok (.istore 6, 2) := by decide +kernel
theorem dX4_rollsToPaint_41 : decode cX4_rollsToPaint 41 = .ok (.iload 6, 2) := by decide +kernel
theorem dX4_rollsToPaint_43 : decode cX4_rollsToPaint 43 = .ok (.ifCond .lt 43, 3) := by decide +kernel
theorem dX4_rollsToPaint_46 : decode cX4_rollsToPaint 46 = .ok (.aload_n 1, 1) := by decide +kernel
theorem dX4_rollsToPaint_47 : decode cX4_rollsToPaint 47 = .ok (.iload 6, 2) := by decide +kernel
theorem dX4_rollsToPaint_49 : decode cX4_rollsToPaint 49 = .ok (.invokevirtual 64, 3) := by decide +kernel
theorem dX4_rollsToPaint_52 : decode cX4_rollsToPaint 52 = .ok (.iload_n 3, 1) := by decide +kernel
theorem dX4_rollsToPaint_53 : decode cX4_rollsToPaint 53 = .ok (.if_icmp .ne 33, 3) := by decide +kernel
theorem dX4_rollsToPaint_56 : decode cX4_rollsToPaint 56 = .ok (.aload_n 1, 1) := by decide +kernel
theorem dX4_rollsToPaint_57 : decode cX4_rollsToPaint 57 = .ok (.iload 6, 2) := by decide +kernel
theorem dX4_rollsToPaint_59 : decode cX4_rollsToPaint 59 = .ok (.invokevirtual 87, 3) := by decide +kernel
theorem dX4_rollsToPaint_62 : decode cX4_rollsToPaint 62 = .ok (.iload_n 2, 1) := by decide +kernel
theorem dX4_rollsToPaint_63 : decode cX4_rollsToPaint 63 = .ok (.lshr, 1) := by decide +kernel
theorem dX4_rollsToPaint_64 : decode cX4_rollsToPaint 64 = .ok (.lconst 1, 1) := by decide +kernel
theorem dX4_rollsToPaint_65 : decode cX4_rollsToPaint 65 = .ok (.land, 1) := by decide +kernel
theorem dX4_rollsToPaint_66 : decode cX4_rollsToPaint 66 = .ok (.lconst 1, 1) := by decide +kernel
theorem dX4_rollsToPaint_67 : decode cX4_rollsToPaint 67 = .ok (.lcmp, 1) := by decide +kernel
theorem dX4_rollsToPaint_68 : decode cX4_rollsToPaint 68 = .ok (.ifCond .ne 18, 3) := by decide +kernel
theorem dX4_rollsToPaint_71 : decode cX4_rollsToPaint 71 = .ok (.aload_n 0, 1) := by decide +kernel
theorem dX4_rollsToPaint_72 : decode cX4_rollsToPaint 72 = .ok (.getfield 9, 3) := by decide +kernel
theorem dX4_rollsToPaint_75 : decode cX4_rollsToPaint 75 = .ok (.aload_n 0, 1) := by decide +kernel
theorem dX4_rollsToPaint_76 : decode cX4_rollsToPaint 76 = .ok (.getfield 21, 3) := by decide +kernel
theorem dX4_rollsToPaint_79 : decode cX4_rollsToPaint 79 = .ok (.iload 4, 2) := by decide +kernel
theorem dX4_rollsToPaint_81 : decode cX4_rollsToPaint 81 = .ok (.iaload, 1) := by decide +kernel
theorem dX4_rollsToPaint_82 : decode cX4_rollsToPaint 82 = .ok (.iaload, 1) := by decide +kernel
theorem dX4_rollsToPaint_83 : decode cX4_rollsToPaint 83 = .ok (.iconst 1, 1) := by decide +kernel
theorem dX4_rollsToPaint_84 : decode cX4_rollsToPaint 84 = .ok (.iadd, 1) := by decide +kernel
theorem dX4_rollsToPaint_85 : decode cX4_rollsToPaint 85 = .ok (.ireturn, 1) := by decide +kernel
theorem dX4_rollsToPaint_86 : decode cX4_rollsToPaint 86 = .ok (.iinc 5 1, 3) := by decide +kernel
theorem dX4_rollsToPaint_89 : decode cX4_rollsToPaint 89 = .ok (.goto (-69), 3) := by decide +kernel
theorem dX4_rollsToPaint_92 : decode cX4_rollsToPaint 92 = .ok (.iinc 4 1, 3) := by decide +kernel
theorem dX4_rollsToPaint_95 : decode cX4_rollsToPaint 95 = .ok (.goto (-87), 3) := by decide +kernel
theorem dX4_rollsToPaint_98 : decode cX4_rollsToPaint 98 = .ok (.bipush (-9), 2) := by decide +kernel
theorem dX4_rollsToPaint_100 : decode cX4_rollsToPaint 100 = .ok (.ireturn, 1) := by decide +kernel
theorem dX4_walksEndingAt_0 : decode cX4_walksEndingAt 0 = .ok (.aload_n 0, 1) := by decide +kernel
theorem dX4_walksEndingAt_1 : decode cX4_walksEndingAt 1 = .ok (.getfield 27, 3) := by decide +kernel
theorem dX4_walksEndingAt_4 : decode cX4_walksEndingAt 4 = .ok (.iconst 0, 1) := by decide +kernel
theorem dX4_walksEndingAt_5 : decode cX4_walksEndingAt 5 = .ok (.invokestatic 41, 3) := by decide +kernel
theorem dX4_walksEndingAt_8 : decode cX4_walksEndingAt 8 = .ok (.aload_n 0, 1) := by decide +kernel
theorem dX4_walksEndingAt_9 : decode cX4_walksEndingAt 9 = .ok (.getfield 27, 3) := by decide +kernel
theorem dX4_walksEndingAt_12 : decode cX4_walksEndingAt 12 = .ok (.aload_n 1, 1) := by decide +kernel
theorem dX4_walksEndingAt_13 : decode cX4_walksEndingAt 13 = .ok (.getfield 47, 3) := by decide +kernel
theorem dX4_walksEndingAt_16 : decode cX4_walksEndingAt 16 = .ok (.iconst 1, 1) := by decide +kernel
theorem dX4_walksEndingAt_17 : decode cX4_walksEndingAt 17 = .ok (.iastore, 1) := by decide +kernel
theorem dX4_walksEndingAt_18 : decode cX4_walksEndingAt 18 = .ok (.iconst 0, 1) := by decide +kernel
theorem dX4_walksEndingAt_19 : decode cX4_walksEndingAt 19 = .ok (.istore 4, 2) := by decide +kernel
theorem dX4_walksEndingAt_21 : decode cX4_walksEndingAt 21 = .ok (.iload 4, 2) := by decide +kernel
theorem dX4_walksEndingAt_23 : decode cX4_walksEndingAt 23 = .ok (.iload_n 2, 1) := by decide +kernel
theorem dX4_walksEndingAt_24 : decode cX4_walksEndingAt 24 = .ok (.if_icmp .ge 14, 3) := by decide +kernel
theorem dX4_walksEndingAt_27 : decode cX4_walksEndingAt 27 = .ok (.aload_n 0, 1) := by decide +kernel
theorem dX4_walksEndingAt_28 : decode cX4_walksEndingAt 28 = .ok (.aload_n 1, 1) := by decide +kernel
theorem dX4_walksEndingAt_29 : decode cX4_walksEndingAt 29 = .ok (.invokevirtual 97, 3) := by decide +kernel
theorem dX4_walksEndingAt_32 : decode cX4_walksEndingAt 32 = .ok (.iinc 4 1, 3) := by decide +kernel
theorem dX4_walksEndingAt_35 : decode cX4_walksEndingAt 35 = .ok (.goto (-14), 3) := by decide +kernel
theorem dX4_walksEndingAt_38 : decode cX4_walksEndingAt 38 = .ok (.lconst 0, 1) := by decide +kernel
theorem dX4_walksEndingAt_39 : decode cX4_walksEndingAt 39 = .ok (.lstore 4, 2) := by decide +kernel
theorem dX4_walksEndingAt_41 : decode cX4_walksEndingAt 41 = .ok (.iconst 0, 1) := by decide +kernel
theorem dX4_walksEndingAt_42 : decode cX4_walksEndingAt 42 = .ok (.istore 6, 2) := by decide +kernel
theorem dX4_walksEndingAt_44 : decode cX4_walksEndingAt 44 = .ok (.iload 6, 2) := by decide +kernel
theorem dX4_walksEndingAt_46 : decode cX4_walksEndingAt 46 = .ok (.bipush 24, 2) := by decide +kernel
theorem dX4_walksEndingAt_48 : decode cX4_walksEndingAt 48 = .ok (.if_icmp .ge 27, 3) := by decide +kernel
theorem dX4_walksEndingAt_51 : decode cX4_walksEndingAt 51 = .ok (.lload 4, 2) := by decide +kernel
theorem dX4_walksEndingAt_53 : decode cX4_walksEndingAt 53 = .ok (.aload_n 0, 1) := by decide +kernel
theorem dX4_walksEndingAt_54 : decode cX4_walksEndingAt 54 = .ok (.getfield 27, 3) := by decide +kernel
theorem dX4_walksEndingAt_57 : decode cX4_walksEndingAt 57 = .ok (.iload_n 3, 1) := by decide +kernel
theorem dX4_walksEndingAt_58 : decode cX4_walksEndingAt 58 = .ok (.bipush 24, 2) := by decide +kernel
theorem dX4_walksEndingAt_60 : decode cX4_walksEndingAt 60 = .ok (.imul, 1) := by decide +kernel
theorem dX4_walksEndingAt_61 : decode cX4_walksEndingAt 61 = .ok (.iload 6, 2) := by decide +kernel
theorem dX4_walksEndingAt_63 : decode cX4_walksEndingAt 63 = .ok (.iadd, 1) := by decide +kernel
theorem dX4_walksEndingAt_64 : decode cX4_walksEndingAt 64 = .ok (.iaload, 1) := by decide +kernel
theorem dX4_walksEndingAt_65 : decode cX4_walksEndingAt 65 = .ok (.i2l, 1) := by decide +kernel
theorem dX4_walksEndingAt_66 : decode cX4_walksEndingAt 66 = .ok (.ladd, 1) := by decide +kernel
theorem dX4_walksEndingAt_67 : decode cX4_walksEndingAt 67 = .ok (.lstore 4, 2) := by decide +kernel
theorem dX4_walksEndingAt_69 : decode cX4_walksEndingAt 69 = .ok (.iinc 6 1, 3) := by decide +kernel
theorem dX4_walksEndingAt_72 : decode cX4_walksEndingAt 72 = .ok (.goto (-28), 3) := by decide +kernel
theorem dX4_walksEndingAt_75 : decode cX4_walksEndingAt 75 = .ok (.lload 4, 2) := by decide +kernel
theorem dX4_walksEndingAt_77 : decode cX4_walksEndingAt 77 = .ok (.lreturn, 1) := by decide +kernel
theorem dX4_spread_0 : decode cX4_spread 0 = .ok (.aload_n 0, 1) := by decide +kernel
theorem dX4_spread_1 : decode cX4_spread 1 = .ok (.getfield 30, 3) := by decide +kernel
theorem dX4_spread_4 : decode cX4_spread 4 = .ok (.iconst 0, 1) := by decide +kernel
theorem dX4_spread_5 : decode cX4_spread 5 = .ok (.invokestatic 41, 3) := by decide +kernel
theorem dX4_spread_8 : decode cX4_spread 8 = .ok (.iconst 0, 1) := by decide +kernel
theorem dX4_spread_9 : decode cX4_spread 9 = .ok (.istore_n 2, 1) := by decide +kernel
theorem dX4_spread_10 : decode cX4_spread 10 = .ok (.iload_n 2, 1) := by decide +kernel
theorem dX4_spread_11 : decode cX4_spread 11 = .ok (.sipush 1728, 3) := by decide +kernel
theorem dX4_spread_14 : decode cX4_spread 14 = .ok (.if_icmp .ge 64, 3) := by decide +kernel
theorem dX4_spread_17 : decode cX4_spread 17 = .ok (.iconst 0, 1) := by decide +kernel
theorem dX4_spread_18 : decode cX4_spread 18 = .ok (.istore_n 3, 1) := by decide +kernel
theorem dX4_spread_19 : decode cX4_spread 19 = .ok (.iload_n 3, 1) := by decide +kernel
theorem dX4_spread_20 : decode cX4_spread 20 = .ok (.iconst 4, 1) := by decide +kernel
theorem dX4_spread_21 : decode cX4_spread 21 = .ok (.if_icmp .ge 51, 3) := by decide +kernel
theorem dX4_spread_24 : decode cX4_spread 24 = .ok (.aload_n 0, 1) := by decide +kernel
theorem dX4_spread_25 : decode cX4_spread 25 = .ok (.getfield 27, 3) := by decide +kernel
theorem dX4_spread_28 : decode cX4_spread 28 = .ok (.iload_n 2, 1) := by decide +kernel
theorem dX4_spread_29 : decode cX4_spread 29 = .ok (.iaload, 1) := by decide +kernel
theorem dX4_spread_30 : decode cX4_spread 30 = .ok (.ifCond .le 42, 3) := by decide +kernel
theorem dX4_spread_33 : decode cX4_spread 33 = .ok (.aload_n 1, 1) := by decide +kernel
theorem dX4_spread_34 : decode cX4_spread 34 = .ok (.iload_n 2, 1) := by decide +kernel
theorem dX4_spread_35 : decode cX4_spread 35 = .ok (.iload_n 3, 1) := by decide +kernel
theorem dX4_spread_36 : decode cX4_spread 36 = .ok (.invokevirtual 60, 3) := by decide +kernel
theorem dX4_spread_39 : decode cX4_spread 39 = .ok (.istore 4, 2) := by decide +kernel
theorem dX4_spread_41 : decode cX4_spread 41 = .ok (.aload_n 0, 1) := by decide +kernel
theorem dX4_spread_42 : decode cX4_spread 42 = .ok (.getfield 30, 3) := by decide +kernel
theorem dX4_spread_45 : decode cX4_spread 45 = .ok (.iload 4, 2) := by decide +kernel
theorem dX4_spread_47 : decode cX4_spread 47 = .ok (.ifCond .lt 8, 3) := by decide +kernel
theorem dX4_spread_50 : decode cX4_spread 50 = .ok (.iload 4, 2) := by decide +kernel
theorem dX4_spread_52 : decode cX4_spread 52 = .ok (.goto 4, 3) := by decide +kernel
theorem dX4_spread_55 : decode cX4_spread 55 = .ok (.iload_n 2, 1) := by decide +kernel
theorem dX4_spread_56 : decode cX4_spread 56 = .ok (.dup2, 1) := by decide +kernel
theorem dX4_spread_57 : decode cX4_spread 57 = .ok (.iaload, 1) := by decide +kernel
theorem dX4_spread_58 : decode cX4_spread 58 = .ok (.aload_n 0, 1) := by decide +kernel
theorem dX4_spread_59 : decode cX4_spread 59 = .ok (.getfield 27, 3) := by decide +kernel
theorem dX4_spread_62 : decode cX4_spread 62 = .ok (.iload_n 2, 1) := by decide +kernel
theorem dX4_spread_63 : decode cX4_spread 63 = .ok (.iaload, 1) := by decide +kernel
theorem dX4_spread_64 : decode cX4_spread 64 = .ok (.iadd, 1) := by decide +kernel
theorem dX4_spread_65 : decode cX4_spread 65 = .ok (.iastore, 1) := by decide +kernel
theorem dX4_spread_66 : decode cX4_spread 66 = .ok (.iinc 3 1, 3) := by decide +kernel
theorem dX4_spread_69 : decode cX4_spread 69 = .ok (.goto (-50), 3) := by decide +kernel
theorem dX4_spread_72 : decode cX4_spread 72 = .ok (.iinc 2 1, 3) := by decide +kernel
theorem dX4_spread_75 : decode cX4_spread 75 = .ok (.goto (-65), 3) := by decide +kernel
theorem dX4_spread_78 : decode cX4_spread 78 = .ok (.aload_n 0, 1) := by decide +kernel
theorem dX4_spread_79 : decode cX4_spread 79 = .ok (.getfield 30, 3) := by decide +kernel
theorem dX4_spread_82 : decode cX4_spread 82 = .ok (.iconst 0, 1) := by decide +kernel
theorem dX4_spread_83 : decode cX4_spread 83 = .ok (.aload_n 0, 1) := by decide +kernel
theorem dX4_spread_84 : decode cX4_spread 84 = .ok (.getfield 27, 3) := by decide +kernel
theorem dX4_spread_87 : decode cX4_spread 87 = .ok (.iconst 0, 1) := by decide +kernel
theorem dX4_spread_88 : decode cX4_spread 88 = .ok (.sipush 1728, 3) := by decide +kernel
theorem dX4_spread_91 : decode cX4_spread 91 = .ok (.invokestatic 100, 3) := by decide +kernel
theorem dX4_spread_94 : decode cX4_spread 94 = .ok (.return_, 1) := by decide +kernel
theorem dX5_init_0 : decode cX5_init 0 = .ok (.aload_n 0, 1) := by decide +kernel
theorem dX5_init_1 : decode cX5_init 1 = .ok (.invokespecial 3, 3) := by decide +kernel
theorem dX5_init_4 : decode cX5_init 4 = .ok (.aload_n 0, 1) := by decide +kernel
theorem dX5_init_5 : decode cX5_init 5 = .ok (.iload_n 1, 1) := by decide +kernel
theorem dX5_init_6 : decode cX5_init 6 = .ok (.putfield 9, 3) := by decide +kernel
theorem dX5_init_9 : decode cX5_init 9 = .ok (.aload_n 0, 1) := by decide +kernel
theorem dX5_init_10 : decode cX5_init 10 = .ok (.iload_n 2, 1) := by decide +kernel
theorem dX5_init_11 : decode cX5_init 11 = .ok (.putfield 15, 3) := by decide +kernel
theorem dX5_init_14 : decode cX5_init 14 = .ok (.aload_n 0, 1) := by decide +kernel
theorem dX5_init_15 : decode cX5_init 15 = .ok (.bipush 24, 2) := by decide +kernel
theorem dX5_init_17 : decode cX5_init 17 = .ok (.iload_n 1, 1) := by decide +kernel
theorem dX5_init_18 : decode cX5_init 18 = .ok (.imul, 1) := by decide +kernel
theorem dX5_init_19 : decode cX5_init 19 = .ok (.newarray .int, 2) := by decide +kernel
theorem dX5_init_21 : decode cX5_init 21 = .ok (.putfield 18, 3) := by decide +kernel
theorem dX5_init_24 : decode cX5_init 24 = .ok (.aload_n 0, 1) := by decide +kernel
theorem dX5_init_25 : decode cX5_init 25 = .ok (.bipush 24, 2) := by decide +kernel
theorem dX5_init_27 : decode cX5_init 27 = .ok (.iload_n 1, 1) := by decide +kernel
theorem dX5_init_28 : decode cX5_init 28 = .ok (.imul, 1) := by decide +kernel
theorem dX5_init_29 : decode cX5_init 29 = .ok (.newarray .int, 2) := by decide +kernel
theorem dX5_init_31 : decode cX5_init 31 = .ok (.putfield 22, 3) := by decide +kernel
theorem dX5_init_34 : decode cX5_init 34 = .ok (.aload_n 0, 1) := by decide +kernel
theorem dX5_init_35 : decode cX5_init 35 = .ok (.bipush 96, 2) := by decide +kernel
theorem dX5_init_37 : decode cX5_init 37 = .ok (.newarray .int, 2) := by decide +kernel
theorem dX5_init_39 : decode cX5_init 39 = .ok (.putfield 25, 3) := by decide +kernel
theorem dX5_init_42 : decode cX5_init 42 = .ok (.aload_n 0, 1) := by decide +kernel
theorem dX5_init_43 : decode cX5_init 43 = .ok (.iconst 1, 1) := by decide +kernel
theorem dX5_init_44 : decode cX5_init 44 = .ok (.putfield 28, 3) := by decide +kernel
theorem dX5_init_47 : decode cX5_init 47 = .ok (.iconst 0, 1) := by decide +kernel
theorem dX5_init_48 : decode cX5_init 48 = .ok (.istore 4, 2) := by decide +kernel
theorem dX5_init_50 : decode cX5_init 50 = .ok (.iload 4, 2) := by decide +kernel
theorem dX5_init_52 : decode cX5_init 52 = .ok (.iload_n 1, 1) := by decide +kernel
theorem dX5_init_53 : decode cX5_init 53 = .ok (.if_icmp .ge 18, 3) := by decide +kernel
theorem dX5_init_56 : decode cX5_init 56 = .ok (.aload_n 0, 1) := by decide +kernel
theorem dX5_init_57 : decode cX5_init 57 = .ok (.getfield 18, 3) := by decide +kernel
theorem dX5_init_60 : decode cX5_init 60 = .ok (.iload 4, 2) := by decide +kernel
theorem dX5_init_62 : decode cX5_init 62 = .ok (.iload 4, 2) := by decide +kernel
theorem dX5_init_64 : decode cX5_init 64 = .ok (.iastore, 1) := by decide +kernel
theorem dX5_init_65 : decode cX5_init 65 = .ok (.iinc 4 1, 3) := by decide +kernel
theorem dX5_init_68 : decode cX5_init 68 = .ok (.goto (-18), 3) := by decide +kernel
theorem dX5_init_71 : decode cX5_init 71 = .ok (.iload_n 1, 1) := by decide +kernel
theorem dX5_init_72 : decode cX5_init 72 = .ok (.newarray .int, 2) := by decide +kernel
theorem dX5_init_74 : decode cX5_init 74 = .ok (.astore 4, 2) := by decide +kernel
theorem dX5_init_76 : decode cX5_init 76 = .ok (.iconst 0, 1) := by decide +kernel
theorem dX5_init_77 : decode cX5_init 77 = .ok (.istore 5, 2) := by decide +kernel
theorem dX5_init_79 : decode cX5_init 79 = .ok (.iload 5, 2) := by decide +kernel
theorem dX5_init_81 : decode cX5_init 81 = .ok (.bipush 24, 2) := by decide +kernel
theorem dX5_init_83 : decode cX5_init 83 = .ok (.if_icmp .ge 90, 3) := by decide +kernel
theorem dX5_init_86 : decode cX5_init 86 = .ok (.iload 5, 2) := by decide +kernel
theorem dX5_init_88 : decode cX5_init 88 = .ok (.aload_n 0, 1) := by decide +kernel
theorem dX5_init_89 : decode cX5_init 89 = .ok (.getfield 28, 3) := by decide +kernel
theorem dX5_init_92 : decode cX5_init 92 = .ok (.if_icmp .ge 81, 3) := by decide +kernel
theorem dX5_init_95 : decode cX5_init 95 = .ok (.iconst 0, 1) := by decide +kernel
theorem dX5_init_96 : decode cX5_init 96 = .ok (.istore 6, 2) := by decide +kernel
theorem dX5_init_98 : decode cX5_init 98 = .ok (.iload 6, 2) := by decide +kernel
theorem dX5_init_100 : decode cX5_init 100 = .ok (.iconst 4, 1) := by decide +kernel
theorem dX5_init_101 : decode cX5_init 101 = .ok (.if_icmp .ge 66, 3) := by decide +kernel
theorem dX5_init_104 : decode cX5_init 104 = .ok (.iconst 0, 1) := by decide +kernel
theorem dX5_init_105 : decode cX5_init 105 = .ok (.istore 7, 2) := by decide +kernel
theorem dX5_init_107 : decode cX5_init 107 = .ok (.iload 7, 2) := by decide +kernel
theorem dX5_init_109 : decode cX5_init 109 = .ok (.iload_n 1, 1) := by decide +kernel
theorem dX5_init_110 : decode cX5_init 110 = .ok (.if_icmp .ge 33, 3) := by decide +kernel
theorem dX5_init_113 : decode cX5_init 113 = .ok (.aload 4, 2) := by decide +kernel
theorem dX5_init_115 : decode cX5_init 115 = .ok (.iload 7, 2) := by decide +kernel
theorem dX5_init_117 : decode cX5_init 117 = .ok (.aload_n 0, 1) := by decide +kernel
theorem dX5_init_118 : decode cX5_init 118 = .ok (.getfield 18, 3) := by decide +kernel
theorem dX5_init_121 : decode cX5_init 121 = .ok (.iload 5, 2) := by decide +kernel
theorem dX5_init_123 : decode cX5_init 123 = .ok (.iload_n 1, 1) := by decide +kernel
theorem dX5_init_124 : decode cX5_init 124 = .ok (.imul, 1) := by decide +kernel
theorem dX5_init_125 : decode cX5_init 125 = .ok (.aload_n 3, 1) := by decide +kernel
theorem dX5_init_126 : decode cX5_init 126 = .ok (.iload 6, 2) := by decide +kernel
theorem dX5_init_128 : decode cX5_init 128 = .ok (.iload_n 1, 1) := by decide +kernel
theorem dX5_init_129 : decode cX5_init 129 = .ok (.imul, 1) := by decide +kernel
theorem dX5_init_130 : decode cX5_init 130 = .ok (.iload 7, 2) := by decide +kernel
theorem dX5_init_132 : decode cX5_init 132 = .ok (.iadd, 1) := by decide +kernel
theorem dX5_init_133 : decode cX5_init 133 = .ok (.iaload, 1) := by decide +kernel
theorem dX5_init_134 : decode cX5_init 134 = .ok (.iadd, 1) := by decide +kernel
theorem dX5_init_135 : decode cX5_init 135 = .ok (.iaload, 1) := by decide +kernel
theorem dX5_init_136 : decode cX5_init 136 = .ok (.iastore, 1) := by decide +kernel
theorem dX5_init_137 : decode cX5_init 137 = .ok (.iinc 7 1, 3) := by decide +kernel
theorem dX5_init_140 : decode cX5_init 140 = .ok (.goto (-33), 3) := by decide +kernel
theorem dX5_init_143 : decode cX5_init 143 = .ok (.aload_n 0, 1) := by decide +kernel
theorem dX5_init_144 : decode cX5_init 144 = .ok (.getfield 25, 3) := by decide +kernel
theorem dX5_init_147 : decode cX5_init 147 = .ok (.iload 5, 2) := by decide +kernel
theorem dX5_init_149 : decode cX5_init 149 = .ok (.iconst 4, 1) := by decide +kernel
theorem dX5_init_150 : decode cX5_init 150 = .ok (.imul, 1) := by decide +kernel
theorem dX5_init_151 : decode cX5_init 151 = .ok (.iload 6, 2) := by decide +kernel
theorem dX5_init_153 : decode cX5_init 153 = .ok (.iadd, 1) := by decide +kernel
theorem dX5_init_154 : decode cX5_init 154 = .ok (.aload_n 0, 1) := by decide +kernel
theorem dX5_init_155 : decode cX5_init 155 = .ok (.aload 4, 2) := by decide +kernel
theorem dX5_init_157 : decode cX5_init 157 = .ok (.invokevirtual 31, 3) := by decide +kernel
theorem dX5_init_160 : decode cX5_init 160 = .ok (.iastore, 1) := by decide +kernel
theorem dX5_init_161 : decode cX5_init 161 = .ok (.iinc 6 1, 3) := by decide +kernel
theorem dX5_init_164 : decode cX5_init 164 = .ok (.goto (-66), 3) := by decide +kernel
theorem dX5_init_167 : decode cX5_init 167 = .ok (.iinc 5 1, 3) := by decide +kernel
theorem dX5_init_170 : decode cX5_init 170 = .ok (.goto (-91), 3) := by decide +kernel
theorem dX5_init_173 : decode cX5_init 173 = .ok (.aload_n 0, 1) := by decide +kernel
theorem dX5_init_174 : decode cX5_init 174 = .ok (.invokevirtual 35, 3) := by decide +kernel
theorem dX5_init_177 : decode cX5_init 177 = .ok (.return_, 1) := by decide +kernel
theorem dX5_knownAs_0 : decode cX5_knownAs 0 = .ok (.iconst 0, 1) := by decide +kernel
theorem dX5_knownAs_1 : decode cX5_knownAs 1 = .ok (.istore_n 2, 1) := by decide +kernel
theorem dX5_knownAs_2 : decode cX5_knownAs 2 = .ok (.iload_n 2, 1) := by decide +kernel
theorem dX5_knownAs_3 : decode cX5_knownAs 3 = .ok (.aload_n 0, 1) := by decide +kernel
theorem dX5_knownAs_4 : decode cX5_knownAs 4 = .ok (.getfield 28, 3) := by decide +kernel
theorem dX5_knownAs_7 : decode cX5_knownAs 7 = .ok (.if_icmp .ge 20, 3) := by decide +kernel
theorem dX5_knownAs_10 : decode cX5_knownAs 10 = .ok (.aload_n 0, 1) := by decide +kernel
theorem dX5_knownAs_11 : decode cX5_knownAs 11 = .ok (.iload_n 2, 1) := by decide +kernel
theorem dX5_knownAs_12 : decode cX5_knownAs 12 = .ok (.aload_n 1, 1) := by decide +kernel
theorem dX5_knownAs_13 : decode cX5_knownAs 13 = .ok (.invokevirtual 38, 3) := by decide +kernel
theorem dX5_knownAs_16 : decode cX5_knownAs 16 = .ok (.ifCond .eq 5, 3) := by decide +kernel
theorem dX5_knownAs_19 : decode cX5_knownAs 19 = .ok (.iload_n 2, 1) := by decide +kernel
theorem dX5_knownAs_20 : decode cX5_knownAs 20 = .ok (.ireturn, 1) := by decide +kernel
theorem dX5_knownAs_21 : decode cX5_knownAs 21 = .ok (.iinc 2 1, 3) := by decide +kernel
theorem dX5_knownAs_24 : decode cX5_knownAs 24 = .ok (.goto (-22), 3) := by decide +kernel
theorem dX5_knownAs_27 : decode cX5_knownAs 27 = .ok (.aload_n 0, 1) := by decide +kernel
theorem dX5_knownAs_28 : decode cX5_knownAs 28 = .ok (.getfield 28, 3) := by decide +kernel
theorem dX5_knownAs_31 : decode cX5_knownAs 31 = .ok (.bipush 24, 2) := by decide +kernel
theorem dX5_knownAs_33 : decode cX5_knownAs 33 = .ok (.if_icmp .lt 5, 3) := by decide +kernel
theorem dX5_knownAs_36 : decode cX5_knownAs 36 = .ok (.iconst 0, 1) := by decide +kernel
theorem dX5_knownAs_37 : decode cX5_knownAs 37 = .ok (.ireturn, 1) := by decide +kernel
theorem dX5_knownAs_38 : decode cX5_knownAs 38 = .ok (.aload_n 1, 1) := by decide +kernel
theorem dX5_knownAs_39 : decode cX5_knownAs 39 = .ok (.iconst 0, 1) := by decide +kernel
theorem dX5_knownAs_40 : decode cX5_knownAs 40 = .ok (.aload_n 0, 1) := by decide +kernel
theorem dX5_knownAs_41 : decode cX5_knownAs 41 = .ok (.getfield 18, 3) := by decide +kernel
theorem dX5_knownAs_44 : decode cX5_knownAs 44 = .ok (.aload_n 0, 1) := by decide +kernel
theorem dX5_knownAs_45 : decode cX5_knownAs 45 = .ok (.getfield 28, 3) := by decide +kernel
theorem dX5_knownAs_48 : decode cX5_knownAs 48 = .ok (.aload_n 0, 1) := by decide +kernel
theorem dX5_knownAs_49 : decode cX5_knownAs 49 = .ok (.getfield 9, 3) := by decide +kernel
theorem dX5_knownAs_52 : decode cX5_knownAs 52 = .ok (.imul, 1) := by decide +kernel
theorem dX5_knownAs_53 : decode cX5_knownAs 53 = .ok (.aload_n 0, 1) := by decide +kernel
theorem dX5_knownAs_54 : decode cX5_knownAs 54 = .ok (.getfield 9, 3) := by decide +kernel
theorem dX5_knownAs_57 : decode cX5_knownAs 57 = .ok (.invokestatic 42, 3) := by decide +kernel
theorem dX5_knownAs_60 : decode cX5_knownAs 60 = .ok (.aload_n 0, 1) := by decide +kernel
theorem dX5_knownAs_61 : decode cX5_knownAs 61 = .ok (.dup, 1) := by decide +kernel
theorem dX5_knownAs_62 : decode cX5_knownAs 62 = .ok (.getfield 28, 3) := by decide +kernel
theorem dX5_knownAs_65 : decode cX5_knownAs 65 = .ok (.iconst 1, 1) := by decide +kernel
theorem dX5_knownAs_66 : decode cX5_knownAs 66 = .ok (.iadd, 1) := by decide +kernel
theorem dX5_knownAs_67 : decode cX5_knownAs 67 = .ok (.putfield 28, 3) := by decide +kernel
theorem dX5_knownAs_70 : decode cX5_knownAs 70 = .ok (.aload_n 0, 1) := by decide +kernel
theorem dX5_knownAs_71 : decode cX5_knownAs 71 = .ok (.getfield 28, 3) := by decide +kernel
theorem dX5_knownAs_74 : decode cX5_knownAs 74 = .ok (.iconst 1, 1) := by decide +kernel
theorem dX5_knownAs_75 : decode cX5_knownAs 75 = .ok (.isub, 1) := by decide +kernel
theorem dX5_knownAs_76 : decode cX5_knownAs 76 = .ok (.ireturn, 1) := by decide +kernel
theorem dX5_isStance_0 : decode cX5_isStance 0 = .ok (.iconst 0, 1) := by decide +kernel
theorem dX5_isStance_1 : decode cX5_isStance 1 = .ok (.istore_n 3, 1) := by decide +kernel
theorem dX5_isStance_2 : decode cX5_isStance 2 = .ok (.iload_n 3, 1) := by decide +kernel
theorem dX5_isStance_3 : decode cX5_isStance 3 = .ok (.aload_n 0, 1) := by decide +kernel
theorem dX5_isStance_4 : decode cX5_isStance 4 = .ok (.getfield 9, 3) := by decide +kernel
theorem dX5_isStance_7 : decode cX5_isStance 7 = .ok (.if_icmp .ge 30, 3) := by decide +kernel
theorem dX5_isStance_10 : decode cX5_isStance 10 = .ok (.aload_n 0, 1) := by decide +kernel
theorem dX5_isStance_11 : decode cX5_isStance 11 = .ok (.getfield 18, 3) := by decide +kernel
theorem dX5_isStance_14 : decode cX5_isStance 14 = .ok (.iload_n 1, 1) := by decide +kernel
theorem dX5_isStance_15 : decode cX5_isStance 15 = .ok (.aload_n 0, 1) := by decide +kernel
theorem dX5_isStance_16 : decode cX5_isStance 16 = .ok (.getfield 9, 3) := by decide +kernel
theorem dX5_isStance_19 : decode cX5_isStance 19 = .ok (.imul, 1) := by decide +kernel
theorem dX5_isStance_20 : decode cX5_isStance 20 = .ok (.iload_n 3, 1) := by decide +kernel
theorem dX5_isStance_21 : decode cX5_isStance 21 = .ok (.iadd, 1) := by decide +kernel
theorem dX5_isStance_22 : decode cX5_isStance 22 = .ok (.iaload, 1) := by decide +kernel
theorem dX5_isStance_23 : decode cX5_isStance 23 = .ok (.aload_n 2, 1) := by decide +kernel
theorem dX5_isStance_24 : decode cX5_isStance 24 = .ok (.iload_n 3, 1) := by decide +kernel
theorem dX5_isStance_25 : decode cX5_isStance 25 = .ok (.iaload, 1) := by decide +kernel
theorem dX5_isStance_26 : decode cX5_isStance 26 = .ok (.if_icmp .eq 5, 3) := by decide +kernel
theorem dX5_isStance_29 : decode cX5_isStance 29 = .ok (.iconst 0, 1) := by decide +kernel
theorem dX5_isStance_30 : decode cX5_isStance 30 = .ok (.ireturn, 1) := by decide +kernel
theorem dX5_isStance_31 : decode cX5_isStance 31 = .ok (.iinc 3 1, 3) := by decide +kernel
theorem dX5_isStance_34 : decode cX5_isStance 34 = .ok (.goto (-32), 3) := by decide +kernel
theorem dX5_isStance_37 : decode cX5_isStance 37 = .ok (.iconst 1, 1) := by decide +kernel
theorem dX5_isStance_38 : decode cX5_isStance 38 = .ok (.ireturn, 1) := by decide +kernel
theorem dX5_tellPositions_0 : decode cX5_tellPositions 0 = .ok (.iconst 0, 1) := by decide +kernel
theorem dX5_tellPositions_1 : decode cX5_tellPositions 1 = .ok (.istore_n 1, 1) := by decide +kernel
theorem dX5_tellPositions_2 : decode cX5_tellPositions 2 = .ok (.iload_n 1, 1) := by decide +kernel
theorem dX5_tellPositions_3 : decode cX5_tellPositions 3 = .ok (.bipush 24, 2) := by decide +kernel
theorem dX5_tellPositions_5 : decode cX5_tellPositions 5 = .ok (.if_icmp .ge 51, 3) := by decide +kernel
theorem dX5_tellPositions_8 : decode cX5_tellPositions 8 = .ok (.iconst 0, 1) := by decide +kernel
theorem dX5_tellPositions_9 : decode cX5_tellPositions 9 = .ok (.istore_n 2, 1) := by decide +kernel
theorem dX5_tellPositions_10 : decode cX5_tellPositions 10 = .ok (.iload_n 2, 1) := by decide +kernel
theorem dX5_tellPositions_11 : decode cX5_tellPositions 11 = .ok (.aload_n 0, 1) := by decide +kernel
theorem dX5_tellPositions_12 : decode cX5_tellPositions 12 = .ok (.getfield 9, 3) := by decide +kernel
theorem dX5_tellPositions_15 : decode cX5_tellPositions 15 = .ok (.if_icmp .ge 35, 3) := by decide +kernel
theorem dX5_tellPositions_18 : decode cX5_tellPositions 18 = .ok (.aload_n 0, 1) := by decide +kernel
theorem dX5_tellPositions_19 : decode cX5_tellPositions 19 = .ok (.getfield 22, 3) := by decide +kernel
theorem dX5_tellPositions_22 : decode cX5_tellPositions 22 = .ok (.iload_n 1, 1) := by decide +kernel
theorem dX5_tellPositions_23 : decode cX5_tellPositions 23 = .ok (.aload_n 0, 1) := by decide +kernel
theorem dX5_tellPositions_24 : decode cX5_tellPositions 24 = .ok (.getfield 9, 3) := by decide +kernel
theorem dX5_tellPositions_27 : decode cX5_tellPositions 27 = .ok (.imul, 1) := by decide +kernel
theorem dX5_tellPositions_28 : decode cX5_tellPositions 28 = .ok (.aload_n 0, 1) := by decide +kernel
theorem dX5_tellPositions_29 : decode cX5_tellPositions 29 = .ok (.getfield 18, 3) := by decide +kernel
theorem dX5_tellPositions_32 : decode cX5_tellPositions 32 = .ok (.iload_n 1, 1) := by decide +kernel
theorem dX5_tellPositions_33 : decode cX5_tellPositions 33 = .ok (.aload_n 0, 1) := by decide +kernel
theorem dX5_tellPositions_34 : decode cX5_tellPositions 34 = .ok (.getfield 9, 3) := by decide +kernel
theorem dX5_tellPositions_37 : decode cX5_tellPositions 37 = .ok (.imul, 1) := by decide +kernel
theorem dX5_tellPositions_38 : decode cX5_tellPositions 38 = .ok (.iload_n 2, 1) := by decide +kernel
theorem dX5_tellPositions_39 : decode cX5_tellPositions 39 = .ok (.iadd, 1) := by decide +kernel
theorem dX5_tellPositions_40 : decode cX5_tellPositions 40 = .ok (.iaload, 1) := by decide +kernel
theorem dX5_tellPositions_41 : decode cX5_tellPositions 41 = .ok (.iadd, 1) := by decide +kernel
theorem dX5_tellPositions_42 : decode cX5_tellPositions 42 = .ok (.iload_n 2, 1) := by decide +kernel
theorem dX5_tellPositions_43 : decode cX5_tellPositions 43 = .ok (.iastore, 1) := by decide +kernel
theorem dX5_tellPositions_44 : decode cX5_tellPositions 44 = .ok (.iinc 2 1, 3) := by decide +kernel
theorem dX5_tellPositions_47 : decode cX5_tellPositions 47 = .ok (.goto (-37), 3) := by decide +kernel
theorem dX5_tellPositions_50 : decode cX5_tellPositions 50 = .ok (.iinc 1 1, 3) := by decide +kernel
theorem dX5_tellPositions_53 : decode cX5_tellPositions 53 = .ok (.goto (-51), 3) := by decide +kernel
theorem dX5_tellPositions_56 : decode cX5_tellPositions 56 = .ok (.return_, 1) := by decide +kernel
theorem dX5_turnedTo_0 : decode cX5_turnedTo 0 = .ok (.aload_n 0, 1) := by decide +kernel
theorem dX5_turnedTo_1 : decode cX5_turnedTo 1 = .ok (.getfield 25, 3) := by decide +kernel
theorem dX5_turnedTo_4 : decode cX5_turnedTo 4 = .ok (.iload_n 1, 1) := by decide +kernel
theorem dX5_turnedTo_5 : decode cX5_turnedTo 5 = .ok (.iconst 4, 1) := by decide +kernel
theorem dX5_turnedTo_6 : decode cX5_turnedTo 6 = .ok (.imul, 1) := by decide +kernel
theorem dX5_turnedTo_7 : decode cX5_turnedTo 7 = .ok (.iload_n 2, 1) := by decide +kernel
theorem dX5_turnedTo_8 : decode cX5_turnedTo 8 = .ok (.iadd, 1) := by decide +kernel
theorem dX5_turnedTo_9 : decode cX5_turnedTo 9 = .ok (.iaload, 1) := by decide +kernel
theorem dX5_turnedTo_10 : decode cX5_turnedTo 10 = .ok (.ireturn, 1) := by decide +kernel
theorem dX5_faceBelow_0 : decode cX5_faceBelow 0 = .ok (.aload_n 0, 1) := by decide +kernel
theorem dX5_faceBelow_1 : decode cX5_faceBelow 1 = .ok (.getfield 18, 3) := by decide +kernel
theorem dX5_faceBelow_4 : decode cX5_faceBelow 4 = .ok (.iload_n 1, 1) := by decide +kernel
theorem dX5_faceBelow_5 : decode cX5_faceBelow 5 = .ok (.aload_n 0, 1) := by decide +kernel
theorem dX5_faceBelow_6 : decode cX5_faceBelow 6 = .ok (.getfield 9, 3) := by decide +kernel
theorem dX5_faceBelow_9 : decode cX5_faceBelow 9 = .ok (.imul, 1) := by decide +kernel
theorem dX5_faceBelow_10 : decode cX5_faceBelow 10 = .ok (.aload_n 0, 1) := by decide +kernel
theorem dX5_faceBelow_11 : decode cX5_faceBelow 11 = .ok (.getfield 15, 3) := by decide +kernel
theorem dX5_faceBelow_14 : decode cX5_faceBelow 14 = .ok (.iadd, 1) := by decide +kernel
theorem dX5_faceBelow_15 : decode cX5_faceBelow 15 = .ok (.iaload, 1) := by decide +kernel
theorem dX5_faceBelow_16 : decode cX5_faceBelow 16 = .ok (.ireturn, 1) := by decide +kernel
theorem dX5_positionOf_0 : decode cX5_positionOf 0 = .ok (.aload_n 0, 1) := by decide +kernel
theorem dX5_positionOf_1 : decode cX5_positionOf 1 = .ok (.getfield 22, 3) := by decide +kernel
theorem dX5_positionOf_4 : decode cX5_positionOf 4 = .ok (.iload_n 1, 1) := by decide +kernel
theorem dX5_positionOf_5 : decode cX5_positionOf 5 = .ok (.aload_n 0, 1) := by decide +kernel
theorem dX5_positionOf_6 : decode cX5_positionOf 6 = .ok (.getfield 9, 3) := by decide +kernel
theorem dX5_positionOf_9 : decode cX5_positionOf 9 = .ok (.imul, 1) := by decide +kernel
theorem dX5_positionOf_10 : decode cX5_positionOf 10 = .ok (.iload_n 2, 1) := by decide +kernel
theorem dX5_positionOf_11 : decode cX5_positionOf 11 = .ok (.iadd, 1) := by decide +kernel
