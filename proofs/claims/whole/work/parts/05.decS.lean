theorem dX0_init_0 : decode cX0_init 0 = .ok (.aload_n 0, 1) := by decide +kernel
theorem dX0_init_1 : decode cX0_init 1 = .ok (.invokespecial 3, 3) := by decide +kernel
theorem dX0_init_4 : decode cX0_init 4 = .ok (.aload_n 0, 1) := by decide +kernel
theorem dX0_init_5 : decode cX0_init 5 = .ok (.bipush 32, 2) := by decide +kernel
theorem dX0_init_7 : decode cX0_init 7 = .ok (.newarray .long, 2) := by decide +kernel
theorem dX0_init_9 : decode cX0_init 9 = .ok (.putfield 11, 3) := by decide +kernel
theorem dX0_init_12 : decode cX0_init 12 = .ok (.aload_n 0, 1) := by decide +kernel
theorem dX0_init_13 : decode cX0_init 13 = .ok (.bipush 40, 2) := by decide +kernel
theorem dX0_init_15 : decode cX0_init 15 = .ok (.newarray .long, 2) := by decide +kernel
theorem dX0_init_17 : decode cX0_init 17 = .ok (.putfield 15, 3) := by decide +kernel
theorem dX0_init_20 : decode cX0_init 20 = .ok (.aload_n 0, 1) := by decide +kernel
theorem dX0_init_21 : decode cX0_init 21 = .ok (.bipush 10, 2) := by decide +kernel
theorem dX0_init_23 : decode cX0_init 23 = .ok (.newarray .int, 2) := by decide +kernel
theorem dX0_init_25 : decode cX0_init 25 = .ok (.putfield 18, 3) := by decide +kernel
theorem dX0_init_28 : decode cX0_init 28 = .ok (.aload_n 0, 1) := by decide +kernel
theorem dX0_init_29 : decode cX0_init 29 = .ok (.iconst 2, 1) := by decide +kernel
theorem dX0_init_30 : decode cX0_init 30 = .ok (.iconst 1, 1) := by decide +kernel
theorem dX0_init_31 : decode cX0_init 31 = .ok (.invokevirtual 22, 3) := by decide +kernel
theorem dX0_init_34 : decode cX0_init 34 = .ok (.return_, 1) := by decide +kernel
theorem dX0_restart_0 : decode cX0_restart 0 = .ok (.aload_n 0, 1) := by decide +kernel
theorem dX0_restart_1 : decode cX0_restart 1 = .ok (.iload_n 1, 1) := by decide +kernel
theorem dX0_restart_2 : decode cX0_restart 2 = .ok (.putfield 26, 3) := by decide +kernel
theorem dX0_restart_5 : decode cX0_restart 5 = .ok (.aload_n 0, 1) := by decide +kernel
theorem dX0_restart_6 : decode cX0_restart 6 = .ok (.iload_n 2, 1) := by decide +kernel
theorem dX0_restart_7 : decode cX0_restart 7 = .ok (.putfield 30, 3) := by decide +kernel
theorem dX0_restart_10 : decode cX0_restart 10 = .ok (.aload_n 0, 1) := by decide +kernel
theorem dX0_restart_11 : decode cX0_restart 11 = .ok (.iconst 1, 1) := by decide +kernel
theorem dX0_restart_12 : decode cX0_restart 12 = .ok (.iload_n 1, 1) := by decide +kernel
theorem dX0_restart_13 : decode cX0_restart 13 = .ok (.ishl, 1) := by decide +kernel
theorem dX0_restart_14 : decode cX0_restart 14 = .ok (.putfield 33, 3) := by decide +kernel
theorem dX0_restart_17 : decode cX0_restart 17 = .ok (.aload_n 0, 1) := by decide +kernel
theorem dX0_restart_18 : decode cX0_restart 18 = .ok (.iconst 1, 1) := by decide +kernel
theorem dX0_restart_19 : decode cX0_restart 19 = .ok (.iload_n 2, 1) := by decide +kernel
theorem dX0_restart_20 : decode cX0_restart 20 = .ok (.ishl, 1) := by decide +kernel
theorem dX0_restart_21 : decode cX0_restart 21 = .ok (.putfield 36, 3) := by decide +kernel
theorem dX0_restart_24 : decode cX0_restart 24 = .ok (.aload_n 0, 1) := by decide +kernel
theorem dX0_restart_25 : decode cX0_restart 25 = .ok (.aload_n 0, 1) := by decide +kernel
theorem dX0_restart_26 : decode cX0_restart 26 = .ok (.getfield 33, 3) := by decide +kernel
theorem dX0_restart_29 : decode cX0_restart 29 = .ok (.bipush 64, 2) := by decide +kernel
theorem dX0_restart_31 : decode cX0_restart 31 = .ok (.if_icmp .lt 9, 3) := by decide +kernel
theorem dX0_restart_34 : decode cX0_restart 34 = .ok (.ldc2_w 39, 3) := by decide +kernel
theorem dX0_restart_37 : decode cX0_restart 37 = .ok (.goto 11, 3) := by decide +kernel
theorem dX0_restart_40 : decode cX0_restart 40 = .ok (.lconst 1, 1) := by decide +kernel
theorem dX0_restart_41 : decode cX0_restart 41 = .ok (.aload_n 0, 1) := by decide +kernel
theorem dX0_restart_42 : decode cX0_restart 42 = .ok (.getfield 33, 3) := by decide +kernel
theorem dX0_restart_45 : decode cX0_restart 45 = .ok (.lshl, 1) := by decide +kernel
theorem dX0_restart_46 : decode cX0_restart 46 = .ok (.lconst 1, 1) := by decide +kernel
theorem dX0_restart_47 : decode cX0_restart 47 = .ok (.lsub, 1) := by decide +kernel
theorem dX0_restart_48 : decode cX0_restart 48 = .ok (.putfield 41, 3) := by decide +kernel
theorem dX0_restart_51 : decode cX0_restart 51 = .ok (.aload_n 0, 1) := by decide +kernel
theorem dX0_restart_52 : decode cX0_restart 52 = .ok (.iconst 0, 1) := by decide +kernel
theorem dX0_restart_53 : decode cX0_restart 53 = .ok (.putfield 45, 3) := by decide +kernel
theorem dX0_restart_56 : decode cX0_restart 56 = .ok (.aload_n 0, 1) := by decide +kernel
theorem dX0_restart_57 : decode cX0_restart 57 = .ok (.iconst 0, 1) := by decide +kernel
theorem dX0_restart_58 : decode cX0_restart 58 = .ok (.putfield 48, 3) := by decide +kernel
theorem dX0_restart_61 : decode cX0_restart 61 = .ok (.iconst 0, 1) := by decide +kernel
theorem dX0_restart_62 : decode cX0_restart 62 = .ok (.istore_n 3, 1) := by decide +kernel
theorem dX0_restart_63 : decode cX0_restart 63 = .ok (.iload_n 3, 1) := by decide +kernel
theorem dX0_restart_64 : decode cX0_restart 64 = .ok (.bipush 6, 2) := by decide +kernel
theorem dX0_restart_66 : decode cX0_restart 66 = .ok (.if_icmp .ge 24, 3) := by decide +kernel
theorem dX0_restart_69 : decode cX0_restart 69 = .ok (.aload_n 0, 1) := by decide +kernel
theorem dX0_restart_70 : decode cX0_restart 70 = .ok (.iload_n 3, 1) := by decide +kernel
theorem dX0_restart_71 : decode cX0_restart 71 = .ok (.getstatic 51, 3) := by decide +kernel
theorem dX0_restart_74 : decode cX0_restart 74 = .ok (.iload_n 3, 1) := by decide +kernel
theorem dX0_restart_75 : decode cX0_restart 75 = .ok (.laload, 1) := by decide +kernel
theorem dX0_restart_76 : decode cX0_restart 76 = .ok (.aload_n 0, 1) := by decide +kernel
theorem dX0_restart_77 : decode cX0_restart 77 = .ok (.getfield 41, 3) := by decide +kernel
theorem dX0_restart_80 : decode cX0_restart 80 = .ok (.land, 1) := by decide +kernel
theorem dX0_restart_81 : decode cX0_restart 81 = .ok (.invokevirtual 54, 3) := by decide +kernel
theorem dX0_restart_84 : decode cX0_restart 84 = .ok (.iinc 3 1, 3) := by decide +kernel
theorem dX0_restart_87 : decode cX0_restart 87 = .ok (.goto (-24), 3) := by decide +kernel
theorem dX0_restart_90 : decode cX0_restart 90 = .ok (.aload_n 0, 1) := by decide +kernel
theorem dX0_restart_91 : decode cX0_restart 91 = .ok (.bipush 6, 2) := by decide +kernel
theorem dX0_restart_93 : decode cX0_restart 93 = .ok (.lconst 1, 1) := by decide +kernel
theorem dX0_restart_94 : decode cX0_restart 94 = .ok (.invokevirtual 54, 3) := by decide +kernel
theorem dX0_restart_97 : decode cX0_restart 97 = .ok (.aload_n 0, 1) := by decide +kernel
theorem dX0_restart_98 : decode cX0_restart 98 = .ok (.bipush 7, 2) := by decide +kernel
theorem dX0_restart_100 : decode cX0_restart 100 = .ok (.aload_n 0, 1) := by decide +kernel
theorem dX0_restart_101 : decode cX0_restart 101 = .ok (.getfield 41, 3) := by decide +kernel
theorem dX0_restart_104 : decode cX0_restart 104 = .ok (.invokevirtual 54, 3) := by decide +kernel
theorem dX0_restart_107 : decode cX0_restart 107 = .ok (.return_, 1) := by decide +kernel
theorem dX0_fillRow_0 : decode cX0_fillRow 0 = .ok (.iconst 0, 1) := by decide +kernel
theorem dX0_fillRow_1 : decode cX0_fillRow 1 = .ok (.istore 4, 2) := by decide +kernel
theorem dX0_fillRow_3 : decode cX0_fillRow 3 = .ok (.iload 4, 2) := by decide +kernel
theorem dX0_fillRow_5 : decode cX0_fillRow 5 = .ok (.iconst 4, 1) := by decide +kernel
theorem dX0_fillRow_6 : decode cX0_fillRow 6 = .ok (.if_icmp .ge 17, 3) := by decide +kernel
theorem dX0_fillRow_9 : decode cX0_fillRow 9 = .ok (.aload_n 0, 1) := by decide +kernel
theorem dX0_fillRow_10 : decode cX0_fillRow 10 = .ok (.iload_n 1, 1) := by decide +kernel
theorem dX0_fillRow_11 : decode cX0_fillRow 11 = .ok (.iload 4, 2) := by decide +kernel
theorem dX0_fillRow_13 : decode cX0_fillRow 13 = .ok (.lload_n 2, 1) := by decide +kernel
theorem dX0_fillRow_14 : decode cX0_fillRow 14 = .ok (.invokevirtual 58, 3) := by decide +kernel
theorem dX0_fillRow_17 : decode cX0_fillRow 17 = .ok (.iinc 4 1, 3) := by decide +kernel
theorem dX0_fillRow_20 : decode cX0_fillRow 20 = .ok (.goto (-17), 3) := by decide +kernel
theorem dX0_fillRow_23 : decode cX0_fillRow 23 = .ok (.return_, 1) := by decide +kernel
theorem dX0_table_0 : decode cX0_table 0 = .ok (.iload_n 1, 1) := by decide +kernel
theorem dX0_table_1 : decode cX0_table 1 = .ok (.iconst 4, 1) := by decide +kernel
theorem dX0_table_2 : decode cX0_table 2 = .ok (.imul, 1) := by decide +kernel
theorem dX0_table_3 : decode cX0_table 3 = .ok (.iload_n 2, 1) := by decide +kernel
theorem dX0_table_4 : decode cX0_table 4 = .ok (.iadd, 1) := by decide +kernel
theorem dX0_table_5 : decode cX0_table 5 = .ok (.istore_n 3, 1) := by decide +kernel
theorem dX0_table_6 : decode cX0_table 6 = .ok (.iload_n 3, 1) := by decide +kernel
theorem dX0_table_7 : decode cX0_table 7 = .ok (.ifCond .lt 21, 3) := by decide +kernel
theorem dX0_table_10 : decode cX0_table 10 = .ok (.iload_n 3, 1) := by decide +kernel
theorem dX0_table_11 : decode cX0_table 11 = .ok (.aload_n 0, 1) := by decide +kernel
theorem dX0_table_12 : decode cX0_table 12 = .ok (.getfield 11, 3) := by decide +kernel
theorem dX0_table_15 : decode cX0_table 15 = .ok (.arraylength, 1) := by decide +kernel
theorem dX0_table_16 : decode cX0_table 16 = .ok (.if_icmp .ge 12, 3) := by decide +kernel
theorem dX0_table_19 : decode cX0_table 19 = .ok (.aload_n 0, 1) := by decide +kernel
theorem dX0_table_20 : decode cX0_table 20 = .ok (.getfield 11, 3) := by decide +kernel
theorem dX0_table_23 : decode cX0_table 23 = .ok (.iload_n 3, 1) := by decide +kernel
theorem dX0_table_24 : decode cX0_table 24 = .ok (.laload, 1) := by decide +kernel
theorem dX0_table_25 : decode cX0_table 25 = .ok (.goto 4, 3) := by decide +kernel
theorem dX0_table_28 : decode cX0_table 28 = .ok (.lconst 0, 1) := by decide +kernel
theorem dX0_table_29 : decode cX0_table 29 = .ok (.lreturn, 1) := by decide +kernel
theorem dX0_putTable_0 : decode cX0_putTable 0 = .ok (.iload_n 1, 1) := by decide +kernel
theorem dX0_putTable_1 : decode cX0_putTable 1 = .ok (.iconst 4, 1) := by decide +kernel
theorem dX0_putTable_2 : decode cX0_putTable 2 = .ok (.imul, 1) := by decide +kernel
theorem dX0_putTable_3 : decode cX0_putTable 3 = .ok (.iload_n 2, 1) := by decide +kernel
theorem dX0_putTable_4 : decode cX0_putTable 4 = .ok (.iadd, 1) := by decide +kernel
theorem dX0_putTable_5 : decode cX0_putTable 5 = .ok (.istore 5, 2) := by decide +kernel
theorem dX0_putTable_7 : decode cX0_putTable 7 = .ok (.iload 5, 2) := by decide +kernel
theorem dX0_putTable_9 : decode cX0_putTable 9 = .ok (.ifCond .lt 21, 3) := by decide +kernel
theorem dX0_putTable_12 : decode cX0_putTable 12 = .ok (.iload 5, 2) := by decide +kernel
theorem dX0_putTable_14 : decode cX0_putTable 14 = .ok (.aload_n 0, 1) := by decide +kernel
theorem dX0_putTable_15 : decode cX0_putTable 15 = .ok (.getfield 11, 3) := by decide +kernel
theorem dX0_putTable_18 : decode cX0_putTable 18 = .ok (.arraylength, 1) := by decide +kernel
theorem dX0_putTable_19 : decode cX0_putTable 19 = .ok (.if_icmp .ge 11, 3) := by decide +kernel
theorem dX0_putTable_22 : decode cX0_putTable 22 = .ok (.aload_n 0, 1) := by decide +kernel
theorem dX0_putTable_23 : decode cX0_putTable 23 = .ok (.getfield 11, 3) := by decide +kernel
theorem dX0_putTable_26 : decode cX0_putTable 26 = .ok (.iload 5, 2) := by decide +kernel
theorem dX0_putTable_28 : decode cX0_putTable 28 = .ok (.lload_n 3, 1) := by decide +kernel
theorem dX0_putTable_29 : decode cX0_putTable 29 = .ok (.lastore, 1) := by decide +kernel
theorem dX0_putTable_30 : decode cX0_putTable 30 = .ok (.return_, 1) := by decide +kernel
theorem dX0_initial_0 : decode cX0_initial 0 = .ok (.aload_n 0, 1) := by decide +kernel
theorem dX0_initial_1 : decode cX0_initial 1 = .ok (.bipush 6, 2) := by decide +kernel
theorem dX0_initial_3 : decode cX0_initial 3 = .ok (.iconst 0, 1) := by decide +kernel
theorem dX0_initial_4 : decode cX0_initial 4 = .ok (.invokevirtual 62, 3) := by decide +kernel
theorem dX0_initial_7 : decode cX0_initial 7 = .ok (.lreturn, 1) := by decide +kernel
theorem dX0_good_0 : decode cX0_good 0 = .ok (.aload_n 0, 1) := by decide +kernel
theorem dX0_good_1 : decode cX0_good 1 = .ok (.bipush 7, 2) := by decide +kernel
theorem dX0_good_3 : decode cX0_good 3 = .ok (.iconst 0, 1) := by decide +kernel
theorem dX0_good_4 : decode cX0_good 4 = .ok (.invokevirtual 62, 3) := by decide +kernel
theorem dX0_good_7 : decode cX0_good 7 = .ok (.lreturn, 1) := by decide +kernel
theorem dX0_bad_0 : decode cX0_bad 0 = .ok (.aload_n 0, 1) := by decide +kernel
theorem dX0_bad_1 : decode cX0_bad 1 = .ok (.getfield 41, 3) := by decide +kernel
theorem dX0_bad_4 : decode cX0_bad 4 = .ok (.aload_n 0, 1) := by decide +kernel
theorem dX0_bad_5 : decode cX0_bad 5 = .ok (.invokevirtual 66, 3) := by decide +kernel
theorem dX0_bad_8 : decode cX0_bad 8 = .ok (.ldc2_w 39, 3) := by decide +kernel
theorem dX0_bad_11 : decode cX0_bad 11 = .ok (.lxor, 1) := by decide +kernel
theorem dX0_bad_12 : decode cX0_bad 12 = .ok (.land, 1) := by decide +kernel
theorem dX0_bad_13 : decode cX0_bad 13 = .ok (.lreturn, 1) := by decide +kernel
theorem dX0_replaceRow_0 : decode cX0_replaceRow 0 = .ok (.aload_n 0, 1) := by decide +kernel
theorem dX0_replaceRow_1 : decode cX0_replaceRow 1 = .ok (.iload_n 1, 1) := by decide +kernel
theorem dX0_replaceRow_2 : decode cX0_replaceRow 2 = .ok (.invokevirtual 70, 3) := by decide +kernel
theorem dX0_replaceRow_5 : decode cX0_replaceRow 5 = .ok (.iconst 0, 1) := by decide +kernel
theorem dX0_replaceRow_6 : decode cX0_replaceRow 6 = .ok (.istore_n 3, 1) := by decide +kernel
theorem dX0_replaceRow_7 : decode cX0_replaceRow 7 = .ok (.iconst 0, 1) := by decide +kernel
theorem dX0_replaceRow_8 : decode cX0_replaceRow 8 = .ok (.istore 4, 2) := by decide +kernel
theorem dX0_replaceRow_10 : decode cX0_replaceRow 10 = .ok (.iload 4, 2) := by decide +kernel
theorem dX0_replaceRow_12 : decode cX0_replaceRow 12 = .ok (.aload_n 0, 1) := by decide +kernel
theorem dX0_replaceRow_13 : decode cX0_replaceRow 13 = .ok (.getfield 36, 3) := by decide +kernel
theorem dX0_replaceRow_16 : decode cX0_replaceRow 16 = .ok (.if_icmp .ge 47, 3) := by decide +kernel
theorem dX0_replaceRow_19 : decode cX0_replaceRow 19 = .ok (.aload_n 2, 1) := by decide +kernel
theorem dX0_replaceRow_20 : decode cX0_replaceRow 20 = .ok (.iload 4, 2) := by decide +kernel
theorem dX0_replaceRow_22 : decode cX0_replaceRow 22 = .ok (.invokevirtual 74, 3) := by decide +kernel
theorem dX0_replaceRow_25 : decode cX0_replaceRow 25 = .ok (.aload_n 0, 1) := by decide +kernel
theorem dX0_replaceRow_26 : decode cX0_replaceRow 26 = .ok (.getfield 41, 3) := by decide +kernel
theorem dX0_replaceRow_29 : decode cX0_replaceRow 29 = .ok (.land, 1) := by decide +kernel
theorem dX0_replaceRow_30 : decode cX0_replaceRow 30 = .ok (.lstore 5, 2) := by decide +kernel
theorem dX0_replaceRow_32 : decode cX0_replaceRow 32 = .ok (.iload_n 3, 1) := by decide +kernel
theorem dX0_replaceRow_33 : decode cX0_replaceRow 33 = .ok (.lload 5, 2) := by decide +kernel
theorem dX0_replaceRow_35 : decode cX0_replaceRow 35 = .ok (.aload_n 0, 1) := by decide +kernel
theorem dX0_replaceRow_36 : decode cX0_replaceRow 36 = .ok (.iload_n 1, 1) := by decide +kernel
theorem dX0_replaceRow_37 : decode cX0_replaceRow 37 = .ok (.iload 4, 2) := by decide +kernel
theorem dX0_replaceRow_39 : decode cX0_replaceRow 39 = .ok (.invokevirtual 62, 3) := by decide +kernel
theorem dX0_replaceRow_42 : decode cX0_replaceRow 42 = .ok (.lxor, 1) := by decide +kernel
theorem dX0_replaceRow_43 : decode cX0_replaceRow 43 = .ok (.invokestatic 80, 3) := by decide +kernel
theorem dX0_replaceRow_46 : decode cX0_replaceRow 46 = .ok (.iadd, 1) := by decide +kernel
theorem dX0_replaceRow_47 : decode cX0_replaceRow 47 = .ok (.istore_n 3, 1) := by decide +kernel
theorem dX0_replaceRow_48 : decode cX0_replaceRow 48 = .ok (.aload_n 0, 1) := by decide +kernel
theorem dX0_replaceRow_49 : decode cX0_replaceRow 49 = .ok (.iload_n 1, 1) := by decide +kernel
theorem dX0_replaceRow_50 : decode cX0_replaceRow 50 = .ok (.iload 4, 2) := by decide +kernel
theorem dX0_replaceRow_52 : decode cX0_replaceRow 52 = .ok (.lload 5, 2) := by decide +kernel
theorem dX0_replaceRow_54 : decode cX0_replaceRow 54 = .ok (.invokevirtual 58, 3) := by decide +kernel
theorem dX0_replaceRow_57 : decode cX0_replaceRow 57 = .ok (.iinc 4 1, 3) := by decide +kernel
theorem dX0_replaceRow_60 : decode cX0_replaceRow 60 = .ok (.goto (-50), 3) := by decide +kernel
theorem dX0_replaceRow_63 : decode cX0_replaceRow 63 = .ok (.iload_n 3, 1) := by decide +kernel
theorem dX0_replaceRow_64 : decode cX0_replaceRow 64 = .ok (.ireturn, 1) := by decide +kernel
theorem dX0_keepRow_0 : decode cX0_keepRow 0 = .ok (.aload_n 0, 1) := by decide +kernel
theorem dX0_keepRow_1 : decode cX0_keepRow 1 = .ok (.getfield 48, 3) := by decide +kernel
theorem dX0_keepRow_4 : decode cX0_keepRow 4 = .ok (.bipush 10, 2) := by decide +kernel
theorem dX0_keepRow_6 : decode cX0_keepRow 6 = .ok (.if_icmp .ne 26, 3) := by decide +kernel
theorem dX0_keepRow_9 : decode cX0_keepRow 9 = .ok (.aload_n 0, 1) := by decide +kernel
theorem dX0_keepRow_10 : decode cX0_keepRow 10 = .ok (.aload_n 0, 1) := by decide +kernel
theorem dX0_keepRow_11 : decode cX0_keepRow 11 = .ok (.getfield 45, 3) := by decide +kernel
theorem dX0_keepRow_14 : decode cX0_keepRow 14 = .ok (.iconst 1, 1) := by decide +kernel
theorem dX0_keepRow_15 : decode cX0_keepRow 15 = .ok (.iadd, 1) := by decide +kernel
theorem dX0_keepRow_16 : decode cX0_keepRow 16 = .ok (.bipush 10, 2) := by decide +kernel
theorem dX0_keepRow_18 : decode cX0_keepRow 18 = .ok (.irem, 1) := by decide +kernel
theorem dX0_keepRow_19 : decode cX0_keepRow 19 = .ok (.putfield 45, 3) := by decide +kernel
theorem dX0_keepRow_22 : decode cX0_keepRow 22 = .ok (.aload_n 0, 1) := by decide +kernel
theorem dX0_keepRow_23 : decode cX0_keepRow 23 = .ok (.dup, 1) := by decide +kernel
theorem dX0_keepRow_24 : decode cX0_keepRow 24 = .ok (.getfield 48, 3) := by decide +kernel
theorem dX0_keepRow_27 : decode cX0_keepRow 27 = .ok (.iconst 1, 1) := by decide +kernel
theorem dX0_keepRow_28 : decode cX0_keepRow 28 = .ok (.isub, 1) := by decide +kernel
theorem dX0_keepRow_29 : decode cX0_keepRow 29 = .ok (.putfield 48, 3) := by decide +kernel
theorem dX0_keepRow_32 : decode cX0_keepRow 32 = .ok (.aload_n 0, 1) := by decide +kernel
theorem dX0_keepRow_33 : decode cX0_keepRow 33 = .ok (.getfield 45, 3) := by decide +kernel
theorem dX0_keepRow_36 : decode cX0_keepRow 36 = .ok (.aload_n 0, 1) := by decide +kernel
theorem dX0_keepRow_37 : decode cX0_keepRow 37 = .ok (.getfield 48, 3) := by decide +kernel
theorem dX0_keepRow_40 : decode cX0_keepRow 40 = .ok (.iadd, 1) := by decide +kernel
theorem dX0_keepRow_41 : decode cX0_keepRow 41 = .ok (.bipush 10, 2) := by decide +kernel
theorem dX0_keepRow_43 : decode cX0_keepRow 43 = .ok (.irem, 1) := by decide +kernel
theorem dX0_keepRow_44 : decode cX0_keepRow 44 = .ok (.istore_n 2, 1) := by decide +kernel
theorem dX0_keepRow_45 : decode cX0_keepRow 45 = .ok (.iload_n 2, 1) := by decide +kernel
theorem dX0_keepRow_46 : decode cX0_keepRow 46 = .ok (.ifCond .ge 4, 3) := by decide +kernel
theorem dX0_keepRow_49 : decode cX0_keepRow 49 = .ok (.return_, 1) := by decide +kernel
theorem dX0_keepRow_50 : decode cX0_keepRow 50 = .ok (.aload_n 0, 1) := by decide +kernel
theorem dX0_keepRow_51 : decode cX0_keepRow 51 = .ok (.getfield 18, 3) := by decide +kernel
theorem dX0_keepRow_54 : decode cX0_keepRow 54 = .ok (.iload_n 2, 1) := by decide +kernel
theorem dX0_keepRow_55 : decode cX0_keepRow 55 = .ok (.iload_n 1, 1) := by decide +kernel
theorem dX0_keepRow_56 : decode cX0_keepRow 56 = .ok (.iastore, 1) := by decide +kernel
theorem dX0_keepRow_57 : decode cX0_keepRow 57 = .ok (.iconst 0, 1) := by decide +kernel
theorem dX0_keepRow_58 : decode cX0_keepRow 58 = .ok (.istore_n 3, 1) := by decide +kernel
theorem dX0_keepRow_59 : decode cX0_keepRow 59 = .ok (.iload_n 3, 1) := by decide +kernel
theorem dX0_keepRow_60 : decode cX0_keepRow 60 = .ok (.iconst 4, 1) := by decide +kernel
theorem dX0_keepRow_61 : decode cX0_keepRow 61 = .ok (.if_icmp .ge 25, 3) := by decide +kernel
theorem dX0_keepRow_64 : decode cX0_keepRow 64 = .ok (.aload_n 0, 1) := by decide +kernel
theorem dX0_keepRow_65 : decode cX0_keepRow 65 = .ok (.getfield 15, 3) := by decide +kernel
theorem dX0_keepRow_68 : decode cX0_keepRow 68 = .ok (.iload_n 2, 1) := by decide +kernel
theorem dX0_keepRow_69 : decode cX0_keepRow 69 = .ok (.iconst 4, 1) := by decide +kernel
theorem dX0_keepRow_70 : decode cX0_keepRow 70 = .ok (.imul, 1) := by decide +kernel
theorem dX0_keepRow_71 : decode cX0_keepRow 71 = .ok (.iload_n 3, 1) := by decide +kernel
theorem dX0_keepRow_72 : decode cX0_keepRow 72 = .ok (.iadd, 1) := by decide +kernel
theorem dX0_keepRow_73 : decode cX0_keepRow 73 = .ok (.aload_n 0, 1) := by decide +kernel
theorem dX0_keepRow_74 : decode cX0_keepRow 74 = .ok (.iload_n 1, 1) := by decide +kernel
theorem dX0_keepRow_75 : decode cX0_keepRow 75 = .ok (.iload_n 3, 1) := by decide +kernel
theorem dX0_keepRow_76 : decode cX0_keepRow 76 = .ok (.invokevirtual 62, 3) := by decide +kernel
theorem dX0_keepRow_79 : decode cX0_keepRow 79 = .ok (.lastore, 1) := by decide +kernel
theorem dX0_keepRow_80 : decode cX0_keepRow 80 = .ok (.iinc 3 1, 3) := by decide +kernel
theorem dX0_keepRow_83 : decode cX0_keepRow 83 = .ok (.goto (-24), 3) := by decide +kernel
theorem dX0_keepRow_86 : decode cX0_keepRow 86 = .ok (.aload_n 0, 1) := by decide +kernel
theorem dX0_keepRow_87 : decode cX0_keepRow 87 = .ok (.dup, 1) := by decide +kernel
theorem dX0_keepRow_88 : decode cX0_keepRow 88 = .ok (.getfield 48, 3) := by decide +kernel
theorem dX0_keepRow_91 : decode cX0_keepRow 91 = .ok (.iconst 1, 1) := by decide +kernel
theorem dX0_keepRow_92 : decode cX0_keepRow 92 = .ok (.iadd, 1) := by decide +kernel
theorem dX0_keepRow_93 : decode cX0_keepRow 93 = .ok (.putfield 48, 3) := by decide +kernel
theorem dX0_keepRow_96 : decode cX0_keepRow 96 = .ok (.return_, 1) := by decide +kernel
theorem dX0_restoreLatest_0 : decode cX0_restoreLatest 0 = .ok (.aload_n 0, 1) := by decide +kernel
theorem dX0_restoreLatest_1 : decode cX0_restoreLatest 1 = .ok (.getfield 45, 3) := by decide +kernel
theorem dX0_restoreLatest_4 : decode cX0_restoreLatest 4 = .ok (.aload_n 0, 1) := by decide +kernel
theorem dX0_restoreLatest_5 : decode cX0_restoreLatest 5 = .ok (.getfield 48, 3) := by decide +kernel
theorem dX0_restoreLatest_8 : decode cX0_restoreLatest 8 = .ok (.iadd, 1) := by decide +kernel
theorem dX0_restoreLatest_9 : decode cX0_restoreLatest 9 = .ok (.iconst 1, 1) := by decide +kernel
theorem dX0_restoreLatest_10 : decode cX0_restoreLatest 10 = .ok (.isub, 1) := by decide +kernel
theorem dX0_restoreLatest_11 : decode cX0_restoreLatest 11 = .ok (.bipush 10, 2) := by decide +kernel
theorem dX0_restoreLatest_13 : decode cX0_restoreLatest 13 = .ok (.irem, 1) := by decide +kernel
theorem dX0_restoreLatest_14 : decode cX0_restoreLatest 14 = .ok (.istore_n 1, 1) := by decide +kernel
theorem dX0_restoreLatest_15 : decode cX0_restoreLatest 15 = .ok (.iload_n 1, 1) := by decide +kernel
theorem dX0_restoreLatest_16 : decode cX0_restoreLatest 16 = .ok (.ifCond .lt 10, 3) := by decide +kernel
theorem dX0_restoreLatest_19 : decode cX0_restoreLatest 19 = .ok (.aload_n 0, 1) := by decide +kernel
theorem dX0_restoreLatest_20 : decode cX0_restoreLatest 20 = .ok (.getfield 48, 3) := by decide +kernel
theorem dX0_restoreLatest_23 : decode cX0_restoreLatest 23 = .ok (.ifCond .gt 4, 3) := by decide +kernel
theorem dX0_restoreLatest_26 : decode cX0_restoreLatest 26 = .ok (.return_, 1) := by decide +kernel
theorem dX0_restoreLatest_27 : decode cX0_restoreLatest 27 = .ok (.iconst 0, 1) := by decide +kernel
theorem dX0_restoreLatest_28 : decode cX0_restoreLatest 28 = .ok (.istore_n 2, 1) := by decide +kernel
theorem dX0_restoreLatest_29 : decode cX0_restoreLatest 29 = .ok (.iload_n 2, 1) := by decide +kernel
theorem dX0_restoreLatest_30 : decode cX0_restoreLatest 30 = .ok (.iconst 4, 1) := by decide +kernel
theorem dX0_restoreLatest_31 : decode cX0_restoreLatest 31 = .ok (.if_icmp .ge 30, 3) := by decide +kernel
theorem dX0_restoreLatest_34 : decode cX0_restoreLatest 34 = .ok (.aload_n 0, 1) := by decide +kernel
theorem dX0_restoreLatest_35 : decode cX0_restoreLatest 35 = .ok (.aload_n 0, 1) := by decide +kernel
theorem dX0_restoreLatest_36 : decode cX0_restoreLatest 36 = .ok (.getfield 18, 3) := by decide +kernel
theorem dX0_restoreLatest_39 : decode cX0_restoreLatest 39 = .ok (.iload_n 1, 1) := by decide +kernel
theorem dX0_restoreLatest_40 : decode cX0_restoreLatest 40 = .ok (.iaload, 1) := by decide +kernel
theorem dX0_restoreLatest_41 : decode cX0_restoreLatest 41 = .ok (.iload_n 2, 1) := by decide +kernel
theorem dX0_restoreLatest_42 : decode cX0_restoreLatest 42 = .ok (.aload_n 0, 1) := by decide +kernel
theorem dX0_restoreLatest_43 : decode cX0_restoreLatest 43 = .ok (.getfield 15, 3) := by decide +kernel
theorem dX0_restoreLatest_46 : decode cX0_restoreLatest 46 = .ok (.iload_n 1, 1) := by decide +kernel
theorem dX0_restoreLatest_47 : decode cX0_restoreLatest 47 = .ok (.iconst 4, 1) := by decide +kernel
theorem dX0_restoreLatest_48 : decode cX0_restoreLatest 48 = .ok (.imul, 1) := by decide +kernel
theorem dX0_restoreLatest_49 : decode cX0_restoreLatest 49 = .ok (.iload_n 2, 1) := by decide +kernel
theorem dX0_restoreLatest_50 : decode cX0_restoreLatest 50 = .ok (.iadd, 1) := by decide +kernel
theorem dX0_restoreLatest_51 : decode cX0_restoreLatest 51 = .ok (.laload, 1) := by decide +kernel
theorem dX0_restoreLatest_52 : decode cX0_restoreLatest 52 = .ok (.invokevirtual 58, 3) := by decide +kernel
theorem dX0_restoreLatest_55 : decode cX0_restoreLatest 55 = .ok (.iinc 2 1, 3) := by decide +kernel
theorem dX0_restoreLatest_58 : decode cX0_restoreLatest 58 = .ok (.goto (-29), 3) := by decide +kernel
theorem dX0_restoreLatest_61 : decode cX0_restoreLatest 61 = .ok (.aload_n 0, 1) := by decide +kernel
theorem dX0_restoreLatest_62 : decode cX0_restoreLatest 62 = .ok (.dup, 1) := by decide +kernel
theorem dX0_restoreLatest_63 : decode cX0_restoreLatest 63 = .ok (.getfield 48, 3) := by decide +kernel
theorem dX0_restoreLatest_66 : decode cX0_restoreLatest 66 = .ok (.iconst 1, 1) := by decide +kernel
theorem dX0_restoreLatest_67 : decode cX0_restoreLatest 67 = .ok (.isub, 1) := by decide +kernel
theorem dX0_restoreLatest_68 : decode cX0_restoreLatest 68 = .ok (.putfield 48, 3) := by decide +kernel
theorem dX0_restoreLatest_71 : decode cX0_restoreLatest 71 = .ok (.return_, 1) := by decide +kernel
theorem dX0_step_0 : decode cX0_step 0 = .ok (.iconst 0, 1) := by decide +kernel
theorem dX0_step_1 : decode cX0_step 1 = .ok (.istore_n 3, 1) := by decide +kernel
theorem dX0_step_2 : decode cX0_step 2 = .ok (.iconst 0, 1) := by decide +kernel
theorem dX0_step_3 : decode cX0_step 3 = .ok (.istore 4, 2) := by decide +kernel
theorem dX0_step_5 : decode cX0_step 5 = .ok (.iload 4, 2) := by decide +kernel
theorem dX0_step_7 : decode cX0_step 7 = .ok (.aload_n 0, 1) := by decide +kernel
theorem dX0_step_8 : decode cX0_step 8 = .ok (.getfield 26, 3) := by decide +kernel
theorem dX0_step_11 : decode cX0_step 11 = .ok (.if_icmp .ge 30, 3) := by decide +kernel
theorem dX0_step_14 : decode cX0_step 14 = .ok (.aload_n 0, 1) := by decide +kernel
theorem dX0_step_15 : decode cX0_step 15 = .ok (.iload 4, 2) := by decide +kernel
theorem dX0_step_17 : decode cX0_step 17 = .ok (.iload_n 2, 1) := by decide +kernel
theorem dX0_step_18 : decode cX0_step 18 = .ok (.invokevirtual 62, 3) := by decide +kernel
theorem dX0_step_21 : decode cX0_step 21 = .ok (.iload_n 1, 1) := by decide +kernel
theorem dX0_step_22 : decode cX0_step 22 = .ok (.invokestatic 86, 3) := by decide +kernel
theorem dX0_step_25 : decode cX0_step 25 = .ok (.ifCond .eq 10, 3) := by decide +kernel
theorem dX0_step_28 : decode cX0_step 28 = .ok (.iload_n 3, 1) := by decide +kernel
theorem dX0_step_29 : decode cX0_step 29 = .ok (.iconst 1, 1) := by decide +kernel
theorem dX0_step_30 : decode cX0_step 30 = .ok (.iload 4, 2) := by decide +kernel
theorem dX0_step_32 : decode cX0_step 32 = .ok (.ishl, 1) := by decide +kernel
theorem dX0_step_33 : decode cX0_step 33 = .ok (.ior, 1) := by decide +kernel
theorem dX0_step_34 : decode cX0_step 34 = .ok (.istore_n 3, 1) := by decide +kernel
theorem dX0_step_35 : decode cX0_step 35 = .ok (.iinc 4 1, 3) := by decide +kernel
theorem dX0_step_38 : decode cX0_step 38 = .ok (.goto (-33), 3) := by decide +kernel
theorem dX0_step_41 : decode cX0_step 41 = .ok (.iload_n 3, 1) := by decide +kernel
theorem dX0_step_42 : decode cX0_step 42 = .ok (.ireturn, 1) := by decide +kernel
theorem dX0_statesInCube_0 : decode cX0_statesInCube 0 = .ok (.aload_n 0, 1) := by decide +kernel
theorem dX0_statesInCube_1 : decode cX0_statesInCube 1 = .ok (.getfield 41, 3) := by decide +kernel
theorem dX0_statesInCube_4 : decode cX0_statesInCube 4 = .ok (.lstore_n 3, 1) := by decide +kernel
theorem dX0_statesInCube_5 : decode cX0_statesInCube 5 = .ok (.iconst 0, 1) := by decide +kernel
theorem dX0_statesInCube_6 : decode cX0_statesInCube 6 = .ok (.istore 5, 2) := by decide +kernel
theorem dX0_statesInCube_8 : decode cX0_statesInCube 8 = .ok (.iload 5, 2) := by decide +kernel
theorem dX0_statesInCube_10 : decode cX0_statesInCube 10 = .ok (.bipush 6, 2) := by decide +kernel
theorem dX0_statesInCube_12 : decode cX0_statesInCube 12 = .ok (.if_icmp .ge 49, 3) := by decide +kernel
theorem dX0_statesInCube_15 : decode cX0_statesInCube 15 = .ok (.iload_n 1, 1) := by decide +kernel
theorem dX0_statesInCube_16 : decode cX0_statesInCube 16 = .ok (.iload 5, 2) := by decide +kernel
theorem dX0_statesInCube_18 : decode cX0_statesInCube 18 = .ok (.ishr, 1) := by decide +kernel
theorem dX0_statesInCube_19 : decode cX0_statesInCube 19 = .ok (.iconst 1, 1) := by decide +kernel
theorem dX0_statesInCube_20 : decode cX0_statesInCube 20 = .ok (.iand, 1) := by decide +kernel
theorem dX0_statesInCube_21 : decode cX0_statesInCube 21 = .ok (.ifCond .eq 34, 3) := by decide +kernel
theorem dX0_statesInCube_24 : decode cX0_statesInCube 24 = .ok (.lload_n 3, 1) := by decide +kernel
theorem dX0_statesInCube_25 : decode cX0_statesInCube 25 = .ok (.iload_n 2, 1) := by decide +kernel
theorem dX0_statesInCube_26 : decode cX0_statesInCube 26 = .ok (.iload 5, 2) := by decide +kernel
theorem dX0_statesInCube_28 : decode cX0_statesInCube 28 = .ok (.ishr, 1) := by decide +kernel
theorem dX0_statesInCube_29 : decode cX0_statesInCube 29 = .ok (.iconst 1, 1) := by decide +kernel
theorem dX0_statesInCube_30 : decode cX0_statesInCube 30 = .ok (.iand, 1) := by decide +kernel
theorem dX0_statesInCube_31 : decode cX0_statesInCube 31 = .ok (.ifCond .eq 12, 3) := by decide +kernel
theorem dX0_statesInCube_34 : decode cX0_statesInCube 34 = .ok (.getstatic 51, 3) := by decide +kernel
theorem dX0_statesInCube_37 : decode cX0_statesInCube 37 = .ok (.iload 5, 2) := by decide +kernel
theorem dX0_statesInCube_39 : decode cX0_statesInCube 39 = .ok (.laload, 1) := by decide +kernel
theorem dX0_statesInCube_40 : decode cX0_statesInCube 40 = .ok (.goto 13, 3) := by decide +kernel
theorem dX0_statesInCube_43 : decode cX0_statesInCube 43 = .ok (.getstatic 51, 3) := by decide +kernel
theorem dX0_statesInCube_46 : decode cX0_statesInCube 46 = .ok (.iload 5, 2) := by decide +kernel
theorem dX0_statesInCube_48 : decode cX0_statesInCube 48 = .ok (.laload, 1) := by decide +kernel
theorem dX0_statesInCube_49 : decode cX0_statesInCube 49 = .ok (.ldc2_w 39, 3) := by decide +kernel
theorem dX0_statesInCube_52 : decode cX0_statesInCube 52 = .ok (.lxor, 1) := by decide +kernel
theorem dX0_statesInCube_53 : decode cX0_statesInCube 53 = .ok (.land, 1) := by decide +kernel
theorem dX0_statesInCube_54 : decode cX0_statesInCube 54 = .ok (.lstore_n 3, 1) := by decide +kernel
theorem dX0_statesInCube_55 : decode cX0_statesInCube 55 = .ok (.iinc 5 1, 3) := by decide +kernel
theorem dX0_statesInCube_58 : decode cX0_statesInCube 58 = .ok (.goto (-50), 3) := by decide +kernel
theorem dX0_statesInCube_61 : decode cX0_statesInCube 61 = .ok (.lload_n 3, 1) := by decide +kernel
theorem dX0_statesInCube_62 : decode cX0_statesInCube 62 = .ok (.lreturn, 1) := by decide +kernel
theorem dX0_predecessorsOfCube_0 : decode cX0_predecessorsOfCube 0 = .ok (.lconst 0, 1) := by decide +kernel
theorem dX0_predecessorsOfCube_1 : decode cX0_predecessorsOfCube 1 = .ok (.lstore_n 3, 1) := by decide +kernel
theorem dX0_predecessorsOfCube_2 : decode cX0_predecessorsOfCube 2 = .ok (.iconst 0, 1) := by decide +kernel
theorem dX0_predecessorsOfCube_3 : decode cX0_predecessorsOfCube 3 = .ok (.istore 5, 2) := by decide +kernel
theorem dX0_predecessorsOfCube_5 : decode cX0_predecessorsOfCube 5 = .ok (.iload 5, 2) := by decide +kernel
theorem dX0_predecessorsOfCube_7 : decode cX0_predecessorsOfCube 7 = .ok (.aload_n 0, 1) := by decide +kernel
theorem dX0_predecessorsOfCube_8 : decode cX0_predecessorsOfCube 8 = .ok (.getfield 36, 3) := by decide +kernel
theorem dX0_predecessorsOfCube_11 : decode cX0_predecessorsOfCube 11 = .ok (.if_icmp .ge 99, 3) := by decide +kernel
theorem dX0_predecessorsOfCube_14 : decode cX0_predecessorsOfCube 14 = .ok (.iload 5, 2) := by decide +kernel
theorem dX0_predecessorsOfCube_16 : decode cX0_predecessorsOfCube 16 = .ok (.iconst 4, 1) := by decide +kernel
theorem dX0_predecessorsOfCube_17 : decode cX0_predecessorsOfCube 17 = .ok (.if_icmp .ge 93, 3) := by decide +kernel
theorem dX0_predecessorsOfCube_20 : decode cX0_predecessorsOfCube 20 = .ok (.aload_n 0, 1) := by decide +kernel
theorem dX0_predecessorsOfCube_21 : decode cX0_predecessorsOfCube 21 = .ok (.getfield 41, 3) := by decide +kernel
theorem dX0_predecessorsOfCube_24 : decode cX0_predecessorsOfCube 24 = .ok (.lstore 6, 2) := by decide +kernel
theorem dX0_predecessorsOfCube_26 : decode cX0_predecessorsOfCube 26 = .ok (.iconst 0, 1) := by decide +kernel
theorem dX0_predecessorsOfCube_27 : decode cX0_predecessorsOfCube 27 = .ok (.istore 8, 2) := by decide +kernel
theorem dX0_predecessorsOfCube_29 : decode cX0_predecessorsOfCube 29 = .ok (.iload 8, 2) := by decide +kernel
theorem dX0_predecessorsOfCube_31 : decode cX0_predecessorsOfCube 31 = .ok (.aload_n 0, 1) := by decide +kernel
theorem dX0_predecessorsOfCube_32 : decode cX0_predecessorsOfCube 32 = .ok (.getfield 26, 3) := by decide +kernel
theorem dX0_predecessorsOfCube_35 : decode cX0_predecessorsOfCube 35 = .ok (.if_icmp .ge 64, 3) := by decide +kernel
theorem dX0_predecessorsOfCube_38 : decode cX0_predecessorsOfCube 38 = .ok (.iload 8, 2) := by decide +kernel
theorem dX0_predecessorsOfCube_40 : decode cX0_predecessorsOfCube 40 = .ok (.bipush 6, 2) := by decide +kernel
theorem dX0_predecessorsOfCube_42 : decode cX0_predecessorsOfCube 42 = .ok (.if_icmp .ge 57, 3) := by decide +kernel
theorem dX0_predecessorsOfCube_45 : decode cX0_predecessorsOfCube 45 = .ok (.iload_n 1, 1) := by decide +kernel
theorem dX0_predecessorsOfCube_46 : decode cX0_predecessorsOfCube 46 = .ok (.iload 8, 2) := by decide +kernel
theorem dX0_predecessorsOfCube_48 : decode cX0_predecessorsOfCube 48 = .ok (.ishr, 1) := by decide +kernel
theorem dX0_predecessorsOfCube_49 : decode cX0_predecessorsOfCube 49 = .ok (.iconst 1, 1) := by decide +kernel
theorem dX0_predecessorsOfCube_50 : decode cX0_predecessorsOfCube 50 = .ok (.iand, 1) := by decide +kernel
theorem dX0_predecessorsOfCube_51 : decode cX0_predecessorsOfCube 51 = .ok (.ifCond .eq 42, 3) := by decide +kernel
theorem dX0_predecessorsOfCube_54 : decode cX0_predecessorsOfCube 54 = .ok (.aload_n 0, 1) := by decide +kernel
theorem dX0_predecessorsOfCube_55 : decode cX0_predecessorsOfCube 55 = .ok (.getfield 11, 3) := by decide +kernel
theorem dX0_predecessorsOfCube_58 : decode cX0_predecessorsOfCube 58 = .ok (.iload 8, 2) := by decide +kernel
theorem dX0_predecessorsOfCube_60 : decode cX0_predecessorsOfCube 60 = .ok (.iconst 4, 1) := by decide +kernel
theorem dX0_predecessorsOfCube_61 : decode cX0_predecessorsOfCube 61 = .ok (.imul, 1) := by decide +kernel
theorem dX0_predecessorsOfCube_62 : decode cX0_predecessorsOfCube 62 = .ok (.iload 5, 2) := by decide +kernel
theorem dX0_predecessorsOfCube_64 : decode cX0_predecessorsOfCube 64 = .ok (.iadd, 1) := by decide +kernel
theorem dX0_predecessorsOfCube_65 : decode cX0_predecessorsOfCube 65 = .ok (.laload, 1) := by decide +kernel
theorem dX0_predecessorsOfCube_66 : decode cX0_predecessorsOfCube 66 = .ok (.lstore 9, 2) := by decide +kernel
theorem dX0_predecessorsOfCube_68 : decode cX0_predecessorsOfCube 68 = .ok (.lload 6, 2) := by decide +kernel
theorem dX0_predecessorsOfCube_70 : decode cX0_predecessorsOfCube 70 = .ok (.iload_n 2, 1) := by decide +kernel
theorem dX0_predecessorsOfCube_71 : decode cX0_predecessorsOfCube 71 = .ok (.iload 8, 2) := by decide +kernel
theorem dX0_predecessorsOfCube_73 : decode cX0_predecessorsOfCube 73 = .ok (.ishr, 1) := by decide +kernel
theorem dX0_predecessorsOfCube_74 : decode cX0_predecessorsOfCube 74 = .ok (.iconst 1, 1) := by decide +kernel
theorem dX0_predecessorsOfCube_75 : decode cX0_predecessorsOfCube 75 = .ok (.iand, 1) := by decide +kernel
theorem dX0_predecessorsOfCube_76 : decode cX0_predecessorsOfCube 76 = .ok (.ifCond .eq 8, 3) := by decide +kernel
theorem dX0_predecessorsOfCube_79 : decode cX0_predecessorsOfCube 79 = .ok (.lload 9, 2) := by decide +kernel
theorem dX0_predecessorsOfCube_81 : decode cX0_predecessorsOfCube 81 = .ok (.goto 9, 3) := by decide +kernel
theorem dX0_predecessorsOfCube_84 : decode cX0_predecessorsOfCube 84 = .ok (.lload 9, 2) := by decide +kernel
theorem dX0_predecessorsOfCube_86 : decode cX0_predecessorsOfCube 86 = .ok (.ldc2_w 39, 3) := by decide +kernel
theorem dX0_predecessorsOfCube_89 : decode cX0_predecessorsOfCube 89 = .ok (.lxor, 1) := by decide +kernel
theorem dX0_predecessorsOfCube_90 : decode cX0_predecessorsOfCube 90 = .ok (.land, 1) := by decide +kernel
theorem dX0_predecessorsOfCube_91 : decode cX0_predecessorsOfCube 91 = .ok (.lstore 6, 2) := by decide +kernel
theorem dX0_predecessorsOfCube_93 : decode cX0_predecessorsOfCube 93 = .ok (.iinc 8 1, 3) := by decide +kernel
theorem dX0_predecessorsOfCube_96 : decode cX0_predecessorsOfCube 96 = .ok (.goto (-67), 3) := by decide +kernel
theorem dX0_predecessorsOfCube_99 : decode cX0_predecessorsOfCube 99 = .ok (.lload_n 3, 1) := by decide +kernel
theorem dX0_predecessorsOfCube_100 : decode cX0_predecessorsOfCube 100 = .ok (.lload 6, 2) := by decide +kernel
theorem dX0_predecessorsOfCube_102 : decode cX0_predecessorsOfCube 102 = .ok (.lor, 1) := by decide +kernel
theorem dX0_predecessorsOfCube_103 : decode cX0_predecessorsOfCube 103 = .ok (.lstore_n 3, 1) := by decide +kernel
theorem dX0_predecessorsOfCube_104 : decode cX0_predecessorsOfCube 104 = .ok (.iinc 5 1, 3) := by decide +kernel
theorem dX0_predecessorsOfCube_107 : decode cX0_predecessorsOfCube 107 = .ok (.goto (-102), 3) := by decide +kernel
theorem dX0_predecessorsOfCube_110 : decode cX0_predecessorsOfCube 110 = .ok (.lload_n 3, 1) := by decide +kernel
theorem dX0_predecessorsOfCube_111 : decode cX0_predecessorsOfCube 111 = .ok (.lreturn, 1) := by decide +kernel
theorem dX1_init_0 : decode cX1_init 0 = .ok (.aload_n 0, 1) := by decide +kernel
theorem dX1_init_1 : decode cX1_init 1 = .ok (.invokespecial 3, 3) := by decide +kernel
theorem dX1_init_4 : decode cX1_init 4 = .ok (.aload_n 0, 1) := by decide +kernel
theorem dX1_init_5 : decode cX1_init 5 = .ok (.sipush 729, 3) := by decide +kernel
theorem dX1_init_8 : decode cX1_init 8 = .ok (.newarray .int, 2) := by decide +kernel
theorem dX1_init_10 : decode cX1_init 10 = .ok (.putfield 11, 3) := by decide +kernel
theorem dX1_init_13 : decode cX1_init 13 = .ok (.aload_n 0, 1) := by decide +kernel
theorem dX1_init_14 : decode cX1_init 14 = .ok (.sipush 729, 3) := by decide +kernel
theorem dX1_init_17 : decode cX1_init 17 = .ok (.newarray .int, 2) := by decide +kernel
theorem dX1_init_19 : decode cX1_init 19 = .ok (.putfield 15, 3) := by decide +kernel
theorem dX1_init_22 : decode cX1_init 22 = .ok (.aload_n 0, 1) := by decide +kernel
theorem dX1_init_23 : decode cX1_init 23 = .ok (.sipush 729, 3) := by decide +kernel
theorem dX1_init_26 : decode cX1_init 26 = .ok (.newarray .int, 2) := by decide +kernel
theorem dX1_init_28 : decode cX1_init 28 = .ok (.putfield 18, 3) := by decide +kernel
theorem dX1_init_31 : decode cX1_init 31 = .ok (.aload_n 0, 1) := by decide +kernel
theorem dX1_init_32 : decode cX1_init 32 = .ok (.sipush 729, 3) := by decide +kernel
theorem dX1_init_35 : decode cX1_init 35 = .ok (.newarray .long, 2) := by decide +kernel
theorem dX1_init_37 : decode cX1_init 37 = .ok (.putfield 21, 3) := by decide +kernel
theorem dX1_init_40 : decode cX1_init 40 = .ok (.return_, 1) := by decide +kernel
theorem dX1_put_0 : decode cX1_put 0 = .ok (.aload_n 0, 1) := by decide +kernel
theorem dX1_put_1 : decode cX1_put 1 = .ok (.getfield 25, 3) := by decide +kernel
theorem dX1_put_4 : decode cX1_put 4 = .ok (.ifCond .lt 64, 3) := by decide +kernel
theorem dX1_put_7 : decode cX1_put 7 = .ok (.aload_n 0, 1) := by decide +kernel
theorem dX1_put_8 : decode cX1_put 8 = .ok (.getfield 25, 3) := by decide +kernel
theorem dX1_put_11 : decode cX1_put 11 = .ok (.sipush 729, 3) := by decide +kernel
theorem dX1_put_14 : decode cX1_put 14 = .ok (.if_icmp .ge 54, 3) := by decide +kernel
theorem dX1_put_17 : decode cX1_put 17 = .ok (.aload_n 0, 1) := by decide +kernel
theorem dX1_put_18 : decode cX1_put 18 = .ok (.getfield 11, 3) := by decide +kernel
theorem dX1_put_21 : decode cX1_put 21 = .ok (.aload_n 0, 1) := by decide +kernel
theorem dX1_put_22 : decode cX1_put 22 = .ok (.getfield 25, 3) := by decide +kernel
theorem dX1_put_25 : decode cX1_put 25 = .ok (.iload_n 1, 1) := by decide +kernel
theorem dX1_put_26 : decode cX1_put 26 = .ok (.iastore, 1) := by decide +kernel
theorem dX1_put_27 : decode cX1_put 27 = .ok (.aload_n 0, 1) := by decide +kernel
theorem dX1_put_28 : decode cX1_put 28 = .ok (.getfield 15, 3) := by decide +kernel
theorem dX1_put_31 : decode cX1_put 31 = .ok (.aload_n 0, 1) := by decide +kernel
theorem dX1_put_32 : decode cX1_put 32 = .ok (.getfield 25, 3) := by decide +kernel
theorem dX1_put_35 : decode cX1_put 35 = .ok (.iload_n 2, 1) := by decide +kernel
theorem dX1_put_36 : decode cX1_put 36 = .ok (.iastore, 1) := by decide +kernel
theorem dX1_put_37 : decode cX1_put 37 = .ok (.aload_n 0, 1) := by decide +kernel
theorem dX1_put_38 : decode cX1_put 38 = .ok (.getfield 18, 3) := by decide +kernel
theorem dX1_put_41 : decode cX1_put 41 = .ok (.aload_n 0, 1) := by decide +kernel
theorem dX1_put_42 : decode cX1_put 42 = .ok (.getfield 25, 3) := by decide +kernel
theorem dX1_put_45 : decode cX1_put 45 = .ok (.iload_n 3, 1) := by decide +kernel
theorem dX1_put_46 : decode cX1_put 46 = .ok (.iastore, 1) := by decide +kernel
theorem dX1_put_47 : decode cX1_put 47 = .ok (.aload_n 0, 1) := by decide +kernel
theorem dX1_put_48 : decode cX1_put 48 = .ok (.getfield 21, 3) := by decide +kernel
theorem dX1_put_51 : decode cX1_put 51 = .ok (.aload_n 0, 1) := by decide +kernel
theorem dX1_put_52 : decode cX1_put 52 = .ok (.getfield 25, 3) := by decide +kernel
theorem dX1_put_55 : decode cX1_put 55 = .ok (.lload 4, 2) := by decide +kernel
theorem dX1_put_57 : decode cX1_put 57 = .ok (.lastore, 1) := by decide +kernel
theorem dX1_put_58 : decode cX1_put 58 = .ok (.aload_n 0, 1) := by decide +kernel
theorem dX1_put_59 : decode cX1_put 59 = .ok (.dup, 1) := by decide +kernel
theorem dX1_put_60 : decode cX1_put 60 = .ok (.getfield 25, 3) := by decide +kernel
theorem dX1_put_63 : decode cX1_put 63 = .ok (.iconst 1, 1) := by decide +kernel
theorem dX1_put_64 : decode cX1_put 64 = .ok (.iadd, 1) := by decide +kernel
theorem dX1_put_65 : decode cX1_put 65 = .ok (.putfield 25, 3) := by decide +kernel
theorem dX1_put_68 : decode cX1_put 68 = .ok (.return_, 1) := by decide +kernel
theorem dX1_removeCovered_0 : decode cX1_removeCovered 0 = .ok (.iconst 0, 1) := by decide +kernel
theorem dX1_removeCovered_1 : decode cX1_removeCovered 1 = .ok (.istore 4, 2) := by decide +kernel
theorem dX1_removeCovered_3 : decode cX1_removeCovered 3 = .ok (.iconst 0, 1) := by decide +kernel
theorem dX1_removeCovered_4 : decode cX1_removeCovered 4 = .ok (.istore 5, 2) := by decide +kernel
theorem dX1_removeCovered_6 : decode cX1_removeCovered 6 = .ok (.iload 5, 2) := by decide +kernel
theorem dX1_removeCovered_8 : decode cX1_removeCovered 8 = .ok (.aload_n 0, 1) := by decide +kernel
theorem dX1_removeCovered_9 : decode cX1_removeCovered 9 = .ok (.getfield 25, 3) := by decide +kernel
theorem dX1_removeCovered_12 : decode cX1_removeCovered 12 = .ok (.if_icmp .ge 124, 3) := by decide +kernel
theorem dX1_removeCovered_15 : decode cX1_removeCovered 15 = .ok (.iload 5, 2) := by decide +kernel
theorem dX1_removeCovered_17 : decode cX1_removeCovered 17 = .ok (.sipush 729, 3) := by decide +kernel
theorem dX1_removeCovered_20 : decode cX1_removeCovered 20 = .ok (.if_icmp .ge 116, 3) := by decide +kernel
theorem dX1_removeCovered_23 : decode cX1_removeCovered 23 = .ok (.aload_n 0, 1) := by decide +kernel
theorem dX1_removeCovered_24 : decode cX1_removeCovered 24 = .ok (.getfield 18, 3) := by decide +kernel
theorem dX1_removeCovered_27 : decode cX1_removeCovered 27 = .ok (.iload 5, 2) := by decide +kernel
theorem dX1_removeCovered_29 : decode cX1_removeCovered 29 = .ok (.iaload, 1) := by decide +kernel
theorem dX1_removeCovered_30 : decode cX1_removeCovered 30 = .ok (.iload_n 3, 1) := by decide +kernel
theorem dX1_removeCovered_31 : decode cX1_removeCovered 31 = .ok (.if_icmp .gt 25, 3) := by decide +kernel
theorem dX1_removeCovered_34 : decode cX1_removeCovered 34 = .ok (.aload_n 0, 1) := by decide +kernel
theorem dX1_removeCovered_35 : decode cX1_removeCovered 35 = .ok (.getfield 21, 3) := by decide +kernel
theorem dX1_removeCovered_38 : decode cX1_removeCovered 38 = .ok (.iload 5, 2) := by decide +kernel
theorem dX1_removeCovered_40 : decode cX1_removeCovered 40 = .ok (.laload, 1) := by decide +kernel
theorem dX1_removeCovered_41 : decode cX1_removeCovered 41 = .ok (.lload_n 1, 1) := by decide +kernel
theorem dX1_removeCovered_42 : decode cX1_removeCovered 42 = .ok (.ldc2_w 29, 3) := by decide +kernel
theorem dX1_removeCovered_45 : decode cX1_removeCovered 45 = .ok (.lxor, 1) := by decide +kernel
theorem dX1_removeCovered_46 : decode cX1_removeCovered 46 = .ok (.land, 1) := by decide +kernel
theorem dX1_removeCovered_47 : decode cX1_removeCovered 47 = .ok (.lconst 0, 1) := by decide +kernel
theorem dX1_removeCovered_48 : decode cX1_removeCovered 48 = .ok (.lcmp, 1) := by decide +kernel
theorem dX1_removeCovered_49 : decode cX1_removeCovered 49 = .ok (.ifCond .ne 7, 3) := by decide +kernel
theorem dX1_removeCovered_52 : decode cX1_removeCovered 52 = .ok (.iconst 1, 1) := by decide +kernel
theorem dX1_removeCovered_53 : decode cX1_removeCovered 53 = .ok (.goto 4, 3) := by decide +kernel
theorem dX1_removeCovered_56 : decode cX1_removeCovered 56 = .ok (.iconst 0, 1) := by decide +kernel
theorem dX1_removeCovered_57 : decode cX1_removeCovered 57 = .ok (.istore 6, 2) := by decide +kernel
theorem dX1_removeCovered_59 : decode cX1_removeCovered 59 = .ok (.iload 6, 2) := by decide +kernel
theorem dX1_removeCovered_61 : decode cX1_removeCovered 61 = .ok (.ifCond .ne 69, 3) := by decide +kernel
theorem dX1_removeCovered_64 : decode cX1_removeCovered 64 = .ok (.iload 4, 2) := by decide +kernel
theorem dX1_removeCovered_66 : decode cX1_removeCovered 66 = .ok (.iload 5, 2) := by decide +kernel
theorem dX1_removeCovered_68 : decode cX1_removeCovered 68 = .ok (.if_icmp .gt 62, 3) := by decide +kernel
theorem dX1_removeCovered_71 : decode cX1_removeCovered 71 = .ok (.aload_n 0, 1) := by decide +kernel
theorem dX1_removeCovered_72 : decode cX1_removeCovered 72 = .ok (.getfield 11, 3) := by decide +kernel
theorem dX1_removeCovered_75 : decode cX1_removeCovered 75 = .ok (.iload 4, 2) := by decide +kernel
theorem dX1_removeCovered_77 : decode cX1_removeCovered 77 = .ok (.aload_n 0, 1) := by decide +kernel
theorem dX1_removeCovered_78 : decode cX1_removeCovered 78 = .ok (.getfield 11, 3) := by decide +kernel
theorem dX1_removeCovered_81 : decode cX1_removeCovered 81 = .ok (.iload 5, 2) := by decide +kernel
theorem dX1_removeCovered_83 : decode cX1_removeCovered 83 = .ok (.iaload, 1) := by decide +kernel
theorem dX1_removeCovered_84 : decode cX1_removeCovered 84 = .ok (.iastore, 1) := by decide +kernel
theorem dX1_removeCovered_85 : decode cX1_removeCovered 85 = .ok (.aload_n 0, 1) := by decide +kernel
theorem dX1_removeCovered_86 : decode cX1_removeCovered 86 = .ok (.getfield 15, 3) := by decide +kernel
theorem dX1_removeCovered_89 : decode cX1_removeCovered 89 = .ok (.iload 4, 2) := by decide +kernel
theorem dX1_removeCovered_91 : decode cX1_removeCovered 91 = .ok (.aload_n 0, 1) := by decide +kernel
theorem dX1_removeCovered_92 : decode cX1_removeCovered 92 = .ok (.getfield 15, 3) := by decide +kernel
theorem dX1_removeCovered_95 : decode cX1_removeCovered 95 = .ok (.iload 5, 2) := by decide +kernel
theorem dX1_removeCovered_97 : decode cX1_removeCovered 97 = .ok (.iaload, 1) := by decide +kernel
theorem dX1_removeCovered_98 : decode cX1_removeCovered 98 = .ok (.iastore, 1) := by decide +kernel
theorem dX1_removeCovered_99 : decode cX1_removeCovered 99 = .ok (.aload_n 0, 1) := by decide +kernel
theorem dX1_removeCovered_100 : decode cX1_removeCovered 100 = .ok (.getfield 18, 3) := by decide +kernel
theorem dX1_removeCovered_103 : decode cX1_removeCovered 103 = .ok (.iload 4, 2) := by decide +kernel
theorem dX1_removeCovered_105 : decode cX1_removeCovered 105 = .ok (.aload_n 0, 1) := by decide +kernel
theorem dX1_removeCovered_106 : decode cX1_removeCovered 106 = .ok (.getfield 18, 3) := by decide +kernel
theorem dX1_removeCovered_109 : decode cX1_removeCovered 109 = .ok (.iload 5, 2) := by decide +kernel
theorem dX1_removeCovered_111 : decode cX1_removeCovered 111 = .ok (.iaload, 1) := by decide +kernel
theorem dX1_removeCovered_112 : decode cX1_removeCovered 112 = .ok (.iastore, 1) := by decide +kernel
theorem dX1_removeCovered_113 : decode cX1_removeCovered 113 = .ok (.aload_n 0, 1) := by decide +kernel
theorem dX1_removeCovered_114 : decode cX1_removeCovered 114 = .ok (.getfield 21, 3) := by decide +kernel
theorem dX1_removeCovered_117 : decode cX1_removeCovered 117 = .ok (.iload 4, 2) := by decide +kernel
theorem dX1_removeCovered_119 : decode cX1_removeCovered 119 = .ok (.aload_n 0, 1) := by decide +kernel
theorem dX1_removeCovered_120 : decode cX1_removeCovered 120 = .ok (.getfield 21, 3) := by decide +kernel
theorem dX1_removeCovered_123 : decode cX1_removeCovered 123 = .ok (.iload 5, 2) := by decide +kernel
theorem dX1_removeCovered_125 : decode cX1_removeCovered 125 = .ok (.laload, 1) := by decide +kernel
theorem dX1_removeCovered_126 : decode cX1_removeCovered 126 = .ok (.lastore, 1) := by decide +kernel
theorem dX1_removeCovered_127 : decode cX1_removeCovered 127 = .ok (.iinc 4 1, 3) := by decide +kernel
theorem dX1_removeCovered_130 : decode cX1_removeCovered 130 = .ok (.iinc 5 1, 3) := by decide +kernel
theorem dX1_removeCovered_133 : decode cX1_removeCovered 133 = .ok (.goto (-127), 3) := by decide +kernel
theorem dX1_removeCovered_136 : decode cX1_removeCovered 136 = .ok (.aload_n 0, 1) := by decide +kernel
theorem dX1_removeCovered_137 : decode cX1_removeCovered 137 = .ok (.iload 4, 2) := by decide +kernel
theorem dX1_removeCovered_139 : decode cX1_removeCovered 139 = .ok (.putfield 25, 3) := by decide +kernel
theorem dX1_removeCovered_142 : decode cX1_removeCovered 142 = .ok (.return_, 1) := by decide +kernel
theorem dX1_levelAt_0 : decode cX1_levelAt 0 = .ok (.iload_n 1, 1) := by decide +kernel
theorem dX1_levelAt_1 : decode cX1_levelAt 1 = .ok (.ifCond .lt 19, 3) := by decide +kernel
theorem dX1_levelAt_4 : decode cX1_levelAt 4 = .ok (.iload_n 1, 1) := by decide +kernel
theorem dX1_levelAt_5 : decode cX1_levelAt 5 = .ok (.sipush 729, 3) := by decide +kernel
theorem dX1_levelAt_8 : decode cX1_levelAt 8 = .ok (.if_icmp .ge 12, 3) := by decide +kernel
theorem dX1_levelAt_11 : decode cX1_levelAt 11 = .ok (.aload_n 0, 1) := by decide +kernel
theorem dX1_levelAt_12 : decode cX1_levelAt 12 = .ok (.getfield 18, 3) := by decide +kernel
theorem dX1_levelAt_15 : decode cX1_levelAt 15 = .ok (.iload_n 1, 1) := by decide +kernel
theorem dX1_levelAt_16 : decode cX1_levelAt 16 = .ok (.iaload, 1) := by decide +kernel
theorem dX1_levelAt_17 : decode cX1_levelAt 17 = .ok (.goto 4, 3) := by decide +kernel
theorem dX1_levelAt_20 : decode cX1_levelAt 20 = .ok (.iconst 0, 1) := by decide +kernel
theorem dX1_levelAt_21 : decode cX1_levelAt 21 = .ok (.ireturn, 1) := by decide +kernel
theorem dX1_number_0 : decode cX1_number 0 = .ok (.iload_n 1, 1) := by decide +kernel
theorem dX1_number_1 : decode cX1_number 1 = .ok (.ifCond .lt 10, 3) := by decide +kernel
theorem dX1_number_4 : decode cX1_number 4 = .ok (.iload_n 1, 1) := by decide +kernel
theorem dX1_number_5 : decode cX1_number 5 = .ok (.sipush 729, 3) := by decide +kernel
theorem dX1_number_8 : decode cX1_number 8 = .ok (.if_icmp .lt 5, 3) := by decide +kernel
theorem dX1_number_11 : decode cX1_number 11 = .ok (.iconst (-1), 1) := by decide +kernel
theorem dX1_number_12 : decode cX1_number 12 = .ok (.ireturn, 1) := by decide +kernel
theorem dX1_number_13 : decode cX1_number 13 = .ok (.iload_n 2, 1) := by decide +kernel
theorem dX1_number_14 : decode cX1_number 14 = .ok (.ifCond .ne 10, 3) := by decide +kernel
theorem dX1_number_17 : decode cX1_number 17 = .ok (.aload_n 0, 1) := by decide +kernel
theorem dX1_number_18 : decode cX1_number 18 = .ok (.getfield 11, 3) := by decide +kernel
theorem dX1_number_21 : decode cX1_number 21 = .ok (.iload_n 1, 1) := by decide +kernel
theorem dX1_number_22 : decode cX1_number 22 = .ok (.iaload, 1) := by decide +kernel
theorem dX1_number_23 : decode cX1_number 23 = .ok (.ireturn, 1) := by decide +kernel
theorem dX1_number_24 : decode cX1_number 24 = .ok (.iload_n 2, 1) := by decide +kernel
theorem dX1_number_25 : decode cX1_number 25 = .ok (.iconst 1, 1) := by decide +kernel
theorem dX1_number_26 : decode cX1_number 26 = .ok (.if_icmp .ne 12, 3) := by decide +kernel
theorem dX1_number_29 : decode cX1_number 29 = .ok (.aload_n 0, 1) := by decide +kernel
theorem dX1_number_30 : decode cX1_number 30 = .ok (.getfield 15, 3) := by decide +kernel
theorem dX1_number_33 : decode cX1_number 33 = .ok (.iload_n 1, 1) := by decide +kernel
theorem dX1_number_34 : decode cX1_number 34 = .ok (.iaload, 1) := by decide +kernel
theorem dX1_number_35 : decode cX1_number 35 = .ok (.goto 9, 3) := by decide +kernel
theorem dX1_number_38 : decode cX1_number 38 = .ok (.aload_n 0, 1) := by decide +kernel
theorem dX1_number_39 : decode cX1_number 39 = .ok (.getfield 18, 3) := by decide +kernel
theorem dX1_number_42 : decode cX1_number 42 = .ok (.iload_n 1, 1) := by decide +kernel
theorem dX1_number_43 : decode cX1_number 43 = .ok (.iaload, 1) := by decide +kernel
theorem dX1_number_44 : decode cX1_number 44 = .ok (.ireturn, 1) := by decide +kernel
theorem dX1_hasLevel_0 : decode cX1_hasLevel 0 = .ok (.iconst 0, 1) := by decide +kernel
theorem dX1_hasLevel_1 : decode cX1_hasLevel 1 = .ok (.istore_n 2, 1) := by decide +kernel
theorem dX1_hasLevel_2 : decode cX1_hasLevel 2 = .ok (.iload_n 2, 1) := by decide +kernel
theorem dX1_hasLevel_3 : decode cX1_hasLevel 3 = .ok (.aload_n 0, 1) := by decide +kernel
theorem dX1_hasLevel_4 : decode cX1_hasLevel 4 = .ok (.getfield 25, 3) := by decide +kernel
theorem dX1_hasLevel_7 : decode cX1_hasLevel 7 = .ok (.if_icmp .ge 28, 3) := by decide +kernel
theorem dX1_hasLevel_10 : decode cX1_hasLevel 10 = .ok (.iload_n 2, 1) := by decide +kernel
theorem dX1_hasLevel_11 : decode cX1_hasLevel 11 = .ok (.sipush 729, 3) := by decide +kernel
theorem dX1_hasLevel_14 : decode cX1_hasLevel 14 = .ok (.if_icmp .ge 21, 3) := by decide +kernel
theorem dX1_hasLevel_17 : decode cX1_hasLevel 17 = .ok (.aload_n 0, 1) := by decide +kernel
theorem dX1_hasLevel_18 : decode cX1_hasLevel 18 = .ok (.getfield 18, 3) := by decide +kernel
theorem dX1_hasLevel_21 : decode cX1_hasLevel 21 = .ok (.iload_n 2, 1) := by decide +kernel
theorem dX1_hasLevel_22 : decode cX1_hasLevel 22 = .ok (.iaload, 1) := by decide +kernel
theorem dX1_hasLevel_23 : decode cX1_hasLevel 23 = .ok (.iload_n 1, 1) := by decide +kernel
theorem dX1_hasLevel_24 : decode cX1_hasLevel 24 = .ok (.if_icmp .ne 5, 3) := by decide +kernel
theorem dX1_hasLevel_27 : decode cX1_hasLevel 27 = .ok (.iconst 1, 1) := by decide +kernel
theorem dX1_hasLevel_28 : decode cX1_hasLevel 28 = .ok (.ireturn, 1) := by decide +kernel
theorem dX1_hasLevel_29 : decode cX1_hasLevel 29 = .ok (.iinc 2 1, 3) := by decide +kernel
theorem dX1_hasLevel_32 : decode cX1_hasLevel 32 = .ok (.goto (-30), 3) := by decide +kernel
theorem dX1_hasLevel_35 : decode cX1_hasLevel 35 = .ok (.iconst 0, 1) := by decide +kernel
theorem dX1_hasLevel_36 : decode cX1_hasLevel 36 = .ok (.ireturn, 1) := by decide +kernel
theorem dX1_countAbove_0 : decode cX1_countAbove 0 = .ok (.iconst 0, 1) := by decide +kernel
theorem dX1_countAbove_1 : decode cX1_countAbove 1 = .ok (.istore_n 2, 1) := by decide +kernel
theorem dX1_countAbove_2 : decode cX1_countAbove 2 = .ok (.iconst 0, 1) := by decide +kernel
theorem dX1_countAbove_3 : decode cX1_countAbove 3 = .ok (.istore_n 3, 1) := by decide +kernel
theorem dX1_countAbove_4 : decode cX1_countAbove 4 = .ok (.iload_n 3, 1) := by decide +kernel
theorem dX1_countAbove_5 : decode cX1_countAbove 5 = .ok (.aload_n 0, 1) := by decide +kernel
theorem dX1_countAbove_6 : decode cX1_countAbove 6 = .ok (.getfield 25, 3) := by decide +kernel
theorem dX1_countAbove_9 : decode cX1_countAbove 9 = .ok (.if_icmp .ge 29, 3) := by decide +kernel
theorem dX1_countAbove_12 : decode cX1_countAbove 12 = .ok (.iload_n 3, 1) := by decide +kernel
theorem dX1_countAbove_13 : decode cX1_countAbove 13 = .ok (.sipush 729, 3) := by decide +kernel
theorem dX1_countAbove_16 : decode cX1_countAbove 16 = .ok (.if_icmp .ge 22, 3) := by decide +kernel
theorem dX1_countAbove_19 : decode cX1_countAbove 19 = .ok (.aload_n 0, 1) := by decide +kernel
theorem dX1_countAbove_20 : decode cX1_countAbove 20 = .ok (.getfield 18, 3) := by decide +kernel
theorem dX1_countAbove_23 : decode cX1_countAbove 23 = .ok (.iload_n 3, 1) := by decide +kernel
theorem dX1_countAbove_24 : decode cX1_countAbove 24 = .ok (.iaload, 1) := by decide +kernel
theorem dX1_countAbove_25 : decode cX1_countAbove 25 = .ok (.iload_n 1, 1) := by decide +kernel
theorem dX1_countAbove_26 : decode cX1_countAbove 26 = .ok (.if_icmp .le 6, 3) := by decide +kernel
theorem dX1_countAbove_29 : decode cX1_countAbove 29 = .ok (.iinc 2 1, 3) := by decide +kernel
theorem dX1_countAbove_32 : decode cX1_countAbove 32 = .ok (.iinc 3 1, 3) := by decide +kernel
theorem dX1_countAbove_35 : decode cX1_countAbove 35 = .ok (.goto (-31), 3) := by decide +kernel
theorem dX1_countAbove_38 : decode cX1_countAbove 38 = .ok (.iload_n 2, 1) := by decide +kernel
theorem dX1_countAbove_39 : decode cX1_countAbove 39 = .ok (.ireturn, 1) := by decide +kernel
theorem dX1_unionAbove_0 : decode cX1_unionAbove 0 = .ok (.lconst 0, 1) := by decide +kernel
theorem dX1_unionAbove_1 : decode cX1_unionAbove 1 = .ok (.lstore_n 2, 1) := by decide +kernel
theorem dX1_unionAbove_2 : decode cX1_unionAbove 2 = .ok (.iconst 0, 1) := by decide +kernel
theorem dX1_unionAbove_3 : decode cX1_unionAbove 3 = .ok (.istore 4, 2) := by decide +kernel
theorem dX1_unionAbove_5 : decode cX1_unionAbove 5 = .ok (.iload 4, 2) := by decide +kernel
theorem dX1_unionAbove_7 : decode cX1_unionAbove 7 = .ok (.aload_n 0, 1) := by decide +kernel
theorem dX1_unionAbove_8 : decode cX1_unionAbove 8 = .ok (.getfield 25, 3) := by decide +kernel
theorem dX1_unionAbove_11 : decode cX1_unionAbove 11 = .ok (.if_icmp .ge 38, 3) := by decide +kernel
theorem dX1_unionAbove_14 : decode cX1_unionAbove 14 = .ok (.iload 4, 2) := by decide +kernel
theorem dX1_unionAbove_16 : decode cX1_unionAbove 16 = .ok (.sipush 729, 3) := by decide +kernel
theorem dX1_unionAbove_19 : decode cX1_unionAbove 19 = .ok (.if_icmp .ge 30, 3) := by decide +kernel
theorem dX1_unionAbove_22 : decode cX1_unionAbove 22 = .ok (.aload_n 0, 1) := by decide +kernel
theorem dX1_unionAbove_23 : decode cX1_unionAbove 23 = .ok (.getfield 18, 3) := by decide +kernel
theorem dX1_unionAbove_26 : decode cX1_unionAbove 26 = .ok (.iload 4, 2) := by decide +kernel
theorem dX1_unionAbove_28 : decode cX1_unionAbove 28 = .ok (.iaload, 1) := by decide +kernel
theorem dX1_unionAbove_29 : decode cX1_unionAbove 29 = .ok (.iload_n 1, 1) := by decide +kernel
theorem dX1_unionAbove_30 : decode cX1_unionAbove 30 = .ok (.if_icmp .le 13, 3) := by decide +kernel
theorem dX1_unionAbove_33 : decode cX1_unionAbove 33 = .ok (.lload_n 2, 1) := by decide +kernel
theorem dX1_unionAbove_34 : decode cX1_unionAbove 34 = .ok (.aload_n 0, 1) := by decide +kernel
theorem dX1_unionAbove_35 : decode cX1_unionAbove 35 = .ok (.getfield 21, 3) := by decide +kernel
theorem dX1_unionAbove_38 : decode cX1_unionAbove 38 = .ok (.iload 4, 2) := by decide +kernel
theorem dX1_unionAbove_40 : decode cX1_unionAbove 40 = .ok (.laload, 1) := by decide +kernel
theorem dX1_unionAbove_41 : decode cX1_unionAbove 41 = .ok (.lor, 1) := by decide +kernel
theorem dX1_unionAbove_42 : decode cX1_unionAbove 42 = .ok (.lstore_n 2, 1) := by decide +kernel
theorem dX1_unionAbove_43 : decode cX1_unionAbove 43 = .ok (.iinc 4 1, 3) := by decide +kernel
theorem dX1_unionAbove_46 : decode cX1_unionAbove 46 = .ok (.goto (-41), 3) := by decide +kernel
theorem dX1_unionAbove_49 : decode cX1_unionAbove 49 = .ok (.lload_n 2, 1) := by decide +kernel
theorem dX1_unionAbove_50 : decode cX1_unionAbove 50 = .ok (.lreturn, 1) := by decide +kernel
theorem dX2_init_0 : decode cX2_init 0 = .ok (.aload_n 0, 1) := by decide +kernel
theorem dX2_init_1 : decode cX2_init 1 = .ok (.invokespecial 3, 3) := by decide +kernel
theorem dX2_init_4 : decode cX2_init 4 = .ok (.aload_n 0, 1) := by decide +kernel
theorem dX2_init_5 : decode cX2_init 5 = .ok (.aload_n 1, 1) := by decide +kernel
theorem dX2_init_6 : decode cX2_init 6 = .ok (.putfield 9, 3) := by decide +kernel
theorem dX2_init_9 : decode cX2_init 9 = .ok (.aload_n 0, 1) := by decide +kernel
theorem dX2_init_10 : decode cX2_init 10 = .ok (.sipush 256, 3) := by decide +kernel
theorem dX2_init_13 : decode cX2_init 13 = .ok (.newarray .int, 2) := by decide +kernel
theorem dX2_init_15 : decode cX2_init 15 = .ok (.putfield 15, 3) := by decide +kernel
theorem dX2_init_18 : decode cX2_init 18 = .ok (.aload_n 0, 1) := by decide +kernel
theorem dX2_init_19 : decode cX2_init 19 = .ok (.bipush 64, 2) := by decide +kernel
theorem dX2_init_21 : decode cX2_init 21 = .ok (.newarray .long, 2) := by decide +kernel
theorem dX2_init_23 : decode cX2_init 23 = .ok (.putfield 19, 3) := by decide +kernel
theorem dX2_init_26 : decode cX2_init 26 = .ok (.aload_n 0, 1) := by decide +kernel
theorem dX2_init_27 : decode cX2_init 27 = .ok (.bipush 64, 2) := by decide +kernel
theorem dX2_init_29 : decode cX2_init 29 = .ok (.newarray .long, 2) := by decide +kernel
theorem dX2_init_31 : decode cX2_init 31 = .ok (.putfield 23, 3) := by decide +kernel
theorem dX2_init_34 : decode cX2_init 34 = .ok (.aload_n 0, 1) := by decide +kernel
theorem dX2_init_35 : decode cX2_init 35 = .ok (.bipush 64, 2) := by decide +kernel
theorem dX2_init_37 : decode cX2_init 37 = .ok (.newarray .int, 2) := by decide +kernel
theorem dX2_init_39 : decode cX2_init 39 = .ok (.putfield 26, 3) := by decide +kernel
theorem dX2_init_42 : decode cX2_init 42 = .ok (.aload_n 0, 1) := by decide +kernel
theorem dX2_init_43 : decode cX2_init 43 = .ok (.bipush 64, 2) := by decide +kernel
theorem dX2_init_45 : decode cX2_init 45 = .ok (.newarray .int, 2) := by decide +kernel
theorem dX2_init_47 : decode cX2_init 47 = .ok (.putfield 29, 3) := by decide +kernel
theorem dX2_init_50 : decode cX2_init 50 = .ok (.aload_n 0, 1) := by decide +kernel
theorem dX2_init_51 : decode cX2_init 51 = .ok (.bipush 64, 2) := by decide +kernel
theorem dX2_init_53 : decode cX2_init 53 = .ok (.newarray .int, 2) := by decide +kernel
theorem dX2_init_55 : decode cX2_init 55 = .ok (.putfield 32, 3) := by decide +kernel
theorem dX2_init_58 : decode cX2_init 58 = .ok (.aload_n 0, 1) := by decide +kernel
theorem dX2_init_59 : decode cX2_init 59 = .ok (.bipush 64, 2) := by decide +kernel
theorem dX2_init_61 : decode cX2_init 61 = .ok (.newarray .int, 2) := by decide +kernel
theorem dX2_init_63 : decode cX2_init 63 = .ok (.putfield 35, 3) := by decide +kernel
theorem dX2_init_66 : decode cX2_init 66 = .ok (.return_, 1) := by decide +kernel
theorem dX2_refresh_0 : decode cX2_refresh 0 = .ok (.aload_n 0, 1) := by decide +kernel
theorem dX2_refresh_1 : decode cX2_refresh 1 = .ok (.getfield 38, 3) := by decide +kernel
theorem dX2_refresh_4 : decode cX2_refresh 4 = .ok (.ifCond .eq 4, 3) := by decide +kernel
theorem dX2_refresh_7 : decode cX2_refresh 7 = .ok (.return_, 1) := by decide +kernel
theorem dX2_refresh_8 : decode cX2_refresh 8 = .ok (.aload_n 0, 1) := by decide +kernel
theorem dX2_refresh_9 : decode cX2_refresh 9 = .ok (.iconst 1, 1) := by decide +kernel
theorem dX2_refresh_10 : decode cX2_refresh 10 = .ok (.putfield 38, 3) := by decide +kernel
theorem dX2_refresh_13 : decode cX2_refresh 13 = .ok (.aload_n 0, 1) := by decide +kernel
theorem dX2_refresh_14 : decode cX2_refresh 14 = .ok (.invokevirtual 42, 3) := by decide +kernel
theorem dX2_refresh_17 : decode cX2_refresh 17 = .ok (.aload_n 0, 1) := by decide +kernel
theorem dX2_refresh_18 : decode cX2_refresh 18 = .ok (.invokevirtual 45, 3) := by decide +kernel
theorem dX2_refresh_21 : decode cX2_refresh 21 = .ok (.aload_n 0, 1) := by decide +kernel
theorem dX2_refresh_22 : decode cX2_refresh 22 = .ok (.invokevirtual 48, 3) := by decide +kernel
theorem dX2_refresh_25 : decode cX2_refresh 25 = .ok (.aload_n 0, 1) := by decide +kernel
theorem dX2_refresh_26 : decode cX2_refresh 26 = .ok (.invokevirtual 51, 3) := by decide +kernel
theorem dX2_refresh_29 : decode cX2_refresh 29 = .ok (.aload_n 0, 1) := by decide +kernel
theorem dX2_refresh_30 : decode cX2_refresh 30 = .ok (.invokevirtual 54, 3) := by decide +kernel
theorem dX2_refresh_33 : decode cX2_refresh 33 = .ok (.return_, 1) := by decide +kernel
theorem dX2_findSuccessors_0 : decode cX2_findSuccessors 0 = .ok (.aload_n 0, 1) := by decide +kernel
theorem dX2_findSuccessors_1 : decode cX2_findSuccessors 1 = .ok (.getfield 23, 3) := by decide +kernel
theorem dX2_findSuccessors_4 : decode cX2_findSuccessors 4 = .ok (.lconst 0, 1) := by decide +kernel
theorem dX2_findSuccessors_5 : decode cX2_findSuccessors 5 = .ok (.invokestatic 57, 3) := by decide +kernel
theorem dX2_findSuccessors_8 : decode cX2_findSuccessors 8 = .ok (.iconst 0, 1) := by decide +kernel
theorem dX2_findSuccessors_9 : decode cX2_findSuccessors 9 = .ok (.istore_n 1, 1) := by decide +kernel
theorem dX2_findSuccessors_10 : decode cX2_findSuccessors 10 = .ok (.iload_n 1, 1) := by decide +kernel
theorem dX2_findSuccessors_11 : decode cX2_findSuccessors 11 = .ok (.aload_n 0, 1) := by decide +kernel
theorem dX2_findSuccessors_12 : decode cX2_findSuccessors 12 = .ok (.getfield 9, 3) := by decide +kernel
theorem dX2_findSuccessors_15 : decode cX2_findSuccessors 15 = .ok (.getfield 63, 3) := by decide +kernel
theorem dX2_findSuccessors_18 : decode cX2_findSuccessors 18 = .ok (.if_icmp .ge 108, 3) := by decide +kernel
theorem dX2_findSuccessors_21 : decode cX2_findSuccessors 21 = .ok (.iload_n 1, 1) := by decide +kernel
theorem dX2_findSuccessors_22 : decode cX2_findSuccessors 22 = .ok (.bipush 64, 2) := by decide +kernel
theorem dX2_findSuccessors_24 : decode cX2_findSuccessors 24 = .ok (.if_icmp .ge 102, 3) := by decide +kernel
theorem dX2_findSuccessors_27 : decode cX2_findSuccessors 27 = .ok (.lconst 0, 1) := by decide +kernel
theorem dX2_findSuccessors_28 : decode cX2_findSuccessors 28 = .ok (.lstore_n 2, 1) := by decide +kernel
theorem dX2_findSuccessors_29 : decode cX2_findSuccessors 29 = .ok (.iconst 0, 1) := by decide +kernel
theorem dX2_findSuccessors_30 : decode cX2_findSuccessors 30 = .ok (.istore 4, 2) := by decide +kernel
theorem dX2_findSuccessors_32 : decode cX2_findSuccessors 32 = .ok (.iload 4, 2) := by decide +kernel
theorem dX2_findSuccessors_34 : decode cX2_findSuccessors 34 = .ok (.aload_n 0, 1) := by decide +kernel
theorem dX2_findSuccessors_35 : decode cX2_findSuccessors 35 = .ok (.getfield 9, 3) := by decide +kernel
theorem dX2_findSuccessors_38 : decode cX2_findSuccessors 38 = .ok (.getfield 69, 3) := by decide +kernel
theorem dX2_findSuccessors_41 : decode cX2_findSuccessors 41 = .ok (.if_icmp .ge 72, 3) := by decide +kernel
theorem dX2_findSuccessors_44 : decode cX2_findSuccessors 44 = .ok (.iload 4, 2) := by decide +kernel
theorem dX2_findSuccessors_46 : decode cX2_findSuccessors 46 = .ok (.iconst 4, 1) := by decide +kernel
theorem dX2_findSuccessors_47 : decode cX2_findSuccessors 47 = .ok (.if_icmp .ge 66, 3) := by decide +kernel
theorem dX2_findSuccessors_50 : decode cX2_findSuccessors 50 = .ok (.aload_n 0, 1) := by decide +kernel
theorem dX2_findSuccessors_51 : decode cX2_findSuccessors 51 = .ok (.getfield 9, 3) := by decide +kernel
theorem dX2_findSuccessors_54 : decode cX2_findSuccessors 54 = .ok (.iload_n 1, 1) := by decide +kernel
theorem dX2_findSuccessors_55 : decode cX2_findSuccessors 55 = .ok (.iload 4, 2) := by decide +kernel
theorem dX2_findSuccessors_57 : decode cX2_findSuccessors 57 = .ok (.invokevirtual 72, 3) := by decide +kernel
theorem dX2_findSuccessors_60 : decode cX2_findSuccessors 60 = .ok (.istore 5, 2) := by decide +kernel
theorem dX2_findSuccessors_62 : decode cX2_findSuccessors 62 = .ok (.aload_n 0, 1) := by decide +kernel
theorem dX2_findSuccessors_63 : decode cX2_findSuccessors 63 = .ok (.getfield 15, 3) := by decide +kernel
theorem dX2_findSuccessors_66 : decode cX2_findSuccessors 66 = .ok (.iload_n 1, 1) := by decide +kernel
theorem dX2_findSuccessors_67 : decode cX2_findSuccessors 67 = .ok (.iconst 4, 1) := by decide +kernel
theorem dX2_findSuccessors_68 : decode cX2_findSuccessors 68 = .ok (.imul, 1) := by decide +kernel
theorem dX2_findSuccessors_69 : decode cX2_findSuccessors 69 = .ok (.iload 4, 2) := by decide +kernel
theorem dX2_findSuccessors_71 : decode cX2_findSuccessors 71 = .ok (.iadd, 1) := by decide +kernel
theorem dX2_findSuccessors_72 : decode cX2_findSuccessors 72 = .ok (.iload 5, 2) := by decide +kernel
theorem dX2_findSuccessors_74 : decode cX2_findSuccessors 74 = .ok (.iastore, 1) := by decide +kernel
theorem dX2_findSuccessors_75 : decode cX2_findSuccessors 75 = .ok (.lload_n 2, 1) := by decide +kernel
theorem dX2_findSuccessors_76 : decode cX2_findSuccessors 76 = .ok (.lconst 1, 1) := by decide +kernel
theorem dX2_findSuccessors_77 : decode cX2_findSuccessors 77 = .ok (.iload 5, 2) := by decide +kernel
theorem dX2_findSuccessors_79 : decode cX2_findSuccessors 79 = .ok (.lshl, 1) := by decide +kernel
theorem dX2_findSuccessors_80 : decode cX2_findSuccessors 80 = .ok (.lor, 1) := by decide +kernel
theorem dX2_findSuccessors_81 : decode cX2_findSuccessors 81 = .ok (.lstore_n 2, 1) := by decide +kernel
theorem dX2_findSuccessors_82 : decode cX2_findSuccessors 82 = .ok (.iload 5, 2) := by decide +kernel
theorem dX2_findSuccessors_84 : decode cX2_findSuccessors 84 = .ok (.ifCond .lt 23, 3) := by decide +kernel
theorem dX2_findSuccessors_87 : decode cX2_findSuccessors 87 = .ok (.iload 5, 2) := by decide +kernel
theorem dX2_findSuccessors_89 : decode cX2_findSuccessors 89 = .ok (.bipush 64, 2) := by decide +kernel
theorem dX2_findSuccessors_91 : decode cX2_findSuccessors 91 = .ok (.if_icmp .ge 16, 3) := by decide +kernel
theorem dX2_findSuccessors_94 : decode cX2_findSuccessors 94 = .ok (.aload_n 0, 1) := by decide +kernel
theorem dX2_findSuccessors_95 : decode cX2_findSuccessors 95 = .ok (.getfield 23, 3) := by decide +kernel
theorem dX2_findSuccessors_98 : decode cX2_findSuccessors 98 = .ok (.iload 5, 2) := by decide +kernel
theorem dX2_findSuccessors_100 : decode cX2_findSuccessors 100 = .ok (.dup2, 1) := by decide +kernel
theorem dX2_findSuccessors_101 : decode cX2_findSuccessors 101 = .ok (.laload, 1) := by decide +kernel
theorem dX2_findSuccessors_102 : decode cX2_findSuccessors 102 = .ok (.lconst 1, 1) := by decide +kernel
theorem dX2_findSuccessors_103 : decode cX2_findSuccessors 103 = .ok (.iload_n 1, 1) := by decide +kernel
theorem dX2_findSuccessors_104 : decode cX2_findSuccessors 104 = .ok (.lshl, 1) := by decide +kernel
theorem dX2_findSuccessors_105 : decode cX2_findSuccessors 105 = .ok (.lor, 1) := by decide +kernel
theorem dX2_findSuccessors_106 : decode cX2_findSuccessors 106 = .ok (.lastore, 1) := by decide +kernel
theorem dX2_findSuccessors_107 : decode cX2_findSuccessors 107 = .ok (.iinc 4 1, 3) := by decide +kernel
theorem dX2_findSuccessors_110 : decode cX2_findSuccessors 110 = .ok (.goto (-78), 3) := by decide +kernel
theorem dX2_findSuccessors_113 : decode cX2_findSuccessors 113 = .ok (.aload_n 0, 1) := by decide +kernel
theorem dX2_findSuccessors_114 : decode cX2_findSuccessors 114 = .ok (.getfield 19, 3) := by decide +kernel
theorem dX2_findSuccessors_117 : decode cX2_findSuccessors 117 = .ok (.iload_n 1, 1) := by decide +kernel
theorem dX2_findSuccessors_118 : decode cX2_findSuccessors 118 = .ok (.lload_n 2, 1) := by decide +kernel
theorem dX2_findSuccessors_119 : decode cX2_findSuccessors 119 = .ok (.lastore, 1) := by decide +kernel
theorem dX2_findSuccessors_120 : decode cX2_findSuccessors 120 = .ok (.iinc 1 1, 3) := by decide +kernel
theorem dX2_findSuccessors_123 : decode cX2_findSuccessors 123 = .ok (.goto (-113), 3) := by decide +kernel
theorem dX2_findSuccessors_126 : decode cX2_findSuccessors 126 = .ok (.return_, 1) := by decide +kernel
theorem dX2_findDepths_0 : decode cX2_findDepths 0 = .ok (.aload_n 0, 1) := by decide +kernel
theorem dX2_findDepths_1 : decode cX2_findDepths 1 = .ok (.getfield 26, 3) := by decide +kernel
theorem dX2_findDepths_4 : decode cX2_findDepths 4 = .ok (.iconst (-1), 1) := by decide +kernel
theorem dX2_findDepths_5 : decode cX2_findDepths 5 = .ok (.invokestatic 76, 3) := by decide +kernel
theorem dX2_findDepths_8 : decode cX2_findDepths 8 = .ok (.aload_n 0, 1) := by decide +kernel
theorem dX2_findDepths_9 : decode cX2_findDepths 9 = .ok (.lconst 0, 1) := by decide +kernel
theorem dX2_findDepths_10 : decode cX2_findDepths 10 = .ok (.putfield 79, 3) := by decide +kernel
theorem dX2_findDepths_13 : decode cX2_findDepths 13 = .ok (.aload_n 0, 1) := by decide +kernel
theorem dX2_findDepths_14 : decode cX2_findDepths 14 = .ok (.iconst (-1), 1) := by decide +kernel
theorem dX2_findDepths_15 : decode cX2_findDepths 15 = .ok (.putfield 83, 3) := by decide +kernel
theorem dX2_findDepths_18 : decode cX2_findDepths 18 = .ok (.aload_n 0, 1) := by decide +kernel
theorem dX2_findDepths_19 : decode cX2_findDepths 19 = .ok (.getfield 9, 3) := by decide +kernel
theorem dX2_findDepths_22 : decode cX2_findDepths 22 = .ok (.invokevirtual 86, 3) := by decide +kernel
theorem dX2_findDepths_25 : decode cX2_findDepths 25 = .ok (.lstore_n 1, 1) := by decide +kernel
theorem dX2_findDepths_26 : decode cX2_findDepths 26 = .ok (.iconst 0, 1) := by decide +kernel
theorem dX2_findDepths_27 : decode cX2_findDepths 27 = .ok (.istore_n 3, 1) := by decide +kernel
theorem dX2_findDepths_28 : decode cX2_findDepths 28 = .ok (.iload_n 3, 1) := by decide +kernel
theorem dX2_findDepths_29 : decode cX2_findDepths 29 = .ok (.bipush 64, 2) := by decide +kernel
theorem dX2_findDepths_31 : decode cX2_findDepths 31 = .ok (.if_icmp .ge 54, 3) := by decide +kernel
theorem dX2_findDepths_34 : decode cX2_findDepths 34 = .ok (.lload_n 1, 1) := by decide +kernel
theorem dX2_findDepths_35 : decode cX2_findDepths 35 = .ok (.lconst 0, 1) := by decide +kernel
theorem dX2_findDepths_36 : decode cX2_findDepths 36 = .ok (.lcmp, 1) := by decide +kernel
theorem dX2_findDepths_37 : decode cX2_findDepths 37 = .ok (.ifCond .eq 48, 3) := by decide +kernel
theorem dX2_findDepths_40 : decode cX2_findDepths 40 = .ok (.aload_n 0, 1) := by decide +kernel
theorem dX2_findDepths_41 : decode cX2_findDepths 41 = .ok (.getfield 26, 3) := by decide +kernel
theorem dX2_findDepths_44 : decode cX2_findDepths 44 = .ok (.lload_n 1, 1) := by decide +kernel
theorem dX2_findDepths_45 : decode cX2_findDepths 45 = .ok (.iload_n 3, 1) := by decide +kernel
theorem dX2_findDepths_46 : decode cX2_findDepths 46 = .ok (.invokestatic 90, 3) := by decide +kernel
theorem dX2_findDepths_49 : decode cX2_findDepths 49 = .ok (.aload_n 0, 1) := by decide +kernel
theorem dX2_findDepths_50 : decode cX2_findDepths 50 = .ok (.dup, 1) := by decide +kernel
theorem dX2_findDepths_51 : decode cX2_findDepths 51 = .ok (.getfield 79, 3) := by decide +kernel
theorem dX2_findDepths_54 : decode cX2_findDepths 54 = .ok (.lload_n 1, 1) := by decide +kernel
theorem dX2_findDepths_55 : decode cX2_findDepths 55 = .ok (.lor, 1) := by decide +kernel
theorem dX2_findDepths_56 : decode cX2_findDepths 56 = .ok (.putfield 79, 3) := by decide +kernel
theorem dX2_findDepths_59 : decode cX2_findDepths 59 = .ok (.aload_n 0, 1) := by decide +kernel
theorem dX2_findDepths_60 : decode cX2_findDepths 60 = .ok (.iload_n 3, 1) := by decide +kernel
theorem dX2_findDepths_61 : decode cX2_findDepths 61 = .ok (.putfield 83, 3) := by decide +kernel
theorem dX2_findDepths_64 : decode cX2_findDepths 64 = .ok (.aload_n 0, 1) := by decide +kernel
theorem dX2_findDepths_65 : decode cX2_findDepths 65 = .ok (.lload_n 1, 1) := by decide +kernel
theorem dX2_findDepths_66 : decode cX2_findDepths 66 = .ok (.invokevirtual 94, 3) := by decide +kernel
theorem dX2_findDepths_69 : decode cX2_findDepths 69 = .ok (.aload_n 0, 1) := by decide +kernel
theorem dX2_findDepths_70 : decode cX2_findDepths 70 = .ok (.getfield 79, 3) := by decide +kernel
theorem dX2_findDepths_73 : decode cX2_findDepths 73 = .ok (.ldc2_w 98, 3) := by decide +kernel
theorem dX2_findDepths_76 : decode cX2_findDepths 76 = .ok (.lxor, 1) := by decide +kernel
theorem dX2_findDepths_77 : decode cX2_findDepths 77 = .ok (.land, 1) := by decide +kernel
theorem dX2_findDepths_78 : decode cX2_findDepths 78 = .ok (.lstore_n 1, 1) := by decide +kernel
theorem dX2_findDepths_79 : decode cX2_findDepths 79 = .ok (.iinc 3 1, 3) := by decide +kernel
theorem dX2_findDepths_82 : decode cX2_findDepths 82 = .ok (.goto (-54), 3) := by decide +kernel
theorem dX2_findDepths_85 : decode cX2_findDepths 85 = .ok (.return_, 1) := by decide +kernel
theorem dX2_findDistances_0 : decode cX2_findDistances 0 = .ok (.aload_n 0, 1) := by decide +kernel
theorem dX2_findDistances_1 : decode cX2_findDistances 1 = .ok (.getfield 29, 3) := by decide +kernel
theorem dX2_findDistances_4 : decode cX2_findDistances 4 = .ok (.iconst (-1), 1) := by decide +kernel
theorem dX2_findDistances_5 : decode cX2_findDistances 5 = .ok (.invokestatic 76, 3) := by decide +kernel
theorem dX2_findDistances_8 : decode cX2_findDistances 8 = .ok (.lconst 0, 1) := by decide +kernel
theorem dX2_findDistances_9 : decode cX2_findDistances 9 = .ok (.lstore_n 1, 1) := by decide +kernel
theorem dX2_findDistances_10 : decode cX2_findDistances 10 = .ok (.aload_n 0, 1) := by decide +kernel
theorem dX2_findDistances_11 : decode cX2_findDistances 11 = .ok (.getfield 9, 3) := by decide +kernel
theorem dX2_findDistances_14 : decode cX2_findDistances 14 = .ok (.invokevirtual 100, 3) := by decide +kernel
theorem dX2_findDistances_17 : decode cX2_findDistances 17 = .ok (.lstore_n 3, 1) := by decide +kernel
theorem dX2_findDistances_18 : decode cX2_findDistances 18 = .ok (.iconst 0, 1) := by decide +kernel
theorem dX2_findDistances_19 : decode cX2_findDistances 19 = .ok (.istore 5, 2) := by decide +kernel
theorem dX2_findDistances_21 : decode cX2_findDistances 21 = .ok (.iload 5, 2) := by decide +kernel
theorem dX2_findDistances_23 : decode cX2_findDistances 23 = .ok (.bipush 64, 2) := by decide +kernel
theorem dX2_findDistances_25 : decode cX2_findDistances 25 = .ok (.if_icmp .ge 41, 3) := by decide +kernel
theorem dX2_findDistances_28 : decode cX2_findDistances 28 = .ok (.lload_n 3, 1) := by decide +kernel
theorem dX2_findDistances_29 : decode cX2_findDistances 29 = .ok (.lconst 0, 1) := by decide +kernel
theorem dX2_findDistances_30 : decode cX2_findDistances 30 = .ok (.lcmp, 1) := by decide +kernel
theorem dX2_findDistances_31 : decode cX2_findDistances 31 = .ok (.ifCond .eq 35, 3) := by decide +kernel
theorem dX2_findDistances_34 : decode cX2_findDistances 34 = .ok (.aload_n 0, 1) := by decide +kernel
theorem dX2_findDistances_35 : decode cX2_findDistances 35 = .ok (.getfield 29, 3) := by decide +kernel
theorem dX2_findDistances_38 : decode cX2_findDistances 38 = .ok (.lload_n 3, 1) := by decide +kernel
theorem dX2_findDistances_39 : decode cX2_findDistances 39 = .ok (.iload 5, 2) := by decide +kernel
theorem dX2_findDistances_41 : decode cX2_findDistances 41 = .ok (.invokestatic 90, 3) := by decide +kernel
theorem dX2_findDistances_44 : decode cX2_findDistances 44 = .ok (.lload_n 1, 1) := by decide +kernel
theorem dX2_findDistances_45 : decode cX2_findDistances 45 = .ok (.lload_n 3, 1) := by decide +kernel
theorem dX2_findDistances_46 : decode cX2_findDistances 46 = .ok (.lor, 1) := by decide +kernel
theorem dX2_findDistances_47 : decode cX2_findDistances 47 = .ok (.lstore_n 1, 1) := by decide +kernel
theorem dX2_findDistances_48 : decode cX2_findDistances 48 = .ok (.aload_n 0, 1) := by decide +kernel
theorem dX2_findDistances_49 : decode cX2_findDistances 49 = .ok (.lload_n 3, 1) := by decide +kernel
theorem dX2_findDistances_50 : decode cX2_findDistances 50 = .ok (.invokevirtual 103, 3) := by decide +kernel
theorem dX2_findDistances_53 : decode cX2_findDistances 53 = .ok (.lload_n 1, 1) := by decide +kernel
theorem dX2_findDistances_54 : decode cX2_findDistances 54 = .ok (.ldc2_w 98, 3) := by decide +kernel
theorem dX2_findDistances_57 : decode cX2_findDistances 57 = .ok (.lxor, 1) := by decide +kernel
theorem dX2_findDistances_58 : decode cX2_findDistances 58 = .ok (.land, 1) := by decide +kernel
theorem dX2_findDistances_59 : decode cX2_findDistances 59 = .ok (.lstore_n 3, 1) := by decide +kernel
theorem dX2_findDistances_60 : decode cX2_findDistances 60 = .ok (.iinc 5 1, 3) := by decide +kernel
theorem dX2_findDistances_63 : decode cX2_findDistances 63 = .ok (.goto (-42), 3) := by decide +kernel
theorem dX2_findDistances_66 : decode cX2_findDistances 66 = .ok (.return_, 1) := by decide +kernel
theorem dX2_mark_0 : decode cX2_mark 0 = .ok (.iconst 0, 1) := by decide +kernel
theorem dX2_mark_1 : decode cX2_mark 1 = .ok (.istore 4, 2) := by decide +kernel
theorem dX2_mark_3 : decode cX2_mark 3 = .ok (.iload 4, 2) := by decide +kernel
theorem dX2_mark_5 : decode cX2_mark 5 = .ok (.aload_n 0, 1) := by decide +kernel
theorem dX2_mark_6 : decode cX2_mark 6 = .ok (.arraylength, 1) := by decide +kernel
theorem dX2_mark_7 : decode cX2_mark 7 = .ok (.if_icmp .ge 30, 3) := by decide +kernel
theorem dX2_mark_10 : decode cX2_mark 10 = .ok (.iload 4, 2) := by decide +kernel
theorem dX2_mark_12 : decode cX2_mark 12 = .ok (.bipush 64, 2) := by decide +kernel
theorem dX2_mark_14 : decode cX2_mark 14 = .ok (.if_icmp .ge 23, 3) := by decide +kernel
theorem dX2_mark_17 : decode cX2_mark 17 = .ok (.lload_n 1, 1) := by decide +kernel
theorem dX2_mark_18 : decode cX2_mark 18 = .ok (.iload 4, 2) := by decide +kernel
theorem dX2_mark_20 : decode cX2_mark 20 = .ok (.invokestatic 106, 3) := by decide +kernel
theorem dX2_mark_23 : decode cX2_mark 23 = .ok (.ifCond .eq 8, 3) := by decide +kernel
theorem dX2_mark_26 : decode cX2_mark 26 = .ok (.aload_n 0, 1) := by decide +kernel
theorem dX2_mark_27 : decode cX2_mark 27 = .ok (.iload 4, 2) := by decide +kernel
theorem dX2_mark_29 : decode cX2_mark 29 = .ok (.iload_n 3, 1) := by decide +kernel
theorem dX2_mark_30 : decode cX2_mark 30 = .ok (.iastore, 1) := by decide +kernel
theorem dX2_mark_31 : decode cX2_mark 31 = .ok (.iinc 4 1, 3) := by decide +kernel
theorem dX2_mark_34 : decode cX2_mark 34 = .ok (.goto (-31), 3) := by decide +kernel
theorem dX2_mark_37 : decode cX2_mark 37 = .ok (.return_, 1) := by decide +kernel
theorem dX2_findShortestLength_0 : decode cX2_findShortestLength 0 = .ok (.aload_n 0, 1) := by decide +kernel
theorem dX2_findShortestLength_1 : decode cX2_findShortestLength 1 = .ok (.iconst (-1), 1) := by decide +kernel
theorem dX2_findShortestLength_2 : decode cX2_findShortestLength 2 = .ok (.putfield 110, 3) := by decide +kernel
theorem dX2_findShortestLength_5 : decode cX2_findShortestLength 5 = .ok (.iconst 0, 1) := by decide +kernel
theorem dX2_findShortestLength_6 : decode cX2_findShortestLength 6 = .ok (.istore_n 1, 1) := by decide +kernel
theorem dX2_findShortestLength_7 : decode cX2_findShortestLength 7 = .ok (.iload_n 1, 1) := by decide +kernel
theorem dX2_findShortestLength_8 : decode cX2_findShortestLength 8 = .ok (.bipush 64, 2) := by decide +kernel
theorem dX2_findShortestLength_10 : decode cX2_findShortestLength 10 = .ok (.if_icmp .ge 74, 3) := by decide +kernel
theorem dX2_findShortestLength_13 : decode cX2_findShortestLength 13 = .ok (.aload_n 0, 1) := by decide +kernel
theorem dX2_findShortestLength_14 : decode cX2_findShortestLength 14 = .ok (.getfield 9, 3) := by decide +kernel
theorem dX2_findShortestLength_17 : decode cX2_findShortestLength 17 = .ok (.invokevirtual 86, 3) := by decide +kernel
theorem dX2_findShortestLength_20 : decode cX2_findShortestLength 20 = .ok (.iload_n 1, 1) := by decide +kernel
theorem dX2_findShortestLength_21 : decode cX2_findShortestLength 21 = .ok (.invokestatic 106, 3) := by decide +kernel
theorem dX2_findShortestLength_24 : decode cX2_findShortestLength 24 = .ok (.ifCond .eq 17, 3) := by decide +kernel
theorem dX2_findShortestLength_27 : decode cX2_findShortestLength 27 = .ok (.aload_n 0, 1) := by decide +kernel
theorem dX2_findShortestLength_28 : decode cX2_findShortestLength 28 = .ok (.getfield 29, 3) := by decide +kernel
theorem dX2_findShortestLength_31 : decode cX2_findShortestLength 31 = .ok (.iload_n 1, 1) := by decide +kernel
theorem dX2_findShortestLength_32 : decode cX2_findShortestLength 32 = .ok (.iaload, 1) := by decide +kernel
theorem dX2_findShortestLength_33 : decode cX2_findShortestLength 33 = .ok (.iconst (-1), 1) := by decide +kernel
theorem dX2_findShortestLength_34 : decode cX2_findShortestLength 34 = .ok (.if_icmp .eq 7, 3) := by decide +kernel
theorem dX2_findShortestLength_37 : decode cX2_findShortestLength 37 = .ok (.iconst 1, 1) := by decide +kernel
theorem dX2_findShortestLength_38 : decode cX2_findShortestLength 38 = .ok (.goto 4, 3) := by decide +kernel
theorem dX2_findShortestLength_41 : decode cX2_findShortestLength 41 = .ok (.iconst 0, 1) := by decide +kernel
theorem dX2_findShortestLength_42 : decode cX2_findShortestLength 42 = .ok (.istore_n 2, 1) := by decide +kernel
theorem dX2_findShortestLength_43 : decode cX2_findShortestLength 43 = .ok (.iload_n 2, 1) := by decide +kernel
theorem dX2_findShortestLength_44 : decode cX2_findShortestLength 44 = .ok (.ifCond .eq 34, 3) := by decide +kernel
theorem dX2_findShortestLength_47 : decode cX2_findShortestLength 47 = .ok (.aload_n 0, 1) := by decide +kernel
theorem dX2_findShortestLength_48 : decode cX2_findShortestLength 48 = .ok (.getfield 110, 3) := by decide +kernel
theorem dX2_findShortestLength_51 : decode cX2_findShortestLength 51 = .ok (.iconst (-1), 1) := by decide +kernel
theorem dX2_findShortestLength_52 : decode cX2_findShortestLength 52 = .ok (.if_icmp .eq 16, 3) := by decide +kernel
theorem dX2_findShortestLength_55 : decode cX2_findShortestLength 55 = .ok (.aload_n 0, 1) := by decide +kernel
theorem dX2_findShortestLength_56 : decode cX2_findShortestLength 56 = .ok (.getfield 29, 3) := by decide +kernel
theorem dX2_findShortestLength_59 : decode cX2_findShortestLength 59 = .ok (.iload_n 1, 1) := by decide +kernel
theorem dX2_findShortestLength_60 : decode cX2_findShortestLength 60 = .ok (.iaload, 1) := by decide +kernel
theorem dX2_findShortestLength_61 : decode cX2_findShortestLength 61 = .ok (.aload_n 0, 1) := by decide +kernel
theorem dX2_findShortestLength_62 : decode cX2_findShortestLength 62 = .ok (.getfield 110, 3) := by decide +kernel
theorem dX2_findShortestLength_65 : decode cX2_findShortestLength 65 = .ok (.if_icmp .ge 13, 3) := by decide +kernel
theorem dX2_findShortestLength_68 : decode cX2_findShortestLength 68 = .ok (.aload_n 0, 1) := by decide +kernel
theorem dX2_findShortestLength_69 : decode cX2_findShortestLength 69 = .ok (.aload_n 0, 1) := by decide +kernel
theorem dX2_findShortestLength_70 : decode cX2_findShortestLength 70 = .ok (.getfield 29, 3) := by decide +kernel
theorem dX2_findShortestLength_73 : decode cX2_findShortestLength 73 = .ok (.iload_n 1, 1) := by decide +kernel
theorem dX2_findShortestLength_74 : decode cX2_findShortestLength 74 = .ok (.iaload, 1) := by decide +kernel
theorem dX2_findShortestLength_75 : decode cX2_findShortestLength 75 = .ok (.putfield 110, 3) := by decide +kernel
theorem dX2_findShortestLength_78 : decode cX2_findShortestLength 78 = .ok (.iinc 1 1, 3) := by decide +kernel
theorem dX2_findShortestLength_81 : decode cX2_findShortestLength 81 = .ok (.goto (-74), 3) := by decide +kernel
theorem dX2_findShortestLength_84 : decode cX2_findShortestLength 84 = .ok (.return_, 1) := by decide +kernel
theorem dX2_findClasses_0 : decode cX2_findClasses 0 = .ok (.aload_n 0, 1) := by decide +kernel
theorem dX2_findClasses_1 : decode cX2_findClasses 1 = .ok (.getfield 9, 3) := by decide +kernel
theorem dX2_findClasses_4 : decode cX2_findClasses 4 = .ok (.invokevirtual 113, 3) := by decide +kernel
theorem dX2_findClasses_7 : decode cX2_findClasses 7 = .ok (.invokestatic 116, 3) := by decide +kernel
theorem dX2_findClasses_10 : decode cX2_findClasses 10 = .ok (.istore_n 1, 1) := by decide +kernel
theorem dX2_findClasses_11 : decode cX2_findClasses 11 = .ok (.aload_n 0, 1) := by decide +kernel
theorem dX2_findClasses_12 : decode cX2_findClasses 12 = .ok (.getfield 9, 3) := by decide +kernel
theorem dX2_findClasses_15 : decode cX2_findClasses 15 = .ok (.invokevirtual 100, 3) := by decide +kernel
theorem dX2_findClasses_18 : decode cX2_findClasses 18 = .ok (.invokestatic 116, 3) := by decide +kernel
theorem dX2_findClasses_21 : decode cX2_findClasses 21 = .ok (.istore_n 2, 1) := by decide +kernel
theorem dX2_findClasses_22 : decode cX2_findClasses 22 = .ok (.iconst 0, 1) := by decide +kernel
theorem dX2_findClasses_23 : decode cX2_findClasses 23 = .ok (.istore_n 3, 1) := by decide +kernel
theorem dX2_findClasses_24 : decode cX2_findClasses 24 = .ok (.iload_n 3, 1) := by decide +kernel
theorem dX2_findClasses_25 : decode cX2_findClasses 25 = .ok (.aload_n 0, 1) := by decide +kernel
theorem dX2_findClasses_26 : decode cX2_findClasses 26 = .ok (.getfield 9, 3) := by decide +kernel
theorem dX2_findClasses_29 : decode cX2_findClasses 29 = .ok (.getfield 63, 3) := by decide +kernel
theorem dX2_findClasses_32 : decode cX2_findClasses 32 = .ok (.if_icmp .ge 40, 3) := by decide +kernel
theorem dX2_findClasses_35 : decode cX2_findClasses 35 = .ok (.iload_n 3, 1) := by decide +kernel
theorem dX2_findClasses_36 : decode cX2_findClasses 36 = .ok (.bipush 64, 2) := by decide +kernel
theorem dX2_findClasses_38 : decode cX2_findClasses 38 = .ok (.if_icmp .ge 34, 3) := by decide +kernel
theorem dX2_findClasses_41 : decode cX2_findClasses 41 = .ok (.aload_n 0, 1) := by decide +kernel
theorem dX2_findClasses_42 : decode cX2_findClasses 42 = .ok (.getfield 32, 3) := by decide +kernel
theorem dX2_findClasses_45 : decode cX2_findClasses 45 = .ok (.iload_n 3, 1) := by decide +kernel
theorem dX2_findClasses_46 : decode cX2_findClasses 46 = .ok (.aload_n 0, 1) := by decide +kernel
theorem dX2_findClasses_47 : decode cX2_findClasses 47 = .ok (.getfield 9, 3) := by decide +kernel
theorem dX2_findClasses_50 : decode cX2_findClasses 50 = .ok (.invokevirtual 113, 3) := by decide +kernel
theorem dX2_findClasses_53 : decode cX2_findClasses 53 = .ok (.iload_n 3, 1) := by decide +kernel
theorem dX2_findClasses_54 : decode cX2_findClasses 54 = .ok (.invokestatic 106, 3) := by decide +kernel
theorem dX2_findClasses_57 : decode cX2_findClasses 57 = .ok (.ifCond .eq 7, 3) := by decide +kernel
theorem dX2_findClasses_60 : decode cX2_findClasses 60 = .ok (.iload_n 1, 1) := by decide +kernel
theorem dX2_findClasses_61 : decode cX2_findClasses 61 = .ok (.goto 4, 3) := by decide +kernel
theorem dX2_findClasses_64 : decode cX2_findClasses 64 = .ok (.iload_n 2, 1) := by decide +kernel
theorem dX2_findClasses_65 : decode cX2_findClasses 65 = .ok (.iastore, 1) := by decide +kernel
theorem dX2_findClasses_66 : decode cX2_findClasses 66 = .ok (.iinc 3 1, 3) := by decide +kernel
theorem dX2_findClasses_69 : decode cX2_findClasses 69 = .ok (.goto (-45), 3) := by decide +kernel
theorem dX2_findClasses_72 : decode cX2_findClasses 72 = .ok (.iconst 1, 1) := by decide +kernel
theorem dX2_findClasses_73 : decode cX2_findClasses 73 = .ok (.istore_n 3, 1) := by decide +kernel
theorem dX2_findClasses_74 : decode cX2_findClasses 74 = .ok (.iconst 0, 1) := by decide +kernel
theorem dX2_findClasses_75 : decode cX2_findClasses 75 = .ok (.istore 4, 2) := by decide +kernel
theorem dX2_findClasses_77 : decode cX2_findClasses 77 = .ok (.iload 4, 2) := by decide +kernel
theorem dX2_findClasses_79 : decode cX2_findClasses 79 = .ok (.bipush 64, 2) := by decide +kernel
theorem dX2_findClasses_81 : decode cX2_findClasses 81 = .ok (.if_icmp .gt 18, 3) := by decide +kernel
theorem dX2_findClasses_84 : decode cX2_findClasses 84 = .ok (.iload_n 3, 1) := by decide +kernel
theorem dX2_findClasses_85 : decode cX2_findClasses 85 = .ok (.ifCond .eq 14, 3) := by decide +kernel
theorem dX2_findClasses_88 : decode cX2_findClasses 88 = .ok (.aload_n 0, 1) := by decide +kernel
theorem dX2_findClasses_89 : decode cX2_findClasses 89 = .ok (.invokevirtual 120, 3) := by decide +kernel
theorem dX2_findClasses_92 : decode cX2_findClasses 92 = .ok (.istore_n 3, 1) := by decide +kernel
theorem dX2_findClasses_93 : decode cX2_findClasses 93 = .ok (.iinc 4 1, 3) := by decide +kernel
theorem dX2_findClasses_96 : decode cX2_findClasses 96 = .ok (.goto (-19), 3) := by decide +kernel
theorem dX2_findClasses_99 : decode cX2_findClasses 99 = .ok (.return_, 1) := by decide +kernel
theorem dX2_refineClasses_0 : decode cX2_refineClasses 0 = .ok (.iconst 0, 1) := by decide +kernel
theorem dX2_refineClasses_1 : decode cX2_refineClasses 1 = .ok (.istore_n 1, 1) := by decide +kernel
theorem dX2_refineClasses_2 : decode cX2_refineClasses 2 = .ok (.iconst 0, 1) := by decide +kernel
theorem dX2_refineClasses_3 : decode cX2_refineClasses 3 = .ok (.istore_n 2, 1) := by decide +kernel
theorem dX2_refineClasses_4 : decode cX2_refineClasses 4 = .ok (.iload_n 2, 1) := by decide +kernel
theorem dX2_refineClasses_5 : decode cX2_refineClasses 5 = .ok (.aload_n 0, 1) := by decide +kernel
theorem dX2_refineClasses_6 : decode cX2_refineClasses 6 = .ok (.getfield 9, 3) := by decide +kernel
theorem dX2_refineClasses_9 : decode cX2_refineClasses 9 = .ok (.getfield 63, 3) := by decide +kernel
theorem dX2_refineClasses_12 : decode cX2_refineClasses 12 = .ok (.if_icmp .ge 110, 3) := by decide +kernel
theorem dX2_refineClasses_15 : decode cX2_refineClasses 15 = .ok (.iload_n 2, 1) := by decide +kernel
theorem dX2_refineClasses_16 : decode cX2_refineClasses 16 = .ok (.bipush 64, 2) := by decide +kernel
theorem dX2_refineClasses_18 : decode cX2_refineClasses 18 = .ok (.if_icmp .ge 104, 3) := by decide +kernel
theorem dX2_refineClasses_21 : decode cX2_refineClasses 21 = .ok (.aload_n 0, 1) := by decide +kernel
theorem dX2_refineClasses_22 : decode cX2_refineClasses 22 = .ok (.getfield 32, 3) := by decide +kernel
theorem dX2_refineClasses_25 : decode cX2_refineClasses 25 = .ok (.iload_n 2, 1) := by decide +kernel
theorem dX2_refineClasses_26 : decode cX2_refineClasses 26 = .ok (.iaload, 1) := by decide +kernel
theorem dX2_refineClasses_27 : decode cX2_refineClasses 27 = .ok (.istore_n 3, 1) := by decide +kernel
theorem dX2_refineClasses_28 : decode cX2_refineClasses 28 = .ok (.iload_n 2, 1) := by decide +kernel
theorem dX2_refineClasses_29 : decode cX2_refineClasses 29 = .ok (.istore 4, 2) := by decide +kernel
theorem dX2_refineClasses_31 : decode cX2_refineClasses 31 = .ok (.iload_n 3, 1) := by decide +kernel
theorem dX2_refineClasses_32 : decode cX2_refineClasses 32 = .ok (.ifCond .ge 7, 3) := by decide +kernel
theorem dX2_refineClasses_35 : decode cX2_refineClasses 35 = .ok (.iconst 0, 1) := by decide +kernel
theorem dX2_refineClasses_36 : decode cX2_refineClasses 36 = .ok (.goto 4, 3) := by decide +kernel
theorem dX2_refineClasses_39 : decode cX2_refineClasses 39 = .ok (.iload_n 3, 1) := by decide +kernel
theorem dX2_refineClasses_40 : decode cX2_refineClasses 40 = .ok (.istore 5, 2) := by decide +kernel
theorem dX2_refineClasses_42 : decode cX2_refineClasses 42 = .ok (.iload 5, 2) := by decide +kernel
theorem dX2_refineClasses_44 : decode cX2_refineClasses 44 = .ok (.iload 4, 2) := by decide +kernel
theorem dX2_refineClasses_46 : decode cX2_refineClasses 46 = .ok (.if_icmp .ge 46, 3) := by decide +kernel
theorem dX2_refineClasses_49 : decode cX2_refineClasses 49 = .ok (.aload_n 0, 1) := by decide +kernel
theorem dX2_refineClasses_50 : decode cX2_refineClasses 50 = .ok (.getfield 35, 3) := by decide +kernel
theorem dX2_refineClasses_53 : decode cX2_refineClasses 53 = .ok (.iload 5, 2) := by decide +kernel
theorem dX2_refineClasses_55 : decode cX2_refineClasses 55 = .ok (.iaload, 1) := by decide +kernel
theorem dX2_refineClasses_56 : decode cX2_refineClasses 56 = .ok (.iload 5, 2) := by decide +kernel
theorem dX2_refineClasses_58 : decode cX2_refineClasses 58 = .ok (.if_icmp .ne 28, 3) := by decide +kernel
theorem dX2_refineClasses_61 : decode cX2_refineClasses 61 = .ok (.aload_n 0, 1) := by decide +kernel
theorem dX2_refineClasses_62 : decode cX2_refineClasses 62 = .ok (.getfield 32, 3) := by decide +kernel
theorem dX2_refineClasses_65 : decode cX2_refineClasses 65 = .ok (.iload 5, 2) := by decide +kernel
theorem dX2_refineClasses_67 : decode cX2_refineClasses 67 = .ok (.iaload, 1) := by decide +kernel
theorem dX2_refineClasses_68 : decode cX2_refineClasses 68 = .ok (.iload_n 3, 1) := by decide +kernel
theorem dX2_refineClasses_69 : decode cX2_refineClasses 69 = .ok (.if_icmp .ne 17, 3) := by decide +kernel
theorem dX2_refineClasses_72 : decode cX2_refineClasses 72 = .ok (.aload_n 0, 1) := by decide +kernel
theorem dX2_refineClasses_73 : decode cX2_refineClasses 73 = .ok (.iload_n 2, 1) := by decide +kernel
theorem dX2_refineClasses_74 : decode cX2_refineClasses 74 = .ok (.iload 5, 2) := by decide +kernel
theorem dX2_refineClasses_76 : decode cX2_refineClasses 76 = .ok (.invokevirtual 124, 3) := by decide +kernel
theorem dX2_refineClasses_79 : decode cX2_refineClasses 79 = .ok (.ifCond .eq 7, 3) := by decide +kernel
theorem dX2_refineClasses_82 : decode cX2_refineClasses 82 = .ok (.iload 5, 2) := by decide +kernel
theorem dX2_refineClasses_84 : decode cX2_refineClasses 84 = .ok (.istore 4, 2) := by decide +kernel
theorem dX2_refineClasses_86 : decode cX2_refineClasses 86 = .ok (.iinc 5 1, 3) := by decide +kernel
theorem dX2_refineClasses_89 : decode cX2_refineClasses 89 = .ok (.goto (-47), 3) := by decide +kernel
theorem dX2_refineClasses_92 : decode cX2_refineClasses 92 = .ok (.aload_n 0, 1) := by decide +kernel
theorem dX2_refineClasses_93 : decode cX2_refineClasses 93 = .ok (.getfield 35, 3) := by decide +kernel
theorem dX2_refineClasses_96 : decode cX2_refineClasses 96 = .ok (.iload_n 2, 1) := by decide +kernel
theorem dX2_refineClasses_97 : decode cX2_refineClasses 97 = .ok (.iload 4, 2) := by decide +kernel
theorem dX2_refineClasses_99 : decode cX2_refineClasses 99 = .ok (.iastore, 1) := by decide +kernel
theorem dX2_refineClasses_100 : decode cX2_refineClasses 100 = .ok (.iload_n 1, 1) := by decide +kernel
theorem dX2_refineClasses_101 : decode cX2_refineClasses 101 = .ok (.ifCond .ne 9, 3) := by decide +kernel
theorem dX2_refineClasses_104 : decode cX2_refineClasses 104 = .ok (.iload 4, 2) := by decide +kernel
theorem dX2_refineClasses_106 : decode cX2_refineClasses 106 = .ok (.iload_n 3, 1) := by decide +kernel
theorem dX2_refineClasses_107 : decode cX2_refineClasses 107 = .ok (.if_icmp .eq 7, 3) := by decide +kernel
theorem dX2_refineClasses_110 : decode cX2_refineClasses 110 = .ok (.iconst 1, 1) := by decide +kernel
theorem dX2_refineClasses_111 : decode cX2_refineClasses 111 = .ok (.goto 4, 3) := by decide +kernel
theorem dX2_refineClasses_114 : decode cX2_refineClasses 114 = .ok (.iconst 0, 1) := by decide +kernel
theorem dX2_refineClasses_115 : decode cX2_refineClasses 115 = .ok (.istore_n 1, 1) := by decide +kernel
theorem dX2_refineClasses_116 : decode cX2_refineClasses 116 = .ok (.iinc 2 1, 3) := by decide +kernel
theorem dX2_refineClasses_119 : decode cX2_refineClasses 119 = .ok (.goto (-115), 3) := by decide +kernel
theorem dX2_refineClasses_122 : decode cX2_refineClasses 122 = .ok (.aload_n 0, 1) := by decide +kernel
theorem dX2_refineClasses_123 : decode cX2_refineClasses 123 = .ok (.getfield 35, 3) := by decide +kernel
theorem dX2_refineClasses_126 : decode cX2_refineClasses 126 = .ok (.iconst 0, 1) := by decide +kernel
theorem dX2_refineClasses_127 : decode cX2_refineClasses 127 = .ok (.aload_n 0, 1) := by decide +kernel
theorem dX2_refineClasses_128 : decode cX2_refineClasses 128 = .ok (.getfield 32, 3) := by decide +kernel
theorem dX2_refineClasses_131 : decode cX2_refineClasses 131 = .ok (.iconst 0, 1) := by decide +kernel
theorem dX2_refineClasses_132 : decode cX2_refineClasses 132 = .ok (.bipush 64, 2) := by decide +kernel
theorem dX2_refineClasses_134 : decode cX2_refineClasses 134 = .ok (.invokestatic 128, 3) := by decide +kernel
theorem dX2_refineClasses_137 : decode cX2_refineClasses 137 = .ok (.iload_n 1, 1) := by decide +kernel
theorem dX2_refineClasses_138 : decode cX2_refineClasses 138 = .ok (.ireturn, 1) := by decide +kernel
theorem dX2_goesAlike_0 : decode cX2_goesAlike 0 = .ok (.iconst 0, 1) := by decide +kernel
theorem dX2_goesAlike_1 : decode cX2_goesAlike 1 = .ok (.istore_n 3, 1) := by decide +kernel
theorem dX2_goesAlike_2 : decode cX2_goesAlike 2 = .ok (.iload_n 3, 1) := by decide +kernel
theorem dX2_goesAlike_3 : decode cX2_goesAlike 3 = .ok (.aload_n 0, 1) := by decide +kernel
theorem dX2_goesAlike_4 : decode cX2_goesAlike 4 = .ok (.getfield 9, 3) := by decide +kernel
theorem dX2_goesAlike_7 : decode cX2_goesAlike 7 = .ok (.getfield 69, 3) := by decide +kernel
theorem dX2_goesAlike_10 : decode cX2_goesAlike 10 = .ok (.if_icmp .ge 34, 3) := by decide +kernel
theorem dX2_goesAlike_13 : decode cX2_goesAlike 13 = .ok (.aload_n 0, 1) := by decide +kernel
theorem dX2_goesAlike_14 : decode cX2_goesAlike 14 = .ok (.aload_n 0, 1) := by decide +kernel
theorem dX2_goesAlike_15 : decode cX2_goesAlike 15 = .ok (.iload_n 1, 1) := by decide +kernel
theorem dX2_goesAlike_16 : decode cX2_goesAlike 16 = .ok (.iload_n 3, 1) := by decide +kernel
theorem dX2_goesAlike_17 : decode cX2_goesAlike 17 = .ok (.invokevirtual 134, 3) := by decide +kernel
theorem dX2_goesAlike_20 : decode cX2_goesAlike 20 = .ok (.invokevirtual 137, 3) := by decide +kernel
theorem dX2_goesAlike_23 : decode cX2_goesAlike 23 = .ok (.aload_n 0, 1) := by decide +kernel
theorem dX2_goesAlike_24 : decode cX2_goesAlike 24 = .ok (.aload_n 0, 1) := by decide +kernel
theorem dX2_goesAlike_25 : decode cX2_goesAlike 25 = .ok (.iload_n 2, 1) := by decide +kernel
theorem dX2_goesAlike_26 : decode cX2_goesAlike 26 = .ok (.iload_n 3, 1) := by decide +kernel
theorem dX2_goesAlike_27 : decode cX2_goesAlike 27 = .ok (.invokevirtual 134, 3) := by decide +kernel
theorem dX2_goesAlike_30 : decode cX2_goesAlike 30 = .ok (.invokevirtual 137, 3) := by decide +kernel
theorem dX2_goesAlike_33 : decode cX2_goesAlike 33 = .ok (.if_icmp .eq 5, 3) := by decide +kernel
theorem dX2_goesAlike_36 : decode cX2_goesAlike 36 = .ok (.iconst 0, 1) := by decide +kernel
theorem dX2_goesAlike_37 : decode cX2_goesAlike 37 = .ok (.ireturn, 1) := by decide +kernel
theorem dX2_goesAlike_38 : decode cX2_goesAlike 38 = .ok (.iinc 3 1, 3) := by decide +kernel
theorem dX2_goesAlike_41 : decode cX2_goesAlike 41 = .ok (.goto (-39), 3) := by decide +kernel
theorem dX2_goesAlike_44 : decode cX2_goesAlike 44 = .ok (.iconst 1, 1) := by decide +kernel
theorem dX2_goesAlike_45 : decode cX2_goesAlike 45 = .ok (.ireturn, 1) := by decide +kernel
theorem dX2_classOf_0 : decode cX2_classOf 0 = .ok (.iload_n 1, 1) := by decide +kernel
theorem dX2_classOf_1 : decode cX2_classOf 1 = .ok (.ifCond .lt 18, 3) := by decide +kernel
theorem dX2_classOf_4 : decode cX2_classOf 4 = .ok (.iload_n 1, 1) := by decide +kernel
theorem dX2_classOf_5 : decode cX2_classOf 5 = .ok (.bipush 64, 2) := by decide +kernel
theorem dX2_classOf_7 : decode cX2_classOf 7 = .ok (.if_icmp .ge 12, 3) := by decide +kernel
theorem dX2_classOf_10 : decode cX2_classOf 10 = .ok (.aload_n 0, 1) := by decide +kernel
theorem dX2_classOf_11 : decode cX2_classOf 11 = .ok (.getfield 32, 3) := by decide +kernel
theorem dX2_classOf_14 : decode cX2_classOf 14 = .ok (.iload_n 1, 1) := by decide +kernel
theorem dX2_classOf_15 : decode cX2_classOf 15 = .ok (.iaload, 1) := by decide +kernel
theorem dX2_classOf_16 : decode cX2_classOf 16 = .ok (.goto 4, 3) := by decide +kernel
theorem dX2_classOf_19 : decode cX2_classOf 19 = .ok (.iconst (-1), 1) := by decide +kernel
theorem dX2_classOf_20 : decode cX2_classOf 20 = .ok (.ireturn, 1) := by decide +kernel
theorem dX2_nextOf_0 : decode cX2_nextOf 0 = .ok (.iload_n 1, 1) := by decide +kernel
theorem dX2_nextOf_1 : decode cX2_nextOf 1 = .ok (.iconst 4, 1) := by decide +kernel
theorem dX2_nextOf_2 : decode cX2_nextOf 2 = .ok (.imul, 1) := by decide +kernel
theorem dX2_nextOf_3 : decode cX2_nextOf 3 = .ok (.iload_n 2, 1) := by decide +kernel
theorem dX2_nextOf_4 : decode cX2_nextOf 4 = .ok (.iadd, 1) := by decide +kernel
theorem dX2_nextOf_5 : decode cX2_nextOf 5 = .ok (.istore_n 3, 1) := by decide +kernel
theorem dX2_nextOf_6 : decode cX2_nextOf 6 = .ok (.iload_n 3, 1) := by decide +kernel
theorem dX2_nextOf_7 : decode cX2_nextOf 7 = .ok (.ifCond .lt 21, 3) := by decide +kernel
theorem dX2_nextOf_10 : decode cX2_nextOf 10 = .ok (.iload_n 3, 1) := by decide +kernel
theorem dX2_nextOf_11 : decode cX2_nextOf 11 = .ok (.aload_n 0, 1) := by decide +kernel
theorem dX2_nextOf_12 : decode cX2_nextOf 12 = .ok (.getfield 15, 3) := by decide +kernel
theorem dX2_nextOf_15 : decode cX2_nextOf 15 = .ok (.arraylength, 1) := by decide +kernel
theorem dX2_nextOf_16 : decode cX2_nextOf 16 = .ok (.if_icmp .ge 12, 3) := by decide +kernel
theorem dX2_nextOf_19 : decode cX2_nextOf 19 = .ok (.aload_n 0, 1) := by decide +kernel
theorem dX2_nextOf_20 : decode cX2_nextOf 20 = .ok (.getfield 15, 3) := by decide +kernel
theorem dX2_nextOf_23 : decode cX2_nextOf 23 = .ok (.iload_n 3, 1) := by decide +kernel
theorem dX2_nextOf_24 : decode cX2_nextOf 24 = .ok (.iaload, 1) := by decide +kernel
theorem dX2_nextOf_25 : decode cX2_nextOf 25 = .ok (.goto 4, 3) := by decide +kernel
theorem dX2_nextOf_28 : decode cX2_nextOf 28 = .ok (.iconst 0, 1) := by decide +kernel
theorem dX2_nextOf_29 : decode cX2_nextOf 29 = .ok (.ireturn, 1) := by decide +kernel
theorem dX2_depthOf_0 : decode cX2_depthOf 0 = .ok (.iload_n 1, 1) := by decide +kernel
theorem dX2_depthOf_1 : decode cX2_depthOf 1 = .ok (.ifCond .lt 18, 3) := by decide +kernel
theorem dX2_depthOf_4 : decode cX2_depthOf 4 = .ok (.iload_n 1, 1) := by decide +kernel
theorem dX2_depthOf_5 : decode cX2_depthOf 5 = .ok (.bipush 64, 2) := by decide +kernel
theorem dX2_depthOf_7 : decode cX2_depthOf 7 = .ok (.if_icmp .ge 12, 3) := by decide +kernel
theorem dX2_depthOf_10 : decode cX2_depthOf 10 = .ok (.aload_n 0, 1) := by decide +kernel
theorem dX2_depthOf_11 : decode cX2_depthOf 11 = .ok (.getfield 26, 3) := by decide +kernel
theorem dX2_depthOf_14 : decode cX2_depthOf 14 = .ok (.iload_n 1, 1) := by decide +kernel
theorem dX2_depthOf_15 : decode cX2_depthOf 15 = .ok (.iaload, 1) := by decide +kernel
theorem dX2_depthOf_16 : decode cX2_depthOf 16 = .ok (.goto 4, 3) := by decide +kernel
theorem dX2_depthOf_19 : decode cX2_depthOf 19 = .ok (.iconst (-1), 1) := by decide +kernel
theorem dX2_depthOf_20 : decode cX2_depthOf 20 = .ok (.ireturn, 1) := by decide +kernel
theorem dX2_distanceOf_0 : decode cX2_distanceOf 0 = .ok (.iload_n 1, 1) := by decide +kernel
theorem dX2_distanceOf_1 : decode cX2_distanceOf 1 = .ok (.ifCond .lt 18, 3) := by decide +kernel
theorem dX2_distanceOf_4 : decode cX2_distanceOf 4 = .ok (.iload_n 1, 1) := by decide +kernel
theorem dX2_distanceOf_5 : decode cX2_distanceOf 5 = .ok (.bipush 64, 2) := by decide +kernel
theorem dX2_distanceOf_7 : decode cX2_distanceOf 7 = .ok (.if_icmp .ge 12, 3) := by decide +kernel
theorem dX2_distanceOf_10 : decode cX2_distanceOf 10 = .ok (.aload_n 0, 1) := by decide +kernel
theorem dX2_distanceOf_11 : decode cX2_distanceOf 11 = .ok (.getfield 29, 3) := by decide +kernel
theorem dX2_distanceOf_14 : decode cX2_distanceOf 14 = .ok (.iload_n 1, 1) := by decide +kernel
theorem dX2_distanceOf_15 : decode cX2_distanceOf 15 = .ok (.iaload, 1) := by decide +kernel
theorem dX2_distanceOf_16 : decode cX2_distanceOf 16 = .ok (.goto 4, 3) := by decide +kernel
theorem dX2_distanceOf_19 : decode cX2_distanceOf 19 = .ok (.iconst (-1), 1) := by decide +kernel
theorem dX2_distanceOf_20 : decode cX2_distanceOf 20 = .ok (.ireturn, 1) := by decide +kernel
theorem dX2_classCount_0 : decode cX2_classCount 0 = .ok (.iconst 0, 1) := by decide +kernel
theorem dX2_classCount_1 : decode cX2_classCount 1 = .ok (.istore_n 1, 1) := by decide +kernel
theorem dX2_classCount_2 : decode cX2_classCount 2 = .ok (.iconst 0, 1) := by decide +kernel
theorem dX2_classCount_3 : decode cX2_classCount 3 = .ok (.istore_n 2, 1) := by decide +kernel
theorem dX2_classCount_4 : decode cX2_classCount 4 = .ok (.iload_n 2, 1) := by decide +kernel
theorem dX2_classCount_5 : decode cX2_classCount 5 = .ok (.aload_n 0, 1) := by decide +kernel
theorem dX2_classCount_6 : decode cX2_classCount 6 = .ok (.getfield 9, 3) := by decide +kernel
theorem dX2_classCount_9 : decode cX2_classCount 9 = .ok (.getfield 63, 3) := by decide +kernel
theorem dX2_classCount_12 : decode cX2_classCount 12 = .ok (.if_icmp .ge 28, 3) := by decide +kernel
theorem dX2_classCount_15 : decode cX2_classCount 15 = .ok (.iload_n 2, 1) := by decide +kernel
theorem dX2_classCount_16 : decode cX2_classCount 16 = .ok (.bipush 64, 2) := by decide +kernel
theorem dX2_classCount_18 : decode cX2_classCount 18 = .ok (.if_icmp .ge 22, 3) := by decide +kernel
theorem dX2_classCount_21 : decode cX2_classCount 21 = .ok (.aload_n 0, 1) := by decide +kernel
theorem dX2_classCount_22 : decode cX2_classCount 22 = .ok (.getfield 32, 3) := by decide +kernel
theorem dX2_classCount_25 : decode cX2_classCount 25 = .ok (.iload_n 2, 1) := by decide +kernel
theorem dX2_classCount_26 : decode cX2_classCount 26 = .ok (.iaload, 1) := by decide +kernel
theorem dX2_classCount_27 : decode cX2_classCount 27 = .ok (.iload_n 2, 1) := by decide +kernel
theorem dX2_classCount_28 : decode cX2_classCount 28 = .ok (.if_icmp .ne 6, 3) := by decide +kernel
theorem dX2_classCount_31 : decode cX2_classCount 31 = .ok (.iinc 1 1, 3) := by decide +kernel
theorem dX2_classCount_34 : decode cX2_classCount 34 = .ok (.iinc 2 1, 3) := by decide +kernel
theorem dX2_classCount_37 : decode cX2_classCount 37 = .ok (.goto (-33), 3) := by decide +kernel
theorem dX2_classCount_40 : decode cX2_classCount 40 = .ok (.iload_n 1, 1) := by decide +kernel
theorem dX2_classCount_41 : decode cX2_classCount 41 = .ok (.ireturn, 1) := by decide +kernel
theorem dX2_stateOfShortestRun_0 : decode cX2_stateOfShortestRun 0 = .ok (.iconst (-1), 1) := by decide +kernel
theorem dX2_stateOfShortestRun_1 : decode cX2_stateOfShortestRun 1 = .ok (.istore_n 2, 1) := by decide +kernel
theorem dX2_stateOfShortestRun_2 : decode cX2_stateOfShortestRun 2 = .ok (.bipush 63, 2) := by decide +kernel
theorem dX2_stateOfShortestRun_4 : decode cX2_stateOfShortestRun 4 = .ok (.istore_n 3, 1) := by decide +kernel
theorem dX2_stateOfShortestRun_5 : decode cX2_stateOfShortestRun 5 = .ok (.iload_n 3, 1) := by decide +kernel
theorem dX2_stateOfShortestRun_6 : decode cX2_stateOfShortestRun 6 = .ok (.ifCond .lt 38, 3) := by decide +kernel
theorem dX2_stateOfShortestRun_9 : decode cX2_stateOfShortestRun 9 = .ok (.aload_n 0, 1) := by decide +kernel
theorem dX2_stateOfShortestRun_10 : decode cX2_stateOfShortestRun 10 = .ok (.getfield 9, 3) := by decide +kernel
theorem dX2_stateOfShortestRun_13 : decode cX2_stateOfShortestRun 13 = .ok (.invokevirtual 86, 3) := by decide +kernel
theorem dX2_stateOfShortestRun_16 : decode cX2_stateOfShortestRun 16 = .ok (.iload_n 3, 1) := by decide +kernel
theorem dX2_stateOfShortestRun_17 : decode cX2_stateOfShortestRun 17 = .ok (.invokestatic 106, 3) := by decide +kernel
theorem dX2_stateOfShortestRun_20 : decode cX2_stateOfShortestRun 20 = .ok (.ifCond .eq 18, 3) := by decide +kernel
theorem dX2_stateOfShortestRun_23 : decode cX2_stateOfShortestRun 23 = .ok (.aload_n 0, 1) := by decide +kernel
theorem dX2_stateOfShortestRun_24 : decode cX2_stateOfShortestRun 24 = .ok (.getfield 29, 3) := by decide +kernel
theorem dX2_stateOfShortestRun_27 : decode cX2_stateOfShortestRun 27 = .ok (.iload_n 3, 1) := by decide +kernel
theorem dX2_stateOfShortestRun_28 : decode cX2_stateOfShortestRun 28 = .ok (.iaload, 1) := by decide +kernel
theorem dX2_stateOfShortestRun_29 : decode cX2_stateOfShortestRun 29 = .ok (.aload_n 0, 1) := by decide +kernel
theorem dX2_stateOfShortestRun_30 : decode cX2_stateOfShortestRun 30 = .ok (.getfield 110, 3) := by decide +kernel
theorem dX2_stateOfShortestRun_33 : decode cX2_stateOfShortestRun 33 = .ok (.if_icmp .ne 5, 3) := by decide +kernel
theorem dX2_stateOfShortestRun_36 : decode cX2_stateOfShortestRun 36 = .ok (.iload_n 3, 1) := by decide +kernel
theorem dX2_stateOfShortestRun_37 : decode cX2_stateOfShortestRun 37 = .ok (.istore_n 2, 1) := by decide +kernel
theorem dX2_stateOfShortestRun_38 : decode cX2_stateOfShortestRun 38 = .ok (.iinc 3 (-1), 3) := by decide +kernel
theorem dX2_stateOfShortestRun_41 : decode cX2_stateOfShortestRun 41 = .ok (.goto (-36), 3) := by decide +kernel
theorem dX2_stateOfShortestRun_44 : decode cX2_stateOfShortestRun 44 = .ok (.iconst 0, 1) := by decide +kernel
theorem dX2_stateOfShortestRun_45 : decode cX2_stateOfShortestRun 45 = .ok (.istore_n 3, 1) := by decide +kernel
theorem dX2_stateOfShortestRun_46 : decode cX2_stateOfShortestRun 46 = .ok (.iload_n 3, 1) := by decide +kernel
theorem dX2_stateOfShortestRun_47 : decode cX2_stateOfShortestRun 47 = .ok (.iload_n 1, 1) := by decide +kernel
theorem dX2_stateOfShortestRun_48 : decode cX2_stateOfShortestRun 48 = .ok (.if_icmp .ge 20, 3) := by decide +kernel
theorem dX2_stateOfShortestRun_51 : decode cX2_stateOfShortestRun 51 = .ok (.iload_n 2, 1) := by decide +kernel
theorem dX2_stateOfShortestRun_52 : decode cX2_stateOfShortestRun 52 = .ok (.iconst (-1), 1) := by decide +kernel
theorem dX2_stateOfShortestRun_53 : decode cX2_stateOfShortestRun 53 = .ok (.if_icmp .eq 15, 3) := by decide +kernel
theorem dX2_stateOfShortestRun_56 : decode cX2_stateOfShortestRun 56 = .ok (.aload_n 0, 1) := by decide +kernel
theorem dX2_stateOfShortestRun_57 : decode cX2_stateOfShortestRun 57 = .ok (.iload_n 2, 1) := by decide +kernel
theorem dX2_stateOfShortestRun_58 : decode cX2_stateOfShortestRun 58 = .ok (.invokevirtual 141, 3) := by decide +kernel
theorem dX2_stateOfShortestRun_61 : decode cX2_stateOfShortestRun 61 = .ok (.istore_n 2, 1) := by decide +kernel
theorem dX2_stateOfShortestRun_62 : decode cX2_stateOfShortestRun 62 = .ok (.iinc 3 1, 3) := by decide +kernel
theorem dX2_stateOfShortestRun_65 : decode cX2_stateOfShortestRun 65 = .ok (.goto (-19), 3) := by decide +kernel
theorem dX2_stateOfShortestRun_68 : decode cX2_stateOfShortestRun 68 = .ok (.iload_n 2, 1) := by decide +kernel
theorem dX2_stateOfShortestRun_69 : decode cX2_stateOfShortestRun 69 = .ok (.ireturn, 1) := by decide +kernel
theorem dX2_leastNearer_0 : decode cX2_leastNearer 0 = .ok (.iconst (-1), 1) := by decide +kernel
theorem dX2_leastNearer_1 : decode cX2_leastNearer 1 = .ok (.istore_n 2, 1) := by decide +kernel
theorem dX2_leastNearer_2 : decode cX2_leastNearer 2 = .ok (.iconst 0, 1) := by decide +kernel
theorem dX2_leastNearer_3 : decode cX2_leastNearer 3 = .ok (.istore_n 3, 1) := by decide +kernel
theorem dX2_leastNearer_4 : decode cX2_leastNearer 4 = .ok (.iload_n 3, 1) := by decide +kernel
theorem dX2_leastNearer_5 : decode cX2_leastNearer 5 = .ok (.aload_n 0, 1) := by decide +kernel
theorem dX2_leastNearer_6 : decode cX2_leastNearer 6 = .ok (.getfield 9, 3) := by decide +kernel
theorem dX2_leastNearer_9 : decode cX2_leastNearer 9 = .ok (.getfield 69, 3) := by decide +kernel
theorem dX2_leastNearer_12 : decode cX2_leastNearer 12 = .ok (.if_icmp .ge 59, 3) := by decide +kernel
theorem dX2_leastNearer_15 : decode cX2_leastNearer 15 = .ok (.aload_n 0, 1) := by decide +kernel
theorem dX2_leastNearer_16 : decode cX2_leastNearer 16 = .ok (.iload_n 1, 1) := by decide +kernel
theorem dX2_leastNearer_17 : decode cX2_leastNearer 17 = .ok (.iload_n 3, 1) := by decide +kernel
theorem dX2_leastNearer_18 : decode cX2_leastNearer 18 = .ok (.invokevirtual 134, 3) := by decide +kernel
theorem dX2_leastNearer_21 : decode cX2_leastNearer 21 = .ok (.istore 4, 2) := by decide +kernel
theorem dX2_leastNearer_23 : decode cX2_leastNearer 23 = .ok (.aload_n 0, 1) := by decide +kernel
theorem dX2_leastNearer_24 : decode cX2_leastNearer 24 = .ok (.iload 4, 2) := by decide +kernel
theorem dX2_leastNearer_26 : decode cX2_leastNearer 26 = .ok (.invokevirtual 144, 3) := by decide +kernel
theorem dX2_leastNearer_29 : decode cX2_leastNearer 29 = .ok (.aload_n 0, 1) := by decide +kernel
theorem dX2_leastNearer_30 : decode cX2_leastNearer 30 = .ok (.iload_n 1, 1) := by decide +kernel
theorem dX2_leastNearer_31 : decode cX2_leastNearer 31 = .ok (.invokevirtual 144, 3) := by decide +kernel
theorem dX2_leastNearer_34 : decode cX2_leastNearer 34 = .ok (.iconst 1, 1) := by decide +kernel
theorem dX2_leastNearer_35 : decode cX2_leastNearer 35 = .ok (.isub, 1) := by decide +kernel
theorem dX2_leastNearer_36 : decode cX2_leastNearer 36 = .ok (.if_icmp .ne 7, 3) := by decide +kernel
theorem dX2_leastNearer_39 : decode cX2_leastNearer 39 = .ok (.iconst 1, 1) := by decide +kernel
theorem dX2_leastNearer_40 : decode cX2_leastNearer 40 = .ok (.goto 4, 3) := by decide +kernel
theorem dX2_leastNearer_43 : decode cX2_leastNearer 43 = .ok (.iconst 0, 1) := by decide +kernel
theorem dX2_leastNearer_44 : decode cX2_leastNearer 44 = .ok (.istore 5, 2) := by decide +kernel
theorem dX2_leastNearer_46 : decode cX2_leastNearer 46 = .ok (.iload 5, 2) := by decide +kernel
theorem dX2_leastNearer_48 : decode cX2_leastNearer 48 = .ok (.ifCond .eq 17, 3) := by decide +kernel
theorem dX2_leastNearer_51 : decode cX2_leastNearer 51 = .ok (.iload_n 2, 1) := by decide +kernel
theorem dX2_leastNearer_52 : decode cX2_leastNearer 52 = .ok (.iconst (-1), 1) := by decide +kernel
theorem dX2_leastNearer_53 : decode cX2_leastNearer 53 = .ok (.if_icmp .eq 9, 3) := by decide +kernel
theorem dX2_leastNearer_56 : decode cX2_leastNearer 56 = .ok (.iload 4, 2) := by decide +kernel
theorem dX2_leastNearer_58 : decode cX2_leastNearer 58 = .ok (.iload_n 2, 1) := by decide +kernel
theorem dX2_leastNearer_59 : decode cX2_leastNearer 59 = .ok (.if_icmp .ge 6, 3) := by decide +kernel
theorem dX2_leastNearer_62 : decode cX2_leastNearer 62 = .ok (.iload 4, 2) := by decide +kernel
theorem dX2_leastNearer_64 : decode cX2_leastNearer 64 = .ok (.istore_n 2, 1) := by decide +kernel
theorem dX2_leastNearer_65 : decode cX2_leastNearer 65 = .ok (.iinc 3 1, 3) := by decide +kernel
theorem dX2_leastNearer_68 : decode cX2_leastNearer 68 = .ok (.goto (-64), 3) := by decide +kernel
theorem dX2_leastNearer_71 : decode cX2_leastNearer 71 = .ok (.iload_n 2, 1) := by decide +kernel
theorem dX2_leastNearer_72 : decode cX2_leastNearer 72 = .ok (.ireturn, 1) := by decide +kernel
theorem dX2_inputToBadState_0 : decode cX2_inputToBadState 0 = .ok (.aload_n 0, 1) := by decide +kernel
theorem dX2_inputToBadState_1 : decode cX2_inputToBadState 1 = .ok (.iload_n 1, 1) := by decide +kernel
theorem dX2_inputToBadState_2 : decode cX2_inputToBadState 2 = .ok (.invokevirtual 141, 3) := by decide +kernel
theorem dX2_inputToBadState_5 : decode cX2_inputToBadState 5 = .ok (.istore_n 2, 1) := by decide +kernel
theorem dX2_inputToBadState_6 : decode cX2_inputToBadState 6 = .ok (.iload_n 2, 1) := by decide +kernel
theorem dX2_inputToBadState_7 : decode cX2_inputToBadState 7 = .ok (.iconst (-1), 1) := by decide +kernel
theorem dX2_inputToBadState_8 : decode cX2_inputToBadState 8 = .ok (.if_icmp .ne 7, 3) := by decide +kernel
theorem dX2_inputToBadState_11 : decode cX2_inputToBadState 11 = .ok (.iconst (-1), 1) := by decide +kernel
theorem dX2_inputToBadState_12 : decode cX2_inputToBadState 12 = .ok (.goto 11, 3) := by decide +kernel
theorem dX2_inputToBadState_15 : decode cX2_inputToBadState 15 = .ok (.aload_n 0, 1) := by decide +kernel
theorem dX2_inputToBadState_16 : decode cX2_inputToBadState 16 = .ok (.iload_n 1, 1) := by decide +kernel
theorem dX2_inputToBadState_17 : decode cX2_inputToBadState 17 = .ok (.lconst 1, 1) := by decide +kernel
theorem dX2_inputToBadState_18 : decode cX2_inputToBadState 18 = .ok (.iload_n 2, 1) := by decide +kernel
theorem dX2_inputToBadState_19 : decode cX2_inputToBadState 19 = .ok (.lshl, 1) := by decide +kernel
theorem dX2_inputToBadState_20 : decode cX2_inputToBadState 20 = .ok (.invokevirtual 147, 3) := by decide +kernel
theorem dX2_inputToBadState_23 : decode cX2_inputToBadState 23 = .ok (.ireturn, 1) := by decide +kernel
theorem dX2_leastInputInto_0 : decode cX2_leastInputInto 0 = .ok (.iconst 0, 1) := by decide +kernel
theorem dX2_leastInputInto_1 : decode cX2_leastInputInto 1 = .ok (.istore 4, 2) := by decide +kernel
theorem dX2_leastInputInto_3 : decode cX2_leastInputInto 3 = .ok (.iload 4, 2) := by decide +kernel
theorem dX2_leastInputInto_5 : decode cX2_leastInputInto 5 = .ok (.aload_n 0, 1) := by decide +kernel
theorem dX2_leastInputInto_6 : decode cX2_leastInputInto 6 = .ok (.getfield 9, 3) := by decide +kernel
theorem dX2_leastInputInto_9 : decode cX2_leastInputInto 9 = .ok (.getfield 69, 3) := by decide +kernel
theorem dX2_leastInputInto_12 : decode cX2_leastInputInto 12 = .ok (.if_icmp .ge 26, 3) := by decide +kernel
theorem dX2_leastInputInto_15 : decode cX2_leastInputInto 15 = .ok (.lload_n 2, 1) := by decide +kernel
theorem dX2_leastInputInto_16 : decode cX2_leastInputInto 16 = .ok (.aload_n 0, 1) := by decide +kernel
theorem dX2_leastInputInto_17 : decode cX2_leastInputInto 17 = .ok (.iload_n 1, 1) := by decide +kernel
theorem dX2_leastInputInto_18 : decode cX2_leastInputInto 18 = .ok (.iload 4, 2) := by decide +kernel
theorem dX2_leastInputInto_20 : decode cX2_leastInputInto 20 = .ok (.invokevirtual 134, 3) := by decide +kernel
theorem dX2_leastInputInto_23 : decode cX2_leastInputInto 23 = .ok (.invokestatic 106, 3) := by decide +kernel
theorem dX2_leastInputInto_26 : decode cX2_leastInputInto 26 = .ok (.ifCond .eq 6, 3) := by decide +kernel
theorem dX2_leastInputInto_29 : decode cX2_leastInputInto 29 = .ok (.iload 4, 2) := by decide +kernel
theorem dX2_leastInputInto_31 : decode cX2_leastInputInto 31 = .ok (.ireturn, 1) := by decide +kernel
theorem dX2_leastInputInto_32 : decode cX2_leastInputInto 32 = .ok (.iinc 4 1, 3) := by decide +kernel
theorem dX2_leastInputInto_35 : decode cX2_leastInputInto 35 = .ok (.goto (-32), 3) := by decide +kernel
theorem dX2_leastInputInto_38 : decode cX2_leastInputInto 38 = .ok (.iconst (-1), 1) := by decide +kernel
theorem dX2_leastInputInto_39 : decode cX2_leastInputInto 39 = .ok (.ireturn, 1) := by decide +kernel
theorem dX2_successorsOf_0 : decode cX2_successorsOf 0 = .ok (.lload_n 1, 1) := by decide +kernel
theorem dX2_successorsOf_1 : decode cX2_successorsOf 1 = .ok (.aload_n 0, 1) := by decide +kernel
theorem dX2_successorsOf_2 : decode cX2_successorsOf 2 = .ok (.getfield 19, 3) := by decide +kernel
theorem dX2_successorsOf_5 : decode cX2_successorsOf 5 = .ok (.invokestatic 151, 3) := by decide +kernel
theorem dX2_successorsOf_8 : decode cX2_successorsOf 8 = .ok (.lreturn, 1) := by decide +kernel
theorem dX2_predecessorsOf_0 : decode cX2_predecessorsOf 0 = .ok (.lload_n 1, 1) := by decide +kernel
theorem dX2_predecessorsOf_1 : decode cX2_predecessorsOf 1 = .ok (.aload_n 0, 1) := by decide +kernel
theorem dX2_predecessorsOf_2 : decode cX2_predecessorsOf 2 = .ok (.getfield 23, 3) := by decide +kernel
theorem dX2_predecessorsOf_5 : decode cX2_predecessorsOf 5 = .ok (.invokestatic 151, 3) := by decide +kernel
theorem dX2_predecessorsOf_8 : decode cX2_predecessorsOf 8 = .ok (.lreturn, 1) := by decide +kernel
theorem dX2_unionOver_0 : decode cX2_unionOver 0 = .ok (.lconst 0, 1) := by decide +kernel
theorem dX2_unionOver_1 : decode cX2_unionOver 1 = .ok (.lstore_n 3, 1) := by decide +kernel
theorem dX2_unionOver_2 : decode cX2_unionOver 2 = .ok (.lload_n 0, 1) := by decide +kernel
theorem dX2_unionOver_3 : decode cX2_unionOver 3 = .ok (.lstore 5, 2) := by decide +kernel
theorem dX2_unionOver_5 : decode cX2_unionOver 5 = .ok (.iconst 0, 1) := by decide +kernel
theorem dX2_unionOver_6 : decode cX2_unionOver 6 = .ok (.istore 7, 2) := by decide +kernel
theorem dX2_unionOver_8 : decode cX2_unionOver 8 = .ok (.iload 7, 2) := by decide +kernel
theorem dX2_unionOver_10 : decode cX2_unionOver 10 = .ok (.bipush 64, 2) := by decide +kernel
theorem dX2_unionOver_12 : decode cX2_unionOver 12 = .ok (.if_icmp .ge 51, 3) := by decide +kernel
theorem dX2_unionOver_15 : decode cX2_unionOver 15 = .ok (.lload 5, 2) := by decide +kernel
theorem dX2_unionOver_17 : decode cX2_unionOver 17 = .ok (.lconst 0, 1) := by decide +kernel
theorem dX2_unionOver_18 : decode cX2_unionOver 18 = .ok (.lcmp, 1) := by decide +kernel
theorem dX2_unionOver_19 : decode cX2_unionOver 19 = .ok (.ifCond .eq 44, 3) := by decide +kernel
theorem dX2_unionOver_22 : decode cX2_unionOver 22 = .ok (.lload 5, 2) := by decide +kernel
theorem dX2_unionOver_24 : decode cX2_unionOver 24 = .ok (.invokestatic 116, 3) := by decide +kernel
theorem dX2_unionOver_27 : decode cX2_unionOver 27 = .ok (.istore 8, 2) := by decide +kernel
theorem dX2_unionOver_29 : decode cX2_unionOver 29 = .ok (.iload 8, 2) := by decide +kernel
theorem dX2_unionOver_31 : decode cX2_unionOver 31 = .ok (.ifCond .lt 17, 3) := by decide +kernel
theorem dX2_unionOver_34 : decode cX2_unionOver 34 = .ok (.iload 8, 2) := by decide +kernel
theorem dX2_unionOver_36 : decode cX2_unionOver 36 = .ok (.aload_n 2, 1) := by decide +kernel
theorem dX2_unionOver_37 : decode cX2_unionOver 37 = .ok (.arraylength, 1) := by decide +kernel
theorem dX2_unionOver_38 : decode cX2_unionOver 38 = .ok (.if_icmp .ge 10, 3) := by decide +kernel
theorem dX2_unionOver_41 : decode cX2_unionOver 41 = .ok (.lload_n 3, 1) := by decide +kernel
theorem dX2_unionOver_42 : decode cX2_unionOver 42 = .ok (.aload_n 2, 1) := by decide +kernel
theorem dX2_unionOver_43 : decode cX2_unionOver 43 = .ok (.iload 8, 2) := by decide +kernel
theorem dX2_unionOver_45 : decode cX2_unionOver 45 = .ok (.laload, 1) := by decide +kernel
theorem dX2_unionOver_46 : decode cX2_unionOver 46 = .ok (.lor, 1) := by decide +kernel
theorem dX2_unionOver_47 : decode cX2_unionOver 47 = .ok (.lstore_n 3, 1) := by decide +kernel
theorem dX2_unionOver_48 : decode cX2_unionOver 48 = .ok (.lload 5, 2) := by decide +kernel
theorem dX2_unionOver_50 : decode cX2_unionOver 50 = .ok (.lload 5, 2) := by decide +kernel
theorem dX2_unionOver_52 : decode cX2_unionOver 52 = .ok (.lconst 1, 1) := by decide +kernel
theorem dX2_unionOver_53 : decode cX2_unionOver 53 = .ok (.lsub, 1) := by decide +kernel
theorem dX2_unionOver_54 : decode cX2_unionOver 54 = .ok (.land, 1) := by decide +kernel
theorem dX2_unionOver_55 : decode cX2_unionOver 55 = .ok (.lstore 5, 2) := by decide +kernel
theorem dX2_unionOver_57 : decode cX2_unionOver 57 = .ok (.iinc 7 1, 3) := by decide +kernel
theorem dX2_unionOver_60 : decode cX2_unionOver 60 = .ok (.goto (-52), 3) := by decide +kernel
theorem dX2_unionOver_63 : decode cX2_unionOver 63 = .ok (.lload_n 3, 1) := by decide +kernel
theorem dX2_unionOver_64 : decode cX2_unionOver 64 = .ok (.lreturn, 1) := by decide +kernel
theorem dX2_statesThatCanReach_0 : decode cX2_statesThatCanReach 0 = .ok (.lload_n 1, 1) := by decide +kernel
theorem dX2_statesThatCanReach_1 : decode cX2_statesThatCanReach 1 = .ok (.lstore_n 3, 1) := by decide +kernel
theorem dX2_statesThatCanReach_2 : decode cX2_statesThatCanReach 2 = .ok (.lload_n 1, 1) := by decide +kernel
theorem dX2_statesThatCanReach_3 : decode cX2_statesThatCanReach 3 = .ok (.lstore 5, 2) := by decide +kernel
theorem dX2_statesThatCanReach_5 : decode cX2_statesThatCanReach 5 = .ok (.iconst 0, 1) := by decide +kernel
theorem dX2_statesThatCanReach_6 : decode cX2_statesThatCanReach 6 = .ok (.istore 7, 2) := by decide +kernel
theorem dX2_statesThatCanReach_8 : decode cX2_statesThatCanReach 8 = .ok (.iload 7, 2) := by decide +kernel
theorem dX2_statesThatCanReach_10 : decode cX2_statesThatCanReach 10 = .ok (.bipush 64, 2) := by decide +kernel
theorem dX2_statesThatCanReach_12 : decode cX2_statesThatCanReach 12 = .ok (.if_icmp .ge 35, 3) := by decide +kernel
theorem dX2_statesThatCanReach_15 : decode cX2_statesThatCanReach 15 = .ok (.lload 5, 2) := by decide +kernel
theorem dX2_statesThatCanReach_17 : decode cX2_statesThatCanReach 17 = .ok (.lconst 0, 1) := by decide +kernel
theorem dX2_statesThatCanReach_18 : decode cX2_statesThatCanReach 18 = .ok (.lcmp, 1) := by decide +kernel
theorem dX2_statesThatCanReach_19 : decode cX2_statesThatCanReach 19 = .ok (.ifCond .eq 28, 3) := by decide +kernel
theorem dX2_statesThatCanReach_22 : decode cX2_statesThatCanReach 22 = .ok (.aload_n 0, 1) := by decide +kernel
theorem dX2_statesThatCanReach_23 : decode cX2_statesThatCanReach 23 = .ok (.lload 5, 2) := by decide +kernel
theorem dX2_statesThatCanReach_25 : decode cX2_statesThatCanReach 25 = .ok (.invokevirtual 103, 3) := by decide +kernel
theorem dX2_statesThatCanReach_28 : decode cX2_statesThatCanReach 28 = .ok (.lload_n 3, 1) := by decide +kernel
theorem dX2_statesThatCanReach_29 : decode cX2_statesThatCanReach 29 = .ok (.ldc2_w 98, 3) := by decide +kernel
theorem dX2_statesThatCanReach_32 : decode cX2_statesThatCanReach 32 = .ok (.lxor, 1) := by decide +kernel
theorem dX2_statesThatCanReach_33 : decode cX2_statesThatCanReach 33 = .ok (.land, 1) := by decide +kernel
theorem dX2_statesThatCanReach_34 : decode cX2_statesThatCanReach 34 = .ok (.lstore 5, 2) := by decide +kernel
theorem dX2_statesThatCanReach_36 : decode cX2_statesThatCanReach 36 = .ok (.lload_n 3, 1) := by decide +kernel
theorem dX2_statesThatCanReach_37 : decode cX2_statesThatCanReach 37 = .ok (.lload 5, 2) := by decide +kernel
theorem dX2_statesThatCanReach_39 : decode cX2_statesThatCanReach 39 = .ok (.lor, 1) := by decide +kernel
theorem dX2_statesThatCanReach_40 : decode cX2_statesThatCanReach 40 = .ok (.lstore_n 3, 1) := by decide +kernel
theorem dX2_statesThatCanReach_41 : decode cX2_statesThatCanReach 41 = .ok (.iinc 7 1, 3) := by decide +kernel
theorem dX2_statesThatCanReach_44 : decode cX2_statesThatCanReach 44 = .ok (.goto (-36), 3) := by decide +kernel
theorem dX2_statesThatCanReach_47 : decode cX2_statesThatCanReach 47 = .ok (.lload_n 3, 1) := by decide +kernel
theorem dX2_statesThatCanReach_48 : decode cX2_statesThatCanReach 48 = .ok (.lreturn, 1) := by decide +kernel
theorem dX2_statesThatCanStayIn_0 : decode cX2_statesThatCanStayIn 0 = .ok (.lload_n 1, 1) := by decide +kernel
theorem dX2_statesThatCanStayIn_1 : decode cX2_statesThatCanStayIn 1 = .ok (.lstore_n 3, 1) := by decide +kernel
theorem dX2_statesThatCanStayIn_2 : decode cX2_statesThatCanStayIn 2 = .ok (.iconst 1, 1) := by decide +kernel
theorem dX2_statesThatCanStayIn_3 : decode cX2_statesThatCanStayIn 3 = .ok (.istore 5, 2) := by decide +kernel
theorem dX2_statesThatCanStayIn_5 : decode cX2_statesThatCanStayIn 5 = .ok (.iconst 0, 1) := by decide +kernel
theorem dX2_statesThatCanStayIn_6 : decode cX2_statesThatCanStayIn 6 = .ok (.istore 6, 2) := by decide +kernel
theorem dX2_statesThatCanStayIn_8 : decode cX2_statesThatCanStayIn 8 = .ok (.iload 6, 2) := by decide +kernel
theorem dX2_statesThatCanStayIn_10 : decode cX2_statesThatCanStayIn 10 = .ok (.bipush 64, 2) := by decide +kernel
theorem dX2_statesThatCanStayIn_12 : decode cX2_statesThatCanStayIn 12 = .ok (.if_icmp .gt 40, 3) := by decide +kernel
theorem dX2_statesThatCanStayIn_15 : decode cX2_statesThatCanStayIn 15 = .ok (.iload 5, 2) := by decide +kernel
theorem dX2_statesThatCanStayIn_17 : decode cX2_statesThatCanStayIn 17 = .ok (.ifCond .eq 35, 3) := by decide +kernel
theorem dX2_statesThatCanStayIn_20 : decode cX2_statesThatCanStayIn 20 = .ok (.lload_n 3, 1) := by decide +kernel
theorem dX2_statesThatCanStayIn_21 : decode cX2_statesThatCanStayIn 21 = .ok (.aload_n 0, 1) := by decide +kernel
theorem dX2_statesThatCanStayIn_22 : decode cX2_statesThatCanStayIn 22 = .ok (.lload_n 3, 1) := by decide +kernel
theorem dX2_statesThatCanStayIn_23 : decode cX2_statesThatCanStayIn 23 = .ok (.invokevirtual 103, 3) := by decide +kernel
theorem dX2_statesThatCanStayIn_26 : decode cX2_statesThatCanStayIn 26 = .ok (.land, 1) := by decide +kernel
theorem dX2_statesThatCanStayIn_27 : decode cX2_statesThatCanStayIn 27 = .ok (.lstore 7, 2) := by decide +kernel
theorem dX2_statesThatCanStayIn_29 : decode cX2_statesThatCanStayIn 29 = .ok (.lload 7, 2) := by decide +kernel
theorem dX2_statesThatCanStayIn_31 : decode cX2_statesThatCanStayIn 31 = .ok (.lload_n 3, 1) := by decide +kernel
theorem dX2_statesThatCanStayIn_32 : decode cX2_statesThatCanStayIn 32 = .ok (.lcmp, 1) := by decide +kernel
theorem dX2_statesThatCanStayIn_33 : decode cX2_statesThatCanStayIn 33 = .ok (.ifCond .eq 7, 3) := by decide +kernel
theorem dX2_statesThatCanStayIn_36 : decode cX2_statesThatCanStayIn 36 = .ok (.iconst 1, 1) := by decide +kernel
theorem dX2_statesThatCanStayIn_37 : decode cX2_statesThatCanStayIn 37 = .ok (.goto 4, 3) := by decide +kernel
theorem dX2_statesThatCanStayIn_40 : decode cX2_statesThatCanStayIn 40 = .ok (.iconst 0, 1) := by decide +kernel
theorem dX2_statesThatCanStayIn_41 : decode cX2_statesThatCanStayIn 41 = .ok (.istore 5, 2) := by decide +kernel
theorem dX2_statesThatCanStayIn_43 : decode cX2_statesThatCanStayIn 43 = .ok (.lload 7, 2) := by decide +kernel
theorem dX2_statesThatCanStayIn_45 : decode cX2_statesThatCanStayIn 45 = .ok (.lstore_n 3, 1) := by decide +kernel
theorem dX2_statesThatCanStayIn_46 : decode cX2_statesThatCanStayIn 46 = .ok (.iinc 6 1, 3) := by decide +kernel
theorem dX2_statesThatCanStayIn_49 : decode cX2_statesThatCanStayIn 49 = .ok (.goto (-41), 3) := by decide +kernel
theorem dX2_statesThatCanStayIn_52 : decode cX2_statesThatCanStayIn 52 = .ok (.lload_n 3, 1) := by decide +kernel
theorem dX2_statesThatCanStayIn_53 : decode cX2_statesThatCanStayIn 53 = .ok (.lreturn, 1) := by decide +kernel
theorem dX3_init_0 : decode cX3_init 0 = .ok (.aload_n 0, 1) := by decide +kernel
theorem dX3_init_1 : decode cX3_init 1 = .ok (.invokespecial 3, 3) := by decide +kernel
theorem dX3_init_4 : decode cX3_init 4 = .ok (.aload_n 0, 1) := by decide +kernel
theorem dX3_init_5 : decode cX3_init 5 = .ok (.bipush 60, 2) := by decide +kernel
theorem dX3_init_7 : decode cX3_init 7 = .ok (.newarray .int, 2) := by decide +kernel
theorem dX3_init_9 : decode cX3_init 9 = .ok (.putfield 11, 3) := by decide +kernel
theorem dX3_init_12 : decode cX3_init 12 = .ok (.aload_n 0, 1) := by decide +kernel
theorem dX3_init_13 : decode cX3_init 13 = .ok (.bipush 60, 2) := by decide +kernel
theorem dX3_init_15 : decode cX3_init 15 = .ok (.newarray .int, 2) := by decide +kernel
theorem dX3_init_17 : decode cX3_init 17 = .ok (.putfield 15, 3) := by decide +kernel
theorem dX3_init_20 : decode cX3_init 20 = .ok (.aload_n 0, 1) := by decide +kernel
theorem dX3_init_21 : decode cX3_init 21 = .ok (.bipush 60, 2) := by decide +kernel
theorem dX3_init_23 : decode cX3_init 23 = .ok (.newarray .long, 2) := by decide +kernel
theorem dX3_init_25 : decode cX3_init 25 = .ok (.putfield 18, 3) := by decide +kernel
theorem dX3_init_28 : decode cX3_init 28 = .ok (.return_, 1) := by decide +kernel
theorem dX3_isFull_0 : decode cX3_isFull 0 = .ok (.aload_n 0, 1) := by decide +kernel
theorem dX3_isFull_1 : decode cX3_isFull 1 = .ok (.getfield 22, 3) := by decide +kernel
theorem dX3_isFull_4 : decode cX3_isFull 4 = .ok (.bipush 60, 2) := by decide +kernel
theorem dX3_isFull_6 : decode cX3_isFull 6 = .ok (.if_icmp .lt 7, 3) := by decide +kernel
theorem dX3_isFull_9 : decode cX3_isFull 9 = .ok (.iconst 1, 1) := by decide +kernel
theorem dX3_isFull_10 : decode cX3_isFull 10 = .ok (.goto 4, 3) := by decide +kernel
theorem dX3_isFull_13 : decode cX3_isFull 13 = .ok (.iconst 0, 1) := by decide +kernel
theorem dX3_isFull_14 : decode cX3_isFull 14 = .ok (.ireturn, 1) := by decide +kernel
theorem dX3_put_0 : decode cX3_put 0 = .ok (.aload_n 0, 1) := by decide +kernel
theorem dX3_put_1 : decode cX3_put 1 = .ok (.getfield 22, 3) := by decide +kernel
theorem dX3_put_4 : decode cX3_put 4 = .ok (.ifCond .lt 32, 3) := by decide +kernel
theorem dX3_put_7 : decode cX3_put 7 = .ok (.aload_n 0, 1) := by decide +kernel
theorem dX3_put_8 : decode cX3_put 8 = .ok (.getfield 22, 3) := by decide +kernel
theorem dX3_put_11 : decode cX3_put 11 = .ok (.bipush 60, 2) := by decide +kernel
theorem dX3_put_13 : decode cX3_put 13 = .ok (.if_icmp .ge 23, 3) := by decide +kernel
theorem dX3_put_16 : decode cX3_put 16 = .ok (.aload_n 0, 1) := by decide +kernel
theorem dX3_put_17 : decode cX3_put 17 = .ok (.getfield 11, 3) := by decide +kernel
theorem dX3_put_20 : decode cX3_put 20 = .ok (.aload_n 0, 1) := by decide +kernel
theorem dX3_put_21 : decode cX3_put 21 = .ok (.getfield 22, 3) := by decide +kernel
theorem dX3_put_24 : decode cX3_put 24 = .ok (.iload_n 1, 1) := by decide +kernel
theorem dX3_put_25 : decode cX3_put 25 = .ok (.iastore, 1) := by decide +kernel
theorem dX3_put_26 : decode cX3_put 26 = .ok (.aload_n 0, 1) := by decide +kernel
theorem dX3_put_27 : decode cX3_put 27 = .ok (.dup, 1) := by decide +kernel
theorem dX3_put_28 : decode cX3_put 28 = .ok (.getfield 22, 3) := by decide +kernel
theorem dX3_put_31 : decode cX3_put 31 = .ok (.iconst 1, 1) := by decide +kernel
theorem dX3_put_32 : decode cX3_put 32 = .ok (.iadd, 1) := by decide +kernel
theorem dX3_put_33 : decode cX3_put 33 = .ok (.putfield 22, 3) := by decide +kernel
theorem dX3_put_36 : decode cX3_put 36 = .ok (.return_, 1) := by decide +kernel
theorem dX3_codeAt_0 : decode cX3_codeAt 0 = .ok (.iload_n 1, 1) := by decide +kernel
theorem dX3_codeAt_1 : decode cX3_codeAt 1 = .ok (.ifCond .lt 18, 3) := by decide +kernel
theorem dX3_codeAt_4 : decode cX3_codeAt 4 = .ok (.iload_n 1, 1) := by decide +kernel
theorem dX3_codeAt_5 : decode cX3_codeAt 5 = .ok (.bipush 60, 2) := by decide +kernel
theorem dX3_codeAt_7 : decode cX3_codeAt 7 = .ok (.if_icmp .ge 12, 3) := by decide +kernel
theorem dX3_codeAt_10 : decode cX3_codeAt 10 = .ok (.aload_n 0, 1) := by decide +kernel
theorem dX3_codeAt_11 : decode cX3_codeAt 11 = .ok (.getfield 11, 3) := by decide +kernel
theorem dX3_codeAt_14 : decode cX3_codeAt 14 = .ok (.iload_n 1, 1) := by decide +kernel
theorem dX3_codeAt_15 : decode cX3_codeAt 15 = .ok (.iaload, 1) := by decide +kernel
theorem dX3_codeAt_16 : decode cX3_codeAt 16 = .ok (.goto 4, 3) := by decide +kernel
theorem dX3_codeAt_19 : decode cX3_codeAt 19 = .ok (.iconst 0, 1) := by decide +kernel
theorem dX3_codeAt_20 : decode cX3_codeAt 20 = .ok (.ireturn, 1) := by decide +kernel
theorem dX3_read_0 : decode cX3_read 0 = .ok (.aload_n 0, 1) := by decide +kernel
theorem dX3_read_1 : decode cX3_read 1 = .ok (.iconst 1, 1) := by decide +kernel
theorem dX3_read_2 : decode cX3_read 2 = .ok (.putfield 26, 3) := by decide +kernel
theorem dX3_read_5 : decode cX3_read 5 = .ok (.aload_n 0, 1) := by decide +kernel
theorem dX3_read_6 : decode cX3_read 6 = .ok (.iconst 0, 1) := by decide +kernel
theorem dX3_read_7 : decode cX3_read 7 = .ok (.putfield 30, 3) := by decide +kernel
theorem dX3_read_10 : decode cX3_read 10 = .ok (.iconst 0, 1) := by decide +kernel
theorem dX3_read_11 : decode cX3_read 11 = .ok (.istore_n 3, 1) := by decide +kernel
theorem dX3_read_12 : decode cX3_read 12 = .ok (.iload_n 3, 1) := by decide +kernel
theorem dX3_read_13 : decode cX3_read 13 = .ok (.aload_n 0, 1) := by decide +kernel
theorem dX3_read_14 : decode cX3_read 14 = .ok (.getfield 22, 3) := by decide +kernel
theorem dX3_read_17 : decode cX3_read 17 = .ok (.if_icmp .ge 49, 3) := by decide +kernel
theorem dX3_read_20 : decode cX3_read 20 = .ok (.aload_n 0, 1) := by decide +kernel
theorem dX3_read_21 : decode cX3_read 21 = .ok (.iload_n 3, 1) := by decide +kernel
theorem dX3_read_22 : decode cX3_read 22 = .ok (.invokevirtual 33, 3) := by decide +kernel
theorem dX3_read_25 : decode cX3_read 25 = .ok (.istore 4, 2) := by decide +kernel
theorem dX3_read_27 : decode cX3_read 27 = .ok (.aload_n 0, 1) := by decide +kernel
theorem dX3_read_28 : decode cX3_read 28 = .ok (.getfield 26, 3) := by decide +kernel
theorem dX3_read_31 : decode cX3_read 31 = .ok (.ifCond .eq 14, 3) := by decide +kernel
theorem dX3_read_34 : decode cX3_read 34 = .ok (.aload_n 0, 1) := by decide +kernel
theorem dX3_read_35 : decode cX3_read 35 = .ok (.iload 4, 2) := by decide +kernel
theorem dX3_read_37 : decode cX3_read 37 = .ok (.iload_n 1, 1) := by decide +kernel
theorem dX3_read_38 : decode cX3_read 38 = .ok (.iload_n 2, 1) := by decide +kernel
theorem dX3_read_39 : decode cX3_read 39 = .ok (.invokevirtual 37, 3) := by decide +kernel
theorem dX3_read_42 : decode cX3_read 42 = .ok (.goto 9, 3) := by decide +kernel
theorem dX3_read_45 : decode cX3_read 45 = .ok (.aload_n 0, 1) := by decide +kernel
theorem dX3_read_46 : decode cX3_read 46 = .ok (.iload 4, 2) := by decide +kernel
theorem dX3_read_48 : decode cX3_read 48 = .ok (.invokevirtual 41, 3) := by decide +kernel
theorem dX3_read_51 : decode cX3_read 51 = .ok (.istore 5, 2) := by decide +kernel
theorem dX3_read_53 : decode cX3_read 53 = .ok (.iload 5, 2) := by decide +kernel
theorem dX3_read_55 : decode cX3_read 55 = .ok (.ifCond .ne 5, 3) := by decide +kernel
theorem dX3_read_58 : decode cX3_read 58 = .ok (.iload_n 3, 1) := by decide +kernel
theorem dX3_read_59 : decode cX3_read 59 = .ok (.ireturn, 1) := by decide +kernel
theorem dX3_read_60 : decode cX3_read 60 = .ok (.iinc 3 1, 3) := by decide +kernel
theorem dX3_read_63 : decode cX3_read 63 = .ok (.goto (-51), 3) := by decide +kernel
theorem dX3_read_66 : decode cX3_read 66 = .ok (.aload_n 0, 1) := by decide +kernel
theorem dX3_read_67 : decode cX3_read 67 = .ok (.getfield 22, 3) := by decide +kernel
theorem dX3_read_70 : decode cX3_read 70 = .ok (.ireturn, 1) := by decide +kernel
theorem dX3_takesOperand_0 : decode cX3_takesOperand 0 = .ok (.iload_n 1, 1) := by decide +kernel
theorem dX3_takesOperand_1 : decode cX3_takesOperand 1 = .ok (.bipush 40, 2) := by decide +kernel
theorem dX3_takesOperand_3 : decode cX3_takesOperand 3 = .ok (.if_icmp .ne 15, 3) := by decide +kernel
theorem dX3_takesOperand_6 : decode cX3_takesOperand 6 = .ok (.aload_n 0, 1) := by decide +kernel
theorem dX3_takesOperand_7 : decode cX3_takesOperand 7 = .ok (.dup, 1) := by decide +kernel
theorem dX3_takesOperand_8 : decode cX3_takesOperand 8 = .ok (.getfield 30, 3) := by decide +kernel
theorem dX3_takesOperand_11 : decode cX3_takesOperand 11 = .ok (.iconst 1, 1) := by decide +kernel
theorem dX3_takesOperand_12 : decode cX3_takesOperand 12 = .ok (.iadd, 1) := by decide +kernel
theorem dX3_takesOperand_13 : decode cX3_takesOperand 13 = .ok (.putfield 30, 3) := by decide +kernel
theorem dX3_takesOperand_16 : decode cX3_takesOperand 16 = .ok (.iconst 1, 1) := by decide +kernel
theorem dX3_takesOperand_17 : decode cX3_takesOperand 17 = .ok (.ireturn, 1) := by decide +kernel
theorem dX3_takesOperand_18 : decode cX3_takesOperand 18 = .ok (.iload_n 1, 1) := by decide +kernel
theorem dX3_takesOperand_19 : decode cX3_takesOperand 19 = .ok (.bipush 33, 2) := by decide +kernel
theorem dX3_takesOperand_21 : decode cX3_takesOperand 21 = .ok (.if_icmp .ne 5, 3) := by decide +kernel
theorem dX3_takesOperand_24 : decode cX3_takesOperand 24 = .ok (.iconst 1, 1) := by decide +kernel
theorem dX3_takesOperand_25 : decode cX3_takesOperand 25 = .ok (.ireturn, 1) := by decide +kernel
theorem dX3_takesOperand_26 : decode cX3_takesOperand 26 = .ok (.aload_n 0, 1) := by decide +kernel
theorem dX3_takesOperand_27 : decode cX3_takesOperand 27 = .ok (.iconst 0, 1) := by decide +kernel
theorem dX3_takesOperand_28 : decode cX3_takesOperand 28 = .ok (.putfield 26, 3) := by decide +kernel
theorem dX3_takesOperand_31 : decode cX3_takesOperand 31 = .ok (.iload_n 1, 1) := by decide +kernel
theorem dX3_takesOperand_32 : decode cX3_takesOperand 32 = .ok (.iload_n 2, 1) := by decide +kernel
theorem dX3_takesOperand_33 : decode cX3_takesOperand 33 = .ok (.iload_n 3, 1) := by decide +kernel
theorem dX3_takesOperand_34 : decode cX3_takesOperand 34 = .ok (.invokestatic 45, 3) := by decide +kernel
theorem dX3_takesOperand_37 : decode cX3_takesOperand 37 = .ok (.ireturn, 1) := by decide +kernel
theorem dX3_takesOperator_0 : decode cX3_takesOperator 0 = .ok (.iload_n 1, 1) := by decide +kernel
theorem dX3_takesOperator_1 : decode cX3_takesOperator 1 = .ok (.bipush 41, 2) := by decide +kernel
theorem dX3_takesOperator_3 : decode cX3_takesOperator 3 = .ok (.if_icmp .ne 26, 3) := by decide +kernel
theorem dX3_takesOperator_6 : decode cX3_takesOperator 6 = .ok (.aload_n 0, 1) := by decide +kernel
theorem dX3_takesOperator_7 : decode cX3_takesOperator 7 = .ok (.dup, 1) := by decide +kernel
theorem dX3_takesOperator_8 : decode cX3_takesOperator 8 = .ok (.getfield 30, 3) := by decide +kernel
theorem dX3_takesOperator_11 : decode cX3_takesOperator 11 = .ok (.iconst 1, 1) := by decide +kernel
theorem dX3_takesOperator_12 : decode cX3_takesOperator 12 = .ok (.isub, 1) := by decide +kernel
theorem dX3_takesOperator_13 : decode cX3_takesOperator 13 = .ok (.putfield 30, 3) := by decide +kernel
theorem dX3_takesOperator_16 : decode cX3_takesOperator 16 = .ok (.aload_n 0, 1) := by decide +kernel
theorem dX3_takesOperator_17 : decode cX3_takesOperator 17 = .ok (.getfield 30, 3) := by decide +kernel
theorem dX3_takesOperator_20 : decode cX3_takesOperator 20 = .ok (.ifCond .lt 7, 3) := by decide +kernel
theorem dX3_takesOperator_23 : decode cX3_takesOperator 23 = .ok (.iconst 1, 1) := by decide +kernel
theorem dX3_takesOperator_24 : decode cX3_takesOperator 24 = .ok (.goto 4, 3) := by decide +kernel
theorem dX3_takesOperator_27 : decode cX3_takesOperator 27 = .ok (.iconst 0, 1) := by decide +kernel
theorem dX3_takesOperator_28 : decode cX3_takesOperator 28 = .ok (.ireturn, 1) := by decide +kernel
theorem dX3_takesOperator_29 : decode cX3_takesOperator 29 = .ok (.aload_n 0, 1) := by decide +kernel
theorem dX3_takesOperator_30 : decode cX3_takesOperator 30 = .ok (.iconst 1, 1) := by decide +kernel
theorem dX3_takesOperator_31 : decode cX3_takesOperator 31 = .ok (.putfield 26, 3) := by decide +kernel
theorem dX3_takesOperator_34 : decode cX3_takesOperator 34 = .ok (.iload_n 1, 1) := by decide +kernel
theorem dX3_takesOperator_35 : decode cX3_takesOperator 35 = .ok (.bipush 124, 2) := by decide +kernel
theorem dX3_takesOperator_37 : decode cX3_takesOperator 37 = .ok (.if_icmp .eq 15, 3) := by decide +kernel
theorem dX3_takesOperator_40 : decode cX3_takesOperator 40 = .ok (.iload_n 1, 1) := by decide +kernel
theorem dX3_takesOperator_41 : decode cX3_takesOperator 41 = .ok (.bipush 94, 2) := by decide +kernel
theorem dX3_takesOperator_43 : decode cX3_takesOperator 43 = .ok (.if_icmp .eq 9, 3) := by decide +kernel
theorem dX3_takesOperator_46 : decode cX3_takesOperator 46 = .ok (.iload_n 1, 1) := by decide +kernel
theorem dX3_takesOperator_47 : decode cX3_takesOperator 47 = .ok (.bipush 38, 2) := by decide +kernel
theorem dX3_takesOperator_49 : decode cX3_takesOperator 49 = .ok (.if_icmp .ne 7, 3) := by decide +kernel
theorem dX3_takesOperator_52 : decode cX3_takesOperator 52 = .ok (.iconst 1, 1) := by decide +kernel
theorem dX3_takesOperator_53 : decode cX3_takesOperator 53 = .ok (.goto 4, 3) := by decide +kernel
theorem dX3_takesOperator_56 : decode cX3_takesOperator 56 = .ok (.iconst 0, 1) := by decide +kernel
theorem dX3_takesOperator_57 : decode cX3_takesOperator 57 = .ok (.ireturn, 1) := by decide +kernel
theorem dX3_isFormula_0 : decode cX3_isFormula 0 = .ok (.aload_n 0, 1) := by decide +kernel
theorem dX3_isFormula_1 : decode cX3_isFormula 1 = .ok (.iload_n 1, 1) := by decide +kernel
theorem dX3_isFormula_2 : decode cX3_isFormula 2 = .ok (.iload_n 2, 1) := by decide +kernel
theorem dX3_isFormula_3 : decode cX3_isFormula 3 = .ok (.invokevirtual 48, 3) := by decide +kernel
theorem dX3_isFormula_6 : decode cX3_isFormula 6 = .ok (.aload_n 0, 1) := by decide +kernel
theorem dX3_isFormula_7 : decode cX3_isFormula 7 = .ok (.getfield 22, 3) := by decide +kernel
theorem dX3_isFormula_10 : decode cX3_isFormula 10 = .ok (.if_icmp .ne 21, 3) := by decide +kernel
theorem dX3_isFormula_13 : decode cX3_isFormula 13 = .ok (.aload_n 0, 1) := by decide +kernel
theorem dX3_isFormula_14 : decode cX3_isFormula 14 = .ok (.getfield 26, 3) := by decide +kernel
theorem dX3_isFormula_17 : decode cX3_isFormula 17 = .ok (.ifCond .ne 14, 3) := by decide +kernel
theorem dX3_isFormula_20 : decode cX3_isFormula 20 = .ok (.aload_n 0, 1) := by decide +kernel
theorem dX3_isFormula_21 : decode cX3_isFormula 21 = .ok (.getfield 30, 3) := by decide +kernel
theorem dX3_isFormula_24 : decode cX3_isFormula 24 = .ok (.ifCond .ne 7, 3) := by decide +kernel
theorem dX3_isFormula_27 : decode cX3_isFormula 27 = .ok (.iconst 1, 1) := by decide +kernel
theorem dX3_isFormula_28 : decode cX3_isFormula 28 = .ok (.goto 4, 3) := by decide +kernel
theorem dX3_isFormula_31 : decode cX3_isFormula 31 = .ok (.iconst 0, 1) := by decide +kernel
theorem dX3_isFormula_32 : decode cX3_isFormula 32 = .ok (.ireturn, 1) := by decide +kernel
theorem dX3_hasInputName_0 : decode cX3_hasInputName 0 = .ok (.iconst 0, 1) := by decide +kernel
theorem dX3_hasInputName_1 : decode cX3_hasInputName 1 = .ok (.istore_n 1, 1) := by decide +kernel
theorem dX3_hasInputName_2 : decode cX3_hasInputName 2 = .ok (.iload_n 1, 1) := by decide +kernel
theorem dX3_hasInputName_3 : decode cX3_hasInputName 3 = .ok (.aload_n 0, 1) := by decide +kernel
theorem dX3_hasInputName_4 : decode cX3_hasInputName 4 = .ok (.getfield 22, 3) := by decide +kernel
theorem dX3_hasInputName_7 : decode cX3_hasInputName 7 = .ok (.if_icmp .ge 23, 3) := by decide +kernel
theorem dX3_hasInputName_10 : decode cX3_hasInputName 10 = .ok (.aload_n 0, 1) := by decide +kernel
theorem dX3_hasInputName_11 : decode cX3_hasInputName 11 = .ok (.iload_n 1, 1) := by decide +kernel
theorem dX3_hasInputName_12 : decode cX3_hasInputName 12 = .ok (.invokevirtual 33, 3) := by decide +kernel
theorem dX3_hasInputName_15 : decode cX3_hasInputName 15 = .ok (.iconst 2, 1) := by decide +kernel
theorem dX3_hasInputName_16 : decode cX3_hasInputName 16 = .ok (.invokestatic 52, 3) := by decide +kernel
theorem dX3_hasInputName_19 : decode cX3_hasInputName 19 = .ok (.ifCond .eq 5, 3) := by decide +kernel
theorem dX3_hasInputName_22 : decode cX3_hasInputName 22 = .ok (.iconst 1, 1) := by decide +kernel
theorem dX3_hasInputName_23 : decode cX3_hasInputName 23 = .ok (.ireturn, 1) := by decide +kernel
theorem dX3_hasInputName_24 : decode cX3_hasInputName 24 = .ok (.iinc 1 1, 3) := by decide +kernel
theorem dX3_hasInputName_27 : decode cX3_hasInputName 27 = .ok (.goto (-25), 3) := by decide +kernel
theorem dX3_hasInputName_30 : decode cX3_hasInputName 30 = .ok (.iconst 0, 1) := by decide +kernel
theorem dX3_hasInputName_31 : decode cX3_hasInputName 31 = .ok (.ireturn, 1) := by decide +kernel
theorem dX3_isOperand_0 : decode cX3_isOperand 0 = .ok (.iload_n 0, 1) := by decide +kernel
theorem dX3_isOperand_1 : decode cX3_isOperand 1 = .ok (.bipush 48, 2) := by decide +kernel
theorem dX3_isOperand_3 : decode cX3_isOperand 3 = .ok (.if_icmp .eq 31, 3) := by decide +kernel
theorem dX3_isOperand_6 : decode cX3_isOperand 6 = .ok (.iload_n 0, 1) := by decide +kernel
theorem dX3_isOperand_7 : decode cX3_isOperand 7 = .ok (.bipush 49, 2) := by decide +kernel
theorem dX3_isOperand_9 : decode cX3_isOperand 9 = .ok (.if_icmp .eq 25, 3) := by decide +kernel
theorem dX3_isOperand_12 : decode cX3_isOperand 12 = .ok (.iload_n 0, 1) := by decide +kernel
theorem dX3_isOperand_13 : decode cX3_isOperand 13 = .ok (.bipush 97, 2) := by decide +kernel
theorem dX3_isOperand_15 : decode cX3_isOperand 15 = .ok (.if_icmp .lt 11, 3) := by decide +kernel
theorem dX3_isOperand_18 : decode cX3_isOperand 18 = .ok (.iload_n 0, 1) := by decide +kernel
theorem dX3_isOperand_19 : decode cX3_isOperand 19 = .ok (.bipush 97, 2) := by decide +kernel
theorem dX3_isOperand_21 : decode cX3_isOperand 21 = .ok (.iload_n 1, 1) := by decide +kernel
theorem dX3_isOperand_22 : decode cX3_isOperand 22 = .ok (.iadd, 1) := by decide +kernel
theorem dX3_isOperand_23 : decode cX3_isOperand 23 = .ok (.if_icmp .lt 11, 3) := by decide +kernel
theorem dX3_isOperand_26 : decode cX3_isOperand 26 = .ok (.iload_n 0, 1) := by decide +kernel
theorem dX3_isOperand_27 : decode cX3_isOperand 27 = .ok (.iload_n 2, 1) := by decide +kernel
theorem dX3_isOperand_28 : decode cX3_isOperand 28 = .ok (.invokestatic 52, 3) := by decide +kernel
theorem dX3_isOperand_31 : decode cX3_isOperand 31 = .ok (.ifCond .eq 7, 3) := by decide +kernel
theorem dX3_isOperand_34 : decode cX3_isOperand 34 = .ok (.iconst 1, 1) := by decide +kernel
theorem dX3_isOperand_35 : decode cX3_isOperand 35 = .ok (.goto 4, 3) := by decide +kernel
theorem dX3_isOperand_38 : decode cX3_isOperand 38 = .ok (.iconst 0, 1) := by decide +kernel
theorem dX3_isOperand_39 : decode cX3_isOperand 39 = .ok (.ireturn, 1) := by decide +kernel
theorem dX3_isInputName_0 : decode cX3_isInputName 0 = .ok (.iload_n 0, 1) := by decide +kernel
theorem dX3_isInputName_1 : decode cX3_isInputName 1 = .ok (.bipush 120, 2) := by decide +kernel
theorem dX3_isInputName_3 : decode cX3_isInputName 3 = .ok (.if_icmp .lt 15, 3) := by decide +kernel
theorem dX3_isInputName_6 : decode cX3_isInputName 6 = .ok (.iload_n 0, 1) := by decide +kernel
theorem dX3_isInputName_7 : decode cX3_isInputName 7 = .ok (.bipush 120, 2) := by decide +kernel
theorem dX3_isInputName_9 : decode cX3_isInputName 9 = .ok (.iload_n 1, 1) := by decide +kernel
theorem dX3_isInputName_10 : decode cX3_isInputName 10 = .ok (.iadd, 1) := by decide +kernel
theorem dX3_isInputName_11 : decode cX3_isInputName 11 = .ok (.if_icmp .ge 7, 3) := by decide +kernel
theorem dX3_isInputName_14 : decode cX3_isInputName 14 = .ok (.iconst 1, 1) := by decide +kernel
theorem dX3_isInputName_15 : decode cX3_isInputName 15 = .ok (.goto 4, 3) := by decide +kernel
theorem dX3_isInputName_18 : decode cX3_isInputName 18 = .ok (.iconst 0, 1) := by decide +kernel
theorem dX3_isInputName_19 : decode cX3_isInputName 19 = .ok (.ireturn, 1) := by decide +kernel
theorem dX3_valueFor_0 : decode cX3_valueFor 0 = .ok (.aload_n 0, 1) := by decide +kernel
theorem dX3_valueFor_1 : decode cX3_valueFor 1 = .ok (.iconst 0, 1) := by decide +kernel
theorem dX3_valueFor_2 : decode cX3_valueFor 2 = .ok (.putfield 56, 3) := by decide +kernel
theorem dX3_valueFor_5 : decode cX3_valueFor 5 = .ok (.aload_n 0, 1) := by decide +kernel
theorem dX3_valueFor_6 : decode cX3_valueFor 6 = .ok (.iconst 0, 1) := by decide +kernel
theorem dX3_valueFor_7 : decode cX3_valueFor 7 = .ok (.putfield 59, 3) := by decide +kernel
theorem dX3_valueFor_10 : decode cX3_valueFor 10 = .ok (.iconst 0, 1) := by decide +kernel
theorem dX3_valueFor_11 : decode cX3_valueFor 11 = .ok (.istore_n 2, 1) := by decide +kernel
theorem dX3_valueFor_12 : decode cX3_valueFor 12 = .ok (.iload_n 2, 1) := by decide +kernel
theorem dX3_valueFor_13 : decode cX3_valueFor 13 = .ok (.aload_n 0, 1) := by decide +kernel
theorem dX3_valueFor_14 : decode cX3_valueFor 14 = .ok (.getfield 22, 3) := by decide +kernel
theorem dX3_valueFor_17 : decode cX3_valueFor 17 = .ok (.if_icmp .ge 98, 3) := by decide +kernel
theorem dX3_valueFor_20 : decode cX3_valueFor 20 = .ok (.aload_n 0, 1) := by decide +kernel
theorem dX3_valueFor_21 : decode cX3_valueFor 21 = .ok (.iload_n 2, 1) := by decide +kernel
theorem dX3_valueFor_22 : decode cX3_valueFor 22 = .ok (.invokevirtual 33, 3) := by decide +kernel
theorem dX3_valueFor_25 : decode cX3_valueFor 25 = .ok (.istore_n 3, 1) := by decide +kernel
theorem dX3_valueFor_26 : decode cX3_valueFor 26 = .ok (.iload_n 3, 1) := by decide +kernel
theorem dX3_valueFor_27 : decode cX3_valueFor 27 = .ok (.bipush 40, 2) := by decide +kernel
theorem dX3_valueFor_29 : decode cX3_valueFor 29 = .ok (.if_icmp .eq 9, 3) := by decide +kernel
theorem dX3_valueFor_32 : decode cX3_valueFor 32 = .ok (.iload_n 3, 1) := by decide +kernel
theorem dX3_valueFor_33 : decode cX3_valueFor 33 = .ok (.bipush 33, 2) := by decide +kernel
theorem dX3_valueFor_35 : decode cX3_valueFor 35 = .ok (.if_icmp .ne 11, 3) := by decide +kernel
theorem dX3_valueFor_38 : decode cX3_valueFor 38 = .ok (.aload_n 0, 1) := by decide +kernel
theorem dX3_valueFor_39 : decode cX3_valueFor 39 = .ok (.iload_n 3, 1) := by decide +kernel
theorem dX3_valueFor_40 : decode cX3_valueFor 40 = .ok (.invokevirtual 62, 3) := by decide +kernel
theorem dX3_valueFor_43 : decode cX3_valueFor 43 = .ok (.goto 66, 3) := by decide +kernel
theorem dX3_valueFor_46 : decode cX3_valueFor 46 = .ok (.iload_n 3, 1) := by decide +kernel
theorem dX3_valueFor_47 : decode cX3_valueFor 47 = .ok (.bipush 41, 2) := by decide +kernel
theorem dX3_valueFor_49 : decode cX3_valueFor 49 = .ok (.if_icmp .ne 24, 3) := by decide +kernel
theorem dX3_valueFor_52 : decode cX3_valueFor 52 = .ok (.aload_n 0, 1) := by decide +kernel
theorem dX3_valueFor_53 : decode cX3_valueFor 53 = .ok (.bipush 124, 2) := by decide +kernel
theorem dX3_valueFor_55 : decode cX3_valueFor 55 = .ok (.invokestatic 66, 3) := by decide +kernel
theorem dX3_valueFor_58 : decode cX3_valueFor 58 = .ok (.invokevirtual 69, 3) := by decide +kernel
theorem dX3_valueFor_61 : decode cX3_valueFor 61 = .ok (.aload_n 0, 1) := by decide +kernel
theorem dX3_valueFor_62 : decode cX3_valueFor 62 = .ok (.invokevirtual 72, 3) := by decide +kernel
theorem dX3_valueFor_65 : decode cX3_valueFor 65 = .ok (.pop, 1) := by decide +kernel
theorem dX3_valueFor_66 : decode cX3_valueFor 66 = .ok (.aload_n 0, 1) := by decide +kernel
theorem dX3_valueFor_67 : decode cX3_valueFor 67 = .ok (.invokevirtual 76, 3) := by decide +kernel
theorem dX3_valueFor_70 : decode cX3_valueFor 70 = .ok (.goto 39, 3) := by decide +kernel
theorem dX3_valueFor_73 : decode cX3_valueFor 73 = .ok (.iload_n 3, 1) := by decide +kernel
theorem dX3_valueFor_74 : decode cX3_valueFor 74 = .ok (.invokestatic 66, 3) := by decide +kernel
theorem dX3_valueFor_77 : decode cX3_valueFor 77 = .ok (.ifCond .le 19, 3) := by decide +kernel
theorem dX3_valueFor_80 : decode cX3_valueFor 80 = .ok (.aload_n 0, 1) := by decide +kernel
theorem dX3_valueFor_81 : decode cX3_valueFor 81 = .ok (.iload_n 3, 1) := by decide +kernel
theorem dX3_valueFor_82 : decode cX3_valueFor 82 = .ok (.invokestatic 66, 3) := by decide +kernel
theorem dX3_valueFor_85 : decode cX3_valueFor 85 = .ok (.invokevirtual 69, 3) := by decide +kernel
theorem dX3_valueFor_88 : decode cX3_valueFor 88 = .ok (.aload_n 0, 1) := by decide +kernel
theorem dX3_valueFor_89 : decode cX3_valueFor 89 = .ok (.iload_n 3, 1) := by decide +kernel
theorem dX3_valueFor_90 : decode cX3_valueFor 90 = .ok (.invokevirtual 62, 3) := by decide +kernel
theorem dX3_valueFor_93 : decode cX3_valueFor 93 = .ok (.goto 16, 3) := by decide +kernel
theorem dX3_valueFor_96 : decode cX3_valueFor 96 = .ok (.aload_n 0, 1) := by decide +kernel
theorem dX3_valueFor_97 : decode cX3_valueFor 97 = .ok (.iload_n 3, 1) := by decide +kernel
theorem dX3_valueFor_98 : decode cX3_valueFor 98 = .ok (.iload_n 1, 1) := by decide +kernel
theorem dX3_valueFor_99 : decode cX3_valueFor 99 = .ok (.invokestatic 79, 3) := by decide +kernel
theorem dX3_valueFor_102 : decode cX3_valueFor 102 = .ok (.invokevirtual 83, 3) := by decide +kernel
theorem dX3_valueFor_105 : decode cX3_valueFor 105 = .ok (.aload_n 0, 1) := by decide +kernel
theorem dX3_valueFor_106 : decode cX3_valueFor 106 = .ok (.invokevirtual 76, 3) := by decide +kernel
theorem dX3_valueFor_109 : decode cX3_valueFor 109 = .ok (.iinc 2 1, 3) := by decide +kernel
theorem dX3_valueFor_112 : decode cX3_valueFor 112 = .ok (.goto (-100), 3) := by decide +kernel
theorem dX3_valueFor_115 : decode cX3_valueFor 115 = .ok (.aload_n 0, 1) := by decide +kernel
theorem dX3_valueFor_116 : decode cX3_valueFor 116 = .ok (.bipush 124, 2) := by decide +kernel
theorem dX3_valueFor_118 : decode cX3_valueFor 118 = .ok (.invokestatic 66, 3) := by decide +kernel
theorem dX3_valueFor_121 : decode cX3_valueFor 121 = .ok (.invokevirtual 69, 3) := by decide +kernel
theorem dX3_valueFor_124 : decode cX3_valueFor 124 = .ok (.aload_n 0, 1) := by decide +kernel
theorem dX3_valueFor_125 : decode cX3_valueFor 125 = .ok (.invokevirtual 87, 3) := by decide +kernel
theorem dX3_valueFor_128 : decode cX3_valueFor 128 = .ok (.lreturn, 1) := by decide +kernel
theorem dX3_strengthOf_0 : decode cX3_strengthOf 0 = .ok (.iload_n 0, 1) := by decide +kernel
theorem dX3_strengthOf_1 : decode cX3_strengthOf 1 = .ok (.lookupswitch 41 #[(38, 39), (94, 37), (124, 35)], 35) := by decide +kernel
theorem dX3_strengthOf_36 : decode cX3_strengthOf 36 = .ok (.iconst 1, 1) := by decide +kernel
theorem dX3_strengthOf_37 : decode cX3_strengthOf 37 = .ok (.ireturn, 1) := by decide +kernel
theorem dX3_strengthOf_38 : decode cX3_strengthOf 38 = .ok (.iconst 2, 1) := by decide +kernel
theorem dX3_strengthOf_39 : decode cX3_strengthOf 39 = .ok (.ireturn, 1) := by decide +kernel
theorem dX3_strengthOf_40 : decode cX3_strengthOf 40 = .ok (.iconst 3, 1) := by decide +kernel
theorem dX3_strengthOf_41 : decode cX3_strengthOf 41 = .ok (.ireturn, 1) := by decide +kernel
theorem dX3_strengthOf_42 : decode cX3_strengthOf 42 = .ok (.iconst 0, 1) := by decide +kernel
theorem dX3_strengthOf_43 : decode cX3_strengthOf 43 = .ok (.ireturn, 1) := by decide +kernel
theorem dX3_operandValue_0 : decode cX3_operandValue 0 = .ok (.iload_n 0, 1) := by decide +kernel
theorem dX3_operandValue_1 : decode cX3_operandValue 1 = .ok (.bipush 97, 2) := by decide +kernel
theorem dX3_operandValue_3 : decode cX3_operandValue 3 = .ok (.if_icmp .lt 23, 3) := by decide +kernel
theorem dX3_operandValue_6 : decode cX3_operandValue 6 = .ok (.iload_n 0, 1) := by decide +kernel
theorem dX3_operandValue_7 : decode cX3_operandValue 7 = .ok (.bipush 97, 2) := by decide +kernel
theorem dX3_operandValue_9 : decode cX3_operandValue 9 = .ok (.getstatic 91, 3) := by decide +kernel
theorem dX3_operandValue_12 : decode cX3_operandValue 12 = .ok (.arraylength, 1) := by decide +kernel
theorem dX3_operandValue_13 : decode cX3_operandValue 13 = .ok (.iadd, 1) := by decide +kernel
theorem dX3_operandValue_14 : decode cX3_operandValue 14 = .ok (.if_icmp .ge 12, 3) := by decide +kernel
theorem dX3_operandValue_17 : decode cX3_operandValue 17 = .ok (.getstatic 91, 3) := by decide +kernel
theorem dX3_operandValue_20 : decode cX3_operandValue 20 = .ok (.iload_n 0, 1) := by decide +kernel
theorem dX3_operandValue_21 : decode cX3_operandValue 21 = .ok (.bipush 97, 2) := by decide +kernel
theorem dX3_operandValue_23 : decode cX3_operandValue 23 = .ok (.isub, 1) := by decide +kernel
theorem dX3_operandValue_24 : decode cX3_operandValue 24 = .ok (.laload, 1) := by decide +kernel
theorem dX3_operandValue_25 : decode cX3_operandValue 25 = .ok (.lreturn, 1) := by decide +kernel
theorem dX3_operandValue_26 : decode cX3_operandValue 26 = .ok (.iload_n 0, 1) := by decide +kernel
theorem dX3_operandValue_27 : decode cX3_operandValue 27 = .ok (.iconst 2, 1) := by decide +kernel
theorem dX3_operandValue_28 : decode cX3_operandValue 28 = .ok (.invokestatic 52, 3) := by decide +kernel
theorem dX3_operandValue_31 : decode cX3_operandValue 31 = .ok (.ifCond .eq 22, 3) := by decide +kernel
theorem dX3_operandValue_34 : decode cX3_operandValue 34 = .ok (.iload_n 1, 1) := by decide +kernel
theorem dX3_operandValue_35 : decode cX3_operandValue 35 = .ok (.iload_n 0, 1) := by decide +kernel
theorem dX3_operandValue_36 : decode cX3_operandValue 36 = .ok (.bipush 120, 2) := by decide +kernel
theorem dX3_operandValue_38 : decode cX3_operandValue 38 = .ok (.isub, 1) := by decide +kernel
theorem dX3_operandValue_39 : decode cX3_operandValue 39 = .ok (.ishr, 1) := by decide +kernel
theorem dX3_operandValue_40 : decode cX3_operandValue 40 = .ok (.iconst 1, 1) := by decide +kernel
theorem dX3_operandValue_41 : decode cX3_operandValue 41 = .ok (.iand, 1) := by decide +kernel
theorem dX3_operandValue_42 : decode cX3_operandValue 42 = .ok (.ifCond .eq 9, 3) := by decide +kernel
theorem dX3_operandValue_45 : decode cX3_operandValue 45 = .ok (.ldc2_w 94, 3) := by decide +kernel
theorem dX3_operandValue_48 : decode cX3_operandValue 48 = .ok (.goto 4, 3) := by decide +kernel
theorem dX3_operandValue_51 : decode cX3_operandValue 51 = .ok (.lconst 0, 1) := by decide +kernel
theorem dX3_operandValue_52 : decode cX3_operandValue 52 = .ok (.lreturn, 1) := by decide +kernel
theorem dX3_operandValue_53 : decode cX3_operandValue 53 = .ok (.iload_n 0, 1) := by decide +kernel
theorem dX3_operandValue_54 : decode cX3_operandValue 54 = .ok (.bipush 49, 2) := by decide +kernel
theorem dX3_operandValue_56 : decode cX3_operandValue 56 = .ok (.if_icmp .ne 9, 3) := by decide +kernel
theorem dX3_operandValue_59 : decode cX3_operandValue 59 = .ok (.ldc2_w 94, 3) := by decide +kernel
theorem dX3_operandValue_62 : decode cX3_operandValue 62 = .ok (.goto 4, 3) := by decide +kernel
theorem dX3_operandValue_65 : decode cX3_operandValue 65 = .ok (.lconst 0, 1) := by decide +kernel
theorem dX3_operandValue_66 : decode cX3_operandValue 66 = .ok (.lreturn, 1) := by decide +kernel
theorem dX3_applySigns_0 : decode cX3_applySigns 0 = .ok (.iconst 0, 1) := by decide +kernel
theorem dX3_applySigns_1 : decode cX3_applySigns 1 = .ok (.istore_n 2, 1) := by decide +kernel
theorem dX3_applySigns_2 : decode cX3_applySigns 2 = .ok (.iload_n 2, 1) := by decide +kernel
theorem dX3_applySigns_3 : decode cX3_applySigns 3 = .ok (.bipush 60, 2) := by decide +kernel
theorem dX3_applySigns_5 : decode cX3_applySigns 5 = .ok (.if_icmp .ge 82, 3) := by decide +kernel
theorem dX3_applySigns_8 : decode cX3_applySigns 8 = .ok (.aload_n 0, 1) := by decide +kernel
theorem dX3_applySigns_9 : decode cX3_applySigns 9 = .ok (.invokevirtual 96, 3) := by decide +kernel
theorem dX3_applySigns_12 : decode cX3_applySigns 12 = .ok (.invokestatic 66, 3) := by decide +kernel
theorem dX3_applySigns_15 : decode cX3_applySigns 15 = .ok (.iload_n 1, 1) := by decide +kernel
theorem dX3_applySigns_16 : decode cX3_applySigns 16 = .ok (.if_icmp .lt 71, 3) := by decide +kernel
theorem dX3_applySigns_19 : decode cX3_applySigns 19 = .ok (.aload_n 0, 1) := by decide +kernel
theorem dX3_applySigns_20 : decode cX3_applySigns 20 = .ok (.invokevirtual 72, 3) := by decide +kernel
theorem dX3_applySigns_23 : decode cX3_applySigns 23 = .ok (.istore_n 3, 1) := by decide +kernel
theorem dX3_applySigns_24 : decode cX3_applySigns 24 = .ok (.aload_n 0, 1) := by decide +kernel
theorem dX3_applySigns_25 : decode cX3_applySigns 25 = .ok (.invokevirtual 87, 3) := by decide +kernel
theorem dX3_applySigns_28 : decode cX3_applySigns 28 = .ok (.lstore 4, 2) := by decide +kernel
theorem dX3_applySigns_30 : decode cX3_applySigns 30 = .ok (.aload_n 0, 1) := by decide +kernel
theorem dX3_applySigns_31 : decode cX3_applySigns 31 = .ok (.invokevirtual 87, 3) := by decide +kernel
theorem dX3_applySigns_34 : decode cX3_applySigns 34 = .ok (.lstore 6, 2) := by decide +kernel
theorem dX3_applySigns_36 : decode cX3_applySigns 36 = .ok (.iload_n 3, 1) := by decide +kernel
theorem dX3_applySigns_37 : decode cX3_applySigns 37 = .ok (.bipush 38, 2) := by decide +kernel
theorem dX3_applySigns_39 : decode cX3_applySigns 39 = .ok (.if_icmp .ne 15, 3) := by decide +kernel
theorem dX3_applySigns_42 : decode cX3_applySigns 42 = .ok (.aload_n 0, 1) := by decide +kernel
theorem dX3_applySigns_43 : decode cX3_applySigns 43 = .ok (.lload 6, 2) := by decide +kernel
theorem dX3_applySigns_45 : decode cX3_applySigns 45 = .ok (.lload 4, 2) := by decide +kernel
theorem dX3_applySigns_47 : decode cX3_applySigns 47 = .ok (.land, 1) := by decide +kernel
theorem dX3_applySigns_48 : decode cX3_applySigns 48 = .ok (.invokevirtual 83, 3) := by decide +kernel
theorem dX3_applySigns_51 : decode cX3_applySigns 51 = .ok (.goto 30, 3) := by decide +kernel
theorem dX3_applySigns_54 : decode cX3_applySigns 54 = .ok (.iload_n 3, 1) := by decide +kernel
theorem dX3_applySigns_55 : decode cX3_applySigns 55 = .ok (.bipush 94, 2) := by decide +kernel
theorem dX3_applySigns_57 : decode cX3_applySigns 57 = .ok (.if_icmp .ne 15, 3) := by decide +kernel
theorem dX3_applySigns_60 : decode cX3_applySigns 60 = .ok (.aload_n 0, 1) := by decide +kernel
theorem dX3_applySigns_61 : decode cX3_applySigns 61 = .ok (.lload 6, 2) := by decide +kernel
theorem dX3_applySigns_63 : decode cX3_applySigns 63 = .ok (.lload 4, 2) := by decide +kernel
theorem dX3_applySigns_65 : decode cX3_applySigns 65 = .ok (.lxor, 1) := by decide +kernel
theorem dX3_applySigns_66 : decode cX3_applySigns 66 = .ok (.invokevirtual 83, 3) := by decide +kernel
theorem dX3_applySigns_69 : decode cX3_applySigns 69 = .ok (.goto 12, 3) := by decide +kernel
theorem dX3_applySigns_72 : decode cX3_applySigns 72 = .ok (.aload_n 0, 1) := by decide +kernel
theorem dX3_applySigns_73 : decode cX3_applySigns 73 = .ok (.lload 6, 2) := by decide +kernel
theorem dX3_applySigns_75 : decode cX3_applySigns 75 = .ok (.lload 4, 2) := by decide +kernel
theorem dX3_applySigns_77 : decode cX3_applySigns 77 = .ok (.lor, 1) := by decide +kernel
theorem dX3_applySigns_78 : decode cX3_applySigns 78 = .ok (.invokevirtual 83, 3) := by decide +kernel
theorem dX3_applySigns_81 : decode cX3_applySigns 81 = .ok (.iinc 2 1, 3) := by decide +kernel
theorem dX3_applySigns_84 : decode cX3_applySigns 84 = .ok (.goto (-82), 3) := by decide +kernel
theorem dX3_applySigns_87 : decode cX3_applySigns 87 = .ok (.return_, 1) := by decide +kernel
theorem dX3_applyNots_0 : decode cX3_applyNots 0 = .ok (.iconst 0, 1) := by decide +kernel
theorem dX3_applyNots_1 : decode cX3_applyNots 1 = .ok (.istore_n 1, 1) := by decide +kernel
theorem dX3_applyNots_2 : decode cX3_applyNots 2 = .ok (.iload_n 1, 1) := by decide +kernel
theorem dX3_applyNots_3 : decode cX3_applyNots 3 = .ok (.bipush 60, 2) := by decide +kernel
theorem dX3_applyNots_5 : decode cX3_applyNots 5 = .ok (.if_icmp .ge 35, 3) := by decide +kernel
theorem dX3_applyNots_8 : decode cX3_applyNots 8 = .ok (.aload_n 0, 1) := by decide +kernel
theorem dX3_applyNots_9 : decode cX3_applyNots 9 = .ok (.invokevirtual 96, 3) := by decide +kernel
theorem dX3_applyNots_12 : decode cX3_applyNots 12 = .ok (.bipush 33, 2) := by decide +kernel
theorem dX3_applyNots_14 : decode cX3_applyNots 14 = .ok (.if_icmp .ne 26, 3) := by decide +kernel
theorem dX3_applyNots_17 : decode cX3_applyNots 17 = .ok (.aload_n 0, 1) := by decide +kernel
theorem dX3_applyNots_18 : decode cX3_applyNots 18 = .ok (.invokevirtual 72, 3) := by decide +kernel
theorem dX3_applyNots_21 : decode cX3_applyNots 21 = .ok (.pop, 1) := by decide +kernel
theorem dX3_applyNots_22 : decode cX3_applyNots 22 = .ok (.aload_n 0, 1) := by decide +kernel
theorem dX3_applyNots_23 : decode cX3_applyNots 23 = .ok (.aload_n 0, 1) := by decide +kernel
theorem dX3_applyNots_24 : decode cX3_applyNots 24 = .ok (.invokevirtual 87, 3) := by decide +kernel
theorem dX3_applyNots_27 : decode cX3_applyNots 27 = .ok (.ldc2_w 94, 3) := by decide +kernel
theorem dX3_applyNots_30 : decode cX3_applyNots 30 = .ok (.lxor, 1) := by decide +kernel
theorem dX3_applyNots_31 : decode cX3_applyNots 31 = .ok (.invokevirtual 83, 3) := by decide +kernel
theorem dX3_applyNots_34 : decode cX3_applyNots 34 = .ok (.iinc 1 1, 3) := by decide +kernel
theorem dX3_applyNots_37 : decode cX3_applyNots 37 = .ok (.goto (-35), 3) := by decide +kernel
theorem dX3_applyNots_40 : decode cX3_applyNots 40 = .ok (.return_, 1) := by decide +kernel
theorem dX3_topSign_0 : decode cX3_topSign 0 = .ok (.aload_n 0, 1) := by decide +kernel
theorem dX3_topSign_1 : decode cX3_topSign 1 = .ok (.getfield 56, 3) := by decide +kernel
theorem dX3_topSign_4 : decode cX3_topSign 4 = .ok (.ifCond .le 26, 3) := by decide +kernel
theorem dX3_topSign_7 : decode cX3_topSign 7 = .ok (.aload_n 0, 1) := by decide +kernel
theorem dX3_topSign_8 : decode cX3_topSign 8 = .ok (.getfield 56, 3) := by decide +kernel
theorem dX3_topSign_11 : decode cX3_topSign 11 = .ok (.bipush 60, 2) := by decide +kernel
theorem dX3_topSign_13 : decode cX3_topSign 13 = .ok (.if_icmp .gt 17, 3) := by decide +kernel
theorem dX3_topSign_16 : decode cX3_topSign 16 = .ok (.aload_n 0, 1) := by decide +kernel
theorem dX3_topSign_17 : decode cX3_topSign 17 = .ok (.getfield 15, 3) := by decide +kernel
theorem dX3_topSign_20 : decode cX3_topSign 20 = .ok (.aload_n 0, 1) := by decide +kernel
theorem dX3_topSign_21 : decode cX3_topSign 21 = .ok (.getfield 56, 3) := by decide +kernel
theorem dX3_topSign_24 : decode cX3_topSign 24 = .ok (.iconst 1, 1) := by decide +kernel
theorem dX3_topSign_25 : decode cX3_topSign 25 = .ok (.isub, 1) := by decide +kernel
theorem dX3_topSign_26 : decode cX3_topSign 26 = .ok (.iaload, 1) := by decide +kernel
theorem dX3_topSign_27 : decode cX3_topSign 27 = .ok (.goto 4, 3) := by decide +kernel
theorem dX3_topSign_30 : decode cX3_topSign 30 = .ok (.iconst 0, 1) := by decide +kernel
theorem dX3_topSign_31 : decode cX3_topSign 31 = .ok (.ireturn, 1) := by decide +kernel
theorem dX3_popSign_0 : decode cX3_popSign 0 = .ok (.aload_n 0, 1) := by decide +kernel
theorem dX3_popSign_1 : decode cX3_popSign 1 = .ok (.invokevirtual 96, 3) := by decide +kernel
theorem dX3_popSign_4 : decode cX3_popSign 4 = .ok (.istore_n 1, 1) := by decide +kernel
theorem dX3_popSign_5 : decode cX3_popSign 5 = .ok (.aload_n 0, 1) := by decide +kernel
theorem dX3_popSign_6 : decode cX3_popSign 6 = .ok (.getfield 56, 3) := by decide +kernel
theorem dX3_popSign_9 : decode cX3_popSign 9 = .ok (.ifCond .le 13, 3) := by decide +kernel
theorem dX3_popSign_12 : decode cX3_popSign 12 = .ok (.aload_n 0, 1) := by decide +kernel
theorem dX3_popSign_13 : decode cX3_popSign 13 = .ok (.dup, 1) := by decide +kernel
theorem dX3_popSign_14 : decode cX3_popSign 14 = .ok (.getfield 56, 3) := by decide +kernel
theorem dX3_popSign_17 : decode cX3_popSign 17 = .ok (.iconst 1, 1) := by decide +kernel
theorem dX3_popSign_18 : decode cX3_popSign 18 = .ok (.isub, 1) := by decide +kernel
theorem dX3_popSign_19 : decode cX3_popSign 19 = .ok (.putfield 56, 3) := by decide +kernel
theorem dX3_popSign_22 : decode cX3_popSign 22 = .ok (.iload_n 1, 1) := by decide +kernel
theorem dX3_popSign_23 : decode cX3_popSign 23 = .ok (.ireturn, 1) := by decide +kernel
theorem dX3_pushSign_0 : decode cX3_pushSign 0 = .ok (.aload_n 0, 1) := by decide +kernel
theorem dX3_pushSign_1 : decode cX3_pushSign 1 = .ok (.getfield 56, 3) := by decide +kernel
theorem dX3_pushSign_4 : decode cX3_pushSign 4 = .ok (.ifCond .lt 32, 3) := by decide +kernel
theorem dX3_pushSign_7 : decode cX3_pushSign 7 = .ok (.aload_n 0, 1) := by decide +kernel
theorem dX3_pushSign_8 : decode cX3_pushSign 8 = .ok (.getfield 56, 3) := by decide +kernel
theorem dX3_pushSign_11 : decode cX3_pushSign 11 = .ok (.bipush 60, 2) := by decide +kernel
theorem dX3_pushSign_13 : decode cX3_pushSign 13 = .ok (.if_icmp .ge 23, 3) := by decide +kernel
theorem dX3_pushSign_16 : decode cX3_pushSign 16 = .ok (.aload_n 0, 1) := by decide +kernel
theorem dX3_pushSign_17 : decode cX3_pushSign 17 = .ok (.getfield 15, 3) := by decide +kernel
theorem dX3_pushSign_20 : decode cX3_pushSign 20 = .ok (.aload_n 0, 1) := by decide +kernel
theorem dX3_pushSign_21 : decode cX3_pushSign 21 = .ok (.getfield 56, 3) := by decide +kernel
theorem dX3_pushSign_24 : decode cX3_pushSign 24 = .ok (.iload_n 1, 1) := by decide +kernel
theorem dX3_pushSign_25 : decode cX3_pushSign 25 = .ok (.iastore, 1) := by decide +kernel
theorem dX3_pushSign_26 : decode cX3_pushSign 26 = .ok (.aload_n 0, 1) := by decide +kernel
theorem dX3_pushSign_27 : decode cX3_pushSign 27 = .ok (.dup, 1) := by decide +kernel
theorem dX3_pushSign_28 : decode cX3_pushSign 28 = .ok (.getfield 56, 3) := by decide +kernel
theorem dX3_pushSign_31 : decode cX3_pushSign 31 = .ok (.iconst 1, 1) := by decide +kernel
theorem dX3_pushSign_32 : decode cX3_pushSign 32 = .ok (.iadd, 1) := by decide +kernel
theorem dX3_pushSign_33 : decode cX3_pushSign 33 = .ok (.putfield 56, 3) := by decide +kernel
theorem dX3_pushSign_36 : decode cX3_pushSign 36 = .ok (.return_, 1) := by decide +kernel
theorem dX3_popValue_0 : decode cX3_popValue 0 = .ok (.aload_n 0, 1) := by decide +kernel
theorem dX3_popValue_1 : decode cX3_popValue 1 = .ok (.getfield 59, 3) := by decide +kernel
theorem dX3_popValue_4 : decode cX3_popValue 4 = .ok (.ifCond .le 12, 3) := by decide +kernel
theorem dX3_popValue_7 : decode cX3_popValue 7 = .ok (.aload_n 0, 1) := by decide +kernel
theorem dX3_popValue_8 : decode cX3_popValue 8 = .ok (.getfield 59, 3) := by decide +kernel
theorem dX3_popValue_11 : decode cX3_popValue 11 = .ok (.bipush 60, 2) := by decide +kernel
theorem dX3_popValue_13 : decode cX3_popValue 13 = .ok (.if_icmp .le 5, 3) := by decide +kernel
theorem dX3_popValue_16 : decode cX3_popValue 16 = .ok (.lconst 0, 1) := by decide +kernel
theorem dX3_popValue_17 : decode cX3_popValue 17 = .ok (.lreturn, 1) := by decide +kernel
theorem dX3_popValue_18 : decode cX3_popValue 18 = .ok (.aload_n 0, 1) := by decide +kernel
theorem dX3_popValue_19 : decode cX3_popValue 19 = .ok (.dup, 1) := by decide +kernel
theorem dX3_popValue_20 : decode cX3_popValue 20 = .ok (.getfield 59, 3) := by decide +kernel
theorem dX3_popValue_23 : decode cX3_popValue 23 = .ok (.iconst 1, 1) := by decide +kernel
theorem dX3_popValue_24 : decode cX3_popValue 24 = .ok (.isub, 1) := by decide +kernel
theorem dX3_popValue_25 : decode cX3_popValue 25 = .ok (.putfield 59, 3) := by decide +kernel
theorem dX3_popValue_28 : decode cX3_popValue 28 = .ok (.aload_n 0, 1) := by decide +kernel
theorem dX3_popValue_29 : decode cX3_popValue 29 = .ok (.getfield 18, 3) := by decide +kernel
theorem dX3_popValue_32 : decode cX3_popValue 32 = .ok (.aload_n 0, 1) := by decide +kernel
theorem dX3_popValue_33 : decode cX3_popValue 33 = .ok (.getfield 59, 3) := by decide +kernel
theorem dX3_popValue_36 : decode cX3_popValue 36 = .ok (.laload, 1) := by decide +kernel
theorem dX3_popValue_37 : decode cX3_popValue 37 = .ok (.lreturn, 1) := by decide +kernel
theorem dX3_pushValue_0 : decode cX3_pushValue 0 = .ok (.aload_n 0, 1) := by decide +kernel
theorem dX3_pushValue_1 : decode cX3_pushValue 1 = .ok (.getfield 59, 3) := by decide +kernel
theorem dX3_pushValue_4 : decode cX3_pushValue 4 = .ok (.ifCond .lt 32, 3) := by decide +kernel
theorem dX3_pushValue_7 : decode cX3_pushValue 7 = .ok (.aload_n 0, 1) := by decide +kernel
theorem dX3_pushValue_8 : decode cX3_pushValue 8 = .ok (.getfield 59, 3) := by decide +kernel
theorem dX3_pushValue_11 : decode cX3_pushValue 11 = .ok (.bipush 60, 2) := by decide +kernel
theorem dX3_pushValue_13 : decode cX3_pushValue 13 = .ok (.if_icmp .ge 23, 3) := by decide +kernel
theorem dX3_pushValue_16 : decode cX3_pushValue 16 = .ok (.aload_n 0, 1) := by decide +kernel
theorem dX3_pushValue_17 : decode cX3_pushValue 17 = .ok (.getfield 18, 3) := by decide +kernel
theorem dX3_pushValue_20 : decode cX3_pushValue 20 = .ok (.aload_n 0, 1) := by decide +kernel
theorem dX3_pushValue_21 : decode cX3_pushValue 21 = .ok (.getfield 59, 3) := by decide +kernel
theorem dX3_pushValue_24 : decode cX3_pushValue 24 = .ok (.lload_n 1, 1) := by decide +kernel
theorem dX3_pushValue_25 : decode cX3_pushValue 25 = .ok (.lastore, 1) := by decide +kernel
theorem dX3_pushValue_26 : decode cX3_pushValue 26 = .ok (.aload_n 0, 1) := by decide +kernel
theorem dX3_pushValue_27 : decode cX3_pushValue 27 = .ok (.dup, 1) := by decide +kernel
theorem dX3_pushValue_28 : decode cX3_pushValue 28 = .ok (.getfield 59, 3) := by decide +kernel
theorem dX3_pushValue_31 : decode cX3_pushValue 31 = .ok (.iconst 1, 1) := by decide +kernel
theorem dX3_pushValue_32 : decode cX3_pushValue 32 = .ok (.iadd, 1) := by decide +kernel
theorem dX3_pushValue_33 : decode cX3_pushValue 33 = .ok (.putfield 59, 3) := by decide +kernel
theorem dX3_pushValue_36 : decode cX3_pushValue 36 = .ok (.return_, 1) := by decide +kernel
theorem dX4_init_0 : decode cX4_init 0 = .ok (.aload_n 0, 1) := by decide +kernel
theorem dX4_init_1 : decode cX4_init 1 = .ok (.invokespecial 3, 3) := by decide +kernel
theorem dX4_init_4 : decode cX4_init 4 = .ok (.aload_n 0, 1) := by decide +kernel
theorem dX4_init_5 : decode cX4_init 5 = .ok (.aload_n 1, 1) := by decide +kernel
theorem dX4_init_6 : decode cX4_init 6 = .ok (.putfield 9, 3) := by decide +kernel
theorem dX4_init_9 : decode cX4_init 9 = .ok (.aload_n 0, 1) := by decide +kernel
theorem dX4_init_10 : decode cX4_init 10 = .ok (.new 15, 3) := by decide +kernel
theorem dX4_init_13 : decode cX4_init 13 = .ok (.dup, 1) := by decide +kernel
theorem dX4_init_14 : decode cX4_init 14 = .ok (.invokespecial 17, 3) := by decide +kernel
theorem dX4_init_17 : decode cX4_init 17 = .ok (.putfield 18, 3) := by decide +kernel
theorem dX4_init_20 : decode cX4_init 20 = .ok (.aload_n 0, 1) := by decide +kernel
theorem dX4_init_21 : decode cX4_init 21 = .ok (.bipush 70, 2) := by decide +kernel
theorem dX4_init_23 : decode cX4_init 23 = .ok (.newarray .long, 2) := by decide +kernel
theorem dX4_init_25 : decode cX4_init 25 = .ok (.putfield 22, 3) := by decide +kernel
theorem dX4_init_28 : decode cX4_init 28 = .ok (.aload_n 0, 1) := by decide +kernel
theorem dX4_init_29 : decode cX4_init 29 = .ok (.bipush 70, 2) := by decide +kernel
theorem dX4_init_31 : decode cX4_init 31 = .ok (.newarray .long, 2) := by decide +kernel
theorem dX4_init_33 : decode cX4_init 33 = .ok (.putfield 26, 3) := by decide +kernel
theorem dX4_init_36 : decode cX4_init 36 = .ok (.aload_n 0, 1) := by decide +kernel
theorem dX4_init_37 : decode cX4_init 37 = .ok (.sipush 729, 3) := by decide +kernel
theorem dX4_init_40 : decode cX4_init 40 = .ok (.newarray .boolean, 2) := by decide +kernel
theorem dX4_init_42 : decode cX4_init 42 = .ok (.putfield 29, 3) := by decide +kernel
theorem dX4_init_45 : decode cX4_init 45 = .ok (.return_, 1) := by decide +kernel
theorem dX4_carryOut_0 : decode cX4_carryOut 0 = .ok (.aload_n 0, 1) := by decide +kernel
theorem dX4_carryOut_1 : decode cX4_carryOut 1 = .ok (.invokevirtual 33, 3) := by decide +kernel
theorem dX4_carryOut_4 : decode cX4_carryOut 4 = .ok (.aload_n 0, 1) := by decide +kernel
theorem dX4_carryOut_5 : decode cX4_carryOut 5 = .ok (.iconst 1, 1) := by decide +kernel
theorem dX4_carryOut_6 : decode cX4_carryOut 6 = .ok (.putfield 36, 3) := by decide +kernel
theorem dX4_carryOut_9 : decode cX4_carryOut 9 = .ok (.aload_n 0, 1) := by decide +kernel
theorem dX4_carryOut_10 : decode cX4_carryOut 10 = .ok (.getfield 9, 3) := by decide +kernel
theorem dX4_carryOut_13 : decode cX4_carryOut 13 = .ok (.invokevirtual 40, 3) := by decide +kernel
theorem dX4_carryOut_16 : decode cX4_carryOut 16 = .ok (.aload_n 0, 1) := by decide +kernel
theorem dX4_carryOut_17 : decode cX4_carryOut 17 = .ok (.getfield 9, 3) := by decide +kernel
theorem dX4_carryOut_20 : decode cX4_carryOut 20 = .ok (.invokevirtual 46, 3) := by decide +kernel
theorem dX4_carryOut_23 : decode cX4_carryOut 23 = .ok (.land, 1) := by decide +kernel
theorem dX4_carryOut_24 : decode cX4_carryOut 24 = .ok (.lconst 0, 1) := by decide +kernel
theorem dX4_carryOut_25 : decode cX4_carryOut 25 = .ok (.lcmp, 1) := by decide +kernel
theorem dX4_carryOut_26 : decode cX4_carryOut 26 = .ok (.ifCond .eq 9, 3) := by decide +kernel
theorem dX4_carryOut_29 : decode cX4_carryOut 29 = .ok (.aload_n 0, 1) := by decide +kernel
theorem dX4_carryOut_30 : decode cX4_carryOut 30 = .ok (.iconst 1, 1) := by decide +kernel
theorem dX4_carryOut_31 : decode cX4_carryOut 31 = .ok (.putfield 49, 3) := by decide +kernel
theorem dX4_carryOut_34 : decode cX4_carryOut 34 = .ok (.return_, 1) := by decide +kernel
theorem dX4_carryOut_35 : decode cX4_carryOut 35 = .ok (.aload_n 0, 1) := by decide +kernel
theorem dX4_carryOut_36 : decode cX4_carryOut 36 = .ok (.invokevirtual 53, 3) := by decide +kernel
theorem dX4_carryOut_39 : decode cX4_carryOut 39 = .ok (.iconst 0, 1) := by decide +kernel
theorem dX4_carryOut_40 : decode cX4_carryOut 40 = .ok (.istore_n 1, 1) := by decide +kernel
theorem dX4_carryOut_41 : decode cX4_carryOut 41 = .ok (.iload_n 1, 1) := by decide +kernel
theorem dX4_carryOut_42 : decode cX4_carryOut 42 = .ok (.bipush 70, 2) := by decide +kernel
theorem dX4_carryOut_44 : decode cX4_carryOut 44 = .ok (.if_icmp .ge 39, 3) := by decide +kernel
theorem dX4_carryOut_47 : decode cX4_carryOut 47 = .ok (.aload_n 0, 1) := by decide +kernel
theorem dX4_carryOut_48 : decode cX4_carryOut 48 = .ok (.invokevirtual 56, 3) := by decide +kernel
theorem dX4_carryOut_51 : decode cX4_carryOut 51 = .ok (.ifCond .eq 9, 3) := by decide +kernel
theorem dX4_carryOut_54 : decode cX4_carryOut 54 = .ok (.aload_n 0, 1) := by decide +kernel
theorem dX4_carryOut_55 : decode cX4_carryOut 55 = .ok (.iconst 1, 1) := by decide +kernel
theorem dX4_carryOut_56 : decode cX4_carryOut 56 = .ok (.putfield 49, 3) := by decide +kernel
theorem dX4_carryOut_59 : decode cX4_carryOut 59 = .ok (.return_, 1) := by decide +kernel
theorem dX4_carryOut_60 : decode cX4_carryOut 60 = .ok (.aload_n 0, 1) := by decide +kernel
theorem dX4_carryOut_61 : decode cX4_carryOut 61 = .ok (.invokevirtual 53, 3) := by decide +kernel
theorem dX4_carryOut_64 : decode cX4_carryOut 64 = .ok (.aload_n 0, 1) := by decide +kernel
theorem dX4_carryOut_65 : decode cX4_carryOut 65 = .ok (.invokevirtual 60, 3) := by decide +kernel
theorem dX4_carryOut_68 : decode cX4_carryOut 68 = .ok (.ifCond .eq 9, 3) := by decide +kernel
theorem dX4_carryOut_71 : decode cX4_carryOut 71 = .ok (.aload_n 0, 1) := by decide +kernel
theorem dX4_carryOut_72 : decode cX4_carryOut 72 = .ok (.iconst 0, 1) := by decide +kernel
theorem dX4_carryOut_73 : decode cX4_carryOut 73 = .ok (.putfield 49, 3) := by decide +kernel
theorem dX4_carryOut_76 : decode cX4_carryOut 76 = .ok (.return_, 1) := by decide +kernel
theorem dX4_carryOut_77 : decode cX4_carryOut 77 = .ok (.iinc 1 1, 3) := by decide +kernel
theorem dX4_carryOut_80 : decode cX4_carryOut 80 = .ok (.goto (-39), 3) := by decide +kernel
theorem dX4_carryOut_83 : decode cX4_carryOut 83 = .ok (.return_, 1) := by decide +kernel
theorem dX4_forgetLast_0 : decode cX4_forgetLast 0 = .ok (.aload_n 0, 1) := by decide +kernel
theorem dX4_forgetLast_1 : decode cX4_forgetLast 1 = .ok (.getfield 18, 3) := by decide +kernel
theorem dX4_forgetLast_4 : decode cX4_forgetLast 4 = .ok (.iconst 0, 1) := by decide +kernel
theorem dX4_forgetLast_5 : decode cX4_forgetLast 5 = .ok (.putfield 63, 3) := by decide +kernel
theorem dX4_forgetLast_8 : decode cX4_forgetLast 8 = .ok (.aload_n 0, 1) := by decide +kernel
theorem dX4_forgetLast_9 : decode cX4_forgetLast 9 = .ok (.getfield 22, 3) := by decide +kernel
theorem dX4_forgetLast_12 : decode cX4_forgetLast 12 = .ok (.lconst 0, 1) := by decide +kernel
theorem dX4_forgetLast_13 : decode cX4_forgetLast 13 = .ok (.invokestatic 66, 3) := by decide +kernel
theorem dX4_forgetLast_16 : decode cX4_forgetLast 16 = .ok (.aload_n 0, 1) := by decide +kernel
theorem dX4_forgetLast_17 : decode cX4_forgetLast 17 = .ok (.getfield 26, 3) := by decide +kernel
theorem dX4_forgetLast_20 : decode cX4_forgetLast 20 = .ok (.lconst 0, 1) := by decide +kernel
theorem dX4_forgetLast_21 : decode cX4_forgetLast 21 = .ok (.invokestatic 66, 3) := by decide +kernel
theorem dX4_forgetLast_24 : decode cX4_forgetLast 24 = .ok (.aload_n 0, 1) := by decide +kernel
theorem dX4_forgetLast_25 : decode cX4_forgetLast 25 = .ok (.getfield 22, 3) := by decide +kernel
theorem dX4_forgetLast_28 : decode cX4_forgetLast 28 = .ok (.iconst 0, 1) := by decide +kernel
theorem dX4_forgetLast_29 : decode cX4_forgetLast 29 = .ok (.aload_n 0, 1) := by decide +kernel
theorem dX4_forgetLast_30 : decode cX4_forgetLast 30 = .ok (.getfield 9, 3) := by decide +kernel
theorem dX4_forgetLast_33 : decode cX4_forgetLast 33 = .ok (.invokevirtual 40, 3) := by decide +kernel
theorem dX4_forgetLast_36 : decode cX4_forgetLast 36 = .ok (.lastore, 1) := by decide +kernel
theorem dX4_forgetLast_37 : decode cX4_forgetLast 37 = .ok (.aload_n 0, 1) := by decide +kernel
theorem dX4_forgetLast_38 : decode cX4_forgetLast 38 = .ok (.iconst 0, 1) := by decide +kernel
theorem dX4_forgetLast_39 : decode cX4_forgetLast 39 = .ok (.putfield 49, 3) := by decide +kernel
theorem dX4_forgetLast_42 : decode cX4_forgetLast 42 = .ok (.aload_n 0, 1) := by decide +kernel
theorem dX4_forgetLast_43 : decode cX4_forgetLast 43 = .ok (.iconst 0, 1) := by decide +kernel
theorem dX4_forgetLast_44 : decode cX4_forgetLast 44 = .ok (.putfield 72, 3) := by decide +kernel
theorem dX4_forgetLast_47 : decode cX4_forgetLast 47 = .ok (.aload_n 0, 1) := by decide +kernel
theorem dX4_forgetLast_48 : decode cX4_forgetLast 48 = .ok (.iconst 0, 1) := by decide +kernel
theorem dX4_forgetLast_49 : decode cX4_forgetLast 49 = .ok (.putfield 75, 3) := by decide +kernel
theorem dX4_forgetLast_52 : decode cX4_forgetLast 52 = .ok (.aload_n 0, 1) := by decide +kernel
theorem dX4_forgetLast_53 : decode cX4_forgetLast 53 = .ok (.iconst 0, 1) := by decide +kernel
theorem dX4_forgetLast_54 : decode cX4_forgetLast 54 = .ok (.putfield 78, 3) := by decide +kernel
theorem dX4_forgetLast_57 : decode cX4_forgetLast 57 = .ok (.aload_n 0, 1) := by decide +kernel
theorem dX4_forgetLast_58 : decode cX4_forgetLast 58 = .ok (.iconst 0, 1) := by decide +kernel
theorem dX4_forgetLast_59 : decode cX4_forgetLast 59 = .ok (.putfield 81, 3) := by decide +kernel
theorem dX4_forgetLast_62 : decode cX4_forgetLast 62 = .ok (.aload_n 0, 1) := by decide +kernel
theorem dX4_forgetLast_63 : decode cX4_forgetLast 63 = .ok (.iconst 0, 1) := by decide +kernel
theorem dX4_forgetLast_64 : decode cX4_forgetLast 64 = .ok (.putfield 84, 3) := by decide +kernel
theorem dX4_forgetLast_67 : decode cX4_forgetLast 67 = .ok (.aload_n 0, 1) := by decide +kernel
theorem dX4_forgetLast_68 : decode cX4_forgetLast 68 = .ok (.iconst 0, 1) := by decide +kernel
theorem dX4_forgetLast_69 : decode cX4_forgetLast 69 = .ok (.putfield 87, 3) := by decide +kernel
theorem dX4_forgetLast_72 : decode cX4_forgetLast 72 = .ok (.return_, 1) := by decide +kernel
theorem dX4_openFrame_0 : decode cX4_openFrame 0 = .ok (.aload_n 0, 1) := by decide +kernel
theorem dX4_openFrame_1 : decode cX4_openFrame 1 = .ok (.getfield 72, 3) := by decide +kernel
theorem dX4_openFrame_4 : decode cX4_openFrame 4 = .ok (.ifCond .lt 40, 3) := by decide +kernel
theorem dX4_openFrame_7 : decode cX4_openFrame 7 = .ok (.aload_n 0, 1) := by decide +kernel
theorem dX4_openFrame_8 : decode cX4_openFrame 8 = .ok (.getfield 72, 3) := by decide +kernel
theorem dX4_openFrame_11 : decode cX4_openFrame 11 = .ok (.iconst 1, 1) := by decide +kernel
theorem dX4_openFrame_12 : decode cX4_openFrame 12 = .ok (.iadd, 1) := by decide +kernel
theorem dX4_openFrame_13 : decode cX4_openFrame 13 = .ok (.bipush 70, 2) := by decide +kernel
theorem dX4_openFrame_15 : decode cX4_openFrame 15 = .ok (.if_icmp .ge 29, 3) := by decide +kernel
theorem dX4_openFrame_18 : decode cX4_openFrame 18 = .ok (.aload_n 0, 1) := by decide +kernel
theorem dX4_openFrame_19 : decode cX4_openFrame 19 = .ok (.dup, 1) := by decide +kernel
theorem dX4_openFrame_20 : decode cX4_openFrame 20 = .ok (.getfield 72, 3) := by decide +kernel
theorem dX4_openFrame_23 : decode cX4_openFrame 23 = .ok (.iconst 1, 1) := by decide +kernel
theorem dX4_openFrame_24 : decode cX4_openFrame 24 = .ok (.iadd, 1) := by decide +kernel
theorem dX4_openFrame_25 : decode cX4_openFrame 25 = .ok (.putfield 72, 3) := by decide +kernel
theorem dX4_openFrame_28 : decode cX4_openFrame 28 = .ok (.aload_n 0, 1) := by decide +kernel
theorem dX4_openFrame_29 : decode cX4_openFrame 29 = .ok (.getfield 22, 3) := by decide +kernel
theorem dX4_openFrame_32 : decode cX4_openFrame 32 = .ok (.aload_n 0, 1) := by decide +kernel
theorem dX4_openFrame_33 : decode cX4_openFrame 33 = .ok (.getfield 72, 3) := by decide +kernel
theorem dX4_openFrame_36 : decode cX4_openFrame 36 = .ok (.aload_n 0, 1) := by decide +kernel
theorem dX4_openFrame_37 : decode cX4_openFrame 37 = .ok (.getfield 9, 3) := by decide +kernel
theorem dX4_openFrame_40 : decode cX4_openFrame 40 = .ok (.getfield 90, 3) := by decide +kernel
theorem dX4_openFrame_43 : decode cX4_openFrame 43 = .ok (.lastore, 1) := by decide +kernel
theorem dX4_openFrame_44 : decode cX4_openFrame 44 = .ok (.return_, 1) := by decide +kernel
theorem dX4_reachesInitialState_0 : decode cX4_reachesInitialState 0 = .ok (.iconst 0, 1) := by decide +kernel
theorem dX4_reachesInitialState_1 : decode cX4_reachesInitialState 1 = .ok (.istore_n 1, 1) := by decide +kernel
theorem dX4_reachesInitialState_2 : decode cX4_reachesInitialState 2 = .ok (.iload_n 1, 1) := by decide +kernel
theorem dX4_reachesInitialState_3 : decode cX4_reachesInitialState 3 = .ok (.ldc 94, 2) := by decide +kernel
theorem dX4_reachesInitialState_5 : decode cX4_reachesInitialState 5 = .ok (.if_icmp .ge 76, 3) := by decide +kernel
theorem dX4_reachesInitialState_8 : decode cX4_reachesInitialState 8 = .ok (.aload_n 0, 1) := by decide +kernel
theorem dX4_reachesInitialState_9 : decode cX4_reachesInitialState 9 = .ok (.invokevirtual 95, 3) := by decide +kernel
theorem dX4_reachesInitialState_12 : decode cX4_reachesInitialState 12 = .ok (.istore_n 2, 1) := by decide +kernel
theorem dX4_reachesInitialState_13 : decode cX4_reachesInitialState 13 = .ok (.iload_n 2, 1) := by decide +kernel
theorem dX4_reachesInitialState_14 : decode cX4_reachesInitialState 14 = .ok (.iconst (-1), 1) := by decide +kernel
theorem dX4_reachesInitialState_15 : decode cX4_reachesInitialState 15 = .ok (.if_icmp .ne 42, 3) := by decide +kernel
theorem dX4_reachesInitialState_18 : decode cX4_reachesInitialState 18 = .ok (.aload_n 0, 1) := by decide +kernel
theorem dX4_reachesInitialState_19 : decode cX4_reachesInitialState 19 = .ok (.aload_n 0, 1) := by decide +kernel
theorem dX4_reachesInitialState_20 : decode cX4_reachesInitialState 20 = .ok (.getfield 72, 3) := by decide +kernel
theorem dX4_reachesInitialState_23 : decode cX4_reachesInitialState 23 = .ok (.invokevirtual 99, 3) := by decide +kernel
theorem dX4_reachesInitialState_26 : decode cX4_reachesInitialState 26 = .ok (.aload_n 0, 1) := by decide +kernel
theorem dX4_reachesInitialState_27 : decode cX4_reachesInitialState 27 = .ok (.getfield 9, 3) := by decide +kernel
theorem dX4_reachesInitialState_30 : decode cX4_reachesInitialState 30 = .ok (.invokevirtual 46, 3) := by decide +kernel
theorem dX4_reachesInitialState_33 : decode cX4_reachesInitialState 33 = .ok (.land, 1) := by decide +kernel
theorem dX4_reachesInitialState_34 : decode cX4_reachesInitialState 34 = .ok (.invokestatic 103, 3) := by decide +kernel
theorem dX4_reachesInitialState_37 : decode cX4_reachesInitialState 37 = .ok (.istore_n 3, 1) := by decide +kernel
theorem dX4_reachesInitialState_38 : decode cX4_reachesInitialState 38 = .ok (.iload_n 3, 1) := by decide +kernel
theorem dX4_reachesInitialState_39 : decode cX4_reachesInitialState 39 = .ok (.iconst (-1), 1) := by decide +kernel
theorem dX4_reachesInitialState_40 : decode cX4_reachesInitialState 40 = .ok (.if_icmp .ne 5, 3) := by decide +kernel
theorem dX4_reachesInitialState_43 : decode cX4_reachesInitialState 43 = .ok (.iconst 0, 1) := by decide +kernel
theorem dX4_reachesInitialState_44 : decode cX4_reachesInitialState 44 = .ok (.ireturn, 1) := by decide +kernel
theorem dX4_reachesInitialState_45 : decode cX4_reachesInitialState 45 = .ok (.aload_n 0, 1) := by decide +kernel
theorem dX4_reachesInitialState_46 : decode cX4_reachesInitialState 46 = .ok (.iload_n 3, 1) := by decide +kernel
theorem dX4_reachesInitialState_47 : decode cX4_reachesInitialState 47 = .ok (.aload_n 0, 1) := by decide +kernel
theorem dX4_reachesInitialState_48 : decode cX4_reachesInitialState 48 = .ok (.getfield 72, 3) := by decide +kernel
theorem dX4_reachesInitialState_51 : decode cX4_reachesInitialState 51 = .ok (.invokevirtual 107, 3) := by decide +kernel
theorem dX4_reachesInitialState_54 : decode cX4_reachesInitialState 54 = .ok (.goto 21, 3) := by decide +kernel
theorem dX4_reachesInitialState_57 : decode cX4_reachesInitialState 57 = .ok (.aload_n 0, 1) := by decide +kernel
theorem dX4_reachesInitialState_58 : decode cX4_reachesInitialState 58 = .ok (.aload_n 0, 1) := by decide +kernel
theorem dX4_reachesInitialState_59 : decode cX4_reachesInitialState 59 = .ok (.iload_n 2, 1) := by decide +kernel
theorem dX4_reachesInitialState_60 : decode cX4_reachesInitialState 60 = .ok (.invokevirtual 111, 3) := by decide +kernel
theorem dX4_reachesInitialState_63 : decode cX4_reachesInitialState 63 = .ok (.invokestatic 103, 3) := by decide +kernel
theorem dX4_reachesInitialState_66 : decode cX4_reachesInitialState 66 = .ok (.iload_n 2, 1) := by decide +kernel
theorem dX4_reachesInitialState_67 : decode cX4_reachesInitialState 67 = .ok (.invokevirtual 114, 3) := by decide +kernel
theorem dX4_reachesInitialState_70 : decode cX4_reachesInitialState 70 = .ok (.ifCond .eq 5, 3) := by decide +kernel
theorem dX4_reachesInitialState_73 : decode cX4_reachesInitialState 73 = .ok (.iconst 1, 1) := by decide +kernel
theorem dX4_reachesInitialState_74 : decode cX4_reachesInitialState 74 = .ok (.ireturn, 1) := by decide +kernel
theorem dX4_reachesInitialState_75 : decode cX4_reachesInitialState 75 = .ok (.iinc 1 1, 3) := by decide +kernel
theorem dX4_reachesInitialState_78 : decode cX4_reachesInitialState 78 = .ok (.goto (-76), 3) := by decide +kernel
theorem dX4_reachesInitialState_81 : decode cX4_reachesInitialState 81 = .ok (.iconst 0, 1) := by decide +kernel
theorem dX4_reachesInitialState_82 : decode cX4_reachesInitialState 82 = .ok (.ireturn, 1) := by decide +kernel
theorem dX4_lowestObliged_0 : decode cX4_lowestObliged 0 = .ok (.iconst 0, 1) := by decide +kernel
theorem dX4_lowestObliged_1 : decode cX4_lowestObliged 1 = .ok (.istore_n 1, 1) := by decide +kernel
theorem dX4_lowestObliged_2 : decode cX4_lowestObliged 2 = .ok (.iload_n 1, 1) := by decide +kernel
theorem dX4_lowestObliged_3 : decode cX4_lowestObliged 3 = .ok (.aload_n 0, 1) := by decide +kernel
theorem dX4_lowestObliged_4 : decode cX4_lowestObliged 4 = .ok (.getfield 72, 3) := by decide +kernel
theorem dX4_lowestObliged_7 : decode cX4_lowestObliged 7 = .ok (.if_icmp .gt 28, 3) := by decide +kernel
theorem dX4_lowestObliged_10 : decode cX4_lowestObliged 10 = .ok (.iload_n 1, 1) := by decide +kernel
theorem dX4_lowestObliged_11 : decode cX4_lowestObliged 11 = .ok (.bipush 70, 2) := by decide +kernel
theorem dX4_lowestObliged_13 : decode cX4_lowestObliged 13 = .ok (.if_icmp .ge 22, 3) := by decide +kernel
theorem dX4_lowestObliged_16 : decode cX4_lowestObliged 16 = .ok (.aload_n 0, 1) := by decide +kernel
theorem dX4_lowestObliged_17 : decode cX4_lowestObliged 17 = .ok (.getfield 26, 3) := by decide +kernel
theorem dX4_lowestObliged_20 : decode cX4_lowestObliged 20 = .ok (.iload_n 1, 1) := by decide +kernel
theorem dX4_lowestObliged_21 : decode cX4_lowestObliged 21 = .ok (.laload, 1) := by decide +kernel
theorem dX4_lowestObliged_22 : decode cX4_lowestObliged 22 = .ok (.lconst 0, 1) := by decide +kernel
theorem dX4_lowestObliged_23 : decode cX4_lowestObliged 23 = .ok (.lcmp, 1) := by decide +kernel
theorem dX4_lowestObliged_24 : decode cX4_lowestObliged 24 = .ok (.ifCond .eq 5, 3) := by decide +kernel
theorem dX4_lowestObliged_27 : decode cX4_lowestObliged 27 = .ok (.iload_n 1, 1) := by decide +kernel
theorem dX4_lowestObliged_28 : decode cX4_lowestObliged 28 = .ok (.ireturn, 1) := by decide +kernel
theorem dX4_lowestObliged_29 : decode cX4_lowestObliged 29 = .ok (.iinc 1 1, 3) := by decide +kernel
theorem dX4_lowestObliged_32 : decode cX4_lowestObliged 32 = .ok (.goto (-30), 3) := by decide +kernel
theorem dX4_lowestObliged_35 : decode cX4_lowestObliged 35 = .ok (.iconst (-1), 1) := by decide +kernel
theorem dX4_lowestObliged_36 : decode cX4_lowestObliged 36 = .ok (.ireturn, 1) := by decide +kernel
theorem dX4_obligedAt_0 : decode cX4_obligedAt 0 = .ok (.iload_n 1, 1) := by decide +kernel
theorem dX4_obligedAt_1 : decode cX4_obligedAt 1 = .ok (.ifCond .lt 18, 3) := by decide +kernel
theorem dX4_obligedAt_4 : decode cX4_obligedAt 4 = .ok (.iload_n 1, 1) := by decide +kernel
theorem dX4_obligedAt_5 : decode cX4_obligedAt 5 = .ok (.bipush 70, 2) := by decide +kernel
theorem dX4_obligedAt_7 : decode cX4_obligedAt 7 = .ok (.if_icmp .ge 12, 3) := by decide +kernel
theorem dX4_obligedAt_10 : decode cX4_obligedAt 10 = .ok (.aload_n 0, 1) := by decide +kernel
theorem dX4_obligedAt_11 : decode cX4_obligedAt 11 = .ok (.getfield 26, 3) := by decide +kernel
theorem dX4_obligedAt_14 : decode cX4_obligedAt 14 = .ok (.iload_n 1, 1) := by decide +kernel
theorem dX4_obligedAt_15 : decode cX4_obligedAt 15 = .ok (.laload, 1) := by decide +kernel
theorem dX4_obligedAt_16 : decode cX4_obligedAt 16 = .ok (.goto 4, 3) := by decide +kernel
theorem dX4_obligedAt_19 : decode cX4_obligedAt 19 = .ok (.lconst 0, 1) := by decide +kernel
theorem dX4_obligedAt_20 : decode cX4_obligedAt 20 = .ok (.lreturn, 1) := by decide +kernel
theorem dX4_oblige_0 : decode cX4_oblige 0 = .ok (.iload_n 2, 1) := by decide +kernel
theorem dX4_oblige_1 : decode cX4_oblige 1 = .ok (.ifCond .lt 21, 3) := by decide +kernel
theorem dX4_oblige_4 : decode cX4_oblige 4 = .ok (.iload_n 2, 1) := by decide +kernel
theorem dX4_oblige_5 : decode cX4_oblige 5 = .ok (.bipush 70, 2) := by decide +kernel
theorem dX4_oblige_7 : decode cX4_oblige 7 = .ok (.if_icmp .ge 15, 3) := by decide +kernel
theorem dX4_oblige_10 : decode cX4_oblige 10 = .ok (.aload_n 0, 1) := by decide +kernel
theorem dX4_oblige_11 : decode cX4_oblige 11 = .ok (.getfield 26, 3) := by decide +kernel
theorem dX4_oblige_14 : decode cX4_oblige 14 = .ok (.iload_n 2, 1) := by decide +kernel
theorem dX4_oblige_15 : decode cX4_oblige 15 = .ok (.dup2, 1) := by decide +kernel
theorem dX4_oblige_16 : decode cX4_oblige 16 = .ok (.laload, 1) := by decide +kernel
theorem dX4_oblige_17 : decode cX4_oblige 17 = .ok (.lconst 1, 1) := by decide +kernel
theorem dX4_oblige_18 : decode cX4_oblige 18 = .ok (.iload_n 1, 1) := by decide +kernel
theorem dX4_oblige_19 : decode cX4_oblige 19 = .ok (.lshl, 1) := by decide +kernel
theorem dX4_oblige_20 : decode cX4_oblige 20 = .ok (.lor, 1) := by decide +kernel
theorem dX4_oblige_21 : decode cX4_oblige 21 = .ok (.lastore, 1) := by decide +kernel
theorem dX4_oblige_22 : decode cX4_oblige 22 = .ok (.return_, 1) := by decide +kernel
theorem dX4_handle_0 : decode cX4_handle 0 = .ok (.aload_n 0, 1) := by decide +kernel
theorem dX4_handle_1 : decode cX4_handle 1 = .ok (.dup, 1) := by decide +kernel
theorem dX4_handle_2 : decode cX4_handle 2 = .ok (.getfield 75, 3) := by decide +kernel
theorem dX4_handle_5 : decode cX4_handle 5 = .ok (.iconst 1, 1) := by decide +kernel
theorem dX4_handle_6 : decode cX4_handle 6 = .ok (.iadd, 1) := by decide +kernel
theorem dX4_handle_7 : decode cX4_handle 7 = .ok (.putfield 75, 3) := by decide +kernel
theorem dX4_handle_10 : decode cX4_handle 10 = .ok (.aload_n 0, 1) := by decide +kernel
theorem dX4_handle_11 : decode cX4_handle 11 = .ok (.getfield 9, 3) := by decide +kernel
theorem dX4_handle_14 : decode cX4_handle 14 = .ok (.invokevirtual 40, 3) := by decide +kernel
theorem dX4_handle_17 : decode cX4_handle 17 = .ok (.iload_n 1, 1) := by decide +kernel
theorem dX4_handle_18 : decode cX4_handle 18 = .ok (.invokestatic 118, 3) := by decide +kernel
theorem dX4_handle_21 : decode cX4_handle 21 = .ok (.ifCond .eq 5, 3) := by decide +kernel
theorem dX4_handle_24 : decode cX4_handle 24 = .ok (.iconst 1, 1) := by decide +kernel
theorem dX4_handle_25 : decode cX4_handle 25 = .ok (.ireturn, 1) := by decide +kernel
theorem dX4_handle_26 : decode cX4_handle 26 = .ok (.aload_n 0, 1) := by decide +kernel
theorem dX4_handle_27 : decode cX4_handle 27 = .ok (.iload_n 2, 1) := by decide +kernel
theorem dX4_handle_28 : decode cX4_handle 28 = .ok (.invokevirtual 99, 3) := by decide +kernel
theorem dX4_handle_31 : decode cX4_handle 31 = .ok (.iload_n 1, 1) := by decide +kernel
theorem dX4_handle_32 : decode cX4_handle 32 = .ok (.invokestatic 118, 3) := by decide +kernel
theorem dX4_handle_35 : decode cX4_handle 35 = .ok (.ifCond .ne 11, 3) := by decide +kernel
theorem dX4_handle_38 : decode cX4_handle 38 = .ok (.aload_n 0, 1) := by decide +kernel
theorem dX4_handle_39 : decode cX4_handle 39 = .ok (.iload_n 1, 1) := by decide +kernel
theorem dX4_handle_40 : decode cX4_handle 40 = .ok (.iload_n 2, 1) := by decide +kernel
theorem dX4_handle_41 : decode cX4_handle 41 = .ok (.invokevirtual 122, 3) := by decide +kernel
theorem dX4_handle_44 : decode cX4_handle 44 = .ok (.iconst 0, 1) := by decide +kernel
theorem dX4_handle_45 : decode cX4_handle 45 = .ok (.ireturn, 1) := by decide +kernel
theorem dX4_handle_46 : decode cX4_handle 46 = .ok (.aload_n 0, 1) := by decide +kernel
theorem dX4_handle_47 : decode cX4_handle 47 = .ok (.getfield 9, 3) := by decide +kernel
theorem dX4_handle_50 : decode cX4_handle 50 = .ok (.getfield 125, 3) := by decide +kernel
theorem dX4_handle_53 : decode cX4_handle 53 = .ok (.iconst 1, 1) := by decide +kernel
theorem dX4_handle_54 : decode cX4_handle 54 = .ok (.isub, 1) := by decide +kernel
theorem dX4_handle_55 : decode cX4_handle 55 = .ok (.istore_n 3, 1) := by decide +kernel
theorem dX4_handle_56 : decode cX4_handle 56 = .ok (.aload_n 0, 1) := by decide +kernel
theorem dX4_handle_57 : decode cX4_handle 57 = .ok (.getfield 9, 3) := by decide +kernel
theorem dX4_handle_60 : decode cX4_handle 60 = .ok (.iload_n 3, 1) := by decide +kernel
theorem dX4_handle_61 : decode cX4_handle 61 = .ok (.iload_n 1, 1) := by decide +kernel
theorem dX4_handle_62 : decode cX4_handle 62 = .ok (.invokevirtual 128, 3) := by decide +kernel
theorem dX4_handle_65 : decode cX4_handle 65 = .ok (.aload_n 0, 1) := by decide +kernel
theorem dX4_handle_66 : decode cX4_handle 66 = .ok (.iload_n 2, 1) := by decide +kernel
theorem dX4_handle_67 : decode cX4_handle 67 = .ok (.iconst 1, 1) := by decide +kernel
theorem dX4_handle_68 : decode cX4_handle 68 = .ok (.isub, 1) := by decide +kernel
theorem dX4_handle_69 : decode cX4_handle 69 = .ok (.invokevirtual 99, 3) := by decide +kernel
theorem dX4_handle_72 : decode cX4_handle 72 = .ok (.land, 1) := by decide +kernel
theorem dX4_handle_73 : decode cX4_handle 73 = .ok (.lconst 1, 1) := by decide +kernel
theorem dX4_handle_74 : decode cX4_handle 74 = .ok (.iload_n 1, 1) := by decide +kernel
theorem dX4_handle_75 : decode cX4_handle 75 = .ok (.lshl, 1) := by decide +kernel
theorem dX4_handle_76 : decode cX4_handle 76 = .ok (.ldc2_w 132, 3) := by decide +kernel
theorem dX4_handle_79 : decode cX4_handle 79 = .ok (.lxor, 1) := by decide +kernel
theorem dX4_handle_80 : decode cX4_handle 80 = .ok (.land, 1) := by decide +kernel
theorem dX4_handle_81 : decode cX4_handle 81 = .ok (.lstore 4, 2) := by decide +kernel
theorem dX4_handle_83 : decode cX4_handle 83 = .ok (.lload 4, 2) := by decide +kernel
theorem dX4_handle_85 : decode cX4_handle 85 = .ok (.lconst 0, 1) := by decide +kernel
theorem dX4_handle_86 : decode cX4_handle 86 = .ok (.lcmp, 1) := by decide +kernel
theorem dX4_handle_87 : decode cX4_handle 87 = .ok (.ifCond .eq 17, 3) := by decide +kernel
theorem dX4_handle_90 : decode cX4_handle 90 = .ok (.aload_n 0, 1) := by decide +kernel
theorem dX4_handle_91 : decode cX4_handle 91 = .ok (.lload 4, 2) := by decide +kernel
theorem dX4_handle_93 : decode cX4_handle 93 = .ok (.invokestatic 103, 3) := by decide +kernel
theorem dX4_handle_96 : decode cX4_handle 96 = .ok (.iload_n 2, 1) := by decide +kernel
theorem dX4_handle_97 : decode cX4_handle 97 = .ok (.iconst 1, 1) := by decide +kernel
theorem dX4_handle_98 : decode cX4_handle 98 = .ok (.isub, 1) := by decide +kernel
theorem dX4_handle_99 : decode cX4_handle 99 = .ok (.invokevirtual 107, 3) := by decide +kernel
theorem dX4_handle_102 : decode cX4_handle 102 = .ok (.iconst 0, 1) := by decide +kernel
theorem dX4_handle_103 : decode cX4_handle 103 = .ok (.ireturn, 1) := by decide +kernel
theorem dX4_handle_104 : decode cX4_handle 104 = .ok (.aload_n 0, 1) := by decide +kernel
theorem dX4_handle_105 : decode cX4_handle 105 = .ok (.aload_n 0, 1) := by decide +kernel
theorem dX4_handle_106 : decode cX4_handle 106 = .ok (.iload_n 1, 1) := by decide +kernel
theorem dX4_handle_107 : decode cX4_handle 107 = .ok (.iload_n 2, 1) := by decide +kernel
theorem dX4_handle_108 : decode cX4_handle 108 = .ok (.invokevirtual 134, 3) := by decide +kernel
theorem dX4_handle_111 : decode cX4_handle 111 = .ok (.iload_n 1, 1) := by decide +kernel
theorem dX4_handle_112 : decode cX4_handle 112 = .ok (.iload_n 2, 1) := by decide +kernel
theorem dX4_handle_113 : decode cX4_handle 113 = .ok (.invokevirtual 138, 3) := by decide +kernel
theorem dX4_handle_116 : decode cX4_handle 116 = .ok (.aload_n 0, 1) := by decide +kernel
theorem dX4_handle_117 : decode cX4_handle 117 = .ok (.iload_n 1, 1) := by decide +kernel
theorem dX4_handle_118 : decode cX4_handle 118 = .ok (.iload_n 2, 1) := by decide +kernel
theorem dX4_handle_119 : decode cX4_handle 119 = .ok (.invokevirtual 122, 3) := by decide +kernel
theorem dX4_handle_122 : decode cX4_handle 122 = .ok (.iconst 0, 1) := by decide +kernel
theorem dX4_handle_123 : decode cX4_handle 123 = .ok (.ireturn, 1) := by decide +kernel
theorem dX4_moveUp_0 : decode cX4_moveUp 0 = .ok (.iload_n 2, 1) := by decide +kernel
theorem dX4_moveUp_1 : decode cX4_moveUp 1 = .ok (.ifCond .lt 25, 3) := by decide +kernel
theorem dX4_moveUp_4 : decode cX4_moveUp 4 = .ok (.iload_n 2, 1) := by decide +kernel
theorem dX4_moveUp_5 : decode cX4_moveUp 5 = .ok (.bipush 70, 2) := by decide +kernel
theorem dX4_moveUp_7 : decode cX4_moveUp 7 = .ok (.if_icmp .ge 19, 3) := by decide +kernel
theorem dX4_moveUp_10 : decode cX4_moveUp 10 = .ok (.aload_n 0, 1) := by decide +kernel
theorem dX4_moveUp_11 : decode cX4_moveUp 11 = .ok (.getfield 26, 3) := by decide +kernel
theorem dX4_moveUp_14 : decode cX4_moveUp 14 = .ok (.iload_n 2, 1) := by decide +kernel
theorem dX4_moveUp_15 : decode cX4_moveUp 15 = .ok (.dup2, 1) := by decide +kernel
theorem dX4_moveUp_16 : decode cX4_moveUp 16 = .ok (.laload, 1) := by decide +kernel
theorem dX4_moveUp_17 : decode cX4_moveUp 17 = .ok (.lconst 1, 1) := by decide +kernel
theorem dX4_moveUp_18 : decode cX4_moveUp 18 = .ok (.iload_n 1, 1) := by decide +kernel
theorem dX4_moveUp_19 : decode cX4_moveUp 19 = .ok (.lshl, 1) := by decide +kernel
theorem dX4_moveUp_20 : decode cX4_moveUp 20 = .ok (.ldc2_w 132, 3) := by decide +kernel
theorem dX4_moveUp_23 : decode cX4_moveUp 23 = .ok (.lxor, 1) := by decide +kernel
theorem dX4_moveUp_24 : decode cX4_moveUp 24 = .ok (.land, 1) := by decide +kernel
theorem dX4_moveUp_25 : decode cX4_moveUp 25 = .ok (.lastore, 1) := by decide +kernel
theorem dX4_moveUp_26 : decode cX4_moveUp 26 = .ok (.iload_n 2, 1) := by decide +kernel
theorem dX4_moveUp_27 : decode cX4_moveUp 27 = .ok (.aload_n 0, 1) := by decide +kernel
theorem dX4_moveUp_28 : decode cX4_moveUp 28 = .ok (.getfield 72, 3) := by decide +kernel
theorem dX4_moveUp_31 : decode cX4_moveUp 31 = .ok (.if_icmp .ge 11, 3) := by decide +kernel
theorem dX4_moveUp_34 : decode cX4_moveUp 34 = .ok (.aload_n 0, 1) := by decide +kernel
theorem dX4_moveUp_35 : decode cX4_moveUp 35 = .ok (.iload_n 1, 1) := by decide +kernel
theorem dX4_moveUp_36 : decode cX4_moveUp 36 = .ok (.iload_n 2, 1) := by decide +kernel
theorem dX4_moveUp_37 : decode cX4_moveUp 37 = .ok (.iconst 1, 1) := by decide +kernel
theorem dX4_moveUp_38 : decode cX4_moveUp 38 = .ok (.iadd, 1) := by decide +kernel
theorem dX4_moveUp_39 : decode cX4_moveUp 39 = .ok (.invokevirtual 107, 3) := by decide +kernel
theorem dX4_moveUp_42 : decode cX4_moveUp 42 = .ok (.return_, 1) := by decide +kernel
theorem dX4_generalize_0 : decode cX4_generalize 0 = .ok (.aload_n 0, 1) := by decide +kernel
theorem dX4_generalize_1 : decode cX4_generalize 1 = .ok (.getfield 9, 3) := by decide +kernel
theorem dX4_generalize_4 : decode cX4_generalize 4 = .ok (.getfield 125, 3) := by decide +kernel
theorem dX4_generalize_7 : decode cX4_generalize 7 = .ok (.iconst 1, 1) := by decide +kernel
theorem dX4_generalize_8 : decode cX4_generalize 8 = .ok (.isub, 1) := by decide +kernel
theorem dX4_generalize_9 : decode cX4_generalize 9 = .ok (.istore_n 3, 1) := by decide +kernel
theorem dX4_generalize_10 : decode cX4_generalize 10 = .ok (.iconst 0, 1) := by decide +kernel
theorem dX4_generalize_11 : decode cX4_generalize 11 = .ok (.istore 4, 2) := by decide +kernel
theorem dX4_generalize_13 : decode cX4_generalize 13 = .ok (.iload 4, 2) := by decide +kernel
theorem dX4_generalize_15 : decode cX4_generalize 15 = .ok (.aload_n 0, 1) := by decide +kernel
theorem dX4_generalize_16 : decode cX4_generalize 16 = .ok (.getfield 9, 3) := by decide +kernel
theorem dX4_generalize_19 : decode cX4_generalize 19 = .ok (.getfield 142, 3) := by decide +kernel
theorem dX4_generalize_22 : decode cX4_generalize 22 = .ok (.if_icmp .ge 80, 3) := by decide +kernel
theorem dX4_generalize_25 : decode cX4_generalize 25 = .ok (.iload_n 3, 1) := by decide +kernel
theorem dX4_generalize_26 : decode cX4_generalize 26 = .ok (.iconst 1, 1) := by decide +kernel
theorem dX4_generalize_27 : decode cX4_generalize 27 = .ok (.iload 4, 2) := by decide +kernel
theorem dX4_generalize_29 : decode cX4_generalize 29 = .ok (.ishl, 1) := by decide +kernel
theorem dX4_generalize_30 : decode cX4_generalize 30 = .ok (.iconst (-1), 1) := by decide +kernel
theorem dX4_generalize_31 : decode cX4_generalize 31 = .ok (.ixor, 1) := by decide +kernel
theorem dX4_generalize_32 : decode cX4_generalize 32 = .ok (.iand, 1) := by decide +kernel
theorem dX4_generalize_33 : decode cX4_generalize 33 = .ok (.istore 5, 2) := by decide +kernel
theorem dX4_generalize_35 : decode cX4_generalize 35 = .ok (.aload_n 0, 1) := by decide +kernel
theorem dX4_generalize_36 : decode cX4_generalize 36 = .ok (.getfield 9, 3) := by decide +kernel
theorem dX4_generalize_39 : decode cX4_generalize 39 = .ok (.iload 5, 2) := by decide +kernel
theorem dX4_generalize_41 : decode cX4_generalize 41 = .ok (.iload_n 1, 1) := by decide +kernel
theorem dX4_generalize_42 : decode cX4_generalize 42 = .ok (.invokevirtual 145, 3) := by decide +kernel
theorem dX4_generalize_45 : decode cX4_generalize 45 = .ok (.aload_n 0, 1) := by decide +kernel
theorem dX4_generalize_46 : decode cX4_generalize 46 = .ok (.getfield 9, 3) := by decide +kernel
theorem dX4_generalize_49 : decode cX4_generalize 49 = .ok (.invokevirtual 40, 3) := by decide +kernel
theorem dX4_generalize_52 : decode cX4_generalize 52 = .ok (.land, 1) := by decide +kernel
theorem dX4_generalize_53 : decode cX4_generalize 53 = .ok (.lconst 0, 1) := by decide +kernel
theorem dX4_generalize_54 : decode cX4_generalize 54 = .ok (.lcmp, 1) := by decide +kernel
theorem dX4_generalize_55 : decode cX4_generalize 55 = .ok (.ifCond .ne 7, 3) := by decide +kernel
theorem dX4_generalize_58 : decode cX4_generalize 58 = .ok (.iconst 1, 1) := by decide +kernel
theorem dX4_generalize_59 : decode cX4_generalize 59 = .ok (.goto 4, 3) := by decide +kernel
theorem dX4_generalize_62 : decode cX4_generalize 62 = .ok (.iconst 0, 1) := by decide +kernel
theorem dX4_generalize_63 : decode cX4_generalize 63 = .ok (.istore 6, 2) := by decide +kernel
theorem dX4_generalize_65 : decode cX4_generalize 65 = .ok (.iload 6, 2) := by decide +kernel
theorem dX4_generalize_67 : decode cX4_generalize 67 = .ok (.ifCond .eq 29, 3) := by decide +kernel
theorem dX4_generalize_70 : decode cX4_generalize 70 = .ok (.aload_n 0, 1) := by decide +kernel
theorem dX4_generalize_71 : decode cX4_generalize 71 = .ok (.iload 5, 2) := by decide +kernel
theorem dX4_generalize_73 : decode cX4_generalize 73 = .ok (.iload_n 1, 1) := by decide +kernel
theorem dX4_generalize_74 : decode cX4_generalize 74 = .ok (.iload_n 2, 1) := by decide +kernel
theorem dX4_generalize_75 : decode cX4_generalize 75 = .ok (.iconst 1, 1) := by decide +kernel
theorem dX4_generalize_76 : decode cX4_generalize 76 = .ok (.isub, 1) := by decide +kernel
theorem dX4_generalize_77 : decode cX4_generalize 77 = .ok (.invokevirtual 148, 3) := by decide +kernel
theorem dX4_generalize_80 : decode cX4_generalize 80 = .ok (.ifCond .eq 16, 3) := by decide +kernel
theorem dX4_generalize_83 : decode cX4_generalize 83 = .ok (.iload 5, 2) := by decide +kernel
theorem dX4_generalize_85 : decode cX4_generalize 85 = .ok (.istore_n 3, 1) := by decide +kernel
theorem dX4_generalize_86 : decode cX4_generalize 86 = .ok (.aload_n 0, 1) := by decide +kernel
theorem dX4_generalize_87 : decode cX4_generalize 87 = .ok (.dup, 1) := by decide +kernel
theorem dX4_generalize_88 : decode cX4_generalize 88 = .ok (.getfield 81, 3) := by decide +kernel
theorem dX4_generalize_91 : decode cX4_generalize 91 = .ok (.iconst 1, 1) := by decide +kernel
theorem dX4_generalize_92 : decode cX4_generalize 92 = .ok (.iadd, 1) := by decide +kernel
theorem dX4_generalize_93 : decode cX4_generalize 93 = .ok (.putfield 81, 3) := by decide +kernel
theorem dX4_generalize_96 : decode cX4_generalize 96 = .ok (.iinc 4 1, 3) := by decide +kernel
theorem dX4_generalize_99 : decode cX4_generalize 99 = .ok (.goto (-86), 3) := by decide +kernel
theorem dX4_generalize_102 : decode cX4_generalize 102 = .ok (.iload_n 3, 1) := by decide +kernel
theorem dX4_generalize_103 : decode cX4_generalize 103 = .ok (.ireturn, 1) := by decide +kernel
theorem dX4_isBlocked_0 : decode cX4_isBlocked 0 = .ok (.aload_n 0, 1) := by decide +kernel
theorem dX4_isBlocked_1 : decode cX4_isBlocked 1 = .ok (.iload_n 3, 1) := by decide +kernel
theorem dX4_isBlocked_2 : decode cX4_isBlocked 2 = .ok (.invokevirtual 99, 3) := by decide +kernel
theorem dX4_isBlocked_5 : decode cX4_isBlocked 5 = .ok (.aload_n 0, 1) := by decide +kernel
theorem dX4_isBlocked_6 : decode cX4_isBlocked 6 = .ok (.getfield 9, 3) := by decide +kernel
theorem dX4_isBlocked_9 : decode cX4_isBlocked 9 = .ok (.iload_n 1, 1) := by decide +kernel
theorem dX4_isBlocked_10 : decode cX4_isBlocked 10 = .ok (.iload_n 2, 1) := by decide +kernel
theorem dX4_isBlocked_11 : decode cX4_isBlocked 11 = .ok (.invokevirtual 145, 3) := by decide +kernel
theorem dX4_isBlocked_14 : decode cX4_isBlocked 14 = .ok (.ldc2_w 132, 3) := by decide +kernel
theorem dX4_isBlocked_17 : decode cX4_isBlocked 17 = .ok (.lxor, 1) := by decide +kernel
theorem dX4_isBlocked_18 : decode cX4_isBlocked 18 = .ok (.land, 1) := by decide +kernel
theorem dX4_isBlocked_19 : decode cX4_isBlocked 19 = .ok (.lstore 4, 2) := by decide +kernel
theorem dX4_isBlocked_21 : decode cX4_isBlocked 21 = .ok (.lload 4, 2) := by decide +kernel
theorem dX4_isBlocked_23 : decode cX4_isBlocked 23 = .ok (.aload_n 0, 1) := by decide +kernel
theorem dX4_isBlocked_24 : decode cX4_isBlocked 24 = .ok (.getfield 9, 3) := by decide +kernel
theorem dX4_isBlocked_27 : decode cX4_isBlocked 27 = .ok (.iload_n 1, 1) := by decide +kernel
theorem dX4_isBlocked_28 : decode cX4_isBlocked 28 = .ok (.iload_n 2, 1) := by decide +kernel
theorem dX4_isBlocked_29 : decode cX4_isBlocked 29 = .ok (.invokevirtual 128, 3) := by decide +kernel
theorem dX4_isBlocked_32 : decode cX4_isBlocked 32 = .ok (.land, 1) := by decide +kernel
theorem dX4_isBlocked_33 : decode cX4_isBlocked 33 = .ok (.lconst 0, 1) := by decide +kernel
theorem dX4_isBlocked_34 : decode cX4_isBlocked 34 = .ok (.lcmp, 1) := by decide +kernel
theorem dX4_isBlocked_35 : decode cX4_isBlocked 35 = .ok (.ifCond .ne 7, 3) := by decide +kernel
theorem dX4_isBlocked_38 : decode cX4_isBlocked 38 = .ok (.iconst 1, 1) := by decide +kernel
theorem dX4_isBlocked_39 : decode cX4_isBlocked 39 = .ok (.goto 4, 3) := by decide +kernel
theorem dX4_isBlocked_42 : decode cX4_isBlocked 42 = .ok (.iconst 0, 1) := by decide +kernel
theorem dX4_isBlocked_43 : decode cX4_isBlocked 43 = .ok (.ireturn, 1) := by decide +kernel
theorem dX4_addCube_0 : decode cX4_addCube 0 = .ok (.iload_n 3, 1) := by decide +kernel
theorem dX4_addCube_1 : decode cX4_addCube 1 = .ok (.istore 4, 2) := by decide +kernel
theorem dX4_addCube_3 : decode cX4_addCube 3 = .ok (.iconst 0, 1) := by decide +kernel
theorem dX4_addCube_4 : decode cX4_addCube 4 = .ok (.istore 5, 2) := by decide +kernel
theorem dX4_addCube_6 : decode cX4_addCube 6 = .ok (.iload 5, 2) := by decide +kernel
theorem dX4_addCube_8 : decode cX4_addCube 8 = .ok (.bipush 70, 2) := by decide +kernel
theorem dX4_addCube_10 : decode cX4_addCube 10 = .ok (.if_icmp .ge 32, 3) := by decide +kernel
theorem dX4_addCube_13 : decode cX4_addCube 13 = .ok (.iload 4, 2) := by decide +kernel
theorem dX4_addCube_15 : decode cX4_addCube 15 = .ok (.aload_n 0, 1) := by decide +kernel
theorem dX4_addCube_16 : decode cX4_addCube 16 = .ok (.getfield 72, 3) := by decide +kernel
theorem dX4_addCube_19 : decode cX4_addCube 19 = .ok (.if_icmp .ge 23, 3) := by decide +kernel
theorem dX4_addCube_22 : decode cX4_addCube 22 = .ok (.aload_n 0, 1) := by decide +kernel
theorem dX4_addCube_23 : decode cX4_addCube 23 = .ok (.iload_n 1, 1) := by decide +kernel
theorem dX4_addCube_24 : decode cX4_addCube 24 = .ok (.iload_n 2, 1) := by decide +kernel
theorem dX4_addCube_25 : decode cX4_addCube 25 = .ok (.iload 4, 2) := by decide +kernel
theorem dX4_addCube_27 : decode cX4_addCube 27 = .ok (.invokevirtual 148, 3) := by decide +kernel
theorem dX4_addCube_30 : decode cX4_addCube 30 = .ok (.ifCond .eq 12, 3) := by decide +kernel
theorem dX4_addCube_33 : decode cX4_addCube 33 = .ok (.iinc 4 1, 3) := by decide +kernel
theorem dX4_addCube_36 : decode cX4_addCube 36 = .ok (.iinc 5 1, 3) := by decide +kernel
theorem dX4_addCube_39 : decode cX4_addCube 39 = .ok (.goto (-33), 3) := by decide +kernel
theorem dX4_addCube_42 : decode cX4_addCube 42 = .ok (.aload_n 0, 1) := by decide +kernel
theorem dX4_addCube_43 : decode cX4_addCube 43 = .ok (.getfield 9, 3) := by decide +kernel
theorem dX4_addCube_46 : decode cX4_addCube 46 = .ok (.iload_n 1, 1) := by decide +kernel
theorem dX4_addCube_47 : decode cX4_addCube 47 = .ok (.iload_n 2, 1) := by decide +kernel
theorem dX4_addCube_48 : decode cX4_addCube 48 = .ok (.invokevirtual 145, 3) := by decide +kernel
theorem dX4_addCube_51 : decode cX4_addCube 51 = .ok (.lstore 5, 2) := by decide +kernel
theorem dX4_addCube_53 : decode cX4_addCube 53 = .ok (.aload_n 0, 1) := by decide +kernel
theorem dX4_addCube_54 : decode cX4_addCube 54 = .ok (.getfield 18, 3) := by decide +kernel
theorem dX4_addCube_57 : decode cX4_addCube 57 = .ok (.lload 5, 2) := by decide +kernel
theorem dX4_addCube_59 : decode cX4_addCube 59 = .ok (.iload 4, 2) := by decide +kernel
theorem dX4_addCube_61 : decode cX4_addCube 61 = .ok (.invokevirtual 152, 3) := by decide +kernel
theorem dX4_addCube_64 : decode cX4_addCube 64 = .ok (.aload_n 0, 1) := by decide +kernel
theorem dX4_addCube_65 : decode cX4_addCube 65 = .ok (.getfield 18, 3) := by decide +kernel
theorem dX4_addCube_68 : decode cX4_addCube 68 = .ok (.iload_n 1, 1) := by decide +kernel
theorem dX4_addCube_69 : decode cX4_addCube 69 = .ok (.iload_n 2, 1) := by decide +kernel
theorem dX4_addCube_70 : decode cX4_addCube 70 = .ok (.iload_n 1, 1) := by decide +kernel
theorem dX4_addCube_71 : decode cX4_addCube 71 = .ok (.iand, 1) := by decide +kernel
theorem dX4_addCube_72 : decode cX4_addCube 72 = .ok (.iload 4, 2) := by decide +kernel
theorem dX4_addCube_74 : decode cX4_addCube 74 = .ok (.lload 5, 2) := by decide +kernel
theorem dX4_addCube_76 : decode cX4_addCube 76 = .ok (.invokevirtual 156, 3) := by decide +kernel
theorem dX4_addCube_79 : decode cX4_addCube 79 = .ok (.aload_n 0, 1) := by decide +kernel
theorem dX4_addCube_80 : decode cX4_addCube 80 = .ok (.dup, 1) := by decide +kernel
theorem dX4_addCube_81 : decode cX4_addCube 81 = .ok (.getfield 78, 3) := by decide +kernel
theorem dX4_addCube_84 : decode cX4_addCube 84 = .ok (.iconst 1, 1) := by decide +kernel
theorem dX4_addCube_85 : decode cX4_addCube 85 = .ok (.iadd, 1) := by decide +kernel
theorem dX4_addCube_86 : decode cX4_addCube 86 = .ok (.putfield 78, 3) := by decide +kernel
theorem dX4_addCube_89 : decode cX4_addCube 89 = .ok (.iconst 1, 1) := by decide +kernel
theorem dX4_addCube_90 : decode cX4_addCube 90 = .ok (.istore 7, 2) := by decide +kernel
theorem dX4_addCube_92 : decode cX4_addCube 92 = .ok (.iload 7, 2) := by decide +kernel
theorem dX4_addCube_94 : decode cX4_addCube 94 = .ok (.iload 4, 2) := by decide +kernel
theorem dX4_addCube_96 : decode cX4_addCube 96 = .ok (.if_icmp .gt 32, 3) := by decide +kernel
theorem dX4_addCube_99 : decode cX4_addCube 99 = .ok (.iload 7, 2) := by decide +kernel
theorem dX4_addCube_101 : decode cX4_addCube 101 = .ok (.bipush 70, 2) := by decide +kernel
theorem dX4_addCube_103 : decode cX4_addCube 103 = .ok (.if_icmp .ge 25, 3) := by decide +kernel
theorem dX4_addCube_106 : decode cX4_addCube 106 = .ok (.aload_n 0, 1) := by decide +kernel
theorem dX4_addCube_107 : decode cX4_addCube 107 = .ok (.getfield 22, 3) := by decide +kernel
theorem dX4_addCube_110 : decode cX4_addCube 110 = .ok (.iload 7, 2) := by decide +kernel
theorem dX4_addCube_112 : decode cX4_addCube 112 = .ok (.dup2, 1) := by decide +kernel
theorem dX4_addCube_113 : decode cX4_addCube 113 = .ok (.laload, 1) := by decide +kernel
theorem dX4_addCube_114 : decode cX4_addCube 114 = .ok (.lload 5, 2) := by decide +kernel
theorem dX4_addCube_116 : decode cX4_addCube 116 = .ok (.ldc2_w 132, 3) := by decide +kernel
theorem dX4_addCube_119 : decode cX4_addCube 119 = .ok (.lxor, 1) := by decide +kernel
theorem dX4_addCube_120 : decode cX4_addCube 120 = .ok (.land, 1) := by decide +kernel
theorem dX4_addCube_121 : decode cX4_addCube 121 = .ok (.lastore, 1) := by decide +kernel
theorem dX4_addCube_122 : decode cX4_addCube 122 = .ok (.iinc 7 1, 3) := by decide +kernel
theorem dX4_addCube_125 : decode cX4_addCube 125 = .ok (.goto (-33), 3) := by decide +kernel
theorem dX4_addCube_128 : decode cX4_addCube 128 = .ok (.return_, 1) := by decide +kernel
theorem dX4_raiseCubes_0 : decode cX4_raiseCubes 0 = .ok (.iconst 1, 1) := by decide +kernel
theorem dX4_raiseCubes_1 : decode cX4_raiseCubes 1 = .ok (.istore_n 1, 1) := by decide +kernel
theorem dX4_raiseCubes_2 : decode cX4_raiseCubes 2 = .ok (.iload_n 1, 1) := by decide +kernel
theorem dX4_raiseCubes_3 : decode cX4_raiseCubes 3 = .ok (.aload_n 0, 1) := by decide +kernel
theorem dX4_raiseCubes_4 : decode cX4_raiseCubes 4 = .ok (.getfield 72, 3) := by decide +kernel
theorem dX4_raiseCubes_7 : decode cX4_raiseCubes 7 = .ok (.if_icmp .ge 64, 3) := by decide +kernel
theorem dX4_raiseCubes_10 : decode cX4_raiseCubes 10 = .ok (.iconst 0, 1) := by decide +kernel
theorem dX4_raiseCubes_11 : decode cX4_raiseCubes 11 = .ok (.istore_n 2, 1) := by decide +kernel
theorem dX4_raiseCubes_12 : decode cX4_raiseCubes 12 = .ok (.iload_n 2, 1) := by decide +kernel
theorem dX4_raiseCubes_13 : decode cX4_raiseCubes 13 = .ok (.aload_n 0, 1) := by decide +kernel
theorem dX4_raiseCubes_14 : decode cX4_raiseCubes 14 = .ok (.getfield 18, 3) := by decide +kernel
theorem dX4_raiseCubes_17 : decode cX4_raiseCubes 17 = .ok (.getfield 63, 3) := by decide +kernel
theorem dX4_raiseCubes_20 : decode cX4_raiseCubes 20 = .ok (.if_icmp .ge 27, 3) := by decide +kernel
theorem dX4_raiseCubes_23 : decode cX4_raiseCubes 23 = .ok (.aload_n 0, 1) := by decide +kernel
theorem dX4_raiseCubes_24 : decode cX4_raiseCubes 24 = .ok (.getfield 18, 3) := by decide +kernel
theorem dX4_raiseCubes_27 : decode cX4_raiseCubes 27 = .ok (.iload_n 2, 1) := by decide +kernel
theorem dX4_raiseCubes_28 : decode cX4_raiseCubes 28 = .ok (.invokevirtual 160, 3) := by decide +kernel
theorem dX4_raiseCubes_31 : decode cX4_raiseCubes 31 = .ok (.iload_n 1, 1) := by decide +kernel
theorem dX4_raiseCubes_32 : decode cX4_raiseCubes 32 = .ok (.if_icmp .ne 9, 3) := by decide +kernel
theorem dX4_raiseCubes_35 : decode cX4_raiseCubes 35 = .ok (.aload_n 0, 1) := by decide +kernel
theorem dX4_raiseCubes_36 : decode cX4_raiseCubes 36 = .ok (.iload_n 2, 1) := by decide +kernel
theorem dX4_raiseCubes_37 : decode cX4_raiseCubes 37 = .ok (.iload_n 1, 1) := by decide +kernel
theorem dX4_raiseCubes_38 : decode cX4_raiseCubes 38 = .ok (.invokevirtual 164, 3) := by decide +kernel
theorem dX4_raiseCubes_41 : decode cX4_raiseCubes 41 = .ok (.iinc 2 1, 3) := by decide +kernel
theorem dX4_raiseCubes_44 : decode cX4_raiseCubes 44 = .ok (.goto (-32), 3) := by decide +kernel
theorem dX4_raiseCubes_47 : decode cX4_raiseCubes 47 = .ok (.aload_n 0, 1) := by decide +kernel
theorem dX4_raiseCubes_48 : decode cX4_raiseCubes 48 = .ok (.getfield 18, 3) := by decide +kernel
theorem dX4_raiseCubes_51 : decode cX4_raiseCubes 51 = .ok (.iload_n 1, 1) := by decide +kernel
theorem dX4_raiseCubes_52 : decode cX4_raiseCubes 52 = .ok (.invokevirtual 167, 3) := by decide +kernel
theorem dX4_raiseCubes_55 : decode cX4_raiseCubes 55 = .ok (.ifCond .ne 10, 3) := by decide +kernel
theorem dX4_raiseCubes_58 : decode cX4_raiseCubes 58 = .ok (.aload_n 0, 1) := by decide +kernel
theorem dX4_raiseCubes_59 : decode cX4_raiseCubes 59 = .ok (.iload_n 1, 1) := by decide +kernel
theorem dX4_raiseCubes_60 : decode cX4_raiseCubes 60 = .ok (.putfield 87, 3) := by decide +kernel
theorem dX4_raiseCubes_63 : decode cX4_raiseCubes 63 = .ok (.iconst 1, 1) := by decide +kernel
theorem dX4_raiseCubes_64 : decode cX4_raiseCubes 64 = .ok (.ireturn, 1) := by decide +kernel
theorem dX4_raiseCubes_65 : decode cX4_raiseCubes 65 = .ok (.iinc 1 1, 3) := by decide +kernel
theorem dX4_raiseCubes_68 : decode cX4_raiseCubes 68 = .ok (.goto (-66), 3) := by decide +kernel
theorem dX4_raiseCubes_71 : decode cX4_raiseCubes 71 = .ok (.iconst 0, 1) := by decide +kernel
theorem dX4_raiseCubes_72 : decode cX4_raiseCubes 72 = .ok (.ireturn, 1) := by decide +kernel
theorem dX4_raiseCube_0 : decode cX4_raiseCube 0 = .ok (.iload_n 1, 1) := by decide +kernel
theorem dX4_raiseCube_1 : decode cX4_raiseCube 1 = .ok (.ifCond .lt 22, 3) := by decide +kernel
theorem dX4_raiseCube_4 : decode cX4_raiseCube 4 = .ok (.iload_n 1, 1) := by decide +kernel
theorem dX4_raiseCube_5 : decode cX4_raiseCube 5 = .ok (.sipush 729, 3) := by decide +kernel
theorem dX4_raiseCube_8 : decode cX4_raiseCube 8 = .ok (.if_icmp .ge 15, 3) := by decide +kernel
theorem dX4_raiseCube_11 : decode cX4_raiseCube 11 = .ok (.iload_n 2, 1) := by decide +kernel
theorem dX4_raiseCube_12 : decode cX4_raiseCube 12 = .ok (.ifCond .lt 11, 3) := by decide +kernel
theorem dX4_raiseCube_15 : decode cX4_raiseCube 15 = .ok (.iload_n 2, 1) := by decide +kernel
theorem dX4_raiseCube_16 : decode cX4_raiseCube 16 = .ok (.iconst 1, 1) := by decide +kernel
theorem dX4_raiseCube_17 : decode cX4_raiseCube 17 = .ok (.iadd, 1) := by decide +kernel
theorem dX4_raiseCube_18 : decode cX4_raiseCube 18 = .ok (.bipush 70, 2) := by decide +kernel
theorem dX4_raiseCube_20 : decode cX4_raiseCube 20 = .ok (.if_icmp .lt 4, 3) := by decide +kernel
theorem dX4_raiseCube_23 : decode cX4_raiseCube 23 = .ok (.return_, 1) := by decide +kernel
theorem dX4_raiseCube_24 : decode cX4_raiseCube 24 = .ok (.aload_n 0, 1) := by decide +kernel
theorem dX4_raiseCube_25 : decode cX4_raiseCube 25 = .ok (.getfield 9, 3) := by decide +kernel
theorem dX4_raiseCube_28 : decode cX4_raiseCube 28 = .ok (.aload_n 0, 1) := by decide +kernel
theorem dX4_raiseCube_29 : decode cX4_raiseCube 29 = .ok (.getfield 18, 3) := by decide +kernel
theorem dX4_raiseCube_32 : decode cX4_raiseCube 32 = .ok (.getfield 171, 3) := by decide +kernel
theorem dX4_raiseCube_35 : decode cX4_raiseCube 35 = .ok (.iload_n 1, 1) := by decide +kernel
theorem dX4_raiseCube_36 : decode cX4_raiseCube 36 = .ok (.iaload, 1) := by decide +kernel
theorem dX4_raiseCube_37 : decode cX4_raiseCube 37 = .ok (.aload_n 0, 1) := by decide +kernel
theorem dX4_raiseCube_38 : decode cX4_raiseCube 38 = .ok (.getfield 18, 3) := by decide +kernel
theorem dX4_raiseCube_41 : decode cX4_raiseCube 41 = .ok (.getfield 175, 3) := by decide +kernel
theorem dX4_raiseCube_44 : decode cX4_raiseCube 44 = .ok (.iload_n 1, 1) := by decide +kernel
theorem dX4_raiseCube_45 : decode cX4_raiseCube 45 = .ok (.iaload, 1) := by decide +kernel
theorem dX4_raiseCube_46 : decode cX4_raiseCube 46 = .ok (.invokevirtual 128, 3) := by decide +kernel
theorem dX4_raiseCube_49 : decode cX4_raiseCube 49 = .ok (.lstore_n 3, 1) := by decide +kernel
theorem dX4_raiseCube_50 : decode cX4_raiseCube 50 = .ok (.lload_n 3, 1) := by decide +kernel
theorem dX4_raiseCube_51 : decode cX4_raiseCube 51 = .ok (.aload_n 0, 1) := by decide +kernel
theorem dX4_raiseCube_52 : decode cX4_raiseCube 52 = .ok (.getfield 22, 3) := by decide +kernel
theorem dX4_raiseCube_55 : decode cX4_raiseCube 55 = .ok (.iload_n 2, 1) := by decide +kernel
theorem dX4_raiseCube_56 : decode cX4_raiseCube 56 = .ok (.laload, 1) := by decide +kernel
theorem dX4_raiseCube_57 : decode cX4_raiseCube 57 = .ok (.land, 1) := by decide +kernel
theorem dX4_raiseCube_58 : decode cX4_raiseCube 58 = .ok (.lconst 0, 1) := by decide +kernel
theorem dX4_raiseCube_59 : decode cX4_raiseCube 59 = .ok (.lcmp, 1) := by decide +kernel
theorem dX4_raiseCube_60 : decode cX4_raiseCube 60 = .ok (.ifCond .ne 49, 3) := by decide +kernel
theorem dX4_raiseCube_63 : decode cX4_raiseCube 63 = .ok (.aload_n 0, 1) := by decide +kernel
theorem dX4_raiseCube_64 : decode cX4_raiseCube 64 = .ok (.getfield 18, 3) := by decide +kernel
theorem dX4_raiseCube_67 : decode cX4_raiseCube 67 = .ok (.getfield 178, 3) := by decide +kernel
theorem dX4_raiseCube_70 : decode cX4_raiseCube 70 = .ok (.iload_n 1, 1) := by decide +kernel
theorem dX4_raiseCube_71 : decode cX4_raiseCube 71 = .ok (.iload_n 2, 1) := by decide +kernel
theorem dX4_raiseCube_72 : decode cX4_raiseCube 72 = .ok (.iconst 1, 1) := by decide +kernel
theorem dX4_raiseCube_73 : decode cX4_raiseCube 73 = .ok (.iadd, 1) := by decide +kernel
theorem dX4_raiseCube_74 : decode cX4_raiseCube 74 = .ok (.iastore, 1) := by decide +kernel
theorem dX4_raiseCube_75 : decode cX4_raiseCube 75 = .ok (.aload_n 0, 1) := by decide +kernel
theorem dX4_raiseCube_76 : decode cX4_raiseCube 76 = .ok (.getfield 22, 3) := by decide +kernel
theorem dX4_raiseCube_79 : decode cX4_raiseCube 79 = .ok (.iload_n 2, 1) := by decide +kernel
theorem dX4_raiseCube_80 : decode cX4_raiseCube 80 = .ok (.iconst 1, 1) := by decide +kernel
theorem dX4_raiseCube_81 : decode cX4_raiseCube 81 = .ok (.iadd, 1) := by decide +kernel
theorem dX4_raiseCube_82 : decode cX4_raiseCube 82 = .ok (.dup2, 1) := by decide +kernel
theorem dX4_raiseCube_83 : decode cX4_raiseCube 83 = .ok (.laload, 1) := by decide +kernel
theorem dX4_raiseCube_84 : decode cX4_raiseCube 84 = .ok (.aload_n 0, 1) := by decide +kernel
theorem dX4_raiseCube_85 : decode cX4_raiseCube 85 = .ok (.getfield 18, 3) := by decide +kernel
theorem dX4_raiseCube_88 : decode cX4_raiseCube 88 = .ok (.getfield 181, 3) := by decide +kernel
theorem dX4_raiseCube_91 : decode cX4_raiseCube 91 = .ok (.iload_n 1, 1) := by decide +kernel
theorem dX4_raiseCube_92 : decode cX4_raiseCube 92 = .ok (.laload, 1) := by decide +kernel
theorem dX4_raiseCube_93 : decode cX4_raiseCube 93 = .ok (.ldc2_w 132, 3) := by decide +kernel
theorem dX4_raiseCube_96 : decode cX4_raiseCube 96 = .ok (.lxor, 1) := by decide +kernel
theorem dX4_raiseCube_97 : decode cX4_raiseCube 97 = .ok (.land, 1) := by decide +kernel
theorem dX4_raiseCube_98 : decode cX4_raiseCube 98 = .ok (.lastore, 1) := by decide +kernel
theorem dX4_raiseCube_99 : decode cX4_raiseCube 99 = .ok (.aload_n 0, 1) := by decide +kernel
theorem dX4_raiseCube_100 : decode cX4_raiseCube 100 = .ok (.dup, 1) := by decide +kernel
theorem dX4_raiseCube_101 : decode cX4_raiseCube 101 = .ok (.getfield 84, 3) := by decide +kernel
theorem dX4_raiseCube_104 : decode cX4_raiseCube 104 = .ok (.iconst 1, 1) := by decide +kernel
theorem dX4_raiseCube_105 : decode cX4_raiseCube 105 = .ok (.iadd, 1) := by decide +kernel
theorem dX4_raiseCube_106 : decode cX4_raiseCube 106 = .ok (.putfield 84, 3) := by decide +kernel
theorem dX4_raiseCube_109 : decode cX4_raiseCube 109 = .ok (.return_, 1) := by decide +kernel
theorem dX4_frameAt_0 : decode cX4_frameAt 0 = .ok (.iload_n 1, 1) := by decide +kernel
theorem dX4_frameAt_1 : decode cX4_frameAt 1 = .ok (.ifCond .lt 18, 3) := by decide +kernel
theorem dX4_frameAt_4 : decode cX4_frameAt 4 = .ok (.iload_n 1, 1) := by decide +kernel
theorem dX4_frameAt_5 : decode cX4_frameAt 5 = .ok (.bipush 70, 2) := by decide +kernel
theorem dX4_frameAt_7 : decode cX4_frameAt 7 = .ok (.if_icmp .ge 12, 3) := by decide +kernel
theorem dX4_frameAt_10 : decode cX4_frameAt 10 = .ok (.aload_n 0, 1) := by decide +kernel
theorem dX4_frameAt_11 : decode cX4_frameAt 11 = .ok (.getfield 22, 3) := by decide +kernel
theorem dX4_frameAt_14 : decode cX4_frameAt 14 = .ok (.iload_n 1, 1) := by decide +kernel
theorem dX4_frameAt_15 : decode cX4_frameAt 15 = .ok (.laload, 1) := by decide +kernel
theorem dX4_frameAt_16 : decode cX4_frameAt 16 = .ok (.goto 4, 3) := by decide +kernel
theorem dX4_frameAt_19 : decode cX4_frameAt 19 = .ok (.lconst 0, 1) := by decide +kernel
theorem dX4_frameAt_20 : decode cX4_frameAt 20 = .ok (.lreturn, 1) := by decide +kernel
theorem dX4_number_0 : decode cX4_number 0 = .ok (.iload_n 1, 1) := by decide +kernel
theorem dX4_number_1 : decode cX4_number 1 = .ok (.tableswitch 81 0 6 #[43, 48, 53, 61, 66, 71, 76], 43) := by decide +kernel
theorem dX4_number_44 : decode cX4_number 44 = .ok (.aload_n 0, 1) := by decide +kernel
theorem dX4_number_45 : decode cX4_number 45 = .ok (.getfield 49, 3) := by decide +kernel
theorem dX4_number_48 : decode cX4_number 48 = .ok (.ireturn, 1) := by decide +kernel
theorem dX4_number_49 : decode cX4_number 49 = .ok (.aload_n 0, 1) := by decide +kernel
theorem dX4_number_50 : decode cX4_number 50 = .ok (.getfield 72, 3) := by decide +kernel
theorem dX4_number_53 : decode cX4_number 53 = .ok (.ireturn, 1) := by decide +kernel
theorem dX4_number_54 : decode cX4_number 54 = .ok (.aload_n 0, 1) := by decide +kernel
theorem dX4_number_55 : decode cX4_number 55 = .ok (.getfield 18, 3) := by decide +kernel
theorem dX4_number_58 : decode cX4_number 58 = .ok (.getfield 63, 3) := by decide +kernel
theorem dX4_number_61 : decode cX4_number 61 = .ok (.ireturn, 1) := by decide +kernel
theorem dX4_number_62 : decode cX4_number 62 = .ok (.aload_n 0, 1) := by decide +kernel
theorem dX4_number_63 : decode cX4_number 63 = .ok (.getfield 75, 3) := by decide +kernel
theorem dX4_number_66 : decode cX4_number 66 = .ok (.ireturn, 1) := by decide +kernel
theorem dX4_number_67 : decode cX4_number 67 = .ok (.aload_n 0, 1) := by decide +kernel
theorem dX4_number_68 : decode cX4_number 68 = .ok (.getfield 78, 3) := by decide +kernel
theorem dX4_number_71 : decode cX4_number 71 = .ok (.ireturn, 1) := by decide +kernel
theorem dX4_number_72 : decode cX4_number 72 = .ok (.aload_n 0, 1) := by decide +kernel
theorem dX4_number_73 : decode cX4_number 73 = .ok (.getfield 81, 3) := by decide +kernel
theorem dX4_number_76 : decode cX4_number 76 = .ok (.ireturn, 1) := by decide +kernel
theorem dX4_number_77 : decode cX4_number 77 = .ok (.aload_n 0, 1) := by decide +kernel
theorem dX4_number_78 : decode cX4_number 78 = .ok (.getfield 84, 3) := by decide +kernel
theorem dX4_number_81 : decode cX4_number 81 = .ok (.ireturn, 1) := by decide +kernel
theorem dX4_number_82 : decode cX4_number 82 = .ok (.aload_n 0, 1) := by decide +kernel
theorem dX4_number_83 : decode cX4_number 83 = .ok (.getfield 49, 3) := by decide +kernel
theorem dX4_number_86 : decode cX4_number 86 = .ok (.ifCond .ne 17, 3) := by decide +kernel
theorem dX4_number_89 : decode cX4_number 89 = .ok (.aload_n 0, 1) := by decide +kernel
theorem dX4_number_90 : decode cX4_number 90 = .ok (.getfield 18, 3) := by decide +kernel
theorem dX4_number_93 : decode cX4_number 93 = .ok (.aload_n 0, 1) := by decide +kernel
theorem dX4_number_94 : decode cX4_number 94 = .ok (.getfield 87, 3) := by decide +kernel
theorem dX4_number_97 : decode cX4_number 97 = .ok (.invokevirtual 184, 3) := by decide +kernel
theorem dX4_number_100 : decode cX4_number 100 = .ok (.goto 4, 3) := by decide +kernel
theorem dX4_number_103 : decode cX4_number 103 = .ok (.iconst 0, 1) := by decide +kernel
theorem dX4_number_104 : decode cX4_number 104 = .ok (.ireturn, 1) := by decide +kernel
theorem dX4_certificateStates_0 : decode cX4_certificateStates 0 = .ok (.aload_n 0, 1) := by decide +kernel
theorem dX4_certificateStates_1 : decode cX4_certificateStates 1 = .ok (.getfield 9, 3) := by decide +kernel
theorem dX4_certificateStates_4 : decode cX4_certificateStates 4 = .ok (.getfield 90, 3) := by decide +kernel
theorem dX4_certificateStates_7 : decode cX4_certificateStates 7 = .ok (.aload_n 0, 1) := by decide +kernel
theorem dX4_certificateStates_8 : decode cX4_certificateStates 8 = .ok (.getfield 18, 3) := by decide +kernel
theorem dX4_certificateStates_11 : decode cX4_certificateStates 11 = .ok (.aload_n 0, 1) := by decide +kernel
theorem dX4_certificateStates_12 : decode cX4_certificateStates 12 = .ok (.getfield 87, 3) := by decide +kernel
theorem dX4_certificateStates_15 : decode cX4_certificateStates 15 = .ok (.invokevirtual 187, 3) := by decide +kernel
theorem dX4_certificateStates_18 : decode cX4_certificateStates 18 = .ok (.ldc2_w 132, 3) := by decide +kernel
theorem dX4_certificateStates_21 : decode cX4_certificateStates 21 = .ok (.lxor, 1) := by decide +kernel
theorem dX4_certificateStates_22 : decode cX4_certificateStates 22 = .ok (.land, 1) := by decide +kernel
theorem dX4_certificateStates_23 : decode cX4_certificateStates 23 = .ok (.lreturn, 1) := by decide +kernel
theorem dX4_countNeededCubes_0 : decode cX4_countNeededCubes 0 = .ok (.iconst 0, 1) := by decide +kernel
theorem dX4_countNeededCubes_1 : decode cX4_countNeededCubes 1 = .ok (.istore_n 2, 1) := by decide +kernel
theorem dX4_countNeededCubes_2 : decode cX4_countNeededCubes 2 = .ok (.iconst 0, 1) := by decide +kernel
theorem dX4_countNeededCubes_3 : decode cX4_countNeededCubes 3 = .ok (.istore_n 3, 1) := by decide +kernel
theorem dX4_countNeededCubes_4 : decode cX4_countNeededCubes 4 = .ok (.iload_n 3, 1) := by decide +kernel
theorem dX4_countNeededCubes_5 : decode cX4_countNeededCubes 5 = .ok (.aload_n 0, 1) := by decide +kernel
theorem dX4_countNeededCubes_6 : decode cX4_countNeededCubes 6 = .ok (.getfield 18, 3) := by decide +kernel
theorem dX4_countNeededCubes_9 : decode cX4_countNeededCubes 9 = .ok (.getfield 63, 3) := by decide +kernel
theorem dX4_countNeededCubes_12 : decode cX4_countNeededCubes 12 = .ok (.if_icmp .ge 43, 3) := by decide +kernel
theorem dX4_countNeededCubes_15 : decode cX4_countNeededCubes 15 = .ok (.iload_n 3, 1) := by decide +kernel
theorem dX4_countNeededCubes_16 : decode cX4_countNeededCubes 16 = .ok (.sipush 729, 3) := by decide +kernel
theorem dX4_countNeededCubes_19 : decode cX4_countNeededCubes 19 = .ok (.if_icmp .ge 36, 3) := by decide +kernel
theorem dX4_countNeededCubes_22 : decode cX4_countNeededCubes 22 = .ok (.aload_n 0, 1) := by decide +kernel
theorem dX4_countNeededCubes_23 : decode cX4_countNeededCubes 23 = .ok (.getfield 29, 3) := by decide +kernel
theorem dX4_countNeededCubes_26 : decode cX4_countNeededCubes 26 = .ok (.iload_n 3, 1) := by decide +kernel
theorem dX4_countNeededCubes_27 : decode cX4_countNeededCubes 27 = .ok (.aload_n 0, 1) := by decide +kernel
theorem dX4_countNeededCubes_28 : decode cX4_countNeededCubes 28 = .ok (.getfield 18, 3) := by decide +kernel
theorem dX4_countNeededCubes_31 : decode cX4_countNeededCubes 31 = .ok (.getfield 178, 3) := by decide +kernel
theorem dX4_countNeededCubes_34 : decode cX4_countNeededCubes 34 = .ok (.iload_n 3, 1) := by decide +kernel
theorem dX4_countNeededCubes_35 : decode cX4_countNeededCubes 35 = .ok (.iaload, 1) := by decide +kernel
theorem dX4_countNeededCubes_36 : decode cX4_countNeededCubes 36 = .ok (.aload_n 0, 1) := by decide +kernel
theorem dX4_countNeededCubes_37 : decode cX4_countNeededCubes 37 = .ok (.getfield 87, 3) := by decide +kernel
theorem dX4_countNeededCubes_40 : decode cX4_countNeededCubes 40 = .ok (.if_icmp .gt 7, 3) := by decide +kernel
theorem dX4_countNeededCubes_43 : decode cX4_countNeededCubes 43 = .ok (.iconst 1, 1) := by decide +kernel
theorem dX4_countNeededCubes_44 : decode cX4_countNeededCubes 44 = .ok (.goto 4, 3) := by decide +kernel
theorem dX4_countNeededCubes_47 : decode cX4_countNeededCubes 47 = .ok (.iconst 0, 1) := by decide +kernel
theorem dX4_countNeededCubes_48 : decode cX4_countNeededCubes 48 = .ok (.bastore, 1) := by decide +kernel
theorem dX4_countNeededCubes_49 : decode cX4_countNeededCubes 49 = .ok (.iinc 3 1, 3) := by decide +kernel
theorem dX4_countNeededCubes_52 : decode cX4_countNeededCubes 52 = .ok (.goto (-48), 3) := by decide +kernel
theorem dX4_countNeededCubes_55 : decode cX4_countNeededCubes 55 = .ok (.iconst 0, 1) := by decide +kernel
theorem dX4_countNeededCubes_56 : decode cX4_countNeededCubes 56 = .ok (.istore_n 3, 1) := by decide +kernel
theorem dX4_countNeededCubes_57 : decode cX4_countNeededCubes 57 = .ok (.iload_n 3, 1) := by decide +kernel
theorem dX4_countNeededCubes_58 : decode cX4_countNeededCubes 58 = .ok (.aload_n 0, 1) := by decide +kernel
theorem dX4_countNeededCubes_59 : decode cX4_countNeededCubes 59 = .ok (.getfield 18, 3) := by decide +kernel
theorem dX4_countNeededCubes_62 : decode cX4_countNeededCubes 62 = .ok (.getfield 63, 3) := by decide +kernel
theorem dX4_countNeededCubes_65 : decode cX4_countNeededCubes 65 = .ok (.if_icmp .ge 108, 3) := by decide +kernel
theorem dX4_countNeededCubes_68 : decode cX4_countNeededCubes 68 = .ok (.iload_n 3, 1) := by decide +kernel
theorem dX4_countNeededCubes_69 : decode cX4_countNeededCubes 69 = .ok (.sipush 729, 3) := by decide +kernel
theorem dX4_countNeededCubes_72 : decode cX4_countNeededCubes 72 = .ok (.if_icmp .ge 101, 3) := by decide +kernel
theorem dX4_countNeededCubes_75 : decode cX4_countNeededCubes 75 = .ok (.aload_n 0, 1) := by decide +kernel
theorem dX4_countNeededCubes_76 : decode cX4_countNeededCubes 76 = .ok (.getfield 29, 3) := by decide +kernel
theorem dX4_countNeededCubes_79 : decode cX4_countNeededCubes 79 = .ok (.iload_n 3, 1) := by decide +kernel
theorem dX4_countNeededCubes_80 : decode cX4_countNeededCubes 80 = .ok (.baload, 1) := by decide +kernel
theorem dX4_countNeededCubes_81 : decode cX4_countNeededCubes 81 = .ok (.ifCond .eq 6, 3) := by decide +kernel
theorem dX4_countNeededCubes_84 : decode cX4_countNeededCubes 84 = .ok (.goto 83, 3) := by decide +kernel
theorem dX4_countNeededCubes_87 : decode cX4_countNeededCubes 87 = .ok (.aload_n 0, 1) := by decide +kernel
theorem dX4_countNeededCubes_88 : decode cX4_countNeededCubes 88 = .ok (.getfield 29, 3) := by decide +kernel
theorem dX4_countNeededCubes_91 : decode cX4_countNeededCubes 91 = .ok (.iload_n 3, 1) := by decide +kernel
theorem dX4_countNeededCubes_92 : decode cX4_countNeededCubes 92 = .ok (.iconst 1, 1) := by decide +kernel
theorem dX4_countNeededCubes_93 : decode cX4_countNeededCubes 93 = .ok (.bastore, 1) := by decide +kernel
theorem dX4_countNeededCubes_94 : decode cX4_countNeededCubes 94 = .ok (.aload_n 0, 1) := by decide +kernel
theorem dX4_countNeededCubes_95 : decode cX4_countNeededCubes 95 = .ok (.getfield 9, 3) := by decide +kernel
theorem dX4_countNeededCubes_98 : decode cX4_countNeededCubes 98 = .ok (.getfield 90, 3) := by decide +kernel
theorem dX4_countNeededCubes_101 : decode cX4_countNeededCubes 101 = .ok (.aload_n 0, 1) := by decide +kernel
theorem dX4_countNeededCubes_102 : decode cX4_countNeededCubes 102 = .ok (.invokevirtual 190, 3) := by decide +kernel
theorem dX4_countNeededCubes_105 : decode cX4_countNeededCubes 105 = .ok (.ldc2_w 132, 3) := by decide +kernel
theorem dX4_countNeededCubes_108 : decode cX4_countNeededCubes 108 = .ok (.lxor, 1) := by decide +kernel
theorem dX4_countNeededCubes_109 : decode cX4_countNeededCubes 109 = .ok (.land, 1) := by decide +kernel
theorem dX4_countNeededCubes_110 : decode cX4_countNeededCubes 110 = .ok (.lstore 4, 2) := by decide +kernel
theorem dX4_countNeededCubes_112 : decode cX4_countNeededCubes 112 = .ok (.aload_n 1, 1) := by decide +kernel
theorem dX4_countNeededCubes_113 : decode cX4_countNeededCubes 113 = .ok (.lload 4, 2) := by decide +kernel
theorem dX4_countNeededCubes_115 : decode cX4_countNeededCubes 115 = .ok (.invokevirtual 193, 3) := by decide +kernel
theorem dX4_countNeededCubes_118 : decode cX4_countNeededCubes 118 = .ok (.lload 4, 2) := by decide +kernel
theorem dX4_countNeededCubes_120 : decode cX4_countNeededCubes 120 = .ok (.ldc2_w 132, 3) := by decide +kernel
theorem dX4_countNeededCubes_123 : decode cX4_countNeededCubes 123 = .ok (.lxor, 1) := by decide +kernel
theorem dX4_countNeededCubes_124 : decode cX4_countNeededCubes 124 = .ok (.land, 1) := by decide +kernel
theorem dX4_countNeededCubes_125 : decode cX4_countNeededCubes 125 = .ok (.lconst 0, 1) := by decide +kernel
theorem dX4_countNeededCubes_126 : decode cX4_countNeededCubes 126 = .ok (.lcmp, 1) := by decide +kernel
theorem dX4_countNeededCubes_127 : decode cX4_countNeededCubes 127 = .ok (.ifCond .ne 7, 3) := by decide +kernel
theorem dX4_countNeededCubes_130 : decode cX4_countNeededCubes 130 = .ok (.iconst 1, 1) := by decide +kernel
theorem dX4_countNeededCubes_131 : decode cX4_countNeededCubes 131 = .ok (.goto 4, 3) := by decide +kernel
theorem dX4_countNeededCubes_134 : decode cX4_countNeededCubes 134 = .ok (.iconst 0, 1) := by decide +kernel
theorem dX4_countNeededCubes_135 : decode cX4_countNeededCubes 135 = .ok (.istore 6, 2) := by decide +kernel
theorem dX4_countNeededCubes_137 : decode cX4_countNeededCubes 137 = .ok (.iload 6, 2) := by decide +kernel
theorem dX4_countNeededCubes_139 : decode cX4_countNeededCubes 139 = .ok (.ifCond .eq 18, 3) := by decide +kernel
theorem dX4_countNeededCubes_142 : decode cX4_countNeededCubes 142 = .ok (.lload 4, 2) := by decide +kernel
theorem dX4_countNeededCubes_144 : decode cX4_countNeededCubes 144 = .ok (.aload_n 0, 1) := by decide +kernel
theorem dX4_countNeededCubes_145 : decode cX4_countNeededCubes 145 = .ok (.getfield 9, 3) := by decide +kernel
theorem dX4_countNeededCubes_148 : decode cX4_countNeededCubes 148 = .ok (.invokevirtual 46, 3) := by decide +kernel
theorem dX4_countNeededCubes_151 : decode cX4_countNeededCubes 151 = .ok (.land, 1) := by decide +kernel
theorem dX4_countNeededCubes_152 : decode cX4_countNeededCubes 152 = .ok (.lconst 0, 1) := by decide +kernel
theorem dX4_countNeededCubes_153 : decode cX4_countNeededCubes 153 = .ok (.lcmp, 1) := by decide +kernel
theorem dX4_countNeededCubes_154 : decode cX4_countNeededCubes 154 = .ok (.ifCond .eq 13, 3) := by decide +kernel
theorem dX4_countNeededCubes_157 : decode cX4_countNeededCubes 157 = .ok (.aload_n 0, 1) := by decide +kernel
theorem dX4_countNeededCubes_158 : decode cX4_countNeededCubes 158 = .ok (.getfield 29, 3) := by decide +kernel
theorem dX4_countNeededCubes_161 : decode cX4_countNeededCubes 161 = .ok (.iload_n 3, 1) := by decide +kernel
theorem dX4_countNeededCubes_162 : decode cX4_countNeededCubes 162 = .ok (.iconst 0, 1) := by decide +kernel
theorem dX4_countNeededCubes_163 : decode cX4_countNeededCubes 163 = .ok (.bastore, 1) := by decide +kernel
theorem dX4_countNeededCubes_164 : decode cX4_countNeededCubes 164 = .ok (.iinc 2 1, 3) := by decide +kernel
theorem dX4_countNeededCubes_167 : decode cX4_countNeededCubes 167 = .ok (.iinc 3 1, 3) := by decide +kernel
theorem dX4_countNeededCubes_170 : decode cX4_countNeededCubes 170 = .ok (.goto (-113), 3) := by decide +kernel
theorem dX4_countNeededCubes_173 : decode cX4_countNeededCubes 173 = .ok (.iload_n 2, 1) := by decide +kernel
theorem dX4_countNeededCubes_174 : decode cX4_countNeededCubes 174 = .ok (.ireturn, 1) := by decide +kernel
theorem dX4_unionOfKept_0 : decode cX4_unionOfKept 0 = .ok (.lconst 0, 1) := by decide +kernel
theorem dX4_unionOfKept_1 : decode cX4_unionOfKept 1 = .ok (.lstore_n 1, 1) := by decide +kernel
theorem dX4_unionOfKept_2 : decode cX4_unionOfKept 2 = .ok (.iconst 0, 1) := by decide +kernel
theorem dX4_unionOfKept_3 : decode cX4_unionOfKept 3 = .ok (.istore_n 3, 1) := by decide +kernel
theorem dX4_unionOfKept_4 : decode cX4_unionOfKept 4 = .ok (.iload_n 3, 1) := by decide +kernel
theorem dX4_unionOfKept_5 : decode cX4_unionOfKept 5 = .ok (.aload_n 0, 1) := by decide +kernel
theorem dX4_unionOfKept_6 : decode cX4_unionOfKept 6 = .ok (.getfield 18, 3) := by decide +kernel
theorem dX4_unionOfKept_9 : decode cX4_unionOfKept 9 = .ok (.getfield 63, 3) := by decide +kernel
theorem dX4_unionOfKept_12 : decode cX4_unionOfKept 12 = .ok (.if_icmp .ge 37, 3) := by decide +kernel
theorem dX4_unionOfKept_15 : decode cX4_unionOfKept 15 = .ok (.iload_n 3, 1) := by decide +kernel
theorem dX4_unionOfKept_16 : decode cX4_unionOfKept 16 = .ok (.sipush 729, 3) := by decide +kernel
theorem dX4_unionOfKept_19 : decode cX4_unionOfKept 19 = .ok (.if_icmp .ge 30, 3) := by decide +kernel
theorem dX4_unionOfKept_22 : decode cX4_unionOfKept 22 = .ok (.aload_n 0, 1) := by decide +kernel
theorem dX4_unionOfKept_23 : decode cX4_unionOfKept 23 = .ok (.getfield 29, 3) := by decide +kernel
theorem dX4_unionOfKept_26 : decode cX4_unionOfKept 26 = .ok (.iload_n 3, 1) := by decide +kernel
theorem dX4_unionOfKept_27 : decode cX4_unionOfKept 27 = .ok (.baload, 1) := by decide +kernel
theorem dX4_unionOfKept_28 : decode cX4_unionOfKept 28 = .ok (.ifCond .ne 15, 3) := by decide +kernel
theorem dX4_unionOfKept_31 : decode cX4_unionOfKept 31 = .ok (.lload_n 1, 1) := by decide +kernel
theorem dX4_unionOfKept_32 : decode cX4_unionOfKept 32 = .ok (.aload_n 0, 1) := by decide +kernel
theorem dX4_unionOfKept_33 : decode cX4_unionOfKept 33 = .ok (.getfield 18, 3) := by decide +kernel
theorem dX4_unionOfKept_36 : decode cX4_unionOfKept 36 = .ok (.getfield 181, 3) := by decide +kernel
theorem dX4_unionOfKept_39 : decode cX4_unionOfKept 39 = .ok (.iload_n 3, 1) := by decide +kernel
theorem dX4_unionOfKept_40 : decode cX4_unionOfKept 40 = .ok (.laload, 1) := by decide +kernel
theorem dX4_unionOfKept_41 : decode cX4_unionOfKept 41 = .ok (.lor, 1) := by decide +kernel
theorem dX4_unionOfKept_42 : decode cX4_unionOfKept 42 = .ok (.lstore_n 1, 1) := by decide +kernel
theorem dX4_unionOfKept_43 : decode cX4_unionOfKept 43 = .ok (.iinc 3 1, 3) := by decide +kernel
theorem dX4_unionOfKept_46 : decode cX4_unionOfKept 46 = .ok (.goto (-42), 3) := by decide +kernel
theorem dX4_unionOfKept_49 : decode cX4_unionOfKept 49 = .ok (.lload_n 1, 1) := by decide +kernel
theorem dX4_unionOfKept_50 : decode cX4_unionOfKept 50 = .ok (.lreturn, 1) := by decide +kernel
theorem dX5_init_0 : decode cX5_init 0 = .ok (.aload_n 0, 1) := by decide +kernel
theorem dX5_init_1 : decode cX5_init 1 = .ok (.invokespecial 3, 3) := by decide +kernel
theorem dX5_init_4 : decode cX5_init 4 = .ok (.aload_n 0, 1) := by decide +kernel
theorem dX5_init_5 : decode cX5_init 5 = .ok (.aload_n 1, 1) := by decide +kernel
theorem dX5_init_6 : decode cX5_init 6 = .ok (.putfield 9, 3) := by decide +kernel
theorem dX5_init_9 : decode cX5_init 9 = .ok (.aload_n 0, 1) := by decide +kernel
theorem dX5_init_10 : decode cX5_init 10 = .ok (.aload_n 2, 1) := by decide +kernel
theorem dX5_init_11 : decode cX5_init 11 = .ok (.putfield 15, 3) := by decide +kernel
theorem dX5_init_14 : decode cX5_init 14 = .ok (.aload_n 0, 1) := by decide +kernel
theorem dX5_init_15 : decode cX5_init 15 = .ok (.bipush 7, 2) := by decide +kernel
theorem dX5_init_17 : decode cX5_init 17 = .ok (.newarray .long, 2) := by decide +kernel
theorem dX5_init_19 : decode cX5_init 19 = .ok (.putfield 19, 3) := by decide +kernel
theorem dX5_init_22 : decode cX5_init 22 = .ok (.aload_n 0, 1) := by decide +kernel
theorem dX5_init_23 : decode cX5_init 23 = .ok (.sipush 232, 3) := by decide +kernel
theorem dX5_init_26 : decode cX5_init 26 = .ok (.newarray .long, 2) := by decide +kernel
theorem dX5_init_28 : decode cX5_init 28 = .ok (.putfield 23, 3) := by decide +kernel
theorem dX5_init_31 : decode cX5_init 31 = .ok (.return_, 1) := by decide +kernel
theorem dX5_leastInduction_0 : decode cX5_leastInduction 0 = .ok (.aload_n 0, 1) := by decide +kernel
theorem dX5_leastInduction_1 : decode cX5_leastInduction 1 = .ok (.getfield 15, 3) := by decide +kernel
theorem dX5_leastInduction_4 : decode cX5_leastInduction 4 = .ok (.getfield 26, 3) := by decide +kernel
theorem dX5_leastInduction_7 : decode cX5_leastInduction 7 = .ok (.istore_n 2, 1) := by decide +kernel
theorem dX5_leastInduction_8 : decode cX5_leastInduction 8 = .ok (.iconst 0, 1) := by decide +kernel
theorem dX5_leastInduction_9 : decode cX5_leastInduction 9 = .ok (.istore_n 3, 1) := by decide +kernel
theorem dX5_leastInduction_10 : decode cX5_leastInduction 10 = .ok (.iload_n 3, 1) := by decide +kernel
theorem dX5_leastInduction_11 : decode cX5_leastInduction 11 = .ok (.bipush 6, 2) := by decide +kernel
theorem dX5_leastInduction_13 : decode cX5_leastInduction 13 = .ok (.if_icmp .gt 89, 3) := by decide +kernel
theorem dX5_leastInduction_16 : decode cX5_leastInduction 16 = .ok (.iload_n 2, 1) := by decide +kernel
theorem dX5_leastInduction_17 : decode cX5_leastInduction 17 = .ok (.iconst (-1), 1) := by decide +kernel
theorem dX5_leastInduction_18 : decode cX5_leastInduction 18 = .ok (.if_icmp .eq 10, 3) := by decide +kernel
theorem dX5_leastInduction_21 : decode cX5_leastInduction 21 = .ok (.iload_n 2, 1) := by decide +kernel
theorem dX5_leastInduction_22 : decode cX5_leastInduction 22 = .ok (.iload_n 3, 1) := by decide +kernel
theorem dX5_leastInduction_23 : decode cX5_leastInduction 23 = .ok (.if_icmp .ge 5, 3) := by decide +kernel
theorem dX5_leastInduction_26 : decode cX5_leastInduction 26 = .ok (.iconst (-1), 1) := by decide +kernel
theorem dX5_leastInduction_27 : decode cX5_leastInduction 27 = .ok (.ireturn, 1) := by decide +kernel
theorem dX5_leastInduction_28 : decode cX5_leastInduction 28 = .ok (.aload_n 0, 1) := by decide +kernel
theorem dX5_leastInduction_29 : decode cX5_leastInduction 29 = .ok (.getfield 19, 3) := by decide +kernel
theorem dX5_leastInduction_32 : decode cX5_leastInduction 32 = .ok (.iload_n 3, 1) := by decide +kernel
theorem dX5_leastInduction_33 : decode cX5_leastInduction 33 = .ok (.iload_n 3, 1) := by decide +kernel
theorem dX5_leastInduction_34 : decode cX5_leastInduction 34 = .ok (.ifCond .ne 13, 3) := by decide +kernel
theorem dX5_leastInduction_37 : decode cX5_leastInduction 37 = .ok (.aload_n 0, 1) := by decide +kernel
theorem dX5_leastInduction_38 : decode cX5_leastInduction 38 = .ok (.getfield 9, 3) := by decide +kernel
theorem dX5_leastInduction_41 : decode cX5_leastInduction 41 = .ok (.invokevirtual 32, 3) := by decide +kernel
theorem dX5_leastInduction_44 : decode cX5_leastInduction 44 = .ok (.goto 26, 3) := by decide +kernel
theorem dX5_leastInduction_47 : decode cX5_leastInduction 47 = .ok (.aload_n 0, 1) := by decide +kernel
theorem dX5_leastInduction_48 : decode cX5_leastInduction 48 = .ok (.getfield 9, 3) := by decide +kernel
theorem dX5_leastInduction_51 : decode cX5_leastInduction 51 = .ok (.invokevirtual 38, 3) := by decide +kernel
theorem dX5_leastInduction_54 : decode cX5_leastInduction 54 = .ok (.aload_n 0, 1) := by decide +kernel
theorem dX5_leastInduction_55 : decode cX5_leastInduction 55 = .ok (.getfield 15, 3) := by decide +kernel
theorem dX5_leastInduction_58 : decode cX5_leastInduction 58 = .ok (.aload_n 0, 1) := by decide +kernel
theorem dX5_leastInduction_59 : decode cX5_leastInduction 59 = .ok (.getfield 19, 3) := by decide +kernel
theorem dX5_leastInduction_62 : decode cX5_leastInduction 62 = .ok (.iload_n 3, 1) := by decide +kernel
theorem dX5_leastInduction_63 : decode cX5_leastInduction 63 = .ok (.iconst 1, 1) := by decide +kernel
theorem dX5_leastInduction_64 : decode cX5_leastInduction 64 = .ok (.isub, 1) := by decide +kernel
theorem dX5_leastInduction_65 : decode cX5_leastInduction 65 = .ok (.laload, 1) := by decide +kernel
theorem dX5_leastInduction_66 : decode cX5_leastInduction 66 = .ok (.invokevirtual 41, 3) := by decide +kernel
theorem dX5_leastInduction_69 : decode cX5_leastInduction 69 = .ok (.land, 1) := by decide +kernel
theorem dX5_leastInduction_70 : decode cX5_leastInduction 70 = .ok (.lastore, 1) := by decide +kernel
theorem dX5_leastInduction_71 : decode cX5_leastInduction 71 = .ok (.aload_n 0, 1) := by decide +kernel
theorem dX5_leastInduction_72 : decode cX5_leastInduction 72 = .ok (.getfield 19, 3) := by decide +kernel
theorem dX5_leastInduction_75 : decode cX5_leastInduction 75 = .ok (.iload_n 3, 1) := by decide +kernel
theorem dX5_leastInduction_76 : decode cX5_leastInduction 76 = .ok (.laload, 1) := by decide +kernel
theorem dX5_leastInduction_77 : decode cX5_leastInduction 77 = .ok (.lconst 0, 1) := by decide +kernel
theorem dX5_leastInduction_78 : decode cX5_leastInduction 78 = .ok (.lcmp, 1) := by decide +kernel
theorem dX5_leastInduction_79 : decode cX5_leastInduction 79 = .ok (.ifCond .eq 15, 3) := by decide +kernel
theorem dX5_leastInduction_82 : decode cX5_leastInduction 82 = .ok (.iload_n 1, 1) := by decide +kernel
theorem dX5_leastInduction_83 : decode cX5_leastInduction 83 = .ok (.ifCond .eq 13, 3) := by decide +kernel
theorem dX5_leastInduction_86 : decode cX5_leastInduction 86 = .ok (.aload_n 0, 1) := by decide +kernel
theorem dX5_leastInduction_87 : decode cX5_leastInduction 87 = .ok (.iload_n 3, 1) := by decide +kernel
theorem dX5_leastInduction_88 : decode cX5_leastInduction 88 = .ok (.invokevirtual 45, 3) := by decide +kernel
theorem dX5_leastInduction_91 : decode cX5_leastInduction 91 = .ok (.ifCond .ne 5, 3) := by decide +kernel
theorem dX5_leastInduction_94 : decode cX5_leastInduction 94 = .ok (.iload_n 3, 1) := by decide +kernel
theorem dX5_leastInduction_95 : decode cX5_leastInduction 95 = .ok (.ireturn, 1) := by decide +kernel
theorem dX5_leastInduction_96 : decode cX5_leastInduction 96 = .ok (.iinc 3 1, 3) := by decide +kernel
theorem dX5_leastInduction_99 : decode cX5_leastInduction 99 = .ok (.goto (-89), 3) := by decide +kernel
theorem dX5_leastInduction_102 : decode cX5_leastInduction 102 = .ok (.iconst (-1), 1) := by decide +kernel
theorem dX5_leastInduction_103 : decode cX5_leastInduction 103 = .ok (.ireturn, 1) := by decide +kernel
theorem dX5_hasSimpleSequence_0 : decode cX5_hasSimpleSequence 0 = .ok (.iconst 0, 1) := by decide +kernel
theorem dX5_hasSimpleSequence_1 : decode cX5_hasSimpleSequence 1 = .ok (.istore_n 2, 1) := by decide +kernel
theorem dX5_hasSimpleSequence_2 : decode cX5_hasSimpleSequence 2 = .ok (.iload_n 2, 1) := by decide +kernel
theorem dX5_hasSimpleSequence_3 : decode cX5_hasSimpleSequence 3 = .ok (.aload_n 0, 1) := by decide +kernel
theorem dX5_hasSimpleSequence_4 : decode cX5_hasSimpleSequence 4 = .ok (.getfield 9, 3) := by decide +kernel
theorem dX5_hasSimpleSequence_7 : decode cX5_hasSimpleSequence 7 = .ok (.getfield 49, 3) := by decide +kernel
theorem dX5_hasSimpleSequence_10 : decode cX5_hasSimpleSequence 10 = .ok (.if_icmp .ge 35, 3) := by decide +kernel
theorem dX5_hasSimpleSequence_13 : decode cX5_hasSimpleSequence 13 = .ok (.aload_n 0, 1) := by decide +kernel
theorem dX5_hasSimpleSequence_14 : decode cX5_hasSimpleSequence 14 = .ok (.iload_n 1, 1) := by decide +kernel
theorem dX5_hasSimpleSequence_15 : decode cX5_hasSimpleSequence 15 = .ok (.invokevirtual 52, 3) := by decide +kernel
theorem dX5_hasSimpleSequence_18 : decode cX5_hasSimpleSequence 18 = .ok (.iload_n 2, 1) := by decide +kernel
theorem dX5_hasSimpleSequence_19 : decode cX5_hasSimpleSequence 19 = .ok (.invokestatic 56, 3) := by decide +kernel
theorem dX5_hasSimpleSequence_22 : decode cX5_hasSimpleSequence 22 = .ok (.ifCond .eq 17, 3) := by decide +kernel
theorem dX5_hasSimpleSequence_25 : decode cX5_hasSimpleSequence 25 = .ok (.aload_n 0, 1) := by decide +kernel
theorem dX5_hasSimpleSequence_26 : decode cX5_hasSimpleSequence 26 = .ok (.iload_n 2, 1) := by decide +kernel
theorem dX5_hasSimpleSequence_27 : decode cX5_hasSimpleSequence 27 = .ok (.iload_n 1, 1) := by decide +kernel
theorem dX5_hasSimpleSequence_28 : decode cX5_hasSimpleSequence 28 = .ok (.lconst 1, 1) := by decide +kernel
theorem dX5_hasSimpleSequence_29 : decode cX5_hasSimpleSequence 29 = .ok (.iload_n 2, 1) := by decide +kernel
theorem dX5_hasSimpleSequence_30 : decode cX5_hasSimpleSequence 30 = .ok (.lshl, 1) := by decide +kernel
theorem dX5_hasSimpleSequence_31 : decode cX5_hasSimpleSequence 31 = .ok (.invokevirtual 60, 3) := by decide +kernel
theorem dX5_hasSimpleSequence_34 : decode cX5_hasSimpleSequence 34 = .ok (.ifCond .eq 5, 3) := by decide +kernel
theorem dX5_hasSimpleSequence_37 : decode cX5_hasSimpleSequence 37 = .ok (.iconst 1, 1) := by decide +kernel
theorem dX5_hasSimpleSequence_38 : decode cX5_hasSimpleSequence 38 = .ok (.ireturn, 1) := by decide +kernel
theorem dX5_hasSimpleSequence_39 : decode cX5_hasSimpleSequence 39 = .ok (.iinc 2 1, 3) := by decide +kernel
theorem dX5_hasSimpleSequence_42 : decode cX5_hasSimpleSequence 42 = .ok (.goto (-40), 3) := by decide +kernel
theorem dX5_hasSimpleSequence_45 : decode cX5_hasSimpleSequence 45 = .ok (.iconst 0, 1) := by decide +kernel
theorem dX5_hasSimpleSequence_46 : decode cX5_hasSimpleSequence 46 = .ok (.ireturn, 1) := by decide +kernel
theorem dX5_goesOnSimply_0 : decode cX5_goesOnSimply 0 = .ok (.iload_n 2, 1) := by decide +kernel
theorem dX5_goesOnSimply_1 : decode cX5_goesOnSimply 1 = .ok (.iconst 1, 1) := by decide +kernel
theorem dX5_goesOnSimply_2 : decode cX5_goesOnSimply 2 = .ok (.if_icmp .gt 5, 3) := by decide +kernel
theorem dX5_goesOnSimply_5 : decode cX5_goesOnSimply 5 = .ok (.iconst 1, 1) := by decide +kernel
theorem dX5_goesOnSimply_6 : decode cX5_goesOnSimply 6 = .ok (.ireturn, 1) := by decide +kernel
theorem dX5_goesOnSimply_7 : decode cX5_goesOnSimply 7 = .ok (.aload_n 0, 1) := by decide +kernel
theorem dX5_goesOnSimply_8 : decode cX5_goesOnSimply 8 = .ok (.iload_n 2, 1) := by decide +kernel
theorem dX5_goesOnSimply_9 : decode cX5_goesOnSimply 9 = .ok (.iconst 1, 1) := by decide +kernel
theorem dX5_goesOnSimply_10 : decode cX5_goesOnSimply 10 = .ok (.isub, 1) := by decide +kernel
theorem dX5_goesOnSimply_11 : decode cX5_goesOnSimply 11 = .ok (.invokevirtual 52, 3) := by decide +kernel
theorem dX5_goesOnSimply_14 : decode cX5_goesOnSimply 14 = .ok (.lload_n 3, 1) := by decide +kernel
theorem dX5_goesOnSimply_15 : decode cX5_goesOnSimply 15 = .ok (.ldc2_w 64, 3) := by decide +kernel
theorem dX5_goesOnSimply_18 : decode cX5_goesOnSimply 18 = .ok (.lxor, 1) := by decide +kernel
theorem dX5_goesOnSimply_19 : decode cX5_goesOnSimply 19 = .ok (.land, 1) := by decide +kernel
theorem dX5_goesOnSimply_20 : decode cX5_goesOnSimply 20 = .ok (.lstore 5, 2) := by decide +kernel
theorem dX5_goesOnSimply_22 : decode cX5_goesOnSimply 22 = .ok (.iconst 0, 1) := by decide +kernel
theorem dX5_goesOnSimply_23 : decode cX5_goesOnSimply 23 = .ok (.istore 7, 2) := by decide +kernel
theorem dX5_goesOnSimply_25 : decode cX5_goesOnSimply 25 = .ok (.iload 7, 2) := by decide +kernel
theorem dX5_goesOnSimply_27 : decode cX5_goesOnSimply 27 = .ok (.aload_n 0, 1) := by decide +kernel
theorem dX5_goesOnSimply_28 : decode cX5_goesOnSimply 28 = .ok (.getfield 9, 3) := by decide +kernel
theorem dX5_goesOnSimply_31 : decode cX5_goesOnSimply 31 = .ok (.getfield 66, 3) := by decide +kernel
theorem dX5_goesOnSimply_34 : decode cX5_goesOnSimply 34 = .ok (.if_icmp .ge 64, 3) := by decide +kernel
theorem dX5_goesOnSimply_37 : decode cX5_goesOnSimply 37 = .ok (.aload_n 0, 1) := by decide +kernel
theorem dX5_goesOnSimply_38 : decode cX5_goesOnSimply 38 = .ok (.getfield 15, 3) := by decide +kernel
theorem dX5_goesOnSimply_41 : decode cX5_goesOnSimply 41 = .ok (.iload_n 1, 1) := by decide +kernel
theorem dX5_goesOnSimply_42 : decode cX5_goesOnSimply 42 = .ok (.iload 7, 2) := by decide +kernel
theorem dX5_goesOnSimply_44 : decode cX5_goesOnSimply 44 = .ok (.invokevirtual 69, 3) := by decide +kernel
theorem dX5_goesOnSimply_47 : decode cX5_goesOnSimply 47 = .ok (.istore 8, 2) := by decide +kernel
theorem dX5_goesOnSimply_49 : decode cX5_goesOnSimply 49 = .ok (.lload 5, 2) := by decide +kernel
theorem dX5_goesOnSimply_51 : decode cX5_goesOnSimply 51 = .ok (.iload 8, 2) := by decide +kernel
theorem dX5_goesOnSimply_53 : decode cX5_goesOnSimply 53 = .ok (.invokestatic 56, 3) := by decide +kernel
theorem dX5_goesOnSimply_56 : decode cX5_goesOnSimply 56 = .ok (.ifCond .eq 36, 3) := by decide +kernel
theorem dX5_goesOnSimply_59 : decode cX5_goesOnSimply 59 = .ok (.lload 5, 2) := by decide +kernel
theorem dX5_goesOnSimply_61 : decode cX5_goesOnSimply 61 = .ok (.lconst 1, 1) := by decide +kernel
theorem dX5_goesOnSimply_62 : decode cX5_goesOnSimply 62 = .ok (.iload 8, 2) := by decide +kernel
theorem dX5_goesOnSimply_64 : decode cX5_goesOnSimply 64 = .ok (.lshl, 1) := by decide +kernel
theorem dX5_goesOnSimply_65 : decode cX5_goesOnSimply 65 = .ok (.ldc2_w 64, 3) := by decide +kernel
theorem dX5_goesOnSimply_68 : decode cX5_goesOnSimply 68 = .ok (.lxor, 1) := by decide +kernel
theorem dX5_goesOnSimply_69 : decode cX5_goesOnSimply 69 = .ok (.land, 1) := by decide +kernel
theorem dX5_goesOnSimply_70 : decode cX5_goesOnSimply 70 = .ok (.lstore 5, 2) := by decide +kernel
theorem dX5_goesOnSimply_72 : decode cX5_goesOnSimply 72 = .ok (.aload_n 0, 1) := by decide +kernel
theorem dX5_goesOnSimply_73 : decode cX5_goesOnSimply 73 = .ok (.iload 8, 2) := by decide +kernel
theorem dX5_goesOnSimply_75 : decode cX5_goesOnSimply 75 = .ok (.iload_n 2, 1) := by decide +kernel
theorem dX5_goesOnSimply_76 : decode cX5_goesOnSimply 76 = .ok (.iconst 1, 1) := by decide +kernel
theorem dX5_goesOnSimply_77 : decode cX5_goesOnSimply 77 = .ok (.isub, 1) := by decide +kernel
theorem dX5_goesOnSimply_78 : decode cX5_goesOnSimply 78 = .ok (.lload_n 3, 1) := by decide +kernel
theorem dX5_goesOnSimply_79 : decode cX5_goesOnSimply 79 = .ok (.lconst 1, 1) := by decide +kernel
theorem dX5_goesOnSimply_80 : decode cX5_goesOnSimply 80 = .ok (.iload 8, 2) := by decide +kernel
theorem dX5_goesOnSimply_82 : decode cX5_goesOnSimply 82 = .ok (.lshl, 1) := by decide +kernel
theorem dX5_goesOnSimply_83 : decode cX5_goesOnSimply 83 = .ok (.lor, 1) := by decide +kernel
theorem dX5_goesOnSimply_84 : decode cX5_goesOnSimply 84 = .ok (.invokevirtual 60, 3) := by decide +kernel
theorem dX5_goesOnSimply_87 : decode cX5_goesOnSimply 87 = .ok (.ifCond .eq 5, 3) := by decide +kernel
theorem dX5_goesOnSimply_90 : decode cX5_goesOnSimply 90 = .ok (.iconst 1, 1) := by decide +kernel
theorem dX5_goesOnSimply_91 : decode cX5_goesOnSimply 91 = .ok (.ireturn, 1) := by decide +kernel
theorem dX5_goesOnSimply_92 : decode cX5_goesOnSimply 92 = .ok (.iinc 7 1, 3) := by decide +kernel
theorem dX5_goesOnSimply_95 : decode cX5_goesOnSimply 95 = .ok (.goto (-70), 3) := by decide +kernel
theorem dX5_goesOnSimply_98 : decode cX5_goesOnSimply 98 = .ok (.iconst 0, 1) := by decide +kernel
theorem dX5_goesOnSimply_99 : decode cX5_goesOnSimply 99 = .ok (.ireturn, 1) := by decide +kernel
theorem dX5_startsAt_0 : decode cX5_startsAt 0 = .ok (.iload_n 1, 1) := by decide +kernel
theorem dX5_startsAt_1 : decode cX5_startsAt 1 = .ok (.ifCond .lt 18, 3) := by decide +kernel
theorem dX5_startsAt_4 : decode cX5_startsAt 4 = .ok (.iload_n 1, 1) := by decide +kernel
theorem dX5_startsAt_5 : decode cX5_startsAt 5 = .ok (.bipush 6, 2) := by decide +kernel
theorem dX5_startsAt_7 : decode cX5_startsAt 7 = .ok (.if_icmp .gt 12, 3) := by decide +kernel
theorem dX5_startsAt_10 : decode cX5_startsAt 10 = .ok (.aload_n 0, 1) := by decide +kernel
theorem dX5_startsAt_11 : decode cX5_startsAt 11 = .ok (.getfield 19, 3) := by decide +kernel
theorem dX5_startsAt_14 : decode cX5_startsAt 14 = .ok (.iload_n 1, 1) := by decide +kernel
theorem dX5_startsAt_15 : decode cX5_startsAt 15 = .ok (.laload, 1) := by decide +kernel
theorem dX5_startsAt_16 : decode cX5_startsAt 16 = .ok (.goto 4, 3) := by decide +kernel
theorem dX5_startsAt_19 : decode cX5_startsAt 19 = .ok (.lconst 0, 1) := by decide +kernel
theorem dX5_startsAt_20 : decode cX5_startsAt 20 = .ok (.lreturn, 1) := by decide +kernel
theorem dX5_eliminate_0 : decode cX5_eliminate 0 = .ok (.aload_n 0, 1) := by decide +kernel
theorem dX5_eliminate_1 : decode cX5_eliminate 1 = .ok (.iload_n 1, 1) := by decide +kernel
theorem dX5_eliminate_2 : decode cX5_eliminate 2 = .ok (.invokevirtual 73, 3) := by decide +kernel
theorem dX5_eliminate_5 : decode cX5_eliminate 5 = .ok (.aload_n 0, 1) := by decide +kernel
theorem dX5_eliminate_6 : decode cX5_eliminate 6 = .ok (.invokevirtual 77, 3) := by decide +kernel
theorem dX5_eliminate_9 : decode cX5_eliminate 9 = .ok (.lstore_n 2, 1) := by decide +kernel
theorem dX5_eliminate_10 : decode cX5_eliminate 10 = .ok (.iconst 0, 1) := by decide +kernel
theorem dX5_eliminate_11 : decode cX5_eliminate 11 = .ok (.istore 4, 2) := by decide +kernel
theorem dX5_eliminate_13 : decode cX5_eliminate 13 = .ok (.iload 4, 2) := by decide +kernel
theorem dX5_eliminate_15 : decode cX5_eliminate 15 = .ok (.sipush 232, 3) := by decide +kernel
theorem dX5_eliminate_18 : decode cX5_eliminate 18 = .ok (.if_icmp .gt 31, 3) := by decide +kernel
theorem dX5_eliminate_21 : decode cX5_eliminate 21 = .ok (.aload_n 0, 1) := by decide +kernel
theorem dX5_eliminate_22 : decode cX5_eliminate 22 = .ok (.aload_n 0, 1) := by decide +kernel
theorem dX5_eliminate_23 : decode cX5_eliminate 23 = .ok (.getfield 15, 3) := by decide +kernel
theorem dX5_eliminate_26 : decode cX5_eliminate 26 = .ok (.lload_n 2, 1) := by decide +kernel
theorem dX5_eliminate_27 : decode cX5_eliminate 27 = .ok (.invokevirtual 80, 3) := by decide +kernel
theorem dX5_eliminate_30 : decode cX5_eliminate 30 = .ok (.invokevirtual 83, 3) := by decide +kernel
theorem dX5_eliminate_33 : decode cX5_eliminate 33 = .ok (.ifCond .ne 5, 3) := by decide +kernel
theorem dX5_eliminate_36 : decode cX5_eliminate 36 = .ok (.lload_n 2, 1) := by decide +kernel
theorem dX5_eliminate_37 : decode cX5_eliminate 37 = .ok (.lreturn, 1) := by decide +kernel
theorem dX5_eliminate_38 : decode cX5_eliminate 38 = .ok (.aload_n 0, 1) := by decide +kernel
theorem dX5_eliminate_39 : decode cX5_eliminate 39 = .ok (.invokevirtual 77, 3) := by decide +kernel
theorem dX5_eliminate_42 : decode cX5_eliminate 42 = .ok (.lstore_n 2, 1) := by decide +kernel
theorem dX5_eliminate_43 : decode cX5_eliminate 43 = .ok (.iinc 4 1, 3) := by decide +kernel
theorem dX5_eliminate_46 : decode cX5_eliminate 46 = .ok (.goto (-33), 3) := by decide +kernel
theorem dX5_eliminate_49 : decode cX5_eliminate 49 = .ok (.lload_n 2, 1) := by decide +kernel
theorem dX5_eliminate_50 : decode cX5_eliminate 50 = .ok (.lreturn, 1) := by decide +kernel
theorem dX5_collectClauses_0 : decode cX5_collectClauses 0 = .ok (.aload_n 0, 1) := by decide +kernel
theorem dX5_collectClauses_1 : decode cX5_collectClauses 1 = .ok (.iconst 0, 1) := by decide +kernel
theorem dX5_collectClauses_2 : decode cX5_collectClauses 2 = .ok (.putfield 87, 3) := by decide +kernel
theorem dX5_collectClauses_5 : decode cX5_collectClauses 5 = .ok (.iconst 1, 1) := by decide +kernel
theorem dX5_collectClauses_6 : decode cX5_collectClauses 6 = .ok (.istore_n 2, 1) := by decide +kernel
theorem dX5_collectClauses_7 : decode cX5_collectClauses 7 = .ok (.iload_n 2, 1) := by decide +kernel
theorem dX5_collectClauses_8 : decode cX5_collectClauses 8 = .ok (.aload_n 0, 1) := by decide +kernel
theorem dX5_collectClauses_9 : decode cX5_collectClauses 9 = .ok (.getfield 9, 3) := by decide +kernel
theorem dX5_collectClauses_12 : decode cX5_collectClauses 12 = .ok (.getfield 49, 3) := by decide +kernel
theorem dX5_collectClauses_15 : decode cX5_collectClauses 15 = .ok (.if_icmp .ge 22, 3) := by decide +kernel
theorem dX5_collectClauses_18 : decode cX5_collectClauses 18 = .ok (.iload_n 2, 1) := by decide +kernel
theorem dX5_collectClauses_19 : decode cX5_collectClauses 19 = .ok (.invokestatic 90, 3) := by decide +kernel
theorem dX5_collectClauses_22 : decode cX5_collectClauses 22 = .ok (.iload_n 1, 1) := by decide +kernel
theorem dX5_collectClauses_23 : decode cX5_collectClauses 23 = .ok (.if_icmp .gt 8, 3) := by decide +kernel
theorem dX5_collectClauses_26 : decode cX5_collectClauses 26 = .ok (.aload_n 0, 1) := by decide +kernel
theorem dX5_collectClauses_27 : decode cX5_collectClauses 27 = .ok (.iload_n 2, 1) := by decide +kernel
theorem dX5_collectClauses_28 : decode cX5_collectClauses 28 = .ok (.invokevirtual 96, 3) := by decide +kernel
theorem dX5_collectClauses_31 : decode cX5_collectClauses 31 = .ok (.iinc 2 1, 3) := by decide +kernel
theorem dX5_collectClauses_34 : decode cX5_collectClauses 34 = .ok (.goto (-27), 3) := by decide +kernel
theorem dX5_collectClauses_37 : decode cX5_collectClauses 37 = .ok (.return_, 1) := by decide +kernel
theorem dX5_collectClausesOf_0 : decode cX5_collectClausesOf 0 = .ok (.iconst 0, 1) := by decide +kernel
theorem dX5_collectClausesOf_1 : decode cX5_collectClausesOf 1 = .ok (.istore_n 2, 1) := by decide +kernel
theorem dX5_collectClausesOf_2 : decode cX5_collectClausesOf 2 = .ok (.iload_n 2, 1) := by decide +kernel
theorem dX5_collectClausesOf_3 : decode cX5_collectClausesOf 3 = .ok (.iload_n 1, 1) := by decide +kernel
theorem dX5_collectClausesOf_4 : decode cX5_collectClausesOf 4 = .ok (.if_icmp .gt 90, 3) := by decide +kernel
theorem dX5_collectClausesOf_7 : decode cX5_collectClausesOf 7 = .ok (.aload_n 0, 1) := by decide +kernel
theorem dX5_collectClausesOf_8 : decode cX5_collectClausesOf 8 = .ok (.getfield 9, 3) := by decide +kernel
theorem dX5_collectClausesOf_11 : decode cX5_collectClausesOf 11 = .ok (.iload_n 1, 1) := by decide +kernel
theorem dX5_collectClausesOf_12 : decode cX5_collectClausesOf 12 = .ok (.iload_n 2, 1) := by decide +kernel
theorem dX5_collectClausesOf_13 : decode cX5_collectClausesOf 13 = .ok (.invokevirtual 99, 3) := by decide +kernel
theorem dX5_collectClausesOf_16 : decode cX5_collectClausesOf 16 = .ok (.lstore_n 3, 1) := by decide +kernel
theorem dX5_collectClausesOf_17 : decode cX5_collectClausesOf 17 = .ok (.iload_n 2, 1) := by decide +kernel
theorem dX5_collectClausesOf_18 : decode cX5_collectClausesOf 18 = .ok (.iload_n 1, 1) := by decide +kernel
theorem dX5_collectClausesOf_19 : decode cX5_collectClausesOf 19 = .ok (.iconst (-1), 1) := by decide +kernel
theorem dX5_collectClausesOf_20 : decode cX5_collectClausesOf 20 = .ok (.ixor, 1) := by decide +kernel
theorem dX5_collectClausesOf_21 : decode cX5_collectClausesOf 21 = .ok (.iand, 1) := by decide +kernel
theorem dX5_collectClausesOf_22 : decode cX5_collectClausesOf 22 = .ok (.ifCond .ne 21, 3) := by decide +kernel
theorem dX5_collectClausesOf_25 : decode cX5_collectClausesOf 25 = .ok (.lload_n 3, 1) := by decide +kernel
theorem dX5_collectClausesOf_26 : decode cX5_collectClausesOf 26 = .ok (.aload_n 0, 1) := by decide +kernel
theorem dX5_collectClausesOf_27 : decode cX5_collectClausesOf 27 = .ok (.getfield 9, 3) := by decide +kernel
theorem dX5_collectClausesOf_30 : decode cX5_collectClausesOf 30 = .ok (.invokevirtual 103, 3) := by decide +kernel
theorem dX5_collectClausesOf_33 : decode cX5_collectClausesOf 33 = .ok (.land, 1) := by decide +kernel
theorem dX5_collectClausesOf_34 : decode cX5_collectClausesOf 34 = .ok (.lconst 0, 1) := by decide +kernel
theorem dX5_collectClausesOf_35 : decode cX5_collectClausesOf 35 = .ok (.lcmp, 1) := by decide +kernel
theorem dX5_collectClausesOf_36 : decode cX5_collectClausesOf 36 = .ok (.ifCond .ne 7, 3) := by decide +kernel
theorem dX5_collectClausesOf_39 : decode cX5_collectClausesOf 39 = .ok (.iconst 1, 1) := by decide +kernel
theorem dX5_collectClausesOf_40 : decode cX5_collectClausesOf 40 = .ok (.goto 4, 3) := by decide +kernel
theorem dX5_collectClausesOf_43 : decode cX5_collectClausesOf 43 = .ok (.iconst 0, 1) := by decide +kernel
theorem dX5_collectClausesOf_44 : decode cX5_collectClausesOf 44 = .ok (.istore 5, 2) := by decide +kernel
theorem dX5_collectClausesOf_46 : decode cX5_collectClausesOf 46 = .ok (.iload 5, 2) := by decide +kernel
theorem dX5_collectClausesOf_48 : decode cX5_collectClausesOf 48 = .ok (.ifCond .eq 40, 3) := by decide +kernel
theorem dX5_collectClausesOf_51 : decode cX5_collectClausesOf 51 = .ok (.aload_n 0, 1) := by decide +kernel
theorem dX5_collectClausesOf_52 : decode cX5_collectClausesOf 52 = .ok (.getfield 87, 3) := by decide +kernel
theorem dX5_collectClausesOf_55 : decode cX5_collectClausesOf 55 = .ok (.ifCond .lt 33, 3) := by decide +kernel
theorem dX5_collectClausesOf_58 : decode cX5_collectClausesOf 58 = .ok (.aload_n 0, 1) := by decide +kernel
theorem dX5_collectClausesOf_59 : decode cX5_collectClausesOf 59 = .ok (.getfield 87, 3) := by decide +kernel
theorem dX5_collectClausesOf_62 : decode cX5_collectClausesOf 62 = .ok (.sipush 232, 3) := by decide +kernel
theorem dX5_collectClausesOf_65 : decode cX5_collectClausesOf 65 = .ok (.if_icmp .ge 23, 3) := by decide +kernel
theorem dX5_collectClausesOf_68 : decode cX5_collectClausesOf 68 = .ok (.aload_n 0, 1) := by decide +kernel
theorem dX5_collectClausesOf_69 : decode cX5_collectClausesOf 69 = .ok (.getfield 23, 3) := by decide +kernel
theorem dX5_collectClausesOf_72 : decode cX5_collectClausesOf 72 = .ok (.aload_n 0, 1) := by decide +kernel
theorem dX5_collectClausesOf_73 : decode cX5_collectClausesOf 73 = .ok (.getfield 87, 3) := by decide +kernel
theorem dX5_collectClausesOf_76 : decode cX5_collectClausesOf 76 = .ok (.lload_n 3, 1) := by decide +kernel
theorem dX5_collectClausesOf_77 : decode cX5_collectClausesOf 77 = .ok (.lastore, 1) := by decide +kernel
theorem dX5_collectClausesOf_78 : decode cX5_collectClausesOf 78 = .ok (.aload_n 0, 1) := by decide +kernel
theorem dX5_collectClausesOf_79 : decode cX5_collectClausesOf 79 = .ok (.dup, 1) := by decide +kernel
theorem dX5_collectClausesOf_80 : decode cX5_collectClausesOf 80 = .ok (.getfield 87, 3) := by decide +kernel
theorem dX5_collectClausesOf_83 : decode cX5_collectClausesOf 83 = .ok (.iconst 1, 1) := by decide +kernel
theorem dX5_collectClausesOf_84 : decode cX5_collectClausesOf 84 = .ok (.iadd, 1) := by decide +kernel
theorem dX5_collectClausesOf_85 : decode cX5_collectClausesOf 85 = .ok (.putfield 87, 3) := by decide +kernel
theorem dX5_collectClausesOf_88 : decode cX5_collectClausesOf 88 = .ok (.iinc 2 1, 3) := by decide +kernel
theorem dX5_collectClausesOf_91 : decode cX5_collectClausesOf 91 = .ok (.goto (-89), 3) := by decide +kernel
theorem dX5_collectClausesOf_94 : decode cX5_collectClausesOf 94 = .ok (.return_, 1) := by decide +kernel
theorem dX5_statesWithoutClause_0 : decode cX5_statesWithoutClause 0 = .ok (.lconst 0, 1) := by decide +kernel
theorem dX5_statesWithoutClause_1 : decode cX5_statesWithoutClause 1 = .ok (.lstore_n 1, 1) := by decide +kernel
theorem dX5_statesWithoutClause_2 : decode cX5_statesWithoutClause 2 = .ok (.iconst 0, 1) := by decide +kernel
theorem dX5_statesWithoutClause_3 : decode cX5_statesWithoutClause 3 = .ok (.istore_n 3, 1) := by decide +kernel
theorem dX5_statesWithoutClause_4 : decode cX5_statesWithoutClause 4 = .ok (.iload_n 3, 1) := by decide +kernel
theorem dX5_statesWithoutClause_5 : decode cX5_statesWithoutClause 5 = .ok (.aload_n 0, 1) := by decide +kernel
theorem dX5_statesWithoutClause_6 : decode cX5_statesWithoutClause 6 = .ok (.getfield 87, 3) := by decide +kernel
theorem dX5_statesWithoutClause_9 : decode cX5_statesWithoutClause 9 = .ok (.if_icmp .ge 25, 3) := by decide +kernel
theorem dX5_statesWithoutClause_12 : decode cX5_statesWithoutClause 12 = .ok (.iload_n 3, 1) := by decide +kernel
theorem dX5_statesWithoutClause_13 : decode cX5_statesWithoutClause 13 = .ok (.sipush 232, 3) := by decide +kernel
theorem dX5_statesWithoutClause_16 : decode cX5_statesWithoutClause 16 = .ok (.if_icmp .ge 18, 3) := by decide +kernel
theorem dX5_statesWithoutClause_19 : decode cX5_statesWithoutClause 19 = .ok (.lload_n 1, 1) := by decide +kernel
theorem dX5_statesWithoutClause_20 : decode cX5_statesWithoutClause 20 = .ok (.aload_n 0, 1) := by decide +kernel
theorem dX5_statesWithoutClause_21 : decode cX5_statesWithoutClause 21 = .ok (.getfield 23, 3) := by decide +kernel
theorem dX5_statesWithoutClause_24 : decode cX5_statesWithoutClause 24 = .ok (.iload_n 3, 1) := by decide +kernel
theorem dX5_statesWithoutClause_25 : decode cX5_statesWithoutClause 25 = .ok (.laload, 1) := by decide +kernel
theorem dX5_statesWithoutClause_26 : decode cX5_statesWithoutClause 26 = .ok (.lor, 1) := by decide +kernel
theorem dX5_statesWithoutClause_27 : decode cX5_statesWithoutClause 27 = .ok (.lstore_n 1, 1) := by decide +kernel
theorem dX5_statesWithoutClause_28 : decode cX5_statesWithoutClause 28 = .ok (.iinc 3 1, 3) := by decide +kernel
theorem dX5_statesWithoutClause_31 : decode cX5_statesWithoutClause 31 = .ok (.goto (-27), 3) := by decide +kernel
theorem dX5_statesWithoutClause_34 : decode cX5_statesWithoutClause 34 = .ok (.aload_n 0, 1) := by decide +kernel
theorem dX5_statesWithoutClause_35 : decode cX5_statesWithoutClause 35 = .ok (.getfield 9, 3) := by decide +kernel
theorem dX5_statesWithoutClause_38 : decode cX5_statesWithoutClause 38 = .ok (.getfield 106, 3) := by decide +kernel
theorem dX5_statesWithoutClause_41 : decode cX5_statesWithoutClause 41 = .ok (.lload_n 1, 1) := by decide +kernel
theorem dX5_statesWithoutClause_42 : decode cX5_statesWithoutClause 42 = .ok (.ldc2_w 64, 3) := by decide +kernel
theorem dX5_statesWithoutClause_45 : decode cX5_statesWithoutClause 45 = .ok (.lxor, 1) := by decide +kernel
theorem dX5_statesWithoutClause_46 : decode cX5_statesWithoutClause 46 = .ok (.land, 1) := by decide +kernel
theorem dX5_statesWithoutClause_47 : decode cX5_statesWithoutClause 47 = .ok (.lreturn, 1) := by decide +kernel
theorem dX5_discardClauses_0 : decode cX5_discardClauses 0 = .ok (.iconst 0, 1) := by decide +kernel
theorem dX5_discardClauses_1 : decode cX5_discardClauses 1 = .ok (.istore_n 3, 1) := by decide +kernel
theorem dX5_discardClauses_2 : decode cX5_discardClauses 2 = .ok (.iconst 0, 1) := by decide +kernel
theorem dX5_discardClauses_3 : decode cX5_discardClauses 3 = .ok (.istore 4, 2) := by decide +kernel
theorem dX5_discardClauses_5 : decode cX5_discardClauses 5 = .ok (.iload 4, 2) := by decide +kernel
theorem dX5_discardClauses_7 : decode cX5_discardClauses 7 = .ok (.aload_n 0, 1) := by decide +kernel
theorem dX5_discardClauses_8 : decode cX5_discardClauses 8 = .ok (.getfield 87, 3) := by decide +kernel
theorem dX5_discardClauses_11 : decode cX5_discardClauses 11 = .ok (.if_icmp .ge 53, 3) := by decide +kernel
theorem dX5_discardClauses_14 : decode cX5_discardClauses 14 = .ok (.iload 4, 2) := by decide +kernel
theorem dX5_discardClauses_16 : decode cX5_discardClauses 16 = .ok (.sipush 232, 3) := by decide +kernel
theorem dX5_discardClauses_19 : decode cX5_discardClauses 19 = .ok (.if_icmp .ge 45, 3) := by decide +kernel
theorem dX5_discardClauses_22 : decode cX5_discardClauses 22 = .ok (.aload_n 0, 1) := by decide +kernel
theorem dX5_discardClauses_23 : decode cX5_discardClauses 23 = .ok (.getfield 23, 3) := by decide +kernel
theorem dX5_discardClauses_26 : decode cX5_discardClauses 26 = .ok (.iload 4, 2) := by decide +kernel
theorem dX5_discardClauses_28 : decode cX5_discardClauses 28 = .ok (.laload, 1) := by decide +kernel
theorem dX5_discardClauses_29 : decode cX5_discardClauses 29 = .ok (.lload_n 1, 1) := by decide +kernel
theorem dX5_discardClauses_30 : decode cX5_discardClauses 30 = .ok (.land, 1) := by decide +kernel
theorem dX5_discardClauses_31 : decode cX5_discardClauses 31 = .ok (.lconst 0, 1) := by decide +kernel
theorem dX5_discardClauses_32 : decode cX5_discardClauses 32 = .ok (.lcmp, 1) := by decide +kernel
theorem dX5_discardClauses_33 : decode cX5_discardClauses 33 = .ok (.ifCond .ne 25, 3) := by decide +kernel
theorem dX5_discardClauses_36 : decode cX5_discardClauses 36 = .ok (.iload_n 3, 1) := by decide +kernel
theorem dX5_discardClauses_37 : decode cX5_discardClauses 37 = .ok (.iload 4, 2) := by decide +kernel
theorem dX5_discardClauses_39 : decode cX5_discardClauses 39 = .ok (.if_icmp .gt 19, 3) := by decide +kernel
theorem dX5_discardClauses_42 : decode cX5_discardClauses 42 = .ok (.aload_n 0, 1) := by decide +kernel
theorem dX5_discardClauses_43 : decode cX5_discardClauses 43 = .ok (.getfield 23, 3) := by decide +kernel
theorem dX5_discardClauses_46 : decode cX5_discardClauses 46 = .ok (.iload_n 3, 1) := by decide +kernel
theorem dX5_discardClauses_47 : decode cX5_discardClauses 47 = .ok (.aload_n 0, 1) := by decide +kernel
theorem dX5_discardClauses_48 : decode cX5_discardClauses 48 = .ok (.getfield 23, 3) := by decide +kernel
theorem dX5_discardClauses_51 : decode cX5_discardClauses 51 = .ok (.iload 4, 2) := by decide +kernel
theorem dX5_discardClauses_53 : decode cX5_discardClauses 53 = .ok (.laload, 1) := by decide +kernel
theorem dX5_discardClauses_54 : decode cX5_discardClauses 54 = .ok (.lastore, 1) := by decide +kernel
theorem dX5_discardClauses_55 : decode cX5_discardClauses 55 = .ok (.iinc 3 1, 3) := by decide +kernel
theorem dX5_discardClauses_58 : decode cX5_discardClauses 58 = .ok (.iinc 4 1, 3) := by decide +kernel
theorem dX5_discardClauses_61 : decode cX5_discardClauses 61 = .ok (.goto (-56), 3) := by decide +kernel
theorem dX5_discardClauses_64 : decode cX5_discardClauses 64 = .ok (.iload_n 3, 1) := by decide +kernel
theorem dX5_discardClauses_65 : decode cX5_discardClauses 65 = .ok (.aload_n 0, 1) := by decide +kernel
theorem dX5_discardClauses_66 : decode cX5_discardClauses 66 = .ok (.getfield 87, 3) := by decide +kernel
theorem dX5_discardClauses_69 : decode cX5_discardClauses 69 = .ok (.if_icmp .ge 7, 3) := by decide +kernel
theorem dX5_discardClauses_72 : decode cX5_discardClauses 72 = .ok (.iconst 1, 1) := by decide +kernel
theorem dX5_discardClauses_73 : decode cX5_discardClauses 73 = .ok (.goto 4, 3) := by decide +kernel
theorem dX5_discardClauses_76 : decode cX5_discardClauses 76 = .ok (.iconst 0, 1) := by decide +kernel
theorem dX5_discardClauses_77 : decode cX5_discardClauses 77 = .ok (.istore 4, 2) := by decide +kernel
theorem dX5_discardClauses_79 : decode cX5_discardClauses 79 = .ok (.aload_n 0, 1) := by decide +kernel
theorem dX5_discardClauses_80 : decode cX5_discardClauses 80 = .ok (.iload_n 3, 1) := by decide +kernel
theorem dX5_discardClauses_81 : decode cX5_discardClauses 81 = .ok (.putfield 87, 3) := by decide +kernel
theorem dX5_discardClauses_84 : decode cX5_discardClauses 84 = .ok (.iload 4, 2) := by decide +kernel
theorem dX5_discardClauses_86 : decode cX5_discardClauses 86 = .ok (.ireturn, 1) := by decide +kernel
theorem dX5_staysGood_0 : decode cX5_staysGood 0 = .ok (.aload_n 0, 1) := by decide +kernel
theorem dX5_staysGood_1 : decode cX5_staysGood 1 = .ok (.getfield 9, 3) := by decide +kernel
theorem dX5_staysGood_4 : decode cX5_staysGood 4 = .ok (.invokevirtual 103, 3) := by decide +kernel
theorem dX5_staysGood_7 : decode cX5_staysGood 7 = .ok (.lstore_n 2, 1) := by decide +kernel
theorem dX5_staysGood_8 : decode cX5_staysGood 8 = .ok (.lload_n 2, 1) := by decide +kernel
theorem dX5_staysGood_9 : decode cX5_staysGood 9 = .ok (.lstore 4, 2) := by decide +kernel
theorem dX5_staysGood_11 : decode cX5_staysGood 11 = .ok (.iconst 0, 1) := by decide +kernel
theorem dX5_staysGood_12 : decode cX5_staysGood 12 = .ok (.istore 6, 2) := by decide +kernel
theorem dX5_staysGood_14 : decode cX5_staysGood 14 = .ok (.iload 6, 2) := by decide +kernel
theorem dX5_staysGood_16 : decode cX5_staysGood 16 = .ok (.bipush 64, 2) := by decide +kernel
theorem dX5_staysGood_18 : decode cX5_staysGood 18 = .ok (.if_icmp .gt 60, 3) := by decide +kernel
theorem dX5_staysGood_21 : decode cX5_staysGood 21 = .ok (.lload 4, 2) := by decide +kernel
theorem dX5_staysGood_23 : decode cX5_staysGood 23 = .ok (.lconst 0, 1) := by decide +kernel
theorem dX5_staysGood_24 : decode cX5_staysGood 24 = .ok (.lcmp, 1) := by decide +kernel
theorem dX5_staysGood_25 : decode cX5_staysGood 25 = .ok (.ifCond .eq 53, 3) := by decide +kernel
theorem dX5_staysGood_28 : decode cX5_staysGood 28 = .ok (.lload 4, 2) := by decide +kernel
theorem dX5_staysGood_30 : decode cX5_staysGood 30 = .ok (.aload_n 0, 1) := by decide +kernel
theorem dX5_staysGood_31 : decode cX5_staysGood 31 = .ok (.getfield 9, 3) := by decide +kernel
theorem dX5_staysGood_34 : decode cX5_staysGood 34 = .ok (.invokevirtual 32, 3) := by decide +kernel
theorem dX5_staysGood_37 : decode cX5_staysGood 37 = .ok (.land, 1) := by decide +kernel
theorem dX5_staysGood_38 : decode cX5_staysGood 38 = .ok (.lconst 0, 1) := by decide +kernel
theorem dX5_staysGood_39 : decode cX5_staysGood 39 = .ok (.lcmp, 1) := by decide +kernel
theorem dX5_staysGood_40 : decode cX5_staysGood 40 = .ok (.ifCond .eq 5, 3) := by decide +kernel
theorem dX5_staysGood_43 : decode cX5_staysGood 43 = .ok (.iconst 0, 1) := by decide +kernel
theorem dX5_staysGood_44 : decode cX5_staysGood 44 = .ok (.ireturn, 1) := by decide +kernel
theorem dX5_staysGood_45 : decode cX5_staysGood 45 = .ok (.aload_n 0, 1) := by decide +kernel
theorem dX5_staysGood_46 : decode cX5_staysGood 46 = .ok (.aload_n 0, 1) := by decide +kernel
theorem dX5_staysGood_47 : decode cX5_staysGood 47 = .ok (.getfield 15, 3) := by decide +kernel
theorem dX5_staysGood_50 : decode cX5_staysGood 50 = .ok (.lload 4, 2) := by decide +kernel
theorem dX5_staysGood_52 : decode cX5_staysGood 52 = .ok (.invokevirtual 80, 3) := by decide +kernel
theorem dX5_staysGood_55 : decode cX5_staysGood 55 = .ok (.iload_n 1, 1) := by decide +kernel
theorem dX5_staysGood_56 : decode cX5_staysGood 56 = .ok (.invokevirtual 110, 3) := by decide +kernel
theorem dX5_staysGood_59 : decode cX5_staysGood 59 = .ok (.lload_n 2, 1) := by decide +kernel
theorem dX5_staysGood_60 : decode cX5_staysGood 60 = .ok (.ldc2_w 64, 3) := by decide +kernel
theorem dX5_staysGood_63 : decode cX5_staysGood 63 = .ok (.lxor, 1) := by decide +kernel
theorem dX5_staysGood_64 : decode cX5_staysGood 64 = .ok (.land, 1) := by decide +kernel
theorem dX5_staysGood_65 : decode cX5_staysGood 65 = .ok (.lstore 4, 2) := by decide +kernel
theorem dX5_staysGood_67 : decode cX5_staysGood 67 = .ok (.lload_n 2, 1) := by decide +kernel
theorem dX5_staysGood_68 : decode cX5_staysGood 68 = .ok (.lload 4, 2) := by decide +kernel
theorem dX5_staysGood_70 : decode cX5_staysGood 70 = .ok (.lor, 1) := by decide +kernel
theorem dX5_staysGood_71 : decode cX5_staysGood 71 = .ok (.lstore_n 2, 1) := by decide +kernel
theorem dX5_staysGood_72 : decode cX5_staysGood 72 = .ok (.iinc 6 1, 3) := by decide +kernel
theorem dX5_staysGood_75 : decode cX5_staysGood 75 = .ok (.goto (-61), 3) := by decide +kernel
theorem dX5_staysGood_78 : decode cX5_staysGood 78 = .ok (.iconst 1, 1) := by decide +kernel
theorem dX5_staysGood_79 : decode cX5_staysGood 79 = .ok (.ireturn, 1) := by decide +kernel
theorem dX5_withFreeBits_0 : decode cX5_withFreeBits 0 = .ok (.lload_n 1, 1) := by decide +kernel
theorem dX5_withFreeBits_1 : decode cX5_withFreeBits 1 = .ok (.lstore 4, 2) := by decide +kernel
theorem dX5_withFreeBits_3 : decode cX5_withFreeBits 3 = .ok (.iconst 0, 1) := by decide +kernel
theorem dX5_withFreeBits_4 : decode cX5_withFreeBits 4 = .ok (.istore 6, 2) := by decide +kernel
theorem dX5_withFreeBits_6 : decode cX5_withFreeBits 6 = .ok (.iload 6, 2) := by decide +kernel
theorem dX5_withFreeBits_8 : decode cX5_withFreeBits 8 = .ok (.aload_n 0, 1) := by decide +kernel
theorem dX5_withFreeBits_9 : decode cX5_withFreeBits 9 = .ok (.getfield 9, 3) := by decide +kernel
theorem dX5_withFreeBits_12 : decode cX5_withFreeBits 12 = .ok (.getfield 114, 3) := by decide +kernel
theorem dX5_withFreeBits_15 : decode cX5_withFreeBits 15 = .ok (.if_icmp .ge 73, 3) := by decide +kernel
theorem dX5_withFreeBits_18 : decode cX5_withFreeBits 18 = .ok (.iload 6, 2) := by decide +kernel
theorem dX5_withFreeBits_20 : decode cX5_withFreeBits 20 = .ok (.bipush 6, 2) := by decide +kernel
theorem dX5_withFreeBits_22 : decode cX5_withFreeBits 22 = .ok (.if_icmp .ge 66, 3) := by decide +kernel
theorem dX5_withFreeBits_25 : decode cX5_withFreeBits 25 = .ok (.iload_n 3, 1) := by decide +kernel
theorem dX5_withFreeBits_26 : decode cX5_withFreeBits 26 = .ok (.iload 6, 2) := by decide +kernel
theorem dX5_withFreeBits_28 : decode cX5_withFreeBits 28 = .ok (.ishr, 1) := by decide +kernel
theorem dX5_withFreeBits_29 : decode cX5_withFreeBits 29 = .ok (.iconst 1, 1) := by decide +kernel
theorem dX5_withFreeBits_30 : decode cX5_withFreeBits 30 = .ok (.iand, 1) := by decide +kernel
theorem dX5_withFreeBits_31 : decode cX5_withFreeBits 31 = .ok (.ifCond .eq 51, 3) := by decide +kernel
theorem dX5_withFreeBits_34 : decode cX5_withFreeBits 34 = .ok (.iconst 1, 1) := by decide +kernel
theorem dX5_withFreeBits_35 : decode cX5_withFreeBits 35 = .ok (.iload 6, 2) := by decide +kernel
theorem dX5_withFreeBits_37 : decode cX5_withFreeBits 37 = .ok (.ishl, 1) := by decide +kernel
theorem dX5_withFreeBits_38 : decode cX5_withFreeBits 38 = .ok (.istore 7, 2) := by decide +kernel
theorem dX5_withFreeBits_40 : decode cX5_withFreeBits 40 = .ok (.lload 4, 2) := by decide +kernel
theorem dX5_withFreeBits_42 : decode cX5_withFreeBits 42 = .ok (.getstatic 117, 3) := by decide +kernel
theorem dX5_withFreeBits_45 : decode cX5_withFreeBits 45 = .ok (.iload 6, 2) := by decide +kernel
theorem dX5_withFreeBits_47 : decode cX5_withFreeBits 47 = .ok (.laload, 1) := by decide +kernel
theorem dX5_withFreeBits_48 : decode cX5_withFreeBits 48 = .ok (.land, 1) := by decide +kernel
theorem dX5_withFreeBits_49 : decode cX5_withFreeBits 49 = .ok (.lstore 8, 2) := by decide +kernel
theorem dX5_withFreeBits_51 : decode cX5_withFreeBits 51 = .ok (.lload 4, 2) := by decide +kernel
theorem dX5_withFreeBits_53 : decode cX5_withFreeBits 53 = .ok (.getstatic 117, 3) := by decide +kernel
theorem dX5_withFreeBits_56 : decode cX5_withFreeBits 56 = .ok (.iload 6, 2) := by decide +kernel
theorem dX5_withFreeBits_58 : decode cX5_withFreeBits 58 = .ok (.laload, 1) := by decide +kernel
theorem dX5_withFreeBits_59 : decode cX5_withFreeBits 59 = .ok (.ldc2_w 64, 3) := by decide +kernel
theorem dX5_withFreeBits_62 : decode cX5_withFreeBits 62 = .ok (.lxor, 1) := by decide +kernel
theorem dX5_withFreeBits_63 : decode cX5_withFreeBits 63 = .ok (.land, 1) := by decide +kernel
theorem dX5_withFreeBits_64 : decode cX5_withFreeBits 64 = .ok (.lstore 10, 2) := by decide +kernel
theorem dX5_withFreeBits_66 : decode cX5_withFreeBits 66 = .ok (.lload 4, 2) := by decide +kernel
theorem dX5_withFreeBits_68 : decode cX5_withFreeBits 68 = .ok (.lload 8, 2) := by decide +kernel
theorem dX5_withFreeBits_70 : decode cX5_withFreeBits 70 = .ok (.iload 7, 2) := by decide +kernel
theorem dX5_withFreeBits_72 : decode cX5_withFreeBits 72 = .ok (.lushr, 1) := by decide +kernel
theorem dX5_withFreeBits_73 : decode cX5_withFreeBits 73 = .ok (.lload 10, 2) := by decide +kernel
theorem dX5_withFreeBits_75 : decode cX5_withFreeBits 75 = .ok (.iload 7, 2) := by decide +kernel
theorem dX5_withFreeBits_77 : decode cX5_withFreeBits 77 = .ok (.lshl, 1) := by decide +kernel
theorem dX5_withFreeBits_78 : decode cX5_withFreeBits 78 = .ok (.lor, 1) := by decide +kernel
theorem dX5_withFreeBits_79 : decode cX5_withFreeBits 79 = .ok (.lor, 1) := by decide +kernel
theorem dX5_withFreeBits_80 : decode cX5_withFreeBits 80 = .ok (.lstore 4, 2) := by decide +kernel
theorem dX5_withFreeBits_82 : decode cX5_withFreeBits 82 = .ok (.iinc 6 1, 3) := by decide +kernel
theorem dX5_withFreeBits_85 : decode cX5_withFreeBits 85 = .ok (.goto (-79), 3) := by decide +kernel
theorem dX5_withFreeBits_88 : decode cX5_withFreeBits 88 = .ok (.lload 4, 2) := by decide +kernel
theorem dX5_withFreeBits_90 : decode cX5_withFreeBits 90 = .ok (.lreturn, 1) := by decide +kernel
theorem dX5_smallestCone_0 : decode cX5_smallestCone 0 = .ok (.aload_n 0, 1) := by decide +kernel
theorem dX5_smallestCone_1 : decode cX5_smallestCone 1 = .ok (.getfield 9, 3) := by decide +kernel
theorem dX5_smallestCone_4 : decode cX5_smallestCone 4 = .ok (.getfield 49, 3) := by decide +kernel
theorem dX5_smallestCone_7 : decode cX5_smallestCone 7 = .ok (.iconst 1, 1) := by decide +kernel
theorem dX5_smallestCone_8 : decode cX5_smallestCone 8 = .ok (.isub, 1) := by decide +kernel
theorem dX5_smallestCone_9 : decode cX5_smallestCone 9 = .ok (.istore_n 1, 1) := by decide +kernel
theorem dX5_smallestCone_10 : decode cX5_smallestCone 10 = .ok (.aload_n 0, 1) := by decide +kernel
theorem dX5_smallestCone_11 : decode cX5_smallestCone 11 = .ok (.iconst 0, 1) := by decide +kernel
theorem dX5_smallestCone_12 : decode cX5_smallestCone 12 = .ok (.invokevirtual 120, 3) := by decide +kernel
theorem dX5_smallestCone_15 : decode cX5_smallestCone 15 = .ok (.ifCond .ne 5, 3) := by decide +kernel
theorem dX5_smallestCone_18 : decode cX5_smallestCone 18 = .ok (.iconst (-1), 1) := by decide +kernel
theorem dX5_smallestCone_19 : decode cX5_smallestCone 19 = .ok (.ireturn, 1) := by decide +kernel
theorem dX5_smallestCone_20 : decode cX5_smallestCone 20 = .ok (.iconst 0, 1) := by decide +kernel
theorem dX5_smallestCone_21 : decode cX5_smallestCone 21 = .ok (.istore_n 2, 1) := by decide +kernel
theorem dX5_smallestCone_22 : decode cX5_smallestCone 22 = .ok (.iload_n 2, 1) := by decide +kernel
theorem dX5_smallestCone_23 : decode cX5_smallestCone 23 = .ok (.aload_n 0, 1) := by decide +kernel
theorem dX5_smallestCone_24 : decode cX5_smallestCone 24 = .ok (.getfield 9, 3) := by decide +kernel
theorem dX5_smallestCone_27 : decode cX5_smallestCone 27 = .ok (.getfield 114, 3) := by decide +kernel
theorem dX5_smallestCone_30 : decode cX5_smallestCone 30 = .ok (.if_icmp .ge 50, 3) := by decide +kernel
theorem dX5_smallestCone_33 : decode cX5_smallestCone 33 = .ok (.iconst 0, 1) := by decide +kernel
theorem dX5_smallestCone_34 : decode cX5_smallestCone 34 = .ok (.istore_n 3, 1) := by decide +kernel
theorem dX5_smallestCone_35 : decode cX5_smallestCone 35 = .ok (.iload_n 3, 1) := by decide +kernel
theorem dX5_smallestCone_36 : decode cX5_smallestCone 36 = .ok (.aload_n 0, 1) := by decide +kernel
theorem dX5_smallestCone_37 : decode cX5_smallestCone 37 = .ok (.getfield 9, 3) := by decide +kernel
theorem dX5_smallestCone_40 : decode cX5_smallestCone 40 = .ok (.getfield 49, 3) := by decide +kernel
theorem dX5_smallestCone_43 : decode cX5_smallestCone 43 = .ok (.if_icmp .ge 31, 3) := by decide +kernel
theorem dX5_smallestCone_46 : decode cX5_smallestCone 46 = .ok (.iload_n 3, 1) := by decide +kernel
theorem dX5_smallestCone_47 : decode cX5_smallestCone 47 = .ok (.invokestatic 90, 3) := by decide +kernel
theorem dX5_smallestCone_50 : decode cX5_smallestCone 50 = .ok (.iload_n 2, 1) := by decide +kernel
theorem dX5_smallestCone_51 : decode cX5_smallestCone 51 = .ok (.if_icmp .ne 17, 3) := by decide +kernel
theorem dX5_smallestCone_54 : decode cX5_smallestCone 54 = .ok (.aload_n 0, 1) := by decide +kernel
theorem dX5_smallestCone_55 : decode cX5_smallestCone 55 = .ok (.iload_n 1, 1) := by decide +kernel
theorem dX5_smallestCone_56 : decode cX5_smallestCone 56 = .ok (.iload_n 3, 1) := by decide +kernel
theorem dX5_smallestCone_57 : decode cX5_smallestCone 57 = .ok (.iconst (-1), 1) := by decide +kernel
theorem dX5_smallestCone_58 : decode cX5_smallestCone 58 = .ok (.ixor, 1) := by decide +kernel
theorem dX5_smallestCone_59 : decode cX5_smallestCone 59 = .ok (.iand, 1) := by decide +kernel
theorem dX5_smallestCone_60 : decode cX5_smallestCone 60 = .ok (.invokevirtual 120, 3) := by decide +kernel
theorem dX5_smallestCone_63 : decode cX5_smallestCone 63 = .ok (.ifCond .eq 5, 3) := by decide +kernel
theorem dX5_smallestCone_66 : decode cX5_smallestCone 66 = .ok (.iload_n 3, 1) := by decide +kernel
theorem dX5_smallestCone_67 : decode cX5_smallestCone 67 = .ok (.ireturn, 1) := by decide +kernel
theorem dX5_smallestCone_68 : decode cX5_smallestCone 68 = .ok (.iinc 3 1, 3) := by decide +kernel
theorem dX5_smallestCone_71 : decode cX5_smallestCone 71 = .ok (.goto (-36), 3) := by decide +kernel
theorem dX5_smallestCone_74 : decode cX5_smallestCone 74 = .ok (.iinc 2 1, 3) := by decide +kernel
theorem dX5_smallestCone_77 : decode cX5_smallestCone 77 = .ok (.goto (-55), 3) := by decide +kernel
theorem dX5_smallestCone_80 : decode cX5_smallestCone 80 = .ok (.iload_n 1, 1) := by decide +kernel
theorem dX5_smallestCone_81 : decode cX5_smallestCone 81 = .ok (.ireturn, 1) := by decide +kernel
theorem dX5_simulateFrom_0 : decode cX5_simulateFrom 0 = .ok (.iload_n 1, 1) := by decide +kernel
theorem dX5_simulateFrom_1 : decode cX5_simulateFrom 1 = .ok (.istore 5, 2) := by decide +kernel
theorem dX5_simulateFrom_3 : decode cX5_simulateFrom 3 = .ok (.lconst 1, 1) := by decide +kernel
theorem dX5_simulateFrom_4 : decode cX5_simulateFrom 4 = .ok (.iload 5, 2) := by decide +kernel
theorem dX5_simulateFrom_6 : decode cX5_simulateFrom 6 = .ok (.lshl, 1) := by decide +kernel
theorem dX5_simulateFrom_7 : decode cX5_simulateFrom 7 = .ok (.lstore 6, 2) := by decide +kernel
theorem dX5_simulateFrom_9 : decode cX5_simulateFrom 9 = .ok (.aload_n 0, 1) := by decide +kernel
theorem dX5_simulateFrom_10 : decode cX5_simulateFrom 10 = .ok (.getfield 9, 3) := by decide +kernel
theorem dX5_simulateFrom_13 : decode cX5_simulateFrom 13 = .ok (.invokevirtual 32, 3) := by decide +kernel
theorem dX5_simulateFrom_16 : decode cX5_simulateFrom 16 = .ok (.iload 5, 2) := by decide +kernel
theorem dX5_simulateFrom_18 : decode cX5_simulateFrom 18 = .ok (.invokestatic 56, 3) := by decide +kernel
theorem dX5_simulateFrom_21 : decode cX5_simulateFrom 21 = .ok (.ifCond .eq 7, 3) := by decide +kernel
theorem dX5_simulateFrom_24 : decode cX5_simulateFrom 24 = .ok (.iconst 0, 1) := by decide +kernel
theorem dX5_simulateFrom_25 : decode cX5_simulateFrom 25 = .ok (.goto 4, 3) := by decide +kernel
theorem dX5_simulateFrom_28 : decode cX5_simulateFrom 28 = .ok (.iconst (-1), 1) := by decide +kernel
theorem dX5_simulateFrom_29 : decode cX5_simulateFrom 29 = .ok (.istore 8, 2) := by decide +kernel
theorem dX5_simulateFrom_31 : decode cX5_simulateFrom 31 = .ok (.iload_n 3, 1) := by decide +kernel
theorem dX5_simulateFrom_32 : decode cX5_simulateFrom 32 = .ok (.i2l, 1) := by decide +kernel
theorem dX5_simulateFrom_33 : decode cX5_simulateFrom 33 = .ok (.lstore 9, 2) := by decide +kernel
theorem dX5_simulateFrom_35 : decode cX5_simulateFrom 35 = .ok (.iconst 1, 1) := by decide +kernel
theorem dX5_simulateFrom_36 : decode cX5_simulateFrom 36 = .ok (.istore 11, 2) := by decide +kernel
theorem dX5_simulateFrom_38 : decode cX5_simulateFrom 38 = .ok (.iload 11, 2) := by decide +kernel
theorem dX5_simulateFrom_40 : decode cX5_simulateFrom 40 = .ok (.iload_n 2, 1) := by decide +kernel
theorem dX5_simulateFrom_41 : decode cX5_simulateFrom 41 = .ok (.if_icmp .gt 86, 3) := by decide +kernel
theorem dX5_simulateFrom_44 : decode cX5_simulateFrom 44 = .ok (.ldc2_w 123, 3) := by decide +kernel
theorem dX5_simulateFrom_47 : decode cX5_simulateFrom 47 = .ok (.lload 9, 2) := by decide +kernel
theorem dX5_simulateFrom_49 : decode cX5_simulateFrom 49 = .ok (.lmul, 1) := by decide +kernel
theorem dX5_simulateFrom_50 : decode cX5_simulateFrom 50 = .ok (.ldc2_w 125, 3) := by decide +kernel
theorem dX5_simulateFrom_53 : decode cX5_simulateFrom 53 = .ok (.ladd, 1) := by decide +kernel
theorem dX5_simulateFrom_54 : decode cX5_simulateFrom 54 = .ok (.ldc2_w 127, 3) := by decide +kernel
theorem dX5_simulateFrom_57 : decode cX5_simulateFrom 57 = .ok (.land, 1) := by decide +kernel
theorem dX5_simulateFrom_58 : decode cX5_simulateFrom 58 = .ok (.lstore 9, 2) := by decide +kernel
theorem dX5_simulateFrom_60 : decode cX5_simulateFrom 60 = .ok (.aload_n 0, 1) := by decide +kernel
theorem dX5_simulateFrom_61 : decode cX5_simulateFrom 61 = .ok (.getfield 9, 3) := by decide +kernel
theorem dX5_simulateFrom_64 : decode cX5_simulateFrom 64 = .ok (.iload 5, 2) := by decide +kernel
theorem dX5_simulateFrom_66 : decode cX5_simulateFrom 66 = .ok (.lload 9, 2) := by decide +kernel
theorem dX5_simulateFrom_68 : decode cX5_simulateFrom 68 = .ok (.bipush 16, 2) := by decide +kernel
theorem dX5_simulateFrom_70 : decode cX5_simulateFrom 70 = .ok (.lushr, 1) := by decide +kernel
theorem dX5_simulateFrom_71 : decode cX5_simulateFrom 71 = .ok (.l2i, 1) := by decide +kernel
theorem dX5_simulateFrom_72 : decode cX5_simulateFrom 72 = .ok (.aload_n 0, 1) := by decide +kernel
theorem dX5_simulateFrom_73 : decode cX5_simulateFrom 73 = .ok (.getfield 9, 3) := by decide +kernel
theorem dX5_simulateFrom_76 : decode cX5_simulateFrom 76 = .ok (.getfield 66, 3) := by decide +kernel
theorem dX5_simulateFrom_79 : decode cX5_simulateFrom 79 = .ok (.iconst 1, 1) := by decide +kernel
theorem dX5_simulateFrom_80 : decode cX5_simulateFrom 80 = .ok (.isub, 1) := by decide +kernel
theorem dX5_simulateFrom_81 : decode cX5_simulateFrom 81 = .ok (.iand, 1) := by decide +kernel
theorem dX5_simulateFrom_82 : decode cX5_simulateFrom 82 = .ok (.invokevirtual 129, 3) := by decide +kernel
theorem dX5_simulateFrom_85 : decode cX5_simulateFrom 85 = .ok (.istore 5, 2) := by decide +kernel
theorem dX5_simulateFrom_87 : decode cX5_simulateFrom 87 = .ok (.lload 6, 2) := by decide +kernel
theorem dX5_simulateFrom_89 : decode cX5_simulateFrom 89 = .ok (.lconst 1, 1) := by decide +kernel
theorem dX5_simulateFrom_90 : decode cX5_simulateFrom 90 = .ok (.iload 5, 2) := by decide +kernel
theorem dX5_simulateFrom_92 : decode cX5_simulateFrom 92 = .ok (.lshl, 1) := by decide +kernel
theorem dX5_simulateFrom_93 : decode cX5_simulateFrom 93 = .ok (.lor, 1) := by decide +kernel
theorem dX5_simulateFrom_94 : decode cX5_simulateFrom 94 = .ok (.lstore 6, 2) := by decide +kernel
theorem dX5_simulateFrom_96 : decode cX5_simulateFrom 96 = .ok (.iload 8, 2) := by decide +kernel
theorem dX5_simulateFrom_98 : decode cX5_simulateFrom 98 = .ok (.iconst (-1), 1) := by decide +kernel
theorem dX5_simulateFrom_99 : decode cX5_simulateFrom 99 = .ok (.if_icmp .ne 22, 3) := by decide +kernel
theorem dX5_simulateFrom_102 : decode cX5_simulateFrom 102 = .ok (.aload_n 0, 1) := by decide +kernel
theorem dX5_simulateFrom_103 : decode cX5_simulateFrom 103 = .ok (.getfield 9, 3) := by decide +kernel
theorem dX5_simulateFrom_106 : decode cX5_simulateFrom 106 = .ok (.invokevirtual 32, 3) := by decide +kernel
theorem dX5_simulateFrom_109 : decode cX5_simulateFrom 109 = .ok (.iload 5, 2) := by decide +kernel
theorem dX5_simulateFrom_111 : decode cX5_simulateFrom 111 = .ok (.invokestatic 56, 3) := by decide +kernel
theorem dX5_simulateFrom_114 : decode cX5_simulateFrom 114 = .ok (.ifCond .eq 7, 3) := by decide +kernel
theorem dX5_simulateFrom_117 : decode cX5_simulateFrom 117 = .ok (.iload 11, 2) := by decide +kernel
theorem dX5_simulateFrom_119 : decode cX5_simulateFrom 119 = .ok (.istore 8, 2) := by decide +kernel
theorem dX5_simulateFrom_121 : decode cX5_simulateFrom 121 = .ok (.iinc 11 1, 3) := by decide +kernel
theorem dX5_simulateFrom_124 : decode cX5_simulateFrom 124 = .ok (.goto (-86), 3) := by decide +kernel
theorem dX5_simulateFrom_127 : decode cX5_simulateFrom 127 = .ok (.iload 4, 2) := by decide +kernel
theorem dX5_simulateFrom_129 : decode cX5_simulateFrom 129 = .ok (.ifCond .ne 6, 3) := by decide +kernel
theorem dX5_simulateFrom_132 : decode cX5_simulateFrom 132 = .ok (.iload 5, 2) := by decide +kernel
theorem dX5_simulateFrom_134 : decode cX5_simulateFrom 134 = .ok (.ireturn, 1) := by decide +kernel
theorem dX5_simulateFrom_135 : decode cX5_simulateFrom 135 = .ok (.iload 4, 2) := by decide +kernel
theorem dX5_simulateFrom_137 : decode cX5_simulateFrom 137 = .ok (.iconst 1, 1) := by decide +kernel
theorem dX5_simulateFrom_138 : decode cX5_simulateFrom 138 = .ok (.if_icmp .ne 11, 3) := by decide +kernel
theorem dX5_simulateFrom_141 : decode cX5_simulateFrom 141 = .ok (.lload 6, 2) := by decide +kernel
theorem dX5_simulateFrom_143 : decode cX5_simulateFrom 143 = .ok (.invokestatic 132, 3) := by decide +kernel
theorem dX5_simulateFrom_146 : decode cX5_simulateFrom 146 = .ok (.goto 5, 3) := by decide +kernel
theorem dX5_simulateFrom_149 : decode cX5_simulateFrom 149 = .ok (.iload 8, 2) := by decide +kernel
theorem dX5_simulateFrom_151 : decode cX5_simulateFrom 151 = .ok (.ireturn, 1) := by decide +kernel
theorem dX6_init_0 : decode cX6_init 0 = .ok (.aload_n 0, 1) := by decide +kernel
theorem dX6_init_1 : decode cX6_init 1 = .ok (.invokespecial 1, 3) := by decide +kernel
theorem dX6_init_4 : decode cX6_init 4 = .ok (.aload_n 0, 1) := by decide +kernel
theorem dX6_init_5 : decode cX6_init 5 = .ok (.new 7, 3) := by decide +kernel
theorem dX6_init_8 : decode cX6_init 8 = .ok (.dup, 1) := by decide +kernel
theorem dX6_init_9 : decode cX6_init 9 = .ok (.invokespecial 9, 3) := by decide +kernel
theorem dX6_init_12 : decode cX6_init 12 = .ok (.putfield 10, 3) := by decide +kernel
theorem dX6_init_15 : decode cX6_init 15 = .ok (.aload_n 0, 1) := by decide +kernel
theorem dX6_init_16 : decode cX6_init 16 = .ok (.new 16, 3) := by decide +kernel
theorem dX6_init_19 : decode cX6_init 19 = .ok (.dup, 1) := by decide +kernel
theorem dX6_init_20 : decode cX6_init 20 = .ok (.invokespecial 18, 3) := by decide +kernel
theorem dX6_init_23 : decode cX6_init 23 = .ok (.putfield 19, 3) := by decide +kernel
theorem dX6_init_26 : decode cX6_init 26 = .ok (.aload_n 0, 1) := by decide +kernel
theorem dX6_init_27 : decode cX6_init 27 = .ok (.new 23, 3) := by decide +kernel
theorem dX6_init_30 : decode cX6_init 30 = .ok (.dup, 1) := by decide +kernel
theorem dX6_init_31 : decode cX6_init 31 = .ok (.aload_n 0, 1) := by decide +kernel
theorem dX6_init_32 : decode cX6_init 32 = .ok (.getfield 19, 3) := by decide +kernel
theorem dX6_init_35 : decode cX6_init 35 = .ok (.invokespecial 25, 3) := by decide +kernel
theorem dX6_init_38 : decode cX6_init 38 = .ok (.putfield 28, 3) := by decide +kernel
theorem dX6_init_41 : decode cX6_init 41 = .ok (.aload_n 0, 1) := by decide +kernel
theorem dX6_init_42 : decode cX6_init 42 = .ok (.new 32, 3) := by decide +kernel
theorem dX6_init_45 : decode cX6_init 45 = .ok (.dup, 1) := by decide +kernel
theorem dX6_init_46 : decode cX6_init 46 = .ok (.aload_n 0, 1) := by decide +kernel
theorem dX6_init_47 : decode cX6_init 47 = .ok (.getfield 19, 3) := by decide +kernel
theorem dX6_init_50 : decode cX6_init 50 = .ok (.invokespecial 34, 3) := by decide +kernel
theorem dX6_init_53 : decode cX6_init 53 = .ok (.putfield 35, 3) := by decide +kernel
theorem dX6_init_56 : decode cX6_init 56 = .ok (.aload_n 0, 1) := by decide +kernel
theorem dX6_init_57 : decode cX6_init 57 = .ok (.new 39, 3) := by decide +kernel
theorem dX6_init_60 : decode cX6_init 60 = .ok (.dup, 1) := by decide +kernel
theorem dX6_init_61 : decode cX6_init 61 = .ok (.aload_n 0, 1) := by decide +kernel
theorem dX6_init_62 : decode cX6_init 62 = .ok (.getfield 19, 3) := by decide +kernel
theorem dX6_init_65 : decode cX6_init 65 = .ok (.aload_n 0, 1) := by decide +kernel
theorem dX6_init_66 : decode cX6_init 66 = .ok (.getfield 28, 3) := by decide +kernel
theorem dX6_init_69 : decode cX6_init 69 = .ok (.invokespecial 41, 3) := by decide +kernel
theorem dX6_init_72 : decode cX6_init 72 = .ok (.putfield 44, 3) := by decide +kernel
theorem dX6_init_75 : decode cX6_init 75 = .ok (.return_, 1) := by decide +kernel
theorem dX6_begin_0 : decode cX6_begin 0 = .ok (.iload_n 1, 1) := by decide +kernel
theorem dX6_begin_1 : decode cX6_begin 1 = .ok (.iconst 1, 1) := by decide +kernel
theorem dX6_begin_2 : decode cX6_begin 2 = .ok (.if_icmp .lt 18, 3) := by decide +kernel
theorem dX6_begin_5 : decode cX6_begin 5 = .ok (.iload_n 1, 1) := by decide +kernel
theorem dX6_begin_6 : decode cX6_begin 6 = .ok (.bipush 6, 2) := by decide +kernel
theorem dX6_begin_8 : decode cX6_begin 8 = .ok (.if_icmp .gt 12, 3) := by decide +kernel
theorem dX6_begin_11 : decode cX6_begin 11 = .ok (.iload_n 2, 1) := by decide +kernel
theorem dX6_begin_12 : decode cX6_begin 12 = .ok (.ifCond .lt 8, 3) := by decide +kernel
theorem dX6_begin_15 : decode cX6_begin 15 = .ok (.iload_n 2, 1) := by decide +kernel
theorem dX6_begin_16 : decode cX6_begin 16 = .ok (.iconst 2, 1) := by decide +kernel
theorem dX6_begin_17 : decode cX6_begin 17 = .ok (.if_icmp .le 13, 3) := by decide +kernel
theorem dX6_begin_20 : decode cX6_begin 20 = .ok (.new 48, 3) := by decide +kernel
theorem dX6_begin_23 : decode cX6_begin 23 = .ok (.dup, 1) := by decide +kernel
theorem dX6_begin_24 : decode cX6_begin 24 = .ok (.ldc 50, 2) := by decide +kernel
theorem dX6_begin_26 : decode cX6_begin 26 = .ok (.invokespecial 52, 3) := by decide +kernel
theorem dX6_begin_29 : decode cX6_begin 29 = .ok (.athrow, 1) := by decide +kernel
theorem dX6_begin_30 : decode cX6_begin 30 = .ok (.aload_n 0, 1) := by decide +kernel
theorem dX6_begin_31 : decode cX6_begin 31 = .ok (.getfield 19, 3) := by decide +kernel
theorem dX6_begin_34 : decode cX6_begin 34 = .ok (.iload_n 1, 1) := by decide +kernel
theorem dX6_begin_35 : decode cX6_begin 35 = .ok (.iload_n 2, 1) := by decide +kernel
theorem dX6_begin_36 : decode cX6_begin 36 = .ok (.invokevirtual 55, 3) := by decide +kernel
theorem dX6_begin_39 : decode cX6_begin 39 = .ok (.aload_n 0, 1) := by decide +kernel
theorem dX6_begin_40 : decode cX6_begin 40 = .ok (.invokevirtual 59, 3) := by decide +kernel
theorem dX6_begin_43 : decode cX6_begin 43 = .ok (.aload_n 0, 1) := by decide +kernel
theorem dX6_begin_44 : decode cX6_begin 44 = .ok (.getfield 19, 3) := by decide +kernel
theorem dX6_begin_47 : decode cX6_begin 47 = .ok (.getfield 62, 3) := by decide +kernel
theorem dX6_begin_50 : decode cX6_begin 50 = .ok (.ireturn, 1) := by decide +kernel
theorem dX6_append_0 : decode cX6_append 0 = .ok (.iload_n 1, 1) := by decide +kernel
theorem dX6_append_1 : decode cX6_append 1 = .ok (.bipush 33, 2) := by decide +kernel
theorem dX6_append_3 : decode cX6_append 3 = .ok (.if_icmp .lt 9, 3) := by decide +kernel
theorem dX6_append_6 : decode cX6_append 6 = .ok (.iload_n 1, 1) := by decide +kernel
theorem dX6_append_7 : decode cX6_append 7 = .ok (.bipush 126, 2) := by decide +kernel
theorem dX6_append_9 : decode cX6_append 9 = .ok (.if_icmp .le 13, 3) := by decide +kernel
theorem dX6_append_12 : decode cX6_append 12 = .ok (.new 48, 3) := by decide +kernel
theorem dX6_append_15 : decode cX6_append 15 = .ok (.dup, 1) := by decide +kernel
theorem dX6_append_16 : decode cX6_append 16 = .ok (.ldc 66, 2) := by decide +kernel
theorem dX6_append_18 : decode cX6_append 18 = .ok (.invokespecial 52, 3) := by decide +kernel
theorem dX6_append_21 : decode cX6_append 21 = .ok (.athrow, 1) := by decide +kernel
theorem dX6_append_22 : decode cX6_append 22 = .ok (.aload_n 0, 1) := by decide +kernel
theorem dX6_append_23 : decode cX6_append 23 = .ok (.getfield 10, 3) := by decide +kernel
theorem dX6_append_26 : decode cX6_append 26 = .ok (.invokevirtual 68, 3) := by decide +kernel
theorem dX6_append_29 : decode cX6_append 29 = .ok (.ifCond .eq 13, 3) := by decide +kernel
theorem dX6_append_32 : decode cX6_append 32 = .ok (.new 72, 3) := by decide +kernel
theorem dX6_append_35 : decode cX6_append 35 = .ok (.dup, 1) := by decide +kernel
theorem dX6_append_36 : decode cX6_append 36 = .ok (.ldc 74, 2) := by decide +kernel
theorem dX6_append_38 : decode cX6_append 38 = .ok (.invokespecial 76, 3) := by decide +kernel
theorem dX6_append_41 : decode cX6_append 41 = .ok (.athrow, 1) := by decide +kernel
theorem dX6_append_42 : decode cX6_append 42 = .ok (.aload_n 0, 1) := by decide +kernel
theorem dX6_append_43 : decode cX6_append 43 = .ok (.getfield 10, 3) := by decide +kernel
theorem dX6_append_46 : decode cX6_append 46 = .ok (.iload_n 1, 1) := by decide +kernel
theorem dX6_append_47 : decode cX6_append 47 = .ok (.invokevirtual 77, 3) := by decide +kernel
theorem dX6_append_50 : decode cX6_append 50 = .ok (.aload_n 0, 1) := by decide +kernel
theorem dX6_append_51 : decode cX6_append 51 = .ok (.getfield 10, 3) := by decide +kernel
theorem dX6_append_54 : decode cX6_append 54 = .ok (.getfield 81, 3) := by decide +kernel
theorem dX6_append_57 : decode cX6_append 57 = .ok (.ireturn, 1) := by decide +kernel
theorem dX6_clearBuffer_0 : decode cX6_clearBuffer 0 = .ok (.aload_n 0, 1) := by decide +kernel
theorem dX6_clearBuffer_1 : decode cX6_clearBuffer 1 = .ok (.getfield 10, 3) := by decide +kernel
theorem dX6_clearBuffer_4 : decode cX6_clearBuffer 4 = .ok (.getfield 81, 3) := by decide +kernel
theorem dX6_clearBuffer_7 : decode cX6_clearBuffer 7 = .ok (.istore_n 1, 1) := by decide +kernel
theorem dX6_clearBuffer_8 : decode cX6_clearBuffer 8 = .ok (.aload_n 0, 1) := by decide +kernel
theorem dX6_clearBuffer_9 : decode cX6_clearBuffer 9 = .ok (.getfield 10, 3) := by decide +kernel
theorem dX6_clearBuffer_12 : decode cX6_clearBuffer 12 = .ok (.iconst 0, 1) := by decide +kernel
theorem dX6_clearBuffer_13 : decode cX6_clearBuffer 13 = .ok (.putfield 81, 3) := by decide +kernel
theorem dX6_clearBuffer_16 : decode cX6_clearBuffer 16 = .ok (.iload_n 1, 1) := by decide +kernel
theorem dX6_clearBuffer_17 : decode cX6_clearBuffer 17 = .ok (.ireturn, 1) := by decide +kernel
theorem dX6_firstError_0 : decode cX6_firstError 0 = .ok (.aload_n 0, 1) := by decide +kernel
theorem dX6_firstError_1 : decode cX6_firstError 1 = .ok (.getfield 10, 3) := by decide +kernel
theorem dX6_firstError_4 : decode cX6_firstError 4 = .ok (.aload_n 0, 1) := by decide +kernel
theorem dX6_firstError_5 : decode cX6_firstError 5 = .ok (.getfield 19, 3) := by decide +kernel
theorem dX6_firstError_8 : decode cX6_firstError 8 = .ok (.getfield 84, 3) := by decide +kernel
theorem dX6_firstError_11 : decode cX6_firstError 11 = .ok (.aload_n 0, 1) := by decide +kernel
theorem dX6_firstError_12 : decode cX6_firstError 12 = .ok (.getfield 19, 3) := by decide +kernel
theorem dX6_firstError_15 : decode cX6_firstError 15 = .ok (.getfield 87, 3) := by decide +kernel
theorem dX6_firstError_18 : decode cX6_firstError 18 = .ok (.invokevirtual 90, 3) := by decide +kernel
theorem dX6_firstError_21 : decode cX6_firstError 21 = .ok (.ireturn, 1) := by decide +kernel
theorem dX6_setNext_0 : decode cX6_setNext 0 = .ok (.iload_n 1, 1) := by decide +kernel
theorem dX6_setNext_1 : decode cX6_setNext 1 = .ok (.ifCond .lt 14, 3) := by decide +kernel
theorem dX6_setNext_4 : decode cX6_setNext 4 = .ok (.iload_n 1, 1) := by decide +kernel
theorem dX6_setNext_5 : decode cX6_setNext 5 = .ok (.aload_n 0, 1) := by decide +kernel
theorem dX6_setNext_6 : decode cX6_setNext 6 = .ok (.getfield 19, 3) := by decide +kernel
theorem dX6_setNext_9 : decode cX6_setNext 9 = .ok (.getfield 84, 3) := by decide +kernel
theorem dX6_setNext_12 : decode cX6_setNext 12 = .ok (.if_icmp .lt 13, 3) := by decide +kernel
theorem dX6_setNext_15 : decode cX6_setNext 15 = .ok (.new 94, 3) := by decide +kernel
theorem dX6_setNext_18 : decode cX6_setNext 18 = .ok (.dup, 1) := by decide +kernel
theorem dX6_setNext_19 : decode cX6_setNext 19 = .ok (.ldc 96, 2) := by decide +kernel
theorem dX6_setNext_21 : decode cX6_setNext 21 = .ok (.invokespecial 98, 3) := by decide +kernel
theorem dX6_setNext_24 : decode cX6_setNext 24 = .ok (.athrow, 1) := by decide +kernel
theorem dX6_setNext_25 : decode cX6_setNext 25 = .ok (.aload_n 0, 1) := by decide +kernel
theorem dX6_setNext_26 : decode cX6_setNext 26 = .ok (.getfield 10, 3) := by decide +kernel
theorem dX6_setNext_29 : decode cX6_setNext 29 = .ok (.aload_n 0, 1) := by decide +kernel
theorem dX6_setNext_30 : decode cX6_setNext 30 = .ok (.getfield 19, 3) := by decide +kernel
theorem dX6_setNext_33 : decode cX6_setNext 33 = .ok (.getfield 84, 3) := by decide +kernel
theorem dX6_setNext_36 : decode cX6_setNext 36 = .ok (.aload_n 0, 1) := by decide +kernel
theorem dX6_setNext_37 : decode cX6_setNext 37 = .ok (.getfield 19, 3) := by decide +kernel
theorem dX6_setNext_40 : decode cX6_setNext 40 = .ok (.getfield 87, 3) := by decide +kernel
theorem dX6_setNext_43 : decode cX6_setNext 43 = .ok (.invokevirtual 99, 3) := by decide +kernel
theorem dX6_setNext_46 : decode cX6_setNext 46 = .ok (.ifCond .ne 13, 3) := by decide +kernel
theorem dX6_setNext_49 : decode cX6_setNext 49 = .ok (.new 72, 3) := by decide +kernel
theorem dX6_setNext_52 : decode cX6_setNext 52 = .ok (.dup, 1) := by decide +kernel
theorem dX6_setNext_53 : decode cX6_setNext 53 = .ok (.ldc 103, 2) := by decide +kernel
theorem dX6_setNext_55 : decode cX6_setNext 55 = .ok (.invokespecial 76, 3) := by decide +kernel
theorem dX6_setNext_58 : decode cX6_setNext 58 = .ok (.athrow, 1) := by decide +kernel
theorem dX6_setNext_59 : decode cX6_setNext 59 = .ok (.aload_n 0, 1) := by decide +kernel
theorem dX6_setNext_60 : decode cX6_setNext 60 = .ok (.iload_n 1, 1) := by decide +kernel
theorem dX6_setNext_61 : decode cX6_setNext 61 = .ok (.invokevirtual 105, 3) := by decide +kernel
theorem dX6_setNext_64 : decode cX6_setNext 64 = .ok (.ireturn, 1) := by decide +kernel
theorem dX6_setInit_0 : decode cX6_setInit 0 = .ok (.aload_n 0, 1) := by decide +kernel
theorem dX6_setInit_1 : decode cX6_setInit 1 = .ok (.invokevirtual 109, 3) := by decide +kernel
theorem dX6_setInit_4 : decode cX6_setInit 4 = .ok (.aload_n 0, 1) := by decide +kernel
theorem dX6_setInit_5 : decode cX6_setInit 5 = .ok (.bipush 6, 2) := by decide +kernel
theorem dX6_setInit_7 : decode cX6_setInit 7 = .ok (.invokevirtual 105, 3) := by decide +kernel
theorem dX6_setInit_10 : decode cX6_setInit 10 = .ok (.pop, 1) := by decide +kernel
theorem dX6_setInit_11 : decode cX6_setInit 11 = .ok (.aload_n 0, 1) := by decide +kernel
theorem dX6_setInit_12 : decode cX6_setInit 12 = .ok (.getfield 19, 3) := by decide +kernel
theorem dX6_setInit_15 : decode cX6_setInit 15 = .ok (.invokevirtual 112, 3) := by decide +kernel
theorem dX6_setInit_18 : decode cX6_setInit 18 = .ok (.invokestatic 116, 3) := by decide +kernel
theorem dX6_setInit_21 : decode cX6_setInit 21 = .ok (.ireturn, 1) := by decide +kernel
theorem dX6_setProperty_0 : decode cX6_setProperty 0 = .ok (.aload_n 0, 1) := by decide +kernel
theorem dX6_setProperty_1 : decode cX6_setProperty 1 = .ok (.invokevirtual 109, 3) := by decide +kernel
theorem dX6_setProperty_4 : decode cX6_setProperty 4 = .ok (.aload_n 0, 1) := by decide +kernel
theorem dX6_setProperty_5 : decode cX6_setProperty 5 = .ok (.bipush 7, 2) := by decide +kernel
theorem dX6_setProperty_7 : decode cX6_setProperty 7 = .ok (.invokevirtual 105, 3) := by decide +kernel
theorem dX6_setProperty_10 : decode cX6_setProperty 10 = .ok (.pop, 1) := by decide +kernel
theorem dX6_setProperty_11 : decode cX6_setProperty 11 = .ok (.aload_n 0, 1) := by decide +kernel
theorem dX6_setProperty_12 : decode cX6_setProperty 12 = .ok (.getfield 19, 3) := by decide +kernel
theorem dX6_setProperty_15 : decode cX6_setProperty 15 = .ok (.invokevirtual 122, 3) := by decide +kernel
theorem dX6_setProperty_18 : decode cX6_setProperty 18 = .ok (.invokestatic 116, 3) := by decide +kernel
theorem dX6_setProperty_21 : decode cX6_setProperty 21 = .ok (.ireturn, 1) := by decide +kernel
theorem dX6_undo_0 : decode cX6_undo 0 = .ok (.aload_n 0, 1) := by decide +kernel
theorem dX6_undo_1 : decode cX6_undo 1 = .ok (.getfield 19, 3) := by decide +kernel
theorem dX6_undo_4 : decode cX6_undo 4 = .ok (.getfield 125, 3) := by decide +kernel
theorem dX6_undo_7 : decode cX6_undo 7 = .ok (.ifCond .ne 13, 3) := by decide +kernel
theorem dX6_undo_10 : decode cX6_undo 10 = .ok (.new 72, 3) := by decide +kernel
theorem dX6_undo_13 : decode cX6_undo 13 = .ok (.dup, 1) := by decide +kernel
theorem dX6_undo_14 : decode cX6_undo 14 = .ok (.ldc 128, 2) := by decide +kernel
theorem dX6_undo_16 : decode cX6_undo 16 = .ok (.invokespecial 76, 3) := by decide +kernel
theorem dX6_undo_19 : decode cX6_undo 19 = .ok (.athrow, 1) := by decide +kernel
theorem dX6_undo_20 : decode cX6_undo 20 = .ok (.aload_n 0, 1) := by decide +kernel
theorem dX6_undo_21 : decode cX6_undo 21 = .ok (.getfield 19, 3) := by decide +kernel
theorem dX6_undo_24 : decode cX6_undo 24 = .ok (.invokevirtual 130, 3) := by decide +kernel
theorem dX6_undo_27 : decode cX6_undo 27 = .ok (.aload_n 0, 1) := by decide +kernel
theorem dX6_undo_28 : decode cX6_undo 28 = .ok (.invokevirtual 59, 3) := by decide +kernel
theorem dX6_undo_31 : decode cX6_undo 31 = .ok (.aload_n 0, 1) := by decide +kernel
theorem dX6_undo_32 : decode cX6_undo 32 = .ok (.getfield 19, 3) := by decide +kernel
theorem dX6_undo_35 : decode cX6_undo 35 = .ok (.getfield 125, 3) := by decide +kernel
theorem dX6_undo_38 : decode cX6_undo 38 = .ok (.ireturn, 1) := by decide +kernel
theorem dX6_successor_0 : decode cX6_successor 0 = .ok (.aload_n 0, 1) := by decide +kernel
theorem dX6_successor_1 : decode cX6_successor 1 = .ok (.iload_n 1, 1) := by decide +kernel
theorem dX6_successor_2 : decode cX6_successor 2 = .ok (.invokevirtual 133, 3) := by decide +kernel
theorem dX6_successor_5 : decode cX6_successor 5 = .ok (.iload_n 2, 1) := by decide +kernel
theorem dX6_successor_6 : decode cX6_successor 6 = .ok (.ifCond .lt 14, 3) := by decide +kernel
theorem dX6_successor_9 : decode cX6_successor 9 = .ok (.iload_n 2, 1) := by decide +kernel
theorem dX6_successor_10 : decode cX6_successor 10 = .ok (.aload_n 0, 1) := by decide +kernel
theorem dX6_successor_11 : decode cX6_successor 11 = .ok (.getfield 19, 3) := by decide +kernel
theorem dX6_successor_14 : decode cX6_successor 14 = .ok (.getfield 136, 3) := by decide +kernel
theorem dX6_successor_17 : decode cX6_successor 17 = .ok (.if_icmp .lt 13, 3) := by decide +kernel
theorem dX6_successor_20 : decode cX6_successor 20 = .ok (.new 48, 3) := by decide +kernel
theorem dX6_successor_23 : decode cX6_successor 23 = .ok (.dup, 1) := by decide +kernel
theorem dX6_successor_24 : decode cX6_successor 24 = .ok (.ldc 139, 2) := by decide +kernel
theorem dX6_successor_26 : decode cX6_successor 26 = .ok (.invokespecial 52, 3) := by decide +kernel
theorem dX6_successor_29 : decode cX6_successor 29 = .ok (.athrow, 1) := by decide +kernel
theorem dX6_successor_30 : decode cX6_successor 30 = .ok (.aload_n 0, 1) := by decide +kernel
theorem dX6_successor_31 : decode cX6_successor 31 = .ok (.getfield 19, 3) := by decide +kernel
theorem dX6_successor_34 : decode cX6_successor 34 = .ok (.iload_n 1, 1) := by decide +kernel
theorem dX6_successor_35 : decode cX6_successor 35 = .ok (.iload_n 2, 1) := by decide +kernel
theorem dX6_successor_36 : decode cX6_successor 36 = .ok (.invokevirtual 141, 3) := by decide +kernel
theorem dX6_successor_39 : decode cX6_successor 39 = .ok (.ireturn, 1) := by decide +kernel
theorem dX6_state_0 : decode cX6_state 0 = .ok (.aload_n 0, 1) := by decide +kernel
theorem dX6_state_1 : decode cX6_state 1 = .ok (.iload_n 1, 1) := by decide +kernel
theorem dX6_state_2 : decode cX6_state 2 = .ok (.invokevirtual 133, 3) := by decide +kernel
theorem dX6_state_5 : decode cX6_state 5 = .ok (.iload_n 2, 1) := by decide +kernel
theorem dX6_state_6 : decode cX6_state 6 = .ok (.ifCond .lt 8, 3) := by decide +kernel
theorem dX6_state_9 : decode cX6_state 9 = .ok (.iload_n 2, 1) := by decide +kernel
theorem dX6_state_10 : decode cX6_state 10 = .ok (.iconst 5, 1) := by decide +kernel
theorem dX6_state_11 : decode cX6_state 11 = .ok (.if_icmp .lt 13, 3) := by decide +kernel
theorem dX6_state_14 : decode cX6_state 14 = .ok (.new 48, 3) := by decide +kernel
theorem dX6_state_17 : decode cX6_state 17 = .ok (.dup, 1) := by decide +kernel
theorem dX6_state_18 : decode cX6_state 18 = .ok (.ldc 144, 2) := by decide +kernel
theorem dX6_state_20 : decode cX6_state 20 = .ok (.invokespecial 52, 3) := by decide +kernel
theorem dX6_state_23 : decode cX6_state 23 = .ok (.athrow, 1) := by decide +kernel
theorem dX6_state_24 : decode cX6_state 24 = .ok (.aload_n 0, 1) := by decide +kernel
theorem dX6_state_25 : decode cX6_state 25 = .ok (.getfield 28, 3) := by decide +kernel
theorem dX6_state_28 : decode cX6_state 28 = .ok (.invokevirtual 146, 3) := by decide +kernel
theorem dX6_state_31 : decode cX6_state 31 = .ok (.iload_n 2, 1) := by decide +kernel
theorem dX6_state_32 : decode cX6_state 32 = .ok (.tableswitch 90 0 3 #[32, 52, 72, 81], 32) := by decide +kernel
theorem dX6_state_64 : decode cX6_state 64 = .ok (.aload_n 0, 1) := by decide +kernel
theorem dX6_state_65 : decode cX6_state 65 = .ok (.getfield 19, 3) := by decide +kernel
theorem dX6_state_68 : decode cX6_state 68 = .ok (.invokevirtual 112, 3) := by decide +kernel
theorem dX6_state_71 : decode cX6_state 71 = .ok (.iload_n 1, 1) := by decide +kernel
theorem dX6_state_72 : decode cX6_state 72 = .ok (.invokestatic 149, 3) := by decide +kernel
theorem dX6_state_75 : decode cX6_state 75 = .ok (.ifCond .eq 7, 3) := by decide +kernel
theorem dX6_state_78 : decode cX6_state 78 = .ok (.iconst 1, 1) := by decide +kernel
theorem dX6_state_79 : decode cX6_state 79 = .ok (.goto 4, 3) := by decide +kernel
theorem dX6_state_82 : decode cX6_state 82 = .ok (.iconst 0, 1) := by decide +kernel
theorem dX6_state_83 : decode cX6_state 83 = .ok (.ireturn, 1) := by decide +kernel
theorem dX6_state_84 : decode cX6_state 84 = .ok (.aload_n 0, 1) := by decide +kernel
theorem dX6_state_85 : decode cX6_state 85 = .ok (.getfield 19, 3) := by decide +kernel
theorem dX6_state_88 : decode cX6_state 88 = .ok (.invokevirtual 122, 3) := by decide +kernel
theorem dX6_state_91 : decode cX6_state 91 = .ok (.iload_n 1, 1) := by decide +kernel
theorem dX6_state_92 : decode cX6_state 92 = .ok (.invokestatic 149, 3) := by decide +kernel
theorem dX6_state_95 : decode cX6_state 95 = .ok (.ifCond .eq 7, 3) := by decide +kernel
theorem dX6_state_98 : decode cX6_state 98 = .ok (.iconst 1, 1) := by decide +kernel
theorem dX6_state_99 : decode cX6_state 99 = .ok (.goto 4, 3) := by decide +kernel
theorem dX6_state_102 : decode cX6_state 102 = .ok (.iconst 0, 1) := by decide +kernel
theorem dX6_state_103 : decode cX6_state 103 = .ok (.ireturn, 1) := by decide +kernel
theorem dX6_state_104 : decode cX6_state 104 = .ok (.aload_n 0, 1) := by decide +kernel
theorem dX6_state_105 : decode cX6_state 105 = .ok (.getfield 28, 3) := by decide +kernel
theorem dX6_state_108 : decode cX6_state 108 = .ok (.iload_n 1, 1) := by decide +kernel
theorem dX6_state_109 : decode cX6_state 109 = .ok (.invokevirtual 153, 3) := by decide +kernel
theorem dX6_state_112 : decode cX6_state 112 = .ok (.ireturn, 1) := by decide +kernel
theorem dX6_state_113 : decode cX6_state 113 = .ok (.aload_n 0, 1) := by decide +kernel
theorem dX6_state_114 : decode cX6_state 114 = .ok (.getfield 28, 3) := by decide +kernel
theorem dX6_state_117 : decode cX6_state 117 = .ok (.iload_n 1, 1) := by decide +kernel
theorem dX6_state_118 : decode cX6_state 118 = .ok (.invokevirtual 156, 3) := by decide +kernel
theorem dX6_state_121 : decode cX6_state 121 = .ok (.ireturn, 1) := by decide +kernel
theorem dX6_state_122 : decode cX6_state 122 = .ok (.aload_n 0, 1) := by decide +kernel
theorem dX6_state_123 : decode cX6_state 123 = .ok (.getfield 28, 3) := by decide +kernel
theorem dX6_state_126 : decode cX6_state 126 = .ok (.iload_n 1, 1) := by decide +kernel
theorem dX6_state_127 : decode cX6_state 127 = .ok (.invokevirtual 159, 3) := by decide +kernel
theorem dX6_state_130 : decode cX6_state 130 = .ok (.ireturn, 1) := by decide +kernel
theorem dX6_system_0 : decode cX6_system 0 = .ok (.iload_n 1, 1) := by decide +kernel
theorem dX6_system_1 : decode cX6_system 1 = .ok (.ifCond .lt 9, 3) := by decide +kernel
theorem dX6_system_4 : decode cX6_system 4 = .ok (.iload_n 1, 1) := by decide +kernel
theorem dX6_system_5 : decode cX6_system 5 = .ok (.bipush 10, 2) := by decide +kernel
theorem dX6_system_7 : decode cX6_system 7 = .ok (.if_icmp .lt 13, 3) := by decide +kernel
theorem dX6_system_10 : decode cX6_system 10 = .ok (.new 48, 3) := by decide +kernel
theorem dX6_system_13 : decode cX6_system 13 = .ok (.dup, 1) := by decide +kernel
theorem dX6_system_14 : decode cX6_system 14 = .ok (.ldc 162, 2) := by decide +kernel
theorem dX6_system_16 : decode cX6_system 16 = .ok (.invokespecial 52, 3) := by decide +kernel
theorem dX6_system_19 : decode cX6_system 19 = .ok (.athrow, 1) := by decide +kernel
theorem dX6_system_20 : decode cX6_system 20 = .ok (.aload_n 0, 1) := by decide +kernel
theorem dX6_system_21 : decode cX6_system 21 = .ok (.getfield 28, 3) := by decide +kernel
theorem dX6_system_24 : decode cX6_system 24 = .ok (.invokevirtual 146, 3) := by decide +kernel
theorem dX6_system_27 : decode cX6_system 27 = .ok (.iload_n 1, 1) := by decide +kernel
theorem dX6_system_28 : decode cX6_system 28 = .ok (.tableswitch 133 0 8 #[52, 60, 68, 76, 87, 98, 109, 117, 125], 52) := by decide +kernel
theorem dX6_system_80 : decode cX6_system 80 = .ok (.aload_n 0, 1) := by decide +kernel
theorem dX6_system_81 : decode cX6_system 81 = .ok (.getfield 19, 3) := by decide +kernel
theorem dX6_system_84 : decode cX6_system 84 = .ok (.getfield 84, 3) := by decide +kernel
theorem dX6_system_87 : decode cX6_system 87 = .ok (.ireturn, 1) := by decide +kernel
theorem dX6_system_88 : decode cX6_system 88 = .ok (.aload_n 0, 1) := by decide +kernel
theorem dX6_system_89 : decode cX6_system 89 = .ok (.getfield 19, 3) := by decide +kernel
theorem dX6_system_92 : decode cX6_system 92 = .ok (.getfield 87, 3) := by decide +kernel
theorem dX6_system_95 : decode cX6_system 95 = .ok (.ireturn, 1) := by decide +kernel
theorem dX6_system_96 : decode cX6_system 96 = .ok (.aload_n 0, 1) := by decide +kernel
theorem dX6_system_97 : decode cX6_system 97 = .ok (.getfield 19, 3) := by decide +kernel
theorem dX6_system_100 : decode cX6_system 100 = .ok (.getfield 62, 3) := by decide +kernel
theorem dX6_system_103 : decode cX6_system 103 = .ok (.ireturn, 1) := by decide +kernel
theorem dX6_system_104 : decode cX6_system 104 = .ok (.aload_n 0, 1) := by decide +kernel
theorem dX6_system_105 : decode cX6_system 105 = .ok (.getfield 19, 3) := by decide +kernel
theorem dX6_system_108 : decode cX6_system 108 = .ok (.invokevirtual 112, 3) := by decide +kernel
theorem dX6_system_111 : decode cX6_system 111 = .ok (.invokestatic 116, 3) := by decide +kernel
theorem dX6_system_114 : decode cX6_system 114 = .ok (.ireturn, 1) := by decide +kernel
theorem dX6_system_115 : decode cX6_system 115 = .ok (.aload_n 0, 1) := by decide +kernel
theorem dX6_system_116 : decode cX6_system 116 = .ok (.getfield 19, 3) := by decide +kernel
theorem dX6_system_119 : decode cX6_system 119 = .ok (.invokevirtual 122, 3) := by decide +kernel
theorem dX6_system_122 : decode cX6_system 122 = .ok (.invokestatic 116, 3) := by decide +kernel
theorem dX6_system_125 : decode cX6_system 125 = .ok (.ireturn, 1) := by decide +kernel
theorem dX6_system_126 : decode cX6_system 126 = .ok (.aload_n 0, 1) := by decide +kernel
theorem dX6_system_127 : decode cX6_system 127 = .ok (.getfield 28, 3) := by decide +kernel
theorem dX6_system_130 : decode cX6_system 130 = .ok (.getfield 164, 3) := by decide +kernel
theorem dX6_system_133 : decode cX6_system 133 = .ok (.invokestatic 116, 3) := by decide +kernel
theorem dX6_system_136 : decode cX6_system 136 = .ok (.ireturn, 1) := by decide +kernel
theorem dX6_system_137 : decode cX6_system 137 = .ok (.aload_n 0, 1) := by decide +kernel
theorem dX6_system_138 : decode cX6_system 138 = .ok (.getfield 28, 3) := by decide +kernel
theorem dX6_system_141 : decode cX6_system 141 = .ok (.getfield 168, 3) := by decide +kernel
theorem dX6_system_144 : decode cX6_system 144 = .ok (.ireturn, 1) := by decide +kernel
theorem dX6_system_145 : decode cX6_system 145 = .ok (.aload_n 0, 1) := by decide +kernel
theorem dX6_system_146 : decode cX6_system 146 = .ok (.getfield 28, 3) := by decide +kernel
theorem dX6_system_149 : decode cX6_system 149 = .ok (.invokevirtual 171, 3) := by decide +kernel
theorem dX6_system_152 : decode cX6_system 152 = .ok (.ireturn, 1) := by decide +kernel
theorem dX6_system_153 : decode cX6_system 153 = .ok (.aload_n 0, 1) := by decide +kernel
theorem dX6_system_154 : decode cX6_system 154 = .ok (.getfield 19, 3) := by decide +kernel
theorem dX6_system_157 : decode cX6_system 157 = .ok (.getfield 125, 3) := by decide +kernel
theorem dX6_system_160 : decode cX6_system 160 = .ok (.ireturn, 1) := by decide +kernel
theorem dX6_system_161 : decode cX6_system 161 = .ok (.aload_n 0, 1) := by decide +kernel
theorem dX6_system_162 : decode cX6_system 162 = .ok (.getfield 28, 3) := by decide +kernel
theorem dX6_system_165 : decode cX6_system 165 = .ok (.getfield 175, 3) := by decide +kernel
theorem dX6_system_168 : decode cX6_system 168 = .ok (.ireturn, 1) := by decide +kernel
theorem dX6_shortest_0 : decode cX6_shortest 0 = .ok (.aload_n 0, 1) := by decide +kernel
theorem dX6_shortest_1 : decode cX6_shortest 1 = .ok (.getfield 28, 3) := by decide +kernel
theorem dX6_shortest_4 : decode cX6_shortest 4 = .ok (.invokevirtual 146, 3) := by decide +kernel
theorem dX6_shortest_7 : decode cX6_shortest 7 = .ok (.aload_n 0, 1) := by decide +kernel
theorem dX6_shortest_8 : decode cX6_shortest 8 = .ok (.getfield 28, 3) := by decide +kernel
theorem dX6_shortest_11 : decode cX6_shortest 11 = .ok (.getfield 175, 3) := by decide +kernel
theorem dX6_shortest_14 : decode cX6_shortest 14 = .ok (.istore_n 3, 1) := by decide +kernel
theorem dX6_shortest_15 : decode cX6_shortest 15 = .ok (.iload_n 3, 1) := by decide +kernel
theorem dX6_shortest_16 : decode cX6_shortest 16 = .ok (.iconst (-1), 1) := by decide +kernel
theorem dX6_shortest_17 : decode cX6_shortest 17 = .ok (.if_icmp .ne 13, 3) := by decide +kernel
theorem dX6_shortest_20 : decode cX6_shortest 20 = .ok (.new 72, 3) := by decide +kernel
theorem dX6_shortest_23 : decode cX6_shortest 23 = .ok (.dup, 1) := by decide +kernel
theorem dX6_shortest_24 : decode cX6_shortest 24 = .ok (.ldc 178, 2) := by decide +kernel
theorem dX6_shortest_26 : decode cX6_shortest 26 = .ok (.invokespecial 76, 3) := by decide +kernel
theorem dX6_shortest_29 : decode cX6_shortest 29 = .ok (.athrow, 1) := by decide +kernel
theorem dX6_shortest_30 : decode cX6_shortest 30 = .ok (.iload_n 1, 1) := by decide +kernel
theorem dX6_shortest_31 : decode cX6_shortest 31 = .ok (.ifCond .lt 8, 3) := by decide +kernel
theorem dX6_shortest_34 : decode cX6_shortest 34 = .ok (.iload_n 1, 1) := by decide +kernel
theorem dX6_shortest_35 : decode cX6_shortest 35 = .ok (.iload_n 3, 1) := by decide +kernel
theorem dX6_shortest_36 : decode cX6_shortest 36 = .ok (.if_icmp .le 13, 3) := by decide +kernel
theorem dX6_shortest_39 : decode cX6_shortest 39 = .ok (.new 94, 3) := by decide +kernel
theorem dX6_shortest_42 : decode cX6_shortest 42 = .ok (.dup, 1) := by decide +kernel
theorem dX6_shortest_43 : decode cX6_shortest 43 = .ok (.ldc 180, 2) := by decide +kernel
theorem dX6_shortest_45 : decode cX6_shortest 45 = .ok (.invokespecial 98, 3) := by decide +kernel
theorem dX6_shortest_48 : decode cX6_shortest 48 = .ok (.athrow, 1) := by decide +kernel
theorem dX6_shortest_49 : decode cX6_shortest 49 = .ok (.iload_n 2, 1) := by decide +kernel
theorem dX6_shortest_50 : decode cX6_shortest 50 = .ok (.ifCond .lt 8, 3) := by decide +kernel
theorem dX6_shortest_53 : decode cX6_shortest 53 = .ok (.iload_n 2, 1) := by decide +kernel
theorem dX6_shortest_54 : decode cX6_shortest 54 = .ok (.iconst 1, 1) := by decide +kernel
theorem dX6_shortest_55 : decode cX6_shortest 55 = .ok (.if_icmp .le 13, 3) := by decide +kernel
theorem dX6_shortest_58 : decode cX6_shortest 58 = .ok (.new 48, 3) := by decide +kernel
theorem dX6_shortest_61 : decode cX6_shortest 61 = .ok (.dup, 1) := by decide +kernel
theorem dX6_shortest_62 : decode cX6_shortest 62 = .ok (.ldc 182, 2) := by decide +kernel
theorem dX6_shortest_64 : decode cX6_shortest 64 = .ok (.invokespecial 52, 3) := by decide +kernel
theorem dX6_shortest_67 : decode cX6_shortest 67 = .ok (.athrow, 1) := by decide +kernel
theorem dX6_shortest_68 : decode cX6_shortest 68 = .ok (.aload_n 0, 1) := by decide +kernel
theorem dX6_shortest_69 : decode cX6_shortest 69 = .ok (.getfield 28, 3) := by decide +kernel
theorem dX6_shortest_72 : decode cX6_shortest 72 = .ok (.iload_n 1, 1) := by decide +kernel
theorem dX6_shortest_73 : decode cX6_shortest 73 = .ok (.invokevirtual 184, 3) := by decide +kernel
theorem dX6_shortest_76 : decode cX6_shortest 76 = .ok (.istore 4, 2) := by decide +kernel
theorem dX6_shortest_78 : decode cX6_shortest 78 = .ok (.iload_n 2, 1) := by decide +kernel
theorem dX6_shortest_79 : decode cX6_shortest 79 = .ok (.ifCond .ne 6, 3) := by decide +kernel
theorem dX6_shortest_82 : decode cX6_shortest 82 = .ok (.iload 4, 2) := by decide +kernel
theorem dX6_shortest_84 : decode cX6_shortest 84 = .ok (.ireturn, 1) := by decide +kernel
theorem dX6_shortest_85 : decode cX6_shortest 85 = .ok (.iload_n 1, 1) := by decide +kernel
theorem dX6_shortest_86 : decode cX6_shortest 86 = .ok (.iload_n 3, 1) := by decide +kernel
theorem dX6_shortest_87 : decode cX6_shortest 87 = .ok (.if_icmp .ne 7, 3) := by decide +kernel
theorem dX6_shortest_90 : decode cX6_shortest 90 = .ok (.iconst (-1), 1) := by decide +kernel
theorem dX6_shortest_91 : decode cX6_shortest 91 = .ok (.goto 12, 3) := by decide +kernel
theorem dX6_shortest_94 : decode cX6_shortest 94 = .ok (.aload_n 0, 1) := by decide +kernel
theorem dX6_shortest_95 : decode cX6_shortest 95 = .ok (.getfield 28, 3) := by decide +kernel
theorem dX6_shortest_98 : decode cX6_shortest 98 = .ok (.iload 4, 2) := by decide +kernel
theorem dX6_shortest_100 : decode cX6_shortest 100 = .ok (.invokevirtual 187, 3) := by decide +kernel
theorem dX6_shortest_103 : decode cX6_shortest 103 = .ok (.ireturn, 1) := by decide +kernel
theorem dX6_candidate_0 : decode cX6_candidate 0 = .ok (.aload_n 0, 1) := by decide +kernel
theorem dX6_candidate_1 : decode cX6_candidate 1 = .ok (.invokevirtual 109, 3) := by decide +kernel
theorem dX6_candidate_4 : decode cX6_candidate 4 = .ok (.aload_n 0, 1) := by decide +kernel
theorem dX6_candidate_5 : decode cX6_candidate 5 = .ok (.invokevirtual 190, 3) := by decide +kernel
theorem dX6_candidate_8 : decode cX6_candidate 8 = .ok (.lreturn, 1) := by decide +kernel
theorem dX6_check_0 : decode cX6_check 0 = .ok (.aload_n 0, 1) := by decide +kernel
theorem dX6_check_1 : decode cX6_check 1 = .ok (.invokevirtual 109, 3) := by decide +kernel
theorem dX6_check_4 : decode cX6_check 4 = .ok (.aload_n 0, 1) := by decide +kernel
theorem dX6_check_5 : decode cX6_check 5 = .ok (.getfield 28, 3) := by decide +kernel
theorem dX6_check_8 : decode cX6_check 8 = .ok (.invokevirtual 146, 3) := by decide +kernel
theorem dX6_check_11 : decode cX6_check 11 = .ok (.aload_n 0, 1) := by decide +kernel
theorem dX6_check_12 : decode cX6_check 12 = .ok (.invokevirtual 190, 3) := by decide +kernel
theorem dX6_check_15 : decode cX6_check 15 = .ok (.lstore_n 1, 1) := by decide +kernel
theorem dX6_check_16 : decode cX6_check 16 = .ok (.iconst 0, 1) := by decide +kernel
theorem dX6_check_17 : decode cX6_check 17 = .ok (.istore_n 3, 1) := by decide +kernel
theorem dX6_check_18 : decode cX6_check 18 = .ok (.aload_n 0, 1) := by decide +kernel
theorem dX6_check_19 : decode cX6_check 19 = .ok (.getfield 19, 3) := by decide +kernel
theorem dX6_check_22 : decode cX6_check 22 = .ok (.invokevirtual 112, 3) := by decide +kernel
theorem dX6_check_25 : decode cX6_check 25 = .ok (.lload_n 1, 1) := by decide +kernel
theorem dX6_check_26 : decode cX6_check 26 = .ok (.ldc2_w 193, 3) := by decide +kernel
theorem dX6_check_29 : decode cX6_check 29 = .ok (.lxor, 1) := by decide +kernel
theorem dX6_check_30 : decode cX6_check 30 = .ok (.land, 1) := by decide +kernel
theorem dX6_check_31 : decode cX6_check 31 = .ok (.lconst 0, 1) := by decide +kernel
theorem dX6_check_32 : decode cX6_check 32 = .ok (.lcmp, 1) := by decide +kernel
theorem dX6_check_33 : decode cX6_check 33 = .ok (.ifCond .eq 6, 3) := by decide +kernel
theorem dX6_check_36 : decode cX6_check 36 = .ok (.iinc 3 1, 3) := by decide +kernel
theorem dX6_check_39 : decode cX6_check 39 = .ok (.aload_n 0, 1) := by decide +kernel
theorem dX6_check_40 : decode cX6_check 40 = .ok (.getfield 28, 3) := by decide +kernel
theorem dX6_check_43 : decode cX6_check 43 = .ok (.lload_n 1, 1) := by decide +kernel
theorem dX6_check_44 : decode cX6_check 44 = .ok (.invokevirtual 195, 3) := by decide +kernel
theorem dX6_check_47 : decode cX6_check 47 = .ok (.lload_n 1, 1) := by decide +kernel
theorem dX6_check_48 : decode cX6_check 48 = .ok (.ldc2_w 193, 3) := by decide +kernel
theorem dX6_check_51 : decode cX6_check 51 = .ok (.lxor, 1) := by decide +kernel
theorem dX6_check_52 : decode cX6_check 52 = .ok (.land, 1) := by decide +kernel
theorem dX6_check_53 : decode cX6_check 53 = .ok (.lconst 0, 1) := by decide +kernel
theorem dX6_check_54 : decode cX6_check 54 = .ok (.lcmp, 1) := by decide +kernel
theorem dX6_check_55 : decode cX6_check 55 = .ok (.ifCond .eq 6, 3) := by decide +kernel
theorem dX6_check_58 : decode cX6_check 58 = .ok (.iinc 3 2, 3) := by decide +kernel
theorem dX6_check_61 : decode cX6_check 61 = .ok (.lload_n 1, 1) := by decide +kernel
theorem dX6_check_62 : decode cX6_check 62 = .ok (.aload_n 0, 1) := by decide +kernel
theorem dX6_check_63 : decode cX6_check 63 = .ok (.getfield 19, 3) := by decide +kernel
theorem dX6_check_66 : decode cX6_check 66 = .ok (.invokevirtual 199, 3) := by decide +kernel
theorem dX6_check_69 : decode cX6_check 69 = .ok (.land, 1) := by decide +kernel
theorem dX6_check_70 : decode cX6_check 70 = .ok (.lconst 0, 1) := by decide +kernel
theorem dX6_check_71 : decode cX6_check 71 = .ok (.lcmp, 1) := by decide +kernel
theorem dX6_check_72 : decode cX6_check 72 = .ok (.ifCond .eq 6, 3) := by decide +kernel
theorem dX6_check_75 : decode cX6_check 75 = .ok (.iinc 3 4, 3) := by decide +kernel
theorem dX6_check_78 : decode cX6_check 78 = .ok (.iload_n 3, 1) := by decide +kernel
theorem dX6_check_79 : decode cX6_check 79 = .ok (.ireturn, 1) := by decide +kernel
theorem dX6_escape_0 : decode cX6_escape 0 = .ok (.iload_n 1, 1) := by decide +kernel
theorem dX6_escape_1 : decode cX6_escape 1 = .ok (.ifCond .lt 8, 3) := by decide +kernel
theorem dX6_escape_4 : decode cX6_escape 4 = .ok (.iload_n 1, 1) := by decide +kernel
theorem dX6_escape_5 : decode cX6_escape 5 = .ok (.iconst 2, 1) := by decide +kernel
theorem dX6_escape_6 : decode cX6_escape 6 = .ok (.if_icmp .le 13, 3) := by decide +kernel
theorem dX6_escape_9 : decode cX6_escape 9 = .ok (.new 48, 3) := by decide +kernel
theorem dX6_escape_12 : decode cX6_escape 12 = .ok (.dup, 1) := by decide +kernel
theorem dX6_escape_13 : decode cX6_escape 13 = .ok (.ldc 202, 2) := by decide +kernel
theorem dX6_escape_15 : decode cX6_escape 15 = .ok (.invokespecial 52, 3) := by decide +kernel
theorem dX6_escape_18 : decode cX6_escape 18 = .ok (.athrow, 1) := by decide +kernel
theorem dX6_escape_19 : decode cX6_escape 19 = .ok (.aload_n 0, 1) := by decide +kernel
theorem dX6_escape_20 : decode cX6_escape 20 = .ok (.invokevirtual 109, 3) := by decide +kernel
theorem dX6_escape_23 : decode cX6_escape 23 = .ok (.aload_n 0, 1) := by decide +kernel
theorem dX6_escape_24 : decode cX6_escape 24 = .ok (.getfield 28, 3) := by decide +kernel
theorem dX6_escape_27 : decode cX6_escape 27 = .ok (.invokevirtual 146, 3) := by decide +kernel
theorem dX6_escape_30 : decode cX6_escape 30 = .ok (.aload_n 0, 1) := by decide +kernel
theorem dX6_escape_31 : decode cX6_escape 31 = .ok (.invokevirtual 190, 3) := by decide +kernel
theorem dX6_escape_34 : decode cX6_escape 34 = .ok (.lstore_n 2, 1) := by decide +kernel
theorem dX6_escape_35 : decode cX6_escape 35 = .ok (.lload_n 2, 1) := by decide +kernel
theorem dX6_escape_36 : decode cX6_escape 36 = .ok (.aload_n 0, 1) := by decide +kernel
theorem dX6_escape_37 : decode cX6_escape 37 = .ok (.getfield 28, 3) := by decide +kernel
theorem dX6_escape_40 : decode cX6_escape 40 = .ok (.aload_n 0, 1) := by decide +kernel
theorem dX6_escape_41 : decode cX6_escape 41 = .ok (.getfield 19, 3) := by decide +kernel
theorem dX6_escape_44 : decode cX6_escape 44 = .ok (.getfield 204, 3) := by decide +kernel
theorem dX6_escape_47 : decode cX6_escape 47 = .ok (.lload_n 2, 1) := by decide +kernel
theorem dX6_escape_48 : decode cX6_escape 48 = .ok (.ldc2_w 193, 3) := by decide +kernel
theorem dX6_escape_51 : decode cX6_escape 51 = .ok (.lxor, 1) := by decide +kernel
theorem dX6_escape_52 : decode cX6_escape 52 = .ok (.land, 1) := by decide +kernel
theorem dX6_escape_53 : decode cX6_escape 53 = .ok (.invokevirtual 207, 3) := by decide +kernel
theorem dX6_escape_56 : decode cX6_escape 56 = .ok (.land, 1) := by decide +kernel
theorem dX6_escape_57 : decode cX6_escape 57 = .ok (.invokestatic 210, 3) := by decide +kernel
theorem dX6_escape_60 : decode cX6_escape 60 = .ok (.istore 4, 2) := by decide +kernel
theorem dX6_escape_62 : decode cX6_escape 62 = .ok (.iload 4, 2) := by decide +kernel
theorem dX6_escape_64 : decode cX6_escape 64 = .ok (.iconst (-1), 1) := by decide +kernel
theorem dX6_escape_65 : decode cX6_escape 65 = .ok (.if_icmp .eq 7, 3) := by decide +kernel
theorem dX6_escape_68 : decode cX6_escape 68 = .ok (.iload_n 1, 1) := by decide +kernel
theorem dX6_escape_69 : decode cX6_escape 69 = .ok (.ifCond .ne 6, 3) := by decide +kernel
theorem dX6_escape_72 : decode cX6_escape 72 = .ok (.iload 4, 2) := by decide +kernel
theorem dX6_escape_74 : decode cX6_escape 74 = .ok (.ireturn, 1) := by decide +kernel
theorem dX6_escape_75 : decode cX6_escape 75 = .ok (.aload_n 0, 1) := by decide +kernel
theorem dX6_escape_76 : decode cX6_escape 76 = .ok (.getfield 28, 3) := by decide +kernel
theorem dX6_escape_79 : decode cX6_escape 79 = .ok (.iload 4, 2) := by decide +kernel
theorem dX6_escape_81 : decode cX6_escape 81 = .ok (.aload_n 0, 1) := by decide +kernel
theorem dX6_escape_82 : decode cX6_escape 82 = .ok (.getfield 19, 3) := by decide +kernel
theorem dX6_escape_85 : decode cX6_escape 85 = .ok (.getfield 204, 3) := by decide +kernel
theorem dX6_escape_88 : decode cX6_escape 88 = .ok (.lload_n 2, 1) := by decide +kernel
theorem dX6_escape_89 : decode cX6_escape 89 = .ok (.ldc2_w 193, 3) := by decide +kernel
theorem dX6_escape_92 : decode cX6_escape 92 = .ok (.lxor, 1) := by decide +kernel
theorem dX6_escape_93 : decode cX6_escape 93 = .ok (.land, 1) := by decide +kernel
theorem dX6_escape_94 : decode cX6_escape 94 = .ok (.invokevirtual 213, 3) := by decide +kernel
theorem dX6_escape_97 : decode cX6_escape 97 = .ok (.istore 5, 2) := by decide +kernel
theorem dX6_escape_99 : decode cX6_escape 99 = .ok (.iload_n 1, 1) := by decide +kernel
theorem dX6_escape_100 : decode cX6_escape 100 = .ok (.iconst 1, 1) := by decide +kernel
theorem dX6_escape_101 : decode cX6_escape 101 = .ok (.if_icmp .eq 9, 3) := by decide +kernel
theorem dX6_escape_104 : decode cX6_escape 104 = .ok (.iload 5, 2) := by decide +kernel
theorem dX6_escape_106 : decode cX6_escape 106 = .ok (.iconst (-1), 1) := by decide +kernel
theorem dX6_escape_107 : decode cX6_escape 107 = .ok (.if_icmp .ne 8, 3) := by decide +kernel
theorem dX6_escape_110 : decode cX6_escape 110 = .ok (.iload 5, 2) := by decide +kernel
theorem dX6_escape_112 : decode cX6_escape 112 = .ok (.goto 14, 3) := by decide +kernel
theorem dX6_escape_115 : decode cX6_escape 115 = .ok (.aload_n 0, 1) := by decide +kernel
theorem dX6_escape_116 : decode cX6_escape 116 = .ok (.getfield 19, 3) := by decide +kernel
theorem dX6_escape_119 : decode cX6_escape 119 = .ok (.iload 4, 2) := by decide +kernel
theorem dX6_escape_121 : decode cX6_escape 121 = .ok (.iload 5, 2) := by decide +kernel
theorem dX6_escape_123 : decode cX6_escape 123 = .ok (.invokevirtual 141, 3) := by decide +kernel
theorem dX6_escape_126 : decode cX6_escape 126 = .ok (.ireturn, 1) := by decide +kernel
theorem dX6_modal_0 : decode cX6_modal 0 = .ok (.iload_n 1, 1) := by decide +kernel
theorem dX6_modal_1 : decode cX6_modal 1 = .ok (.ifCond .lt 8, 3) := by decide +kernel
theorem dX6_modal_4 : decode cX6_modal 4 = .ok (.iload_n 1, 1) := by decide +kernel
theorem dX6_modal_5 : decode cX6_modal 5 = .ok (.iconst 5, 1) := by decide +kernel
theorem dX6_modal_6 : decode cX6_modal 6 = .ok (.if_icmp .le 13, 3) := by decide +kernel
theorem dX6_modal_9 : decode cX6_modal 9 = .ok (.new 48, 3) := by decide +kernel
theorem dX6_modal_12 : decode cX6_modal 12 = .ok (.dup, 1) := by decide +kernel
theorem dX6_modal_13 : decode cX6_modal 13 = .ok (.ldc 217, 2) := by decide +kernel
theorem dX6_modal_15 : decode cX6_modal 15 = .ok (.invokespecial 52, 3) := by decide +kernel
theorem dX6_modal_18 : decode cX6_modal 18 = .ok (.athrow, 1) := by decide +kernel
theorem dX6_modal_19 : decode cX6_modal 19 = .ok (.aload_n 0, 1) := by decide +kernel
theorem dX6_modal_20 : decode cX6_modal 20 = .ok (.invokevirtual 109, 3) := by decide +kernel
theorem dX6_modal_23 : decode cX6_modal 23 = .ok (.aload_n 0, 1) := by decide +kernel
theorem dX6_modal_24 : decode cX6_modal 24 = .ok (.getfield 28, 3) := by decide +kernel
theorem dX6_modal_27 : decode cX6_modal 27 = .ok (.invokevirtual 146, 3) := by decide +kernel
theorem dX6_modal_30 : decode cX6_modal 30 = .ok (.aload_n 0, 1) := by decide +kernel
theorem dX6_modal_31 : decode cX6_modal 31 = .ok (.invokevirtual 190, 3) := by decide +kernel
theorem dX6_modal_34 : decode cX6_modal 34 = .ok (.lstore_n 2, 1) := by decide +kernel
theorem dX6_modal_35 : decode cX6_modal 35 = .ok (.aload_n 0, 1) := by decide +kernel
theorem dX6_modal_36 : decode cX6_modal 36 = .ok (.getfield 19, 3) := by decide +kernel
theorem dX6_modal_39 : decode cX6_modal 39 = .ok (.getfield 204, 3) := by decide +kernel
theorem dX6_modal_42 : decode cX6_modal 42 = .ok (.lload_n 2, 1) := by decide +kernel
theorem dX6_modal_43 : decode cX6_modal 43 = .ok (.ldc2_w 193, 3) := by decide +kernel
theorem dX6_modal_46 : decode cX6_modal 46 = .ok (.lxor, 1) := by decide +kernel
theorem dX6_modal_47 : decode cX6_modal 47 = .ok (.land, 1) := by decide +kernel
theorem dX6_modal_48 : decode cX6_modal 48 = .ok (.lstore 4, 2) := by decide +kernel
theorem dX6_modal_50 : decode cX6_modal 50 = .ok (.iload_n 1, 1) := by decide +kernel
theorem dX6_modal_51 : decode cX6_modal 51 = .ok (.tableswitch 104 0 4 #[33, 42, 64, 73, 95], 33) := by decide +kernel
theorem dX6_modal_84 : decode cX6_modal 84 = .ok (.aload_n 0, 1) := by decide +kernel
theorem dX6_modal_85 : decode cX6_modal 85 = .ok (.getfield 28, 3) := by decide +kernel
theorem dX6_modal_88 : decode cX6_modal 88 = .ok (.lload_n 2, 1) := by decide +kernel
theorem dX6_modal_89 : decode cX6_modal 89 = .ok (.invokevirtual 207, 3) := by decide +kernel
theorem dX6_modal_92 : decode cX6_modal 92 = .ok (.lreturn, 1) := by decide +kernel
theorem dX6_modal_93 : decode cX6_modal 93 = .ok (.aload_n 0, 1) := by decide +kernel
theorem dX6_modal_94 : decode cX6_modal 94 = .ok (.getfield 19, 3) := by decide +kernel
theorem dX6_modal_97 : decode cX6_modal 97 = .ok (.getfield 204, 3) := by decide +kernel
theorem dX6_modal_100 : decode cX6_modal 100 = .ok (.aload_n 0, 1) := by decide +kernel
theorem dX6_modal_101 : decode cX6_modal 101 = .ok (.getfield 28, 3) := by decide +kernel
theorem dX6_modal_104 : decode cX6_modal 104 = .ok (.lload 4, 2) := by decide +kernel
theorem dX6_modal_106 : decode cX6_modal 106 = .ok (.invokevirtual 207, 3) := by decide +kernel
theorem dX6_modal_109 : decode cX6_modal 109 = .ok (.ldc2_w 193, 3) := by decide +kernel
theorem dX6_modal_112 : decode cX6_modal 112 = .ok (.lxor, 1) := by decide +kernel
theorem dX6_modal_113 : decode cX6_modal 113 = .ok (.land, 1) := by decide +kernel
theorem dX6_modal_114 : decode cX6_modal 114 = .ok (.lreturn, 1) := by decide +kernel
theorem dX6_modal_115 : decode cX6_modal 115 = .ok (.aload_n 0, 1) := by decide +kernel
theorem dX6_modal_116 : decode cX6_modal 116 = .ok (.getfield 28, 3) := by decide +kernel
theorem dX6_modal_119 : decode cX6_modal 119 = .ok (.lload_n 2, 1) := by decide +kernel
theorem dX6_modal_120 : decode cX6_modal 120 = .ok (.invokevirtual 219, 3) := by decide +kernel
theorem dX6_modal_123 : decode cX6_modal 123 = .ok (.lreturn, 1) := by decide +kernel
theorem dX6_modal_124 : decode cX6_modal 124 = .ok (.aload_n 0, 1) := by decide +kernel
theorem dX6_modal_125 : decode cX6_modal 125 = .ok (.getfield 19, 3) := by decide +kernel
theorem dX6_modal_128 : decode cX6_modal 128 = .ok (.getfield 204, 3) := by decide +kernel
theorem dX6_modal_131 : decode cX6_modal 131 = .ok (.aload_n 0, 1) := by decide +kernel
theorem dX6_modal_132 : decode cX6_modal 132 = .ok (.getfield 28, 3) := by decide +kernel
theorem dX6_modal_135 : decode cX6_modal 135 = .ok (.lload 4, 2) := by decide +kernel
theorem dX6_modal_137 : decode cX6_modal 137 = .ok (.invokevirtual 222, 3) := by decide +kernel
theorem dX6_modal_140 : decode cX6_modal 140 = .ok (.ldc2_w 193, 3) := by decide +kernel
theorem dX6_modal_143 : decode cX6_modal 143 = .ok (.lxor, 1) := by decide +kernel
theorem dX6_modal_144 : decode cX6_modal 144 = .ok (.land, 1) := by decide +kernel
theorem dX6_modal_145 : decode cX6_modal 145 = .ok (.lreturn, 1) := by decide +kernel
theorem dX6_modal_146 : decode cX6_modal 146 = .ok (.aload_n 0, 1) := by decide +kernel
theorem dX6_modal_147 : decode cX6_modal 147 = .ok (.getfield 28, 3) := by decide +kernel
theorem dX6_modal_150 : decode cX6_modal 150 = .ok (.lload_n 2, 1) := by decide +kernel
theorem dX6_modal_151 : decode cX6_modal 151 = .ok (.invokevirtual 222, 3) := by decide +kernel
theorem dX6_modal_154 : decode cX6_modal 154 = .ok (.lreturn, 1) := by decide +kernel
theorem dX6_modal_155 : decode cX6_modal 155 = .ok (.aload_n 0, 1) := by decide +kernel
theorem dX6_modal_156 : decode cX6_modal 156 = .ok (.getfield 19, 3) := by decide +kernel
theorem dX6_modal_159 : decode cX6_modal 159 = .ok (.getfield 204, 3) := by decide +kernel
theorem dX6_modal_162 : decode cX6_modal 162 = .ok (.aload_n 0, 1) := by decide +kernel
theorem dX6_modal_163 : decode cX6_modal 163 = .ok (.getfield 28, 3) := by decide +kernel
theorem dX6_modal_166 : decode cX6_modal 166 = .ok (.lload 4, 2) := by decide +kernel
theorem dX6_modal_168 : decode cX6_modal 168 = .ok (.invokevirtual 219, 3) := by decide +kernel
theorem dX6_modal_171 : decode cX6_modal 171 = .ok (.ldc2_w 193, 3) := by decide +kernel
theorem dX6_modal_174 : decode cX6_modal 174 = .ok (.lxor, 1) := by decide +kernel
theorem dX6_modal_175 : decode cX6_modal 175 = .ok (.land, 1) := by decide +kernel
theorem dX6_modal_176 : decode cX6_modal 176 = .ok (.lreturn, 1) := by decide +kernel
theorem dX6_prove_0 : decode cX6_prove 0 = .ok (.aload_n 0, 1) := by decide +kernel
theorem dX6_prove_1 : decode cX6_prove 1 = .ok (.getfield 35, 3) := by decide +kernel
theorem dX6_prove_4 : decode cX6_prove 4 = .ok (.invokevirtual 225, 3) := by decide +kernel
theorem dX6_prove_7 : decode cX6_prove 7 = .ok (.aload_n 0, 1) := by decide +kernel
theorem dX6_prove_8 : decode cX6_prove 8 = .ok (.getfield 35, 3) := by decide +kernel
theorem dX6_prove_11 : decode cX6_prove 11 = .ok (.getfield 228, 3) := by decide +kernel
theorem dX6_prove_14 : decode cX6_prove 14 = .ok (.ireturn, 1) := by decide +kernel
theorem dX6_proof_0 : decode cX6_proof 0 = .ok (.iload_n 1, 1) := by decide +kernel
theorem dX6_proof_1 : decode cX6_proof 1 = .ok (.ifCond .lt 9, 3) := by decide +kernel
theorem dX6_proof_4 : decode cX6_proof 4 = .ok (.iload_n 1, 1) := by decide +kernel
theorem dX6_proof_5 : decode cX6_proof 5 = .ok (.bipush 8, 2) := by decide +kernel
theorem dX6_proof_7 : decode cX6_proof 7 = .ok (.if_icmp .lt 13, 3) := by decide +kernel
theorem dX6_proof_10 : decode cX6_proof 10 = .ok (.new 48, 3) := by decide +kernel
theorem dX6_proof_13 : decode cX6_proof 13 = .ok (.dup, 1) := by decide +kernel
theorem dX6_proof_14 : decode cX6_proof 14 = .ok (.ldc 231, 2) := by decide +kernel
theorem dX6_proof_16 : decode cX6_proof 16 = .ok (.invokespecial 52, 3) := by decide +kernel
theorem dX6_proof_19 : decode cX6_proof 19 = .ok (.athrow, 1) := by decide +kernel
theorem dX6_proof_20 : decode cX6_proof 20 = .ok (.aload_n 0, 1) := by decide +kernel
theorem dX6_proof_21 : decode cX6_proof 21 = .ok (.getfield 35, 3) := by decide +kernel
theorem dX6_proof_24 : decode cX6_proof 24 = .ok (.getfield 233, 3) := by decide +kernel
theorem dX6_proof_27 : decode cX6_proof 27 = .ok (.ifCond .eq 14, 3) := by decide +kernel
theorem dX6_proof_30 : decode cX6_proof 30 = .ok (.aload_n 0, 1) := by decide +kernel
theorem dX6_proof_31 : decode cX6_proof 31 = .ok (.getfield 35, 3) := by decide +kernel
theorem dX6_proof_34 : decode cX6_proof 34 = .ok (.iload_n 1, 1) := by decide +kernel
theorem dX6_proof_35 : decode cX6_proof 35 = .ok (.invokevirtual 237, 3) := by decide +kernel
theorem dX6_proof_38 : decode cX6_proof 38 = .ok (.goto 4, 3) := by decide +kernel
theorem dX6_proof_41 : decode cX6_proof 41 = .ok (.iconst (-1), 1) := by decide +kernel
theorem dX6_proof_42 : decode cX6_proof 42 = .ok (.ireturn, 1) := by decide +kernel
theorem dX6_frame_0 : decode cX6_frame 0 = .ok (.aload_n 0, 1) := by decide +kernel
theorem dX6_frame_1 : decode cX6_frame 1 = .ok (.invokevirtual 240, 3) := by decide +kernel
theorem dX6_frame_4 : decode cX6_frame 4 = .ok (.iload_n 1, 1) := by decide +kernel
theorem dX6_frame_5 : decode cX6_frame 5 = .ok (.ifCond .lt 14, 3) := by decide +kernel
theorem dX6_frame_8 : decode cX6_frame 8 = .ok (.iload_n 1, 1) := by decide +kernel
theorem dX6_frame_9 : decode cX6_frame 9 = .ok (.aload_n 0, 1) := by decide +kernel
theorem dX6_frame_10 : decode cX6_frame 10 = .ok (.getfield 35, 3) := by decide +kernel
theorem dX6_frame_13 : decode cX6_frame 13 = .ok (.getfield 243, 3) := by decide +kernel
theorem dX6_frame_16 : decode cX6_frame 16 = .ok (.if_icmp .le 13, 3) := by decide +kernel
theorem dX6_frame_19 : decode cX6_frame 19 = .ok (.new 94, 3) := by decide +kernel
theorem dX6_frame_22 : decode cX6_frame 22 = .ok (.dup, 1) := by decide +kernel
theorem dX6_frame_23 : decode cX6_frame 23 = .ok (.ldc 246, 2) := by decide +kernel
theorem dX6_frame_25 : decode cX6_frame 25 = .ok (.invokespecial 98, 3) := by decide +kernel
theorem dX6_frame_28 : decode cX6_frame 28 = .ok (.athrow, 1) := by decide +kernel
theorem dX6_frame_29 : decode cX6_frame 29 = .ok (.aload_n 0, 1) := by decide +kernel
theorem dX6_frame_30 : decode cX6_frame 30 = .ok (.getfield 35, 3) := by decide +kernel
theorem dX6_frame_33 : decode cX6_frame 33 = .ok (.iload_n 1, 1) := by decide +kernel
theorem dX6_frame_34 : decode cX6_frame 34 = .ok (.invokevirtual 248, 3) := by decide +kernel
theorem dX6_frame_37 : decode cX6_frame 37 = .ok (.lreturn, 1) := by decide +kernel
theorem dX6_cube_0 : decode cX6_cube 0 = .ok (.aload_n 0, 1) := by decide +kernel
theorem dX6_cube_1 : decode cX6_cube 1 = .ok (.invokevirtual 240, 3) := by decide +kernel
theorem dX6_cube_4 : decode cX6_cube 4 = .ok (.iload_n 1, 1) := by decide +kernel
theorem dX6_cube_5 : decode cX6_cube 5 = .ok (.ifCond .lt 17, 3) := by decide +kernel
theorem dX6_cube_8 : decode cX6_cube 8 = .ok (.iload_n 1, 1) := by decide +kernel
theorem dX6_cube_9 : decode cX6_cube 9 = .ok (.aload_n 0, 1) := by decide +kernel
theorem dX6_cube_10 : decode cX6_cube 10 = .ok (.getfield 35, 3) := by decide +kernel
theorem dX6_cube_13 : decode cX6_cube 13 = .ok (.getfield 252, 3) := by decide +kernel
theorem dX6_cube_16 : decode cX6_cube 16 = .ok (.getfield 256, 3) := by decide +kernel
theorem dX6_cube_19 : decode cX6_cube 19 = .ok (.if_icmp .lt 14, 3) := by decide +kernel
theorem dX6_cube_22 : decode cX6_cube 22 = .ok (.new 94, 3) := by decide +kernel
theorem dX6_cube_25 : decode cX6_cube 25 = .ok (.dup, 1) := by decide +kernel
theorem dX6_cube_26 : decode cX6_cube 26 = .ok (.ldc_w 261, 3) := by decide +kernel
theorem dX6_cube_29 : decode cX6_cube 29 = .ok (.invokespecial 98, 3) := by decide +kernel
theorem dX6_cube_32 : decode cX6_cube 32 = .ok (.athrow, 1) := by decide +kernel
theorem dX6_cube_33 : decode cX6_cube 33 = .ok (.iload_n 2, 1) := by decide +kernel
theorem dX6_cube_34 : decode cX6_cube 34 = .ok (.ifCond .lt 8, 3) := by decide +kernel
theorem dX6_cube_37 : decode cX6_cube 37 = .ok (.iload_n 2, 1) := by decide +kernel
theorem dX6_cube_38 : decode cX6_cube 38 = .ok (.iconst 2, 1) := by decide +kernel
theorem dX6_cube_39 : decode cX6_cube 39 = .ok (.if_icmp .le 13, 3) := by decide +kernel
theorem dX6_cube_42 : decode cX6_cube 42 = .ok (.new 48, 3) := by decide +kernel
theorem dX6_cube_45 : decode cX6_cube 45 = .ok (.dup, 1) := by decide +kernel
theorem dX6_cube_46 : decode cX6_cube 46 = .ok (.ldc 202, 2) := by decide +kernel
theorem dX6_cube_48 : decode cX6_cube 48 = .ok (.invokespecial 52, 3) := by decide +kernel
theorem dX6_cube_51 : decode cX6_cube 51 = .ok (.athrow, 1) := by decide +kernel
theorem dX6_cube_52 : decode cX6_cube 52 = .ok (.aload_n 0, 1) := by decide +kernel
theorem dX6_cube_53 : decode cX6_cube 53 = .ok (.getfield 35, 3) := by decide +kernel
theorem dX6_cube_56 : decode cX6_cube 56 = .ok (.getfield 252, 3) := by decide +kernel
theorem dX6_cube_59 : decode cX6_cube 59 = .ok (.iload_n 1, 1) := by decide +kernel
theorem dX6_cube_60 : decode cX6_cube 60 = .ok (.iload_n 2, 1) := by decide +kernel
theorem dX6_cube_61 : decode cX6_cube 61 = .ok (.invokevirtual 263, 3) := by decide +kernel
theorem dX6_cube_64 : decode cX6_cube 64 = .ok (.ireturn, 1) := by decide +kernel
theorem dX6_certificate_0 : decode cX6_certificate 0 = .ok (.aload_n 0, 1) := by decide +kernel
theorem dX6_certificate_1 : decode cX6_certificate 1 = .ok (.invokevirtual 265, 3) := by decide +kernel
theorem dX6_certificate_4 : decode cX6_certificate 4 = .ok (.aload_n 0, 1) := by decide +kernel
theorem dX6_certificate_5 : decode cX6_certificate 5 = .ok (.getfield 35, 3) := by decide +kernel
theorem dX6_certificate_8 : decode cX6_certificate 8 = .ok (.invokevirtual 268, 3) := by decide +kernel
theorem dX6_certificate_11 : decode cX6_certificate 11 = .ok (.lreturn, 1) := by decide +kernel
theorem dX6_shrunken_0 : decode cX6_shrunken 0 = .ok (.aload_n 0, 1) := by decide +kernel
theorem dX6_shrunken_1 : decode cX6_shrunken 1 = .ok (.invokevirtual 265, 3) := by decide +kernel
theorem dX6_shrunken_4 : decode cX6_shrunken 4 = .ok (.aload_n 0, 1) := by decide +kernel
theorem dX6_shrunken_5 : decode cX6_shrunken 5 = .ok (.getfield 28, 3) := by decide +kernel
theorem dX6_shrunken_8 : decode cX6_shrunken 8 = .ok (.invokevirtual 146, 3) := by decide +kernel
theorem dX6_shrunken_11 : decode cX6_shrunken 11 = .ok (.aload_n 0, 1) := by decide +kernel
theorem dX6_shrunken_12 : decode cX6_shrunken 12 = .ok (.getfield 35, 3) := by decide +kernel
theorem dX6_shrunken_15 : decode cX6_shrunken 15 = .ok (.aload_n 0, 1) := by decide +kernel
theorem dX6_shrunken_16 : decode cX6_shrunken 16 = .ok (.getfield 28, 3) := by decide +kernel
theorem dX6_shrunken_19 : decode cX6_shrunken 19 = .ok (.invokevirtual 271, 3) := by decide +kernel
theorem dX6_shrunken_22 : decode cX6_shrunken 22 = .ok (.ireturn, 1) := by decide +kernel
theorem dX6_induction_0 : decode cX6_induction 0 = .ok (.aload_n 0, 1) := by decide +kernel
theorem dX6_induction_1 : decode cX6_induction 1 = .ok (.getfield 28, 3) := by decide +kernel
theorem dX6_induction_4 : decode cX6_induction 4 = .ok (.invokevirtual 146, 3) := by decide +kernel
theorem dX6_induction_7 : decode cX6_induction 7 = .ok (.aload_n 0, 1) := by decide +kernel
theorem dX6_induction_8 : decode cX6_induction 8 = .ok (.getfield 44, 3) := by decide +kernel
theorem dX6_induction_11 : decode cX6_induction 11 = .ok (.iload_n 1, 1) := by decide +kernel
theorem dX6_induction_12 : decode cX6_induction 12 = .ok (.invokevirtual 275, 3) := by decide +kernel
theorem dX6_induction_15 : decode cX6_induction 15 = .ok (.ireturn, 1) := by decide +kernel
theorem dX6_elimination_0 : decode cX6_elimination 0 = .ok (.iload_n 1, 1) := by decide +kernel
theorem dX6_elimination_1 : decode cX6_elimination 1 = .ok (.iconst 1, 1) := by decide +kernel
theorem dX6_elimination_2 : decode cX6_elimination 2 = .ok (.if_icmp .lt 8, 3) := by decide +kernel
theorem dX6_elimination_5 : decode cX6_elimination 5 = .ok (.iload_n 1, 1) := by decide +kernel
theorem dX6_elimination_6 : decode cX6_elimination 6 = .ok (.iconst 3, 1) := by decide +kernel
theorem dX6_elimination_7 : decode cX6_elimination 7 = .ok (.if_icmp .le 14, 3) := by decide +kernel
theorem dX6_elimination_10 : decode cX6_elimination 10 = .ok (.new 48, 3) := by decide +kernel
theorem dX6_elimination_13 : decode cX6_elimination 13 = .ok (.dup, 1) := by decide +kernel
theorem dX6_elimination_14 : decode cX6_elimination 14 = .ok (.ldc_w 279, 3) := by decide +kernel
theorem dX6_elimination_17 : decode cX6_elimination 17 = .ok (.invokespecial 52, 3) := by decide +kernel
theorem dX6_elimination_20 : decode cX6_elimination 20 = .ok (.athrow, 1) := by decide +kernel
theorem dX6_elimination_21 : decode cX6_elimination 21 = .ok (.aload_n 0, 1) := by decide +kernel
theorem dX6_elimination_22 : decode cX6_elimination 22 = .ok (.getfield 28, 3) := by decide +kernel
theorem dX6_elimination_25 : decode cX6_elimination 25 = .ok (.invokevirtual 146, 3) := by decide +kernel
theorem dX6_elimination_28 : decode cX6_elimination 28 = .ok (.aload_n 0, 1) := by decide +kernel
theorem dX6_elimination_29 : decode cX6_elimination 29 = .ok (.getfield 44, 3) := by decide +kernel
theorem dX6_elimination_32 : decode cX6_elimination 32 = .ok (.iload_n 1, 1) := by decide +kernel
theorem dX6_elimination_33 : decode cX6_elimination 33 = .ok (.invokevirtual 281, 3) := by decide +kernel
theorem dX6_elimination_36 : decode cX6_elimination 36 = .ok (.lreturn, 1) := by decide +kernel
theorem dX6_isSafeWithFree_0 : decode cX6_isSafeWithFree 0 = .ok (.iload_n 1, 1) := by decide +kernel
theorem dX6_isSafeWithFree_1 : decode cX6_isSafeWithFree 1 = .ok (.ifCond .lt 14, 3) := by decide +kernel
theorem dX6_isSafeWithFree_4 : decode cX6_isSafeWithFree 4 = .ok (.iload_n 1, 1) := by decide +kernel
theorem dX6_isSafeWithFree_5 : decode cX6_isSafeWithFree 5 = .ok (.aload_n 0, 1) := by decide +kernel
theorem dX6_isSafeWithFree_6 : decode cX6_isSafeWithFree 6 = .ok (.getfield 19, 3) := by decide +kernel
theorem dX6_isSafeWithFree_9 : decode cX6_isSafeWithFree 9 = .ok (.getfield 62, 3) := by decide +kernel
theorem dX6_isSafeWithFree_12 : decode cX6_isSafeWithFree 12 = .ok (.if_icmp .lt 14, 3) := by decide +kernel
theorem dX6_isSafeWithFree_15 : decode cX6_isSafeWithFree 15 = .ok (.new 48, 3) := by decide +kernel
theorem dX6_isSafeWithFree_18 : decode cX6_isSafeWithFree 18 = .ok (.dup, 1) := by decide +kernel
theorem dX6_isSafeWithFree_19 : decode cX6_isSafeWithFree 19 = .ok (.ldc_w 284, 3) := by decide +kernel
theorem dX6_isSafeWithFree_22 : decode cX6_isSafeWithFree 22 = .ok (.invokespecial 52, 3) := by decide +kernel
theorem dX6_isSafeWithFree_25 : decode cX6_isSafeWithFree 25 = .ok (.athrow, 1) := by decide +kernel
theorem dX6_isSafeWithFree_26 : decode cX6_isSafeWithFree 26 = .ok (.aload_n 0, 1) := by decide +kernel
theorem dX6_isSafeWithFree_27 : decode cX6_isSafeWithFree 27 = .ok (.getfield 28, 3) := by decide +kernel
theorem dX6_isSafeWithFree_30 : decode cX6_isSafeWithFree 30 = .ok (.invokevirtual 146, 3) := by decide +kernel
theorem dX6_isSafeWithFree_33 : decode cX6_isSafeWithFree 33 = .ok (.aload_n 0, 1) := by decide +kernel
theorem dX6_isSafeWithFree_34 : decode cX6_isSafeWithFree 34 = .ok (.getfield 44, 3) := by decide +kernel
theorem dX6_isSafeWithFree_37 : decode cX6_isSafeWithFree 37 = .ok (.iload_n 1, 1) := by decide +kernel
theorem dX6_isSafeWithFree_38 : decode cX6_isSafeWithFree 38 = .ok (.invokevirtual 286, 3) := by decide +kernel
theorem dX6_isSafeWithFree_41 : decode cX6_isSafeWithFree 41 = .ok (.ireturn, 1) := by decide +kernel
theorem dX6_leastCone_0 : decode cX6_leastCone 0 = .ok (.aload_n 0, 1) := by decide +kernel
theorem dX6_leastCone_1 : decode cX6_leastCone 1 = .ok (.getfield 28, 3) := by decide +kernel
theorem dX6_leastCone_4 : decode cX6_leastCone 4 = .ok (.invokevirtual 146, 3) := by decide +kernel
theorem dX6_leastCone_7 : decode cX6_leastCone 7 = .ok (.aload_n 0, 1) := by decide +kernel
theorem dX6_leastCone_8 : decode cX6_leastCone 8 = .ok (.getfield 44, 3) := by decide +kernel
theorem dX6_leastCone_11 : decode cX6_leastCone 11 = .ok (.invokevirtual 290, 3) := by decide +kernel
theorem dX6_leastCone_14 : decode cX6_leastCone 14 = .ok (.ireturn, 1) := by decide +kernel
theorem dX6_simulate_0 : decode cX6_simulate 0 = .ok (.iload_n 1, 1) := by decide +kernel
theorem dX6_simulate_1 : decode cX6_simulate 1 = .ok (.ifCond .lt 22, 3) := by decide +kernel
theorem dX6_simulate_4 : decode cX6_simulate 4 = .ok (.iload_n 1, 1) := by decide +kernel
theorem dX6_simulate_5 : decode cX6_simulate 5 = .ok (.bipush 100, 2) := by decide +kernel
theorem dX6_simulate_7 : decode cX6_simulate 7 = .ok (.if_icmp .gt 16, 3) := by decide +kernel
theorem dX6_simulate_10 : decode cX6_simulate 10 = .ok (.iload_n 2, 1) := by decide +kernel
theorem dX6_simulate_11 : decode cX6_simulate 11 = .ok (.ifCond .lt 12, 3) := by decide +kernel
theorem dX6_simulate_14 : decode cX6_simulate 14 = .ok (.iload_n 3, 1) := by decide +kernel
theorem dX6_simulate_15 : decode cX6_simulate 15 = .ok (.ifCond .lt 8, 3) := by decide +kernel
theorem dX6_simulate_18 : decode cX6_simulate 18 = .ok (.iload_n 3, 1) := by decide +kernel
theorem dX6_simulate_19 : decode cX6_simulate 19 = .ok (.iconst 2, 1) := by decide +kernel
theorem dX6_simulate_20 : decode cX6_simulate 20 = .ok (.if_icmp .le 14, 3) := by decide +kernel
theorem dX6_simulate_23 : decode cX6_simulate 23 = .ok (.new 48, 3) := by decide +kernel
theorem dX6_simulate_26 : decode cX6_simulate 26 = .ok (.dup, 1) := by decide +kernel
theorem dX6_simulate_27 : decode cX6_simulate 27 = .ok (.ldc_w 293, 3) := by decide +kernel
theorem dX6_simulate_30 : decode cX6_simulate 30 = .ok (.invokespecial 52, 3) := by decide +kernel
theorem dX6_simulate_33 : decode cX6_simulate 33 = .ok (.athrow, 1) := by decide +kernel
theorem dX6_simulate_34 : decode cX6_simulate 34 = .ok (.aload_n 0, 1) := by decide +kernel
theorem dX6_simulate_35 : decode cX6_simulate 35 = .ok (.getfield 19, 3) := by decide +kernel
theorem dX6_simulate_38 : decode cX6_simulate 38 = .ok (.invokevirtual 112, 3) := by decide +kernel
theorem dX6_simulate_41 : decode cX6_simulate 41 = .ok (.invokestatic 210, 3) := by decide +kernel
theorem dX6_simulate_44 : decode cX6_simulate 44 = .ok (.istore 4, 2) := by decide +kernel
theorem dX6_simulate_46 : decode cX6_simulate 46 = .ok (.iload 4, 2) := by decide +kernel
theorem dX6_simulate_48 : decode cX6_simulate 48 = .ok (.iconst (-1), 1) := by decide +kernel
theorem dX6_simulate_49 : decode cX6_simulate 49 = .ok (.if_icmp .ne 14, 3) := by decide +kernel
theorem dX6_simulate_52 : decode cX6_simulate 52 = .ok (.new 72, 3) := by decide +kernel
theorem dX6_simulate_55 : decode cX6_simulate 55 = .ok (.dup, 1) := by decide +kernel
theorem dX6_simulate_56 : decode cX6_simulate 56 = .ok (.ldc_w 295, 3) := by decide +kernel
theorem dX6_simulate_59 : decode cX6_simulate 59 = .ok (.invokespecial 76, 3) := by decide +kernel
theorem dX6_simulate_62 : decode cX6_simulate 62 = .ok (.athrow, 1) := by decide +kernel
theorem dX6_simulate_63 : decode cX6_simulate 63 = .ok (.aload_n 0, 1) := by decide +kernel
theorem dX6_simulate_64 : decode cX6_simulate 64 = .ok (.getfield 44, 3) := by decide +kernel
theorem dX6_simulate_67 : decode cX6_simulate 67 = .ok (.iload 4, 2) := by decide +kernel
theorem dX6_simulate_69 : decode cX6_simulate 69 = .ok (.iload_n 1, 1) := by decide +kernel
theorem dX6_simulate_70 : decode cX6_simulate 70 = .ok (.iload_n 2, 1) := by decide +kernel
theorem dX6_simulate_71 : decode cX6_simulate 71 = .ok (.iload_n 3, 1) := by decide +kernel
theorem dX6_simulate_72 : decode cX6_simulate 72 = .ok (.invokevirtual 297, 3) := by decide +kernel
theorem dX6_simulate_75 : decode cX6_simulate 75 = .ok (.ireturn, 1) := by decide +kernel
theorem dX6_digest_0 : decode cX6_digest 0 = .ok (.ldc2_w 301, 3) := by decide +kernel
theorem dX6_digest_3 : decode cX6_digest 3 = .ok (.lstore_n 1, 1) := by decide +kernel
theorem dX6_digest_4 : decode cX6_digest 4 = .ok (.iconst 0, 1) := by decide +kernel
theorem dX6_digest_5 : decode cX6_digest 5 = .ok (.istore_n 3, 1) := by decide +kernel
theorem dX6_digest_6 : decode cX6_digest 6 = .ok (.iload_n 3, 1) := by decide +kernel
theorem dX6_digest_7 : decode cX6_digest 7 = .ok (.bipush 10, 2) := by decide +kernel
theorem dX6_digest_9 : decode cX6_digest 9 = .ok (.if_icmp .ge 20, 3) := by decide +kernel
theorem dX6_digest_12 : decode cX6_digest 12 = .ok (.lload_n 1, 1) := by decide +kernel
theorem dX6_digest_13 : decode cX6_digest 13 = .ok (.aload_n 0, 1) := by decide +kernel
theorem dX6_digest_14 : decode cX6_digest 14 = .ok (.iload_n 3, 1) := by decide +kernel
theorem dX6_digest_15 : decode cX6_digest 15 = .ok (.invokevirtual 303, 3) := by decide +kernel
theorem dX6_digest_18 : decode cX6_digest 18 = .ok (.i2l, 1) := by decide +kernel
theorem dX6_digest_19 : decode cX6_digest 19 = .ok (.invokestatic 306, 3) := by decide +kernel
theorem dX6_digest_22 : decode cX6_digest 22 = .ok (.lstore_n 1, 1) := by decide +kernel
theorem dX6_digest_23 : decode cX6_digest 23 = .ok (.iinc 3 1, 3) := by decide +kernel
theorem dX6_digest_26 : decode cX6_digest 26 = .ok (.goto (-20), 3) := by decide +kernel
theorem dX6_digest_29 : decode cX6_digest 29 = .ok (.iconst 0, 1) := by decide +kernel
theorem dX6_digest_30 : decode cX6_digest 30 = .ok (.istore_n 3, 1) := by decide +kernel
theorem dX6_digest_31 : decode cX6_digest 31 = .ok (.iload_n 3, 1) := by decide +kernel
theorem dX6_digest_32 : decode cX6_digest 32 = .ok (.aload_n 0, 1) := by decide +kernel
theorem dX6_digest_33 : decode cX6_digest 33 = .ok (.getfield 19, 3) := by decide +kernel
theorem dX6_digest_36 : decode cX6_digest 36 = .ok (.getfield 62, 3) := by decide +kernel
theorem dX6_digest_39 : decode cX6_digest 39 = .ok (.if_icmp .ge 71, 3) := by decide +kernel
theorem dX6_digest_42 : decode cX6_digest 42 = .ok (.iconst 0, 1) := by decide +kernel
theorem dX6_digest_43 : decode cX6_digest 43 = .ok (.istore 4, 2) := by decide +kernel
theorem dX6_digest_45 : decode cX6_digest 45 = .ok (.iload 4, 2) := by decide +kernel
theorem dX6_digest_47 : decode cX6_digest 47 = .ok (.iconst 5, 1) := by decide +kernel
theorem dX6_digest_48 : decode cX6_digest 48 = .ok (.if_icmp .ge 22, 3) := by decide +kernel
theorem dX6_digest_51 : decode cX6_digest 51 = .ok (.lload_n 1, 1) := by decide +kernel
theorem dX6_digest_52 : decode cX6_digest 52 = .ok (.aload_n 0, 1) := by decide +kernel
theorem dX6_digest_53 : decode cX6_digest 53 = .ok (.iload_n 3, 1) := by decide +kernel
theorem dX6_digest_54 : decode cX6_digest 54 = .ok (.iload 4, 2) := by decide +kernel
theorem dX6_digest_56 : decode cX6_digest 56 = .ok (.invokevirtual 310, 3) := by decide +kernel
theorem dX6_digest_59 : decode cX6_digest 59 = .ok (.i2l, 1) := by decide +kernel
theorem dX6_digest_60 : decode cX6_digest 60 = .ok (.invokestatic 306, 3) := by decide +kernel
theorem dX6_digest_63 : decode cX6_digest 63 = .ok (.lstore_n 1, 1) := by decide +kernel
theorem dX6_digest_64 : decode cX6_digest 64 = .ok (.iinc 4 1, 3) := by decide +kernel
theorem dX6_digest_67 : decode cX6_digest 67 = .ok (.goto (-22), 3) := by decide +kernel
theorem dX6_digest_70 : decode cX6_digest 70 = .ok (.iconst 0, 1) := by decide +kernel
theorem dX6_digest_71 : decode cX6_digest 71 = .ok (.istore 4, 2) := by decide +kernel
theorem dX6_digest_73 : decode cX6_digest 73 = .ok (.iload 4, 2) := by decide +kernel
theorem dX6_digest_75 : decode cX6_digest 75 = .ok (.aload_n 0, 1) := by decide +kernel
theorem dX6_digest_76 : decode cX6_digest 76 = .ok (.getfield 19, 3) := by decide +kernel
theorem dX6_digest_79 : decode cX6_digest 79 = .ok (.getfield 136, 3) := by decide +kernel
theorem dX6_digest_82 : decode cX6_digest 82 = .ok (.if_icmp .ge 22, 3) := by decide +kernel
theorem dX6_digest_85 : decode cX6_digest 85 = .ok (.lload_n 1, 1) := by decide +kernel
theorem dX6_digest_86 : decode cX6_digest 86 = .ok (.aload_n 0, 1) := by decide +kernel
theorem dX6_digest_87 : decode cX6_digest 87 = .ok (.iload_n 3, 1) := by decide +kernel
theorem dX6_digest_88 : decode cX6_digest 88 = .ok (.iload 4, 2) := by decide +kernel
theorem dX6_digest_90 : decode cX6_digest 90 = .ok (.invokevirtual 313, 3) := by decide +kernel
theorem dX6_digest_93 : decode cX6_digest 93 = .ok (.i2l, 1) := by decide +kernel
theorem dX6_digest_94 : decode cX6_digest 94 = .ok (.invokestatic 306, 3) := by decide +kernel
theorem dX6_digest_97 : decode cX6_digest 97 = .ok (.lstore_n 1, 1) := by decide +kernel
theorem dX6_digest_98 : decode cX6_digest 98 = .ok (.iinc 4 1, 3) := by decide +kernel
theorem dX6_digest_101 : decode cX6_digest 101 = .ok (.goto (-28), 3) := by decide +kernel
theorem dX6_digest_104 : decode cX6_digest 104 = .ok (.iinc 3 1, 3) := by decide +kernel
theorem dX6_digest_107 : decode cX6_digest 107 = .ok (.goto (-76), 3) := by decide +kernel
theorem dX6_digest_110 : decode cX6_digest 110 = .ok (.lload_n 1, 1) := by decide +kernel
theorem dX6_digest_111 : decode cX6_digest 111 = .ok (.aload_n 0, 1) := by decide +kernel
theorem dX6_digest_112 : decode cX6_digest 112 = .ok (.iconst 0, 1) := by decide +kernel
theorem dX6_digest_113 : decode cX6_digest 113 = .ok (.invokevirtual 316, 3) := by decide +kernel
theorem dX6_digest_116 : decode cX6_digest 116 = .ok (.i2l, 1) := by decide +kernel
theorem dX6_digest_117 : decode cX6_digest 117 = .ok (.invokestatic 306, 3) := by decide +kernel
theorem dX6_digest_120 : decode cX6_digest 120 = .ok (.lstore_n 1, 1) := by decide +kernel
theorem dX6_digest_121 : decode cX6_digest 121 = .ok (.lload_n 1, 1) := by decide +kernel
theorem dX6_digest_122 : decode cX6_digest 122 = .ok (.aload_n 0, 1) := by decide +kernel
theorem dX6_digest_123 : decode cX6_digest 123 = .ok (.iconst 1, 1) := by decide +kernel
theorem dX6_digest_124 : decode cX6_digest 124 = .ok (.invokevirtual 316, 3) := by decide +kernel
theorem dX6_digest_127 : decode cX6_digest 127 = .ok (.i2l, 1) := by decide +kernel
theorem dX6_digest_128 : decode cX6_digest 128 = .ok (.invokestatic 306, 3) := by decide +kernel
theorem dX6_digest_131 : decode cX6_digest 131 = .ok (.lstore_n 1, 1) := by decide +kernel
theorem dX6_digest_132 : decode cX6_digest 132 = .ok (.lload_n 1, 1) := by decide +kernel
theorem dX6_digest_133 : decode cX6_digest 133 = .ok (.aload_n 0, 1) := by decide +kernel
theorem dX6_digest_134 : decode cX6_digest 134 = .ok (.iconst 1, 1) := by decide +kernel
theorem dX6_digest_135 : decode cX6_digest 135 = .ok (.invokevirtual 319, 3) := by decide +kernel
theorem dX6_digest_138 : decode cX6_digest 138 = .ok (.invokestatic 306, 3) := by decide +kernel
theorem dX6_digest_141 : decode cX6_digest 141 = .ok (.lstore_n 1, 1) := by decide +kernel
theorem dX6_digest_142 : decode cX6_digest 142 = .ok (.lload_n 1, 1) := by decide +kernel
theorem dX6_digest_143 : decode cX6_digest 143 = .ok (.aload_n 0, 1) := by decide +kernel
theorem dX6_digest_144 : decode cX6_digest 144 = .ok (.iconst 2, 1) := by decide +kernel
theorem dX6_digest_145 : decode cX6_digest 145 = .ok (.invokevirtual 319, 3) := by decide +kernel
theorem dX6_digest_148 : decode cX6_digest 148 = .ok (.invokestatic 306, 3) := by decide +kernel
theorem dX6_digest_151 : decode cX6_digest 151 = .ok (.lstore_n 1, 1) := by decide +kernel
theorem dX6_digest_152 : decode cX6_digest 152 = .ok (.lload_n 1, 1) := by decide +kernel
theorem dX6_digest_153 : decode cX6_digest 153 = .ok (.aload_n 0, 1) := by decide +kernel
theorem dX6_digest_154 : decode cX6_digest 154 = .ok (.invokevirtual 322, 3) := by decide +kernel
theorem dX6_digest_157 : decode cX6_digest 157 = .ok (.i2l, 1) := by decide +kernel
theorem dX6_digest_158 : decode cX6_digest 158 = .ok (.invokestatic 306, 3) := by decide +kernel
theorem dX6_digest_161 : decode cX6_digest 161 = .ok (.lstore_n 1, 1) := by decide +kernel
theorem dX6_digest_162 : decode cX6_digest 162 = .ok (.aload_n 0, 1) := by decide +kernel
theorem dX6_digest_163 : decode cX6_digest 163 = .ok (.aload_n 0, 1) := by decide +kernel
theorem dX6_digest_164 : decode cX6_digest 164 = .ok (.lload_n 1, 1) := by decide +kernel
theorem dX6_digest_165 : decode cX6_digest 165 = .ok (.invokevirtual 325, 3) := by decide +kernel
theorem dX6_digest_168 : decode cX6_digest 168 = .ok (.invokevirtual 328, 3) := by decide +kernel
theorem dX6_digest_171 : decode cX6_digest 171 = .ok (.lreturn, 1) := by decide +kernel
theorem dX6_requireState_0 : decode cX6_requireState 0 = .ok (.iload_n 1, 1) := by decide +kernel
theorem dX6_requireState_1 : decode cX6_requireState 1 = .ok (.ifCond .lt 14, 3) := by decide +kernel
theorem dX6_requireState_4 : decode cX6_requireState 4 = .ok (.iload_n 1, 1) := by decide +kernel
theorem dX6_requireState_5 : decode cX6_requireState 5 = .ok (.aload_n 0, 1) := by decide +kernel
theorem dX6_requireState_6 : decode cX6_requireState 6 = .ok (.getfield 19, 3) := by decide +kernel
theorem dX6_requireState_9 : decode cX6_requireState 9 = .ok (.getfield 62, 3) := by decide +kernel
theorem dX6_requireState_12 : decode cX6_requireState 12 = .ok (.if_icmp .lt 14, 3) := by decide +kernel
theorem dX6_requireState_15 : decode cX6_requireState 15 = .ok (.new 94, 3) := by decide +kernel
theorem dX6_requireState_18 : decode cX6_requireState 18 = .ok (.dup, 1) := by decide +kernel
theorem dX6_requireState_19 : decode cX6_requireState 19 = .ok (.ldc_w 331, 3) := by decide +kernel
theorem dX6_requireState_22 : decode cX6_requireState 22 = .ok (.invokespecial 98, 3) := by decide +kernel
theorem dX6_requireState_25 : decode cX6_requireState 25 = .ok (.athrow, 1) := by decide +kernel
theorem dX6_requireState_26 : decode cX6_requireState 26 = .ok (.return_, 1) := by decide +kernel
theorem dX6_requireStateFormula_0 : decode cX6_requireStateFormula 0 = .ok (.aload_n 0, 1) := by decide +kernel
theorem dX6_requireStateFormula_1 : decode cX6_requireStateFormula 1 = .ok (.getfield 10, 3) := by decide +kernel
theorem dX6_requireStateFormula_4 : decode cX6_requireStateFormula 4 = .ok (.aload_n 0, 1) := by decide +kernel
theorem dX6_requireStateFormula_5 : decode cX6_requireStateFormula 5 = .ok (.getfield 19, 3) := by decide +kernel
theorem dX6_requireStateFormula_8 : decode cX6_requireStateFormula 8 = .ok (.getfield 84, 3) := by decide +kernel
theorem dX6_requireStateFormula_11 : decode cX6_requireStateFormula 11 = .ok (.aload_n 0, 1) := by decide +kernel
theorem dX6_requireStateFormula_12 : decode cX6_requireStateFormula 12 = .ok (.getfield 19, 3) := by decide +kernel
theorem dX6_requireStateFormula_15 : decode cX6_requireStateFormula 15 = .ok (.getfield 87, 3) := by decide +kernel
theorem dX6_requireStateFormula_18 : decode cX6_requireStateFormula 18 = .ok (.invokevirtual 99, 3) := by decide +kernel
theorem dX6_requireStateFormula_21 : decode cX6_requireStateFormula 21 = .ok (.ifCond .eq 13, 3) := by decide +kernel
theorem dX6_requireStateFormula_24 : decode cX6_requireStateFormula 24 = .ok (.aload_n 0, 1) := by decide +kernel
theorem dX6_requireStateFormula_25 : decode cX6_requireStateFormula 25 = .ok (.getfield 10, 3) := by decide +kernel
theorem dX6_requireStateFormula_28 : decode cX6_requireStateFormula 28 = .ok (.invokevirtual 333, 3) := by decide +kernel
theorem dX6_requireStateFormula_31 : decode cX6_requireStateFormula 31 = .ok (.ifCond .eq 14, 3) := by decide +kernel
theorem dX6_requireStateFormula_34 : decode cX6_requireStateFormula 34 = .ok (.new 72, 3) := by decide +kernel
theorem dX6_requireStateFormula_37 : decode cX6_requireStateFormula 37 = .ok (.dup, 1) := by decide +kernel
theorem dX6_requireStateFormula_38 : decode cX6_requireStateFormula 38 = .ok (.ldc_w 336, 3) := by decide +kernel
theorem dX6_requireStateFormula_41 : decode cX6_requireStateFormula 41 = .ok (.invokespecial 76, 3) := by decide +kernel
theorem dX6_requireStateFormula_44 : decode cX6_requireStateFormula 44 = .ok (.athrow, 1) := by decide +kernel
theorem dX6_requireStateFormula_45 : decode cX6_requireStateFormula 45 = .ok (.return_, 1) := by decide +kernel
theorem dX6_requireProof_0 : decode cX6_requireProof 0 = .ok (.aload_n 0, 1) := by decide +kernel
theorem dX6_requireProof_1 : decode cX6_requireProof 1 = .ok (.getfield 35, 3) := by decide +kernel
theorem dX6_requireProof_4 : decode cX6_requireProof 4 = .ok (.getfield 233, 3) := by decide +kernel
theorem dX6_requireProof_7 : decode cX6_requireProof 7 = .ok (.ifCond .ne 14, 3) := by decide +kernel
theorem dX6_requireProof_10 : decode cX6_requireProof 10 = .ok (.new 72, 3) := by decide +kernel
theorem dX6_requireProof_13 : decode cX6_requireProof 13 = .ok (.dup, 1) := by decide +kernel
theorem dX6_requireProof_14 : decode cX6_requireProof 14 = .ok (.ldc_w 338, 3) := by decide +kernel
theorem dX6_requireProof_17 : decode cX6_requireProof 17 = .ok (.invokespecial 76, 3) := by decide +kernel
theorem dX6_requireProof_20 : decode cX6_requireProof 20 = .ok (.athrow, 1) := by decide +kernel
theorem dX6_requireProof_21 : decode cX6_requireProof 21 = .ok (.return_, 1) := by decide +kernel
theorem dX6_requireSafeProof_0 : decode cX6_requireSafeProof 0 = .ok (.aload_n 0, 1) := by decide +kernel
theorem dX6_requireSafeProof_1 : decode cX6_requireSafeProof 1 = .ok (.getfield 35, 3) := by decide +kernel
theorem dX6_requireSafeProof_4 : decode cX6_requireSafeProof 4 = .ok (.getfield 233, 3) := by decide +kernel
theorem dX6_requireSafeProof_7 : decode cX6_requireSafeProof 7 = .ok (.ifCond .eq 13, 3) := by decide +kernel
theorem dX6_requireSafeProof_10 : decode cX6_requireSafeProof 10 = .ok (.aload_n 0, 1) := by decide +kernel
theorem dX6_requireSafeProof_11 : decode cX6_requireSafeProof 11 = .ok (.getfield 35, 3) := by decide +kernel
theorem dX6_requireSafeProof_14 : decode cX6_requireSafeProof 14 = .ok (.getfield 228, 3) := by decide +kernel
theorem dX6_requireSafeProof_17 : decode cX6_requireSafeProof 17 = .ok (.ifCond .eq 14, 3) := by decide +kernel
theorem dX6_requireSafeProof_20 : decode cX6_requireSafeProof 20 = .ok (.new 72, 3) := by decide +kernel
theorem dX6_requireSafeProof_23 : decode cX6_requireSafeProof 23 = .ok (.dup, 1) := by decide +kernel
theorem dX6_requireSafeProof_24 : decode cX6_requireSafeProof 24 = .ok (.ldc_w 340, 3) := by decide +kernel
theorem dX6_requireSafeProof_27 : decode cX6_requireSafeProof 27 = .ok (.invokespecial 76, 3) := by decide +kernel
theorem dX6_requireSafeProof_30 : decode cX6_requireSafeProof 30 = .ok (.athrow, 1) := by decide +kernel
theorem dX6_requireSafeProof_31 : decode cX6_requireSafeProof 31 = .ok (.return_, 1) := by decide +kernel
theorem dX6_forgetResults_0 : decode cX6_forgetResults 0 = .ok (.aload_n 0, 1) := by decide +kernel
theorem dX6_forgetResults_1 : decode cX6_forgetResults 1 = .ok (.getfield 28, 3) := by decide +kernel
theorem dX6_forgetResults_4 : decode cX6_forgetResults 4 = .ok (.iconst 0, 1) := by decide +kernel
theorem dX6_forgetResults_5 : decode cX6_forgetResults 5 = .ok (.putfield 342, 3) := by decide +kernel
theorem dX6_forgetResults_8 : decode cX6_forgetResults 8 = .ok (.aload_n 0, 1) := by decide +kernel
theorem dX6_forgetResults_9 : decode cX6_forgetResults 9 = .ok (.getfield 35, 3) := by decide +kernel
theorem dX6_forgetResults_12 : decode cX6_forgetResults 12 = .ok (.iconst 0, 1) := by decide +kernel
theorem dX6_forgetResults_13 : decode cX6_forgetResults 13 = .ok (.putfield 233, 3) := by decide +kernel
theorem dX6_forgetResults_16 : decode cX6_forgetResults 16 = .ok (.return_, 1) := by decide +kernel
theorem dX6_takeFormula_0 : decode cX6_takeFormula 0 = .ok (.aload_n 0, 1) := by decide +kernel
theorem dX6_takeFormula_1 : decode cX6_takeFormula 1 = .ok (.getfield 19, 3) := by decide +kernel
theorem dX6_takeFormula_4 : decode cX6_takeFormula 4 = .ok (.iload_n 1, 1) := by decide +kernel
theorem dX6_takeFormula_5 : decode cX6_takeFormula 5 = .ok (.aload_n 0, 1) := by decide +kernel
theorem dX6_takeFormula_6 : decode cX6_takeFormula 6 = .ok (.getfield 10, 3) := by decide +kernel
theorem dX6_takeFormula_9 : decode cX6_takeFormula 9 = .ok (.invokevirtual 345, 3) := by decide +kernel
theorem dX6_takeFormula_12 : decode cX6_takeFormula 12 = .ok (.istore_n 2, 1) := by decide +kernel
theorem dX6_takeFormula_13 : decode cX6_takeFormula 13 = .ok (.aload_n 0, 1) := by decide +kernel
theorem dX6_takeFormula_14 : decode cX6_takeFormula 14 = .ok (.getfield 10, 3) := by decide +kernel
theorem dX6_takeFormula_17 : decode cX6_takeFormula 17 = .ok (.iconst 0, 1) := by decide +kernel
theorem dX6_takeFormula_18 : decode cX6_takeFormula 18 = .ok (.putfield 81, 3) := by decide +kernel
theorem dX6_takeFormula_21 : decode cX6_takeFormula 21 = .ok (.aload_n 0, 1) := by decide +kernel
theorem dX6_takeFormula_22 : decode cX6_takeFormula 22 = .ok (.invokevirtual 59, 3) := by decide +kernel
theorem dX6_takeFormula_25 : decode cX6_takeFormula 25 = .ok (.iload_n 2, 1) := by decide +kernel
theorem dX6_takeFormula_26 : decode cX6_takeFormula 26 = .ok (.ireturn, 1) := by decide +kernel
theorem dX6_askedStates_0 : decode cX6_askedStates 0 = .ok (.aload_n 0, 1) := by decide +kernel
theorem dX6_askedStates_1 : decode cX6_askedStates 1 = .ok (.getfield 10, 3) := by decide +kernel
theorem dX6_askedStates_4 : decode cX6_askedStates 4 = .ok (.iconst 0, 1) := by decide +kernel
theorem dX6_askedStates_5 : decode cX6_askedStates 5 = .ok (.invokevirtual 349, 3) := by decide +kernel
theorem dX6_askedStates_8 : decode cX6_askedStates 8 = .ok (.aload_n 0, 1) := by decide +kernel
theorem dX6_askedStates_9 : decode cX6_askedStates 9 = .ok (.getfield 19, 3) := by decide +kernel
theorem dX6_askedStates_12 : decode cX6_askedStates 12 = .ok (.getfield 204, 3) := by decide +kernel
theorem dX6_askedStates_15 : decode cX6_askedStates 15 = .ok (.land, 1) := by decide +kernel
theorem dX6_askedStates_16 : decode cX6_askedStates 16 = .ok (.lreturn, 1) := by decide +kernel
theorem dX6_hashOfProof_0 : decode cX6_hashOfProof 0 = .ok (.lload_n 1, 1) := by decide +kernel
theorem dX6_hashOfProof_1 : decode cX6_hashOfProof 1 = .ok (.lstore_n 3, 1) := by decide +kernel
theorem dX6_hashOfProof_2 : decode cX6_hashOfProof 2 = .ok (.iconst 0, 1) := by decide +kernel
theorem dX6_hashOfProof_3 : decode cX6_hashOfProof 3 = .ok (.istore 5, 2) := by decide +kernel
theorem dX6_hashOfProof_5 : decode cX6_hashOfProof 5 = .ok (.iload 5, 2) := by decide +kernel
theorem dX6_hashOfProof_7 : decode cX6_hashOfProof 7 = .ok (.bipush 8, 2) := by decide +kernel
theorem dX6_hashOfProof_9 : decode cX6_hashOfProof 9 = .ok (.if_icmp .ge 21, 3) := by decide +kernel
theorem dX6_hashOfProof_12 : decode cX6_hashOfProof 12 = .ok (.lload_n 3, 1) := by decide +kernel
theorem dX6_hashOfProof_13 : decode cX6_hashOfProof 13 = .ok (.aload_n 0, 1) := by decide +kernel
theorem dX6_hashOfProof_14 : decode cX6_hashOfProof 14 = .ok (.iload 5, 2) := by decide +kernel
theorem dX6_hashOfProof_16 : decode cX6_hashOfProof 16 = .ok (.invokevirtual 352, 3) := by decide +kernel
theorem dX6_hashOfProof_19 : decode cX6_hashOfProof 19 = .ok (.i2l, 1) := by decide +kernel
theorem dX6_hashOfProof_20 : decode cX6_hashOfProof 20 = .ok (.invokestatic 306, 3) := by decide +kernel
theorem dX6_hashOfProof_23 : decode cX6_hashOfProof 23 = .ok (.lstore_n 3, 1) := by decide +kernel
theorem dX6_hashOfProof_24 : decode cX6_hashOfProof 24 = .ok (.iinc 5 1, 3) := by decide +kernel
theorem dX6_hashOfProof_27 : decode cX6_hashOfProof 27 = .ok (.goto (-22), 3) := by decide +kernel
theorem dX6_hashOfProof_30 : decode cX6_hashOfProof 30 = .ok (.aload_n 0, 1) := by decide +kernel
theorem dX6_hashOfProof_31 : decode cX6_hashOfProof 31 = .ok (.getfield 35, 3) := by decide +kernel
theorem dX6_hashOfProof_34 : decode cX6_hashOfProof 34 = .ok (.getfield 233, 3) := by decide +kernel
theorem dX6_hashOfProof_37 : decode cX6_hashOfProof 37 = .ok (.ifCond .ne 5, 3) := by decide +kernel
theorem dX6_hashOfProof_40 : decode cX6_hashOfProof 40 = .ok (.lload_n 3, 1) := by decide +kernel
theorem dX6_hashOfProof_41 : decode cX6_hashOfProof 41 = .ok (.lreturn, 1) := by decide +kernel
theorem dX6_hashOfProof_42 : decode cX6_hashOfProof 42 = .ok (.iconst 0, 1) := by decide +kernel
theorem dX6_hashOfProof_43 : decode cX6_hashOfProof 43 = .ok (.istore 5, 2) := by decide +kernel
theorem dX6_hashOfProof_45 : decode cX6_hashOfProof 45 = .ok (.iload 5, 2) := by decide +kernel
theorem dX6_hashOfProof_47 : decode cX6_hashOfProof 47 = .ok (.aload_n 0, 1) := by decide +kernel
theorem dX6_hashOfProof_48 : decode cX6_hashOfProof 48 = .ok (.getfield 35, 3) := by decide +kernel
theorem dX6_hashOfProof_51 : decode cX6_hashOfProof 51 = .ok (.getfield 243, 3) := by decide +kernel
theorem dX6_hashOfProof_54 : decode cX6_hashOfProof 54 = .ok (.if_icmp .gt 20, 3) := by decide +kernel
theorem dX6_hashOfProof_57 : decode cX6_hashOfProof 57 = .ok (.lload_n 3, 1) := by decide +kernel
theorem dX6_hashOfProof_58 : decode cX6_hashOfProof 58 = .ok (.aload_n 0, 1) := by decide +kernel
theorem dX6_hashOfProof_59 : decode cX6_hashOfProof 59 = .ok (.iload 5, 2) := by decide +kernel
theorem dX6_hashOfProof_61 : decode cX6_hashOfProof 61 = .ok (.invokevirtual 355, 3) := by decide +kernel
theorem dX6_hashOfProof_64 : decode cX6_hashOfProof 64 = .ok (.invokestatic 306, 3) := by decide +kernel
theorem dX6_hashOfProof_67 : decode cX6_hashOfProof 67 = .ok (.lstore_n 3, 1) := by decide +kernel
theorem dX6_hashOfProof_68 : decode cX6_hashOfProof 68 = .ok (.iinc 5 1, 3) := by decide +kernel
theorem dX6_hashOfProof_71 : decode cX6_hashOfProof 71 = .ok (.goto (-26), 3) := by decide +kernel
theorem dX6_hashOfProof_74 : decode cX6_hashOfProof 74 = .ok (.iconst 0, 1) := by decide +kernel
theorem dX6_hashOfProof_75 : decode cX6_hashOfProof 75 = .ok (.istore 5, 2) := by decide +kernel
theorem dX6_hashOfProof_77 : decode cX6_hashOfProof 77 = .ok (.iload 5, 2) := by decide +kernel
theorem dX6_hashOfProof_79 : decode cX6_hashOfProof 79 = .ok (.aload_n 0, 1) := by decide +kernel
theorem dX6_hashOfProof_80 : decode cX6_hashOfProof 80 = .ok (.getfield 35, 3) := by decide +kernel
theorem dX6_hashOfProof_83 : decode cX6_hashOfProof 83 = .ok (.getfield 252, 3) := by decide +kernel
theorem dX6_hashOfProof_86 : decode cX6_hashOfProof 86 = .ok (.getfield 256, 3) := by decide +kernel
theorem dX6_hashOfProof_89 : decode cX6_hashOfProof 89 = .ok (.if_icmp .ge 38, 3) := by decide +kernel
theorem dX6_hashOfProof_92 : decode cX6_hashOfProof 92 = .ok (.iconst 0, 1) := by decide +kernel
theorem dX6_hashOfProof_93 : decode cX6_hashOfProof 93 = .ok (.istore 6, 2) := by decide +kernel
theorem dX6_hashOfProof_95 : decode cX6_hashOfProof 95 = .ok (.iload 6, 2) := by decide +kernel
theorem dX6_hashOfProof_97 : decode cX6_hashOfProof 97 = .ok (.iconst 3, 1) := by decide +kernel
theorem dX6_hashOfProof_98 : decode cX6_hashOfProof 98 = .ok (.if_icmp .ge 23, 3) := by decide +kernel
theorem dX6_hashOfProof_101 : decode cX6_hashOfProof 101 = .ok (.lload_n 3, 1) := by decide +kernel
theorem dX6_hashOfProof_102 : decode cX6_hashOfProof 102 = .ok (.aload_n 0, 1) := by decide +kernel
theorem dX6_hashOfProof_103 : decode cX6_hashOfProof 103 = .ok (.iload 5, 2) := by decide +kernel
theorem dX6_hashOfProof_105 : decode cX6_hashOfProof 105 = .ok (.iload 6, 2) := by decide +kernel
theorem dX6_hashOfProof_107 : decode cX6_hashOfProof 107 = .ok (.invokevirtual 358, 3) := by decide +kernel
theorem dX6_hashOfProof_110 : decode cX6_hashOfProof 110 = .ok (.i2l, 1) := by decide +kernel
theorem dX6_hashOfProof_111 : decode cX6_hashOfProof 111 = .ok (.invokestatic 306, 3) := by decide +kernel
theorem dX6_hashOfProof_114 : decode cX6_hashOfProof 114 = .ok (.lstore_n 3, 1) := by decide +kernel
theorem dX6_hashOfProof_115 : decode cX6_hashOfProof 115 = .ok (.iinc 6 1, 3) := by decide +kernel
theorem dX6_hashOfProof_118 : decode cX6_hashOfProof 118 = .ok (.goto (-23), 3) := by decide +kernel
theorem dX6_hashOfProof_121 : decode cX6_hashOfProof 121 = .ok (.iinc 5 1, 3) := by decide +kernel
theorem dX6_hashOfProof_124 : decode cX6_hashOfProof 124 = .ok (.goto (-47), 3) := by decide +kernel
theorem dX6_hashOfProof_127 : decode cX6_hashOfProof 127 = .ok (.lload_n 3, 1) := by decide +kernel
theorem dX6_hashOfProof_128 : decode cX6_hashOfProof 128 = .ok (.lreturn, 1) := by decide +kernel
theorem dX6_hashOfBuffer_0 : decode cX6_hashOfBuffer 0 = .ok (.lload_n 1, 1) := by decide +kernel
theorem dX6_hashOfBuffer_1 : decode cX6_hashOfBuffer 1 = .ok (.aload_n 0, 1) := by decide +kernel
theorem dX6_hashOfBuffer_2 : decode cX6_hashOfBuffer 2 = .ok (.getfield 10, 3) := by decide +kernel
theorem dX6_hashOfBuffer_5 : decode cX6_hashOfBuffer 5 = .ok (.getfield 81, 3) := by decide +kernel
theorem dX6_hashOfBuffer_8 : decode cX6_hashOfBuffer 8 = .ok (.i2l, 1) := by decide +kernel
theorem dX6_hashOfBuffer_9 : decode cX6_hashOfBuffer 9 = .ok (.invokestatic 306, 3) := by decide +kernel
theorem dX6_hashOfBuffer_12 : decode cX6_hashOfBuffer 12 = .ok (.lstore_n 3, 1) := by decide +kernel
theorem dX6_hashOfBuffer_13 : decode cX6_hashOfBuffer 13 = .ok (.iconst 0, 1) := by decide +kernel
theorem dX6_hashOfBuffer_14 : decode cX6_hashOfBuffer 14 = .ok (.istore 5, 2) := by decide +kernel
theorem dX6_hashOfBuffer_16 : decode cX6_hashOfBuffer 16 = .ok (.iload 5, 2) := by decide +kernel
theorem dX6_hashOfBuffer_18 : decode cX6_hashOfBuffer 18 = .ok (.aload_n 0, 1) := by decide +kernel
theorem dX6_hashOfBuffer_19 : decode cX6_hashOfBuffer 19 = .ok (.getfield 10, 3) := by decide +kernel
theorem dX6_hashOfBuffer_22 : decode cX6_hashOfBuffer 22 = .ok (.getfield 81, 3) := by decide +kernel
theorem dX6_hashOfBuffer_25 : decode cX6_hashOfBuffer 25 = .ok (.if_icmp .ge 24, 3) := by decide +kernel
theorem dX6_hashOfBuffer_28 : decode cX6_hashOfBuffer 28 = .ok (.lload_n 3, 1) := by decide +kernel
theorem dX6_hashOfBuffer_29 : decode cX6_hashOfBuffer 29 = .ok (.aload_n 0, 1) := by decide +kernel
theorem dX6_hashOfBuffer_30 : decode cX6_hashOfBuffer 30 = .ok (.getfield 10, 3) := by decide +kernel
theorem dX6_hashOfBuffer_33 : decode cX6_hashOfBuffer 33 = .ok (.iload 5, 2) := by decide +kernel
theorem dX6_hashOfBuffer_35 : decode cX6_hashOfBuffer 35 = .ok (.invokevirtual 361, 3) := by decide +kernel
theorem dX6_hashOfBuffer_38 : decode cX6_hashOfBuffer 38 = .ok (.i2l, 1) := by decide +kernel
theorem dX6_hashOfBuffer_39 : decode cX6_hashOfBuffer 39 = .ok (.invokestatic 306, 3) := by decide +kernel
theorem dX6_hashOfBuffer_42 : decode cX6_hashOfBuffer 42 = .ok (.lstore_n 3, 1) := by decide +kernel
theorem dX6_hashOfBuffer_43 : decode cX6_hashOfBuffer 43 = .ok (.iinc 5 1, 3) := by decide +kernel
theorem dX6_hashOfBuffer_46 : decode cX6_hashOfBuffer 46 = .ok (.goto (-30), 3) := by decide +kernel
theorem dX6_hashOfBuffer_49 : decode cX6_hashOfBuffer 49 = .ok (.lload_n 3, 1) := by decide +kernel
theorem dX6_hashOfBuffer_50 : decode cX6_hashOfBuffer 50 = .ok (.lreturn, 1) := by decide +kernel
theorem dX6_mixed_0 : decode cX6_mixed 0 = .ok (.ldc2_w 364, 3) := by decide +kernel
theorem dX6_mixed_3 : decode cX6_mixed 3 = .ok (.lload_n 0, 1) := by decide +kernel
theorem dX6_mixed_4 : decode cX6_mixed 4 = .ok (.lmul, 1) := by decide +kernel
theorem dX6_mixed_5 : decode cX6_mixed 5 = .ok (.lload_n 2, 1) := by decide +kernel
theorem dX6_mixed_6 : decode cX6_mixed 6 = .ok (.ladd, 1) := by decide +kernel
theorem dX6_mixed_7 : decode cX6_mixed 7 = .ok (.lreturn, 1) := by decide +kernel
theorem dX6_contains_0 : decode cX6_contains 0 = .ok (.lload_n 0, 1) := by decide +kernel
theorem dX6_contains_1 : decode cX6_contains 1 = .ok (.iload_n 2, 1) := by decide +kernel
theorem dX6_contains_2 : decode cX6_contains 2 = .ok (.lushr, 1) := by decide +kernel
theorem dX6_contains_3 : decode cX6_contains 3 = .ok (.lconst 1, 1) := by decide +kernel
theorem dX6_contains_4 : decode cX6_contains 4 = .ok (.land, 1) := by decide +kernel
theorem dX6_contains_5 : decode cX6_contains 5 = .ok (.lconst 0, 1) := by decide +kernel
theorem dX6_contains_6 : decode cX6_contains 6 = .ok (.lcmp, 1) := by decide +kernel
theorem dX6_contains_7 : decode cX6_contains 7 = .ok (.ifCond .eq 7, 3) := by decide +kernel
theorem dX6_contains_10 : decode cX6_contains 10 = .ok (.iconst 1, 1) := by decide +kernel
theorem dX6_contains_11 : decode cX6_contains 11 = .ok (.goto 4, 3) := by decide +kernel
theorem dX6_contains_14 : decode cX6_contains 14 = .ok (.iconst 0, 1) := by decide +kernel
theorem dX6_contains_15 : decode cX6_contains 15 = .ok (.ireturn, 1) := by decide +kernel
theorem dX6_leastOf_0 : decode cX6_leastOf 0 = .ok (.lload_n 0, 1) := by decide +kernel
theorem dX6_leastOf_1 : decode cX6_leastOf 1 = .ok (.lconst 0, 1) := by decide +kernel
theorem dX6_leastOf_2 : decode cX6_leastOf 2 = .ok (.lcmp, 1) := by decide +kernel
theorem dX6_leastOf_3 : decode cX6_leastOf 3 = .ok (.ifCond .ne 7, 3) := by decide +kernel
theorem dX6_leastOf_6 : decode cX6_leastOf 6 = .ok (.iconst (-1), 1) := by decide +kernel
theorem dX6_leastOf_7 : decode cX6_leastOf 7 = .ok (.goto 12, 3) := by decide +kernel
theorem dX6_leastOf_10 : decode cX6_leastOf 10 = .ok (.lload_n 0, 1) := by decide +kernel
theorem dX6_leastOf_11 : decode cX6_leastOf 11 = .ok (.lload_n 0, 1) := by decide +kernel
theorem dX6_leastOf_12 : decode cX6_leastOf 12 = .ok (.lneg, 1) := by decide +kernel
theorem dX6_leastOf_13 : decode cX6_leastOf 13 = .ok (.land, 1) := by decide +kernel
theorem dX6_leastOf_14 : decode cX6_leastOf 14 = .ok (.lconst 1, 1) := by decide +kernel
theorem dX6_leastOf_15 : decode cX6_leastOf 15 = .ok (.lsub, 1) := by decide +kernel
theorem dX6_leastOf_16 : decode cX6_leastOf 16 = .ok (.invokestatic 116, 3) := by decide +kernel
theorem dX6_leastOf_19 : decode cX6_leastOf 19 = .ok (.ireturn, 1) := by decide +kernel
