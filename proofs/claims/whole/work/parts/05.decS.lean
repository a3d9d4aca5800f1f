def DX0_init_0 : List (Nat × (Instr × Nat)) := [(0, (.aload_n 0, 1)), (1, (.invokespecial 3, 3)), (4, (.aload_n 0, 1)), (5, (.bipush 32, 2)), (7, (.newarray .long, 2)), (9, (.putfield 11, 3)), (12, (.aload_n 0, 1)), (13, (.bipush 40, 2)), (15, (.newarray .long, 2)), (17, (.putfield 15, 3)), (20, (.aload_n 0, 1)), (21, (.bipush 10, 2)), (23, (.newarray .int, 2)), (25, (.putfield 18, 3)), (28, (.aload_n 0, 1)), (29, (.iconst 2, 1)), (30, (.iconst 1, 1)), (31, (.invokevirtual 22, 3)), (34, (.return_, 1))]
theorem kDX0_init_0 : DX0_init_0.all (fun q => decide (decode cX0_init q.1 = .ok q.2)) = true := by decide +kernel
theorem dX0_init_0 : decode cX0_init 0 = .ok (.aload_n 0, 1) := dec_at kDX0_init_0 0 rfl
theorem dX0_init_1 : decode cX0_init 1 = .ok (.invokespecial 3, 3) := dec_at kDX0_init_0 1 rfl
theorem dX0_init_4 : decode cX0_init 4 = .ok (.aload_n 0, 1) := dec_at kDX0_init_0 2 rfl
theorem dX0_init_5 : decode cX0_init 5 = .ok (.bipush 32, 2) := dec_at kDX0_init_0 3 rfl
theorem dX0_init_7 : decode cX0_init 7 = .ok (.newarray .long, 2) := dec_at kDX0_init_0 4 rfl
theorem dX0_init_9 : decode cX0_init 9 = .ok (.putfield 11, 3) := dec_at kDX0_init_0 5 rfl
theorem dX0_init_12 : decode cX0_init 12 = .ok (.aload_n 0, 1) := dec_at kDX0_init_0 6 rfl
theorem dX0_init_13 : decode cX0_init 13 = .ok (.bipush 40, 2) := dec_at kDX0_init_0 7 rfl
theorem dX0_init_15 : decode cX0_init 15 = .ok (.newarray .long, 2) := dec_at kDX0_init_0 8 rfl
theorem dX0_init_17 : decode cX0_init 17 = .ok (.putfield 15, 3) := dec_at kDX0_init_0 9 rfl
theorem dX0_init_20 : decode cX0_init 20 = .ok (.aload_n 0, 1) := dec_at kDX0_init_0 10 rfl
theorem dX0_init_21 : decode cX0_init 21 = .ok (.bipush 10, 2) := dec_at kDX0_init_0 11 rfl
theorem dX0_init_23 : decode cX0_init 23 = .ok (.newarray .int, 2) := dec_at kDX0_init_0 12 rfl
theorem dX0_init_25 : decode cX0_init 25 = .ok (.putfield 18, 3) := dec_at kDX0_init_0 13 rfl
theorem dX0_init_28 : decode cX0_init 28 = .ok (.aload_n 0, 1) := dec_at kDX0_init_0 14 rfl
theorem dX0_init_29 : decode cX0_init 29 = .ok (.iconst 2, 1) := dec_at kDX0_init_0 15 rfl
theorem dX0_init_30 : decode cX0_init 30 = .ok (.iconst 1, 1) := dec_at kDX0_init_0 16 rfl
theorem dX0_init_31 : decode cX0_init 31 = .ok (.invokevirtual 22, 3) := dec_at kDX0_init_0 17 rfl
theorem dX0_init_34 : decode cX0_init 34 = .ok (.return_, 1) := dec_at kDX0_init_0 18 rfl
def DX0_restart_0 : List (Nat × (Instr × Nat)) := [(0, (.aload_n 0, 1)), (1, (.iload_n 1, 1)), (2, (.putfield 26, 3)), (5, (.aload_n 0, 1)), (6, (.iload_n 2, 1)), (7, (.putfield 30, 3)), (10, (.aload_n 0, 1)), (11, (.iconst 1, 1)), (12, (.iload_n 1, 1)), (13, (.ishl, 1)), (14, (.putfield 33, 3)), (17, (.aload_n 0, 1)), (18, (.iconst 1, 1)), (19, (.iload_n 2, 1)), (20, (.ishl, 1)), (21, (.putfield 36, 3)), (24, (.aload_n 0, 1)), (25, (.aload_n 0, 1)), (26, (.getfield 33, 3)), (29, (.bipush 64, 2)), (31, (.if_icmp .lt 9, 3)), (34, (.ldc2_w 39, 3)), (37, (.goto 11, 3)), (40, (.lconst 1, 1)), (41, (.aload_n 0, 1)), (42, (.getfield 33, 3)), (45, (.lshl, 1)), (46, (.lconst 1, 1)), (47, (.lsub, 1)), (48, (.putfield 41, 3)), (51, (.aload_n 0, 1)), (52, (.iconst 0, 1)), (53, (.putfield 45, 3)), (56, (.aload_n 0, 1)), (57, (.iconst 0, 1)), (58, (.putfield 48, 3)), (61, (.iconst 0, 1)), (62, (.istore_n 3, 1)), (63, (.iload_n 3, 1)), (64, (.bipush 6, 2)), (66, (.if_icmp .ge 24, 3)), (69, (.aload_n 0, 1)), (70, (.iload_n 3, 1)), (71, (.getstatic 51, 3)), (74, (.iload_n 3, 1)), (75, (.laload, 1)), (76, (.aload_n 0, 1)), (77, (.getfield 41, 3)), (80, (.land, 1)), (81, (.invokevirtual 54, 3))]
theorem kDX0_restart_0 : DX0_restart_0.all (fun q => decide (decode cX0_restart q.1 = .ok q.2)) = true := by decide +kernel
theorem dX0_restart_0 : decode cX0_restart 0 = .ok (.aload_n 0, 1) := dec_at kDX0_restart_0 0 rfl
theorem dX0_restart_1 : decode cX0_restart 1 = .ok (.iload_n 1, 1) := dec_at kDX0_restart_0 1 rfl
theorem dX0_restart_2 : decode cX0_restart 2 = .ok (.putfield 26, 3) := dec_at kDX0_restart_0 2 rfl
theorem dX0_restart_5 : decode cX0_restart 5 = .ok (.aload_n 0, 1) := dec_at kDX0_restart_0 3 rfl
theorem dX0_restart_6 : decode cX0_restart 6 = .ok (.iload_n 2, 1) := dec_at kDX0_restart_0 4 rfl
theorem dX0_restart_7 : decode cX0_restart 7 = .ok (.putfield 30, 3) := dec_at kDX0_restart_0 5 rfl
theorem dX0_restart_10 : decode cX0_restart 10 = .ok (.aload_n 0, 1) := dec_at kDX0_restart_0 6 rfl
theorem dX0_restart_11 : decode cX0_restart 11 = .ok (.iconst 1, 1) := dec_at kDX0_restart_0 7 rfl
theorem dX0_restart_12 : decode cX0_restart 12 = .ok (.iload_n 1, 1) := dec_at kDX0_restart_0 8 rfl
theorem dX0_restart_13 : decode cX0_restart 13 = .ok (.ishl, 1) := dec_at kDX0_restart_0 9 rfl
theorem dX0_restart_14 : decode cX0_restart 14 = .ok (.putfield 33, 3) := dec_at kDX0_restart_0 10 rfl
theorem dX0_restart_17 : decode cX0_restart 17 = .ok (.aload_n 0, 1) := dec_at kDX0_restart_0 11 rfl
theorem dX0_restart_18 : decode cX0_restart 18 = .ok (.iconst 1, 1) := dec_at kDX0_restart_0 12 rfl
theorem dX0_restart_19 : decode cX0_restart 19 = .ok (.iload_n 2, 1) := dec_at kDX0_restart_0 13 rfl
theorem dX0_restart_20 : decode cX0_restart 20 = .ok (.ishl, 1) := dec_at kDX0_restart_0 14 rfl
theorem dX0_restart_21 : decode cX0_restart 21 = .ok (.putfield 36, 3) := dec_at kDX0_restart_0 15 rfl
theorem dX0_restart_24 : decode cX0_restart 24 = .ok (.aload_n 0, 1) := dec_at kDX0_restart_0 16 rfl
theorem dX0_restart_25 : decode cX0_restart 25 = .ok (.aload_n 0, 1) := dec_at kDX0_restart_0 17 rfl
theorem dX0_restart_26 : decode cX0_restart 26 = .ok (.getfield 33, 3) := dec_at kDX0_restart_0 18 rfl
theorem dX0_restart_29 : decode cX0_restart 29 = .ok (.bipush 64, 2) := dec_at kDX0_restart_0 19 rfl
theorem dX0_restart_31 : decode cX0_restart 31 = .ok (.if_icmp .lt 9, 3) := dec_at kDX0_restart_0 20 rfl
theorem dX0_restart_34 : decode cX0_restart 34 = .ok (.ldc2_w 39, 3) := dec_at kDX0_restart_0 21 rfl
theorem dX0_restart_37 : decode cX0_restart 37 = .ok (.goto 11, 3) := dec_at kDX0_restart_0 22 rfl
theorem dX0_restart_40 : decode cX0_restart 40 = .ok (.lconst 1, 1) := dec_at kDX0_restart_0 23 rfl
theorem dX0_restart_41 : decode cX0_restart 41 = .ok (.aload_n 0, 1) := dec_at kDX0_restart_0 24 rfl
theorem dX0_restart_42 : decode cX0_restart 42 = .ok (.getfield 33, 3) := dec_at kDX0_restart_0 25 rfl
theorem dX0_restart_45 : decode cX0_restart 45 = .ok (.lshl, 1) := dec_at kDX0_restart_0 26 rfl
theorem dX0_restart_46 : decode cX0_restart 46 = .ok (.lconst 1, 1) := dec_at kDX0_restart_0 27 rfl
theorem dX0_restart_47 : decode cX0_restart 47 = .ok (.lsub, 1) := dec_at kDX0_restart_0 28 rfl
theorem dX0_restart_48 : decode cX0_restart 48 = .ok (.putfield 41, 3) := dec_at kDX0_restart_0 29 rfl
theorem dX0_restart_51 : decode cX0_restart 51 = .ok (.aload_n 0, 1) := dec_at kDX0_restart_0 30 rfl
theorem dX0_restart_52 : decode cX0_restart 52 = .ok (.iconst 0, 1) := dec_at kDX0_restart_0 31 rfl
theorem dX0_restart_53 : decode cX0_restart 53 = .ok (.putfield 45, 3) := dec_at kDX0_restart_0 32 rfl
theorem dX0_restart_56 : decode cX0_restart 56 = .ok (.aload_n 0, 1) := dec_at kDX0_restart_0 33 rfl
theorem dX0_restart_57 : decode cX0_restart 57 = .ok (.iconst 0, 1) := dec_at kDX0_restart_0 34 rfl
theorem dX0_restart_58 : decode cX0_restart 58 = .ok (.putfield 48, 3) := dec_at kDX0_restart_0 35 rfl
theorem dX0_restart_61 : decode cX0_restart 61 = .ok (.iconst 0, 1) := dec_at kDX0_restart_0 36 rfl
theorem dX0_restart_62 : decode cX0_restart 62 = .ok (.istore_n 3, 1) := dec_at kDX0_restart_0 37 rfl
theorem dX0_restart_63 : decode cX0_restart 63 = .ok (.iload_n 3, 1) := dec_at kDX0_restart_0 38 rfl
theorem dX0_restart_64 : decode cX0_restart 64 = .ok (.bipush 6, 2) := dec_at kDX0_restart_0 39 rfl
theorem dX0_restart_66 : decode cX0_restart 66 = .ok (.if_icmp .ge 24, 3) := dec_at kDX0_restart_0 40 rfl
theorem dX0_restart_69 : decode cX0_restart 69 = .ok (.aload_n 0, 1) := dec_at kDX0_restart_0 41 rfl
theorem dX0_restart_70 : decode cX0_restart 70 = .ok (.iload_n 3, 1) := dec_at kDX0_restart_0 42 rfl
theorem dX0_restart_71 : decode cX0_restart 71 = .ok (.getstatic 51, 3) := dec_at kDX0_restart_0 43 rfl
theorem dX0_restart_74 : decode cX0_restart 74 = .ok (.iload_n 3, 1) := dec_at kDX0_restart_0 44 rfl
theorem dX0_restart_75 : decode cX0_restart 75 = .ok (.laload, 1) := dec_at kDX0_restart_0 45 rfl
theorem dX0_restart_76 : decode cX0_restart 76 = .ok (.aload_n 0, 1) := dec_at kDX0_restart_0 46 rfl
theorem dX0_restart_77 : decode cX0_restart 77 = .ok (.getfield 41, 3) := dec_at kDX0_restart_0 47 rfl
theorem dX0_restart_80 : decode cX0_restart 80 = .ok (.land, 1) := dec_at kDX0_restart_0 48 rfl
theorem dX0_restart_81 : decode cX0_restart 81 = .ok (.invokevirtual 54, 3) := dec_at kDX0_restart_0 49 rfl
def DX0_restart_50 : List (Nat × (Instr × Nat)) := [(84, (.iinc 3 1, 3)), (87, (.goto (-24), 3)), (90, (.aload_n 0, 1)), (91, (.bipush 6, 2)), (93, (.lconst 1, 1)), (94, (.invokevirtual 54, 3)), (97, (.aload_n 0, 1)), (98, (.bipush 7, 2)), (100, (.aload_n 0, 1)), (101, (.getfield 41, 3)), (104, (.invokevirtual 54, 3)), (107, (.return_, 1))]
theorem kDX0_restart_50 : DX0_restart_50.all (fun q => decide (decode cX0_restart q.1 = .ok q.2)) = true := by decide +kernel
theorem dX0_restart_84 : decode cX0_restart 84 = .ok (.iinc 3 1, 3) := dec_at kDX0_restart_50 0 rfl
theorem dX0_restart_87 : decode cX0_restart 87 = .ok (.goto (-24), 3) := dec_at kDX0_restart_50 1 rfl
theorem dX0_restart_90 : decode cX0_restart 90 = .ok (.aload_n 0, 1) := dec_at kDX0_restart_50 2 rfl
theorem dX0_restart_91 : decode cX0_restart 91 = .ok (.bipush 6, 2) := dec_at kDX0_restart_50 3 rfl
theorem dX0_restart_93 : decode cX0_restart 93 = .ok (.lconst 1, 1) := dec_at kDX0_restart_50 4 rfl
theorem dX0_restart_94 : decode cX0_restart 94 = .ok (.invokevirtual 54, 3) := dec_at kDX0_restart_50 5 rfl
theorem dX0_restart_97 : decode cX0_restart 97 = .ok (.aload_n 0, 1) := dec_at kDX0_restart_50 6 rfl
theorem dX0_restart_98 : decode cX0_restart 98 = .ok (.bipush 7, 2) := dec_at kDX0_restart_50 7 rfl
theorem dX0_restart_100 : decode cX0_restart 100 = .ok (.aload_n 0, 1) := dec_at kDX0_restart_50 8 rfl
theorem dX0_restart_101 : decode cX0_restart 101 = .ok (.getfield 41, 3) := dec_at kDX0_restart_50 9 rfl
theorem dX0_restart_104 : decode cX0_restart 104 = .ok (.invokevirtual 54, 3) := dec_at kDX0_restart_50 10 rfl
theorem dX0_restart_107 : decode cX0_restart 107 = .ok (.return_, 1) := dec_at kDX0_restart_50 11 rfl
def DX0_fillRow_0 : List (Nat × (Instr × Nat)) := [(0, (.iconst 0, 1)), (1, (.istore 4, 2)), (3, (.iload 4, 2)), (5, (.iconst 4, 1)), (6, (.if_icmp .ge 17, 3)), (9, (.aload_n 0, 1)), (10, (.iload_n 1, 1)), (11, (.iload 4, 2)), (13, (.lload_n 2, 1)), (14, (.invokevirtual 58, 3)), (17, (.iinc 4 1, 3)), (20, (.goto (-17), 3)), (23, (.return_, 1))]
theorem kDX0_fillRow_0 : DX0_fillRow_0.all (fun q => decide (decode cX0_fillRow q.1 = .ok q.2)) = true := by decide +kernel
theorem dX0_fillRow_0 : decode cX0_fillRow 0 = .ok (.iconst 0, 1) := dec_at kDX0_fillRow_0 0 rfl
theorem dX0_fillRow_1 : decode cX0_fillRow 1 = .ok (.istore 4, 2) := dec_at kDX0_fillRow_0 1 rfl
theorem dX0_fillRow_3 : decode cX0_fillRow 3 = .ok (.iload 4, 2) := dec_at kDX0_fillRow_0 2 rfl
theorem dX0_fillRow_5 : decode cX0_fillRow 5 = .ok (.iconst 4, 1) := dec_at kDX0_fillRow_0 3 rfl
theorem dX0_fillRow_6 : decode cX0_fillRow 6 = .ok (.if_icmp .ge 17, 3) := dec_at kDX0_fillRow_0 4 rfl
theorem dX0_fillRow_9 : decode cX0_fillRow 9 = .ok (.aload_n 0, 1) := dec_at kDX0_fillRow_0 5 rfl
theorem dX0_fillRow_10 : decode cX0_fillRow 10 = .ok (.iload_n 1, 1) := dec_at kDX0_fillRow_0 6 rfl
theorem dX0_fillRow_11 : decode cX0_fillRow 11 = .ok (.iload 4, 2) := dec_at kDX0_fillRow_0 7 rfl
theorem dX0_fillRow_13 : decode cX0_fillRow 13 = .ok (.lload_n 2, 1) := dec_at kDX0_fillRow_0 8 rfl
theorem dX0_fillRow_14 : decode cX0_fillRow 14 = .ok (.invokevirtual 58, 3) := dec_at kDX0_fillRow_0 9 rfl
theorem dX0_fillRow_17 : decode cX0_fillRow 17 = .ok (.iinc 4 1, 3) := dec_at kDX0_fillRow_0 10 rfl
theorem dX0_fillRow_20 : decode cX0_fillRow 20 = .ok (.goto (-17), 3) := dec_at kDX0_fillRow_0 11 rfl
theorem dX0_fillRow_23 : decode cX0_fillRow 23 = .ok (.return_, 1) := dec_at kDX0_fillRow_0 12 rfl
def DX0_table_0 : List (Nat × (Instr × Nat)) := [(0, (.iload_n 1, 1)), (1, (.iconst 4, 1)), (2, (.imul, 1)), (3, (.iload_n 2, 1)), (4, (.iadd, 1)), (5, (.istore_n 3, 1)), (6, (.iload_n 3, 1)), (7, (.ifCond .lt 21, 3)), (10, (.iload_n 3, 1)), (11, (.aload_n 0, 1)), (12, (.getfield 11, 3)), (15, (.arraylength, 1)), (16, (.if_icmp .ge 12, 3)), (19, (.aload_n 0, 1)), (20, (.getfield 11, 3)), (23, (.iload_n 3, 1)), (24, (.laload, 1)), (25, (.goto 4, 3)), (28, (.lconst 0, 1)), (29, (.lreturn, 1))]
theorem kDX0_table_0 : DX0_table_0.all (fun q => decide (decode cX0_table q.1 = .ok q.2)) = true := by decide +kernel
theorem dX0_table_0 : decode cX0_table 0 = .ok (.iload_n 1, 1) := dec_at kDX0_table_0 0 rfl
theorem dX0_table_1 : decode cX0_table 1 = .ok (.iconst 4, 1) := dec_at kDX0_table_0 1 rfl
theorem dX0_table_2 : decode cX0_table 2 = .ok (.imul, 1) := dec_at kDX0_table_0 2 rfl
theorem dX0_table_3 : decode cX0_table 3 = .ok (.iload_n 2, 1) := dec_at kDX0_table_0 3 rfl
theorem dX0_table_4 : decode cX0_table 4 = .ok (.iadd, 1) := dec_at kDX0_table_0 4 rfl
theorem dX0_table_5 : decode cX0_table 5 = .ok (.istore_n 3, 1) := dec_at kDX0_table_0 5 rfl
theorem dX0_table_6 : decode cX0_table 6 = .ok (.iload_n 3, 1) := dec_at kDX0_table_0 6 rfl
theorem dX0_table_7 : decode cX0_table 7 = .ok (.ifCond .lt 21, 3) := dec_at kDX0_table_0 7 rfl
theorem dX0_table_10 : decode cX0_table 10 = .ok (.iload_n 3, 1) := dec_at kDX0_table_0 8 rfl
theorem dX0_table_11 : decode cX0_table 11 = .ok (.aload_n 0, 1) := dec_at kDX0_table_0 9 rfl
theorem dX0_table_12 : decode cX0_table 12 = .ok (.getfield 11, 3) := dec_at kDX0_table_0 10 rfl
theorem dX0_table_15 : decode cX0_table 15 = .ok (.arraylength, 1) := dec_at kDX0_table_0 11 rfl
theorem dX0_table_16 : decode cX0_table 16 = .ok (.if_icmp .ge 12, 3) := dec_at kDX0_table_0 12 rfl
theorem dX0_table_19 : decode cX0_table 19 = .ok (.aload_n 0, 1) := dec_at kDX0_table_0 13 rfl
theorem dX0_table_20 : decode cX0_table 20 = .ok (.getfield 11, 3) := dec_at kDX0_table_0 14 rfl
theorem dX0_table_23 : decode cX0_table 23 = .ok (.iload_n 3, 1) := dec_at kDX0_table_0 15 rfl
theorem dX0_table_24 : decode cX0_table 24 = .ok (.laload, 1) := dec_at kDX0_table_0 16 rfl
theorem dX0_table_25 : decode cX0_table 25 = .ok (.goto 4, 3) := dec_at kDX0_table_0 17 rfl
theorem dX0_table_28 : decode cX0_table 28 = .ok (.lconst 0, 1) := dec_at kDX0_table_0 18 rfl
theorem dX0_table_29 : decode cX0_table 29 = .ok (.lreturn, 1) := dec_at kDX0_table_0 19 rfl
def DX0_putTable_0 : List (Nat × (Instr × Nat)) := [(0, (.iload_n 1, 1)), (1, (.iconst 4, 1)), (2, (.imul, 1)), (3, (.iload_n 2, 1)), (4, (.iadd, 1)), (5, (.istore 5, 2)), (7, (.iload 5, 2)), (9, (.ifCond .lt 21, 3)), (12, (.iload 5, 2)), (14, (.aload_n 0, 1)), (15, (.getfield 11, 3)), (18, (.arraylength, 1)), (19, (.if_icmp .ge 11, 3)), (22, (.aload_n 0, 1)), (23, (.getfield 11, 3)), (26, (.iload 5, 2)), (28, (.lload_n 3, 1)), (29, (.lastore, 1)), (30, (.return_, 1))]
theorem kDX0_putTable_0 : DX0_putTable_0.all (fun q => decide (decode cX0_putTable q.1 = .ok q.2)) = true := by decide +kernel
theorem dX0_putTable_0 : decode cX0_putTable 0 = .ok (.iload_n 1, 1) := dec_at kDX0_putTable_0 0 rfl
theorem dX0_putTable_1 : decode cX0_putTable 1 = .ok (.iconst 4, 1) := dec_at kDX0_putTable_0 1 rfl
theorem dX0_putTable_2 : decode cX0_putTable 2 = .ok (.imul, 1) := dec_at kDX0_putTable_0 2 rfl
theorem dX0_putTable_3 : decode cX0_putTable 3 = .ok (.iload_n 2, 1) := dec_at kDX0_putTable_0 3 rfl
theorem dX0_putTable_4 : decode cX0_putTable 4 = .ok (.iadd, 1) := dec_at kDX0_putTable_0 4 rfl
theorem dX0_putTable_5 : decode cX0_putTable 5 = .ok (.istore 5, 2) := dec_at kDX0_putTable_0 5 rfl
theorem dX0_putTable_7 : decode cX0_putTable 7 = .ok (.iload 5, 2) := dec_at kDX0_putTable_0 6 rfl
theorem dX0_putTable_9 : decode cX0_putTable 9 = .ok (.ifCond .lt 21, 3) := dec_at kDX0_putTable_0 7 rfl
theorem dX0_putTable_12 : decode cX0_putTable 12 = .ok (.iload 5, 2) := dec_at kDX0_putTable_0 8 rfl
theorem dX0_putTable_14 : decode cX0_putTable 14 = .ok (.aload_n 0, 1) := dec_at kDX0_putTable_0 9 rfl
theorem dX0_putTable_15 : decode cX0_putTable 15 = .ok (.getfield 11, 3) := dec_at kDX0_putTable_0 10 rfl
theorem dX0_putTable_18 : decode cX0_putTable 18 = .ok (.arraylength, 1) := dec_at kDX0_putTable_0 11 rfl
theorem dX0_putTable_19 : decode cX0_putTable 19 = .ok (.if_icmp .ge 11, 3) := dec_at kDX0_putTable_0 12 rfl
theorem dX0_putTable_22 : decode cX0_putTable 22 = .ok (.aload_n 0, 1) := dec_at kDX0_putTable_0 13 rfl
theorem dX0_putTable_23 : decode cX0_putTable 23 = .ok (.getfield 11, 3) := dec_at kDX0_putTable_0 14 rfl
theorem dX0_putTable_26 : decode cX0_putTable 26 = .ok (.iload 5, 2) := dec_at kDX0_putTable_0 15 rfl
theorem dX0_putTable_28 : decode cX0_putTable 28 = .ok (.lload_n 3, 1) := dec_at kDX0_putTable_0 16 rfl
theorem dX0_putTable_29 : decode cX0_putTable 29 = .ok (.lastore, 1) := dec_at kDX0_putTable_0 17 rfl
theorem dX0_putTable_30 : decode cX0_putTable 30 = .ok (.return_, 1) := dec_at kDX0_putTable_0 18 rfl
def DX0_initial_0 : List (Nat × (Instr × Nat)) := [(0, (.aload_n 0, 1)), (1, (.bipush 6, 2)), (3, (.iconst 0, 1)), (4, (.invokevirtual 62, 3)), (7, (.lreturn, 1))]
theorem kDX0_initial_0 : DX0_initial_0.all (fun q => decide (decode cX0_initial q.1 = .ok q.2)) = true := by decide +kernel
theorem dX0_initial_0 : decode cX0_initial 0 = .ok (.aload_n 0, 1) := dec_at kDX0_initial_0 0 rfl
theorem dX0_initial_1 : decode cX0_initial 1 = .ok (.bipush 6, 2) := dec_at kDX0_initial_0 1 rfl
theorem dX0_initial_3 : decode cX0_initial 3 = .ok (.iconst 0, 1) := dec_at kDX0_initial_0 2 rfl
theorem dX0_initial_4 : decode cX0_initial 4 = .ok (.invokevirtual 62, 3) := dec_at kDX0_initial_0 3 rfl
theorem dX0_initial_7 : decode cX0_initial 7 = .ok (.lreturn, 1) := dec_at kDX0_initial_0 4 rfl
def DX0_good_0 : List (Nat × (Instr × Nat)) := [(0, (.aload_n 0, 1)), (1, (.bipush 7, 2)), (3, (.iconst 0, 1)), (4, (.invokevirtual 62, 3)), (7, (.lreturn, 1))]
theorem kDX0_good_0 : DX0_good_0.all (fun q => decide (decode cX0_good q.1 = .ok q.2)) = true := by decide +kernel
theorem dX0_good_0 : decode cX0_good 0 = .ok (.aload_n 0, 1) := dec_at kDX0_good_0 0 rfl
theorem dX0_good_1 : decode cX0_good 1 = .ok (.bipush 7, 2) := dec_at kDX0_good_0 1 rfl
theorem dX0_good_3 : decode cX0_good 3 = .ok (.iconst 0, 1) := dec_at kDX0_good_0 2 rfl
theorem dX0_good_4 : decode cX0_good 4 = .ok (.invokevirtual 62, 3) := dec_at kDX0_good_0 3 rfl
theorem dX0_good_7 : decode cX0_good 7 = .ok (.lreturn, 1) := dec_at kDX0_good_0 4 rfl
def DX0_bad_0 : List (Nat × (Instr × Nat)) := [(0, (.aload_n 0, 1)), (1, (.getfield 41, 3)), (4, (.aload_n 0, 1)), (5, (.invokevirtual 66, 3)), (8, (.ldc2_w 39, 3)), (11, (.lxor, 1)), (12, (.land, 1)), (13, (.lreturn, 1))]
theorem kDX0_bad_0 : DX0_bad_0.all (fun q => decide (decode cX0_bad q.1 = .ok q.2)) = true := by decide +kernel
theorem dX0_bad_0 : decode cX0_bad 0 = .ok (.aload_n 0, 1) := dec_at kDX0_bad_0 0 rfl
theorem dX0_bad_1 : decode cX0_bad 1 = .ok (.getfield 41, 3) := dec_at kDX0_bad_0 1 rfl
theorem dX0_bad_4 : decode cX0_bad 4 = .ok (.aload_n 0, 1) := dec_at kDX0_bad_0 2 rfl
theorem dX0_bad_5 : decode cX0_bad 5 = .ok (.invokevirtual 66, 3) := dec_at kDX0_bad_0 3 rfl
theorem dX0_bad_8 : decode cX0_bad 8 = .ok (.ldc2_w 39, 3) := dec_at kDX0_bad_0 4 rfl
theorem dX0_bad_11 : decode cX0_bad 11 = .ok (.lxor, 1) := dec_at kDX0_bad_0 5 rfl
theorem dX0_bad_12 : decode cX0_bad 12 = .ok (.land, 1) := dec_at kDX0_bad_0 6 rfl
theorem dX0_bad_13 : decode cX0_bad 13 = .ok (.lreturn, 1) := dec_at kDX0_bad_0 7 rfl
def DX0_replaceRow_0 : List (Nat × (Instr × Nat)) := [(0, (.aload_n 0, 1)), (1, (.iload_n 1, 1)), (2, (.invokevirtual 70, 3)), (5, (.iconst 0, 1)), (6, (.istore_n 3, 1)), (7, (.iconst 0, 1)), (8, (.istore 4, 2)), (10, (.iload 4, 2)), (12, (.aload_n 0, 1)), (13, (.getfield 36, 3)), (16, (.if_icmp .ge 47, 3)), (19, (.aload_n 2, 1)), (20, (.iload 4, 2)), (22, (.invokevirtual 74, 3)), (25, (.aload_n 0, 1)), (26, (.getfield 41, 3)), (29, (.land, 1)), (30, (.lstore 5, 2)), (32, (.iload_n 3, 1)), (33, (.lload 5, 2)), (35, (.aload_n 0, 1)), (36, (.iload_n 1, 1)), (37, (.iload 4, 2)), (39, (.invokevirtual 62, 3)), (42, (.lxor, 1)), (43, (.invokestatic 80, 3)), (46, (.iadd, 1)), (47, (.istore_n 3, 1)), (48, (.aload_n 0, 1)), (49, (.iload_n 1, 1)), (50, (.iload 4, 2)), (52, (.lload 5, 2)), (54, (.invokevirtual 58, 3)), (57, (.iinc 4 1, 3)), (60, (.goto (-50), 3)), (63, (.iload_n 3, 1)), (64, (.ireturn, 1))]
theorem kDX0_replaceRow_0 : DX0_replaceRow_0.all (fun q => decide (decode cX0_replaceRow q.1 = .ok q.2)) = true := by decide +kernel
theorem dX0_replaceRow_0 : decode cX0_replaceRow 0 = .ok (.aload_n 0, 1) := dec_at kDX0_replaceRow_0 0 rfl
theorem dX0_replaceRow_1 : decode cX0_replaceRow 1 = .ok (.iload_n 1, 1) := dec_at kDX0_replaceRow_0 1 rfl
theorem dX0_replaceRow_2 : decode cX0_replaceRow 2 = .ok (.invokevirtual 70, 3) := dec_at kDX0_replaceRow_0 2 rfl
theorem dX0_replaceRow_5 : decode cX0_replaceRow 5 = .ok (.iconst 0, 1) := dec_at kDX0_replaceRow_0 3 rfl
theorem dX0_replaceRow_6 : decode cX0_replaceRow 6 = .ok (.istore_n 3, 1) := dec_at kDX0_replaceRow_0 4 rfl
theorem dX0_replaceRow_7 : decode cX0_replaceRow 7 = .ok (.iconst 0, 1) := dec_at kDX0_replaceRow_0 5 rfl
theorem dX0_replaceRow_8 : decode cX0_replaceRow 8 = .ok (.istore 4, 2) := dec_at kDX0_replaceRow_0 6 rfl
theorem dX0_replaceRow_10 : decode cX0_replaceRow 10 = .ok (.iload 4, 2) := dec_at kDX0_replaceRow_0 7 rfl
theorem dX0_replaceRow_12 : decode cX0_replaceRow 12 = .ok (.aload_n 0, 1) := dec_at kDX0_replaceRow_0 8 rfl
theorem dX0_replaceRow_13 : decode cX0_replaceRow 13 = .ok (.getfield 36, 3) := dec_at kDX0_replaceRow_0 9 rfl
theorem dX0_replaceRow_16 : decode cX0_replaceRow 16 = .ok (.if_icmp .ge 47, 3) := dec_at kDX0_replaceRow_0 10 rfl
theorem dX0_replaceRow_19 : decode cX0_replaceRow 19 = .ok (.aload_n 2, 1) := dec_at kDX0_replaceRow_0 11 rfl
theorem dX0_replaceRow_20 : decode cX0_replaceRow 20 = .ok (.iload 4, 2) := dec_at kDX0_replaceRow_0 12 rfl
theorem dX0_replaceRow_22 : decode cX0_replaceRow 22 = .ok (.invokevirtual 74, 3) := dec_at kDX0_replaceRow_0 13 rfl
theorem dX0_replaceRow_25 : decode cX0_replaceRow 25 = .ok (.aload_n 0, 1) := dec_at kDX0_replaceRow_0 14 rfl
theorem dX0_replaceRow_26 : decode cX0_replaceRow 26 = .ok (.getfield 41, 3) := dec_at kDX0_replaceRow_0 15 rfl
theorem dX0_replaceRow_29 : decode cX0_replaceRow 29 = .ok (.land, 1) := dec_at kDX0_replaceRow_0 16 rfl
theorem dX0_replaceRow_30 : decode cX0_replaceRow 30 = .ok (.lstore 5, 2) := dec_at kDX0_replaceRow_0 17 rfl
theorem dX0_replaceRow_32 : decode cX0_replaceRow 32 = .ok (.iload_n 3, 1) := dec_at kDX0_replaceRow_0 18 rfl
theorem dX0_replaceRow_33 : decode cX0_replaceRow 33 = .ok (.lload 5, 2) := dec_at kDX0_replaceRow_0 19 rfl
theorem dX0_replaceRow_35 : decode cX0_replaceRow 35 = .ok (.aload_n 0, 1) := dec_at kDX0_replaceRow_0 20 rfl
theorem dX0_replaceRow_36 : decode cX0_replaceRow 36 = .ok (.iload_n 1, 1) := dec_at kDX0_replaceRow_0 21 rfl
theorem dX0_replaceRow_37 : decode cX0_replaceRow 37 = .ok (.iload 4, 2) := dec_at kDX0_replaceRow_0 22 rfl
theorem dX0_replaceRow_39 : decode cX0_replaceRow 39 = .ok (.invokevirtual 62, 3) := dec_at kDX0_replaceRow_0 23 rfl
theorem dX0_replaceRow_42 : decode cX0_replaceRow 42 = .ok (.lxor, 1) := dec_at kDX0_replaceRow_0 24 rfl
theorem dX0_replaceRow_43 : decode cX0_replaceRow 43 = .ok (.invokestatic 80, 3) := dec_at kDX0_replaceRow_0 25 rfl
theorem dX0_replaceRow_46 : decode cX0_replaceRow 46 = .ok (.iadd, 1) := dec_at kDX0_replaceRow_0 26 rfl
theorem dX0_replaceRow_47 : decode cX0_replaceRow 47 = .ok (.istore_n 3, 1) := dec_at kDX0_replaceRow_0 27 rfl
theorem dX0_replaceRow_48 : decode cX0_replaceRow 48 = .ok (.aload_n 0, 1) := dec_at kDX0_replaceRow_0 28 rfl
theorem dX0_replaceRow_49 : decode cX0_replaceRow 49 = .ok (.iload_n 1, 1) := dec_at kDX0_replaceRow_0 29 rfl
theorem dX0_replaceRow_50 : decode cX0_replaceRow 50 = .ok (.iload 4, 2) := dec_at kDX0_replaceRow_0 30 rfl
theorem dX0_replaceRow_52 : decode cX0_replaceRow 52 = .ok (.lload 5, 2) := dec_at kDX0_replaceRow_0 31 rfl
theorem dX0_replaceRow_54 : decode cX0_replaceRow 54 = .ok (.invokevirtual 58, 3) := dec_at kDX0_replaceRow_0 32 rfl
theorem dX0_replaceRow_57 : decode cX0_replaceRow 57 = .ok (.iinc 4 1, 3) := dec_at kDX0_replaceRow_0 33 rfl
theorem dX0_replaceRow_60 : decode cX0_replaceRow 60 = .ok (.goto (-50), 3) := dec_at kDX0_replaceRow_0 34 rfl
theorem dX0_replaceRow_63 : decode cX0_replaceRow 63 = .ok (.iload_n 3, 1) := dec_at kDX0_replaceRow_0 35 rfl
theorem dX0_replaceRow_64 : decode cX0_replaceRow 64 = .ok (.ireturn, 1) := dec_at kDX0_replaceRow_0 36 rfl
def DX0_keepRow_0 : List (Nat × (Instr × Nat)) := [(0, (.aload_n 0, 1)), (1, (.getfield 48, 3)), (4, (.bipush 10, 2)), (6, (.if_icmp .ne 26, 3)), (9, (.aload_n 0, 1)), (10, (.aload_n 0, 1)), (11, (.getfield 45, 3)), (14, (.iconst 1, 1)), (15, (.iadd, 1)), (16, (.bipush 10, 2)), (18, (.irem, 1)), (19, (.putfield 45, 3)), (22, (.aload_n 0, 1)), (23, (.dup, 1)), (24, (.getfield 48, 3)), (27, (.iconst 1, 1)), (28, (.isub, 1)), (29, (.putfield 48, 3)), (32, (.aload_n 0, 1)), (33, (.getfield 45, 3)), (36, (.aload_n 0, 1)), (37, (.getfield 48, 3)), (40, (.iadd, 1)), (41, (.bipush 10, 2)), (43, (.irem, 1)), (44, (.istore_n 2, 1)), (45, (.iload_n 2, 1)), (46, (.ifCond .ge 4, 3)), (49, (.return_, 1)), (50, (.aload_n 0, 1)), (51, (.getfield 18, 3)), (54, (.iload_n 2, 1)), (55, (.iload_n 1, 1)), (56, (.iastore, 1)), (57, (.iconst 0, 1)), (58, (.istore_n 3, 1)), (59, (.iload_n 3, 1)), (60, (.iconst 4, 1)), (61, (.if_icmp .ge 25, 3)), (64, (.aload_n 0, 1)), (65, (.getfield 15, 3)), (68, (.iload_n 2, 1)), (69, (.iconst 4, 1)), (70, (.imul, 1)), (71, (.iload_n 3, 1)), (72, (.iadd, 1)), (73, (.aload_n 0, 1)), (74, (.iload_n 1, 1)), (75, (.iload_n 3, 1)), (76, (.invokevirtual 62, 3))]
theorem kDX0_keepRow_0 : DX0_keepRow_0.all (fun q => decide (decode cX0_keepRow q.1 = .ok q.2)) = true := by decide +kernel
theorem dX0_keepRow_0 : decode cX0_keepRow 0 = .ok (.aload_n 0, 1) := dec_at kDX0_keepRow_0 0 rfl
theorem dX0_keepRow_1 : decode cX0_keepRow 1 = .ok (.getfield 48, 3) := dec_at kDX0_keepRow_0 1 rfl
theorem dX0_keepRow_4 : decode cX0_keepRow 4 = .ok (.bipush 10, 2) := dec_at kDX0_keepRow_0 2 rfl
theorem dX0_keepRow_6 : decode cX0_keepRow 6 = .ok (.if_icmp .ne 26, 3) := dec_at kDX0_keepRow_0 3 rfl
theorem dX0_keepRow_9 : decode cX0_keepRow 9 = .ok (.aload_n 0, 1) := dec_at kDX0_keepRow_0 4 rfl
theorem dX0_keepRow_10 : decode cX0_keepRow 10 = .ok (.aload_n 0, 1) := dec_at kDX0_keepRow_0 5 rfl
theorem dX0_keepRow_11 : decode cX0_keepRow 11 = .ok (.getfield 45, 3) := dec_at kDX0_keepRow_0 6 rfl
theorem dX0_keepRow_14 : decode cX0_keepRow 14 = .ok (.iconst 1, 1) := dec_at kDX0_keepRow_0 7 rfl
theorem dX0_keepRow_15 : decode cX0_keepRow 15 = .ok (.iadd, 1) := dec_at kDX0_keepRow_0 8 rfl
theorem dX0_keepRow_16 : decode cX0_keepRow 16 = .ok (.bipush 10, 2) := dec_at kDX0_keepRow_0 9 rfl
theorem dX0_keepRow_18 : decode cX0_keepRow 18 = .ok (.irem, 1) := dec_at kDX0_keepRow_0 10 rfl
theorem dX0_keepRow_19 : decode cX0_keepRow 19 = .ok (.putfield 45, 3) := dec_at kDX0_keepRow_0 11 rfl
theorem dX0_keepRow_22 : decode cX0_keepRow 22 = .ok (.aload_n 0, 1) := dec_at kDX0_keepRow_0 12 rfl
theorem dX0_keepRow_23 : decode cX0_keepRow 23 = .ok (.dup, 1) := dec_at kDX0_keepRow_0 13 rfl
theorem dX0_keepRow_24 : decode cX0_keepRow 24 = .ok (.getfield 48, 3) := dec_at kDX0_keepRow_0 14 rfl
theorem dX0_keepRow_27 : decode cX0_keepRow 27 = .ok (.iconst 1, 1) := dec_at kDX0_keepRow_0 15 rfl
theorem dX0_keepRow_28 : decode cX0_keepRow 28 = .ok (.isub, 1) := dec_at kDX0_keepRow_0 16 rfl
theorem dX0_keepRow_29 : decode cX0_keepRow 29 = .ok (.putfield 48, 3) := dec_at kDX0_keepRow_0 17 rfl
theorem dX0_keepRow_32 : decode cX0_keepRow 32 = .ok (.aload_n 0, 1) := dec_at kDX0_keepRow_0 18 rfl
theorem dX0_keepRow_33 : decode cX0_keepRow 33 = .ok (.getfield 45, 3) := dec_at kDX0_keepRow_0 19 rfl
theorem dX0_keepRow_36 : decode cX0_keepRow 36 = .ok (.aload_n 0, 1) := dec_at kDX0_keepRow_0 20 rfl
theorem dX0_keepRow_37 : decode cX0_keepRow 37 = .ok (.getfield 48, 3) := dec_at kDX0_keepRow_0 21 rfl
theorem dX0_keepRow_40 : decode cX0_keepRow 40 = .ok (.iadd, 1) := dec_at kDX0_keepRow_0 22 rfl
theorem dX0_keepRow_41 : decode cX0_keepRow 41 = .ok (.bipush 10, 2) := dec_at kDX0_keepRow_0 23 rfl
theorem dX0_keepRow_43 : decode cX0_keepRow 43 = .ok (.irem, 1) := dec_at kDX0_keepRow_0 24 rfl
theorem dX0_keepRow_44 : decode cX0_keepRow 44 = .ok (.istore_n 2, 1) := dec_at kDX0_keepRow_0 25 rfl
theorem dX0_keepRow_45 : decode cX0_keepRow 45 = .ok (.iload_n 2, 1) := dec_at kDX0_keepRow_0 26 rfl
theorem dX0_keepRow_46 : decode cX0_keepRow 46 = .ok (.ifCond .ge 4, 3) := dec_at kDX0_keepRow_0 27 rfl
theorem dX0_keepRow_49 : decode cX0_keepRow 49 = .ok (.return_, 1) := dec_at kDX0_keepRow_0 28 rfl
theorem dX0_keepRow_50 : decode cX0_keepRow 50 = .ok (.aload_n 0, 1) := dec_at kDX0_keepRow_0 29 rfl
theorem dX0_keepRow_51 : decode cX0_keepRow 51 = .ok (.getfield 18, 3) := dec_at kDX0_keepRow_0 30 rfl
theorem dX0_keepRow_54 : decode cX0_keepRow 54 = .ok (.iload_n 2, 1) := dec_at kDX0_keepRow_0 31 rfl
theorem dX0_keepRow_55 : decode cX0_keepRow 55 = .ok (.iload_n 1, 1) := dec_at kDX0_keepRow_0 32 rfl
theorem dX0_keepRow_56 : decode cX0_keepRow 56 = .ok (.iastore, 1) := dec_at kDX0_keepRow_0 33 rfl
theorem dX0_keepRow_57 : decode cX0_keepRow 57 = .ok (.iconst 0, 1) := dec_at kDX0_keepRow_0 34 rfl
theorem dX0_keepRow_58 : decode cX0_keepRow 58 = .ok (.istore_n 3, 1) := dec_at kDX0_keepRow_0 35 rfl
theorem dX0_keepRow_59 : decode cX0_keepRow 59 = .ok (.iload_n 3, 1) := dec_at kDX0_keepRow_0 36 rfl
theorem dX0_keepRow_60 : decode cX0_keepRow 60 = .ok (.iconst 4, 1) := dec_at kDX0_keepRow_0 37 rfl
theorem dX0_keepRow_61 : decode cX0_keepRow 61 = .ok (.if_icmp .ge 25, 3) := dec_at kDX0_keepRow_0 38 rfl
theorem dX0_keepRow_64 : decode cX0_keepRow 64 = .ok (.aload_n 0, 1) := dec_at kDX0_keepRow_0 39 rfl
theorem dX0_keepRow_65 : decode cX0_keepRow 65 = .ok (.getfield 15, 3) := dec_at kDX0_keepRow_0 40 rfl
theorem dX0_keepRow_68 : decode cX0_keepRow 68 = .ok (.iload_n 2, 1) := dec_at kDX0_keepRow_0 41 rfl
theorem dX0_keepRow_69 : decode cX0_keepRow 69 = .ok (.iconst 4, 1) := dec_at kDX0_keepRow_0 42 rfl
theorem dX0_keepRow_70 : decode cX0_keepRow 70 = .ok (.imul, 1) := dec_at kDX0_keepRow_0 43 rfl
theorem dX0_keepRow_71 : decode cX0_keepRow 71 = .ok (.iload_n 3, 1) := dec_at kDX0_keepRow_0 44 rfl
theorem dX0_keepRow_72 : decode cX0_keepRow 72 = .ok (.iadd, 1) := dec_at kDX0_keepRow_0 45 rfl
theorem dX0_keepRow_73 : decode cX0_keepRow 73 = .ok (.aload_n 0, 1) := dec_at kDX0_keepRow_0 46 rfl
theorem dX0_keepRow_74 : decode cX0_keepRow 74 = .ok (.iload_n 1, 1) := dec_at kDX0_keepRow_0 47 rfl
theorem dX0_keepRow_75 : decode cX0_keepRow 75 = .ok (.iload_n 3, 1) := dec_at kDX0_keepRow_0 48 rfl
theorem dX0_keepRow_76 : decode cX0_keepRow 76 = .ok (.invokevirtual 62, 3) := dec_at kDX0_keepRow_0 49 rfl
def DX0_keepRow_50 : List (Nat × (Instr × Nat)) := [(79, (.lastore, 1)), (80, (.iinc 3 1, 3)), (83, (.goto (-24), 3)), (86, (.aload_n 0, 1)), (87, (.dup, 1)), (88, (.getfield 48, 3)), (91, (.iconst 1, 1)), (92, (.iadd, 1)), (93, (.putfield 48, 3)), (96, (.return_, 1))]
theorem kDX0_keepRow_50 : DX0_keepRow_50.all (fun q => decide (decode cX0_keepRow q.1 = .ok q.2)) = true := by decide +kernel
theorem dX0_keepRow_79 : decode cX0_keepRow 79 = .ok (.lastore, 1) := dec_at kDX0_keepRow_50 0 rfl
theorem dX0_keepRow_80 : decode cX0_keepRow 80 = .ok (.iinc 3 1, 3) := dec_at kDX0_keepRow_50 1 rfl
theorem dX0_keepRow_83 : decode cX0_keepRow 83 = .ok (.goto (-24), 3) := dec_at kDX0_keepRow_50 2 rfl
theorem dX0_keepRow_86 : decode cX0_keepRow 86 = .ok (.aload_n 0, 1) := dec_at kDX0_keepRow_50 3 rfl
theorem dX0_keepRow_87 : decode cX0_keepRow 87 = .ok (.dup, 1) := dec_at kDX0_keepRow_50 4 rfl
theorem dX0_keepRow_88 : decode cX0_keepRow 88 = .ok (.getfield 48, 3) := dec_at kDX0_keepRow_50 5 rfl
theorem dX0_keepRow_91 : decode cX0_keepRow 91 = .ok (.iconst 1, 1) := dec_at kDX0_keepRow_50 6 rfl
theorem dX0_keepRow_92 : decode cX0_keepRow 92 = .ok (.iadd, 1) := dec_at kDX0_keepRow_50 7 rfl
theorem dX0_keepRow_93 : decode cX0_keepRow 93 = .ok (.putfield 48, 3) := dec_at kDX0_keepRow_50 8 rfl
theorem dX0_keepRow_96 : decode cX0_keepRow 96 = .ok (.return_, 1) := dec_at kDX0_keepRow_50 9 rfl
def DX0_restoreLatest_0 : List (Nat × (Instr × Nat)) := [(0, (.aload_n 0, 1)), (1, (.getfield 45, 3)), (4, (.aload_n 0, 1)), (5, (.getfield 48, 3)), (8, (.iadd, 1)), (9, (.iconst 1, 1)), (10, (.isub, 1)), (11, (.bipush 10, 2)), (13, (.irem, 1)), (14, (.istore_n 1, 1)), (15, (.iload_n 1, 1)), (16, (.ifCond .lt 10, 3)), (19, (.aload_n 0, 1)), (20, (.getfield 48, 3)), (23, (.ifCond .gt 4, 3)), (26, (.return_, 1)), (27, (.iconst 0, 1)), (28, (.istore_n 2, 1)), (29, (.iload_n 2, 1)), (30, (.iconst 4, 1)), (31, (.if_icmp .ge 30, 3)), (34, (.aload_n 0, 1)), (35, (.aload_n 0, 1)), (36, (.getfield 18, 3)), (39, (.iload_n 1, 1)), (40, (.iaload, 1)), (41, (.iload_n 2, 1)), (42, (.aload_n 0, 1)), (43, (.getfield 15, 3)), (46, (.iload_n 1, 1)), (47, (.iconst 4, 1)), (48, (.imul, 1)), (49, (.iload_n 2, 1)), (50, (.iadd, 1)), (51, (.laload, 1)), (52, (.invokevirtual 58, 3)), (55, (.iinc 2 1, 3)), (58, (.goto (-29), 3)), (61, (.aload_n 0, 1)), (62, (.dup, 1)), (63, (.getfield 48, 3)), (66, (.iconst 1, 1)), (67, (.isub, 1)), (68, (.putfield 48, 3)), (71, (.return_, 1))]
theorem kDX0_restoreLatest_0 : DX0_restoreLatest_0.all (fun q => decide (decode cX0_restoreLatest q.1 = .ok q.2)) = true := by decide +kernel
theorem dX0_restoreLatest_0 : decode cX0_restoreLatest 0 = .ok (.aload_n 0, 1) := dec_at kDX0_restoreLatest_0 0 rfl
theorem dX0_restoreLatest_1 : decode cX0_restoreLatest 1 = .ok (.getfield 45, 3) := dec_at kDX0_restoreLatest_0 1 rfl
theorem dX0_restoreLatest_4 : decode cX0_restoreLatest 4 = .ok (.aload_n 0, 1) := dec_at kDX0_restoreLatest_0 2 rfl
theorem dX0_restoreLatest_5 : decode cX0_restoreLatest 5 = .ok (.getfield 48, 3) := dec_at kDX0_restoreLatest_0 3 rfl
theorem dX0_restoreLatest_8 : decode cX0_restoreLatest 8 = .ok (.iadd, 1) := dec_at kDX0_restoreLatest_0 4 rfl
theorem dX0_restoreLatest_9 : decode cX0_restoreLatest 9 = .ok (.iconst 1, 1) := dec_at kDX0_restoreLatest_0 5 rfl
theorem dX0_restoreLatest_10 : decode cX0_restoreLatest 10 = .ok (.isub, 1) := dec_at kDX0_restoreLatest_0 6 rfl
theorem dX0_restoreLatest_11 : decode cX0_restoreLatest 11 = .ok (.bipush 10, 2) := dec_at kDX0_restoreLatest_0 7 rfl
theorem dX0_restoreLatest_13 : decode cX0_restoreLatest 13 = .ok (.irem, 1) := dec_at kDX0_restoreLatest_0 8 rfl
theorem dX0_restoreLatest_14 : decode cX0_restoreLatest 14 = .ok (.istore_n 1, 1) := dec_at kDX0_restoreLatest_0 9 rfl
theorem dX0_restoreLatest_15 : decode cX0_restoreLatest 15 = .ok (.iload_n 1, 1) := dec_at kDX0_restoreLatest_0 10 rfl
theorem dX0_restoreLatest_16 : decode cX0_restoreLatest 16 = .ok (.ifCond .lt 10, 3) := dec_at kDX0_restoreLatest_0 11 rfl
theorem dX0_restoreLatest_19 : decode cX0_restoreLatest 19 = .ok (.aload_n 0, 1) := dec_at kDX0_restoreLatest_0 12 rfl
theorem dX0_restoreLatest_20 : decode cX0_restoreLatest 20 = .ok (.getfield 48, 3) := dec_at kDX0_restoreLatest_0 13 rfl
theorem dX0_restoreLatest_23 : decode cX0_restoreLatest 23 = .ok (.ifCond .gt 4, 3) := dec_at kDX0_restoreLatest_0 14 rfl
theorem dX0_restoreLatest_26 : decode cX0_restoreLatest 26 = .ok (.return_, 1) := dec_at kDX0_restoreLatest_0 15 rfl
theorem dX0_restoreLatest_27 : decode cX0_restoreLatest 27 = .ok (.iconst 0, 1) := dec_at kDX0_restoreLatest_0 16 rfl
theorem dX0_restoreLatest_28 : decode cX0_restoreLatest 28 = .ok (.istore_n 2, 1) := dec_at kDX0_restoreLatest_0 17 rfl
theorem dX0_restoreLatest_29 : decode cX0_restoreLatest 29 = .ok (.iload_n 2, 1) := dec_at kDX0_restoreLatest_0 18 rfl
theorem dX0_restoreLatest_30 : decode cX0_restoreLatest 30 = .ok (.iconst 4, 1) := dec_at kDX0_restoreLatest_0 19 rfl
theorem dX0_restoreLatest_31 : decode cX0_restoreLatest 31 = .ok (.if_icmp .ge 30, 3) := dec_at kDX0_restoreLatest_0 20 rfl
theorem dX0_restoreLatest_34 : decode cX0_restoreLatest 34 = .ok (.aload_n 0, 1) := dec_at kDX0_restoreLatest_0 21 rfl
theorem dX0_restoreLatest_35 : decode cX0_restoreLatest 35 = .ok (.aload_n 0, 1) := dec_at kDX0_restoreLatest_0 22 rfl
theorem dX0_restoreLatest_36 : decode cX0_restoreLatest 36 = .ok (.getfield 18, 3) := dec_at kDX0_restoreLatest_0 23 rfl
theorem dX0_restoreLatest_39 : decode cX0_restoreLatest 39 = .ok (.iload_n 1, 1) := dec_at kDX0_restoreLatest_0 24 rfl
theorem dX0_restoreLatest_40 : decode cX0_restoreLatest 40 = .ok (.iaload, 1) := dec_at kDX0_restoreLatest_0 25 rfl
theorem dX0_restoreLatest_41 : decode cX0_restoreLatest 41 = .ok (.iload_n 2, 1) := dec_at kDX0_restoreLatest_0 26 rfl
theorem dX0_restoreLatest_42 : decode cX0_restoreLatest 42 = .ok (.aload_n 0, 1) := dec_at kDX0_restoreLatest_0 27 rfl
theorem dX0_restoreLatest_43 : decode cX0_restoreLatest 43 = .ok (.getfield 15, 3) := dec_at kDX0_restoreLatest_0 28 rfl
theorem dX0_restoreLatest_46 : decode cX0_restoreLatest 46 = .ok (.iload_n 1, 1) := dec_at kDX0_restoreLatest_0 29 rfl
theorem dX0_restoreLatest_47 : decode cX0_restoreLatest 47 = .ok (.iconst 4, 1) := dec_at kDX0_restoreLatest_0 30 rfl
theorem dX0_restoreLatest_48 : decode cX0_restoreLatest 48 = .ok (.imul, 1) := dec_at kDX0_restoreLatest_0 31 rfl
theorem dX0_restoreLatest_49 : decode cX0_restoreLatest 49 = .ok (.iload_n 2, 1) := dec_at kDX0_restoreLatest_0 32 rfl
theorem dX0_restoreLatest_50 : decode cX0_restoreLatest 50 = .ok (.iadd, 1) := dec_at kDX0_restoreLatest_0 33 rfl
theorem dX0_restoreLatest_51 : decode cX0_restoreLatest 51 = .ok (.laload, 1) := dec_at kDX0_restoreLatest_0 34 rfl
theorem dX0_restoreLatest_52 : decode cX0_restoreLatest 52 = .ok (.invokevirtual 58, 3) := dec_at kDX0_restoreLatest_0 35 rfl
theorem dX0_restoreLatest_55 : decode cX0_restoreLatest 55 = .ok (.iinc 2 1, 3) := dec_at kDX0_restoreLatest_0 36 rfl
theorem dX0_restoreLatest_58 : decode cX0_restoreLatest 58 = .ok (.goto (-29), 3) := dec_at kDX0_restoreLatest_0 37 rfl
theorem dX0_restoreLatest_61 : decode cX0_restoreLatest 61 = .ok (.aload_n 0, 1) := dec_at kDX0_restoreLatest_0 38 rfl
theorem dX0_restoreLatest_62 : decode cX0_restoreLatest 62 = .ok (.dup, 1) := dec_at kDX0_restoreLatest_0 39 rfl
theorem dX0_restoreLatest_63 : decode cX0_restoreLatest 63 = .ok (.getfield 48, 3) := dec_at kDX0_restoreLatest_0 40 rfl
theorem dX0_restoreLatest_66 : decode cX0_restoreLatest 66 = .ok (.iconst 1, 1) := dec_at kDX0_restoreLatest_0 41 rfl
theorem dX0_restoreLatest_67 : decode cX0_restoreLatest 67 = .ok (.isub, 1) := dec_at kDX0_restoreLatest_0 42 rfl
theorem dX0_restoreLatest_68 : decode cX0_restoreLatest 68 = .ok (.putfield 48, 3) := dec_at kDX0_restoreLatest_0 43 rfl
theorem dX0_restoreLatest_71 : decode cX0_restoreLatest 71 = .ok (.return_, 1) := dec_at kDX0_restoreLatest_0 44 rfl
def DX0_step_0 : List (Nat × (Instr × Nat)) := [(0, (.iconst 0, 1)), (1, (.istore_n 3, 1)), (2, (.iconst 0, 1)), (3, (.istore 4, 2)), (5, (.iload 4, 2)), (7, (.aload_n 0, 1)), (8, (.getfield 26, 3)), (11, (.if_icmp .ge 30, 3)), (14, (.aload_n 0, 1)), (15, (.iload 4, 2)), (17, (.iload_n 2, 1)), (18, (.invokevirtual 62, 3)), (21, (.iload_n 1, 1)), (22, (.invokestatic 86, 3)), (25, (.ifCond .eq 10, 3)), (28, (.iload_n 3, 1)), (29, (.iconst 1, 1)), (30, (.iload 4, 2)), (32, (.ishl, 1)), (33, (.ior, 1)), (34, (.istore_n 3, 1)), (35, (.iinc 4 1, 3)), (38, (.goto (-33), 3)), (41, (.iload_n 3, 1)), (42, (.ireturn, 1))]
theorem kDX0_step_0 : DX0_step_0.all (fun q => decide (decode cX0_step q.1 = .ok q.2)) = true := by decide +kernel
theorem dX0_step_0 : decode cX0_step 0 = .ok (.iconst 0, 1) := dec_at kDX0_step_0 0 rfl
theorem dX0_step_1 : decode cX0_step 1 = .ok (.istore_n 3, 1) := dec_at kDX0_step_0 1 rfl
theorem dX0_step_2 : decode cX0_step 2 = .ok (.iconst 0, 1) := dec_at kDX0_step_0 2 rfl
theorem dX0_step_3 : decode cX0_step 3 = .ok (.istore 4, 2) := dec_at kDX0_step_0 3 rfl
theorem dX0_step_5 : decode cX0_step 5 = .ok (.iload 4, 2) := dec_at kDX0_step_0 4 rfl
theorem dX0_step_7 : decode cX0_step 7 = .ok (.aload_n 0, 1) := dec_at kDX0_step_0 5 rfl
theorem dX0_step_8 : decode cX0_step 8 = .ok (.getfield 26, 3) := dec_at kDX0_step_0 6 rfl
theorem dX0_step_11 : decode cX0_step 11 = .ok (.if_icmp .ge 30, 3) := dec_at kDX0_step_0 7 rfl
theorem dX0_step_14 : decode cX0_step 14 = .ok (.aload_n 0, 1) := dec_at kDX0_step_0 8 rfl
theorem dX0_step_15 : decode cX0_step 15 = .ok (.iload 4, 2) := dec_at kDX0_step_0 9 rfl
theorem dX0_step_17 : decode cX0_step 17 = .ok (.iload_n 2, 1) := dec_at kDX0_step_0 10 rfl
theorem dX0_step_18 : decode cX0_step 18 = .ok (.invokevirtual 62, 3) := dec_at kDX0_step_0 11 rfl
theorem dX0_step_21 : decode cX0_step 21 = .ok (.iload_n 1, 1) := dec_at kDX0_step_0 12 rfl
theorem dX0_step_22 : decode cX0_step 22 = .ok (.invokestatic 86, 3) := dec_at kDX0_step_0 13 rfl
theorem dX0_step_25 : decode cX0_step 25 = .ok (.ifCond .eq 10, 3) := dec_at kDX0_step_0 14 rfl
theorem dX0_step_28 : decode cX0_step 28 = .ok (.iload_n 3, 1) := dec_at kDX0_step_0 15 rfl
theorem dX0_step_29 : decode cX0_step 29 = .ok (.iconst 1, 1) := dec_at kDX0_step_0 16 rfl
theorem dX0_step_30 : decode cX0_step 30 = .ok (.iload 4, 2) := dec_at kDX0_step_0 17 rfl
theorem dX0_step_32 : decode cX0_step 32 = .ok (.ishl, 1) := dec_at kDX0_step_0 18 rfl
theorem dX0_step_33 : decode cX0_step 33 = .ok (.ior, 1) := dec_at kDX0_step_0 19 rfl
theorem dX0_step_34 : decode cX0_step 34 = .ok (.istore_n 3, 1) := dec_at kDX0_step_0 20 rfl
theorem dX0_step_35 : decode cX0_step 35 = .ok (.iinc 4 1, 3) := dec_at kDX0_step_0 21 rfl
theorem dX0_step_38 : decode cX0_step 38 = .ok (.goto (-33), 3) := dec_at kDX0_step_0 22 rfl
theorem dX0_step_41 : decode cX0_step 41 = .ok (.iload_n 3, 1) := dec_at kDX0_step_0 23 rfl
theorem dX0_step_42 : decode cX0_step 42 = .ok (.ireturn, 1) := dec_at kDX0_step_0 24 rfl
def DX0_statesInCube_0 : List (Nat × (Instr × Nat)) := [(0, (.aload_n 0, 1)), (1, (.getfield 41, 3)), (4, (.lstore_n 3, 1)), (5, (.iconst 0, 1)), (6, (.istore 5, 2)), (8, (.iload 5, 2)), (10, (.bipush 6, 2)), (12, (.if_icmp .ge 49, 3)), (15, (.iload_n 1, 1)), (16, (.iload 5, 2)), (18, (.ishr, 1)), (19, (.iconst 1, 1)), (20, (.iand, 1)), (21, (.ifCond .eq 34, 3)), (24, (.lload_n 3, 1)), (25, (.iload_n 2, 1)), (26, (.iload 5, 2)), (28, (.ishr, 1)), (29, (.iconst 1, 1)), (30, (.iand, 1)), (31, (.ifCond .eq 12, 3)), (34, (.getstatic 51, 3)), (37, (.iload 5, 2)), (39, (.laload, 1)), (40, (.goto 13, 3)), (43, (.getstatic 51, 3)), (46, (.iload 5, 2)), (48, (.laload, 1)), (49, (.ldc2_w 39, 3)), (52, (.lxor, 1)), (53, (.land, 1)), (54, (.lstore_n 3, 1)), (55, (.iinc 5 1, 3)), (58, (.goto (-50), 3)), (61, (.lload_n 3, 1)), (62, (.lreturn, 1))]
theorem kDX0_statesInCube_0 : DX0_statesInCube_0.all (fun q => decide (decode cX0_statesInCube q.1 = .ok q.2)) = true := by decide +kernel
theorem dX0_statesInCube_0 : decode cX0_statesInCube 0 = .ok (.aload_n 0, 1) := dec_at kDX0_statesInCube_0 0 rfl
theorem dX0_statesInCube_1 : decode cX0_statesInCube 1 = .ok (.getfield 41, 3) := dec_at kDX0_statesInCube_0 1 rfl
theorem dX0_statesInCube_4 : decode cX0_statesInCube 4 = .ok (.lstore_n 3, 1) := dec_at kDX0_statesInCube_0 2 rfl
theorem dX0_statesInCube_5 : decode cX0_statesInCube 5 = .ok (.iconst 0, 1) := dec_at kDX0_statesInCube_0 3 rfl
theorem dX0_statesInCube_6 : decode cX0_statesInCube 6 = .ok (.istore 5, 2) := dec_at kDX0_statesInCube_0 4 rfl
theorem dX0_statesInCube_8 : decode cX0_statesInCube 8 = .ok (.iload 5, 2) := dec_at kDX0_statesInCube_0 5 rfl
theorem dX0_statesInCube_10 : decode cX0_statesInCube 10 = .ok (.bipush 6, 2) := dec_at kDX0_statesInCube_0 6 rfl
theorem dX0_statesInCube_12 : decode cX0_statesInCube 12 = .ok (.if_icmp .ge 49, 3) := dec_at kDX0_statesInCube_0 7 rfl
theorem dX0_statesInCube_15 : decode cX0_statesInCube 15 = .ok (.iload_n 1, 1) := dec_at kDX0_statesInCube_0 8 rfl
theorem dX0_statesInCube_16 : decode cX0_statesInCube 16 = .ok (.iload 5, 2) := dec_at kDX0_statesInCube_0 9 rfl
theorem dX0_statesInCube_18 : decode cX0_statesInCube 18 = .ok (.ishr, 1) := dec_at kDX0_statesInCube_0 10 rfl
theorem dX0_statesInCube_19 : decode cX0_statesInCube 19 = .ok (.iconst 1, 1) := dec_at kDX0_statesInCube_0 11 rfl
theorem dX0_statesInCube_20 : decode cX0_statesInCube 20 = .ok (.iand, 1) := dec_at kDX0_statesInCube_0 12 rfl
theorem dX0_statesInCube_21 : decode cX0_statesInCube 21 = .ok (.ifCond .eq 34, 3) := dec_at kDX0_statesInCube_0 13 rfl
theorem dX0_statesInCube_24 : decode cX0_statesInCube 24 = .ok (.lload_n 3, 1) := dec_at kDX0_statesInCube_0 14 rfl
theorem dX0_statesInCube_25 : decode cX0_statesInCube 25 = .ok (.iload_n 2, 1) := dec_at kDX0_statesInCube_0 15 rfl
theorem dX0_statesInCube_26 : decode cX0_statesInCube 26 = .ok (.iload 5, 2) := dec_at kDX0_statesInCube_0 16 rfl
theorem dX0_statesInCube_28 : decode cX0_statesInCube 28 = .ok (.ishr, 1) := dec_at kDX0_statesInCube_0 17 rfl
theorem dX0_statesInCube_29 : decode cX0_statesInCube 29 = .ok (.iconst 1, 1) := dec_at kDX0_statesInCube_0 18 rfl
theorem dX0_statesInCube_30 : decode cX0_statesInCube 30 = .ok (.iand, 1) := dec_at kDX0_statesInCube_0 19 rfl
theorem dX0_statesInCube_31 : decode cX0_statesInCube 31 = .ok (.ifCond .eq 12, 3) := dec_at kDX0_statesInCube_0 20 rfl
theorem dX0_statesInCube_34 : decode cX0_statesInCube 34 = .ok (.getstatic 51, 3) := dec_at kDX0_statesInCube_0 21 rfl
theorem dX0_statesInCube_37 : decode cX0_statesInCube 37 = .ok (.iload 5, 2) := dec_at kDX0_statesInCube_0 22 rfl
theorem dX0_statesInCube_39 : decode cX0_statesInCube 39 = .ok (.laload, 1) := dec_at kDX0_statesInCube_0 23 rfl
theorem dX0_statesInCube_40 : decode cX0_statesInCube 40 = .ok (.goto 13, 3) := dec_at kDX0_statesInCube_0 24 rfl
theorem dX0_statesInCube_43 : decode cX0_statesInCube 43 = .ok (.getstatic 51, 3) := dec_at kDX0_statesInCube_0 25 rfl
theorem dX0_statesInCube_46 : decode cX0_statesInCube 46 = .ok (.iload 5, 2) := dec_at kDX0_statesInCube_0 26 rfl
theorem dX0_statesInCube_48 : decode cX0_statesInCube 48 = .ok (.laload, 1) := dec_at kDX0_statesInCube_0 27 rfl
theorem dX0_statesInCube_49 : decode cX0_statesInCube 49 = .ok (.ldc2_w 39, 3) := dec_at kDX0_statesInCube_0 28 rfl
theorem dX0_statesInCube_52 : decode cX0_statesInCube 52 = .ok (.lxor, 1) := dec_at kDX0_statesInCube_0 29 rfl
theorem dX0_statesInCube_53 : decode cX0_statesInCube 53 = .ok (.land, 1) := dec_at kDX0_statesInCube_0 30 rfl
theorem dX0_statesInCube_54 : decode cX0_statesInCube 54 = .ok (.lstore_n 3, 1) := dec_at kDX0_statesInCube_0 31 rfl
theorem dX0_statesInCube_55 : decode cX0_statesInCube 55 = .ok (.iinc 5 1, 3) := dec_at kDX0_statesInCube_0 32 rfl
theorem dX0_statesInCube_58 : decode cX0_statesInCube 58 = .ok (.goto (-50), 3) := dec_at kDX0_statesInCube_0 33 rfl
theorem dX0_statesInCube_61 : decode cX0_statesInCube 61 = .ok (.lload_n 3, 1) := dec_at kDX0_statesInCube_0 34 rfl
theorem dX0_statesInCube_62 : decode cX0_statesInCube 62 = .ok (.lreturn, 1) := dec_at kDX0_statesInCube_0 35 rfl
def DX0_predecessorsOfCube_0 : List (Nat × (Instr × Nat)) := [(0, (.lconst 0, 1)), (1, (.lstore_n 3, 1)), (2, (.iconst 0, 1)), (3, (.istore 5, 2)), (5, (.iload 5, 2)), (7, (.aload_n 0, 1)), (8, (.getfield 36, 3)), (11, (.if_icmp .ge 99, 3)), (14, (.iload 5, 2)), (16, (.iconst 4, 1)), (17, (.if_icmp .ge 93, 3)), (20, (.aload_n 0, 1)), (21, (.getfield 41, 3)), (24, (.lstore 6, 2)), (26, (.iconst 0, 1)), (27, (.istore 8, 2)), (29, (.iload 8, 2)), (31, (.aload_n 0, 1)), (32, (.getfield 26, 3)), (35, (.if_icmp .ge 64, 3)), (38, (.iload 8, 2)), (40, (.bipush 6, 2)), (42, (.if_icmp .ge 57, 3)), (45, (.iload_n 1, 1)), (46, (.iload 8, 2)), (48, (.ishr, 1)), (49, (.iconst 1, 1)), (50, (.iand, 1)), (51, (.ifCond .eq 42, 3)), (54, (.aload_n 0, 1)), (55, (.getfield 11, 3)), (58, (.iload 8, 2)), (60, (.iconst 4, 1)), (61, (.imul, 1)), (62, (.iload 5, 2)), (64, (.iadd, 1)), (65, (.laload, 1)), (66, (.lstore 9, 2)), (68, (.lload 6, 2)), (70, (.iload_n 2, 1)), (71, (.iload 8, 2)), (73, (.ishr, 1)), (74, (.iconst 1, 1)), (75, (.iand, 1)), (76, (.ifCond .eq 8, 3)), (79, (.lload 9, 2)), (81, (.goto 9, 3)), (84, (.lload 9, 2)), (86, (.ldc2_w 39, 3)), (89, (.lxor, 1))]
theorem kDX0_predecessorsOfCube_0 : DX0_predecessorsOfCube_0.all (fun q => decide (decode cX0_predecessorsOfCube q.1 = .ok q.2)) = true := by decide +kernel
theorem dX0_predecessorsOfCube_0 : decode cX0_predecessorsOfCube 0 = .ok (.lconst 0, 1) := dec_at kDX0_predecessorsOfCube_0 0 rfl
theorem dX0_predecessorsOfCube_1 : decode cX0_predecessorsOfCube 1 = .ok (.lstore_n 3, 1) := dec_at kDX0_predecessorsOfCube_0 1 rfl
theorem dX0_predecessorsOfCube_2 : decode cX0_predecessorsOfCube 2 = .ok (.iconst 0, 1) := dec_at kDX0_predecessorsOfCube_0 2 rfl
theorem dX0_predecessorsOfCube_3 : decode cX0_predecessorsOfCube 3 = .ok (.istore 5, 2) := dec_at kDX0_predecessorsOfCube_0 3 rfl
theorem dX0_predecessorsOfCube_5 : decode cX0_predecessorsOfCube 5 = .ok (.iload 5, 2) := dec_at kDX0_predecessorsOfCube_0 4 rfl
theorem dX0_predecessorsOfCube_7 : decode cX0_predecessorsOfCube 7 = .ok (.aload_n 0, 1) := dec_at kDX0_predecessorsOfCube_0 5 rfl
theorem dX0_predecessorsOfCube_8 : decode cX0_predecessorsOfCube 8 = .ok (.getfield 36, 3) := dec_at kDX0_predecessorsOfCube_0 6 rfl
theorem dX0_predecessorsOfCube_11 : decode cX0_predecessorsOfCube 11 = .ok (.if_icmp .ge 99, 3) := dec_at kDX0_predecessorsOfCube_0 7 rfl
theorem dX0_predecessorsOfCube_14 : decode cX0_predecessorsOfCube 14 = .ok (.iload 5, 2) := dec_at kDX0_predecessorsOfCube_0 8 rfl
theorem dX0_predecessorsOfCube_16 : decode cX0_predecessorsOfCube 16 = .ok (.iconst 4, 1) := dec_at kDX0_predecessorsOfCube_0 9 rfl
theorem dX0_predecessorsOfCube_17 : decode cX0_predecessorsOfCube 17 = .ok (.if_icmp .ge 93, 3) := dec_at kDX0_predecessorsOfCube_0 10 rfl
theorem dX0_predecessorsOfCube_20 : decode cX0_predecessorsOfCube 20 = .ok (.aload_n 0, 1) := dec_at kDX0_predecessorsOfCube_0 11 rfl
theorem dX0_predecessorsOfCube_21 : decode cX0_predecessorsOfCube 21 = .ok (.getfield 41, 3) := dec_at kDX0_predecessorsOfCube_0 12 rfl
theorem dX0_predecessorsOfCube_24 : decode cX0_predecessorsOfCube 24 = .ok (.lstore 6, 2) := dec_at kDX0_predecessorsOfCube_0 13 rfl
theorem dX0_predecessorsOfCube_26 : decode cX0_predecessorsOfCube 26 = .ok (.iconst 0, 1) := dec_at kDX0_predecessorsOfCube_0 14 rfl
theorem dX0_predecessorsOfCube_27 : decode cX0_predecessorsOfCube 27 = .ok (.istore 8, 2) := dec_at kDX0_predecessorsOfCube_0 15 rfl
theorem dX0_predecessorsOfCube_29 : decode cX0_predecessorsOfCube 29 = .ok (.iload 8, 2) := dec_at kDX0_predecessorsOfCube_0 16 rfl
theorem dX0_predecessorsOfCube_31 : decode cX0_predecessorsOfCube 31 = .ok (.aload_n 0, 1) := dec_at kDX0_predecessorsOfCube_0 17 rfl
theorem dX0_predecessorsOfCube_32 : decode cX0_predecessorsOfCube 32 = .ok (.getfield 26, 3) := dec_at kDX0_predecessorsOfCube_0 18 rfl
theorem dX0_predecessorsOfCube_35 : decode cX0_predecessorsOfCube 35 = .ok (.if_icmp .ge 64, 3) := dec_at kDX0_predecessorsOfCube_0 19 rfl
theorem dX0_predecessorsOfCube_38 : decode cX0_predecessorsOfCube 38 = .ok (.iload 8, 2) := dec_at kDX0_predecessorsOfCube_0 20 rfl
theorem dX0_predecessorsOfCube_40 : decode cX0_predecessorsOfCube 40 = .ok (.bipush 6, 2) := dec_at kDX0_predecessorsOfCube_0 21 rfl
theorem dX0_predecessorsOfCube_42 : decode cX0_predecessorsOfCube 42 = .ok (.if_icmp .ge 57, 3) := dec_at kDX0_predecessorsOfCube_0 22 rfl
theorem dX0_predecessorsOfCube_45 : decode cX0_predecessorsOfCube 45 = .ok (.iload_n 1, 1) := dec_at kDX0_predecessorsOfCube_0 23 rfl
theorem dX0_predecessorsOfCube_46 : decode cX0_predecessorsOfCube 46 = .ok (.iload 8, 2) := dec_at kDX0_predecessorsOfCube_0 24 rfl
theorem dX0_predecessorsOfCube_48 : decode cX0_predecessorsOfCube 48 = .ok (.ishr, 1) := dec_at kDX0_predecessorsOfCube_0 25 rfl
theorem dX0_predecessorsOfCube_49 : decode cX0_predecessorsOfCube 49 = .ok (.iconst 1, 1) := dec_at kDX0_predecessorsOfCube_0 26 rfl
theorem dX0_predecessorsOfCube_50 : decode cX0_predecessorsOfCube 50 = .ok (.iand, 1) := dec_at kDX0_predecessorsOfCube_0 27 rfl
theorem dX0_predecessorsOfCube_51 : decode cX0_predecessorsOfCube 51 = .ok (.ifCond .eq 42, 3) := dec_at kDX0_predecessorsOfCube_0 28 rfl
theorem dX0_predecessorsOfCube_54 : decode cX0_predecessorsOfCube 54 = .ok (.aload_n 0, 1) := dec_at kDX0_predecessorsOfCube_0 29 rfl
theorem dX0_predecessorsOfCube_55 : decode cX0_predecessorsOfCube 55 = .ok (.getfield 11, 3) := dec_at kDX0_predecessorsOfCube_0 30 rfl
theorem dX0_predecessorsOfCube_58 : decode cX0_predecessorsOfCube 58 = .ok (.iload 8, 2) := dec_at kDX0_predecessorsOfCube_0 31 rfl
theorem dX0_predecessorsOfCube_60 : decode cX0_predecessorsOfCube 60 = .ok (.iconst 4, 1) := dec_at kDX0_predecessorsOfCube_0 32 rfl
theorem dX0_predecessorsOfCube_61 : decode cX0_predecessorsOfCube 61 = .ok (.imul, 1) := dec_at kDX0_predecessorsOfCube_0 33 rfl
theorem dX0_predecessorsOfCube_62 : decode cX0_predecessorsOfCube 62 = .ok (.iload 5, 2) := dec_at kDX0_predecessorsOfCube_0 34 rfl
theorem dX0_predecessorsOfCube_64 : decode cX0_predecessorsOfCube 64 = .ok (.iadd, 1) := dec_at kDX0_predecessorsOfCube_0 35 rfl
theorem dX0_predecessorsOfCube_65 : decode cX0_predecessorsOfCube 65 = .ok (.laload, 1) := dec_at kDX0_predecessorsOfCube_0 36 rfl
theorem dX0_predecessorsOfCube_66 : decode cX0_predecessorsOfCube 66 = .ok (.lstore 9, 2) := dec_at kDX0_predecessorsOfCube_0 37 rfl
theorem dX0_predecessorsOfCube_68 : decode cX0_predecessorsOfCube 68 = .ok (.lload 6, 2) := dec_at kDX0_predecessorsOfCube_0 38 rfl
theorem dX0_predecessorsOfCube_70 : decode cX0_predecessorsOfCube 70 = .ok (.iload_n 2, 1) := dec_at kDX0_predecessorsOfCube_0 39 rfl
theorem dX0_predecessorsOfCube_71 : decode cX0_predecessorsOfCube 71 = .ok (.iload 8, 2) := dec_at kDX0_predecessorsOfCube_0 40 rfl
theorem dX0_predecessorsOfCube_73 : decode cX0_predecessorsOfCube 73 = .ok (.ishr, 1) := dec_at kDX0_predecessorsOfCube_0 41 rfl
theorem dX0_predecessorsOfCube_74 : decode cX0_predecessorsOfCube 74 = .ok (.iconst 1, 1) := dec_at kDX0_predecessorsOfCube_0 42 rfl
theorem dX0_predecessorsOfCube_75 : decode cX0_predecessorsOfCube 75 = .ok (.iand, 1) := dec_at kDX0_predecessorsOfCube_0 43 rfl
theorem dX0_predecessorsOfCube_76 : decode cX0_predecessorsOfCube 76 = .ok (.ifCond .eq 8, 3) := dec_at kDX0_predecessorsOfCube_0 44 rfl
theorem dX0_predecessorsOfCube_79 : decode cX0_predecessorsOfCube 79 = .ok (.lload 9, 2) := dec_at kDX0_predecessorsOfCube_0 45 rfl
theorem dX0_predecessorsOfCube_81 : decode cX0_predecessorsOfCube 81 = .ok (.goto 9, 3) := dec_at kDX0_predecessorsOfCube_0 46 rfl
theorem dX0_predecessorsOfCube_84 : decode cX0_predecessorsOfCube 84 = .ok (.lload 9, 2) := dec_at kDX0_predecessorsOfCube_0 47 rfl
theorem dX0_predecessorsOfCube_86 : decode cX0_predecessorsOfCube 86 = .ok (.ldc2_w 39, 3) := dec_at kDX0_predecessorsOfCube_0 48 rfl
theorem dX0_predecessorsOfCube_89 : decode cX0_predecessorsOfCube 89 = .ok (.lxor, 1) := dec_at kDX0_predecessorsOfCube_0 49 rfl
def DX0_predecessorsOfCube_50 : List (Nat × (Instr × Nat)) := [(90, (.land, 1)), (91, (.lstore 6, 2)), (93, (.iinc 8 1, 3)), (96, (.goto (-67), 3)), (99, (.lload_n 3, 1)), (100, (.lload 6, 2)), (102, (.lor, 1)), (103, (.lstore_n 3, 1)), (104, (.iinc 5 1, 3)), (107, (.goto (-102), 3)), (110, (.lload_n 3, 1)), (111, (.lreturn, 1))]
theorem kDX0_predecessorsOfCube_50 : DX0_predecessorsOfCube_50.all (fun q => decide (decode cX0_predecessorsOfCube q.1 = .ok q.2)) = true := by decide +kernel
theorem dX0_predecessorsOfCube_90 : decode cX0_predecessorsOfCube 90 = .ok (.land, 1) := dec_at kDX0_predecessorsOfCube_50 0 rfl
theorem dX0_predecessorsOfCube_91 : decode cX0_predecessorsOfCube 91 = .ok (.lstore 6, 2) := dec_at kDX0_predecessorsOfCube_50 1 rfl
theorem dX0_predecessorsOfCube_93 : decode cX0_predecessorsOfCube 93 = .ok (.iinc 8 1, 3) := dec_at kDX0_predecessorsOfCube_50 2 rfl
theorem dX0_predecessorsOfCube_96 : decode cX0_predecessorsOfCube 96 = .ok (.goto (-67), 3) := dec_at kDX0_predecessorsOfCube_50 3 rfl
theorem dX0_predecessorsOfCube_99 : decode cX0_predecessorsOfCube 99 = .ok (.lload_n 3, 1) := dec_at kDX0_predecessorsOfCube_50 4 rfl
theorem dX0_predecessorsOfCube_100 : decode cX0_predecessorsOfCube 100 = .ok (.lload 6, 2) := dec_at kDX0_predecessorsOfCube_50 5 rfl
theorem dX0_predecessorsOfCube_102 : decode cX0_predecessorsOfCube 102 = .ok (.lor, 1) := dec_at kDX0_predecessorsOfCube_50 6 rfl
theorem dX0_predecessorsOfCube_103 : decode cX0_predecessorsOfCube 103 = .ok (.lstore_n 3, 1) := dec_at kDX0_predecessorsOfCube_50 7 rfl
theorem dX0_predecessorsOfCube_104 : decode cX0_predecessorsOfCube 104 = .ok (.iinc 5 1, 3) := dec_at kDX0_predecessorsOfCube_50 8 rfl
theorem dX0_predecessorsOfCube_107 : decode cX0_predecessorsOfCube 107 = .ok (.goto (-102), 3) := dec_at kDX0_predecessorsOfCube_50 9 rfl
theorem dX0_predecessorsOfCube_110 : decode cX0_predecessorsOfCube 110 = .ok (.lload_n 3, 1) := dec_at kDX0_predecessorsOfCube_50 10 rfl
theorem dX0_predecessorsOfCube_111 : decode cX0_predecessorsOfCube 111 = .ok (.lreturn, 1) := dec_at kDX0_predecessorsOfCube_50 11 rfl
def DX1_init_0 : List (Nat × (Instr × Nat)) := [(0, (.aload_n 0, 1)), (1, (.invokespecial 3, 3)), (4, (.aload_n 0, 1)), (5, (.sipush 729, 3)), (8, (.newarray .int, 2)), (10, (.putfield 11, 3)), (13, (.aload_n 0, 1)), (14, (.sipush 729, 3)), (17, (.newarray .int, 2)), (19, (.putfield 15, 3)), (22, (.aload_n 0, 1)), (23, (.sipush 729, 3)), (26, (.newarray .int, 2)), (28, (.putfield 18, 3)), (31, (.aload_n 0, 1)), (32, (.sipush 729, 3)), (35, (.newarray .long, 2)), (37, (.putfield 21, 3)), (40, (.return_, 1))]
theorem kDX1_init_0 : DX1_init_0.all (fun q => decide (decode cX1_init q.1 = .ok q.2)) = true := by decide +kernel
theorem dX1_init_0 : decode cX1_init 0 = .ok (.aload_n 0, 1) := dec_at kDX1_init_0 0 rfl
theorem dX1_init_1 : decode cX1_init 1 = .ok (.invokespecial 3, 3) := dec_at kDX1_init_0 1 rfl
theorem dX1_init_4 : decode cX1_init 4 = .ok (.aload_n 0, 1) := dec_at kDX1_init_0 2 rfl
theorem dX1_init_5 : decode cX1_init 5 = .ok (.sipush 729, 3) := dec_at kDX1_init_0 3 rfl
theorem dX1_init_8 : decode cX1_init 8 = .ok (.newarray .int, 2) := dec_at kDX1_init_0 4 rfl
theorem dX1_init_10 : decode cX1_init 10 = .ok (.putfield 11, 3) := dec_at kDX1_init_0 5 rfl
theorem dX1_init_13 : decode cX1_init 13 = .ok (.aload_n 0, 1) := dec_at kDX1_init_0 6 rfl
theorem dX1_init_14 : decode cX1_init 14 = .ok (.sipush 729, 3) := dec_at kDX1_init_0 7 rfl
theorem dX1_init_17 : decode cX1_init 17 = .ok (.newarray .int, 2) := dec_at kDX1_init_0 8 rfl
theorem dX1_init_19 : decode cX1_init 19 = .ok (.putfield 15, 3) := dec_at kDX1_init_0 9 rfl
theorem dX1_init_22 : decode cX1_init 22 = .ok (.aload_n 0, 1) := dec_at kDX1_init_0 10 rfl
theorem dX1_init_23 : decode cX1_init 23 = .ok (.sipush 729, 3) := dec_at kDX1_init_0 11 rfl
theorem dX1_init_26 : decode cX1_init 26 = .ok (.newarray .int, 2) := dec_at kDX1_init_0 12 rfl
theorem dX1_init_28 : decode cX1_init 28 = .ok (.putfield 18, 3) := dec_at kDX1_init_0 13 rfl
theorem dX1_init_31 : decode cX1_init 31 = .ok (.aload_n 0, 1) := dec_at kDX1_init_0 14 rfl
theorem dX1_init_32 : decode cX1_init 32 = .ok (.sipush 729, 3) := dec_at kDX1_init_0 15 rfl
theorem dX1_init_35 : decode cX1_init 35 = .ok (.newarray .long, 2) := dec_at kDX1_init_0 16 rfl
theorem dX1_init_37 : decode cX1_init 37 = .ok (.putfield 21, 3) := dec_at kDX1_init_0 17 rfl
theorem dX1_init_40 : decode cX1_init 40 = .ok (.return_, 1) := dec_at kDX1_init_0 18 rfl
def DX1_put_0 : List (Nat × (Instr × Nat)) := [(0, (.aload_n 0, 1)), (1, (.getfield 25, 3)), (4, (.ifCond .lt 64, 3)), (7, (.aload_n 0, 1)), (8, (.getfield 25, 3)), (11, (.sipush 729, 3)), (14, (.if_icmp .ge 54, 3)), (17, (.aload_n 0, 1)), (18, (.getfield 11, 3)), (21, (.aload_n 0, 1)), (22, (.getfield 25, 3)), (25, (.iload_n 1, 1)), (26, (.iastore, 1)), (27, (.aload_n 0, 1)), (28, (.getfield 15, 3)), (31, (.aload_n 0, 1)), (32, (.getfield 25, 3)), (35, (.iload_n 2, 1)), (36, (.iastore, 1)), (37, (.aload_n 0, 1)), (38, (.getfield 18, 3)), (41, (.aload_n 0, 1)), (42, (.getfield 25, 3)), (45, (.iload_n 3, 1)), (46, (.iastore, 1)), (47, (.aload_n 0, 1)), (48, (.getfield 21, 3)), (51, (.aload_n 0, 1)), (52, (.getfield 25, 3)), (55, (.lload 4, 2)), (57, (.lastore, 1)), (58, (.aload_n 0, 1)), (59, (.dup, 1)), (60, (.getfield 25, 3)), (63, (.iconst 1, 1)), (64, (.iadd, 1)), (65, (.putfield 25, 3)), (68, (.return_, 1))]
theorem kDX1_put_0 : DX1_put_0.all (fun q => decide (decode cX1_put q.1 = .ok q.2)) = true := by decide +kernel
theorem dX1_put_0 : decode cX1_put 0 = .ok (.aload_n 0, 1) := dec_at kDX1_put_0 0 rfl
theorem dX1_put_1 : decode cX1_put 1 = .ok (.getfield 25, 3) := dec_at kDX1_put_0 1 rfl
theorem dX1_put_4 : decode cX1_put 4 = .ok (.ifCond .lt 64, 3) := dec_at kDX1_put_0 2 rfl
theorem dX1_put_7 : decode cX1_put 7 = .ok (.aload_n 0, 1) := dec_at kDX1_put_0 3 rfl
theorem dX1_put_8 : decode cX1_put 8 = .ok (.getfield 25, 3) := dec_at kDX1_put_0 4 rfl
theorem dX1_put_11 : decode cX1_put 11 = .ok (.sipush 729, 3) := dec_at kDX1_put_0 5 rfl
theorem dX1_put_14 : decode cX1_put 14 = .ok (.if_icmp .ge 54, 3) := dec_at kDX1_put_0 6 rfl
theorem dX1_put_17 : decode cX1_put 17 = .ok (.aload_n 0, 1) := dec_at kDX1_put_0 7 rfl
theorem dX1_put_18 : decode cX1_put 18 = .ok (.getfield 11, 3) := dec_at kDX1_put_0 8 rfl
theorem dX1_put_21 : decode cX1_put 21 = .ok (.aload_n 0, 1) := dec_at kDX1_put_0 9 rfl
theorem dX1_put_22 : decode cX1_put 22 = .ok (.getfield 25, 3) := dec_at kDX1_put_0 10 rfl
theorem dX1_put_25 : decode cX1_put 25 = .ok (.iload_n 1, 1) := dec_at kDX1_put_0 11 rfl
theorem dX1_put_26 : decode cX1_put 26 = .ok (.iastore, 1) := dec_at kDX1_put_0 12 rfl
theorem dX1_put_27 : decode cX1_put 27 = .ok (.aload_n 0, 1) := dec_at kDX1_put_0 13 rfl
theorem dX1_put_28 : decode cX1_put 28 = .ok (.getfield 15, 3) := dec_at kDX1_put_0 14 rfl
theorem dX1_put_31 : decode cX1_put 31 = .ok (.aload_n 0, 1) := dec_at kDX1_put_0 15 rfl
theorem dX1_put_32 : decode cX1_put 32 = .ok (.getfield 25, 3) := dec_at kDX1_put_0 16 rfl
theorem dX1_put_35 : decode cX1_put 35 = .ok (.iload_n 2, 1) := dec_at kDX1_put_0 17 rfl
theorem dX1_put_36 : decode cX1_put 36 = .ok (.iastore, 1) := dec_at kDX1_put_0 18 rfl
theorem dX1_put_37 : decode cX1_put 37 = .ok (.aload_n 0, 1) := dec_at kDX1_put_0 19 rfl
theorem dX1_put_38 : decode cX1_put 38 = .ok (.getfield 18, 3) := dec_at kDX1_put_0 20 rfl
theorem dX1_put_41 : decode cX1_put 41 = .ok (.aload_n 0, 1) := dec_at kDX1_put_0 21 rfl
theorem dX1_put_42 : decode cX1_put 42 = .ok (.getfield 25, 3) := dec_at kDX1_put_0 22 rfl
theorem dX1_put_45 : decode cX1_put 45 = .ok (.iload_n 3, 1) := dec_at kDX1_put_0 23 rfl
theorem dX1_put_46 : decode cX1_put 46 = .ok (.iastore, 1) := dec_at kDX1_put_0 24 rfl
theorem dX1_put_47 : decode cX1_put 47 = .ok (.aload_n 0, 1) := dec_at kDX1_put_0 25 rfl
theorem dX1_put_48 : decode cX1_put 48 = .ok (.getfield 21, 3) := dec_at kDX1_put_0 26 rfl
theorem dX1_put_51 : decode cX1_put 51 = .ok (.aload_n 0, 1) := dec_at kDX1_put_0 27 rfl
theorem dX1_put_52 : decode cX1_put 52 = .ok (.getfield 25, 3) := dec_at kDX1_put_0 28 rfl
theorem dX1_put_55 : decode cX1_put 55 = .ok (.lload 4, 2) := dec_at kDX1_put_0 29 rfl
theorem dX1_put_57 : decode cX1_put 57 = .ok (.lastore, 1) := dec_at kDX1_put_0 30 rfl
theorem dX1_put_58 : decode cX1_put 58 = .ok (.aload_n 0, 1) := dec_at kDX1_put_0 31 rfl
theorem dX1_put_59 : decode cX1_put 59 = .ok (.dup, 1) := dec_at kDX1_put_0 32 rfl
theorem dX1_put_60 : decode cX1_put 60 = .ok (.getfield 25, 3) := dec_at kDX1_put_0 33 rfl
theorem dX1_put_63 : decode cX1_put 63 = .ok (.iconst 1, 1) := dec_at kDX1_put_0 34 rfl
theorem dX1_put_64 : decode cX1_put 64 = .ok (.iadd, 1) := dec_at kDX1_put_0 35 rfl
theorem dX1_put_65 : decode cX1_put 65 = .ok (.putfield 25, 3) := dec_at kDX1_put_0 36 rfl
theorem dX1_put_68 : decode cX1_put 68 = .ok (.return_, 1) := dec_at kDX1_put_0 37 rfl
def DX1_removeCovered_0 : List (Nat × (Instr × Nat)) := [(0, (.iconst 0, 1)), (1, (.istore 4, 2)), (3, (.iconst 0, 1)), (4, (.istore 5, 2)), (6, (.iload 5, 2)), (8, (.aload_n 0, 1)), (9, (.getfield 25, 3)), (12, (.if_icmp .ge 124, 3)), (15, (.iload 5, 2)), (17, (.sipush 729, 3)), (20, (.if_icmp .ge 116, 3)), (23, (.aload_n 0, 1)), (24, (.getfield 18, 3)), (27, (.iload 5, 2)), (29, (.iaload, 1)), (30, (.iload_n 3, 1)), (31, (.if_icmp .gt 25, 3)), (34, (.aload_n 0, 1)), (35, (.getfield 21, 3)), (38, (.iload 5, 2)), (40, (.laload, 1)), (41, (.lload_n 1, 1)), (42, (.ldc2_w 29, 3)), (45, (.lxor, 1)), (46, (.land, 1)), (47, (.lconst 0, 1)), (48, (.lcmp, 1)), (49, (.ifCond .ne 7, 3)), (52, (.iconst 1, 1)), (53, (.goto 4, 3)), (56, (.iconst 0, 1)), (57, (.istore 6, 2)), (59, (.iload 6, 2)), (61, (.ifCond .ne 69, 3)), (64, (.iload 4, 2)), (66, (.iload 5, 2)), (68, (.if_icmp .gt 62, 3)), (71, (.aload_n 0, 1)), (72, (.getfield 11, 3)), (75, (.iload 4, 2)), (77, (.aload_n 0, 1)), (78, (.getfield 11, 3)), (81, (.iload 5, 2)), (83, (.iaload, 1)), (84, (.iastore, 1)), (85, (.aload_n 0, 1)), (86, (.getfield 15, 3)), (89, (.iload 4, 2)), (91, (.aload_n 0, 1)), (92, (.getfield 15, 3))]
theorem kDX1_removeCovered_0 : DX1_removeCovered_0.all (fun q => decide (decode cX1_removeCovered q.1 = .ok q.2)) = true := by decide +kernel
theorem dX1_removeCovered_0 : decode cX1_removeCovered 0 = .ok (.iconst 0, 1) := dec_at kDX1_removeCovered_0 0 rfl
theorem dX1_removeCovered_1 : decode cX1_removeCovered 1 = .ok (.istore 4, 2) := dec_at kDX1_removeCovered_0 1 rfl
theorem dX1_removeCovered_3 : decode cX1_removeCovered 3 = .ok (.iconst 0, 1) := dec_at kDX1_removeCovered_0 2 rfl
theorem dX1_removeCovered_4 : decode cX1_removeCovered 4 = .ok (.istore 5, 2) := dec_at kDX1_removeCovered_0 3 rfl
theorem dX1_removeCovered_6 : decode cX1_removeCovered 6 = .ok (.iload 5, 2) := dec_at kDX1_removeCovered_0 4 rfl
theorem dX1_removeCovered_8 : decode cX1_removeCovered 8 = .ok (.aload_n 0, 1) := dec_at kDX1_removeCovered_0 5 rfl
theorem dX1_removeCovered_9 : decode cX1_removeCovered 9 = .ok (.getfield 25, 3) := dec_at kDX1_removeCovered_0 6 rfl
theorem dX1_removeCovered_12 : decode cX1_removeCovered 12 = .ok (.if_icmp .ge 124, 3) := dec_at kDX1_removeCovered_0 7 rfl
theorem dX1_removeCovered_15 : decode cX1_removeCovered 15 = .ok (.iload 5, 2) := dec_at kDX1_removeCovered_0 8 rfl
theorem dX1_removeCovered_17 : decode cX1_removeCovered 17 = .ok (.sipush 729, 3) := dec_at kDX1_removeCovered_0 9 rfl
theorem dX1_removeCovered_20 : decode cX1_removeCovered 20 = .ok (.if_icmp .ge 116, 3) := dec_at kDX1_removeCovered_0 10 rfl
theorem dX1_removeCovered_23 : decode cX1_removeCovered 23 = .ok (.aload_n 0, 1) := dec_at kDX1_removeCovered_0 11 rfl
theorem dX1_removeCovered_24 : decode cX1_removeCovered 24 = .ok (.getfield 18, 3) := dec_at kDX1_removeCovered_0 12 rfl
theorem dX1_removeCovered_27 : decode cX1_removeCovered 27 = .ok (.iload 5, 2) := dec_at kDX1_removeCovered_0 13 rfl
theorem dX1_removeCovered_29 : decode cX1_removeCovered 29 = .ok (.iaload, 1) := dec_at kDX1_removeCovered_0 14 rfl
theorem dX1_removeCovered_30 : decode cX1_removeCovered 30 = .ok (.iload_n 3, 1) := dec_at kDX1_removeCovered_0 15 rfl
theorem dX1_removeCovered_31 : decode cX1_removeCovered 31 = .ok (.if_icmp .gt 25, 3) := dec_at kDX1_removeCovered_0 16 rfl
theorem dX1_removeCovered_34 : decode cX1_removeCovered 34 = .ok (.aload_n 0, 1) := dec_at kDX1_removeCovered_0 17 rfl
theorem dX1_removeCovered_35 : decode cX1_removeCovered 35 = .ok (.getfield 21, 3) := dec_at kDX1_removeCovered_0 18 rfl
theorem dX1_removeCovered_38 : decode cX1_removeCovered 38 = .ok (.iload 5, 2) := dec_at kDX1_removeCovered_0 19 rfl
theorem dX1_removeCovered_40 : decode cX1_removeCovered 40 = .ok (.laload, 1) := dec_at kDX1_removeCovered_0 20 rfl
theorem dX1_removeCovered_41 : decode cX1_removeCovered 41 = .ok (.lload_n 1, 1) := dec_at kDX1_removeCovered_0 21 rfl
theorem dX1_removeCovered_42 : decode cX1_removeCovered 42 = .ok (.ldc2_w 29, 3) := dec_at kDX1_removeCovered_0 22 rfl
theorem dX1_removeCovered_45 : decode cX1_removeCovered 45 = .ok (.lxor, 1) := dec_at kDX1_removeCovered_0 23 rfl
theorem dX1_removeCovered_46 : decode cX1_removeCovered 46 = .ok (.land, 1) := dec_at kDX1_removeCovered_0 24 rfl
theorem dX1_removeCovered_47 : decode cX1_removeCovered 47 = .ok (.lconst 0, 1) := dec_at kDX1_removeCovered_0 25 rfl
theorem dX1_removeCovered_48 : decode cX1_removeCovered 48 = .ok (.lcmp, 1) := dec_at kDX1_removeCovered_0 26 rfl
theorem dX1_removeCovered_49 : decode cX1_removeCovered 49 = .ok (.ifCond .ne 7, 3) := dec_at kDX1_removeCovered_0 27 rfl
theorem dX1_removeCovered_52 : decode cX1_removeCovered 52 = .ok (.iconst 1, 1) := dec_at kDX1_removeCovered_0 28 rfl
theorem dX1_removeCovered_53 : decode cX1_removeCovered 53 = .ok (.goto 4, 3) := dec_at kDX1_removeCovered_0 29 rfl
theorem dX1_removeCovered_56 : decode cX1_removeCovered 56 = .ok (.iconst 0, 1) := dec_at kDX1_removeCovered_0 30 rfl
theorem dX1_removeCovered_57 : decode cX1_removeCovered 57 = .ok (.istore 6, 2) := dec_at kDX1_removeCovered_0 31 rfl
theorem dX1_removeCovered_59 : decode cX1_removeCovered 59 = .ok (.iload 6, 2) := dec_at kDX1_removeCovered_0 32 rfl
theorem dX1_removeCovered_61 : decode cX1_removeCovered 61 = .ok (.ifCond .ne 69, 3) := dec_at kDX1_removeCovered_0 33 rfl
theorem dX1_removeCovered_64 : decode cX1_removeCovered 64 = .ok (.iload 4, 2) := dec_at kDX1_removeCovered_0 34 rfl
theorem dX1_removeCovered_66 : decode cX1_removeCovered 66 = .ok (.iload 5, 2) := dec_at kDX1_removeCovered_0 35 rfl
theorem dX1_removeCovered_68 : decode cX1_removeCovered 68 = .ok (.if_icmp .gt 62, 3) := dec_at kDX1_removeCovered_0 36 rfl
theorem dX1_removeCovered_71 : decode cX1_removeCovered 71 = .ok (.aload_n 0, 1) := dec_at kDX1_removeCovered_0 37 rfl
theorem dX1_removeCovered_72 : decode cX1_removeCovered 72 = .ok (.getfield 11, 3) := dec_at kDX1_removeCovered_0 38 rfl
theorem dX1_removeCovered_75 : decode cX1_removeCovered 75 = .ok (.iload 4, 2) := dec_at kDX1_removeCovered_0 39 rfl
theorem dX1_removeCovered_77 : decode cX1_removeCovered 77 = .ok (.aload_n 0, 1) := dec_at kDX1_removeCovered_0 40 rfl
theorem dX1_removeCovered_78 : decode cX1_removeCovered 78 = .ok (.getfield 11, 3) := dec_at kDX1_removeCovered_0 41 rfl
theorem dX1_removeCovered_81 : decode cX1_removeCovered 81 = .ok (.iload 5, 2) := dec_at kDX1_removeCovered_0 42 rfl
theorem dX1_removeCovered_83 : decode cX1_removeCovered 83 = .ok (.iaload, 1) := dec_at kDX1_removeCovered_0 43 rfl
theorem dX1_removeCovered_84 : decode cX1_removeCovered 84 = .ok (.iastore, 1) := dec_at kDX1_removeCovered_0 44 rfl
theorem dX1_removeCovered_85 : decode cX1_removeCovered 85 = .ok (.aload_n 0, 1) := dec_at kDX1_removeCovered_0 45 rfl
theorem dX1_removeCovered_86 : decode cX1_removeCovered 86 = .ok (.getfield 15, 3) := dec_at kDX1_removeCovered_0 46 rfl
theorem dX1_removeCovered_89 : decode cX1_removeCovered 89 = .ok (.iload 4, 2) := dec_at kDX1_removeCovered_0 47 rfl
theorem dX1_removeCovered_91 : decode cX1_removeCovered 91 = .ok (.aload_n 0, 1) := dec_at kDX1_removeCovered_0 48 rfl
theorem dX1_removeCovered_92 : decode cX1_removeCovered 92 = .ok (.getfield 15, 3) := dec_at kDX1_removeCovered_0 49 rfl
def DX1_removeCovered_50 : List (Nat × (Instr × Nat)) := [(95, (.iload 5, 2)), (97, (.iaload, 1)), (98, (.iastore, 1)), (99, (.aload_n 0, 1)), (100, (.getfield 18, 3)), (103, (.iload 4, 2)), (105, (.aload_n 0, 1)), (106, (.getfield 18, 3)), (109, (.iload 5, 2)), (111, (.iaload, 1)), (112, (.iastore, 1)), (113, (.aload_n 0, 1)), (114, (.getfield 21, 3)), (117, (.iload 4, 2)), (119, (.aload_n 0, 1)), (120, (.getfield 21, 3)), (123, (.iload 5, 2)), (125, (.laload, 1)), (126, (.lastore, 1)), (127, (.iinc 4 1, 3)), (130, (.iinc 5 1, 3)), (133, (.goto (-127), 3)), (136, (.aload_n 0, 1)), (137, (.iload 4, 2)), (139, (.putfield 25, 3)), (142, (.return_, 1))]
theorem kDX1_removeCovered_50 : DX1_removeCovered_50.all (fun q => decide (decode cX1_removeCovered q.1 = .ok q.2)) = true := by decide +kernel
theorem dX1_removeCovered_95 : decode cX1_removeCovered 95 = .ok (.iload 5, 2) := dec_at kDX1_removeCovered_50 0 rfl
theorem dX1_removeCovered_97 : decode cX1_removeCovered 97 = .ok (.iaload, 1) := dec_at kDX1_removeCovered_50 1 rfl
theorem dX1_removeCovered_98 : decode cX1_removeCovered 98 = .ok (.iastore, 1) := dec_at kDX1_removeCovered_50 2 rfl
theorem dX1_removeCovered_99 : decode cX1_removeCovered 99 = .ok (.aload_n 0, 1) := dec_at kDX1_removeCovered_50 3 rfl
theorem dX1_removeCovered_100 : decode cX1_removeCovered 100 = .ok (.getfield 18, 3) := dec_at kDX1_removeCovered_50 4 rfl
theorem dX1_removeCovered_103 : decode cX1_removeCovered 103 = .ok (.iload 4, 2) := dec_at kDX1_removeCovered_50 5 rfl
theorem dX1_removeCovered_105 : decode cX1_removeCovered 105 = .ok (.aload_n 0, 1) := dec_at kDX1_removeCovered_50 6 rfl
theorem dX1_removeCovered_106 : decode cX1_removeCovered 106 = .ok (.getfield 18, 3) := dec_at kDX1_removeCovered_50 7 rfl
theorem dX1_removeCovered_109 : decode cX1_removeCovered 109 = .ok (.iload 5, 2) := dec_at kDX1_removeCovered_50 8 rfl
theorem dX1_removeCovered_111 : decode cX1_removeCovered 111 = .ok (.iaload, 1) := dec_at kDX1_removeCovered_50 9 rfl
theorem dX1_removeCovered_112 : decode cX1_removeCovered 112 = .ok (.iastore, 1) := dec_at kDX1_removeCovered_50 10 rfl
theorem dX1_removeCovered_113 : decode cX1_removeCovered 113 = .ok (.aload_n 0, 1) := dec_at kDX1_removeCovered_50 11 rfl
theorem dX1_removeCovered_114 : decode cX1_removeCovered 114 = .ok (.getfield 21, 3) := dec_at kDX1_removeCovered_50 12 rfl
theorem dX1_removeCovered_117 : decode cX1_removeCovered 117 = .ok (.iload 4, 2) := dec_at kDX1_removeCovered_50 13 rfl
theorem dX1_removeCovered_119 : decode cX1_removeCovered 119 = .ok (.aload_n 0, 1) := dec_at kDX1_removeCovered_50 14 rfl
theorem dX1_removeCovered_120 : decode cX1_removeCovered 120 = .ok (.getfield 21, 3) := dec_at kDX1_removeCovered_50 15 rfl
theorem dX1_removeCovered_123 : decode cX1_removeCovered 123 = .ok (.iload 5, 2) := dec_at kDX1_removeCovered_50 16 rfl
theorem dX1_removeCovered_125 : decode cX1_removeCovered 125 = .ok (.laload, 1) := dec_at kDX1_removeCovered_50 17 rfl
theorem dX1_removeCovered_126 : decode cX1_removeCovered 126 = .ok (.lastore, 1) := dec_at kDX1_removeCovered_50 18 rfl
theorem dX1_removeCovered_127 : decode cX1_removeCovered 127 = .ok (.iinc 4 1, 3) := dec_at kDX1_removeCovered_50 19 rfl
theorem dX1_removeCovered_130 : decode cX1_removeCovered 130 = .ok (.iinc 5 1, 3) := dec_at kDX1_removeCovered_50 20 rfl
theorem dX1_removeCovered_133 : decode cX1_removeCovered 133 = .ok (.goto (-127), 3) := dec_at kDX1_removeCovered_50 21 rfl
theorem dX1_removeCovered_136 : decode cX1_removeCovered 136 = .ok (.aload_n 0, 1) := dec_at kDX1_removeCovered_50 22 rfl
theorem dX1_removeCovered_137 : decode cX1_removeCovered 137 = .ok (.iload 4, 2) := dec_at kDX1_removeCovered_50 23 rfl
theorem dX1_removeCovered_139 : decode cX1_removeCovered 139 = .ok (.putfield 25, 3) := dec_at kDX1_removeCovered_50 24 rfl
theorem dX1_removeCovered_142 : decode cX1_removeCovered 142 = .ok (.return_, 1) := dec_at kDX1_removeCovered_50 25 rfl
def DX1_levelAt_0 : List (Nat × (Instr × Nat)) := [(0, (.iload_n 1, 1)), (1, (.ifCond .lt 19, 3)), (4, (.iload_n 1, 1)), (5, (.sipush 729, 3)), (8, (.if_icmp .ge 12, 3)), (11, (.aload_n 0, 1)), (12, (.getfield 18, 3)), (15, (.iload_n 1, 1)), (16, (.iaload, 1)), (17, (.goto 4, 3)), (20, (.iconst 0, 1)), (21, (.ireturn, 1))]
theorem kDX1_levelAt_0 : DX1_levelAt_0.all (fun q => decide (decode cX1_levelAt q.1 = .ok q.2)) = true := by decide +kernel
theorem dX1_levelAt_0 : decode cX1_levelAt 0 = .ok (.iload_n 1, 1) := dec_at kDX1_levelAt_0 0 rfl
theorem dX1_levelAt_1 : decode cX1_levelAt 1 = .ok (.ifCond .lt 19, 3) := dec_at kDX1_levelAt_0 1 rfl
theorem dX1_levelAt_4 : decode cX1_levelAt 4 = .ok (.iload_n 1, 1) := dec_at kDX1_levelAt_0 2 rfl
theorem dX1_levelAt_5 : decode cX1_levelAt 5 = .ok (.sipush 729, 3) := dec_at kDX1_levelAt_0 3 rfl
theorem dX1_levelAt_8 : decode cX1_levelAt 8 = .ok (.if_icmp .ge 12, 3) := dec_at kDX1_levelAt_0 4 rfl
theorem dX1_levelAt_11 : decode cX1_levelAt 11 = .ok (.aload_n 0, 1) := dec_at kDX1_levelAt_0 5 rfl
theorem dX1_levelAt_12 : decode cX1_levelAt 12 = .ok (.getfield 18, 3) := dec_at kDX1_levelAt_0 6 rfl
theorem dX1_levelAt_15 : decode cX1_levelAt 15 = .ok (.iload_n 1, 1) := dec_at kDX1_levelAt_0 7 rfl
theorem dX1_levelAt_16 : decode cX1_levelAt 16 = .ok (.iaload, 1) := dec_at kDX1_levelAt_0 8 rfl
theorem dX1_levelAt_17 : decode cX1_levelAt 17 = .ok (.goto 4, 3) := dec_at kDX1_levelAt_0 9 rfl
theorem dX1_levelAt_20 : decode cX1_levelAt 20 = .ok (.iconst 0, 1) := dec_at kDX1_levelAt_0 10 rfl
theorem dX1_levelAt_21 : decode cX1_levelAt 21 = .ok (.ireturn, 1) := dec_at kDX1_levelAt_0 11 rfl
def DX1_number_0 : List (Nat × (Instr × Nat)) := [(0, (.iload_n 1, 1)), (1, (.ifCond .lt 10, 3)), (4, (.iload_n 1, 1)), (5, (.sipush 729, 3)), (8, (.if_icmp .lt 5, 3)), (11, (.iconst (-1), 1)), (12, (.ireturn, 1)), (13, (.iload_n 2, 1)), (14, (.ifCond .ne 10, 3)), (17, (.aload_n 0, 1)), (18, (.getfield 11, 3)), (21, (.iload_n 1, 1)), (22, (.iaload, 1)), (23, (.ireturn, 1)), (24, (.iload_n 2, 1)), (25, (.iconst 1, 1)), (26, (.if_icmp .ne 12, 3)), (29, (.aload_n 0, 1)), (30, (.getfield 15, 3)), (33, (.iload_n 1, 1)), (34, (.iaload, 1)), (35, (.goto 9, 3)), (38, (.aload_n 0, 1)), (39, (.getfield 18, 3)), (42, (.iload_n 1, 1)), (43, (.iaload, 1)), (44, (.ireturn, 1))]
theorem kDX1_number_0 : DX1_number_0.all (fun q => decide (decode cX1_number q.1 = .ok q.2)) = true := by decide +kernel
theorem dX1_number_0 : decode cX1_number 0 = .ok (.iload_n 1, 1) := dec_at kDX1_number_0 0 rfl
theorem dX1_number_1 : decode cX1_number 1 = .ok (.ifCond .lt 10, 3) := dec_at kDX1_number_0 1 rfl
theorem dX1_number_4 : decode cX1_number 4 = .ok (.iload_n 1, 1) := dec_at kDX1_number_0 2 rfl
theorem dX1_number_5 : decode cX1_number 5 = .ok (.sipush 729, 3) := dec_at kDX1_number_0 3 rfl
theorem dX1_number_8 : decode cX1_number 8 = .ok (.if_icmp .lt 5, 3) := dec_at kDX1_number_0 4 rfl
theorem dX1_number_11 : decode cX1_number 11 = .ok (.iconst (-1), 1) := dec_at kDX1_number_0 5 rfl
theorem dX1_number_12 : decode cX1_number 12 = .ok (.ireturn, 1) := dec_at kDX1_number_0 6 rfl
theorem dX1_number_13 : decode cX1_number 13 = .ok (.iload_n 2, 1) := dec_at kDX1_number_0 7 rfl
theorem dX1_number_14 : decode cX1_number 14 = .ok (.ifCond .ne 10, 3) := dec_at kDX1_number_0 8 rfl
theorem dX1_number_17 : decode cX1_number 17 = .ok (.aload_n 0, 1) := dec_at kDX1_number_0 9 rfl
theorem dX1_number_18 : decode cX1_number 18 = .ok (.getfield 11, 3) := dec_at kDX1_number_0 10 rfl
theorem dX1_number_21 : decode cX1_number 21 = .ok (.iload_n 1, 1) := dec_at kDX1_number_0 11 rfl
theorem dX1_number_22 : decode cX1_number 22 = .ok (.iaload, 1) := dec_at kDX1_number_0 12 rfl
theorem dX1_number_23 : decode cX1_number 23 = .ok (.ireturn, 1) := dec_at kDX1_number_0 13 rfl
theorem dX1_number_24 : decode cX1_number 24 = .ok (.iload_n 2, 1) := dec_at kDX1_number_0 14 rfl
theorem dX1_number_25 : decode cX1_number 25 = .ok (.iconst 1, 1) := dec_at kDX1_number_0 15 rfl
theorem dX1_number_26 : decode cX1_number 26 = .ok (.if_icmp .ne 12, 3) := dec_at kDX1_number_0 16 rfl
theorem dX1_number_29 : decode cX1_number 29 = .ok (.aload_n 0, 1) := dec_at kDX1_number_0 17 rfl
theorem dX1_number_30 : decode cX1_number 30 = .ok (.getfield 15, 3) := dec_at kDX1_number_0 18 rfl
theorem dX1_number_33 : decode cX1_number 33 = .ok (.iload_n 1, 1) := dec_at kDX1_number_0 19 rfl
theorem dX1_number_34 : decode cX1_number 34 = .ok (.iaload, 1) := dec_at kDX1_number_0 20 rfl
theorem dX1_number_35 : decode cX1_number 35 = .ok (.goto 9, 3) := dec_at kDX1_number_0 21 rfl
theorem dX1_number_38 : decode cX1_number 38 = .ok (.aload_n 0, 1) := dec_at kDX1_number_0 22 rfl
theorem dX1_number_39 : decode cX1_number 39 = .ok (.getfield 18, 3) := dec_at kDX1_number_0 23 rfl
theorem dX1_number_42 : decode cX1_number 42 = .ok (.iload_n 1, 1) := dec_at kDX1_number_0 24 rfl
theorem dX1_number_43 : decode cX1_number 43 = .ok (.iaload, 1) := dec_at kDX1_number_0 25 rfl
theorem dX1_number_44 : decode cX1_number 44 = .ok (.ireturn, 1) := dec_at kDX1_number_0 26 rfl
def DX1_hasLevel_0 : List (Nat × (Instr × Nat)) := [(0, (.iconst 0, 1)), (1, (.istore_n 2, 1)), (2, (.iload_n 2, 1)), (3, (.aload_n 0, 1)), (4, (.getfield 25, 3)), (7, (.if_icmp .ge 28, 3)), (10, (.iload_n 2, 1)), (11, (.sipush 729, 3)), (14, (.if_icmp .ge 21, 3)), (17, (.aload_n 0, 1)), (18, (.getfield 18, 3)), (21, (.iload_n 2, 1)), (22, (.iaload, 1)), (23, (.iload_n 1, 1)), (24, (.if_icmp .ne 5, 3)), (27, (.iconst 1, 1)), (28, (.ireturn, 1)), (29, (.iinc 2 1, 3)), (32, (.goto (-30), 3)), (35, (.iconst 0, 1)), (36, (.ireturn, 1))]
theorem kDX1_hasLevel_0 : DX1_hasLevel_0.all (fun q => decide (decode cX1_hasLevel q.1 = .ok q.2)) = true := by decide +kernel
theorem dX1_hasLevel_0 : decode cX1_hasLevel 0 = .ok (.iconst 0, 1) := dec_at kDX1_hasLevel_0 0 rfl
theorem dX1_hasLevel_1 : decode cX1_hasLevel 1 = .ok (.istore_n 2, 1) := dec_at kDX1_hasLevel_0 1 rfl
theorem dX1_hasLevel_2 : decode cX1_hasLevel 2 = .ok (.iload_n 2, 1) := dec_at kDX1_hasLevel_0 2 rfl
theorem dX1_hasLevel_3 : decode cX1_hasLevel 3 = .ok (.aload_n 0, 1) := dec_at kDX1_hasLevel_0 3 rfl
theorem dX1_hasLevel_4 : decode cX1_hasLevel 4 = .ok (.getfield 25, 3) := dec_at kDX1_hasLevel_0 4 rfl
theorem dX1_hasLevel_7 : decode cX1_hasLevel 7 = .ok (.if_icmp .ge 28, 3) := dec_at kDX1_hasLevel_0 5 rfl
theorem dX1_hasLevel_10 : decode cX1_hasLevel 10 = .ok (.iload_n 2, 1) := dec_at kDX1_hasLevel_0 6 rfl
theorem dX1_hasLevel_11 : decode cX1_hasLevel 11 = .ok (.sipush 729, 3) := dec_at kDX1_hasLevel_0 7 rfl
theorem dX1_hasLevel_14 : decode cX1_hasLevel 14 = .ok (.if_icmp .ge 21, 3) := dec_at kDX1_hasLevel_0 8 rfl
theorem dX1_hasLevel_17 : decode cX1_hasLevel 17 = .ok (.aload_n 0, 1) := dec_at kDX1_hasLevel_0 9 rfl
theorem dX1_hasLevel_18 : decode cX1_hasLevel 18 = .ok (.getfield 18, 3) := dec_at kDX1_hasLevel_0 10 rfl
theorem dX1_hasLevel_21 : decode cX1_hasLevel 21 = .ok (.iload_n 2, 1) := dec_at kDX1_hasLevel_0 11 rfl
theorem dX1_hasLevel_22 : decode cX1_hasLevel 22 = .ok (.iaload, 1) := dec_at kDX1_hasLevel_0 12 rfl
theorem dX1_hasLevel_23 : decode cX1_hasLevel 23 = .ok (.iload_n 1, 1) := dec_at kDX1_hasLevel_0 13 rfl
theorem dX1_hasLevel_24 : decode cX1_hasLevel 24 = .ok (.if_icmp .ne 5, 3) := dec_at kDX1_hasLevel_0 14 rfl
theorem dX1_hasLevel_27 : decode cX1_hasLevel 27 = .ok (.iconst 1, 1) := dec_at kDX1_hasLevel_0 15 rfl
theorem dX1_hasLevel_28 : decode cX1_hasLevel 28 = .ok (.ireturn, 1) := dec_at kDX1_hasLevel_0 16 rfl
theorem dX1_hasLevel_29 : decode cX1_hasLevel 29 = .ok (.iinc 2 1, 3) := dec_at kDX1_hasLevel_0 17 rfl
theorem dX1_hasLevel_32 : decode cX1_hasLevel 32 = .ok (.goto (-30), 3) := dec_at kDX1_hasLevel_0 18 rfl
theorem dX1_hasLevel_35 : decode cX1_hasLevel 35 = .ok (.iconst 0, 1) := dec_at kDX1_hasLevel_0 19 rfl
theorem dX1_hasLevel_36 : decode cX1_hasLevel 36 = .ok (.ireturn, 1) := dec_at kDX1_hasLevel_0 20 rfl
def DX1_countAbove_0 : List (Nat × (Instr × Nat)) := [(0, (.iconst 0, 1)), (1, (.istore_n 2, 1)), (2, (.iconst 0, 1)), (3, (.istore_n 3, 1)), (4, (.iload_n 3, 1)), (5, (.aload_n 0, 1)), (6, (.getfield 25, 3)), (9, (.if_icmp .ge 29, 3)), (12, (.iload_n 3, 1)), (13, (.sipush 729, 3)), (16, (.if_icmp .ge 22, 3)), (19, (.aload_n 0, 1)), (20, (.getfield 18, 3)), (23, (.iload_n 3, 1)), (24, (.iaload, 1)), (25, (.iload_n 1, 1)), (26, (.if_icmp .le 6, 3)), (29, (.iinc 2 1, 3)), (32, (.iinc 3 1, 3)), (35, (.goto (-31), 3)), (38, (.iload_n 2, 1)), (39, (.ireturn, 1))]
theorem kDX1_countAbove_0 : DX1_countAbove_0.all (fun q => decide (decode cX1_countAbove q.1 = .ok q.2)) = true := by decide +kernel
theorem dX1_countAbove_0 : decode cX1_countAbove 0 = .ok (.iconst 0, 1) := dec_at kDX1_countAbove_0 0 rfl
theorem dX1_countAbove_1 : decode cX1_countAbove 1 = .ok (.istore_n 2, 1) := dec_at kDX1_countAbove_0 1 rfl
theorem dX1_countAbove_2 : decode cX1_countAbove 2 = .ok (.iconst 0, 1) := dec_at kDX1_countAbove_0 2 rfl
theorem dX1_countAbove_3 : decode cX1_countAbove 3 = .ok (.istore_n 3, 1) := dec_at kDX1_countAbove_0 3 rfl
theorem dX1_countAbove_4 : decode cX1_countAbove 4 = .ok (.iload_n 3, 1) := dec_at kDX1_countAbove_0 4 rfl
theorem dX1_countAbove_5 : decode cX1_countAbove 5 = .ok (.aload_n 0, 1) := dec_at kDX1_countAbove_0 5 rfl
theorem dX1_countAbove_6 : decode cX1_countAbove 6 = .ok (.getfield 25, 3) := dec_at kDX1_countAbove_0 6 rfl
theorem dX1_countAbove_9 : decode cX1_countAbove 9 = .ok (.if_icmp .ge 29, 3) := dec_at kDX1_countAbove_0 7 rfl
theorem dX1_countAbove_12 : decode cX1_countAbove 12 = .ok (.iload_n 3, 1) := dec_at kDX1_countAbove_0 8 rfl
theorem dX1_countAbove_13 : decode cX1_countAbove 13 = .ok (.sipush 729, 3) := dec_at kDX1_countAbove_0 9 rfl
theorem dX1_countAbove_16 : decode cX1_countAbove 16 = .ok (.if_icmp .ge 22, 3) := dec_at kDX1_countAbove_0 10 rfl
theorem dX1_countAbove_19 : decode cX1_countAbove 19 = .ok (.aload_n 0, 1) := dec_at kDX1_countAbove_0 11 rfl
theorem dX1_countAbove_20 : decode cX1_countAbove 20 = .ok (.getfield 18, 3) := dec_at kDX1_countAbove_0 12 rfl
theorem dX1_countAbove_23 : decode cX1_countAbove 23 = .ok (.iload_n 3, 1) := dec_at kDX1_countAbove_0 13 rfl
theorem dX1_countAbove_24 : decode cX1_countAbove 24 = .ok (.iaload, 1) := dec_at kDX1_countAbove_0 14 rfl
theorem dX1_countAbove_25 : decode cX1_countAbove 25 = .ok (.iload_n 1, 1) := dec_at kDX1_countAbove_0 15 rfl
theorem dX1_countAbove_26 : decode cX1_countAbove 26 = .ok (.if_icmp .le 6, 3) := dec_at kDX1_countAbove_0 16 rfl
theorem dX1_countAbove_29 : decode cX1_countAbove 29 = .ok (.iinc 2 1, 3) := dec_at kDX1_countAbove_0 17 rfl
theorem dX1_countAbove_32 : decode cX1_countAbove 32 = .ok (.iinc 3 1, 3) := dec_at kDX1_countAbove_0 18 rfl
theorem dX1_countAbove_35 : decode cX1_countAbove 35 = .ok (.goto (-31), 3) := dec_at kDX1_countAbove_0 19 rfl
theorem dX1_countAbove_38 : decode cX1_countAbove 38 = .ok (.iload_n 2, 1) := dec_at kDX1_countAbove_0 20 rfl
theorem dX1_countAbove_39 : decode cX1_countAbove 39 = .ok (.ireturn, 1) := dec_at kDX1_countAbove_0 21 rfl
def DX1_unionAbove_0 : List (Nat × (Instr × Nat)) := [(0, (.lconst 0, 1)), (1, (.lstore_n 2, 1)), (2, (.iconst 0, 1)), (3, (.istore 4, 2)), (5, (.iload 4, 2)), (7, (.aload_n 0, 1)), (8, (.getfield 25, 3)), (11, (.if_icmp .ge 38, 3)), (14, (.iload 4, 2)), (16, (.sipush 729, 3)), (19, (.if_icmp .ge 30, 3)), (22, (.aload_n 0, 1)), (23, (.getfield 18, 3)), (26, (.iload 4, 2)), (28, (.iaload, 1)), (29, (.iload_n 1, 1)), (30, (.if_icmp .le 13, 3)), (33, (.lload_n 2, 1)), (34, (.aload_n 0, 1)), (35, (.getfield 21, 3)), (38, (.iload 4, 2)), (40, (.laload, 1)), (41, (.lor, 1)), (42, (.lstore_n 2, 1)), (43, (.iinc 4 1, 3)), (46, (.goto (-41), 3)), (49, (.lload_n 2, 1)), (50, (.lreturn, 1))]
theorem kDX1_unionAbove_0 : DX1_unionAbove_0.all (fun q => decide (decode cX1_unionAbove q.1 = .ok q.2)) = true := by decide +kernel
theorem dX1_unionAbove_0 : decode cX1_unionAbove 0 = .ok (.lconst 0, 1) := dec_at kDX1_unionAbove_0 0 rfl
theorem dX1_unionAbove_1 : decode cX1_unionAbove 1 = .ok (.lstore_n 2, 1) := dec_at kDX1_unionAbove_0 1 rfl
theorem dX1_unionAbove_2 : decode cX1_unionAbove 2 = .ok (.iconst 0, 1) := dec_at kDX1_unionAbove_0 2 rfl
theorem dX1_unionAbove_3 : decode cX1_unionAbove 3 = .ok (.istore 4, 2) := dec_at kDX1_unionAbove_0 3 rfl
theorem dX1_unionAbove_5 : decode cX1_unionAbove 5 = .ok (.iload 4, 2) := dec_at kDX1_unionAbove_0 4 rfl
theorem dX1_unionAbove_7 : decode cX1_unionAbove 7 = .ok (.aload_n 0, 1) := dec_at kDX1_unionAbove_0 5 rfl
theorem dX1_unionAbove_8 : decode cX1_unionAbove 8 = .ok (.getfield 25, 3) := dec_at kDX1_unionAbove_0 6 rfl
theorem dX1_unionAbove_11 : decode cX1_unionAbove 11 = .ok (.if_icmp .ge 38, 3) := dec_at kDX1_unionAbove_0 7 rfl
theorem dX1_unionAbove_14 : decode cX1_unionAbove 14 = .ok (.iload 4, 2) := dec_at kDX1_unionAbove_0 8 rfl
theorem dX1_unionAbove_16 : decode cX1_unionAbove 16 = .ok (.sipush 729, 3) := dec_at kDX1_unionAbove_0 9 rfl
theorem dX1_unionAbove_19 : decode cX1_unionAbove 19 = .ok (.if_icmp .ge 30, 3) := dec_at kDX1_unionAbove_0 10 rfl
theorem dX1_unionAbove_22 : decode cX1_unionAbove 22 = .ok (.aload_n 0, 1) := dec_at kDX1_unionAbove_0 11 rfl
theorem dX1_unionAbove_23 : decode cX1_unionAbove 23 = .ok (.getfield 18, 3) := dec_at kDX1_unionAbove_0 12 rfl
theorem dX1_unionAbove_26 : decode cX1_unionAbove 26 = .ok (.iload 4, 2) := dec_at kDX1_unionAbove_0 13 rfl
theorem dX1_unionAbove_28 : decode cX1_unionAbove 28 = .ok (.iaload, 1) := dec_at kDX1_unionAbove_0 14 rfl
theorem dX1_unionAbove_29 : decode cX1_unionAbove 29 = .ok (.iload_n 1, 1) := dec_at kDX1_unionAbove_0 15 rfl
theorem dX1_unionAbove_30 : decode cX1_unionAbove 30 = .ok (.if_icmp .le 13, 3) := dec_at kDX1_unionAbove_0 16 rfl
theorem dX1_unionAbove_33 : decode cX1_unionAbove 33 = .ok (.lload_n 2, 1) := dec_at kDX1_unionAbove_0 17 rfl
theorem dX1_unionAbove_34 : decode cX1_unionAbove 34 = .ok (.aload_n 0, 1) := dec_at kDX1_unionAbove_0 18 rfl
theorem dX1_unionAbove_35 : decode cX1_unionAbove 35 = .ok (.getfield 21, 3) := dec_at kDX1_unionAbove_0 19 rfl
theorem dX1_unionAbove_38 : decode cX1_unionAbove 38 = .ok (.iload 4, 2) := dec_at kDX1_unionAbove_0 20 rfl
theorem dX1_unionAbove_40 : decode cX1_unionAbove 40 = .ok (.laload, 1) := dec_at kDX1_unionAbove_0 21 rfl
theorem dX1_unionAbove_41 : decode cX1_unionAbove 41 = .ok (.lor, 1) := dec_at kDX1_unionAbove_0 22 rfl
theorem dX1_unionAbove_42 : decode cX1_unionAbove 42 = .ok (.lstore_n 2, 1) := dec_at kDX1_unionAbove_0 23 rfl
theorem dX1_unionAbove_43 : decode cX1_unionAbove 43 = .ok (.iinc 4 1, 3) := dec_at kDX1_unionAbove_0 24 rfl
theorem dX1_unionAbove_46 : decode cX1_unionAbove 46 = .ok (.goto (-41), 3) := dec_at kDX1_unionAbove_0 25 rfl
theorem dX1_unionAbove_49 : decode cX1_unionAbove 49 = .ok (.lload_n 2, 1) := dec_at kDX1_unionAbove_0 26 rfl
theorem dX1_unionAbove_50 : decode cX1_unionAbove 50 = .ok (.lreturn, 1) := dec_at kDX1_unionAbove_0 27 rfl
def DX2_init_0 : List (Nat × (Instr × Nat)) := [(0, (.aload_n 0, 1)), (1, (.invokespecial 3, 3)), (4, (.aload_n 0, 1)), (5, (.aload_n 1, 1)), (6, (.putfield 9, 3)), (9, (.aload_n 0, 1)), (10, (.sipush 256, 3)), (13, (.newarray .int, 2)), (15, (.putfield 15, 3)), (18, (.aload_n 0, 1)), (19, (.bipush 64, 2)), (21, (.newarray .long, 2)), (23, (.putfield 19, 3)), (26, (.aload_n 0, 1)), (27, (.bipush 64, 2)), (29, (.newarray .long, 2)), (31, (.putfield 23, 3)), (34, (.aload_n 0, 1)), (35, (.bipush 64, 2)), (37, (.newarray .int, 2)), (39, (.putfield 26, 3)), (42, (.aload_n 0, 1)), (43, (.bipush 64, 2)), (45, (.newarray .int, 2)), (47, (.putfield 29, 3)), (50, (.aload_n 0, 1)), (51, (.bipush 64, 2)), (53, (.newarray .int, 2)), (55, (.putfield 32, 3)), (58, (.aload_n 0, 1)), (59, (.bipush 64, 2)), (61, (.newarray .int, 2)), (63, (.putfield 35, 3)), (66, (.return_, 1))]
theorem kDX2_init_0 : DX2_init_0.all (fun q => decide (decode cX2_init q.1 = .ok q.2)) = true := by decide +kernel
theorem dX2_init_0 : decode cX2_init 0 = .ok (.aload_n 0, 1) := dec_at kDX2_init_0 0 rfl
theorem dX2_init_1 : decode cX2_init 1 = .ok (.invokespecial 3, 3) := dec_at kDX2_init_0 1 rfl
theorem dX2_init_4 : decode cX2_init 4 = .ok (.aload_n 0, 1) := dec_at kDX2_init_0 2 rfl
theorem dX2_init_5 : decode cX2_init 5 = .ok (.aload_n 1, 1) := dec_at kDX2_init_0 3 rfl
theorem dX2_init_6 : decode cX2_init 6 = .ok (.putfield 9, 3) := dec_at kDX2_init_0 4 rfl
theorem dX2_init_9 : decode cX2_init 9 = .ok (.aload_n 0, 1) := dec_at kDX2_init_0 5 rfl
theorem dX2_init_10 : decode cX2_init 10 = .ok (.sipush 256, 3) := dec_at kDX2_init_0 6 rfl
theorem dX2_init_13 : decode cX2_init 13 = .ok (.newarray .int, 2) := dec_at kDX2_init_0 7 rfl
theorem dX2_init_15 : decode cX2_init 15 = .ok (.putfield 15, 3) := dec_at kDX2_init_0 8 rfl
theorem dX2_init_18 : decode cX2_init 18 = .ok (.aload_n 0, 1) := dec_at kDX2_init_0 9 rfl
theorem dX2_init_19 : decode cX2_init 19 = .ok (.bipush 64, 2) := dec_at kDX2_init_0 10 rfl
theorem dX2_init_21 : decode cX2_init 21 = .ok (.newarray .long, 2) := dec_at kDX2_init_0 11 rfl
theorem dX2_init_23 : decode cX2_init 23 = .ok (.putfield 19, 3) := dec_at kDX2_init_0 12 rfl
theorem dX2_init_26 : decode cX2_init 26 = .ok (.aload_n 0, 1) := dec_at kDX2_init_0 13 rfl
theorem dX2_init_27 : decode cX2_init 27 = .ok (.bipush 64, 2) := dec_at kDX2_init_0 14 rfl
theorem dX2_init_29 : decode cX2_init 29 = .ok (.newarray .long, 2) := dec_at kDX2_init_0 15 rfl
theorem dX2_init_31 : decode cX2_init 31 = .ok (.putfield 23, 3) := dec_at kDX2_init_0 16 rfl
theorem dX2_init_34 : decode cX2_init 34 = .ok (.aload_n 0, 1) := dec_at kDX2_init_0 17 rfl
theorem dX2_init_35 : decode cX2_init 35 = .ok (.bipush 64, 2) := dec_at kDX2_init_0 18 rfl
theorem dX2_init_37 : decode cX2_init 37 = .ok (.newarray .int, 2) := dec_at kDX2_init_0 19 rfl
theorem dX2_init_39 : decode cX2_init 39 = .ok (.putfield 26, 3) := dec_at kDX2_init_0 20 rfl
theorem dX2_init_42 : decode cX2_init 42 = .ok (.aload_n 0, 1) := dec_at kDX2_init_0 21 rfl
theorem dX2_init_43 : decode cX2_init 43 = .ok (.bipush 64, 2) := dec_at kDX2_init_0 22 rfl
theorem dX2_init_45 : decode cX2_init 45 = .ok (.newarray .int, 2) := dec_at kDX2_init_0 23 rfl
theorem dX2_init_47 : decode cX2_init 47 = .ok (.putfield 29, 3) := dec_at kDX2_init_0 24 rfl
theorem dX2_init_50 : decode cX2_init 50 = .ok (.aload_n 0, 1) := dec_at kDX2_init_0 25 rfl
theorem dX2_init_51 : decode cX2_init 51 = .ok (.bipush 64, 2) := dec_at kDX2_init_0 26 rfl
theorem dX2_init_53 : decode cX2_init 53 = .ok (.newarray .int, 2) := dec_at kDX2_init_0 27 rfl
theorem dX2_init_55 : decode cX2_init 55 = .ok (.putfield 32, 3) := dec_at kDX2_init_0 28 rfl
theorem dX2_init_58 : decode cX2_init 58 = .ok (.aload_n 0, 1) := dec_at kDX2_init_0 29 rfl
theorem dX2_init_59 : decode cX2_init 59 = .ok (.bipush 64, 2) := dec_at kDX2_init_0 30 rfl
theorem dX2_init_61 : decode cX2_init 61 = .ok (.newarray .int, 2) := dec_at kDX2_init_0 31 rfl
theorem dX2_init_63 : decode cX2_init 63 = .ok (.putfield 35, 3) := dec_at kDX2_init_0 32 rfl
theorem dX2_init_66 : decode cX2_init 66 = .ok (.return_, 1) := dec_at kDX2_init_0 33 rfl
def DX2_refresh_0 : List (Nat × (Instr × Nat)) := [(0, (.aload_n 0, 1)), (1, (.getfield 38, 3)), (4, (.ifCond .eq 4, 3)), (7, (.return_, 1)), (8, (.aload_n 0, 1)), (9, (.iconst 1, 1)), (10, (.putfield 38, 3)), (13, (.aload_n 0, 1)), (14, (.invokevirtual 42, 3)), (17, (.aload_n 0, 1)), (18, (.invokevirtual 45, 3)), (21, (.aload_n 0, 1)), (22, (.invokevirtual 48, 3)), (25, (.aload_n 0, 1)), (26, (.invokevirtual 51, 3)), (29, (.aload_n 0, 1)), (30, (.invokevirtual 54, 3)), (33, (.return_, 1))]
theorem kDX2_refresh_0 : DX2_refresh_0.all (fun q => decide (decode cX2_refresh q.1 = .ok q.2)) = true := by decide +kernel
theorem dX2_refresh_0 : decode cX2_refresh 0 = .ok (.aload_n 0, 1) := dec_at kDX2_refresh_0 0 rfl
theorem dX2_refresh_1 : decode cX2_refresh 1 = .ok (.getfield 38, 3) := dec_at kDX2_refresh_0 1 rfl
theorem dX2_refresh_4 : decode cX2_refresh 4 = .ok (.ifCond .eq 4, 3) := dec_at kDX2_refresh_0 2 rfl
theorem dX2_refresh_7 : decode cX2_refresh 7 = .ok (.return_, 1) := dec_at kDX2_refresh_0 3 rfl
theorem dX2_refresh_8 : decode cX2_refresh 8 = .ok (.aload_n 0, 1) := dec_at kDX2_refresh_0 4 rfl
theorem dX2_refresh_9 : decode cX2_refresh 9 = .ok (.iconst 1, 1) := dec_at kDX2_refresh_0 5 rfl
theorem dX2_refresh_10 : decode cX2_refresh 10 = .ok (.putfield 38, 3) := dec_at kDX2_refresh_0 6 rfl
theorem dX2_refresh_13 : decode cX2_refresh 13 = .ok (.aload_n 0, 1) := dec_at kDX2_refresh_0 7 rfl
theorem dX2_refresh_14 : decode cX2_refresh 14 = .ok (.invokevirtual 42, 3) := dec_at kDX2_refresh_0 8 rfl
theorem dX2_refresh_17 : decode cX2_refresh 17 = .ok (.aload_n 0, 1) := dec_at kDX2_refresh_0 9 rfl
theorem dX2_refresh_18 : decode cX2_refresh 18 = .ok (.invokevirtual 45, 3) := dec_at kDX2_refresh_0 10 rfl
theorem dX2_refresh_21 : decode cX2_refresh 21 = .ok (.aload_n 0, 1) := dec_at kDX2_refresh_0 11 rfl
theorem dX2_refresh_22 : decode cX2_refresh 22 = .ok (.invokevirtual 48, 3) := dec_at kDX2_refresh_0 12 rfl
theorem dX2_refresh_25 : decode cX2_refresh 25 = .ok (.aload_n 0, 1) := dec_at kDX2_refresh_0 13 rfl
theorem dX2_refresh_26 : decode cX2_refresh 26 = .ok (.invokevirtual 51, 3) := dec_at kDX2_refresh_0 14 rfl
theorem dX2_refresh_29 : decode cX2_refresh 29 = .ok (.aload_n 0, 1) := dec_at kDX2_refresh_0 15 rfl
theorem dX2_refresh_30 : decode cX2_refresh 30 = .ok (.invokevirtual 54, 3) := dec_at kDX2_refresh_0 16 rfl
theorem dX2_refresh_33 : decode cX2_refresh 33 = .ok (.return_, 1) := dec_at kDX2_refresh_0 17 rfl
def DX2_findSuccessors_0 : List (Nat × (Instr × Nat)) := [(0, (.aload_n 0, 1)), (1, (.getfield 23, 3)), (4, (.lconst 0, 1)), (5, (.invokestatic 57, 3)), (8, (.iconst 0, 1)), (9, (.istore_n 1, 1)), (10, (.iload_n 1, 1)), (11, (.aload_n 0, 1)), (12, (.getfield 9, 3)), (15, (.getfield 63, 3)), (18, (.if_icmp .ge 108, 3)), (21, (.iload_n 1, 1)), (22, (.bipush 64, 2)), (24, (.if_icmp .ge 102, 3)), (27, (.lconst 0, 1)), (28, (.lstore_n 2, 1)), (29, (.iconst 0, 1)), (30, (.istore 4, 2)), (32, (.iload 4, 2)), (34, (.aload_n 0, 1)), (35, (.getfield 9, 3)), (38, (.getfield 69, 3)), (41, (.if_icmp .ge 72, 3)), (44, (.iload 4, 2)), (46, (.iconst 4, 1)), (47, (.if_icmp .ge 66, 3)), (50, (.aload_n 0, 1)), (51, (.getfield 9, 3)), (54, (.iload_n 1, 1)), (55, (.iload 4, 2)), (57, (.invokevirtual 72, 3)), (60, (.istore 5, 2)), (62, (.aload_n 0, 1)), (63, (.getfield 15, 3)), (66, (.iload_n 1, 1)), (67, (.iconst 4, 1)), (68, (.imul, 1)), (69, (.iload 4, 2)), (71, (.iadd, 1)), (72, (.iload 5, 2)), (74, (.iastore, 1)), (75, (.lload_n 2, 1)), (76, (.lconst 1, 1)), (77, (.iload 5, 2)), (79, (.lshl, 1)), (80, (.lor, 1)), (81, (.lstore_n 2, 1)), (82, (.iload 5, 2)), (84, (.ifCond .lt 23, 3)), (87, (.iload 5, 2))]
theorem kDX2_findSuccessors_0 : DX2_findSuccessors_0.all (fun q => decide (decode cX2_findSuccessors q.1 = .ok q.2)) = true := by decide +kernel
theorem dX2_findSuccessors_0 : decode cX2_findSuccessors 0 = .ok (.aload_n 0, 1) := dec_at kDX2_findSuccessors_0 0 rfl
theorem dX2_findSuccessors_1 : decode cX2_findSuccessors 1 = .ok (.getfield 23, 3) := dec_at kDX2_findSuccessors_0 1 rfl
theorem dX2_findSuccessors_4 : decode cX2_findSuccessors 4 = .ok (.lconst 0, 1) := dec_at kDX2_findSuccessors_0 2 rfl
theorem dX2_findSuccessors_5 : decode cX2_findSuccessors 5 = .ok (.invokestatic 57, 3) := dec_at kDX2_findSuccessors_0 3 rfl
theorem dX2_findSuccessors_8 : decode cX2_findSuccessors 8 = .ok (.iconst 0, 1) := dec_at kDX2_findSuccessors_0 4 rfl
theorem dX2_findSuccessors_9 : decode cX2_findSuccessors 9 = .ok (.istore_n 1, 1) := dec_at kDX2_findSuccessors_0 5 rfl
theorem dX2_findSuccessors_10 : decode cX2_findSuccessors 10 = .ok (.iload_n 1, 1) := dec_at kDX2_findSuccessors_0 6 rfl
theorem dX2_findSuccessors_11 : decode cX2_findSuccessors 11 = .ok (.aload_n 0, 1) := dec_at kDX2_findSuccessors_0 7 rfl
theorem dX2_findSuccessors_12 : decode cX2_findSuccessors 12 = .ok (.getfield 9, 3) := dec_at kDX2_findSuccessors_0 8 rfl
theorem dX2_findSuccessors_15 : decode cX2_findSuccessors 15 = .ok (.getfield 63, 3) := dec_at kDX2_findSuccessors_0 9 rfl
theorem dX2_findSuccessors_18 : decode cX2_findSuccessors 18 = .ok (.if_icmp .ge 108, 3) := dec_at kDX2_findSuccessors_0 10 rfl
theorem dX2_findSuccessors_21 : decode cX2_findSuccessors 21 = .ok (.iload_n 1, 1) := dec_at kDX2_findSuccessors_0 11 rfl
theorem dX2_findSuccessors_22 : decode cX2_findSuccessors 22 = .ok (.bipush 64, 2) := dec_at kDX2_findSuccessors_0 12 rfl
theorem dX2_findSuccessors_24 : decode cX2_findSuccessors 24 = .ok (.if_icmp .ge 102, 3) := dec_at kDX2_findSuccessors_0 13 rfl
theorem dX2_findSuccessors_27 : decode cX2_findSuccessors 27 = .ok (.lconst 0, 1) := dec_at kDX2_findSuccessors_0 14 rfl
theorem dX2_findSuccessors_28 : decode cX2_findSuccessors 28 = .ok (.lstore_n 2, 1) := dec_at kDX2_findSuccessors_0 15 rfl
theorem dX2_findSuccessors_29 : decode cX2_findSuccessors 29 = .ok (.iconst 0, 1) := dec_at kDX2_findSuccessors_0 16 rfl
theorem dX2_findSuccessors_30 : decode cX2_findSuccessors 30 = .ok (.istore 4, 2) := dec_at kDX2_findSuccessors_0 17 rfl
theorem dX2_findSuccessors_32 : decode cX2_findSuccessors 32 = .ok (.iload 4, 2) := dec_at kDX2_findSuccessors_0 18 rfl
theorem dX2_findSuccessors_34 : decode cX2_findSuccessors 34 = .ok (.aload_n 0, 1) := dec_at kDX2_findSuccessors_0 19 rfl
theorem dX2_findSuccessors_35 : decode cX2_findSuccessors 35 = .ok (.getfield 9, 3) := dec_at kDX2_findSuccessors_0 20 rfl
theorem dX2_findSuccessors_38 : decode cX2_findSuccessors 38 = .ok (.getfield 69, 3) := dec_at kDX2_findSuccessors_0 21 rfl
theorem dX2_findSuccessors_41 : decode cX2_findSuccessors 41 = .ok (.if_icmp .ge 72, 3) := dec_at kDX2_findSuccessors_0 22 rfl
theorem dX2_findSuccessors_44 : decode cX2_findSuccessors 44 = .ok (.iload 4, 2) := dec_at kDX2_findSuccessors_0 23 rfl
theorem dX2_findSuccessors_46 : decode cX2_findSuccessors 46 = .ok (.iconst 4, 1) := dec_at kDX2_findSuccessors_0 24 rfl
theorem dX2_findSuccessors_47 : decode cX2_findSuccessors 47 = .ok (.if_icmp .ge 66, 3) := dec_at kDX2_findSuccessors_0 25 rfl
theorem dX2_findSuccessors_50 : decode cX2_findSuccessors 50 = .ok (.aload_n 0, 1) := dec_at kDX2_findSuccessors_0 26 rfl
theorem dX2_findSuccessors_51 : decode cX2_findSuccessors 51 = .ok (.getfield 9, 3) := dec_at kDX2_findSuccessors_0 27 rfl
theorem dX2_findSuccessors_54 : decode cX2_findSuccessors 54 = .ok (.iload_n 1, 1) := dec_at kDX2_findSuccessors_0 28 rfl
theorem dX2_findSuccessors_55 : decode cX2_findSuccessors 55 = .ok (.iload 4, 2) := dec_at kDX2_findSuccessors_0 29 rfl
theorem dX2_findSuccessors_57 : decode cX2_findSuccessors 57 = .ok (.invokevirtual 72, 3) := dec_at kDX2_findSuccessors_0 30 rfl
theorem dX2_findSuccessors_60 : decode cX2_findSuccessors 60 = .ok (.istore 5, 2) := dec_at kDX2_findSuccessors_0 31 rfl
theorem dX2_findSuccessors_62 : decode cX2_findSuccessors 62 = .ok (.aload_n 0, 1) := dec_at kDX2_findSuccessors_0 32 rfl
theorem dX2_findSuccessors_63 : decode cX2_findSuccessors 63 = .ok (.getfield 15, 3) := dec_at kDX2_findSuccessors_0 33 rfl
theorem dX2_findSuccessors_66 : decode cX2_findSuccessors 66 = .ok (.iload_n 1, 1) := dec_at kDX2_findSuccessors_0 34 rfl
theorem dX2_findSuccessors_67 : decode cX2_findSuccessors 67 = .ok (.iconst 4, 1) := dec_at kDX2_findSuccessors_0 35 rfl
theorem dX2_findSuccessors_68 : decode cX2_findSuccessors 68 = .ok (.imul, 1) := dec_at kDX2_findSuccessors_0 36 rfl
theorem dX2_findSuccessors_69 : decode cX2_findSuccessors 69 = .ok (.iload 4, 2) := dec_at kDX2_findSuccessors_0 37 rfl
theorem dX2_findSuccessors_71 : decode cX2_findSuccessors 71 = .ok (.iadd, 1) := dec_at kDX2_findSuccessors_0 38 rfl
theorem dX2_findSuccessors_72 : decode cX2_findSuccessors 72 = .ok (.iload 5, 2) := dec_at kDX2_findSuccessors_0 39 rfl
theorem dX2_findSuccessors_74 : decode cX2_findSuccessors 74 = .ok (.iastore, 1) := dec_at kDX2_findSuccessors_0 40 rfl
theorem dX2_findSuccessors_75 : decode cX2_findSuccessors 75 = .ok (.lload_n 2, 1) := dec_at kDX2_findSuccessors_0 41 rfl
theorem dX2_findSuccessors_76 : decode cX2_findSuccessors 76 = .ok (.lconst 1, 1) := dec_at kDX2_findSuccessors_0 42 rfl
theorem dX2_findSuccessors_77 : decode cX2_findSuccessors 77 = .ok (.iload 5, 2) := dec_at kDX2_findSuccessors_0 43 rfl
theorem dX2_findSuccessors_79 : decode cX2_findSuccessors 79 = .ok (.lshl, 1) := dec_at kDX2_findSuccessors_0 44 rfl
theorem dX2_findSuccessors_80 : decode cX2_findSuccessors 80 = .ok (.lor, 1) := dec_at kDX2_findSuccessors_0 45 rfl
theorem dX2_findSuccessors_81 : decode cX2_findSuccessors 81 = .ok (.lstore_n 2, 1) := dec_at kDX2_findSuccessors_0 46 rfl
theorem dX2_findSuccessors_82 : decode cX2_findSuccessors 82 = .ok (.iload 5, 2) := dec_at kDX2_findSuccessors_0 47 rfl
theorem dX2_findSuccessors_84 : decode cX2_findSuccessors 84 = .ok (.ifCond .lt 23, 3) := dec_at kDX2_findSuccessors_0 48 rfl
theorem dX2_findSuccessors_87 : decode cX2_findSuccessors 87 = .ok (.iload 5, 2) := dec_at kDX2_findSuccessors_0 49 rfl
def DX2_findSuccessors_50 : List (Nat × (Instr × Nat)) := [(89, (.bipush 64, 2)), (91, (.if_icmp .ge 16, 3)), (94, (.aload_n 0, 1)), (95, (.getfield 23, 3)), (98, (.iload 5, 2)), (100, (.dup2, 1)), (101, (.laload, 1)), (102, (.lconst 1, 1)), (103, (.iload_n 1, 1)), (104, (.lshl, 1)), (105, (.lor, 1)), (106, (.lastore, 1)), (107, (.iinc 4 1, 3)), (110, (.goto (-78), 3)), (113, (.aload_n 0, 1)), (114, (.getfield 19, 3)), (117, (.iload_n 1, 1)), (118, (.lload_n 2, 1)), (119, (.lastore, 1)), (120, (.iinc 1 1, 3)), (123, (.goto (-113), 3)), (126, (.return_, 1))]
theorem kDX2_findSuccessors_50 : DX2_findSuccessors_50.all (fun q => decide (decode cX2_findSuccessors q.1 = .ok q.2)) = true := by decide +kernel
theorem dX2_findSuccessors_89 : decode cX2_findSuccessors 89 = .ok (.bipush 64, 2) := dec_at kDX2_findSuccessors_50 0 rfl
theorem dX2_findSuccessors_91 : decode cX2_findSuccessors 91 = .ok (.if_icmp .ge 16, 3) := dec_at kDX2_findSuccessors_50 1 rfl
theorem dX2_findSuccessors_94 : decode cX2_findSuccessors 94 = .ok (.aload_n 0, 1) := dec_at kDX2_findSuccessors_50 2 rfl
theorem dX2_findSuccessors_95 : decode cX2_findSuccessors 95 = .ok (.getfield 23, 3) := dec_at kDX2_findSuccessors_50 3 rfl
theorem dX2_findSuccessors_98 : decode cX2_findSuccessors 98 = .ok (.iload 5, 2) := dec_at kDX2_findSuccessors_50 4 rfl
theorem dX2_findSuccessors_100 : decode cX2_findSuccessors 100 = .ok (.dup2, 1) := dec_at kDX2_findSuccessors_50 5 rfl
theorem dX2_findSuccessors_101 : decode cX2_findSuccessors 101 = .ok (.laload, 1) := dec_at kDX2_findSuccessors_50 6 rfl
theorem dX2_findSuccessors_102 : decode cX2_findSuccessors 102 = .ok (.lconst 1, 1) := dec_at kDX2_findSuccessors_50 7 rfl
theorem dX2_findSuccessors_103 : decode cX2_findSuccessors 103 = .ok (.iload_n 1, 1) := dec_at kDX2_findSuccessors_50 8 rfl
theorem dX2_findSuccessors_104 : decode cX2_findSuccessors 104 = .ok (.lshl, 1) := dec_at kDX2_findSuccessors_50 9 rfl
theorem dX2_findSuccessors_105 : decode cX2_findSuccessors 105 = .ok (.lor, 1) := dec_at kDX2_findSuccessors_50 10 rfl
theorem dX2_findSuccessors_106 : decode cX2_findSuccessors 106 = .ok (.lastore, 1) := dec_at kDX2_findSuccessors_50 11 rfl
theorem dX2_findSuccessors_107 : decode cX2_findSuccessors 107 = .ok (.iinc 4 1, 3) := dec_at kDX2_findSuccessors_50 12 rfl
theorem dX2_findSuccessors_110 : decode cX2_findSuccessors 110 = .ok (.goto (-78), 3) := dec_at kDX2_findSuccessors_50 13 rfl
theorem dX2_findSuccessors_113 : decode cX2_findSuccessors 113 = .ok (.aload_n 0, 1) := dec_at kDX2_findSuccessors_50 14 rfl
theorem dX2_findSuccessors_114 : decode cX2_findSuccessors 114 = .ok (.getfield 19, 3) := dec_at kDX2_findSuccessors_50 15 rfl
theorem dX2_findSuccessors_117 : decode cX2_findSuccessors 117 = .ok (.iload_n 1, 1) := dec_at kDX2_findSuccessors_50 16 rfl
theorem dX2_findSuccessors_118 : decode cX2_findSuccessors 118 = .ok (.lload_n 2, 1) := dec_at kDX2_findSuccessors_50 17 rfl
theorem dX2_findSuccessors_119 : decode cX2_findSuccessors 119 = .ok (.lastore, 1) := dec_at kDX2_findSuccessors_50 18 rfl
theorem dX2_findSuccessors_120 : decode cX2_findSuccessors 120 = .ok (.iinc 1 1, 3) := dec_at kDX2_findSuccessors_50 19 rfl
theorem dX2_findSuccessors_123 : decode cX2_findSuccessors 123 = .ok (.goto (-113), 3) := dec_at kDX2_findSuccessors_50 20 rfl
theorem dX2_findSuccessors_126 : decode cX2_findSuccessors 126 = .ok (.return_, 1) := dec_at kDX2_findSuccessors_50 21 rfl
def DX2_findDepths_0 : List (Nat × (Instr × Nat)) := [(0, (.aload_n 0, 1)), (1, (.getfield 26, 3)), (4, (.iconst (-1), 1)), (5, (.invokestatic 76, 3)), (8, (.aload_n 0, 1)), (9, (.lconst 0, 1)), (10, (.putfield 79, 3)), (13, (.aload_n 0, 1)), (14, (.iconst (-1), 1)), (15, (.putfield 83, 3)), (18, (.aload_n 0, 1)), (19, (.getfield 9, 3)), (22, (.invokevirtual 86, 3)), (25, (.lstore_n 1, 1)), (26, (.iconst 0, 1)), (27, (.istore_n 3, 1)), (28, (.iload_n 3, 1)), (29, (.bipush 64, 2)), (31, (.if_icmp .ge 54, 3)), (34, (.lload_n 1, 1)), (35, (.lconst 0, 1)), (36, (.lcmp, 1)), (37, (.ifCond .eq 48, 3)), (40, (.aload_n 0, 1)), (41, (.getfield 26, 3)), (44, (.lload_n 1, 1)), (45, (.iload_n 3, 1)), (46, (.invokestatic 90, 3)), (49, (.aload_n 0, 1)), (50, (.dup, 1)), (51, (.getfield 79, 3)), (54, (.lload_n 1, 1)), (55, (.lor, 1)), (56, (.putfield 79, 3)), (59, (.aload_n 0, 1)), (60, (.iload_n 3, 1)), (61, (.putfield 83, 3)), (64, (.aload_n 0, 1)), (65, (.lload_n 1, 1)), (66, (.invokevirtual 94, 3)), (69, (.aload_n 0, 1)), (70, (.getfield 79, 3)), (73, (.ldc2_w 98, 3)), (76, (.lxor, 1)), (77, (.land, 1)), (78, (.lstore_n 1, 1)), (79, (.iinc 3 1, 3)), (82, (.goto (-54), 3)), (85, (.return_, 1))]
theorem kDX2_findDepths_0 : DX2_findDepths_0.all (fun q => decide (decode cX2_findDepths q.1 = .ok q.2)) = true := by decide +kernel
theorem dX2_findDepths_0 : decode cX2_findDepths 0 = .ok (.aload_n 0, 1) := dec_at kDX2_findDepths_0 0 rfl
theorem dX2_findDepths_1 : decode cX2_findDepths 1 = .ok (.getfield 26, 3) := dec_at kDX2_findDepths_0 1 rfl
theorem dX2_findDepths_4 : decode cX2_findDepths 4 = .ok (.iconst (-1), 1) := dec_at kDX2_findDepths_0 2 rfl
theorem dX2_findDepths_5 : decode cX2_findDepths 5 = .ok (.invokestatic 76, 3) := dec_at kDX2_findDepths_0 3 rfl
theorem dX2_findDepths_8 : decode cX2_findDepths 8 = .ok (.aload_n 0, 1) := dec_at kDX2_findDepths_0 4 rfl
theorem dX2_findDepths_9 : decode cX2_findDepths 9 = .ok (.lconst 0, 1) := dec_at kDX2_findDepths_0 5 rfl
theorem dX2_findDepths_10 : decode cX2_findDepths 10 = .ok (.putfield 79, 3) := dec_at kDX2_findDepths_0 6 rfl
theorem dX2_findDepths_13 : decode cX2_findDepths 13 = .ok (.aload_n 0, 1) := dec_at kDX2_findDepths_0 7 rfl
theorem dX2_findDepths_14 : decode cX2_findDepths 14 = .ok (.iconst (-1), 1) := dec_at kDX2_findDepths_0 8 rfl
theorem dX2_findDepths_15 : decode cX2_findDepths 15 = .ok (.putfield 83, 3) := dec_at kDX2_findDepths_0 9 rfl
theorem dX2_findDepths_18 : decode cX2_findDepths 18 = .ok (.aload_n 0, 1) := dec_at kDX2_findDepths_0 10 rfl
theorem dX2_findDepths_19 : decode cX2_findDepths 19 = .ok (.getfield 9, 3) := dec_at kDX2_findDepths_0 11 rfl
theorem dX2_findDepths_22 : decode cX2_findDepths 22 = .ok (.invokevirtual 86, 3) := dec_at kDX2_findDepths_0 12 rfl
theorem dX2_findDepths_25 : decode cX2_findDepths 25 = .ok (.lstore_n 1, 1) := dec_at kDX2_findDepths_0 13 rfl
theorem dX2_findDepths_26 : decode cX2_findDepths 26 = .ok (.iconst 0, 1) := dec_at kDX2_findDepths_0 14 rfl
theorem dX2_findDepths_27 : decode cX2_findDepths 27 = .ok (.istore_n 3, 1) := dec_at kDX2_findDepths_0 15 rfl
theorem dX2_findDepths_28 : decode cX2_findDepths 28 = .ok (.iload_n 3, 1) := dec_at kDX2_findDepths_0 16 rfl
theorem dX2_findDepths_29 : decode cX2_findDepths 29 = .ok (.bipush 64, 2) := dec_at kDX2_findDepths_0 17 rfl
theorem dX2_findDepths_31 : decode cX2_findDepths 31 = .ok (.if_icmp .ge 54, 3) := dec_at kDX2_findDepths_0 18 rfl
theorem dX2_findDepths_34 : decode cX2_findDepths 34 = .ok (.lload_n 1, 1) := dec_at kDX2_findDepths_0 19 rfl
theorem dX2_findDepths_35 : decode cX2_findDepths 35 = .ok (.lconst 0, 1) := dec_at kDX2_findDepths_0 20 rfl
theorem dX2_findDepths_36 : decode cX2_findDepths 36 = .ok (.lcmp, 1) := dec_at kDX2_findDepths_0 21 rfl
theorem dX2_findDepths_37 : decode cX2_findDepths 37 = .ok (.ifCond .eq 48, 3) := dec_at kDX2_findDepths_0 22 rfl
theorem dX2_findDepths_40 : decode cX2_findDepths 40 = .ok (.aload_n 0, 1) := dec_at kDX2_findDepths_0 23 rfl
theorem dX2_findDepths_41 : decode cX2_findDepths 41 = .ok (.getfield 26, 3) := dec_at kDX2_findDepths_0 24 rfl
theorem dX2_findDepths_44 : decode cX2_findDepths 44 = .ok (.lload_n 1, 1) := dec_at kDX2_findDepths_0 25 rfl
theorem dX2_findDepths_45 : decode cX2_findDepths 45 = .ok (.iload_n 3, 1) := dec_at kDX2_findDepths_0 26 rfl
theorem dX2_findDepths_46 : decode cX2_findDepths 46 = .ok (.invokestatic 90, 3) := dec_at kDX2_findDepths_0 27 rfl
theorem dX2_findDepths_49 : decode cX2_findDepths 49 = .ok (.aload_n 0, 1) := dec_at kDX2_findDepths_0 28 rfl
theorem dX2_findDepths_50 : decode cX2_findDepths 50 = .ok (.dup, 1) := dec_at kDX2_findDepths_0 29 rfl
theorem dX2_findDepths_51 : decode cX2_findDepths 51 = .ok (.getfield 79, 3) := dec_at kDX2_findDepths_0 30 rfl
theorem dX2_findDepths_54 : decode cX2_findDepths 54 = .ok (.lload_n 1, 1) := dec_at kDX2_findDepths_0 31 rfl
theorem dX2_findDepths_55 : decode cX2_findDepths 55 = .ok (.lor, 1) := dec_at kDX2_findDepths_0 32 rfl
theorem dX2_findDepths_56 : decode cX2_findDepths 56 = .ok (.putfield 79, 3) := dec_at kDX2_findDepths_0 33 rfl
theorem dX2_findDepths_59 : decode cX2_findDepths 59 = .ok (.aload_n 0, 1) := dec_at kDX2_findDepths_0 34 rfl
theorem dX2_findDepths_60 : decode cX2_findDepths 60 = .ok (.iload_n 3, 1) := dec_at kDX2_findDepths_0 35 rfl
theorem dX2_findDepths_61 : decode cX2_findDepths 61 = .ok (.putfield 83, 3) := dec_at kDX2_findDepths_0 36 rfl
theorem dX2_findDepths_64 : decode cX2_findDepths 64 = .ok (.aload_n 0, 1) := dec_at kDX2_findDepths_0 37 rfl
theorem dX2_findDepths_65 : decode cX2_findDepths 65 = .ok (.lload_n 1, 1) := dec_at kDX2_findDepths_0 38 rfl
theorem dX2_findDepths_66 : decode cX2_findDepths 66 = .ok (.invokevirtual 94, 3) := dec_at kDX2_findDepths_0 39 rfl
theorem dX2_findDepths_69 : decode cX2_findDepths 69 = .ok (.aload_n 0, 1) := dec_at kDX2_findDepths_0 40 rfl
theorem dX2_findDepths_70 : decode cX2_findDepths 70 = .ok (.getfield 79, 3) := dec_at kDX2_findDepths_0 41 rfl
theorem dX2_findDepths_73 : decode cX2_findDepths 73 = .ok (.ldc2_w 98, 3) := dec_at kDX2_findDepths_0 42 rfl
theorem dX2_findDepths_76 : decode cX2_findDepths 76 = .ok (.lxor, 1) := dec_at kDX2_findDepths_0 43 rfl
theorem dX2_findDepths_77 : decode cX2_findDepths 77 = .ok (.land, 1) := dec_at kDX2_findDepths_0 44 rfl
theorem dX2_findDepths_78 : decode cX2_findDepths 78 = .ok (.lstore_n 1, 1) := dec_at kDX2_findDepths_0 45 rfl
theorem dX2_findDepths_79 : decode cX2_findDepths 79 = .ok (.iinc 3 1, 3) := dec_at kDX2_findDepths_0 46 rfl
theorem dX2_findDepths_82 : decode cX2_findDepths 82 = .ok (.goto (-54), 3) := dec_at kDX2_findDepths_0 47 rfl
theorem dX2_findDepths_85 : decode cX2_findDepths 85 = .ok (.return_, 1) := dec_at kDX2_findDepths_0 48 rfl
def DX2_findDistances_0 : List (Nat × (Instr × Nat)) := [(0, (.aload_n 0, 1)), (1, (.getfield 29, 3)), (4, (.iconst (-1), 1)), (5, (.invokestatic 76, 3)), (8, (.lconst 0, 1)), (9, (.lstore_n 1, 1)), (10, (.aload_n 0, 1)), (11, (.getfield 9, 3)), (14, (.invokevirtual 100, 3)), (17, (.lstore_n 3, 1)), (18, (.iconst 0, 1)), (19, (.istore 5, 2)), (21, (.iload 5, 2)), (23, (.bipush 64, 2)), (25, (.if_icmp .ge 41, 3)), (28, (.lload_n 3, 1)), (29, (.lconst 0, 1)), (30, (.lcmp, 1)), (31, (.ifCond .eq 35, 3)), (34, (.aload_n 0, 1)), (35, (.getfield 29, 3)), (38, (.lload_n 3, 1)), (39, (.iload 5, 2)), (41, (.invokestatic 90, 3)), (44, (.lload_n 1, 1)), (45, (.lload_n 3, 1)), (46, (.lor, 1)), (47, (.lstore_n 1, 1)), (48, (.aload_n 0, 1)), (49, (.lload_n 3, 1)), (50, (.invokevirtual 103, 3)), (53, (.lload_n 1, 1)), (54, (.ldc2_w 98, 3)), (57, (.lxor, 1)), (58, (.land, 1)), (59, (.lstore_n 3, 1)), (60, (.iinc 5 1, 3)), (63, (.goto (-42), 3)), (66, (.return_, 1))]
theorem kDX2_findDistances_0 : DX2_findDistances_0.all (fun q => decide (decode cX2_findDistances q.1 = .ok q.2)) = true := by decide +kernel
theorem dX2_findDistances_0 : decode cX2_findDistances 0 = .ok (.aload_n 0, 1) := dec_at kDX2_findDistances_0 0 rfl
theorem dX2_findDistances_1 : decode cX2_findDistances 1 = .ok (.getfield 29, 3) := dec_at kDX2_findDistances_0 1 rfl
theorem dX2_findDistances_4 : decode cX2_findDistances 4 = .ok (.iconst (-1), 1) := dec_at kDX2_findDistances_0 2 rfl
theorem dX2_findDistances_5 : decode cX2_findDistances 5 = .ok (.invokestatic 76, 3) := dec_at kDX2_findDistances_0 3 rfl
theorem dX2_findDistances_8 : decode cX2_findDistances 8 = .ok (.lconst 0, 1) := dec_at kDX2_findDistances_0 4 rfl
theorem dX2_findDistances_9 : decode cX2_findDistances 9 = .ok (.lstore_n 1, 1) := dec_at kDX2_findDistances_0 5 rfl
theorem dX2_findDistances_10 : decode cX2_findDistances 10 = .ok (.aload_n 0, 1) := dec_at kDX2_findDistances_0 6 rfl
theorem dX2_findDistances_11 : decode cX2_findDistances 11 = .ok (.getfield 9, 3) := dec_at kDX2_findDistances_0 7 rfl
theorem dX2_findDistances_14 : decode cX2_findDistances 14 = .ok (.invokevirtual 100, 3) := dec_at kDX2_findDistances_0 8 rfl
theorem dX2_findDistances_17 : decode cX2_findDistances 17 = .ok (.lstore_n 3, 1) := dec_at kDX2_findDistances_0 9 rfl
theorem dX2_findDistances_18 : decode cX2_findDistances 18 = .ok (.iconst 0, 1) := dec_at kDX2_findDistances_0 10 rfl
theorem dX2_findDistances_19 : decode cX2_findDistances 19 = .ok (.istore 5, 2) := dec_at kDX2_findDistances_0 11 rfl
theorem dX2_findDistances_21 : decode cX2_findDistances 21 = .ok (.iload 5, 2) := dec_at kDX2_findDistances_0 12 rfl
theorem dX2_findDistances_23 : decode cX2_findDistances 23 = .ok (.bipush 64, 2) := dec_at kDX2_findDistances_0 13 rfl
theorem dX2_findDistances_25 : decode cX2_findDistances 25 = .ok (.if_icmp .ge 41, 3) := dec_at kDX2_findDistances_0 14 rfl
theorem dX2_findDistances_28 : decode cX2_findDistances 28 = .ok (.lload_n 3, 1) := dec_at kDX2_findDistances_0 15 rfl
theorem dX2_findDistances_29 : decode cX2_findDistances 29 = .ok (.lconst 0, 1) := dec_at kDX2_findDistances_0 16 rfl
theorem dX2_findDistances_30 : decode cX2_findDistances 30 = .ok (.lcmp, 1) := dec_at kDX2_findDistances_0 17 rfl
theorem dX2_findDistances_31 : decode cX2_findDistances 31 = .ok (.ifCond .eq 35, 3) := dec_at kDX2_findDistances_0 18 rfl
theorem dX2_findDistances_34 : decode cX2_findDistances 34 = .ok (.aload_n 0, 1) := dec_at kDX2_findDistances_0 19 rfl
theorem dX2_findDistances_35 : decode cX2_findDistances 35 = .ok (.getfield 29, 3) := dec_at kDX2_findDistances_0 20 rfl
theorem dX2_findDistances_38 : decode cX2_findDistances 38 = .ok (.lload_n 3, 1) := dec_at kDX2_findDistances_0 21 rfl
theorem dX2_findDistances_39 : decode cX2_findDistances 39 = .ok (.iload 5, 2) := dec_at kDX2_findDistances_0 22 rfl
theorem dX2_findDistances_41 : decode cX2_findDistances 41 = .ok (.invokestatic 90, 3) := dec_at kDX2_findDistances_0 23 rfl
theorem dX2_findDistances_44 : decode cX2_findDistances 44 = .ok (.lload_n 1, 1) := dec_at kDX2_findDistances_0 24 rfl
theorem dX2_findDistances_45 : decode cX2_findDistances 45 = .ok (.lload_n 3, 1) := dec_at kDX2_findDistances_0 25 rfl
theorem dX2_findDistances_46 : decode cX2_findDistances 46 = .ok (.lor, 1) := dec_at kDX2_findDistances_0 26 rfl
theorem dX2_findDistances_47 : decode cX2_findDistances 47 = .ok (.lstore_n 1, 1) := dec_at kDX2_findDistances_0 27 rfl
theorem dX2_findDistances_48 : decode cX2_findDistances 48 = .ok (.aload_n 0, 1) := dec_at kDX2_findDistances_0 28 rfl
theorem dX2_findDistances_49 : decode cX2_findDistances 49 = .ok (.lload_n 3, 1) := dec_at kDX2_findDistances_0 29 rfl
theorem dX2_findDistances_50 : decode cX2_findDistances 50 = .ok (.invokevirtual 103, 3) := dec_at kDX2_findDistances_0 30 rfl
theorem dX2_findDistances_53 : decode cX2_findDistances 53 = .ok (.lload_n 1, 1) := dec_at kDX2_findDistances_0 31 rfl
theorem dX2_findDistances_54 : decode cX2_findDistances 54 = .ok (.ldc2_w 98, 3) := dec_at kDX2_findDistances_0 32 rfl
theorem dX2_findDistances_57 : decode cX2_findDistances 57 = .ok (.lxor, 1) := dec_at kDX2_findDistances_0 33 rfl
theorem dX2_findDistances_58 : decode cX2_findDistances 58 = .ok (.land, 1) := dec_at kDX2_findDistances_0 34 rfl
theorem dX2_findDistances_59 : decode cX2_findDistances 59 = .ok (.lstore_n 3, 1) := dec_at kDX2_findDistances_0 35 rfl
theorem dX2_findDistances_60 : decode cX2_findDistances 60 = .ok (.iinc 5 1, 3) := dec_at kDX2_findDistances_0 36 rfl
theorem dX2_findDistances_63 : decode cX2_findDistances 63 = .ok (.goto (-42), 3) := dec_at kDX2_findDistances_0 37 rfl
theorem dX2_findDistances_66 : decode cX2_findDistances 66 = .ok (.return_, 1) := dec_at kDX2_findDistances_0 38 rfl
def DX2_mark_0 : List (Nat × (Instr × Nat)) := [(0, (.iconst 0, 1)), (1, (.istore 4, 2)), (3, (.iload 4, 2)), (5, (.aload_n 0, 1)), (6, (.arraylength, 1)), (7, (.if_icmp .ge 30, 3)), (10, (.iload 4, 2)), (12, (.bipush 64, 2)), (14, (.if_icmp .ge 23, 3)), (17, (.lload_n 1, 1)), (18, (.iload 4, 2)), (20, (.invokestatic 106, 3)), (23, (.ifCond .eq 8, 3)), (26, (.aload_n 0, 1)), (27, (.iload 4, 2)), (29, (.iload_n 3, 1)), (30, (.iastore, 1)), (31, (.iinc 4 1, 3)), (34, (.goto (-31), 3)), (37, (.return_, 1))]
theorem kDX2_mark_0 : DX2_mark_0.all (fun q => decide (decode cX2_mark q.1 = .ok q.2)) = true := by decide +kernel
theorem dX2_mark_0 : decode cX2_mark 0 = .ok (.iconst 0, 1) := dec_at kDX2_mark_0 0 rfl
theorem dX2_mark_1 : decode cX2_mark 1 = .ok (.istore 4, 2) := dec_at kDX2_mark_0 1 rfl
theorem dX2_mark_3 : decode cX2_mark 3 = .ok (.iload 4, 2) := dec_at kDX2_mark_0 2 rfl
theorem dX2_mark_5 : decode cX2_mark 5 = .ok (.aload_n 0, 1) := dec_at kDX2_mark_0 3 rfl
theorem dX2_mark_6 : decode cX2_mark 6 = .ok (.arraylength, 1) := dec_at kDX2_mark_0 4 rfl
theorem dX2_mark_7 : decode cX2_mark 7 = .ok (.if_icmp .ge 30, 3) := dec_at kDX2_mark_0 5 rfl
theorem dX2_mark_10 : decode cX2_mark 10 = .ok (.iload 4, 2) := dec_at kDX2_mark_0 6 rfl
theorem dX2_mark_12 : decode cX2_mark 12 = .ok (.bipush 64, 2) := dec_at kDX2_mark_0 7 rfl
theorem dX2_mark_14 : decode cX2_mark 14 = .ok (.if_icmp .ge 23, 3) := dec_at kDX2_mark_0 8 rfl
theorem dX2_mark_17 : decode cX2_mark 17 = .ok (.lload_n 1, 1) := dec_at kDX2_mark_0 9 rfl
theorem dX2_mark_18 : decode cX2_mark 18 = .ok (.iload 4, 2) := dec_at kDX2_mark_0 10 rfl
theorem dX2_mark_20 : decode cX2_mark 20 = .ok (.invokestatic 106, 3) := dec_at kDX2_mark_0 11 rfl
theorem dX2_mark_23 : decode cX2_mark 23 = .ok (.ifCond .eq 8, 3) := dec_at kDX2_mark_0 12 rfl
theorem dX2_mark_26 : decode cX2_mark 26 = .ok (.aload_n 0, 1) := dec_at kDX2_mark_0 13 rfl
theorem dX2_mark_27 : decode cX2_mark 27 = .ok (.iload 4, 2) := dec_at kDX2_mark_0 14 rfl
theorem dX2_mark_29 : decode cX2_mark 29 = .ok (.iload_n 3, 1) := dec_at kDX2_mark_0 15 rfl
theorem dX2_mark_30 : decode cX2_mark 30 = .ok (.iastore, 1) := dec_at kDX2_mark_0 16 rfl
theorem dX2_mark_31 : decode cX2_mark 31 = .ok (.iinc 4 1, 3) := dec_at kDX2_mark_0 17 rfl
theorem dX2_mark_34 : decode cX2_mark 34 = .ok (.goto (-31), 3) := dec_at kDX2_mark_0 18 rfl
theorem dX2_mark_37 : decode cX2_mark 37 = .ok (.return_, 1) := dec_at kDX2_mark_0 19 rfl
def DX2_findShortestLength_0 : List (Nat × (Instr × Nat)) := [(0, (.aload_n 0, 1)), (1, (.iconst (-1), 1)), (2, (.putfield 110, 3)), (5, (.iconst 0, 1)), (6, (.istore_n 1, 1)), (7, (.iload_n 1, 1)), (8, (.bipush 64, 2)), (10, (.if_icmp .ge 74, 3)), (13, (.aload_n 0, 1)), (14, (.getfield 9, 3)), (17, (.invokevirtual 86, 3)), (20, (.iload_n 1, 1)), (21, (.invokestatic 106, 3)), (24, (.ifCond .eq 17, 3)), (27, (.aload_n 0, 1)), (28, (.getfield 29, 3)), (31, (.iload_n 1, 1)), (32, (.iaload, 1)), (33, (.iconst (-1), 1)), (34, (.if_icmp .eq 7, 3)), (37, (.iconst 1, 1)), (38, (.goto 4, 3)), (41, (.iconst 0, 1)), (42, (.istore_n 2, 1)), (43, (.iload_n 2, 1)), (44, (.ifCond .eq 34, 3)), (47, (.aload_n 0, 1)), (48, (.getfield 110, 3)), (51, (.iconst (-1), 1)), (52, (.if_icmp .eq 16, 3)), (55, (.aload_n 0, 1)), (56, (.getfield 29, 3)), (59, (.iload_n 1, 1)), (60, (.iaload, 1)), (61, (.aload_n 0, 1)), (62, (.getfield 110, 3)), (65, (.if_icmp .ge 13, 3)), (68, (.aload_n 0, 1)), (69, (.aload_n 0, 1)), (70, (.getfield 29, 3)), (73, (.iload_n 1, 1)), (74, (.iaload, 1)), (75, (.putfield 110, 3)), (78, (.iinc 1 1, 3)), (81, (.goto (-74), 3)), (84, (.return_, 1))]
theorem kDX2_findShortestLength_0 : DX2_findShortestLength_0.all (fun q => decide (decode cX2_findShortestLength q.1 = .ok q.2)) = true := by decide +kernel
theorem dX2_findShortestLength_0 : decode cX2_findShortestLength 0 = .ok (.aload_n 0, 1) := dec_at kDX2_findShortestLength_0 0 rfl
theorem dX2_findShortestLength_1 : decode cX2_findShortestLength 1 = .ok (.iconst (-1), 1) := dec_at kDX2_findShortestLength_0 1 rfl
theorem dX2_findShortestLength_2 : decode cX2_findShortestLength 2 = .ok (.putfield 110, 3) := dec_at kDX2_findShortestLength_0 2 rfl
theorem dX2_findShortestLength_5 : decode cX2_findShortestLength 5 = .ok (.iconst 0, 1) := dec_at kDX2_findShortestLength_0 3 rfl
theorem dX2_findShortestLength_6 : decode cX2_findShortestLength 6 = .ok (.istore_n 1, 1) := dec_at kDX2_findShortestLength_0 4 rfl
theorem dX2_findShortestLength_7 : decode cX2_findShortestLength 7 = .ok (.iload_n 1, 1) := dec_at kDX2_findShortestLength_0 5 rfl
theorem dX2_findShortestLength_8 : decode cX2_findShortestLength 8 = .ok (.bipush 64, 2) := dec_at kDX2_findShortestLength_0 6 rfl
theorem dX2_findShortestLength_10 : decode cX2_findShortestLength 10 = .ok (.if_icmp .ge 74, 3) := dec_at kDX2_findShortestLength_0 7 rfl
theorem dX2_findShortestLength_13 : decode cX2_findShortestLength 13 = .ok (.aload_n 0, 1) := dec_at kDX2_findShortestLength_0 8 rfl
theorem dX2_findShortestLength_14 : decode cX2_findShortestLength 14 = .ok (.getfield 9, 3) := dec_at kDX2_findShortestLength_0 9 rfl
theorem dX2_findShortestLength_17 : decode cX2_findShortestLength 17 = .ok (.invokevirtual 86, 3) := dec_at kDX2_findShortestLength_0 10 rfl
theorem dX2_findShortestLength_20 : decode cX2_findShortestLength 20 = .ok (.iload_n 1, 1) := dec_at kDX2_findShortestLength_0 11 rfl
theorem dX2_findShortestLength_21 : decode cX2_findShortestLength 21 = .ok (.invokestatic 106, 3) := dec_at kDX2_findShortestLength_0 12 rfl
theorem dX2_findShortestLength_24 : decode cX2_findShortestLength 24 = .ok (.ifCond .eq 17, 3) := dec_at kDX2_findShortestLength_0 13 rfl
theorem dX2_findShortestLength_27 : decode cX2_findShortestLength 27 = .ok (.aload_n 0, 1) := dec_at kDX2_findShortestLength_0 14 rfl
theorem dX2_findShortestLength_28 : decode cX2_findShortestLength 28 = .ok (.getfield 29, 3) := dec_at kDX2_findShortestLength_0 15 rfl
theorem dX2_findShortestLength_31 : decode cX2_findShortestLength 31 = .ok (.iload_n 1, 1) := dec_at kDX2_findShortestLength_0 16 rfl
theorem dX2_findShortestLength_32 : decode cX2_findShortestLength 32 = .ok (.iaload, 1) := dec_at kDX2_findShortestLength_0 17 rfl
theorem dX2_findShortestLength_33 : decode cX2_findShortestLength 33 = .ok (.iconst (-1), 1) := dec_at kDX2_findShortestLength_0 18 rfl
theorem dX2_findShortestLength_34 : decode cX2_findShortestLength 34 = .ok (.if_icmp .eq 7, 3) := dec_at kDX2_findShortestLength_0 19 rfl
theorem dX2_findShortestLength_37 : decode cX2_findShortestLength 37 = .ok (.iconst 1, 1) := dec_at kDX2_findShortestLength_0 20 rfl
theorem dX2_findShortestLength_38 : decode cX2_findShortestLength 38 = .ok (.goto 4, 3) := dec_at kDX2_findShortestLength_0 21 rfl
theorem dX2_findShortestLength_41 : decode cX2_findShortestLength 41 = .ok (.iconst 0, 1) := dec_at kDX2_findShortestLength_0 22 rfl
theorem dX2_findShortestLength_42 : decode cX2_findShortestLength 42 = .ok (.istore_n 2, 1) := dec_at kDX2_findShortestLength_0 23 rfl
theorem dX2_findShortestLength_43 : decode cX2_findShortestLength 43 = .ok (.iload_n 2, 1) := dec_at kDX2_findShortestLength_0 24 rfl
theorem dX2_findShortestLength_44 : decode cX2_findShortestLength 44 = .ok (.ifCond .eq 34, 3) := dec_at kDX2_findShortestLength_0 25 rfl
theorem dX2_findShortestLength_47 : decode cX2_findShortestLength 47 = .ok (.aload_n 0, 1) := dec_at kDX2_findShortestLength_0 26 rfl
theorem dX2_findShortestLength_48 : decode cX2_findShortestLength 48 = .ok (.getfield 110, 3) := dec_at kDX2_findShortestLength_0 27 rfl
theorem dX2_findShortestLength_51 : decode cX2_findShortestLength 51 = .ok (.iconst (-1), 1) := dec_at kDX2_findShortestLength_0 28 rfl
theorem dX2_findShortestLength_52 : decode cX2_findShortestLength 52 = .ok (.if_icmp .eq 16, 3) := dec_at kDX2_findShortestLength_0 29 rfl
theorem dX2_findShortestLength_55 : decode cX2_findShortestLength 55 = .ok (.aload_n 0, 1) := dec_at kDX2_findShortestLength_0 30 rfl
theorem dX2_findShortestLength_56 : decode cX2_findShortestLength 56 = .ok (.getfield 29, 3) := dec_at kDX2_findShortestLength_0 31 rfl
theorem dX2_findShortestLength_59 : decode cX2_findShortestLength 59 = .ok (.iload_n 1, 1) := dec_at kDX2_findShortestLength_0 32 rfl
theorem dX2_findShortestLength_60 : decode cX2_findShortestLength 60 = .ok (.iaload, 1) := dec_at kDX2_findShortestLength_0 33 rfl
theorem dX2_findShortestLength_61 : decode cX2_findShortestLength 61 = .ok (.aload_n 0, 1) := dec_at kDX2_findShortestLength_0 34 rfl
theorem dX2_findShortestLength_62 : decode cX2_findShortestLength 62 = .ok (.getfield 110, 3) := dec_at kDX2_findShortestLength_0 35 rfl
theorem dX2_findShortestLength_65 : decode cX2_findShortestLength 65 = .ok (.if_icmp .ge 13, 3) := dec_at kDX2_findShortestLength_0 36 rfl
theorem dX2_findShortestLength_68 : decode cX2_findShortestLength 68 = .ok (.aload_n 0, 1) := dec_at kDX2_findShortestLength_0 37 rfl
theorem dX2_findShortestLength_69 : decode cX2_findShortestLength 69 = .ok (.aload_n 0, 1) := dec_at kDX2_findShortestLength_0 38 rfl
theorem dX2_findShortestLength_70 : decode cX2_findShortestLength 70 = .ok (.getfield 29, 3) := dec_at kDX2_findShortestLength_0 39 rfl
theorem dX2_findShortestLength_73 : decode cX2_findShortestLength 73 = .ok (.iload_n 1, 1) := dec_at kDX2_findShortestLength_0 40 rfl
theorem dX2_findShortestLength_74 : decode cX2_findShortestLength 74 = .ok (.iaload, 1) := dec_at kDX2_findShortestLength_0 41 rfl
theorem dX2_findShortestLength_75 : decode cX2_findShortestLength 75 = .ok (.putfield 110, 3) := dec_at kDX2_findShortestLength_0 42 rfl
theorem dX2_findShortestLength_78 : decode cX2_findShortestLength 78 = .ok (.iinc 1 1, 3) := dec_at kDX2_findShortestLength_0 43 rfl
theorem dX2_findShortestLength_81 : decode cX2_findShortestLength 81 = .ok (.goto (-74), 3) := dec_at kDX2_findShortestLength_0 44 rfl
theorem dX2_findShortestLength_84 : decode cX2_findShortestLength 84 = .ok (.return_, 1) := dec_at kDX2_findShortestLength_0 45 rfl
def DX2_findClasses_0 : List (Nat × (Instr × Nat)) := [(0, (.aload_n 0, 1)), (1, (.getfield 9, 3)), (4, (.invokevirtual 113, 3)), (7, (.invokestatic 116, 3)), (10, (.istore_n 1, 1)), (11, (.aload_n 0, 1)), (12, (.getfield 9, 3)), (15, (.invokevirtual 100, 3)), (18, (.invokestatic 116, 3)), (21, (.istore_n 2, 1)), (22, (.iconst 0, 1)), (23, (.istore_n 3, 1)), (24, (.iload_n 3, 1)), (25, (.aload_n 0, 1)), (26, (.getfield 9, 3)), (29, (.getfield 63, 3)), (32, (.if_icmp .ge 40, 3)), (35, (.iload_n 3, 1)), (36, (.bipush 64, 2)), (38, (.if_icmp .ge 34, 3)), (41, (.aload_n 0, 1)), (42, (.getfield 32, 3)), (45, (.iload_n 3, 1)), (46, (.aload_n 0, 1)), (47, (.getfield 9, 3)), (50, (.invokevirtual 113, 3)), (53, (.iload_n 3, 1)), (54, (.invokestatic 106, 3)), (57, (.ifCond .eq 7, 3)), (60, (.iload_n 1, 1)), (61, (.goto 4, 3)), (64, (.iload_n 2, 1)), (65, (.iastore, 1)), (66, (.iinc 3 1, 3)), (69, (.goto (-45), 3)), (72, (.iconst 1, 1)), (73, (.istore_n 3, 1)), (74, (.iconst 0, 1)), (75, (.istore 4, 2)), (77, (.iload 4, 2)), (79, (.bipush 64, 2)), (81, (.if_icmp .gt 18, 3)), (84, (.iload_n 3, 1)), (85, (.ifCond .eq 14, 3)), (88, (.aload_n 0, 1)), (89, (.invokevirtual 120, 3)), (92, (.istore_n 3, 1)), (93, (.iinc 4 1, 3)), (96, (.goto (-19), 3)), (99, (.return_, 1))]
theorem kDX2_findClasses_0 : DX2_findClasses_0.all (fun q => decide (decode cX2_findClasses q.1 = .ok q.2)) = true := by decide +kernel
theorem dX2_findClasses_0 : decode cX2_findClasses 0 = .ok (.aload_n 0, 1) := dec_at kDX2_findClasses_0 0 rfl
theorem dX2_findClasses_1 : decode cX2_findClasses 1 = .ok (.getfield 9, 3) := dec_at kDX2_findClasses_0 1 rfl
theorem dX2_findClasses_4 : decode cX2_findClasses 4 = .ok (.invokevirtual 113, 3) := dec_at kDX2_findClasses_0 2 rfl
theorem dX2_findClasses_7 : decode cX2_findClasses 7 = .ok (.invokestatic 116, 3) := dec_at kDX2_findClasses_0 3 rfl
theorem dX2_findClasses_10 : decode cX2_findClasses 10 = .ok (.istore_n 1, 1) := dec_at kDX2_findClasses_0 4 rfl
theorem dX2_findClasses_11 : decode cX2_findClasses 11 = .ok (.aload_n 0, 1) := dec_at kDX2_findClasses_0 5 rfl
theorem dX2_findClasses_12 : decode cX2_findClasses 12 = .ok (.getfield 9, 3) := dec_at kDX2_findClasses_0 6 rfl
theorem dX2_findClasses_15 : decode cX2_findClasses 15 = .ok (.invokevirtual 100, 3) := dec_at kDX2_findClasses_0 7 rfl
theorem dX2_findClasses_18 : decode cX2_findClasses 18 = .ok (.invokestatic 116, 3) := dec_at kDX2_findClasses_0 8 rfl
theorem dX2_findClasses_21 : decode cX2_findClasses 21 = .ok (.istore_n 2, 1) := dec_at kDX2_findClasses_0 9 rfl
theorem dX2_findClasses_22 : decode cX2_findClasses 22 = .ok (.iconst 0, 1) := dec_at kDX2_findClasses_0 10 rfl
theorem dX2_findClasses_23 : decode cX2_findClasses 23 = .ok (.istore_n 3, 1) := dec_at kDX2_findClasses_0 11 rfl
theorem dX2_findClasses_24 : decode cX2_findClasses 24 = .ok (.iload_n 3, 1) := dec_at kDX2_findClasses_0 12 rfl
theorem dX2_findClasses_25 : decode cX2_findClasses 25 = .ok (.aload_n 0, 1) := dec_at kDX2_findClasses_0 13 rfl
theorem dX2_findClasses_26 : decode cX2_findClasses 26 = .ok (.getfield 9, 3) := dec_at kDX2_findClasses_0 14 rfl
theorem dX2_findClasses_29 : decode cX2_findClasses 29 = .ok (.getfield 63, 3) := dec_at kDX2_findClasses_0 15 rfl
theorem dX2_findClasses_32 : decode cX2_findClasses 32 = .ok (.if_icmp .ge 40, 3) := dec_at kDX2_findClasses_0 16 rfl
theorem dX2_findClasses_35 : decode cX2_findClasses 35 = .ok (.iload_n 3, 1) := dec_at kDX2_findClasses_0 17 rfl
theorem dX2_findClasses_36 : decode cX2_findClasses 36 = .ok (.bipush 64, 2) := dec_at kDX2_findClasses_0 18 rfl
theorem dX2_findClasses_38 : decode cX2_findClasses 38 = .ok (.if_icmp .ge 34, 3) := dec_at kDX2_findClasses_0 19 rfl
theorem dX2_findClasses_41 : decode cX2_findClasses 41 = .ok (.aload_n 0, 1) := dec_at kDX2_findClasses_0 20 rfl
theorem dX2_findClasses_42 : decode cX2_findClasses 42 = .ok (.getfield 32, 3) := dec_at kDX2_findClasses_0 21 rfl
theorem dX2_findClasses_45 : decode cX2_findClasses 45 = .ok (.iload_n 3, 1) := dec_at kDX2_findClasses_0 22 rfl
theorem dX2_findClasses_46 : decode cX2_findClasses 46 = .ok (.aload_n 0, 1) := dec_at kDX2_findClasses_0 23 rfl
theorem dX2_findClasses_47 : decode cX2_findClasses 47 = .ok (.getfield 9, 3) := dec_at kDX2_findClasses_0 24 rfl
theorem dX2_findClasses_50 : decode cX2_findClasses 50 = .ok (.invokevirtual 113, 3) := dec_at kDX2_findClasses_0 25 rfl
theorem dX2_findClasses_53 : decode cX2_findClasses 53 = .ok (.iload_n 3, 1) := dec_at kDX2_findClasses_0 26 rfl
theorem dX2_findClasses_54 : decode cX2_findClasses 54 = .ok (.invokestatic 106, 3) := dec_at kDX2_findClasses_0 27 rfl
theorem dX2_findClasses_57 : decode cX2_findClasses 57 = .ok (.ifCond .eq 7, 3) := dec_at kDX2_findClasses_0 28 rfl
theorem dX2_findClasses_60 : decode cX2_findClasses 60 = .ok (.iload_n 1, 1) := dec_at kDX2_findClasses_0 29 rfl
theorem dX2_findClasses_61 : decode cX2_findClasses 61 = .ok (.goto 4, 3) := dec_at kDX2_findClasses_0 30 rfl
theorem dX2_findClasses_64 : decode cX2_findClasses 64 = .ok (.iload_n 2, 1) := dec_at kDX2_findClasses_0 31 rfl
theorem dX2_findClasses_65 : decode cX2_findClasses 65 = .ok (.iastore, 1) := dec_at kDX2_findClasses_0 32 rfl
theorem dX2_findClasses_66 : decode cX2_findClasses 66 = .ok (.iinc 3 1, 3) := dec_at kDX2_findClasses_0 33 rfl
theorem dX2_findClasses_69 : decode cX2_findClasses 69 = .ok (.goto (-45), 3) := dec_at kDX2_findClasses_0 34 rfl
theorem dX2_findClasses_72 : decode cX2_findClasses 72 = .ok (.iconst 1, 1) := dec_at kDX2_findClasses_0 35 rfl
theorem dX2_findClasses_73 : decode cX2_findClasses 73 = .ok (.istore_n 3, 1) := dec_at kDX2_findClasses_0 36 rfl
theorem dX2_findClasses_74 : decode cX2_findClasses 74 = .ok (.iconst 0, 1) := dec_at kDX2_findClasses_0 37 rfl
theorem dX2_findClasses_75 : decode cX2_findClasses 75 = .ok (.istore 4, 2) := dec_at kDX2_findClasses_0 38 rfl
theorem dX2_findClasses_77 : decode cX2_findClasses 77 = .ok (.iload 4, 2) := dec_at kDX2_findClasses_0 39 rfl
theorem dX2_findClasses_79 : decode cX2_findClasses 79 = .ok (.bipush 64, 2) := dec_at kDX2_findClasses_0 40 rfl
theorem dX2_findClasses_81 : decode cX2_findClasses 81 = .ok (.if_icmp .gt 18, 3) := dec_at kDX2_findClasses_0 41 rfl
theorem dX2_findClasses_84 : decode cX2_findClasses 84 = .ok (.iload_n 3, 1) := dec_at kDX2_findClasses_0 42 rfl
theorem dX2_findClasses_85 : decode cX2_findClasses 85 = .ok (.ifCond .eq 14, 3) := dec_at kDX2_findClasses_0 43 rfl
theorem dX2_findClasses_88 : decode cX2_findClasses 88 = .ok (.aload_n 0, 1) := dec_at kDX2_findClasses_0 44 rfl
theorem dX2_findClasses_89 : decode cX2_findClasses 89 = .ok (.invokevirtual 120, 3) := dec_at kDX2_findClasses_0 45 rfl
theorem dX2_findClasses_92 : decode cX2_findClasses 92 = .ok (.istore_n 3, 1) := dec_at kDX2_findClasses_0 46 rfl
theorem dX2_findClasses_93 : decode cX2_findClasses 93 = .ok (.iinc 4 1, 3) := dec_at kDX2_findClasses_0 47 rfl
theorem dX2_findClasses_96 : decode cX2_findClasses 96 = .ok (.goto (-19), 3) := dec_at kDX2_findClasses_0 48 rfl
theorem dX2_findClasses_99 : decode cX2_findClasses 99 = .ok (.return_, 1) := dec_at kDX2_findClasses_0 49 rfl
def DX2_refineClasses_0 : List (Nat × (Instr × Nat)) := [(0, (.iconst 0, 1)), (1, (.istore_n 1, 1)), (2, (.iconst 0, 1)), (3, (.istore_n 2, 1)), (4, (.iload_n 2, 1)), (5, (.aload_n 0, 1)), (6, (.getfield 9, 3)), (9, (.getfield 63, 3)), (12, (.if_icmp .ge 110, 3)), (15, (.iload_n 2, 1)), (16, (.bipush 64, 2)), (18, (.if_icmp .ge 104, 3)), (21, (.aload_n 0, 1)), (22, (.getfield 32, 3)), (25, (.iload_n 2, 1)), (26, (.iaload, 1)), (27, (.istore_n 3, 1)), (28, (.iload_n 2, 1)), (29, (.istore 4, 2)), (31, (.iload_n 3, 1)), (32, (.ifCond .ge 7, 3)), (35, (.iconst 0, 1)), (36, (.goto 4, 3)), (39, (.iload_n 3, 1)), (40, (.istore 5, 2)), (42, (.iload 5, 2)), (44, (.iload 4, 2)), (46, (.if_icmp .ge 46, 3)), (49, (.aload_n 0, 1)), (50, (.getfield 35, 3)), (53, (.iload 5, 2)), (55, (.iaload, 1)), (56, (.iload 5, 2)), (58, (.if_icmp .ne 28, 3)), (61, (.aload_n 0, 1)), (62, (.getfield 32, 3)), (65, (.iload 5, 2)), (67, (.iaload, 1)), (68, (.iload_n 3, 1)), (69, (.if_icmp .ne 17, 3)), (72, (.aload_n 0, 1)), (73, (.iload_n 2, 1)), (74, (.iload 5, 2)), (76, (.invokevirtual 124, 3)), (79, (.ifCond .eq 7, 3)), (82, (.iload 5, 2)), (84, (.istore 4, 2)), (86, (.iinc 5 1, 3)), (89, (.goto (-47), 3)), (92, (.aload_n 0, 1))]
theorem kDX2_refineClasses_0 : DX2_refineClasses_0.all (fun q => decide (decode cX2_refineClasses q.1 = .ok q.2)) = true := by decide +kernel
theorem dX2_refineClasses_0 : decode cX2_refineClasses 0 = .ok (.iconst 0, 1) := dec_at kDX2_refineClasses_0 0 rfl
theorem dX2_refineClasses_1 : decode cX2_refineClasses 1 = .ok (.istore_n 1, 1) := dec_at kDX2_refineClasses_0 1 rfl
theorem dX2_refineClasses_2 : decode cX2_refineClasses 2 = .ok (.iconst 0, 1) := dec_at kDX2_refineClasses_0 2 rfl
theorem dX2_refineClasses_3 : decode cX2_refineClasses 3 = .ok (.istore_n 2, 1) := dec_at kDX2_refineClasses_0 3 rfl
theorem dX2_refineClasses_4 : decode cX2_refineClasses 4 = .ok (.iload_n 2, 1) := dec_at kDX2_refineClasses_0 4 rfl
theorem dX2_refineClasses_5 : decode cX2_refineClasses 5 = .ok (.aload_n 0, 1) := dec_at kDX2_refineClasses_0 5 rfl
theorem dX2_refineClasses_6 : decode cX2_refineClasses 6 = .ok (.getfield 9, 3) := dec_at kDX2_refineClasses_0 6 rfl
theorem dX2_refineClasses_9 : decode cX2_refineClasses 9 = .ok (.getfield 63, 3) := dec_at kDX2_refineClasses_0 7 rfl
theorem dX2_refineClasses_12 : decode cX2_refineClasses 12 = .ok (.if_icmp .ge 110, 3) := dec_at kDX2_refineClasses_0 8 rfl
theorem dX2_refineClasses_15 : decode cX2_refineClasses 15 = .ok (.iload_n 2, 1) := dec_at kDX2_refineClasses_0 9 rfl
theorem dX2_refineClasses_16 : decode cX2_refineClasses 16 = .ok (.bipush 64, 2) := dec_at kDX2_refineClasses_0 10 rfl
theorem dX2_refineClasses_18 : decode cX2_refineClasses 18 = .ok (.if_icmp .ge 104, 3) := dec_at kDX2_refineClasses_0 11 rfl
theorem dX2_refineClasses_21 : decode cX2_refineClasses 21 = .ok (.aload_n 0, 1) := dec_at kDX2_refineClasses_0 12 rfl
theorem dX2_refineClasses_22 : decode cX2_refineClasses 22 = .ok (.getfield 32, 3) := dec_at kDX2_refineClasses_0 13 rfl
theorem dX2_refineClasses_25 : decode cX2_refineClasses 25 = .ok (.iload_n 2, 1) := dec_at kDX2_refineClasses_0 14 rfl
theorem dX2_refineClasses_26 : decode cX2_refineClasses 26 = .ok (.iaload, 1) := dec_at kDX2_refineClasses_0 15 rfl
theorem dX2_refineClasses_27 : decode cX2_refineClasses 27 = .ok (.istore_n 3, 1) := dec_at kDX2_refineClasses_0 16 rfl
theorem dX2_refineClasses_28 : decode cX2_refineClasses 28 = .ok (.iload_n 2, 1) := dec_at kDX2_refineClasses_0 17 rfl
theorem dX2_refineClasses_29 : decode cX2_refineClasses 29 = .ok (.istore 4, 2) := dec_at kDX2_refineClasses_0 18 rfl
theorem dX2_refineClasses_31 : decode cX2_refineClasses 31 = .ok (.iload_n 3, 1) := dec_at kDX2_refineClasses_0 19 rfl
theorem dX2_refineClasses_32 : decode cX2_refineClasses 32 = .ok (.ifCond .ge 7, 3) := dec_at kDX2_refineClasses_0 20 rfl
theorem dX2_refineClasses_35 : decode cX2_refineClasses 35 = .ok (.iconst 0, 1) := dec_at kDX2_refineClasses_0 21 rfl
theorem dX2_refineClasses_36 : decode cX2_refineClasses 36 = .ok (.goto 4, 3) := dec_at kDX2_refineClasses_0 22 rfl
theorem dX2_refineClasses_39 : decode cX2_refineClasses 39 = .ok (.iload_n 3, 1) := dec_at kDX2_refineClasses_0 23 rfl
theorem dX2_refineClasses_40 : decode cX2_refineClasses 40 = .ok (.istore 5, 2) := dec_at kDX2_refineClasses_0 24 rfl
theorem dX2_refineClasses_42 : decode cX2_refineClasses 42 = .ok (.iload 5, 2) := dec_at kDX2_refineClasses_0 25 rfl
theorem dX2_refineClasses_44 : decode cX2_refineClasses 44 = .ok (.iload 4, 2) := dec_at kDX2_refineClasses_0 26 rfl
theorem dX2_refineClasses_46 : decode cX2_refineClasses 46 = .ok (.if_icmp .ge 46, 3) := dec_at kDX2_refineClasses_0 27 rfl
theorem dX2_refineClasses_49 : decode cX2_refineClasses 49 = .ok (.aload_n 0, 1) := dec_at kDX2_refineClasses_0 28 rfl
theorem dX2_refineClasses_50 : decode cX2_refineClasses 50 = .ok (.getfield 35, 3) := dec_at kDX2_refineClasses_0 29 rfl
theorem dX2_refineClasses_53 : decode cX2_refineClasses 53 = .ok (.iload 5, 2) := dec_at kDX2_refineClasses_0 30 rfl
theorem dX2_refineClasses_55 : decode cX2_refineClasses 55 = .ok (.iaload, 1) := dec_at kDX2_refineClasses_0 31 rfl
theorem dX2_refineClasses_56 : decode cX2_refineClasses 56 = .ok (.iload 5, 2) := dec_at kDX2_refineClasses_0 32 rfl
theorem dX2_refineClasses_58 : decode cX2_refineClasses 58 = .ok (.if_icmp .ne 28, 3) := dec_at kDX2_refineClasses_0 33 rfl
theorem dX2_refineClasses_61 : decode cX2_refineClasses 61 = .ok (.aload_n 0, 1) := dec_at kDX2_refineClasses_0 34 rfl
theorem dX2_refineClasses_62 : decode cX2_refineClasses 62 = .ok (.getfield 32, 3) := dec_at kDX2_refineClasses_0 35 rfl
theorem dX2_refineClasses_65 : decode cX2_refineClasses 65 = .ok (.iload 5, 2) := dec_at kDX2_refineClasses_0 36 rfl
theorem dX2_refineClasses_67 : decode cX2_refineClasses 67 = .ok (.iaload, 1) := dec_at kDX2_refineClasses_0 37 rfl
theorem dX2_refineClasses_68 : decode cX2_refineClasses 68 = .ok (.iload_n 3, 1) := dec_at kDX2_refineClasses_0 38 rfl
theorem dX2_refineClasses_69 : decode cX2_refineClasses 69 = .ok (.if_icmp .ne 17, 3) := dec_at kDX2_refineClasses_0 39 rfl
theorem dX2_refineClasses_72 : decode cX2_refineClasses 72 = .ok (.aload_n 0, 1) := dec_at kDX2_refineClasses_0 40 rfl
theorem dX2_refineClasses_73 : decode cX2_refineClasses 73 = .ok (.iload_n 2, 1) := dec_at kDX2_refineClasses_0 41 rfl
theorem dX2_refineClasses_74 : decode cX2_refineClasses 74 = .ok (.iload 5, 2) := dec_at kDX2_refineClasses_0 42 rfl
theorem dX2_refineClasses_76 : decode cX2_refineClasses 76 = .ok (.invokevirtual 124, 3) := dec_at kDX2_refineClasses_0 43 rfl
theorem dX2_refineClasses_79 : decode cX2_refineClasses 79 = .ok (.ifCond .eq 7, 3) := dec_at kDX2_refineClasses_0 44 rfl
theorem dX2_refineClasses_82 : decode cX2_refineClasses 82 = .ok (.iload 5, 2) := dec_at kDX2_refineClasses_0 45 rfl
theorem dX2_refineClasses_84 : decode cX2_refineClasses 84 = .ok (.istore 4, 2) := dec_at kDX2_refineClasses_0 46 rfl
theorem dX2_refineClasses_86 : decode cX2_refineClasses 86 = .ok (.iinc 5 1, 3) := dec_at kDX2_refineClasses_0 47 rfl
theorem dX2_refineClasses_89 : decode cX2_refineClasses 89 = .ok (.goto (-47), 3) := dec_at kDX2_refineClasses_0 48 rfl
theorem dX2_refineClasses_92 : decode cX2_refineClasses 92 = .ok (.aload_n 0, 1) := dec_at kDX2_refineClasses_0 49 rfl
def DX2_refineClasses_50 : List (Nat × (Instr × Nat)) := [(93, (.getfield 35, 3)), (96, (.iload_n 2, 1)), (97, (.iload 4, 2)), (99, (.iastore, 1)), (100, (.iload_n 1, 1)), (101, (.ifCond .ne 9, 3)), (104, (.iload 4, 2)), (106, (.iload_n 3, 1)), (107, (.if_icmp .eq 7, 3)), (110, (.iconst 1, 1)), (111, (.goto 4, 3)), (114, (.iconst 0, 1)), (115, (.istore_n 1, 1)), (116, (.iinc 2 1, 3)), (119, (.goto (-115), 3)), (122, (.aload_n 0, 1)), (123, (.getfield 35, 3)), (126, (.iconst 0, 1)), (127, (.aload_n 0, 1)), (128, (.getfield 32, 3)), (131, (.iconst 0, 1)), (132, (.bipush 64, 2)), (134, (.invokestatic 128, 3)), (137, (.iload_n 1, 1)), (138, (.ireturn, 1))]
theorem kDX2_refineClasses_50 : DX2_refineClasses_50.all (fun q => decide (decode cX2_refineClasses q.1 = .ok q.2)) = true := by decide +kernel
theorem dX2_refineClasses_93 : decode cX2_refineClasses 93 = .ok (.getfield 35, 3) := dec_at kDX2_refineClasses_50 0 rfl
theorem dX2_refineClasses_96 : decode cX2_refineClasses 96 = .ok (.iload_n 2, 1) := dec_at kDX2_refineClasses_50 1 rfl
theorem dX2_refineClasses_97 : decode cX2_refineClasses 97 = .ok (.iload 4, 2) := dec_at kDX2_refineClasses_50 2 rfl
theorem dX2_refineClasses_99 : decode cX2_refineClasses 99 = .ok (.iastore, 1) := dec_at kDX2_refineClasses_50 3 rfl
theorem dX2_refineClasses_100 : decode cX2_refineClasses 100 = .ok (.iload_n 1, 1) := dec_at kDX2_refineClasses_50 4 rfl
theorem dX2_refineClasses_101 : decode cX2_refineClasses 101 = .ok (.ifCond .ne 9, 3) := dec_at kDX2_refineClasses_50 5 rfl
theorem dX2_refineClasses_104 : decode cX2_refineClasses 104 = .ok (.iload 4, 2) := dec_at kDX2_refineClasses_50 6 rfl
theorem dX2_refineClasses_106 : decode cX2_refineClasses 106 = .ok (.iload_n 3, 1) := dec_at kDX2_refineClasses_50 7 rfl
theorem dX2_refineClasses_107 : decode cX2_refineClasses 107 = .ok (.if_icmp .eq 7, 3) := dec_at kDX2_refineClasses_50 8 rfl
theorem dX2_refineClasses_110 : decode cX2_refineClasses 110 = .ok (.iconst 1, 1) := dec_at kDX2_refineClasses_50 9 rfl
theorem dX2_refineClasses_111 : decode cX2_refineClasses 111 = .ok (.goto 4, 3) := dec_at kDX2_refineClasses_50 10 rfl
theorem dX2_refineClasses_114 : decode cX2_refineClasses 114 = .ok (.iconst 0, 1) := dec_at kDX2_refineClasses_50 11 rfl
theorem dX2_refineClasses_115 : decode cX2_refineClasses 115 = .ok (.istore_n 1, 1) := dec_at kDX2_refineClasses_50 12 rfl
theorem dX2_refineClasses_116 : decode cX2_refineClasses 116 = .ok (.iinc 2 1, 3) := dec_at kDX2_refineClasses_50 13 rfl
theorem dX2_refineClasses_119 : decode cX2_refineClasses 119 = .ok (.goto (-115), 3) := dec_at kDX2_refineClasses_50 14 rfl
theorem dX2_refineClasses_122 : decode cX2_refineClasses 122 = .ok (.aload_n 0, 1) := dec_at kDX2_refineClasses_50 15 rfl
theorem dX2_refineClasses_123 : decode cX2_refineClasses 123 = .ok (.getfield 35, 3) := dec_at kDX2_refineClasses_50 16 rfl
theorem dX2_refineClasses_126 : decode cX2_refineClasses 126 = .ok (.iconst 0, 1) := dec_at kDX2_refineClasses_50 17 rfl
theorem dX2_refineClasses_127 : decode cX2_refineClasses 127 = .ok (.aload_n 0, 1) := dec_at kDX2_refineClasses_50 18 rfl
theorem dX2_refineClasses_128 : decode cX2_refineClasses 128 = .ok (.getfield 32, 3) := dec_at kDX2_refineClasses_50 19 rfl
theorem dX2_refineClasses_131 : decode cX2_refineClasses 131 = .ok (.iconst 0, 1) := dec_at kDX2_refineClasses_50 20 rfl
theorem dX2_refineClasses_132 : decode cX2_refineClasses 132 = .ok (.bipush 64, 2) := dec_at kDX2_refineClasses_50 21 rfl
theorem dX2_refineClasses_134 : decode cX2_refineClasses 134 = .ok (.invokestatic 128, 3) := dec_at kDX2_refineClasses_50 22 rfl
theorem dX2_refineClasses_137 : decode cX2_refineClasses 137 = .ok (.iload_n 1, 1) := dec_at kDX2_refineClasses_50 23 rfl
theorem dX2_refineClasses_138 : decode cX2_refineClasses 138 = .ok (.ireturn, 1) := dec_at kDX2_refineClasses_50 24 rfl
def DX2_goesAlike_0 : List (Nat × (Instr × Nat)) := [(0, (.iconst 0, 1)), (1, (.istore_n 3, 1)), (2, (.iload_n 3, 1)), (3, (.aload_n 0, 1)), (4, (.getfield 9, 3)), (7, (.getfield 69, 3)), (10, (.if_icmp .ge 34, 3)), (13, (.aload_n 0, 1)), (14, (.aload_n 0, 1)), (15, (.iload_n 1, 1)), (16, (.iload_n 3, 1)), (17, (.invokevirtual 134, 3)), (20, (.invokevirtual 137, 3)), (23, (.aload_n 0, 1)), (24, (.aload_n 0, 1)), (25, (.iload_n 2, 1)), (26, (.iload_n 3, 1)), (27, (.invokevirtual 134, 3)), (30, (.invokevirtual 137, 3)), (33, (.if_icmp .eq 5, 3)), (36, (.iconst 0, 1)), (37, (.ireturn, 1)), (38, (.iinc 3 1, 3)), (41, (.goto (-39), 3)), (44, (.iconst 1, 1)), (45, (.ireturn, 1))]
theorem kDX2_goesAlike_0 : DX2_goesAlike_0.all (fun q => decide (decode cX2_goesAlike q.1 = .ok q.2)) = true := by decide +kernel
theorem dX2_goesAlike_0 : decode cX2_goesAlike 0 = .ok (.iconst 0, 1) := dec_at kDX2_goesAlike_0 0 rfl
theorem dX2_goesAlike_1 : decode cX2_goesAlike 1 = .ok (.istore_n 3, 1) := dec_at kDX2_goesAlike_0 1 rfl
theorem dX2_goesAlike_2 : decode cX2_goesAlike 2 = .ok (.iload_n 3, 1) := dec_at kDX2_goesAlike_0 2 rfl
theorem dX2_goesAlike_3 : decode cX2_goesAlike 3 = .ok (.aload_n 0, 1) := dec_at kDX2_goesAlike_0 3 rfl
theorem dX2_goesAlike_4 : decode cX2_goesAlike 4 = .ok (.getfield 9, 3) := dec_at kDX2_goesAlike_0 4 rfl
theorem dX2_goesAlike_7 : decode cX2_goesAlike 7 = .ok (.getfield 69, 3) := dec_at kDX2_goesAlike_0 5 rfl
theorem dX2_goesAlike_10 : decode cX2_goesAlike 10 = .ok (.if_icmp .ge 34, 3) := dec_at kDX2_goesAlike_0 6 rfl
theorem dX2_goesAlike_13 : decode cX2_goesAlike 13 = .ok (.aload_n 0, 1) := dec_at kDX2_goesAlike_0 7 rfl
theorem dX2_goesAlike_14 : decode cX2_goesAlike 14 = .ok (.aload_n 0, 1) := dec_at kDX2_goesAlike_0 8 rfl
theorem dX2_goesAlike_15 : decode cX2_goesAlike 15 = .ok (.iload_n 1, 1) := dec_at kDX2_goesAlike_0 9 rfl
theorem dX2_goesAlike_16 : decode cX2_goesAlike 16 = .ok (.iload_n 3, 1) := dec_at kDX2_goesAlike_0 10 rfl
theorem dX2_goesAlike_17 : decode cX2_goesAlike 17 = .ok (.invokevirtual 134, 3) := dec_at kDX2_goesAlike_0 11 rfl
theorem dX2_goesAlike_20 : decode cX2_goesAlike 20 = .ok (.invokevirtual 137, 3) := dec_at kDX2_goesAlike_0 12 rfl
theorem dX2_goesAlike_23 : decode cX2_goesAlike 23 = .ok (.aload_n 0, 1) := dec_at kDX2_goesAlike_0 13 rfl
theorem dX2_goesAlike_24 : decode cX2_goesAlike 24 = .ok (.aload_n 0, 1) := dec_at kDX2_goesAlike_0 14 rfl
theorem dX2_goesAlike_25 : decode cX2_goesAlike 25 = .ok (.iload_n 2, 1) := dec_at kDX2_goesAlike_0 15 rfl
theorem dX2_goesAlike_26 : decode cX2_goesAlike 26 = .ok (.iload_n 3, 1) := dec_at kDX2_goesAlike_0 16 rfl
theorem dX2_goesAlike_27 : decode cX2_goesAlike 27 = .ok (.invokevirtual 134, 3) := dec_at kDX2_goesAlike_0 17 rfl
theorem dX2_goesAlike_30 : decode cX2_goesAlike 30 = .ok (.invokevirtual 137, 3) := dec_at kDX2_goesAlike_0 18 rfl
theorem dX2_goesAlike_33 : decode cX2_goesAlike 33 = .ok (.if_icmp .eq 5, 3) := dec_at kDX2_goesAlike_0 19 rfl
theorem dX2_goesAlike_36 : decode cX2_goesAlike 36 = .ok (.iconst 0, 1) := dec_at kDX2_goesAlike_0 20 rfl
theorem dX2_goesAlike_37 : decode cX2_goesAlike 37 = .ok (.ireturn, 1) := dec_at kDX2_goesAlike_0 21 rfl
theorem dX2_goesAlike_38 : decode cX2_goesAlike 38 = .ok (.iinc 3 1, 3) := dec_at kDX2_goesAlike_0 22 rfl
theorem dX2_goesAlike_41 : decode cX2_goesAlike 41 = .ok (.goto (-39), 3) := dec_at kDX2_goesAlike_0 23 rfl
theorem dX2_goesAlike_44 : decode cX2_goesAlike 44 = .ok (.iconst 1, 1) := dec_at kDX2_goesAlike_0 24 rfl
theorem dX2_goesAlike_45 : decode cX2_goesAlike 45 = .ok (.ireturn, 1) := dec_at kDX2_goesAlike_0 25 rfl
def DX2_classOf_0 : List (Nat × (Instr × Nat)) := [(0, (.iload_n 1, 1)), (1, (.ifCond .lt 18, 3)), (4, (.iload_n 1, 1)), (5, (.bipush 64, 2)), (7, (.if_icmp .ge 12, 3)), (10, (.aload_n 0, 1)), (11, (.getfield 32, 3)), (14, (.iload_n 1, 1)), (15, (.iaload, 1)), (16, (.goto 4, 3)), (19, (.iconst (-1), 1)), (20, (.ireturn, 1))]
theorem kDX2_classOf_0 : DX2_classOf_0.all (fun q => decide (decode cX2_classOf q.1 = .ok q.2)) = true := by decide +kernel
theorem dX2_classOf_0 : decode cX2_classOf 0 = .ok (.iload_n 1, 1) := dec_at kDX2_classOf_0 0 rfl
theorem dX2_classOf_1 : decode cX2_classOf 1 = .ok (.ifCond .lt 18, 3) := dec_at kDX2_classOf_0 1 rfl
theorem dX2_classOf_4 : decode cX2_classOf 4 = .ok (.iload_n 1, 1) := dec_at kDX2_classOf_0 2 rfl
theorem dX2_classOf_5 : decode cX2_classOf 5 = .ok (.bipush 64, 2) := dec_at kDX2_classOf_0 3 rfl
theorem dX2_classOf_7 : decode cX2_classOf 7 = .ok (.if_icmp .ge 12, 3) := dec_at kDX2_classOf_0 4 rfl
theorem dX2_classOf_10 : decode cX2_classOf 10 = .ok (.aload_n 0, 1) := dec_at kDX2_classOf_0 5 rfl
theorem dX2_classOf_11 : decode cX2_classOf 11 = .ok (.getfield 32, 3) := dec_at kDX2_classOf_0 6 rfl
theorem dX2_classOf_14 : decode cX2_classOf 14 = .ok (.iload_n 1, 1) := dec_at kDX2_classOf_0 7 rfl
theorem dX2_classOf_15 : decode cX2_classOf 15 = .ok (.iaload, 1) := dec_at kDX2_classOf_0 8 rfl
theorem dX2_classOf_16 : decode cX2_classOf 16 = .ok (.goto 4, 3) := dec_at kDX2_classOf_0 9 rfl
theorem dX2_classOf_19 : decode cX2_classOf 19 = .ok (.iconst (-1), 1) := dec_at kDX2_classOf_0 10 rfl
theorem dX2_classOf_20 : decode cX2_classOf 20 = .ok (.ireturn, 1) := dec_at kDX2_classOf_0 11 rfl
def DX2_nextOf_0 : List (Nat × (Instr × Nat)) := [(0, (.iload_n 1, 1)), (1, (.iconst 4, 1)), (2, (.imul, 1)), (3, (.iload_n 2, 1)), (4, (.iadd, 1)), (5, (.istore_n 3, 1)), (6, (.iload_n 3, 1)), (7, (.ifCond .lt 21, 3)), (10, (.iload_n 3, 1)), (11, (.aload_n 0, 1)), (12, (.getfield 15, 3)), (15, (.arraylength, 1)), (16, (.if_icmp .ge 12, 3)), (19, (.aload_n 0, 1)), (20, (.getfield 15, 3)), (23, (.iload_n 3, 1)), (24, (.iaload, 1)), (25, (.goto 4, 3)), (28, (.iconst 0, 1)), (29, (.ireturn, 1))]
theorem kDX2_nextOf_0 : DX2_nextOf_0.all (fun q => decide (decode cX2_nextOf q.1 = .ok q.2)) = true := by decide +kernel
theorem dX2_nextOf_0 : decode cX2_nextOf 0 = .ok (.iload_n 1, 1) := dec_at kDX2_nextOf_0 0 rfl
theorem dX2_nextOf_1 : decode cX2_nextOf 1 = .ok (.iconst 4, 1) := dec_at kDX2_nextOf_0 1 rfl
theorem dX2_nextOf_2 : decode cX2_nextOf 2 = .ok (.imul, 1) := dec_at kDX2_nextOf_0 2 rfl
theorem dX2_nextOf_3 : decode cX2_nextOf 3 = .ok (.iload_n 2, 1) := dec_at kDX2_nextOf_0 3 rfl
theorem dX2_nextOf_4 : decode cX2_nextOf 4 = .ok (.iadd, 1) := dec_at kDX2_nextOf_0 4 rfl
theorem dX2_nextOf_5 : decode cX2_nextOf 5 = .ok (.istore_n 3, 1) := dec_at kDX2_nextOf_0 5 rfl
theorem dX2_nextOf_6 : decode cX2_nextOf 6 = .ok (.iload_n 3, 1) := dec_at kDX2_nextOf_0 6 rfl
theorem dX2_nextOf_7 : decode cX2_nextOf 7 = .ok (.ifCond .lt 21, 3) := dec_at kDX2_nextOf_0 7 rfl
theorem dX2_nextOf_10 : decode cX2_nextOf 10 = .ok (.iload_n 3, 1) := dec_at kDX2_nextOf_0 8 rfl
theorem dX2_nextOf_11 : decode cX2_nextOf 11 = .ok (.aload_n 0, 1) := dec_at kDX2_nextOf_0 9 rfl
theorem dX2_nextOf_12 : decode cX2_nextOf 12 = .ok (.getfield 15, 3) := dec_at kDX2_nextOf_0 10 rfl
theorem dX2_nextOf_15 : decode cX2_nextOf 15 = .ok (.arraylength, 1) := dec_at kDX2_nextOf_0 11 rfl
theorem dX2_nextOf_16 : decode cX2_nextOf 16 = .ok (.if_icmp .ge 12, 3) := dec_at kDX2_nextOf_0 12 rfl
theorem dX2_nextOf_19 : decode cX2_nextOf 19 = .ok (.aload_n 0, 1) := dec_at kDX2_nextOf_0 13 rfl
theorem dX2_nextOf_20 : decode cX2_nextOf 20 = .ok (.getfield 15, 3) := dec_at kDX2_nextOf_0 14 rfl
theorem dX2_nextOf_23 : decode cX2_nextOf 23 = .ok (.iload_n 3, 1) := dec_at kDX2_nextOf_0 15 rfl
theorem dX2_nextOf_24 : decode cX2_nextOf 24 = .ok (.iaload, 1) := dec_at kDX2_nextOf_0 16 rfl
theorem dX2_nextOf_25 : decode cX2_nextOf 25 = .ok (.goto 4, 3) := dec_at kDX2_nextOf_0 17 rfl
theorem dX2_nextOf_28 : decode cX2_nextOf 28 = .ok (.iconst 0, 1) := dec_at kDX2_nextOf_0 18 rfl
theorem dX2_nextOf_29 : decode cX2_nextOf 29 = .ok (.ireturn, 1) := dec_at kDX2_nextOf_0 19 rfl
def DX2_depthOf_0 : List (Nat × (Instr × Nat)) := [(0, (.iload_n 1, 1)), (1, (.ifCond .lt 18, 3)), (4, (.iload_n 1, 1)), (5, (.bipush 64, 2)), (7, (.if_icmp .ge 12, 3)), (10, (.aload_n 0, 1)), (11, (.getfield 26, 3)), (14, (.iload_n 1, 1)), (15, (.iaload, 1)), (16, (.goto 4, 3)), (19, (.iconst (-1), 1)), (20, (.ireturn, 1))]
theorem kDX2_depthOf_0 : DX2_depthOf_0.all (fun q => decide (decode cX2_depthOf q.1 = .ok q.2)) = true := by decide +kernel
theorem dX2_depthOf_0 : decode cX2_depthOf 0 = .ok (.iload_n 1, 1) := dec_at kDX2_depthOf_0 0 rfl
theorem dX2_depthOf_1 : decode cX2_depthOf 1 = .ok (.ifCond .lt 18, 3) := dec_at kDX2_depthOf_0 1 rfl
theorem dX2_depthOf_4 : decode cX2_depthOf 4 = .ok (.iload_n 1, 1) := dec_at kDX2_depthOf_0 2 rfl
theorem dX2_depthOf_5 : decode cX2_depthOf 5 = .ok (.bipush 64, 2) := dec_at kDX2_depthOf_0 3 rfl
theorem dX2_depthOf_7 : decode cX2_depthOf 7 = .ok (.if_icmp .ge 12, 3) := dec_at kDX2_depthOf_0 4 rfl
theorem dX2_depthOf_10 : decode cX2_depthOf 10 = .ok (.aload_n 0, 1) := dec_at kDX2_depthOf_0 5 rfl
theorem dX2_depthOf_11 : decode cX2_depthOf 11 = .ok (.getfield 26, 3) := dec_at kDX2_depthOf_0 6 rfl
theorem dX2_depthOf_14 : decode cX2_depthOf 14 = .ok (.iload_n 1, 1) := dec_at kDX2_depthOf_0 7 rfl
theorem dX2_depthOf_15 : decode cX2_depthOf 15 = .ok (.iaload, 1) := dec_at kDX2_depthOf_0 8 rfl
theorem dX2_depthOf_16 : decode cX2_depthOf 16 = .ok (.goto 4, 3) := dec_at kDX2_depthOf_0 9 rfl
theorem dX2_depthOf_19 : decode cX2_depthOf 19 = .ok (.iconst (-1), 1) := dec_at kDX2_depthOf_0 10 rfl
theorem dX2_depthOf_20 : decode cX2_depthOf 20 = .ok (.ireturn, 1) := dec_at kDX2_depthOf_0 11 rfl
def DX2_distanceOf_0 : List (Nat × (Instr × Nat)) := [(0, (.iload_n 1, 1)), (1, (.ifCond .lt 18, 3)), (4, (.iload_n 1, 1)), (5, (.bipush 64, 2)), (7, (.if_icmp .ge 12, 3)), (10, (.aload_n 0, 1)), (11, (.getfield 29, 3)), (14, (.iload_n 1, 1)), (15, (.iaload, 1)), (16, (.goto 4, 3)), (19, (.iconst (-1), 1)), (20, (.ireturn, 1))]
theorem kDX2_distanceOf_0 : DX2_distanceOf_0.all (fun q => decide (decode cX2_distanceOf q.1 = .ok q.2)) = true := by decide +kernel
theorem dX2_distanceOf_0 : decode cX2_distanceOf 0 = .ok (.iload_n 1, 1) := dec_at kDX2_distanceOf_0 0 rfl
theorem dX2_distanceOf_1 : decode cX2_distanceOf 1 = .ok (.ifCond .lt 18, 3) := dec_at kDX2_distanceOf_0 1 rfl
theorem dX2_distanceOf_4 : decode cX2_distanceOf 4 = .ok (.iload_n 1, 1) := dec_at kDX2_distanceOf_0 2 rfl
theorem dX2_distanceOf_5 : decode cX2_distanceOf 5 = .ok (.bipush 64, 2) := dec_at kDX2_distanceOf_0 3 rfl
theorem dX2_distanceOf_7 : decode cX2_distanceOf 7 = .ok (.if_icmp .ge 12, 3) := dec_at kDX2_distanceOf_0 4 rfl
theorem dX2_distanceOf_10 : decode cX2_distanceOf 10 = .ok (.aload_n 0, 1) := dec_at kDX2_distanceOf_0 5 rfl
theorem dX2_distanceOf_11 : decode cX2_distanceOf 11 = .ok (.getfield 29, 3) := dec_at kDX2_distanceOf_0 6 rfl
theorem dX2_distanceOf_14 : decode cX2_distanceOf 14 = .ok (.iload_n 1, 1) := dec_at kDX2_distanceOf_0 7 rfl
theorem dX2_distanceOf_15 : decode cX2_distanceOf 15 = .ok (.iaload, 1) := dec_at kDX2_distanceOf_0 8 rfl
theorem dX2_distanceOf_16 : decode cX2_distanceOf 16 = .ok (.goto 4, 3) := dec_at kDX2_distanceOf_0 9 rfl
theorem dX2_distanceOf_19 : decode cX2_distanceOf 19 = .ok (.iconst (-1), 1) := dec_at kDX2_distanceOf_0 10 rfl
theorem dX2_distanceOf_20 : decode cX2_distanceOf 20 = .ok (.ireturn, 1) := dec_at kDX2_distanceOf_0 11 rfl
def DX2_classCount_0 : List (Nat × (Instr × Nat)) := [(0, (.iconst 0, 1)), (1, (.istore_n 1, 1)), (2, (.iconst 0, 1)), (3, (.istore_n 2, 1)), (4, (.iload_n 2, 1)), (5, (.aload_n 0, 1)), (6, (.getfield 9, 3)), (9, (.getfield 63, 3)), (12, (.if_icmp .ge 28, 3)), (15, (.iload_n 2, 1)), (16, (.bipush 64, 2)), (18, (.if_icmp .ge 22, 3)), (21, (.aload_n 0, 1)), (22, (.getfield 32, 3)), (25, (.iload_n 2, 1)), (26, (.iaload, 1)), (27, (.iload_n 2, 1)), (28, (.if_icmp .ne 6, 3)), (31, (.iinc 1 1, 3)), (34, (.iinc 2 1, 3)), (37, (.goto (-33), 3)), (40, (.iload_n 1, 1)), (41, (.ireturn, 1))]
theorem kDX2_classCount_0 : DX2_classCount_0.all (fun q => decide (decode cX2_classCount q.1 = .ok q.2)) = true := by decide +kernel
theorem dX2_classCount_0 : decode cX2_classCount 0 = .ok (.iconst 0, 1) := dec_at kDX2_classCount_0 0 rfl
theorem dX2_classCount_1 : decode cX2_classCount 1 = .ok (.istore_n 1, 1) := dec_at kDX2_classCount_0 1 rfl
theorem dX2_classCount_2 : decode cX2_classCount 2 = .ok (.iconst 0, 1) := dec_at kDX2_classCount_0 2 rfl
theorem dX2_classCount_3 : decode cX2_classCount 3 = .ok (.istore_n 2, 1) := dec_at kDX2_classCount_0 3 rfl
theorem dX2_classCount_4 : decode cX2_classCount 4 = .ok (.iload_n 2, 1) := dec_at kDX2_classCount_0 4 rfl
theorem dX2_classCount_5 : decode cX2_classCount 5 = .ok (.aload_n 0, 1) := dec_at kDX2_classCount_0 5 rfl
theorem dX2_classCount_6 : decode cX2_classCount 6 = .ok (.getfield 9, 3) := dec_at kDX2_classCount_0 6 rfl
theorem dX2_classCount_9 : decode cX2_classCount 9 = .ok (.getfield 63, 3) := dec_at kDX2_classCount_0 7 rfl
theorem dX2_classCount_12 : decode cX2_classCount 12 = .ok (.if_icmp .ge 28, 3) := dec_at kDX2_classCount_0 8 rfl
theorem dX2_classCount_15 : decode cX2_classCount 15 = .ok (.iload_n 2, 1) := dec_at kDX2_classCount_0 9 rfl
theorem dX2_classCount_16 : decode cX2_classCount 16 = .ok (.bipush 64, 2) := dec_at kDX2_classCount_0 10 rfl
theorem dX2_classCount_18 : decode cX2_classCount 18 = .ok (.if_icmp .ge 22, 3) := dec_at kDX2_classCount_0 11 rfl
theorem dX2_classCount_21 : decode cX2_classCount 21 = .ok (.aload_n 0, 1) := dec_at kDX2_classCount_0 12 rfl
theorem dX2_classCount_22 : decode cX2_classCount 22 = .ok (.getfield 32, 3) := dec_at kDX2_classCount_0 13 rfl
theorem dX2_classCount_25 : decode cX2_classCount 25 = .ok (.iload_n 2, 1) := dec_at kDX2_classCount_0 14 rfl
theorem dX2_classCount_26 : decode cX2_classCount 26 = .ok (.iaload, 1) := dec_at kDX2_classCount_0 15 rfl
theorem dX2_classCount_27 : decode cX2_classCount 27 = .ok (.iload_n 2, 1) := dec_at kDX2_classCount_0 16 rfl
theorem dX2_classCount_28 : decode cX2_classCount 28 = .ok (.if_icmp .ne 6, 3) := dec_at kDX2_classCount_0 17 rfl
theorem dX2_classCount_31 : decode cX2_classCount 31 = .ok (.iinc 1 1, 3) := dec_at kDX2_classCount_0 18 rfl
theorem dX2_classCount_34 : decode cX2_classCount 34 = .ok (.iinc 2 1, 3) := dec_at kDX2_classCount_0 19 rfl
theorem dX2_classCount_37 : decode cX2_classCount 37 = .ok (.goto (-33), 3) := dec_at kDX2_classCount_0 20 rfl
theorem dX2_classCount_40 : decode cX2_classCount 40 = .ok (.iload_n 1, 1) := dec_at kDX2_classCount_0 21 rfl
theorem dX2_classCount_41 : decode cX2_classCount 41 = .ok (.ireturn, 1) := dec_at kDX2_classCount_0 22 rfl
def DX2_stateOfShortestRun_0 : List (Nat × (Instr × Nat)) := [(0, (.iconst (-1), 1)), (1, (.istore_n 2, 1)), (2, (.bipush 63, 2)), (4, (.istore_n 3, 1)), (5, (.iload_n 3, 1)), (6, (.ifCond .lt 38, 3)), (9, (.aload_n 0, 1)), (10, (.getfield 9, 3)), (13, (.invokevirtual 86, 3)), (16, (.iload_n 3, 1)), (17, (.invokestatic 106, 3)), (20, (.ifCond .eq 18, 3)), (23, (.aload_n 0, 1)), (24, (.getfield 29, 3)), (27, (.iload_n 3, 1)), (28, (.iaload, 1)), (29, (.aload_n 0, 1)), (30, (.getfield 110, 3)), (33, (.if_icmp .ne 5, 3)), (36, (.iload_n 3, 1)), (37, (.istore_n 2, 1)), (38, (.iinc 3 (-1), 3)), (41, (.goto (-36), 3)), (44, (.iconst 0, 1)), (45, (.istore_n 3, 1)), (46, (.iload_n 3, 1)), (47, (.iload_n 1, 1)), (48, (.if_icmp .ge 20, 3)), (51, (.iload_n 2, 1)), (52, (.iconst (-1), 1)), (53, (.if_icmp .eq 15, 3)), (56, (.aload_n 0, 1)), (57, (.iload_n 2, 1)), (58, (.invokevirtual 141, 3)), (61, (.istore_n 2, 1)), (62, (.iinc 3 1, 3)), (65, (.goto (-19), 3)), (68, (.iload_n 2, 1)), (69, (.ireturn, 1))]
theorem kDX2_stateOfShortestRun_0 : DX2_stateOfShortestRun_0.all (fun q => decide (decode cX2_stateOfShortestRun q.1 = .ok q.2)) = true := by decide +kernel
theorem dX2_stateOfShortestRun_0 : decode cX2_stateOfShortestRun 0 = .ok (.iconst (-1), 1) := dec_at kDX2_stateOfShortestRun_0 0 rfl
theorem dX2_stateOfShortestRun_1 : decode cX2_stateOfShortestRun 1 = .ok (.istore_n 2, 1) := dec_at kDX2_stateOfShortestRun_0 1 rfl
theorem dX2_stateOfShortestRun_2 : decode cX2_stateOfShortestRun 2 = .ok (.bipush 63, 2) := dec_at kDX2_stateOfShortestRun_0 2 rfl
theorem dX2_stateOfShortestRun_4 : decode cX2_stateOfShortestRun 4 = .ok (.istore_n 3, 1) := dec_at kDX2_stateOfShortestRun_0 3 rfl
theorem dX2_stateOfShortestRun_5 : decode cX2_stateOfShortestRun 5 = .ok (.iload_n 3, 1) := dec_at kDX2_stateOfShortestRun_0 4 rfl
theorem dX2_stateOfShortestRun_6 : decode cX2_stateOfShortestRun 6 = .ok (.ifCond .lt 38, 3) := dec_at kDX2_stateOfShortestRun_0 5 rfl
theorem dX2_stateOfShortestRun_9 : decode cX2_stateOfShortestRun 9 = .ok (.aload_n 0, 1) := dec_at kDX2_stateOfShortestRun_0 6 rfl
theorem dX2_stateOfShortestRun_10 : decode cX2_stateOfShortestRun 10 = .ok (.getfield 9, 3) := dec_at kDX2_stateOfShortestRun_0 7 rfl
theorem dX2_stateOfShortestRun_13 : decode cX2_stateOfShortestRun 13 = .ok (.invokevirtual 86, 3) := dec_at kDX2_stateOfShortestRun_0 8 rfl
theorem dX2_stateOfShortestRun_16 : decode cX2_stateOfShortestRun 16 = .ok (.iload_n 3, 1) := dec_at kDX2_stateOfShortestRun_0 9 rfl
theorem dX2_stateOfShortestRun_17 : decode cX2_stateOfShortestRun 17 = .ok (.invokestatic 106, 3) := dec_at kDX2_stateOfShortestRun_0 10 rfl
theorem dX2_stateOfShortestRun_20 : decode cX2_stateOfShortestRun 20 = .ok (.ifCond .eq 18, 3) := dec_at kDX2_stateOfShortestRun_0 11 rfl
theorem dX2_stateOfShortestRun_23 : decode cX2_stateOfShortestRun 23 = .ok (.aload_n 0, 1) := dec_at kDX2_stateOfShortestRun_0 12 rfl
theorem dX2_stateOfShortestRun_24 : decode cX2_stateOfShortestRun 24 = .ok (.getfield 29, 3) := dec_at kDX2_stateOfShortestRun_0 13 rfl
theorem dX2_stateOfShortestRun_27 : decode cX2_stateOfShortestRun 27 = .ok (.iload_n 3, 1) := dec_at kDX2_stateOfShortestRun_0 14 rfl
theorem dX2_stateOfShortestRun_28 : decode cX2_stateOfShortestRun 28 = .ok (.iaload, 1) := dec_at kDX2_stateOfShortestRun_0 15 rfl
theorem dX2_stateOfShortestRun_29 : decode cX2_stateOfShortestRun 29 = .ok (.aload_n 0, 1) := dec_at kDX2_stateOfShortestRun_0 16 rfl
theorem dX2_stateOfShortestRun_30 : decode cX2_stateOfShortestRun 30 = .ok (.getfield 110, 3) := dec_at kDX2_stateOfShortestRun_0 17 rfl
theorem dX2_stateOfShortestRun_33 : decode cX2_stateOfShortestRun 33 = .ok (.if_icmp .ne 5, 3) := dec_at kDX2_stateOfShortestRun_0 18 rfl
theorem dX2_stateOfShortestRun_36 : decode cX2_stateOfShortestRun 36 = .ok (.iload_n 3, 1) := dec_at kDX2_stateOfShortestRun_0 19 rfl
theorem dX2_stateOfShortestRun_37 : decode cX2_stateOfShortestRun 37 = .ok (.istore_n 2, 1) := dec_at kDX2_stateOfShortestRun_0 20 rfl
theorem dX2_stateOfShortestRun_38 : decode cX2_stateOfShortestRun 38 = .ok (.iinc 3 (-1), 3) := dec_at kDX2_stateOfShortestRun_0 21 rfl
theorem dX2_stateOfShortestRun_41 : decode cX2_stateOfShortestRun 41 = .ok (.goto (-36), 3) := dec_at kDX2_stateOfShortestRun_0 22 rfl
theorem dX2_stateOfShortestRun_44 : decode cX2_stateOfShortestRun 44 = .ok (.iconst 0, 1) := dec_at kDX2_stateOfShortestRun_0 23 rfl
theorem dX2_stateOfShortestRun_45 : decode cX2_stateOfShortestRun 45 = .ok (.istore_n 3, 1) := dec_at kDX2_stateOfShortestRun_0 24 rfl
theorem dX2_stateOfShortestRun_46 : decode cX2_stateOfShortestRun 46 = .ok (.iload_n 3, 1) := dec_at kDX2_stateOfShortestRun_0 25 rfl
theorem dX2_stateOfShortestRun_47 : decode cX2_stateOfShortestRun 47 = .ok (.iload_n 1, 1) := dec_at kDX2_stateOfShortestRun_0 26 rfl
theorem dX2_stateOfShortestRun_48 : decode cX2_stateOfShortestRun 48 = .ok (.if_icmp .ge 20, 3) := dec_at kDX2_stateOfShortestRun_0 27 rfl
theorem dX2_stateOfShortestRun_51 : decode cX2_stateOfShortestRun 51 = .ok (.iload_n 2, 1) := dec_at kDX2_stateOfShortestRun_0 28 rfl
theorem dX2_stateOfShortestRun_52 : decode cX2_stateOfShortestRun 52 = .ok (.iconst (-1), 1) := dec_at kDX2_stateOfShortestRun_0 29 rfl
theorem dX2_stateOfShortestRun_53 : decode cX2_stateOfShortestRun 53 = .ok (.if_icmp .eq 15, 3) := dec_at kDX2_stateOfShortestRun_0 30 rfl
theorem dX2_stateOfShortestRun_56 : decode cX2_stateOfShortestRun 56 = .ok (.aload_n 0, 1) := dec_at kDX2_stateOfShortestRun_0 31 rfl
theorem dX2_stateOfShortestRun_57 : decode cX2_stateOfShortestRun 57 = .ok (.iload_n 2, 1) := dec_at kDX2_stateOfShortestRun_0 32 rfl
theorem dX2_stateOfShortestRun_58 : decode cX2_stateOfShortestRun 58 = .ok (.invokevirtual 141, 3) := dec_at kDX2_stateOfShortestRun_0 33 rfl
theorem dX2_stateOfShortestRun_61 : decode cX2_stateOfShortestRun 61 = .ok (.istore_n 2, 1) := dec_at kDX2_stateOfShortestRun_0 34 rfl
theorem dX2_stateOfShortestRun_62 : decode cX2_stateOfShortestRun 62 = .ok (.iinc 3 1, 3) := dec_at kDX2_stateOfShortestRun_0 35 rfl
theorem dX2_stateOfShortestRun_65 : decode cX2_stateOfShortestRun 65 = .ok (.goto (-19), 3) := dec_at kDX2_stateOfShortestRun_0 36 rfl
theorem dX2_stateOfShortestRun_68 : decode cX2_stateOfShortestRun 68 = .ok (.iload_n 2, 1) := dec_at kDX2_stateOfShortestRun_0 37 rfl
theorem dX2_stateOfShortestRun_69 : decode cX2_stateOfShortestRun 69 = .ok (.ireturn, 1) := dec_at kDX2_stateOfShortestRun_0 38 rfl
def DX2_leastNearer_0 : List (Nat × (Instr × Nat)) := [(0, (.iconst (-1), 1)), (1, (.istore_n 2, 1)), (2, (.iconst 0, 1)), (3, (.istore_n 3, 1)), (4, (.iload_n 3, 1)), (5, (.aload_n 0, 1)), (6, (.getfield 9, 3)), (9, (.getfield 69, 3)), (12, (.if_icmp .ge 59, 3)), (15, (.aload_n 0, 1)), (16, (.iload_n 1, 1)), (17, (.iload_n 3, 1)), (18, (.invokevirtual 134, 3)), (21, (.istore 4, 2)), (23, (.aload_n 0, 1)), (24, (.iload 4, 2)), (26, (.invokevirtual 144, 3)), (29, (.aload_n 0, 1)), (30, (.iload_n 1, 1)), (31, (.invokevirtual 144, 3)), (34, (.iconst 1, 1)), (35, (.isub, 1)), (36, (.if_icmp .ne 7, 3)), (39, (.iconst 1, 1)), (40, (.goto 4, 3)), (43, (.iconst 0, 1)), (44, (.istore 5, 2)), (46, (.iload 5, 2)), (48, (.ifCond .eq 17, 3)), (51, (.iload_n 2, 1)), (52, (.iconst (-1), 1)), (53, (.if_icmp .eq 9, 3)), (56, (.iload 4, 2)), (58, (.iload_n 2, 1)), (59, (.if_icmp .ge 6, 3)), (62, (.iload 4, 2)), (64, (.istore_n 2, 1)), (65, (.iinc 3 1, 3)), (68, (.goto (-64), 3)), (71, (.iload_n 2, 1)), (72, (.ireturn, 1))]
theorem kDX2_leastNearer_0 : DX2_leastNearer_0.all (fun q => decide (decode cX2_leastNearer q.1 = .ok q.2)) = true := by decide +kernel
theorem dX2_leastNearer_0 : decode cX2_leastNearer 0 = .ok (.iconst (-1), 1) := dec_at kDX2_leastNearer_0 0 rfl
theorem dX2_leastNearer_1 : decode cX2_leastNearer 1 = .ok (.istore_n 2, 1) := dec_at kDX2_leastNearer_0 1 rfl
theorem dX2_leastNearer_2 : decode cX2_leastNearer 2 = .ok (.iconst 0, 1) := dec_at kDX2_leastNearer_0 2 rfl
theorem dX2_leastNearer_3 : decode cX2_leastNearer 3 = .ok (.istore_n 3, 1) := dec_at kDX2_leastNearer_0 3 rfl
theorem dX2_leastNearer_4 : decode cX2_leastNearer 4 = .ok (.iload_n 3, 1) := dec_at kDX2_leastNearer_0 4 rfl
theorem dX2_leastNearer_5 : decode cX2_leastNearer 5 = .ok (.aload_n 0, 1) := dec_at kDX2_leastNearer_0 5 rfl
theorem dX2_leastNearer_6 : decode cX2_leastNearer 6 = .ok (.getfield 9, 3) := dec_at kDX2_leastNearer_0 6 rfl
theorem dX2_leastNearer_9 : decode cX2_leastNearer 9 = .ok (.getfield 69, 3) := dec_at kDX2_leastNearer_0 7 rfl
theorem dX2_leastNearer_12 : decode cX2_leastNearer 12 = .ok (.if_icmp .ge 59, 3) := dec_at kDX2_leastNearer_0 8 rfl
theorem dX2_leastNearer_15 : decode cX2_leastNearer 15 = .ok (.aload_n 0, 1) := dec_at kDX2_leastNearer_0 9 rfl
theorem dX2_leastNearer_16 : decode cX2_leastNearer 16 = .ok (.iload_n 1, 1) := dec_at kDX2_leastNearer_0 10 rfl
theorem dX2_leastNearer_17 : decode cX2_leastNearer 17 = .ok (.iload_n 3, 1) := dec_at kDX2_leastNearer_0 11 rfl
theorem dX2_leastNearer_18 : decode cX2_leastNearer 18 = .ok (.invokevirtual 134, 3) := dec_at kDX2_leastNearer_0 12 rfl
theorem dX2_leastNearer_21 : decode cX2_leastNearer 21 = .ok (.istore 4, 2) := dec_at kDX2_leastNearer_0 13 rfl
theorem dX2_leastNearer_23 : decode cX2_leastNearer 23 = .ok (.aload_n 0, 1) := dec_at kDX2_leastNearer_0 14 rfl
theorem dX2_leastNearer_24 : decode cX2_leastNearer 24 = .ok (.iload 4, 2) := dec_at kDX2_leastNearer_0 15 rfl
theorem dX2_leastNearer_26 : decode cX2_leastNearer 26 = .ok (.invokevirtual 144, 3) := dec_at kDX2_leastNearer_0 16 rfl
theorem dX2_leastNearer_29 : decode cX2_leastNearer 29 = .ok (.aload_n 0, 1) := dec_at kDX2_leastNearer_0 17 rfl
theorem dX2_leastNearer_30 : decode cX2_leastNearer 30 = .ok (.iload_n 1, 1) := dec_at kDX2_leastNearer_0 18 rfl
theorem dX2_leastNearer_31 : decode cX2_leastNearer 31 = .ok (.invokevirtual 144, 3) := dec_at kDX2_leastNearer_0 19 rfl
theorem dX2_leastNearer_34 : decode cX2_leastNearer 34 = .ok (.iconst 1, 1) := dec_at kDX2_leastNearer_0 20 rfl
theorem dX2_leastNearer_35 : decode cX2_leastNearer 35 = .ok (.isub, 1) := dec_at kDX2_leastNearer_0 21 rfl
theorem dX2_leastNearer_36 : decode cX2_leastNearer 36 = .ok (.if_icmp .ne 7, 3) := dec_at kDX2_leastNearer_0 22 rfl
theorem dX2_leastNearer_39 : decode cX2_leastNearer 39 = .ok (.iconst 1, 1) := dec_at kDX2_leastNearer_0 23 rfl
theorem dX2_leastNearer_40 : decode cX2_leastNearer 40 = .ok (.goto 4, 3) := dec_at kDX2_leastNearer_0 24 rfl
theorem dX2_leastNearer_43 : decode cX2_leastNearer 43 = .ok (.iconst 0, 1) := dec_at kDX2_leastNearer_0 25 rfl
theorem dX2_leastNearer_44 : decode cX2_leastNearer 44 = .ok (.istore 5, 2) := dec_at kDX2_leastNearer_0 26 rfl
theorem dX2_leastNearer_46 : decode cX2_leastNearer 46 = .ok (.iload 5, 2) := dec_at kDX2_leastNearer_0 27 rfl
theorem dX2_leastNearer_48 : decode cX2_leastNearer 48 = .ok (.ifCond .eq 17, 3) := dec_at kDX2_leastNearer_0 28 rfl
theorem dX2_leastNearer_51 : decode cX2_leastNearer 51 = .ok (.iload_n 2, 1) := dec_at kDX2_leastNearer_0 29 rfl
theorem dX2_leastNearer_52 : decode cX2_leastNearer 52 = .ok (.iconst (-1), 1) := dec_at kDX2_leastNearer_0 30 rfl
theorem dX2_leastNearer_53 : decode cX2_leastNearer 53 = .ok (.if_icmp .eq 9, 3) := dec_at kDX2_leastNearer_0 31 rfl
theorem dX2_leastNearer_56 : decode cX2_leastNearer 56 = .ok (.iload 4, 2) := dec_at kDX2_leastNearer_0 32 rfl
theorem dX2_leastNearer_58 : decode cX2_leastNearer 58 = .ok (.iload_n 2, 1) := dec_at kDX2_leastNearer_0 33 rfl
theorem dX2_leastNearer_59 : decode cX2_leastNearer 59 = .ok (.if_icmp .ge 6, 3) := dec_at kDX2_leastNearer_0 34 rfl
theorem dX2_leastNearer_62 : decode cX2_leastNearer 62 = .ok (.iload 4, 2) := dec_at kDX2_leastNearer_0 35 rfl
theorem dX2_leastNearer_64 : decode cX2_leastNearer 64 = .ok (.istore_n 2, 1) := dec_at kDX2_leastNearer_0 36 rfl
theorem dX2_leastNearer_65 : decode cX2_leastNearer 65 = .ok (.iinc 3 1, 3) := dec_at kDX2_leastNearer_0 37 rfl
theorem dX2_leastNearer_68 : decode cX2_leastNearer 68 = .ok (.goto (-64), 3) := dec_at kDX2_leastNearer_0 38 rfl
theorem dX2_leastNearer_71 : decode cX2_leastNearer 71 = .ok (.iload_n 2, 1) := dec_at kDX2_leastNearer_0 39 rfl
theorem dX2_leastNearer_72 : decode cX2_leastNearer 72 = .ok (.ireturn, 1) := dec_at kDX2_leastNearer_0 40 rfl
def DX2_inputToBadState_0 : List (Nat × (Instr × Nat)) := [(0, (.aload_n 0, 1)), (1, (.iload_n 1, 1)), (2, (.invokevirtual 141, 3)), (5, (.istore_n 2, 1)), (6, (.iload_n 2, 1)), (7, (.iconst (-1), 1)), (8, (.if_icmp .ne 7, 3)), (11, (.iconst (-1), 1)), (12, (.goto 11, 3)), (15, (.aload_n 0, 1)), (16, (.iload_n 1, 1)), (17, (.lconst 1, 1)), (18, (.iload_n 2, 1)), (19, (.lshl, 1)), (20, (.invokevirtual 147, 3)), (23, (.ireturn, 1))]
theorem kDX2_inputToBadState_0 : DX2_inputToBadState_0.all (fun q => decide (decode cX2_inputToBadState q.1 = .ok q.2)) = true := by decide +kernel
theorem dX2_inputToBadState_0 : decode cX2_inputToBadState 0 = .ok (.aload_n 0, 1) := dec_at kDX2_inputToBadState_0 0 rfl
theorem dX2_inputToBadState_1 : decode cX2_inputToBadState 1 = .ok (.iload_n 1, 1) := dec_at kDX2_inputToBadState_0 1 rfl
theorem dX2_inputToBadState_2 : decode cX2_inputToBadState 2 = .ok (.invokevirtual 141, 3) := dec_at kDX2_inputToBadState_0 2 rfl
theorem dX2_inputToBadState_5 : decode cX2_inputToBadState 5 = .ok (.istore_n 2, 1) := dec_at kDX2_inputToBadState_0 3 rfl
theorem dX2_inputToBadState_6 : decode cX2_inputToBadState 6 = .ok (.iload_n 2, 1) := dec_at kDX2_inputToBadState_0 4 rfl
theorem dX2_inputToBadState_7 : decode cX2_inputToBadState 7 = .ok (.iconst (-1), 1) := dec_at kDX2_inputToBadState_0 5 rfl
theorem dX2_inputToBadState_8 : decode cX2_inputToBadState 8 = .ok (.if_icmp .ne 7, 3) := dec_at kDX2_inputToBadState_0 6 rfl
theorem dX2_inputToBadState_11 : decode cX2_inputToBadState 11 = .ok (.iconst (-1), 1) := dec_at kDX2_inputToBadState_0 7 rfl
theorem dX2_inputToBadState_12 : decode cX2_inputToBadState 12 = .ok (.goto 11, 3) := dec_at kDX2_inputToBadState_0 8 rfl
theorem dX2_inputToBadState_15 : decode cX2_inputToBadState 15 = .ok (.aload_n 0, 1) := dec_at kDX2_inputToBadState_0 9 rfl
theorem dX2_inputToBadState_16 : decode cX2_inputToBadState 16 = .ok (.iload_n 1, 1) := dec_at kDX2_inputToBadState_0 10 rfl
theorem dX2_inputToBadState_17 : decode cX2_inputToBadState 17 = .ok (.lconst 1, 1) := dec_at kDX2_inputToBadState_0 11 rfl
theorem dX2_inputToBadState_18 : decode cX2_inputToBadState 18 = .ok (.iload_n 2, 1) := dec_at kDX2_inputToBadState_0 12 rfl
theorem dX2_inputToBadState_19 : decode cX2_inputToBadState 19 = .ok (.lshl, 1) := dec_at kDX2_inputToBadState_0 13 rfl
theorem dX2_inputToBadState_20 : decode cX2_inputToBadState 20 = .ok (.invokevirtual 147, 3) := dec_at kDX2_inputToBadState_0 14 rfl
theorem dX2_inputToBadState_23 : decode cX2_inputToBadState 23 = .ok (.ireturn, 1) := dec_at kDX2_inputToBadState_0 15 rfl
def DX2_leastInputInto_0 : List (Nat × (Instr × Nat)) := [(0, (.iconst 0, 1)), (1, (.istore 4, 2)), (3, (.iload 4, 2)), (5, (.aload_n 0, 1)), (6, (.getfield 9, 3)), (9, (.getfield 69, 3)), (12, (.if_icmp .ge 26, 3)), (15, (.lload_n 2, 1)), (16, (.aload_n 0, 1)), (17, (.iload_n 1, 1)), (18, (.iload 4, 2)), (20, (.invokevirtual 134, 3)), (23, (.invokestatic 106, 3)), (26, (.ifCond .eq 6, 3)), (29, (.iload 4, 2)), (31, (.ireturn, 1)), (32, (.iinc 4 1, 3)), (35, (.goto (-32), 3)), (38, (.iconst (-1), 1)), (39, (.ireturn, 1))]
theorem kDX2_leastInputInto_0 : DX2_leastInputInto_0.all (fun q => decide (decode cX2_leastInputInto q.1 = .ok q.2)) = true := by decide +kernel
theorem dX2_leastInputInto_0 : decode cX2_leastInputInto 0 = .ok (.iconst 0, 1) := dec_at kDX2_leastInputInto_0 0 rfl
theorem dX2_leastInputInto_1 : decode cX2_leastInputInto 1 = .ok (.istore 4, 2) := dec_at kDX2_leastInputInto_0 1 rfl
theorem dX2_leastInputInto_3 : decode cX2_leastInputInto 3 = .ok (.iload 4, 2) := dec_at kDX2_leastInputInto_0 2 rfl
theorem dX2_leastInputInto_5 : decode cX2_leastInputInto 5 = .ok (.aload_n 0, 1) := dec_at kDX2_leastInputInto_0 3 rfl
theorem dX2_leastInputInto_6 : decode cX2_leastInputInto 6 = .ok (.getfield 9, 3) := dec_at kDX2_leastInputInto_0 4 rfl
theorem dX2_leastInputInto_9 : decode cX2_leastInputInto 9 = .ok (.getfield 69, 3) := dec_at kDX2_leastInputInto_0 5 rfl
theorem dX2_leastInputInto_12 : decode cX2_leastInputInto 12 = .ok (.if_icmp .ge 26, 3) := dec_at kDX2_leastInputInto_0 6 rfl
theorem dX2_leastInputInto_15 : decode cX2_leastInputInto 15 = .ok (.lload_n 2, 1) := dec_at kDX2_leastInputInto_0 7 rfl
theorem dX2_leastInputInto_16 : decode cX2_leastInputInto 16 = .ok (.aload_n 0, 1) := dec_at kDX2_leastInputInto_0 8 rfl
theorem dX2_leastInputInto_17 : decode cX2_leastInputInto 17 = .ok (.iload_n 1, 1) := dec_at kDX2_leastInputInto_0 9 rfl
theorem dX2_leastInputInto_18 : decode cX2_leastInputInto 18 = .ok (.iload 4, 2) := dec_at kDX2_leastInputInto_0 10 rfl
theorem dX2_leastInputInto_20 : decode cX2_leastInputInto 20 = .ok (.invokevirtual 134, 3) := dec_at kDX2_leastInputInto_0 11 rfl
theorem dX2_leastInputInto_23 : decode cX2_leastInputInto 23 = .ok (.invokestatic 106, 3) := dec_at kDX2_leastInputInto_0 12 rfl
theorem dX2_leastInputInto_26 : decode cX2_leastInputInto 26 = .ok (.ifCond .eq 6, 3) := dec_at kDX2_leastInputInto_0 13 rfl
theorem dX2_leastInputInto_29 : decode cX2_leastInputInto 29 = .ok (.iload 4, 2) := dec_at kDX2_leastInputInto_0 14 rfl
theorem dX2_leastInputInto_31 : decode cX2_leastInputInto 31 = .ok (.ireturn, 1) := dec_at kDX2_leastInputInto_0 15 rfl
theorem dX2_leastInputInto_32 : decode cX2_leastInputInto 32 = .ok (.iinc 4 1, 3) := dec_at kDX2_leastInputInto_0 16 rfl
theorem dX2_leastInputInto_35 : decode cX2_leastInputInto 35 = .ok (.goto (-32), 3) := dec_at kDX2_leastInputInto_0 17 rfl
theorem dX2_leastInputInto_38 : decode cX2_leastInputInto 38 = .ok (.iconst (-1), 1) := dec_at kDX2_leastInputInto_0 18 rfl
theorem dX2_leastInputInto_39 : decode cX2_leastInputInto 39 = .ok (.ireturn, 1) := dec_at kDX2_leastInputInto_0 19 rfl
def DX2_successorsOf_0 : List (Nat × (Instr × Nat)) := [(0, (.lload_n 1, 1)), (1, (.aload_n 0, 1)), (2, (.getfield 19, 3)), (5, (.invokestatic 151, 3)), (8, (.lreturn, 1))]
theorem kDX2_successorsOf_0 : DX2_successorsOf_0.all (fun q => decide (decode cX2_successorsOf q.1 = .ok q.2)) = true := by decide +kernel
theorem dX2_successorsOf_0 : decode cX2_successorsOf 0 = .ok (.lload_n 1, 1) := dec_at kDX2_successorsOf_0 0 rfl
theorem dX2_successorsOf_1 : decode cX2_successorsOf 1 = .ok (.aload_n 0, 1) := dec_at kDX2_successorsOf_0 1 rfl
theorem dX2_successorsOf_2 : decode cX2_successorsOf 2 = .ok (.getfield 19, 3) := dec_at kDX2_successorsOf_0 2 rfl
theorem dX2_successorsOf_5 : decode cX2_successorsOf 5 = .ok (.invokestatic 151, 3) := dec_at kDX2_successorsOf_0 3 rfl
theorem dX2_successorsOf_8 : decode cX2_successorsOf 8 = .ok (.lreturn, 1) := dec_at kDX2_successorsOf_0 4 rfl
def DX2_predecessorsOf_0 : List (Nat × (Instr × Nat)) := [(0, (.lload_n 1, 1)), (1, (.aload_n 0, 1)), (2, (.getfield 23, 3)), (5, (.invokestatic 151, 3)), (8, (.lreturn, 1))]
theorem kDX2_predecessorsOf_0 : DX2_predecessorsOf_0.all (fun q => decide (decode cX2_predecessorsOf q.1 = .ok q.2)) = true := by decide +kernel
theorem dX2_predecessorsOf_0 : decode cX2_predecessorsOf 0 = .ok (.lload_n 1, 1) := dec_at kDX2_predecessorsOf_0 0 rfl
theorem dX2_predecessorsOf_1 : decode cX2_predecessorsOf 1 = .ok (.aload_n 0, 1) := dec_at kDX2_predecessorsOf_0 1 rfl
theorem dX2_predecessorsOf_2 : decode cX2_predecessorsOf 2 = .ok (.getfield 23, 3) := dec_at kDX2_predecessorsOf_0 2 rfl
theorem dX2_predecessorsOf_5 : decode cX2_predecessorsOf 5 = .ok (.invokestatic 151, 3) := dec_at kDX2_predecessorsOf_0 3 rfl
theorem dX2_predecessorsOf_8 : decode cX2_predecessorsOf 8 = .ok (.lreturn, 1) := dec_at kDX2_predecessorsOf_0 4 rfl
def DX2_unionOver_0 : List (Nat × (Instr × Nat)) := [(0, (.lconst 0, 1)), (1, (.lstore_n 3, 1)), (2, (.lload_n 0, 1)), (3, (.lstore 5, 2)), (5, (.iconst 0, 1)), (6, (.istore 7, 2)), (8, (.iload 7, 2)), (10, (.bipush 64, 2)), (12, (.if_icmp .ge 51, 3)), (15, (.lload 5, 2)), (17, (.lconst 0, 1)), (18, (.lcmp, 1)), (19, (.ifCond .eq 44, 3)), (22, (.lload 5, 2)), (24, (.invokestatic 116, 3)), (27, (.istore 8, 2)), (29, (.iload 8, 2)), (31, (.ifCond .lt 17, 3)), (34, (.iload 8, 2)), (36, (.aload_n 2, 1)), (37, (.arraylength, 1)), (38, (.if_icmp .ge 10, 3)), (41, (.lload_n 3, 1)), (42, (.aload_n 2, 1)), (43, (.iload 8, 2)), (45, (.laload, 1)), (46, (.lor, 1)), (47, (.lstore_n 3, 1)), (48, (.lload 5, 2)), (50, (.lload 5, 2)), (52, (.lconst 1, 1)), (53, (.lsub, 1)), (54, (.land, 1)), (55, (.lstore 5, 2)), (57, (.iinc 7 1, 3)), (60, (.goto (-52), 3)), (63, (.lload_n 3, 1)), (64, (.lreturn, 1))]
theorem kDX2_unionOver_0 : DX2_unionOver_0.all (fun q => decide (decode cX2_unionOver q.1 = .ok q.2)) = true := by decide +kernel
theorem dX2_unionOver_0 : decode cX2_unionOver 0 = .ok (.lconst 0, 1) := dec_at kDX2_unionOver_0 0 rfl
theorem dX2_unionOver_1 : decode cX2_unionOver 1 = .ok (.lstore_n 3, 1) := dec_at kDX2_unionOver_0 1 rfl
theorem dX2_unionOver_2 : decode cX2_unionOver 2 = .ok (.lload_n 0, 1) := dec_at kDX2_unionOver_0 2 rfl
theorem dX2_unionOver_3 : decode cX2_unionOver 3 = .ok (.lstore 5, 2) := dec_at kDX2_unionOver_0 3 rfl
theorem dX2_unionOver_5 : decode cX2_unionOver 5 = .ok (.iconst 0, 1) := dec_at kDX2_unionOver_0 4 rfl
theorem dX2_unionOver_6 : decode cX2_unionOver 6 = .ok (.istore 7, 2) := dec_at kDX2_unionOver_0 5 rfl
theorem dX2_unionOver_8 : decode cX2_unionOver 8 = .ok (.iload 7, 2) := dec_at kDX2_unionOver_0 6 rfl
theorem dX2_unionOver_10 : decode cX2_unionOver 10 = .ok (.bipush 64, 2) := dec_at kDX2_unionOver_0 7 rfl
theorem dX2_unionOver_12 : decode cX2_unionOver 12 = .ok (.if_icmp .ge 51, 3) := dec_at kDX2_unionOver_0 8 rfl
theorem dX2_unionOver_15 : decode cX2_unionOver 15 = .ok (.lload 5, 2) := dec_at kDX2_unionOver_0 9 rfl
theorem dX2_unionOver_17 : decode cX2_unionOver 17 = .ok (.lconst 0, 1) := dec_at kDX2_unionOver_0 10 rfl
theorem dX2_unionOver_18 : decode cX2_unionOver 18 = .ok (.lcmp, 1) := dec_at kDX2_unionOver_0 11 rfl
theorem dX2_unionOver_19 : decode cX2_unionOver 19 = .ok (.ifCond .eq 44, 3) := dec_at kDX2_unionOver_0 12 rfl
theorem dX2_unionOver_22 : decode cX2_unionOver 22 = .ok (.lload 5, 2) := dec_at kDX2_unionOver_0 13 rfl
theorem dX2_unionOver_24 : decode cX2_unionOver 24 = .ok (.invokestatic 116, 3) := dec_at kDX2_unionOver_0 14 rfl
theorem dX2_unionOver_27 : decode cX2_unionOver 27 = .ok (.istore 8, 2) := dec_at kDX2_unionOver_0 15 rfl
theorem dX2_unionOver_29 : decode cX2_unionOver 29 = .ok (.iload 8, 2) := dec_at kDX2_unionOver_0 16 rfl
theorem dX2_unionOver_31 : decode cX2_unionOver 31 = .ok (.ifCond .lt 17, 3) := dec_at kDX2_unionOver_0 17 rfl
theorem dX2_unionOver_34 : decode cX2_unionOver 34 = .ok (.iload 8, 2) := dec_at kDX2_unionOver_0 18 rfl
theorem dX2_unionOver_36 : decode cX2_unionOver 36 = .ok (.aload_n 2, 1) := dec_at kDX2_unionOver_0 19 rfl
theorem dX2_unionOver_37 : decode cX2_unionOver 37 = .ok (.arraylength, 1) := dec_at kDX2_unionOver_0 20 rfl
theorem dX2_unionOver_38 : decode cX2_unionOver 38 = .ok (.if_icmp .ge 10, 3) := dec_at kDX2_unionOver_0 21 rfl
theorem dX2_unionOver_41 : decode cX2_unionOver 41 = .ok (.lload_n 3, 1) := dec_at kDX2_unionOver_0 22 rfl
theorem dX2_unionOver_42 : decode cX2_unionOver 42 = .ok (.aload_n 2, 1) := dec_at kDX2_unionOver_0 23 rfl
theorem dX2_unionOver_43 : decode cX2_unionOver 43 = .ok (.iload 8, 2) := dec_at kDX2_unionOver_0 24 rfl
theorem dX2_unionOver_45 : decode cX2_unionOver 45 = .ok (.laload, 1) := dec_at kDX2_unionOver_0 25 rfl
theorem dX2_unionOver_46 : decode cX2_unionOver 46 = .ok (.lor, 1) := dec_at kDX2_unionOver_0 26 rfl
theorem dX2_unionOver_47 : decode cX2_unionOver 47 = .ok (.lstore_n 3, 1) := dec_at kDX2_unionOver_0 27 rfl
theorem dX2_unionOver_48 : decode cX2_unionOver 48 = .ok (.lload 5, 2) := dec_at kDX2_unionOver_0 28 rfl
theorem dX2_unionOver_50 : decode cX2_unionOver 50 = .ok (.lload 5, 2) := dec_at kDX2_unionOver_0 29 rfl
theorem dX2_unionOver_52 : decode cX2_unionOver 52 = .ok (.lconst 1, 1) := dec_at kDX2_unionOver_0 30 rfl
theorem dX2_unionOver_53 : decode cX2_unionOver 53 = .ok (.lsub, 1) := dec_at kDX2_unionOver_0 31 rfl
theorem dX2_unionOver_54 : decode cX2_unionOver 54 = .ok (.land, 1) := dec_at kDX2_unionOver_0 32 rfl
theorem dX2_unionOver_55 : decode cX2_unionOver 55 = .ok (.lstore 5, 2) := dec_at kDX2_unionOver_0 33 rfl
theorem dX2_unionOver_57 : decode cX2_unionOver 57 = .ok (.iinc 7 1, 3) := dec_at kDX2_unionOver_0 34 rfl
theorem dX2_unionOver_60 : decode cX2_unionOver 60 = .ok (.goto (-52), 3) := dec_at kDX2_unionOver_0 35 rfl
theorem dX2_unionOver_63 : decode cX2_unionOver 63 = .ok (.lload_n 3, 1) := dec_at kDX2_unionOver_0 36 rfl
theorem dX2_unionOver_64 : decode cX2_unionOver 64 = .ok (.lreturn, 1) := dec_at kDX2_unionOver_0 37 rfl
def DX2_statesThatCanReach_0 : List (Nat × (Instr × Nat)) := [(0, (.lload_n 1, 1)), (1, (.lstore_n 3, 1)), (2, (.lload_n 1, 1)), (3, (.lstore 5, 2)), (5, (.iconst 0, 1)), (6, (.istore 7, 2)), (8, (.iload 7, 2)), (10, (.bipush 64, 2)), (12, (.if_icmp .ge 35, 3)), (15, (.lload 5, 2)), (17, (.lconst 0, 1)), (18, (.lcmp, 1)), (19, (.ifCond .eq 28, 3)), (22, (.aload_n 0, 1)), (23, (.lload 5, 2)), (25, (.invokevirtual 103, 3)), (28, (.lload_n 3, 1)), (29, (.ldc2_w 98, 3)), (32, (.lxor, 1)), (33, (.land, 1)), (34, (.lstore 5, 2)), (36, (.lload_n 3, 1)), (37, (.lload 5, 2)), (39, (.lor, 1)), (40, (.lstore_n 3, 1)), (41, (.iinc 7 1, 3)), (44, (.goto (-36), 3)), (47, (.lload_n 3, 1)), (48, (.lreturn, 1))]
theorem kDX2_statesThatCanReach_0 : DX2_statesThatCanReach_0.all (fun q => decide (decode cX2_statesThatCanReach q.1 = .ok q.2)) = true := by decide +kernel
theorem dX2_statesThatCanReach_0 : decode cX2_statesThatCanReach 0 = .ok (.lload_n 1, 1) := dec_at kDX2_statesThatCanReach_0 0 rfl
theorem dX2_statesThatCanReach_1 : decode cX2_statesThatCanReach 1 = .ok (.lstore_n 3, 1) := dec_at kDX2_statesThatCanReach_0 1 rfl
theorem dX2_statesThatCanReach_2 : decode cX2_statesThatCanReach 2 = .ok (.lload_n 1, 1) := dec_at kDX2_statesThatCanReach_0 2 rfl
theorem dX2_statesThatCanReach_3 : decode cX2_statesThatCanReach 3 = .ok (.lstore 5, 2) := dec_at kDX2_statesThatCanReach_0 3 rfl
theorem dX2_statesThatCanReach_5 : decode cX2_statesThatCanReach 5 = .ok (.iconst 0, 1) := dec_at kDX2_statesThatCanReach_0 4 rfl
theorem dX2_statesThatCanReach_6 : decode cX2_statesThatCanReach 6 = .ok (.istore 7, 2) := dec_at kDX2_statesThatCanReach_0 5 rfl
theorem dX2_statesThatCanReach_8 : decode cX2_statesThatCanReach 8 = .ok (.iload 7, 2) := dec_at kDX2_statesThatCanReach_0 6 rfl
theorem dX2_statesThatCanReach_10 : decode cX2_statesThatCanReach 10 = .ok (.bipush 64, 2) := dec_at kDX2_statesThatCanReach_0 7 rfl
theorem dX2_statesThatCanReach_12 : decode cX2_statesThatCanReach 12 = .ok (.if_icmp .ge 35, 3) := dec_at kDX2_statesThatCanReach_0 8 rfl
theorem dX2_statesThatCanReach_15 : decode cX2_statesThatCanReach 15 = .ok (.lload 5, 2) := dec_at kDX2_statesThatCanReach_0 9 rfl
theorem dX2_statesThatCanReach_17 : decode cX2_statesThatCanReach 17 = .ok (.lconst 0, 1) := dec_at kDX2_statesThatCanReach_0 10 rfl
theorem dX2_statesThatCanReach_18 : decode cX2_statesThatCanReach 18 = .ok (.lcmp, 1) := dec_at kDX2_statesThatCanReach_0 11 rfl
theorem dX2_statesThatCanReach_19 : decode cX2_statesThatCanReach 19 = .ok (.ifCond .eq 28, 3) := dec_at kDX2_statesThatCanReach_0 12 rfl
theorem dX2_statesThatCanReach_22 : decode cX2_statesThatCanReach 22 = .ok (.aload_n 0, 1) := dec_at kDX2_statesThatCanReach_0 13 rfl
theorem dX2_statesThatCanReach_23 : decode cX2_statesThatCanReach 23 = .ok (.lload 5, 2) := dec_at kDX2_statesThatCanReach_0 14 rfl
theorem dX2_statesThatCanReach_25 : decode cX2_statesThatCanReach 25 = .ok (.invokevirtual 103, 3) := dec_at kDX2_statesThatCanReach_0 15 rfl
theorem dX2_statesThatCanReach_28 : decode cX2_statesThatCanReach 28 = .ok (.lload_n 3, 1) := dec_at kDX2_statesThatCanReach_0 16 rfl
theorem dX2_statesThatCanReach_29 : decode cX2_statesThatCanReach 29 = .ok (.ldc2_w 98, 3) := dec_at kDX2_statesThatCanReach_0 17 rfl
theorem dX2_statesThatCanReach_32 : decode cX2_statesThatCanReach 32 = .ok (.lxor, 1) := dec_at kDX2_statesThatCanReach_0 18 rfl
theorem dX2_statesThatCanReach_33 : decode cX2_statesThatCanReach 33 = .ok (.land, 1) := dec_at kDX2_statesThatCanReach_0 19 rfl
theorem dX2_statesThatCanReach_34 : decode cX2_statesThatCanReach 34 = .ok (.lstore 5, 2) := dec_at kDX2_statesThatCanReach_0 20 rfl
theorem dX2_statesThatCanReach_36 : decode cX2_statesThatCanReach 36 = .ok (.lload_n 3, 1) := dec_at kDX2_statesThatCanReach_0 21 rfl
theorem dX2_statesThatCanReach_37 : decode cX2_statesThatCanReach 37 = .ok (.lload 5, 2) := dec_at kDX2_statesThatCanReach_0 22 rfl
theorem dX2_statesThatCanReach_39 : decode cX2_statesThatCanReach 39 = .ok (.lor, 1) := dec_at kDX2_statesThatCanReach_0 23 rfl
theorem dX2_statesThatCanReach_40 : decode cX2_statesThatCanReach 40 = .ok (.lstore_n 3, 1) := dec_at kDX2_statesThatCanReach_0 24 rfl
theorem dX2_statesThatCanReach_41 : decode cX2_statesThatCanReach 41 = .ok (.iinc 7 1, 3) := dec_at kDX2_statesThatCanReach_0 25 rfl
theorem dX2_statesThatCanReach_44 : decode cX2_statesThatCanReach 44 = .ok (.goto (-36), 3) := dec_at kDX2_statesThatCanReach_0 26 rfl
theorem dX2_statesThatCanReach_47 : decode cX2_statesThatCanReach 47 = .ok (.lload_n 3, 1) := dec_at kDX2_statesThatCanReach_0 27 rfl
theorem dX2_statesThatCanReach_48 : decode cX2_statesThatCanReach 48 = .ok (.lreturn, 1) := dec_at kDX2_statesThatCanReach_0 28 rfl
def DX2_statesThatCanStayIn_0 : List (Nat × (Instr × Nat)) := [(0, (.lload_n 1, 1)), (1, (.lstore_n 3, 1)), (2, (.iconst 1, 1)), (3, (.istore 5, 2)), (5, (.iconst 0, 1)), (6, (.istore 6, 2)), (8, (.iload 6, 2)), (10, (.bipush 64, 2)), (12, (.if_icmp .gt 40, 3)), (15, (.iload 5, 2)), (17, (.ifCond .eq 35, 3)), (20, (.lload_n 3, 1)), (21, (.aload_n 0, 1)), (22, (.lload_n 3, 1)), (23, (.invokevirtual 103, 3)), (26, (.land, 1)), (27, (.lstore 7, 2)), (29, (.lload 7, 2)), (31, (.lload_n 3, 1)), (32, (.lcmp, 1)), (33, (.ifCond .eq 7, 3)), (36, (.iconst 1, 1)), (37, (.goto 4, 3)), (40, (.iconst 0, 1)), (41, (.istore 5, 2)), (43, (.lload 7, 2)), (45, (.lstore_n 3, 1)), (46, (.iinc 6 1, 3)), (49, (.goto (-41), 3)), (52, (.lload_n 3, 1)), (53, (.lreturn, 1))]
theorem kDX2_statesThatCanStayIn_0 : DX2_statesThatCanStayIn_0.all (fun q => decide (decode cX2_statesThatCanStayIn q.1 = .ok q.2)) = true := by decide +kernel
theorem dX2_statesThatCanStayIn_0 : decode cX2_statesThatCanStayIn 0 = .ok (.lload_n 1, 1) := dec_at kDX2_statesThatCanStayIn_0 0 rfl
theorem dX2_statesThatCanStayIn_1 : decode cX2_statesThatCanStayIn 1 = .ok (.lstore_n 3, 1) := dec_at kDX2_statesThatCanStayIn_0 1 rfl
theorem dX2_statesThatCanStayIn_2 : decode cX2_statesThatCanStayIn 2 = .ok (.iconst 1, 1) := dec_at kDX2_statesThatCanStayIn_0 2 rfl
theorem dX2_statesThatCanStayIn_3 : decode cX2_statesThatCanStayIn 3 = .ok (.istore 5, 2) := dec_at kDX2_statesThatCanStayIn_0 3 rfl
theorem dX2_statesThatCanStayIn_5 : decode cX2_statesThatCanStayIn 5 = .ok (.iconst 0, 1) := dec_at kDX2_statesThatCanStayIn_0 4 rfl
theorem dX2_statesThatCanStayIn_6 : decode cX2_statesThatCanStayIn 6 = .ok (.istore 6, 2) := dec_at kDX2_statesThatCanStayIn_0 5 rfl
theorem dX2_statesThatCanStayIn_8 : decode cX2_statesThatCanStayIn 8 = .ok (.iload 6, 2) := dec_at kDX2_statesThatCanStayIn_0 6 rfl
theorem dX2_statesThatCanStayIn_10 : decode cX2_statesThatCanStayIn 10 = .ok (.bipush 64, 2) := dec_at kDX2_statesThatCanStayIn_0 7 rfl
theorem dX2_statesThatCanStayIn_12 : decode cX2_statesThatCanStayIn 12 = .ok (.if_icmp .gt 40, 3) := dec_at kDX2_statesThatCanStayIn_0 8 rfl
theorem dX2_statesThatCanStayIn_15 : decode cX2_statesThatCanStayIn 15 = .ok (.iload 5, 2) := dec_at kDX2_statesThatCanStayIn_0 9 rfl
theorem dX2_statesThatCanStayIn_17 : decode cX2_statesThatCanStayIn 17 = .ok (.ifCond .eq 35, 3) := dec_at kDX2_statesThatCanStayIn_0 10 rfl
theorem dX2_statesThatCanStayIn_20 : decode cX2_statesThatCanStayIn 20 = .ok (.lload_n 3, 1) := dec_at kDX2_statesThatCanStayIn_0 11 rfl
theorem dX2_statesThatCanStayIn_21 : decode cX2_statesThatCanStayIn 21 = .ok (.aload_n 0, 1) := dec_at kDX2_statesThatCanStayIn_0 12 rfl
theorem dX2_statesThatCanStayIn_22 : decode cX2_statesThatCanStayIn 22 = .ok (.lload_n 3, 1) := dec_at kDX2_statesThatCanStayIn_0 13 rfl
theorem dX2_statesThatCanStayIn_23 : decode cX2_statesThatCanStayIn 23 = .ok (.invokevirtual 103, 3) := dec_at kDX2_statesThatCanStayIn_0 14 rfl
theorem dX2_statesThatCanStayIn_26 : decode cX2_statesThatCanStayIn 26 = .ok (.land, 1) := dec_at kDX2_statesThatCanStayIn_0 15 rfl
theorem dX2_statesThatCanStayIn_27 : decode cX2_statesThatCanStayIn 27 = .ok (.lstore 7, 2) := dec_at kDX2_statesThatCanStayIn_0 16 rfl
theorem dX2_statesThatCanStayIn_29 : decode cX2_statesThatCanStayIn 29 = .ok (.lload 7, 2) := dec_at kDX2_statesThatCanStayIn_0 17 rfl
theorem dX2_statesThatCanStayIn_31 : decode cX2_statesThatCanStayIn 31 = .ok (.lload_n 3, 1) := dec_at kDX2_statesThatCanStayIn_0 18 rfl
theorem dX2_statesThatCanStayIn_32 : decode cX2_statesThatCanStayIn 32 = .ok (.lcmp, 1) := dec_at kDX2_statesThatCanStayIn_0 19 rfl
theorem dX2_statesThatCanStayIn_33 : decode cX2_statesThatCanStayIn 33 = .ok (.ifCond .eq 7, 3) := dec_at kDX2_statesThatCanStayIn_0 20 rfl
theorem dX2_statesThatCanStayIn_36 : decode cX2_statesThatCanStayIn 36 = .ok (.iconst 1, 1) := dec_at kDX2_statesThatCanStayIn_0 21 rfl
theorem dX2_statesThatCanStayIn_37 : decode cX2_statesThatCanStayIn 37 = .ok (.goto 4, 3) := dec_at kDX2_statesThatCanStayIn_0 22 rfl
theorem dX2_statesThatCanStayIn_40 : decode cX2_statesThatCanStayIn 40 = .ok (.iconst 0, 1) := dec_at kDX2_statesThatCanStayIn_0 23 rfl
theorem dX2_statesThatCanStayIn_41 : decode cX2_statesThatCanStayIn 41 = .ok (.istore 5, 2) := dec_at kDX2_statesThatCanStayIn_0 24 rfl
theorem dX2_statesThatCanStayIn_43 : decode cX2_statesThatCanStayIn 43 = .ok (.lload 7, 2) := dec_at kDX2_statesThatCanStayIn_0 25 rfl
theorem dX2_statesThatCanStayIn_45 : decode cX2_statesThatCanStayIn 45 = .ok (.lstore_n 3, 1) := dec_at kDX2_statesThatCanStayIn_0 26 rfl
theorem dX2_statesThatCanStayIn_46 : decode cX2_statesThatCanStayIn 46 = .ok (.iinc 6 1, 3) := dec_at kDX2_statesThatCanStayIn_0 27 rfl
theorem dX2_statesThatCanStayIn_49 : decode cX2_statesThatCanStayIn 49 = .ok (.goto (-41), 3) := dec_at kDX2_statesThatCanStayIn_0 28 rfl
theorem dX2_statesThatCanStayIn_52 : decode cX2_statesThatCanStayIn 52 = .ok (.lload_n 3, 1) := dec_at kDX2_statesThatCanStayIn_0 29 rfl
theorem dX2_statesThatCanStayIn_53 : decode cX2_statesThatCanStayIn 53 = .ok (.lreturn, 1) := dec_at kDX2_statesThatCanStayIn_0 30 rfl
def DX3_init_0 : List (Nat × (Instr × Nat)) := [(0, (.aload_n 0, 1)), (1, (.invokespecial 3, 3)), (4, (.aload_n 0, 1)), (5, (.bipush 60, 2)), (7, (.newarray .int, 2)), (9, (.putfield 11, 3)), (12, (.aload_n 0, 1)), (13, (.bipush 60, 2)), (15, (.newarray .int, 2)), (17, (.putfield 15, 3)), (20, (.aload_n 0, 1)), (21, (.bipush 60, 2)), (23, (.newarray .long, 2)), (25, (.putfield 18, 3)), (28, (.return_, 1))]
theorem kDX3_init_0 : DX3_init_0.all (fun q => decide (decode cX3_init q.1 = .ok q.2)) = true := by decide +kernel
theorem dX3_init_0 : decode cX3_init 0 = .ok (.aload_n 0, 1) := dec_at kDX3_init_0 0 rfl
theorem dX3_init_1 : decode cX3_init 1 = .ok (.invokespecial 3, 3) := dec_at kDX3_init_0 1 rfl
theorem dX3_init_4 : decode cX3_init 4 = .ok (.aload_n 0, 1) := dec_at kDX3_init_0 2 rfl
theorem dX3_init_5 : decode cX3_init 5 = .ok (.bipush 60, 2) := dec_at kDX3_init_0 3 rfl
theorem dX3_init_7 : decode cX3_init 7 = .ok (.newarray .int, 2) := dec_at kDX3_init_0 4 rfl
theorem dX3_init_9 : decode cX3_init 9 = .ok (.putfield 11, 3) := dec_at kDX3_init_0 5 rfl
theorem dX3_init_12 : decode cX3_init 12 = .ok (.aload_n 0, 1) := dec_at kDX3_init_0 6 rfl
theorem dX3_init_13 : decode cX3_init 13 = .ok (.bipush 60, 2) := dec_at kDX3_init_0 7 rfl
theorem dX3_init_15 : decode cX3_init 15 = .ok (.newarray .int, 2) := dec_at kDX3_init_0 8 rfl
theorem dX3_init_17 : decode cX3_init 17 = .ok (.putfield 15, 3) := dec_at kDX3_init_0 9 rfl
theorem dX3_init_20 : decode cX3_init 20 = .ok (.aload_n 0, 1) := dec_at kDX3_init_0 10 rfl
theorem dX3_init_21 : decode cX3_init 21 = .ok (.bipush 60, 2) := dec_at kDX3_init_0 11 rfl
theorem dX3_init_23 : decode cX3_init 23 = .ok (.newarray .long, 2) := dec_at kDX3_init_0 12 rfl
theorem dX3_init_25 : decode cX3_init 25 = .ok (.putfield 18, 3) := dec_at kDX3_init_0 13 rfl
theorem dX3_init_28 : decode cX3_init 28 = .ok (.return_, 1) := dec_at kDX3_init_0 14 rfl
def DX3_isFull_0 : List (Nat × (Instr × Nat)) := [(0, (.aload_n 0, 1)), (1, (.getfield 22, 3)), (4, (.bipush 60, 2)), (6, (.if_icmp .lt 7, 3)), (9, (.iconst 1, 1)), (10, (.goto 4, 3)), (13, (.iconst 0, 1)), (14, (.ireturn, 1))]
theorem kDX3_isFull_0 : DX3_isFull_0.all (fun q => decide (decode cX3_isFull q.1 = .ok q.2)) = true := by decide +kernel
theorem dX3_isFull_0 : decode cX3_isFull 0 = .ok (.aload_n 0, 1) := dec_at kDX3_isFull_0 0 rfl
theorem dX3_isFull_1 : decode cX3_isFull 1 = .ok (.getfield 22, 3) := dec_at kDX3_isFull_0 1 rfl
theorem dX3_isFull_4 : decode cX3_isFull 4 = .ok (.bipush 60, 2) := dec_at kDX3_isFull_0 2 rfl
theorem dX3_isFull_6 : decode cX3_isFull 6 = .ok (.if_icmp .lt 7, 3) := dec_at kDX3_isFull_0 3 rfl
theorem dX3_isFull_9 : decode cX3_isFull 9 = .ok (.iconst 1, 1) := dec_at kDX3_isFull_0 4 rfl
theorem dX3_isFull_10 : decode cX3_isFull 10 = .ok (.goto 4, 3) := dec_at kDX3_isFull_0 5 rfl
theorem dX3_isFull_13 : decode cX3_isFull 13 = .ok (.iconst 0, 1) := dec_at kDX3_isFull_0 6 rfl
theorem dX3_isFull_14 : decode cX3_isFull 14 = .ok (.ireturn, 1) := dec_at kDX3_isFull_0 7 rfl
def DX3_put_0 : List (Nat × (Instr × Nat)) := [(0, (.aload_n 0, 1)), (1, (.getfield 22, 3)), (4, (.ifCond .lt 32, 3)), (7, (.aload_n 0, 1)), (8, (.getfield 22, 3)), (11, (.bipush 60, 2)), (13, (.if_icmp .ge 23, 3)), (16, (.aload_n 0, 1)), (17, (.getfield 11, 3)), (20, (.aload_n 0, 1)), (21, (.getfield 22, 3)), (24, (.iload_n 1, 1)), (25, (.iastore, 1)), (26, (.aload_n 0, 1)), (27, (.dup, 1)), (28, (.getfield 22, 3)), (31, (.iconst 1, 1)), (32, (.iadd, 1)), (33, (.putfield 22, 3)), (36, (.return_, 1))]
theorem kDX3_put_0 : DX3_put_0.all (fun q => decide (decode cX3_put q.1 = .ok q.2)) = true := by decide +kernel
theorem dX3_put_0 : decode cX3_put 0 = .ok (.aload_n 0, 1) := dec_at kDX3_put_0 0 rfl
theorem dX3_put_1 : decode cX3_put 1 = .ok (.getfield 22, 3) := dec_at kDX3_put_0 1 rfl
theorem dX3_put_4 : decode cX3_put 4 = .ok (.ifCond .lt 32, 3) := dec_at kDX3_put_0 2 rfl
theorem dX3_put_7 : decode cX3_put 7 = .ok (.aload_n 0, 1) := dec_at kDX3_put_0 3 rfl
theorem dX3_put_8 : decode cX3_put 8 = .ok (.getfield 22, 3) := dec_at kDX3_put_0 4 rfl
theorem dX3_put_11 : decode cX3_put 11 = .ok (.bipush 60, 2) := dec_at kDX3_put_0 5 rfl
theorem dX3_put_13 : decode cX3_put 13 = .ok (.if_icmp .ge 23, 3) := dec_at kDX3_put_0 6 rfl
theorem dX3_put_16 : decode cX3_put 16 = .ok (.aload_n 0, 1) := dec_at kDX3_put_0 7 rfl
theorem dX3_put_17 : decode cX3_put 17 = .ok (.getfield 11, 3) := dec_at kDX3_put_0 8 rfl
theorem dX3_put_20 : decode cX3_put 20 = .ok (.aload_n 0, 1) := dec_at kDX3_put_0 9 rfl
theorem dX3_put_21 : decode cX3_put 21 = .ok (.getfield 22, 3) := dec_at kDX3_put_0 10 rfl
theorem dX3_put_24 : decode cX3_put 24 = .ok (.iload_n 1, 1) := dec_at kDX3_put_0 11 rfl
theorem dX3_put_25 : decode cX3_put 25 = .ok (.iastore, 1) := dec_at kDX3_put_0 12 rfl
theorem dX3_put_26 : decode cX3_put 26 = .ok (.aload_n 0, 1) := dec_at kDX3_put_0 13 rfl
theorem dX3_put_27 : decode cX3_put 27 = .ok (.dup, 1) := dec_at kDX3_put_0 14 rfl
theorem dX3_put_28 : decode cX3_put 28 = .ok (.getfield 22, 3) := dec_at kDX3_put_0 15 rfl
theorem dX3_put_31 : decode cX3_put 31 = .ok (.iconst 1, 1) := dec_at kDX3_put_0 16 rfl
theorem dX3_put_32 : decode cX3_put 32 = .ok (.iadd, 1) := dec_at kDX3_put_0 17 rfl
theorem dX3_put_33 : decode cX3_put 33 = .ok (.putfield 22, 3) := dec_at kDX3_put_0 18 rfl
theorem dX3_put_36 : decode cX3_put 36 = .ok (.return_, 1) := dec_at kDX3_put_0 19 rfl
def DX3_codeAt_0 : List (Nat × (Instr × Nat)) := [(0, (.iload_n 1, 1)), (1, (.ifCond .lt 18, 3)), (4, (.iload_n 1, 1)), (5, (.bipush 60, 2)), (7, (.if_icmp .ge 12, 3)), (10, (.aload_n 0, 1)), (11, (.getfield 11, 3)), (14, (.iload_n 1, 1)), (15, (.iaload, 1)), (16, (.goto 4, 3)), (19, (.iconst 0, 1)), (20, (.ireturn, 1))]
theorem kDX3_codeAt_0 : DX3_codeAt_0.all (fun q => decide (decode cX3_codeAt q.1 = .ok q.2)) = true := by decide +kernel
theorem dX3_codeAt_0 : decode cX3_codeAt 0 = .ok (.iload_n 1, 1) := dec_at kDX3_codeAt_0 0 rfl
theorem dX3_codeAt_1 : decode cX3_codeAt 1 = .ok (.ifCond .lt 18, 3) := dec_at kDX3_codeAt_0 1 rfl
theorem dX3_codeAt_4 : decode cX3_codeAt 4 = .ok (.iload_n 1, 1) := dec_at kDX3_codeAt_0 2 rfl
theorem dX3_codeAt_5 : decode cX3_codeAt 5 = .ok (.bipush 60, 2) := dec_at kDX3_codeAt_0 3 rfl
theorem dX3_codeAt_7 : decode cX3_codeAt 7 = .ok (.if_icmp .ge 12, 3) := dec_at kDX3_codeAt_0 4 rfl
theorem dX3_codeAt_10 : decode cX3_codeAt 10 = .ok (.aload_n 0, 1) := dec_at kDX3_codeAt_0 5 rfl
theorem dX3_codeAt_11 : decode cX3_codeAt 11 = .ok (.getfield 11, 3) := dec_at kDX3_codeAt_0 6 rfl
theorem dX3_codeAt_14 : decode cX3_codeAt 14 = .ok (.iload_n 1, 1) := dec_at kDX3_codeAt_0 7 rfl
theorem dX3_codeAt_15 : decode cX3_codeAt 15 = .ok (.iaload, 1) := dec_at kDX3_codeAt_0 8 rfl
theorem dX3_codeAt_16 : decode cX3_codeAt 16 = .ok (.goto 4, 3) := dec_at kDX3_codeAt_0 9 rfl
theorem dX3_codeAt_19 : decode cX3_codeAt 19 = .ok (.iconst 0, 1) := dec_at kDX3_codeAt_0 10 rfl
theorem dX3_codeAt_20 : decode cX3_codeAt 20 = .ok (.ireturn, 1) := dec_at kDX3_codeAt_0 11 rfl
def DX3_read_0 : List (Nat × (Instr × Nat)) := [(0, (.aload_n 0, 1)), (1, (.iconst 1, 1)), (2, (.putfield 26, 3)), (5, (.aload_n 0, 1)), (6, (.iconst 0, 1)), (7, (.putfield 30, 3)), (10, (.iconst 0, 1)), (11, (.istore_n 3, 1)), (12, (.iload_n 3, 1)), (13, (.aload_n 0, 1)), (14, (.getfield 22, 3)), (17, (.if_icmp .ge 49, 3)), (20, (.aload_n 0, 1)), (21, (.iload_n 3, 1)), (22, (.invokevirtual 33, 3)), (25, (.istore 4, 2)), (27, (.aload_n 0, 1)), (28, (.getfield 26, 3)), (31, (.ifCond .eq 14, 3)), (34, (.aload_n 0, 1)), (35, (.iload 4, 2)), (37, (.iload_n 1, 1)), (38, (.iload_n 2, 1)), (39, (.invokevirtual 37, 3)), (42, (.goto 9, 3)), (45, (.aload_n 0, 1)), (46, (.iload 4, 2)), (48, (.invokevirtual 41, 3)), (51, (.istore 5, 2)), (53, (.iload 5, 2)), (55, (.ifCond .ne 5, 3)), (58, (.iload_n 3, 1)), (59, (.ireturn, 1)), (60, (.iinc 3 1, 3)), (63, (.goto (-51), 3)), (66, (.aload_n 0, 1)), (67, (.getfield 22, 3)), (70, (.ireturn, 1))]
theorem kDX3_read_0 : DX3_read_0.all (fun q => decide (decode cX3_read q.1 = .ok q.2)) = true := by decide +kernel
theorem dX3_read_0 : decode cX3_read 0 = .ok (.aload_n 0, 1) := dec_at kDX3_read_0 0 rfl
theorem dX3_read_1 : decode cX3_read 1 = .ok (.iconst 1, 1) := dec_at kDX3_read_0 1 rfl
theorem dX3_read_2 : decode cX3_read 2 = .ok (.putfield 26, 3) := dec_at kDX3_read_0 2 rfl
theorem dX3_read_5 : decode cX3_read 5 = .ok (.aload_n 0, 1) := dec_at kDX3_read_0 3 rfl
theorem dX3_read_6 : decode cX3_read 6 = .ok (.iconst 0, 1) := dec_at kDX3_read_0 4 rfl
theorem dX3_read_7 : decode cX3_read 7 = .ok (.putfield 30, 3) := dec_at kDX3_read_0 5 rfl
theorem dX3_read_10 : decode cX3_read 10 = .ok (.iconst 0, 1) := dec_at kDX3_read_0 6 rfl
theorem dX3_read_11 : decode cX3_read 11 = .ok (.istore_n 3, 1) := dec_at kDX3_read_0 7 rfl
theorem dX3_read_12 : decode cX3_read 12 = .ok (.iload_n 3, 1) := dec_at kDX3_read_0 8 rfl
theorem dX3_read_13 : decode cX3_read 13 = .ok (.aload_n 0, 1) := dec_at kDX3_read_0 9 rfl
theorem dX3_read_14 : decode cX3_read 14 = .ok (.getfield 22, 3) := dec_at kDX3_read_0 10 rfl
theorem dX3_read_17 : decode cX3_read 17 = .ok (.if_icmp .ge 49, 3) := dec_at kDX3_read_0 11 rfl
theorem dX3_read_20 : decode cX3_read 20 = .ok (.aload_n 0, 1) := dec_at kDX3_read_0 12 rfl
theorem dX3_read_21 : decode cX3_read 21 = .ok (.iload_n 3, 1) := dec_at kDX3_read_0 13 rfl
theorem dX3_read_22 : decode cX3_read 22 = .ok (.invokevirtual 33, 3) := dec_at kDX3_read_0 14 rfl
theorem dX3_read_25 : decode cX3_read 25 = .ok (.istore 4, 2) := dec_at kDX3_read_0 15 rfl
theorem dX3_read_27 : decode cX3_read 27 = .ok (.aload_n 0, 1) := dec_at kDX3_read_0 16 rfl
theorem dX3_read_28 : decode cX3_read 28 = .ok (.getfield 26, 3) := dec_at kDX3_read_0 17 rfl
theorem dX3_read_31 : decode cX3_read 31 = .ok (.ifCond .eq 14, 3) := dec_at kDX3_read_0 18 rfl
theorem dX3_read_34 : decode cX3_read 34 = .ok (.aload_n 0, 1) := dec_at kDX3_read_0 19 rfl
theorem dX3_read_35 : decode cX3_read 35 = .ok (.iload 4, 2) := dec_at kDX3_read_0 20 rfl
theorem dX3_read_37 : decode cX3_read 37 = .ok (.iload_n 1, 1) := dec_at kDX3_read_0 21 rfl
theorem dX3_read_38 : decode cX3_read 38 = .ok (.iload_n 2, 1) := dec_at kDX3_read_0 22 rfl
theorem dX3_read_39 : decode cX3_read 39 = .ok (.invokevirtual 37, 3) := dec_at kDX3_read_0 23 rfl
theorem dX3_read_42 : decode cX3_read 42 = .ok (.goto 9, 3) := dec_at kDX3_read_0 24 rfl
theorem dX3_read_45 : decode cX3_read 45 = .ok (.aload_n 0, 1) := dec_at kDX3_read_0 25 rfl
theorem dX3_read_46 : decode cX3_read 46 = .ok (.iload 4, 2) := dec_at kDX3_read_0 26 rfl
theorem dX3_read_48 : decode cX3_read 48 = .ok (.invokevirtual 41, 3) := dec_at kDX3_read_0 27 rfl
theorem dX3_read_51 : decode cX3_read 51 = .ok (.istore 5, 2) := dec_at kDX3_read_0 28 rfl
theorem dX3_read_53 : decode cX3_read 53 = .ok (.iload 5, 2) := dec_at kDX3_read_0 29 rfl
theorem dX3_read_55 : decode cX3_read 55 = .ok (.ifCond .ne 5, 3) := dec_at kDX3_read_0 30 rfl
theorem dX3_read_58 : decode cX3_read 58 = .ok (.iload_n 3, 1) := dec_at kDX3_read_0 31 rfl
theorem dX3_read_59 : decode cX3_read 59 = .ok (.ireturn, 1) := dec_at kDX3_read_0 32 rfl
theorem dX3_read_60 : decode cX3_read 60 = .ok (.iinc 3 1, 3) := dec_at kDX3_read_0 33 rfl
theorem dX3_read_63 : decode cX3_read 63 = .ok (.goto (-51), 3) := dec_at kDX3_read_0 34 rfl
theorem dX3_read_66 : decode cX3_read 66 = .ok (.aload_n 0, 1) := dec_at kDX3_read_0 35 rfl
theorem dX3_read_67 : decode cX3_read 67 = .ok (.getfield 22, 3) := dec_at kDX3_read_0 36 rfl
theorem dX3_read_70 : decode cX3_read 70 = .ok (.ireturn, 1) := dec_at kDX3_read_0 37 rfl
def DX3_takesOperand_0 : List (Nat × (Instr × Nat)) := [(0, (.iload_n 1, 1)), (1, (.bipush 40, 2)), (3, (.if_icmp .ne 15, 3)), (6, (.aload_n 0, 1)), (7, (.dup, 1)), (8, (.getfield 30, 3)), (11, (.iconst 1, 1)), (12, (.iadd, 1)), (13, (.putfield 30, 3)), (16, (.iconst 1, 1)), (17, (.ireturn, 1)), (18, (.iload_n 1, 1)), (19, (.bipush 33, 2)), (21, (.if_icmp .ne 5, 3)), (24, (.iconst 1, 1)), (25, (.ireturn, 1)), (26, (.aload_n 0, 1)), (27, (.iconst 0, 1)), (28, (.putfield 26, 3)), (31, (.iload_n 1, 1)), (32, (.iload_n 2, 1)), (33, (.iload_n 3, 1)), (34, (.invokestatic 45, 3)), (37, (.ireturn, 1))]
theorem kDX3_takesOperand_0 : DX3_takesOperand_0.all (fun q => decide (decode cX3_takesOperand q.1 = .ok q.2)) = true := by decide +kernel
theorem dX3_takesOperand_0 : decode cX3_takesOperand 0 = .ok (.iload_n 1, 1) := dec_at kDX3_takesOperand_0 0 rfl
theorem dX3_takesOperand_1 : decode cX3_takesOperand 1 = .ok (.bipush 40, 2) := dec_at kDX3_takesOperand_0 1 rfl
theorem dX3_takesOperand_3 : decode cX3_takesOperand 3 = .ok (.if_icmp .ne 15, 3) := dec_at kDX3_takesOperand_0 2 rfl
theorem dX3_takesOperand_6 : decode cX3_takesOperand 6 = .ok (.aload_n 0, 1) := dec_at kDX3_takesOperand_0 3 rfl
theorem dX3_takesOperand_7 : decode cX3_takesOperand 7 = .ok (.dup, 1) := dec_at kDX3_takesOperand_0 4 rfl
theorem dX3_takesOperand_8 : decode cX3_takesOperand 8 = .ok (.getfield 30, 3) := dec_at kDX3_takesOperand_0 5 rfl
theorem dX3_takesOperand_11 : decode cX3_takesOperand 11 = .ok (.iconst 1, 1) := dec_at kDX3_takesOperand_0 6 rfl
theorem dX3_takesOperand_12 : decode cX3_takesOperand 12 = .ok (.iadd, 1) := dec_at kDX3_takesOperand_0 7 rfl
theorem dX3_takesOperand_13 : decode cX3_takesOperand 13 = .ok (.putfield 30, 3) := dec_at kDX3_takesOperand_0 8 rfl
theorem dX3_takesOperand_16 : decode cX3_takesOperand 16 = .ok (.iconst 1, 1) := dec_at kDX3_takesOperand_0 9 rfl
theorem dX3_takesOperand_17 : decode cX3_takesOperand 17 = .ok (.ireturn, 1) := dec_at kDX3_takesOperand_0 10 rfl
theorem dX3_takesOperand_18 : decode cX3_takesOperand 18 = .ok (.iload_n 1, 1) := dec_at kDX3_takesOperand_0 11 rfl
theorem dX3_takesOperand_19 : decode cX3_takesOperand 19 = .ok (.bipush 33, 2) := dec_at kDX3_takesOperand_0 12 rfl
theorem dX3_takesOperand_21 : decode cX3_takesOperand 21 = .ok (.if_icmp .ne 5, 3) := dec_at kDX3_takesOperand_0 13 rfl
theorem dX3_takesOperand_24 : decode cX3_takesOperand 24 = .ok (.iconst 1, 1) := dec_at kDX3_takesOperand_0 14 rfl
theorem dX3_takesOperand_25 : decode cX3_takesOperand 25 = .ok (.ireturn, 1) := dec_at kDX3_takesOperand_0 15 rfl
theorem dX3_takesOperand_26 : decode cX3_takesOperand 26 = .ok (.aload_n 0, 1) := dec_at kDX3_takesOperand_0 16 rfl
theorem dX3_takesOperand_27 : decode cX3_takesOperand 27 = .ok (.iconst 0, 1) := dec_at kDX3_takesOperand_0 17 rfl
theorem dX3_takesOperand_28 : decode cX3_takesOperand 28 = .ok (.putfield 26, 3) := dec_at kDX3_takesOperand_0 18 rfl
theorem dX3_takesOperand_31 : decode cX3_takesOperand 31 = .ok (.iload_n 1, 1) := dec_at kDX3_takesOperand_0 19 rfl
theorem dX3_takesOperand_32 : decode cX3_takesOperand 32 = .ok (.iload_n 2, 1) := dec_at kDX3_takesOperand_0 20 rfl
theorem dX3_takesOperand_33 : decode cX3_takesOperand 33 = .ok (.iload_n 3, 1) := dec_at kDX3_takesOperand_0 21 rfl
theorem dX3_takesOperand_34 : decode cX3_takesOperand 34 = .ok (.invokestatic 45, 3) := dec_at kDX3_takesOperand_0 22 rfl
theorem dX3_takesOperand_37 : decode cX3_takesOperand 37 = .ok (.ireturn, 1) := dec_at kDX3_takesOperand_0 23 rfl
def DX3_takesOperator_0 : List (Nat × (Instr × Nat)) := [(0, (.iload_n 1, 1)), (1, (.bipush 41, 2)), (3, (.if_icmp .ne 26, 3)), (6, (.aload_n 0, 1)), (7, (.dup, 1)), (8, (.getfield 30, 3)), (11, (.iconst 1, 1)), (12, (.isub, 1)), (13, (.putfield 30, 3)), (16, (.aload_n 0, 1)), (17, (.getfield 30, 3)), (20, (.ifCond .lt 7, 3)), (23, (.iconst 1, 1)), (24, (.goto 4, 3)), (27, (.iconst 0, 1)), (28, (.ireturn, 1)), (29, (.aload_n 0, 1)), (30, (.iconst 1, 1)), (31, (.putfield 26, 3)), (34, (.iload_n 1, 1)), (35, (.bipush 124, 2)), (37, (.if_icmp .eq 15, 3)), (40, (.iload_n 1, 1)), (41, (.bipush 94, 2)), (43, (.if_icmp .eq 9, 3)), (46, (.iload_n 1, 1)), (47, (.bipush 38, 2)), (49, (.if_icmp .ne 7, 3)), (52, (.iconst 1, 1)), (53, (.goto 4, 3)), (56, (.iconst 0, 1)), (57, (.ireturn, 1))]
theorem kDX3_takesOperator_0 : DX3_takesOperator_0.all (fun q => decide (decode cX3_takesOperator q.1 = .ok q.2)) = true := by decide +kernel
theorem dX3_takesOperator_0 : decode cX3_takesOperator 0 = .ok (.iload_n 1, 1) := dec_at kDX3_takesOperator_0 0 rfl
theorem dX3_takesOperator_1 : decode cX3_takesOperator 1 = .ok (.bipush 41, 2) := dec_at kDX3_takesOperator_0 1 rfl
theorem dX3_takesOperator_3 : decode cX3_takesOperator 3 = .ok (.if_icmp .ne 26, 3) := dec_at kDX3_takesOperator_0 2 rfl
theorem dX3_takesOperator_6 : decode cX3_takesOperator 6 = .ok (.aload_n 0, 1) := dec_at kDX3_takesOperator_0 3 rfl
theorem dX3_takesOperator_7 : decode cX3_takesOperator 7 = .ok (.dup, 1) := dec_at kDX3_takesOperator_0 4 rfl
theorem dX3_takesOperator_8 : decode cX3_takesOperator 8 = .ok (.getfield 30, 3) := dec_at kDX3_takesOperator_0 5 rfl
theorem dX3_takesOperator_11 : decode cX3_takesOperator 11 = .ok (.iconst 1, 1) := dec_at kDX3_takesOperator_0 6 rfl
theorem dX3_takesOperator_12 : decode cX3_takesOperator 12 = .ok (.isub, 1) := dec_at kDX3_takesOperator_0 7 rfl
theorem dX3_takesOperator_13 : decode cX3_takesOperator 13 = .ok (.putfield 30, 3) := dec_at kDX3_takesOperator_0 8 rfl
theorem dX3_takesOperator_16 : decode cX3_takesOperator 16 = .ok (.aload_n 0, 1) := dec_at kDX3_takesOperator_0 9 rfl
theorem dX3_takesOperator_17 : decode cX3_takesOperator 17 = .ok (.getfield 30, 3) := dec_at kDX3_takesOperator_0 10 rfl
theorem dX3_takesOperator_20 : decode cX3_takesOperator 20 = .ok (.ifCond .lt 7, 3) := dec_at kDX3_takesOperator_0 11 rfl
theorem dX3_takesOperator_23 : decode cX3_takesOperator 23 = .ok (.iconst 1, 1) := dec_at kDX3_takesOperator_0 12 rfl
theorem dX3_takesOperator_24 : decode cX3_takesOperator 24 = .ok (.goto 4, 3) := dec_at kDX3_takesOperator_0 13 rfl
theorem dX3_takesOperator_27 : decode cX3_takesOperator 27 = .ok (.iconst 0, 1) := dec_at kDX3_takesOperator_0 14 rfl
theorem dX3_takesOperator_28 : decode cX3_takesOperator 28 = .ok (.ireturn, 1) := dec_at kDX3_takesOperator_0 15 rfl
theorem dX3_takesOperator_29 : decode cX3_takesOperator 29 = .ok (.aload_n 0, 1) := dec_at kDX3_takesOperator_0 16 rfl
theorem dX3_takesOperator_30 : decode cX3_takesOperator 30 = .ok (.iconst 1, 1) := dec_at kDX3_takesOperator_0 17 rfl
theorem dX3_takesOperator_31 : decode cX3_takesOperator 31 = .ok (.putfield 26, 3) := dec_at kDX3_takesOperator_0 18 rfl
theorem dX3_takesOperator_34 : decode cX3_takesOperator 34 = .ok (.iload_n 1, 1) := dec_at kDX3_takesOperator_0 19 rfl
theorem dX3_takesOperator_35 : decode cX3_takesOperator 35 = .ok (.bipush 124, 2) := dec_at kDX3_takesOperator_0 20 rfl
theorem dX3_takesOperator_37 : decode cX3_takesOperator 37 = .ok (.if_icmp .eq 15, 3) := dec_at kDX3_takesOperator_0 21 rfl
theorem dX3_takesOperator_40 : decode cX3_takesOperator 40 = .ok (.iload_n 1, 1) := dec_at kDX3_takesOperator_0 22 rfl
theorem dX3_takesOperator_41 : decode cX3_takesOperator 41 = .ok (.bipush 94, 2) := dec_at kDX3_takesOperator_0 23 rfl
theorem dX3_takesOperator_43 : decode cX3_takesOperator 43 = .ok (.if_icmp .eq 9, 3) := dec_at kDX3_takesOperator_0 24 rfl
theorem dX3_takesOperator_46 : decode cX3_takesOperator 46 = .ok (.iload_n 1, 1) := dec_at kDX3_takesOperator_0 25 rfl
theorem dX3_takesOperator_47 : decode cX3_takesOperator 47 = .ok (.bipush 38, 2) := dec_at kDX3_takesOperator_0 26 rfl
theorem dX3_takesOperator_49 : decode cX3_takesOperator 49 = .ok (.if_icmp .ne 7, 3) := dec_at kDX3_takesOperator_0 27 rfl
theorem dX3_takesOperator_52 : decode cX3_takesOperator 52 = .ok (.iconst 1, 1) := dec_at kDX3_takesOperator_0 28 rfl
theorem dX3_takesOperator_53 : decode cX3_takesOperator 53 = .ok (.goto 4, 3) := dec_at kDX3_takesOperator_0 29 rfl
theorem dX3_takesOperator_56 : decode cX3_takesOperator 56 = .ok (.iconst 0, 1) := dec_at kDX3_takesOperator_0 30 rfl
theorem dX3_takesOperator_57 : decode cX3_takesOperator 57 = .ok (.ireturn, 1) := dec_at kDX3_takesOperator_0 31 rfl
def DX3_isFormula_0 : List (Nat × (Instr × Nat)) := [(0, (.aload_n 0, 1)), (1, (.iload_n 1, 1)), (2, (.iload_n 2, 1)), (3, (.invokevirtual 48, 3)), (6, (.aload_n 0, 1)), (7, (.getfield 22, 3)), (10, (.if_icmp .ne 21, 3)), (13, (.aload_n 0, 1)), (14, (.getfield 26, 3)), (17, (.ifCond .ne 14, 3)), (20, (.aload_n 0, 1)), (21, (.getfield 30, 3)), (24, (.ifCond .ne 7, 3)), (27, (.iconst 1, 1)), (28, (.goto 4, 3)), (31, (.iconst 0, 1)), (32, (.ireturn, 1))]
theorem kDX3_isFormula_0 : DX3_isFormula_0.all (fun q => decide (decode cX3_isFormula q.1 = .ok q.2)) = true := by decide +kernel
theorem dX3_isFormula_0 : decode cX3_isFormula 0 = .ok (.aload_n 0, 1) := dec_at kDX3_isFormula_0 0 rfl
theorem dX3_isFormula_1 : decode cX3_isFormula 1 = .ok (.iload_n 1, 1) := dec_at kDX3_isFormula_0 1 rfl
theorem dX3_isFormula_2 : decode cX3_isFormula 2 = .ok (.iload_n 2, 1) := dec_at kDX3_isFormula_0 2 rfl
theorem dX3_isFormula_3 : decode cX3_isFormula 3 = .ok (.invokevirtual 48, 3) := dec_at kDX3_isFormula_0 3 rfl
theorem dX3_isFormula_6 : decode cX3_isFormula 6 = .ok (.aload_n 0, 1) := dec_at kDX3_isFormula_0 4 rfl
theorem dX3_isFormula_7 : decode cX3_isFormula 7 = .ok (.getfield 22, 3) := dec_at kDX3_isFormula_0 5 rfl
theorem dX3_isFormula_10 : decode cX3_isFormula 10 = .ok (.if_icmp .ne 21, 3) := dec_at kDX3_isFormula_0 6 rfl
theorem dX3_isFormula_13 : decode cX3_isFormula 13 = .ok (.aload_n 0, 1) := dec_at kDX3_isFormula_0 7 rfl
theorem dX3_isFormula_14 : decode cX3_isFormula 14 = .ok (.getfield 26, 3) := dec_at kDX3_isFormula_0 8 rfl
theorem dX3_isFormula_17 : decode cX3_isFormula 17 = .ok (.ifCond .ne 14, 3) := dec_at kDX3_isFormula_0 9 rfl
theorem dX3_isFormula_20 : decode cX3_isFormula 20 = .ok (.aload_n 0, 1) := dec_at kDX3_isFormula_0 10 rfl
theorem dX3_isFormula_21 : decode cX3_isFormula 21 = .ok (.getfield 30, 3) := dec_at kDX3_isFormula_0 11 rfl
theorem dX3_isFormula_24 : decode cX3_isFormula 24 = .ok (.ifCond .ne 7, 3) := dec_at kDX3_isFormula_0 12 rfl
theorem dX3_isFormula_27 : decode cX3_isFormula 27 = .ok (.iconst 1, 1) := dec_at kDX3_isFormula_0 13 rfl
theorem dX3_isFormula_28 : decode cX3_isFormula 28 = .ok (.goto 4, 3) := dec_at kDX3_isFormula_0 14 rfl
theorem dX3_isFormula_31 : decode cX3_isFormula 31 = .ok (.iconst 0, 1) := dec_at kDX3_isFormula_0 15 rfl
theorem dX3_isFormula_32 : decode cX3_isFormula 32 = .ok (.ireturn, 1) := dec_at kDX3_isFormula_0 16 rfl
def DX3_hasInputName_0 : List (Nat × (Instr × Nat)) := [(0, (.iconst 0, 1)), (1, (.istore_n 1, 1)), (2, (.iload_n 1, 1)), (3, (.aload_n 0, 1)), (4, (.getfield 22, 3)), (7, (.if_icmp .ge 23, 3)), (10, (.aload_n 0, 1)), (11, (.iload_n 1, 1)), (12, (.invokevirtual 33, 3)), (15, (.iconst 2, 1)), (16, (.invokestatic 52, 3)), (19, (.ifCond .eq 5, 3)), (22, (.iconst 1, 1)), (23, (.ireturn, 1)), (24, (.iinc 1 1, 3)), (27, (.goto (-25), 3)), (30, (.iconst 0, 1)), (31, (.ireturn, 1))]
theorem kDX3_hasInputName_0 : DX3_hasInputName_0.all (fun q => decide (decode cX3_hasInputName q.1 = .ok q.2)) = true := by decide +kernel
theorem dX3_hasInputName_0 : decode cX3_hasInputName 0 = .ok (.iconst 0, 1) := dec_at kDX3_hasInputName_0 0 rfl
theorem dX3_hasInputName_1 : decode cX3_hasInputName 1 = .ok (.istore_n 1, 1) := dec_at kDX3_hasInputName_0 1 rfl
theorem dX3_hasInputName_2 : decode cX3_hasInputName 2 = .ok (.iload_n 1, 1) := dec_at kDX3_hasInputName_0 2 rfl
theorem dX3_hasInputName_3 : decode cX3_hasInputName 3 = .ok (.aload_n 0, 1) := dec_at kDX3_hasInputName_0 3 rfl
theorem dX3_hasInputName_4 : decode cX3_hasInputName 4 = .ok (.getfield 22, 3) := dec_at kDX3_hasInputName_0 4 rfl
theorem dX3_hasInputName_7 : decode cX3_hasInputName 7 = .ok (.if_icmp .ge 23, 3) := dec_at kDX3_hasInputName_0 5 rfl
theorem dX3_hasInputName_10 : decode cX3_hasInputName 10 = .ok (.aload_n 0, 1) := dec_at kDX3_hasInputName_0 6 rfl
theorem dX3_hasInputName_11 : decode cX3_hasInputName 11 = .ok (.iload_n 1, 1) := dec_at kDX3_hasInputName_0 7 rfl
theorem dX3_hasInputName_12 : decode cX3_hasInputName 12 = .ok (.invokevirtual 33, 3) := dec_at kDX3_hasInputName_0 8 rfl
theorem dX3_hasInputName_15 : decode cX3_hasInputName 15 = .ok (.iconst 2, 1) := dec_at kDX3_hasInputName_0 9 rfl
theorem dX3_hasInputName_16 : decode cX3_hasInputName 16 = .ok (.invokestatic 52, 3) := dec_at kDX3_hasInputName_0 10 rfl
theorem dX3_hasInputName_19 : decode cX3_hasInputName 19 = .ok (.ifCond .eq 5, 3) := dec_at kDX3_hasInputName_0 11 rfl
theorem dX3_hasInputName_22 : decode cX3_hasInputName 22 = .ok (.iconst 1, 1) := dec_at kDX3_hasInputName_0 12 rfl
theorem dX3_hasInputName_23 : decode cX3_hasInputName 23 = .ok (.ireturn, 1) := dec_at kDX3_hasInputName_0 13 rfl
theorem dX3_hasInputName_24 : decode cX3_hasInputName 24 = .ok (.iinc 1 1, 3) := dec_at kDX3_hasInputName_0 14 rfl
theorem dX3_hasInputName_27 : decode cX3_hasInputName 27 = .ok (.goto (-25), 3) := dec_at kDX3_hasInputName_0 15 rfl
theorem dX3_hasInputName_30 : decode cX3_hasInputName 30 = .ok (.iconst 0, 1) := dec_at kDX3_hasInputName_0 16 rfl
theorem dX3_hasInputName_31 : decode cX3_hasInputName 31 = .ok (.ireturn, 1) := dec_at kDX3_hasInputName_0 17 rfl
def DX3_isOperand_0 : List (Nat × (Instr × Nat)) := [(0, (.iload_n 0, 1)), (1, (.bipush 48, 2)), (3, (.if_icmp .eq 31, 3)), (6, (.iload_n 0, 1)), (7, (.bipush 49, 2)), (9, (.if_icmp .eq 25, 3)), (12, (.iload_n 0, 1)), (13, (.bipush 97, 2)), (15, (.if_icmp .lt 11, 3)), (18, (.iload_n 0, 1)), (19, (.bipush 97, 2)), (21, (.iload_n 1, 1)), (22, (.iadd, 1)), (23, (.if_icmp .lt 11, 3)), (26, (.iload_n 0, 1)), (27, (.iload_n 2, 1)), (28, (.invokestatic 52, 3)), (31, (.ifCond .eq 7, 3)), (34, (.iconst 1, 1)), (35, (.goto 4, 3)), (38, (.iconst 0, 1)), (39, (.ireturn, 1))]
theorem kDX3_isOperand_0 : DX3_isOperand_0.all (fun q => decide (decode cX3_isOperand q.1 = .ok q.2)) = true := by decide +kernel
theorem dX3_isOperand_0 : decode cX3_isOperand 0 = .ok (.iload_n 0, 1) := dec_at kDX3_isOperand_0 0 rfl
theorem dX3_isOperand_1 : decode cX3_isOperand 1 = .ok (.bipush 48, 2) := dec_at kDX3_isOperand_0 1 rfl
theorem dX3_isOperand_3 : decode cX3_isOperand 3 = .ok (.if_icmp .eq 31, 3) := dec_at kDX3_isOperand_0 2 rfl
theorem dX3_isOperand_6 : decode cX3_isOperand 6 = .ok (.iload_n 0, 1) := dec_at kDX3_isOperand_0 3 rfl
theorem dX3_isOperand_7 : decode cX3_isOperand 7 = .ok (.bipush 49, 2) := dec_at kDX3_isOperand_0 4 rfl
theorem dX3_isOperand_9 : decode cX3_isOperand 9 = .ok (.if_icmp .eq 25, 3) := dec_at kDX3_isOperand_0 5 rfl
theorem dX3_isOperand_12 : decode cX3_isOperand 12 = .ok (.iload_n 0, 1) := dec_at kDX3_isOperand_0 6 rfl
theorem dX3_isOperand_13 : decode cX3_isOperand 13 = .ok (.bipush 97, 2) := dec_at kDX3_isOperand_0 7 rfl
theorem dX3_isOperand_15 : decode cX3_isOperand 15 = .ok (.if_icmp .lt 11, 3) := dec_at kDX3_isOperand_0 8 rfl
theorem dX3_isOperand_18 : decode cX3_isOperand 18 = .ok (.iload_n 0, 1) := dec_at kDX3_isOperand_0 9 rfl
theorem dX3_isOperand_19 : decode cX3_isOperand 19 = .ok (.bipush 97, 2) := dec_at kDX3_isOperand_0 10 rfl
theorem dX3_isOperand_21 : decode cX3_isOperand 21 = .ok (.iload_n 1, 1) := dec_at kDX3_isOperand_0 11 rfl
theorem dX3_isOperand_22 : decode cX3_isOperand 22 = .ok (.iadd, 1) := dec_at kDX3_isOperand_0 12 rfl
theorem dX3_isOperand_23 : decode cX3_isOperand 23 = .ok (.if_icmp .lt 11, 3) := dec_at kDX3_isOperand_0 13 rfl
theorem dX3_isOperand_26 : decode cX3_isOperand 26 = .ok (.iload_n 0, 1) := dec_at kDX3_isOperand_0 14 rfl
theorem dX3_isOperand_27 : decode cX3_isOperand 27 = .ok (.iload_n 2, 1) := dec_at kDX3_isOperand_0 15 rfl
theorem dX3_isOperand_28 : decode cX3_isOperand 28 = .ok (.invokestatic 52, 3) := dec_at kDX3_isOperand_0 16 rfl
theorem dX3_isOperand_31 : decode cX3_isOperand 31 = .ok (.ifCond .eq 7, 3) := dec_at kDX3_isOperand_0 17 rfl
theorem dX3_isOperand_34 : decode cX3_isOperand 34 = .ok (.iconst 1, 1) := dec_at kDX3_isOperand_0 18 rfl
theorem dX3_isOperand_35 : decode cX3_isOperand 35 = .ok (.goto 4, 3) := dec_at kDX3_isOperand_0 19 rfl
theorem dX3_isOperand_38 : decode cX3_isOperand 38 = .ok (.iconst 0, 1) := dec_at kDX3_isOperand_0 20 rfl
theorem dX3_isOperand_39 : decode cX3_isOperand 39 = .ok (.ireturn, 1) := dec_at kDX3_isOperand_0 21 rfl
def DX3_isInputName_0 : List (Nat × (Instr × Nat)) := [(0, (.iload_n 0, 1)), (1, (.bipush 120, 2)), (3, (.if_icmp .lt 15, 3)), (6, (.iload_n 0, 1)), (7, (.bipush 120, 2)), (9, (.iload_n 1, 1)), (10, (.iadd, 1)), (11, (.if_icmp .ge 7, 3)), (14, (.iconst 1, 1)), (15, (.goto 4, 3)), (18, (.iconst 0, 1)), (19, (.ireturn, 1))]
theorem kDX3_isInputName_0 : DX3_isInputName_0.all (fun q => decide (decode cX3_isInputName q.1 = .ok q.2)) = true := by decide +kernel
theorem dX3_isInputName_0 : decode cX3_isInputName 0 = .ok (.iload_n 0, 1) := dec_at kDX3_isInputName_0 0 rfl
theorem dX3_isInputName_1 : decode cX3_isInputName 1 = .ok (.bipush 120, 2) := dec_at kDX3_isInputName_0 1 rfl
theorem dX3_isInputName_3 : decode cX3_isInputName 3 = .ok (.if_icmp .lt 15, 3) := dec_at kDX3_isInputName_0 2 rfl
theorem dX3_isInputName_6 : decode cX3_isInputName 6 = .ok (.iload_n 0, 1) := dec_at kDX3_isInputName_0 3 rfl
theorem dX3_isInputName_7 : decode cX3_isInputName 7 = .ok (.bipush 120, 2) := dec_at kDX3_isInputName_0 4 rfl
theorem dX3_isInputName_9 : decode cX3_isInputName 9 = .ok (.iload_n 1, 1) := dec_at kDX3_isInputName_0 5 rfl
theorem dX3_isInputName_10 : decode cX3_isInputName 10 = .ok (.iadd, 1) := dec_at kDX3_isInputName_0 6 rfl
theorem dX3_isInputName_11 : decode cX3_isInputName 11 = .ok (.if_icmp .ge 7, 3) := dec_at kDX3_isInputName_0 7 rfl
theorem dX3_isInputName_14 : decode cX3_isInputName 14 = .ok (.iconst 1, 1) := dec_at kDX3_isInputName_0 8 rfl
theorem dX3_isInputName_15 : decode cX3_isInputName 15 = .ok (.goto 4, 3) := dec_at kDX3_isInputName_0 9 rfl
theorem dX3_isInputName_18 : decode cX3_isInputName 18 = .ok (.iconst 0, 1) := dec_at kDX3_isInputName_0 10 rfl
theorem dX3_isInputName_19 : decode cX3_isInputName 19 = .ok (.ireturn, 1) := dec_at kDX3_isInputName_0 11 rfl
def DX3_valueFor_0 : List (Nat × (Instr × Nat)) := [(0, (.aload_n 0, 1)), (1, (.iconst 0, 1)), (2, (.putfield 56, 3)), (5, (.aload_n 0, 1)), (6, (.iconst 0, 1)), (7, (.putfield 59, 3)), (10, (.iconst 0, 1)), (11, (.istore_n 2, 1)), (12, (.iload_n 2, 1)), (13, (.aload_n 0, 1)), (14, (.getfield 22, 3)), (17, (.if_icmp .ge 98, 3)), (20, (.aload_n 0, 1)), (21, (.iload_n 2, 1)), (22, (.invokevirtual 33, 3)), (25, (.istore_n 3, 1)), (26, (.iload_n 3, 1)), (27, (.bipush 40, 2)), (29, (.if_icmp .eq 9, 3)), (32, (.iload_n 3, 1)), (33, (.bipush 33, 2)), (35, (.if_icmp .ne 11, 3)), (38, (.aload_n 0, 1)), (39, (.iload_n 3, 1)), (40, (.invokevirtual 62, 3)), (43, (.goto 66, 3)), (46, (.iload_n 3, 1)), (47, (.bipush 41, 2)), (49, (.if_icmp .ne 24, 3)), (52, (.aload_n 0, 1)), (53, (.bipush 124, 2)), (55, (.invokestatic 66, 3)), (58, (.invokevirtual 69, 3)), (61, (.aload_n 0, 1)), (62, (.invokevirtual 72, 3)), (65, (.pop, 1)), (66, (.aload_n 0, 1)), (67, (.invokevirtual 76, 3)), (70, (.goto 39, 3)), (73, (.iload_n 3, 1)), (74, (.invokestatic 66, 3)), (77, (.ifCond .le 19, 3)), (80, (.aload_n 0, 1)), (81, (.iload_n 3, 1)), (82, (.invokestatic 66, 3)), (85, (.invokevirtual 69, 3)), (88, (.aload_n 0, 1)), (89, (.iload_n 3, 1)), (90, (.invokevirtual 62, 3)), (93, (.goto 16, 3))]
theorem kDX3_valueFor_0 : DX3_valueFor_0.all (fun q => decide (decode cX3_valueFor q.1 = .ok q.2)) = true := by decide +kernel
theorem dX3_valueFor_0 : decode cX3_valueFor 0 = .ok (.aload_n 0, 1) := dec_at kDX3_valueFor_0 0 rfl
theorem dX3_valueFor_1 : decode cX3_valueFor 1 = .ok (.iconst 0, 1) := dec_at kDX3_valueFor_0 1 rfl
theorem dX3_valueFor_2 : decode cX3_valueFor 2 = .ok (.putfield 56, 3) := dec_at kDX3_valueFor_0 2 rfl
theorem dX3_valueFor_5 : decode cX3_valueFor 5 = .ok (.aload_n 0, 1) := dec_at kDX3_valueFor_0 3 rfl
theorem dX3_valueFor_6 : decode cX3_valueFor 6 = .ok (.iconst 0, 1) := dec_at kDX3_valueFor_0 4 rfl
theorem dX3_valueFor_7 : decode cX3_valueFor 7 = .ok (.putfield 59, 3) := dec_at kDX3_valueFor_0 5 rfl
theorem dX3_valueFor_10 : decode cX3_valueFor 10 = .ok (.iconst 0, 1) := dec_at kDX3_valueFor_0 6 rfl
theorem dX3_valueFor_11 : decode cX3_valueFor 11 = .ok (.istore_n 2, 1) := dec_at kDX3_valueFor_0 7 rfl
theorem dX3_valueFor_12 : decode cX3_valueFor 12 = .ok (.iload_n 2, 1) := dec_at kDX3_valueFor_0 8 rfl
theorem dX3_valueFor_13 : decode cX3_valueFor 13 = .ok (.aload_n 0, 1) := dec_at kDX3_valueFor_0 9 rfl
theorem dX3_valueFor_14 : decode cX3_valueFor 14 = .ok (.getfield 22, 3) := dec_at kDX3_valueFor_0 10 rfl
theorem dX3_valueFor_17 : decode cX3_valueFor 17 = .ok (.if_icmp .ge 98, 3) := dec_at kDX3_valueFor_0 11 rfl
theorem dX3_valueFor_20 : decode cX3_valueFor 20 = .ok (.aload_n 0, 1) := dec_at kDX3_valueFor_0 12 rfl
theorem dX3_valueFor_21 : decode cX3_valueFor 21 = .ok (.iload_n 2, 1) := dec_at kDX3_valueFor_0 13 rfl
theorem dX3_valueFor_22 : decode cX3_valueFor 22 = .ok (.invokevirtual 33, 3) := dec_at kDX3_valueFor_0 14 rfl
theorem dX3_valueFor_25 : decode cX3_valueFor 25 = .ok (.istore_n 3, 1) := dec_at kDX3_valueFor_0 15 rfl
theorem dX3_valueFor_26 : decode cX3_valueFor 26 = .ok (.iload_n 3, 1) := dec_at kDX3_valueFor_0 16 rfl
theorem dX3_valueFor_27 : decode cX3_valueFor 27 = .ok (.bipush 40, 2) := dec_at kDX3_valueFor_0 17 rfl
theorem dX3_valueFor_29 : decode cX3_valueFor 29 = .ok (.if_icmp .eq 9, 3) := dec_at kDX3_valueFor_0 18 rfl
theorem dX3_valueFor_32 : decode cX3_valueFor 32 = .ok (.iload_n 3, 1) := dec_at kDX3_valueFor_0 19 rfl
theorem dX3_valueFor_33 : decode cX3_valueFor 33 = .ok (.bipush 33, 2) := dec_at kDX3_valueFor_0 20 rfl
theorem dX3_valueFor_35 : decode cX3_valueFor 35 = .ok (.if_icmp .ne 11, 3) := dec_at kDX3_valueFor_0 21 rfl
theorem dX3_valueFor_38 : decode cX3_valueFor 38 = .ok (.aload_n 0, 1) := dec_at kDX3_valueFor_0 22 rfl
theorem dX3_valueFor_39 : decode cX3_valueFor 39 = .ok (.iload_n 3, 1) := dec_at kDX3_valueFor_0 23 rfl
theorem dX3_valueFor_40 : decode cX3_valueFor 40 = .ok (.invokevirtual 62, 3) := dec_at kDX3_valueFor_0 24 rfl
theorem dX3_valueFor_43 : decode cX3_valueFor 43 = .ok (.goto 66, 3) := dec_at kDX3_valueFor_0 25 rfl
theorem dX3_valueFor_46 : decode cX3_valueFor 46 = .ok (.iload_n 3, 1) := dec_at kDX3_valueFor_0 26 rfl
theorem dX3_valueFor_47 : decode cX3_valueFor 47 = .ok (.bipush 41, 2) := dec_at kDX3_valueFor_0 27 rfl
theorem dX3_valueFor_49 : decode cX3_valueFor 49 = .ok (.if_icmp .ne 24, 3) := dec_at kDX3_valueFor_0 28 rfl
theorem dX3_valueFor_52 : decode cX3_valueFor 52 = .ok (.aload_n 0, 1) := dec_at kDX3_valueFor_0 29 rfl
theorem dX3_valueFor_53 : decode cX3_valueFor 53 = .ok (.bipush 124, 2) := dec_at kDX3_valueFor_0 30 rfl
theorem dX3_valueFor_55 : decode cX3_valueFor 55 = .ok (.invokestatic 66, 3) := dec_at kDX3_valueFor_0 31 rfl
theorem dX3_valueFor_58 : decode cX3_valueFor 58 = .ok (.invokevirtual 69, 3) := dec_at kDX3_valueFor_0 32 rfl
theorem dX3_valueFor_61 : decode cX3_valueFor 61 = .ok (.aload_n 0, 1) := dec_at kDX3_valueFor_0 33 rfl
theorem dX3_valueFor_62 : decode cX3_valueFor 62 = .ok (.invokevirtual 72, 3) := dec_at kDX3_valueFor_0 34 rfl
theorem dX3_valueFor_65 : decode cX3_valueFor 65 = .ok (.pop, 1) := dec_at kDX3_valueFor_0 35 rfl
theorem dX3_valueFor_66 : decode cX3_valueFor 66 = .ok (.aload_n 0, 1) := dec_at kDX3_valueFor_0 36 rfl
theorem dX3_valueFor_67 : decode cX3_valueFor 67 = .ok (.invokevirtual 76, 3) := dec_at kDX3_valueFor_0 37 rfl
theorem dX3_valueFor_70 : decode cX3_valueFor 70 = .ok (.goto 39, 3) := dec_at kDX3_valueFor_0 38 rfl
theorem dX3_valueFor_73 : decode cX3_valueFor 73 = .ok (.iload_n 3, 1) := dec_at kDX3_valueFor_0 39 rfl
theorem dX3_valueFor_74 : decode cX3_valueFor 74 = .ok (.invokestatic 66, 3) := dec_at kDX3_valueFor_0 40 rfl
theorem dX3_valueFor_77 : decode cX3_valueFor 77 = .ok (.ifCond .le 19, 3) := dec_at kDX3_valueFor_0 41 rfl
theorem dX3_valueFor_80 : decode cX3_valueFor 80 = .ok (.aload_n 0, 1) := dec_at kDX3_valueFor_0 42 rfl
theorem dX3_valueFor_81 : decode cX3_valueFor 81 = .ok (.iload_n 3, 1) := dec_at kDX3_valueFor_0 43 rfl
theorem dX3_valueFor_82 : decode cX3_valueFor 82 = .ok (.invokestatic 66, 3) := dec_at kDX3_valueFor_0 44 rfl
theorem dX3_valueFor_85 : decode cX3_valueFor 85 = .ok (.invokevirtual 69, 3) := dec_at kDX3_valueFor_0 45 rfl
theorem dX3_valueFor_88 : decode cX3_valueFor 88 = .ok (.aload_n 0, 1) := dec_at kDX3_valueFor_0 46 rfl
theorem dX3_valueFor_89 : decode cX3_valueFor 89 = .ok (.iload_n 3, 1) := dec_at kDX3_valueFor_0 47 rfl
theorem dX3_valueFor_90 : decode cX3_valueFor 90 = .ok (.invokevirtual 62, 3) := dec_at kDX3_valueFor_0 48 rfl
theorem dX3_valueFor_93 : decode cX3_valueFor 93 = .ok (.goto 16, 3) := dec_at kDX3_valueFor_0 49 rfl
def DX3_valueFor_50 : List (Nat × (Instr × Nat)) := [(96, (.aload_n 0, 1)), (97, (.iload_n 3, 1)), (98, (.iload_n 1, 1)), (99, (.invokestatic 79, 3)), (102, (.invokevirtual 83, 3)), (105, (.aload_n 0, 1)), (106, (.invokevirtual 76, 3)), (109, (.iinc 2 1, 3)), (112, (.goto (-100), 3)), (115, (.aload_n 0, 1)), (116, (.bipush 124, 2)), (118, (.invokestatic 66, 3)), (121, (.invokevirtual 69, 3)), (124, (.aload_n 0, 1)), (125, (.invokevirtual 87, 3)), (128, (.lreturn, 1))]
theorem kDX3_valueFor_50 : DX3_valueFor_50.all (fun q => decide (decode cX3_valueFor q.1 = .ok q.2)) = true := by decide +kernel
theorem dX3_valueFor_96 : decode cX3_valueFor 96 = .ok (.aload_n 0, 1) := dec_at kDX3_valueFor_50 0 rfl
theorem dX3_valueFor_97 : decode cX3_valueFor 97 = .ok (.iload_n 3, 1) := dec_at kDX3_valueFor_50 1 rfl
theorem dX3_valueFor_98 : decode cX3_valueFor 98 = .ok (.iload_n 1, 1) := dec_at kDX3_valueFor_50 2 rfl
theorem dX3_valueFor_99 : decode cX3_valueFor 99 = .ok (.invokestatic 79, 3) := dec_at kDX3_valueFor_50 3 rfl
theorem dX3_valueFor_102 : decode cX3_valueFor 102 = .ok (.invokevirtual 83, 3) := dec_at kDX3_valueFor_50 4 rfl
theorem dX3_valueFor_105 : decode cX3_valueFor 105 = .ok (.aload_n 0, 1) := dec_at kDX3_valueFor_50 5 rfl
theorem dX3_valueFor_106 : decode cX3_valueFor 106 = .ok (.invokevirtual 76, 3) := dec_at kDX3_valueFor_50 6 rfl
theorem dX3_valueFor_109 : decode cX3_valueFor 109 = .ok (.iinc 2 1, 3) := dec_at kDX3_valueFor_50 7 rfl
theorem dX3_valueFor_112 : decode cX3_valueFor 112 = .ok (.goto (-100), 3) := dec_at kDX3_valueFor_50 8 rfl
theorem dX3_valueFor_115 : decode cX3_valueFor 115 = .ok (.aload_n 0, 1) := dec_at kDX3_valueFor_50 9 rfl
theorem dX3_valueFor_116 : decode cX3_valueFor 116 = .ok (.bipush 124, 2) := dec_at kDX3_valueFor_50 10 rfl
theorem dX3_valueFor_118 : decode cX3_valueFor 118 = .ok (.invokestatic 66, 3) := dec_at kDX3_valueFor_50 11 rfl
theorem dX3_valueFor_121 : decode cX3_valueFor 121 = .ok (.invokevirtual 69, 3) := dec_at kDX3_valueFor_50 12 rfl
theorem dX3_valueFor_124 : decode cX3_valueFor 124 = .ok (.aload_n 0, 1) := dec_at kDX3_valueFor_50 13 rfl
theorem dX3_valueFor_125 : decode cX3_valueFor 125 = .ok (.invokevirtual 87, 3) := dec_at kDX3_valueFor_50 14 rfl
theorem dX3_valueFor_128 : decode cX3_valueFor 128 = .ok (.lreturn, 1) := dec_at kDX3_valueFor_50 15 rfl
def DX3_strengthOf_0 : List (Nat × (Instr × Nat)) := [(0, (.iload_n 0, 1)), (1, (.lookupswitch 41 #[(38, 39), (94, 37), (124, 35)], 35)), (36, (.iconst 1, 1)), (37, (.ireturn, 1)), (38, (.iconst 2, 1)), (39, (.ireturn, 1)), (40, (.iconst 3, 1)), (41, (.ireturn, 1)), (42, (.iconst 0, 1)), (43, (.ireturn, 1))]
theorem kDX3_strengthOf_0 : DX3_strengthOf_0.all (fun q => decide (decode cX3_strengthOf q.1 = .ok q.2)) = true := by decide +kernel
theorem dX3_strengthOf_0 : decode cX3_strengthOf 0 = .ok (.iload_n 0, 1) := dec_at kDX3_strengthOf_0 0 rfl
theorem dX3_strengthOf_1 : decode cX3_strengthOf 1 = .ok (.lookupswitch 41 #[(38, 39), (94, 37), (124, 35)], 35) := dec_at kDX3_strengthOf_0 1 rfl
theorem dX3_strengthOf_36 : decode cX3_strengthOf 36 = .ok (.iconst 1, 1) := dec_at kDX3_strengthOf_0 2 rfl
theorem dX3_strengthOf_37 : decode cX3_strengthOf 37 = .ok (.ireturn, 1) := dec_at kDX3_strengthOf_0 3 rfl
theorem dX3_strengthOf_38 : decode cX3_strengthOf 38 = .ok (.iconst 2, 1) := dec_at kDX3_strengthOf_0 4 rfl
theorem dX3_strengthOf_39 : decode cX3_strengthOf 39 = .ok (.ireturn, 1) := dec_at kDX3_strengthOf_0 5 rfl
theorem dX3_strengthOf_40 : decode cX3_strengthOf 40 = .ok (.iconst 3, 1) := dec_at kDX3_strengthOf_0 6 rfl
theorem dX3_strengthOf_41 : decode cX3_strengthOf 41 = .ok (.ireturn, 1) := dec_at kDX3_strengthOf_0 7 rfl
theorem dX3_strengthOf_42 : decode cX3_strengthOf 42 = .ok (.iconst 0, 1) := dec_at kDX3_strengthOf_0 8 rfl
theorem dX3_strengthOf_43 : decode cX3_strengthOf 43 = .ok (.ireturn, 1) := dec_at kDX3_strengthOf_0 9 rfl
def DX3_operandValue_0 : List (Nat × (Instr × Nat)) := [(0, (.iload_n 0, 1)), (1, (.bipush 97, 2)), (3, (.if_icmp .lt 23, 3)), (6, (.iload_n 0, 1)), (7, (.bipush 97, 2)), (9, (.getstatic 91, 3)), (12, (.arraylength, 1)), (13, (.iadd, 1)), (14, (.if_icmp .ge 12, 3)), (17, (.getstatic 91, 3)), (20, (.iload_n 0, 1)), (21, (.bipush 97, 2)), (23, (.isub, 1)), (24, (.laload, 1)), (25, (.lreturn, 1)), (26, (.iload_n 0, 1)), (27, (.iconst 2, 1)), (28, (.invokestatic 52, 3)), (31, (.ifCond .eq 22, 3)), (34, (.iload_n 1, 1)), (35, (.iload_n 0, 1)), (36, (.bipush 120, 2)), (38, (.isub, 1)), (39, (.ishr, 1)), (40, (.iconst 1, 1)), (41, (.iand, 1)), (42, (.ifCond .eq 9, 3)), (45, (.ldc2_w 94, 3)), (48, (.goto 4, 3)), (51, (.lconst 0, 1)), (52, (.lreturn, 1)), (53, (.iload_n 0, 1)), (54, (.bipush 49, 2)), (56, (.if_icmp .ne 9, 3)), (59, (.ldc2_w 94, 3)), (62, (.goto 4, 3)), (65, (.lconst 0, 1)), (66, (.lreturn, 1))]
theorem kDX3_operandValue_0 : DX3_operandValue_0.all (fun q => decide (decode cX3_operandValue q.1 = .ok q.2)) = true := by decide +kernel
theorem dX3_operandValue_0 : decode cX3_operandValue 0 = .ok (.iload_n 0, 1) := dec_at kDX3_operandValue_0 0 rfl
theorem dX3_operandValue_1 : decode cX3_operandValue 1 = .ok (.bipush 97, 2) := dec_at kDX3_operandValue_0 1 rfl
theorem dX3_operandValue_3 : decode cX3_operandValue 3 = .ok (.if_icmp .lt 23, 3) := dec_at kDX3_operandValue_0 2 rfl
theorem dX3_operandValue_6 : decode cX3_operandValue 6 = .ok (.iload_n 0, 1) := dec_at kDX3_operandValue_0 3 rfl
theorem dX3_operandValue_7 : decode cX3_operandValue 7 = .ok (.bipush 97, 2) := dec_at kDX3_operandValue_0 4 rfl
theorem dX3_operandValue_9 : decode cX3_operandValue 9 = .ok (.getstatic 91, 3) := dec_at kDX3_operandValue_0 5 rfl
theorem dX3_operandValue_12 : decode cX3_operandValue 12 = .ok (.arraylength, 1) := dec_at kDX3_operandValue_0 6 rfl
theorem dX3_operandValue_13 : decode cX3_operandValue 13 = .ok (.iadd, 1) := dec_at kDX3_operandValue_0 7 rfl
theorem dX3_operandValue_14 : decode cX3_operandValue 14 = .ok (.if_icmp .ge 12, 3) := dec_at kDX3_operandValue_0 8 rfl
theorem dX3_operandValue_17 : decode cX3_operandValue 17 = .ok (.getstatic 91, 3) := dec_at kDX3_operandValue_0 9 rfl
theorem dX3_operandValue_20 : decode cX3_operandValue 20 = .ok (.iload_n 0, 1) := dec_at kDX3_operandValue_0 10 rfl
theorem dX3_operandValue_21 : decode cX3_operandValue 21 = .ok (.bipush 97, 2) := dec_at kDX3_operandValue_0 11 rfl
theorem dX3_operandValue_23 : decode cX3_operandValue 23 = .ok (.isub, 1) := dec_at kDX3_operandValue_0 12 rfl
theorem dX3_operandValue_24 : decode cX3_operandValue 24 = .ok (.laload, 1) := dec_at kDX3_operandValue_0 13 rfl
theorem dX3_operandValue_25 : decode cX3_operandValue 25 = .ok (.lreturn, 1) := dec_at kDX3_operandValue_0 14 rfl
theorem dX3_operandValue_26 : decode cX3_operandValue 26 = .ok (.iload_n 0, 1) := dec_at kDX3_operandValue_0 15 rfl
theorem dX3_operandValue_27 : decode cX3_operandValue 27 = .ok (.iconst 2, 1) := dec_at kDX3_operandValue_0 16 rfl
theorem dX3_operandValue_28 : decode cX3_operandValue 28 = .ok (.invokestatic 52, 3) := dec_at kDX3_operandValue_0 17 rfl
theorem dX3_operandValue_31 : decode cX3_operandValue 31 = .ok (.ifCond .eq 22, 3) := dec_at kDX3_operandValue_0 18 rfl
theorem dX3_operandValue_34 : decode cX3_operandValue 34 = .ok (.iload_n 1, 1) := dec_at kDX3_operandValue_0 19 rfl
theorem dX3_operandValue_35 : decode cX3_operandValue 35 = .ok (.iload_n 0, 1) := dec_at kDX3_operandValue_0 20 rfl
theorem dX3_operandValue_36 : decode cX3_operandValue 36 = .ok (.bipush 120, 2) := dec_at kDX3_operandValue_0 21 rfl
theorem dX3_operandValue_38 : decode cX3_operandValue 38 = .ok (.isub, 1) := dec_at kDX3_operandValue_0 22 rfl
theorem dX3_operandValue_39 : decode cX3_operandValue 39 = .ok (.ishr, 1) := dec_at kDX3_operandValue_0 23 rfl
theorem dX3_operandValue_40 : decode cX3_operandValue 40 = .ok (.iconst 1, 1) := dec_at kDX3_operandValue_0 24 rfl
theorem dX3_operandValue_41 : decode cX3_operandValue 41 = .ok (.iand, 1) := dec_at kDX3_operandValue_0 25 rfl
theorem dX3_operandValue_42 : decode cX3_operandValue 42 = .ok (.ifCond .eq 9, 3) := dec_at kDX3_operandValue_0 26 rfl
theorem dX3_operandValue_45 : decode cX3_operandValue 45 = .ok (.ldc2_w 94, 3) := dec_at kDX3_operandValue_0 27 rfl
theorem dX3_operandValue_48 : decode cX3_operandValue 48 = .ok (.goto 4, 3) := dec_at kDX3_operandValue_0 28 rfl
theorem dX3_operandValue_51 : decode cX3_operandValue 51 = .ok (.lconst 0, 1) := dec_at kDX3_operandValue_0 29 rfl
theorem dX3_operandValue_52 : decode cX3_operandValue 52 = .ok (.lreturn, 1) := dec_at kDX3_operandValue_0 30 rfl
theorem dX3_operandValue_53 : decode cX3_operandValue 53 = .ok (.iload_n 0, 1) := dec_at kDX3_operandValue_0 31 rfl
theorem dX3_operandValue_54 : decode cX3_operandValue 54 = .ok (.bipush 49, 2) := dec_at kDX3_operandValue_0 32 rfl
theorem dX3_operandValue_56 : decode cX3_operandValue 56 = .ok (.if_icmp .ne 9, 3) := dec_at kDX3_operandValue_0 33 rfl
theorem dX3_operandValue_59 : decode cX3_operandValue 59 = .ok (.ldc2_w 94, 3) := dec_at kDX3_operandValue_0 34 rfl
theorem dX3_operandValue_62 : decode cX3_operandValue 62 = .ok (.goto 4, 3) := dec_at kDX3_operandValue_0 35 rfl
theorem dX3_operandValue_65 : decode cX3_operandValue 65 = .ok (.lconst 0, 1) := dec_at kDX3_operandValue_0 36 rfl
theorem dX3_operandValue_66 : decode cX3_operandValue 66 = .ok (.lreturn, 1) := dec_at kDX3_operandValue_0 37 rfl
def DX3_applySigns_0 : List (Nat × (Instr × Nat)) := [(0, (.iconst 0, 1)), (1, (.istore_n 2, 1)), (2, (.iload_n 2, 1)), (3, (.bipush 60, 2)), (5, (.if_icmp .ge 82, 3)), (8, (.aload_n 0, 1)), (9, (.invokevirtual 96, 3)), (12, (.invokestatic 66, 3)), (15, (.iload_n 1, 1)), (16, (.if_icmp .lt 71, 3)), (19, (.aload_n 0, 1)), (20, (.invokevirtual 72, 3)), (23, (.istore_n 3, 1)), (24, (.aload_n 0, 1)), (25, (.invokevirtual 87, 3)), (28, (.lstore 4, 2)), (30, (.aload_n 0, 1)), (31, (.invokevirtual 87, 3)), (34, (.lstore 6, 2)), (36, (.iload_n 3, 1)), (37, (.bipush 38, 2)), (39, (.if_icmp .ne 15, 3)), (42, (.aload_n 0, 1)), (43, (.lload 6, 2)), (45, (.lload 4, 2)), (47, (.land, 1)), (48, (.invokevirtual 83, 3)), (51, (.goto 30, 3)), (54, (.iload_n 3, 1)), (55, (.bipush 94, 2)), (57, (.if_icmp .ne 15, 3)), (60, (.aload_n 0, 1)), (61, (.lload 6, 2)), (63, (.lload 4, 2)), (65, (.lxor, 1)), (66, (.invokevirtual 83, 3)), (69, (.goto 12, 3)), (72, (.aload_n 0, 1)), (73, (.lload 6, 2)), (75, (.lload 4, 2)), (77, (.lor, 1)), (78, (.invokevirtual 83, 3)), (81, (.iinc 2 1, 3)), (84, (.goto (-82), 3)), (87, (.return_, 1))]
theorem kDX3_applySigns_0 : DX3_applySigns_0.all (fun q => decide (decode cX3_applySigns q.1 = .ok q.2)) = true := by decide +kernel
theorem dX3_applySigns_0 : decode cX3_applySigns 0 = .ok (.iconst 0, 1) := dec_at kDX3_applySigns_0 0 rfl
theorem dX3_applySigns_1 : decode cX3_applySigns 1 = .ok (.istore_n 2, 1) := dec_at kDX3_applySigns_0 1 rfl
theorem dX3_applySigns_2 : decode cX3_applySigns 2 = .ok (.iload_n 2, 1) := dec_at kDX3_applySigns_0 2 rfl
theorem dX3_applySigns_3 : decode cX3_applySigns 3 = .ok (.bipush 60, 2) := dec_at kDX3_applySigns_0 3 rfl
theorem dX3_applySigns_5 : decode cX3_applySigns 5 = .ok (.if_icmp .ge 82, 3) := dec_at kDX3_applySigns_0 4 rfl
theorem dX3_applySigns_8 : decode cX3_applySigns 8 = .ok (.aload_n 0, 1) := dec_at kDX3_applySigns_0 5 rfl
theorem dX3_applySigns_9 : decode cX3_applySigns 9 = .ok (.invokevirtual 96, 3) := dec_at kDX3_applySigns_0 6 rfl
theorem dX3_applySigns_12 : decode cX3_applySigns 12 = .ok (.invokestatic 66, 3) := dec_at kDX3_applySigns_0 7 rfl
theorem dX3_applySigns_15 : decode cX3_applySigns 15 = .ok (.iload_n 1, 1) := dec_at kDX3_applySigns_0 8 rfl
theorem dX3_applySigns_16 : decode cX3_applySigns 16 = .ok (.if_icmp .lt 71, 3) := dec_at kDX3_applySigns_0 9 rfl
theorem dX3_applySigns_19 : decode cX3_applySigns 19 = .ok (.aload_n 0, 1) := dec_at kDX3_applySigns_0 10 rfl
theorem dX3_applySigns_20 : decode cX3_applySigns 20 = .ok (.invokevirtual 72, 3) := dec_at kDX3_applySigns_0 11 rfl
theorem dX3_applySigns_23 : decode cX3_applySigns 23 = .ok (.istore_n 3, 1) := dec_at kDX3_applySigns_0 12 rfl
theorem dX3_applySigns_24 : decode cX3_applySigns 24 = .ok (.aload_n 0, 1) := dec_at kDX3_applySigns_0 13 rfl
theorem dX3_applySigns_25 : decode cX3_applySigns 25 = .ok (.invokevirtual 87, 3) := dec_at kDX3_applySigns_0 14 rfl
theorem dX3_applySigns_28 : decode cX3_applySigns 28 = .ok (.lstore 4, 2) := dec_at kDX3_applySigns_0 15 rfl
theorem dX3_applySigns_30 : decode cX3_applySigns 30 = .ok (.aload_n 0, 1) := dec_at kDX3_applySigns_0 16 rfl
theorem dX3_applySigns_31 : decode cX3_applySigns 31 = .ok (.invokevirtual 87, 3) := dec_at kDX3_applySigns_0 17 rfl
theorem dX3_applySigns_34 : decode cX3_applySigns 34 = .ok (.lstore 6, 2) := dec_at kDX3_applySigns_0 18 rfl
theorem dX3_applySigns_36 : decode cX3_applySigns 36 = .ok (.iload_n 3, 1) := dec_at kDX3_applySigns_0 19 rfl
theorem dX3_applySigns_37 : decode cX3_applySigns 37 = .ok (.bipush 38, 2) := dec_at kDX3_applySigns_0 20 rfl
theorem dX3_applySigns_39 : decode cX3_applySigns 39 = .ok (.if_icmp .ne 15, 3) := dec_at kDX3_applySigns_0 21 rfl
theorem dX3_applySigns_42 : decode cX3_applySigns 42 = .ok (.aload_n 0, 1) := dec_at kDX3_applySigns_0 22 rfl
theorem dX3_applySigns_43 : decode cX3_applySigns 43 = .ok (.lload 6, 2) := dec_at kDX3_applySigns_0 23 rfl
theorem dX3_applySigns_45 : decode cX3_applySigns 45 = .ok (.lload 4, 2) := dec_at kDX3_applySigns_0 24 rfl
theorem dX3_applySigns_47 : decode cX3_applySigns 47 = .ok (.land, 1) := dec_at kDX3_applySigns_0 25 rfl
theorem dX3_applySigns_48 : decode cX3_applySigns 48 = .ok (.invokevirtual 83, 3) := dec_at kDX3_applySigns_0 26 rfl
theorem dX3_applySigns_51 : decode cX3_applySigns 51 = .ok (.goto 30, 3) := dec_at kDX3_applySigns_0 27 rfl
theorem dX3_applySigns_54 : decode cX3_applySigns 54 = .ok (.iload_n 3, 1) := dec_at kDX3_applySigns_0 28 rfl
theorem dX3_applySigns_55 : decode cX3_applySigns 55 = .ok (.bipush 94, 2) := dec_at kDX3_applySigns_0 29 rfl
theorem dX3_applySigns_57 : decode cX3_applySigns 57 = .ok (.if_icmp .ne 15, 3) := dec_at kDX3_applySigns_0 30 rfl
theorem dX3_applySigns_60 : decode cX3_applySigns 60 = .ok (.aload_n 0, 1) := dec_at kDX3_applySigns_0 31 rfl
theorem dX3_applySigns_61 : decode cX3_applySigns 61 = .ok (.lload 6, 2) := dec_at kDX3_applySigns_0 32 rfl
theorem dX3_applySigns_63 : decode cX3_applySigns 63 = .ok (.lload 4, 2) := dec_at kDX3_applySigns_0 33 rfl
theorem dX3_applySigns_65 : decode cX3_applySigns 65 = .ok (.lxor, 1) := dec_at kDX3_applySigns_0 34 rfl
theorem dX3_applySigns_66 : decode cX3_applySigns 66 = .ok (.invokevirtual 83, 3) := dec_at kDX3_applySigns_0 35 rfl
theorem dX3_applySigns_69 : decode cX3_applySigns 69 = .ok (.goto 12, 3) := dec_at kDX3_applySigns_0 36 rfl
theorem dX3_applySigns_72 : decode cX3_applySigns 72 = .ok (.aload_n 0, 1) := dec_at kDX3_applySigns_0 37 rfl
theorem dX3_applySigns_73 : decode cX3_applySigns 73 = .ok (.lload 6, 2) := dec_at kDX3_applySigns_0 38 rfl
theorem dX3_applySigns_75 : decode cX3_applySigns 75 = .ok (.lload 4, 2) := dec_at kDX3_applySigns_0 39 rfl
theorem dX3_applySigns_77 : decode cX3_applySigns 77 = .ok (.lor, 1) := dec_at kDX3_applySigns_0 40 rfl
theorem dX3_applySigns_78 : decode cX3_applySigns 78 = .ok (.invokevirtual 83, 3) := dec_at kDX3_applySigns_0 41 rfl
theorem dX3_applySigns_81 : decode cX3_applySigns 81 = .ok (.iinc 2 1, 3) := dec_at kDX3_applySigns_0 42 rfl
theorem dX3_applySigns_84 : decode cX3_applySigns 84 = .ok (.goto (-82), 3) := dec_at kDX3_applySigns_0 43 rfl
theorem dX3_applySigns_87 : decode cX3_applySigns 87 = .ok (.return_, 1) := dec_at kDX3_applySigns_0 44 rfl
def DX3_applyNots_0 : List (Nat × (Instr × Nat)) := [(0, (.iconst 0, 1)), (1, (.istore_n 1, 1)), (2, (.iload_n 1, 1)), (3, (.bipush 60, 2)), (5, (.if_icmp .ge 35, 3)), (8, (.aload_n 0, 1)), (9, (.invokevirtual 96, 3)), (12, (.bipush 33, 2)), (14, (.if_icmp .ne 26, 3)), (17, (.aload_n 0, 1)), (18, (.invokevirtual 72, 3)), (21, (.pop, 1)), (22, (.aload_n 0, 1)), (23, (.aload_n 0, 1)), (24, (.invokevirtual 87, 3)), (27, (.ldc2_w 94, 3)), (30, (.lxor, 1)), (31, (.invokevirtual 83, 3)), (34, (.iinc 1 1, 3)), (37, (.goto (-35), 3)), (40, (.return_, 1))]
theorem kDX3_applyNots_0 : DX3_applyNots_0.all (fun q => decide (decode cX3_applyNots q.1 = .ok q.2)) = true := by decide +kernel
theorem dX3_applyNots_0 : decode cX3_applyNots 0 = .ok (.iconst 0, 1) := dec_at kDX3_applyNots_0 0 rfl
theorem dX3_applyNots_1 : decode cX3_applyNots 1 = .ok (.istore_n 1, 1) := dec_at kDX3_applyNots_0 1 rfl
theorem dX3_applyNots_2 : decode cX3_applyNots 2 = .ok (.iload_n 1, 1) := dec_at kDX3_applyNots_0 2 rfl
theorem dX3_applyNots_3 : decode cX3_applyNots 3 = .ok (.bipush 60, 2) := dec_at kDX3_applyNots_0 3 rfl
theorem dX3_applyNots_5 : decode cX3_applyNots 5 = .ok (.if_icmp .ge 35, 3) := dec_at kDX3_applyNots_0 4 rfl
theorem dX3_applyNots_8 : decode cX3_applyNots 8 = .ok (.aload_n 0, 1) := dec_at kDX3_applyNots_0 5 rfl
theorem dX3_applyNots_9 : decode cX3_applyNots 9 = .ok (.invokevirtual 96, 3) := dec_at kDX3_applyNots_0 6 rfl
theorem dX3_applyNots_12 : decode cX3_applyNots 12 = .ok (.bipush 33, 2) := dec_at kDX3_applyNots_0 7 rfl
theorem dX3_applyNots_14 : decode cX3_applyNots 14 = .ok (.if_icmp .ne 26, 3) := dec_at kDX3_applyNots_0 8 rfl
theorem dX3_applyNots_17 : decode cX3_applyNots 17 = .ok (.aload_n 0, 1) := dec_at kDX3_applyNots_0 9 rfl
theorem dX3_applyNots_18 : decode cX3_applyNots 18 = .ok (.invokevirtual 72, 3) := dec_at kDX3_applyNots_0 10 rfl
theorem dX3_applyNots_21 : decode cX3_applyNots 21 = .ok (.pop, 1) := dec_at kDX3_applyNots_0 11 rfl
theorem dX3_applyNots_22 : decode cX3_applyNots 22 = .ok (.aload_n 0, 1) := dec_at kDX3_applyNots_0 12 rfl
theorem dX3_applyNots_23 : decode cX3_applyNots 23 = .ok (.aload_n 0, 1) := dec_at kDX3_applyNots_0 13 rfl
theorem dX3_applyNots_24 : decode cX3_applyNots 24 = .ok (.invokevirtual 87, 3) := dec_at kDX3_applyNots_0 14 rfl
theorem dX3_applyNots_27 : decode cX3_applyNots 27 = .ok (.ldc2_w 94, 3) := dec_at kDX3_applyNots_0 15 rfl
theorem dX3_applyNots_30 : decode cX3_applyNots 30 = .ok (.lxor, 1) := dec_at kDX3_applyNots_0 16 rfl
theorem dX3_applyNots_31 : decode cX3_applyNots 31 = .ok (.invokevirtual 83, 3) := dec_at kDX3_applyNots_0 17 rfl
theorem dX3_applyNots_34 : decode cX3_applyNots 34 = .ok (.iinc 1 1, 3) := dec_at kDX3_applyNots_0 18 rfl
theorem dX3_applyNots_37 : decode cX3_applyNots 37 = .ok (.goto (-35), 3) := dec_at kDX3_applyNots_0 19 rfl
theorem dX3_applyNots_40 : decode cX3_applyNots 40 = .ok (.return_, 1) := dec_at kDX3_applyNots_0 20 rfl
def DX3_topSign_0 : List (Nat × (Instr × Nat)) := [(0, (.aload_n 0, 1)), (1, (.getfield 56, 3)), (4, (.ifCond .le 26, 3)), (7, (.aload_n 0, 1)), (8, (.getfield 56, 3)), (11, (.bipush 60, 2)), (13, (.if_icmp .gt 17, 3)), (16, (.aload_n 0, 1)), (17, (.getfield 15, 3)), (20, (.aload_n 0, 1)), (21, (.getfield 56, 3)), (24, (.iconst 1, 1)), (25, (.isub, 1)), (26, (.iaload, 1)), (27, (.goto 4, 3)), (30, (.iconst 0, 1)), (31, (.ireturn, 1))]
theorem kDX3_topSign_0 : DX3_topSign_0.all (fun q => decide (decode cX3_topSign q.1 = .ok q.2)) = true := by decide +kernel
theorem dX3_topSign_0 : decode cX3_topSign 0 = .ok (.aload_n 0, 1) := dec_at kDX3_topSign_0 0 rfl
theorem dX3_topSign_1 : decode cX3_topSign 1 = .ok (.getfield 56, 3) := dec_at kDX3_topSign_0 1 rfl
theorem dX3_topSign_4 : decode cX3_topSign 4 = .ok (.ifCond .le 26, 3) := dec_at kDX3_topSign_0 2 rfl
theorem dX3_topSign_7 : decode cX3_topSign 7 = .ok (.aload_n 0, 1) := dec_at kDX3_topSign_0 3 rfl
theorem dX3_topSign_8 : decode cX3_topSign 8 = .ok (.getfield 56, 3) := dec_at kDX3_topSign_0 4 rfl
theorem dX3_topSign_11 : decode cX3_topSign 11 = .ok (.bipush 60, 2) := dec_at kDX3_topSign_0 5 rfl
theorem dX3_topSign_13 : decode cX3_topSign 13 = .ok (.if_icmp .gt 17, 3) := dec_at kDX3_topSign_0 6 rfl
theorem dX3_topSign_16 : decode cX3_topSign 16 = .ok (.aload_n 0, 1) := dec_at kDX3_topSign_0 7 rfl
theorem dX3_topSign_17 : decode cX3_topSign 17 = .ok (.getfield 15, 3) := dec_at kDX3_topSign_0 8 rfl
theorem dX3_topSign_20 : decode cX3_topSign 20 = .ok (.aload_n 0, 1) := dec_at kDX3_topSign_0 9 rfl
theorem dX3_topSign_21 : decode cX3_topSign 21 = .ok (.getfield 56, 3) := dec_at kDX3_topSign_0 10 rfl
theorem dX3_topSign_24 : decode cX3_topSign 24 = .ok (.iconst 1, 1) := dec_at kDX3_topSign_0 11 rfl
theorem dX3_topSign_25 : decode cX3_topSign 25 = .ok (.isub, 1) := dec_at kDX3_topSign_0 12 rfl
theorem dX3_topSign_26 : decode cX3_topSign 26 = .ok (.iaload, 1) := dec_at kDX3_topSign_0 13 rfl
theorem dX3_topSign_27 : decode cX3_topSign 27 = .ok (.goto 4, 3) := dec_at kDX3_topSign_0 14 rfl
theorem dX3_topSign_30 : decode cX3_topSign 30 = .ok (.iconst 0, 1) := dec_at kDX3_topSign_0 15 rfl
theorem dX3_topSign_31 : decode cX3_topSign 31 = .ok (.ireturn, 1) := dec_at kDX3_topSign_0 16 rfl
def DX3_popSign_0 : List (Nat × (Instr × Nat)) := [(0, (.aload_n 0, 1)), (1, (.invokevirtual 96, 3)), (4, (.istore_n 1, 1)), (5, (.aload_n 0, 1)), (6, (.getfield 56, 3)), (9, (.ifCond .le 13, 3)), (12, (.aload_n 0, 1)), (13, (.dup, 1)), (14, (.getfield 56, 3)), (17, (.iconst 1, 1)), (18, (.isub, 1)), (19, (.putfield 56, 3)), (22, (.iload_n 1, 1)), (23, (.ireturn, 1))]
theorem kDX3_popSign_0 : DX3_popSign_0.all (fun q => decide (decode cX3_popSign q.1 = .ok q.2)) = true := by decide +kernel
theorem dX3_popSign_0 : decode cX3_popSign 0 = .ok (.aload_n 0, 1) := dec_at kDX3_popSign_0 0 rfl
theorem dX3_popSign_1 : decode cX3_popSign 1 = .ok (.invokevirtual 96, 3) := dec_at kDX3_popSign_0 1 rfl
theorem dX3_popSign_4 : decode cX3_popSign 4 = .ok (.istore_n 1, 1) := dec_at kDX3_popSign_0 2 rfl
theorem dX3_popSign_5 : decode cX3_popSign 5 = .ok (.aload_n 0, 1) := dec_at kDX3_popSign_0 3 rfl
theorem dX3_popSign_6 : decode cX3_popSign 6 = .ok (.getfield 56, 3) := dec_at kDX3_popSign_0 4 rfl
theorem dX3_popSign_9 : decode cX3_popSign 9 = .ok (.ifCond .le 13, 3) := dec_at kDX3_popSign_0 5 rfl
theorem dX3_popSign_12 : decode cX3_popSign 12 = .ok (.aload_n 0, 1) := dec_at kDX3_popSign_0 6 rfl
theorem dX3_popSign_13 : decode cX3_popSign 13 = .ok (.dup, 1) := dec_at kDX3_popSign_0 7 rfl
theorem dX3_popSign_14 : decode cX3_popSign 14 = .ok (.getfield 56, 3) := dec_at kDX3_popSign_0 8 rfl
theorem dX3_popSign_17 : decode cX3_popSign 17 = .ok (.iconst 1, 1) := dec_at kDX3_popSign_0 9 rfl
theorem dX3_popSign_18 : decode cX3_popSign 18 = .ok (.isub, 1) := dec_at kDX3_popSign_0 10 rfl
theorem dX3_popSign_19 : decode cX3_popSign 19 = .ok (.putfield 56, 3) := dec_at kDX3_popSign_0 11 rfl
theorem dX3_popSign_22 : decode cX3_popSign 22 = .ok (.iload_n 1, 1) := dec_at kDX3_popSign_0 12 rfl
theorem dX3_popSign_23 : decode cX3_popSign 23 = .ok (.ireturn, 1) := dec_at kDX3_popSign_0 13 rfl
def DX3_pushSign_0 : List (Nat × (Instr × Nat)) := [(0, (.aload_n 0, 1)), (1, (.getfield 56, 3)), (4, (.ifCond .lt 32, 3)), (7, (.aload_n 0, 1)), (8, (.getfield 56, 3)), (11, (.bipush 60, 2)), (13, (.if_icmp .ge 23, 3)), (16, (.aload_n 0, 1)), (17, (.getfield 15, 3)), (20, (.aload_n 0, 1)), (21, (.getfield 56, 3)), (24, (.iload_n 1, 1)), (25, (.iastore, 1)), (26, (.aload_n 0, 1)), (27, (.dup, 1)), (28, (.getfield 56, 3)), (31, (.iconst 1, 1)), (32, (.iadd, 1)), (33, (.putfield 56, 3)), (36, (.return_, 1))]
theorem kDX3_pushSign_0 : DX3_pushSign_0.all (fun q => decide (decode cX3_pushSign q.1 = .ok q.2)) = true := by decide +kernel
theorem dX3_pushSign_0 : decode cX3_pushSign 0 = .ok (.aload_n 0, 1) := dec_at kDX3_pushSign_0 0 rfl
theorem dX3_pushSign_1 : decode cX3_pushSign 1 = .ok (.getfield 56, 3) := dec_at kDX3_pushSign_0 1 rfl
theorem dX3_pushSign_4 : decode cX3_pushSign 4 = .ok (.ifCond .lt 32, 3) := dec_at kDX3_pushSign_0 2 rfl
theorem dX3_pushSign_7 : decode cX3_pushSign 7 = .ok (.aload_n 0, 1) := dec_at kDX3_pushSign_0 3 rfl
theorem dX3_pushSign_8 : decode cX3_pushSign 8 = .ok (.getfield 56, 3) := dec_at kDX3_pushSign_0 4 rfl
theorem dX3_pushSign_11 : decode cX3_pushSign 11 = .ok (.bipush 60, 2) := dec_at kDX3_pushSign_0 5 rfl
theorem dX3_pushSign_13 : decode cX3_pushSign 13 = .ok (.if_icmp .ge 23, 3) := dec_at kDX3_pushSign_0 6 rfl
theorem dX3_pushSign_16 : decode cX3_pushSign 16 = .ok (.aload_n 0, 1) := dec_at kDX3_pushSign_0 7 rfl
theorem dX3_pushSign_17 : decode cX3_pushSign 17 = .ok (.getfield 15, 3) := dec_at kDX3_pushSign_0 8 rfl
theorem dX3_pushSign_20 : decode cX3_pushSign 20 = .ok (.aload_n 0, 1) := dec_at kDX3_pushSign_0 9 rfl
theorem dX3_pushSign_21 : decode cX3_pushSign 21 = .ok (.getfield 56, 3) := dec_at kDX3_pushSign_0 10 rfl
theorem dX3_pushSign_24 : decode cX3_pushSign 24 = .ok (.iload_n 1, 1) := dec_at kDX3_pushSign_0 11 rfl
theorem dX3_pushSign_25 : decode cX3_pushSign 25 = .ok (.iastore, 1) := dec_at kDX3_pushSign_0 12 rfl
theorem dX3_pushSign_26 : decode cX3_pushSign 26 = .ok (.aload_n 0, 1) := dec_at kDX3_pushSign_0 13 rfl
theorem dX3_pushSign_27 : decode cX3_pushSign 27 = .ok (.dup, 1) := dec_at kDX3_pushSign_0 14 rfl
theorem dX3_pushSign_28 : decode cX3_pushSign 28 = .ok (.getfield 56, 3) := dec_at kDX3_pushSign_0 15 rfl
theorem dX3_pushSign_31 : decode cX3_pushSign 31 = .ok (.iconst 1, 1) := dec_at kDX3_pushSign_0 16 rfl
theorem dX3_pushSign_32 : decode cX3_pushSign 32 = .ok (.iadd, 1) := dec_at kDX3_pushSign_0 17 rfl
theorem dX3_pushSign_33 : decode cX3_pushSign 33 = .ok (.putfield 56, 3) := dec_at kDX3_pushSign_0 18 rfl
theorem dX3_pushSign_36 : decode cX3_pushSign 36 = .ok (.return_, 1) := dec_at kDX3_pushSign_0 19 rfl
def DX3_popValue_0 : List (Nat × (Instr × Nat)) := [(0, (.aload_n 0, 1)), (1, (.getfield 59, 3)), (4, (.ifCond .le 12, 3)), (7, (.aload_n 0, 1)), (8, (.getfield 59, 3)), (11, (.bipush 60, 2)), (13, (.if_icmp .le 5, 3)), (16, (.lconst 0, 1)), (17, (.lreturn, 1)), (18, (.aload_n 0, 1)), (19, (.dup, 1)), (20, (.getfield 59, 3)), (23, (.iconst 1, 1)), (24, (.isub, 1)), (25, (.putfield 59, 3)), (28, (.aload_n 0, 1)), (29, (.getfield 18, 3)), (32, (.aload_n 0, 1)), (33, (.getfield 59, 3)), (36, (.laload, 1)), (37, (.lreturn, 1))]
theorem kDX3_popValue_0 : DX3_popValue_0.all (fun q => decide (decode cX3_popValue q.1 = .ok q.2)) = true := by decide +kernel
theorem dX3_popValue_0 : decode cX3_popValue 0 = .ok (.aload_n 0, 1) := dec_at kDX3_popValue_0 0 rfl
theorem dX3_popValue_1 : decode cX3_popValue 1 = .ok (.getfield 59, 3) := dec_at kDX3_popValue_0 1 rfl
theorem dX3_popValue_4 : decode cX3_popValue 4 = .ok (.ifCond .le 12, 3) := dec_at kDX3_popValue_0 2 rfl
theorem dX3_popValue_7 : decode cX3_popValue 7 = .ok (.aload_n 0, 1) := dec_at kDX3_popValue_0 3 rfl
theorem dX3_popValue_8 : decode cX3_popValue 8 = .ok (.getfield 59, 3) := dec_at kDX3_popValue_0 4 rfl
theorem dX3_popValue_11 : decode cX3_popValue 11 = .ok (.bipush 60, 2) := dec_at kDX3_popValue_0 5 rfl
theorem dX3_popValue_13 : decode cX3_popValue 13 = .ok (.if_icmp .le 5, 3) := dec_at kDX3_popValue_0 6 rfl
theorem dX3_popValue_16 : decode cX3_popValue 16 = .ok (.lconst 0, 1) := dec_at kDX3_popValue_0 7 rfl
theorem dX3_popValue_17 : decode cX3_popValue 17 = .ok (.lreturn, 1) := dec_at kDX3_popValue_0 8 rfl
theorem dX3_popValue_18 : decode cX3_popValue 18 = .ok (.aload_n 0, 1) := dec_at kDX3_popValue_0 9 rfl
theorem dX3_popValue_19 : decode cX3_popValue 19 = .ok (.dup, 1) := dec_at kDX3_popValue_0 10 rfl
theorem dX3_popValue_20 : decode cX3_popValue 20 = .ok (.getfield 59, 3) := dec_at kDX3_popValue_0 11 rfl
theorem dX3_popValue_23 : decode cX3_popValue 23 = .ok (.iconst 1, 1) := dec_at kDX3_popValue_0 12 rfl
theorem dX3_popValue_24 : decode cX3_popValue 24 = .ok (.isub, 1) := dec_at kDX3_popValue_0 13 rfl
theorem dX3_popValue_25 : decode cX3_popValue 25 = .ok (.putfield 59, 3) := dec_at kDX3_popValue_0 14 rfl
theorem dX3_popValue_28 : decode cX3_popValue 28 = .ok (.aload_n 0, 1) := dec_at kDX3_popValue_0 15 rfl
theorem dX3_popValue_29 : decode cX3_popValue 29 = .ok (.getfield 18, 3) := dec_at kDX3_popValue_0 16 rfl
theorem dX3_popValue_32 : decode cX3_popValue 32 = .ok (.aload_n 0, 1) := dec_at kDX3_popValue_0 17 rfl
theorem dX3_popValue_33 : decode cX3_popValue 33 = .ok (.getfield 59, 3) := dec_at kDX3_popValue_0 18 rfl
theorem dX3_popValue_36 : decode cX3_popValue 36 = .ok (.laload, 1) := dec_at kDX3_popValue_0 19 rfl
theorem dX3_popValue_37 : decode cX3_popValue 37 = .ok (.lreturn, 1) := dec_at kDX3_popValue_0 20 rfl
def DX3_pushValue_0 : List (Nat × (Instr × Nat)) := [(0, (.aload_n 0, 1)), (1, (.getfield 59, 3)), (4, (.ifCond .lt 32, 3)), (7, (.aload_n 0, 1)), (8, (.getfield 59, 3)), (11, (.bipush 60, 2)), (13, (.if_icmp .ge 23, 3)), (16, (.aload_n 0, 1)), (17, (.getfield 18, 3)), (20, (.aload_n 0, 1)), (21, (.getfield 59, 3)), (24, (.lload_n 1, 1)), (25, (.lastore, 1)), (26, (.aload_n 0, 1)), (27, (.dup, 1)), (28, (.getfield 59, 3)), (31, (.iconst 1, 1)), (32, (.iadd, 1)), (33, (.putfield 59, 3)), (36, (.return_, 1))]
theorem kDX3_pushValue_0 : DX3_pushValue_0.all (fun q => decide (decode cX3_pushValue q.1 = .ok q.2)) = true := by decide +kernel
theorem dX3_pushValue_0 : decode cX3_pushValue 0 = .ok (.aload_n 0, 1) := dec_at kDX3_pushValue_0 0 rfl
theorem dX3_pushValue_1 : decode cX3_pushValue 1 = .ok (.getfield 59, 3) := dec_at kDX3_pushValue_0 1 rfl
theorem dX3_pushValue_4 : decode cX3_pushValue 4 = .ok (.ifCond .lt 32, 3) := dec_at kDX3_pushValue_0 2 rfl
theorem dX3_pushValue_7 : decode cX3_pushValue 7 = .ok (.aload_n 0, 1) := dec_at kDX3_pushValue_0 3 rfl
theorem dX3_pushValue_8 : decode cX3_pushValue 8 = .ok (.getfield 59, 3) := dec_at kDX3_pushValue_0 4 rfl
theorem dX3_pushValue_11 : decode cX3_pushValue 11 = .ok (.bipush 60, 2) := dec_at kDX3_pushValue_0 5 rfl
theorem dX3_pushValue_13 : decode cX3_pushValue 13 = .ok (.if_icmp .ge 23, 3) := dec_at kDX3_pushValue_0 6 rfl
theorem dX3_pushValue_16 : decode cX3_pushValue 16 = .ok (.aload_n 0, 1) := dec_at kDX3_pushValue_0 7 rfl
theorem dX3_pushValue_17 : decode cX3_pushValue 17 = .ok (.getfield 18, 3) := dec_at kDX3_pushValue_0 8 rfl
theorem dX3_pushValue_20 : decode cX3_pushValue 20 = .ok (.aload_n 0, 1) := dec_at kDX3_pushValue_0 9 rfl
theorem dX3_pushValue_21 : decode cX3_pushValue 21 = .ok (.getfield 59, 3) := dec_at kDX3_pushValue_0 10 rfl
theorem dX3_pushValue_24 : decode cX3_pushValue 24 = .ok (.lload_n 1, 1) := dec_at kDX3_pushValue_0 11 rfl
theorem dX3_pushValue_25 : decode cX3_pushValue 25 = .ok (.lastore, 1) := dec_at kDX3_pushValue_0 12 rfl
theorem dX3_pushValue_26 : decode cX3_pushValue 26 = .ok (.aload_n 0, 1) := dec_at kDX3_pushValue_0 13 rfl
theorem dX3_pushValue_27 : decode cX3_pushValue 27 = .ok (.dup, 1) := dec_at kDX3_pushValue_0 14 rfl
theorem dX3_pushValue_28 : decode cX3_pushValue 28 = .ok (.getfield 59, 3) := dec_at kDX3_pushValue_0 15 rfl
theorem dX3_pushValue_31 : decode cX3_pushValue 31 = .ok (.iconst 1, 1) := dec_at kDX3_pushValue_0 16 rfl
theorem dX3_pushValue_32 : decode cX3_pushValue 32 = .ok (.iadd, 1) := dec_at kDX3_pushValue_0 17 rfl
theorem dX3_pushValue_33 : decode cX3_pushValue 33 = .ok (.putfield 59, 3) := dec_at kDX3_pushValue_0 18 rfl
theorem dX3_pushValue_36 : decode cX3_pushValue 36 = .ok (.return_, 1) := dec_at kDX3_pushValue_0 19 rfl
def DX4_init_0 : List (Nat × (Instr × Nat)) := [(0, (.aload_n 0, 1)), (1, (.invokespecial 3, 3)), (4, (.aload_n 0, 1)), (5, (.aload_n 1, 1)), (6, (.putfield 9, 3)), (9, (.aload_n 0, 1)), (10, (.new 15, 3)), (13, (.dup, 1)), (14, (.invokespecial 17, 3)), (17, (.putfield 18, 3)), (20, (.aload_n 0, 1)), (21, (.bipush 70, 2)), (23, (.newarray .long, 2)), (25, (.putfield 22, 3)), (28, (.aload_n 0, 1)), (29, (.bipush 70, 2)), (31, (.newarray .long, 2)), (33, (.putfield 26, 3)), (36, (.aload_n 0, 1)), (37, (.sipush 729, 3)), (40, (.newarray .boolean, 2)), (42, (.putfield 29, 3)), (45, (.return_, 1))]
theorem kDX4_init_0 : DX4_init_0.all (fun q => decide (decode cX4_init q.1 = .ok q.2)) = true := by decide +kernel
theorem dX4_init_0 : decode cX4_init 0 = .ok (.aload_n 0, 1) := dec_at kDX4_init_0 0 rfl
theorem dX4_init_1 : decode cX4_init 1 = .ok (.invokespecial 3, 3) := dec_at kDX4_init_0 1 rfl
theorem dX4_init_4 : decode cX4_init 4 = .ok (.aload_n 0, 1) := dec_at kDX4_init_0 2 rfl
theorem dX4_init_5 : decode cX4_init 5 = .ok (.aload_n 1, 1) := dec_at kDX4_init_0 3 rfl
theorem dX4_init_6 : decode cX4_init 6 = .ok (.putfield 9, 3) := dec_at kDX4_init_0 4 rfl
theorem dX4_init_9 : decode cX4_init 9 = .ok (.aload_n 0, 1) := dec_at kDX4_init_0 5 rfl
theorem dX4_init_10 : decode cX4_init 10 = .ok (.new 15, 3) := dec_at kDX4_init_0 6 rfl
theorem dX4_init_13 : decode cX4_init 13 = .ok (.dup, 1) := dec_at kDX4_init_0 7 rfl
theorem dX4_init_14 : decode cX4_init 14 = .ok (.invokespecial 17, 3) := dec_at kDX4_init_0 8 rfl
theorem dX4_init_17 : decode cX4_init 17 = .ok (.putfield 18, 3) := dec_at kDX4_init_0 9 rfl
theorem dX4_init_20 : decode cX4_init 20 = .ok (.aload_n 0, 1) := dec_at kDX4_init_0 10 rfl
theorem dX4_init_21 : decode cX4_init 21 = .ok (.bipush 70, 2) := dec_at kDX4_init_0 11 rfl
theorem dX4_init_23 : decode cX4_init 23 = .ok (.newarray .long, 2) := dec_at kDX4_init_0 12 rfl
theorem dX4_init_25 : decode cX4_init 25 = .ok (.putfield 22, 3) := dec_at kDX4_init_0 13 rfl
theorem dX4_init_28 : decode cX4_init 28 = .ok (.aload_n 0, 1) := dec_at kDX4_init_0 14 rfl
theorem dX4_init_29 : decode cX4_init 29 = .ok (.bipush 70, 2) := dec_at kDX4_init_0 15 rfl
theorem dX4_init_31 : decode cX4_init 31 = .ok (.newarray .long, 2) := dec_at kDX4_init_0 16 rfl
theorem dX4_init_33 : decode cX4_init 33 = .ok (.putfield 26, 3) := dec_at kDX4_init_0 17 rfl
theorem dX4_init_36 : decode cX4_init 36 = .ok (.aload_n 0, 1) := dec_at kDX4_init_0 18 rfl
theorem dX4_init_37 : decode cX4_init 37 = .ok (.sipush 729, 3) := dec_at kDX4_init_0 19 rfl
theorem dX4_init_40 : decode cX4_init 40 = .ok (.newarray .boolean, 2) := dec_at kDX4_init_0 20 rfl
theorem dX4_init_42 : decode cX4_init 42 = .ok (.putfield 29, 3) := dec_at kDX4_init_0 21 rfl
theorem dX4_init_45 : decode cX4_init 45 = .ok (.return_, 1) := dec_at kDX4_init_0 22 rfl
def DX4_carryOut_0 : List (Nat × (Instr × Nat)) := [(0, (.aload_n 0, 1)), (1, (.invokevirtual 33, 3)), (4, (.aload_n 0, 1)), (5, (.iconst 1, 1)), (6, (.putfield 36, 3)), (9, (.aload_n 0, 1)), (10, (.getfield 9, 3)), (13, (.invokevirtual 40, 3)), (16, (.aload_n 0, 1)), (17, (.getfield 9, 3)), (20, (.invokevirtual 46, 3)), (23, (.land, 1)), (24, (.lconst 0, 1)), (25, (.lcmp, 1)), (26, (.ifCond .eq 9, 3)), (29, (.aload_n 0, 1)), (30, (.iconst 1, 1)), (31, (.putfield 49, 3)), (34, (.return_, 1)), (35, (.aload_n 0, 1)), (36, (.invokevirtual 53, 3)), (39, (.iconst 0, 1)), (40, (.istore_n 1, 1)), (41, (.iload_n 1, 1)), (42, (.bipush 70, 2)), (44, (.if_icmp .ge 39, 3)), (47, (.aload_n 0, 1)), (48, (.invokevirtual 56, 3)), (51, (.ifCond .eq 9, 3)), (54, (.aload_n 0, 1)), (55, (.iconst 1, 1)), (56, (.putfield 49, 3)), (59, (.return_, 1)), (60, (.aload_n 0, 1)), (61, (.invokevirtual 53, 3)), (64, (.aload_n 0, 1)), (65, (.invokevirtual 60, 3)), (68, (.ifCond .eq 9, 3)), (71, (.aload_n 0, 1)), (72, (.iconst 0, 1)), (73, (.putfield 49, 3)), (76, (.return_, 1)), (77, (.iinc 1 1, 3)), (80, (.goto (-39), 3)), (83, (.return_, 1))]
theorem kDX4_carryOut_0 : DX4_carryOut_0.all (fun q => decide (decode cX4_carryOut q.1 = .ok q.2)) = true := by decide +kernel
theorem dX4_carryOut_0 : decode cX4_carryOut 0 = .ok (.aload_n 0, 1) := dec_at kDX4_carryOut_0 0 rfl
theorem dX4_carryOut_1 : decode cX4_carryOut 1 = .ok (.invokevirtual 33, 3) := dec_at kDX4_carryOut_0 1 rfl
theorem dX4_carryOut_4 : decode cX4_carryOut 4 = .ok (.aload_n 0, 1) := dec_at kDX4_carryOut_0 2 rfl
theorem dX4_carryOut_5 : decode cX4_carryOut 5 = .ok (.iconst 1, 1) := dec_at kDX4_carryOut_0 3 rfl
theorem dX4_carryOut_6 : decode cX4_carryOut 6 = .ok (.putfield 36, 3) := dec_at kDX4_carryOut_0 4 rfl
theorem dX4_carryOut_9 : decode cX4_carryOut 9 = .ok (.aload_n 0, 1) := dec_at kDX4_carryOut_0 5 rfl
theorem dX4_carryOut_10 : decode cX4_carryOut 10 = .ok (.getfield 9, 3) := dec_at kDX4_carryOut_0 6 rfl
theorem dX4_carryOut_13 : decode cX4_carryOut 13 = .ok (.invokevirtual 40, 3) := dec_at kDX4_carryOut_0 7 rfl
theorem dX4_carryOut_16 : decode cX4_carryOut 16 = .ok (.aload_n 0, 1) := dec_at kDX4_carryOut_0 8 rfl
theorem dX4_carryOut_17 : decode cX4_carryOut 17 = .ok (.getfield 9, 3) := dec_at kDX4_carryOut_0 9 rfl
theorem dX4_carryOut_20 : decode cX4_carryOut 20 = .ok (.invokevirtual 46, 3) := dec_at kDX4_carryOut_0 10 rfl
theorem dX4_carryOut_23 : decode cX4_carryOut 23 = .ok (.land, 1) := dec_at kDX4_carryOut_0 11 rfl
theorem dX4_carryOut_24 : decode cX4_carryOut 24 = .ok (.lconst 0, 1) := dec_at kDX4_carryOut_0 12 rfl
theorem dX4_carryOut_25 : decode cX4_carryOut 25 = .ok (.lcmp, 1) := dec_at kDX4_carryOut_0 13 rfl
theorem dX4_carryOut_26 : decode cX4_carryOut 26 = .ok (.ifCond .eq 9, 3) := dec_at kDX4_carryOut_0 14 rfl
theorem dX4_carryOut_29 : decode cX4_carryOut 29 = .ok (.aload_n 0, 1) := dec_at kDX4_carryOut_0 15 rfl
theorem dX4_carryOut_30 : decode cX4_carryOut 30 = .ok (.iconst 1, 1) := dec_at kDX4_carryOut_0 16 rfl
theorem dX4_carryOut_31 : decode cX4_carryOut 31 = .ok (.putfield 49, 3) := dec_at kDX4_carryOut_0 17 rfl
theorem dX4_carryOut_34 : decode cX4_carryOut 34 = .ok (.return_, 1) := dec_at kDX4_carryOut_0 18 rfl
theorem dX4_carryOut_35 : decode cX4_carryOut 35 = .ok (.aload_n 0, 1) := dec_at kDX4_carryOut_0 19 rfl
theorem dX4_carryOut_36 : decode cX4_carryOut 36 = .ok (.invokevirtual 53, 3) := dec_at kDX4_carryOut_0 20 rfl
theorem dX4_carryOut_39 : decode cX4_carryOut 39 = .ok (.iconst 0, 1) := dec_at kDX4_carryOut_0 21 rfl
theorem dX4_carryOut_40 : decode cX4_carryOut 40 = .ok (.istore_n 1, 1) := dec_at kDX4_carryOut_0 22 rfl
theorem dX4_carryOut_41 : decode cX4_carryOut 41 = .ok (.iload_n 1, 1) := dec_at kDX4_carryOut_0 23 rfl
theorem dX4_carryOut_42 : decode cX4_carryOut 42 = .ok (.bipush 70, 2) := dec_at kDX4_carryOut_0 24 rfl
theorem dX4_carryOut_44 : decode cX4_carryOut 44 = .ok (.if_icmp .ge 39, 3) := dec_at kDX4_carryOut_0 25 rfl
theorem dX4_carryOut_47 : decode cX4_carryOut 47 = .ok (.aload_n 0, 1) := dec_at kDX4_carryOut_0 26 rfl
theorem dX4_carryOut_48 : decode cX4_carryOut 48 = .ok (.invokevirtual 56, 3) := dec_at kDX4_carryOut_0 27 rfl
theorem dX4_carryOut_51 : decode cX4_carryOut 51 = .ok (.ifCond .eq 9, 3) := dec_at kDX4_carryOut_0 28 rfl
theorem dX4_carryOut_54 : decode cX4_carryOut 54 = .ok (.aload_n 0, 1) := dec_at kDX4_carryOut_0 29 rfl
theorem dX4_carryOut_55 : decode cX4_carryOut 55 = .ok (.iconst 1, 1) := dec_at kDX4_carryOut_0 30 rfl
theorem dX4_carryOut_56 : decode cX4_carryOut 56 = .ok (.putfield 49, 3) := dec_at kDX4_carryOut_0 31 rfl
theorem dX4_carryOut_59 : decode cX4_carryOut 59 = .ok (.return_, 1) := dec_at kDX4_carryOut_0 32 rfl
theorem dX4_carryOut_60 : decode cX4_carryOut 60 = .ok (.aload_n 0, 1) := dec_at kDX4_carryOut_0 33 rfl
theorem dX4_carryOut_61 : decode cX4_carryOut 61 = .ok (.invokevirtual 53, 3) := dec_at kDX4_carryOut_0 34 rfl
theorem dX4_carryOut_64 : decode cX4_carryOut 64 = .ok (.aload_n 0, 1) := dec_at kDX4_carryOut_0 35 rfl
theorem dX4_carryOut_65 : decode cX4_carryOut 65 = .ok (.invokevirtual 60, 3) := dec_at kDX4_carryOut_0 36 rfl
theorem dX4_carryOut_68 : decode cX4_carryOut 68 = .ok (.ifCond .eq 9, 3) := dec_at kDX4_carryOut_0 37 rfl
theorem dX4_carryOut_71 : decode cX4_carryOut 71 = .ok (.aload_n 0, 1) := dec_at kDX4_carryOut_0 38 rfl
theorem dX4_carryOut_72 : decode cX4_carryOut 72 = .ok (.iconst 0, 1) := dec_at kDX4_carryOut_0 39 rfl
theorem dX4_carryOut_73 : decode cX4_carryOut 73 = .ok (.putfield 49, 3) := dec_at kDX4_carryOut_0 40 rfl
theorem dX4_carryOut_76 : decode cX4_carryOut 76 = .ok (.return_, 1) := dec_at kDX4_carryOut_0 41 rfl
theorem dX4_carryOut_77 : decode cX4_carryOut 77 = .ok (.iinc 1 1, 3) := dec_at kDX4_carryOut_0 42 rfl
theorem dX4_carryOut_80 : decode cX4_carryOut 80 = .ok (.goto (-39), 3) := dec_at kDX4_carryOut_0 43 rfl
theorem dX4_carryOut_83 : decode cX4_carryOut 83 = .ok (.return_, 1) := dec_at kDX4_carryOut_0 44 rfl
def DX4_forgetLast_0 : List (Nat × (Instr × Nat)) := [(0, (.aload_n 0, 1)), (1, (.getfield 18, 3)), (4, (.iconst 0, 1)), (5, (.putfield 63, 3)), (8, (.aload_n 0, 1)), (9, (.getfield 22, 3)), (12, (.lconst 0, 1)), (13, (.invokestatic 66, 3)), (16, (.aload_n 0, 1)), (17, (.getfield 26, 3)), (20, (.lconst 0, 1)), (21, (.invokestatic 66, 3)), (24, (.aload_n 0, 1)), (25, (.getfield 22, 3)), (28, (.iconst 0, 1)), (29, (.aload_n 0, 1)), (30, (.getfield 9, 3)), (33, (.invokevirtual 40, 3)), (36, (.lastore, 1)), (37, (.aload_n 0, 1)), (38, (.iconst 0, 1)), (39, (.putfield 49, 3)), (42, (.aload_n 0, 1)), (43, (.iconst 0, 1)), (44, (.putfield 72, 3)), (47, (.aload_n 0, 1)), (48, (.iconst 0, 1)), (49, (.putfield 75, 3)), (52, (.aload_n 0, 1)), (53, (.iconst 0, 1)), (54, (.putfield 78, 3)), (57, (.aload_n 0, 1)), (58, (.iconst 0, 1)), (59, (.putfield 81, 3)), (62, (.aload_n 0, 1)), (63, (.iconst 0, 1)), (64, (.putfield 84, 3)), (67, (.aload_n 0, 1)), (68, (.iconst 0, 1)), (69, (.putfield 87, 3)), (72, (.return_, 1))]
theorem kDX4_forgetLast_0 : DX4_forgetLast_0.all (fun q => decide (decode cX4_forgetLast q.1 = .ok q.2)) = true := by decide +kernel
theorem dX4_forgetLast_0 : decode cX4_forgetLast 0 = .ok (.aload_n 0, 1) := dec_at kDX4_forgetLast_0 0 rfl
theorem dX4_forgetLast_1 : decode cX4_forgetLast 1 = .ok (.getfield 18, 3) := dec_at kDX4_forgetLast_0 1 rfl
theorem dX4_forgetLast_4 : decode cX4_forgetLast 4 = .ok (.iconst 0, 1) := dec_at kDX4_forgetLast_0 2 rfl
theorem dX4_forgetLast_5 : decode cX4_forgetLast 5 = .ok (.putfield 63, 3) := dec_at kDX4_forgetLast_0 3 rfl
theorem dX4_forgetLast_8 : decode cX4_forgetLast 8 = .ok (.aload_n 0, 1) := dec_at kDX4_forgetLast_0 4 rfl
theorem dX4_forgetLast_9 : decode cX4_forgetLast 9 = .ok (.getfield 22, 3) := dec_at kDX4_forgetLast_0 5 rfl
theorem dX4_forgetLast_12 : decode cX4_forgetLast 12 = .ok (.lconst 0, 1) := dec_at kDX4_forgetLast_0 6 rfl
theorem dX4_forgetLast_13 : decode cX4_forgetLast 13 = .ok (.invokestatic 66, 3) := dec_at kDX4_forgetLast_0 7 rfl
theorem dX4_forgetLast_16 : decode cX4_forgetLast 16 = .ok (.aload_n 0, 1) := dec_at kDX4_forgetLast_0 8 rfl
theorem dX4_forgetLast_17 : decode cX4_forgetLast 17 = .ok (.getfield 26, 3) := dec_at kDX4_forgetLast_0 9 rfl
theorem dX4_forgetLast_20 : decode cX4_forgetLast 20 = .ok (.lconst 0, 1) := dec_at kDX4_forgetLast_0 10 rfl
theorem dX4_forgetLast_21 : decode cX4_forgetLast 21 = .ok (.invokestatic 66, 3) := dec_at kDX4_forgetLast_0 11 rfl
theorem dX4_forgetLast_24 : decode cX4_forgetLast 24 = .ok (.aload_n 0, 1) := dec_at kDX4_forgetLast_0 12 rfl
theorem dX4_forgetLast_25 : decode cX4_forgetLast 25 = .ok (.getfield 22, 3) := dec_at kDX4_forgetLast_0 13 rfl
theorem dX4_forgetLast_28 : decode cX4_forgetLast 28 = .ok (.iconst 0, 1) := dec_at kDX4_forgetLast_0 14 rfl
theorem dX4_forgetLast_29 : decode cX4_forgetLast 29 = .ok (.aload_n 0, 1) := dec_at kDX4_forgetLast_0 15 rfl
theorem dX4_forgetLast_30 : decode cX4_forgetLast 30 = .ok (.getfield 9, 3) := dec_at kDX4_forgetLast_0 16 rfl
theorem dX4_forgetLast_33 : decode cX4_forgetLast 33 = .ok (.invokevirtual 40, 3) := dec_at kDX4_forgetLast_0 17 rfl
theorem dX4_forgetLast_36 : decode cX4_forgetLast 36 = .ok (.lastore, 1) := dec_at kDX4_forgetLast_0 18 rfl
theorem dX4_forgetLast_37 : decode cX4_forgetLast 37 = .ok (.aload_n 0, 1) := dec_at kDX4_forgetLast_0 19 rfl
theorem dX4_forgetLast_38 : decode cX4_forgetLast 38 = .ok (.iconst 0, 1) := dec_at kDX4_forgetLast_0 20 rfl
theorem dX4_forgetLast_39 : decode cX4_forgetLast 39 = .ok (.putfield 49, 3) := dec_at kDX4_forgetLast_0 21 rfl
theorem dX4_forgetLast_42 : decode cX4_forgetLast 42 = .ok (.aload_n 0, 1) := dec_at kDX4_forgetLast_0 22 rfl
theorem dX4_forgetLast_43 : decode cX4_forgetLast 43 = .ok (.iconst 0, 1) := dec_at kDX4_forgetLast_0 23 rfl
theorem dX4_forgetLast_44 : decode cX4_forgetLast 44 = .ok (.putfield 72, 3) := dec_at kDX4_forgetLast_0 24 rfl
theorem dX4_forgetLast_47 : decode cX4_forgetLast 47 = .ok (.aload_n 0, 1) := dec_at kDX4_forgetLast_0 25 rfl
theorem dX4_forgetLast_48 : decode cX4_forgetLast 48 = .ok (.iconst 0, 1) := dec_at kDX4_forgetLast_0 26 rfl
theorem dX4_forgetLast_49 : decode cX4_forgetLast 49 = .ok (.putfield 75, 3) := dec_at kDX4_forgetLast_0 27 rfl
theorem dX4_forgetLast_52 : decode cX4_forgetLast 52 = .ok (.aload_n 0, 1) := dec_at kDX4_forgetLast_0 28 rfl
theorem dX4_forgetLast_53 : decode cX4_forgetLast 53 = .ok (.iconst 0, 1) := dec_at kDX4_forgetLast_0 29 rfl
theorem dX4_forgetLast_54 : decode cX4_forgetLast 54 = .ok (.putfield 78, 3) := dec_at kDX4_forgetLast_0 30 rfl
theorem dX4_forgetLast_57 : decode cX4_forgetLast 57 = .ok (.aload_n 0, 1) := dec_at kDX4_forgetLast_0 31 rfl
theorem dX4_forgetLast_58 : decode cX4_forgetLast 58 = .ok (.iconst 0, 1) := dec_at kDX4_forgetLast_0 32 rfl
theorem dX4_forgetLast_59 : decode cX4_forgetLast 59 = .ok (.putfield 81, 3) := dec_at kDX4_forgetLast_0 33 rfl
theorem dX4_forgetLast_62 : decode cX4_forgetLast 62 = .ok (.aload_n 0, 1) := dec_at kDX4_forgetLast_0 34 rfl
theorem dX4_forgetLast_63 : decode cX4_forgetLast 63 = .ok (.iconst 0, 1) := dec_at kDX4_forgetLast_0 35 rfl
theorem dX4_forgetLast_64 : decode cX4_forgetLast 64 = .ok (.putfield 84, 3) := dec_at kDX4_forgetLast_0 36 rfl
theorem dX4_forgetLast_67 : decode cX4_forgetLast 67 = .ok (.aload_n 0, 1) := dec_at kDX4_forgetLast_0 37 rfl
theorem dX4_forgetLast_68 : decode cX4_forgetLast 68 = .ok (.iconst 0, 1) := dec_at kDX4_forgetLast_0 38 rfl
theorem dX4_forgetLast_69 : decode cX4_forgetLast 69 = .ok (.putfield 87, 3) := dec_at kDX4_forgetLast_0 39 rfl
theorem dX4_forgetLast_72 : decode cX4_forgetLast 72 = .ok (.return_, 1) := dec_at kDX4_forgetLast_0 40 rfl
def DX4_openFrame_0 : List (Nat × (Instr × Nat)) := [(0, (.aload_n 0, 1)), (1, (.getfield 72, 3)), (4, (.ifCond .lt 40, 3)), (7, (.aload_n 0, 1)), (8, (.getfield 72, 3)), (11, (.iconst 1, 1)), (12, (.iadd, 1)), (13, (.bipush 70, 2)), (15, (.if_icmp .ge 29, 3)), (18, (.aload_n 0, 1)), (19, (.dup, 1)), (20, (.getfield 72, 3)), (23, (.iconst 1, 1)), (24, (.iadd, 1)), (25, (.putfield 72, 3)), (28, (.aload_n 0, 1)), (29, (.getfield 22, 3)), (32, (.aload_n 0, 1)), (33, (.getfield 72, 3)), (36, (.aload_n 0, 1)), (37, (.getfield 9, 3)), (40, (.getfield 90, 3)), (43, (.lastore, 1)), (44, (.return_, 1))]
theorem kDX4_openFrame_0 : DX4_openFrame_0.all (fun q => decide (decode cX4_openFrame q.1 = .ok q.2)) = true := by decide +kernel
theorem dX4_openFrame_0 : decode cX4_openFrame 0 = .ok (.aload_n 0, 1) := dec_at kDX4_openFrame_0 0 rfl
theorem dX4_openFrame_1 : decode cX4_openFrame 1 = .ok (.getfield 72, 3) := dec_at kDX4_openFrame_0 1 rfl
theorem dX4_openFrame_4 : decode cX4_openFrame 4 = .ok (.ifCond .lt 40, 3) := dec_at kDX4_openFrame_0 2 rfl
theorem dX4_openFrame_7 : decode cX4_openFrame 7 = .ok (.aload_n 0, 1) := dec_at kDX4_openFrame_0 3 rfl
theorem dX4_openFrame_8 : decode cX4_openFrame 8 = .ok (.getfield 72, 3) := dec_at kDX4_openFrame_0 4 rfl
theorem dX4_openFrame_11 : decode cX4_openFrame 11 = .ok (.iconst 1, 1) := dec_at kDX4_openFrame_0 5 rfl
theorem dX4_openFrame_12 : decode cX4_openFrame 12 = .ok (.iadd, 1) := dec_at kDX4_openFrame_0 6 rfl
theorem dX4_openFrame_13 : decode cX4_openFrame 13 = .ok (.bipush 70, 2) := dec_at kDX4_openFrame_0 7 rfl
theorem dX4_openFrame_15 : decode cX4_openFrame 15 = .ok (.if_icmp .ge 29, 3) := dec_at kDX4_openFrame_0 8 rfl
theorem dX4_openFrame_18 : decode cX4_openFrame 18 = .ok (.aload_n 0, 1) := dec_at kDX4_openFrame_0 9 rfl
theorem dX4_openFrame_19 : decode cX4_openFrame 19 = .ok (.dup, 1) := dec_at kDX4_openFrame_0 10 rfl
theorem dX4_openFrame_20 : decode cX4_openFrame 20 = .ok (.getfield 72, 3) := dec_at kDX4_openFrame_0 11 rfl
theorem dX4_openFrame_23 : decode cX4_openFrame 23 = .ok (.iconst 1, 1) := dec_at kDX4_openFrame_0 12 rfl
theorem dX4_openFrame_24 : decode cX4_openFrame 24 = .ok (.iadd, 1) := dec_at kDX4_openFrame_0 13 rfl
theorem dX4_openFrame_25 : decode cX4_openFrame 25 = .ok (.putfield 72, 3) := dec_at kDX4_openFrame_0 14 rfl
theorem dX4_openFrame_28 : decode cX4_openFrame 28 = .ok (.aload_n 0, 1) := dec_at kDX4_openFrame_0 15 rfl
theorem dX4_openFrame_29 : decode cX4_openFrame 29 = .ok (.getfield 22, 3) := dec_at kDX4_openFrame_0 16 rfl
theorem dX4_openFrame_32 : decode cX4_openFrame 32 = .ok (.aload_n 0, 1) := dec_at kDX4_openFrame_0 17 rfl
theorem dX4_openFrame_33 : decode cX4_openFrame 33 = .ok (.getfield 72, 3) := dec_at kDX4_openFrame_0 18 rfl
theorem dX4_openFrame_36 : decode cX4_openFrame 36 = .ok (.aload_n 0, 1) := dec_at kDX4_openFrame_0 19 rfl
theorem dX4_openFrame_37 : decode cX4_openFrame 37 = .ok (.getfield 9, 3) := dec_at kDX4_openFrame_0 20 rfl
theorem dX4_openFrame_40 : decode cX4_openFrame 40 = .ok (.getfield 90, 3) := dec_at kDX4_openFrame_0 21 rfl
theorem dX4_openFrame_43 : decode cX4_openFrame 43 = .ok (.lastore, 1) := dec_at kDX4_openFrame_0 22 rfl
theorem dX4_openFrame_44 : decode cX4_openFrame 44 = .ok (.return_, 1) := dec_at kDX4_openFrame_0 23 rfl
def DX4_reachesInitialState_0 : List (Nat × (Instr × Nat)) := [(0, (.iconst 0, 1)), (1, (.istore_n 1, 1)), (2, (.iload_n 1, 1)), (3, (.ldc 94, 2)), (5, (.if_icmp .ge 76, 3)), (8, (.aload_n 0, 1)), (9, (.invokevirtual 95, 3)), (12, (.istore_n 2, 1)), (13, (.iload_n 2, 1)), (14, (.iconst (-1), 1)), (15, (.if_icmp .ne 42, 3)), (18, (.aload_n 0, 1)), (19, (.aload_n 0, 1)), (20, (.getfield 72, 3)), (23, (.invokevirtual 99, 3)), (26, (.aload_n 0, 1)), (27, (.getfield 9, 3)), (30, (.invokevirtual 46, 3)), (33, (.land, 1)), (34, (.invokestatic 103, 3)), (37, (.istore_n 3, 1)), (38, (.iload_n 3, 1)), (39, (.iconst (-1), 1)), (40, (.if_icmp .ne 5, 3)), (43, (.iconst 0, 1)), (44, (.ireturn, 1)), (45, (.aload_n 0, 1)), (46, (.iload_n 3, 1)), (47, (.aload_n 0, 1)), (48, (.getfield 72, 3)), (51, (.invokevirtual 107, 3)), (54, (.goto 21, 3)), (57, (.aload_n 0, 1)), (58, (.aload_n 0, 1)), (59, (.iload_n 2, 1)), (60, (.invokevirtual 111, 3)), (63, (.invokestatic 103, 3)), (66, (.iload_n 2, 1)), (67, (.invokevirtual 114, 3)), (70, (.ifCond .eq 5, 3)), (73, (.iconst 1, 1)), (74, (.ireturn, 1)), (75, (.iinc 1 1, 3)), (78, (.goto (-76), 3)), (81, (.iconst 0, 1)), (82, (.ireturn, 1))]
theorem kDX4_reachesInitialState_0 : DX4_reachesInitialState_0.all (fun q => decide (decode cX4_reachesInitialState q.1 = .ok q.2)) = true := by decide +kernel
theorem dX4_reachesInitialState_0 : decode cX4_reachesInitialState 0 = .ok (.iconst 0, 1) := dec_at kDX4_reachesInitialState_0 0 rfl
theorem dX4_reachesInitialState_1 : decode cX4_reachesInitialState 1 = .ok (.istore_n 1, 1) := dec_at kDX4_reachesInitialState_0 1 rfl
theorem dX4_reachesInitialState_2 : decode cX4_reachesInitialState 2 = .ok (.iload_n 1, 1) := dec_at kDX4_reachesInitialState_0 2 rfl
theorem dX4_reachesInitialState_3 : decode cX4_reachesInitialState 3 = .ok (.ldc 94, 2) := dec_at kDX4_reachesInitialState_0 3 rfl
theorem dX4_reachesInitialState_5 : decode cX4_reachesInitialState 5 = .ok (.if_icmp .ge 76, 3) := dec_at kDX4_reachesInitialState_0 4 rfl
theorem dX4_reachesInitialState_8 : decode cX4_reachesInitialState 8 = .ok (.aload_n 0, 1) := dec_at kDX4_reachesInitialState_0 5 rfl
theorem dX4_reachesInitialState_9 : decode cX4_reachesInitialState 9 = .ok (.invokevirtual 95, 3) := dec_at kDX4_reachesInitialState_0 6 rfl
theorem dX4_reachesInitialState_12 : decode cX4_reachesInitialState 12 = .ok (.istore_n 2, 1) := dec_at kDX4_reachesInitialState_0 7 rfl
theorem dX4_reachesInitialState_13 : decode cX4_reachesInitialState 13 = .ok (.iload_n 2, 1) := dec_at kDX4_reachesInitialState_0 8 rfl
theorem dX4_reachesInitialState_14 : decode cX4_reachesInitialState 14 = .ok (.iconst (-1), 1) := dec_at kDX4_reachesInitialState_0 9 rfl
theorem dX4_reachesInitialState_15 : decode cX4_reachesInitialState 15 = .ok (.if_icmp .ne 42, 3) := dec_at kDX4_reachesInitialState_0 10 rfl
theorem dX4_reachesInitialState_18 : decode cX4_reachesInitialState 18 = .ok (.aload_n 0, 1) := dec_at kDX4_reachesInitialState_0 11 rfl
theorem dX4_reachesInitialState_19 : decode cX4_reachesInitialState 19 = .ok (.aload_n 0, 1) := dec_at kDX4_reachesInitialState_0 12 rfl
theorem dX4_reachesInitialState_20 : decode cX4_reachesInitialState 20 = .ok (.getfield 72, 3) := dec_at kDX4_reachesInitialState_0 13 rfl
theorem dX4_reachesInitialState_23 : decode cX4_reachesInitialState 23 = .ok (.invokevirtual 99, 3) := dec_at kDX4_reachesInitialState_0 14 rfl
theorem dX4_reachesInitialState_26 : decode cX4_reachesInitialState 26 = .ok (.aload_n 0, 1) := dec_at kDX4_reachesInitialState_0 15 rfl
theorem dX4_reachesInitialState_27 : decode cX4_reachesInitialState 27 = .ok (.getfield 9, 3) := dec_at kDX4_reachesInitialState_0 16 rfl
theorem dX4_reachesInitialState_30 : decode cX4_reachesInitialState 30 = .ok (.invokevirtual 46, 3) := dec_at kDX4_reachesInitialState_0 17 rfl
theorem dX4_reachesInitialState_33 : decode cX4_reachesInitialState 33 = .ok (.land, 1) := dec_at kDX4_reachesInitialState_0 18 rfl
theorem dX4_reachesInitialState_34 : decode cX4_reachesInitialState 34 = .ok (.invokestatic 103, 3) := dec_at kDX4_reachesInitialState_0 19 rfl
theorem dX4_reachesInitialState_37 : decode cX4_reachesInitialState 37 = .ok (.istore_n 3, 1) := dec_at kDX4_reachesInitialState_0 20 rfl
theorem dX4_reachesInitialState_38 : decode cX4_reachesInitialState 38 = .ok (.iload_n 3, 1) := dec_at kDX4_reachesInitialState_0 21 rfl
theorem dX4_reachesInitialState_39 : decode cX4_reachesInitialState 39 = .ok (.iconst (-1), 1) := dec_at kDX4_reachesInitialState_0 22 rfl
theorem dX4_reachesInitialState_40 : decode cX4_reachesInitialState 40 = .ok (.if_icmp .ne 5, 3) := dec_at kDX4_reachesInitialState_0 23 rfl
theorem dX4_reachesInitialState_43 : decode cX4_reachesInitialState 43 = .ok (.iconst 0, 1) := dec_at kDX4_reachesInitialState_0 24 rfl
theorem dX4_reachesInitialState_44 : decode cX4_reachesInitialState 44 = .ok (.ireturn, 1) := dec_at kDX4_reachesInitialState_0 25 rfl
theorem dX4_reachesInitialState_45 : decode cX4_reachesInitialState 45 = .ok (.aload_n 0, 1) := dec_at kDX4_reachesInitialState_0 26 rfl
theorem dX4_reachesInitialState_46 : decode cX4_reachesInitialState 46 = .ok (.iload_n 3, 1) := dec_at kDX4_reachesInitialState_0 27 rfl
theorem dX4_reachesInitialState_47 : decode cX4_reachesInitialState 47 = .ok (.aload_n 0, 1) := dec_at kDX4_reachesInitialState_0 28 rfl
theorem dX4_reachesInitialState_48 : decode cX4_reachesInitialState 48 = .ok (.getfield 72, 3) := dec_at kDX4_reachesInitialState_0 29 rfl
theorem dX4_reachesInitialState_51 : decode cX4_reachesInitialState 51 = .ok (.invokevirtual 107, 3) := dec_at kDX4_reachesInitialState_0 30 rfl
theorem dX4_reachesInitialState_54 : decode cX4_reachesInitialState 54 = .ok (.goto 21, 3) := dec_at kDX4_reachesInitialState_0 31 rfl
theorem dX4_reachesInitialState_57 : decode cX4_reachesInitialState 57 = .ok (.aload_n 0, 1) := dec_at kDX4_reachesInitialState_0 32 rfl
theorem dX4_reachesInitialState_58 : decode cX4_reachesInitialState 58 = .ok (.aload_n 0, 1) := dec_at kDX4_reachesInitialState_0 33 rfl
theorem dX4_reachesInitialState_59 : decode cX4_reachesInitialState 59 = .ok (.iload_n 2, 1) := dec_at kDX4_reachesInitialState_0 34 rfl
theorem dX4_reachesInitialState_60 : decode cX4_reachesInitialState 60 = .ok (.invokevirtual 111, 3) := dec_at kDX4_reachesInitialState_0 35 rfl
theorem dX4_reachesInitialState_63 : decode cX4_reachesInitialState 63 = .ok (.invokestatic 103, 3) := dec_at kDX4_reachesInitialState_0 36 rfl
theorem dX4_reachesInitialState_66 : decode cX4_reachesInitialState 66 = .ok (.iload_n 2, 1) := dec_at kDX4_reachesInitialState_0 37 rfl
theorem dX4_reachesInitialState_67 : decode cX4_reachesInitialState 67 = .ok (.invokevirtual 114, 3) := dec_at kDX4_reachesInitialState_0 38 rfl
theorem dX4_reachesInitialState_70 : decode cX4_reachesInitialState 70 = .ok (.ifCond .eq 5, 3) := dec_at kDX4_reachesInitialState_0 39 rfl
theorem dX4_reachesInitialState_73 : decode cX4_reachesInitialState 73 = .ok (.iconst 1, 1) := dec_at kDX4_reachesInitialState_0 40 rfl
theorem dX4_reachesInitialState_74 : decode cX4_reachesInitialState 74 = .ok (.ireturn, 1) := dec_at kDX4_reachesInitialState_0 41 rfl
theorem dX4_reachesInitialState_75 : decode cX4_reachesInitialState 75 = .ok (.iinc 1 1, 3) := dec_at kDX4_reachesInitialState_0 42 rfl
theorem dX4_reachesInitialState_78 : decode cX4_reachesInitialState 78 = .ok (.goto (-76), 3) := dec_at kDX4_reachesInitialState_0 43 rfl
theorem dX4_reachesInitialState_81 : decode cX4_reachesInitialState 81 = .ok (.iconst 0, 1) := dec_at kDX4_reachesInitialState_0 44 rfl
theorem dX4_reachesInitialState_82 : decode cX4_reachesInitialState 82 = .ok (.ireturn, 1) := dec_at kDX4_reachesInitialState_0 45 rfl
def DX4_lowestObliged_0 : List (Nat × (Instr × Nat)) := [(0, (.iconst 0, 1)), (1, (.istore_n 1, 1)), (2, (.iload_n 1, 1)), (3, (.aload_n 0, 1)), (4, (.getfield 72, 3)), (7, (.if_icmp .gt 28, 3)), (10, (.iload_n 1, 1)), (11, (.bipush 70, 2)), (13, (.if_icmp .ge 22, 3)), (16, (.aload_n 0, 1)), (17, (.getfield 26, 3)), (20, (.iload_n 1, 1)), (21, (.laload, 1)), (22, (.lconst 0, 1)), (23, (.lcmp, 1)), (24, (.ifCond .eq 5, 3)), (27, (.iload_n 1, 1)), (28, (.ireturn, 1)), (29, (.iinc 1 1, 3)), (32, (.goto (-30), 3)), (35, (.iconst (-1), 1)), (36, (.ireturn, 1))]
theorem kDX4_lowestObliged_0 : DX4_lowestObliged_0.all (fun q => decide (decode cX4_lowestObliged q.1 = .ok q.2)) = true := by decide +kernel
theorem dX4_lowestObliged_0 : decode cX4_lowestObliged 0 = .ok (.iconst 0, 1) := dec_at kDX4_lowestObliged_0 0 rfl
theorem dX4_lowestObliged_1 : decode cX4_lowestObliged 1 = .ok (.istore_n 1, 1) := dec_at kDX4_lowestObliged_0 1 rfl
theorem dX4_lowestObliged_2 : decode cX4_lowestObliged 2 = .ok (.iload_n 1, 1) := dec_at kDX4_lowestObliged_0 2 rfl
theorem dX4_lowestObliged_3 : decode cX4_lowestObliged 3 = .ok (.aload_n 0, 1) := dec_at kDX4_lowestObliged_0 3 rfl
theorem dX4_lowestObliged_4 : decode cX4_lowestObliged 4 = .ok (.getfield 72, 3) := dec_at kDX4_lowestObliged_0 4 rfl
theorem dX4_lowestObliged_7 : decode cX4_lowestObliged 7 = .ok (.if_icmp .gt 28, 3) := dec_at kDX4_lowestObliged_0 5 rfl
theorem dX4_lowestObliged_10 : decode cX4_lowestObliged 10 = .ok (.iload_n 1, 1) := dec_at kDX4_lowestObliged_0 6 rfl
theorem dX4_lowestObliged_11 : decode cX4_lowestObliged 11 = .ok (.bipush 70, 2) := dec_at kDX4_lowestObliged_0 7 rfl
theorem dX4_lowestObliged_13 : decode cX4_lowestObliged 13 = .ok (.if_icmp .ge 22, 3) := dec_at kDX4_lowestObliged_0 8 rfl
theorem dX4_lowestObliged_16 : decode cX4_lowestObliged 16 = .ok (.aload_n 0, 1) := dec_at kDX4_lowestObliged_0 9 rfl
theorem dX4_lowestObliged_17 : decode cX4_lowestObliged 17 = .ok (.getfield 26, 3) := dec_at kDX4_lowestObliged_0 10 rfl
theorem dX4_lowestObliged_20 : decode cX4_lowestObliged 20 = .ok (.iload_n 1, 1) := dec_at kDX4_lowestObliged_0 11 rfl
theorem dX4_lowestObliged_21 : decode cX4_lowestObliged 21 = .ok (.laload, 1) := dec_at kDX4_lowestObliged_0 12 rfl
theorem dX4_lowestObliged_22 : decode cX4_lowestObliged 22 = .ok (.lconst 0, 1) := dec_at kDX4_lowestObliged_0 13 rfl
theorem dX4_lowestObliged_23 : decode cX4_lowestObliged 23 = .ok (.lcmp, 1) := dec_at kDX4_lowestObliged_0 14 rfl
theorem dX4_lowestObliged_24 : decode cX4_lowestObliged 24 = .ok (.ifCond .eq 5, 3) := dec_at kDX4_lowestObliged_0 15 rfl
theorem dX4_lowestObliged_27 : decode cX4_lowestObliged 27 = .ok (.iload_n 1, 1) := dec_at kDX4_lowestObliged_0 16 rfl
theorem dX4_lowestObliged_28 : decode cX4_lowestObliged 28 = .ok (.ireturn, 1) := dec_at kDX4_lowestObliged_0 17 rfl
theorem dX4_lowestObliged_29 : decode cX4_lowestObliged 29 = .ok (.iinc 1 1, 3) := dec_at kDX4_lowestObliged_0 18 rfl
theorem dX4_lowestObliged_32 : decode cX4_lowestObliged 32 = .ok (.goto (-30), 3) := dec_at kDX4_lowestObliged_0 19 rfl
theorem dX4_lowestObliged_35 : decode cX4_lowestObliged 35 = .ok (.iconst (-1), 1) := dec_at kDX4_lowestObliged_0 20 rfl
theorem dX4_lowestObliged_36 : decode cX4_lowestObliged 36 = .ok (.ireturn, 1) := dec_at kDX4_lowestObliged_0 21 rfl
def DX4_obligedAt_0 : List (Nat × (Instr × Nat)) := [(0, (.iload_n 1, 1)), (1, (.ifCond .lt 18, 3)), (4, (.iload_n 1, 1)), (5, (.bipush 70, 2)), (7, (.if_icmp .ge 12, 3)), (10, (.aload_n 0, 1)), (11, (.getfield 26, 3)), (14, (.iload_n 1, 1)), (15, (.laload, 1)), (16, (.goto 4, 3)), (19, (.lconst 0, 1)), (20, (.lreturn, 1))]
theorem kDX4_obligedAt_0 : DX4_obligedAt_0.all (fun q => decide (decode cX4_obligedAt q.1 = .ok q.2)) = true := by decide +kernel
theorem dX4_obligedAt_0 : decode cX4_obligedAt 0 = .ok (.iload_n 1, 1) := dec_at kDX4_obligedAt_0 0 rfl
theorem dX4_obligedAt_1 : decode cX4_obligedAt 1 = .ok (.ifCond .lt 18, 3) := dec_at kDX4_obligedAt_0 1 rfl
theorem dX4_obligedAt_4 : decode cX4_obligedAt 4 = .ok (.iload_n 1, 1) := dec_at kDX4_obligedAt_0 2 rfl
theorem dX4_obligedAt_5 : decode cX4_obligedAt 5 = .ok (.bipush 70, 2) := dec_at kDX4_obligedAt_0 3 rfl
theorem dX4_obligedAt_7 : decode cX4_obligedAt 7 = .ok (.if_icmp .ge 12, 3) := dec_at kDX4_obligedAt_0 4 rfl
theorem dX4_obligedAt_10 : decode cX4_obligedAt 10 = .ok (.aload_n 0, 1) := dec_at kDX4_obligedAt_0 5 rfl
theorem dX4_obligedAt_11 : decode cX4_obligedAt 11 = .ok (.getfield 26, 3) := dec_at kDX4_obligedAt_0 6 rfl
theorem dX4_obligedAt_14 : decode cX4_obligedAt 14 = .ok (.iload_n 1, 1) := dec_at kDX4_obligedAt_0 7 rfl
theorem dX4_obligedAt_15 : decode cX4_obligedAt 15 = .ok (.laload, 1) := dec_at kDX4_obligedAt_0 8 rfl
theorem dX4_obligedAt_16 : decode cX4_obligedAt 16 = .ok (.goto 4, 3) := dec_at kDX4_obligedAt_0 9 rfl
theorem dX4_obligedAt_19 : decode cX4_obligedAt 19 = .ok (.lconst 0, 1) := dec_at kDX4_obligedAt_0 10 rfl
theorem dX4_obligedAt_20 : decode cX4_obligedAt 20 = .ok (.lreturn, 1) := dec_at kDX4_obligedAt_0 11 rfl
def DX4_oblige_0 : List (Nat × (Instr × Nat)) := [(0, (.iload_n 2, 1)), (1, (.ifCond .lt 21, 3)), (4, (.iload_n 2, 1)), (5, (.bipush 70, 2)), (7, (.if_icmp .ge 15, 3)), (10, (.aload_n 0, 1)), (11, (.getfield 26, 3)), (14, (.iload_n 2, 1)), (15, (.dup2, 1)), (16, (.laload, 1)), (17, (.lconst 1, 1)), (18, (.iload_n 1, 1)), (19, (.lshl, 1)), (20, (.lor, 1)), (21, (.lastore, 1)), (22, (.return_, 1))]
theorem kDX4_oblige_0 : DX4_oblige_0.all (fun q => decide (decode cX4_oblige q.1 = .ok q.2)) = true := by decide +kernel
theorem dX4_oblige_0 : decode cX4_oblige 0 = .ok (.iload_n 2, 1) := dec_at kDX4_oblige_0 0 rfl
theorem dX4_oblige_1 : decode cX4_oblige 1 = .ok (.ifCond .lt 21, 3) := dec_at kDX4_oblige_0 1 rfl
theorem dX4_oblige_4 : decode cX4_oblige 4 = .ok (.iload_n 2, 1) := dec_at kDX4_oblige_0 2 rfl
theorem dX4_oblige_5 : decode cX4_oblige 5 = .ok (.bipush 70, 2) := dec_at kDX4_oblige_0 3 rfl
theorem dX4_oblige_7 : decode cX4_oblige 7 = .ok (.if_icmp .ge 15, 3) := dec_at kDX4_oblige_0 4 rfl
theorem dX4_oblige_10 : decode cX4_oblige 10 = .ok (.aload_n 0, 1) := dec_at kDX4_oblige_0 5 rfl
theorem dX4_oblige_11 : decode cX4_oblige 11 = .ok (.getfield 26, 3) := dec_at kDX4_oblige_0 6 rfl
theorem dX4_oblige_14 : decode cX4_oblige 14 = .ok (.iload_n 2, 1) := dec_at kDX4_oblige_0 7 rfl
theorem dX4_oblige_15 : decode cX4_oblige 15 = .ok (.dup2, 1) := dec_at kDX4_oblige_0 8 rfl
theorem dX4_oblige_16 : decode cX4_oblige 16 = .ok (.laload, 1) := dec_at kDX4_oblige_0 9 rfl
theorem dX4_oblige_17 : decode cX4_oblige 17 = .ok (.lconst 1, 1) := dec_at kDX4_oblige_0 10 rfl
theorem dX4_oblige_18 : decode cX4_oblige 18 = .ok (.iload_n 1, 1) := dec_at kDX4_oblige_0 11 rfl
theorem dX4_oblige_19 : decode cX4_oblige 19 = .ok (.lshl, 1) := dec_at kDX4_oblige_0 12 rfl
theorem dX4_oblige_20 : decode cX4_oblige 20 = .ok (.lor, 1) := dec_at kDX4_oblige_0 13 rfl
theorem dX4_oblige_21 : decode cX4_oblige 21 = .ok (.lastore, 1) := dec_at kDX4_oblige_0 14 rfl
theorem dX4_oblige_22 : decode cX4_oblige 22 = .ok (.return_, 1) := dec_at kDX4_oblige_0 15 rfl
def DX4_handle_0 : List (Nat × (Instr × Nat)) := [(0, (.aload_n 0, 1)), (1, (.dup, 1)), (2, (.getfield 75, 3)), (5, (.iconst 1, 1)), (6, (.iadd, 1)), (7, (.putfield 75, 3)), (10, (.aload_n 0, 1)), (11, (.getfield 9, 3)), (14, (.invokevirtual 40, 3)), (17, (.iload_n 1, 1)), (18, (.invokestatic 118, 3)), (21, (.ifCond .eq 5, 3)), (24, (.iconst 1, 1)), (25, (.ireturn, 1)), (26, (.aload_n 0, 1)), (27, (.iload_n 2, 1)), (28, (.invokevirtual 99, 3)), (31, (.iload_n 1, 1)), (32, (.invokestatic 118, 3)), (35, (.ifCond .ne 11, 3)), (38, (.aload_n 0, 1)), (39, (.iload_n 1, 1)), (40, (.iload_n 2, 1)), (41, (.invokevirtual 122, 3)), (44, (.iconst 0, 1)), (45, (.ireturn, 1)), (46, (.aload_n 0, 1)), (47, (.getfield 9, 3)), (50, (.getfield 125, 3)), (53, (.iconst 1, 1)), (54, (.isub, 1)), (55, (.istore_n 3, 1)), (56, (.aload_n 0, 1)), (57, (.getfield 9, 3)), (60, (.iload_n 3, 1)), (61, (.iload_n 1, 1)), (62, (.invokevirtual 128, 3)), (65, (.aload_n 0, 1)), (66, (.iload_n 2, 1)), (67, (.iconst 1, 1)), (68, (.isub, 1)), (69, (.invokevirtual 99, 3)), (72, (.land, 1)), (73, (.lconst 1, 1)), (74, (.iload_n 1, 1)), (75, (.lshl, 1)), (76, (.ldc2_w 132, 3)), (79, (.lxor, 1)), (80, (.land, 1)), (81, (.lstore 4, 2))]
theorem kDX4_handle_0 : DX4_handle_0.all (fun q => decide (decode cX4_handle q.1 = .ok q.2)) = true := by decide +kernel
theorem dX4_handle_0 : decode cX4_handle 0 = .ok (.aload_n 0, 1) := dec_at kDX4_handle_0 0 rfl
theorem dX4_handle_1 : decode cX4_handle 1 = .ok (.dup, 1) := dec_at kDX4_handle_0 1 rfl
theorem dX4_handle_2 : decode cX4_handle 2 = .ok (.getfield 75, 3) := dec_at kDX4_handle_0 2 rfl
theorem dX4_handle_5 : decode cX4_handle 5 = .ok (.iconst 1, 1) := dec_at kDX4_handle_0 3 rfl
theorem dX4_handle_6 : decode cX4_handle 6 = .ok (.iadd, 1) := dec_at kDX4_handle_0 4 rfl
theorem dX4_handle_7 : decode cX4_handle 7 = .ok (.putfield 75, 3) := dec_at kDX4_handle_0 5 rfl
theorem dX4_handle_10 : decode cX4_handle 10 = .ok (.aload_n 0, 1) := dec_at kDX4_handle_0 6 rfl
theorem dX4_handle_11 : decode cX4_handle 11 = .ok (.getfield 9, 3) := dec_at kDX4_handle_0 7 rfl
theorem dX4_handle_14 : decode cX4_handle 14 = .ok (.invokevirtual 40, 3) := dec_at kDX4_handle_0 8 rfl
theorem dX4_handle_17 : decode cX4_handle 17 = .ok (.iload_n 1, 1) := dec_at kDX4_handle_0 9 rfl
theorem dX4_handle_18 : decode cX4_handle 18 = .ok (.invokestatic 118, 3) := dec_at kDX4_handle_0 10 rfl
theorem dX4_handle_21 : decode cX4_handle 21 = .ok (.ifCond .eq 5, 3) := dec_at kDX4_handle_0 11 rfl
theorem dX4_handle_24 : decode cX4_handle 24 = .ok (.iconst 1, 1) := dec_at kDX4_handle_0 12 rfl
theorem dX4_handle_25 : decode cX4_handle 25 = .ok (.ireturn, 1) := dec_at kDX4_handle_0 13 rfl
theorem dX4_handle_26 : decode cX4_handle 26 = .ok (.aload_n 0, 1) := dec_at kDX4_handle_0 14 rfl
theorem dX4_handle_27 : decode cX4_handle 27 = .ok (.iload_n 2, 1) := dec_at kDX4_handle_0 15 rfl
theorem dX4_handle_28 : decode cX4_handle 28 = .ok (.invokevirtual 99, 3) := dec_at kDX4_handle_0 16 rfl
theorem dX4_handle_31 : decode cX4_handle 31 = .ok (.iload_n 1, 1) := dec_at kDX4_handle_0 17 rfl
theorem dX4_handle_32 : decode cX4_handle 32 = .ok (.invokestatic 118, 3) := dec_at kDX4_handle_0 18 rfl
theorem dX4_handle_35 : decode cX4_handle 35 = .ok (.ifCond .ne 11, 3) := dec_at kDX4_handle_0 19 rfl
theorem dX4_handle_38 : decode cX4_handle 38 = .ok (.aload_n 0, 1) := dec_at kDX4_handle_0 20 rfl
theorem dX4_handle_39 : decode cX4_handle 39 = .ok (.iload_n 1, 1) := dec_at kDX4_handle_0 21 rfl
theorem dX4_handle_40 : decode cX4_handle 40 = .ok (.iload_n 2, 1) := dec_at kDX4_handle_0 22 rfl
theorem dX4_handle_41 : decode cX4_handle 41 = .ok (.invokevirtual 122, 3) := dec_at kDX4_handle_0 23 rfl
theorem dX4_handle_44 : decode cX4_handle 44 = .ok (.iconst 0, 1) := dec_at kDX4_handle_0 24 rfl
theorem dX4_handle_45 : decode cX4_handle 45 = .ok (.ireturn, 1) := dec_at kDX4_handle_0 25 rfl
theorem dX4_handle_46 : decode cX4_handle 46 = .ok (.aload_n 0, 1) := dec_at kDX4_handle_0 26 rfl
theorem dX4_handle_47 : decode cX4_handle 47 = .ok (.getfield 9, 3) := dec_at kDX4_handle_0 27 rfl
theorem dX4_handle_50 : decode cX4_handle 50 = .ok (.getfield 125, 3) := dec_at kDX4_handle_0 28 rfl
theorem dX4_handle_53 : decode cX4_handle 53 = .ok (.iconst 1, 1) := dec_at kDX4_handle_0 29 rfl
theorem dX4_handle_54 : decode cX4_handle 54 = .ok (.isub, 1) := dec_at kDX4_handle_0 30 rfl
theorem dX4_handle_55 : decode cX4_handle 55 = .ok (.istore_n 3, 1) := dec_at kDX4_handle_0 31 rfl
theorem dX4_handle_56 : decode cX4_handle 56 = .ok (.aload_n 0, 1) := dec_at kDX4_handle_0 32 rfl
theorem dX4_handle_57 : decode cX4_handle 57 = .ok (.getfield 9, 3) := dec_at kDX4_handle_0 33 rfl
theorem dX4_handle_60 : decode cX4_handle 60 = .ok (.iload_n 3, 1) := dec_at kDX4_handle_0 34 rfl
theorem dX4_handle_61 : decode cX4_handle 61 = .ok (.iload_n 1, 1) := dec_at kDX4_handle_0 35 rfl
theorem dX4_handle_62 : decode cX4_handle 62 = .ok (.invokevirtual 128, 3) := dec_at kDX4_handle_0 36 rfl
theorem dX4_handle_65 : decode cX4_handle 65 = .ok (.aload_n 0, 1) := dec_at kDX4_handle_0 37 rfl
theorem dX4_handle_66 : decode cX4_handle 66 = .ok (.iload_n 2, 1) := dec_at kDX4_handle_0 38 rfl
theorem dX4_handle_67 : decode cX4_handle 67 = .ok (.iconst 1, 1) := dec_at kDX4_handle_0 39 rfl
theorem dX4_handle_68 : decode cX4_handle 68 = .ok (.isub, 1) := dec_at kDX4_handle_0 40 rfl
theorem dX4_handle_69 : decode cX4_handle 69 = .ok (.invokevirtual 99, 3) := dec_at kDX4_handle_0 41 rfl
theorem dX4_handle_72 : decode cX4_handle 72 = .ok (.land, 1) := dec_at kDX4_handle_0 42 rfl
theorem dX4_handle_73 : decode cX4_handle 73 = .ok (.lconst 1, 1) := dec_at kDX4_handle_0 43 rfl
theorem dX4_handle_74 : decode cX4_handle 74 = .ok (.iload_n 1, 1) := dec_at kDX4_handle_0 44 rfl
theorem dX4_handle_75 : decode cX4_handle 75 = .ok (.lshl, 1) := dec_at kDX4_handle_0 45 rfl
theorem dX4_handle_76 : decode cX4_handle 76 = .ok (.ldc2_w 132, 3) := dec_at kDX4_handle_0 46 rfl
theorem dX4_handle_79 : decode cX4_handle 79 = .ok (.lxor, 1) := dec_at kDX4_handle_0 47 rfl
theorem dX4_handle_80 : decode cX4_handle 80 = .ok (.land, 1) := dec_at kDX4_handle_0 48 rfl
theorem dX4_handle_81 : decode cX4_handle 81 = .ok (.lstore 4, 2) := dec_at kDX4_handle_0 49 rfl
def DX4_handle_50 : List (Nat × (Instr × Nat)) := [(83, (.lload 4, 2)), (85, (.lconst 0, 1)), (86, (.lcmp, 1)), (87, (.ifCond .eq 17, 3)), (90, (.aload_n 0, 1)), (91, (.lload 4, 2)), (93, (.invokestatic 103, 3)), (96, (.iload_n 2, 1)), (97, (.iconst 1, 1)), (98, (.isub, 1)), (99, (.invokevirtual 107, 3)), (102, (.iconst 0, 1)), (103, (.ireturn, 1)), (104, (.aload_n 0, 1)), (105, (.aload_n 0, 1)), (106, (.iload_n 1, 1)), (107, (.iload_n 2, 1)), (108, (.invokevirtual 134, 3)), (111, (.iload_n 1, 1)), (112, (.iload_n 2, 1)), (113, (.invokevirtual 138, 3)), (116, (.aload_n 0, 1)), (117, (.iload_n 1, 1)), (118, (.iload_n 2, 1)), (119, (.invokevirtual 122, 3)), (122, (.iconst 0, 1)), (123, (.ireturn, 1))]
theorem kDX4_handle_50 : DX4_handle_50.all (fun q => decide (decode cX4_handle q.1 = .ok q.2)) = true := by decide +kernel
theorem dX4_handle_83 : decode cX4_handle 83 = .ok (.lload 4, 2) := dec_at kDX4_handle_50 0 rfl
theorem dX4_handle_85 : decode cX4_handle 85 = .ok (.lconst 0, 1) := dec_at kDX4_handle_50 1 rfl
theorem dX4_handle_86 : decode cX4_handle 86 = .ok (.lcmp, 1) := dec_at kDX4_handle_50 2 rfl
theorem dX4_handle_87 : decode cX4_handle 87 = .ok (.ifCond .eq 17, 3) := dec_at kDX4_handle_50 3 rfl
theorem dX4_handle_90 : decode cX4_handle 90 = .ok (.aload_n 0, 1) := dec_at kDX4_handle_50 4 rfl
theorem dX4_handle_91 : decode cX4_handle 91 = .ok (.lload 4, 2) := dec_at kDX4_handle_50 5 rfl
theorem dX4_handle_93 : decode cX4_handle 93 = .ok (.invokestatic 103, 3) := dec_at kDX4_handle_50 6 rfl
theorem dX4_handle_96 : decode cX4_handle 96 = .ok (.iload_n 2, 1) := dec_at kDX4_handle_50 7 rfl
theorem dX4_handle_97 : decode cX4_handle 97 = .ok (.iconst 1, 1) := dec_at kDX4_handle_50 8 rfl
theorem dX4_handle_98 : decode cX4_handle 98 = .ok (.isub, 1) := dec_at kDX4_handle_50 9 rfl
theorem dX4_handle_99 : decode cX4_handle 99 = .ok (.invokevirtual 107, 3) := dec_at kDX4_handle_50 10 rfl
theorem dX4_handle_102 : decode cX4_handle 102 = .ok (.iconst 0, 1) := dec_at kDX4_handle_50 11 rfl
theorem dX4_handle_103 : decode cX4_handle 103 = .ok (.ireturn, 1) := dec_at kDX4_handle_50 12 rfl
theorem dX4_handle_104 : decode cX4_handle 104 = .ok (.aload_n 0, 1) := dec_at kDX4_handle_50 13 rfl
theorem dX4_handle_105 : decode cX4_handle 105 = .ok (.aload_n 0, 1) := dec_at kDX4_handle_50 14 rfl
theorem dX4_handle_106 : decode cX4_handle 106 = .ok (.iload_n 1, 1) := dec_at kDX4_handle_50 15 rfl
theorem dX4_handle_107 : decode cX4_handle 107 = .ok (.iload_n 2, 1) := dec_at kDX4_handle_50 16 rfl
theorem dX4_handle_108 : decode cX4_handle 108 = .ok (.invokevirtual 134, 3) := dec_at kDX4_handle_50 17 rfl
theorem dX4_handle_111 : decode cX4_handle 111 = .ok (.iload_n 1, 1) := dec_at kDX4_handle_50 18 rfl
theorem dX4_handle_112 : decode cX4_handle 112 = .ok (.iload_n 2, 1) := dec_at kDX4_handle_50 19 rfl
theorem dX4_handle_113 : decode cX4_handle 113 = .ok (.invokevirtual 138, 3) := dec_at kDX4_handle_50 20 rfl
theorem dX4_handle_116 : decode cX4_handle 116 = .ok (.aload_n 0, 1) := dec_at kDX4_handle_50 21 rfl
theorem dX4_handle_117 : decode cX4_handle 117 = .ok (.iload_n 1, 1) := dec_at kDX4_handle_50 22 rfl
theorem dX4_handle_118 : decode cX4_handle 118 = .ok (.iload_n 2, 1) := dec_at kDX4_handle_50 23 rfl
theorem dX4_handle_119 : decode cX4_handle 119 = .ok (.invokevirtual 122, 3) := dec_at kDX4_handle_50 24 rfl
theorem dX4_handle_122 : decode cX4_handle 122 = .ok (.iconst 0, 1) := dec_at kDX4_handle_50 25 rfl
theorem dX4_handle_123 : decode cX4_handle 123 = .ok (.ireturn, 1) := dec_at kDX4_handle_50 26 rfl
def DX4_moveUp_0 : List (Nat × (Instr × Nat)) := [(0, (.iload_n 2, 1)), (1, (.ifCond .lt 25, 3)), (4, (.iload_n 2, 1)), (5, (.bipush 70, 2)), (7, (.if_icmp .ge 19, 3)), (10, (.aload_n 0, 1)), (11, (.getfield 26, 3)), (14, (.iload_n 2, 1)), (15, (.dup2, 1)), (16, (.laload, 1)), (17, (.lconst 1, 1)), (18, (.iload_n 1, 1)), (19, (.lshl, 1)), (20, (.ldc2_w 132, 3)), (23, (.lxor, 1)), (24, (.land, 1)), (25, (.lastore, 1)), (26, (.iload_n 2, 1)), (27, (.aload_n 0, 1)), (28, (.getfield 72, 3)), (31, (.if_icmp .ge 11, 3)), (34, (.aload_n 0, 1)), (35, (.iload_n 1, 1)), (36, (.iload_n 2, 1)), (37, (.iconst 1, 1)), (38, (.iadd, 1)), (39, (.invokevirtual 107, 3)), (42, (.return_, 1))]
theorem kDX4_moveUp_0 : DX4_moveUp_0.all (fun q => decide (decode cX4_moveUp q.1 = .ok q.2)) = true := by decide +kernel
theorem dX4_moveUp_0 : decode cX4_moveUp 0 = .ok (.iload_n 2, 1) := dec_at kDX4_moveUp_0 0 rfl
theorem dX4_moveUp_1 : decode cX4_moveUp 1 = .ok (.ifCond .lt 25, 3) := dec_at kDX4_moveUp_0 1 rfl
theorem dX4_moveUp_4 : decode cX4_moveUp 4 = .ok (.iload_n 2, 1) := dec_at kDX4_moveUp_0 2 rfl
theorem dX4_moveUp_5 : decode cX4_moveUp 5 = .ok (.bipush 70, 2) := dec_at kDX4_moveUp_0 3 rfl
theorem dX4_moveUp_7 : decode cX4_moveUp 7 = .ok (.if_icmp .ge 19, 3) := dec_at kDX4_moveUp_0 4 rfl
theorem dX4_moveUp_10 : decode cX4_moveUp 10 = .ok (.aload_n 0, 1) := dec_at kDX4_moveUp_0 5 rfl
theorem dX4_moveUp_11 : decode cX4_moveUp 11 = .ok (.getfield 26, 3) := dec_at kDX4_moveUp_0 6 rfl
theorem dX4_moveUp_14 : decode cX4_moveUp 14 = .ok (.iload_n 2, 1) := dec_at kDX4_moveUp_0 7 rfl
theorem dX4_moveUp_15 : decode cX4_moveUp 15 = .ok (.dup2, 1) := dec_at kDX4_moveUp_0 8 rfl
theorem dX4_moveUp_16 : decode cX4_moveUp 16 = .ok (.laload, 1) := dec_at kDX4_moveUp_0 9 rfl
theorem dX4_moveUp_17 : decode cX4_moveUp 17 = .ok (.lconst 1, 1) := dec_at kDX4_moveUp_0 10 rfl
theorem dX4_moveUp_18 : decode cX4_moveUp 18 = .ok (.iload_n 1, 1) := dec_at kDX4_moveUp_0 11 rfl
theorem dX4_moveUp_19 : decode cX4_moveUp 19 = .ok (.lshl, 1) := dec_at kDX4_moveUp_0 12 rfl
theorem dX4_moveUp_20 : decode cX4_moveUp 20 = .ok (.ldc2_w 132, 3) := dec_at kDX4_moveUp_0 13 rfl
theorem dX4_moveUp_23 : decode cX4_moveUp 23 = .ok (.lxor, 1) := dec_at kDX4_moveUp_0 14 rfl
theorem dX4_moveUp_24 : decode cX4_moveUp 24 = .ok (.land, 1) := dec_at kDX4_moveUp_0 15 rfl
theorem dX4_moveUp_25 : decode cX4_moveUp 25 = .ok (.lastore, 1) := dec_at kDX4_moveUp_0 16 rfl
theorem dX4_moveUp_26 : decode cX4_moveUp 26 = .ok (.iload_n 2, 1) := dec_at kDX4_moveUp_0 17 rfl
theorem dX4_moveUp_27 : decode cX4_moveUp 27 = .ok (.aload_n 0, 1) := dec_at kDX4_moveUp_0 18 rfl
theorem dX4_moveUp_28 : decode cX4_moveUp 28 = .ok (.getfield 72, 3) := dec_at kDX4_moveUp_0 19 rfl
theorem dX4_moveUp_31 : decode cX4_moveUp 31 = .ok (.if_icmp .ge 11, 3) := dec_at kDX4_moveUp_0 20 rfl
theorem dX4_moveUp_34 : decode cX4_moveUp 34 = .ok (.aload_n 0, 1) := dec_at kDX4_moveUp_0 21 rfl
theorem dX4_moveUp_35 : decode cX4_moveUp 35 = .ok (.iload_n 1, 1) := dec_at kDX4_moveUp_0 22 rfl
theorem dX4_moveUp_36 : decode cX4_moveUp 36 = .ok (.iload_n 2, 1) := dec_at kDX4_moveUp_0 23 rfl
theorem dX4_moveUp_37 : decode cX4_moveUp 37 = .ok (.iconst 1, 1) := dec_at kDX4_moveUp_0 24 rfl
theorem dX4_moveUp_38 : decode cX4_moveUp 38 = .ok (.iadd, 1) := dec_at kDX4_moveUp_0 25 rfl
theorem dX4_moveUp_39 : decode cX4_moveUp 39 = .ok (.invokevirtual 107, 3) := dec_at kDX4_moveUp_0 26 rfl
theorem dX4_moveUp_42 : decode cX4_moveUp 42 = .ok (.return_, 1) := dec_at kDX4_moveUp_0 27 rfl
def DX4_generalize_0 : List (Nat × (Instr × Nat)) := [(0, (.aload_n 0, 1)), (1, (.getfield 9, 3)), (4, (.getfield 125, 3)), (7, (.iconst 1, 1)), (8, (.isub, 1)), (9, (.istore_n 3, 1)), (10, (.iconst 0, 1)), (11, (.istore 4, 2)), (13, (.iload 4, 2)), (15, (.aload_n 0, 1)), (16, (.getfield 9, 3)), (19, (.getfield 142, 3)), (22, (.if_icmp .ge 80, 3)), (25, (.iload_n 3, 1)), (26, (.iconst 1, 1)), (27, (.iload 4, 2)), (29, (.ishl, 1)), (30, (.iconst (-1), 1)), (31, (.ixor, 1)), (32, (.iand, 1)), (33, (.istore 5, 2)), (35, (.aload_n 0, 1)), (36, (.getfield 9, 3)), (39, (.iload 5, 2)), (41, (.iload_n 1, 1)), (42, (.invokevirtual 145, 3)), (45, (.aload_n 0, 1)), (46, (.getfield 9, 3)), (49, (.invokevirtual 40, 3)), (52, (.land, 1)), (53, (.lconst 0, 1)), (54, (.lcmp, 1)), (55, (.ifCond .ne 7, 3)), (58, (.iconst 1, 1)), (59, (.goto 4, 3)), (62, (.iconst 0, 1)), (63, (.istore 6, 2)), (65, (.iload 6, 2)), (67, (.ifCond .eq 29, 3)), (70, (.aload_n 0, 1)), (71, (.iload 5, 2)), (73, (.iload_n 1, 1)), (74, (.iload_n 2, 1)), (75, (.iconst 1, 1)), (76, (.isub, 1)), (77, (.invokevirtual 148, 3)), (80, (.ifCond .eq 16, 3)), (83, (.iload 5, 2)), (85, (.istore_n 3, 1)), (86, (.aload_n 0, 1))]
theorem kDX4_generalize_0 : DX4_generalize_0.all (fun q => decide (decode cX4_generalize q.1 = .ok q.2)) = true := by decide +kernel
theorem dX4_generalize_0 : decode cX4_generalize 0 = .ok (.aload_n 0, 1) := dec_at kDX4_generalize_0 0 rfl
theorem dX4_generalize_1 : decode cX4_generalize 1 = .ok (.getfield 9, 3) := dec_at kDX4_generalize_0 1 rfl
theorem dX4_generalize_4 : decode cX4_generalize 4 = .ok (.getfield 125, 3) := dec_at kDX4_generalize_0 2 rfl
theorem dX4_generalize_7 : decode cX4_generalize 7 = .ok (.iconst 1, 1) := dec_at kDX4_generalize_0 3 rfl
theorem dX4_generalize_8 : decode cX4_generalize 8 = .ok (.isub, 1) := dec_at kDX4_generalize_0 4 rfl
theorem dX4_generalize_9 : decode cX4_generalize 9 = .ok (.istore_n 3, 1) := dec_at kDX4_generalize_0 5 rfl
theorem dX4_generalize_10 : decode cX4_generalize 10 = .ok (.iconst 0, 1) := dec_at kDX4_generalize_0 6 rfl
theorem dX4_generalize_11 : decode cX4_generalize 11 = .ok (.istore 4, 2) := dec_at kDX4_generalize_0 7 rfl
theorem dX4_generalize_13 : decode cX4_generalize 13 = .ok (.iload 4, 2) := dec_at kDX4_generalize_0 8 rfl
theorem dX4_generalize_15 : decode cX4_generalize 15 = .ok (.aload_n 0, 1) := dec_at kDX4_generalize_0 9 rfl
theorem dX4_generalize_16 : decode cX4_generalize 16 = .ok (.getfield 9, 3) := dec_at kDX4_generalize_0 10 rfl
theorem dX4_generalize_19 : decode cX4_generalize 19 = .ok (.getfield 142, 3) := dec_at kDX4_generalize_0 11 rfl
theorem dX4_generalize_22 : decode cX4_generalize 22 = .ok (.if_icmp .ge 80, 3) := dec_at kDX4_generalize_0 12 rfl
theorem dX4_generalize_25 : decode cX4_generalize 25 = .ok (.iload_n 3, 1) := dec_at kDX4_generalize_0 13 rfl
theorem dX4_generalize_26 : decode cX4_generalize 26 = .ok (.iconst 1, 1) := dec_at kDX4_generalize_0 14 rfl
theorem dX4_generalize_27 : decode cX4_generalize 27 = .ok (.iload 4, 2) := dec_at kDX4_generalize_0 15 rfl
theorem dX4_generalize_29 : decode cX4_generalize 29 = .ok (.ishl, 1) := dec_at kDX4_generalize_0 16 rfl
theorem dX4_generalize_30 : decode cX4_generalize 30 = .ok (.iconst (-1), 1) := dec_at kDX4_generalize_0 17 rfl
theorem dX4_generalize_31 : decode cX4_generalize 31 = .ok (.ixor, 1) := dec_at kDX4_generalize_0 18 rfl
theorem dX4_generalize_32 : decode cX4_generalize 32 = .ok (.iand, 1) := dec_at kDX4_generalize_0 19 rfl
theorem dX4_generalize_33 : decode cX4_generalize 33 = .ok (.istore 5, 2) := dec_at kDX4_generalize_0 20 rfl
theorem dX4_generalize_35 : decode cX4_generalize 35 = .ok (.aload_n 0, 1) := dec_at kDX4_generalize_0 21 rfl
theorem dX4_generalize_36 : decode cX4_generalize 36 = .ok (.getfield 9, 3) := dec_at kDX4_generalize_0 22 rfl
theorem dX4_generalize_39 : decode cX4_generalize 39 = .ok (.iload 5, 2) := dec_at kDX4_generalize_0 23 rfl
theorem dX4_generalize_41 : decode cX4_generalize 41 = .ok (.iload_n 1, 1) := dec_at kDX4_generalize_0 24 rfl
theorem dX4_generalize_42 : decode cX4_generalize 42 = .ok (.invokevirtual 145, 3) := dec_at kDX4_generalize_0 25 rfl
theorem dX4_generalize_45 : decode cX4_generalize 45 = .ok (.aload_n 0, 1) := dec_at kDX4_generalize_0 26 rfl
theorem dX4_generalize_46 : decode cX4_generalize 46 = .ok (.getfield 9, 3) := dec_at kDX4_generalize_0 27 rfl
theorem dX4_generalize_49 : decode cX4_generalize 49 = .ok (.invokevirtual 40, 3) := dec_at kDX4_generalize_0 28 rfl
theorem dX4_generalize_52 : decode cX4_generalize 52 = .ok (.land, 1) := dec_at kDX4_generalize_0 29 rfl
theorem dX4_generalize_53 : decode cX4_generalize 53 = .ok (.lconst 0, 1) := dec_at kDX4_generalize_0 30 rfl
theorem dX4_generalize_54 : decode cX4_generalize 54 = .ok (.lcmp, 1) := dec_at kDX4_generalize_0 31 rfl
theorem dX4_generalize_55 : decode cX4_generalize 55 = .ok (.ifCond .ne 7, 3) := dec_at kDX4_generalize_0 32 rfl
theorem dX4_generalize_58 : decode cX4_generalize 58 = .ok (.iconst 1, 1) := dec_at kDX4_generalize_0 33 rfl
theorem dX4_generalize_59 : decode cX4_generalize 59 = .ok (.goto 4, 3) := dec_at kDX4_generalize_0 34 rfl
theorem dX4_generalize_62 : decode cX4_generalize 62 = .ok (.iconst 0, 1) := dec_at kDX4_generalize_0 35 rfl
theorem dX4_generalize_63 : decode cX4_generalize 63 = .ok (.istore 6, 2) := dec_at kDX4_generalize_0 36 rfl
theorem dX4_generalize_65 : decode cX4_generalize 65 = .ok (.iload 6, 2) := dec_at kDX4_generalize_0 37 rfl
theorem dX4_generalize_67 : decode cX4_generalize 67 = .ok (.ifCond .eq 29, 3) := dec_at kDX4_generalize_0 38 rfl
theorem dX4_generalize_70 : decode cX4_generalize 70 = .ok (.aload_n 0, 1) := dec_at kDX4_generalize_0 39 rfl
theorem dX4_generalize_71 : decode cX4_generalize 71 = .ok (.iload 5, 2) := dec_at kDX4_generalize_0 40 rfl
theorem dX4_generalize_73 : decode cX4_generalize 73 = .ok (.iload_n 1, 1) := dec_at kDX4_generalize_0 41 rfl
theorem dX4_generalize_74 : decode cX4_generalize 74 = .ok (.iload_n 2, 1) := dec_at kDX4_generalize_0 42 rfl
theorem dX4_generalize_75 : decode cX4_generalize 75 = .ok (.iconst 1, 1) := dec_at kDX4_generalize_0 43 rfl
theorem dX4_generalize_76 : decode cX4_generalize 76 = .ok (.isub, 1) := dec_at kDX4_generalize_0 44 rfl
theorem dX4_generalize_77 : decode cX4_generalize 77 = .ok (.invokevirtual 148, 3) := dec_at kDX4_generalize_0 45 rfl
theorem dX4_generalize_80 : decode cX4_generalize 80 = .ok (.ifCond .eq 16, 3) := dec_at kDX4_generalize_0 46 rfl
theorem dX4_generalize_83 : decode cX4_generalize 83 = .ok (.iload 5, 2) := dec_at kDX4_generalize_0 47 rfl
theorem dX4_generalize_85 : decode cX4_generalize 85 = .ok (.istore_n 3, 1) := dec_at kDX4_generalize_0 48 rfl
theorem dX4_generalize_86 : decode cX4_generalize 86 = .ok (.aload_n 0, 1) := dec_at kDX4_generalize_0 49 rfl
def DX4_generalize_50 : List (Nat × (Instr × Nat)) := [(87, (.dup, 1)), (88, (.getfield 81, 3)), (91, (.iconst 1, 1)), (92, (.iadd, 1)), (93, (.putfield 81, 3)), (96, (.iinc 4 1, 3)), (99, (.goto (-86), 3)), (102, (.iload_n 3, 1)), (103, (.ireturn, 1))]
theorem kDX4_generalize_50 : DX4_generalize_50.all (fun q => decide (decode cX4_generalize q.1 = .ok q.2)) = true := by decide +kernel
theorem dX4_generalize_87 : decode cX4_generalize 87 = .ok (.dup, 1) := dec_at kDX4_generalize_50 0 rfl
theorem dX4_generalize_88 : decode cX4_generalize 88 = .ok (.getfield 81, 3) := dec_at kDX4_generalize_50 1 rfl
theorem dX4_generalize_91 : decode cX4_generalize 91 = .ok (.iconst 1, 1) := dec_at kDX4_generalize_50 2 rfl
theorem dX4_generalize_92 : decode cX4_generalize 92 = .ok (.iadd, 1) := dec_at kDX4_generalize_50 3 rfl
theorem dX4_generalize_93 : decode cX4_generalize 93 = .ok (.putfield 81, 3) := dec_at kDX4_generalize_50 4 rfl
theorem dX4_generalize_96 : decode cX4_generalize 96 = .ok (.iinc 4 1, 3) := dec_at kDX4_generalize_50 5 rfl
theorem dX4_generalize_99 : decode cX4_generalize 99 = .ok (.goto (-86), 3) := dec_at kDX4_generalize_50 6 rfl
theorem dX4_generalize_102 : decode cX4_generalize 102 = .ok (.iload_n 3, 1) := dec_at kDX4_generalize_50 7 rfl
theorem dX4_generalize_103 : decode cX4_generalize 103 = .ok (.ireturn, 1) := dec_at kDX4_generalize_50 8 rfl
def DX4_isBlocked_0 : List (Nat × (Instr × Nat)) := [(0, (.aload_n 0, 1)), (1, (.iload_n 3, 1)), (2, (.invokevirtual 99, 3)), (5, (.aload_n 0, 1)), (6, (.getfield 9, 3)), (9, (.iload_n 1, 1)), (10, (.iload_n 2, 1)), (11, (.invokevirtual 145, 3)), (14, (.ldc2_w 132, 3)), (17, (.lxor, 1)), (18, (.land, 1)), (19, (.lstore 4, 2)), (21, (.lload 4, 2)), (23, (.aload_n 0, 1)), (24, (.getfield 9, 3)), (27, (.iload_n 1, 1)), (28, (.iload_n 2, 1)), (29, (.invokevirtual 128, 3)), (32, (.land, 1)), (33, (.lconst 0, 1)), (34, (.lcmp, 1)), (35, (.ifCond .ne 7, 3)), (38, (.iconst 1, 1)), (39, (.goto 4, 3)), (42, (.iconst 0, 1)), (43, (.ireturn, 1))]
theorem kDX4_isBlocked_0 : DX4_isBlocked_0.all (fun q => decide (decode cX4_isBlocked q.1 = .ok q.2)) = true := by decide +kernel
theorem dX4_isBlocked_0 : decode cX4_isBlocked 0 = .ok (.aload_n 0, 1) := dec_at kDX4_isBlocked_0 0 rfl
theorem dX4_isBlocked_1 : decode cX4_isBlocked 1 = .ok (.iload_n 3, 1) := dec_at kDX4_isBlocked_0 1 rfl
theorem dX4_isBlocked_2 : decode cX4_isBlocked 2 = .ok (.invokevirtual 99, 3) := dec_at kDX4_isBlocked_0 2 rfl
theorem dX4_isBlocked_5 : decode cX4_isBlocked 5 = .ok (.aload_n 0, 1) := dec_at kDX4_isBlocked_0 3 rfl
theorem dX4_isBlocked_6 : decode cX4_isBlocked 6 = .ok (.getfield 9, 3) := dec_at kDX4_isBlocked_0 4 rfl
theorem dX4_isBlocked_9 : decode cX4_isBlocked 9 = .ok (.iload_n 1, 1) := dec_at kDX4_isBlocked_0 5 rfl
theorem dX4_isBlocked_10 : decode cX4_isBlocked 10 = .ok (.iload_n 2, 1) := dec_at kDX4_isBlocked_0 6 rfl
theorem dX4_isBlocked_11 : decode cX4_isBlocked 11 = .ok (.invokevirtual 145, 3) := dec_at kDX4_isBlocked_0 7 rfl
theorem dX4_isBlocked_14 : decode cX4_isBlocked 14 = .ok (.ldc2_w 132, 3) := dec_at kDX4_isBlocked_0 8 rfl
theorem dX4_isBlocked_17 : decode cX4_isBlocked 17 = .ok (.lxor, 1) := dec_at kDX4_isBlocked_0 9 rfl
theorem dX4_isBlocked_18 : decode cX4_isBlocked 18 = .ok (.land, 1) := dec_at kDX4_isBlocked_0 10 rfl
theorem dX4_isBlocked_19 : decode cX4_isBlocked 19 = .ok (.lstore 4, 2) := dec_at kDX4_isBlocked_0 11 rfl
theorem dX4_isBlocked_21 : decode cX4_isBlocked 21 = .ok (.lload 4, 2) := dec_at kDX4_isBlocked_0 12 rfl
theorem dX4_isBlocked_23 : decode cX4_isBlocked 23 = .ok (.aload_n 0, 1) := dec_at kDX4_isBlocked_0 13 rfl
theorem dX4_isBlocked_24 : decode cX4_isBlocked 24 = .ok (.getfield 9, 3) := dec_at kDX4_isBlocked_0 14 rfl
theorem dX4_isBlocked_27 : decode cX4_isBlocked 27 = .ok (.iload_n 1, 1) := dec_at kDX4_isBlocked_0 15 rfl
theorem dX4_isBlocked_28 : decode cX4_isBlocked 28 = .ok (.iload_n 2, 1) := dec_at kDX4_isBlocked_0 16 rfl
theorem dX4_isBlocked_29 : decode cX4_isBlocked 29 = .ok (.invokevirtual 128, 3) := dec_at kDX4_isBlocked_0 17 rfl
theorem dX4_isBlocked_32 : decode cX4_isBlocked 32 = .ok (.land, 1) := dec_at kDX4_isBlocked_0 18 rfl
theorem dX4_isBlocked_33 : decode cX4_isBlocked 33 = .ok (.lconst 0, 1) := dec_at kDX4_isBlocked_0 19 rfl
theorem dX4_isBlocked_34 : decode cX4_isBlocked 34 = .ok (.lcmp, 1) := dec_at kDX4_isBlocked_0 20 rfl
theorem dX4_isBlocked_35 : decode cX4_isBlocked 35 = .ok (.ifCond .ne 7, 3) := dec_at kDX4_isBlocked_0 21 rfl
theorem dX4_isBlocked_38 : decode cX4_isBlocked 38 = .ok (.iconst 1, 1) := dec_at kDX4_isBlocked_0 22 rfl
theorem dX4_isBlocked_39 : decode cX4_isBlocked 39 = .ok (.goto 4, 3) := dec_at kDX4_isBlocked_0 23 rfl
theorem dX4_isBlocked_42 : decode cX4_isBlocked 42 = .ok (.iconst 0, 1) := dec_at kDX4_isBlocked_0 24 rfl
theorem dX4_isBlocked_43 : decode cX4_isBlocked 43 = .ok (.ireturn, 1) := dec_at kDX4_isBlocked_0 25 rfl
def DX4_addCube_0 : List (Nat × (Instr × Nat)) := [(0, (.iload_n 3, 1)), (1, (.istore 4, 2)), (3, (.iconst 0, 1)), (4, (.istore 5, 2)), (6, (.iload 5, 2)), (8, (.bipush 70, 2)), (10, (.if_icmp .ge 32, 3)), (13, (.iload 4, 2)), (15, (.aload_n 0, 1)), (16, (.getfield 72, 3)), (19, (.if_icmp .ge 23, 3)), (22, (.aload_n 0, 1)), (23, (.iload_n 1, 1)), (24, (.iload_n 2, 1)), (25, (.iload 4, 2)), (27, (.invokevirtual 148, 3)), (30, (.ifCond .eq 12, 3)), (33, (.iinc 4 1, 3)), (36, (.iinc 5 1, 3)), (39, (.goto (-33), 3)), (42, (.aload_n 0, 1)), (43, (.getfield 9, 3)), (46, (.iload_n 1, 1)), (47, (.iload_n 2, 1)), (48, (.invokevirtual 145, 3)), (51, (.lstore 5, 2)), (53, (.aload_n 0, 1)), (54, (.getfield 18, 3)), (57, (.lload 5, 2)), (59, (.iload 4, 2)), (61, (.invokevirtual 152, 3)), (64, (.aload_n 0, 1)), (65, (.getfield 18, 3)), (68, (.iload_n 1, 1)), (69, (.iload_n 2, 1)), (70, (.iload_n 1, 1)), (71, (.iand, 1)), (72, (.iload 4, 2)), (74, (.lload 5, 2)), (76, (.invokevirtual 156, 3)), (79, (.aload_n 0, 1)), (80, (.dup, 1)), (81, (.getfield 78, 3)), (84, (.iconst 1, 1)), (85, (.iadd, 1)), (86, (.putfield 78, 3)), (89, (.iconst 1, 1)), (90, (.istore 7, 2)), (92, (.iload 7, 2)), (94, (.iload 4, 2))]
theorem kDX4_addCube_0 : DX4_addCube_0.all (fun q => decide (decode cX4_addCube q.1 = .ok q.2)) = true := by decide +kernel
theorem dX4_addCube_0 : decode cX4_addCube 0 = .ok (.iload_n 3, 1) := dec_at kDX4_addCube_0 0 rfl
theorem dX4_addCube_1 : decode cX4_addCube 1 = .ok (.istore 4, 2) := dec_at kDX4_addCube_0 1 rfl
theorem dX4_addCube_3 : decode cX4_addCube 3 = .ok (.iconst 0, 1) := dec_at kDX4_addCube_0 2 rfl
theorem dX4_addCube_4 : decode cX4_addCube 4 = .ok (.istore 5, 2) := dec_at kDX4_addCube_0 3 rfl
theorem dX4_addCube_6 : decode cX4_addCube 6 = .ok (.iload 5, 2) := dec_at kDX4_addCube_0 4 rfl
theorem dX4_addCube_8 : decode cX4_addCube 8 = .ok (.bipush 70, 2) := dec_at kDX4_addCube_0 5 rfl
theorem dX4_addCube_10 : decode cX4_addCube 10 = .ok (.if_icmp .ge 32, 3) := dec_at kDX4_addCube_0 6 rfl
theorem dX4_addCube_13 : decode cX4_addCube 13 = .ok (.iload 4, 2) := dec_at kDX4_addCube_0 7 rfl
theorem dX4_addCube_15 : decode cX4_addCube 15 = .ok (.aload_n 0, 1) := dec_at kDX4_addCube_0 8 rfl
theorem dX4_addCube_16 : decode cX4_addCube 16 = .ok (.getfield 72, 3) := dec_at kDX4_addCube_0 9 rfl
theorem dX4_addCube_19 : decode cX4_addCube 19 = .ok (.if_icmp .ge 23, 3) := dec_at kDX4_addCube_0 10 rfl
theorem dX4_addCube_22 : decode cX4_addCube 22 = .ok (.aload_n 0, 1) := dec_at kDX4_addCube_0 11 rfl
theorem dX4_addCube_23 : decode cX4_addCube 23 = .ok (.iload_n 1, 1) := dec_at kDX4_addCube_0 12 rfl
theorem dX4_addCube_24 : decode cX4_addCube 24 = .ok (.iload_n 2, 1) := dec_at kDX4_addCube_0 13 rfl
theorem dX4_addCube_25 : decode cX4_addCube 25 = .ok (.iload 4, 2) := dec_at kDX4_addCube_0 14 rfl
theorem dX4_addCube_27 : decode cX4_addCube 27 = .ok (.invokevirtual 148, 3) := dec_at kDX4_addCube_0 15 rfl
theorem dX4_addCube_30 : decode cX4_addCube 30 = .ok (.ifCond .eq 12, 3) := dec_at kDX4_addCube_0 16 rfl
theorem dX4_addCube_33 : decode cX4_addCube 33 = .ok (.iinc 4 1, 3) := dec_at kDX4_addCube_0 17 rfl
theorem dX4_addCube_36 : decode cX4_addCube 36 = .ok (.iinc 5 1, 3) := dec_at kDX4_addCube_0 18 rfl
theorem dX4_addCube_39 : decode cX4_addCube 39 = .ok (.goto (-33), 3) := dec_at kDX4_addCube_0 19 rfl
theorem dX4_addCube_42 : decode cX4_addCube 42 = .ok (.aload_n 0, 1) := dec_at kDX4_addCube_0 20 rfl
theorem dX4_addCube_43 : decode cX4_addCube 43 = .ok (.getfield 9, 3) := dec_at kDX4_addCube_0 21 rfl
theorem dX4_addCube_46 : decode cX4_addCube 46 = .ok (.iload_n 1, 1) := dec_at kDX4_addCube_0 22 rfl
theorem dX4_addCube_47 : decode cX4_addCube 47 = .ok (.iload_n 2, 1) := dec_at kDX4_addCube_0 23 rfl
theorem dX4_addCube_48 : decode cX4_addCube 48 = .ok (.invokevirtual 145, 3) := dec_at kDX4_addCube_0 24 rfl
theorem dX4_addCube_51 : decode cX4_addCube 51 = .ok (.lstore 5, 2) := dec_at kDX4_addCube_0 25 rfl
theorem dX4_addCube_53 : decode cX4_addCube 53 = .ok (.aload_n 0, 1) := dec_at kDX4_addCube_0 26 rfl
theorem dX4_addCube_54 : decode cX4_addCube 54 = .ok (.getfield 18, 3) := dec_at kDX4_addCube_0 27 rfl
theorem dX4_addCube_57 : decode cX4_addCube 57 = .ok (.lload 5, 2) := dec_at kDX4_addCube_0 28 rfl
theorem dX4_addCube_59 : decode cX4_addCube 59 = .ok (.iload 4, 2) := dec_at kDX4_addCube_0 29 rfl
theorem dX4_addCube_61 : decode cX4_addCube 61 = .ok (.invokevirtual 152, 3) := dec_at kDX4_addCube_0 30 rfl
theorem dX4_addCube_64 : decode cX4_addCube 64 = .ok (.aload_n 0, 1) := dec_at kDX4_addCube_0 31 rfl
theorem dX4_addCube_65 : decode cX4_addCube 65 = .ok (.getfield 18, 3) := dec_at kDX4_addCube_0 32 rfl
theorem dX4_addCube_68 : decode cX4_addCube 68 = .ok (.iload_n 1, 1) := dec_at kDX4_addCube_0 33 rfl
theorem dX4_addCube_69 : decode cX4_addCube 69 = .ok (.iload_n 2, 1) := dec_at kDX4_addCube_0 34 rfl
theorem dX4_addCube_70 : decode cX4_addCube 70 = .ok (.iload_n 1, 1) := dec_at kDX4_addCube_0 35 rfl
theorem dX4_addCube_71 : decode cX4_addCube 71 = .ok (.iand, 1) := dec_at kDX4_addCube_0 36 rfl
theorem dX4_addCube_72 : decode cX4_addCube 72 = .ok (.iload 4, 2) := dec_at kDX4_addCube_0 37 rfl
theorem dX4_addCube_74 : decode cX4_addCube 74 = .ok (.lload 5, 2) := dec_at kDX4_addCube_0 38 rfl
theorem dX4_addCube_76 : decode cX4_addCube 76 = .ok (.invokevirtual 156, 3) := dec_at kDX4_addCube_0 39 rfl
theorem dX4_addCube_79 : decode cX4_addCube 79 = .ok (.aload_n 0, 1) := dec_at kDX4_addCube_0 40 rfl
theorem dX4_addCube_80 : decode cX4_addCube 80 = .ok (.dup, 1) := dec_at kDX4_addCube_0 41 rfl
theorem dX4_addCube_81 : decode cX4_addCube 81 = .ok (.getfield 78, 3) := dec_at kDX4_addCube_0 42 rfl
theorem dX4_addCube_84 : decode cX4_addCube 84 = .ok (.iconst 1, 1) := dec_at kDX4_addCube_0 43 rfl
theorem dX4_addCube_85 : decode cX4_addCube 85 = .ok (.iadd, 1) := dec_at kDX4_addCube_0 44 rfl
theorem dX4_addCube_86 : decode cX4_addCube 86 = .ok (.putfield 78, 3) := dec_at kDX4_addCube_0 45 rfl
theorem dX4_addCube_89 : decode cX4_addCube 89 = .ok (.iconst 1, 1) := dec_at kDX4_addCube_0 46 rfl
theorem dX4_addCube_90 : decode cX4_addCube 90 = .ok (.istore 7, 2) := dec_at kDX4_addCube_0 47 rfl
theorem dX4_addCube_92 : decode cX4_addCube 92 = .ok (.iload 7, 2) := dec_at kDX4_addCube_0 48 rfl
theorem dX4_addCube_94 : decode cX4_addCube 94 = .ok (.iload 4, 2) := dec_at kDX4_addCube_0 49 rfl
def DX4_addCube_50 : List (Nat × (Instr × Nat)) := [(96, (.if_icmp .gt 32, 3)), (99, (.iload 7, 2)), (101, (.bipush 70, 2)), (103, (.if_icmp .ge 25, 3)), (106, (.aload_n 0, 1)), (107, (.getfield 22, 3)), (110, (.iload 7, 2)), (112, (.dup2, 1)), (113, (.laload, 1)), (114, (.lload 5, 2)), (116, (.ldc2_w 132, 3)), (119, (.lxor, 1)), (120, (.land, 1)), (121, (.lastore, 1)), (122, (.iinc 7 1, 3)), (125, (.goto (-33), 3)), (128, (.return_, 1))]
theorem kDX4_addCube_50 : DX4_addCube_50.all (fun q => decide (decode cX4_addCube q.1 = .ok q.2)) = true := by decide +kernel
theorem dX4_addCube_96 : decode cX4_addCube 96 = .ok (.if_icmp .gt 32, 3) := dec_at kDX4_addCube_50 0 rfl
theorem dX4_addCube_99 : decode cX4_addCube 99 = .ok (.iload 7, 2) := dec_at kDX4_addCube_50 1 rfl
theorem dX4_addCube_101 : decode cX4_addCube 101 = .ok (.bipush 70, 2) := dec_at kDX4_addCube_50 2 rfl
theorem dX4_addCube_103 : decode cX4_addCube 103 = .ok (.if_icmp .ge 25, 3) := dec_at kDX4_addCube_50 3 rfl
theorem dX4_addCube_106 : decode cX4_addCube 106 = .ok (.aload_n 0, 1) := dec_at kDX4_addCube_50 4 rfl
theorem dX4_addCube_107 : decode cX4_addCube 107 = .ok (.getfield 22, 3) := dec_at kDX4_addCube_50 5 rfl
theorem dX4_addCube_110 : decode cX4_addCube 110 = .ok (.iload 7, 2) := dec_at kDX4_addCube_50 6 rfl
theorem dX4_addCube_112 : decode cX4_addCube 112 = .ok (.dup2, 1) := dec_at kDX4_addCube_50 7 rfl
theorem dX4_addCube_113 : decode cX4_addCube 113 = .ok (.laload, 1) := dec_at kDX4_addCube_50 8 rfl
theorem dX4_addCube_114 : decode cX4_addCube 114 = .ok (.lload 5, 2) := dec_at kDX4_addCube_50 9 rfl
theorem dX4_addCube_116 : decode cX4_addCube 116 = .ok (.ldc2_w 132, 3) := dec_at kDX4_addCube_50 10 rfl
theorem dX4_addCube_119 : decode cX4_addCube 119 = .ok (.lxor, 1) := dec_at kDX4_addCube_50 11 rfl
theorem dX4_addCube_120 : decode cX4_addCube 120 = .ok (.land, 1) := dec_at kDX4_addCube_50 12 rfl
theorem dX4_addCube_121 : decode cX4_addCube 121 = .ok (.lastore, 1) := dec_at kDX4_addCube_50 13 rfl
theorem dX4_addCube_122 : decode cX4_addCube 122 = .ok (.iinc 7 1, 3) := dec_at kDX4_addCube_50 14 rfl
theorem dX4_addCube_125 : decode cX4_addCube 125 = .ok (.goto (-33), 3) := dec_at kDX4_addCube_50 15 rfl
theorem dX4_addCube_128 : decode cX4_addCube 128 = .ok (.return_, 1) := dec_at kDX4_addCube_50 16 rfl
def DX4_raiseCubes_0 : List (Nat × (Instr × Nat)) := [(0, (.iconst 1, 1)), (1, (.istore_n 1, 1)), (2, (.iload_n 1, 1)), (3, (.aload_n 0, 1)), (4, (.getfield 72, 3)), (7, (.if_icmp .ge 64, 3)), (10, (.iconst 0, 1)), (11, (.istore_n 2, 1)), (12, (.iload_n 2, 1)), (13, (.aload_n 0, 1)), (14, (.getfield 18, 3)), (17, (.getfield 63, 3)), (20, (.if_icmp .ge 27, 3)), (23, (.aload_n 0, 1)), (24, (.getfield 18, 3)), (27, (.iload_n 2, 1)), (28, (.invokevirtual 160, 3)), (31, (.iload_n 1, 1)), (32, (.if_icmp .ne 9, 3)), (35, (.aload_n 0, 1)), (36, (.iload_n 2, 1)), (37, (.iload_n 1, 1)), (38, (.invokevirtual 164, 3)), (41, (.iinc 2 1, 3)), (44, (.goto (-32), 3)), (47, (.aload_n 0, 1)), (48, (.getfield 18, 3)), (51, (.iload_n 1, 1)), (52, (.invokevirtual 167, 3)), (55, (.ifCond .ne 10, 3)), (58, (.aload_n 0, 1)), (59, (.iload_n 1, 1)), (60, (.putfield 87, 3)), (63, (.iconst 1, 1)), (64, (.ireturn, 1)), (65, (.iinc 1 1, 3)), (68, (.goto (-66), 3)), (71, (.iconst 0, 1)), (72, (.ireturn, 1))]
theorem kDX4_raiseCubes_0 : DX4_raiseCubes_0.all (fun q => decide (decode cX4_raiseCubes q.1 = .ok q.2)) = true := by decide +kernel
theorem dX4_raiseCubes_0 : decode cX4_raiseCubes 0 = .ok (.iconst 1, 1) := dec_at kDX4_raiseCubes_0 0 rfl
theorem dX4_raiseCubes_1 : decode cX4_raiseCubes 1 = .ok (.istore_n 1, 1) := dec_at kDX4_raiseCubes_0 1 rfl
theorem dX4_raiseCubes_2 : decode cX4_raiseCubes 2 = .ok (.iload_n 1, 1) := dec_at kDX4_raiseCubes_0 2 rfl
theorem dX4_raiseCubes_3 : decode cX4_raiseCubes 3 = .ok (.aload_n 0, 1) := dec_at kDX4_raiseCubes_0 3 rfl
theorem dX4_raiseCubes_4 : decode cX4_raiseCubes 4 = .ok (.getfield 72, 3) := dec_at kDX4_raiseCubes_0 4 rfl
theorem dX4_raiseCubes_7 : decode cX4_raiseCubes 7 = .ok (.if_icmp .ge 64, 3) := dec_at kDX4_raiseCubes_0 5 rfl
theorem dX4_raiseCubes_10 : decode cX4_raiseCubes 10 = .ok (.iconst 0, 1) := dec_at kDX4_raiseCubes_0 6 rfl
theorem dX4_raiseCubes_11 : decode cX4_raiseCubes 11 = .ok (.istore_n 2, 1) := dec_at kDX4_raiseCubes_0 7 rfl
theorem dX4_raiseCubes_12 : decode cX4_raiseCubes 12 = .ok (.iload_n 2, 1) := dec_at kDX4_raiseCubes_0 8 rfl
theorem dX4_raiseCubes_13 : decode cX4_raiseCubes 13 = .ok (.aload_n 0, 1) := dec_at kDX4_raiseCubes_0 9 rfl
theorem dX4_raiseCubes_14 : decode cX4_raiseCubes 14 = .ok (.getfield 18, 3) := dec_at kDX4_raiseCubes_0 10 rfl
theorem dX4_raiseCubes_17 : decode cX4_raiseCubes 17 = .ok (.getfield 63, 3) := dec_at kDX4_raiseCubes_0 11 rfl
theorem dX4_raiseCubes_20 : decode cX4_raiseCubes 20 = .ok (.if_icmp .ge 27, 3) := dec_at kDX4_raiseCubes_0 12 rfl
theorem dX4_raiseCubes_23 : decode cX4_raiseCubes 23 = .ok (.aload_n 0, 1) := dec_at kDX4_raiseCubes_0 13 rfl
theorem dX4_raiseCubes_24 : decode cX4_raiseCubes 24 = .ok (.getfield 18, 3) := dec_at kDX4_raiseCubes_0 14 rfl
theorem dX4_raiseCubes_27 : decode cX4_raiseCubes 27 = .ok (.iload_n 2, 1) := dec_at kDX4_raiseCubes_0 15 rfl
theorem dX4_raiseCubes_28 : decode cX4_raiseCubes 28 = .ok (.invokevirtual 160, 3) := dec_at kDX4_raiseCubes_0 16 rfl
theorem dX4_raiseCubes_31 : decode cX4_raiseCubes 31 = .ok (.iload_n 1, 1) := dec_at kDX4_raiseCubes_0 17 rfl
theorem dX4_raiseCubes_32 : decode cX4_raiseCubes 32 = .ok (.if_icmp .ne 9, 3) := dec_at kDX4_raiseCubes_0 18 rfl
theorem dX4_raiseCubes_35 : decode cX4_raiseCubes 35 = .ok (.aload_n 0, 1) := dec_at kDX4_raiseCubes_0 19 rfl
theorem dX4_raiseCubes_36 : decode cX4_raiseCubes 36 = .ok (.iload_n 2, 1) := dec_at kDX4_raiseCubes_0 20 rfl
theorem dX4_raiseCubes_37 : decode cX4_raiseCubes 37 = .ok (.iload_n 1, 1) := dec_at kDX4_raiseCubes_0 21 rfl
theorem dX4_raiseCubes_38 : decode cX4_raiseCubes 38 = .ok (.invokevirtual 164, 3) := dec_at kDX4_raiseCubes_0 22 rfl
theorem dX4_raiseCubes_41 : decode cX4_raiseCubes 41 = .ok (.iinc 2 1, 3) := dec_at kDX4_raiseCubes_0 23 rfl
theorem dX4_raiseCubes_44 : decode cX4_raiseCubes 44 = .ok (.goto (-32), 3) := dec_at kDX4_raiseCubes_0 24 rfl
theorem dX4_raiseCubes_47 : decode cX4_raiseCubes 47 = .ok (.aload_n 0, 1) := dec_at kDX4_raiseCubes_0 25 rfl
theorem dX4_raiseCubes_48 : decode cX4_raiseCubes 48 = .ok (.getfield 18, 3) := dec_at kDX4_raiseCubes_0 26 rfl
theorem dX4_raiseCubes_51 : decode cX4_raiseCubes 51 = .ok (.iload_n 1, 1) := dec_at kDX4_raiseCubes_0 27 rfl
theorem dX4_raiseCubes_52 : decode cX4_raiseCubes 52 = .ok (.invokevirtual 167, 3) := dec_at kDX4_raiseCubes_0 28 rfl
theorem dX4_raiseCubes_55 : decode cX4_raiseCubes 55 = .ok (.ifCond .ne 10, 3) := dec_at kDX4_raiseCubes_0 29 rfl
theorem dX4_raiseCubes_58 : decode cX4_raiseCubes 58 = .ok (.aload_n 0, 1) := dec_at kDX4_raiseCubes_0 30 rfl
theorem dX4_raiseCubes_59 : decode cX4_raiseCubes 59 = .ok (.iload_n 1, 1) := dec_at kDX4_raiseCubes_0 31 rfl
theorem dX4_raiseCubes_60 : decode cX4_raiseCubes 60 = .ok (.putfield 87, 3) := dec_at kDX4_raiseCubes_0 32 rfl
theorem dX4_raiseCubes_63 : decode cX4_raiseCubes 63 = .ok (.iconst 1, 1) := dec_at kDX4_raiseCubes_0 33 rfl
theorem dX4_raiseCubes_64 : decode cX4_raiseCubes 64 = .ok (.ireturn, 1) := dec_at kDX4_raiseCubes_0 34 rfl
theorem dX4_raiseCubes_65 : decode cX4_raiseCubes 65 = .ok (.iinc 1 1, 3) := dec_at kDX4_raiseCubes_0 35 rfl
theorem dX4_raiseCubes_68 : decode cX4_raiseCubes 68 = .ok (.goto (-66), 3) := dec_at kDX4_raiseCubes_0 36 rfl
theorem dX4_raiseCubes_71 : decode cX4_raiseCubes 71 = .ok (.iconst 0, 1) := dec_at kDX4_raiseCubes_0 37 rfl
theorem dX4_raiseCubes_72 : decode cX4_raiseCubes 72 = .ok (.ireturn, 1) := dec_at kDX4_raiseCubes_0 38 rfl
def DX4_raiseCube_0 : List (Nat × (Instr × Nat)) := [(0, (.iload_n 1, 1)), (1, (.ifCond .lt 22, 3)), (4, (.iload_n 1, 1)), (5, (.sipush 729, 3)), (8, (.if_icmp .ge 15, 3)), (11, (.iload_n 2, 1)), (12, (.ifCond .lt 11, 3)), (15, (.iload_n 2, 1)), (16, (.iconst 1, 1)), (17, (.iadd, 1)), (18, (.bipush 70, 2)), (20, (.if_icmp .lt 4, 3)), (23, (.return_, 1)), (24, (.aload_n 0, 1)), (25, (.getfield 9, 3)), (28, (.aload_n 0, 1)), (29, (.getfield 18, 3)), (32, (.getfield 171, 3)), (35, (.iload_n 1, 1)), (36, (.iaload, 1)), (37, (.aload_n 0, 1)), (38, (.getfield 18, 3)), (41, (.getfield 175, 3)), (44, (.iload_n 1, 1)), (45, (.iaload, 1)), (46, (.invokevirtual 128, 3)), (49, (.lstore_n 3, 1)), (50, (.lload_n 3, 1)), (51, (.aload_n 0, 1)), (52, (.getfield 22, 3)), (55, (.iload_n 2, 1)), (56, (.laload, 1)), (57, (.land, 1)), (58, (.lconst 0, 1)), (59, (.lcmp, 1)), (60, (.ifCond .ne 49, 3)), (63, (.aload_n 0, 1)), (64, (.getfield 18, 3)), (67, (.getfield 178, 3)), (70, (.iload_n 1, 1)), (71, (.iload_n 2, 1)), (72, (.iconst 1, 1)), (73, (.iadd, 1)), (74, (.iastore, 1)), (75, (.aload_n 0, 1)), (76, (.getfield 22, 3)), (79, (.iload_n 2, 1)), (80, (.iconst 1, 1)), (81, (.iadd, 1)), (82, (.dup2, 1))]
theorem kDX4_raiseCube_0 : DX4_raiseCube_0.all (fun q => decide (decode cX4_raiseCube q.1 = .ok q.2)) = true := by decide +kernel
theorem dX4_raiseCube_0 : decode cX4_raiseCube 0 = .ok (.iload_n 1, 1) := dec_at kDX4_raiseCube_0 0 rfl
theorem dX4_raiseCube_1 : decode cX4_raiseCube 1 = .ok (.ifCond .lt 22, 3) := dec_at kDX4_raiseCube_0 1 rfl
theorem dX4_raiseCube_4 : decode cX4_raiseCube 4 = .ok (.iload_n 1, 1) := dec_at kDX4_raiseCube_0 2 rfl
theorem dX4_raiseCube_5 : decode cX4_raiseCube 5 = .ok (.sipush 729, 3) := dec_at kDX4_raiseCube_0 3 rfl
theorem dX4_raiseCube_8 : decode cX4_raiseCube 8 = .ok (.if_icmp .ge 15, 3) := dec_at kDX4_raiseCube_0 4 rfl
theorem dX4_raiseCube_11 : decode cX4_raiseCube 11 = .ok (.iload_n 2, 1) := dec_at kDX4_raiseCube_0 5 rfl
theorem dX4_raiseCube_12 : decode cX4_raiseCube 12 = .ok (.ifCond .lt 11, 3) := dec_at kDX4_raiseCube_0 6 rfl
theorem dX4_raiseCube_15 : decode cX4_raiseCube 15 = .ok (.iload_n 2, 1) := dec_at kDX4_raiseCube_0 7 rfl
theorem dX4_raiseCube_16 : decode cX4_raiseCube 16 = .ok (.iconst 1, 1) := dec_at kDX4_raiseCube_0 8 rfl
theorem dX4_raiseCube_17 : decode cX4_raiseCube 17 = .ok (.iadd, 1) := dec_at kDX4_raiseCube_0 9 rfl
theorem dX4_raiseCube_18 : decode cX4_raiseCube 18 = .ok (.bipush 70, 2) := dec_at kDX4_raiseCube_0 10 rfl
theorem dX4_raiseCube_20 : decode cX4_raiseCube 20 = .ok (.if_icmp .lt 4, 3) := dec_at kDX4_raiseCube_0 11 rfl
theorem dX4_raiseCube_23 : decode cX4_raiseCube 23 = .ok (.return_, 1) := dec_at kDX4_raiseCube_0 12 rfl
theorem dX4_raiseCube_24 : decode cX4_raiseCube 24 = .ok (.aload_n 0, 1) := dec_at kDX4_raiseCube_0 13 rfl
theorem dX4_raiseCube_25 : decode cX4_raiseCube 25 = .ok (.getfield 9, 3) := dec_at kDX4_raiseCube_0 14 rfl
theorem dX4_raiseCube_28 : decode cX4_raiseCube 28 = .ok (.aload_n 0, 1) := dec_at kDX4_raiseCube_0 15 rfl
theorem dX4_raiseCube_29 : decode cX4_raiseCube 29 = .ok (.getfield 18, 3) := dec_at kDX4_raiseCube_0 16 rfl
theorem dX4_raiseCube_32 : decode cX4_raiseCube 32 = .ok (.getfield 171, 3) := dec_at kDX4_raiseCube_0 17 rfl
theorem dX4_raiseCube_35 : decode cX4_raiseCube 35 = .ok (.iload_n 1, 1) := dec_at kDX4_raiseCube_0 18 rfl
theorem dX4_raiseCube_36 : decode cX4_raiseCube 36 = .ok (.iaload, 1) := dec_at kDX4_raiseCube_0 19 rfl
theorem dX4_raiseCube_37 : decode cX4_raiseCube 37 = .ok (.aload_n 0, 1) := dec_at kDX4_raiseCube_0 20 rfl
theorem dX4_raiseCube_38 : decode cX4_raiseCube 38 = .ok (.getfield 18, 3) := dec_at kDX4_raiseCube_0 21 rfl
theorem dX4_raiseCube_41 : decode cX4_raiseCube 41 = .ok (.getfield 175, 3) := dec_at kDX4_raiseCube_0 22 rfl
theorem dX4_raiseCube_44 : decode cX4_raiseCube 44 = .ok (.iload_n 1, 1) := dec_at kDX4_raiseCube_0 23 rfl
theorem dX4_raiseCube_45 : decode cX4_raiseCube 45 = .ok (.iaload, 1) := dec_at kDX4_raiseCube_0 24 rfl
theorem dX4_raiseCube_46 : decode cX4_raiseCube 46 = .ok (.invokevirtual 128, 3) := dec_at kDX4_raiseCube_0 25 rfl
theorem dX4_raiseCube_49 : decode cX4_raiseCube 49 = .ok (.lstore_n 3, 1) := dec_at kDX4_raiseCube_0 26 rfl
theorem dX4_raiseCube_50 : decode cX4_raiseCube 50 = .ok (.lload_n 3, 1) := dec_at kDX4_raiseCube_0 27 rfl
theorem dX4_raiseCube_51 : decode cX4_raiseCube 51 = .ok (.aload_n 0, 1) := dec_at kDX4_raiseCube_0 28 rfl
theorem dX4_raiseCube_52 : decode cX4_raiseCube 52 = .ok (.getfield 22, 3) := dec_at kDX4_raiseCube_0 29 rfl
theorem dX4_raiseCube_55 : decode cX4_raiseCube 55 = .ok (.iload_n 2, 1) := dec_at kDX4_raiseCube_0 30 rfl
theorem dX4_raiseCube_56 : decode cX4_raiseCube 56 = .ok (.laload, 1) := dec_at kDX4_raiseCube_0 31 rfl
theorem dX4_raiseCube_57 : decode cX4_raiseCube 57 = .ok (.land, 1) := dec_at kDX4_raiseCube_0 32 rfl
theorem dX4_raiseCube_58 : decode cX4_raiseCube 58 = .ok (.lconst 0, 1) := dec_at kDX4_raiseCube_0 33 rfl
theorem dX4_raiseCube_59 : decode cX4_raiseCube 59 = .ok (.lcmp, 1) := dec_at kDX4_raiseCube_0 34 rfl
theorem dX4_raiseCube_60 : decode cX4_raiseCube 60 = .ok (.ifCond .ne 49, 3) := dec_at kDX4_raiseCube_0 35 rfl
theorem dX4_raiseCube_63 : decode cX4_raiseCube 63 = .ok (.aload_n 0, 1) := dec_at kDX4_raiseCube_0 36 rfl
theorem dX4_raiseCube_64 : decode cX4_raiseCube 64 = .ok (.getfield 18, 3) := dec_at kDX4_raiseCube_0 37 rfl
theorem dX4_raiseCube_67 : decode cX4_raiseCube 67 = .ok (.getfield 178, 3) := dec_at kDX4_raiseCube_0 38 rfl
theorem dX4_raiseCube_70 : decode cX4_raiseCube 70 = .ok (.iload_n 1, 1) := dec_at kDX4_raiseCube_0 39 rfl
theorem dX4_raiseCube_71 : decode cX4_raiseCube 71 = .ok (.iload_n 2, 1) := dec_at kDX4_raiseCube_0 40 rfl
theorem dX4_raiseCube_72 : decode cX4_raiseCube 72 = .ok (.iconst 1, 1) := dec_at kDX4_raiseCube_0 41 rfl
theorem dX4_raiseCube_73 : decode cX4_raiseCube 73 = .ok (.iadd, 1) := dec_at kDX4_raiseCube_0 42 rfl
theorem dX4_raiseCube_74 : decode cX4_raiseCube 74 = .ok (.iastore, 1) := dec_at kDX4_raiseCube_0 43 rfl
theorem dX4_raiseCube_75 : decode cX4_raiseCube 75 = .ok (.aload_n 0, 1) := dec_at kDX4_raiseCube_0 44 rfl
theorem dX4_raiseCube_76 : decode cX4_raiseCube 76 = .ok (.getfield 22, 3) := dec_at kDX4_raiseCube_0 45 rfl
theorem dX4_raiseCube_79 : decode cX4_raiseCube 79 = .ok (.iload_n 2, 1) := dec_at kDX4_raiseCube_0 46 rfl
theorem dX4_raiseCube_80 : decode cX4_raiseCube 80 = .ok (.iconst 1, 1) := dec_at kDX4_raiseCube_0 47 rfl
theorem dX4_raiseCube_81 : decode cX4_raiseCube 81 = .ok (.iadd, 1) := dec_at kDX4_raiseCube_0 48 rfl
theorem dX4_raiseCube_82 : decode cX4_raiseCube 82 = .ok (.dup2, 1) := dec_at kDX4_raiseCube_0 49 rfl
def DX4_raiseCube_50 : List (Nat × (Instr × Nat)) := [(83, (.laload, 1)), (84, (.aload_n 0, 1)), (85, (.getfield 18, 3)), (88, (.getfield 181, 3)), (91, (.iload_n 1, 1)), (92, (.laload, 1)), (93, (.ldc2_w 132, 3)), (96, (.lxor, 1)), (97, (.land, 1)), (98, (.lastore, 1)), (99, (.aload_n 0, 1)), (100, (.dup, 1)), (101, (.getfield 84, 3)), (104, (.iconst 1, 1)), (105, (.iadd, 1)), (106, (.putfield 84, 3)), (109, (.return_, 1))]
theorem kDX4_raiseCube_50 : DX4_raiseCube_50.all (fun q => decide (decode cX4_raiseCube q.1 = .ok q.2)) = true := by decide +kernel
theorem dX4_raiseCube_83 : decode cX4_raiseCube 83 = .ok (.laload, 1) := dec_at kDX4_raiseCube_50 0 rfl
theorem dX4_raiseCube_84 : decode cX4_raiseCube 84 = .ok (.aload_n 0, 1) := dec_at kDX4_raiseCube_50 1 rfl
theorem dX4_raiseCube_85 : decode cX4_raiseCube 85 = .ok (.getfield 18, 3) := dec_at kDX4_raiseCube_50 2 rfl
theorem dX4_raiseCube_88 : decode cX4_raiseCube 88 = .ok (.getfield 181, 3) := dec_at kDX4_raiseCube_50 3 rfl
theorem dX4_raiseCube_91 : decode cX4_raiseCube 91 = .ok (.iload_n 1, 1) := dec_at kDX4_raiseCube_50 4 rfl
theorem dX4_raiseCube_92 : decode cX4_raiseCube 92 = .ok (.laload, 1) := dec_at kDX4_raiseCube_50 5 rfl
theorem dX4_raiseCube_93 : decode cX4_raiseCube 93 = .ok (.ldc2_w 132, 3) := dec_at kDX4_raiseCube_50 6 rfl
theorem dX4_raiseCube_96 : decode cX4_raiseCube 96 = .ok (.lxor, 1) := dec_at kDX4_raiseCube_50 7 rfl
theorem dX4_raiseCube_97 : decode cX4_raiseCube 97 = .ok (.land, 1) := dec_at kDX4_raiseCube_50 8 rfl
theorem dX4_raiseCube_98 : decode cX4_raiseCube 98 = .ok (.lastore, 1) := dec_at kDX4_raiseCube_50 9 rfl
theorem dX4_raiseCube_99 : decode cX4_raiseCube 99 = .ok (.aload_n 0, 1) := dec_at kDX4_raiseCube_50 10 rfl
theorem dX4_raiseCube_100 : decode cX4_raiseCube 100 = .ok (.dup, 1) := dec_at kDX4_raiseCube_50 11 rfl
theorem dX4_raiseCube_101 : decode cX4_raiseCube 101 = .ok (.getfield 84, 3) := dec_at kDX4_raiseCube_50 12 rfl
theorem dX4_raiseCube_104 : decode cX4_raiseCube 104 = .ok (.iconst 1, 1) := dec_at kDX4_raiseCube_50 13 rfl
theorem dX4_raiseCube_105 : decode cX4_raiseCube 105 = .ok (.iadd, 1) := dec_at kDX4_raiseCube_50 14 rfl
theorem dX4_raiseCube_106 : decode cX4_raiseCube 106 = .ok (.putfield 84, 3) := dec_at kDX4_raiseCube_50 15 rfl
theorem dX4_raiseCube_109 : decode cX4_raiseCube 109 = .ok (.return_, 1) := dec_at kDX4_raiseCube_50 16 rfl
def DX4_frameAt_0 : List (Nat × (Instr × Nat)) := [(0, (.iload_n 1, 1)), (1, (.ifCond .lt 18, 3)), (4, (.iload_n 1, 1)), (5, (.bipush 70, 2)), (7, (.if_icmp .ge 12, 3)), (10, (.aload_n 0, 1)), (11, (.getfield 22, 3)), (14, (.iload_n 1, 1)), (15, (.laload, 1)), (16, (.goto 4, 3)), (19, (.lconst 0, 1)), (20, (.lreturn, 1))]
theorem kDX4_frameAt_0 : DX4_frameAt_0.all (fun q => decide (decode cX4_frameAt q.1 = .ok q.2)) = true := by decide +kernel
theorem dX4_frameAt_0 : decode cX4_frameAt 0 = .ok (.iload_n 1, 1) := dec_at kDX4_frameAt_0 0 rfl
theorem dX4_frameAt_1 : decode cX4_frameAt 1 = .ok (.ifCond .lt 18, 3) := dec_at kDX4_frameAt_0 1 rfl
theorem dX4_frameAt_4 : decode cX4_frameAt 4 = .ok (.iload_n 1, 1) := dec_at kDX4_frameAt_0 2 rfl
theorem dX4_frameAt_5 : decode cX4_frameAt 5 = .ok (.bipush 70, 2) := dec_at kDX4_frameAt_0 3 rfl
theorem dX4_frameAt_7 : decode cX4_frameAt 7 = .ok (.if_icmp .ge 12, 3) := dec_at kDX4_frameAt_0 4 rfl
theorem dX4_frameAt_10 : decode cX4_frameAt 10 = .ok (.aload_n 0, 1) := dec_at kDX4_frameAt_0 5 rfl
theorem dX4_frameAt_11 : decode cX4_frameAt 11 = .ok (.getfield 22, 3) := dec_at kDX4_frameAt_0 6 rfl
theorem dX4_frameAt_14 : decode cX4_frameAt 14 = .ok (.iload_n 1, 1) := dec_at kDX4_frameAt_0 7 rfl
theorem dX4_frameAt_15 : decode cX4_frameAt 15 = .ok (.laload, 1) := dec_at kDX4_frameAt_0 8 rfl
theorem dX4_frameAt_16 : decode cX4_frameAt 16 = .ok (.goto 4, 3) := dec_at kDX4_frameAt_0 9 rfl
theorem dX4_frameAt_19 : decode cX4_frameAt 19 = .ok (.lconst 0, 1) := dec_at kDX4_frameAt_0 10 rfl
theorem dX4_frameAt_20 : decode cX4_frameAt 20 = .ok (.lreturn, 1) := dec_at kDX4_frameAt_0 11 rfl
def DX4_number_0 : List (Nat × (Instr × Nat)) := [(0, (.iload_n 1, 1)), (1, (.tableswitch 81 0 6 #[43, 48, 53, 61, 66, 71, 76], 43)), (44, (.aload_n 0, 1)), (45, (.getfield 49, 3)), (48, (.ireturn, 1)), (49, (.aload_n 0, 1)), (50, (.getfield 72, 3)), (53, (.ireturn, 1)), (54, (.aload_n 0, 1)), (55, (.getfield 18, 3)), (58, (.getfield 63, 3)), (61, (.ireturn, 1)), (62, (.aload_n 0, 1)), (63, (.getfield 75, 3)), (66, (.ireturn, 1)), (67, (.aload_n 0, 1)), (68, (.getfield 78, 3)), (71, (.ireturn, 1)), (72, (.aload_n 0, 1)), (73, (.getfield 81, 3)), (76, (.ireturn, 1)), (77, (.aload_n 0, 1)), (78, (.getfield 84, 3)), (81, (.ireturn, 1)), (82, (.aload_n 0, 1)), (83, (.getfield 49, 3)), (86, (.ifCond .ne 17, 3)), (89, (.aload_n 0, 1)), (90, (.getfield 18, 3)), (93, (.aload_n 0, 1)), (94, (.getfield 87, 3)), (97, (.invokevirtual 184, 3)), (100, (.goto 4, 3)), (103, (.iconst 0, 1)), (104, (.ireturn, 1))]
theorem kDX4_number_0 : DX4_number_0.all (fun q => decide (decode cX4_number q.1 = .ok q.2)) = true := by decide +kernel
theorem dX4_number_0 : decode cX4_number 0 = .ok (.iload_n 1, 1) := dec_at kDX4_number_0 0 rfl
theorem dX4_number_1 : decode cX4_number 1 = .ok (.tableswitch 81 0 6 #[43, 48, 53, 61, 66, 71, 76], 43) := dec_at kDX4_number_0 1 rfl
theorem dX4_number_44 : decode cX4_number 44 = .ok (.aload_n 0, 1) := dec_at kDX4_number_0 2 rfl
theorem dX4_number_45 : decode cX4_number 45 = .ok (.getfield 49, 3) := dec_at kDX4_number_0 3 rfl
theorem dX4_number_48 : decode cX4_number 48 = .ok (.ireturn, 1) := dec_at kDX4_number_0 4 rfl
theorem dX4_number_49 : decode cX4_number 49 = .ok (.aload_n 0, 1) := dec_at kDX4_number_0 5 rfl
theorem dX4_number_50 : decode cX4_number 50 = .ok (.getfield 72, 3) := dec_at kDX4_number_0 6 rfl
theorem dX4_number_53 : decode cX4_number 53 = .ok (.ireturn, 1) := dec_at kDX4_number_0 7 rfl
theorem dX4_number_54 : decode cX4_number 54 = .ok (.aload_n 0, 1) := dec_at kDX4_number_0 8 rfl
theorem dX4_number_55 : decode cX4_number 55 = .ok (.getfield 18, 3) := dec_at kDX4_number_0 9 rfl
theorem dX4_number_58 : decode cX4_number 58 = .ok (.getfield 63, 3) := dec_at kDX4_number_0 10 rfl
theorem dX4_number_61 : decode cX4_number 61 = .ok (.ireturn, 1) := dec_at kDX4_number_0 11 rfl
theorem dX4_number_62 : decode cX4_number 62 = .ok (.aload_n 0, 1) := dec_at kDX4_number_0 12 rfl
theorem dX4_number_63 : decode cX4_number 63 = .ok (.getfield 75, 3) := dec_at kDX4_number_0 13 rfl
theorem dX4_number_66 : decode cX4_number 66 = .ok (.ireturn, 1) := dec_at kDX4_number_0 14 rfl
theorem dX4_number_67 : decode cX4_number 67 = .ok (.aload_n 0, 1) := dec_at kDX4_number_0 15 rfl
theorem dX4_number_68 : decode cX4_number 68 = .ok (.getfield 78, 3) := dec_at kDX4_number_0 16 rfl
theorem dX4_number_71 : decode cX4_number 71 = .ok (.ireturn, 1) := dec_at kDX4_number_0 17 rfl
theorem dX4_number_72 : decode cX4_number 72 = .ok (.aload_n 0, 1) := dec_at kDX4_number_0 18 rfl
theorem dX4_number_73 : decode cX4_number 73 = .ok (.getfield 81, 3) := dec_at kDX4_number_0 19 rfl
theorem dX4_number_76 : decode cX4_number 76 = .ok (.ireturn, 1) := dec_at kDX4_number_0 20 rfl
theorem dX4_number_77 : decode cX4_number 77 = .ok (.aload_n 0, 1) := dec_at kDX4_number_0 21 rfl
theorem dX4_number_78 : decode cX4_number 78 = .ok (.getfield 84, 3) := dec_at kDX4_number_0 22 rfl
theorem dX4_number_81 : decode cX4_number 81 = .ok (.ireturn, 1) := dec_at kDX4_number_0 23 rfl
theorem dX4_number_82 : decode cX4_number 82 = .ok (.aload_n 0, 1) := dec_at kDX4_number_0 24 rfl
theorem dX4_number_83 : decode cX4_number 83 = .ok (.getfield 49, 3) := dec_at kDX4_number_0 25 rfl
theorem dX4_number_86 : decode cX4_number 86 = .ok (.ifCond .ne 17, 3) := dec_at kDX4_number_0 26 rfl
theorem dX4_number_89 : decode cX4_number 89 = .ok (.aload_n 0, 1) := dec_at kDX4_number_0 27 rfl
theorem dX4_number_90 : decode cX4_number 90 = .ok (.getfield 18, 3) := dec_at kDX4_number_0 28 rfl
theorem dX4_number_93 : decode cX4_number 93 = .ok (.aload_n 0, 1) := dec_at kDX4_number_0 29 rfl
theorem dX4_number_94 : decode cX4_number 94 = .ok (.getfield 87, 3) := dec_at kDX4_number_0 30 rfl
theorem dX4_number_97 : decode cX4_number 97 = .ok (.invokevirtual 184, 3) := dec_at kDX4_number_0 31 rfl
theorem dX4_number_100 : decode cX4_number 100 = .ok (.goto 4, 3) := dec_at kDX4_number_0 32 rfl
theorem dX4_number_103 : decode cX4_number 103 = .ok (.iconst 0, 1) := dec_at kDX4_number_0 33 rfl
theorem dX4_number_104 : decode cX4_number 104 = .ok (.ireturn, 1) := dec_at kDX4_number_0 34 rfl
def DX4_certificateStates_0 : List (Nat × (Instr × Nat)) := [(0, (.aload_n 0, 1)), (1, (.getfield 9, 3)), (4, (.getfield 90, 3)), (7, (.aload_n 0, 1)), (8, (.getfield 18, 3)), (11, (.aload_n 0, 1)), (12, (.getfield 87, 3)), (15, (.invokevirtual 187, 3)), (18, (.ldc2_w 132, 3)), (21, (.lxor, 1)), (22, (.land, 1)), (23, (.lreturn, 1))]
theorem kDX4_certificateStates_0 : DX4_certificateStates_0.all (fun q => decide (decode cX4_certificateStates q.1 = .ok q.2)) = true := by decide +kernel
theorem dX4_certificateStates_0 : decode cX4_certificateStates 0 = .ok (.aload_n 0, 1) := dec_at kDX4_certificateStates_0 0 rfl
theorem dX4_certificateStates_1 : decode cX4_certificateStates 1 = .ok (.getfield 9, 3) := dec_at kDX4_certificateStates_0 1 rfl
theorem dX4_certificateStates_4 : decode cX4_certificateStates 4 = .ok (.getfield 90, 3) := dec_at kDX4_certificateStates_0 2 rfl
theorem dX4_certificateStates_7 : decode cX4_certificateStates 7 = .ok (.aload_n 0, 1) := dec_at kDX4_certificateStates_0 3 rfl
theorem dX4_certificateStates_8 : decode cX4_certificateStates 8 = .ok (.getfield 18, 3) := dec_at kDX4_certificateStates_0 4 rfl
theorem dX4_certificateStates_11 : decode cX4_certificateStates 11 = .ok (.aload_n 0, 1) := dec_at kDX4_certificateStates_0 5 rfl
theorem dX4_certificateStates_12 : decode cX4_certificateStates 12 = .ok (.getfield 87, 3) := dec_at kDX4_certificateStates_0 6 rfl
theorem dX4_certificateStates_15 : decode cX4_certificateStates 15 = .ok (.invokevirtual 187, 3) := dec_at kDX4_certificateStates_0 7 rfl
theorem dX4_certificateStates_18 : decode cX4_certificateStates 18 = .ok (.ldc2_w 132, 3) := dec_at kDX4_certificateStates_0 8 rfl
theorem dX4_certificateStates_21 : decode cX4_certificateStates 21 = .ok (.lxor, 1) := dec_at kDX4_certificateStates_0 9 rfl
theorem dX4_certificateStates_22 : decode cX4_certificateStates 22 = .ok (.land, 1) := dec_at kDX4_certificateStates_0 10 rfl
theorem dX4_certificateStates_23 : decode cX4_certificateStates 23 = .ok (.lreturn, 1) := dec_at kDX4_certificateStates_0 11 rfl
def DX4_countNeededCubes_0 : List (Nat × (Instr × Nat)) := [(0, (.iconst 0, 1)), (1, (.istore_n 2, 1)), (2, (.iconst 0, 1)), (3, (.istore_n 3, 1)), (4, (.iload_n 3, 1)), (5, (.aload_n 0, 1)), (6, (.getfield 18, 3)), (9, (.getfield 63, 3)), (12, (.if_icmp .ge 43, 3)), (15, (.iload_n 3, 1)), (16, (.sipush 729, 3)), (19, (.if_icmp .ge 36, 3)), (22, (.aload_n 0, 1)), (23, (.getfield 29, 3)), (26, (.iload_n 3, 1)), (27, (.aload_n 0, 1)), (28, (.getfield 18, 3)), (31, (.getfield 178, 3)), (34, (.iload_n 3, 1)), (35, (.iaload, 1)), (36, (.aload_n 0, 1)), (37, (.getfield 87, 3)), (40, (.if_icmp .gt 7, 3)), (43, (.iconst 1, 1)), (44, (.goto 4, 3)), (47, (.iconst 0, 1)), (48, (.bastore, 1)), (49, (.iinc 3 1, 3)), (52, (.goto (-48), 3)), (55, (.iconst 0, 1)), (56, (.istore_n 3, 1)), (57, (.iload_n 3, 1)), (58, (.aload_n 0, 1)), (59, (.getfield 18, 3)), (62, (.getfield 63, 3)), (65, (.if_icmp .ge 108, 3)), (68, (.iload_n 3, 1)), (69, (.sipush 729, 3)), (72, (.if_icmp .ge 101, 3)), (75, (.aload_n 0, 1)), (76, (.getfield 29, 3)), (79, (.iload_n 3, 1)), (80, (.baload, 1)), (81, (.ifCond .eq 6, 3)), (84, (.goto 83, 3)), (87, (.aload_n 0, 1)), (88, (.getfield 29, 3)), (91, (.iload_n 3, 1)), (92, (.iconst 1, 1)), (93, (.bastore, 1))]
theorem kDX4_countNeededCubes_0 : DX4_countNeededCubes_0.all (fun q => decide (decode cX4_countNeededCubes q.1 = .ok q.2)) = true := by decide +kernel
theorem dX4_countNeededCubes_0 : decode cX4_countNeededCubes 0 = .ok (.iconst 0, 1) := dec_at kDX4_countNeededCubes_0 0 rfl
theorem dX4_countNeededCubes_1 : decode cX4_countNeededCubes 1 = .ok (.istore_n 2, 1) := dec_at kDX4_countNeededCubes_0 1 rfl
theorem dX4_countNeededCubes_2 : decode cX4_countNeededCubes 2 = .ok (.iconst 0, 1) := dec_at kDX4_countNeededCubes_0 2 rfl
theorem dX4_countNeededCubes_3 : decode cX4_countNeededCubes 3 = .ok (.istore_n 3, 1) := dec_at kDX4_countNeededCubes_0 3 rfl
theorem dX4_countNeededCubes_4 : decode cX4_countNeededCubes 4 = .ok (.iload_n 3, 1) := dec_at kDX4_countNeededCubes_0 4 rfl
theorem dX4_countNeededCubes_5 : decode cX4_countNeededCubes 5 = .ok (.aload_n 0, 1) := dec_at kDX4_countNeededCubes_0 5 rfl
theorem dX4_countNeededCubes_6 : decode cX4_countNeededCubes 6 = .ok (.getfield 18, 3) := dec_at kDX4_countNeededCubes_0 6 rfl
theorem dX4_countNeededCubes_9 : decode cX4_countNeededCubes 9 = .ok (.getfield 63, 3) := dec_at kDX4_countNeededCubes_0 7 rfl
theorem dX4_countNeededCubes_12 : decode cX4_countNeededCubes 12 = .ok (.if_icmp .ge 43, 3) := dec_at kDX4_countNeededCubes_0 8 rfl
theorem dX4_countNeededCubes_15 : decode cX4_countNeededCubes 15 = .ok (.iload_n 3, 1) := dec_at kDX4_countNeededCubes_0 9 rfl
theorem dX4_countNeededCubes_16 : decode cX4_countNeededCubes 16 = .ok (.sipush 729, 3) := dec_at kDX4_countNeededCubes_0 10 rfl
theorem dX4_countNeededCubes_19 : decode cX4_countNeededCubes 19 = .ok (.if_icmp .ge 36, 3) := dec_at kDX4_countNeededCubes_0 11 rfl
theorem dX4_countNeededCubes_22 : decode cX4_countNeededCubes 22 = .ok (.aload_n 0, 1) := dec_at kDX4_countNeededCubes_0 12 rfl
theorem dX4_countNeededCubes_23 : decode cX4_countNeededCubes 23 = .ok (.getfield 29, 3) := dec_at kDX4_countNeededCubes_0 13 rfl
theorem dX4_countNeededCubes_26 : decode cX4_countNeededCubes 26 = .ok (.iload_n 3, 1) := dec_at kDX4_countNeededCubes_0 14 rfl
theorem dX4_countNeededCubes_27 : decode cX4_countNeededCubes 27 = .ok (.aload_n 0, 1) := dec_at kDX4_countNeededCubes_0 15 rfl
theorem dX4_countNeededCubes_28 : decode cX4_countNeededCubes 28 = .ok (.getfield 18, 3) := dec_at kDX4_countNeededCubes_0 16 rfl
theorem dX4_countNeededCubes_31 : decode cX4_countNeededCubes 31 = .ok (.getfield 178, 3) := dec_at kDX4_countNeededCubes_0 17 rfl
theorem dX4_countNeededCubes_34 : decode cX4_countNeededCubes 34 = .ok (.iload_n 3, 1) := dec_at kDX4_countNeededCubes_0 18 rfl
theorem dX4_countNeededCubes_35 : decode cX4_countNeededCubes 35 = .ok (.iaload, 1) := dec_at kDX4_countNeededCubes_0 19 rfl
theorem dX4_countNeededCubes_36 : decode cX4_countNeededCubes 36 = .ok (.aload_n 0, 1) := dec_at kDX4_countNeededCubes_0 20 rfl
theorem dX4_countNeededCubes_37 : decode cX4_countNeededCubes 37 = .ok (.getfield 87, 3) := dec_at kDX4_countNeededCubes_0 21 rfl
theorem dX4_countNeededCubes_40 : decode cX4_countNeededCubes 40 = .ok (.if_icmp .gt 7, 3) := dec_at kDX4_countNeededCubes_0 22 rfl
theorem dX4_countNeededCubes_43 : decode cX4_countNeededCubes 43 = .ok (.iconst 1, 1) := dec_at kDX4_countNeededCubes_0 23 rfl
theorem dX4_countNeededCubes_44 : decode cX4_countNeededCubes 44 = .ok (.goto 4, 3) := dec_at kDX4_countNeededCubes_0 24 rfl
theorem dX4_countNeededCubes_47 : decode cX4_countNeededCubes 47 = .ok (.iconst 0, 1) := dec_at kDX4_countNeededCubes_0 25 rfl
theorem dX4_countNeededCubes_48 : decode cX4_countNeededCubes 48 = .ok (.bastore, 1) := dec_at kDX4_countNeededCubes_0 26 rfl
theorem dX4_countNeededCubes_49 : decode cX4_countNeededCubes 49 = .ok (.iinc 3 1, 3) := dec_at kDX4_countNeededCubes_0 27 rfl
theorem dX4_countNeededCubes_52 : decode cX4_countNeededCubes 52 = .ok (.goto (-48), 3) := dec_at kDX4_countNeededCubes_0 28 rfl
theorem dX4_countNeededCubes_55 : decode cX4_countNeededCubes 55 = .ok (.iconst 0, 1) := dec_at kDX4_countNeededCubes_0 29 rfl
theorem dX4_countNeededCubes_56 : decode cX4_countNeededCubes 56 = .ok (.istore_n 3, 1) := dec_at kDX4_countNeededCubes_0 30 rfl
theorem dX4_countNeededCubes_57 : decode cX4_countNeededCubes 57 = .ok (.iload_n 3, 1) := dec_at kDX4_countNeededCubes_0 31 rfl
theorem dX4_countNeededCubes_58 : decode cX4_countNeededCubes 58 = .ok (.aload_n 0, 1) := dec_at kDX4_countNeededCubes_0 32 rfl
theorem dX4_countNeededCubes_59 : decode cX4_countNeededCubes 59 = .ok (.getfield 18, 3) := dec_at kDX4_countNeededCubes_0 33 rfl
theorem dX4_countNeededCubes_62 : decode cX4_countNeededCubes 62 = .ok (.getfield 63, 3) := dec_at kDX4_countNeededCubes_0 34 rfl
theorem dX4_countNeededCubes_65 : decode cX4_countNeededCubes 65 = .ok (.if_icmp .ge 108, 3) := dec_at kDX4_countNeededCubes_0 35 rfl
theorem dX4_countNeededCubes_68 : decode cX4_countNeededCubes 68 = .ok (.iload_n 3, 1) := dec_at kDX4_countNeededCubes_0 36 rfl
theorem dX4_countNeededCubes_69 : decode cX4_countNeededCubes 69 = .ok (.sipush 729, 3) := dec_at kDX4_countNeededCubes_0 37 rfl
theorem dX4_countNeededCubes_72 : decode cX4_countNeededCubes 72 = .ok (.if_icmp .ge 101, 3) := dec_at kDX4_countNeededCubes_0 38 rfl
theorem dX4_countNeededCubes_75 : decode cX4_countNeededCubes 75 = .ok (.aload_n 0, 1) := dec_at kDX4_countNeededCubes_0 39 rfl
theorem dX4_countNeededCubes_76 : decode cX4_countNeededCubes 76 = .ok (.getfield 29, 3) := dec_at kDX4_countNeededCubes_0 40 rfl
theorem dX4_countNeededCubes_79 : decode cX4_countNeededCubes 79 = .ok (.iload_n 3, 1) := dec_at kDX4_countNeededCubes_0 41 rfl
theorem dX4_countNeededCubes_80 : decode cX4_countNeededCubes 80 = .ok (.baload, 1) := dec_at kDX4_countNeededCubes_0 42 rfl
theorem dX4_countNeededCubes_81 : decode cX4_countNeededCubes 81 = .ok (.ifCond .eq 6, 3) := dec_at kDX4_countNeededCubes_0 43 rfl
theorem dX4_countNeededCubes_84 : decode cX4_countNeededCubes 84 = .ok (.goto 83, 3) := dec_at kDX4_countNeededCubes_0 44 rfl
theorem dX4_countNeededCubes_87 : decode cX4_countNeededCubes 87 = .ok (.aload_n 0, 1) := dec_at kDX4_countNeededCubes_0 45 rfl
theorem dX4_countNeededCubes_88 : decode cX4_countNeededCubes 88 = .ok (.getfield 29, 3) := dec_at kDX4_countNeededCubes_0 46 rfl
theorem dX4_countNeededCubes_91 : decode cX4_countNeededCubes 91 = .ok (.iload_n 3, 1) := dec_at kDX4_countNeededCubes_0 47 rfl
theorem dX4_countNeededCubes_92 : decode cX4_countNeededCubes 92 = .ok (.iconst 1, 1) := dec_at kDX4_countNeededCubes_0 48 rfl
theorem dX4_countNeededCubes_93 : decode cX4_countNeededCubes 93 = .ok (.bastore, 1) := dec_at kDX4_countNeededCubes_0 49 rfl
def DX4_countNeededCubes_50 : List (Nat × (Instr × Nat)) := [(94, (.aload_n 0, 1)), (95, (.getfield 9, 3)), (98, (.getfield 90, 3)), (101, (.aload_n 0, 1)), (102, (.invokevirtual 190, 3)), (105, (.ldc2_w 132, 3)), (108, (.lxor, 1)), (109, (.land, 1)), (110, (.lstore 4, 2)), (112, (.aload_n 1, 1)), (113, (.lload 4, 2)), (115, (.invokevirtual 193, 3)), (118, (.lload 4, 2)), (120, (.ldc2_w 132, 3)), (123, (.lxor, 1)), (124, (.land, 1)), (125, (.lconst 0, 1)), (126, (.lcmp, 1)), (127, (.ifCond .ne 7, 3)), (130, (.iconst 1, 1)), (131, (.goto 4, 3)), (134, (.iconst 0, 1)), (135, (.istore 6, 2)), (137, (.iload 6, 2)), (139, (.ifCond .eq 18, 3)), (142, (.lload 4, 2)), (144, (.aload_n 0, 1)), (145, (.getfield 9, 3)), (148, (.invokevirtual 46, 3)), (151, (.land, 1)), (152, (.lconst 0, 1)), (153, (.lcmp, 1)), (154, (.ifCond .eq 13, 3)), (157, (.aload_n 0, 1)), (158, (.getfield 29, 3)), (161, (.iload_n 3, 1)), (162, (.iconst 0, 1)), (163, (.bastore, 1)), (164, (.iinc 2 1, 3)), (167, (.iinc 3 1, 3)), (170, (.goto (-113), 3)), (173, (.iload_n 2, 1)), (174, (.ireturn, 1))]
theorem kDX4_countNeededCubes_50 : DX4_countNeededCubes_50.all (fun q => decide (decode cX4_countNeededCubes q.1 = .ok q.2)) = true := by decide +kernel
theorem dX4_countNeededCubes_94 : decode cX4_countNeededCubes 94 = .ok (.aload_n 0, 1) := dec_at kDX4_countNeededCubes_50 0 rfl
theorem dX4_countNeededCubes_95 : decode cX4_countNeededCubes 95 = .ok (.getfield 9, 3) := dec_at kDX4_countNeededCubes_50 1 rfl
theorem dX4_countNeededCubes_98 : decode cX4_countNeededCubes 98 = .ok (.getfield 90, 3) := dec_at kDX4_countNeededCubes_50 2 rfl
theorem dX4_countNeededCubes_101 : decode cX4_countNeededCubes 101 = .ok (.aload_n 0, 1) := dec_at kDX4_countNeededCubes_50 3 rfl
theorem dX4_countNeededCubes_102 : decode cX4_countNeededCubes 102 = .ok (.invokevirtual 190, 3) := dec_at kDX4_countNeededCubes_50 4 rfl
theorem dX4_countNeededCubes_105 : decode cX4_countNeededCubes 105 = .ok (.ldc2_w 132, 3) := dec_at kDX4_countNeededCubes_50 5 rfl
theorem dX4_countNeededCubes_108 : decode cX4_countNeededCubes 108 = .ok (.lxor, 1) := dec_at kDX4_countNeededCubes_50 6 rfl
theorem dX4_countNeededCubes_109 : decode cX4_countNeededCubes 109 = .ok (.land, 1) := dec_at kDX4_countNeededCubes_50 7 rfl
theorem dX4_countNeededCubes_110 : decode cX4_countNeededCubes 110 = .ok (.lstore 4, 2) := dec_at kDX4_countNeededCubes_50 8 rfl
theorem dX4_countNeededCubes_112 : decode cX4_countNeededCubes 112 = .ok (.aload_n 1, 1) := dec_at kDX4_countNeededCubes_50 9 rfl
theorem dX4_countNeededCubes_113 : decode cX4_countNeededCubes 113 = .ok (.lload 4, 2) := dec_at kDX4_countNeededCubes_50 10 rfl
theorem dX4_countNeededCubes_115 : decode cX4_countNeededCubes 115 = .ok (.invokevirtual 193, 3) := dec_at kDX4_countNeededCubes_50 11 rfl
theorem dX4_countNeededCubes_118 : decode cX4_countNeededCubes 118 = .ok (.lload 4, 2) := dec_at kDX4_countNeededCubes_50 12 rfl
theorem dX4_countNeededCubes_120 : decode cX4_countNeededCubes 120 = .ok (.ldc2_w 132, 3) := dec_at kDX4_countNeededCubes_50 13 rfl
theorem dX4_countNeededCubes_123 : decode cX4_countNeededCubes 123 = .ok (.lxor, 1) := dec_at kDX4_countNeededCubes_50 14 rfl
theorem dX4_countNeededCubes_124 : decode cX4_countNeededCubes 124 = .ok (.land, 1) := dec_at kDX4_countNeededCubes_50 15 rfl
theorem dX4_countNeededCubes_125 : decode cX4_countNeededCubes 125 = .ok (.lconst 0, 1) := dec_at kDX4_countNeededCubes_50 16 rfl
theorem dX4_countNeededCubes_126 : decode cX4_countNeededCubes 126 = .ok (.lcmp, 1) := dec_at kDX4_countNeededCubes_50 17 rfl
theorem dX4_countNeededCubes_127 : decode cX4_countNeededCubes 127 = .ok (.ifCond .ne 7, 3) := dec_at kDX4_countNeededCubes_50 18 rfl
theorem dX4_countNeededCubes_130 : decode cX4_countNeededCubes 130 = .ok (.iconst 1, 1) := dec_at kDX4_countNeededCubes_50 19 rfl
theorem dX4_countNeededCubes_131 : decode cX4_countNeededCubes 131 = .ok (.goto 4, 3) := dec_at kDX4_countNeededCubes_50 20 rfl
theorem dX4_countNeededCubes_134 : decode cX4_countNeededCubes 134 = .ok (.iconst 0, 1) := dec_at kDX4_countNeededCubes_50 21 rfl
theorem dX4_countNeededCubes_135 : decode cX4_countNeededCubes 135 = .ok (.istore 6, 2) := dec_at kDX4_countNeededCubes_50 22 rfl
theorem dX4_countNeededCubes_137 : decode cX4_countNeededCubes 137 = .ok (.iload 6, 2) := dec_at kDX4_countNeededCubes_50 23 rfl
theorem dX4_countNeededCubes_139 : decode cX4_countNeededCubes 139 = .ok (.ifCond .eq 18, 3) := dec_at kDX4_countNeededCubes_50 24 rfl
theorem dX4_countNeededCubes_142 : decode cX4_countNeededCubes 142 = .ok (.lload 4, 2) := dec_at kDX4_countNeededCubes_50 25 rfl
theorem dX4_countNeededCubes_144 : decode cX4_countNeededCubes 144 = .ok (.aload_n 0, 1) := dec_at kDX4_countNeededCubes_50 26 rfl
theorem dX4_countNeededCubes_145 : decode cX4_countNeededCubes 145 = .ok (.getfield 9, 3) := dec_at kDX4_countNeededCubes_50 27 rfl
theorem dX4_countNeededCubes_148 : decode cX4_countNeededCubes 148 = .ok (.invokevirtual 46, 3) := dec_at kDX4_countNeededCubes_50 28 rfl
theorem dX4_countNeededCubes_151 : decode cX4_countNeededCubes 151 = .ok (.land, 1) := dec_at kDX4_countNeededCubes_50 29 rfl
theorem dX4_countNeededCubes_152 : decode cX4_countNeededCubes 152 = .ok (.lconst 0, 1) := dec_at kDX4_countNeededCubes_50 30 rfl
theorem dX4_countNeededCubes_153 : decode cX4_countNeededCubes 153 = .ok (.lcmp, 1) := dec_at kDX4_countNeededCubes_50 31 rfl
theorem dX4_countNeededCubes_154 : decode cX4_countNeededCubes 154 = .ok (.ifCond .eq 13, 3) := dec_at kDX4_countNeededCubes_50 32 rfl
theorem dX4_countNeededCubes_157 : decode cX4_countNeededCubes 157 = .ok (.aload_n 0, 1) := dec_at kDX4_countNeededCubes_50 33 rfl
theorem dX4_countNeededCubes_158 : decode cX4_countNeededCubes 158 = .ok (.getfield 29, 3) := dec_at kDX4_countNeededCubes_50 34 rfl
theorem dX4_countNeededCubes_161 : decode cX4_countNeededCubes 161 = .ok (.iload_n 3, 1) := dec_at kDX4_countNeededCubes_50 35 rfl
theorem dX4_countNeededCubes_162 : decode cX4_countNeededCubes 162 = .ok (.iconst 0, 1) := dec_at kDX4_countNeededCubes_50 36 rfl
theorem dX4_countNeededCubes_163 : decode cX4_countNeededCubes 163 = .ok (.bastore, 1) := dec_at kDX4_countNeededCubes_50 37 rfl
theorem dX4_countNeededCubes_164 : decode cX4_countNeededCubes 164 = .ok (.iinc 2 1, 3) := dec_at kDX4_countNeededCubes_50 38 rfl
theorem dX4_countNeededCubes_167 : decode cX4_countNeededCubes 167 = .ok (.iinc 3 1, 3) := dec_at kDX4_countNeededCubes_50 39 rfl
theorem dX4_countNeededCubes_170 : decode cX4_countNeededCubes 170 = .ok (.goto (-113), 3) := dec_at kDX4_countNeededCubes_50 40 rfl
theorem dX4_countNeededCubes_173 : decode cX4_countNeededCubes 173 = .ok (.iload_n 2, 1) := dec_at kDX4_countNeededCubes_50 41 rfl
theorem dX4_countNeededCubes_174 : decode cX4_countNeededCubes 174 = .ok (.ireturn, 1) := dec_at kDX4_countNeededCubes_50 42 rfl
def DX4_unionOfKept_0 : List (Nat × (Instr × Nat)) := [(0, (.lconst 0, 1)), (1, (.lstore_n 1, 1)), (2, (.iconst 0, 1)), (3, (.istore_n 3, 1)), (4, (.iload_n 3, 1)), (5, (.aload_n 0, 1)), (6, (.getfield 18, 3)), (9, (.getfield 63, 3)), (12, (.if_icmp .ge 37, 3)), (15, (.iload_n 3, 1)), (16, (.sipush 729, 3)), (19, (.if_icmp .ge 30, 3)), (22, (.aload_n 0, 1)), (23, (.getfield 29, 3)), (26, (.iload_n 3, 1)), (27, (.baload, 1)), (28, (.ifCond .ne 15, 3)), (31, (.lload_n 1, 1)), (32, (.aload_n 0, 1)), (33, (.getfield 18, 3)), (36, (.getfield 181, 3)), (39, (.iload_n 3, 1)), (40, (.laload, 1)), (41, (.lor, 1)), (42, (.lstore_n 1, 1)), (43, (.iinc 3 1, 3)), (46, (.goto (-42), 3)), (49, (.lload_n 1, 1)), (50, (.lreturn, 1))]
theorem kDX4_unionOfKept_0 : DX4_unionOfKept_0.all (fun q => decide (decode cX4_unionOfKept q.1 = .ok q.2)) = true := by decide +kernel
theorem dX4_unionOfKept_0 : decode cX4_unionOfKept 0 = .ok (.lconst 0, 1) := dec_at kDX4_unionOfKept_0 0 rfl
theorem dX4_unionOfKept_1 : decode cX4_unionOfKept 1 = .ok (.lstore_n 1, 1) := dec_at kDX4_unionOfKept_0 1 rfl
theorem dX4_unionOfKept_2 : decode cX4_unionOfKept 2 = .ok (.iconst 0, 1) := dec_at kDX4_unionOfKept_0 2 rfl
theorem dX4_unionOfKept_3 : decode cX4_unionOfKept 3 = .ok (.istore_n 3, 1) := dec_at kDX4_unionOfKept_0 3 rfl
theorem dX4_unionOfKept_4 : decode cX4_unionOfKept 4 = .ok (.iload_n 3, 1) := dec_at kDX4_unionOfKept_0 4 rfl
theorem dX4_unionOfKept_5 : decode cX4_unionOfKept 5 = .ok (.aload_n 0, 1) := dec_at kDX4_unionOfKept_0 5 rfl
theorem dX4_unionOfKept_6 : decode cX4_unionOfKept 6 = .ok (.getfield 18, 3) := dec_at kDX4_unionOfKept_0 6 rfl
theorem dX4_unionOfKept_9 : decode cX4_unionOfKept 9 = .ok (.getfield 63, 3) := dec_at kDX4_unionOfKept_0 7 rfl
theorem dX4_unionOfKept_12 : decode cX4_unionOfKept 12 = .ok (.if_icmp .ge 37, 3) := dec_at kDX4_unionOfKept_0 8 rfl
theorem dX4_unionOfKept_15 : decode cX4_unionOfKept 15 = .ok (.iload_n 3, 1) := dec_at kDX4_unionOfKept_0 9 rfl
theorem dX4_unionOfKept_16 : decode cX4_unionOfKept 16 = .ok (.sipush 729, 3) := dec_at kDX4_unionOfKept_0 10 rfl
theorem dX4_unionOfKept_19 : decode cX4_unionOfKept 19 = .ok (.if_icmp .ge 30, 3) := dec_at kDX4_unionOfKept_0 11 rfl
theorem dX4_unionOfKept_22 : decode cX4_unionOfKept 22 = .ok (.aload_n 0, 1) := dec_at kDX4_unionOfKept_0 12 rfl
theorem dX4_unionOfKept_23 : decode cX4_unionOfKept 23 = .ok (.getfield 29, 3) := dec_at kDX4_unionOfKept_0 13 rfl
theorem dX4_unionOfKept_26 : decode cX4_unionOfKept 26 = .ok (.iload_n 3, 1) := dec_at kDX4_unionOfKept_0 14 rfl
theorem dX4_unionOfKept_27 : decode cX4_unionOfKept 27 = .ok (.baload, 1) := dec_at kDX4_unionOfKept_0 15 rfl
theorem dX4_unionOfKept_28 : decode cX4_unionOfKept 28 = .ok (.ifCond .ne 15, 3) := dec_at kDX4_unionOfKept_0 16 rfl
theorem dX4_unionOfKept_31 : decode cX4_unionOfKept 31 = .ok (.lload_n 1, 1) := dec_at kDX4_unionOfKept_0 17 rfl
theorem dX4_unionOfKept_32 : decode cX4_unionOfKept 32 = .ok (.aload_n 0, 1) := dec_at kDX4_unionOfKept_0 18 rfl
theorem dX4_unionOfKept_33 : decode cX4_unionOfKept 33 = .ok (.getfield 18, 3) := dec_at kDX4_unionOfKept_0 19 rfl
theorem dX4_unionOfKept_36 : decode cX4_unionOfKept 36 = .ok (.getfield 181, 3) := dec_at kDX4_unionOfKept_0 20 rfl
theorem dX4_unionOfKept_39 : decode cX4_unionOfKept 39 = .ok (.iload_n 3, 1) := dec_at kDX4_unionOfKept_0 21 rfl
theorem dX4_unionOfKept_40 : decode cX4_unionOfKept 40 = .ok (.laload, 1) := dec_at kDX4_unionOfKept_0 22 rfl
theorem dX4_unionOfKept_41 : decode cX4_unionOfKept 41 = .ok (.lor, 1) := dec_at kDX4_unionOfKept_0 23 rfl
theorem dX4_unionOfKept_42 : decode cX4_unionOfKept 42 = .ok (.lstore_n 1, 1) := dec_at kDX4_unionOfKept_0 24 rfl
theorem dX4_unionOfKept_43 : decode cX4_unionOfKept 43 = .ok (.iinc 3 1, 3) := dec_at kDX4_unionOfKept_0 25 rfl
theorem dX4_unionOfKept_46 : decode cX4_unionOfKept 46 = .ok (.goto (-42), 3) := dec_at kDX4_unionOfKept_0 26 rfl
theorem dX4_unionOfKept_49 : decode cX4_unionOfKept 49 = .ok (.lload_n 1, 1) := dec_at kDX4_unionOfKept_0 27 rfl
theorem dX4_unionOfKept_50 : decode cX4_unionOfKept 50 = .ok (.lreturn, 1) := dec_at kDX4_unionOfKept_0 28 rfl
def DX5_init_0 : List (Nat × (Instr × Nat)) := [(0, (.aload_n 0, 1)), (1, (.invokespecial 3, 3)), (4, (.aload_n 0, 1)), (5, (.aload_n 1, 1)), (6, (.putfield 9, 3)), (9, (.aload_n 0, 1)), (10, (.aload_n 2, 1)), (11, (.putfield 15, 3)), (14, (.aload_n 0, 1)), (15, (.bipush 7, 2)), (17, (.newarray .long, 2)), (19, (.putfield 19, 3)), (22, (.aload_n 0, 1)), (23, (.sipush 232, 3)), (26, (.newarray .long, 2)), (28, (.putfield 23, 3)), (31, (.return_, 1))]
theorem kDX5_init_0 : DX5_init_0.all (fun q => decide (decode cX5_init q.1 = .ok q.2)) = true := by decide +kernel
theorem dX5_init_0 : decode cX5_init 0 = .ok (.aload_n 0, 1) := dec_at kDX5_init_0 0 rfl
theorem dX5_init_1 : decode cX5_init 1 = .ok (.invokespecial 3, 3) := dec_at kDX5_init_0 1 rfl
theorem dX5_init_4 : decode cX5_init 4 = .ok (.aload_n 0, 1) := dec_at kDX5_init_0 2 rfl
theorem dX5_init_5 : decode cX5_init 5 = .ok (.aload_n 1, 1) := dec_at kDX5_init_0 3 rfl
theorem dX5_init_6 : decode cX5_init 6 = .ok (.putfield 9, 3) := dec_at kDX5_init_0 4 rfl
theorem dX5_init_9 : decode cX5_init 9 = .ok (.aload_n 0, 1) := dec_at kDX5_init_0 5 rfl
theorem dX5_init_10 : decode cX5_init 10 = .ok (.aload_n 2, 1) := dec_at kDX5_init_0 6 rfl
theorem dX5_init_11 : decode cX5_init 11 = .ok (.putfield 15, 3) := dec_at kDX5_init_0 7 rfl
theorem dX5_init_14 : decode cX5_init 14 = .ok (.aload_n 0, 1) := dec_at kDX5_init_0 8 rfl
theorem dX5_init_15 : decode cX5_init 15 = .ok (.bipush 7, 2) := dec_at kDX5_init_0 9 rfl
theorem dX5_init_17 : decode cX5_init 17 = .ok (.newarray .long, 2) := dec_at kDX5_init_0 10 rfl
theorem dX5_init_19 : decode cX5_init 19 = .ok (.putfield 19, 3) := dec_at kDX5_init_0 11 rfl
theorem dX5_init_22 : decode cX5_init 22 = .ok (.aload_n 0, 1) := dec_at kDX5_init_0 12 rfl
theorem dX5_init_23 : decode cX5_init 23 = .ok (.sipush 232, 3) := dec_at kDX5_init_0 13 rfl
theorem dX5_init_26 : decode cX5_init 26 = .ok (.newarray .long, 2) := dec_at kDX5_init_0 14 rfl
theorem dX5_init_28 : decode cX5_init 28 = .ok (.putfield 23, 3) := dec_at kDX5_init_0 15 rfl
theorem dX5_init_31 : decode cX5_init 31 = .ok (.return_, 1) := dec_at kDX5_init_0 16 rfl
def DX5_leastInduction_0 : List (Nat × (Instr × Nat)) := [(0, (.aload_n 0, 1)), (1, (.getfield 15, 3)), (4, (.getfield 26, 3)), (7, (.istore_n 2, 1)), (8, (.iconst 0, 1)), (9, (.istore_n 3, 1)), (10, (.iload_n 3, 1)), (11, (.bipush 6, 2)), (13, (.if_icmp .gt 89, 3)), (16, (.iload_n 2, 1)), (17, (.iconst (-1), 1)), (18, (.if_icmp .eq 10, 3)), (21, (.iload_n 2, 1)), (22, (.iload_n 3, 1)), (23, (.if_icmp .ge 5, 3)), (26, (.iconst (-1), 1)), (27, (.ireturn, 1)), (28, (.aload_n 0, 1)), (29, (.getfield 19, 3)), (32, (.iload_n 3, 1)), (33, (.iload_n 3, 1)), (34, (.ifCond .ne 13, 3)), (37, (.aload_n 0, 1)), (38, (.getfield 9, 3)), (41, (.invokevirtual 32, 3)), (44, (.goto 26, 3)), (47, (.aload_n 0, 1)), (48, (.getfield 9, 3)), (51, (.invokevirtual 38, 3)), (54, (.aload_n 0, 1)), (55, (.getfield 15, 3)), (58, (.aload_n 0, 1)), (59, (.getfield 19, 3)), (62, (.iload_n 3, 1)), (63, (.iconst 1, 1)), (64, (.isub, 1)), (65, (.laload, 1)), (66, (.invokevirtual 41, 3)), (69, (.land, 1)), (70, (.lastore, 1)), (71, (.aload_n 0, 1)), (72, (.getfield 19, 3)), (75, (.iload_n 3, 1)), (76, (.laload, 1)), (77, (.lconst 0, 1)), (78, (.lcmp, 1)), (79, (.ifCond .eq 15, 3)), (82, (.iload_n 1, 1)), (83, (.ifCond .eq 13, 3)), (86, (.aload_n 0, 1))]
theorem kDX5_leastInduction_0 : DX5_leastInduction_0.all (fun q => decide (decode cX5_leastInduction q.1 = .ok q.2)) = true := by decide +kernel
theorem dX5_leastInduction_0 : decode cX5_leastInduction 0 = .ok (.aload_n 0, 1) := dec_at kDX5_leastInduction_0 0 rfl
theorem dX5_leastInduction_1 : decode cX5_leastInduction 1 = .ok (.getfield 15, 3) := dec_at kDX5_leastInduction_0 1 rfl
theorem dX5_leastInduction_4 : decode cX5_leastInduction 4 = .ok (.getfield 26, 3) := dec_at kDX5_leastInduction_0 2 rfl
theorem dX5_leastInduction_7 : decode cX5_leastInduction 7 = .ok (.istore_n 2, 1) := dec_at kDX5_leastInduction_0 3 rfl
theorem dX5_leastInduction_8 : decode cX5_leastInduction 8 = .ok (.iconst 0, 1) := dec_at kDX5_leastInduction_0 4 rfl
theorem dX5_leastInduction_9 : decode cX5_leastInduction 9 = .ok (.istore_n 3, 1) := dec_at kDX5_leastInduction_0 5 rfl
theorem dX5_leastInduction_10 : decode cX5_leastInduction 10 = .ok (.iload_n 3, 1) := dec_at kDX5_leastInduction_0 6 rfl
theorem dX5_leastInduction_11 : decode cX5_leastInduction 11 = .ok (.bipush 6, 2) := dec_at kDX5_leastInduction_0 7 rfl
theorem dX5_leastInduction_13 : decode cX5_leastInduction 13 = .ok (.if_icmp .gt 89, 3) := dec_at kDX5_leastInduction_0 8 rfl
theorem dX5_leastInduction_16 : decode cX5_leastInduction 16 = .ok (.iload_n 2, 1) := dec_at kDX5_leastInduction_0 9 rfl
theorem dX5_leastInduction_17 : decode cX5_leastInduction 17 = .ok (.iconst (-1), 1) := dec_at kDX5_leastInduction_0 10 rfl
theorem dX5_leastInduction_18 : decode cX5_leastInduction 18 = .ok (.if_icmp .eq 10, 3) := dec_at kDX5_leastInduction_0 11 rfl
theorem dX5_leastInduction_21 : decode cX5_leastInduction 21 = .ok (.iload_n 2, 1) := dec_at kDX5_leastInduction_0 12 rfl
theorem dX5_leastInduction_22 : decode cX5_leastInduction 22 = .ok (.iload_n 3, 1) := dec_at kDX5_leastInduction_0 13 rfl
theorem dX5_leastInduction_23 : decode cX5_leastInduction 23 = .ok (.if_icmp .ge 5, 3) := dec_at kDX5_leastInduction_0 14 rfl
theorem dX5_leastInduction_26 : decode cX5_leastInduction 26 = .ok (.iconst (-1), 1) := dec_at kDX5_leastInduction_0 15 rfl
theorem dX5_leastInduction_27 : decode cX5_leastInduction 27 = .ok (.ireturn, 1) := dec_at kDX5_leastInduction_0 16 rfl
theorem dX5_leastInduction_28 : decode cX5_leastInduction 28 = .ok (.aload_n 0, 1) := dec_at kDX5_leastInduction_0 17 rfl
theorem dX5_leastInduction_29 : decode cX5_leastInduction 29 = .ok (.getfield 19, 3) := dec_at kDX5_leastInduction_0 18 rfl
theorem dX5_leastInduction_32 : decode cX5_leastInduction 32 = .ok (.iload_n 3, 1) := dec_at kDX5_leastInduction_0 19 rfl
theorem dX5_leastInduction_33 : decode cX5_leastInduction 33 = .ok (.iload_n 3, 1) := dec_at kDX5_leastInduction_0 20 rfl
theorem dX5_leastInduction_34 : decode cX5_leastInduction 34 = .ok (.ifCond .ne 13, 3) := dec_at kDX5_leastInduction_0 21 rfl
theorem dX5_leastInduction_37 : decode cX5_leastInduction 37 = .ok (.aload_n 0, 1) := dec_at kDX5_leastInduction_0 22 rfl
theorem dX5_leastInduction_38 : decode cX5_leastInduction 38 = .ok (.getfield 9, 3) := dec_at kDX5_leastInduction_0 23 rfl
theorem dX5_leastInduction_41 : decode cX5_leastInduction 41 = .ok (.invokevirtual 32, 3) := dec_at kDX5_leastInduction_0 24 rfl
theorem dX5_leastInduction_44 : decode cX5_leastInduction 44 = .ok (.goto 26, 3) := dec_at kDX5_leastInduction_0 25 rfl
theorem dX5_leastInduction_47 : decode cX5_leastInduction 47 = .ok (.aload_n 0, 1) := dec_at kDX5_leastInduction_0 26 rfl
theorem dX5_leastInduction_48 : decode cX5_leastInduction 48 = .ok (.getfield 9, 3) := dec_at kDX5_leastInduction_0 27 rfl
theorem dX5_leastInduction_51 : decode cX5_leastInduction 51 = .ok (.invokevirtual 38, 3) := dec_at kDX5_leastInduction_0 28 rfl
theorem dX5_leastInduction_54 : decode cX5_leastInduction 54 = .ok (.aload_n 0, 1) := dec_at kDX5_leastInduction_0 29 rfl
theorem dX5_leastInduction_55 : decode cX5_leastInduction 55 = .ok (.getfield 15, 3) := dec_at kDX5_leastInduction_0 30 rfl
theorem dX5_leastInduction_58 : decode cX5_leastInduction 58 = .ok (.aload_n 0, 1) := dec_at kDX5_leastInduction_0 31 rfl
theorem dX5_leastInduction_59 : decode cX5_leastInduction 59 = .ok (.getfield 19, 3) := dec_at kDX5_leastInduction_0 32 rfl
theorem dX5_leastInduction_62 : decode cX5_leastInduction 62 = .ok (.iload_n 3, 1) := dec_at kDX5_leastInduction_0 33 rfl
theorem dX5_leastInduction_63 : decode cX5_leastInduction 63 = .ok (.iconst 1, 1) := dec_at kDX5_leastInduction_0 34 rfl
theorem dX5_leastInduction_64 : decode cX5_leastInduction 64 = .ok (.isub, 1) := dec_at kDX5_leastInduction_0 35 rfl
theorem dX5_leastInduction_65 : decode cX5_leastInduction 65 = .ok (.laload, 1) := dec_at kDX5_leastInduction_0 36 rfl
theorem dX5_leastInduction_66 : decode cX5_leastInduction 66 = .ok (.invokevirtual 41, 3) := dec_at kDX5_leastInduction_0 37 rfl
theorem dX5_leastInduction_69 : decode cX5_leastInduction 69 = .ok (.land, 1) := dec_at kDX5_leastInduction_0 38 rfl
theorem dX5_leastInduction_70 : decode cX5_leastInduction 70 = .ok (.lastore, 1) := dec_at kDX5_leastInduction_0 39 rfl
theorem dX5_leastInduction_71 : decode cX5_leastInduction 71 = .ok (.aload_n 0, 1) := dec_at kDX5_leastInduction_0 40 rfl
theorem dX5_leastInduction_72 : decode cX5_leastInduction 72 = .ok (.getfield 19, 3) := dec_at kDX5_leastInduction_0 41 rfl
theorem dX5_leastInduction_75 : decode cX5_leastInduction 75 = .ok (.iload_n 3, 1) := dec_at kDX5_leastInduction_0 42 rfl
theorem dX5_leastInduction_76 : decode cX5_leastInduction 76 = .ok (.laload, 1) := dec_at kDX5_leastInduction_0 43 rfl
theorem dX5_leastInduction_77 : decode cX5_leastInduction 77 = .ok (.lconst 0, 1) := dec_at kDX5_leastInduction_0 44 rfl
theorem dX5_leastInduction_78 : decode cX5_leastInduction 78 = .ok (.lcmp, 1) := dec_at kDX5_leastInduction_0 45 rfl
theorem dX5_leastInduction_79 : decode cX5_leastInduction 79 = .ok (.ifCond .eq 15, 3) := dec_at kDX5_leastInduction_0 46 rfl
theorem dX5_leastInduction_82 : decode cX5_leastInduction 82 = .ok (.iload_n 1, 1) := dec_at kDX5_leastInduction_0 47 rfl
theorem dX5_leastInduction_83 : decode cX5_leastInduction 83 = .ok (.ifCond .eq 13, 3) := dec_at kDX5_leastInduction_0 48 rfl
theorem dX5_leastInduction_86 : decode cX5_leastInduction 86 = .ok (.aload_n 0, 1) := dec_at kDX5_leastInduction_0 49 rfl
def DX5_leastInduction_50 : List (Nat × (Instr × Nat)) := [(87, (.iload_n 3, 1)), (88, (.invokevirtual 45, 3)), (91, (.ifCond .ne 5, 3)), (94, (.iload_n 3, 1)), (95, (.ireturn, 1)), (96, (.iinc 3 1, 3)), (99, (.goto (-89), 3)), (102, (.iconst (-1), 1)), (103, (.ireturn, 1))]
theorem kDX5_leastInduction_50 : DX5_leastInduction_50.all (fun q => decide (decode cX5_leastInduction q.1 = .ok q.2)) = true := by decide +kernel
theorem dX5_leastInduction_87 : decode cX5_leastInduction 87 = .ok (.iload_n 3, 1) := dec_at kDX5_leastInduction_50 0 rfl
theorem dX5_leastInduction_88 : decode cX5_leastInduction 88 = .ok (.invokevirtual 45, 3) := dec_at kDX5_leastInduction_50 1 rfl
theorem dX5_leastInduction_91 : decode cX5_leastInduction 91 = .ok (.ifCond .ne 5, 3) := dec_at kDX5_leastInduction_50 2 rfl
theorem dX5_leastInduction_94 : decode cX5_leastInduction 94 = .ok (.iload_n 3, 1) := dec_at kDX5_leastInduction_50 3 rfl
theorem dX5_leastInduction_95 : decode cX5_leastInduction 95 = .ok (.ireturn, 1) := dec_at kDX5_leastInduction_50 4 rfl
theorem dX5_leastInduction_96 : decode cX5_leastInduction 96 = .ok (.iinc 3 1, 3) := dec_at kDX5_leastInduction_50 5 rfl
theorem dX5_leastInduction_99 : decode cX5_leastInduction 99 = .ok (.goto (-89), 3) := dec_at kDX5_leastInduction_50 6 rfl
theorem dX5_leastInduction_102 : decode cX5_leastInduction 102 = .ok (.iconst (-1), 1) := dec_at kDX5_leastInduction_50 7 rfl
theorem dX5_leastInduction_103 : decode cX5_leastInduction 103 = .ok (.ireturn, 1) := dec_at kDX5_leastInduction_50 8 rfl
def DX5_hasSimpleSequence_0 : List (Nat × (Instr × Nat)) := [(0, (.iconst 0, 1)), (1, (.istore_n 2, 1)), (2, (.iload_n 2, 1)), (3, (.aload_n 0, 1)), (4, (.getfield 9, 3)), (7, (.getfield 49, 3)), (10, (.if_icmp .ge 35, 3)), (13, (.aload_n 0, 1)), (14, (.iload_n 1, 1)), (15, (.invokevirtual 52, 3)), (18, (.iload_n 2, 1)), (19, (.invokestatic 56, 3)), (22, (.ifCond .eq 17, 3)), (25, (.aload_n 0, 1)), (26, (.iload_n 2, 1)), (27, (.iload_n 1, 1)), (28, (.lconst 1, 1)), (29, (.iload_n 2, 1)), (30, (.lshl, 1)), (31, (.invokevirtual 60, 3)), (34, (.ifCond .eq 5, 3)), (37, (.iconst 1, 1)), (38, (.ireturn, 1)), (39, (.iinc 2 1, 3)), (42, (.goto (-40), 3)), (45, (.iconst 0, 1)), (46, (.ireturn, 1))]
theorem kDX5_hasSimpleSequence_0 : DX5_hasSimpleSequence_0.all (fun q => decide (decode cX5_hasSimpleSequence q.1 = .ok q.2)) = true := by decide +kernel
theorem dX5_hasSimpleSequence_0 : decode cX5_hasSimpleSequence 0 = .ok (.iconst 0, 1) := dec_at kDX5_hasSimpleSequence_0 0 rfl
theorem dX5_hasSimpleSequence_1 : decode cX5_hasSimpleSequence 1 = .ok (.istore_n 2, 1) := dec_at kDX5_hasSimpleSequence_0 1 rfl
theorem dX5_hasSimpleSequence_2 : decode cX5_hasSimpleSequence 2 = .ok (.iload_n 2, 1) := dec_at kDX5_hasSimpleSequence_0 2 rfl
theorem dX5_hasSimpleSequence_3 : decode cX5_hasSimpleSequence 3 = .ok (.aload_n 0, 1) := dec_at kDX5_hasSimpleSequence_0 3 rfl
theorem dX5_hasSimpleSequence_4 : decode cX5_hasSimpleSequence 4 = .ok (.getfield 9, 3) := dec_at kDX5_hasSimpleSequence_0 4 rfl
theorem dX5_hasSimpleSequence_7 : decode cX5_hasSimpleSequence 7 = .ok (.getfield 49, 3) := dec_at kDX5_hasSimpleSequence_0 5 rfl
theorem dX5_hasSimpleSequence_10 : decode cX5_hasSimpleSequence 10 = .ok (.if_icmp .ge 35, 3) := dec_at kDX5_hasSimpleSequence_0 6 rfl
theorem dX5_hasSimpleSequence_13 : decode cX5_hasSimpleSequence 13 = .ok (.aload_n 0, 1) := dec_at kDX5_hasSimpleSequence_0 7 rfl
theorem dX5_hasSimpleSequence_14 : decode cX5_hasSimpleSequence 14 = .ok (.iload_n 1, 1) := dec_at kDX5_hasSimpleSequence_0 8 rfl
theorem dX5_hasSimpleSequence_15 : decode cX5_hasSimpleSequence 15 = .ok (.invokevirtual 52, 3) := dec_at kDX5_hasSimpleSequence_0 9 rfl
theorem dX5_hasSimpleSequence_18 : decode cX5_hasSimpleSequence 18 = .ok (.iload_n 2, 1) := dec_at kDX5_hasSimpleSequence_0 10 rfl
theorem dX5_hasSimpleSequence_19 : decode cX5_hasSimpleSequence 19 = .ok (.invokestatic 56, 3) := dec_at kDX5_hasSimpleSequence_0 11 rfl
theorem dX5_hasSimpleSequence_22 : decode cX5_hasSimpleSequence 22 = .ok (.ifCond .eq 17, 3) := dec_at kDX5_hasSimpleSequence_0 12 rfl
theorem dX5_hasSimpleSequence_25 : decode cX5_hasSimpleSequence 25 = .ok (.aload_n 0, 1) := dec_at kDX5_hasSimpleSequence_0 13 rfl
theorem dX5_hasSimpleSequence_26 : decode cX5_hasSimpleSequence 26 = .ok (.iload_n 2, 1) := dec_at kDX5_hasSimpleSequence_0 14 rfl
theorem dX5_hasSimpleSequence_27 : decode cX5_hasSimpleSequence 27 = .ok (.iload_n 1, 1) := dec_at kDX5_hasSimpleSequence_0 15 rfl
theorem dX5_hasSimpleSequence_28 : decode cX5_hasSimpleSequence 28 = .ok (.lconst 1, 1) := dec_at kDX5_hasSimpleSequence_0 16 rfl
theorem dX5_hasSimpleSequence_29 : decode cX5_hasSimpleSequence 29 = .ok (.iload_n 2, 1) := dec_at kDX5_hasSimpleSequence_0 17 rfl
theorem dX5_hasSimpleSequence_30 : decode cX5_hasSimpleSequence 30 = .ok (.lshl, 1) := dec_at kDX5_hasSimpleSequence_0 18 rfl
theorem dX5_hasSimpleSequence_31 : decode cX5_hasSimpleSequence 31 = .ok (.invokevirtual 60, 3) := dec_at kDX5_hasSimpleSequence_0 19 rfl
theorem dX5_hasSimpleSequence_34 : decode cX5_hasSimpleSequence 34 = .ok (.ifCond .eq 5, 3) := dec_at kDX5_hasSimpleSequence_0 20 rfl
theorem dX5_hasSimpleSequence_37 : decode cX5_hasSimpleSequence 37 = .ok (.iconst 1, 1) := dec_at kDX5_hasSimpleSequence_0 21 rfl
theorem dX5_hasSimpleSequence_38 : decode cX5_hasSimpleSequence 38 = .ok (.ireturn, 1) := dec_at kDX5_hasSimpleSequence_0 22 rfl
theorem dX5_hasSimpleSequence_39 : decode cX5_hasSimpleSequence 39 = .ok (.iinc 2 1, 3) := dec_at kDX5_hasSimpleSequence_0 23 rfl
theorem dX5_hasSimpleSequence_42 : decode cX5_hasSimpleSequence 42 = .ok (.goto (-40), 3) := dec_at kDX5_hasSimpleSequence_0 24 rfl
theorem dX5_hasSimpleSequence_45 : decode cX5_hasSimpleSequence 45 = .ok (.iconst 0, 1) := dec_at kDX5_hasSimpleSequence_0 25 rfl
theorem dX5_hasSimpleSequence_46 : decode cX5_hasSimpleSequence 46 = .ok (.ireturn, 1) := dec_at kDX5_hasSimpleSequence_0 26 rfl
def DX5_goesOnSimply_0 : List (Nat × (Instr × Nat)) := [(0, (.iload_n 2, 1)), (1, (.iconst 1, 1)), (2, (.if_icmp .gt 5, 3)), (5, (.iconst 1, 1)), (6, (.ireturn, 1)), (7, (.aload_n 0, 1)), (8, (.iload_n 2, 1)), (9, (.iconst 1, 1)), (10, (.isub, 1)), (11, (.invokevirtual 52, 3)), (14, (.lload_n 3, 1)), (15, (.ldc2_w 64, 3)), (18, (.lxor, 1)), (19, (.land, 1)), (20, (.lstore 5, 2)), (22, (.iconst 0, 1)), (23, (.istore 7, 2)), (25, (.iload 7, 2)), (27, (.aload_n 0, 1)), (28, (.getfield 9, 3)), (31, (.getfield 66, 3)), (34, (.if_icmp .ge 64, 3)), (37, (.aload_n 0, 1)), (38, (.getfield 15, 3)), (41, (.iload_n 1, 1)), (42, (.iload 7, 2)), (44, (.invokevirtual 69, 3)), (47, (.istore 8, 2)), (49, (.lload 5, 2)), (51, (.iload 8, 2)), (53, (.invokestatic 56, 3)), (56, (.ifCond .eq 36, 3)), (59, (.lload 5, 2)), (61, (.lconst 1, 1)), (62, (.iload 8, 2)), (64, (.lshl, 1)), (65, (.ldc2_w 64, 3)), (68, (.lxor, 1)), (69, (.land, 1)), (70, (.lstore 5, 2)), (72, (.aload_n 0, 1)), (73, (.iload 8, 2)), (75, (.iload_n 2, 1)), (76, (.iconst 1, 1)), (77, (.isub, 1)), (78, (.lload_n 3, 1)), (79, (.lconst 1, 1)), (80, (.iload 8, 2)), (82, (.lshl, 1)), (83, (.lor, 1))]
theorem kDX5_goesOnSimply_0 : DX5_goesOnSimply_0.all (fun q => decide (decode cX5_goesOnSimply q.1 = .ok q.2)) = true := by decide +kernel
theorem dX5_goesOnSimply_0 : decode cX5_goesOnSimply 0 = .ok (.iload_n 2, 1) := dec_at kDX5_goesOnSimply_0 0 rfl
theorem dX5_goesOnSimply_1 : decode cX5_goesOnSimply 1 = .ok (.iconst 1, 1) := dec_at kDX5_goesOnSimply_0 1 rfl
theorem dX5_goesOnSimply_2 : decode cX5_goesOnSimply 2 = .ok (.if_icmp .gt 5, 3) := dec_at kDX5_goesOnSimply_0 2 rfl
theorem dX5_goesOnSimply_5 : decode cX5_goesOnSimply 5 = .ok (.iconst 1, 1) := dec_at kDX5_goesOnSimply_0 3 rfl
theorem dX5_goesOnSimply_6 : decode cX5_goesOnSimply 6 = .ok (.ireturn, 1) := dec_at kDX5_goesOnSimply_0 4 rfl
theorem dX5_goesOnSimply_7 : decode cX5_goesOnSimply 7 = .ok (.aload_n 0, 1) := dec_at kDX5_goesOnSimply_0 5 rfl
theorem dX5_goesOnSimply_8 : decode cX5_goesOnSimply 8 = .ok (.iload_n 2, 1) := dec_at kDX5_goesOnSimply_0 6 rfl
theorem dX5_goesOnSimply_9 : decode cX5_goesOnSimply 9 = .ok (.iconst 1, 1) := dec_at kDX5_goesOnSimply_0 7 rfl
theorem dX5_goesOnSimply_10 : decode cX5_goesOnSimply 10 = .ok (.isub, 1) := dec_at kDX5_goesOnSimply_0 8 rfl
theorem dX5_goesOnSimply_11 : decode cX5_goesOnSimply 11 = .ok (.invokevirtual 52, 3) := dec_at kDX5_goesOnSimply_0 9 rfl
theorem dX5_goesOnSimply_14 : decode cX5_goesOnSimply 14 = .ok (.lload_n 3, 1) := dec_at kDX5_goesOnSimply_0 10 rfl
theorem dX5_goesOnSimply_15 : decode cX5_goesOnSimply 15 = .ok (.ldc2_w 64, 3) := dec_at kDX5_goesOnSimply_0 11 rfl
theorem dX5_goesOnSimply_18 : decode cX5_goesOnSimply 18 = .ok (.lxor, 1) := dec_at kDX5_goesOnSimply_0 12 rfl
theorem dX5_goesOnSimply_19 : decode cX5_goesOnSimply 19 = .ok (.land, 1) := dec_at kDX5_goesOnSimply_0 13 rfl
theorem dX5_goesOnSimply_20 : decode cX5_goesOnSimply 20 = .ok (.lstore 5, 2) := dec_at kDX5_goesOnSimply_0 14 rfl
theorem dX5_goesOnSimply_22 : decode cX5_goesOnSimply 22 = .ok (.iconst 0, 1) := dec_at kDX5_goesOnSimply_0 15 rfl
theorem dX5_goesOnSimply_23 : decode cX5_goesOnSimply 23 = .ok (.istore 7, 2) := dec_at kDX5_goesOnSimply_0 16 rfl
theorem dX5_goesOnSimply_25 : decode cX5_goesOnSimply 25 = .ok (.iload 7, 2) := dec_at kDX5_goesOnSimply_0 17 rfl
theorem dX5_goesOnSimply_27 : decode cX5_goesOnSimply 27 = .ok (.aload_n 0, 1) := dec_at kDX5_goesOnSimply_0 18 rfl
theorem dX5_goesOnSimply_28 : decode cX5_goesOnSimply 28 = .ok (.getfield 9, 3) := dec_at kDX5_goesOnSimply_0 19 rfl
theorem dX5_goesOnSimply_31 : decode cX5_goesOnSimply 31 = .ok (.getfield 66, 3) := dec_at kDX5_goesOnSimply_0 20 rfl
theorem dX5_goesOnSimply_34 : decode cX5_goesOnSimply 34 = .ok (.if_icmp .ge 64, 3) := dec_at kDX5_goesOnSimply_0 21 rfl
theorem dX5_goesOnSimply_37 : decode cX5_goesOnSimply 37 = .ok (.aload_n 0, 1) := dec_at kDX5_goesOnSimply_0 22 rfl
theorem dX5_goesOnSimply_38 : decode cX5_goesOnSimply 38 = .ok (.getfield 15, 3) := dec_at kDX5_goesOnSimply_0 23 rfl
theorem dX5_goesOnSimply_41 : decode cX5_goesOnSimply 41 = .ok (.iload_n 1, 1) := dec_at kDX5_goesOnSimply_0 24 rfl
theorem dX5_goesOnSimply_42 : decode cX5_goesOnSimply 42 = .ok (.iload 7, 2) := dec_at kDX5_goesOnSimply_0 25 rfl
theorem dX5_goesOnSimply_44 : decode cX5_goesOnSimply 44 = .ok (.invokevirtual 69, 3) := dec_at kDX5_goesOnSimply_0 26 rfl
theorem dX5_goesOnSimply_47 : decode cX5_goesOnSimply 47 = .ok (.istore 8, 2) := dec_at kDX5_goesOnSimply_0 27 rfl
theorem dX5_goesOnSimply_49 : decode cX5_goesOnSimply 49 = .ok (.lload 5, 2) := dec_at kDX5_goesOnSimply_0 28 rfl
theorem dX5_goesOnSimply_51 : decode cX5_goesOnSimply 51 = .ok (.iload 8, 2) := dec_at kDX5_goesOnSimply_0 29 rfl
theorem dX5_goesOnSimply_53 : decode cX5_goesOnSimply 53 = .ok (.invokestatic 56, 3) := dec_at kDX5_goesOnSimply_0 30 rfl
theorem dX5_goesOnSimply_56 : decode cX5_goesOnSimply 56 = .ok (.ifCond .eq 36, 3) := dec_at kDX5_goesOnSimply_0 31 rfl
theorem dX5_goesOnSimply_59 : decode cX5_goesOnSimply 59 = .ok (.lload 5, 2) := dec_at kDX5_goesOnSimply_0 32 rfl
theorem dX5_goesOnSimply_61 : decode cX5_goesOnSimply 61 = .ok (.lconst 1, 1) := dec_at kDX5_goesOnSimply_0 33 rfl
theorem dX5_goesOnSimply_62 : decode cX5_goesOnSimply 62 = .ok (.iload 8, 2) := dec_at kDX5_goesOnSimply_0 34 rfl
theorem dX5_goesOnSimply_64 : decode cX5_goesOnSimply 64 = .ok (.lshl, 1) := dec_at kDX5_goesOnSimply_0 35 rfl
theorem dX5_goesOnSimply_65 : decode cX5_goesOnSimply 65 = .ok (.ldc2_w 64, 3) := dec_at kDX5_goesOnSimply_0 36 rfl
theorem dX5_goesOnSimply_68 : decode cX5_goesOnSimply 68 = .ok (.lxor, 1) := dec_at kDX5_goesOnSimply_0 37 rfl
theorem dX5_goesOnSimply_69 : decode cX5_goesOnSimply 69 = .ok (.land, 1) := dec_at kDX5_goesOnSimply_0 38 rfl
theorem dX5_goesOnSimply_70 : decode cX5_goesOnSimply 70 = .ok (.lstore 5, 2) := dec_at kDX5_goesOnSimply_0 39 rfl
theorem dX5_goesOnSimply_72 : decode cX5_goesOnSimply 72 = .ok (.aload_n 0, 1) := dec_at kDX5_goesOnSimply_0 40 rfl
theorem dX5_goesOnSimply_73 : decode cX5_goesOnSimply 73 = .ok (.iload 8, 2) := dec_at kDX5_goesOnSimply_0 41 rfl
theorem dX5_goesOnSimply_75 : decode cX5_goesOnSimply 75 = .ok (.iload_n 2, 1) := dec_at kDX5_goesOnSimply_0 42 rfl
theorem dX5_goesOnSimply_76 : decode cX5_goesOnSimply 76 = .ok (.iconst 1, 1) := dec_at kDX5_goesOnSimply_0 43 rfl
theorem dX5_goesOnSimply_77 : decode cX5_goesOnSimply 77 = .ok (.isub, 1) := dec_at kDX5_goesOnSimply_0 44 rfl
theorem dX5_goesOnSimply_78 : decode cX5_goesOnSimply 78 = .ok (.lload_n 3, 1) := dec_at kDX5_goesOnSimply_0 45 rfl
theorem dX5_goesOnSimply_79 : decode cX5_goesOnSimply 79 = .ok (.lconst 1, 1) := dec_at kDX5_goesOnSimply_0 46 rfl
theorem dX5_goesOnSimply_80 : decode cX5_goesOnSimply 80 = .ok (.iload 8, 2) := dec_at kDX5_goesOnSimply_0 47 rfl
theorem dX5_goesOnSimply_82 : decode cX5_goesOnSimply 82 = .ok (.lshl, 1) := dec_at kDX5_goesOnSimply_0 48 rfl
theorem dX5_goesOnSimply_83 : decode cX5_goesOnSimply 83 = .ok (.lor, 1) := dec_at kDX5_goesOnSimply_0 49 rfl
def DX5_goesOnSimply_50 : List (Nat × (Instr × Nat)) := [(84, (.invokevirtual 60, 3)), (87, (.ifCond .eq 5, 3)), (90, (.iconst 1, 1)), (91, (.ireturn, 1)), (92, (.iinc 7 1, 3)), (95, (.goto (-70), 3)), (98, (.iconst 0, 1)), (99, (.ireturn, 1))]
theorem kDX5_goesOnSimply_50 : DX5_goesOnSimply_50.all (fun q => decide (decode cX5_goesOnSimply q.1 = .ok q.2)) = true := by decide +kernel
theorem dX5_goesOnSimply_84 : decode cX5_goesOnSimply 84 = .ok (.invokevirtual 60, 3) := dec_at kDX5_goesOnSimply_50 0 rfl
theorem dX5_goesOnSimply_87 : decode cX5_goesOnSimply 87 = .ok (.ifCond .eq 5, 3) := dec_at kDX5_goesOnSimply_50 1 rfl
theorem dX5_goesOnSimply_90 : decode cX5_goesOnSimply 90 = .ok (.iconst 1, 1) := dec_at kDX5_goesOnSimply_50 2 rfl
theorem dX5_goesOnSimply_91 : decode cX5_goesOnSimply 91 = .ok (.ireturn, 1) := dec_at kDX5_goesOnSimply_50 3 rfl
theorem dX5_goesOnSimply_92 : decode cX5_goesOnSimply 92 = .ok (.iinc 7 1, 3) := dec_at kDX5_goesOnSimply_50 4 rfl
theorem dX5_goesOnSimply_95 : decode cX5_goesOnSimply 95 = .ok (.goto (-70), 3) := dec_at kDX5_goesOnSimply_50 5 rfl
theorem dX5_goesOnSimply_98 : decode cX5_goesOnSimply 98 = .ok (.iconst 0, 1) := dec_at kDX5_goesOnSimply_50 6 rfl
theorem dX5_goesOnSimply_99 : decode cX5_goesOnSimply 99 = .ok (.ireturn, 1) := dec_at kDX5_goesOnSimply_50 7 rfl
def DX5_startsAt_0 : List (Nat × (Instr × Nat)) := [(0, (.iload_n 1, 1)), (1, (.ifCond .lt 18, 3)), (4, (.iload_n 1, 1)), (5, (.bipush 6, 2)), (7, (.if_icmp .gt 12, 3)), (10, (.aload_n 0, 1)), (11, (.getfield 19, 3)), (14, (.iload_n 1, 1)), (15, (.laload, 1)), (16, (.goto 4, 3)), (19, (.lconst 0, 1)), (20, (.lreturn, 1))]
theorem kDX5_startsAt_0 : DX5_startsAt_0.all (fun q => decide (decode cX5_startsAt q.1 = .ok q.2)) = true := by decide +kernel
theorem dX5_startsAt_0 : decode cX5_startsAt 0 = .ok (.iload_n 1, 1) := dec_at kDX5_startsAt_0 0 rfl
theorem dX5_startsAt_1 : decode cX5_startsAt 1 = .ok (.ifCond .lt 18, 3) := dec_at kDX5_startsAt_0 1 rfl
theorem dX5_startsAt_4 : decode cX5_startsAt 4 = .ok (.iload_n 1, 1) := dec_at kDX5_startsAt_0 2 rfl
theorem dX5_startsAt_5 : decode cX5_startsAt 5 = .ok (.bipush 6, 2) := dec_at kDX5_startsAt_0 3 rfl
theorem dX5_startsAt_7 : decode cX5_startsAt 7 = .ok (.if_icmp .gt 12, 3) := dec_at kDX5_startsAt_0 4 rfl
theorem dX5_startsAt_10 : decode cX5_startsAt 10 = .ok (.aload_n 0, 1) := dec_at kDX5_startsAt_0 5 rfl
theorem dX5_startsAt_11 : decode cX5_startsAt 11 = .ok (.getfield 19, 3) := dec_at kDX5_startsAt_0 6 rfl
theorem dX5_startsAt_14 : decode cX5_startsAt 14 = .ok (.iload_n 1, 1) := dec_at kDX5_startsAt_0 7 rfl
theorem dX5_startsAt_15 : decode cX5_startsAt 15 = .ok (.laload, 1) := dec_at kDX5_startsAt_0 8 rfl
theorem dX5_startsAt_16 : decode cX5_startsAt 16 = .ok (.goto 4, 3) := dec_at kDX5_startsAt_0 9 rfl
theorem dX5_startsAt_19 : decode cX5_startsAt 19 = .ok (.lconst 0, 1) := dec_at kDX5_startsAt_0 10 rfl
theorem dX5_startsAt_20 : decode cX5_startsAt 20 = .ok (.lreturn, 1) := dec_at kDX5_startsAt_0 11 rfl
def DX5_eliminate_0 : List (Nat × (Instr × Nat)) := [(0, (.aload_n 0, 1)), (1, (.iload_n 1, 1)), (2, (.invokevirtual 73, 3)), (5, (.aload_n 0, 1)), (6, (.invokevirtual 77, 3)), (9, (.lstore_n 2, 1)), (10, (.iconst 0, 1)), (11, (.istore 4, 2)), (13, (.iload 4, 2)), (15, (.sipush 232, 3)), (18, (.if_icmp .gt 31, 3)), (21, (.aload_n 0, 1)), (22, (.aload_n 0, 1)), (23, (.getfield 15, 3)), (26, (.lload_n 2, 1)), (27, (.invokevirtual 80, 3)), (30, (.invokevirtual 83, 3)), (33, (.ifCond .ne 5, 3)), (36, (.lload_n 2, 1)), (37, (.lreturn, 1)), (38, (.aload_n 0, 1)), (39, (.invokevirtual 77, 3)), (42, (.lstore_n 2, 1)), (43, (.iinc 4 1, 3)), (46, (.goto (-33), 3)), (49, (.lload_n 2, 1)), (50, (.lreturn, 1))]
theorem kDX5_eliminate_0 : DX5_eliminate_0.all (fun q => decide (decode cX5_eliminate q.1 = .ok q.2)) = true := by decide +kernel
theorem dX5_eliminate_0 : decode cX5_eliminate 0 = .ok (.aload_n 0, 1) := dec_at kDX5_eliminate_0 0 rfl
theorem dX5_eliminate_1 : decode cX5_eliminate 1 = .ok (.iload_n 1, 1) := dec_at kDX5_eliminate_0 1 rfl
theorem dX5_eliminate_2 : decode cX5_eliminate 2 = .ok (.invokevirtual 73, 3) := dec_at kDX5_eliminate_0 2 rfl
theorem dX5_eliminate_5 : decode cX5_eliminate 5 = .ok (.aload_n 0, 1) := dec_at kDX5_eliminate_0 3 rfl
theorem dX5_eliminate_6 : decode cX5_eliminate 6 = .ok (.invokevirtual 77, 3) := dec_at kDX5_eliminate_0 4 rfl
theorem dX5_eliminate_9 : decode cX5_eliminate 9 = .ok (.lstore_n 2, 1) := dec_at kDX5_eliminate_0 5 rfl
theorem dX5_eliminate_10 : decode cX5_eliminate 10 = .ok (.iconst 0, 1) := dec_at kDX5_eliminate_0 6 rfl
theorem dX5_eliminate_11 : decode cX5_eliminate 11 = .ok (.istore 4, 2) := dec_at kDX5_eliminate_0 7 rfl
theorem dX5_eliminate_13 : decode cX5_eliminate 13 = .ok (.iload 4, 2) := dec_at kDX5_eliminate_0 8 rfl
theorem dX5_eliminate_15 : decode cX5_eliminate 15 = .ok (.sipush 232, 3) := dec_at kDX5_eliminate_0 9 rfl
theorem dX5_eliminate_18 : decode cX5_eliminate 18 = .ok (.if_icmp .gt 31, 3) := dec_at kDX5_eliminate_0 10 rfl
theorem dX5_eliminate_21 : decode cX5_eliminate 21 = .ok (.aload_n 0, 1) := dec_at kDX5_eliminate_0 11 rfl
theorem dX5_eliminate_22 : decode cX5_eliminate 22 = .ok (.aload_n 0, 1) := dec_at kDX5_eliminate_0 12 rfl
theorem dX5_eliminate_23 : decode cX5_eliminate 23 = .ok (.getfield 15, 3) := dec_at kDX5_eliminate_0 13 rfl
theorem dX5_eliminate_26 : decode cX5_eliminate 26 = .ok (.lload_n 2, 1) := dec_at kDX5_eliminate_0 14 rfl
theorem dX5_eliminate_27 : decode cX5_eliminate 27 = .ok (.invokevirtual 80, 3) := dec_at kDX5_eliminate_0 15 rfl
theorem dX5_eliminate_30 : decode cX5_eliminate 30 = .ok (.invokevirtual 83, 3) := dec_at kDX5_eliminate_0 16 rfl
theorem dX5_eliminate_33 : decode cX5_eliminate 33 = .ok (.ifCond .ne 5, 3) := dec_at kDX5_eliminate_0 17 rfl
theorem dX5_eliminate_36 : decode cX5_eliminate 36 = .ok (.lload_n 2, 1) := dec_at kDX5_eliminate_0 18 rfl
theorem dX5_eliminate_37 : decode cX5_eliminate 37 = .ok (.lreturn, 1) := dec_at kDX5_eliminate_0 19 rfl
theorem dX5_eliminate_38 : decode cX5_eliminate 38 = .ok (.aload_n 0, 1) := dec_at kDX5_eliminate_0 20 rfl
theorem dX5_eliminate_39 : decode cX5_eliminate 39 = .ok (.invokevirtual 77, 3) := dec_at kDX5_eliminate_0 21 rfl
theorem dX5_eliminate_42 : decode cX5_eliminate 42 = .ok (.lstore_n 2, 1) := dec_at kDX5_eliminate_0 22 rfl
theorem dX5_eliminate_43 : decode cX5_eliminate 43 = .ok (.iinc 4 1, 3) := dec_at kDX5_eliminate_0 23 rfl
theorem dX5_eliminate_46 : decode cX5_eliminate 46 = .ok (.goto (-33), 3) := dec_at kDX5_eliminate_0 24 rfl
theorem dX5_eliminate_49 : decode cX5_eliminate 49 = .ok (.lload_n 2, 1) := dec_at kDX5_eliminate_0 25 rfl
theorem dX5_eliminate_50 : decode cX5_eliminate 50 = .ok (.lreturn, 1) := dec_at kDX5_eliminate_0 26 rfl
def DX5_collectClauses_0 : List (Nat × (Instr × Nat)) := [(0, (.aload_n 0, 1)), (1, (.iconst 0, 1)), (2, (.putfield 87, 3)), (5, (.iconst 1, 1)), (6, (.istore_n 2, 1)), (7, (.iload_n 2, 1)), (8, (.aload_n 0, 1)), (9, (.getfield 9, 3)), (12, (.getfield 49, 3)), (15, (.if_icmp .ge 22, 3)), (18, (.iload_n 2, 1)), (19, (.invokestatic 90, 3)), (22, (.iload_n 1, 1)), (23, (.if_icmp .gt 8, 3)), (26, (.aload_n 0, 1)), (27, (.iload_n 2, 1)), (28, (.invokevirtual 96, 3)), (31, (.iinc 2 1, 3)), (34, (.goto (-27), 3)), (37, (.return_, 1))]
theorem kDX5_collectClauses_0 : DX5_collectClauses_0.all (fun q => decide (decode cX5_collectClauses q.1 = .ok q.2)) = true := by decide +kernel
theorem dX5_collectClauses_0 : decode cX5_collectClauses 0 = .ok (.aload_n 0, 1) := dec_at kDX5_collectClauses_0 0 rfl
theorem dX5_collectClauses_1 : decode cX5_collectClauses 1 = .ok (.iconst 0, 1) := dec_at kDX5_collectClauses_0 1 rfl
theorem dX5_collectClauses_2 : decode cX5_collectClauses 2 = .ok (.putfield 87, 3) := dec_at kDX5_collectClauses_0 2 rfl
theorem dX5_collectClauses_5 : decode cX5_collectClauses 5 = .ok (.iconst 1, 1) := dec_at kDX5_collectClauses_0 3 rfl
theorem dX5_collectClauses_6 : decode cX5_collectClauses 6 = .ok (.istore_n 2, 1) := dec_at kDX5_collectClauses_0 4 rfl
theorem dX5_collectClauses_7 : decode cX5_collectClauses 7 = .ok (.iload_n 2, 1) := dec_at kDX5_collectClauses_0 5 rfl
theorem dX5_collectClauses_8 : decode cX5_collectClauses 8 = .ok (.aload_n 0, 1) := dec_at kDX5_collectClauses_0 6 rfl
theorem dX5_collectClauses_9 : decode cX5_collectClauses 9 = .ok (.getfield 9, 3) := dec_at kDX5_collectClauses_0 7 rfl
theorem dX5_collectClauses_12 : decode cX5_collectClauses 12 = .ok (.getfield 49, 3) := dec_at kDX5_collectClauses_0 8 rfl
theorem dX5_collectClauses_15 : decode cX5_collectClauses 15 = .ok (.if_icmp .ge 22, 3) := dec_at kDX5_collectClauses_0 9 rfl
theorem dX5_collectClauses_18 : decode cX5_collectClauses 18 = .ok (.iload_n 2, 1) := dec_at kDX5_collectClauses_0 10 rfl
theorem dX5_collectClauses_19 : decode cX5_collectClauses 19 = .ok (.invokestatic 90, 3) := dec_at kDX5_collectClauses_0 11 rfl
theorem dX5_collectClauses_22 : decode cX5_collectClauses 22 = .ok (.iload_n 1, 1) := dec_at kDX5_collectClauses_0 12 rfl
theorem dX5_collectClauses_23 : decode cX5_collectClauses 23 = .ok (.if_icmp .gt 8, 3) := dec_at kDX5_collectClauses_0 13 rfl
theorem dX5_collectClauses_26 : decode cX5_collectClauses 26 = .ok (.aload_n 0, 1) := dec_at kDX5_collectClauses_0 14 rfl
theorem dX5_collectClauses_27 : decode cX5_collectClauses 27 = .ok (.iload_n 2, 1) := dec_at kDX5_collectClauses_0 15 rfl
theorem dX5_collectClauses_28 : decode cX5_collectClauses 28 = .ok (.invokevirtual 96, 3) := dec_at kDX5_collectClauses_0 16 rfl
theorem dX5_collectClauses_31 : decode cX5_collectClauses 31 = .ok (.iinc 2 1, 3) := dec_at kDX5_collectClauses_0 17 rfl
theorem dX5_collectClauses_34 : decode cX5_collectClauses 34 = .ok (.goto (-27), 3) := dec_at kDX5_collectClauses_0 18 rfl
theorem dX5_collectClauses_37 : decode cX5_collectClauses 37 = .ok (.return_, 1) := dec_at kDX5_collectClauses_0 19 rfl
def DX5_collectClausesOf_0 : List (Nat × (Instr × Nat)) := [(0, (.iconst 0, 1)), (1, (.istore_n 2, 1)), (2, (.iload_n 2, 1)), (3, (.iload_n 1, 1)), (4, (.if_icmp .gt 90, 3)), (7, (.aload_n 0, 1)), (8, (.getfield 9, 3)), (11, (.iload_n 1, 1)), (12, (.iload_n 2, 1)), (13, (.invokevirtual 99, 3)), (16, (.lstore_n 3, 1)), (17, (.iload_n 2, 1)), (18, (.iload_n 1, 1)), (19, (.iconst (-1), 1)), (20, (.ixor, 1)), (21, (.iand, 1)), (22, (.ifCond .ne 21, 3)), (25, (.lload_n 3, 1)), (26, (.aload_n 0, 1)), (27, (.getfield 9, 3)), (30, (.invokevirtual 103, 3)), (33, (.land, 1)), (34, (.lconst 0, 1)), (35, (.lcmp, 1)), (36, (.ifCond .ne 7, 3)), (39, (.iconst 1, 1)), (40, (.goto 4, 3)), (43, (.iconst 0, 1)), (44, (.istore 5, 2)), (46, (.iload 5, 2)), (48, (.ifCond .eq 40, 3)), (51, (.aload_n 0, 1)), (52, (.getfield 87, 3)), (55, (.ifCond .lt 33, 3)), (58, (.aload_n 0, 1)), (59, (.getfield 87, 3)), (62, (.sipush 232, 3)), (65, (.if_icmp .ge 23, 3)), (68, (.aload_n 0, 1)), (69, (.getfield 23, 3)), (72, (.aload_n 0, 1)), (73, (.getfield 87, 3)), (76, (.lload_n 3, 1)), (77, (.lastore, 1)), (78, (.aload_n 0, 1)), (79, (.dup, 1)), (80, (.getfield 87, 3)), (83, (.iconst 1, 1)), (84, (.iadd, 1)), (85, (.putfield 87, 3))]
theorem kDX5_collectClausesOf_0 : DX5_collectClausesOf_0.all (fun q => decide (decode cX5_collectClausesOf q.1 = .ok q.2)) = true := by decide +kernel
theorem dX5_collectClausesOf_0 : decode cX5_collectClausesOf 0 = .ok (.iconst 0, 1) := dec_at kDX5_collectClausesOf_0 0 rfl
theorem dX5_collectClausesOf_1 : decode cX5_collectClausesOf 1 = .ok (.istore_n 2, 1) := dec_at kDX5_collectClausesOf_0 1 rfl
theorem dX5_collectClausesOf_2 : decode cX5_collectClausesOf 2 = .ok (.iload_n 2, 1) := dec_at kDX5_collectClausesOf_0 2 rfl
theorem dX5_collectClausesOf_3 : decode cX5_collectClausesOf 3 = .ok (.iload_n 1, 1) := dec_at kDX5_collectClausesOf_0 3 rfl
theorem dX5_collectClausesOf_4 : decode cX5_collectClausesOf 4 = .ok (.if_icmp .gt 90, 3) := dec_at kDX5_collectClausesOf_0 4 rfl
theorem dX5_collectClausesOf_7 : decode cX5_collectClausesOf 7 = .ok (.aload_n 0, 1) := dec_at kDX5_collectClausesOf_0 5 rfl
theorem dX5_collectClausesOf_8 : decode cX5_collectClausesOf 8 = .ok (.getfield 9, 3) := dec_at kDX5_collectClausesOf_0 6 rfl
theorem dX5_collectClausesOf_11 : decode cX5_collectClausesOf 11 = .ok (.iload_n 1, 1) := dec_at kDX5_collectClausesOf_0 7 rfl
theorem dX5_collectClausesOf_12 : decode cX5_collectClausesOf 12 = .ok (.iload_n 2, 1) := dec_at kDX5_collectClausesOf_0 8 rfl
theorem dX5_collectClausesOf_13 : decode cX5_collectClausesOf 13 = .ok (.invokevirtual 99, 3) := dec_at kDX5_collectClausesOf_0 9 rfl
theorem dX5_collectClausesOf_16 : decode cX5_collectClausesOf 16 = .ok (.lstore_n 3, 1) := dec_at kDX5_collectClausesOf_0 10 rfl
theorem dX5_collectClausesOf_17 : decode cX5_collectClausesOf 17 = .ok (.iload_n 2, 1) := dec_at kDX5_collectClausesOf_0 11 rfl
theorem dX5_collectClausesOf_18 : decode cX5_collectClausesOf 18 = .ok (.iload_n 1, 1) := dec_at kDX5_collectClausesOf_0 12 rfl
theorem dX5_collectClausesOf_19 : decode cX5_collectClausesOf 19 = .ok (.iconst (-1), 1) := dec_at kDX5_collectClausesOf_0 13 rfl
theorem dX5_collectClausesOf_20 : decode cX5_collectClausesOf 20 = .ok (.ixor, 1) := dec_at kDX5_collectClausesOf_0 14 rfl
theorem dX5_collectClausesOf_21 : decode cX5_collectClausesOf 21 = .ok (.iand, 1) := dec_at kDX5_collectClausesOf_0 15 rfl
theorem dX5_collectClausesOf_22 : decode cX5_collectClausesOf 22 = .ok (.ifCond .ne 21, 3) := dec_at kDX5_collectClausesOf_0 16 rfl
theorem dX5_collectClausesOf_25 : decode cX5_collectClausesOf 25 = .ok (.lload_n 3, 1) := dec_at kDX5_collectClausesOf_0 17 rfl
theorem dX5_collectClausesOf_26 : decode cX5_collectClausesOf 26 = .ok (.aload_n 0, 1) := dec_at kDX5_collectClausesOf_0 18 rfl
theorem dX5_collectClausesOf_27 : decode cX5_collectClausesOf 27 = .ok (.getfield 9, 3) := dec_at kDX5_collectClausesOf_0 19 rfl
theorem dX5_collectClausesOf_30 : decode cX5_collectClausesOf 30 = .ok (.invokevirtual 103, 3) := dec_at kDX5_collectClausesOf_0 20 rfl
theorem dX5_collectClausesOf_33 : decode cX5_collectClausesOf 33 = .ok (.land, 1) := dec_at kDX5_collectClausesOf_0 21 rfl
theorem dX5_collectClausesOf_34 : decode cX5_collectClausesOf 34 = .ok (.lconst 0, 1) := dec_at kDX5_collectClausesOf_0 22 rfl
theorem dX5_collectClausesOf_35 : decode cX5_collectClausesOf 35 = .ok (.lcmp, 1) := dec_at kDX5_collectClausesOf_0 23 rfl
theorem dX5_collectClausesOf_36 : decode cX5_collectClausesOf 36 = .ok (.ifCond .ne 7, 3) := dec_at kDX5_collectClausesOf_0 24 rfl
theorem dX5_collectClausesOf_39 : decode cX5_collectClausesOf 39 = .ok (.iconst 1, 1) := dec_at kDX5_collectClausesOf_0 25 rfl
theorem dX5_collectClausesOf_40 : decode cX5_collectClausesOf 40 = .ok (.goto 4, 3) := dec_at kDX5_collectClausesOf_0 26 rfl
theorem dX5_collectClausesOf_43 : decode cX5_collectClausesOf 43 = .ok (.iconst 0, 1) := dec_at kDX5_collectClausesOf_0 27 rfl
theorem dX5_collectClausesOf_44 : decode cX5_collectClausesOf 44 = .ok (.istore 5, 2) := dec_at kDX5_collectClausesOf_0 28 rfl
theorem dX5_collectClausesOf_46 : decode cX5_collectClausesOf 46 = .ok (.iload 5, 2) := dec_at kDX5_collectClausesOf_0 29 rfl
theorem dX5_collectClausesOf_48 : decode cX5_collectClausesOf 48 = .ok (.ifCond .eq 40, 3) := dec_at kDX5_collectClausesOf_0 30 rfl
theorem dX5_collectClausesOf_51 : decode cX5_collectClausesOf 51 = .ok (.aload_n 0, 1) := dec_at kDX5_collectClausesOf_0 31 rfl
theorem dX5_collectClausesOf_52 : decode cX5_collectClausesOf 52 = .ok (.getfield 87, 3) := dec_at kDX5_collectClausesOf_0 32 rfl
theorem dX5_collectClausesOf_55 : decode cX5_collectClausesOf 55 = .ok (.ifCond .lt 33, 3) := dec_at kDX5_collectClausesOf_0 33 rfl
theorem dX5_collectClausesOf_58 : decode cX5_collectClausesOf 58 = .ok (.aload_n 0, 1) := dec_at kDX5_collectClausesOf_0 34 rfl
theorem dX5_collectClausesOf_59 : decode cX5_collectClausesOf 59 = .ok (.getfield 87, 3) := dec_at kDX5_collectClausesOf_0 35 rfl
theorem dX5_collectClausesOf_62 : decode cX5_collectClausesOf 62 = .ok (.sipush 232, 3) := dec_at kDX5_collectClausesOf_0 36 rfl
theorem dX5_collectClausesOf_65 : decode cX5_collectClausesOf 65 = .ok (.if_icmp .ge 23, 3) := dec_at kDX5_collectClausesOf_0 37 rfl
theorem dX5_collectClausesOf_68 : decode cX5_collectClausesOf 68 = .ok (.aload_n 0, 1) := dec_at kDX5_collectClausesOf_0 38 rfl
theorem dX5_collectClausesOf_69 : decode cX5_collectClausesOf 69 = .ok (.getfield 23, 3) := dec_at kDX5_collectClausesOf_0 39 rfl
theorem dX5_collectClausesOf_72 : decode cX5_collectClausesOf 72 = .ok (.aload_n 0, 1) := dec_at kDX5_collectClausesOf_0 40 rfl
theorem dX5_collectClausesOf_73 : decode cX5_collectClausesOf 73 = .ok (.getfield 87, 3) := dec_at kDX5_collectClausesOf_0 41 rfl
theorem dX5_collectClausesOf_76 : decode cX5_collectClausesOf 76 = .ok (.lload_n 3, 1) := dec_at kDX5_collectClausesOf_0 42 rfl
theorem dX5_collectClausesOf_77 : decode cX5_collectClausesOf 77 = .ok (.lastore, 1) := dec_at kDX5_collectClausesOf_0 43 rfl
theorem dX5_collectClausesOf_78 : decode cX5_collectClausesOf 78 = .ok (.aload_n 0, 1) := dec_at kDX5_collectClausesOf_0 44 rfl
theorem dX5_collectClausesOf_79 : decode cX5_collectClausesOf 79 = .ok (.dup, 1) := dec_at kDX5_collectClausesOf_0 45 rfl
theorem dX5_collectClausesOf_80 : decode cX5_collectClausesOf 80 = .ok (.getfield 87, 3) := dec_at kDX5_collectClausesOf_0 46 rfl
theorem dX5_collectClausesOf_83 : decode cX5_collectClausesOf 83 = .ok (.iconst 1, 1) := dec_at kDX5_collectClausesOf_0 47 rfl
theorem dX5_collectClausesOf_84 : decode cX5_collectClausesOf 84 = .ok (.iadd, 1) := dec_at kDX5_collectClausesOf_0 48 rfl
theorem dX5_collectClausesOf_85 : decode cX5_collectClausesOf 85 = .ok (.putfield 87, 3) := dec_at kDX5_collectClausesOf_0 49 rfl
def DX5_collectClausesOf_50 : List (Nat × (Instr × Nat)) := [(88, (.iinc 2 1, 3)), (91, (.goto (-89), 3)), (94, (.return_, 1))]
theorem kDX5_collectClausesOf_50 : DX5_collectClausesOf_50.all (fun q => decide (decode cX5_collectClausesOf q.1 = .ok q.2)) = true := by decide +kernel
theorem dX5_collectClausesOf_88 : decode cX5_collectClausesOf 88 = .ok (.iinc 2 1, 3) := dec_at kDX5_collectClausesOf_50 0 rfl
theorem dX5_collectClausesOf_91 : decode cX5_collectClausesOf 91 = .ok (.goto (-89), 3) := dec_at kDX5_collectClausesOf_50 1 rfl
theorem dX5_collectClausesOf_94 : decode cX5_collectClausesOf 94 = .ok (.return_, 1) := dec_at kDX5_collectClausesOf_50 2 rfl
def DX5_statesWithoutClause_0 : List (Nat × (Instr × Nat)) := [(0, (.lconst 0, 1)), (1, (.lstore_n 1, 1)), (2, (.iconst 0, 1)), (3, (.istore_n 3, 1)), (4, (.iload_n 3, 1)), (5, (.aload_n 0, 1)), (6, (.getfield 87, 3)), (9, (.if_icmp .ge 25, 3)), (12, (.iload_n 3, 1)), (13, (.sipush 232, 3)), (16, (.if_icmp .ge 18, 3)), (19, (.lload_n 1, 1)), (20, (.aload_n 0, 1)), (21, (.getfield 23, 3)), (24, (.iload_n 3, 1)), (25, (.laload, 1)), (26, (.lor, 1)), (27, (.lstore_n 1, 1)), (28, (.iinc 3 1, 3)), (31, (.goto (-27), 3)), (34, (.aload_n 0, 1)), (35, (.getfield 9, 3)), (38, (.getfield 106, 3)), (41, (.lload_n 1, 1)), (42, (.ldc2_w 64, 3)), (45, (.lxor, 1)), (46, (.land, 1)), (47, (.lreturn, 1))]
theorem kDX5_statesWithoutClause_0 : DX5_statesWithoutClause_0.all (fun q => decide (decode cX5_statesWithoutClause q.1 = .ok q.2)) = true := by decide +kernel
theorem dX5_statesWithoutClause_0 : decode cX5_statesWithoutClause 0 = .ok (.lconst 0, 1) := dec_at kDX5_statesWithoutClause_0 0 rfl
theorem dX5_statesWithoutClause_1 : decode cX5_statesWithoutClause 1 = .ok (.lstore_n 1, 1) := dec_at kDX5_statesWithoutClause_0 1 rfl
theorem dX5_statesWithoutClause_2 : decode cX5_statesWithoutClause 2 = .ok (.iconst 0, 1) := dec_at kDX5_statesWithoutClause_0 2 rfl
theorem dX5_statesWithoutClause_3 : decode cX5_statesWithoutClause 3 = .ok (.istore_n 3, 1) := dec_at kDX5_statesWithoutClause_0 3 rfl
theorem dX5_statesWithoutClause_4 : decode cX5_statesWithoutClause 4 = .ok (.iload_n 3, 1) := dec_at kDX5_statesWithoutClause_0 4 rfl
theorem dX5_statesWithoutClause_5 : decode cX5_statesWithoutClause 5 = .ok (.aload_n 0, 1) := dec_at kDX5_statesWithoutClause_0 5 rfl
theorem dX5_statesWithoutClause_6 : decode cX5_statesWithoutClause 6 = .ok (.getfield 87, 3) := dec_at kDX5_statesWithoutClause_0 6 rfl
theorem dX5_statesWithoutClause_9 : decode cX5_statesWithoutClause 9 = .ok (.if_icmp .ge 25, 3) := dec_at kDX5_statesWithoutClause_0 7 rfl
theorem dX5_statesWithoutClause_12 : decode cX5_statesWithoutClause 12 = .ok (.iload_n 3, 1) := dec_at kDX5_statesWithoutClause_0 8 rfl
theorem dX5_statesWithoutClause_13 : decode cX5_statesWithoutClause 13 = .ok (.sipush 232, 3) := dec_at kDX5_statesWithoutClause_0 9 rfl
theorem dX5_statesWithoutClause_16 : decode cX5_statesWithoutClause 16 = .ok (.if_icmp .ge 18, 3) := dec_at kDX5_statesWithoutClause_0 10 rfl
theorem dX5_statesWithoutClause_19 : decode cX5_statesWithoutClause 19 = .ok (.lload_n 1, 1) := dec_at kDX5_statesWithoutClause_0 11 rfl
theorem dX5_statesWithoutClause_20 : decode cX5_statesWithoutClause 20 = .ok (.aload_n 0, 1) := dec_at kDX5_statesWithoutClause_0 12 rfl
theorem dX5_statesWithoutClause_21 : decode cX5_statesWithoutClause 21 = .ok (.getfield 23, 3) := dec_at kDX5_statesWithoutClause_0 13 rfl
theorem dX5_statesWithoutClause_24 : decode cX5_statesWithoutClause 24 = .ok (.iload_n 3, 1) := dec_at kDX5_statesWithoutClause_0 14 rfl
theorem dX5_statesWithoutClause_25 : decode cX5_statesWithoutClause 25 = .ok (.laload, 1) := dec_at kDX5_statesWithoutClause_0 15 rfl
theorem dX5_statesWithoutClause_26 : decode cX5_statesWithoutClause 26 = .ok (.lor, 1) := dec_at kDX5_statesWithoutClause_0 16 rfl
theorem dX5_statesWithoutClause_27 : decode cX5_statesWithoutClause 27 = .ok (.lstore_n 1, 1) := dec_at kDX5_statesWithoutClause_0 17 rfl
theorem dX5_statesWithoutClause_28 : decode cX5_statesWithoutClause 28 = .ok (.iinc 3 1, 3) := dec_at kDX5_statesWithoutClause_0 18 rfl
theorem dX5_statesWithoutClause_31 : decode cX5_statesWithoutClause 31 = .ok (.goto (-27), 3) := dec_at kDX5_statesWithoutClause_0 19 rfl
theorem dX5_statesWithoutClause_34 : decode cX5_statesWithoutClause 34 = .ok (.aload_n 0, 1) := dec_at kDX5_statesWithoutClause_0 20 rfl
theorem dX5_statesWithoutClause_35 : decode cX5_statesWithoutClause 35 = .ok (.getfield 9, 3) := dec_at kDX5_statesWithoutClause_0 21 rfl
theorem dX5_statesWithoutClause_38 : decode cX5_statesWithoutClause 38 = .ok (.getfield 106, 3) := dec_at kDX5_statesWithoutClause_0 22 rfl
theorem dX5_statesWithoutClause_41 : decode cX5_statesWithoutClause 41 = .ok (.lload_n 1, 1) := dec_at kDX5_statesWithoutClause_0 23 rfl
theorem dX5_statesWithoutClause_42 : decode cX5_statesWithoutClause 42 = .ok (.ldc2_w 64, 3) := dec_at kDX5_statesWithoutClause_0 24 rfl
theorem dX5_statesWithoutClause_45 : decode cX5_statesWithoutClause 45 = .ok (.lxor, 1) := dec_at kDX5_statesWithoutClause_0 25 rfl
theorem dX5_statesWithoutClause_46 : decode cX5_statesWithoutClause 46 = .ok (.land, 1) := dec_at kDX5_statesWithoutClause_0 26 rfl
theorem dX5_statesWithoutClause_47 : decode cX5_statesWithoutClause 47 = .ok (.lreturn, 1) := dec_at kDX5_statesWithoutClause_0 27 rfl
def DX5_discardClauses_0 : List (Nat × (Instr × Nat)) := [(0, (.iconst 0, 1)), (1, (.istore_n 3, 1)), (2, (.iconst 0, 1)), (3, (.istore 4, 2)), (5, (.iload 4, 2)), (7, (.aload_n 0, 1)), (8, (.getfield 87, 3)), (11, (.if_icmp .ge 53, 3)), (14, (.iload 4, 2)), (16, (.sipush 232, 3)), (19, (.if_icmp .ge 45, 3)), (22, (.aload_n 0, 1)), (23, (.getfield 23, 3)), (26, (.iload 4, 2)), (28, (.laload, 1)), (29, (.lload_n 1, 1)), (30, (.land, 1)), (31, (.lconst 0, 1)), (32, (.lcmp, 1)), (33, (.ifCond .ne 25, 3)), (36, (.iload_n 3, 1)), (37, (.iload 4, 2)), (39, (.if_icmp .gt 19, 3)), (42, (.aload_n 0, 1)), (43, (.getfield 23, 3)), (46, (.iload_n 3, 1)), (47, (.aload_n 0, 1)), (48, (.getfield 23, 3)), (51, (.iload 4, 2)), (53, (.laload, 1)), (54, (.lastore, 1)), (55, (.iinc 3 1, 3)), (58, (.iinc 4 1, 3)), (61, (.goto (-56), 3)), (64, (.iload_n 3, 1)), (65, (.aload_n 0, 1)), (66, (.getfield 87, 3)), (69, (.if_icmp .ge 7, 3)), (72, (.iconst 1, 1)), (73, (.goto 4, 3)), (76, (.iconst 0, 1)), (77, (.istore 4, 2)), (79, (.aload_n 0, 1)), (80, (.iload_n 3, 1)), (81, (.putfield 87, 3)), (84, (.iload 4, 2)), (86, (.ireturn, 1))]
theorem kDX5_discardClauses_0 : DX5_discardClauses_0.all (fun q => decide (decode cX5_discardClauses q.1 = .ok q.2)) = true := by decide +kernel
theorem dX5_discardClauses_0 : decode cX5_discardClauses 0 = .ok (.iconst 0, 1) := dec_at kDX5_discardClauses_0 0 rfl
theorem dX5_discardClauses_1 : decode cX5_discardClauses 1 = .ok (.istore_n 3, 1) := dec_at kDX5_discardClauses_0 1 rfl
theorem dX5_discardClauses_2 : decode cX5_discardClauses 2 = .ok (.iconst 0, 1) := dec_at kDX5_discardClauses_0 2 rfl
theorem dX5_discardClauses_3 : decode cX5_discardClauses 3 = .ok (.istore 4, 2) := dec_at kDX5_discardClauses_0 3 rfl
theorem dX5_discardClauses_5 : decode cX5_discardClauses 5 = .ok (.iload 4, 2) := dec_at kDX5_discardClauses_0 4 rfl
theorem dX5_discardClauses_7 : decode cX5_discardClauses 7 = .ok (.aload_n 0, 1) := dec_at kDX5_discardClauses_0 5 rfl
theorem dX5_discardClauses_8 : decode cX5_discardClauses 8 = .ok (.getfield 87, 3) := dec_at kDX5_discardClauses_0 6 rfl
theorem dX5_discardClauses_11 : decode cX5_discardClauses 11 = .ok (.if_icmp .ge 53, 3) := dec_at kDX5_discardClauses_0 7 rfl
theorem dX5_discardClauses_14 : decode cX5_discardClauses 14 = .ok (.iload 4, 2) := dec_at kDX5_discardClauses_0 8 rfl
theorem dX5_discardClauses_16 : decode cX5_discardClauses 16 = .ok (.sipush 232, 3) := dec_at kDX5_discardClauses_0 9 rfl
theorem dX5_discardClauses_19 : decode cX5_discardClauses 19 = .ok (.if_icmp .ge 45, 3) := dec_at kDX5_discardClauses_0 10 rfl
theorem dX5_discardClauses_22 : decode cX5_discardClauses 22 = .ok (.aload_n 0, 1) := dec_at kDX5_discardClauses_0 11 rfl
theorem dX5_discardClauses_23 : decode cX5_discardClauses 23 = .ok (.getfield 23, 3) := dec_at kDX5_discardClauses_0 12 rfl
theorem dX5_discardClauses_26 : decode cX5_discardClauses 26 = .ok (.iload 4, 2) := dec_at kDX5_discardClauses_0 13 rfl
theorem dX5_discardClauses_28 : decode cX5_discardClauses 28 = .ok (.laload, 1) := dec_at kDX5_discardClauses_0 14 rfl
theorem dX5_discardClauses_29 : decode cX5_discardClauses 29 = .ok (.lload_n 1, 1) := dec_at kDX5_discardClauses_0 15 rfl
theorem dX5_discardClauses_30 : decode cX5_discardClauses 30 = .ok (.land, 1) := dec_at kDX5_discardClauses_0 16 rfl
theorem dX5_discardClauses_31 : decode cX5_discardClauses 31 = .ok (.lconst 0, 1) := dec_at kDX5_discardClauses_0 17 rfl
theorem dX5_discardClauses_32 : decode cX5_discardClauses 32 = .ok (.lcmp, 1) := dec_at kDX5_discardClauses_0 18 rfl
theorem dX5_discardClauses_33 : decode cX5_discardClauses 33 = .ok (.ifCond .ne 25, 3) := dec_at kDX5_discardClauses_0 19 rfl
theorem dX5_discardClauses_36 : decode cX5_discardClauses 36 = .ok (.iload_n 3, 1) := dec_at kDX5_discardClauses_0 20 rfl
theorem dX5_discardClauses_37 : decode cX5_discardClauses 37 = .ok (.iload 4, 2) := dec_at kDX5_discardClauses_0 21 rfl
theorem dX5_discardClauses_39 : decode cX5_discardClauses 39 = .ok (.if_icmp .gt 19, 3) := dec_at kDX5_discardClauses_0 22 rfl
theorem dX5_discardClauses_42 : decode cX5_discardClauses 42 = .ok (.aload_n 0, 1) := dec_at kDX5_discardClauses_0 23 rfl
theorem dX5_discardClauses_43 : decode cX5_discardClauses 43 = .ok (.getfield 23, 3) := dec_at kDX5_discardClauses_0 24 rfl
theorem dX5_discardClauses_46 : decode cX5_discardClauses 46 = .ok (.iload_n 3, 1) := dec_at kDX5_discardClauses_0 25 rfl
theorem dX5_discardClauses_47 : decode cX5_discardClauses 47 = .ok (.aload_n 0, 1) := dec_at kDX5_discardClauses_0 26 rfl
theorem dX5_discardClauses_48 : decode cX5_discardClauses 48 = .ok (.getfield 23, 3) := dec_at kDX5_discardClauses_0 27 rfl
theorem dX5_discardClauses_51 : decode cX5_discardClauses 51 = .ok (.iload 4, 2) := dec_at kDX5_discardClauses_0 28 rfl
theorem dX5_discardClauses_53 : decode cX5_discardClauses 53 = .ok (.laload, 1) := dec_at kDX5_discardClauses_0 29 rfl
theorem dX5_discardClauses_54 : decode cX5_discardClauses 54 = .ok (.lastore, 1) := dec_at kDX5_discardClauses_0 30 rfl
theorem dX5_discardClauses_55 : decode cX5_discardClauses 55 = .ok (.iinc 3 1, 3) := dec_at kDX5_discardClauses_0 31 rfl
theorem dX5_discardClauses_58 : decode cX5_discardClauses 58 = .ok (.iinc 4 1, 3) := dec_at kDX5_discardClauses_0 32 rfl
theorem dX5_discardClauses_61 : decode cX5_discardClauses 61 = .ok (.goto (-56), 3) := dec_at kDX5_discardClauses_0 33 rfl
theorem dX5_discardClauses_64 : decode cX5_discardClauses 64 = .ok (.iload_n 3, 1) := dec_at kDX5_discardClauses_0 34 rfl
theorem dX5_discardClauses_65 : decode cX5_discardClauses 65 = .ok (.aload_n 0, 1) := dec_at kDX5_discardClauses_0 35 rfl
theorem dX5_discardClauses_66 : decode cX5_discardClauses 66 = .ok (.getfield 87, 3) := dec_at kDX5_discardClauses_0 36 rfl
theorem dX5_discardClauses_69 : decode cX5_discardClauses 69 = .ok (.if_icmp .ge 7, 3) := dec_at kDX5_discardClauses_0 37 rfl
theorem dX5_discardClauses_72 : decode cX5_discardClauses 72 = .ok (.iconst 1, 1) := dec_at kDX5_discardClauses_0 38 rfl
theorem dX5_discardClauses_73 : decode cX5_discardClauses 73 = .ok (.goto 4, 3) := dec_at kDX5_discardClauses_0 39 rfl
theorem dX5_discardClauses_76 : decode cX5_discardClauses 76 = .ok (.iconst 0, 1) := dec_at kDX5_discardClauses_0 40 rfl
theorem dX5_discardClauses_77 : decode cX5_discardClauses 77 = .ok (.istore 4, 2) := dec_at kDX5_discardClauses_0 41 rfl
theorem dX5_discardClauses_79 : decode cX5_discardClauses 79 = .ok (.aload_n 0, 1) := dec_at kDX5_discardClauses_0 42 rfl
theorem dX5_discardClauses_80 : decode cX5_discardClauses 80 = .ok (.iload_n 3, 1) := dec_at kDX5_discardClauses_0 43 rfl
theorem dX5_discardClauses_81 : decode cX5_discardClauses 81 = .ok (.putfield 87, 3) := dec_at kDX5_discardClauses_0 44 rfl
theorem dX5_discardClauses_84 : decode cX5_discardClauses 84 = .ok (.iload 4, 2) := dec_at kDX5_discardClauses_0 45 rfl
theorem dX5_discardClauses_86 : decode cX5_discardClauses 86 = .ok (.ireturn, 1) := dec_at kDX5_discardClauses_0 46 rfl
def DX5_staysGood_0 : List (Nat × (Instr × Nat)) := [(0, (.aload_n 0, 1)), (1, (.getfield 9, 3)), (4, (.invokevirtual 103, 3)), (7, (.lstore_n 2, 1)), (8, (.lload_n 2, 1)), (9, (.lstore 4, 2)), (11, (.iconst 0, 1)), (12, (.istore 6, 2)), (14, (.iload 6, 2)), (16, (.bipush 64, 2)), (18, (.if_icmp .gt 60, 3)), (21, (.lload 4, 2)), (23, (.lconst 0, 1)), (24, (.lcmp, 1)), (25, (.ifCond .eq 53, 3)), (28, (.lload 4, 2)), (30, (.aload_n 0, 1)), (31, (.getfield 9, 3)), (34, (.invokevirtual 32, 3)), (37, (.land, 1)), (38, (.lconst 0, 1)), (39, (.lcmp, 1)), (40, (.ifCond .eq 5, 3)), (43, (.iconst 0, 1)), (44, (.ireturn, 1)), (45, (.aload_n 0, 1)), (46, (.aload_n 0, 1)), (47, (.getfield 15, 3)), (50, (.lload 4, 2)), (52, (.invokevirtual 80, 3)), (55, (.iload_n 1, 1)), (56, (.invokevirtual 110, 3)), (59, (.lload_n 2, 1)), (60, (.ldc2_w 64, 3)), (63, (.lxor, 1)), (64, (.land, 1)), (65, (.lstore 4, 2)), (67, (.lload_n 2, 1)), (68, (.lload 4, 2)), (70, (.lor, 1)), (71, (.lstore_n 2, 1)), (72, (.iinc 6 1, 3)), (75, (.goto (-61), 3)), (78, (.iconst 1, 1)), (79, (.ireturn, 1))]
theorem kDX5_staysGood_0 : DX5_staysGood_0.all (fun q => decide (decode cX5_staysGood q.1 = .ok q.2)) = true := by decide +kernel
theorem dX5_staysGood_0 : decode cX5_staysGood 0 = .ok (.aload_n 0, 1) := dec_at kDX5_staysGood_0 0 rfl
theorem dX5_staysGood_1 : decode cX5_staysGood 1 = .ok (.getfield 9, 3) := dec_at kDX5_staysGood_0 1 rfl
theorem dX5_staysGood_4 : decode cX5_staysGood 4 = .ok (.invokevirtual 103, 3) := dec_at kDX5_staysGood_0 2 rfl
theorem dX5_staysGood_7 : decode cX5_staysGood 7 = .ok (.lstore_n 2, 1) := dec_at kDX5_staysGood_0 3 rfl
theorem dX5_staysGood_8 : decode cX5_staysGood 8 = .ok (.lload_n 2, 1) := dec_at kDX5_staysGood_0 4 rfl
theorem dX5_staysGood_9 : decode cX5_staysGood 9 = .ok (.lstore 4, 2) := dec_at kDX5_staysGood_0 5 rfl
theorem dX5_staysGood_11 : decode cX5_staysGood 11 = .ok (.iconst 0, 1) := dec_at kDX5_staysGood_0 6 rfl
theorem dX5_staysGood_12 : decode cX5_staysGood 12 = .ok (.istore 6, 2) := dec_at kDX5_staysGood_0 7 rfl
theorem dX5_staysGood_14 : decode cX5_staysGood 14 = .ok (.iload 6, 2) := dec_at kDX5_staysGood_0 8 rfl
theorem dX5_staysGood_16 : decode cX5_staysGood 16 = .ok (.bipush 64, 2) := dec_at kDX5_staysGood_0 9 rfl
theorem dX5_staysGood_18 : decode cX5_staysGood 18 = .ok (.if_icmp .gt 60, 3) := dec_at kDX5_staysGood_0 10 rfl
theorem dX5_staysGood_21 : decode cX5_staysGood 21 = .ok (.lload 4, 2) := dec_at kDX5_staysGood_0 11 rfl
theorem dX5_staysGood_23 : decode cX5_staysGood 23 = .ok (.lconst 0, 1) := dec_at kDX5_staysGood_0 12 rfl
theorem dX5_staysGood_24 : decode cX5_staysGood 24 = .ok (.lcmp, 1) := dec_at kDX5_staysGood_0 13 rfl
theorem dX5_staysGood_25 : decode cX5_staysGood 25 = .ok (.ifCond .eq 53, 3) := dec_at kDX5_staysGood_0 14 rfl
theorem dX5_staysGood_28 : decode cX5_staysGood 28 = .ok (.lload 4, 2) := dec_at kDX5_staysGood_0 15 rfl
theorem dX5_staysGood_30 : decode cX5_staysGood 30 = .ok (.aload_n 0, 1) := dec_at kDX5_staysGood_0 16 rfl
theorem dX5_staysGood_31 : decode cX5_staysGood 31 = .ok (.getfield 9, 3) := dec_at kDX5_staysGood_0 17 rfl
theorem dX5_staysGood_34 : decode cX5_staysGood 34 = .ok (.invokevirtual 32, 3) := dec_at kDX5_staysGood_0 18 rfl
theorem dX5_staysGood_37 : decode cX5_staysGood 37 = .ok (.land, 1) := dec_at kDX5_staysGood_0 19 rfl
theorem dX5_staysGood_38 : decode cX5_staysGood 38 = .ok (.lconst 0, 1) := dec_at kDX5_staysGood_0 20 rfl
theorem dX5_staysGood_39 : decode cX5_staysGood 39 = .ok (.lcmp, 1) := dec_at kDX5_staysGood_0 21 rfl
theorem dX5_staysGood_40 : decode cX5_staysGood 40 = .ok (.ifCond .eq 5, 3) := dec_at kDX5_staysGood_0 22 rfl
theorem dX5_staysGood_43 : decode cX5_staysGood 43 = .ok (.iconst 0, 1) := dec_at kDX5_staysGood_0 23 rfl
theorem dX5_staysGood_44 : decode cX5_staysGood 44 = .ok (.ireturn, 1) := dec_at kDX5_staysGood_0 24 rfl
theorem dX5_staysGood_45 : decode cX5_staysGood 45 = .ok (.aload_n 0, 1) := dec_at kDX5_staysGood_0 25 rfl
theorem dX5_staysGood_46 : decode cX5_staysGood 46 = .ok (.aload_n 0, 1) := dec_at kDX5_staysGood_0 26 rfl
theorem dX5_staysGood_47 : decode cX5_staysGood 47 = .ok (.getfield 15, 3) := dec_at kDX5_staysGood_0 27 rfl
theorem dX5_staysGood_50 : decode cX5_staysGood 50 = .ok (.lload 4, 2) := dec_at kDX5_staysGood_0 28 rfl
theorem dX5_staysGood_52 : decode cX5_staysGood 52 = .ok (.invokevirtual 80, 3) := dec_at kDX5_staysGood_0 29 rfl
theorem dX5_staysGood_55 : decode cX5_staysGood 55 = .ok (.iload_n 1, 1) := dec_at kDX5_staysGood_0 30 rfl
theorem dX5_staysGood_56 : decode cX5_staysGood 56 = .ok (.invokevirtual 110, 3) := dec_at kDX5_staysGood_0 31 rfl
theorem dX5_staysGood_59 : decode cX5_staysGood 59 = .ok (.lload_n 2, 1) := dec_at kDX5_staysGood_0 32 rfl
theorem dX5_staysGood_60 : decode cX5_staysGood 60 = .ok (.ldc2_w 64, 3) := dec_at kDX5_staysGood_0 33 rfl
theorem dX5_staysGood_63 : decode cX5_staysGood 63 = .ok (.lxor, 1) := dec_at kDX5_staysGood_0 34 rfl
theorem dX5_staysGood_64 : decode cX5_staysGood 64 = .ok (.land, 1) := dec_at kDX5_staysGood_0 35 rfl
theorem dX5_staysGood_65 : decode cX5_staysGood 65 = .ok (.lstore 4, 2) := dec_at kDX5_staysGood_0 36 rfl
theorem dX5_staysGood_67 : decode cX5_staysGood 67 = .ok (.lload_n 2, 1) := dec_at kDX5_staysGood_0 37 rfl
theorem dX5_staysGood_68 : decode cX5_staysGood 68 = .ok (.lload 4, 2) := dec_at kDX5_staysGood_0 38 rfl
theorem dX5_staysGood_70 : decode cX5_staysGood 70 = .ok (.lor, 1) := dec_at kDX5_staysGood_0 39 rfl
theorem dX5_staysGood_71 : decode cX5_staysGood 71 = .ok (.lstore_n 2, 1) := dec_at kDX5_staysGood_0 40 rfl
theorem dX5_staysGood_72 : decode cX5_staysGood 72 = .ok (.iinc 6 1, 3) := dec_at kDX5_staysGood_0 41 rfl
theorem dX5_staysGood_75 : decode cX5_staysGood 75 = .ok (.goto (-61), 3) := dec_at kDX5_staysGood_0 42 rfl
theorem dX5_staysGood_78 : decode cX5_staysGood 78 = .ok (.iconst 1, 1) := dec_at kDX5_staysGood_0 43 rfl
theorem dX5_staysGood_79 : decode cX5_staysGood 79 = .ok (.ireturn, 1) := dec_at kDX5_staysGood_0 44 rfl
def DX5_withFreeBits_0 : List (Nat × (Instr × Nat)) := [(0, (.lload_n 1, 1)), (1, (.lstore 4, 2)), (3, (.iconst 0, 1)), (4, (.istore 6, 2)), (6, (.iload 6, 2)), (8, (.aload_n 0, 1)), (9, (.getfield 9, 3)), (12, (.getfield 114, 3)), (15, (.if_icmp .ge 73, 3)), (18, (.iload 6, 2)), (20, (.bipush 6, 2)), (22, (.if_icmp .ge 66, 3)), (25, (.iload_n 3, 1)), (26, (.iload 6, 2)), (28, (.ishr, 1)), (29, (.iconst 1, 1)), (30, (.iand, 1)), (31, (.ifCond .eq 51, 3)), (34, (.iconst 1, 1)), (35, (.iload 6, 2)), (37, (.ishl, 1)), (38, (.istore 7, 2)), (40, (.lload 4, 2)), (42, (.getstatic 117, 3)), (45, (.iload 6, 2)), (47, (.laload, 1)), (48, (.land, 1)), (49, (.lstore 8, 2)), (51, (.lload 4, 2)), (53, (.getstatic 117, 3)), (56, (.iload 6, 2)), (58, (.laload, 1)), (59, (.ldc2_w 64, 3)), (62, (.lxor, 1)), (63, (.land, 1)), (64, (.lstore 10, 2)), (66, (.lload 4, 2)), (68, (.lload 8, 2)), (70, (.iload 7, 2)), (72, (.lushr, 1)), (73, (.lload 10, 2)), (75, (.iload 7, 2)), (77, (.lshl, 1)), (78, (.lor, 1)), (79, (.lor, 1)), (80, (.lstore 4, 2)), (82, (.iinc 6 1, 3)), (85, (.goto (-79), 3)), (88, (.lload 4, 2)), (90, (.lreturn, 1))]
theorem kDX5_withFreeBits_0 : DX5_withFreeBits_0.all (fun q => decide (decode cX5_withFreeBits q.1 = .ok q.2)) = true := by decide +kernel
theorem dX5_withFreeBits_0 : decode cX5_withFreeBits 0 = .ok (.lload_n 1, 1) := dec_at kDX5_withFreeBits_0 0 rfl
theorem dX5_withFreeBits_1 : decode cX5_withFreeBits 1 = .ok (.lstore 4, 2) := dec_at kDX5_withFreeBits_0 1 rfl
theorem dX5_withFreeBits_3 : decode cX5_withFreeBits 3 = .ok (.iconst 0, 1) := dec_at kDX5_withFreeBits_0 2 rfl
theorem dX5_withFreeBits_4 : decode cX5_withFreeBits 4 = .ok (.istore 6, 2) := dec_at kDX5_withFreeBits_0 3 rfl
theorem dX5_withFreeBits_6 : decode cX5_withFreeBits 6 = .ok (.iload 6, 2) := dec_at kDX5_withFreeBits_0 4 rfl
theorem dX5_withFreeBits_8 : decode cX5_withFreeBits 8 = .ok (.aload_n 0, 1) := dec_at kDX5_withFreeBits_0 5 rfl
theorem dX5_withFreeBits_9 : decode cX5_withFreeBits 9 = .ok (.getfield 9, 3) := dec_at kDX5_withFreeBits_0 6 rfl
theorem dX5_withFreeBits_12 : decode cX5_withFreeBits 12 = .ok (.getfield 114, 3) := dec_at kDX5_withFreeBits_0 7 rfl
theorem dX5_withFreeBits_15 : decode cX5_withFreeBits 15 = .ok (.if_icmp .ge 73, 3) := dec_at kDX5_withFreeBits_0 8 rfl
theorem dX5_withFreeBits_18 : decode cX5_withFreeBits 18 = .ok (.iload 6, 2) := dec_at kDX5_withFreeBits_0 9 rfl
theorem dX5_withFreeBits_20 : decode cX5_withFreeBits 20 = .ok (.bipush 6, 2) := dec_at kDX5_withFreeBits_0 10 rfl
theorem dX5_withFreeBits_22 : decode cX5_withFreeBits 22 = .ok (.if_icmp .ge 66, 3) := dec_at kDX5_withFreeBits_0 11 rfl
theorem dX5_withFreeBits_25 : decode cX5_withFreeBits 25 = .ok (.iload_n 3, 1) := dec_at kDX5_withFreeBits_0 12 rfl
theorem dX5_withFreeBits_26 : decode cX5_withFreeBits 26 = .ok (.iload 6, 2) := dec_at kDX5_withFreeBits_0 13 rfl
theorem dX5_withFreeBits_28 : decode cX5_withFreeBits 28 = .ok (.ishr, 1) := dec_at kDX5_withFreeBits_0 14 rfl
theorem dX5_withFreeBits_29 : decode cX5_withFreeBits 29 = .ok (.iconst 1, 1) := dec_at kDX5_withFreeBits_0 15 rfl
theorem dX5_withFreeBits_30 : decode cX5_withFreeBits 30 = .ok (.iand, 1) := dec_at kDX5_withFreeBits_0 16 rfl
theorem dX5_withFreeBits_31 : decode cX5_withFreeBits 31 = .ok (.ifCond .eq 51, 3) := dec_at kDX5_withFreeBits_0 17 rfl
theorem dX5_withFreeBits_34 : decode cX5_withFreeBits 34 = .ok (.iconst 1, 1) := dec_at kDX5_withFreeBits_0 18 rfl
theorem dX5_withFreeBits_35 : decode cX5_withFreeBits 35 = .ok (.iload 6, 2) := dec_at kDX5_withFreeBits_0 19 rfl
theorem dX5_withFreeBits_37 : decode cX5_withFreeBits 37 = .ok (.ishl, 1) := dec_at kDX5_withFreeBits_0 20 rfl
theorem dX5_withFreeBits_38 : decode cX5_withFreeBits 38 = .ok (.istore 7, 2) := dec_at kDX5_withFreeBits_0 21 rfl
theorem dX5_withFreeBits_40 : decode cX5_withFreeBits 40 = .ok (.lload 4, 2) := dec_at kDX5_withFreeBits_0 22 rfl
theorem dX5_withFreeBits_42 : decode cX5_withFreeBits 42 = .ok (.getstatic 117, 3) := dec_at kDX5_withFreeBits_0 23 rfl
theorem dX5_withFreeBits_45 : decode cX5_withFreeBits 45 = .ok (.iload 6, 2) := dec_at kDX5_withFreeBits_0 24 rfl
theorem dX5_withFreeBits_47 : decode cX5_withFreeBits 47 = .ok (.laload, 1) := dec_at kDX5_withFreeBits_0 25 rfl
theorem dX5_withFreeBits_48 : decode cX5_withFreeBits 48 = .ok (.land, 1) := dec_at kDX5_withFreeBits_0 26 rfl
theorem dX5_withFreeBits_49 : decode cX5_withFreeBits 49 = .ok (.lstore 8, 2) := dec_at kDX5_withFreeBits_0 27 rfl
theorem dX5_withFreeBits_51 : decode cX5_withFreeBits 51 = .ok (.lload 4, 2) := dec_at kDX5_withFreeBits_0 28 rfl
theorem dX5_withFreeBits_53 : decode cX5_withFreeBits 53 = .ok (.getstatic 117, 3) := dec_at kDX5_withFreeBits_0 29 rfl
theorem dX5_withFreeBits_56 : decode cX5_withFreeBits 56 = .ok (.iload 6, 2) := dec_at kDX5_withFreeBits_0 30 rfl
theorem dX5_withFreeBits_58 : decode cX5_withFreeBits 58 = .ok (.laload, 1) := dec_at kDX5_withFreeBits_0 31 rfl
theorem dX5_withFreeBits_59 : decode cX5_withFreeBits 59 = .ok (.ldc2_w 64, 3) := dec_at kDX5_withFreeBits_0 32 rfl
theorem dX5_withFreeBits_62 : decode cX5_withFreeBits 62 = .ok (.lxor, 1) := dec_at kDX5_withFreeBits_0 33 rfl
theorem dX5_withFreeBits_63 : decode cX5_withFreeBits 63 = .ok (.land, 1) := dec_at kDX5_withFreeBits_0 34 rfl
theorem dX5_withFreeBits_64 : decode cX5_withFreeBits 64 = .ok (.lstore 10, 2) := dec_at kDX5_withFreeBits_0 35 rfl
theorem dX5_withFreeBits_66 : decode cX5_withFreeBits 66 = .ok (.lload 4, 2) := dec_at kDX5_withFreeBits_0 36 rfl
theorem dX5_withFreeBits_68 : decode cX5_withFreeBits 68 = .ok (.lload 8, 2) := dec_at kDX5_withFreeBits_0 37 rfl
theorem dX5_withFreeBits_70 : decode cX5_withFreeBits 70 = .ok (.iload 7, 2) := dec_at kDX5_withFreeBits_0 38 rfl
theorem dX5_withFreeBits_72 : decode cX5_withFreeBits 72 = .ok (.lushr, 1) := dec_at kDX5_withFreeBits_0 39 rfl
theorem dX5_withFreeBits_73 : decode cX5_withFreeBits 73 = .ok (.lload 10, 2) := dec_at kDX5_withFreeBits_0 40 rfl
theorem dX5_withFreeBits_75 : decode cX5_withFreeBits 75 = .ok (.iload 7, 2) := dec_at kDX5_withFreeBits_0 41 rfl
theorem dX5_withFreeBits_77 : decode cX5_withFreeBits 77 = .ok (.lshl, 1) := dec_at kDX5_withFreeBits_0 42 rfl
theorem dX5_withFreeBits_78 : decode cX5_withFreeBits 78 = .ok (.lor, 1) := dec_at kDX5_withFreeBits_0 43 rfl
theorem dX5_withFreeBits_79 : decode cX5_withFreeBits 79 = .ok (.lor, 1) := dec_at kDX5_withFreeBits_0 44 rfl
theorem dX5_withFreeBits_80 : decode cX5_withFreeBits 80 = .ok (.lstore 4, 2) := dec_at kDX5_withFreeBits_0 45 rfl
theorem dX5_withFreeBits_82 : decode cX5_withFreeBits 82 = .ok (.iinc 6 1, 3) := dec_at kDX5_withFreeBits_0 46 rfl
theorem dX5_withFreeBits_85 : decode cX5_withFreeBits 85 = .ok (.goto (-79), 3) := dec_at kDX5_withFreeBits_0 47 rfl
theorem dX5_withFreeBits_88 : decode cX5_withFreeBits 88 = .ok (.lload 4, 2) := dec_at kDX5_withFreeBits_0 48 rfl
theorem dX5_withFreeBits_90 : decode cX5_withFreeBits 90 = .ok (.lreturn, 1) := dec_at kDX5_withFreeBits_0 49 rfl
def DX5_smallestCone_0 : List (Nat × (Instr × Nat)) := [(0, (.aload_n 0, 1)), (1, (.getfield 9, 3)), (4, (.getfield 49, 3)), (7, (.iconst 1, 1)), (8, (.isub, 1)), (9, (.istore_n 1, 1)), (10, (.aload_n 0, 1)), (11, (.iconst 0, 1)), (12, (.invokevirtual 120, 3)), (15, (.ifCond .ne 5, 3)), (18, (.iconst (-1), 1)), (19, (.ireturn, 1)), (20, (.iconst 0, 1)), (21, (.istore_n 2, 1)), (22, (.iload_n 2, 1)), (23, (.aload_n 0, 1)), (24, (.getfield 9, 3)), (27, (.getfield 114, 3)), (30, (.if_icmp .ge 50, 3)), (33, (.iconst 0, 1)), (34, (.istore_n 3, 1)), (35, (.iload_n 3, 1)), (36, (.aload_n 0, 1)), (37, (.getfield 9, 3)), (40, (.getfield 49, 3)), (43, (.if_icmp .ge 31, 3)), (46, (.iload_n 3, 1)), (47, (.invokestatic 90, 3)), (50, (.iload_n 2, 1)), (51, (.if_icmp .ne 17, 3)), (54, (.aload_n 0, 1)), (55, (.iload_n 1, 1)), (56, (.iload_n 3, 1)), (57, (.iconst (-1), 1)), (58, (.ixor, 1)), (59, (.iand, 1)), (60, (.invokevirtual 120, 3)), (63, (.ifCond .eq 5, 3)), (66, (.iload_n 3, 1)), (67, (.ireturn, 1)), (68, (.iinc 3 1, 3)), (71, (.goto (-36), 3)), (74, (.iinc 2 1, 3)), (77, (.goto (-55), 3)), (80, (.iload_n 1, 1)), (81, (.ireturn, 1))]
theorem kDX5_smallestCone_0 : DX5_smallestCone_0.all (fun q => decide (decode cX5_smallestCone q.1 = .ok q.2)) = true := by decide +kernel
theorem dX5_smallestCone_0 : decode cX5_smallestCone 0 = .ok (.aload_n 0, 1) := dec_at kDX5_smallestCone_0 0 rfl
theorem dX5_smallestCone_1 : decode cX5_smallestCone 1 = .ok (.getfield 9, 3) := dec_at kDX5_smallestCone_0 1 rfl
theorem dX5_smallestCone_4 : decode cX5_smallestCone 4 = .ok (.getfield 49, 3) := dec_at kDX5_smallestCone_0 2 rfl
theorem dX5_smallestCone_7 : decode cX5_smallestCone 7 = .ok (.iconst 1, 1) := dec_at kDX5_smallestCone_0 3 rfl
theorem dX5_smallestCone_8 : decode cX5_smallestCone 8 = .ok (.isub, 1) := dec_at kDX5_smallestCone_0 4 rfl
theorem dX5_smallestCone_9 : decode cX5_smallestCone 9 = .ok (.istore_n 1, 1) := dec_at kDX5_smallestCone_0 5 rfl
theorem dX5_smallestCone_10 : decode cX5_smallestCone 10 = .ok (.aload_n 0, 1) := dec_at kDX5_smallestCone_0 6 rfl
theorem dX5_smallestCone_11 : decode cX5_smallestCone 11 = .ok (.iconst 0, 1) := dec_at kDX5_smallestCone_0 7 rfl
theorem dX5_smallestCone_12 : decode cX5_smallestCone 12 = .ok (.invokevirtual 120, 3) := dec_at kDX5_smallestCone_0 8 rfl
theorem dX5_smallestCone_15 : decode cX5_smallestCone 15 = .ok (.ifCond .ne 5, 3) := dec_at kDX5_smallestCone_0 9 rfl
theorem dX5_smallestCone_18 : decode cX5_smallestCone 18 = .ok (.iconst (-1), 1) := dec_at kDX5_smallestCone_0 10 rfl
theorem dX5_smallestCone_19 : decode cX5_smallestCone 19 = .ok (.ireturn, 1) := dec_at kDX5_smallestCone_0 11 rfl
theorem dX5_smallestCone_20 : decode cX5_smallestCone 20 = .ok (.iconst 0, 1) := dec_at kDX5_smallestCone_0 12 rfl
theorem dX5_smallestCone_21 : decode cX5_smallestCone 21 = .ok (.istore_n 2, 1) := dec_at kDX5_smallestCone_0 13 rfl
theorem dX5_smallestCone_22 : decode cX5_smallestCone 22 = .ok (.iload_n 2, 1) := dec_at kDX5_smallestCone_0 14 rfl
theorem dX5_smallestCone_23 : decode cX5_smallestCone 23 = .ok (.aload_n 0, 1) := dec_at kDX5_smallestCone_0 15 rfl
theorem dX5_smallestCone_24 : decode cX5_smallestCone 24 = .ok (.getfield 9, 3) := dec_at kDX5_smallestCone_0 16 rfl
theorem dX5_smallestCone_27 : decode cX5_smallestCone 27 = .ok (.getfield 114, 3) := dec_at kDX5_smallestCone_0 17 rfl
theorem dX5_smallestCone_30 : decode cX5_smallestCone 30 = .ok (.if_icmp .ge 50, 3) := dec_at kDX5_smallestCone_0 18 rfl
theorem dX5_smallestCone_33 : decode cX5_smallestCone 33 = .ok (.iconst 0, 1) := dec_at kDX5_smallestCone_0 19 rfl
theorem dX5_smallestCone_34 : decode cX5_smallestCone 34 = .ok (.istore_n 3, 1) := dec_at kDX5_smallestCone_0 20 rfl
theorem dX5_smallestCone_35 : decode cX5_smallestCone 35 = .ok (.iload_n 3, 1) := dec_at kDX5_smallestCone_0 21 rfl
theorem dX5_smallestCone_36 : decode cX5_smallestCone 36 = .ok (.aload_n 0, 1) := dec_at kDX5_smallestCone_0 22 rfl
theorem dX5_smallestCone_37 : decode cX5_smallestCone 37 = .ok (.getfield 9, 3) := dec_at kDX5_smallestCone_0 23 rfl
theorem dX5_smallestCone_40 : decode cX5_smallestCone 40 = .ok (.getfield 49, 3) := dec_at kDX5_smallestCone_0 24 rfl
theorem dX5_smallestCone_43 : decode cX5_smallestCone 43 = .ok (.if_icmp .ge 31, 3) := dec_at kDX5_smallestCone_0 25 rfl
theorem dX5_smallestCone_46 : decode cX5_smallestCone 46 = .ok (.iload_n 3, 1) := dec_at kDX5_smallestCone_0 26 rfl
theorem dX5_smallestCone_47 : decode cX5_smallestCone 47 = .ok (.invokestatic 90, 3) := dec_at kDX5_smallestCone_0 27 rfl
theorem dX5_smallestCone_50 : decode cX5_smallestCone 50 = .ok (.iload_n 2, 1) := dec_at kDX5_smallestCone_0 28 rfl
theorem dX5_smallestCone_51 : decode cX5_smallestCone 51 = .ok (.if_icmp .ne 17, 3) := dec_at kDX5_smallestCone_0 29 rfl
theorem dX5_smallestCone_54 : decode cX5_smallestCone 54 = .ok (.aload_n 0, 1) := dec_at kDX5_smallestCone_0 30 rfl
theorem dX5_smallestCone_55 : decode cX5_smallestCone 55 = .ok (.iload_n 1, 1) := dec_at kDX5_smallestCone_0 31 rfl
theorem dX5_smallestCone_56 : decode cX5_smallestCone 56 = .ok (.iload_n 3, 1) := dec_at kDX5_smallestCone_0 32 rfl
theorem dX5_smallestCone_57 : decode cX5_smallestCone 57 = .ok (.iconst (-1), 1) := dec_at kDX5_smallestCone_0 33 rfl
theorem dX5_smallestCone_58 : decode cX5_smallestCone 58 = .ok (.ixor, 1) := dec_at kDX5_smallestCone_0 34 rfl
theorem dX5_smallestCone_59 : decode cX5_smallestCone 59 = .ok (.iand, 1) := dec_at kDX5_smallestCone_0 35 rfl
theorem dX5_smallestCone_60 : decode cX5_smallestCone 60 = .ok (.invokevirtual 120, 3) := dec_at kDX5_smallestCone_0 36 rfl
theorem dX5_smallestCone_63 : decode cX5_smallestCone 63 = .ok (.ifCond .eq 5, 3) := dec_at kDX5_smallestCone_0 37 rfl
theorem dX5_smallestCone_66 : decode cX5_smallestCone 66 = .ok (.iload_n 3, 1) := dec_at kDX5_smallestCone_0 38 rfl
theorem dX5_smallestCone_67 : decode cX5_smallestCone 67 = .ok (.ireturn, 1) := dec_at kDX5_smallestCone_0 39 rfl
theorem dX5_smallestCone_68 : decode cX5_smallestCone 68 = .ok (.iinc 3 1, 3) := dec_at kDX5_smallestCone_0 40 rfl
theorem dX5_smallestCone_71 : decode cX5_smallestCone 71 = .ok (.goto (-36), 3) := dec_at kDX5_smallestCone_0 41 rfl
theorem dX5_smallestCone_74 : decode cX5_smallestCone 74 = .ok (.iinc 2 1, 3) := dec_at kDX5_smallestCone_0 42 rfl
theorem dX5_smallestCone_77 : decode cX5_smallestCone 77 = .ok (.goto (-55), 3) := dec_at kDX5_smallestCone_0 43 rfl
theorem dX5_smallestCone_80 : decode cX5_smallestCone 80 = .ok (.iload_n 1, 1) := dec_at kDX5_smallestCone_0 44 rfl
theorem dX5_smallestCone_81 : decode cX5_smallestCone 81 = .ok (.ireturn, 1) := dec_at kDX5_smallestCone_0 45 rfl
def DX5_simulateFrom_0 : List (Nat × (Instr × Nat)) := [(0, (.iload_n 1, 1)), (1, (.istore 5, 2)), (3, (.lconst 1, 1)), (4, (.iload 5, 2)), (6, (.lshl, 1)), (7, (.lstore 6, 2)), (9, (.aload_n 0, 1)), (10, (.getfield 9, 3)), (13, (.invokevirtual 32, 3)), (16, (.iload 5, 2)), (18, (.invokestatic 56, 3)), (21, (.ifCond .eq 7, 3)), (24, (.iconst 0, 1)), (25, (.goto 4, 3)), (28, (.iconst (-1), 1)), (29, (.istore 8, 2)), (31, (.iload_n 3, 1)), (32, (.i2l, 1)), (33, (.lstore 9, 2)), (35, (.iconst 1, 1)), (36, (.istore 11, 2)), (38, (.iload 11, 2)), (40, (.iload_n 2, 1)), (41, (.if_icmp .gt 86, 3)), (44, (.ldc2_w 123, 3)), (47, (.lload 9, 2)), (49, (.lmul, 1)), (50, (.ldc2_w 125, 3)), (53, (.ladd, 1)), (54, (.ldc2_w 127, 3)), (57, (.land, 1)), (58, (.lstore 9, 2)), (60, (.aload_n 0, 1)), (61, (.getfield 9, 3)), (64, (.iload 5, 2)), (66, (.lload 9, 2)), (68, (.bipush 16, 2)), (70, (.lushr, 1)), (71, (.l2i, 1)), (72, (.aload_n 0, 1)), (73, (.getfield 9, 3)), (76, (.getfield 66, 3)), (79, (.iconst 1, 1)), (80, (.isub, 1)), (81, (.iand, 1)), (82, (.invokevirtual 129, 3)), (85, (.istore 5, 2)), (87, (.lload 6, 2)), (89, (.lconst 1, 1)), (90, (.iload 5, 2))]
theorem kDX5_simulateFrom_0 : DX5_simulateFrom_0.all (fun q => decide (decode cX5_simulateFrom q.1 = .ok q.2)) = true := by decide +kernel
theorem dX5_simulateFrom_0 : decode cX5_simulateFrom 0 = .ok (.iload_n 1, 1) := dec_at kDX5_simulateFrom_0 0 rfl
theorem dX5_simulateFrom_1 : decode cX5_simulateFrom 1 = .ok (.istore 5, 2) := dec_at kDX5_simulateFrom_0 1 rfl
theorem dX5_simulateFrom_3 : decode cX5_simulateFrom 3 = .ok (.lconst 1, 1) := dec_at kDX5_simulateFrom_0 2 rfl
theorem dX5_simulateFrom_4 : decode cX5_simulateFrom 4 = .ok (.iload 5, 2) := dec_at kDX5_simulateFrom_0 3 rfl
theorem dX5_simulateFrom_6 : decode cX5_simulateFrom 6 = .ok (.lshl, 1) := dec_at kDX5_simulateFrom_0 4 rfl
theorem dX5_simulateFrom_7 : decode cX5_simulateFrom 7 = .ok (.lstore 6, 2) := dec_at kDX5_simulateFrom_0 5 rfl
theorem dX5_simulateFrom_9 : decode cX5_simulateFrom 9 = .ok (.aload_n 0, 1) := dec_at kDX5_simulateFrom_0 6 rfl
theorem dX5_simulateFrom_10 : decode cX5_simulateFrom 10 = .ok (.getfield 9, 3) := dec_at kDX5_simulateFrom_0 7 rfl
theorem dX5_simulateFrom_13 : decode cX5_simulateFrom 13 = .ok (.invokevirtual 32, 3) := dec_at kDX5_simulateFrom_0 8 rfl
theorem dX5_simulateFrom_16 : decode cX5_simulateFrom 16 = .ok (.iload 5, 2) := dec_at kDX5_simulateFrom_0 9 rfl
theorem dX5_simulateFrom_18 : decode cX5_simulateFrom 18 = .ok (.invokestatic 56, 3) := dec_at kDX5_simulateFrom_0 10 rfl
theorem dX5_simulateFrom_21 : decode cX5_simulateFrom 21 = .ok (.ifCond .eq 7, 3) := dec_at kDX5_simulateFrom_0 11 rfl
theorem dX5_simulateFrom_24 : decode cX5_simulateFrom 24 = .ok (.iconst 0, 1) := dec_at kDX5_simulateFrom_0 12 rfl
theorem dX5_simulateFrom_25 : decode cX5_simulateFrom 25 = .ok (.goto 4, 3) := dec_at kDX5_simulateFrom_0 13 rfl
theorem dX5_simulateFrom_28 : decode cX5_simulateFrom 28 = .ok (.iconst (-1), 1) := dec_at kDX5_simulateFrom_0 14 rfl
theorem dX5_simulateFrom_29 : decode cX5_simulateFrom 29 = .ok (.istore 8, 2) := dec_at kDX5_simulateFrom_0 15 rfl
theorem dX5_simulateFrom_31 : decode cX5_simulateFrom 31 = .ok (.iload_n 3, 1) := dec_at kDX5_simulateFrom_0 16 rfl
theorem dX5_simulateFrom_32 : decode cX5_simulateFrom 32 = .ok (.i2l, 1) := dec_at kDX5_simulateFrom_0 17 rfl
theorem dX5_simulateFrom_33 : decode cX5_simulateFrom 33 = .ok (.lstore 9, 2) := dec_at kDX5_simulateFrom_0 18 rfl
theorem dX5_simulateFrom_35 : decode cX5_simulateFrom 35 = .ok (.iconst 1, 1) := dec_at kDX5_simulateFrom_0 19 rfl
theorem dX5_simulateFrom_36 : decode cX5_simulateFrom 36 = .ok (.istore 11, 2) := dec_at kDX5_simulateFrom_0 20 rfl
theorem dX5_simulateFrom_38 : decode cX5_simulateFrom 38 = .ok (.iload 11, 2) := dec_at kDX5_simulateFrom_0 21 rfl
theorem dX5_simulateFrom_40 : decode cX5_simulateFrom 40 = .ok (.iload_n 2, 1) := dec_at kDX5_simulateFrom_0 22 rfl
theorem dX5_simulateFrom_41 : decode cX5_simulateFrom 41 = .ok (.if_icmp .gt 86, 3) := dec_at kDX5_simulateFrom_0 23 rfl
theorem dX5_simulateFrom_44 : decode cX5_simulateFrom 44 = .ok (.ldc2_w 123, 3) := dec_at kDX5_simulateFrom_0 24 rfl
theorem dX5_simulateFrom_47 : decode cX5_simulateFrom 47 = .ok (.lload 9, 2) := dec_at kDX5_simulateFrom_0 25 rfl
theorem dX5_simulateFrom_49 : decode cX5_simulateFrom 49 = .ok (.lmul, 1) := dec_at kDX5_simulateFrom_0 26 rfl
theorem dX5_simulateFrom_50 : decode cX5_simulateFrom 50 = .ok (.ldc2_w 125, 3) := dec_at kDX5_simulateFrom_0 27 rfl
theorem dX5_simulateFrom_53 : decode cX5_simulateFrom 53 = .ok (.ladd, 1) := dec_at kDX5_simulateFrom_0 28 rfl
theorem dX5_simulateFrom_54 : decode cX5_simulateFrom 54 = .ok (.ldc2_w 127, 3) := dec_at kDX5_simulateFrom_0 29 rfl
theorem dX5_simulateFrom_57 : decode cX5_simulateFrom 57 = .ok (.land, 1) := dec_at kDX5_simulateFrom_0 30 rfl
theorem dX5_simulateFrom_58 : decode cX5_simulateFrom 58 = .ok (.lstore 9, 2) := dec_at kDX5_simulateFrom_0 31 rfl
theorem dX5_simulateFrom_60 : decode cX5_simulateFrom 60 = .ok (.aload_n 0, 1) := dec_at kDX5_simulateFrom_0 32 rfl
theorem dX5_simulateFrom_61 : decode cX5_simulateFrom 61 = .ok (.getfield 9, 3) := dec_at kDX5_simulateFrom_0 33 rfl
theorem dX5_simulateFrom_64 : decode cX5_simulateFrom 64 = .ok (.iload 5, 2) := dec_at kDX5_simulateFrom_0 34 rfl
theorem dX5_simulateFrom_66 : decode cX5_simulateFrom 66 = .ok (.lload 9, 2) := dec_at kDX5_simulateFrom_0 35 rfl
theorem dX5_simulateFrom_68 : decode cX5_simulateFrom 68 = .ok (.bipush 16, 2) := dec_at kDX5_simulateFrom_0 36 rfl
theorem dX5_simulateFrom_70 : decode cX5_simulateFrom 70 = .ok (.lushr, 1) := dec_at kDX5_simulateFrom_0 37 rfl
theorem dX5_simulateFrom_71 : decode cX5_simulateFrom 71 = .ok (.l2i, 1) := dec_at kDX5_simulateFrom_0 38 rfl
theorem dX5_simulateFrom_72 : decode cX5_simulateFrom 72 = .ok (.aload_n 0, 1) := dec_at kDX5_simulateFrom_0 39 rfl
theorem dX5_simulateFrom_73 : decode cX5_simulateFrom 73 = .ok (.getfield 9, 3) := dec_at kDX5_simulateFrom_0 40 rfl
theorem dX5_simulateFrom_76 : decode cX5_simulateFrom 76 = .ok (.getfield 66, 3) := dec_at kDX5_simulateFrom_0 41 rfl
theorem dX5_simulateFrom_79 : decode cX5_simulateFrom 79 = .ok (.iconst 1, 1) := dec_at kDX5_simulateFrom_0 42 rfl
theorem dX5_simulateFrom_80 : decode cX5_simulateFrom 80 = .ok (.isub, 1) := dec_at kDX5_simulateFrom_0 43 rfl
theorem dX5_simulateFrom_81 : decode cX5_simulateFrom 81 = .ok (.iand, 1) := dec_at kDX5_simulateFrom_0 44 rfl
theorem dX5_simulateFrom_82 : decode cX5_simulateFrom 82 = .ok (.invokevirtual 129, 3) := dec_at kDX5_simulateFrom_0 45 rfl
theorem dX5_simulateFrom_85 : decode cX5_simulateFrom 85 = .ok (.istore 5, 2) := dec_at kDX5_simulateFrom_0 46 rfl
theorem dX5_simulateFrom_87 : decode cX5_simulateFrom 87 = .ok (.lload 6, 2) := dec_at kDX5_simulateFrom_0 47 rfl
theorem dX5_simulateFrom_89 : decode cX5_simulateFrom 89 = .ok (.lconst 1, 1) := dec_at kDX5_simulateFrom_0 48 rfl
theorem dX5_simulateFrom_90 : decode cX5_simulateFrom 90 = .ok (.iload 5, 2) := dec_at kDX5_simulateFrom_0 49 rfl
def DX5_simulateFrom_50 : List (Nat × (Instr × Nat)) := [(92, (.lshl, 1)), (93, (.lor, 1)), (94, (.lstore 6, 2)), (96, (.iload 8, 2)), (98, (.iconst (-1), 1)), (99, (.if_icmp .ne 22, 3)), (102, (.aload_n 0, 1)), (103, (.getfield 9, 3)), (106, (.invokevirtual 32, 3)), (109, (.iload 5, 2)), (111, (.invokestatic 56, 3)), (114, (.ifCond .eq 7, 3)), (117, (.iload 11, 2)), (119, (.istore 8, 2)), (121, (.iinc 11 1, 3)), (124, (.goto (-86), 3)), (127, (.iload 4, 2)), (129, (.ifCond .ne 6, 3)), (132, (.iload 5, 2)), (134, (.ireturn, 1)), (135, (.iload 4, 2)), (137, (.iconst 1, 1)), (138, (.if_icmp .ne 11, 3)), (141, (.lload 6, 2)), (143, (.invokestatic 132, 3)), (146, (.goto 5, 3)), (149, (.iload 8, 2)), (151, (.ireturn, 1))]
theorem kDX5_simulateFrom_50 : DX5_simulateFrom_50.all (fun q => decide (decode cX5_simulateFrom q.1 = .ok q.2)) = true := by decide +kernel
theorem dX5_simulateFrom_92 : decode cX5_simulateFrom 92 = .ok (.lshl, 1) := dec_at kDX5_simulateFrom_50 0 rfl
theorem dX5_simulateFrom_93 : decode cX5_simulateFrom 93 = .ok (.lor, 1) := dec_at kDX5_simulateFrom_50 1 rfl
theorem dX5_simulateFrom_94 : decode cX5_simulateFrom 94 = .ok (.lstore 6, 2) := dec_at kDX5_simulateFrom_50 2 rfl
theorem dX5_simulateFrom_96 : decode cX5_simulateFrom 96 = .ok (.iload 8, 2) := dec_at kDX5_simulateFrom_50 3 rfl
theorem dX5_simulateFrom_98 : decode cX5_simulateFrom 98 = .ok (.iconst (-1), 1) := dec_at kDX5_simulateFrom_50 4 rfl
theorem dX5_simulateFrom_99 : decode cX5_simulateFrom 99 = .ok (.if_icmp .ne 22, 3) := dec_at kDX5_simulateFrom_50 5 rfl
theorem dX5_simulateFrom_102 : decode cX5_simulateFrom 102 = .ok (.aload_n 0, 1) := dec_at kDX5_simulateFrom_50 6 rfl
theorem dX5_simulateFrom_103 : decode cX5_simulateFrom 103 = .ok (.getfield 9, 3) := dec_at kDX5_simulateFrom_50 7 rfl
theorem dX5_simulateFrom_106 : decode cX5_simulateFrom 106 = .ok (.invokevirtual 32, 3) := dec_at kDX5_simulateFrom_50 8 rfl
theorem dX5_simulateFrom_109 : decode cX5_simulateFrom 109 = .ok (.iload 5, 2) := dec_at kDX5_simulateFrom_50 9 rfl
theorem dX5_simulateFrom_111 : decode cX5_simulateFrom 111 = .ok (.invokestatic 56, 3) := dec_at kDX5_simulateFrom_50 10 rfl
theorem dX5_simulateFrom_114 : decode cX5_simulateFrom 114 = .ok (.ifCond .eq 7, 3) := dec_at kDX5_simulateFrom_50 11 rfl
theorem dX5_simulateFrom_117 : decode cX5_simulateFrom 117 = .ok (.iload 11, 2) := dec_at kDX5_simulateFrom_50 12 rfl
theorem dX5_simulateFrom_119 : decode cX5_simulateFrom 119 = .ok (.istore 8, 2) := dec_at kDX5_simulateFrom_50 13 rfl
theorem dX5_simulateFrom_121 : decode cX5_simulateFrom 121 = .ok (.iinc 11 1, 3) := dec_at kDX5_simulateFrom_50 14 rfl
theorem dX5_simulateFrom_124 : decode cX5_simulateFrom 124 = .ok (.goto (-86), 3) := dec_at kDX5_simulateFrom_50 15 rfl
theorem dX5_simulateFrom_127 : decode cX5_simulateFrom 127 = .ok (.iload 4, 2) := dec_at kDX5_simulateFrom_50 16 rfl
theorem dX5_simulateFrom_129 : decode cX5_simulateFrom 129 = .ok (.ifCond .ne 6, 3) := dec_at kDX5_simulateFrom_50 17 rfl
theorem dX5_simulateFrom_132 : decode cX5_simulateFrom 132 = .ok (.iload 5, 2) := dec_at kDX5_simulateFrom_50 18 rfl
theorem dX5_simulateFrom_134 : decode cX5_simulateFrom 134 = .ok (.ireturn, 1) := dec_at kDX5_simulateFrom_50 19 rfl
theorem dX5_simulateFrom_135 : decode cX5_simulateFrom 135 = .ok (.iload 4, 2) := dec_at kDX5_simulateFrom_50 20 rfl
theorem dX5_simulateFrom_137 : decode cX5_simulateFrom 137 = .ok (.iconst 1, 1) := dec_at kDX5_simulateFrom_50 21 rfl
theorem dX5_simulateFrom_138 : decode cX5_simulateFrom 138 = .ok (.if_icmp .ne 11, 3) := dec_at kDX5_simulateFrom_50 22 rfl
theorem dX5_simulateFrom_141 : decode cX5_simulateFrom 141 = .ok (.lload 6, 2) := dec_at kDX5_simulateFrom_50 23 rfl
theorem dX5_simulateFrom_143 : decode cX5_simulateFrom 143 = .ok (.invokestatic 132, 3) := dec_at kDX5_simulateFrom_50 24 rfl
theorem dX5_simulateFrom_146 : decode cX5_simulateFrom 146 = .ok (.goto 5, 3) := dec_at kDX5_simulateFrom_50 25 rfl
theorem dX5_simulateFrom_149 : decode cX5_simulateFrom 149 = .ok (.iload 8, 2) := dec_at kDX5_simulateFrom_50 26 rfl
theorem dX5_simulateFrom_151 : decode cX5_simulateFrom 151 = .ok (.ireturn, 1) := dec_at kDX5_simulateFrom_50 27 rfl
def DX6_init_0 : List (Nat × (Instr × Nat)) := [(0, (.aload_n 0, 1)), (1, (.invokespecial 1, 3)), (4, (.aload_n 0, 1)), (5, (.new 7, 3)), (8, (.dup, 1)), (9, (.invokespecial 9, 3)), (12, (.putfield 10, 3)), (15, (.aload_n 0, 1)), (16, (.new 16, 3)), (19, (.dup, 1)), (20, (.invokespecial 18, 3)), (23, (.putfield 19, 3)), (26, (.aload_n 0, 1)), (27, (.new 23, 3)), (30, (.dup, 1)), (31, (.aload_n 0, 1)), (32, (.getfield 19, 3)), (35, (.invokespecial 25, 3)), (38, (.putfield 28, 3)), (41, (.aload_n 0, 1)), (42, (.new 32, 3)), (45, (.dup, 1)), (46, (.aload_n 0, 1)), (47, (.getfield 19, 3)), (50, (.invokespecial 34, 3)), (53, (.putfield 35, 3)), (56, (.aload_n 0, 1)), (57, (.new 39, 3)), (60, (.dup, 1)), (61, (.aload_n 0, 1)), (62, (.getfield 19, 3)), (65, (.aload_n 0, 1)), (66, (.getfield 28, 3)), (69, (.invokespecial 41, 3)), (72, (.putfield 44, 3)), (75, (.return_, 1))]
theorem kDX6_init_0 : DX6_init_0.all (fun q => decide (decode cX6_init q.1 = .ok q.2)) = true := by decide +kernel
theorem dX6_init_0 : decode cX6_init 0 = .ok (.aload_n 0, 1) := dec_at kDX6_init_0 0 rfl
theorem dX6_init_1 : decode cX6_init 1 = .ok (.invokespecial 1, 3) := dec_at kDX6_init_0 1 rfl
theorem dX6_init_4 : decode cX6_init 4 = .ok (.aload_n 0, 1) := dec_at kDX6_init_0 2 rfl
theorem dX6_init_5 : decode cX6_init 5 = .ok (.new 7, 3) := dec_at kDX6_init_0 3 rfl
theorem dX6_init_8 : decode cX6_init 8 = .ok (.dup, 1) := dec_at kDX6_init_0 4 rfl
theorem dX6_init_9 : decode cX6_init 9 = .ok (.invokespecial 9, 3) := dec_at kDX6_init_0 5 rfl
theorem dX6_init_12 : decode cX6_init 12 = .ok (.putfield 10, 3) := dec_at kDX6_init_0 6 rfl
theorem dX6_init_15 : decode cX6_init 15 = .ok (.aload_n 0, 1) := dec_at kDX6_init_0 7 rfl
theorem dX6_init_16 : decode cX6_init 16 = .ok (.new 16, 3) := dec_at kDX6_init_0 8 rfl
theorem dX6_init_19 : decode cX6_init 19 = .ok (.dup, 1) := dec_at kDX6_init_0 9 rfl
theorem dX6_init_20 : decode cX6_init 20 = .ok (.invokespecial 18, 3) := dec_at kDX6_init_0 10 rfl
theorem dX6_init_23 : decode cX6_init 23 = .ok (.putfield 19, 3) := dec_at kDX6_init_0 11 rfl
theorem dX6_init_26 : decode cX6_init 26 = .ok (.aload_n 0, 1) := dec_at kDX6_init_0 12 rfl
theorem dX6_init_27 : decode cX6_init 27 = .ok (.new 23, 3) := dec_at kDX6_init_0 13 rfl
theorem dX6_init_30 : decode cX6_init 30 = .ok (.dup, 1) := dec_at kDX6_init_0 14 rfl
theorem dX6_init_31 : decode cX6_init 31 = .ok (.aload_n 0, 1) := dec_at kDX6_init_0 15 rfl
theorem dX6_init_32 : decode cX6_init 32 = .ok (.getfield 19, 3) := dec_at kDX6_init_0 16 rfl
theorem dX6_init_35 : decode cX6_init 35 = .ok (.invokespecial 25, 3) := dec_at kDX6_init_0 17 rfl
theorem dX6_init_38 : decode cX6_init 38 = .ok (.putfield 28, 3) := dec_at kDX6_init_0 18 rfl
theorem dX6_init_41 : decode cX6_init 41 = .ok (.aload_n 0, 1) := dec_at kDX6_init_0 19 rfl
theorem dX6_init_42 : decode cX6_init 42 = .ok (.new 32, 3) := dec_at kDX6_init_0 20 rfl
theorem dX6_init_45 : decode cX6_init 45 = .ok (.dup, 1) := dec_at kDX6_init_0 21 rfl
theorem dX6_init_46 : decode cX6_init 46 = .ok (.aload_n 0, 1) := dec_at kDX6_init_0 22 rfl
theorem dX6_init_47 : decode cX6_init 47 = .ok (.getfield 19, 3) := dec_at kDX6_init_0 23 rfl
theorem dX6_init_50 : decode cX6_init 50 = .ok (.invokespecial 34, 3) := dec_at kDX6_init_0 24 rfl
theorem dX6_init_53 : decode cX6_init 53 = .ok (.putfield 35, 3) := dec_at kDX6_init_0 25 rfl
theorem dX6_init_56 : decode cX6_init 56 = .ok (.aload_n 0, 1) := dec_at kDX6_init_0 26 rfl
theorem dX6_init_57 : decode cX6_init 57 = .ok (.new 39, 3) := dec_at kDX6_init_0 27 rfl
theorem dX6_init_60 : decode cX6_init 60 = .ok (.dup, 1) := dec_at kDX6_init_0 28 rfl
theorem dX6_init_61 : decode cX6_init 61 = .ok (.aload_n 0, 1) := dec_at kDX6_init_0 29 rfl
theorem dX6_init_62 : decode cX6_init 62 = .ok (.getfield 19, 3) := dec_at kDX6_init_0 30 rfl
theorem dX6_init_65 : decode cX6_init 65 = .ok (.aload_n 0, 1) := dec_at kDX6_init_0 31 rfl
theorem dX6_init_66 : decode cX6_init 66 = .ok (.getfield 28, 3) := dec_at kDX6_init_0 32 rfl
theorem dX6_init_69 : decode cX6_init 69 = .ok (.invokespecial 41, 3) := dec_at kDX6_init_0 33 rfl
theorem dX6_init_72 : decode cX6_init 72 = .ok (.putfield 44, 3) := dec_at kDX6_init_0 34 rfl
theorem dX6_init_75 : decode cX6_init 75 = .ok (.return_, 1) := dec_at kDX6_init_0 35 rfl
def DX6_begin_0 : List (Nat × (Instr × Nat)) := [(0, (.iload_n 1, 1)), (1, (.iconst 1, 1)), (2, (.if_icmp .lt 18, 3)), (5, (.iload_n 1, 1)), (6, (.bipush 6, 2)), (8, (.if_icmp .gt 12, 3)), (11, (.iload_n 2, 1)), (12, (.ifCond .lt 8, 3)), (15, (.iload_n 2, 1)), (16, (.iconst 2, 1)), (17, (.if_icmp .le 13, 3)), (20, (.new 48, 3)), (23, (.dup, 1)), (24, (.ldc 50, 2)), (26, (.invokespecial 52, 3)), (29, (.athrow, 1)), (30, (.aload_n 0, 1)), (31, (.getfield 19, 3)), (34, (.iload_n 1, 1)), (35, (.iload_n 2, 1)), (36, (.invokevirtual 55, 3)), (39, (.aload_n 0, 1)), (40, (.invokevirtual 59, 3)), (43, (.aload_n 0, 1)), (44, (.getfield 19, 3)), (47, (.getfield 62, 3)), (50, (.ireturn, 1))]
theorem kDX6_begin_0 : DX6_begin_0.all (fun q => decide (decode cX6_begin q.1 = .ok q.2)) = true := by decide +kernel
theorem dX6_begin_0 : decode cX6_begin 0 = .ok (.iload_n 1, 1) := dec_at kDX6_begin_0 0 rfl
theorem dX6_begin_1 : decode cX6_begin 1 = .ok (.iconst 1, 1) := dec_at kDX6_begin_0 1 rfl
theorem dX6_begin_2 : decode cX6_begin 2 = .ok (.if_icmp .lt 18, 3) := dec_at kDX6_begin_0 2 rfl
theorem dX6_begin_5 : decode cX6_begin 5 = .ok (.iload_n 1, 1) := dec_at kDX6_begin_0 3 rfl
theorem dX6_begin_6 : decode cX6_begin 6 = .ok (.bipush 6, 2) := dec_at kDX6_begin_0 4 rfl
theorem dX6_begin_8 : decode cX6_begin 8 = .ok (.if_icmp .gt 12, 3) := dec_at kDX6_begin_0 5 rfl
theorem dX6_begin_11 : decode cX6_begin 11 = .ok (.iload_n 2, 1) := dec_at kDX6_begin_0 6 rfl
theorem dX6_begin_12 : decode cX6_begin 12 = .ok (.ifCond .lt 8, 3) := dec_at kDX6_begin_0 7 rfl
theorem dX6_begin_15 : decode cX6_begin 15 = .ok (.iload_n 2, 1) := dec_at kDX6_begin_0 8 rfl
theorem dX6_begin_16 : decode cX6_begin 16 = .ok (.iconst 2, 1) := dec_at kDX6_begin_0 9 rfl
theorem dX6_begin_17 : decode cX6_begin 17 = .ok (.if_icmp .le 13, 3) := dec_at kDX6_begin_0 10 rfl
theorem dX6_begin_20 : decode cX6_begin 20 = .ok (.new 48, 3) := dec_at kDX6_begin_0 11 rfl
theorem dX6_begin_23 : decode cX6_begin 23 = .ok (.dup, 1) := dec_at kDX6_begin_0 12 rfl
theorem dX6_begin_24 : decode cX6_begin 24 = .ok (.ldc 50, 2) := dec_at kDX6_begin_0 13 rfl
theorem dX6_begin_26 : decode cX6_begin 26 = .ok (.invokespecial 52, 3) := dec_at kDX6_begin_0 14 rfl
theorem dX6_begin_29 : decode cX6_begin 29 = .ok (.athrow, 1) := dec_at kDX6_begin_0 15 rfl
theorem dX6_begin_30 : decode cX6_begin 30 = .ok (.aload_n 0, 1) := dec_at kDX6_begin_0 16 rfl
theorem dX6_begin_31 : decode cX6_begin 31 = .ok (.getfield 19, 3) := dec_at kDX6_begin_0 17 rfl
theorem dX6_begin_34 : decode cX6_begin 34 = .ok (.iload_n 1, 1) := dec_at kDX6_begin_0 18 rfl
theorem dX6_begin_35 : decode cX6_begin 35 = .ok (.iload_n 2, 1) := dec_at kDX6_begin_0 19 rfl
theorem dX6_begin_36 : decode cX6_begin 36 = .ok (.invokevirtual 55, 3) := dec_at kDX6_begin_0 20 rfl
theorem dX6_begin_39 : decode cX6_begin 39 = .ok (.aload_n 0, 1) := dec_at kDX6_begin_0 21 rfl
theorem dX6_begin_40 : decode cX6_begin 40 = .ok (.invokevirtual 59, 3) := dec_at kDX6_begin_0 22 rfl
theorem dX6_begin_43 : decode cX6_begin 43 = .ok (.aload_n 0, 1) := dec_at kDX6_begin_0 23 rfl
theorem dX6_begin_44 : decode cX6_begin 44 = .ok (.getfield 19, 3) := dec_at kDX6_begin_0 24 rfl
theorem dX6_begin_47 : decode cX6_begin 47 = .ok (.getfield 62, 3) := dec_at kDX6_begin_0 25 rfl
theorem dX6_begin_50 : decode cX6_begin 50 = .ok (.ireturn, 1) := dec_at kDX6_begin_0 26 rfl
def DX6_append_0 : List (Nat × (Instr × Nat)) := [(0, (.iload_n 1, 1)), (1, (.bipush 33, 2)), (3, (.if_icmp .lt 9, 3)), (6, (.iload_n 1, 1)), (7, (.bipush 126, 2)), (9, (.if_icmp .le 13, 3)), (12, (.new 48, 3)), (15, (.dup, 1)), (16, (.ldc 66, 2)), (18, (.invokespecial 52, 3)), (21, (.athrow, 1)), (22, (.aload_n 0, 1)), (23, (.getfield 10, 3)), (26, (.invokevirtual 68, 3)), (29, (.ifCond .eq 13, 3)), (32, (.new 72, 3)), (35, (.dup, 1)), (36, (.ldc 74, 2)), (38, (.invokespecial 76, 3)), (41, (.athrow, 1)), (42, (.aload_n 0, 1)), (43, (.getfield 10, 3)), (46, (.iload_n 1, 1)), (47, (.invokevirtual 77, 3)), (50, (.aload_n 0, 1)), (51, (.getfield 10, 3)), (54, (.getfield 81, 3)), (57, (.ireturn, 1))]
theorem kDX6_append_0 : DX6_append_0.all (fun q => decide (decode cX6_append q.1 = .ok q.2)) = true := by decide +kernel
theorem dX6_append_0 : decode cX6_append 0 = .ok (.iload_n 1, 1) := dec_at kDX6_append_0 0 rfl
theorem dX6_append_1 : decode cX6_append 1 = .ok (.bipush 33, 2) := dec_at kDX6_append_0 1 rfl
theorem dX6_append_3 : decode cX6_append 3 = .ok (.if_icmp .lt 9, 3) := dec_at kDX6_append_0 2 rfl
theorem dX6_append_6 : decode cX6_append 6 = .ok (.iload_n 1, 1) := dec_at kDX6_append_0 3 rfl
theorem dX6_append_7 : decode cX6_append 7 = .ok (.bipush 126, 2) := dec_at kDX6_append_0 4 rfl
theorem dX6_append_9 : decode cX6_append 9 = .ok (.if_icmp .le 13, 3) := dec_at kDX6_append_0 5 rfl
theorem dX6_append_12 : decode cX6_append 12 = .ok (.new 48, 3) := dec_at kDX6_append_0 6 rfl
theorem dX6_append_15 : decode cX6_append 15 = .ok (.dup, 1) := dec_at kDX6_append_0 7 rfl
theorem dX6_append_16 : decode cX6_append 16 = .ok (.ldc 66, 2) := dec_at kDX6_append_0 8 rfl
theorem dX6_append_18 : decode cX6_append 18 = .ok (.invokespecial 52, 3) := dec_at kDX6_append_0 9 rfl
theorem dX6_append_21 : decode cX6_append 21 = .ok (.athrow, 1) := dec_at kDX6_append_0 10 rfl
theorem dX6_append_22 : decode cX6_append 22 = .ok (.aload_n 0, 1) := dec_at kDX6_append_0 11 rfl
theorem dX6_append_23 : decode cX6_append 23 = .ok (.getfield 10, 3) := dec_at kDX6_append_0 12 rfl
theorem dX6_append_26 : decode cX6_append 26 = .ok (.invokevirtual 68, 3) := dec_at kDX6_append_0 13 rfl
theorem dX6_append_29 : decode cX6_append 29 = .ok (.ifCond .eq 13, 3) := dec_at kDX6_append_0 14 rfl
theorem dX6_append_32 : decode cX6_append 32 = .ok (.new 72, 3) := dec_at kDX6_append_0 15 rfl
theorem dX6_append_35 : decode cX6_append 35 = .ok (.dup, 1) := dec_at kDX6_append_0 16 rfl
theorem dX6_append_36 : decode cX6_append 36 = .ok (.ldc 74, 2) := dec_at kDX6_append_0 17 rfl
theorem dX6_append_38 : decode cX6_append 38 = .ok (.invokespecial 76, 3) := dec_at kDX6_append_0 18 rfl
theorem dX6_append_41 : decode cX6_append 41 = .ok (.athrow, 1) := dec_at kDX6_append_0 19 rfl
theorem dX6_append_42 : decode cX6_append 42 = .ok (.aload_n 0, 1) := dec_at kDX6_append_0 20 rfl
theorem dX6_append_43 : decode cX6_append 43 = .ok (.getfield 10, 3) := dec_at kDX6_append_0 21 rfl
theorem dX6_append_46 : decode cX6_append 46 = .ok (.iload_n 1, 1) := dec_at kDX6_append_0 22 rfl
theorem dX6_append_47 : decode cX6_append 47 = .ok (.invokevirtual 77, 3) := dec_at kDX6_append_0 23 rfl
theorem dX6_append_50 : decode cX6_append 50 = .ok (.aload_n 0, 1) := dec_at kDX6_append_0 24 rfl
theorem dX6_append_51 : decode cX6_append 51 = .ok (.getfield 10, 3) := dec_at kDX6_append_0 25 rfl
theorem dX6_append_54 : decode cX6_append 54 = .ok (.getfield 81, 3) := dec_at kDX6_append_0 26 rfl
theorem dX6_append_57 : decode cX6_append 57 = .ok (.ireturn, 1) := dec_at kDX6_append_0 27 rfl
def DX6_clearBuffer_0 : List (Nat × (Instr × Nat)) := [(0, (.aload_n 0, 1)), (1, (.getfield 10, 3)), (4, (.getfield 81, 3)), (7, (.istore_n 1, 1)), (8, (.aload_n 0, 1)), (9, (.getfield 10, 3)), (12, (.iconst 0, 1)), (13, (.putfield 81, 3)), (16, (.iload_n 1, 1)), (17, (.ireturn, 1))]
theorem kDX6_clearBuffer_0 : DX6_clearBuffer_0.all (fun q => decide (decode cX6_clearBuffer q.1 = .ok q.2)) = true := by decide +kernel
theorem dX6_clearBuffer_0 : decode cX6_clearBuffer 0 = .ok (.aload_n 0, 1) := dec_at kDX6_clearBuffer_0 0 rfl
theorem dX6_clearBuffer_1 : decode cX6_clearBuffer 1 = .ok (.getfield 10, 3) := dec_at kDX6_clearBuffer_0 1 rfl
theorem dX6_clearBuffer_4 : decode cX6_clearBuffer 4 = .ok (.getfield 81, 3) := dec_at kDX6_clearBuffer_0 2 rfl
theorem dX6_clearBuffer_7 : decode cX6_clearBuffer 7 = .ok (.istore_n 1, 1) := dec_at kDX6_clearBuffer_0 3 rfl
theorem dX6_clearBuffer_8 : decode cX6_clearBuffer 8 = .ok (.aload_n 0, 1) := dec_at kDX6_clearBuffer_0 4 rfl
theorem dX6_clearBuffer_9 : decode cX6_clearBuffer 9 = .ok (.getfield 10, 3) := dec_at kDX6_clearBuffer_0 5 rfl
theorem dX6_clearBuffer_12 : decode cX6_clearBuffer 12 = .ok (.iconst 0, 1) := dec_at kDX6_clearBuffer_0 6 rfl
theorem dX6_clearBuffer_13 : decode cX6_clearBuffer 13 = .ok (.putfield 81, 3) := dec_at kDX6_clearBuffer_0 7 rfl
theorem dX6_clearBuffer_16 : decode cX6_clearBuffer 16 = .ok (.iload_n 1, 1) := dec_at kDX6_clearBuffer_0 8 rfl
theorem dX6_clearBuffer_17 : decode cX6_clearBuffer 17 = .ok (.ireturn, 1) := dec_at kDX6_clearBuffer_0 9 rfl
def DX6_firstError_0 : List (Nat × (Instr × Nat)) := [(0, (.aload_n 0, 1)), (1, (.getfield 10, 3)), (4, (.aload_n 0, 1)), (5, (.getfield 19, 3)), (8, (.getfield 84, 3)), (11, (.aload_n 0, 1)), (12, (.getfield 19, 3)), (15, (.getfield 87, 3)), (18, (.invokevirtual 90, 3)), (21, (.ireturn, 1))]
theorem kDX6_firstError_0 : DX6_firstError_0.all (fun q => decide (decode cX6_firstError q.1 = .ok q.2)) = true := by decide +kernel
theorem dX6_firstError_0 : decode cX6_firstError 0 = .ok (.aload_n 0, 1) := dec_at kDX6_firstError_0 0 rfl
theorem dX6_firstError_1 : decode cX6_firstError 1 = .ok (.getfield 10, 3) := dec_at kDX6_firstError_0 1 rfl
theorem dX6_firstError_4 : decode cX6_firstError 4 = .ok (.aload_n 0, 1) := dec_at kDX6_firstError_0 2 rfl
theorem dX6_firstError_5 : decode cX6_firstError 5 = .ok (.getfield 19, 3) := dec_at kDX6_firstError_0 3 rfl
theorem dX6_firstError_8 : decode cX6_firstError 8 = .ok (.getfield 84, 3) := dec_at kDX6_firstError_0 4 rfl
theorem dX6_firstError_11 : decode cX6_firstError 11 = .ok (.aload_n 0, 1) := dec_at kDX6_firstError_0 5 rfl
theorem dX6_firstError_12 : decode cX6_firstError 12 = .ok (.getfield 19, 3) := dec_at kDX6_firstError_0 6 rfl
theorem dX6_firstError_15 : decode cX6_firstError 15 = .ok (.getfield 87, 3) := dec_at kDX6_firstError_0 7 rfl
theorem dX6_firstError_18 : decode cX6_firstError 18 = .ok (.invokevirtual 90, 3) := dec_at kDX6_firstError_0 8 rfl
theorem dX6_firstError_21 : decode cX6_firstError 21 = .ok (.ireturn, 1) := dec_at kDX6_firstError_0 9 rfl
def DX6_setNext_0 : List (Nat × (Instr × Nat)) := [(0, (.iload_n 1, 1)), (1, (.ifCond .lt 14, 3)), (4, (.iload_n 1, 1)), (5, (.aload_n 0, 1)), (6, (.getfield 19, 3)), (9, (.getfield 84, 3)), (12, (.if_icmp .lt 13, 3)), (15, (.new 94, 3)), (18, (.dup, 1)), (19, (.ldc 96, 2)), (21, (.invokespecial 98, 3)), (24, (.athrow, 1)), (25, (.aload_n 0, 1)), (26, (.getfield 10, 3)), (29, (.aload_n 0, 1)), (30, (.getfield 19, 3)), (33, (.getfield 84, 3)), (36, (.aload_n 0, 1)), (37, (.getfield 19, 3)), (40, (.getfield 87, 3)), (43, (.invokevirtual 99, 3)), (46, (.ifCond .ne 13, 3)), (49, (.new 72, 3)), (52, (.dup, 1)), (53, (.ldc 103, 2)), (55, (.invokespecial 76, 3)), (58, (.athrow, 1)), (59, (.aload_n 0, 1)), (60, (.iload_n 1, 1)), (61, (.invokevirtual 105, 3)), (64, (.ireturn, 1))]
theorem kDX6_setNext_0 : DX6_setNext_0.all (fun q => decide (decode cX6_setNext q.1 = .ok q.2)) = true := by decide +kernel
theorem dX6_setNext_0 : decode cX6_setNext 0 = .ok (.iload_n 1, 1) := dec_at kDX6_setNext_0 0 rfl
theorem dX6_setNext_1 : decode cX6_setNext 1 = .ok (.ifCond .lt 14, 3) := dec_at kDX6_setNext_0 1 rfl
theorem dX6_setNext_4 : decode cX6_setNext 4 = .ok (.iload_n 1, 1) := dec_at kDX6_setNext_0 2 rfl
theorem dX6_setNext_5 : decode cX6_setNext 5 = .ok (.aload_n 0, 1) := dec_at kDX6_setNext_0 3 rfl
theorem dX6_setNext_6 : decode cX6_setNext 6 = .ok (.getfield 19, 3) := dec_at kDX6_setNext_0 4 rfl
theorem dX6_setNext_9 : decode cX6_setNext 9 = .ok (.getfield 84, 3) := dec_at kDX6_setNext_0 5 rfl
theorem dX6_setNext_12 : decode cX6_setNext 12 = .ok (.if_icmp .lt 13, 3) := dec_at kDX6_setNext_0 6 rfl
theorem dX6_setNext_15 : decode cX6_setNext 15 = .ok (.new 94, 3) := dec_at kDX6_setNext_0 7 rfl
theorem dX6_setNext_18 : decode cX6_setNext 18 = .ok (.dup, 1) := dec_at kDX6_setNext_0 8 rfl
theorem dX6_setNext_19 : decode cX6_setNext 19 = .ok (.ldc 96, 2) := dec_at kDX6_setNext_0 9 rfl
theorem dX6_setNext_21 : decode cX6_setNext 21 = .ok (.invokespecial 98, 3) := dec_at kDX6_setNext_0 10 rfl
theorem dX6_setNext_24 : decode cX6_setNext 24 = .ok (.athrow, 1) := dec_at kDX6_setNext_0 11 rfl
theorem dX6_setNext_25 : decode cX6_setNext 25 = .ok (.aload_n 0, 1) := dec_at kDX6_setNext_0 12 rfl
theorem dX6_setNext_26 : decode cX6_setNext 26 = .ok (.getfield 10, 3) := dec_at kDX6_setNext_0 13 rfl
theorem dX6_setNext_29 : decode cX6_setNext 29 = .ok (.aload_n 0, 1) := dec_at kDX6_setNext_0 14 rfl
theorem dX6_setNext_30 : decode cX6_setNext 30 = .ok (.getfield 19, 3) := dec_at kDX6_setNext_0 15 rfl
theorem dX6_setNext_33 : decode cX6_setNext 33 = .ok (.getfield 84, 3) := dec_at kDX6_setNext_0 16 rfl
theorem dX6_setNext_36 : decode cX6_setNext 36 = .ok (.aload_n 0, 1) := dec_at kDX6_setNext_0 17 rfl
theorem dX6_setNext_37 : decode cX6_setNext 37 = .ok (.getfield 19, 3) := dec_at kDX6_setNext_0 18 rfl
theorem dX6_setNext_40 : decode cX6_setNext 40 = .ok (.getfield 87, 3) := dec_at kDX6_setNext_0 19 rfl
theorem dX6_setNext_43 : decode cX6_setNext 43 = .ok (.invokevirtual 99, 3) := dec_at kDX6_setNext_0 20 rfl
theorem dX6_setNext_46 : decode cX6_setNext 46 = .ok (.ifCond .ne 13, 3) := dec_at kDX6_setNext_0 21 rfl
theorem dX6_setNext_49 : decode cX6_setNext 49 = .ok (.new 72, 3) := dec_at kDX6_setNext_0 22 rfl
theorem dX6_setNext_52 : decode cX6_setNext 52 = .ok (.dup, 1) := dec_at kDX6_setNext_0 23 rfl
theorem dX6_setNext_53 : decode cX6_setNext 53 = .ok (.ldc 103, 2) := dec_at kDX6_setNext_0 24 rfl
theorem dX6_setNext_55 : decode cX6_setNext 55 = .ok (.invokespecial 76, 3) := dec_at kDX6_setNext_0 25 rfl
theorem dX6_setNext_58 : decode cX6_setNext 58 = .ok (.athrow, 1) := dec_at kDX6_setNext_0 26 rfl
theorem dX6_setNext_59 : decode cX6_setNext 59 = .ok (.aload_n 0, 1) := dec_at kDX6_setNext_0 27 rfl
theorem dX6_setNext_60 : decode cX6_setNext 60 = .ok (.iload_n 1, 1) := dec_at kDX6_setNext_0 28 rfl
theorem dX6_setNext_61 : decode cX6_setNext 61 = .ok (.invokevirtual 105, 3) := dec_at kDX6_setNext_0 29 rfl
theorem dX6_setNext_64 : decode cX6_setNext 64 = .ok (.ireturn, 1) := dec_at kDX6_setNext_0 30 rfl
def DX6_setInit_0 : List (Nat × (Instr × Nat)) := [(0, (.aload_n 0, 1)), (1, (.invokevirtual 109, 3)), (4, (.aload_n 0, 1)), (5, (.bipush 6, 2)), (7, (.invokevirtual 105, 3)), (10, (.pop, 1)), (11, (.aload_n 0, 1)), (12, (.getfield 19, 3)), (15, (.invokevirtual 112, 3)), (18, (.invokestatic 116, 3)), (21, (.ireturn, 1))]
theorem kDX6_setInit_0 : DX6_setInit_0.all (fun q => decide (decode cX6_setInit q.1 = .ok q.2)) = true := by decide +kernel
theorem dX6_setInit_0 : decode cX6_setInit 0 = .ok (.aload_n 0, 1) := dec_at kDX6_setInit_0 0 rfl
theorem dX6_setInit_1 : decode cX6_setInit 1 = .ok (.invokevirtual 109, 3) := dec_at kDX6_setInit_0 1 rfl
theorem dX6_setInit_4 : decode cX6_setInit 4 = .ok (.aload_n 0, 1) := dec_at kDX6_setInit_0 2 rfl
theorem dX6_setInit_5 : decode cX6_setInit 5 = .ok (.bipush 6, 2) := dec_at kDX6_setInit_0 3 rfl
theorem dX6_setInit_7 : decode cX6_setInit 7 = .ok (.invokevirtual 105, 3) := dec_at kDX6_setInit_0 4 rfl
theorem dX6_setInit_10 : decode cX6_setInit 10 = .ok (.pop, 1) := dec_at kDX6_setInit_0 5 rfl
theorem dX6_setInit_11 : decode cX6_setInit 11 = .ok (.aload_n 0, 1) := dec_at kDX6_setInit_0 6 rfl
theorem dX6_setInit_12 : decode cX6_setInit 12 = .ok (.getfield 19, 3) := dec_at kDX6_setInit_0 7 rfl
theorem dX6_setInit_15 : decode cX6_setInit 15 = .ok (.invokevirtual 112, 3) := dec_at kDX6_setInit_0 8 rfl
theorem dX6_setInit_18 : decode cX6_setInit 18 = .ok (.invokestatic 116, 3) := dec_at kDX6_setInit_0 9 rfl
theorem dX6_setInit_21 : decode cX6_setInit 21 = .ok (.ireturn, 1) := dec_at kDX6_setInit_0 10 rfl
def DX6_setProperty_0 : List (Nat × (Instr × Nat)) := [(0, (.aload_n 0, 1)), (1, (.invokevirtual 109, 3)), (4, (.aload_n 0, 1)), (5, (.bipush 7, 2)), (7, (.invokevirtual 105, 3)), (10, (.pop, 1)), (11, (.aload_n 0, 1)), (12, (.getfield 19, 3)), (15, (.invokevirtual 122, 3)), (18, (.invokestatic 116, 3)), (21, (.ireturn, 1))]
theorem kDX6_setProperty_0 : DX6_setProperty_0.all (fun q => decide (decode cX6_setProperty q.1 = .ok q.2)) = true := by decide +kernel
theorem dX6_setProperty_0 : decode cX6_setProperty 0 = .ok (.aload_n 0, 1) := dec_at kDX6_setProperty_0 0 rfl
theorem dX6_setProperty_1 : decode cX6_setProperty 1 = .ok (.invokevirtual 109, 3) := dec_at kDX6_setProperty_0 1 rfl
theorem dX6_setProperty_4 : decode cX6_setProperty 4 = .ok (.aload_n 0, 1) := dec_at kDX6_setProperty_0 2 rfl
theorem dX6_setProperty_5 : decode cX6_setProperty 5 = .ok (.bipush 7, 2) := dec_at kDX6_setProperty_0 3 rfl
theorem dX6_setProperty_7 : decode cX6_setProperty 7 = .ok (.invokevirtual 105, 3) := dec_at kDX6_setProperty_0 4 rfl
theorem dX6_setProperty_10 : decode cX6_setProperty 10 = .ok (.pop, 1) := dec_at kDX6_setProperty_0 5 rfl
theorem dX6_setProperty_11 : decode cX6_setProperty 11 = .ok (.aload_n 0, 1) := dec_at kDX6_setProperty_0 6 rfl
theorem dX6_setProperty_12 : decode cX6_setProperty 12 = .ok (.getfield 19, 3) := dec_at kDX6_setProperty_0 7 rfl
theorem dX6_setProperty_15 : decode cX6_setProperty 15 = .ok (.invokevirtual 122, 3) := dec_at kDX6_setProperty_0 8 rfl
theorem dX6_setProperty_18 : decode cX6_setProperty 18 = .ok (.invokestatic 116, 3) := dec_at kDX6_setProperty_0 9 rfl
theorem dX6_setProperty_21 : decode cX6_setProperty 21 = .ok (.ireturn, 1) := dec_at kDX6_setProperty_0 10 rfl
def DX6_undo_0 : List (Nat × (Instr × Nat)) := [(0, (.aload_n 0, 1)), (1, (.getfield 19, 3)), (4, (.getfield 125, 3)), (7, (.ifCond .ne 13, 3)), (10, (.new 72, 3)), (13, (.dup, 1)), (14, (.ldc 128, 2)), (16, (.invokespecial 76, 3)), (19, (.athrow, 1)), (20, (.aload_n 0, 1)), (21, (.getfield 19, 3)), (24, (.invokevirtual 130, 3)), (27, (.aload_n 0, 1)), (28, (.invokevirtual 59, 3)), (31, (.aload_n 0, 1)), (32, (.getfield 19, 3)), (35, (.getfield 125, 3)), (38, (.ireturn, 1))]
theorem kDX6_undo_0 : DX6_undo_0.all (fun q => decide (decode cX6_undo q.1 = .ok q.2)) = true := by decide +kernel
theorem dX6_undo_0 : decode cX6_undo 0 = .ok (.aload_n 0, 1) := dec_at kDX6_undo_0 0 rfl
theorem dX6_undo_1 : decode cX6_undo 1 = .ok (.getfield 19, 3) := dec_at kDX6_undo_0 1 rfl
theorem dX6_undo_4 : decode cX6_undo 4 = .ok (.getfield 125, 3) := dec_at kDX6_undo_0 2 rfl
theorem dX6_undo_7 : decode cX6_undo 7 = .ok (.ifCond .ne 13, 3) := dec_at kDX6_undo_0 3 rfl
theorem dX6_undo_10 : decode cX6_undo 10 = .ok (.new 72, 3) := dec_at kDX6_undo_0 4 rfl
theorem dX6_undo_13 : decode cX6_undo 13 = .ok (.dup, 1) := dec_at kDX6_undo_0 5 rfl
theorem dX6_undo_14 : decode cX6_undo 14 = .ok (.ldc 128, 2) := dec_at kDX6_undo_0 6 rfl
theorem dX6_undo_16 : decode cX6_undo 16 = .ok (.invokespecial 76, 3) := dec_at kDX6_undo_0 7 rfl
theorem dX6_undo_19 : decode cX6_undo 19 = .ok (.athrow, 1) := dec_at kDX6_undo_0 8 rfl
theorem dX6_undo_20 : decode cX6_undo 20 = .ok (.aload_n 0, 1) := dec_at kDX6_undo_0 9 rfl
theorem dX6_undo_21 : decode cX6_undo 21 = .ok (.getfield 19, 3) := dec_at kDX6_undo_0 10 rfl
theorem dX6_undo_24 : decode cX6_undo 24 = .ok (.invokevirtual 130, 3) := dec_at kDX6_undo_0 11 rfl
theorem dX6_undo_27 : decode cX6_undo 27 = .ok (.aload_n 0, 1) := dec_at kDX6_undo_0 12 rfl
theorem dX6_undo_28 : decode cX6_undo 28 = .ok (.invokevirtual 59, 3) := dec_at kDX6_undo_0 13 rfl
theorem dX6_undo_31 : decode cX6_undo 31 = .ok (.aload_n 0, 1) := dec_at kDX6_undo_0 14 rfl
theorem dX6_undo_32 : decode cX6_undo 32 = .ok (.getfield 19, 3) := dec_at kDX6_undo_0 15 rfl
theorem dX6_undo_35 : decode cX6_undo 35 = .ok (.getfield 125, 3) := dec_at kDX6_undo_0 16 rfl
theorem dX6_undo_38 : decode cX6_undo 38 = .ok (.ireturn, 1) := dec_at kDX6_undo_0 17 rfl
def DX6_successor_0 : List (Nat × (Instr × Nat)) := [(0, (.aload_n 0, 1)), (1, (.iload_n 1, 1)), (2, (.invokevirtual 133, 3)), (5, (.iload_n 2, 1)), (6, (.ifCond .lt 14, 3)), (9, (.iload_n 2, 1)), (10, (.aload_n 0, 1)), (11, (.getfield 19, 3)), (14, (.getfield 136, 3)), (17, (.if_icmp .lt 13, 3)), (20, (.new 48, 3)), (23, (.dup, 1)), (24, (.ldc 139, 2)), (26, (.invokespecial 52, 3)), (29, (.athrow, 1)), (30, (.aload_n 0, 1)), (31, (.getfield 19, 3)), (34, (.iload_n 1, 1)), (35, (.iload_n 2, 1)), (36, (.invokevirtual 141, 3)), (39, (.ireturn, 1))]
theorem kDX6_successor_0 : DX6_successor_0.all (fun q => decide (decode cX6_successor q.1 = .ok q.2)) = true := by decide +kernel
theorem dX6_successor_0 : decode cX6_successor 0 = .ok (.aload_n 0, 1) := dec_at kDX6_successor_0 0 rfl
theorem dX6_successor_1 : decode cX6_successor 1 = .ok (.iload_n 1, 1) := dec_at kDX6_successor_0 1 rfl
theorem dX6_successor_2 : decode cX6_successor 2 = .ok (.invokevirtual 133, 3) := dec_at kDX6_successor_0 2 rfl
theorem dX6_successor_5 : decode cX6_successor 5 = .ok (.iload_n 2, 1) := dec_at kDX6_successor_0 3 rfl
theorem dX6_successor_6 : decode cX6_successor 6 = .ok (.ifCond .lt 14, 3) := dec_at kDX6_successor_0 4 rfl
theorem dX6_successor_9 : decode cX6_successor 9 = .ok (.iload_n 2, 1) := dec_at kDX6_successor_0 5 rfl
theorem dX6_successor_10 : decode cX6_successor 10 = .ok (.aload_n 0, 1) := dec_at kDX6_successor_0 6 rfl
theorem dX6_successor_11 : decode cX6_successor 11 = .ok (.getfield 19, 3) := dec_at kDX6_successor_0 7 rfl
theorem dX6_successor_14 : decode cX6_successor 14 = .ok (.getfield 136, 3) := dec_at kDX6_successor_0 8 rfl
theorem dX6_successor_17 : decode cX6_successor 17 = .ok (.if_icmp .lt 13, 3) := dec_at kDX6_successor_0 9 rfl
theorem dX6_successor_20 : decode cX6_successor 20 = .ok (.new 48, 3) := dec_at kDX6_successor_0 10 rfl
theorem dX6_successor_23 : decode cX6_successor 23 = .ok (.dup, 1) := dec_at kDX6_successor_0 11 rfl
theorem dX6_successor_24 : decode cX6_successor 24 = .ok (.ldc 139, 2) := dec_at kDX6_successor_0 12 rfl
theorem dX6_successor_26 : decode cX6_successor 26 = .ok (.invokespecial 52, 3) := dec_at kDX6_successor_0 13 rfl
theorem dX6_successor_29 : decode cX6_successor 29 = .ok (.athrow, 1) := dec_at kDX6_successor_0 14 rfl
theorem dX6_successor_30 : decode cX6_successor 30 = .ok (.aload_n 0, 1) := dec_at kDX6_successor_0 15 rfl
theorem dX6_successor_31 : decode cX6_successor 31 = .ok (.getfield 19, 3) := dec_at kDX6_successor_0 16 rfl
theorem dX6_successor_34 : decode cX6_successor 34 = .ok (.iload_n 1, 1) := dec_at kDX6_successor_0 17 rfl
theorem dX6_successor_35 : decode cX6_successor 35 = .ok (.iload_n 2, 1) := dec_at kDX6_successor_0 18 rfl
theorem dX6_successor_36 : decode cX6_successor 36 = .ok (.invokevirtual 141, 3) := dec_at kDX6_successor_0 19 rfl
theorem dX6_successor_39 : decode cX6_successor 39 = .ok (.ireturn, 1) := dec_at kDX6_successor_0 20 rfl
def DX6_state_0 : List (Nat × (Instr × Nat)) := [(0, (.aload_n 0, 1)), (1, (.iload_n 1, 1)), (2, (.invokevirtual 133, 3)), (5, (.iload_n 2, 1)), (6, (.ifCond .lt 8, 3)), (9, (.iload_n 2, 1)), (10, (.iconst 5, 1)), (11, (.if_icmp .lt 13, 3)), (14, (.new 48, 3)), (17, (.dup, 1)), (18, (.ldc 144, 2)), (20, (.invokespecial 52, 3)), (23, (.athrow, 1)), (24, (.aload_n 0, 1)), (25, (.getfield 28, 3)), (28, (.invokevirtual 146, 3)), (31, (.iload_n 2, 1)), (32, (.tableswitch 90 0 3 #[32, 52, 72, 81], 32)), (64, (.aload_n 0, 1)), (65, (.getfield 19, 3)), (68, (.invokevirtual 112, 3)), (71, (.iload_n 1, 1)), (72, (.invokestatic 149, 3)), (75, (.ifCond .eq 7, 3)), (78, (.iconst 1, 1)), (79, (.goto 4, 3)), (82, (.iconst 0, 1)), (83, (.ireturn, 1)), (84, (.aload_n 0, 1)), (85, (.getfield 19, 3)), (88, (.invokevirtual 122, 3)), (91, (.iload_n 1, 1)), (92, (.invokestatic 149, 3)), (95, (.ifCond .eq 7, 3)), (98, (.iconst 1, 1)), (99, (.goto 4, 3)), (102, (.iconst 0, 1)), (103, (.ireturn, 1)), (104, (.aload_n 0, 1)), (105, (.getfield 28, 3)), (108, (.iload_n 1, 1)), (109, (.invokevirtual 153, 3)), (112, (.ireturn, 1)), (113, (.aload_n 0, 1)), (114, (.getfield 28, 3)), (117, (.iload_n 1, 1)), (118, (.invokevirtual 156, 3)), (121, (.ireturn, 1)), (122, (.aload_n 0, 1)), (123, (.getfield 28, 3))]
theorem kDX6_state_0 : DX6_state_0.all (fun q => decide (decode cX6_state q.1 = .ok q.2)) = true := by decide +kernel
theorem dX6_state_0 : decode cX6_state 0 = .ok (.aload_n 0, 1) := dec_at kDX6_state_0 0 rfl
theorem dX6_state_1 : decode cX6_state 1 = .ok (.iload_n 1, 1) := dec_at kDX6_state_0 1 rfl
theorem dX6_state_2 : decode cX6_state 2 = .ok (.invokevirtual 133, 3) := dec_at kDX6_state_0 2 rfl
theorem dX6_state_5 : decode cX6_state 5 = .ok (.iload_n 2, 1) := dec_at kDX6_state_0 3 rfl
theorem dX6_state_6 : decode cX6_state 6 = .ok (.ifCond .lt 8, 3) := dec_at kDX6_state_0 4 rfl
theorem dX6_state_9 : decode cX6_state 9 = .ok (.iload_n 2, 1) := dec_at kDX6_state_0 5 rfl
theorem dX6_state_10 : decode cX6_state 10 = .ok (.iconst 5, 1) := dec_at kDX6_state_0 6 rfl
theorem dX6_state_11 : decode cX6_state 11 = .ok (.if_icmp .lt 13, 3) := dec_at kDX6_state_0 7 rfl
theorem dX6_state_14 : decode cX6_state 14 = .ok (.new 48, 3) := dec_at kDX6_state_0 8 rfl
theorem dX6_state_17 : decode cX6_state 17 = .ok (.dup, 1) := dec_at kDX6_state_0 9 rfl
theorem dX6_state_18 : decode cX6_state 18 = .ok (.ldc 144, 2) := dec_at kDX6_state_0 10 rfl
theorem dX6_state_20 : decode cX6_state 20 = .ok (.invokespecial 52, 3) := dec_at kDX6_state_0 11 rfl
theorem dX6_state_23 : decode cX6_state 23 = .ok (.athrow, 1) := dec_at kDX6_state_0 12 rfl
theorem dX6_state_24 : decode cX6_state 24 = .ok (.aload_n 0, 1) := dec_at kDX6_state_0 13 rfl
theorem dX6_state_25 : decode cX6_state 25 = .ok (.getfield 28, 3) := dec_at kDX6_state_0 14 rfl
theorem dX6_state_28 : decode cX6_state 28 = .ok (.invokevirtual 146, 3) := dec_at kDX6_state_0 15 rfl
theorem dX6_state_31 : decode cX6_state 31 = .ok (.iload_n 2, 1) := dec_at kDX6_state_0 16 rfl
theorem dX6_state_32 : decode cX6_state 32 = .ok (.tableswitch 90 0 3 #[32, 52, 72, 81], 32) := dec_at kDX6_state_0 17 rfl
theorem dX6_state_64 : decode cX6_state 64 = .ok (.aload_n 0, 1) := dec_at kDX6_state_0 18 rfl
theorem dX6_state_65 : decode cX6_state 65 = .ok (.getfield 19, 3) := dec_at kDX6_state_0 19 rfl
theorem dX6_state_68 : decode cX6_state 68 = .ok (.invokevirtual 112, 3) := dec_at kDX6_state_0 20 rfl
theorem dX6_state_71 : decode cX6_state 71 = .ok (.iload_n 1, 1) := dec_at kDX6_state_0 21 rfl
theorem dX6_state_72 : decode cX6_state 72 = .ok (.invokestatic 149, 3) := dec_at kDX6_state_0 22 rfl
theorem dX6_state_75 : decode cX6_state 75 = .ok (.ifCond .eq 7, 3) := dec_at kDX6_state_0 23 rfl
theorem dX6_state_78 : decode cX6_state 78 = .ok (.iconst 1, 1) := dec_at kDX6_state_0 24 rfl
theorem dX6_state_79 : decode cX6_state 79 = .ok (.goto 4, 3) := dec_at kDX6_state_0 25 rfl
theorem dX6_state_82 : decode cX6_state 82 = .ok (.iconst 0, 1) := dec_at kDX6_state_0 26 rfl
theorem dX6_state_83 : decode cX6_state 83 = .ok (.ireturn, 1) := dec_at kDX6_state_0 27 rfl
theorem dX6_state_84 : decode cX6_state 84 = .ok (.aload_n 0, 1) := dec_at kDX6_state_0 28 rfl
theorem dX6_state_85 : decode cX6_state 85 = .ok (.getfield 19, 3) := dec_at kDX6_state_0 29 rfl
theorem dX6_state_88 : decode cX6_state 88 = .ok (.invokevirtual 122, 3) := dec_at kDX6_state_0 30 rfl
theorem dX6_state_91 : decode cX6_state 91 = .ok (.iload_n 1, 1) := dec_at kDX6_state_0 31 rfl
theorem dX6_state_92 : decode cX6_state 92 = .ok (.invokestatic 149, 3) := dec_at kDX6_state_0 32 rfl
theorem dX6_state_95 : decode cX6_state 95 = .ok (.ifCond .eq 7, 3) := dec_at kDX6_state_0 33 rfl
theorem dX6_state_98 : decode cX6_state 98 = .ok (.iconst 1, 1) := dec_at kDX6_state_0 34 rfl
theorem dX6_state_99 : decode cX6_state 99 = .ok (.goto 4, 3) := dec_at kDX6_state_0 35 rfl
theorem dX6_state_102 : decode cX6_state 102 = .ok (.iconst 0, 1) := dec_at kDX6_state_0 36 rfl
theorem dX6_state_103 : decode cX6_state 103 = .ok (.ireturn, 1) := dec_at kDX6_state_0 37 rfl
theorem dX6_state_104 : decode cX6_state 104 = .ok (.aload_n 0, 1) := dec_at kDX6_state_0 38 rfl
theorem dX6_state_105 : decode cX6_state 105 = .ok (.getfield 28, 3) := dec_at kDX6_state_0 39 rfl
theorem dX6_state_108 : decode cX6_state 108 = .ok (.iload_n 1, 1) := dec_at kDX6_state_0 40 rfl
theorem dX6_state_109 : decode cX6_state 109 = .ok (.invokevirtual 153, 3) := dec_at kDX6_state_0 41 rfl
theorem dX6_state_112 : decode cX6_state 112 = .ok (.ireturn, 1) := dec_at kDX6_state_0 42 rfl
theorem dX6_state_113 : decode cX6_state 113 = .ok (.aload_n 0, 1) := dec_at kDX6_state_0 43 rfl
theorem dX6_state_114 : decode cX6_state 114 = .ok (.getfield 28, 3) := dec_at kDX6_state_0 44 rfl
theorem dX6_state_117 : decode cX6_state 117 = .ok (.iload_n 1, 1) := dec_at kDX6_state_0 45 rfl
theorem dX6_state_118 : decode cX6_state 118 = .ok (.invokevirtual 156, 3) := dec_at kDX6_state_0 46 rfl
theorem dX6_state_121 : decode cX6_state 121 = .ok (.ireturn, 1) := dec_at kDX6_state_0 47 rfl
theorem dX6_state_122 : decode cX6_state 122 = .ok (.aload_n 0, 1) := dec_at kDX6_state_0 48 rfl
theorem dX6_state_123 : decode cX6_state 123 = .ok (.getfield 28, 3) := dec_at kDX6_state_0 49 rfl
def DX6_state_50 : List (Nat × (Instr × Nat)) := [(126, (.iload_n 1, 1)), (127, (.invokevirtual 159, 3)), (130, (.ireturn, 1))]
theorem kDX6_state_50 : DX6_state_50.all (fun q => decide (decode cX6_state q.1 = .ok q.2)) = true := by decide +kernel
theorem dX6_state_126 : decode cX6_state 126 = .ok (.iload_n 1, 1) := dec_at kDX6_state_50 0 rfl
theorem dX6_state_127 : decode cX6_state 127 = .ok (.invokevirtual 159, 3) := dec_at kDX6_state_50 1 rfl
theorem dX6_state_130 : decode cX6_state 130 = .ok (.ireturn, 1) := dec_at kDX6_state_50 2 rfl
def DX6_system_0 : List (Nat × (Instr × Nat)) := [(0, (.iload_n 1, 1)), (1, (.ifCond .lt 9, 3)), (4, (.iload_n 1, 1)), (5, (.bipush 10, 2)), (7, (.if_icmp .lt 13, 3)), (10, (.new 48, 3)), (13, (.dup, 1)), (14, (.ldc 162, 2)), (16, (.invokespecial 52, 3)), (19, (.athrow, 1)), (20, (.aload_n 0, 1)), (21, (.getfield 28, 3)), (24, (.invokevirtual 146, 3)), (27, (.iload_n 1, 1)), (28, (.tableswitch 133 0 8 #[52, 60, 68, 76, 87, 98, 109, 117, 125], 52)), (80, (.aload_n 0, 1)), (81, (.getfield 19, 3)), (84, (.getfield 84, 3)), (87, (.ireturn, 1)), (88, (.aload_n 0, 1)), (89, (.getfield 19, 3)), (92, (.getfield 87, 3)), (95, (.ireturn, 1)), (96, (.aload_n 0, 1)), (97, (.getfield 19, 3)), (100, (.getfield 62, 3)), (103, (.ireturn, 1)), (104, (.aload_n 0, 1)), (105, (.getfield 19, 3)), (108, (.invokevirtual 112, 3)), (111, (.invokestatic 116, 3)), (114, (.ireturn, 1)), (115, (.aload_n 0, 1)), (116, (.getfield 19, 3)), (119, (.invokevirtual 122, 3)), (122, (.invokestatic 116, 3)), (125, (.ireturn, 1)), (126, (.aload_n 0, 1)), (127, (.getfield 28, 3)), (130, (.getfield 164, 3)), (133, (.invokestatic 116, 3)), (136, (.ireturn, 1)), (137, (.aload_n 0, 1)), (138, (.getfield 28, 3)), (141, (.getfield 168, 3)), (144, (.ireturn, 1)), (145, (.aload_n 0, 1)), (146, (.getfield 28, 3)), (149, (.invokevirtual 171, 3)), (152, (.ireturn, 1))]
theorem kDX6_system_0 : DX6_system_0.all (fun q => decide (decode cX6_system q.1 = .ok q.2)) = true := by decide +kernel
theorem dX6_system_0 : decode cX6_system 0 = .ok (.iload_n 1, 1) := dec_at kDX6_system_0 0 rfl
theorem dX6_system_1 : decode cX6_system 1 = .ok (.ifCond .lt 9, 3) := dec_at kDX6_system_0 1 rfl
theorem dX6_system_4 : decode cX6_system 4 = .ok (.iload_n 1, 1) := dec_at kDX6_system_0 2 rfl
theorem dX6_system_5 : decode cX6_system 5 = .ok (.bipush 10, 2) := dec_at kDX6_system_0 3 rfl
theorem dX6_system_7 : decode cX6_system 7 = .ok (.if_icmp .lt 13, 3) := dec_at kDX6_system_0 4 rfl
theorem dX6_system_10 : decode cX6_system 10 = .ok (.new 48, 3) := dec_at kDX6_system_0 5 rfl
theorem dX6_system_13 : decode cX6_system 13 = .ok (.dup, 1) := dec_at kDX6_system_0 6 rfl
theorem dX6_system_14 : decode cX6_system 14 = .ok (.ldc 162, 2) := dec_at kDX6_system_0 7 rfl
theorem dX6_system_16 : decode cX6_system 16 = .ok (.invokespecial 52, 3) := dec_at kDX6_system_0 8 rfl
theorem dX6_system_19 : decode cX6_system 19 = .ok (.athrow, 1) := dec_at kDX6_system_0 9 rfl
theorem dX6_system_20 : decode cX6_system 20 = .ok (.aload_n 0, 1) := dec_at kDX6_system_0 10 rfl
theorem dX6_system_21 : decode cX6_system 21 = .ok (.getfield 28, 3) := dec_at kDX6_system_0 11 rfl
theorem dX6_system_24 : decode cX6_system 24 = .ok (.invokevirtual 146, 3) := dec_at kDX6_system_0 12 rfl
theorem dX6_system_27 : decode cX6_system 27 = .ok (.iload_n 1, 1) := dec_at kDX6_system_0 13 rfl
theorem dX6_system_28 : decode cX6_system 28 = .ok (.tableswitch 133 0 8 #[52, 60, 68, 76, 87, 98, 109, 117, 125], 52) := dec_at kDX6_system_0 14 rfl
theorem dX6_system_80 : decode cX6_system 80 = .ok (.aload_n 0, 1) := dec_at kDX6_system_0 15 rfl
theorem dX6_system_81 : decode cX6_system 81 = .ok (.getfield 19, 3) := dec_at kDX6_system_0 16 rfl
theorem dX6_system_84 : decode cX6_system 84 = .ok (.getfield 84, 3) := dec_at kDX6_system_0 17 rfl
theorem dX6_system_87 : decode cX6_system 87 = .ok (.ireturn, 1) := dec_at kDX6_system_0 18 rfl
theorem dX6_system_88 : decode cX6_system 88 = .ok (.aload_n 0, 1) := dec_at kDX6_system_0 19 rfl
theorem dX6_system_89 : decode cX6_system 89 = .ok (.getfield 19, 3) := dec_at kDX6_system_0 20 rfl
theorem dX6_system_92 : decode cX6_system 92 = .ok (.getfield 87, 3) := dec_at kDX6_system_0 21 rfl
theorem dX6_system_95 : decode cX6_system 95 = .ok (.ireturn, 1) := dec_at kDX6_system_0 22 rfl
theorem dX6_system_96 : decode cX6_system 96 = .ok (.aload_n 0, 1) := dec_at kDX6_system_0 23 rfl
theorem dX6_system_97 : decode cX6_system 97 = .ok (.getfield 19, 3) := dec_at kDX6_system_0 24 rfl
theorem dX6_system_100 : decode cX6_system 100 = .ok (.getfield 62, 3) := dec_at kDX6_system_0 25 rfl
theorem dX6_system_103 : decode cX6_system 103 = .ok (.ireturn, 1) := dec_at kDX6_system_0 26 rfl
theorem dX6_system_104 : decode cX6_system 104 = .ok (.aload_n 0, 1) := dec_at kDX6_system_0 27 rfl
theorem dX6_system_105 : decode cX6_system 105 = .ok (.getfield 19, 3) := dec_at kDX6_system_0 28 rfl
theorem dX6_system_108 : decode cX6_system 108 = .ok (.invokevirtual 112, 3) := dec_at kDX6_system_0 29 rfl
theorem dX6_system_111 : decode cX6_system 111 = .ok (.invokestatic 116, 3) := dec_at kDX6_system_0 30 rfl
theorem dX6_system_114 : decode cX6_system 114 = .ok (.ireturn, 1) := dec_at kDX6_system_0 31 rfl
theorem dX6_system_115 : decode cX6_system 115 = .ok (.aload_n 0, 1) := dec_at kDX6_system_0 32 rfl
theorem dX6_system_116 : decode cX6_system 116 = .ok (.getfield 19, 3) := dec_at kDX6_system_0 33 rfl
theorem dX6_system_119 : decode cX6_system 119 = .ok (.invokevirtual 122, 3) := dec_at kDX6_system_0 34 rfl
theorem dX6_system_122 : decode cX6_system 122 = .ok (.invokestatic 116, 3) := dec_at kDX6_system_0 35 rfl
theorem dX6_system_125 : decode cX6_system 125 = .ok (.ireturn, 1) := dec_at kDX6_system_0 36 rfl
theorem dX6_system_126 : decode cX6_system 126 = .ok (.aload_n 0, 1) := dec_at kDX6_system_0 37 rfl
theorem dX6_system_127 : decode cX6_system 127 = .ok (.getfield 28, 3) := dec_at kDX6_system_0 38 rfl
theorem dX6_system_130 : decode cX6_system 130 = .ok (.getfield 164, 3) := dec_at kDX6_system_0 39 rfl
theorem dX6_system_133 : decode cX6_system 133 = .ok (.invokestatic 116, 3) := dec_at kDX6_system_0 40 rfl
theorem dX6_system_136 : decode cX6_system 136 = .ok (.ireturn, 1) := dec_at kDX6_system_0 41 rfl
theorem dX6_system_137 : decode cX6_system 137 = .ok (.aload_n 0, 1) := dec_at kDX6_system_0 42 rfl
theorem dX6_system_138 : decode cX6_system 138 = .ok (.getfield 28, 3) := dec_at kDX6_system_0 43 rfl
theorem dX6_system_141 : decode cX6_system 141 = .ok (.getfield 168, 3) := dec_at kDX6_system_0 44 rfl
theorem dX6_system_144 : decode cX6_system 144 = .ok (.ireturn, 1) := dec_at kDX6_system_0 45 rfl
theorem dX6_system_145 : decode cX6_system 145 = .ok (.aload_n 0, 1) := dec_at kDX6_system_0 46 rfl
theorem dX6_system_146 : decode cX6_system 146 = .ok (.getfield 28, 3) := dec_at kDX6_system_0 47 rfl
theorem dX6_system_149 : decode cX6_system 149 = .ok (.invokevirtual 171, 3) := dec_at kDX6_system_0 48 rfl
theorem dX6_system_152 : decode cX6_system 152 = .ok (.ireturn, 1) := dec_at kDX6_system_0 49 rfl
def DX6_system_50 : List (Nat × (Instr × Nat)) := [(153, (.aload_n 0, 1)), (154, (.getfield 19, 3)), (157, (.getfield 125, 3)), (160, (.ireturn, 1)), (161, (.aload_n 0, 1)), (162, (.getfield 28, 3)), (165, (.getfield 175, 3)), (168, (.ireturn, 1))]
theorem kDX6_system_50 : DX6_system_50.all (fun q => decide (decode cX6_system q.1 = .ok q.2)) = true := by decide +kernel
theorem dX6_system_153 : decode cX6_system 153 = .ok (.aload_n 0, 1) := dec_at kDX6_system_50 0 rfl
theorem dX6_system_154 : decode cX6_system 154 = .ok (.getfield 19, 3) := dec_at kDX6_system_50 1 rfl
theorem dX6_system_157 : decode cX6_system 157 = .ok (.getfield 125, 3) := dec_at kDX6_system_50 2 rfl
theorem dX6_system_160 : decode cX6_system 160 = .ok (.ireturn, 1) := dec_at kDX6_system_50 3 rfl
theorem dX6_system_161 : decode cX6_system 161 = .ok (.aload_n 0, 1) := dec_at kDX6_system_50 4 rfl
theorem dX6_system_162 : decode cX6_system 162 = .ok (.getfield 28, 3) := dec_at kDX6_system_50 5 rfl
theorem dX6_system_165 : decode cX6_system 165 = .ok (.getfield 175, 3) := dec_at kDX6_system_50 6 rfl
theorem dX6_system_168 : decode cX6_system 168 = .ok (.ireturn, 1) := dec_at kDX6_system_50 7 rfl
def DX6_shortest_0 : List (Nat × (Instr × Nat)) := [(0, (.aload_n 0, 1)), (1, (.getfield 28, 3)), (4, (.invokevirtual 146, 3)), (7, (.aload_n 0, 1)), (8, (.getfield 28, 3)), (11, (.getfield 175, 3)), (14, (.istore_n 3, 1)), (15, (.iload_n 3, 1)), (16, (.iconst (-1), 1)), (17, (.if_icmp .ne 13, 3)), (20, (.new 72, 3)), (23, (.dup, 1)), (24, (.ldc 178, 2)), (26, (.invokespecial 76, 3)), (29, (.athrow, 1)), (30, (.iload_n 1, 1)), (31, (.ifCond .lt 8, 3)), (34, (.iload_n 1, 1)), (35, (.iload_n 3, 1)), (36, (.if_icmp .le 13, 3)), (39, (.new 94, 3)), (42, (.dup, 1)), (43, (.ldc 180, 2)), (45, (.invokespecial 98, 3)), (48, (.athrow, 1)), (49, (.iload_n 2, 1)), (50, (.ifCond .lt 8, 3)), (53, (.iload_n 2, 1)), (54, (.iconst 1, 1)), (55, (.if_icmp .le 13, 3)), (58, (.new 48, 3)), (61, (.dup, 1)), (62, (.ldc 182, 2)), (64, (.invokespecial 52, 3)), (67, (.athrow, 1)), (68, (.aload_n 0, 1)), (69, (.getfield 28, 3)), (72, (.iload_n 1, 1)), (73, (.invokevirtual 184, 3)), (76, (.istore 4, 2)), (78, (.iload_n 2, 1)), (79, (.ifCond .ne 6, 3)), (82, (.iload 4, 2)), (84, (.ireturn, 1)), (85, (.iload_n 1, 1)), (86, (.iload_n 3, 1)), (87, (.if_icmp .ne 7, 3)), (90, (.iconst (-1), 1)), (91, (.goto 12, 3)), (94, (.aload_n 0, 1))]
theorem kDX6_shortest_0 : DX6_shortest_0.all (fun q => decide (decode cX6_shortest q.1 = .ok q.2)) = true := by decide +kernel
theorem dX6_shortest_0 : decode cX6_shortest 0 = .ok (.aload_n 0, 1) := dec_at kDX6_shortest_0 0 rfl
theorem dX6_shortest_1 : decode cX6_shortest 1 = .ok (.getfield 28, 3) := dec_at kDX6_shortest_0 1 rfl
theorem dX6_shortest_4 : decode cX6_shortest 4 = .ok (.invokevirtual 146, 3) := dec_at kDX6_shortest_0 2 rfl
theorem dX6_shortest_7 : decode cX6_shortest 7 = .ok (.aload_n 0, 1) := dec_at kDX6_shortest_0 3 rfl
theorem dX6_shortest_8 : decode cX6_shortest 8 = .ok (.getfield 28, 3) := dec_at kDX6_shortest_0 4 rfl
theorem dX6_shortest_11 : decode cX6_shortest 11 = .ok (.getfield 175, 3) := dec_at kDX6_shortest_0 5 rfl
theorem dX6_shortest_14 : decode cX6_shortest 14 = .ok (.istore_n 3, 1) := dec_at kDX6_shortest_0 6 rfl
theorem dX6_shortest_15 : decode cX6_shortest 15 = .ok (.iload_n 3, 1) := dec_at kDX6_shortest_0 7 rfl
theorem dX6_shortest_16 : decode cX6_shortest 16 = .ok (.iconst (-1), 1) := dec_at kDX6_shortest_0 8 rfl
theorem dX6_shortest_17 : decode cX6_shortest 17 = .ok (.if_icmp .ne 13, 3) := dec_at kDX6_shortest_0 9 rfl
theorem dX6_shortest_20 : decode cX6_shortest 20 = .ok (.new 72, 3) := dec_at kDX6_shortest_0 10 rfl
theorem dX6_shortest_23 : decode cX6_shortest 23 = .ok (.dup, 1) := dec_at kDX6_shortest_0 11 rfl
theorem dX6_shortest_24 : decode cX6_shortest 24 = .ok (.ldc 178, 2) := dec_at kDX6_shortest_0 12 rfl
theorem dX6_shortest_26 : decode cX6_shortest 26 = .ok (.invokespecial 76, 3) := dec_at kDX6_shortest_0 13 rfl
theorem dX6_shortest_29 : decode cX6_shortest 29 = .ok (.athrow, 1) := dec_at kDX6_shortest_0 14 rfl
theorem dX6_shortest_30 : decode cX6_shortest 30 = .ok (.iload_n 1, 1) := dec_at kDX6_shortest_0 15 rfl
theorem dX6_shortest_31 : decode cX6_shortest 31 = .ok (.ifCond .lt 8, 3) := dec_at kDX6_shortest_0 16 rfl
theorem dX6_shortest_34 : decode cX6_shortest 34 = .ok (.iload_n 1, 1) := dec_at kDX6_shortest_0 17 rfl
theorem dX6_shortest_35 : decode cX6_shortest 35 = .ok (.iload_n 3, 1) := dec_at kDX6_shortest_0 18 rfl
theorem dX6_shortest_36 : decode cX6_shortest 36 = .ok (.if_icmp .le 13, 3) := dec_at kDX6_shortest_0 19 rfl
theorem dX6_shortest_39 : decode cX6_shortest 39 = .ok (.new 94, 3) := dec_at kDX6_shortest_0 20 rfl
theorem dX6_shortest_42 : decode cX6_shortest 42 = .ok (.dup, 1) := dec_at kDX6_shortest_0 21 rfl
theorem dX6_shortest_43 : decode cX6_shortest 43 = .ok (.ldc 180, 2) := dec_at kDX6_shortest_0 22 rfl
theorem dX6_shortest_45 : decode cX6_shortest 45 = .ok (.invokespecial 98, 3) := dec_at kDX6_shortest_0 23 rfl
theorem dX6_shortest_48 : decode cX6_shortest 48 = .ok (.athrow, 1) := dec_at kDX6_shortest_0 24 rfl
theorem dX6_shortest_49 : decode cX6_shortest 49 = .ok (.iload_n 2, 1) := dec_at kDX6_shortest_0 25 rfl
theorem dX6_shortest_50 : decode cX6_shortest 50 = .ok (.ifCond .lt 8, 3) := dec_at kDX6_shortest_0 26 rfl
theorem dX6_shortest_53 : decode cX6_shortest 53 = .ok (.iload_n 2, 1) := dec_at kDX6_shortest_0 27 rfl
theorem dX6_shortest_54 : decode cX6_shortest 54 = .ok (.iconst 1, 1) := dec_at kDX6_shortest_0 28 rfl
theorem dX6_shortest_55 : decode cX6_shortest 55 = .ok (.if_icmp .le 13, 3) := dec_at kDX6_shortest_0 29 rfl
theorem dX6_shortest_58 : decode cX6_shortest 58 = .ok (.new 48, 3) := dec_at kDX6_shortest_0 30 rfl
theorem dX6_shortest_61 : decode cX6_shortest 61 = .ok (.dup, 1) := dec_at kDX6_shortest_0 31 rfl
theorem dX6_shortest_62 : decode cX6_shortest 62 = .ok (.ldc 182, 2) := dec_at kDX6_shortest_0 32 rfl
theorem dX6_shortest_64 : decode cX6_shortest 64 = .ok (.invokespecial 52, 3) := dec_at kDX6_shortest_0 33 rfl
theorem dX6_shortest_67 : decode cX6_shortest 67 = .ok (.athrow, 1) := dec_at kDX6_shortest_0 34 rfl
theorem dX6_shortest_68 : decode cX6_shortest 68 = .ok (.aload_n 0, 1) := dec_at kDX6_shortest_0 35 rfl
theorem dX6_shortest_69 : decode cX6_shortest 69 = .ok (.getfield 28, 3) := dec_at kDX6_shortest_0 36 rfl
theorem dX6_shortest_72 : decode cX6_shortest 72 = .ok (.iload_n 1, 1) := dec_at kDX6_shortest_0 37 rfl
theorem dX6_shortest_73 : decode cX6_shortest 73 = .ok (.invokevirtual 184, 3) := dec_at kDX6_shortest_0 38 rfl
theorem dX6_shortest_76 : decode cX6_shortest 76 = .ok (.istore 4, 2) := dec_at kDX6_shortest_0 39 rfl
theorem dX6_shortest_78 : decode cX6_shortest 78 = .ok (.iload_n 2, 1) := dec_at kDX6_shortest_0 40 rfl
theorem dX6_shortest_79 : decode cX6_shortest 79 = .ok (.ifCond .ne 6, 3) := dec_at kDX6_shortest_0 41 rfl
theorem dX6_shortest_82 : decode cX6_shortest 82 = .ok (.iload 4, 2) := dec_at kDX6_shortest_0 42 rfl
theorem dX6_shortest_84 : decode cX6_shortest 84 = .ok (.ireturn, 1) := dec_at kDX6_shortest_0 43 rfl
theorem dX6_shortest_85 : decode cX6_shortest 85 = .ok (.iload_n 1, 1) := dec_at kDX6_shortest_0 44 rfl
theorem dX6_shortest_86 : decode cX6_shortest 86 = .ok (.iload_n 3, 1) := dec_at kDX6_shortest_0 45 rfl
theorem dX6_shortest_87 : decode cX6_shortest 87 = .ok (.if_icmp .ne 7, 3) := dec_at kDX6_shortest_0 46 rfl
theorem dX6_shortest_90 : decode cX6_shortest 90 = .ok (.iconst (-1), 1) := dec_at kDX6_shortest_0 47 rfl
theorem dX6_shortest_91 : decode cX6_shortest 91 = .ok (.goto 12, 3) := dec_at kDX6_shortest_0 48 rfl
theorem dX6_shortest_94 : decode cX6_shortest 94 = .ok (.aload_n 0, 1) := dec_at kDX6_shortest_0 49 rfl
def DX6_shortest_50 : List (Nat × (Instr × Nat)) := [(95, (.getfield 28, 3)), (98, (.iload 4, 2)), (100, (.invokevirtual 187, 3)), (103, (.ireturn, 1))]
theorem kDX6_shortest_50 : DX6_shortest_50.all (fun q => decide (decode cX6_shortest q.1 = .ok q.2)) = true := by decide +kernel
theorem dX6_shortest_95 : decode cX6_shortest 95 = .ok (.getfield 28, 3) := dec_at kDX6_shortest_50 0 rfl
theorem dX6_shortest_98 : decode cX6_shortest 98 = .ok (.iload 4, 2) := dec_at kDX6_shortest_50 1 rfl
theorem dX6_shortest_100 : decode cX6_shortest 100 = .ok (.invokevirtual 187, 3) := dec_at kDX6_shortest_50 2 rfl
theorem dX6_shortest_103 : decode cX6_shortest 103 = .ok (.ireturn, 1) := dec_at kDX6_shortest_50 3 rfl
def DX6_candidate_0 : List (Nat × (Instr × Nat)) := [(0, (.aload_n 0, 1)), (1, (.invokevirtual 109, 3)), (4, (.aload_n 0, 1)), (5, (.invokevirtual 190, 3)), (8, (.lreturn, 1))]
theorem kDX6_candidate_0 : DX6_candidate_0.all (fun q => decide (decode cX6_candidate q.1 = .ok q.2)) = true := by decide +kernel
theorem dX6_candidate_0 : decode cX6_candidate 0 = .ok (.aload_n 0, 1) := dec_at kDX6_candidate_0 0 rfl
theorem dX6_candidate_1 : decode cX6_candidate 1 = .ok (.invokevirtual 109, 3) := dec_at kDX6_candidate_0 1 rfl
theorem dX6_candidate_4 : decode cX6_candidate 4 = .ok (.aload_n 0, 1) := dec_at kDX6_candidate_0 2 rfl
theorem dX6_candidate_5 : decode cX6_candidate 5 = .ok (.invokevirtual 190, 3) := dec_at kDX6_candidate_0 3 rfl
theorem dX6_candidate_8 : decode cX6_candidate 8 = .ok (.lreturn, 1) := dec_at kDX6_candidate_0 4 rfl
def DX6_check_0 : List (Nat × (Instr × Nat)) := [(0, (.aload_n 0, 1)), (1, (.invokevirtual 109, 3)), (4, (.aload_n 0, 1)), (5, (.getfield 28, 3)), (8, (.invokevirtual 146, 3)), (11, (.aload_n 0, 1)), (12, (.invokevirtual 190, 3)), (15, (.lstore_n 1, 1)), (16, (.iconst 0, 1)), (17, (.istore_n 3, 1)), (18, (.aload_n 0, 1)), (19, (.getfield 19, 3)), (22, (.invokevirtual 112, 3)), (25, (.lload_n 1, 1)), (26, (.ldc2_w 193, 3)), (29, (.lxor, 1)), (30, (.land, 1)), (31, (.lconst 0, 1)), (32, (.lcmp, 1)), (33, (.ifCond .eq 6, 3)), (36, (.iinc 3 1, 3)), (39, (.aload_n 0, 1)), (40, (.getfield 28, 3)), (43, (.lload_n 1, 1)), (44, (.invokevirtual 195, 3)), (47, (.lload_n 1, 1)), (48, (.ldc2_w 193, 3)), (51, (.lxor, 1)), (52, (.land, 1)), (53, (.lconst 0, 1)), (54, (.lcmp, 1)), (55, (.ifCond .eq 6, 3)), (58, (.iinc 3 2, 3)), (61, (.lload_n 1, 1)), (62, (.aload_n 0, 1)), (63, (.getfield 19, 3)), (66, (.invokevirtual 199, 3)), (69, (.land, 1)), (70, (.lconst 0, 1)), (71, (.lcmp, 1)), (72, (.ifCond .eq 6, 3)), (75, (.iinc 3 4, 3)), (78, (.iload_n 3, 1)), (79, (.ireturn, 1))]
theorem kDX6_check_0 : DX6_check_0.all (fun q => decide (decode cX6_check q.1 = .ok q.2)) = true := by decide +kernel
theorem dX6_check_0 : decode cX6_check 0 = .ok (.aload_n 0, 1) := dec_at kDX6_check_0 0 rfl
theorem dX6_check_1 : decode cX6_check 1 = .ok (.invokevirtual 109, 3) := dec_at kDX6_check_0 1 rfl
theorem dX6_check_4 : decode cX6_check 4 = .ok (.aload_n 0, 1) := dec_at kDX6_check_0 2 rfl
theorem dX6_check_5 : decode cX6_check 5 = .ok (.getfield 28, 3) := dec_at kDX6_check_0 3 rfl
theorem dX6_check_8 : decode cX6_check 8 = .ok (.invokevirtual 146, 3) := dec_at kDX6_check_0 4 rfl
theorem dX6_check_11 : decode cX6_check 11 = .ok (.aload_n 0, 1) := dec_at kDX6_check_0 5 rfl
theorem dX6_check_12 : decode cX6_check 12 = .ok (.invokevirtual 190, 3) := dec_at kDX6_check_0 6 rfl
theorem dX6_check_15 : decode cX6_check 15 = .ok (.lstore_n 1, 1) := dec_at kDX6_check_0 7 rfl
theorem dX6_check_16 : decode cX6_check 16 = .ok (.iconst 0, 1) := dec_at kDX6_check_0 8 rfl
theorem dX6_check_17 : decode cX6_check 17 = .ok (.istore_n 3, 1) := dec_at kDX6_check_0 9 rfl
theorem dX6_check_18 : decode cX6_check 18 = .ok (.aload_n 0, 1) := dec_at kDX6_check_0 10 rfl
theorem dX6_check_19 : decode cX6_check 19 = .ok (.getfield 19, 3) := dec_at kDX6_check_0 11 rfl
theorem dX6_check_22 : decode cX6_check 22 = .ok (.invokevirtual 112, 3) := dec_at kDX6_check_0 12 rfl
theorem dX6_check_25 : decode cX6_check 25 = .ok (.lload_n 1, 1) := dec_at kDX6_check_0 13 rfl
theorem dX6_check_26 : decode cX6_check 26 = .ok (.ldc2_w 193, 3) := dec_at kDX6_check_0 14 rfl
theorem dX6_check_29 : decode cX6_check 29 = .ok (.lxor, 1) := dec_at kDX6_check_0 15 rfl
theorem dX6_check_30 : decode cX6_check 30 = .ok (.land, 1) := dec_at kDX6_check_0 16 rfl
theorem dX6_check_31 : decode cX6_check 31 = .ok (.lconst 0, 1) := dec_at kDX6_check_0 17 rfl
theorem dX6_check_32 : decode cX6_check 32 = .ok (.lcmp, 1) := dec_at kDX6_check_0 18 rfl
theorem dX6_check_33 : decode cX6_check 33 = .ok (.ifCond .eq 6, 3) := dec_at kDX6_check_0 19 rfl
theorem dX6_check_36 : decode cX6_check 36 = .ok (.iinc 3 1, 3) := dec_at kDX6_check_0 20 rfl
theorem dX6_check_39 : decode cX6_check 39 = .ok (.aload_n 0, 1) := dec_at kDX6_check_0 21 rfl
theorem dX6_check_40 : decode cX6_check 40 = .ok (.getfield 28, 3) := dec_at kDX6_check_0 22 rfl
theorem dX6_check_43 : decode cX6_check 43 = .ok (.lload_n 1, 1) := dec_at kDX6_check_0 23 rfl
theorem dX6_check_44 : decode cX6_check 44 = .ok (.invokevirtual 195, 3) := dec_at kDX6_check_0 24 rfl
theorem dX6_check_47 : decode cX6_check 47 = .ok (.lload_n 1, 1) := dec_at kDX6_check_0 25 rfl
theorem dX6_check_48 : decode cX6_check 48 = .ok (.ldc2_w 193, 3) := dec_at kDX6_check_0 26 rfl
theorem dX6_check_51 : decode cX6_check 51 = .ok (.lxor, 1) := dec_at kDX6_check_0 27 rfl
theorem dX6_check_52 : decode cX6_check 52 = .ok (.land, 1) := dec_at kDX6_check_0 28 rfl
theorem dX6_check_53 : decode cX6_check 53 = .ok (.lconst 0, 1) := dec_at kDX6_check_0 29 rfl
theorem dX6_check_54 : decode cX6_check 54 = .ok (.lcmp, 1) := dec_at kDX6_check_0 30 rfl
theorem dX6_check_55 : decode cX6_check 55 = .ok (.ifCond .eq 6, 3) := dec_at kDX6_check_0 31 rfl
theorem dX6_check_58 : decode cX6_check 58 = .ok (.iinc 3 2, 3) := dec_at kDX6_check_0 32 rfl
theorem dX6_check_61 : decode cX6_check 61 = .ok (.lload_n 1, 1) := dec_at kDX6_check_0 33 rfl
theorem dX6_check_62 : decode cX6_check 62 = .ok (.aload_n 0, 1) := dec_at kDX6_check_0 34 rfl
theorem dX6_check_63 : decode cX6_check 63 = .ok (.getfield 19, 3) := dec_at kDX6_check_0 35 rfl
theorem dX6_check_66 : decode cX6_check 66 = .ok (.invokevirtual 199, 3) := dec_at kDX6_check_0 36 rfl
theorem dX6_check_69 : decode cX6_check 69 = .ok (.land, 1) := dec_at kDX6_check_0 37 rfl
theorem dX6_check_70 : decode cX6_check 70 = .ok (.lconst 0, 1) := dec_at kDX6_check_0 38 rfl
theorem dX6_check_71 : decode cX6_check 71 = .ok (.lcmp, 1) := dec_at kDX6_check_0 39 rfl
theorem dX6_check_72 : decode cX6_check 72 = .ok (.ifCond .eq 6, 3) := dec_at kDX6_check_0 40 rfl
theorem dX6_check_75 : decode cX6_check 75 = .ok (.iinc 3 4, 3) := dec_at kDX6_check_0 41 rfl
theorem dX6_check_78 : decode cX6_check 78 = .ok (.iload_n 3, 1) := dec_at kDX6_check_0 42 rfl
theorem dX6_check_79 : decode cX6_check 79 = .ok (.ireturn, 1) := dec_at kDX6_check_0 43 rfl
def DX6_escape_0 : List (Nat × (Instr × Nat)) := [(0, (.iload_n 1, 1)), (1, (.ifCond .lt 8, 3)), (4, (.iload_n 1, 1)), (5, (.iconst 2, 1)), (6, (.if_icmp .le 13, 3)), (9, (.new 48, 3)), (12, (.dup, 1)), (13, (.ldc 202, 2)), (15, (.invokespecial 52, 3)), (18, (.athrow, 1)), (19, (.aload_n 0, 1)), (20, (.invokevirtual 109, 3)), (23, (.aload_n 0, 1)), (24, (.getfield 28, 3)), (27, (.invokevirtual 146, 3)), (30, (.aload_n 0, 1)), (31, (.invokevirtual 190, 3)), (34, (.lstore_n 2, 1)), (35, (.lload_n 2, 1)), (36, (.aload_n 0, 1)), (37, (.getfield 28, 3)), (40, (.aload_n 0, 1)), (41, (.getfield 19, 3)), (44, (.getfield 204, 3)), (47, (.lload_n 2, 1)), (48, (.ldc2_w 193, 3)), (51, (.lxor, 1)), (52, (.land, 1)), (53, (.invokevirtual 207, 3)), (56, (.land, 1)), (57, (.invokestatic 210, 3)), (60, (.istore 4, 2)), (62, (.iload 4, 2)), (64, (.iconst (-1), 1)), (65, (.if_icmp .eq 7, 3)), (68, (.iload_n 1, 1)), (69, (.ifCond .ne 6, 3)), (72, (.iload 4, 2)), (74, (.ireturn, 1)), (75, (.aload_n 0, 1)), (76, (.getfield 28, 3)), (79, (.iload 4, 2)), (81, (.aload_n 0, 1)), (82, (.getfield 19, 3)), (85, (.getfield 204, 3)), (88, (.lload_n 2, 1)), (89, (.ldc2_w 193, 3)), (92, (.lxor, 1)), (93, (.land, 1)), (94, (.invokevirtual 213, 3))]
theorem kDX6_escape_0 : DX6_escape_0.all (fun q => decide (decode cX6_escape q.1 = .ok q.2)) = true := by decide +kernel
theorem dX6_escape_0 : decode cX6_escape 0 = .ok (.iload_n 1, 1) := dec_at kDX6_escape_0 0 rfl
theorem dX6_escape_1 : decode cX6_escape 1 = .ok (.ifCond .lt 8, 3) := dec_at kDX6_escape_0 1 rfl
theorem dX6_escape_4 : decode cX6_escape 4 = .ok (.iload_n 1, 1) := dec_at kDX6_escape_0 2 rfl
theorem dX6_escape_5 : decode cX6_escape 5 = .ok (.iconst 2, 1) := dec_at kDX6_escape_0 3 rfl
theorem dX6_escape_6 : decode cX6_escape 6 = .ok (.if_icmp .le 13, 3) := dec_at kDX6_escape_0 4 rfl
theorem dX6_escape_9 : decode cX6_escape 9 = .ok (.new 48, 3) := dec_at kDX6_escape_0 5 rfl
theorem dX6_escape_12 : decode cX6_escape 12 = .ok (.dup, 1) := dec_at kDX6_escape_0 6 rfl
theorem dX6_escape_13 : decode cX6_escape 13 = .ok (.ldc 202, 2) := dec_at kDX6_escape_0 7 rfl
theorem dX6_escape_15 : decode cX6_escape 15 = .ok (.invokespecial 52, 3) := dec_at kDX6_escape_0 8 rfl
theorem dX6_escape_18 : decode cX6_escape 18 = .ok (.athrow, 1) := dec_at kDX6_escape_0 9 rfl
theorem dX6_escape_19 : decode cX6_escape 19 = .ok (.aload_n 0, 1) := dec_at kDX6_escape_0 10 rfl
theorem dX6_escape_20 : decode cX6_escape 20 = .ok (.invokevirtual 109, 3) := dec_at kDX6_escape_0 11 rfl
theorem dX6_escape_23 : decode cX6_escape 23 = .ok (.aload_n 0, 1) := dec_at kDX6_escape_0 12 rfl
theorem dX6_escape_24 : decode cX6_escape 24 = .ok (.getfield 28, 3) := dec_at kDX6_escape_0 13 rfl
theorem dX6_escape_27 : decode cX6_escape 27 = .ok (.invokevirtual 146, 3) := dec_at kDX6_escape_0 14 rfl
theorem dX6_escape_30 : decode cX6_escape 30 = .ok (.aload_n 0, 1) := dec_at kDX6_escape_0 15 rfl
theorem dX6_escape_31 : decode cX6_escape 31 = .ok (.invokevirtual 190, 3) := dec_at kDX6_escape_0 16 rfl
theorem dX6_escape_34 : decode cX6_escape 34 = .ok (.lstore_n 2, 1) := dec_at kDX6_escape_0 17 rfl
theorem dX6_escape_35 : decode cX6_escape 35 = .ok (.lload_n 2, 1) := dec_at kDX6_escape_0 18 rfl
theorem dX6_escape_36 : decode cX6_escape 36 = .ok (.aload_n 0, 1) := dec_at kDX6_escape_0 19 rfl
theorem dX6_escape_37 : decode cX6_escape 37 = .ok (.getfield 28, 3) := dec_at kDX6_escape_0 20 rfl
theorem dX6_escape_40 : decode cX6_escape 40 = .ok (.aload_n 0, 1) := dec_at kDX6_escape_0 21 rfl
theorem dX6_escape_41 : decode cX6_escape 41 = .ok (.getfield 19, 3) := dec_at kDX6_escape_0 22 rfl
theorem dX6_escape_44 : decode cX6_escape 44 = .ok (.getfield 204, 3) := dec_at kDX6_escape_0 23 rfl
theorem dX6_escape_47 : decode cX6_escape 47 = .ok (.lload_n 2, 1) := dec_at kDX6_escape_0 24 rfl
theorem dX6_escape_48 : decode cX6_escape 48 = .ok (.ldc2_w 193, 3) := dec_at kDX6_escape_0 25 rfl
theorem dX6_escape_51 : decode cX6_escape 51 = .ok (.lxor, 1) := dec_at kDX6_escape_0 26 rfl
theorem dX6_escape_52 : decode cX6_escape 52 = .ok (.land, 1) := dec_at kDX6_escape_0 27 rfl
theorem dX6_escape_53 : decode cX6_escape 53 = .ok (.invokevirtual 207, 3) := dec_at kDX6_escape_0 28 rfl
theorem dX6_escape_56 : decode cX6_escape 56 = .ok (.land, 1) := dec_at kDX6_escape_0 29 rfl
theorem dX6_escape_57 : decode cX6_escape 57 = .ok (.invokestatic 210, 3) := dec_at kDX6_escape_0 30 rfl
theorem dX6_escape_60 : decode cX6_escape 60 = .ok (.istore 4, 2) := dec_at kDX6_escape_0 31 rfl
theorem dX6_escape_62 : decode cX6_escape 62 = .ok (.iload 4, 2) := dec_at kDX6_escape_0 32 rfl
theorem dX6_escape_64 : decode cX6_escape 64 = .ok (.iconst (-1), 1) := dec_at kDX6_escape_0 33 rfl
theorem dX6_escape_65 : decode cX6_escape 65 = .ok (.if_icmp .eq 7, 3) := dec_at kDX6_escape_0 34 rfl
theorem dX6_escape_68 : decode cX6_escape 68 = .ok (.iload_n 1, 1) := dec_at kDX6_escape_0 35 rfl
theorem dX6_escape_69 : decode cX6_escape 69 = .ok (.ifCond .ne 6, 3) := dec_at kDX6_escape_0 36 rfl
theorem dX6_escape_72 : decode cX6_escape 72 = .ok (.iload 4, 2) := dec_at kDX6_escape_0 37 rfl
theorem dX6_escape_74 : decode cX6_escape 74 = .ok (.ireturn, 1) := dec_at kDX6_escape_0 38 rfl
theorem dX6_escape_75 : decode cX6_escape 75 = .ok (.aload_n 0, 1) := dec_at kDX6_escape_0 39 rfl
theorem dX6_escape_76 : decode cX6_escape 76 = .ok (.getfield 28, 3) := dec_at kDX6_escape_0 40 rfl
theorem dX6_escape_79 : decode cX6_escape 79 = .ok (.iload 4, 2) := dec_at kDX6_escape_0 41 rfl
theorem dX6_escape_81 : decode cX6_escape 81 = .ok (.aload_n 0, 1) := dec_at kDX6_escape_0 42 rfl
theorem dX6_escape_82 : decode cX6_escape 82 = .ok (.getfield 19, 3) := dec_at kDX6_escape_0 43 rfl
theorem dX6_escape_85 : decode cX6_escape 85 = .ok (.getfield 204, 3) := dec_at kDX6_escape_0 44 rfl
theorem dX6_escape_88 : decode cX6_escape 88 = .ok (.lload_n 2, 1) := dec_at kDX6_escape_0 45 rfl
theorem dX6_escape_89 : decode cX6_escape 89 = .ok (.ldc2_w 193, 3) := dec_at kDX6_escape_0 46 rfl
theorem dX6_escape_92 : decode cX6_escape 92 = .ok (.lxor, 1) := dec_at kDX6_escape_0 47 rfl
theorem dX6_escape_93 : decode cX6_escape 93 = .ok (.land, 1) := dec_at kDX6_escape_0 48 rfl
theorem dX6_escape_94 : decode cX6_escape 94 = .ok (.invokevirtual 213, 3) := dec_at kDX6_escape_0 49 rfl
def DX6_escape_50 : List (Nat × (Instr × Nat)) := [(97, (.istore 5, 2)), (99, (.iload_n 1, 1)), (100, (.iconst 1, 1)), (101, (.if_icmp .eq 9, 3)), (104, (.iload 5, 2)), (106, (.iconst (-1), 1)), (107, (.if_icmp .ne 8, 3)), (110, (.iload 5, 2)), (112, (.goto 14, 3)), (115, (.aload_n 0, 1)), (116, (.getfield 19, 3)), (119, (.iload 4, 2)), (121, (.iload 5, 2)), (123, (.invokevirtual 141, 3)), (126, (.ireturn, 1))]
theorem kDX6_escape_50 : DX6_escape_50.all (fun q => decide (decode cX6_escape q.1 = .ok q.2)) = true := by decide +kernel
theorem dX6_escape_97 : decode cX6_escape 97 = .ok (.istore 5, 2) := dec_at kDX6_escape_50 0 rfl
theorem dX6_escape_99 : decode cX6_escape 99 = .ok (.iload_n 1, 1) := dec_at kDX6_escape_50 1 rfl
theorem dX6_escape_100 : decode cX6_escape 100 = .ok (.iconst 1, 1) := dec_at kDX6_escape_50 2 rfl
theorem dX6_escape_101 : decode cX6_escape 101 = .ok (.if_icmp .eq 9, 3) := dec_at kDX6_escape_50 3 rfl
theorem dX6_escape_104 : decode cX6_escape 104 = .ok (.iload 5, 2) := dec_at kDX6_escape_50 4 rfl
theorem dX6_escape_106 : decode cX6_escape 106 = .ok (.iconst (-1), 1) := dec_at kDX6_escape_50 5 rfl
theorem dX6_escape_107 : decode cX6_escape 107 = .ok (.if_icmp .ne 8, 3) := dec_at kDX6_escape_50 6 rfl
theorem dX6_escape_110 : decode cX6_escape 110 = .ok (.iload 5, 2) := dec_at kDX6_escape_50 7 rfl
theorem dX6_escape_112 : decode cX6_escape 112 = .ok (.goto 14, 3) := dec_at kDX6_escape_50 8 rfl
theorem dX6_escape_115 : decode cX6_escape 115 = .ok (.aload_n 0, 1) := dec_at kDX6_escape_50 9 rfl
theorem dX6_escape_116 : decode cX6_escape 116 = .ok (.getfield 19, 3) := dec_at kDX6_escape_50 10 rfl
theorem dX6_escape_119 : decode cX6_escape 119 = .ok (.iload 4, 2) := dec_at kDX6_escape_50 11 rfl
theorem dX6_escape_121 : decode cX6_escape 121 = .ok (.iload 5, 2) := dec_at kDX6_escape_50 12 rfl
theorem dX6_escape_123 : decode cX6_escape 123 = .ok (.invokevirtual 141, 3) := dec_at kDX6_escape_50 13 rfl
theorem dX6_escape_126 : decode cX6_escape 126 = .ok (.ireturn, 1) := dec_at kDX6_escape_50 14 rfl
def DX6_modal_0 : List (Nat × (Instr × Nat)) := [(0, (.iload_n 1, 1)), (1, (.ifCond .lt 8, 3)), (4, (.iload_n 1, 1)), (5, (.iconst 5, 1)), (6, (.if_icmp .le 13, 3)), (9, (.new 48, 3)), (12, (.dup, 1)), (13, (.ldc 217, 2)), (15, (.invokespecial 52, 3)), (18, (.athrow, 1)), (19, (.aload_n 0, 1)), (20, (.invokevirtual 109, 3)), (23, (.aload_n 0, 1)), (24, (.getfield 28, 3)), (27, (.invokevirtual 146, 3)), (30, (.aload_n 0, 1)), (31, (.invokevirtual 190, 3)), (34, (.lstore_n 2, 1)), (35, (.aload_n 0, 1)), (36, (.getfield 19, 3)), (39, (.getfield 204, 3)), (42, (.lload_n 2, 1)), (43, (.ldc2_w 193, 3)), (46, (.lxor, 1)), (47, (.land, 1)), (48, (.lstore 4, 2)), (50, (.iload_n 1, 1)), (51, (.tableswitch 104 0 4 #[33, 42, 64, 73, 95], 33)), (84, (.aload_n 0, 1)), (85, (.getfield 28, 3)), (88, (.lload_n 2, 1)), (89, (.invokevirtual 207, 3)), (92, (.lreturn, 1)), (93, (.aload_n 0, 1)), (94, (.getfield 19, 3)), (97, (.getfield 204, 3)), (100, (.aload_n 0, 1)), (101, (.getfield 28, 3)), (104, (.lload 4, 2)), (106, (.invokevirtual 207, 3)), (109, (.ldc2_w 193, 3)), (112, (.lxor, 1)), (113, (.land, 1)), (114, (.lreturn, 1)), (115, (.aload_n 0, 1)), (116, (.getfield 28, 3)), (119, (.lload_n 2, 1)), (120, (.invokevirtual 219, 3)), (123, (.lreturn, 1)), (124, (.aload_n 0, 1))]
theorem kDX6_modal_0 : DX6_modal_0.all (fun q => decide (decode cX6_modal q.1 = .ok q.2)) = true := by decide +kernel
theorem dX6_modal_0 : decode cX6_modal 0 = .ok (.iload_n 1, 1) := dec_at kDX6_modal_0 0 rfl
theorem dX6_modal_1 : decode cX6_modal 1 = .ok (.ifCond .lt 8, 3) := dec_at kDX6_modal_0 1 rfl
theorem dX6_modal_4 : decode cX6_modal 4 = .ok (.iload_n 1, 1) := dec_at kDX6_modal_0 2 rfl
theorem dX6_modal_5 : decode cX6_modal 5 = .ok (.iconst 5, 1) := dec_at kDX6_modal_0 3 rfl
theorem dX6_modal_6 : decode cX6_modal 6 = .ok (.if_icmp .le 13, 3) := dec_at kDX6_modal_0 4 rfl
theorem dX6_modal_9 : decode cX6_modal 9 = .ok (.new 48, 3) := dec_at kDX6_modal_0 5 rfl
theorem dX6_modal_12 : decode cX6_modal 12 = .ok (.dup, 1) := dec_at kDX6_modal_0 6 rfl
theorem dX6_modal_13 : decode cX6_modal 13 = .ok (.ldc 217, 2) := dec_at kDX6_modal_0 7 rfl
theorem dX6_modal_15 : decode cX6_modal 15 = .ok (.invokespecial 52, 3) := dec_at kDX6_modal_0 8 rfl
theorem dX6_modal_18 : decode cX6_modal 18 = .ok (.athrow, 1) := dec_at kDX6_modal_0 9 rfl
theorem dX6_modal_19 : decode cX6_modal 19 = .ok (.aload_n 0, 1) := dec_at kDX6_modal_0 10 rfl
theorem dX6_modal_20 : decode cX6_modal 20 = .ok (.invokevirtual 109, 3) := dec_at kDX6_modal_0 11 rfl
theorem dX6_modal_23 : decode cX6_modal 23 = .ok (.aload_n 0, 1) := dec_at kDX6_modal_0 12 rfl
theorem dX6_modal_24 : decode cX6_modal 24 = .ok (.getfield 28, 3) := dec_at kDX6_modal_0 13 rfl
theorem dX6_modal_27 : decode cX6_modal 27 = .ok (.invokevirtual 146, 3) := dec_at kDX6_modal_0 14 rfl
theorem dX6_modal_30 : decode cX6_modal 30 = .ok (.aload_n 0, 1) := dec_at kDX6_modal_0 15 rfl
theorem dX6_modal_31 : decode cX6_modal 31 = .ok (.invokevirtual 190, 3) := dec_at kDX6_modal_0 16 rfl
theorem dX6_modal_34 : decode cX6_modal 34 = .ok (.lstore_n 2, 1) := dec_at kDX6_modal_0 17 rfl
theorem dX6_modal_35 : decode cX6_modal 35 = .ok (.aload_n 0, 1) := dec_at kDX6_modal_0 18 rfl
theorem dX6_modal_36 : decode cX6_modal 36 = .ok (.getfield 19, 3) := dec_at kDX6_modal_0 19 rfl
theorem dX6_modal_39 : decode cX6_modal 39 = .ok (.getfield 204, 3) := dec_at kDX6_modal_0 20 rfl
theorem dX6_modal_42 : decode cX6_modal 42 = .ok (.lload_n 2, 1) := dec_at kDX6_modal_0 21 rfl
theorem dX6_modal_43 : decode cX6_modal 43 = .ok (.ldc2_w 193, 3) := dec_at kDX6_modal_0 22 rfl
theorem dX6_modal_46 : decode cX6_modal 46 = .ok (.lxor, 1) := dec_at kDX6_modal_0 23 rfl
theorem dX6_modal_47 : decode cX6_modal 47 = .ok (.land, 1) := dec_at kDX6_modal_0 24 rfl
theorem dX6_modal_48 : decode cX6_modal 48 = .ok (.lstore 4, 2) := dec_at kDX6_modal_0 25 rfl
theorem dX6_modal_50 : decode cX6_modal 50 = .ok (.iload_n 1, 1) := dec_at kDX6_modal_0 26 rfl
theorem dX6_modal_51 : decode cX6_modal 51 = .ok (.tableswitch 104 0 4 #[33, 42, 64, 73, 95], 33) := dec_at kDX6_modal_0 27 rfl
theorem dX6_modal_84 : decode cX6_modal 84 = .ok (.aload_n 0, 1) := dec_at kDX6_modal_0 28 rfl
theorem dX6_modal_85 : decode cX6_modal 85 = .ok (.getfield 28, 3) := dec_at kDX6_modal_0 29 rfl
theorem dX6_modal_88 : decode cX6_modal 88 = .ok (.lload_n 2, 1) := dec_at kDX6_modal_0 30 rfl
theorem dX6_modal_89 : decode cX6_modal 89 = .ok (.invokevirtual 207, 3) := dec_at kDX6_modal_0 31 rfl
theorem dX6_modal_92 : decode cX6_modal 92 = .ok (.lreturn, 1) := dec_at kDX6_modal_0 32 rfl
theorem dX6_modal_93 : decode cX6_modal 93 = .ok (.aload_n 0, 1) := dec_at kDX6_modal_0 33 rfl
theorem dX6_modal_94 : decode cX6_modal 94 = .ok (.getfield 19, 3) := dec_at kDX6_modal_0 34 rfl
theorem dX6_modal_97 : decode cX6_modal 97 = .ok (.getfield 204, 3) := dec_at kDX6_modal_0 35 rfl
theorem dX6_modal_100 : decode cX6_modal 100 = .ok (.aload_n 0, 1) := dec_at kDX6_modal_0 36 rfl
theorem dX6_modal_101 : decode cX6_modal 101 = .ok (.getfield 28, 3) := dec_at kDX6_modal_0 37 rfl
theorem dX6_modal_104 : decode cX6_modal 104 = .ok (.lload 4, 2) := dec_at kDX6_modal_0 38 rfl
theorem dX6_modal_106 : decode cX6_modal 106 = .ok (.invokevirtual 207, 3) := dec_at kDX6_modal_0 39 rfl
theorem dX6_modal_109 : decode cX6_modal 109 = .ok (.ldc2_w 193, 3) := dec_at kDX6_modal_0 40 rfl
theorem dX6_modal_112 : decode cX6_modal 112 = .ok (.lxor, 1) := dec_at kDX6_modal_0 41 rfl
theorem dX6_modal_113 : decode cX6_modal 113 = .ok (.land, 1) := dec_at kDX6_modal_0 42 rfl
theorem dX6_modal_114 : decode cX6_modal 114 = .ok (.lreturn, 1) := dec_at kDX6_modal_0 43 rfl
theorem dX6_modal_115 : decode cX6_modal 115 = .ok (.aload_n 0, 1) := dec_at kDX6_modal_0 44 rfl
theorem dX6_modal_116 : decode cX6_modal 116 = .ok (.getfield 28, 3) := dec_at kDX6_modal_0 45 rfl
theorem dX6_modal_119 : decode cX6_modal 119 = .ok (.lload_n 2, 1) := dec_at kDX6_modal_0 46 rfl
theorem dX6_modal_120 : decode cX6_modal 120 = .ok (.invokevirtual 219, 3) := dec_at kDX6_modal_0 47 rfl
theorem dX6_modal_123 : decode cX6_modal 123 = .ok (.lreturn, 1) := dec_at kDX6_modal_0 48 rfl
theorem dX6_modal_124 : decode cX6_modal 124 = .ok (.aload_n 0, 1) := dec_at kDX6_modal_0 49 rfl
def DX6_modal_50 : List (Nat × (Instr × Nat)) := [(125, (.getfield 19, 3)), (128, (.getfield 204, 3)), (131, (.aload_n 0, 1)), (132, (.getfield 28, 3)), (135, (.lload 4, 2)), (137, (.invokevirtual 222, 3)), (140, (.ldc2_w 193, 3)), (143, (.lxor, 1)), (144, (.land, 1)), (145, (.lreturn, 1)), (146, (.aload_n 0, 1)), (147, (.getfield 28, 3)), (150, (.lload_n 2, 1)), (151, (.invokevirtual 222, 3)), (154, (.lreturn, 1)), (155, (.aload_n 0, 1)), (156, (.getfield 19, 3)), (159, (.getfield 204, 3)), (162, (.aload_n 0, 1)), (163, (.getfield 28, 3)), (166, (.lload 4, 2)), (168, (.invokevirtual 219, 3)), (171, (.ldc2_w 193, 3)), (174, (.lxor, 1)), (175, (.land, 1)), (176, (.lreturn, 1))]
theorem kDX6_modal_50 : DX6_modal_50.all (fun q => decide (decode cX6_modal q.1 = .ok q.2)) = true := by decide +kernel
theorem dX6_modal_125 : decode cX6_modal 125 = .ok (.getfield 19, 3) := dec_at kDX6_modal_50 0 rfl
theorem dX6_modal_128 : decode cX6_modal 128 = .ok (.getfield 204, 3) := dec_at kDX6_modal_50 1 rfl
theorem dX6_modal_131 : decode cX6_modal 131 = .ok (.aload_n 0, 1) := dec_at kDX6_modal_50 2 rfl
theorem dX6_modal_132 : decode cX6_modal 132 = .ok (.getfield 28, 3) := dec_at kDX6_modal_50 3 rfl
theorem dX6_modal_135 : decode cX6_modal 135 = .ok (.lload 4, 2) := dec_at kDX6_modal_50 4 rfl
theorem dX6_modal_137 : decode cX6_modal 137 = .ok (.invokevirtual 222, 3) := dec_at kDX6_modal_50 5 rfl
theorem dX6_modal_140 : decode cX6_modal 140 = .ok (.ldc2_w 193, 3) := dec_at kDX6_modal_50 6 rfl
theorem dX6_modal_143 : decode cX6_modal 143 = .ok (.lxor, 1) := dec_at kDX6_modal_50 7 rfl
theorem dX6_modal_144 : decode cX6_modal 144 = .ok (.land, 1) := dec_at kDX6_modal_50 8 rfl
theorem dX6_modal_145 : decode cX6_modal 145 = .ok (.lreturn, 1) := dec_at kDX6_modal_50 9 rfl
theorem dX6_modal_146 : decode cX6_modal 146 = .ok (.aload_n 0, 1) := dec_at kDX6_modal_50 10 rfl
theorem dX6_modal_147 : decode cX6_modal 147 = .ok (.getfield 28, 3) := dec_at kDX6_modal_50 11 rfl
theorem dX6_modal_150 : decode cX6_modal 150 = .ok (.lload_n 2, 1) := dec_at kDX6_modal_50 12 rfl
theorem dX6_modal_151 : decode cX6_modal 151 = .ok (.invokevirtual 222, 3) := dec_at kDX6_modal_50 13 rfl
theorem dX6_modal_154 : decode cX6_modal 154 = .ok (.lreturn, 1) := dec_at kDX6_modal_50 14 rfl
theorem dX6_modal_155 : decode cX6_modal 155 = .ok (.aload_n 0, 1) := dec_at kDX6_modal_50 15 rfl
theorem dX6_modal_156 : decode cX6_modal 156 = .ok (.getfield 19, 3) := dec_at kDX6_modal_50 16 rfl
theorem dX6_modal_159 : decode cX6_modal 159 = .ok (.getfield 204, 3) := dec_at kDX6_modal_50 17 rfl
theorem dX6_modal_162 : decode cX6_modal 162 = .ok (.aload_n 0, 1) := dec_at kDX6_modal_50 18 rfl
theorem dX6_modal_163 : decode cX6_modal 163 = .ok (.getfield 28, 3) := dec_at kDX6_modal_50 19 rfl
theorem dX6_modal_166 : decode cX6_modal 166 = .ok (.lload 4, 2) := dec_at kDX6_modal_50 20 rfl
theorem dX6_modal_168 : decode cX6_modal 168 = .ok (.invokevirtual 219, 3) := dec_at kDX6_modal_50 21 rfl
theorem dX6_modal_171 : decode cX6_modal 171 = .ok (.ldc2_w 193, 3) := dec_at kDX6_modal_50 22 rfl
theorem dX6_modal_174 : decode cX6_modal 174 = .ok (.lxor, 1) := dec_at kDX6_modal_50 23 rfl
theorem dX6_modal_175 : decode cX6_modal 175 = .ok (.land, 1) := dec_at kDX6_modal_50 24 rfl
theorem dX6_modal_176 : decode cX6_modal 176 = .ok (.lreturn, 1) := dec_at kDX6_modal_50 25 rfl
def DX6_prove_0 : List (Nat × (Instr × Nat)) := [(0, (.aload_n 0, 1)), (1, (.getfield 35, 3)), (4, (.invokevirtual 225, 3)), (7, (.aload_n 0, 1)), (8, (.getfield 35, 3)), (11, (.getfield 228, 3)), (14, (.ireturn, 1))]
theorem kDX6_prove_0 : DX6_prove_0.all (fun q => decide (decode cX6_prove q.1 = .ok q.2)) = true := by decide +kernel
theorem dX6_prove_0 : decode cX6_prove 0 = .ok (.aload_n 0, 1) := dec_at kDX6_prove_0 0 rfl
theorem dX6_prove_1 : decode cX6_prove 1 = .ok (.getfield 35, 3) := dec_at kDX6_prove_0 1 rfl
theorem dX6_prove_4 : decode cX6_prove 4 = .ok (.invokevirtual 225, 3) := dec_at kDX6_prove_0 2 rfl
theorem dX6_prove_7 : decode cX6_prove 7 = .ok (.aload_n 0, 1) := dec_at kDX6_prove_0 3 rfl
theorem dX6_prove_8 : decode cX6_prove 8 = .ok (.getfield 35, 3) := dec_at kDX6_prove_0 4 rfl
theorem dX6_prove_11 : decode cX6_prove 11 = .ok (.getfield 228, 3) := dec_at kDX6_prove_0 5 rfl
theorem dX6_prove_14 : decode cX6_prove 14 = .ok (.ireturn, 1) := dec_at kDX6_prove_0 6 rfl
def DX6_proof_0 : List (Nat × (Instr × Nat)) := [(0, (.iload_n 1, 1)), (1, (.ifCond .lt 9, 3)), (4, (.iload_n 1, 1)), (5, (.bipush 8, 2)), (7, (.if_icmp .lt 13, 3)), (10, (.new 48, 3)), (13, (.dup, 1)), (14, (.ldc 231, 2)), (16, (.invokespecial 52, 3)), (19, (.athrow, 1)), (20, (.aload_n 0, 1)), (21, (.getfield 35, 3)), (24, (.getfield 233, 3)), (27, (.ifCond .eq 14, 3)), (30, (.aload_n 0, 1)), (31, (.getfield 35, 3)), (34, (.iload_n 1, 1)), (35, (.invokevirtual 237, 3)), (38, (.goto 4, 3)), (41, (.iconst (-1), 1)), (42, (.ireturn, 1))]
theorem kDX6_proof_0 : DX6_proof_0.all (fun q => decide (decode cX6_proof q.1 = .ok q.2)) = true := by decide +kernel
theorem dX6_proof_0 : decode cX6_proof 0 = .ok (.iload_n 1, 1) := dec_at kDX6_proof_0 0 rfl
theorem dX6_proof_1 : decode cX6_proof 1 = .ok (.ifCond .lt 9, 3) := dec_at kDX6_proof_0 1 rfl
theorem dX6_proof_4 : decode cX6_proof 4 = .ok (.iload_n 1, 1) := dec_at kDX6_proof_0 2 rfl
theorem dX6_proof_5 : decode cX6_proof 5 = .ok (.bipush 8, 2) := dec_at kDX6_proof_0 3 rfl
theorem dX6_proof_7 : decode cX6_proof 7 = .ok (.if_icmp .lt 13, 3) := dec_at kDX6_proof_0 4 rfl
theorem dX6_proof_10 : decode cX6_proof 10 = .ok (.new 48, 3) := dec_at kDX6_proof_0 5 rfl
theorem dX6_proof_13 : decode cX6_proof 13 = .ok (.dup, 1) := dec_at kDX6_proof_0 6 rfl
theorem dX6_proof_14 : decode cX6_proof 14 = .ok (.ldc 231, 2) := dec_at kDX6_proof_0 7 rfl
theorem dX6_proof_16 : decode cX6_proof 16 = .ok (.invokespecial 52, 3) := dec_at kDX6_proof_0 8 rfl
theorem dX6_proof_19 : decode cX6_proof 19 = .ok (.athrow, 1) := dec_at kDX6_proof_0 9 rfl
theorem dX6_proof_20 : decode cX6_proof 20 = .ok (.aload_n 0, 1) := dec_at kDX6_proof_0 10 rfl
theorem dX6_proof_21 : decode cX6_proof 21 = .ok (.getfield 35, 3) := dec_at kDX6_proof_0 11 rfl
theorem dX6_proof_24 : decode cX6_proof 24 = .ok (.getfield 233, 3) := dec_at kDX6_proof_0 12 rfl
theorem dX6_proof_27 : decode cX6_proof 27 = .ok (.ifCond .eq 14, 3) := dec_at kDX6_proof_0 13 rfl
theorem dX6_proof_30 : decode cX6_proof 30 = .ok (.aload_n 0, 1) := dec_at kDX6_proof_0 14 rfl
theorem dX6_proof_31 : decode cX6_proof 31 = .ok (.getfield 35, 3) := dec_at kDX6_proof_0 15 rfl
theorem dX6_proof_34 : decode cX6_proof 34 = .ok (.iload_n 1, 1) := dec_at kDX6_proof_0 16 rfl
theorem dX6_proof_35 : decode cX6_proof 35 = .ok (.invokevirtual 237, 3) := dec_at kDX6_proof_0 17 rfl
theorem dX6_proof_38 : decode cX6_proof 38 = .ok (.goto 4, 3) := dec_at kDX6_proof_0 18 rfl
theorem dX6_proof_41 : decode cX6_proof 41 = .ok (.iconst (-1), 1) := dec_at kDX6_proof_0 19 rfl
theorem dX6_proof_42 : decode cX6_proof 42 = .ok (.ireturn, 1) := dec_at kDX6_proof_0 20 rfl
def DX6_frame_0 : List (Nat × (Instr × Nat)) := [(0, (.aload_n 0, 1)), (1, (.invokevirtual 240, 3)), (4, (.iload_n 1, 1)), (5, (.ifCond .lt 14, 3)), (8, (.iload_n 1, 1)), (9, (.aload_n 0, 1)), (10, (.getfield 35, 3)), (13, (.getfield 243, 3)), (16, (.if_icmp .le 13, 3)), (19, (.new 94, 3)), (22, (.dup, 1)), (23, (.ldc 246, 2)), (25, (.invokespecial 98, 3)), (28, (.athrow, 1)), (29, (.aload_n 0, 1)), (30, (.getfield 35, 3)), (33, (.iload_n 1, 1)), (34, (.invokevirtual 248, 3)), (37, (.lreturn, 1))]
theorem kDX6_frame_0 : DX6_frame_0.all (fun q => decide (decode cX6_frame q.1 = .ok q.2)) = true := by decide +kernel
theorem dX6_frame_0 : decode cX6_frame 0 = .ok (.aload_n 0, 1) := dec_at kDX6_frame_0 0 rfl
theorem dX6_frame_1 : decode cX6_frame 1 = .ok (.invokevirtual 240, 3) := dec_at kDX6_frame_0 1 rfl
theorem dX6_frame_4 : decode cX6_frame 4 = .ok (.iload_n 1, 1) := dec_at kDX6_frame_0 2 rfl
theorem dX6_frame_5 : decode cX6_frame 5 = .ok (.ifCond .lt 14, 3) := dec_at kDX6_frame_0 3 rfl
theorem dX6_frame_8 : decode cX6_frame 8 = .ok (.iload_n 1, 1) := dec_at kDX6_frame_0 4 rfl
theorem dX6_frame_9 : decode cX6_frame 9 = .ok (.aload_n 0, 1) := dec_at kDX6_frame_0 5 rfl
theorem dX6_frame_10 : decode cX6_frame 10 = .ok (.getfield 35, 3) := dec_at kDX6_frame_0 6 rfl
theorem dX6_frame_13 : decode cX6_frame 13 = .ok (.getfield 243, 3) := dec_at kDX6_frame_0 7 rfl
theorem dX6_frame_16 : decode cX6_frame 16 = .ok (.if_icmp .le 13, 3) := dec_at kDX6_frame_0 8 rfl
theorem dX6_frame_19 : decode cX6_frame 19 = .ok (.new 94, 3) := dec_at kDX6_frame_0 9 rfl
theorem dX6_frame_22 : decode cX6_frame 22 = .ok (.dup, 1) := dec_at kDX6_frame_0 10 rfl
theorem dX6_frame_23 : decode cX6_frame 23 = .ok (.ldc 246, 2) := dec_at kDX6_frame_0 11 rfl
theorem dX6_frame_25 : decode cX6_frame 25 = .ok (.invokespecial 98, 3) := dec_at kDX6_frame_0 12 rfl
theorem dX6_frame_28 : decode cX6_frame 28 = .ok (.athrow, 1) := dec_at kDX6_frame_0 13 rfl
theorem dX6_frame_29 : decode cX6_frame 29 = .ok (.aload_n 0, 1) := dec_at kDX6_frame_0 14 rfl
theorem dX6_frame_30 : decode cX6_frame 30 = .ok (.getfield 35, 3) := dec_at kDX6_frame_0 15 rfl
theorem dX6_frame_33 : decode cX6_frame 33 = .ok (.iload_n 1, 1) := dec_at kDX6_frame_0 16 rfl
theorem dX6_frame_34 : decode cX6_frame 34 = .ok (.invokevirtual 248, 3) := dec_at kDX6_frame_0 17 rfl
theorem dX6_frame_37 : decode cX6_frame 37 = .ok (.lreturn, 1) := dec_at kDX6_frame_0 18 rfl
def DX6_cube_0 : List (Nat × (Instr × Nat)) := [(0, (.aload_n 0, 1)), (1, (.invokevirtual 240, 3)), (4, (.iload_n 1, 1)), (5, (.ifCond .lt 17, 3)), (8, (.iload_n 1, 1)), (9, (.aload_n 0, 1)), (10, (.getfield 35, 3)), (13, (.getfield 252, 3)), (16, (.getfield 256, 3)), (19, (.if_icmp .lt 14, 3)), (22, (.new 94, 3)), (25, (.dup, 1)), (26, (.ldc_w 261, 3)), (29, (.invokespecial 98, 3)), (32, (.athrow, 1)), (33, (.iload_n 2, 1)), (34, (.ifCond .lt 8, 3)), (37, (.iload_n 2, 1)), (38, (.iconst 2, 1)), (39, (.if_icmp .le 13, 3)), (42, (.new 48, 3)), (45, (.dup, 1)), (46, (.ldc 202, 2)), (48, (.invokespecial 52, 3)), (51, (.athrow, 1)), (52, (.aload_n 0, 1)), (53, (.getfield 35, 3)), (56, (.getfield 252, 3)), (59, (.iload_n 1, 1)), (60, (.iload_n 2, 1)), (61, (.invokevirtual 263, 3)), (64, (.ireturn, 1))]
theorem kDX6_cube_0 : DX6_cube_0.all (fun q => decide (decode cX6_cube q.1 = .ok q.2)) = true := by decide +kernel
theorem dX6_cube_0 : decode cX6_cube 0 = .ok (.aload_n 0, 1) := dec_at kDX6_cube_0 0 rfl
theorem dX6_cube_1 : decode cX6_cube 1 = .ok (.invokevirtual 240, 3) := dec_at kDX6_cube_0 1 rfl
theorem dX6_cube_4 : decode cX6_cube 4 = .ok (.iload_n 1, 1) := dec_at kDX6_cube_0 2 rfl
theorem dX6_cube_5 : decode cX6_cube 5 = .ok (.ifCond .lt 17, 3) := dec_at kDX6_cube_0 3 rfl
theorem dX6_cube_8 : decode cX6_cube 8 = .ok (.iload_n 1, 1) := dec_at kDX6_cube_0 4 rfl
theorem dX6_cube_9 : decode cX6_cube 9 = .ok (.aload_n 0, 1) := dec_at kDX6_cube_0 5 rfl
theorem dX6_cube_10 : decode cX6_cube 10 = .ok (.getfield 35, 3) := dec_at kDX6_cube_0 6 rfl
theorem dX6_cube_13 : decode cX6_cube 13 = .ok (.getfield 252, 3) := dec_at kDX6_cube_0 7 rfl
theorem dX6_cube_16 : decode cX6_cube 16 = .ok (.getfield 256, 3) := dec_at kDX6_cube_0 8 rfl
theorem dX6_cube_19 : decode cX6_cube 19 = .ok (.if_icmp .lt 14, 3) := dec_at kDX6_cube_0 9 rfl
theorem dX6_cube_22 : decode cX6_cube 22 = .ok (.new 94, 3) := dec_at kDX6_cube_0 10 rfl
theorem dX6_cube_25 : decode cX6_cube 25 = .ok (.dup, 1) := dec_at kDX6_cube_0 11 rfl
theorem dX6_cube_26 : decode cX6_cube 26 = .ok (.ldc_w 261, 3) := dec_at kDX6_cube_0 12 rfl
theorem dX6_cube_29 : decode cX6_cube 29 = .ok (.invokespecial 98, 3) := dec_at kDX6_cube_0 13 rfl
theorem dX6_cube_32 : decode cX6_cube 32 = .ok (.athrow, 1) := dec_at kDX6_cube_0 14 rfl
theorem dX6_cube_33 : decode cX6_cube 33 = .ok (.iload_n 2, 1) := dec_at kDX6_cube_0 15 rfl
theorem dX6_cube_34 : decode cX6_cube 34 = .ok (.ifCond .lt 8, 3) := dec_at kDX6_cube_0 16 rfl
theorem dX6_cube_37 : decode cX6_cube 37 = .ok (.iload_n 2, 1) := dec_at kDX6_cube_0 17 rfl
theorem dX6_cube_38 : decode cX6_cube 38 = .ok (.iconst 2, 1) := dec_at kDX6_cube_0 18 rfl
theorem dX6_cube_39 : decode cX6_cube 39 = .ok (.if_icmp .le 13, 3) := dec_at kDX6_cube_0 19 rfl
theorem dX6_cube_42 : decode cX6_cube 42 = .ok (.new 48, 3) := dec_at kDX6_cube_0 20 rfl
theorem dX6_cube_45 : decode cX6_cube 45 = .ok (.dup, 1) := dec_at kDX6_cube_0 21 rfl
theorem dX6_cube_46 : decode cX6_cube 46 = .ok (.ldc 202, 2) := dec_at kDX6_cube_0 22 rfl
theorem dX6_cube_48 : decode cX6_cube 48 = .ok (.invokespecial 52, 3) := dec_at kDX6_cube_0 23 rfl
theorem dX6_cube_51 : decode cX6_cube 51 = .ok (.athrow, 1) := dec_at kDX6_cube_0 24 rfl
theorem dX6_cube_52 : decode cX6_cube 52 = .ok (.aload_n 0, 1) := dec_at kDX6_cube_0 25 rfl
theorem dX6_cube_53 : decode cX6_cube 53 = .ok (.getfield 35, 3) := dec_at kDX6_cube_0 26 rfl
theorem dX6_cube_56 : decode cX6_cube 56 = .ok (.getfield 252, 3) := dec_at kDX6_cube_0 27 rfl
theorem dX6_cube_59 : decode cX6_cube 59 = .ok (.iload_n 1, 1) := dec_at kDX6_cube_0 28 rfl
theorem dX6_cube_60 : decode cX6_cube 60 = .ok (.iload_n 2, 1) := dec_at kDX6_cube_0 29 rfl
theorem dX6_cube_61 : decode cX6_cube 61 = .ok (.invokevirtual 263, 3) := dec_at kDX6_cube_0 30 rfl
theorem dX6_cube_64 : decode cX6_cube 64 = .ok (.ireturn, 1) := dec_at kDX6_cube_0 31 rfl
def DX6_certificate_0 : List (Nat × (Instr × Nat)) := [(0, (.aload_n 0, 1)), (1, (.invokevirtual 265, 3)), (4, (.aload_n 0, 1)), (5, (.getfield 35, 3)), (8, (.invokevirtual 268, 3)), (11, (.lreturn, 1))]
theorem kDX6_certificate_0 : DX6_certificate_0.all (fun q => decide (decode cX6_certificate q.1 = .ok q.2)) = true := by decide +kernel
theorem dX6_certificate_0 : decode cX6_certificate 0 = .ok (.aload_n 0, 1) := dec_at kDX6_certificate_0 0 rfl
theorem dX6_certificate_1 : decode cX6_certificate 1 = .ok (.invokevirtual 265, 3) := dec_at kDX6_certificate_0 1 rfl
theorem dX6_certificate_4 : decode cX6_certificate 4 = .ok (.aload_n 0, 1) := dec_at kDX6_certificate_0 2 rfl
theorem dX6_certificate_5 : decode cX6_certificate 5 = .ok (.getfield 35, 3) := dec_at kDX6_certificate_0 3 rfl
theorem dX6_certificate_8 : decode cX6_certificate 8 = .ok (.invokevirtual 268, 3) := dec_at kDX6_certificate_0 4 rfl
theorem dX6_certificate_11 : decode cX6_certificate 11 = .ok (.lreturn, 1) := dec_at kDX6_certificate_0 5 rfl
def DX6_shrunken_0 : List (Nat × (Instr × Nat)) := [(0, (.aload_n 0, 1)), (1, (.invokevirtual 265, 3)), (4, (.aload_n 0, 1)), (5, (.getfield 28, 3)), (8, (.invokevirtual 146, 3)), (11, (.aload_n 0, 1)), (12, (.getfield 35, 3)), (15, (.aload_n 0, 1)), (16, (.getfield 28, 3)), (19, (.invokevirtual 271, 3)), (22, (.ireturn, 1))]
theorem kDX6_shrunken_0 : DX6_shrunken_0.all (fun q => decide (decode cX6_shrunken q.1 = .ok q.2)) = true := by decide +kernel
theorem dX6_shrunken_0 : decode cX6_shrunken 0 = .ok (.aload_n 0, 1) := dec_at kDX6_shrunken_0 0 rfl
theorem dX6_shrunken_1 : decode cX6_shrunken 1 = .ok (.invokevirtual 265, 3) := dec_at kDX6_shrunken_0 1 rfl
theorem dX6_shrunken_4 : decode cX6_shrunken 4 = .ok (.aload_n 0, 1) := dec_at kDX6_shrunken_0 2 rfl
theorem dX6_shrunken_5 : decode cX6_shrunken 5 = .ok (.getfield 28, 3) := dec_at kDX6_shrunken_0 3 rfl
theorem dX6_shrunken_8 : decode cX6_shrunken 8 = .ok (.invokevirtual 146, 3) := dec_at kDX6_shrunken_0 4 rfl
theorem dX6_shrunken_11 : decode cX6_shrunken 11 = .ok (.aload_n 0, 1) := dec_at kDX6_shrunken_0 5 rfl
theorem dX6_shrunken_12 : decode cX6_shrunken 12 = .ok (.getfield 35, 3) := dec_at kDX6_shrunken_0 6 rfl
theorem dX6_shrunken_15 : decode cX6_shrunken 15 = .ok (.aload_n 0, 1) := dec_at kDX6_shrunken_0 7 rfl
theorem dX6_shrunken_16 : decode cX6_shrunken 16 = .ok (.getfield 28, 3) := dec_at kDX6_shrunken_0 8 rfl
theorem dX6_shrunken_19 : decode cX6_shrunken 19 = .ok (.invokevirtual 271, 3) := dec_at kDX6_shrunken_0 9 rfl
theorem dX6_shrunken_22 : decode cX6_shrunken 22 = .ok (.ireturn, 1) := dec_at kDX6_shrunken_0 10 rfl
def DX6_induction_0 : List (Nat × (Instr × Nat)) := [(0, (.aload_n 0, 1)), (1, (.getfield 28, 3)), (4, (.invokevirtual 146, 3)), (7, (.aload_n 0, 1)), (8, (.getfield 44, 3)), (11, (.iload_n 1, 1)), (12, (.invokevirtual 275, 3)), (15, (.ireturn, 1))]
theorem kDX6_induction_0 : DX6_induction_0.all (fun q => decide (decode cX6_induction q.1 = .ok q.2)) = true := by decide +kernel
theorem dX6_induction_0 : decode cX6_induction 0 = .ok (.aload_n 0, 1) := dec_at kDX6_induction_0 0 rfl
theorem dX6_induction_1 : decode cX6_induction 1 = .ok (.getfield 28, 3) := dec_at kDX6_induction_0 1 rfl
theorem dX6_induction_4 : decode cX6_induction 4 = .ok (.invokevirtual 146, 3) := dec_at kDX6_induction_0 2 rfl
theorem dX6_induction_7 : decode cX6_induction 7 = .ok (.aload_n 0, 1) := dec_at kDX6_induction_0 3 rfl
theorem dX6_induction_8 : decode cX6_induction 8 = .ok (.getfield 44, 3) := dec_at kDX6_induction_0 4 rfl
theorem dX6_induction_11 : decode cX6_induction 11 = .ok (.iload_n 1, 1) := dec_at kDX6_induction_0 5 rfl
theorem dX6_induction_12 : decode cX6_induction 12 = .ok (.invokevirtual 275, 3) := dec_at kDX6_induction_0 6 rfl
theorem dX6_induction_15 : decode cX6_induction 15 = .ok (.ireturn, 1) := dec_at kDX6_induction_0 7 rfl
def DX6_elimination_0 : List (Nat × (Instr × Nat)) := [(0, (.iload_n 1, 1)), (1, (.iconst 1, 1)), (2, (.if_icmp .lt 8, 3)), (5, (.iload_n 1, 1)), (6, (.iconst 3, 1)), (7, (.if_icmp .le 14, 3)), (10, (.new 48, 3)), (13, (.dup, 1)), (14, (.ldc_w 279, 3)), (17, (.invokespecial 52, 3)), (20, (.athrow, 1)), (21, (.aload_n 0, 1)), (22, (.getfield 28, 3)), (25, (.invokevirtual 146, 3)), (28, (.aload_n 0, 1)), (29, (.getfield 44, 3)), (32, (.iload_n 1, 1)), (33, (.invokevirtual 281, 3)), (36, (.lreturn, 1))]
theorem kDX6_elimination_0 : DX6_elimination_0.all (fun q => decide (decode cX6_elimination q.1 = .ok q.2)) = true := by decide +kernel
theorem dX6_elimination_0 : decode cX6_elimination 0 = .ok (.iload_n 1, 1) := dec_at kDX6_elimination_0 0 rfl
theorem dX6_elimination_1 : decode cX6_elimination 1 = .ok (.iconst 1, 1) := dec_at kDX6_elimination_0 1 rfl
theorem dX6_elimination_2 : decode cX6_elimination 2 = .ok (.if_icmp .lt 8, 3) := dec_at kDX6_elimination_0 2 rfl
theorem dX6_elimination_5 : decode cX6_elimination 5 = .ok (.iload_n 1, 1) := dec_at kDX6_elimination_0 3 rfl
theorem dX6_elimination_6 : decode cX6_elimination 6 = .ok (.iconst 3, 1) := dec_at kDX6_elimination_0 4 rfl
theorem dX6_elimination_7 : decode cX6_elimination 7 = .ok (.if_icmp .le 14, 3) := dec_at kDX6_elimination_0 5 rfl
theorem dX6_elimination_10 : decode cX6_elimination 10 = .ok (.new 48, 3) := dec_at kDX6_elimination_0 6 rfl
theorem dX6_elimination_13 : decode cX6_elimination 13 = .ok (.dup, 1) := dec_at kDX6_elimination_0 7 rfl
theorem dX6_elimination_14 : decode cX6_elimination 14 = .ok (.ldc_w 279, 3) := dec_at kDX6_elimination_0 8 rfl
theorem dX6_elimination_17 : decode cX6_elimination 17 = .ok (.invokespecial 52, 3) := dec_at kDX6_elimination_0 9 rfl
theorem dX6_elimination_20 : decode cX6_elimination 20 = .ok (.athrow, 1) := dec_at kDX6_elimination_0 10 rfl
theorem dX6_elimination_21 : decode cX6_elimination 21 = .ok (.aload_n 0, 1) := dec_at kDX6_elimination_0 11 rfl
theorem dX6_elimination_22 : decode cX6_elimination 22 = .ok (.getfield 28, 3) := dec_at kDX6_elimination_0 12 rfl
theorem dX6_elimination_25 : decode cX6_elimination 25 = .ok (.invokevirtual 146, 3) := dec_at kDX6_elimination_0 13 rfl
theorem dX6_elimination_28 : decode cX6_elimination 28 = .ok (.aload_n 0, 1) := dec_at kDX6_elimination_0 14 rfl
theorem dX6_elimination_29 : decode cX6_elimination 29 = .ok (.getfield 44, 3) := dec_at kDX6_elimination_0 15 rfl
theorem dX6_elimination_32 : decode cX6_elimination 32 = .ok (.iload_n 1, 1) := dec_at kDX6_elimination_0 16 rfl
theorem dX6_elimination_33 : decode cX6_elimination 33 = .ok (.invokevirtual 281, 3) := dec_at kDX6_elimination_0 17 rfl
theorem dX6_elimination_36 : decode cX6_elimination 36 = .ok (.lreturn, 1) := dec_at kDX6_elimination_0 18 rfl
def DX6_isSafeWithFree_0 : List (Nat × (Instr × Nat)) := [(0, (.iload_n 1, 1)), (1, (.ifCond .lt 14, 3)), (4, (.iload_n 1, 1)), (5, (.aload_n 0, 1)), (6, (.getfield 19, 3)), (9, (.getfield 62, 3)), (12, (.if_icmp .lt 14, 3)), (15, (.new 48, 3)), (18, (.dup, 1)), (19, (.ldc_w 284, 3)), (22, (.invokespecial 52, 3)), (25, (.athrow, 1)), (26, (.aload_n 0, 1)), (27, (.getfield 28, 3)), (30, (.invokevirtual 146, 3)), (33, (.aload_n 0, 1)), (34, (.getfield 44, 3)), (37, (.iload_n 1, 1)), (38, (.invokevirtual 286, 3)), (41, (.ireturn, 1))]
theorem kDX6_isSafeWithFree_0 : DX6_isSafeWithFree_0.all (fun q => decide (decode cX6_isSafeWithFree q.1 = .ok q.2)) = true := by decide +kernel
theorem dX6_isSafeWithFree_0 : decode cX6_isSafeWithFree 0 = .ok (.iload_n 1, 1) := dec_at kDX6_isSafeWithFree_0 0 rfl
theorem dX6_isSafeWithFree_1 : decode cX6_isSafeWithFree 1 = .ok (.ifCond .lt 14, 3) := dec_at kDX6_isSafeWithFree_0 1 rfl
theorem dX6_isSafeWithFree_4 : decode cX6_isSafeWithFree 4 = .ok (.iload_n 1, 1) := dec_at kDX6_isSafeWithFree_0 2 rfl
theorem dX6_isSafeWithFree_5 : decode cX6_isSafeWithFree 5 = .ok (.aload_n 0, 1) := dec_at kDX6_isSafeWithFree_0 3 rfl
theorem dX6_isSafeWithFree_6 : decode cX6_isSafeWithFree 6 = .ok (.getfield 19, 3) := dec_at kDX6_isSafeWithFree_0 4 rfl
theorem dX6_isSafeWithFree_9 : decode cX6_isSafeWithFree 9 = .ok (.getfield 62, 3) := dec_at kDX6_isSafeWithFree_0 5 rfl
theorem dX6_isSafeWithFree_12 : decode cX6_isSafeWithFree 12 = .ok (.if_icmp .lt 14, 3) := dec_at kDX6_isSafeWithFree_0 6 rfl
theorem dX6_isSafeWithFree_15 : decode cX6_isSafeWithFree 15 = .ok (.new 48, 3) := dec_at kDX6_isSafeWithFree_0 7 rfl
theorem dX6_isSafeWithFree_18 : decode cX6_isSafeWithFree 18 = .ok (.dup, 1) := dec_at kDX6_isSafeWithFree_0 8 rfl
theorem dX6_isSafeWithFree_19 : decode cX6_isSafeWithFree 19 = .ok (.ldc_w 284, 3) := dec_at kDX6_isSafeWithFree_0 9 rfl
theorem dX6_isSafeWithFree_22 : decode cX6_isSafeWithFree 22 = .ok (.invokespecial 52, 3) := dec_at kDX6_isSafeWithFree_0 10 rfl
theorem dX6_isSafeWithFree_25 : decode cX6_isSafeWithFree 25 = .ok (.athrow, 1) := dec_at kDX6_isSafeWithFree_0 11 rfl
theorem dX6_isSafeWithFree_26 : decode cX6_isSafeWithFree 26 = .ok (.aload_n 0, 1) := dec_at kDX6_isSafeWithFree_0 12 rfl
theorem dX6_isSafeWithFree_27 : decode cX6_isSafeWithFree 27 = .ok (.getfield 28, 3) := dec_at kDX6_isSafeWithFree_0 13 rfl
theorem dX6_isSafeWithFree_30 : decode cX6_isSafeWithFree 30 = .ok (.invokevirtual 146, 3) := dec_at kDX6_isSafeWithFree_0 14 rfl
theorem dX6_isSafeWithFree_33 : decode cX6_isSafeWithFree 33 = .ok (.aload_n 0, 1) := dec_at kDX6_isSafeWithFree_0 15 rfl
theorem dX6_isSafeWithFree_34 : decode cX6_isSafeWithFree 34 = .ok (.getfield 44, 3) := dec_at kDX6_isSafeWithFree_0 16 rfl
theorem dX6_isSafeWithFree_37 : decode cX6_isSafeWithFree 37 = .ok (.iload_n 1, 1) := dec_at kDX6_isSafeWithFree_0 17 rfl
theorem dX6_isSafeWithFree_38 : decode cX6_isSafeWithFree 38 = .ok (.invokevirtual 286, 3) := dec_at kDX6_isSafeWithFree_0 18 rfl
theorem dX6_isSafeWithFree_41 : decode cX6_isSafeWithFree 41 = .ok (.ireturn, 1) := dec_at kDX6_isSafeWithFree_0 19 rfl
def DX6_leastCone_0 : List (Nat × (Instr × Nat)) := [(0, (.aload_n 0, 1)), (1, (.getfield 28, 3)), (4, (.invokevirtual 146, 3)), (7, (.aload_n 0, 1)), (8, (.getfield 44, 3)), (11, (.invokevirtual 290, 3)), (14, (.ireturn, 1))]
theorem kDX6_leastCone_0 : DX6_leastCone_0.all (fun q => decide (decode cX6_leastCone q.1 = .ok q.2)) = true := by decide +kernel
theorem dX6_leastCone_0 : decode cX6_leastCone 0 = .ok (.aload_n 0, 1) := dec_at kDX6_leastCone_0 0 rfl
theorem dX6_leastCone_1 : decode cX6_leastCone 1 = .ok (.getfield 28, 3) := dec_at kDX6_leastCone_0 1 rfl
theorem dX6_leastCone_4 : decode cX6_leastCone 4 = .ok (.invokevirtual 146, 3) := dec_at kDX6_leastCone_0 2 rfl
theorem dX6_leastCone_7 : decode cX6_leastCone 7 = .ok (.aload_n 0, 1) := dec_at kDX6_leastCone_0 3 rfl
theorem dX6_leastCone_8 : decode cX6_leastCone 8 = .ok (.getfield 44, 3) := dec_at kDX6_leastCone_0 4 rfl
theorem dX6_leastCone_11 : decode cX6_leastCone 11 = .ok (.invokevirtual 290, 3) := dec_at kDX6_leastCone_0 5 rfl
theorem dX6_leastCone_14 : decode cX6_leastCone 14 = .ok (.ireturn, 1) := dec_at kDX6_leastCone_0 6 rfl
def DX6_simulate_0 : List (Nat × (Instr × Nat)) := [(0, (.iload_n 1, 1)), (1, (.ifCond .lt 22, 3)), (4, (.iload_n 1, 1)), (5, (.bipush 100, 2)), (7, (.if_icmp .gt 16, 3)), (10, (.iload_n 2, 1)), (11, (.ifCond .lt 12, 3)), (14, (.iload_n 3, 1)), (15, (.ifCond .lt 8, 3)), (18, (.iload_n 3, 1)), (19, (.iconst 2, 1)), (20, (.if_icmp .le 14, 3)), (23, (.new 48, 3)), (26, (.dup, 1)), (27, (.ldc_w 293, 3)), (30, (.invokespecial 52, 3)), (33, (.athrow, 1)), (34, (.aload_n 0, 1)), (35, (.getfield 19, 3)), (38, (.invokevirtual 112, 3)), (41, (.invokestatic 210, 3)), (44, (.istore 4, 2)), (46, (.iload 4, 2)), (48, (.iconst (-1), 1)), (49, (.if_icmp .ne 14, 3)), (52, (.new 72, 3)), (55, (.dup, 1)), (56, (.ldc_w 295, 3)), (59, (.invokespecial 76, 3)), (62, (.athrow, 1)), (63, (.aload_n 0, 1)), (64, (.getfield 44, 3)), (67, (.iload 4, 2)), (69, (.iload_n 1, 1)), (70, (.iload_n 2, 1)), (71, (.iload_n 3, 1)), (72, (.invokevirtual 297, 3)), (75, (.ireturn, 1))]
theorem kDX6_simulate_0 : DX6_simulate_0.all (fun q => decide (decode cX6_simulate q.1 = .ok q.2)) = true := by decide +kernel
theorem dX6_simulate_0 : decode cX6_simulate 0 = .ok (.iload_n 1, 1) := dec_at kDX6_simulate_0 0 rfl
theorem dX6_simulate_1 : decode cX6_simulate 1 = .ok (.ifCond .lt 22, 3) := dec_at kDX6_simulate_0 1 rfl
theorem dX6_simulate_4 : decode cX6_simulate 4 = .ok (.iload_n 1, 1) := dec_at kDX6_simulate_0 2 rfl
theorem dX6_simulate_5 : decode cX6_simulate 5 = .ok (.bipush 100, 2) := dec_at kDX6_simulate_0 3 rfl
theorem dX6_simulate_7 : decode cX6_simulate 7 = .ok (.if_icmp .gt 16, 3) := dec_at kDX6_simulate_0 4 rfl
theorem dX6_simulate_10 : decode cX6_simulate 10 = .ok (.iload_n 2, 1) := dec_at kDX6_simulate_0 5 rfl
theorem dX6_simulate_11 : decode cX6_simulate 11 = .ok (.ifCond .lt 12, 3) := dec_at kDX6_simulate_0 6 rfl
theorem dX6_simulate_14 : decode cX6_simulate 14 = .ok (.iload_n 3, 1) := dec_at kDX6_simulate_0 7 rfl
theorem dX6_simulate_15 : decode cX6_simulate 15 = .ok (.ifCond .lt 8, 3) := dec_at kDX6_simulate_0 8 rfl
theorem dX6_simulate_18 : decode cX6_simulate 18 = .ok (.iload_n 3, 1) := dec_at kDX6_simulate_0 9 rfl
theorem dX6_simulate_19 : decode cX6_simulate 19 = .ok (.iconst 2, 1) := dec_at kDX6_simulate_0 10 rfl
theorem dX6_simulate_20 : decode cX6_simulate 20 = .ok (.if_icmp .le 14, 3) := dec_at kDX6_simulate_0 11 rfl
theorem dX6_simulate_23 : decode cX6_simulate 23 = .ok (.new 48, 3) := dec_at kDX6_simulate_0 12 rfl
theorem dX6_simulate_26 : decode cX6_simulate 26 = .ok (.dup, 1) := dec_at kDX6_simulate_0 13 rfl
theorem dX6_simulate_27 : decode cX6_simulate 27 = .ok (.ldc_w 293, 3) := dec_at kDX6_simulate_0 14 rfl
theorem dX6_simulate_30 : decode cX6_simulate 30 = .ok (.invokespecial 52, 3) := dec_at kDX6_simulate_0 15 rfl
theorem dX6_simulate_33 : decode cX6_simulate 33 = .ok (.athrow, 1) := dec_at kDX6_simulate_0 16 rfl
theorem dX6_simulate_34 : decode cX6_simulate 34 = .ok (.aload_n 0, 1) := dec_at kDX6_simulate_0 17 rfl
theorem dX6_simulate_35 : decode cX6_simulate 35 = .ok (.getfield 19, 3) := dec_at kDX6_simulate_0 18 rfl
theorem dX6_simulate_38 : decode cX6_simulate 38 = .ok (.invokevirtual 112, 3) := dec_at kDX6_simulate_0 19 rfl
theorem dX6_simulate_41 : decode cX6_simulate 41 = .ok (.invokestatic 210, 3) := dec_at kDX6_simulate_0 20 rfl
theorem dX6_simulate_44 : decode cX6_simulate 44 = .ok (.istore 4, 2) := dec_at kDX6_simulate_0 21 rfl
theorem dX6_simulate_46 : decode cX6_simulate 46 = .ok (.iload 4, 2) := dec_at kDX6_simulate_0 22 rfl
theorem dX6_simulate_48 : decode cX6_simulate 48 = .ok (.iconst (-1), 1) := dec_at kDX6_simulate_0 23 rfl
theorem dX6_simulate_49 : decode cX6_simulate 49 = .ok (.if_icmp .ne 14, 3) := dec_at kDX6_simulate_0 24 rfl
theorem dX6_simulate_52 : decode cX6_simulate 52 = .ok (.new 72, 3) := dec_at kDX6_simulate_0 25 rfl
theorem dX6_simulate_55 : decode cX6_simulate 55 = .ok (.dup, 1) := dec_at kDX6_simulate_0 26 rfl
theorem dX6_simulate_56 : decode cX6_simulate 56 = .ok (.ldc_w 295, 3) := dec_at kDX6_simulate_0 27 rfl
theorem dX6_simulate_59 : decode cX6_simulate 59 = .ok (.invokespecial 76, 3) := dec_at kDX6_simulate_0 28 rfl
theorem dX6_simulate_62 : decode cX6_simulate 62 = .ok (.athrow, 1) := dec_at kDX6_simulate_0 29 rfl
theorem dX6_simulate_63 : decode cX6_simulate 63 = .ok (.aload_n 0, 1) := dec_at kDX6_simulate_0 30 rfl
theorem dX6_simulate_64 : decode cX6_simulate 64 = .ok (.getfield 44, 3) := dec_at kDX6_simulate_0 31 rfl
theorem dX6_simulate_67 : decode cX6_simulate 67 = .ok (.iload 4, 2) := dec_at kDX6_simulate_0 32 rfl
theorem dX6_simulate_69 : decode cX6_simulate 69 = .ok (.iload_n 1, 1) := dec_at kDX6_simulate_0 33 rfl
theorem dX6_simulate_70 : decode cX6_simulate 70 = .ok (.iload_n 2, 1) := dec_at kDX6_simulate_0 34 rfl
theorem dX6_simulate_71 : decode cX6_simulate 71 = .ok (.iload_n 3, 1) := dec_at kDX6_simulate_0 35 rfl
theorem dX6_simulate_72 : decode cX6_simulate 72 = .ok (.invokevirtual 297, 3) := dec_at kDX6_simulate_0 36 rfl
theorem dX6_simulate_75 : decode cX6_simulate 75 = .ok (.ireturn, 1) := dec_at kDX6_simulate_0 37 rfl
def DX6_digest_0 : List (Nat × (Instr × Nat)) := [(0, (.ldc2_w 301, 3)), (3, (.lstore_n 1, 1)), (4, (.iconst 0, 1)), (5, (.istore_n 3, 1)), (6, (.iload_n 3, 1)), (7, (.bipush 10, 2)), (9, (.if_icmp .ge 20, 3)), (12, (.lload_n 1, 1)), (13, (.aload_n 0, 1)), (14, (.iload_n 3, 1)), (15, (.invokevirtual 303, 3)), (18, (.i2l, 1)), (19, (.invokestatic 306, 3)), (22, (.lstore_n 1, 1)), (23, (.iinc 3 1, 3)), (26, (.goto (-20), 3)), (29, (.iconst 0, 1)), (30, (.istore_n 3, 1)), (31, (.iload_n 3, 1)), (32, (.aload_n 0, 1)), (33, (.getfield 19, 3)), (36, (.getfield 62, 3)), (39, (.if_icmp .ge 71, 3)), (42, (.iconst 0, 1)), (43, (.istore 4, 2)), (45, (.iload 4, 2)), (47, (.iconst 5, 1)), (48, (.if_icmp .ge 22, 3)), (51, (.lload_n 1, 1)), (52, (.aload_n 0, 1)), (53, (.iload_n 3, 1)), (54, (.iload 4, 2)), (56, (.invokevirtual 310, 3)), (59, (.i2l, 1)), (60, (.invokestatic 306, 3)), (63, (.lstore_n 1, 1)), (64, (.iinc 4 1, 3)), (67, (.goto (-22), 3)), (70, (.iconst 0, 1)), (71, (.istore 4, 2)), (73, (.iload 4, 2)), (75, (.aload_n 0, 1)), (76, (.getfield 19, 3)), (79, (.getfield 136, 3)), (82, (.if_icmp .ge 22, 3)), (85, (.lload_n 1, 1)), (86, (.aload_n 0, 1)), (87, (.iload_n 3, 1)), (88, (.iload 4, 2)), (90, (.invokevirtual 313, 3))]
theorem kDX6_digest_0 : DX6_digest_0.all (fun q => decide (decode cX6_digest q.1 = .ok q.2)) = true := by decide +kernel
theorem dX6_digest_0 : decode cX6_digest 0 = .ok (.ldc2_w 301, 3) := dec_at kDX6_digest_0 0 rfl
theorem dX6_digest_3 : decode cX6_digest 3 = .ok (.lstore_n 1, 1) := dec_at kDX6_digest_0 1 rfl
theorem dX6_digest_4 : decode cX6_digest 4 = .ok (.iconst 0, 1) := dec_at kDX6_digest_0 2 rfl
theorem dX6_digest_5 : decode cX6_digest 5 = .ok (.istore_n 3, 1) := dec_at kDX6_digest_0 3 rfl
theorem dX6_digest_6 : decode cX6_digest 6 = .ok (.iload_n 3, 1) := dec_at kDX6_digest_0 4 rfl
theorem dX6_digest_7 : decode cX6_digest 7 = .ok (.bipush 10, 2) := dec_at kDX6_digest_0 5 rfl
theorem dX6_digest_9 : decode cX6_digest 9 = .ok (.if_icmp .ge 20, 3) := dec_at kDX6_digest_0 6 rfl
theorem dX6_digest_12 : decode cX6_digest 12 = .ok (.lload_n 1, 1) := dec_at kDX6_digest_0 7 rfl
theorem dX6_digest_13 : decode cX6_digest 13 = .ok (.aload_n 0, 1) := dec_at kDX6_digest_0 8 rfl
theorem dX6_digest_14 : decode cX6_digest 14 = .ok (.iload_n 3, 1) := dec_at kDX6_digest_0 9 rfl
theorem dX6_digest_15 : decode cX6_digest 15 = .ok (.invokevirtual 303, 3) := dec_at kDX6_digest_0 10 rfl
theorem dX6_digest_18 : decode cX6_digest 18 = .ok (.i2l, 1) := dec_at kDX6_digest_0 11 rfl
theorem dX6_digest_19 : decode cX6_digest 19 = .ok (.invokestatic 306, 3) := dec_at kDX6_digest_0 12 rfl
theorem dX6_digest_22 : decode cX6_digest 22 = .ok (.lstore_n 1, 1) := dec_at kDX6_digest_0 13 rfl
theorem dX6_digest_23 : decode cX6_digest 23 = .ok (.iinc 3 1, 3) := dec_at kDX6_digest_0 14 rfl
theorem dX6_digest_26 : decode cX6_digest 26 = .ok (.goto (-20), 3) := dec_at kDX6_digest_0 15 rfl
theorem dX6_digest_29 : decode cX6_digest 29 = .ok (.iconst 0, 1) := dec_at kDX6_digest_0 16 rfl
theorem dX6_digest_30 : decode cX6_digest 30 = .ok (.istore_n 3, 1) := dec_at kDX6_digest_0 17 rfl
theorem dX6_digest_31 : decode cX6_digest 31 = .ok (.iload_n 3, 1) := dec_at kDX6_digest_0 18 rfl
theorem dX6_digest_32 : decode cX6_digest 32 = .ok (.aload_n 0, 1) := dec_at kDX6_digest_0 19 rfl
theorem dX6_digest_33 : decode cX6_digest 33 = .ok (.getfield 19, 3) := dec_at kDX6_digest_0 20 rfl
theorem dX6_digest_36 : decode cX6_digest 36 = .ok (.getfield 62, 3) := dec_at kDX6_digest_0 21 rfl
theorem dX6_digest_39 : decode cX6_digest 39 = .ok (.if_icmp .ge 71, 3) := dec_at kDX6_digest_0 22 rfl
theorem dX6_digest_42 : decode cX6_digest 42 = .ok (.iconst 0, 1) := dec_at kDX6_digest_0 23 rfl
theorem dX6_digest_43 : decode cX6_digest 43 = .ok (.istore 4, 2) := dec_at kDX6_digest_0 24 rfl
theorem dX6_digest_45 : decode cX6_digest 45 = .ok (.iload 4, 2) := dec_at kDX6_digest_0 25 rfl
theorem dX6_digest_47 : decode cX6_digest 47 = .ok (.iconst 5, 1) := dec_at kDX6_digest_0 26 rfl
theorem dX6_digest_48 : decode cX6_digest 48 = .ok (.if_icmp .ge 22, 3) := dec_at kDX6_digest_0 27 rfl
theorem dX6_digest_51 : decode cX6_digest 51 = .ok (.lload_n 1, 1) := dec_at kDX6_digest_0 28 rfl
theorem dX6_digest_52 : decode cX6_digest 52 = .ok (.aload_n 0, 1) := dec_at kDX6_digest_0 29 rfl
theorem dX6_digest_53 : decode cX6_digest 53 = .ok (.iload_n 3, 1) := dec_at kDX6_digest_0 30 rfl
theorem dX6_digest_54 : decode cX6_digest 54 = .ok (.iload 4, 2) := dec_at kDX6_digest_0 31 rfl
theorem dX6_digest_56 : decode cX6_digest 56 = .ok (.invokevirtual 310, 3) := dec_at kDX6_digest_0 32 rfl
theorem dX6_digest_59 : decode cX6_digest 59 = .ok (.i2l, 1) := dec_at kDX6_digest_0 33 rfl
theorem dX6_digest_60 : decode cX6_digest 60 = .ok (.invokestatic 306, 3) := dec_at kDX6_digest_0 34 rfl
theorem dX6_digest_63 : decode cX6_digest 63 = .ok (.lstore_n 1, 1) := dec_at kDX6_digest_0 35 rfl
theorem dX6_digest_64 : decode cX6_digest 64 = .ok (.iinc 4 1, 3) := dec_at kDX6_digest_0 36 rfl
theorem dX6_digest_67 : decode cX6_digest 67 = .ok (.goto (-22), 3) := dec_at kDX6_digest_0 37 rfl
theorem dX6_digest_70 : decode cX6_digest 70 = .ok (.iconst 0, 1) := dec_at kDX6_digest_0 38 rfl
theorem dX6_digest_71 : decode cX6_digest 71 = .ok (.istore 4, 2) := dec_at kDX6_digest_0 39 rfl
theorem dX6_digest_73 : decode cX6_digest 73 = .ok (.iload 4, 2) := dec_at kDX6_digest_0 40 rfl
theorem dX6_digest_75 : decode cX6_digest 75 = .ok (.aload_n 0, 1) := dec_at kDX6_digest_0 41 rfl
theorem dX6_digest_76 : decode cX6_digest 76 = .ok (.getfield 19, 3) := dec_at kDX6_digest_0 42 rfl
theorem dX6_digest_79 : decode cX6_digest 79 = .ok (.getfield 136, 3) := dec_at kDX6_digest_0 43 rfl
theorem dX6_digest_82 : decode cX6_digest 82 = .ok (.if_icmp .ge 22, 3) := dec_at kDX6_digest_0 44 rfl
theorem dX6_digest_85 : decode cX6_digest 85 = .ok (.lload_n 1, 1) := dec_at kDX6_digest_0 45 rfl
theorem dX6_digest_86 : decode cX6_digest 86 = .ok (.aload_n 0, 1) := dec_at kDX6_digest_0 46 rfl
theorem dX6_digest_87 : decode cX6_digest 87 = .ok (.iload_n 3, 1) := dec_at kDX6_digest_0 47 rfl
theorem dX6_digest_88 : decode cX6_digest 88 = .ok (.iload 4, 2) := dec_at kDX6_digest_0 48 rfl
theorem dX6_digest_90 : decode cX6_digest 90 = .ok (.invokevirtual 313, 3) := dec_at kDX6_digest_0 49 rfl
def DX6_digest_50 : List (Nat × (Instr × Nat)) := [(93, (.i2l, 1)), (94, (.invokestatic 306, 3)), (97, (.lstore_n 1, 1)), (98, (.iinc 4 1, 3)), (101, (.goto (-28), 3)), (104, (.iinc 3 1, 3)), (107, (.goto (-76), 3)), (110, (.lload_n 1, 1)), (111, (.aload_n 0, 1)), (112, (.iconst 0, 1)), (113, (.invokevirtual 316, 3)), (116, (.i2l, 1)), (117, (.invokestatic 306, 3)), (120, (.lstore_n 1, 1)), (121, (.lload_n 1, 1)), (122, (.aload_n 0, 1)), (123, (.iconst 1, 1)), (124, (.invokevirtual 316, 3)), (127, (.i2l, 1)), (128, (.invokestatic 306, 3)), (131, (.lstore_n 1, 1)), (132, (.lload_n 1, 1)), (133, (.aload_n 0, 1)), (134, (.iconst 1, 1)), (135, (.invokevirtual 319, 3)), (138, (.invokestatic 306, 3)), (141, (.lstore_n 1, 1)), (142, (.lload_n 1, 1)), (143, (.aload_n 0, 1)), (144, (.iconst 2, 1)), (145, (.invokevirtual 319, 3)), (148, (.invokestatic 306, 3)), (151, (.lstore_n 1, 1)), (152, (.lload_n 1, 1)), (153, (.aload_n 0, 1)), (154, (.invokevirtual 322, 3)), (157, (.i2l, 1)), (158, (.invokestatic 306, 3)), (161, (.lstore_n 1, 1)), (162, (.aload_n 0, 1)), (163, (.aload_n 0, 1)), (164, (.lload_n 1, 1)), (165, (.invokevirtual 325, 3)), (168, (.invokevirtual 328, 3)), (171, (.lreturn, 1))]
theorem kDX6_digest_50 : DX6_digest_50.all (fun q => decide (decode cX6_digest q.1 = .ok q.2)) = true := by decide +kernel
theorem dX6_digest_93 : decode cX6_digest 93 = .ok (.i2l, 1) := dec_at kDX6_digest_50 0 rfl
theorem dX6_digest_94 : decode cX6_digest 94 = .ok (.invokestatic 306, 3) := dec_at kDX6_digest_50 1 rfl
theorem dX6_digest_97 : decode cX6_digest 97 = .ok (.lstore_n 1, 1) := dec_at kDX6_digest_50 2 rfl
theorem dX6_digest_98 : decode cX6_digest 98 = .ok (.iinc 4 1, 3) := dec_at kDX6_digest_50 3 rfl
theorem dX6_digest_101 : decode cX6_digest 101 = .ok (.goto (-28), 3) := dec_at kDX6_digest_50 4 rfl
theorem dX6_digest_104 : decode cX6_digest 104 = .ok (.iinc 3 1, 3) := dec_at kDX6_digest_50 5 rfl
theorem dX6_digest_107 : decode cX6_digest 107 = .ok (.goto (-76), 3) := dec_at kDX6_digest_50 6 rfl
theorem dX6_digest_110 : decode cX6_digest 110 = .ok (.lload_n 1, 1) := dec_at kDX6_digest_50 7 rfl
theorem dX6_digest_111 : decode cX6_digest 111 = .ok (.aload_n 0, 1) := dec_at kDX6_digest_50 8 rfl
theorem dX6_digest_112 : decode cX6_digest 112 = .ok (.iconst 0, 1) := dec_at kDX6_digest_50 9 rfl
theorem dX6_digest_113 : decode cX6_digest 113 = .ok (.invokevirtual 316, 3) := dec_at kDX6_digest_50 10 rfl
theorem dX6_digest_116 : decode cX6_digest 116 = .ok (.i2l, 1) := dec_at kDX6_digest_50 11 rfl
theorem dX6_digest_117 : decode cX6_digest 117 = .ok (.invokestatic 306, 3) := dec_at kDX6_digest_50 12 rfl
theorem dX6_digest_120 : decode cX6_digest 120 = .ok (.lstore_n 1, 1) := dec_at kDX6_digest_50 13 rfl
theorem dX6_digest_121 : decode cX6_digest 121 = .ok (.lload_n 1, 1) := dec_at kDX6_digest_50 14 rfl
theorem dX6_digest_122 : decode cX6_digest 122 = .ok (.aload_n 0, 1) := dec_at kDX6_digest_50 15 rfl
theorem dX6_digest_123 : decode cX6_digest 123 = .ok (.iconst 1, 1) := dec_at kDX6_digest_50 16 rfl
theorem dX6_digest_124 : decode cX6_digest 124 = .ok (.invokevirtual 316, 3) := dec_at kDX6_digest_50 17 rfl
theorem dX6_digest_127 : decode cX6_digest 127 = .ok (.i2l, 1) := dec_at kDX6_digest_50 18 rfl
theorem dX6_digest_128 : decode cX6_digest 128 = .ok (.invokestatic 306, 3) := dec_at kDX6_digest_50 19 rfl
theorem dX6_digest_131 : decode cX6_digest 131 = .ok (.lstore_n 1, 1) := dec_at kDX6_digest_50 20 rfl
theorem dX6_digest_132 : decode cX6_digest 132 = .ok (.lload_n 1, 1) := dec_at kDX6_digest_50 21 rfl
theorem dX6_digest_133 : decode cX6_digest 133 = .ok (.aload_n 0, 1) := dec_at kDX6_digest_50 22 rfl
theorem dX6_digest_134 : decode cX6_digest 134 = .ok (.iconst 1, 1) := dec_at kDX6_digest_50 23 rfl
theorem dX6_digest_135 : decode cX6_digest 135 = .ok (.invokevirtual 319, 3) := dec_at kDX6_digest_50 24 rfl
theorem dX6_digest_138 : decode cX6_digest 138 = .ok (.invokestatic 306, 3) := dec_at kDX6_digest_50 25 rfl
theorem dX6_digest_141 : decode cX6_digest 141 = .ok (.lstore_n 1, 1) := dec_at kDX6_digest_50 26 rfl
theorem dX6_digest_142 : decode cX6_digest 142 = .ok (.lload_n 1, 1) := dec_at kDX6_digest_50 27 rfl
theorem dX6_digest_143 : decode cX6_digest 143 = .ok (.aload_n 0, 1) := dec_at kDX6_digest_50 28 rfl
theorem dX6_digest_144 : decode cX6_digest 144 = .ok (.iconst 2, 1) := dec_at kDX6_digest_50 29 rfl
theorem dX6_digest_145 : decode cX6_digest 145 = .ok (.invokevirtual 319, 3) := dec_at kDX6_digest_50 30 rfl
theorem dX6_digest_148 : decode cX6_digest 148 = .ok (.invokestatic 306, 3) := dec_at kDX6_digest_50 31 rfl
theorem dX6_digest_151 : decode cX6_digest 151 = .ok (.lstore_n 1, 1) := dec_at kDX6_digest_50 32 rfl
theorem dX6_digest_152 : decode cX6_digest 152 = .ok (.lload_n 1, 1) := dec_at kDX6_digest_50 33 rfl
theorem dX6_digest_153 : decode cX6_digest 153 = .ok (.aload_n 0, 1) := dec_at kDX6_digest_50 34 rfl
theorem dX6_digest_154 : decode cX6_digest 154 = .ok (.invokevirtual 322, 3) := dec_at kDX6_digest_50 35 rfl
theorem dX6_digest_157 : decode cX6_digest 157 = .ok (.i2l, 1) := dec_at kDX6_digest_50 36 rfl
theorem dX6_digest_158 : decode cX6_digest 158 = .ok (.invokestatic 306, 3) := dec_at kDX6_digest_50 37 rfl
theorem dX6_digest_161 : decode cX6_digest 161 = .ok (.lstore_n 1, 1) := dec_at kDX6_digest_50 38 rfl
theorem dX6_digest_162 : decode cX6_digest 162 = .ok (.aload_n 0, 1) := dec_at kDX6_digest_50 39 rfl
theorem dX6_digest_163 : decode cX6_digest 163 = .ok (.aload_n 0, 1) := dec_at kDX6_digest_50 40 rfl
theorem dX6_digest_164 : decode cX6_digest 164 = .ok (.lload_n 1, 1) := dec_at kDX6_digest_50 41 rfl
theorem dX6_digest_165 : decode cX6_digest 165 = .ok (.invokevirtual 325, 3) := dec_at kDX6_digest_50 42 rfl
theorem dX6_digest_168 : decode cX6_digest 168 = .ok (.invokevirtual 328, 3) := dec_at kDX6_digest_50 43 rfl
theorem dX6_digest_171 : decode cX6_digest 171 = .ok (.lreturn, 1) := dec_at kDX6_digest_50 44 rfl
def DX6_requireState_0 : List (Nat × (Instr × Nat)) := [(0, (.iload_n 1, 1)), (1, (.ifCond .lt 14, 3)), (4, (.iload_n 1, 1)), (5, (.aload_n 0, 1)), (6, (.getfield 19, 3)), (9, (.getfield 62, 3)), (12, (.if_icmp .lt 14, 3)), (15, (.new 94, 3)), (18, (.dup, 1)), (19, (.ldc_w 331, 3)), (22, (.invokespecial 98, 3)), (25, (.athrow, 1)), (26, (.return_, 1))]
theorem kDX6_requireState_0 : DX6_requireState_0.all (fun q => decide (decode cX6_requireState q.1 = .ok q.2)) = true := by decide +kernel
theorem dX6_requireState_0 : decode cX6_requireState 0 = .ok (.iload_n 1, 1) := dec_at kDX6_requireState_0 0 rfl
theorem dX6_requireState_1 : decode cX6_requireState 1 = .ok (.ifCond .lt 14, 3) := dec_at kDX6_requireState_0 1 rfl
theorem dX6_requireState_4 : decode cX6_requireState 4 = .ok (.iload_n 1, 1) := dec_at kDX6_requireState_0 2 rfl
theorem dX6_requireState_5 : decode cX6_requireState 5 = .ok (.aload_n 0, 1) := dec_at kDX6_requireState_0 3 rfl
theorem dX6_requireState_6 : decode cX6_requireState 6 = .ok (.getfield 19, 3) := dec_at kDX6_requireState_0 4 rfl
theorem dX6_requireState_9 : decode cX6_requireState 9 = .ok (.getfield 62, 3) := dec_at kDX6_requireState_0 5 rfl
theorem dX6_requireState_12 : decode cX6_requireState 12 = .ok (.if_icmp .lt 14, 3) := dec_at kDX6_requireState_0 6 rfl
theorem dX6_requireState_15 : decode cX6_requireState 15 = .ok (.new 94, 3) := dec_at kDX6_requireState_0 7 rfl
theorem dX6_requireState_18 : decode cX6_requireState 18 = .ok (.dup, 1) := dec_at kDX6_requireState_0 8 rfl
theorem dX6_requireState_19 : decode cX6_requireState 19 = .ok (.ldc_w 331, 3) := dec_at kDX6_requireState_0 9 rfl
theorem dX6_requireState_22 : decode cX6_requireState 22 = .ok (.invokespecial 98, 3) := dec_at kDX6_requireState_0 10 rfl
theorem dX6_requireState_25 : decode cX6_requireState 25 = .ok (.athrow, 1) := dec_at kDX6_requireState_0 11 rfl
theorem dX6_requireState_26 : decode cX6_requireState 26 = .ok (.return_, 1) := dec_at kDX6_requireState_0 12 rfl
def DX6_requireStateFormula_0 : List (Nat × (Instr × Nat)) := [(0, (.aload_n 0, 1)), (1, (.getfield 10, 3)), (4, (.aload_n 0, 1)), (5, (.getfield 19, 3)), (8, (.getfield 84, 3)), (11, (.aload_n 0, 1)), (12, (.getfield 19, 3)), (15, (.getfield 87, 3)), (18, (.invokevirtual 99, 3)), (21, (.ifCond .eq 13, 3)), (24, (.aload_n 0, 1)), (25, (.getfield 10, 3)), (28, (.invokevirtual 333, 3)), (31, (.ifCond .eq 14, 3)), (34, (.new 72, 3)), (37, (.dup, 1)), (38, (.ldc_w 336, 3)), (41, (.invokespecial 76, 3)), (44, (.athrow, 1)), (45, (.return_, 1))]
theorem kDX6_requireStateFormula_0 : DX6_requireStateFormula_0.all (fun q => decide (decode cX6_requireStateFormula q.1 = .ok q.2)) = true := by decide +kernel
theorem dX6_requireStateFormula_0 : decode cX6_requireStateFormula 0 = .ok (.aload_n 0, 1) := dec_at kDX6_requireStateFormula_0 0 rfl
theorem dX6_requireStateFormula_1 : decode cX6_requireStateFormula 1 = .ok (.getfield 10, 3) := dec_at kDX6_requireStateFormula_0 1 rfl
theorem dX6_requireStateFormula_4 : decode cX6_requireStateFormula 4 = .ok (.aload_n 0, 1) := dec_at kDX6_requireStateFormula_0 2 rfl
theorem dX6_requireStateFormula_5 : decode cX6_requireStateFormula 5 = .ok (.getfield 19, 3) := dec_at kDX6_requireStateFormula_0 3 rfl
theorem dX6_requireStateFormula_8 : decode cX6_requireStateFormula 8 = .ok (.getfield 84, 3) := dec_at kDX6_requireStateFormula_0 4 rfl
theorem dX6_requireStateFormula_11 : decode cX6_requireStateFormula 11 = .ok (.aload_n 0, 1) := dec_at kDX6_requireStateFormula_0 5 rfl
theorem dX6_requireStateFormula_12 : decode cX6_requireStateFormula 12 = .ok (.getfield 19, 3) := dec_at kDX6_requireStateFormula_0 6 rfl
theorem dX6_requireStateFormula_15 : decode cX6_requireStateFormula 15 = .ok (.getfield 87, 3) := dec_at kDX6_requireStateFormula_0 7 rfl
theorem dX6_requireStateFormula_18 : decode cX6_requireStateFormula 18 = .ok (.invokevirtual 99, 3) := dec_at kDX6_requireStateFormula_0 8 rfl
theorem dX6_requireStateFormula_21 : decode cX6_requireStateFormula 21 = .ok (.ifCond .eq 13, 3) := dec_at kDX6_requireStateFormula_0 9 rfl
theorem dX6_requireStateFormula_24 : decode cX6_requireStateFormula 24 = .ok (.aload_n 0, 1) := dec_at kDX6_requireStateFormula_0 10 rfl
theorem dX6_requireStateFormula_25 : decode cX6_requireStateFormula 25 = .ok (.getfield 10, 3) := dec_at kDX6_requireStateFormula_0 11 rfl
theorem dX6_requireStateFormula_28 : decode cX6_requireStateFormula 28 = .ok (.invokevirtual 333, 3) := dec_at kDX6_requireStateFormula_0 12 rfl
theorem dX6_requireStateFormula_31 : decode cX6_requireStateFormula 31 = .ok (.ifCond .eq 14, 3) := dec_at kDX6_requireStateFormula_0 13 rfl
theorem dX6_requireStateFormula_34 : decode cX6_requireStateFormula 34 = .ok (.new 72, 3) := dec_at kDX6_requireStateFormula_0 14 rfl
theorem dX6_requireStateFormula_37 : decode cX6_requireStateFormula 37 = .ok (.dup, 1) := dec_at kDX6_requireStateFormula_0 15 rfl
theorem dX6_requireStateFormula_38 : decode cX6_requireStateFormula 38 = .ok (.ldc_w 336, 3) := dec_at kDX6_requireStateFormula_0 16 rfl
theorem dX6_requireStateFormula_41 : decode cX6_requireStateFormula 41 = .ok (.invokespecial 76, 3) := dec_at kDX6_requireStateFormula_0 17 rfl
theorem dX6_requireStateFormula_44 : decode cX6_requireStateFormula 44 = .ok (.athrow, 1) := dec_at kDX6_requireStateFormula_0 18 rfl
theorem dX6_requireStateFormula_45 : decode cX6_requireStateFormula 45 = .ok (.return_, 1) := dec_at kDX6_requireStateFormula_0 19 rfl
def DX6_requireProof_0 : List (Nat × (Instr × Nat)) := [(0, (.aload_n 0, 1)), (1, (.getfield 35, 3)), (4, (.getfield 233, 3)), (7, (.ifCond .ne 14, 3)), (10, (.new 72, 3)), (13, (.dup, 1)), (14, (.ldc_w 338, 3)), (17, (.invokespecial 76, 3)), (20, (.athrow, 1)), (21, (.return_, 1))]
theorem kDX6_requireProof_0 : DX6_requireProof_0.all (fun q => decide (decode cX6_requireProof q.1 = .ok q.2)) = true := by decide +kernel
theorem dX6_requireProof_0 : decode cX6_requireProof 0 = .ok (.aload_n 0, 1) := dec_at kDX6_requireProof_0 0 rfl
theorem dX6_requireProof_1 : decode cX6_requireProof 1 = .ok (.getfield 35, 3) := dec_at kDX6_requireProof_0 1 rfl
theorem dX6_requireProof_4 : decode cX6_requireProof 4 = .ok (.getfield 233, 3) := dec_at kDX6_requireProof_0 2 rfl
theorem dX6_requireProof_7 : decode cX6_requireProof 7 = .ok (.ifCond .ne 14, 3) := dec_at kDX6_requireProof_0 3 rfl
theorem dX6_requireProof_10 : decode cX6_requireProof 10 = .ok (.new 72, 3) := dec_at kDX6_requireProof_0 4 rfl
theorem dX6_requireProof_13 : decode cX6_requireProof 13 = .ok (.dup, 1) := dec_at kDX6_requireProof_0 5 rfl
theorem dX6_requireProof_14 : decode cX6_requireProof 14 = .ok (.ldc_w 338, 3) := dec_at kDX6_requireProof_0 6 rfl
theorem dX6_requireProof_17 : decode cX6_requireProof 17 = .ok (.invokespecial 76, 3) := dec_at kDX6_requireProof_0 7 rfl
theorem dX6_requireProof_20 : decode cX6_requireProof 20 = .ok (.athrow, 1) := dec_at kDX6_requireProof_0 8 rfl
theorem dX6_requireProof_21 : decode cX6_requireProof 21 = .ok (.return_, 1) := dec_at kDX6_requireProof_0 9 rfl
def DX6_requireSafeProof_0 : List (Nat × (Instr × Nat)) := [(0, (.aload_n 0, 1)), (1, (.getfield 35, 3)), (4, (.getfield 233, 3)), (7, (.ifCond .eq 13, 3)), (10, (.aload_n 0, 1)), (11, (.getfield 35, 3)), (14, (.getfield 228, 3)), (17, (.ifCond .eq 14, 3)), (20, (.new 72, 3)), (23, (.dup, 1)), (24, (.ldc_w 340, 3)), (27, (.invokespecial 76, 3)), (30, (.athrow, 1)), (31, (.return_, 1))]
theorem kDX6_requireSafeProof_0 : DX6_requireSafeProof_0.all (fun q => decide (decode cX6_requireSafeProof q.1 = .ok q.2)) = true := by decide +kernel
theorem dX6_requireSafeProof_0 : decode cX6_requireSafeProof 0 = .ok (.aload_n 0, 1) := dec_at kDX6_requireSafeProof_0 0 rfl
theorem dX6_requireSafeProof_1 : decode cX6_requireSafeProof 1 = .ok (.getfield 35, 3) := dec_at kDX6_requireSafeProof_0 1 rfl
theorem dX6_requireSafeProof_4 : decode cX6_requireSafeProof 4 = .ok (.getfield 233, 3) := dec_at kDX6_requireSafeProof_0 2 rfl
theorem dX6_requireSafeProof_7 : decode cX6_requireSafeProof 7 = .ok (.ifCond .eq 13, 3) := dec_at kDX6_requireSafeProof_0 3 rfl
theorem dX6_requireSafeProof_10 : decode cX6_requireSafeProof 10 = .ok (.aload_n 0, 1) := dec_at kDX6_requireSafeProof_0 4 rfl
theorem dX6_requireSafeProof_11 : decode cX6_requireSafeProof 11 = .ok (.getfield 35, 3) := dec_at kDX6_requireSafeProof_0 5 rfl
theorem dX6_requireSafeProof_14 : decode cX6_requireSafeProof 14 = .ok (.getfield 228, 3) := dec_at kDX6_requireSafeProof_0 6 rfl
theorem dX6_requireSafeProof_17 : decode cX6_requireSafeProof 17 = .ok (.ifCond .eq 14, 3) := dec_at kDX6_requireSafeProof_0 7 rfl
theorem dX6_requireSafeProof_20 : decode cX6_requireSafeProof 20 = .ok (.new 72, 3) := dec_at kDX6_requireSafeProof_0 8 rfl
theorem dX6_requireSafeProof_23 : decode cX6_requireSafeProof 23 = .ok (.dup, 1) := dec_at kDX6_requireSafeProof_0 9 rfl
theorem dX6_requireSafeProof_24 : decode cX6_requireSafeProof 24 = .ok (.ldc_w 340, 3) := dec_at kDX6_requireSafeProof_0 10 rfl
theorem dX6_requireSafeProof_27 : decode cX6_requireSafeProof 27 = .ok (.invokespecial 76, 3) := dec_at kDX6_requireSafeProof_0 11 rfl
theorem dX6_requireSafeProof_30 : decode cX6_requireSafeProof 30 = .ok (.athrow, 1) := dec_at kDX6_requireSafeProof_0 12 rfl
theorem dX6_requireSafeProof_31 : decode cX6_requireSafeProof 31 = .ok (.return_, 1) := dec_at kDX6_requireSafeProof_0 13 rfl
def DX6_forgetResults_0 : List (Nat × (Instr × Nat)) := [(0, (.aload_n 0, 1)), (1, (.getfield 28, 3)), (4, (.iconst 0, 1)), (5, (.putfield 342, 3)), (8, (.aload_n 0, 1)), (9, (.getfield 35, 3)), (12, (.iconst 0, 1)), (13, (.putfield 233, 3)), (16, (.return_, 1))]
theorem kDX6_forgetResults_0 : DX6_forgetResults_0.all (fun q => decide (decode cX6_forgetResults q.1 = .ok q.2)) = true := by decide +kernel
theorem dX6_forgetResults_0 : decode cX6_forgetResults 0 = .ok (.aload_n 0, 1) := dec_at kDX6_forgetResults_0 0 rfl
theorem dX6_forgetResults_1 : decode cX6_forgetResults 1 = .ok (.getfield 28, 3) := dec_at kDX6_forgetResults_0 1 rfl
theorem dX6_forgetResults_4 : decode cX6_forgetResults 4 = .ok (.iconst 0, 1) := dec_at kDX6_forgetResults_0 2 rfl
theorem dX6_forgetResults_5 : decode cX6_forgetResults 5 = .ok (.putfield 342, 3) := dec_at kDX6_forgetResults_0 3 rfl
theorem dX6_forgetResults_8 : decode cX6_forgetResults 8 = .ok (.aload_n 0, 1) := dec_at kDX6_forgetResults_0 4 rfl
theorem dX6_forgetResults_9 : decode cX6_forgetResults 9 = .ok (.getfield 35, 3) := dec_at kDX6_forgetResults_0 5 rfl
theorem dX6_forgetResults_12 : decode cX6_forgetResults 12 = .ok (.iconst 0, 1) := dec_at kDX6_forgetResults_0 6 rfl
theorem dX6_forgetResults_13 : decode cX6_forgetResults 13 = .ok (.putfield 233, 3) := dec_at kDX6_forgetResults_0 7 rfl
theorem dX6_forgetResults_16 : decode cX6_forgetResults 16 = .ok (.return_, 1) := dec_at kDX6_forgetResults_0 8 rfl
def DX6_takeFormula_0 : List (Nat × (Instr × Nat)) := [(0, (.aload_n 0, 1)), (1, (.getfield 19, 3)), (4, (.iload_n 1, 1)), (5, (.aload_n 0, 1)), (6, (.getfield 10, 3)), (9, (.invokevirtual 345, 3)), (12, (.istore_n 2, 1)), (13, (.aload_n 0, 1)), (14, (.getfield 10, 3)), (17, (.iconst 0, 1)), (18, (.putfield 81, 3)), (21, (.aload_n 0, 1)), (22, (.invokevirtual 59, 3)), (25, (.iload_n 2, 1)), (26, (.ireturn, 1))]
theorem kDX6_takeFormula_0 : DX6_takeFormula_0.all (fun q => decide (decode cX6_takeFormula q.1 = .ok q.2)) = true := by decide +kernel
theorem dX6_takeFormula_0 : decode cX6_takeFormula 0 = .ok (.aload_n 0, 1) := dec_at kDX6_takeFormula_0 0 rfl
theorem dX6_takeFormula_1 : decode cX6_takeFormula 1 = .ok (.getfield 19, 3) := dec_at kDX6_takeFormula_0 1 rfl
theorem dX6_takeFormula_4 : decode cX6_takeFormula 4 = .ok (.iload_n 1, 1) := dec_at kDX6_takeFormula_0 2 rfl
theorem dX6_takeFormula_5 : decode cX6_takeFormula 5 = .ok (.aload_n 0, 1) := dec_at kDX6_takeFormula_0 3 rfl
theorem dX6_takeFormula_6 : decode cX6_takeFormula 6 = .ok (.getfield 10, 3) := dec_at kDX6_takeFormula_0 4 rfl
theorem dX6_takeFormula_9 : decode cX6_takeFormula 9 = .ok (.invokevirtual 345, 3) := dec_at kDX6_takeFormula_0 5 rfl
theorem dX6_takeFormula_12 : decode cX6_takeFormula 12 = .ok (.istore_n 2, 1) := dec_at kDX6_takeFormula_0 6 rfl
theorem dX6_takeFormula_13 : decode cX6_takeFormula 13 = .ok (.aload_n 0, 1) := dec_at kDX6_takeFormula_0 7 rfl
theorem dX6_takeFormula_14 : decode cX6_takeFormula 14 = .ok (.getfield 10, 3) := dec_at kDX6_takeFormula_0 8 rfl
theorem dX6_takeFormula_17 : decode cX6_takeFormula 17 = .ok (.iconst 0, 1) := dec_at kDX6_takeFormula_0 9 rfl
theorem dX6_takeFormula_18 : decode cX6_takeFormula 18 = .ok (.putfield 81, 3) := dec_at kDX6_takeFormula_0 10 rfl
theorem dX6_takeFormula_21 : decode cX6_takeFormula 21 = .ok (.aload_n 0, 1) := dec_at kDX6_takeFormula_0 11 rfl
theorem dX6_takeFormula_22 : decode cX6_takeFormula 22 = .ok (.invokevirtual 59, 3) := dec_at kDX6_takeFormula_0 12 rfl
theorem dX6_takeFormula_25 : decode cX6_takeFormula 25 = .ok (.iload_n 2, 1) := dec_at kDX6_takeFormula_0 13 rfl
theorem dX6_takeFormula_26 : decode cX6_takeFormula 26 = .ok (.ireturn, 1) := dec_at kDX6_takeFormula_0 14 rfl
def DX6_askedStates_0 : List (Nat × (Instr × Nat)) := [(0, (.aload_n 0, 1)), (1, (.getfield 10, 3)), (4, (.iconst 0, 1)), (5, (.invokevirtual 349, 3)), (8, (.aload_n 0, 1)), (9, (.getfield 19, 3)), (12, (.getfield 204, 3)), (15, (.land, 1)), (16, (.lreturn, 1))]
theorem kDX6_askedStates_0 : DX6_askedStates_0.all (fun q => decide (decode cX6_askedStates q.1 = .ok q.2)) = true := by decide +kernel
theorem dX6_askedStates_0 : decode cX6_askedStates 0 = .ok (.aload_n 0, 1) := dec_at kDX6_askedStates_0 0 rfl
theorem dX6_askedStates_1 : decode cX6_askedStates 1 = .ok (.getfield 10, 3) := dec_at kDX6_askedStates_0 1 rfl
theorem dX6_askedStates_4 : decode cX6_askedStates 4 = .ok (.iconst 0, 1) := dec_at kDX6_askedStates_0 2 rfl
theorem dX6_askedStates_5 : decode cX6_askedStates 5 = .ok (.invokevirtual 349, 3) := dec_at kDX6_askedStates_0 3 rfl
theorem dX6_askedStates_8 : decode cX6_askedStates 8 = .ok (.aload_n 0, 1) := dec_at kDX6_askedStates_0 4 rfl
theorem dX6_askedStates_9 : decode cX6_askedStates 9 = .ok (.getfield 19, 3) := dec_at kDX6_askedStates_0 5 rfl
theorem dX6_askedStates_12 : decode cX6_askedStates 12 = .ok (.getfield 204, 3) := dec_at kDX6_askedStates_0 6 rfl
theorem dX6_askedStates_15 : decode cX6_askedStates 15 = .ok (.land, 1) := dec_at kDX6_askedStates_0 7 rfl
theorem dX6_askedStates_16 : decode cX6_askedStates 16 = .ok (.lreturn, 1) := dec_at kDX6_askedStates_0 8 rfl
def DX6_hashOfProof_0 : List (Nat × (Instr × Nat)) := [(0, (.lload_n 1, 1)), (1, (.lstore_n 3, 1)), (2, (.iconst 0, 1)), (3, (.istore 5, 2)), (5, (.iload 5, 2)), (7, (.bipush 8, 2)), (9, (.if_icmp .ge 21, 3)), (12, (.lload_n 3, 1)), (13, (.aload_n 0, 1)), (14, (.iload 5, 2)), (16, (.invokevirtual 352, 3)), (19, (.i2l, 1)), (20, (.invokestatic 306, 3)), (23, (.lstore_n 3, 1)), (24, (.iinc 5 1, 3)), (27, (.goto (-22), 3)), (30, (.aload_n 0, 1)), (31, (.getfield 35, 3)), (34, (.getfield 233, 3)), (37, (.ifCond .ne 5, 3)), (40, (.lload_n 3, 1)), (41, (.lreturn, 1)), (42, (.iconst 0, 1)), (43, (.istore 5, 2)), (45, (.iload 5, 2)), (47, (.aload_n 0, 1)), (48, (.getfield 35, 3)), (51, (.getfield 243, 3)), (54, (.if_icmp .gt 20, 3)), (57, (.lload_n 3, 1)), (58, (.aload_n 0, 1)), (59, (.iload 5, 2)), (61, (.invokevirtual 355, 3)), (64, (.invokestatic 306, 3)), (67, (.lstore_n 3, 1)), (68, (.iinc 5 1, 3)), (71, (.goto (-26), 3)), (74, (.iconst 0, 1)), (75, (.istore 5, 2)), (77, (.iload 5, 2)), (79, (.aload_n 0, 1)), (80, (.getfield 35, 3)), (83, (.getfield 252, 3)), (86, (.getfield 256, 3)), (89, (.if_icmp .ge 38, 3)), (92, (.iconst 0, 1)), (93, (.istore 6, 2)), (95, (.iload 6, 2)), (97, (.iconst 3, 1)), (98, (.if_icmp .ge 23, 3))]
theorem kDX6_hashOfProof_0 : DX6_hashOfProof_0.all (fun q => decide (decode cX6_hashOfProof q.1 = .ok q.2)) = true := by decide +kernel
theorem dX6_hashOfProof_0 : decode cX6_hashOfProof 0 = .ok (.lload_n 1, 1) := dec_at kDX6_hashOfProof_0 0 rfl
theorem dX6_hashOfProof_1 : decode cX6_hashOfProof 1 = .ok (.lstore_n 3, 1) := dec_at kDX6_hashOfProof_0 1 rfl
theorem dX6_hashOfProof_2 : decode cX6_hashOfProof 2 = .ok (.iconst 0, 1) := dec_at kDX6_hashOfProof_0 2 rfl
theorem dX6_hashOfProof_3 : decode cX6_hashOfProof 3 = .ok (.istore 5, 2) := dec_at kDX6_hashOfProof_0 3 rfl
theorem dX6_hashOfProof_5 : decode cX6_hashOfProof 5 = .ok (.iload 5, 2) := dec_at kDX6_hashOfProof_0 4 rfl
theorem dX6_hashOfProof_7 : decode cX6_hashOfProof 7 = .ok (.bipush 8, 2) := dec_at kDX6_hashOfProof_0 5 rfl
theorem dX6_hashOfProof_9 : decode cX6_hashOfProof 9 = .ok (.if_icmp .ge 21, 3) := dec_at kDX6_hashOfProof_0 6 rfl
theorem dX6_hashOfProof_12 : decode cX6_hashOfProof 12 = .ok (.lload_n 3, 1) := dec_at kDX6_hashOfProof_0 7 rfl
theorem dX6_hashOfProof_13 : decode cX6_hashOfProof 13 = .ok (.aload_n 0, 1) := dec_at kDX6_hashOfProof_0 8 rfl
theorem dX6_hashOfProof_14 : decode cX6_hashOfProof 14 = .ok (.iload 5, 2) := dec_at kDX6_hashOfProof_0 9 rfl
theorem dX6_hashOfProof_16 : decode cX6_hashOfProof 16 = .ok (.invokevirtual 352, 3) := dec_at kDX6_hashOfProof_0 10 rfl
theorem dX6_hashOfProof_19 : decode cX6_hashOfProof 19 = .ok (.i2l, 1) := dec_at kDX6_hashOfProof_0 11 rfl
theorem dX6_hashOfProof_20 : decode cX6_hashOfProof 20 = .ok (.invokestatic 306, 3) := dec_at kDX6_hashOfProof_0 12 rfl
theorem dX6_hashOfProof_23 : decode cX6_hashOfProof 23 = .ok (.lstore_n 3, 1) := dec_at kDX6_hashOfProof_0 13 rfl
theorem dX6_hashOfProof_24 : decode cX6_hashOfProof 24 = .ok (.iinc 5 1, 3) := dec_at kDX6_hashOfProof_0 14 rfl
theorem dX6_hashOfProof_27 : decode cX6_hashOfProof 27 = .ok (.goto (-22), 3) := dec_at kDX6_hashOfProof_0 15 rfl
theorem dX6_hashOfProof_30 : decode cX6_hashOfProof 30 = .ok (.aload_n 0, 1) := dec_at kDX6_hashOfProof_0 16 rfl
theorem dX6_hashOfProof_31 : decode cX6_hashOfProof 31 = .ok (.getfield 35, 3) := dec_at kDX6_hashOfProof_0 17 rfl
theorem dX6_hashOfProof_34 : decode cX6_hashOfProof 34 = .ok (.getfield 233, 3) := dec_at kDX6_hashOfProof_0 18 rfl
theorem dX6_hashOfProof_37 : decode cX6_hashOfProof 37 = .ok (.ifCond .ne 5, 3) := dec_at kDX6_hashOfProof_0 19 rfl
theorem dX6_hashOfProof_40 : decode cX6_hashOfProof 40 = .ok (.lload_n 3, 1) := dec_at kDX6_hashOfProof_0 20 rfl
theorem dX6_hashOfProof_41 : decode cX6_hashOfProof 41 = .ok (.lreturn, 1) := dec_at kDX6_hashOfProof_0 21 rfl
theorem dX6_hashOfProof_42 : decode cX6_hashOfProof 42 = .ok (.iconst 0, 1) := dec_at kDX6_hashOfProof_0 22 rfl
theorem dX6_hashOfProof_43 : decode cX6_hashOfProof 43 = .ok (.istore 5, 2) := dec_at kDX6_hashOfProof_0 23 rfl
theorem dX6_hashOfProof_45 : decode cX6_hashOfProof 45 = .ok (.iload 5, 2) := dec_at kDX6_hashOfProof_0 24 rfl
theorem dX6_hashOfProof_47 : decode cX6_hashOfProof 47 = .ok (.aload_n 0, 1) := dec_at kDX6_hashOfProof_0 25 rfl
theorem dX6_hashOfProof_48 : decode cX6_hashOfProof 48 = .ok (.getfield 35, 3) := dec_at kDX6_hashOfProof_0 26 rfl
theorem dX6_hashOfProof_51 : decode cX6_hashOfProof 51 = .ok (.getfield 243, 3) := dec_at kDX6_hashOfProof_0 27 rfl
theorem dX6_hashOfProof_54 : decode cX6_hashOfProof 54 = .ok (.if_icmp .gt 20, 3) := dec_at kDX6_hashOfProof_0 28 rfl
theorem dX6_hashOfProof_57 : decode cX6_hashOfProof 57 = .ok (.lload_n 3, 1) := dec_at kDX6_hashOfProof_0 29 rfl
theorem dX6_hashOfProof_58 : decode cX6_hashOfProof 58 = .ok (.aload_n 0, 1) := dec_at kDX6_hashOfProof_0 30 rfl
theorem dX6_hashOfProof_59 : decode cX6_hashOfProof 59 = .ok (.iload 5, 2) := dec_at kDX6_hashOfProof_0 31 rfl
theorem dX6_hashOfProof_61 : decode cX6_hashOfProof 61 = .ok (.invokevirtual 355, 3) := dec_at kDX6_hashOfProof_0 32 rfl
theorem dX6_hashOfProof_64 : decode cX6_hashOfProof 64 = .ok (.invokestatic 306, 3) := dec_at kDX6_hashOfProof_0 33 rfl
theorem dX6_hashOfProof_67 : decode cX6_hashOfProof 67 = .ok (.lstore_n 3, 1) := dec_at kDX6_hashOfProof_0 34 rfl
theorem dX6_hashOfProof_68 : decode cX6_hashOfProof 68 = .ok (.iinc 5 1, 3) := dec_at kDX6_hashOfProof_0 35 rfl
theorem dX6_hashOfProof_71 : decode cX6_hashOfProof 71 = .ok (.goto (-26), 3) := dec_at kDX6_hashOfProof_0 36 rfl
theorem dX6_hashOfProof_74 : decode cX6_hashOfProof 74 = .ok (.iconst 0, 1) := dec_at kDX6_hashOfProof_0 37 rfl
theorem dX6_hashOfProof_75 : decode cX6_hashOfProof 75 = .ok (.istore 5, 2) := dec_at kDX6_hashOfProof_0 38 rfl
theorem dX6_hashOfProof_77 : decode cX6_hashOfProof 77 = .ok (.iload 5, 2) := dec_at kDX6_hashOfProof_0 39 rfl
theorem dX6_hashOfProof_79 : decode cX6_hashOfProof 79 = .ok (.aload_n 0, 1) := dec_at kDX6_hashOfProof_0 40 rfl
theorem dX6_hashOfProof_80 : decode cX6_hashOfProof 80 = .ok (.getfield 35, 3) := dec_at kDX6_hashOfProof_0 41 rfl
theorem dX6_hashOfProof_83 : decode cX6_hashOfProof 83 = .ok (.getfield 252, 3) := dec_at kDX6_hashOfProof_0 42 rfl
theorem dX6_hashOfProof_86 : decode cX6_hashOfProof 86 = .ok (.getfield 256, 3) := dec_at kDX6_hashOfProof_0 43 rfl
theorem dX6_hashOfProof_89 : decode cX6_hashOfProof 89 = .ok (.if_icmp .ge 38, 3) := dec_at kDX6_hashOfProof_0 44 rfl
theorem dX6_hashOfProof_92 : decode cX6_hashOfProof 92 = .ok (.iconst 0, 1) := dec_at kDX6_hashOfProof_0 45 rfl
theorem dX6_hashOfProof_93 : decode cX6_hashOfProof 93 = .ok (.istore 6, 2) := dec_at kDX6_hashOfProof_0 46 rfl
theorem dX6_hashOfProof_95 : decode cX6_hashOfProof 95 = .ok (.iload 6, 2) := dec_at kDX6_hashOfProof_0 47 rfl
theorem dX6_hashOfProof_97 : decode cX6_hashOfProof 97 = .ok (.iconst 3, 1) := dec_at kDX6_hashOfProof_0 48 rfl
theorem dX6_hashOfProof_98 : decode cX6_hashOfProof 98 = .ok (.if_icmp .ge 23, 3) := dec_at kDX6_hashOfProof_0 49 rfl
def DX6_hashOfProof_50 : List (Nat × (Instr × Nat)) := [(101, (.lload_n 3, 1)), (102, (.aload_n 0, 1)), (103, (.iload 5, 2)), (105, (.iload 6, 2)), (107, (.invokevirtual 358, 3)), (110, (.i2l, 1)), (111, (.invokestatic 306, 3)), (114, (.lstore_n 3, 1)), (115, (.iinc 6 1, 3)), (118, (.goto (-23), 3)), (121, (.iinc 5 1, 3)), (124, (.goto (-47), 3)), (127, (.lload_n 3, 1)), (128, (.lreturn, 1))]
theorem kDX6_hashOfProof_50 : DX6_hashOfProof_50.all (fun q => decide (decode cX6_hashOfProof q.1 = .ok q.2)) = true := by decide +kernel
theorem dX6_hashOfProof_101 : decode cX6_hashOfProof 101 = .ok (.lload_n 3, 1) := dec_at kDX6_hashOfProof_50 0 rfl
theorem dX6_hashOfProof_102 : decode cX6_hashOfProof 102 = .ok (.aload_n 0, 1) := dec_at kDX6_hashOfProof_50 1 rfl
theorem dX6_hashOfProof_103 : decode cX6_hashOfProof 103 = .ok (.iload 5, 2) := dec_at kDX6_hashOfProof_50 2 rfl
theorem dX6_hashOfProof_105 : decode cX6_hashOfProof 105 = .ok (.iload 6, 2) := dec_at kDX6_hashOfProof_50 3 rfl
theorem dX6_hashOfProof_107 : decode cX6_hashOfProof 107 = .ok (.invokevirtual 358, 3) := dec_at kDX6_hashOfProof_50 4 rfl
theorem dX6_hashOfProof_110 : decode cX6_hashOfProof 110 = .ok (.i2l, 1) := dec_at kDX6_hashOfProof_50 5 rfl
theorem dX6_hashOfProof_111 : decode cX6_hashOfProof 111 = .ok (.invokestatic 306, 3) := dec_at kDX6_hashOfProof_50 6 rfl
theorem dX6_hashOfProof_114 : decode cX6_hashOfProof 114 = .ok (.lstore_n 3, 1) := dec_at kDX6_hashOfProof_50 7 rfl
theorem dX6_hashOfProof_115 : decode cX6_hashOfProof 115 = .ok (.iinc 6 1, 3) := dec_at kDX6_hashOfProof_50 8 rfl
theorem dX6_hashOfProof_118 : decode cX6_hashOfProof 118 = .ok (.goto (-23), 3) := dec_at kDX6_hashOfProof_50 9 rfl
theorem dX6_hashOfProof_121 : decode cX6_hashOfProof 121 = .ok (.iinc 5 1, 3) := dec_at kDX6_hashOfProof_50 10 rfl
theorem dX6_hashOfProof_124 : decode cX6_hashOfProof 124 = .ok (.goto (-47), 3) := dec_at kDX6_hashOfProof_50 11 rfl
theorem dX6_hashOfProof_127 : decode cX6_hashOfProof 127 = .ok (.lload_n 3, 1) := dec_at kDX6_hashOfProof_50 12 rfl
theorem dX6_hashOfProof_128 : decode cX6_hashOfProof 128 = .ok (.lreturn, 1) := dec_at kDX6_hashOfProof_50 13 rfl
def DX6_hashOfBuffer_0 : List (Nat × (Instr × Nat)) := [(0, (.lload_n 1, 1)), (1, (.aload_n 0, 1)), (2, (.getfield 10, 3)), (5, (.getfield 81, 3)), (8, (.i2l, 1)), (9, (.invokestatic 306, 3)), (12, (.lstore_n 3, 1)), (13, (.iconst 0, 1)), (14, (.istore 5, 2)), (16, (.iload 5, 2)), (18, (.aload_n 0, 1)), (19, (.getfield 10, 3)), (22, (.getfield 81, 3)), (25, (.if_icmp .ge 24, 3)), (28, (.lload_n 3, 1)), (29, (.aload_n 0, 1)), (30, (.getfield 10, 3)), (33, (.iload 5, 2)), (35, (.invokevirtual 361, 3)), (38, (.i2l, 1)), (39, (.invokestatic 306, 3)), (42, (.lstore_n 3, 1)), (43, (.iinc 5 1, 3)), (46, (.goto (-30), 3)), (49, (.lload_n 3, 1)), (50, (.lreturn, 1))]
theorem kDX6_hashOfBuffer_0 : DX6_hashOfBuffer_0.all (fun q => decide (decode cX6_hashOfBuffer q.1 = .ok q.2)) = true := by decide +kernel
theorem dX6_hashOfBuffer_0 : decode cX6_hashOfBuffer 0 = .ok (.lload_n 1, 1) := dec_at kDX6_hashOfBuffer_0 0 rfl
theorem dX6_hashOfBuffer_1 : decode cX6_hashOfBuffer 1 = .ok (.aload_n 0, 1) := dec_at kDX6_hashOfBuffer_0 1 rfl
theorem dX6_hashOfBuffer_2 : decode cX6_hashOfBuffer 2 = .ok (.getfield 10, 3) := dec_at kDX6_hashOfBuffer_0 2 rfl
theorem dX6_hashOfBuffer_5 : decode cX6_hashOfBuffer 5 = .ok (.getfield 81, 3) := dec_at kDX6_hashOfBuffer_0 3 rfl
theorem dX6_hashOfBuffer_8 : decode cX6_hashOfBuffer 8 = .ok (.i2l, 1) := dec_at kDX6_hashOfBuffer_0 4 rfl
theorem dX6_hashOfBuffer_9 : decode cX6_hashOfBuffer 9 = .ok (.invokestatic 306, 3) := dec_at kDX6_hashOfBuffer_0 5 rfl
theorem dX6_hashOfBuffer_12 : decode cX6_hashOfBuffer 12 = .ok (.lstore_n 3, 1) := dec_at kDX6_hashOfBuffer_0 6 rfl
theorem dX6_hashOfBuffer_13 : decode cX6_hashOfBuffer 13 = .ok (.iconst 0, 1) := dec_at kDX6_hashOfBuffer_0 7 rfl
theorem dX6_hashOfBuffer_14 : decode cX6_hashOfBuffer 14 = .ok (.istore 5, 2) := dec_at kDX6_hashOfBuffer_0 8 rfl
theorem dX6_hashOfBuffer_16 : decode cX6_hashOfBuffer 16 = .ok (.iload 5, 2) := dec_at kDX6_hashOfBuffer_0 9 rfl
theorem dX6_hashOfBuffer_18 : decode cX6_hashOfBuffer 18 = .ok (.aload_n 0, 1) := dec_at kDX6_hashOfBuffer_0 10 rfl
theorem dX6_hashOfBuffer_19 : decode cX6_hashOfBuffer 19 = .ok (.getfield 10, 3) := dec_at kDX6_hashOfBuffer_0 11 rfl
theorem dX6_hashOfBuffer_22 : decode cX6_hashOfBuffer 22 = .ok (.getfield 81, 3) := dec_at kDX6_hashOfBuffer_0 12 rfl
theorem dX6_hashOfBuffer_25 : decode cX6_hashOfBuffer 25 = .ok (.if_icmp .ge 24, 3) := dec_at kDX6_hashOfBuffer_0 13 rfl
theorem dX6_hashOfBuffer_28 : decode cX6_hashOfBuffer 28 = .ok (.lload_n 3, 1) := dec_at kDX6_hashOfBuffer_0 14 rfl
theorem dX6_hashOfBuffer_29 : decode cX6_hashOfBuffer 29 = .ok (.aload_n 0, 1) := dec_at kDX6_hashOfBuffer_0 15 rfl
theorem dX6_hashOfBuffer_30 : decode cX6_hashOfBuffer 30 = .ok (.getfield 10, 3) := dec_at kDX6_hashOfBuffer_0 16 rfl
theorem dX6_hashOfBuffer_33 : decode cX6_hashOfBuffer 33 = .ok (.iload 5, 2) := dec_at kDX6_hashOfBuffer_0 17 rfl
theorem dX6_hashOfBuffer_35 : decode cX6_hashOfBuffer 35 = .ok (.invokevirtual 361, 3) := dec_at kDX6_hashOfBuffer_0 18 rfl
theorem dX6_hashOfBuffer_38 : decode cX6_hashOfBuffer 38 = .ok (.i2l, 1) := dec_at kDX6_hashOfBuffer_0 19 rfl
theorem dX6_hashOfBuffer_39 : decode cX6_hashOfBuffer 39 = .ok (.invokestatic 306, 3) := dec_at kDX6_hashOfBuffer_0 20 rfl
theorem dX6_hashOfBuffer_42 : decode cX6_hashOfBuffer 42 = .ok (.lstore_n 3, 1) := dec_at kDX6_hashOfBuffer_0 21 rfl
theorem dX6_hashOfBuffer_43 : decode cX6_hashOfBuffer 43 = .ok (.iinc 5 1, 3) := dec_at kDX6_hashOfBuffer_0 22 rfl
theorem dX6_hashOfBuffer_46 : decode cX6_hashOfBuffer 46 = .ok (.goto (-30), 3) := dec_at kDX6_hashOfBuffer_0 23 rfl
theorem dX6_hashOfBuffer_49 : decode cX6_hashOfBuffer 49 = .ok (.lload_n 3, 1) := dec_at kDX6_hashOfBuffer_0 24 rfl
theorem dX6_hashOfBuffer_50 : decode cX6_hashOfBuffer 50 = .ok (.lreturn, 1) := dec_at kDX6_hashOfBuffer_0 25 rfl
def DX6_mixed_0 : List (Nat × (Instr × Nat)) := [(0, (.ldc2_w 364, 3)), (3, (.lload_n 0, 1)), (4, (.lmul, 1)), (5, (.lload_n 2, 1)), (6, (.ladd, 1)), (7, (.lreturn, 1))]
theorem kDX6_mixed_0 : DX6_mixed_0.all (fun q => decide (decode cX6_mixed q.1 = .ok q.2)) = true := by decide +kernel
theorem dX6_mixed_0 : decode cX6_mixed 0 = .ok (.ldc2_w 364, 3) := dec_at kDX6_mixed_0 0 rfl
theorem dX6_mixed_3 : decode cX6_mixed 3 = .ok (.lload_n 0, 1) := dec_at kDX6_mixed_0 1 rfl
theorem dX6_mixed_4 : decode cX6_mixed 4 = .ok (.lmul, 1) := dec_at kDX6_mixed_0 2 rfl
theorem dX6_mixed_5 : decode cX6_mixed 5 = .ok (.lload_n 2, 1) := dec_at kDX6_mixed_0 3 rfl
theorem dX6_mixed_6 : decode cX6_mixed 6 = .ok (.ladd, 1) := dec_at kDX6_mixed_0 4 rfl
theorem dX6_mixed_7 : decode cX6_mixed 7 = .ok (.lreturn, 1) := dec_at kDX6_mixed_0 5 rfl
def DX6_contains_0 : List (Nat × (Instr × Nat)) := [(0, (.lload_n 0, 1)), (1, (.iload_n 2, 1)), (2, (.lushr, 1)), (3, (.lconst 1, 1)), (4, (.land, 1)), (5, (.lconst 0, 1)), (6, (.lcmp, 1)), (7, (.ifCond .eq 7, 3)), (10, (.iconst 1, 1)), (11, (.goto 4, 3)), (14, (.iconst 0, 1)), (15, (.ireturn, 1))]
theorem kDX6_contains_0 : DX6_contains_0.all (fun q => decide (decode cX6_contains q.1 = .ok q.2)) = true := by decide +kernel
theorem dX6_contains_0 : decode cX6_contains 0 = .ok (.lload_n 0, 1) := dec_at kDX6_contains_0 0 rfl
theorem dX6_contains_1 : decode cX6_contains 1 = .ok (.iload_n 2, 1) := dec_at kDX6_contains_0 1 rfl
theorem dX6_contains_2 : decode cX6_contains 2 = .ok (.lushr, 1) := dec_at kDX6_contains_0 2 rfl
theorem dX6_contains_3 : decode cX6_contains 3 = .ok (.lconst 1, 1) := dec_at kDX6_contains_0 3 rfl
theorem dX6_contains_4 : decode cX6_contains 4 = .ok (.land, 1) := dec_at kDX6_contains_0 4 rfl
theorem dX6_contains_5 : decode cX6_contains 5 = .ok (.lconst 0, 1) := dec_at kDX6_contains_0 5 rfl
theorem dX6_contains_6 : decode cX6_contains 6 = .ok (.lcmp, 1) := dec_at kDX6_contains_0 6 rfl
theorem dX6_contains_7 : decode cX6_contains 7 = .ok (.ifCond .eq 7, 3) := dec_at kDX6_contains_0 7 rfl
theorem dX6_contains_10 : decode cX6_contains 10 = .ok (.iconst 1, 1) := dec_at kDX6_contains_0 8 rfl
theorem dX6_contains_11 : decode cX6_contains 11 = .ok (.goto 4, 3) := dec_at kDX6_contains_0 9 rfl
theorem dX6_contains_14 : decode cX6_contains 14 = .ok (.iconst 0, 1) := dec_at kDX6_contains_0 10 rfl
theorem dX6_contains_15 : decode cX6_contains 15 = .ok (.ireturn, 1) := dec_at kDX6_contains_0 11 rfl
def DX6_leastOf_0 : List (Nat × (Instr × Nat)) := [(0, (.lload_n 0, 1)), (1, (.lconst 0, 1)), (2, (.lcmp, 1)), (3, (.ifCond .ne 7, 3)), (6, (.iconst (-1), 1)), (7, (.goto 12, 3)), (10, (.lload_n 0, 1)), (11, (.lload_n 0, 1)), (12, (.lneg, 1)), (13, (.land, 1)), (14, (.lconst 1, 1)), (15, (.lsub, 1)), (16, (.invokestatic 116, 3)), (19, (.ireturn, 1))]
theorem kDX6_leastOf_0 : DX6_leastOf_0.all (fun q => decide (decode cX6_leastOf q.1 = .ok q.2)) = true := by decide +kernel
theorem dX6_leastOf_0 : decode cX6_leastOf 0 = .ok (.lload_n 0, 1) := dec_at kDX6_leastOf_0 0 rfl
theorem dX6_leastOf_1 : decode cX6_leastOf 1 = .ok (.lconst 0, 1) := dec_at kDX6_leastOf_0 1 rfl
theorem dX6_leastOf_2 : decode cX6_leastOf 2 = .ok (.lcmp, 1) := dec_at kDX6_leastOf_0 2 rfl
theorem dX6_leastOf_3 : decode cX6_leastOf 3 = .ok (.ifCond .ne 7, 3) := dec_at kDX6_leastOf_0 3 rfl
theorem dX6_leastOf_6 : decode cX6_leastOf 6 = .ok (.iconst (-1), 1) := dec_at kDX6_leastOf_0 4 rfl
theorem dX6_leastOf_7 : decode cX6_leastOf 7 = .ok (.goto 12, 3) := dec_at kDX6_leastOf_0 5 rfl
theorem dX6_leastOf_10 : decode cX6_leastOf 10 = .ok (.lload_n 0, 1) := dec_at kDX6_leastOf_0 6 rfl
theorem dX6_leastOf_11 : decode cX6_leastOf 11 = .ok (.lload_n 0, 1) := dec_at kDX6_leastOf_0 7 rfl
theorem dX6_leastOf_12 : decode cX6_leastOf 12 = .ok (.lneg, 1) := dec_at kDX6_leastOf_0 8 rfl
theorem dX6_leastOf_13 : decode cX6_leastOf 13 = .ok (.land, 1) := dec_at kDX6_leastOf_0 9 rfl
theorem dX6_leastOf_14 : decode cX6_leastOf 14 = .ok (.lconst 1, 1) := dec_at kDX6_leastOf_0 10 rfl
theorem dX6_leastOf_15 : decode cX6_leastOf 15 = .ok (.lsub, 1) := dec_at kDX6_leastOf_0 11 rfl
theorem dX6_leastOf_16 : decode cX6_leastOf 16 = .ok (.invokestatic 116, 3) := dec_at kDX6_leastOf_0 12 rfl
theorem dX6_leastOf_19 : decode cX6_leastOf 19 = .ok (.ireturn, 1) := dec_at kDX6_leastOf_0 13 rfl
