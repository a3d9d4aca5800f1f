def DX7_init_0 : List (Nat × (Instr × Nat)) := [(0, (.aload_n 0, 1)), (1, (.invokespecial 1, 3)), (4, (.aload_n 0, 1)), (5, (.bipush 24, 2)), (7, (.newarray .long, 2)), (9, (.putfield 7, 3)), (12, (.aload_n 0, 1)), (13, (.bipush 60, 2)), (15, (.newarray .int, 2)), (17, (.putfield 13, 3)), (20, (.aload_n 0, 1)), (21, (.bipush 10, 2)), (23, (.newarray .int, 2)), (25, (.putfield 17, 3)), (28, (.aload_n 0, 1)), (29, (.bipush 40, 2)), (31, (.newarray .long, 2)), (33, (.putfield 20, 3)), (36, (.aload_n 0, 1)), (37, (.sipush 256, 3)), (40, (.newarray .long, 2)), (42, (.putfield 23, 3)), (45, (.aload_n 0, 1)), (46, (.bipush 64, 2)), (48, (.newarray .int, 2)), (50, (.putfield 26, 3)), (53, (.aload_n 0, 1)), (54, (.bipush 64, 2)), (56, (.newarray .int, 2)), (58, (.putfield 29, 3)), (61, (.aload_n 0, 1)), (62, (.bipush 64, 2)), (64, (.newarray .int, 2)), (66, (.putfield 32, 3)), (69, (.aload_n 0, 1)), (70, (.bipush 64, 2)), (72, (.newarray .int, 2)), (74, (.putfield 35, 3)), (77, (.aload_n 0, 1)), (78, (.sipush 1024, 3)), (81, (.newarray .int, 2)), (83, (.putfield 38, 3)), (86, (.aload_n 0, 1)), (87, (.sipush 1024, 3)), (90, (.newarray .int, 2)), (92, (.putfield 41, 3)), (95, (.aload_n 0, 1)), (96, (.sipush 1024, 3)), (99, (.newarray .int, 2)), (101, (.putfield 44, 3))]
theorem kDX7_init_0 : DX7_init_0.all (fun q => decide (decode cX7_init q.1 = .ok q.2)) = true := by decide +kernel
theorem dX7_init_0 : decode cX7_init 0 = .ok (.aload_n 0, 1) := dec_at kDX7_init_0 0 rfl
theorem dX7_init_1 : decode cX7_init 1 = .ok (.invokespecial 1, 3) := dec_at kDX7_init_0 1 rfl
theorem dX7_init_4 : decode cX7_init 4 = .ok (.aload_n 0, 1) := dec_at kDX7_init_0 2 rfl
theorem dX7_init_5 : decode cX7_init 5 = .ok (.bipush 24, 2) := dec_at kDX7_init_0 3 rfl
theorem dX7_init_7 : decode cX7_init 7 = .ok (.newarray .long, 2) := dec_at kDX7_init_0 4 rfl
theorem dX7_init_9 : decode cX7_init 9 = .ok (.putfield 7, 3) := dec_at kDX7_init_0 5 rfl
theorem dX7_init_12 : decode cX7_init 12 = .ok (.aload_n 0, 1) := dec_at kDX7_init_0 6 rfl
theorem dX7_init_13 : decode cX7_init 13 = .ok (.bipush 60, 2) := dec_at kDX7_init_0 7 rfl
theorem dX7_init_15 : decode cX7_init 15 = .ok (.newarray .int, 2) := dec_at kDX7_init_0 8 rfl
theorem dX7_init_17 : decode cX7_init 17 = .ok (.putfield 13, 3) := dec_at kDX7_init_0 9 rfl
theorem dX7_init_20 : decode cX7_init 20 = .ok (.aload_n 0, 1) := dec_at kDX7_init_0 10 rfl
theorem dX7_init_21 : decode cX7_init 21 = .ok (.bipush 10, 2) := dec_at kDX7_init_0 11 rfl
theorem dX7_init_23 : decode cX7_init 23 = .ok (.newarray .int, 2) := dec_at kDX7_init_0 12 rfl
theorem dX7_init_25 : decode cX7_init 25 = .ok (.putfield 17, 3) := dec_at kDX7_init_0 13 rfl
theorem dX7_init_28 : decode cX7_init 28 = .ok (.aload_n 0, 1) := dec_at kDX7_init_0 14 rfl
theorem dX7_init_29 : decode cX7_init 29 = .ok (.bipush 40, 2) := dec_at kDX7_init_0 15 rfl
theorem dX7_init_31 : decode cX7_init 31 = .ok (.newarray .long, 2) := dec_at kDX7_init_0 16 rfl
theorem dX7_init_33 : decode cX7_init 33 = .ok (.putfield 20, 3) := dec_at kDX7_init_0 17 rfl
theorem dX7_init_36 : decode cX7_init 36 = .ok (.aload_n 0, 1) := dec_at kDX7_init_0 18 rfl
theorem dX7_init_37 : decode cX7_init 37 = .ok (.sipush 256, 3) := dec_at kDX7_init_0 19 rfl
theorem dX7_init_40 : decode cX7_init 40 = .ok (.newarray .long, 2) := dec_at kDX7_init_0 20 rfl
theorem dX7_init_42 : decode cX7_init 42 = .ok (.putfield 23, 3) := dec_at kDX7_init_0 21 rfl
theorem dX7_init_45 : decode cX7_init 45 = .ok (.aload_n 0, 1) := dec_at kDX7_init_0 22 rfl
theorem dX7_init_46 : decode cX7_init 46 = .ok (.bipush 64, 2) := dec_at kDX7_init_0 23 rfl
theorem dX7_init_48 : decode cX7_init 48 = .ok (.newarray .int, 2) := dec_at kDX7_init_0 24 rfl
theorem dX7_init_50 : decode cX7_init 50 = .ok (.putfield 26, 3) := dec_at kDX7_init_0 25 rfl
theorem dX7_init_53 : decode cX7_init 53 = .ok (.aload_n 0, 1) := dec_at kDX7_init_0 26 rfl
theorem dX7_init_54 : decode cX7_init 54 = .ok (.bipush 64, 2) := dec_at kDX7_init_0 27 rfl
theorem dX7_init_56 : decode cX7_init 56 = .ok (.newarray .int, 2) := dec_at kDX7_init_0 28 rfl
theorem dX7_init_58 : decode cX7_init 58 = .ok (.putfield 29, 3) := dec_at kDX7_init_0 29 rfl
theorem dX7_init_61 : decode cX7_init 61 = .ok (.aload_n 0, 1) := dec_at kDX7_init_0 30 rfl
theorem dX7_init_62 : decode cX7_init 62 = .ok (.bipush 64, 2) := dec_at kDX7_init_0 31 rfl
theorem dX7_init_64 : decode cX7_init 64 = .ok (.newarray .int, 2) := dec_at kDX7_init_0 32 rfl
theorem dX7_init_66 : decode cX7_init 66 = .ok (.putfield 32, 3) := dec_at kDX7_init_0 33 rfl
theorem dX7_init_69 : decode cX7_init 69 = .ok (.aload_n 0, 1) := dec_at kDX7_init_0 34 rfl
theorem dX7_init_70 : decode cX7_init 70 = .ok (.bipush 64, 2) := dec_at kDX7_init_0 35 rfl
theorem dX7_init_72 : decode cX7_init 72 = .ok (.newarray .int, 2) := dec_at kDX7_init_0 36 rfl
theorem dX7_init_74 : decode cX7_init 74 = .ok (.putfield 35, 3) := dec_at kDX7_init_0 37 rfl
theorem dX7_init_77 : decode cX7_init 77 = .ok (.aload_n 0, 1) := dec_at kDX7_init_0 38 rfl
theorem dX7_init_78 : decode cX7_init 78 = .ok (.sipush 1024, 3) := dec_at kDX7_init_0 39 rfl
theorem dX7_init_81 : decode cX7_init 81 = .ok (.newarray .int, 2) := dec_at kDX7_init_0 40 rfl
theorem dX7_init_83 : decode cX7_init 83 = .ok (.putfield 38, 3) := dec_at kDX7_init_0 41 rfl
theorem dX7_init_86 : decode cX7_init 86 = .ok (.aload_n 0, 1) := dec_at kDX7_init_0 42 rfl
theorem dX7_init_87 : decode cX7_init 87 = .ok (.sipush 1024, 3) := dec_at kDX7_init_0 43 rfl
theorem dX7_init_90 : decode cX7_init 90 = .ok (.newarray .int, 2) := dec_at kDX7_init_0 44 rfl
theorem dX7_init_92 : decode cX7_init 92 = .ok (.putfield 41, 3) := dec_at kDX7_init_0 45 rfl
theorem dX7_init_95 : decode cX7_init 95 = .ok (.aload_n 0, 1) := dec_at kDX7_init_0 46 rfl
theorem dX7_init_96 : decode cX7_init 96 = .ok (.sipush 1024, 3) := dec_at kDX7_init_0 47 rfl
theorem dX7_init_99 : decode cX7_init 99 = .ok (.newarray .int, 2) := dec_at kDX7_init_0 48 rfl
theorem dX7_init_101 : decode cX7_init 101 = .ok (.putfield 44, 3) := dec_at kDX7_init_0 49 rfl
def DX7_init_50 : List (Nat × (Instr × Nat)) := [(104, (.aload_n 0, 1)), (105, (.sipush 128, 3)), (108, (.newarray .long, 2)), (110, (.putfield 47, 3)), (113, (.aload_n 0, 1)), (114, (.sipush 1024, 3)), (117, (.newarray .boolean, 2)), (119, (.putfield 50, 3)), (122, (.aload_n 0, 1)), (123, (.bipush 7, 2)), (125, (.newarray .long, 2)), (127, (.putfield 54, 3)), (130, (.aload_n 0, 1)), (131, (.bipush 7, 2)), (133, (.newarray .int, 2)), (135, (.putfield 57, 3)), (138, (.aload_n 0, 1)), (139, (.bipush 7, 2)), (141, (.newarray .int, 2)), (143, (.putfield 60, 3)), (146, (.aload_n 0, 1)), (147, (.sipush 4096, 3)), (150, (.newarray .boolean, 2)), (152, (.putfield 63, 3)), (155, (.aload_n 0, 1)), (156, (.iconst 2, 1)), (157, (.iconst 1, 1)), (158, (.invokevirtual 66, 3)), (161, (.return_, 1))]
theorem kDX7_init_50 : DX7_init_50.all (fun q => decide (decode cX7_init q.1 = .ok q.2)) = true := by decide +kernel
theorem dX7_init_104 : decode cX7_init 104 = .ok (.aload_n 0, 1) := dec_at kDX7_init_50 0 rfl
theorem dX7_init_105 : decode cX7_init 105 = .ok (.sipush 128, 3) := dec_at kDX7_init_50 1 rfl
theorem dX7_init_108 : decode cX7_init 108 = .ok (.newarray .long, 2) := dec_at kDX7_init_50 2 rfl
theorem dX7_init_110 : decode cX7_init 110 = .ok (.putfield 47, 3) := dec_at kDX7_init_50 3 rfl
theorem dX7_init_113 : decode cX7_init 113 = .ok (.aload_n 0, 1) := dec_at kDX7_init_50 4 rfl
theorem dX7_init_114 : decode cX7_init 114 = .ok (.sipush 1024, 3) := dec_at kDX7_init_50 5 rfl
theorem dX7_init_117 : decode cX7_init 117 = .ok (.newarray .boolean, 2) := dec_at kDX7_init_50 6 rfl
theorem dX7_init_119 : decode cX7_init 119 = .ok (.putfield 50, 3) := dec_at kDX7_init_50 7 rfl
theorem dX7_init_122 : decode cX7_init 122 = .ok (.aload_n 0, 1) := dec_at kDX7_init_50 8 rfl
theorem dX7_init_123 : decode cX7_init 123 = .ok (.bipush 7, 2) := dec_at kDX7_init_50 9 rfl
theorem dX7_init_125 : decode cX7_init 125 = .ok (.newarray .long, 2) := dec_at kDX7_init_50 10 rfl
theorem dX7_init_127 : decode cX7_init 127 = .ok (.putfield 54, 3) := dec_at kDX7_init_50 11 rfl
theorem dX7_init_130 : decode cX7_init 130 = .ok (.aload_n 0, 1) := dec_at kDX7_init_50 12 rfl
theorem dX7_init_131 : decode cX7_init 131 = .ok (.bipush 7, 2) := dec_at kDX7_init_50 13 rfl
theorem dX7_init_133 : decode cX7_init 133 = .ok (.newarray .int, 2) := dec_at kDX7_init_50 14 rfl
theorem dX7_init_135 : decode cX7_init 135 = .ok (.putfield 57, 3) := dec_at kDX7_init_50 15 rfl
theorem dX7_init_138 : decode cX7_init 138 = .ok (.aload_n 0, 1) := dec_at kDX7_init_50 16 rfl
theorem dX7_init_139 : decode cX7_init 139 = .ok (.bipush 7, 2) := dec_at kDX7_init_50 17 rfl
theorem dX7_init_141 : decode cX7_init 141 = .ok (.newarray .int, 2) := dec_at kDX7_init_50 18 rfl
theorem dX7_init_143 : decode cX7_init 143 = .ok (.putfield 60, 3) := dec_at kDX7_init_50 19 rfl
theorem dX7_init_146 : decode cX7_init 146 = .ok (.aload_n 0, 1) := dec_at kDX7_init_50 20 rfl
theorem dX7_init_147 : decode cX7_init 147 = .ok (.sipush 4096, 3) := dec_at kDX7_init_50 21 rfl
theorem dX7_init_150 : decode cX7_init 150 = .ok (.newarray .boolean, 2) := dec_at kDX7_init_50 22 rfl
theorem dX7_init_152 : decode cX7_init 152 = .ok (.putfield 63, 3) := dec_at kDX7_init_50 23 rfl
theorem dX7_init_155 : decode cX7_init 155 = .ok (.aload_n 0, 1) := dec_at kDX7_init_50 24 rfl
theorem dX7_init_156 : decode cX7_init 156 = .ok (.iconst 2, 1) := dec_at kDX7_init_50 25 rfl
theorem dX7_init_157 : decode cX7_init 157 = .ok (.iconst 1, 1) := dec_at kDX7_init_50 26 rfl
theorem dX7_init_158 : decode cX7_init 158 = .ok (.invokevirtual 66, 3) := dec_at kDX7_init_50 27 rfl
theorem dX7_init_161 : decode cX7_init 161 = .ok (.return_, 1) := dec_at kDX7_init_50 28 rfl
def DX7_thrown_0 : List (Nat × (Instr × Nat)) := [(0, (.aload_n 0, 1)), (1, (.getfield 70, 3)), (4, (.ireturn, 1))]
theorem kDX7_thrown_0 : DX7_thrown_0.all (fun q => decide (decode cX7_thrown q.1 = .ok q.2)) = true := by decide +kernel
theorem dX7_thrown_0 : decode cX7_thrown 0 = .ok (.aload_n 0, 1) := dec_at kDX7_thrown_0 0 rfl
theorem dX7_thrown_1 : decode cX7_thrown 1 = .ok (.getfield 70, 3) := dec_at kDX7_thrown_0 1 rfl
theorem dX7_thrown_4 : decode cX7_thrown 4 = .ok (.ireturn, 1) := dec_at kDX7_thrown_0 2 rfl
def DX7_within_0 : List (Nat × (Instr × Nat)) := [(0, (.iload_n 0, 1)), (1, (.iload_n 1, 1)), (2, (.if_icmp .lt 12, 3)), (5, (.iload_n 0, 1)), (6, (.iload_n 2, 1)), (7, (.if_icmp .gt 7, 3)), (10, (.iconst 1, 1)), (11, (.goto 4, 3)), (14, (.iconst 0, 1)), (15, (.ireturn, 1))]
theorem kDX7_within_0 : DX7_within_0.all (fun q => decide (decode cX7_within q.1 = .ok q.2)) = true := by decide +kernel
theorem dX7_within_0 : decode cX7_within 0 = .ok (.iload_n 0, 1) := dec_at kDX7_within_0 0 rfl
theorem dX7_within_1 : decode cX7_within 1 = .ok (.iload_n 1, 1) := dec_at kDX7_within_0 1 rfl
theorem dX7_within_2 : decode cX7_within 2 = .ok (.if_icmp .lt 12, 3) := dec_at kDX7_within_0 2 rfl
theorem dX7_within_5 : decode cX7_within 5 = .ok (.iload_n 0, 1) := dec_at kDX7_within_0 3 rfl
theorem dX7_within_6 : decode cX7_within 6 = .ok (.iload_n 2, 1) := dec_at kDX7_within_0 4 rfl
theorem dX7_within_7 : decode cX7_within 7 = .ok (.if_icmp .gt 7, 3) := dec_at kDX7_within_0 5 rfl
theorem dX7_within_10 : decode cX7_within 10 = .ok (.iconst 1, 1) := dec_at kDX7_within_0 6 rfl
theorem dX7_within_11 : decode cX7_within 11 = .ok (.goto 4, 3) := dec_at kDX7_within_0 7 rfl
theorem dX7_within_14 : decode cX7_within 14 = .ok (.iconst 0, 1) := dec_at kDX7_within_0 8 rfl
theorem dX7_within_15 : decode cX7_within 15 = .ok (.ireturn, 1) := dec_at kDX7_within_0 9 rfl
def DX7_has_0 : List (Nat × (Instr × Nat)) := [(0, (.lload_n 0, 1)), (1, (.iload_n 2, 1)), (2, (.lushr, 1)), (3, (.lconst 1, 1)), (4, (.land, 1)), (5, (.lconst 1, 1)), (6, (.lcmp, 1)), (7, (.ifCond .ne 7, 3)), (10, (.iconst 1, 1)), (11, (.goto 4, 3)), (14, (.iconst 0, 1)), (15, (.ireturn, 1))]
theorem kDX7_has_0 : DX7_has_0.all (fun q => decide (decode cX7_has q.1 = .ok q.2)) = true := by decide +kernel
theorem dX7_has_0 : decode cX7_has 0 = .ok (.lload_n 0, 1) := dec_at kDX7_has_0 0 rfl
theorem dX7_has_1 : decode cX7_has 1 = .ok (.iload_n 2, 1) := dec_at kDX7_has_0 1 rfl
theorem dX7_has_2 : decode cX7_has 2 = .ok (.lushr, 1) := dec_at kDX7_has_0 2 rfl
theorem dX7_has_3 : decode cX7_has 3 = .ok (.lconst 1, 1) := dec_at kDX7_has_0 3 rfl
theorem dX7_has_4 : decode cX7_has 4 = .ok (.land, 1) := dec_at kDX7_has_0 4 rfl
theorem dX7_has_5 : decode cX7_has 5 = .ok (.lconst 1, 1) := dec_at kDX7_has_0 5 rfl
theorem dX7_has_6 : decode cX7_has 6 = .ok (.lcmp, 1) := dec_at kDX7_has_0 6 rfl
theorem dX7_has_7 : decode cX7_has 7 = .ok (.ifCond .ne 7, 3) := dec_at kDX7_has_0 7 rfl
theorem dX7_has_10 : decode cX7_has 10 = .ok (.iconst 1, 1) := dec_at kDX7_has_0 8 rfl
theorem dX7_has_11 : decode cX7_has 11 = .ok (.goto 4, 3) := dec_at kDX7_has_0 9 rfl
theorem dX7_has_14 : decode cX7_has 14 = .ok (.iconst 0, 1) := dec_at kDX7_has_0 10 rfl
theorem dX7_has_15 : decode cX7_has 15 = .ok (.ireturn, 1) := dec_at kDX7_has_0 11 rfl
def DX7_size_0 : List (Nat × (Instr × Nat)) := [(0, (.iconst 0, 1)), (1, (.istore_n 2, 1)), (2, (.iconst 0, 1)), (3, (.istore_n 3, 1)), (4, (.iload_n 3, 1)), (5, (.bipush 64, 2)), (7, (.if_icmp .ge 25, 3)), (10, (.iload_n 2, 1)), (11, (.lload_n 0, 1)), (12, (.iload_n 3, 1)), (13, (.invokestatic 74, 3)), (16, (.ifCond .eq 7, 3)), (19, (.iconst 1, 1)), (20, (.goto 4, 3)), (23, (.iconst 0, 1)), (24, (.iadd, 1)), (25, (.istore_n 2, 1)), (26, (.iinc 3 1, 3)), (29, (.goto (-25), 3)), (32, (.iload_n 2, 1)), (33, (.ireturn, 1))]
theorem kDX7_size_0 : DX7_size_0.all (fun q => decide (decode cX7_size q.1 = .ok q.2)) = true := by decide +kernel
theorem dX7_size_0 : decode cX7_size 0 = .ok (.iconst 0, 1) := dec_at kDX7_size_0 0 rfl
theorem dX7_size_1 : decode cX7_size 1 = .ok (.istore_n 2, 1) := dec_at kDX7_size_0 1 rfl
theorem dX7_size_2 : decode cX7_size 2 = .ok (.iconst 0, 1) := dec_at kDX7_size_0 2 rfl
theorem dX7_size_3 : decode cX7_size 3 = .ok (.istore_n 3, 1) := dec_at kDX7_size_0 3 rfl
theorem dX7_size_4 : decode cX7_size 4 = .ok (.iload_n 3, 1) := dec_at kDX7_size_0 4 rfl
theorem dX7_size_5 : decode cX7_size 5 = .ok (.bipush 64, 2) := dec_at kDX7_size_0 5 rfl
theorem dX7_size_7 : decode cX7_size 7 = .ok (.if_icmp .ge 25, 3) := dec_at kDX7_size_0 6 rfl
theorem dX7_size_10 : decode cX7_size 10 = .ok (.iload_n 2, 1) := dec_at kDX7_size_0 7 rfl
theorem dX7_size_11 : decode cX7_size 11 = .ok (.lload_n 0, 1) := dec_at kDX7_size_0 8 rfl
theorem dX7_size_12 : decode cX7_size 12 = .ok (.iload_n 3, 1) := dec_at kDX7_size_0 9 rfl
theorem dX7_size_13 : decode cX7_size 13 = .ok (.invokestatic 74, 3) := dec_at kDX7_size_0 10 rfl
theorem dX7_size_16 : decode cX7_size 16 = .ok (.ifCond .eq 7, 3) := dec_at kDX7_size_0 11 rfl
theorem dX7_size_19 : decode cX7_size 19 = .ok (.iconst 1, 1) := dec_at kDX7_size_0 12 rfl
theorem dX7_size_20 : decode cX7_size 20 = .ok (.goto 4, 3) := dec_at kDX7_size_0 13 rfl
theorem dX7_size_23 : decode cX7_size 23 = .ok (.iconst 0, 1) := dec_at kDX7_size_0 14 rfl
theorem dX7_size_24 : decode cX7_size 24 = .ok (.iadd, 1) := dec_at kDX7_size_0 15 rfl
theorem dX7_size_25 : decode cX7_size 25 = .ok (.istore_n 2, 1) := dec_at kDX7_size_0 16 rfl
theorem dX7_size_26 : decode cX7_size 26 = .ok (.iinc 3 1, 3) := dec_at kDX7_size_0 17 rfl
theorem dX7_size_29 : decode cX7_size 29 = .ok (.goto (-25), 3) := dec_at kDX7_size_0 18 rfl
theorem dX7_size_32 : decode cX7_size 32 = .ok (.iload_n 2, 1) := dec_at kDX7_size_0 19 rfl
theorem dX7_size_33 : decode cX7_size 33 = .ok (.ireturn, 1) := dec_at kDX7_size_0 20 rfl
def DX7_least_0 : List (Nat × (Instr × Nat)) := [(0, (.iconst 0, 1)), (1, (.istore_n 2, 1)), (2, (.iload_n 2, 1)), (3, (.bipush 64, 2)), (5, (.if_icmp .ge 17, 3)), (8, (.lload_n 0, 1)), (9, (.iload_n 2, 1)), (10, (.invokestatic 74, 3)), (13, (.ifCond .ne 9, 3)), (16, (.iinc 2 1, 3)), (19, (.goto (-17), 3)), (22, (.iload_n 2, 1)), (23, (.bipush 64, 2)), (25, (.if_icmp .ge 7, 3)), (28, (.iload_n 2, 1)), (29, (.goto 4, 3)), (32, (.iconst (-1), 1)), (33, (.ireturn, 1))]
theorem kDX7_least_0 : DX7_least_0.all (fun q => decide (decode cX7_least q.1 = .ok q.2)) = true := by decide +kernel
theorem dX7_least_0 : decode cX7_least 0 = .ok (.iconst 0, 1) := dec_at kDX7_least_0 0 rfl
theorem dX7_least_1 : decode cX7_least 1 = .ok (.istore_n 2, 1) := dec_at kDX7_least_0 1 rfl
theorem dX7_least_2 : decode cX7_least 2 = .ok (.iload_n 2, 1) := dec_at kDX7_least_0 2 rfl
theorem dX7_least_3 : decode cX7_least 3 = .ok (.bipush 64, 2) := dec_at kDX7_least_0 3 rfl
theorem dX7_least_5 : decode cX7_least 5 = .ok (.if_icmp .ge 17, 3) := dec_at kDX7_least_0 4 rfl
theorem dX7_least_8 : decode cX7_least 8 = .ok (.lload_n 0, 1) := dec_at kDX7_least_0 5 rfl
theorem dX7_least_9 : decode cX7_least 9 = .ok (.iload_n 2, 1) := dec_at kDX7_least_0 6 rfl
theorem dX7_least_10 : decode cX7_least 10 = .ok (.invokestatic 74, 3) := dec_at kDX7_least_0 7 rfl
theorem dX7_least_13 : decode cX7_least 13 = .ok (.ifCond .ne 9, 3) := dec_at kDX7_least_0 8 rfl
theorem dX7_least_16 : decode cX7_least 16 = .ok (.iinc 2 1, 3) := dec_at kDX7_least_0 9 rfl
theorem dX7_least_19 : decode cX7_least 19 = .ok (.goto (-17), 3) := dec_at kDX7_least_0 10 rfl
theorem dX7_least_22 : decode cX7_least 22 = .ok (.iload_n 2, 1) := dec_at kDX7_least_0 11 rfl
theorem dX7_least_23 : decode cX7_least 23 = .ok (.bipush 64, 2) := dec_at kDX7_least_0 12 rfl
theorem dX7_least_25 : decode cX7_least 25 = .ok (.if_icmp .ge 7, 3) := dec_at kDX7_least_0 13 rfl
theorem dX7_least_28 : decode cX7_least 28 = .ok (.iload_n 2, 1) := dec_at kDX7_least_0 14 rfl
theorem dX7_least_29 : decode cX7_least 29 = .ok (.goto 4, 3) := dec_at kDX7_least_0 15 rfl
theorem dX7_least_32 : decode cX7_least 32 = .ok (.iconst (-1), 1) := dec_at kDX7_least_0 16 rfl
theorem dX7_least_33 : decode cX7_least 33 = .ok (.ireturn, 1) := dec_at kDX7_least_0 17 rfl
def DX7_states_0 : List (Nat × (Instr × Nat)) := [(0, (.iconst 1, 1)), (1, (.aload_n 0, 1)), (2, (.getfield 78, 3)), (5, (.ishl, 1)), (6, (.ireturn, 1))]
theorem kDX7_states_0 : DX7_states_0.all (fun q => decide (decode cX7_states q.1 = .ok q.2)) = true := by decide +kernel
theorem dX7_states_0 : decode cX7_states 0 = .ok (.iconst 1, 1) := dec_at kDX7_states_0 0 rfl
theorem dX7_states_1 : decode cX7_states 1 = .ok (.aload_n 0, 1) := dec_at kDX7_states_0 1 rfl
theorem dX7_states_2 : decode cX7_states 2 = .ok (.getfield 78, 3) := dec_at kDX7_states_0 2 rfl
theorem dX7_states_5 : decode cX7_states 5 = .ok (.ishl, 1) := dec_at kDX7_states_0 3 rfl
theorem dX7_states_6 : decode cX7_states 6 = .ok (.ireturn, 1) := dec_at kDX7_states_0 4 rfl
def DX7_values_0 : List (Nat × (Instr × Nat)) := [(0, (.iconst 1, 1)), (1, (.aload_n 0, 1)), (2, (.getfield 81, 3)), (5, (.ishl, 1)), (6, (.ireturn, 1))]
theorem kDX7_values_0 : DX7_values_0.all (fun q => decide (decode cX7_values q.1 = .ok q.2)) = true := by decide +kernel
theorem dX7_values_0 : decode cX7_values 0 = .ok (.iconst 1, 1) := dec_at kDX7_values_0 0 rfl
theorem dX7_values_1 : decode cX7_values 1 = .ok (.aload_n 0, 1) := dec_at kDX7_values_0 1 rfl
theorem dX7_values_2 : decode cX7_values 2 = .ok (.getfield 81, 3) := dec_at kDX7_values_0 2 rfl
theorem dX7_values_5 : decode cX7_values 5 = .ok (.ishl, 1) := dec_at kDX7_values_0 3 rfl
theorem dX7_values_6 : decode cX7_values 6 = .ok (.ireturn, 1) := dec_at kDX7_values_0 4 rfl
def DX7_all_0 : List (Nat × (Instr × Nat)) := [(0, (.aload_n 0, 1)), (1, (.getfield 78, 3)), (4, (.bipush 6, 2)), (6, (.if_icmp .ne 9, 3)), (9, (.ldc2_w 84, 3)), (12, (.goto 11, 3)), (15, (.lconst 1, 1)), (16, (.aload_n 0, 1)), (17, (.invokevirtual 86, 3)), (20, (.lshl, 1)), (21, (.lconst 1, 1)), (22, (.lsub, 1)), (23, (.lreturn, 1))]
theorem kDX7_all_0 : DX7_all_0.all (fun q => decide (decode cX7_all q.1 = .ok q.2)) = true := by decide +kernel
theorem dX7_all_0 : decode cX7_all 0 = .ok (.aload_n 0, 1) := dec_at kDX7_all_0 0 rfl
theorem dX7_all_1 : decode cX7_all 1 = .ok (.getfield 78, 3) := dec_at kDX7_all_0 1 rfl
theorem dX7_all_4 : decode cX7_all 4 = .ok (.bipush 6, 2) := dec_at kDX7_all_0 2 rfl
theorem dX7_all_6 : decode cX7_all 6 = .ok (.if_icmp .ne 9, 3) := dec_at kDX7_all_0 3 rfl
theorem dX7_all_9 : decode cX7_all 9 = .ok (.ldc2_w 84, 3) := dec_at kDX7_all_0 4 rfl
theorem dX7_all_12 : decode cX7_all 12 = .ok (.goto 11, 3) := dec_at kDX7_all_0 5 rfl
theorem dX7_all_15 : decode cX7_all 15 = .ok (.lconst 1, 1) := dec_at kDX7_all_0 6 rfl
theorem dX7_all_16 : decode cX7_all 16 = .ok (.aload_n 0, 1) := dec_at kDX7_all_0 7 rfl
theorem dX7_all_17 : decode cX7_all 17 = .ok (.invokevirtual 86, 3) := dec_at kDX7_all_0 8 rfl
theorem dX7_all_20 : decode cX7_all 20 = .ok (.lshl, 1) := dec_at kDX7_all_0 9 rfl
theorem dX7_all_21 : decode cX7_all 21 = .ok (.lconst 1, 1) := dec_at kDX7_all_0 10 rfl
theorem dX7_all_22 : decode cX7_all 22 = .ok (.lsub, 1) := dec_at kDX7_all_0 11 rfl
theorem dX7_all_23 : decode cX7_all 23 = .ok (.lreturn, 1) := dec_at kDX7_all_0 12 rfl
def DX7_bitSet_0 : List (Nat × (Instr × Nat)) := [(0, (.lconst 0, 1)), (1, (.lstore_n 2, 1)), (2, (.iconst 0, 1)), (3, (.istore 4, 2)), (5, (.iload 4, 2)), (7, (.aload_n 0, 1)), (8, (.invokevirtual 86, 3)), (11, (.if_icmp .ge 30, 3)), (14, (.lload_n 2, 1)), (15, (.iload 4, 2)), (17, (.iload_n 1, 1)), (18, (.ishr, 1)), (19, (.iconst 1, 1)), (20, (.iand, 1)), (21, (.iconst 1, 1)), (22, (.if_icmp .ne 10, 3)), (25, (.lconst 1, 1)), (26, (.iload 4, 2)), (28, (.lshl, 1)), (29, (.goto 4, 3)), (32, (.lconst 0, 1)), (33, (.lor, 1)), (34, (.lstore_n 2, 1)), (35, (.iinc 4 1, 3)), (38, (.goto (-33), 3)), (41, (.lload_n 2, 1)), (42, (.lreturn, 1))]
theorem kDX7_bitSet_0 : DX7_bitSet_0.all (fun q => decide (decode cX7_bitSet q.1 = .ok q.2)) = true := by decide +kernel
theorem dX7_bitSet_0 : decode cX7_bitSet 0 = .ok (.lconst 0, 1) := dec_at kDX7_bitSet_0 0 rfl
theorem dX7_bitSet_1 : decode cX7_bitSet 1 = .ok (.lstore_n 2, 1) := dec_at kDX7_bitSet_0 1 rfl
theorem dX7_bitSet_2 : decode cX7_bitSet 2 = .ok (.iconst 0, 1) := dec_at kDX7_bitSet_0 2 rfl
theorem dX7_bitSet_3 : decode cX7_bitSet 3 = .ok (.istore 4, 2) := dec_at kDX7_bitSet_0 3 rfl
theorem dX7_bitSet_5 : decode cX7_bitSet 5 = .ok (.iload 4, 2) := dec_at kDX7_bitSet_0 4 rfl
theorem dX7_bitSet_7 : decode cX7_bitSet 7 = .ok (.aload_n 0, 1) := dec_at kDX7_bitSet_0 5 rfl
theorem dX7_bitSet_8 : decode cX7_bitSet 8 = .ok (.invokevirtual 86, 3) := dec_at kDX7_bitSet_0 6 rfl
theorem dX7_bitSet_11 : decode cX7_bitSet 11 = .ok (.if_icmp .ge 30, 3) := dec_at kDX7_bitSet_0 7 rfl
theorem dX7_bitSet_14 : decode cX7_bitSet 14 = .ok (.lload_n 2, 1) := dec_at kDX7_bitSet_0 8 rfl
theorem dX7_bitSet_15 : decode cX7_bitSet 15 = .ok (.iload 4, 2) := dec_at kDX7_bitSet_0 9 rfl
theorem dX7_bitSet_17 : decode cX7_bitSet 17 = .ok (.iload_n 1, 1) := dec_at kDX7_bitSet_0 10 rfl
theorem dX7_bitSet_18 : decode cX7_bitSet 18 = .ok (.ishr, 1) := dec_at kDX7_bitSet_0 11 rfl
theorem dX7_bitSet_19 : decode cX7_bitSet 19 = .ok (.iconst 1, 1) := dec_at kDX7_bitSet_0 12 rfl
theorem dX7_bitSet_20 : decode cX7_bitSet 20 = .ok (.iand, 1) := dec_at kDX7_bitSet_0 13 rfl
theorem dX7_bitSet_21 : decode cX7_bitSet 21 = .ok (.iconst 1, 1) := dec_at kDX7_bitSet_0 14 rfl
theorem dX7_bitSet_22 : decode cX7_bitSet 22 = .ok (.if_icmp .ne 10, 3) := dec_at kDX7_bitSet_0 15 rfl
theorem dX7_bitSet_25 : decode cX7_bitSet 25 = .ok (.lconst 1, 1) := dec_at kDX7_bitSet_0 16 rfl
theorem dX7_bitSet_26 : decode cX7_bitSet 26 = .ok (.iload 4, 2) := dec_at kDX7_bitSet_0 17 rfl
theorem dX7_bitSet_28 : decode cX7_bitSet 28 = .ok (.lshl, 1) := dec_at kDX7_bitSet_0 18 rfl
theorem dX7_bitSet_29 : decode cX7_bitSet 29 = .ok (.goto 4, 3) := dec_at kDX7_bitSet_0 19 rfl
theorem dX7_bitSet_32 : decode cX7_bitSet 32 = .ok (.lconst 0, 1) := dec_at kDX7_bitSet_0 20 rfl
theorem dX7_bitSet_33 : decode cX7_bitSet 33 = .ok (.lor, 1) := dec_at kDX7_bitSet_0 21 rfl
theorem dX7_bitSet_34 : decode cX7_bitSet 34 = .ok (.lstore_n 2, 1) := dec_at kDX7_bitSet_0 22 rfl
theorem dX7_bitSet_35 : decode cX7_bitSet 35 = .ok (.iinc 4 1, 3) := dec_at kDX7_bitSet_0 23 rfl
theorem dX7_bitSet_38 : decode cX7_bitSet 38 = .ok (.goto (-33), 3) := dec_at kDX7_bitSet_0 24 rfl
theorem dX7_bitSet_41 : decode cX7_bitSet 41 = .ok (.lload_n 2, 1) := dec_at kDX7_bitSet_0 25 rfl
theorem dX7_bitSet_42 : decode cX7_bitSet 42 = .ok (.lreturn, 1) := dec_at kDX7_bitSet_0 26 rfl
def DX7_start_0 : List (Nat × (Instr × Nat)) := [(0, (.aload_n 0, 1)), (1, (.iload_n 1, 1)), (2, (.putfield 78, 3)), (5, (.aload_n 0, 1)), (6, (.iload_n 2, 1)), (7, (.putfield 81, 3)), (10, (.iconst 0, 1)), (11, (.istore_n 3, 1)), (12, (.iload_n 3, 1)), (13, (.bipush 24, 2)), (15, (.if_icmp .ge 36, 3)), (18, (.aload_n 0, 1)), (19, (.getfield 7, 3)), (22, (.iload_n 3, 1)), (23, (.iload_n 3, 1)), (24, (.iconst 4, 1)), (25, (.idiv, 1)), (26, (.aload_n 0, 1)), (27, (.getfield 78, 3)), (30, (.if_icmp .ge 13, 3)), (33, (.aload_n 0, 1)), (34, (.iload_n 3, 1)), (35, (.iconst 4, 1)), (36, (.idiv, 1)), (37, (.invokevirtual 90, 3)), (40, (.goto 4, 3)), (43, (.lconst 0, 1)), (44, (.lastore, 1)), (45, (.iinc 3 1, 3)), (48, (.goto (-36), 3)), (51, (.aload_n 0, 1)), (52, (.lconst 1, 1)), (53, (.putfield 94, 3)), (56, (.aload_n 0, 1)), (57, (.aload_n 0, 1)), (58, (.invokevirtual 98, 3)), (61, (.putfield 102, 3)), (64, (.aload_n 0, 1)), (65, (.iconst 0, 1)), (66, (.putfield 105, 3)), (69, (.aload_n 0, 1)), (70, (.iconst 0, 1)), (71, (.putfield 108, 3)), (74, (.return_, 1))]
theorem kDX7_start_0 : DX7_start_0.all (fun q => decide (decode cX7_start q.1 = .ok q.2)) = true := by decide +kernel
theorem dX7_start_0 : decode cX7_start 0 = .ok (.aload_n 0, 1) := dec_at kDX7_start_0 0 rfl
theorem dX7_start_1 : decode cX7_start 1 = .ok (.iload_n 1, 1) := dec_at kDX7_start_0 1 rfl
theorem dX7_start_2 : decode cX7_start 2 = .ok (.putfield 78, 3) := dec_at kDX7_start_0 2 rfl
theorem dX7_start_5 : decode cX7_start 5 = .ok (.aload_n 0, 1) := dec_at kDX7_start_0 3 rfl
theorem dX7_start_6 : decode cX7_start 6 = .ok (.iload_n 2, 1) := dec_at kDX7_start_0 4 rfl
theorem dX7_start_7 : decode cX7_start 7 = .ok (.putfield 81, 3) := dec_at kDX7_start_0 5 rfl
theorem dX7_start_10 : decode cX7_start 10 = .ok (.iconst 0, 1) := dec_at kDX7_start_0 6 rfl
theorem dX7_start_11 : decode cX7_start 11 = .ok (.istore_n 3, 1) := dec_at kDX7_start_0 7 rfl
theorem dX7_start_12 : decode cX7_start 12 = .ok (.iload_n 3, 1) := dec_at kDX7_start_0 8 rfl
theorem dX7_start_13 : decode cX7_start 13 = .ok (.bipush 24, 2) := dec_at kDX7_start_0 9 rfl
theorem dX7_start_15 : decode cX7_start 15 = .ok (.if_icmp .ge 36, 3) := dec_at kDX7_start_0 10 rfl
theorem dX7_start_18 : decode cX7_start 18 = .ok (.aload_n 0, 1) := dec_at kDX7_start_0 11 rfl
theorem dX7_start_19 : decode cX7_start 19 = .ok (.getfield 7, 3) := dec_at kDX7_start_0 12 rfl
theorem dX7_start_22 : decode cX7_start 22 = .ok (.iload_n 3, 1) := dec_at kDX7_start_0 13 rfl
theorem dX7_start_23 : decode cX7_start 23 = .ok (.iload_n 3, 1) := dec_at kDX7_start_0 14 rfl
theorem dX7_start_24 : decode cX7_start 24 = .ok (.iconst 4, 1) := dec_at kDX7_start_0 15 rfl
theorem dX7_start_25 : decode cX7_start 25 = .ok (.idiv, 1) := dec_at kDX7_start_0 16 rfl
theorem dX7_start_26 : decode cX7_start 26 = .ok (.aload_n 0, 1) := dec_at kDX7_start_0 17 rfl
theorem dX7_start_27 : decode cX7_start 27 = .ok (.getfield 78, 3) := dec_at kDX7_start_0 18 rfl
theorem dX7_start_30 : decode cX7_start 30 = .ok (.if_icmp .ge 13, 3) := dec_at kDX7_start_0 19 rfl
theorem dX7_start_33 : decode cX7_start 33 = .ok (.aload_n 0, 1) := dec_at kDX7_start_0 20 rfl
theorem dX7_start_34 : decode cX7_start 34 = .ok (.iload_n 3, 1) := dec_at kDX7_start_0 21 rfl
theorem dX7_start_35 : decode cX7_start 35 = .ok (.iconst 4, 1) := dec_at kDX7_start_0 22 rfl
theorem dX7_start_36 : decode cX7_start 36 = .ok (.idiv, 1) := dec_at kDX7_start_0 23 rfl
theorem dX7_start_37 : decode cX7_start 37 = .ok (.invokevirtual 90, 3) := dec_at kDX7_start_0 24 rfl
theorem dX7_start_40 : decode cX7_start 40 = .ok (.goto 4, 3) := dec_at kDX7_start_0 25 rfl
theorem dX7_start_43 : decode cX7_start 43 = .ok (.lconst 0, 1) := dec_at kDX7_start_0 26 rfl
theorem dX7_start_44 : decode cX7_start 44 = .ok (.lastore, 1) := dec_at kDX7_start_0 27 rfl
theorem dX7_start_45 : decode cX7_start 45 = .ok (.iinc 3 1, 3) := dec_at kDX7_start_0 28 rfl
theorem dX7_start_48 : decode cX7_start 48 = .ok (.goto (-36), 3) := dec_at kDX7_start_0 29 rfl
theorem dX7_start_51 : decode cX7_start 51 = .ok (.aload_n 0, 1) := dec_at kDX7_start_0 30 rfl
theorem dX7_start_52 : decode cX7_start 52 = .ok (.lconst 1, 1) := dec_at kDX7_start_0 31 rfl
theorem dX7_start_53 : decode cX7_start 53 = .ok (.putfield 94, 3) := dec_at kDX7_start_0 32 rfl
theorem dX7_start_56 : decode cX7_start 56 = .ok (.aload_n 0, 1) := dec_at kDX7_start_0 33 rfl
theorem dX7_start_57 : decode cX7_start 57 = .ok (.aload_n 0, 1) := dec_at kDX7_start_0 34 rfl
theorem dX7_start_58 : decode cX7_start 58 = .ok (.invokevirtual 98, 3) := dec_at kDX7_start_0 35 rfl
theorem dX7_start_61 : decode cX7_start 61 = .ok (.putfield 102, 3) := dec_at kDX7_start_0 36 rfl
theorem dX7_start_64 : decode cX7_start 64 = .ok (.aload_n 0, 1) := dec_at kDX7_start_0 37 rfl
theorem dX7_start_65 : decode cX7_start 65 = .ok (.iconst 0, 1) := dec_at kDX7_start_0 38 rfl
theorem dX7_start_66 : decode cX7_start 66 = .ok (.putfield 105, 3) := dec_at kDX7_start_0 39 rfl
theorem dX7_start_69 : decode cX7_start 69 = .ok (.aload_n 0, 1) := dec_at kDX7_start_0 40 rfl
theorem dX7_start_70 : decode cX7_start 70 = .ok (.iconst 0, 1) := dec_at kDX7_start_0 41 rfl
theorem dX7_start_71 : decode cX7_start 71 = .ok (.putfield 108, 3) := dec_at kDX7_start_0 42 rfl
theorem dX7_start_74 : decode cX7_start 74 = .ok (.return_, 1) := dec_at kDX7_start_0 43 rfl
def DX7_begin_0 : List (Nat × (Instr × Nat)) := [(0, (.aload_n 0, 1)), (1, (.iload_n 1, 1)), (2, (.iconst 1, 1)), (3, (.bipush 6, 2)), (5, (.invokestatic 112, 3)), (8, (.ifCond .eq 16, 3)), (11, (.iload_n 2, 1)), (12, (.iconst 0, 1)), (13, (.iconst 2, 1)), (14, (.invokestatic 112, 3)), (17, (.ifCond .eq 7, 3)), (20, (.iconst 0, 1)), (21, (.goto 4, 3)), (24, (.iconst 1, 1)), (25, (.putfield 70, 3)), (28, (.aload_n 0, 1)), (29, (.getfield 70, 3)), (32, (.ifCond .le 5, 3)), (35, (.iconst 0, 1)), (36, (.ireturn, 1)), (37, (.aload_n 0, 1)), (38, (.iload_n 1, 1)), (39, (.iload_n 2, 1)), (40, (.invokevirtual 66, 3)), (43, (.aload_n 0, 1)), (44, (.invokevirtual 86, 3)), (47, (.ireturn, 1))]
theorem kDX7_begin_0 : DX7_begin_0.all (fun q => decide (decode cX7_begin q.1 = .ok q.2)) = true := by decide +kernel
theorem dX7_begin_0 : decode cX7_begin 0 = .ok (.aload_n 0, 1) := dec_at kDX7_begin_0 0 rfl
theorem dX7_begin_1 : decode cX7_begin 1 = .ok (.iload_n 1, 1) := dec_at kDX7_begin_0 1 rfl
theorem dX7_begin_2 : decode cX7_begin 2 = .ok (.iconst 1, 1) := dec_at kDX7_begin_0 2 rfl
theorem dX7_begin_3 : decode cX7_begin 3 = .ok (.bipush 6, 2) := dec_at kDX7_begin_0 3 rfl
theorem dX7_begin_5 : decode cX7_begin 5 = .ok (.invokestatic 112, 3) := dec_at kDX7_begin_0 4 rfl
theorem dX7_begin_8 : decode cX7_begin 8 = .ok (.ifCond .eq 16, 3) := dec_at kDX7_begin_0 5 rfl
theorem dX7_begin_11 : decode cX7_begin 11 = .ok (.iload_n 2, 1) := dec_at kDX7_begin_0 6 rfl
theorem dX7_begin_12 : decode cX7_begin 12 = .ok (.iconst 0, 1) := dec_at kDX7_begin_0 7 rfl
theorem dX7_begin_13 : decode cX7_begin 13 = .ok (.iconst 2, 1) := dec_at kDX7_begin_0 8 rfl
theorem dX7_begin_14 : decode cX7_begin 14 = .ok (.invokestatic 112, 3) := dec_at kDX7_begin_0 9 rfl
theorem dX7_begin_17 : decode cX7_begin 17 = .ok (.ifCond .eq 7, 3) := dec_at kDX7_begin_0 10 rfl
theorem dX7_begin_20 : decode cX7_begin 20 = .ok (.iconst 0, 1) := dec_at kDX7_begin_0 11 rfl
theorem dX7_begin_21 : decode cX7_begin 21 = .ok (.goto 4, 3) := dec_at kDX7_begin_0 12 rfl
theorem dX7_begin_24 : decode cX7_begin 24 = .ok (.iconst 1, 1) := dec_at kDX7_begin_0 13 rfl
theorem dX7_begin_25 : decode cX7_begin 25 = .ok (.putfield 70, 3) := dec_at kDX7_begin_0 14 rfl
theorem dX7_begin_28 : decode cX7_begin 28 = .ok (.aload_n 0, 1) := dec_at kDX7_begin_0 15 rfl
theorem dX7_begin_29 : decode cX7_begin 29 = .ok (.getfield 70, 3) := dec_at kDX7_begin_0 16 rfl
theorem dX7_begin_32 : decode cX7_begin 32 = .ok (.ifCond .le 5, 3) := dec_at kDX7_begin_0 17 rfl
theorem dX7_begin_35 : decode cX7_begin 35 = .ok (.iconst 0, 1) := dec_at kDX7_begin_0 18 rfl
theorem dX7_begin_36 : decode cX7_begin 36 = .ok (.ireturn, 1) := dec_at kDX7_begin_0 19 rfl
theorem dX7_begin_37 : decode cX7_begin 37 = .ok (.aload_n 0, 1) := dec_at kDX7_begin_0 20 rfl
theorem dX7_begin_38 : decode cX7_begin 38 = .ok (.iload_n 1, 1) := dec_at kDX7_begin_0 21 rfl
theorem dX7_begin_39 : decode cX7_begin 39 = .ok (.iload_n 2, 1) := dec_at kDX7_begin_0 22 rfl
theorem dX7_begin_40 : decode cX7_begin 40 = .ok (.invokevirtual 66, 3) := dec_at kDX7_begin_0 23 rfl
theorem dX7_begin_43 : decode cX7_begin 43 = .ok (.aload_n 0, 1) := dec_at kDX7_begin_0 24 rfl
theorem dX7_begin_44 : decode cX7_begin 44 = .ok (.invokevirtual 86, 3) := dec_at kDX7_begin_0 25 rfl
theorem dX7_begin_47 : decode cX7_begin 47 = .ok (.ireturn, 1) := dec_at kDX7_begin_0 26 rfl
def DX7_append_0 : List (Nat × (Instr × Nat)) := [(0, (.aload_n 0, 1)), (1, (.iload_n 1, 1)), (2, (.bipush 33, 2)), (4, (.bipush 126, 2)), (6, (.invokestatic 112, 3)), (9, (.ifCond .ne 7, 3)), (12, (.iconst 1, 1)), (13, (.goto 17, 3)), (16, (.aload_n 0, 1)), (17, (.getfield 116, 3)), (20, (.bipush 60, 2)), (22, (.if_icmp .ne 7, 3)), (25, (.iconst 2, 1)), (26, (.goto 4, 3)), (29, (.iconst 0, 1)), (30, (.putfield 70, 3)), (33, (.aload_n 0, 1)), (34, (.getfield 70, 3)), (37, (.ifCond .le 5, 3)), (40, (.iconst 0, 1)), (41, (.ireturn, 1)), (42, (.aload_n 0, 1)), (43, (.getfield 13, 3)), (46, (.aload_n 0, 1)), (47, (.getfield 116, 3)), (50, (.iload_n 1, 1)), (51, (.iastore, 1)), (52, (.aload_n 0, 1)), (53, (.dup, 1)), (54, (.getfield 116, 3)), (57, (.iconst 1, 1)), (58, (.iadd, 1)), (59, (.putfield 116, 3)), (62, (.aload_n 0, 1)), (63, (.getfield 116, 3)), (66, (.ireturn, 1))]
theorem kDX7_append_0 : DX7_append_0.all (fun q => decide (decode cX7_append q.1 = .ok q.2)) = true := by decide +kernel
theorem dX7_append_0 : decode cX7_append 0 = .ok (.aload_n 0, 1) := dec_at kDX7_append_0 0 rfl
theorem dX7_append_1 : decode cX7_append 1 = .ok (.iload_n 1, 1) := dec_at kDX7_append_0 1 rfl
theorem dX7_append_2 : decode cX7_append 2 = .ok (.bipush 33, 2) := dec_at kDX7_append_0 2 rfl
theorem dX7_append_4 : decode cX7_append 4 = .ok (.bipush 126, 2) := dec_at kDX7_append_0 3 rfl
theorem dX7_append_6 : decode cX7_append 6 = .ok (.invokestatic 112, 3) := dec_at kDX7_append_0 4 rfl
theorem dX7_append_9 : decode cX7_append 9 = .ok (.ifCond .ne 7, 3) := dec_at kDX7_append_0 5 rfl
theorem dX7_append_12 : decode cX7_append 12 = .ok (.iconst 1, 1) := dec_at kDX7_append_0 6 rfl
theorem dX7_append_13 : decode cX7_append 13 = .ok (.goto 17, 3) := dec_at kDX7_append_0 7 rfl
theorem dX7_append_16 : decode cX7_append 16 = .ok (.aload_n 0, 1) := dec_at kDX7_append_0 8 rfl
theorem dX7_append_17 : decode cX7_append 17 = .ok (.getfield 116, 3) := dec_at kDX7_append_0 9 rfl
theorem dX7_append_20 : decode cX7_append 20 = .ok (.bipush 60, 2) := dec_at kDX7_append_0 10 rfl
theorem dX7_append_22 : decode cX7_append 22 = .ok (.if_icmp .ne 7, 3) := dec_at kDX7_append_0 11 rfl
theorem dX7_append_25 : decode cX7_append 25 = .ok (.iconst 2, 1) := dec_at kDX7_append_0 12 rfl
theorem dX7_append_26 : decode cX7_append 26 = .ok (.goto 4, 3) := dec_at kDX7_append_0 13 rfl
theorem dX7_append_29 : decode cX7_append 29 = .ok (.iconst 0, 1) := dec_at kDX7_append_0 14 rfl
theorem dX7_append_30 : decode cX7_append 30 = .ok (.putfield 70, 3) := dec_at kDX7_append_0 15 rfl
theorem dX7_append_33 : decode cX7_append 33 = .ok (.aload_n 0, 1) := dec_at kDX7_append_0 16 rfl
theorem dX7_append_34 : decode cX7_append 34 = .ok (.getfield 70, 3) := dec_at kDX7_append_0 17 rfl
theorem dX7_append_37 : decode cX7_append 37 = .ok (.ifCond .le 5, 3) := dec_at kDX7_append_0 18 rfl
theorem dX7_append_40 : decode cX7_append 40 = .ok (.iconst 0, 1) := dec_at kDX7_append_0 19 rfl
theorem dX7_append_41 : decode cX7_append 41 = .ok (.ireturn, 1) := dec_at kDX7_append_0 20 rfl
theorem dX7_append_42 : decode cX7_append 42 = .ok (.aload_n 0, 1) := dec_at kDX7_append_0 21 rfl
theorem dX7_append_43 : decode cX7_append 43 = .ok (.getfield 13, 3) := dec_at kDX7_append_0 22 rfl
theorem dX7_append_46 : decode cX7_append 46 = .ok (.aload_n 0, 1) := dec_at kDX7_append_0 23 rfl
theorem dX7_append_47 : decode cX7_append 47 = .ok (.getfield 116, 3) := dec_at kDX7_append_0 24 rfl
theorem dX7_append_50 : decode cX7_append 50 = .ok (.iload_n 1, 1) := dec_at kDX7_append_0 25 rfl
theorem dX7_append_51 : decode cX7_append 51 = .ok (.iastore, 1) := dec_at kDX7_append_0 26 rfl
theorem dX7_append_52 : decode cX7_append 52 = .ok (.aload_n 0, 1) := dec_at kDX7_append_0 27 rfl
theorem dX7_append_53 : decode cX7_append 53 = .ok (.dup, 1) := dec_at kDX7_append_0 28 rfl
theorem dX7_append_54 : decode cX7_append 54 = .ok (.getfield 116, 3) := dec_at kDX7_append_0 29 rfl
theorem dX7_append_57 : decode cX7_append 57 = .ok (.iconst 1, 1) := dec_at kDX7_append_0 30 rfl
theorem dX7_append_58 : decode cX7_append 58 = .ok (.iadd, 1) := dec_at kDX7_append_0 31 rfl
theorem dX7_append_59 : decode cX7_append 59 = .ok (.putfield 116, 3) := dec_at kDX7_append_0 32 rfl
theorem dX7_append_62 : decode cX7_append 62 = .ok (.aload_n 0, 1) := dec_at kDX7_append_0 33 rfl
theorem dX7_append_63 : decode cX7_append 63 = .ok (.getfield 116, 3) := dec_at kDX7_append_0 34 rfl
theorem dX7_append_66 : decode cX7_append 66 = .ok (.ireturn, 1) := dec_at kDX7_append_0 35 rfl
def DX7_clearBuffer_0 : List (Nat × (Instr × Nat)) := [(0, (.aload_n 0, 1)), (1, (.iconst 0, 1)), (2, (.putfield 70, 3)), (5, (.aload_n 0, 1)), (6, (.getfield 116, 3)), (9, (.istore_n 1, 1)), (10, (.aload_n 0, 1)), (11, (.iconst 0, 1)), (12, (.putfield 116, 3)), (15, (.iload_n 1, 1)), (16, (.ireturn, 1))]
theorem kDX7_clearBuffer_0 : DX7_clearBuffer_0.all (fun q => decide (decode cX7_clearBuffer q.1 = .ok q.2)) = true := by decide +kernel
theorem dX7_clearBuffer_0 : decode cX7_clearBuffer 0 = .ok (.aload_n 0, 1) := dec_at kDX7_clearBuffer_0 0 rfl
theorem dX7_clearBuffer_1 : decode cX7_clearBuffer 1 = .ok (.iconst 0, 1) := dec_at kDX7_clearBuffer_0 1 rfl
theorem dX7_clearBuffer_2 : decode cX7_clearBuffer 2 = .ok (.putfield 70, 3) := dec_at kDX7_clearBuffer_0 2 rfl
theorem dX7_clearBuffer_5 : decode cX7_clearBuffer 5 = .ok (.aload_n 0, 1) := dec_at kDX7_clearBuffer_0 3 rfl
theorem dX7_clearBuffer_6 : decode cX7_clearBuffer 6 = .ok (.getfield 116, 3) := dec_at kDX7_clearBuffer_0 4 rfl
theorem dX7_clearBuffer_9 : decode cX7_clearBuffer 9 = .ok (.istore_n 1, 1) := dec_at kDX7_clearBuffer_0 5 rfl
theorem dX7_clearBuffer_10 : decode cX7_clearBuffer 10 = .ok (.aload_n 0, 1) := dec_at kDX7_clearBuffer_0 6 rfl
theorem dX7_clearBuffer_11 : decode cX7_clearBuffer 11 = .ok (.iconst 0, 1) := dec_at kDX7_clearBuffer_0 7 rfl
theorem dX7_clearBuffer_12 : decode cX7_clearBuffer 12 = .ok (.putfield 116, 3) := dec_at kDX7_clearBuffer_0 8 rfl
theorem dX7_clearBuffer_15 : decode cX7_clearBuffer 15 = .ok (.iload_n 1, 1) := dec_at kDX7_clearBuffer_0 9 rfl
theorem dX7_clearBuffer_16 : decode cX7_clearBuffer 16 = .ok (.ireturn, 1) := dec_at kDX7_clearBuffer_0 10 rfl
def DX7_isInput_0 : List (Nat × (Instr × Nat)) := [(0, (.iload_n 1, 1)), (1, (.bipush 120, 2)), (3, (.if_icmp .ne 10, 3)), (6, (.aload_n 0, 1)), (7, (.getfield 81, 3)), (10, (.ifCond .gt 17, 3)), (13, (.iload_n 1, 1)), (14, (.bipush 121, 2)), (16, (.if_icmp .ne 15, 3)), (19, (.aload_n 0, 1)), (20, (.getfield 81, 3)), (23, (.iconst 1, 1)), (24, (.if_icmp .le 7, 3)), (27, (.iconst 1, 1)), (28, (.goto 4, 3)), (31, (.iconst 0, 1)), (32, (.ireturn, 1))]
theorem kDX7_isInput_0 : DX7_isInput_0.all (fun q => decide (decode cX7_isInput q.1 = .ok q.2)) = true := by decide +kernel
theorem dX7_isInput_0 : decode cX7_isInput 0 = .ok (.iload_n 1, 1) := dec_at kDX7_isInput_0 0 rfl
theorem dX7_isInput_1 : decode cX7_isInput 1 = .ok (.bipush 120, 2) := dec_at kDX7_isInput_0 1 rfl
theorem dX7_isInput_3 : decode cX7_isInput 3 = .ok (.if_icmp .ne 10, 3) := dec_at kDX7_isInput_0 2 rfl
theorem dX7_isInput_6 : decode cX7_isInput 6 = .ok (.aload_n 0, 1) := dec_at kDX7_isInput_0 3 rfl
theorem dX7_isInput_7 : decode cX7_isInput 7 = .ok (.getfield 81, 3) := dec_at kDX7_isInput_0 4 rfl
theorem dX7_isInput_10 : decode cX7_isInput 10 = .ok (.ifCond .gt 17, 3) := dec_at kDX7_isInput_0 5 rfl
theorem dX7_isInput_13 : decode cX7_isInput 13 = .ok (.iload_n 1, 1) := dec_at kDX7_isInput_0 6 rfl
theorem dX7_isInput_14 : decode cX7_isInput 14 = .ok (.bipush 121, 2) := dec_at kDX7_isInput_0 7 rfl
theorem dX7_isInput_16 : decode cX7_isInput 16 = .ok (.if_icmp .ne 15, 3) := dec_at kDX7_isInput_0 8 rfl
theorem dX7_isInput_19 : decode cX7_isInput 19 = .ok (.aload_n 0, 1) := dec_at kDX7_isInput_0 9 rfl
theorem dX7_isInput_20 : decode cX7_isInput 20 = .ok (.getfield 81, 3) := dec_at kDX7_isInput_0 10 rfl
theorem dX7_isInput_23 : decode cX7_isInput 23 = .ok (.iconst 1, 1) := dec_at kDX7_isInput_0 11 rfl
theorem dX7_isInput_24 : decode cX7_isInput 24 = .ok (.if_icmp .le 7, 3) := dec_at kDX7_isInput_0 12 rfl
theorem dX7_isInput_27 : decode cX7_isInput 27 = .ok (.iconst 1, 1) := dec_at kDX7_isInput_0 13 rfl
theorem dX7_isInput_28 : decode cX7_isInput 28 = .ok (.goto 4, 3) := dec_at kDX7_isInput_0 14 rfl
theorem dX7_isInput_31 : decode cX7_isInput 31 = .ok (.iconst 0, 1) := dec_at kDX7_isInput_0 15 rfl
theorem dX7_isInput_32 : decode cX7_isInput 32 = .ok (.ireturn, 1) := dec_at kDX7_isInput_0 16 rfl
def DX7_isName_0 : List (Nat × (Instr × Nat)) := [(0, (.iload_n 1, 1)), (1, (.bipush 97, 2)), (3, (.bipush 97, 2)), (5, (.aload_n 0, 1)), (6, (.getfield 78, 3)), (9, (.iadd, 1)), (10, (.iconst 1, 1)), (11, (.isub, 1)), (12, (.invokestatic 112, 3)), (15, (.ifCond .ne 11, 3)), (18, (.aload_n 0, 1)), (19, (.iload_n 1, 1)), (20, (.invokevirtual 119, 3)), (23, (.ifCond .eq 7, 3)), (26, (.iconst 1, 1)), (27, (.goto 4, 3)), (30, (.iconst 0, 1)), (31, (.ireturn, 1))]
theorem kDX7_isName_0 : DX7_isName_0.all (fun q => decide (decode cX7_isName q.1 = .ok q.2)) = true := by decide +kernel
theorem dX7_isName_0 : decode cX7_isName 0 = .ok (.iload_n 1, 1) := dec_at kDX7_isName_0 0 rfl
theorem dX7_isName_1 : decode cX7_isName 1 = .ok (.bipush 97, 2) := dec_at kDX7_isName_0 1 rfl
theorem dX7_isName_3 : decode cX7_isName 3 = .ok (.bipush 97, 2) := dec_at kDX7_isName_0 2 rfl
theorem dX7_isName_5 : decode cX7_isName 5 = .ok (.aload_n 0, 1) := dec_at kDX7_isName_0 3 rfl
theorem dX7_isName_6 : decode cX7_isName 6 = .ok (.getfield 78, 3) := dec_at kDX7_isName_0 4 rfl
theorem dX7_isName_9 : decode cX7_isName 9 = .ok (.iadd, 1) := dec_at kDX7_isName_0 5 rfl
theorem dX7_isName_10 : decode cX7_isName 10 = .ok (.iconst 1, 1) := dec_at kDX7_isName_0 6 rfl
theorem dX7_isName_11 : decode cX7_isName 11 = .ok (.isub, 1) := dec_at kDX7_isName_0 7 rfl
theorem dX7_isName_12 : decode cX7_isName 12 = .ok (.invokestatic 112, 3) := dec_at kDX7_isName_0 8 rfl
theorem dX7_isName_15 : decode cX7_isName 15 = .ok (.ifCond .ne 11, 3) := dec_at kDX7_isName_0 9 rfl
theorem dX7_isName_18 : decode cX7_isName 18 = .ok (.aload_n 0, 1) := dec_at kDX7_isName_0 10 rfl
theorem dX7_isName_19 : decode cX7_isName 19 = .ok (.iload_n 1, 1) := dec_at kDX7_isName_0 11 rfl
theorem dX7_isName_20 : decode cX7_isName 20 = .ok (.invokevirtual 119, 3) := dec_at kDX7_isName_0 12 rfl
theorem dX7_isName_23 : decode cX7_isName 23 = .ok (.ifCond .eq 7, 3) := dec_at kDX7_isName_0 13 rfl
theorem dX7_isName_26 : decode cX7_isName 26 = .ok (.iconst 1, 1) := dec_at kDX7_isName_0 14 rfl
theorem dX7_isName_27 : decode cX7_isName 27 = .ok (.goto 4, 3) := dec_at kDX7_isName_0 15 rfl
theorem dX7_isName_30 : decode cX7_isName 30 = .ok (.iconst 0, 1) := dec_at kDX7_isName_0 16 rfl
theorem dX7_isName_31 : decode cX7_isName 31 = .ok (.ireturn, 1) := dec_at kDX7_isName_0 17 rfl
def DX7_isSign_0 : List (Nat × (Instr × Nat)) := [(0, (.iload_n 0, 1)), (1, (.bipush 124, 2)), (3, (.if_icmp .eq 15, 3)), (6, (.iload_n 0, 1)), (7, (.bipush 94, 2)), (9, (.if_icmp .eq 9, 3)), (12, (.iload_n 0, 1)), (13, (.bipush 38, 2)), (15, (.if_icmp .ne 7, 3)), (18, (.iconst 1, 1)), (19, (.goto 4, 3)), (22, (.iconst 0, 1)), (23, (.ireturn, 1))]
theorem kDX7_isSign_0 : DX7_isSign_0.all (fun q => decide (decode cX7_isSign q.1 = .ok q.2)) = true := by decide +kernel
theorem dX7_isSign_0 : decode cX7_isSign 0 = .ok (.iload_n 0, 1) := dec_at kDX7_isSign_0 0 rfl
theorem dX7_isSign_1 : decode cX7_isSign 1 = .ok (.bipush 124, 2) := dec_at kDX7_isSign_0 1 rfl
theorem dX7_isSign_3 : decode cX7_isSign 3 = .ok (.if_icmp .eq 15, 3) := dec_at kDX7_isSign_0 2 rfl
theorem dX7_isSign_6 : decode cX7_isSign 6 = .ok (.iload_n 0, 1) := dec_at kDX7_isSign_0 3 rfl
theorem dX7_isSign_7 : decode cX7_isSign 7 = .ok (.bipush 94, 2) := dec_at kDX7_isSign_0 4 rfl
theorem dX7_isSign_9 : decode cX7_isSign 9 = .ok (.if_icmp .eq 9, 3) := dec_at kDX7_isSign_0 5 rfl
theorem dX7_isSign_12 : decode cX7_isSign 12 = .ok (.iload_n 0, 1) := dec_at kDX7_isSign_0 6 rfl
theorem dX7_isSign_13 : decode cX7_isSign 13 = .ok (.bipush 38, 2) := dec_at kDX7_isSign_0 7 rfl
theorem dX7_isSign_15 : decode cX7_isSign 15 = .ok (.if_icmp .ne 7, 3) := dec_at kDX7_isSign_0 8 rfl
theorem dX7_isSign_18 : decode cX7_isSign 18 = .ok (.iconst 1, 1) := dec_at kDX7_isSign_0 9 rfl
theorem dX7_isSign_19 : decode cX7_isSign 19 = .ok (.goto 4, 3) := dec_at kDX7_isSign_0 10 rfl
theorem dX7_isSign_22 : decode cX7_isSign 22 = .ok (.iconst 0, 1) := dec_at kDX7_isSign_0 11 rfl
theorem dX7_isSign_23 : decode cX7_isSign 23 = .ok (.ireturn, 1) := dec_at kDX7_isSign_0 12 rfl
def DX7_takes_0 : List (Nat × (Instr × Nat)) := [(0, (.aload_n 0, 1)), (1, (.getfield 123, 3)), (4, (.ifCond .eq 51, 3)), (7, (.aload_n 0, 1)), (8, (.iload_n 1, 1)), (9, (.invokestatic 126, 3)), (12, (.ifCond .ne 7, 3)), (15, (.iconst 1, 1)), (16, (.goto 4, 3)), (19, (.iconst 0, 1)), (20, (.putfield 123, 3)), (23, (.aload_n 0, 1)), (24, (.dup, 1)), (25, (.getfield 129, 3)), (28, (.iload_n 1, 1)), (29, (.bipush 41, 2)), (31, (.if_icmp .ne 14, 3)), (34, (.aload_n 0, 1)), (35, (.getfield 129, 3)), (38, (.ifCond .le 7, 3)), (41, (.iconst 1, 1)), (42, (.goto 4, 3)), (45, (.iconst 0, 1)), (46, (.isub, 1)), (47, (.putfield 129, 3)), (50, (.iload_n 1, 1)), (51, (.invokestatic 126, 3)), (54, (.ireturn, 1)), (55, (.aload_n 0, 1)), (56, (.aload_n 0, 1)), (57, (.iload_n 1, 1)), (58, (.invokevirtual 132, 3)), (61, (.ifCond .ne 15, 3)), (64, (.iload_n 1, 1)), (65, (.bipush 48, 2)), (67, (.if_icmp .eq 9, 3)), (70, (.iload_n 1, 1)), (71, (.bipush 49, 2)), (73, (.if_icmp .ne 7, 3)), (76, (.iconst 1, 1)), (77, (.goto 4, 3)), (80, (.iconst 0, 1)), (81, (.putfield 123, 3)), (84, (.aload_n 0, 1)), (85, (.dup, 1)), (86, (.getfield 129, 3)), (89, (.iload_n 1, 1)), (90, (.bipush 40, 2)), (92, (.if_icmp .ne 7, 3)), (95, (.iconst 1, 1))]
theorem kDX7_takes_0 : DX7_takes_0.all (fun q => decide (decode cX7_takes q.1 = .ok q.2)) = true := by decide +kernel
theorem dX7_takes_0 : decode cX7_takes 0 = .ok (.aload_n 0, 1) := dec_at kDX7_takes_0 0 rfl
theorem dX7_takes_1 : decode cX7_takes 1 = .ok (.getfield 123, 3) := dec_at kDX7_takes_0 1 rfl
theorem dX7_takes_4 : decode cX7_takes 4 = .ok (.ifCond .eq 51, 3) := dec_at kDX7_takes_0 2 rfl
theorem dX7_takes_7 : decode cX7_takes 7 = .ok (.aload_n 0, 1) := dec_at kDX7_takes_0 3 rfl
theorem dX7_takes_8 : decode cX7_takes 8 = .ok (.iload_n 1, 1) := dec_at kDX7_takes_0 4 rfl
theorem dX7_takes_9 : decode cX7_takes 9 = .ok (.invokestatic 126, 3) := dec_at kDX7_takes_0 5 rfl
theorem dX7_takes_12 : decode cX7_takes 12 = .ok (.ifCond .ne 7, 3) := dec_at kDX7_takes_0 6 rfl
theorem dX7_takes_15 : decode cX7_takes 15 = .ok (.iconst 1, 1) := dec_at kDX7_takes_0 7 rfl
theorem dX7_takes_16 : decode cX7_takes 16 = .ok (.goto 4, 3) := dec_at kDX7_takes_0 8 rfl
theorem dX7_takes_19 : decode cX7_takes 19 = .ok (.iconst 0, 1) := dec_at kDX7_takes_0 9 rfl
theorem dX7_takes_20 : decode cX7_takes 20 = .ok (.putfield 123, 3) := dec_at kDX7_takes_0 10 rfl
theorem dX7_takes_23 : decode cX7_takes 23 = .ok (.aload_n 0, 1) := dec_at kDX7_takes_0 11 rfl
theorem dX7_takes_24 : decode cX7_takes 24 = .ok (.dup, 1) := dec_at kDX7_takes_0 12 rfl
theorem dX7_takes_25 : decode cX7_takes 25 = .ok (.getfield 129, 3) := dec_at kDX7_takes_0 13 rfl
theorem dX7_takes_28 : decode cX7_takes 28 = .ok (.iload_n 1, 1) := dec_at kDX7_takes_0 14 rfl
theorem dX7_takes_29 : decode cX7_takes 29 = .ok (.bipush 41, 2) := dec_at kDX7_takes_0 15 rfl
theorem dX7_takes_31 : decode cX7_takes 31 = .ok (.if_icmp .ne 14, 3) := dec_at kDX7_takes_0 16 rfl
theorem dX7_takes_34 : decode cX7_takes 34 = .ok (.aload_n 0, 1) := dec_at kDX7_takes_0 17 rfl
theorem dX7_takes_35 : decode cX7_takes 35 = .ok (.getfield 129, 3) := dec_at kDX7_takes_0 18 rfl
theorem dX7_takes_38 : decode cX7_takes 38 = .ok (.ifCond .le 7, 3) := dec_at kDX7_takes_0 19 rfl
theorem dX7_takes_41 : decode cX7_takes 41 = .ok (.iconst 1, 1) := dec_at kDX7_takes_0 20 rfl
theorem dX7_takes_42 : decode cX7_takes 42 = .ok (.goto 4, 3) := dec_at kDX7_takes_0 21 rfl
theorem dX7_takes_45 : decode cX7_takes 45 = .ok (.iconst 0, 1) := dec_at kDX7_takes_0 22 rfl
theorem dX7_takes_46 : decode cX7_takes 46 = .ok (.isub, 1) := dec_at kDX7_takes_0 23 rfl
theorem dX7_takes_47 : decode cX7_takes 47 = .ok (.putfield 129, 3) := dec_at kDX7_takes_0 24 rfl
theorem dX7_takes_50 : decode cX7_takes 50 = .ok (.iload_n 1, 1) := dec_at kDX7_takes_0 25 rfl
theorem dX7_takes_51 : decode cX7_takes 51 = .ok (.invokestatic 126, 3) := dec_at kDX7_takes_0 26 rfl
theorem dX7_takes_54 : decode cX7_takes 54 = .ok (.ireturn, 1) := dec_at kDX7_takes_0 27 rfl
theorem dX7_takes_55 : decode cX7_takes 55 = .ok (.aload_n 0, 1) := dec_at kDX7_takes_0 28 rfl
theorem dX7_takes_56 : decode cX7_takes 56 = .ok (.aload_n 0, 1) := dec_at kDX7_takes_0 29 rfl
theorem dX7_takes_57 : decode cX7_takes 57 = .ok (.iload_n 1, 1) := dec_at kDX7_takes_0 30 rfl
theorem dX7_takes_58 : decode cX7_takes 58 = .ok (.invokevirtual 132, 3) := dec_at kDX7_takes_0 31 rfl
theorem dX7_takes_61 : decode cX7_takes 61 = .ok (.ifCond .ne 15, 3) := dec_at kDX7_takes_0 32 rfl
theorem dX7_takes_64 : decode cX7_takes 64 = .ok (.iload_n 1, 1) := dec_at kDX7_takes_0 33 rfl
theorem dX7_takes_65 : decode cX7_takes 65 = .ok (.bipush 48, 2) := dec_at kDX7_takes_0 34 rfl
theorem dX7_takes_67 : decode cX7_takes 67 = .ok (.if_icmp .eq 9, 3) := dec_at kDX7_takes_0 35 rfl
theorem dX7_takes_70 : decode cX7_takes 70 = .ok (.iload_n 1, 1) := dec_at kDX7_takes_0 36 rfl
theorem dX7_takes_71 : decode cX7_takes 71 = .ok (.bipush 49, 2) := dec_at kDX7_takes_0 37 rfl
theorem dX7_takes_73 : decode cX7_takes 73 = .ok (.if_icmp .ne 7, 3) := dec_at kDX7_takes_0 38 rfl
theorem dX7_takes_76 : decode cX7_takes 76 = .ok (.iconst 1, 1) := dec_at kDX7_takes_0 39 rfl
theorem dX7_takes_77 : decode cX7_takes 77 = .ok (.goto 4, 3) := dec_at kDX7_takes_0 40 rfl
theorem dX7_takes_80 : decode cX7_takes 80 = .ok (.iconst 0, 1) := dec_at kDX7_takes_0 41 rfl
theorem dX7_takes_81 : decode cX7_takes 81 = .ok (.putfield 123, 3) := dec_at kDX7_takes_0 42 rfl
theorem dX7_takes_84 : decode cX7_takes 84 = .ok (.aload_n 0, 1) := dec_at kDX7_takes_0 43 rfl
theorem dX7_takes_85 : decode cX7_takes 85 = .ok (.dup, 1) := dec_at kDX7_takes_0 44 rfl
theorem dX7_takes_86 : decode cX7_takes 86 = .ok (.getfield 129, 3) := dec_at kDX7_takes_0 45 rfl
theorem dX7_takes_89 : decode cX7_takes 89 = .ok (.iload_n 1, 1) := dec_at kDX7_takes_0 46 rfl
theorem dX7_takes_90 : decode cX7_takes 90 = .ok (.bipush 40, 2) := dec_at kDX7_takes_0 47 rfl
theorem dX7_takes_92 : decode cX7_takes 92 = .ok (.if_icmp .ne 7, 3) := dec_at kDX7_takes_0 48 rfl
theorem dX7_takes_95 : decode cX7_takes 95 = .ok (.iconst 1, 1) := dec_at kDX7_takes_0 49 rfl
def DX7_takes_50 : List (Nat × (Instr × Nat)) := [(96, (.goto 4, 3)), (99, (.iconst 0, 1)), (100, (.iadd, 1)), (101, (.putfield 129, 3)), (104, (.aload_n 0, 1)), (105, (.getfield 123, 3)), (108, (.ifCond .ne 15, 3)), (111, (.iload_n 1, 1)), (112, (.bipush 40, 2)), (114, (.if_icmp .eq 9, 3)), (117, (.iload_n 1, 1)), (118, (.bipush 33, 2)), (120, (.if_icmp .ne 7, 3)), (123, (.iconst 1, 1)), (124, (.goto 4, 3)), (127, (.iconst 0, 1)), (128, (.ireturn, 1))]
theorem kDX7_takes_50 : DX7_takes_50.all (fun q => decide (decode cX7_takes q.1 = .ok q.2)) = true := by decide +kernel
theorem dX7_takes_96 : decode cX7_takes 96 = .ok (.goto 4, 3) := dec_at kDX7_takes_50 0 rfl
theorem dX7_takes_99 : decode cX7_takes 99 = .ok (.iconst 0, 1) := dec_at kDX7_takes_50 1 rfl
theorem dX7_takes_100 : decode cX7_takes 100 = .ok (.iadd, 1) := dec_at kDX7_takes_50 2 rfl
theorem dX7_takes_101 : decode cX7_takes 101 = .ok (.putfield 129, 3) := dec_at kDX7_takes_50 3 rfl
theorem dX7_takes_104 : decode cX7_takes 104 = .ok (.aload_n 0, 1) := dec_at kDX7_takes_50 4 rfl
theorem dX7_takes_105 : decode cX7_takes 105 = .ok (.getfield 123, 3) := dec_at kDX7_takes_50 5 rfl
theorem dX7_takes_108 : decode cX7_takes 108 = .ok (.ifCond .ne 15, 3) := dec_at kDX7_takes_50 6 rfl
theorem dX7_takes_111 : decode cX7_takes 111 = .ok (.iload_n 1, 1) := dec_at kDX7_takes_50 7 rfl
theorem dX7_takes_112 : decode cX7_takes 112 = .ok (.bipush 40, 2) := dec_at kDX7_takes_50 8 rfl
theorem dX7_takes_114 : decode cX7_takes 114 = .ok (.if_icmp .eq 9, 3) := dec_at kDX7_takes_50 9 rfl
theorem dX7_takes_117 : decode cX7_takes 117 = .ok (.iload_n 1, 1) := dec_at kDX7_takes_50 10 rfl
theorem dX7_takes_118 : decode cX7_takes 118 = .ok (.bipush 33, 2) := dec_at kDX7_takes_50 11 rfl
theorem dX7_takes_120 : decode cX7_takes 120 = .ok (.if_icmp .ne 7, 3) := dec_at kDX7_takes_50 12 rfl
theorem dX7_takes_123 : decode cX7_takes 123 = .ok (.iconst 1, 1) := dec_at kDX7_takes_50 13 rfl
theorem dX7_takes_124 : decode cX7_takes 124 = .ok (.goto 4, 3) := dec_at kDX7_takes_50 14 rfl
theorem dX7_takes_127 : decode cX7_takes 127 = .ok (.iconst 0, 1) := dec_at kDX7_takes_50 15 rfl
theorem dX7_takes_128 : decode cX7_takes 128 = .ok (.ireturn, 1) := dec_at kDX7_takes_50 16 rfl
def DX7_read_0 : List (Nat × (Instr × Nat)) := [(0, (.aload_n 0, 1)), (1, (.iconst 0, 1)), (2, (.putfield 129, 3)), (5, (.aload_n 0, 1)), (6, (.iconst 0, 1)), (7, (.putfield 123, 3)), (10, (.iconst 0, 1)), (11, (.istore_n 1, 1)), (12, (.iconst 1, 1)), (13, (.istore_n 2, 1)), (14, (.iload_n 1, 1)), (15, (.aload_n 0, 1)), (16, (.getfield 116, 3)), (19, (.if_icmp .ge 76, 3)), (22, (.iload_n 2, 1)), (23, (.ifCond .eq 72, 3)), (26, (.aload_n 0, 1)), (27, (.getfield 123, 3)), (30, (.ifCond .eq 25, 3)), (33, (.aload_n 0, 1)), (34, (.getfield 13, 3)), (37, (.iload_n 1, 1)), (38, (.iaload, 1)), (39, (.bipush 41, 2)), (41, (.if_icmp .ne 14, 3)), (44, (.aload_n 0, 1)), (45, (.getfield 129, 3)), (48, (.ifCond .le 7, 3)), (51, (.iconst 1, 1)), (52, (.goto 4, 3)), (55, (.iconst 0, 1)), (56, (.istore_n 3, 1)), (57, (.aload_n 0, 1)), (58, (.aload_n 0, 1)), (59, (.getfield 13, 3)), (62, (.iload_n 1, 1)), (63, (.iaload, 1)), (64, (.invokevirtual 135, 3)), (67, (.ifCond .ne 7, 3)), (70, (.iload_n 3, 1)), (71, (.ifCond .eq 7, 3)), (74, (.iconst 1, 1)), (75, (.goto 4, 3)), (78, (.iconst 0, 1)), (79, (.istore_n 2, 1)), (80, (.iload_n 1, 1)), (81, (.iload_n 2, 1)), (82, (.ifCond .eq 7, 3)), (85, (.iconst 1, 1)), (86, (.goto 4, 3))]
theorem kDX7_read_0 : DX7_read_0.all (fun q => decide (decode cX7_read q.1 = .ok q.2)) = true := by decide +kernel
theorem dX7_read_0 : decode cX7_read 0 = .ok (.aload_n 0, 1) := dec_at kDX7_read_0 0 rfl
theorem dX7_read_1 : decode cX7_read 1 = .ok (.iconst 0, 1) := dec_at kDX7_read_0 1 rfl
theorem dX7_read_2 : decode cX7_read 2 = .ok (.putfield 129, 3) := dec_at kDX7_read_0 2 rfl
theorem dX7_read_5 : decode cX7_read 5 = .ok (.aload_n 0, 1) := dec_at kDX7_read_0 3 rfl
theorem dX7_read_6 : decode cX7_read 6 = .ok (.iconst 0, 1) := dec_at kDX7_read_0 4 rfl
theorem dX7_read_7 : decode cX7_read 7 = .ok (.putfield 123, 3) := dec_at kDX7_read_0 5 rfl
theorem dX7_read_10 : decode cX7_read 10 = .ok (.iconst 0, 1) := dec_at kDX7_read_0 6 rfl
theorem dX7_read_11 : decode cX7_read 11 = .ok (.istore_n 1, 1) := dec_at kDX7_read_0 7 rfl
theorem dX7_read_12 : decode cX7_read 12 = .ok (.iconst 1, 1) := dec_at kDX7_read_0 8 rfl
theorem dX7_read_13 : decode cX7_read 13 = .ok (.istore_n 2, 1) := dec_at kDX7_read_0 9 rfl
theorem dX7_read_14 : decode cX7_read 14 = .ok (.iload_n 1, 1) := dec_at kDX7_read_0 10 rfl
theorem dX7_read_15 : decode cX7_read 15 = .ok (.aload_n 0, 1) := dec_at kDX7_read_0 11 rfl
theorem dX7_read_16 : decode cX7_read 16 = .ok (.getfield 116, 3) := dec_at kDX7_read_0 12 rfl
theorem dX7_read_19 : decode cX7_read 19 = .ok (.if_icmp .ge 76, 3) := dec_at kDX7_read_0 13 rfl
theorem dX7_read_22 : decode cX7_read 22 = .ok (.iload_n 2, 1) := dec_at kDX7_read_0 14 rfl
theorem dX7_read_23 : decode cX7_read 23 = .ok (.ifCond .eq 72, 3) := dec_at kDX7_read_0 15 rfl
theorem dX7_read_26 : decode cX7_read 26 = .ok (.aload_n 0, 1) := dec_at kDX7_read_0 16 rfl
theorem dX7_read_27 : decode cX7_read 27 = .ok (.getfield 123, 3) := dec_at kDX7_read_0 17 rfl
theorem dX7_read_30 : decode cX7_read 30 = .ok (.ifCond .eq 25, 3) := dec_at kDX7_read_0 18 rfl
theorem dX7_read_33 : decode cX7_read 33 = .ok (.aload_n 0, 1) := dec_at kDX7_read_0 19 rfl
theorem dX7_read_34 : decode cX7_read 34 = .ok (.getfield 13, 3) := dec_at kDX7_read_0 20 rfl
theorem dX7_read_37 : decode cX7_read 37 = .ok (.iload_n 1, 1) := dec_at kDX7_read_0 21 rfl
theorem dX7_read_38 : decode cX7_read 38 = .ok (.iaload, 1) := dec_at kDX7_read_0 22 rfl
theorem dX7_read_39 : decode cX7_read 39 = .ok (.bipush 41, 2) := dec_at kDX7_read_0 23 rfl
theorem dX7_read_41 : decode cX7_read 41 = .ok (.if_icmp .ne 14, 3) := dec_at kDX7_read_0 24 rfl
theorem dX7_read_44 : decode cX7_read 44 = .ok (.aload_n 0, 1) := dec_at kDX7_read_0 25 rfl
theorem dX7_read_45 : decode cX7_read 45 = .ok (.getfield 129, 3) := dec_at kDX7_read_0 26 rfl
theorem dX7_read_48 : decode cX7_read 48 = .ok (.ifCond .le 7, 3) := dec_at kDX7_read_0 27 rfl
theorem dX7_read_51 : decode cX7_read 51 = .ok (.iconst 1, 1) := dec_at kDX7_read_0 28 rfl
theorem dX7_read_52 : decode cX7_read 52 = .ok (.goto 4, 3) := dec_at kDX7_read_0 29 rfl
theorem dX7_read_55 : decode cX7_read 55 = .ok (.iconst 0, 1) := dec_at kDX7_read_0 30 rfl
theorem dX7_read_56 : decode cX7_read 56 = .ok (.istore_n 3, 1) := dec_at kDX7_read_0 31 rfl
theorem dX7_read_57 : decode cX7_read 57 = .ok (.aload_n 0, 1) := dec_at kDX7_read_0 32 rfl
theorem dX7_read_58 : decode cX7_read 58 = .ok (.aload_n 0, 1) := dec_at kDX7_read_0 33 rfl
theorem dX7_read_59 : decode cX7_read 59 = .ok (.getfield 13, 3) := dec_at kDX7_read_0 34 rfl
theorem dX7_read_62 : decode cX7_read 62 = .ok (.iload_n 1, 1) := dec_at kDX7_read_0 35 rfl
theorem dX7_read_63 : decode cX7_read 63 = .ok (.iaload, 1) := dec_at kDX7_read_0 36 rfl
theorem dX7_read_64 : decode cX7_read 64 = .ok (.invokevirtual 135, 3) := dec_at kDX7_read_0 37 rfl
theorem dX7_read_67 : decode cX7_read 67 = .ok (.ifCond .ne 7, 3) := dec_at kDX7_read_0 38 rfl
theorem dX7_read_70 : decode cX7_read 70 = .ok (.iload_n 3, 1) := dec_at kDX7_read_0 39 rfl
theorem dX7_read_71 : decode cX7_read 71 = .ok (.ifCond .eq 7, 3) := dec_at kDX7_read_0 40 rfl
theorem dX7_read_74 : decode cX7_read 74 = .ok (.iconst 1, 1) := dec_at kDX7_read_0 41 rfl
theorem dX7_read_75 : decode cX7_read 75 = .ok (.goto 4, 3) := dec_at kDX7_read_0 42 rfl
theorem dX7_read_78 : decode cX7_read 78 = .ok (.iconst 0, 1) := dec_at kDX7_read_0 43 rfl
theorem dX7_read_79 : decode cX7_read 79 = .ok (.istore_n 2, 1) := dec_at kDX7_read_0 44 rfl
theorem dX7_read_80 : decode cX7_read 80 = .ok (.iload_n 1, 1) := dec_at kDX7_read_0 45 rfl
theorem dX7_read_81 : decode cX7_read 81 = .ok (.iload_n 2, 1) := dec_at kDX7_read_0 46 rfl
theorem dX7_read_82 : decode cX7_read 82 = .ok (.ifCond .eq 7, 3) := dec_at kDX7_read_0 47 rfl
theorem dX7_read_85 : decode cX7_read 85 = .ok (.iconst 1, 1) := dec_at kDX7_read_0 48 rfl
theorem dX7_read_86 : decode cX7_read 86 = .ok (.goto 4, 3) := dec_at kDX7_read_0 49 rfl
def DX7_read_50 : List (Nat × (Instr × Nat)) := [(89, (.iconst 0, 1)), (90, (.iadd, 1)), (91, (.istore_n 1, 1)), (92, (.goto (-78), 3)), (95, (.iload_n 1, 1)), (96, (.ireturn, 1))]
theorem kDX7_read_50 : DX7_read_50.all (fun q => decide (decode cX7_read q.1 = .ok q.2)) = true := by decide +kernel
theorem dX7_read_89 : decode cX7_read 89 = .ok (.iconst 0, 1) := dec_at kDX7_read_50 0 rfl
theorem dX7_read_90 : decode cX7_read 90 = .ok (.iadd, 1) := dec_at kDX7_read_50 1 rfl
theorem dX7_read_91 : decode cX7_read 91 = .ok (.istore_n 1, 1) := dec_at kDX7_read_50 2 rfl
theorem dX7_read_92 : decode cX7_read 92 = .ok (.goto (-78), 3) := dec_at kDX7_read_50 3 rfl
theorem dX7_read_95 : decode cX7_read 95 = .ok (.iload_n 1, 1) := dec_at kDX7_read_50 4 rfl
theorem dX7_read_96 : decode cX7_read 96 = .ok (.ireturn, 1) := dec_at kDX7_read_50 5 rfl
def DX7_firstError_0 : List (Nat × (Instr × Nat)) := [(0, (.aload_n 0, 1)), (1, (.iconst 0, 1)), (2, (.putfield 70, 3)), (5, (.aload_n 0, 1)), (6, (.invokevirtual 138, 3)), (9, (.ireturn, 1))]
theorem kDX7_firstError_0 : DX7_firstError_0.all (fun q => decide (decode cX7_firstError q.1 = .ok q.2)) = true := by decide +kernel
theorem dX7_firstError_0 : decode cX7_firstError 0 = .ok (.aload_n 0, 1) := dec_at kDX7_firstError_0 0 rfl
theorem dX7_firstError_1 : decode cX7_firstError 1 = .ok (.iconst 0, 1) := dec_at kDX7_firstError_0 1 rfl
theorem dX7_firstError_2 : decode cX7_firstError 2 = .ok (.putfield 70, 3) := dec_at kDX7_firstError_0 2 rfl
theorem dX7_firstError_5 : decode cX7_firstError 5 = .ok (.aload_n 0, 1) := dec_at kDX7_firstError_0 3 rfl
theorem dX7_firstError_6 : decode cX7_firstError 6 = .ok (.invokevirtual 138, 3) := dec_at kDX7_firstError_0 4 rfl
theorem dX7_firstError_9 : decode cX7_firstError 9 = .ok (.ireturn, 1) := dec_at kDX7_firstError_0 5 rfl
def DX7_isFormula_0 : List (Nat × (Instr × Nat)) := [(0, (.aload_n 0, 1)), (1, (.invokevirtual 138, 3)), (4, (.aload_n 0, 1)), (5, (.getfield 116, 3)), (8, (.if_icmp .ne 21, 3)), (11, (.aload_n 0, 1)), (12, (.getfield 123, 3)), (15, (.ifCond .eq 14, 3)), (18, (.aload_n 0, 1)), (19, (.getfield 129, 3)), (22, (.ifCond .ne 7, 3)), (25, (.iconst 1, 1)), (26, (.goto 4, 3)), (29, (.iconst 0, 1)), (30, (.ireturn, 1))]
theorem kDX7_isFormula_0 : DX7_isFormula_0.all (fun q => decide (decode cX7_isFormula q.1 = .ok q.2)) = true := by decide +kernel
theorem dX7_isFormula_0 : decode cX7_isFormula 0 = .ok (.aload_n 0, 1) := dec_at kDX7_isFormula_0 0 rfl
theorem dX7_isFormula_1 : decode cX7_isFormula 1 = .ok (.invokevirtual 138, 3) := dec_at kDX7_isFormula_0 1 rfl
theorem dX7_isFormula_4 : decode cX7_isFormula 4 = .ok (.aload_n 0, 1) := dec_at kDX7_isFormula_0 2 rfl
theorem dX7_isFormula_5 : decode cX7_isFormula 5 = .ok (.getfield 116, 3) := dec_at kDX7_isFormula_0 3 rfl
theorem dX7_isFormula_8 : decode cX7_isFormula 8 = .ok (.if_icmp .ne 21, 3) := dec_at kDX7_isFormula_0 4 rfl
theorem dX7_isFormula_11 : decode cX7_isFormula 11 = .ok (.aload_n 0, 1) := dec_at kDX7_isFormula_0 5 rfl
theorem dX7_isFormula_12 : decode cX7_isFormula 12 = .ok (.getfield 123, 3) := dec_at kDX7_isFormula_0 6 rfl
theorem dX7_isFormula_15 : decode cX7_isFormula 15 = .ok (.ifCond .eq 14, 3) := dec_at kDX7_isFormula_0 7 rfl
theorem dX7_isFormula_18 : decode cX7_isFormula 18 = .ok (.aload_n 0, 1) := dec_at kDX7_isFormula_0 8 rfl
theorem dX7_isFormula_19 : decode cX7_isFormula 19 = .ok (.getfield 129, 3) := dec_at kDX7_isFormula_0 9 rfl
theorem dX7_isFormula_22 : decode cX7_isFormula 22 = .ok (.ifCond .ne 7, 3) := dec_at kDX7_isFormula_0 10 rfl
theorem dX7_isFormula_25 : decode cX7_isFormula 25 = .ok (.iconst 1, 1) := dec_at kDX7_isFormula_0 11 rfl
theorem dX7_isFormula_26 : decode cX7_isFormula 26 = .ok (.goto 4, 3) := dec_at kDX7_isFormula_0 12 rfl
theorem dX7_isFormula_29 : decode cX7_isFormula 29 = .ok (.iconst 0, 1) := dec_at kDX7_isFormula_0 13 rfl
theorem dX7_isFormula_30 : decode cX7_isFormula 30 = .ok (.ireturn, 1) := dec_at kDX7_isFormula_0 14 rfl
def DX7_hasInputs_0 : List (Nat × (Instr × Nat)) := [(0, (.iconst 0, 1)), (1, (.istore_n 1, 1)), (2, (.iconst 0, 1)), (3, (.istore_n 2, 1)), (4, (.iload_n 2, 1)), (5, (.aload_n 0, 1)), (6, (.getfield 116, 3)), (9, (.if_icmp .ge 41, 3)), (12, (.iload_n 1, 1)), (13, (.ifCond .ne 25, 3)), (16, (.aload_n 0, 1)), (17, (.getfield 13, 3)), (20, (.iload_n 2, 1)), (21, (.iaload, 1)), (22, (.bipush 120, 2)), (24, (.if_icmp .eq 14, 3)), (27, (.aload_n 0, 1)), (28, (.getfield 13, 3)), (31, (.iload_n 2, 1)), (32, (.iaload, 1)), (33, (.bipush 121, 2)), (35, (.if_icmp .ne 7, 3)), (38, (.iconst 1, 1)), (39, (.goto 4, 3)), (42, (.iconst 0, 1)), (43, (.istore_n 1, 1)), (44, (.iinc 2 1, 3)), (47, (.goto (-43), 3)), (50, (.iload_n 1, 1)), (51, (.ireturn, 1))]
theorem kDX7_hasInputs_0 : DX7_hasInputs_0.all (fun q => decide (decode cX7_hasInputs q.1 = .ok q.2)) = true := by decide +kernel
theorem dX7_hasInputs_0 : decode cX7_hasInputs 0 = .ok (.iconst 0, 1) := dec_at kDX7_hasInputs_0 0 rfl
theorem dX7_hasInputs_1 : decode cX7_hasInputs 1 = .ok (.istore_n 1, 1) := dec_at kDX7_hasInputs_0 1 rfl
theorem dX7_hasInputs_2 : decode cX7_hasInputs 2 = .ok (.iconst 0, 1) := dec_at kDX7_hasInputs_0 2 rfl
theorem dX7_hasInputs_3 : decode cX7_hasInputs 3 = .ok (.istore_n 2, 1) := dec_at kDX7_hasInputs_0 3 rfl
theorem dX7_hasInputs_4 : decode cX7_hasInputs 4 = .ok (.iload_n 2, 1) := dec_at kDX7_hasInputs_0 4 rfl
theorem dX7_hasInputs_5 : decode cX7_hasInputs 5 = .ok (.aload_n 0, 1) := dec_at kDX7_hasInputs_0 5 rfl
theorem dX7_hasInputs_6 : decode cX7_hasInputs 6 = .ok (.getfield 116, 3) := dec_at kDX7_hasInputs_0 6 rfl
theorem dX7_hasInputs_9 : decode cX7_hasInputs 9 = .ok (.if_icmp .ge 41, 3) := dec_at kDX7_hasInputs_0 7 rfl
theorem dX7_hasInputs_12 : decode cX7_hasInputs 12 = .ok (.iload_n 1, 1) := dec_at kDX7_hasInputs_0 8 rfl
theorem dX7_hasInputs_13 : decode cX7_hasInputs 13 = .ok (.ifCond .ne 25, 3) := dec_at kDX7_hasInputs_0 9 rfl
theorem dX7_hasInputs_16 : decode cX7_hasInputs 16 = .ok (.aload_n 0, 1) := dec_at kDX7_hasInputs_0 10 rfl
theorem dX7_hasInputs_17 : decode cX7_hasInputs 17 = .ok (.getfield 13, 3) := dec_at kDX7_hasInputs_0 11 rfl
theorem dX7_hasInputs_20 : decode cX7_hasInputs 20 = .ok (.iload_n 2, 1) := dec_at kDX7_hasInputs_0 12 rfl
theorem dX7_hasInputs_21 : decode cX7_hasInputs 21 = .ok (.iaload, 1) := dec_at kDX7_hasInputs_0 13 rfl
theorem dX7_hasInputs_22 : decode cX7_hasInputs 22 = .ok (.bipush 120, 2) := dec_at kDX7_hasInputs_0 14 rfl
theorem dX7_hasInputs_24 : decode cX7_hasInputs 24 = .ok (.if_icmp .eq 14, 3) := dec_at kDX7_hasInputs_0 15 rfl
theorem dX7_hasInputs_27 : decode cX7_hasInputs 27 = .ok (.aload_n 0, 1) := dec_at kDX7_hasInputs_0 16 rfl
theorem dX7_hasInputs_28 : decode cX7_hasInputs 28 = .ok (.getfield 13, 3) := dec_at kDX7_hasInputs_0 17 rfl
theorem dX7_hasInputs_31 : decode cX7_hasInputs 31 = .ok (.iload_n 2, 1) := dec_at kDX7_hasInputs_0 18 rfl
theorem dX7_hasInputs_32 : decode cX7_hasInputs 32 = .ok (.iaload, 1) := dec_at kDX7_hasInputs_0 19 rfl
theorem dX7_hasInputs_33 : decode cX7_hasInputs 33 = .ok (.bipush 121, 2) := dec_at kDX7_hasInputs_0 20 rfl
theorem dX7_hasInputs_35 : decode cX7_hasInputs 35 = .ok (.if_icmp .ne 7, 3) := dec_at kDX7_hasInputs_0 21 rfl
theorem dX7_hasInputs_38 : decode cX7_hasInputs 38 = .ok (.iconst 1, 1) := dec_at kDX7_hasInputs_0 22 rfl
theorem dX7_hasInputs_39 : decode cX7_hasInputs 39 = .ok (.goto 4, 3) := dec_at kDX7_hasInputs_0 23 rfl
theorem dX7_hasInputs_42 : decode cX7_hasInputs 42 = .ok (.iconst 0, 1) := dec_at kDX7_hasInputs_0 24 rfl
theorem dX7_hasInputs_43 : decode cX7_hasInputs 43 = .ok (.istore_n 1, 1) := dec_at kDX7_hasInputs_0 25 rfl
theorem dX7_hasInputs_44 : decode cX7_hasInputs 44 = .ok (.iinc 2 1, 3) := dec_at kDX7_hasInputs_0 26 rfl
theorem dX7_hasInputs_47 : decode cX7_hasInputs 47 = .ok (.goto (-43), 3) := dec_at kDX7_hasInputs_0 27 rfl
theorem dX7_hasInputs_50 : decode cX7_hasInputs 50 = .ok (.iload_n 1, 1) := dec_at kDX7_hasInputs_0 28 rfl
theorem dX7_hasInputs_51 : decode cX7_hasInputs 51 = .ok (.ireturn, 1) := dec_at kDX7_hasInputs_0 29 rfl
def DX7_isPlain_0 : List (Nat × (Instr × Nat)) := [(0, (.aload_n 0, 1)), (1, (.invokevirtual 141, 3)), (4, (.ifCond .eq 14, 3)), (7, (.aload_n 0, 1)), (8, (.invokevirtual 145, 3)), (11, (.ifCond .ne 7, 3)), (14, (.iconst 1, 1)), (15, (.goto 4, 3)), (18, (.iconst 0, 1)), (19, (.ireturn, 1))]
theorem kDX7_isPlain_0 : DX7_isPlain_0.all (fun q => decide (decode cX7_isPlain q.1 = .ok q.2)) = true := by decide +kernel
theorem dX7_isPlain_0 : decode cX7_isPlain 0 = .ok (.aload_n 0, 1) := dec_at kDX7_isPlain_0 0 rfl
theorem dX7_isPlain_1 : decode cX7_isPlain 1 = .ok (.invokevirtual 141, 3) := dec_at kDX7_isPlain_0 1 rfl
theorem dX7_isPlain_4 : decode cX7_isPlain 4 = .ok (.ifCond .eq 14, 3) := dec_at kDX7_isPlain_0 2 rfl
theorem dX7_isPlain_7 : decode cX7_isPlain 7 = .ok (.aload_n 0, 1) := dec_at kDX7_isPlain_0 3 rfl
theorem dX7_isPlain_8 : decode cX7_isPlain 8 = .ok (.invokevirtual 145, 3) := dec_at kDX7_isPlain_0 4 rfl
theorem dX7_isPlain_11 : decode cX7_isPlain 11 = .ok (.ifCond .ne 7, 3) := dec_at kDX7_isPlain_0 5 rfl
theorem dX7_isPlain_14 : decode cX7_isPlain 14 = .ok (.iconst 1, 1) := dec_at kDX7_isPlain_0 6 rfl
theorem dX7_isPlain_15 : decode cX7_isPlain 15 = .ok (.goto 4, 3) := dec_at kDX7_isPlain_0 7 rfl
theorem dX7_isPlain_18 : decode cX7_isPlain 18 = .ok (.iconst 0, 1) := dec_at kDX7_isPlain_0 8 rfl
theorem dX7_isPlain_19 : decode cX7_isPlain 19 = .ok (.ireturn, 1) := dec_at kDX7_isPlain_0 9 rfl
def DX7_binds_0 : List (Nat × (Instr × Nat)) := [(0, (.iload_n 0, 1)), (1, (.lookupswitch 51 #[(33, 43), (38, 45), (94, 47), (124, 49)], 43)), (44, (.iconst 4, 1)), (45, (.ireturn, 1)), (46, (.iconst 3, 1)), (47, (.ireturn, 1)), (48, (.iconst 2, 1)), (49, (.ireturn, 1)), (50, (.iconst 1, 1)), (51, (.ireturn, 1)), (52, (.iconst 0, 1)), (53, (.ireturn, 1))]
theorem kDX7_binds_0 : DX7_binds_0.all (fun q => decide (decode cX7_binds q.1 = .ok q.2)) = true := by decide +kernel
theorem dX7_binds_0 : decode cX7_binds 0 = .ok (.iload_n 0, 1) := dec_at kDX7_binds_0 0 rfl
theorem dX7_binds_1 : decode cX7_binds 1 = .ok (.lookupswitch 51 #[(33, 43), (38, 45), (94, 47), (124, 49)], 43) := dec_at kDX7_binds_0 1 rfl
theorem dX7_binds_44 : decode cX7_binds 44 = .ok (.iconst 4, 1) := dec_at kDX7_binds_0 2 rfl
theorem dX7_binds_45 : decode cX7_binds 45 = .ok (.ireturn, 1) := dec_at kDX7_binds_0 3 rfl
theorem dX7_binds_46 : decode cX7_binds 46 = .ok (.iconst 3, 1) := dec_at kDX7_binds_0 4 rfl
theorem dX7_binds_47 : decode cX7_binds 47 = .ok (.ireturn, 1) := dec_at kDX7_binds_0 5 rfl
theorem dX7_binds_48 : decode cX7_binds 48 = .ok (.iconst 2, 1) := dec_at kDX7_binds_0 6 rfl
theorem dX7_binds_49 : decode cX7_binds 49 = .ok (.ireturn, 1) := dec_at kDX7_binds_0 7 rfl
theorem dX7_binds_50 : decode cX7_binds 50 = .ok (.iconst 1, 1) := dec_at kDX7_binds_0 8 rfl
theorem dX7_binds_51 : decode cX7_binds 51 = .ok (.ireturn, 1) := dec_at kDX7_binds_0 9 rfl
theorem dX7_binds_52 : decode cX7_binds 52 = .ok (.iconst 0, 1) := dec_at kDX7_binds_0 10 rfl
theorem dX7_binds_53 : decode cX7_binds 53 = .ok (.ireturn, 1) := dec_at kDX7_binds_0 11 rfl
def DX7_nameSet_0 : List (Nat × (Instr × Nat)) := [(0, (.iload_n 1, 1)), (1, (.bipush 48, 2)), (3, (.if_icmp .eq 9, 3)), (6, (.iload_n 1, 1)), (7, (.bipush 49, 2)), (9, (.if_icmp .ne 18, 3)), (12, (.iload_n 1, 1)), (13, (.bipush 49, 2)), (15, (.if_icmp .ne 10, 3)), (18, (.aload_n 0, 1)), (19, (.invokevirtual 98, 3)), (22, (.goto 4, 3)), (25, (.lconst 0, 1)), (26, (.lreturn, 1)), (27, (.iload_n 1, 1)), (28, (.bipush 120, 2)), (30, (.if_icmp .eq 9, 3)), (33, (.iload_n 1, 1)), (34, (.bipush 121, 2)), (36, (.if_icmp .ne 24, 3)), (39, (.iload_n 2, 1)), (40, (.iload_n 1, 1)), (41, (.bipush 120, 2)), (43, (.isub, 1)), (44, (.ishr, 1)), (45, (.iconst 1, 1)), (46, (.iand, 1)), (47, (.iconst 1, 1)), (48, (.if_icmp .ne 10, 3)), (51, (.aload_n 0, 1)), (52, (.invokevirtual 98, 3)), (55, (.goto 4, 3)), (58, (.lconst 0, 1)), (59, (.lreturn, 1)), (60, (.aload_n 0, 1)), (61, (.iload_n 1, 1)), (62, (.bipush 97, 2)), (64, (.isub, 1)), (65, (.invokevirtual 90, 3)), (68, (.lreturn, 1))]
theorem kDX7_nameSet_0 : DX7_nameSet_0.all (fun q => decide (decode cX7_nameSet q.1 = .ok q.2)) = true := by decide +kernel
theorem dX7_nameSet_0 : decode cX7_nameSet 0 = .ok (.iload_n 1, 1) := dec_at kDX7_nameSet_0 0 rfl
theorem dX7_nameSet_1 : decode cX7_nameSet 1 = .ok (.bipush 48, 2) := dec_at kDX7_nameSet_0 1 rfl
theorem dX7_nameSet_3 : decode cX7_nameSet 3 = .ok (.if_icmp .eq 9, 3) := dec_at kDX7_nameSet_0 2 rfl
theorem dX7_nameSet_6 : decode cX7_nameSet 6 = .ok (.iload_n 1, 1) := dec_at kDX7_nameSet_0 3 rfl
theorem dX7_nameSet_7 : decode cX7_nameSet 7 = .ok (.bipush 49, 2) := dec_at kDX7_nameSet_0 4 rfl
theorem dX7_nameSet_9 : decode cX7_nameSet 9 = .ok (.if_icmp .ne 18, 3) := dec_at kDX7_nameSet_0 5 rfl
theorem dX7_nameSet_12 : decode cX7_nameSet 12 = .ok (.iload_n 1, 1) := dec_at kDX7_nameSet_0 6 rfl
theorem dX7_nameSet_13 : decode cX7_nameSet 13 = .ok (.bipush 49, 2) := dec_at kDX7_nameSet_0 7 rfl
theorem dX7_nameSet_15 : decode cX7_nameSet 15 = .ok (.if_icmp .ne 10, 3) := dec_at kDX7_nameSet_0 8 rfl
theorem dX7_nameSet_18 : decode cX7_nameSet 18 = .ok (.aload_n 0, 1) := dec_at kDX7_nameSet_0 9 rfl
theorem dX7_nameSet_19 : decode cX7_nameSet 19 = .ok (.invokevirtual 98, 3) := dec_at kDX7_nameSet_0 10 rfl
theorem dX7_nameSet_22 : decode cX7_nameSet 22 = .ok (.goto 4, 3) := dec_at kDX7_nameSet_0 11 rfl
theorem dX7_nameSet_25 : decode cX7_nameSet 25 = .ok (.lconst 0, 1) := dec_at kDX7_nameSet_0 12 rfl
theorem dX7_nameSet_26 : decode cX7_nameSet 26 = .ok (.lreturn, 1) := dec_at kDX7_nameSet_0 13 rfl
theorem dX7_nameSet_27 : decode cX7_nameSet 27 = .ok (.iload_n 1, 1) := dec_at kDX7_nameSet_0 14 rfl
theorem dX7_nameSet_28 : decode cX7_nameSet 28 = .ok (.bipush 120, 2) := dec_at kDX7_nameSet_0 15 rfl
theorem dX7_nameSet_30 : decode cX7_nameSet 30 = .ok (.if_icmp .eq 9, 3) := dec_at kDX7_nameSet_0 16 rfl
theorem dX7_nameSet_33 : decode cX7_nameSet 33 = .ok (.iload_n 1, 1) := dec_at kDX7_nameSet_0 17 rfl
theorem dX7_nameSet_34 : decode cX7_nameSet 34 = .ok (.bipush 121, 2) := dec_at kDX7_nameSet_0 18 rfl
theorem dX7_nameSet_36 : decode cX7_nameSet 36 = .ok (.if_icmp .ne 24, 3) := dec_at kDX7_nameSet_0 19 rfl
theorem dX7_nameSet_39 : decode cX7_nameSet 39 = .ok (.iload_n 2, 1) := dec_at kDX7_nameSet_0 20 rfl
theorem dX7_nameSet_40 : decode cX7_nameSet 40 = .ok (.iload_n 1, 1) := dec_at kDX7_nameSet_0 21 rfl
theorem dX7_nameSet_41 : decode cX7_nameSet 41 = .ok (.bipush 120, 2) := dec_at kDX7_nameSet_0 22 rfl
theorem dX7_nameSet_43 : decode cX7_nameSet 43 = .ok (.isub, 1) := dec_at kDX7_nameSet_0 23 rfl
theorem dX7_nameSet_44 : decode cX7_nameSet 44 = .ok (.ishr, 1) := dec_at kDX7_nameSet_0 24 rfl
theorem dX7_nameSet_45 : decode cX7_nameSet 45 = .ok (.iconst 1, 1) := dec_at kDX7_nameSet_0 25 rfl
theorem dX7_nameSet_46 : decode cX7_nameSet 46 = .ok (.iand, 1) := dec_at kDX7_nameSet_0 26 rfl
theorem dX7_nameSet_47 : decode cX7_nameSet 47 = .ok (.iconst 1, 1) := dec_at kDX7_nameSet_0 27 rfl
theorem dX7_nameSet_48 : decode cX7_nameSet 48 = .ok (.if_icmp .ne 10, 3) := dec_at kDX7_nameSet_0 28 rfl
theorem dX7_nameSet_51 : decode cX7_nameSet 51 = .ok (.aload_n 0, 1) := dec_at kDX7_nameSet_0 29 rfl
theorem dX7_nameSet_52 : decode cX7_nameSet 52 = .ok (.invokevirtual 98, 3) := dec_at kDX7_nameSet_0 30 rfl
theorem dX7_nameSet_55 : decode cX7_nameSet 55 = .ok (.goto 4, 3) := dec_at kDX7_nameSet_0 31 rfl
theorem dX7_nameSet_58 : decode cX7_nameSet 58 = .ok (.lconst 0, 1) := dec_at kDX7_nameSet_0 32 rfl
theorem dX7_nameSet_59 : decode cX7_nameSet 59 = .ok (.lreturn, 1) := dec_at kDX7_nameSet_0 33 rfl
theorem dX7_nameSet_60 : decode cX7_nameSet 60 = .ok (.aload_n 0, 1) := dec_at kDX7_nameSet_0 34 rfl
theorem dX7_nameSet_61 : decode cX7_nameSet 61 = .ok (.iload_n 1, 1) := dec_at kDX7_nameSet_0 35 rfl
theorem dX7_nameSet_62 : decode cX7_nameSet 62 = .ok (.bipush 97, 2) := dec_at kDX7_nameSet_0 36 rfl
theorem dX7_nameSet_64 : decode cX7_nameSet 64 = .ok (.isub, 1) := dec_at kDX7_nameSet_0 37 rfl
theorem dX7_nameSet_65 : decode cX7_nameSet 65 = .ok (.invokevirtual 90, 3) := dec_at kDX7_nameSet_0 38 rfl
theorem dX7_nameSet_68 : decode cX7_nameSet 68 = .ok (.lreturn, 1) := dec_at kDX7_nameSet_0 39 rfl
def DX7_pushOperand_0 : List (Nat × (Instr × Nat)) := [(0, (.iconst 0, 1)), (1, (.istore_n 2, 1)), (2, (.iload_n 2, 1)), (3, (.iconst 4, 1)), (4, (.if_icmp .ge 28, 3)), (7, (.aload_n 0, 1)), (8, (.getfield 23, 3)), (11, (.iconst 4, 1)), (12, (.aload_n 0, 1)), (13, (.getfield 148, 3)), (16, (.imul, 1)), (17, (.iload_n 2, 1)), (18, (.iadd, 1)), (19, (.aload_n 0, 1)), (20, (.iload_n 1, 1)), (21, (.iload_n 2, 1)), (22, (.invokevirtual 151, 3)), (25, (.lastore, 1)), (26, (.iinc 2 1, 3)), (29, (.goto (-27), 3)), (32, (.aload_n 0, 1)), (33, (.dup, 1)), (34, (.getfield 148, 3)), (37, (.iconst 1, 1)), (38, (.iadd, 1)), (39, (.putfield 148, 3)), (42, (.return_, 1))]
theorem kDX7_pushOperand_0 : DX7_pushOperand_0.all (fun q => decide (decode cX7_pushOperand q.1 = .ok q.2)) = true := by decide +kernel
theorem dX7_pushOperand_0 : decode cX7_pushOperand 0 = .ok (.iconst 0, 1) := dec_at kDX7_pushOperand_0 0 rfl
theorem dX7_pushOperand_1 : decode cX7_pushOperand 1 = .ok (.istore_n 2, 1) := dec_at kDX7_pushOperand_0 1 rfl
theorem dX7_pushOperand_2 : decode cX7_pushOperand 2 = .ok (.iload_n 2, 1) := dec_at kDX7_pushOperand_0 2 rfl
theorem dX7_pushOperand_3 : decode cX7_pushOperand 3 = .ok (.iconst 4, 1) := dec_at kDX7_pushOperand_0 3 rfl
theorem dX7_pushOperand_4 : decode cX7_pushOperand 4 = .ok (.if_icmp .ge 28, 3) := dec_at kDX7_pushOperand_0 4 rfl
theorem dX7_pushOperand_7 : decode cX7_pushOperand 7 = .ok (.aload_n 0, 1) := dec_at kDX7_pushOperand_0 5 rfl
theorem dX7_pushOperand_8 : decode cX7_pushOperand 8 = .ok (.getfield 23, 3) := dec_at kDX7_pushOperand_0 6 rfl
theorem dX7_pushOperand_11 : decode cX7_pushOperand 11 = .ok (.iconst 4, 1) := dec_at kDX7_pushOperand_0 7 rfl
theorem dX7_pushOperand_12 : decode cX7_pushOperand 12 = .ok (.aload_n 0, 1) := dec_at kDX7_pushOperand_0 8 rfl
theorem dX7_pushOperand_13 : decode cX7_pushOperand 13 = .ok (.getfield 148, 3) := dec_at kDX7_pushOperand_0 9 rfl
theorem dX7_pushOperand_16 : decode cX7_pushOperand 16 = .ok (.imul, 1) := dec_at kDX7_pushOperand_0 10 rfl
theorem dX7_pushOperand_17 : decode cX7_pushOperand 17 = .ok (.iload_n 2, 1) := dec_at kDX7_pushOperand_0 11 rfl
theorem dX7_pushOperand_18 : decode cX7_pushOperand 18 = .ok (.iadd, 1) := dec_at kDX7_pushOperand_0 12 rfl
theorem dX7_pushOperand_19 : decode cX7_pushOperand 19 = .ok (.aload_n 0, 1) := dec_at kDX7_pushOperand_0 13 rfl
theorem dX7_pushOperand_20 : decode cX7_pushOperand 20 = .ok (.iload_n 1, 1) := dec_at kDX7_pushOperand_0 14 rfl
theorem dX7_pushOperand_21 : decode cX7_pushOperand 21 = .ok (.iload_n 2, 1) := dec_at kDX7_pushOperand_0 15 rfl
theorem dX7_pushOperand_22 : decode cX7_pushOperand 22 = .ok (.invokevirtual 151, 3) := dec_at kDX7_pushOperand_0 16 rfl
theorem dX7_pushOperand_25 : decode cX7_pushOperand 25 = .ok (.lastore, 1) := dec_at kDX7_pushOperand_0 17 rfl
theorem dX7_pushOperand_26 : decode cX7_pushOperand 26 = .ok (.iinc 2 1, 3) := dec_at kDX7_pushOperand_0 18 rfl
theorem dX7_pushOperand_29 : decode cX7_pushOperand 29 = .ok (.goto (-27), 3) := dec_at kDX7_pushOperand_0 19 rfl
theorem dX7_pushOperand_32 : decode cX7_pushOperand 32 = .ok (.aload_n 0, 1) := dec_at kDX7_pushOperand_0 20 rfl
theorem dX7_pushOperand_33 : decode cX7_pushOperand 33 = .ok (.dup, 1) := dec_at kDX7_pushOperand_0 21 rfl
theorem dX7_pushOperand_34 : decode cX7_pushOperand 34 = .ok (.getfield 148, 3) := dec_at kDX7_pushOperand_0 22 rfl
theorem dX7_pushOperand_37 : decode cX7_pushOperand 37 = .ok (.iconst 1, 1) := dec_at kDX7_pushOperand_0 23 rfl
theorem dX7_pushOperand_38 : decode cX7_pushOperand 38 = .ok (.iadd, 1) := dec_at kDX7_pushOperand_0 24 rfl
theorem dX7_pushOperand_39 : decode cX7_pushOperand 39 = .ok (.putfield 148, 3) := dec_at kDX7_pushOperand_0 25 rfl
theorem dX7_pushOperand_42 : decode cX7_pushOperand 42 = .ok (.return_, 1) := dec_at kDX7_pushOperand_0 26 rfl
def DX7_joined_0 : List (Nat × (Instr × Nat)) := [(0, (.iload_n 0, 1)), (1, (.bipush 38, 2)), (3, (.if_icmp .ne 9, 3)), (6, (.lload_n 1, 1)), (7, (.lload_n 3, 1)), (8, (.land, 1)), (9, (.goto 18, 3)), (12, (.iload_n 0, 1)), (13, (.bipush 94, 2)), (15, (.if_icmp .ne 9, 3)), (18, (.lload_n 1, 1)), (19, (.lload_n 3, 1)), (20, (.lxor, 1)), (21, (.goto 6, 3)), (24, (.lload_n 1, 1)), (25, (.lload_n 3, 1)), (26, (.lor, 1)), (27, (.lreturn, 1))]
theorem kDX7_joined_0 : DX7_joined_0.all (fun q => decide (decode cX7_joined q.1 = .ok q.2)) = true := by decide +kernel
theorem dX7_joined_0 : decode cX7_joined 0 = .ok (.iload_n 0, 1) := dec_at kDX7_joined_0 0 rfl
theorem dX7_joined_1 : decode cX7_joined 1 = .ok (.bipush 38, 2) := dec_at kDX7_joined_0 1 rfl
theorem dX7_joined_3 : decode cX7_joined 3 = .ok (.if_icmp .ne 9, 3) := dec_at kDX7_joined_0 2 rfl
theorem dX7_joined_6 : decode cX7_joined 6 = .ok (.lload_n 1, 1) := dec_at kDX7_joined_0 3 rfl
theorem dX7_joined_7 : decode cX7_joined 7 = .ok (.lload_n 3, 1) := dec_at kDX7_joined_0 4 rfl
theorem dX7_joined_8 : decode cX7_joined 8 = .ok (.land, 1) := dec_at kDX7_joined_0 5 rfl
theorem dX7_joined_9 : decode cX7_joined 9 = .ok (.goto 18, 3) := dec_at kDX7_joined_0 6 rfl
theorem dX7_joined_12 : decode cX7_joined 12 = .ok (.iload_n 0, 1) := dec_at kDX7_joined_0 7 rfl
theorem dX7_joined_13 : decode cX7_joined 13 = .ok (.bipush 94, 2) := dec_at kDX7_joined_0 8 rfl
theorem dX7_joined_15 : decode cX7_joined 15 = .ok (.if_icmp .ne 9, 3) := dec_at kDX7_joined_0 9 rfl
theorem dX7_joined_18 : decode cX7_joined 18 = .ok (.lload_n 1, 1) := dec_at kDX7_joined_0 10 rfl
theorem dX7_joined_19 : decode cX7_joined 19 = .ok (.lload_n 3, 1) := dec_at kDX7_joined_0 11 rfl
theorem dX7_joined_20 : decode cX7_joined 20 = .ok (.lxor, 1) := dec_at kDX7_joined_0 12 rfl
theorem dX7_joined_21 : decode cX7_joined 21 = .ok (.goto 6, 3) := dec_at kDX7_joined_0 13 rfl
theorem dX7_joined_24 : decode cX7_joined 24 = .ok (.lload_n 1, 1) := dec_at kDX7_joined_0 14 rfl
theorem dX7_joined_25 : decode cX7_joined 25 = .ok (.lload_n 3, 1) := dec_at kDX7_joined_0 15 rfl
theorem dX7_joined_26 : decode cX7_joined 26 = .ok (.lor, 1) := dec_at kDX7_joined_0 16 rfl
theorem dX7_joined_27 : decode cX7_joined 27 = .ok (.lreturn, 1) := dec_at kDX7_joined_0 17 rfl
def DX7_doSign_0 : List (Nat × (Instr × Nat)) := [(0, (.aload_n 0, 1)), (1, (.dup, 1)), (2, (.getfield 155, 3)), (5, (.iconst 1, 1)), (6, (.isub, 1)), (7, (.putfield 155, 3)), (10, (.aload_n 0, 1)), (11, (.getfield 26, 3)), (14, (.aload_n 0, 1)), (15, (.getfield 155, 3)), (18, (.iaload, 1)), (19, (.istore_n 1, 1)), (20, (.iconst 0, 1)), (21, (.istore_n 2, 1)), (22, (.iload_n 2, 1)), (23, (.iconst 4, 1)), (24, (.if_icmp .ge 54, 3)), (27, (.iload_n 1, 1)), (28, (.bipush 33, 2)), (30, (.if_icmp .ne 48, 3)), (33, (.aload_n 0, 1)), (34, (.getfield 23, 3)), (37, (.iconst 4, 1)), (38, (.aload_n 0, 1)), (39, (.getfield 148, 3)), (42, (.imul, 1)), (43, (.iconst 4, 1)), (44, (.isub, 1)), (45, (.iload_n 2, 1)), (46, (.iadd, 1)), (47, (.aload_n 0, 1)), (48, (.invokevirtual 98, 3)), (51, (.aload_n 0, 1)), (52, (.getfield 23, 3)), (55, (.iconst 4, 1)), (56, (.aload_n 0, 1)), (57, (.getfield 148, 3)), (60, (.imul, 1)), (61, (.iconst 4, 1)), (62, (.isub, 1)), (63, (.iload_n 2, 1)), (64, (.iadd, 1)), (65, (.laload, 1)), (66, (.ldc2_w 84, 3)), (69, (.lxor, 1)), (70, (.land, 1)), (71, (.lastore, 1)), (72, (.iinc 2 1, 3)), (75, (.goto (-53), 3)), (78, (.iconst 0, 1))]
theorem kDX7_doSign_0 : DX7_doSign_0.all (fun q => decide (decode cX7_doSign q.1 = .ok q.2)) = true := by decide +kernel
theorem dX7_doSign_0 : decode cX7_doSign 0 = .ok (.aload_n 0, 1) := dec_at kDX7_doSign_0 0 rfl
theorem dX7_doSign_1 : decode cX7_doSign 1 = .ok (.dup, 1) := dec_at kDX7_doSign_0 1 rfl
theorem dX7_doSign_2 : decode cX7_doSign 2 = .ok (.getfield 155, 3) := dec_at kDX7_doSign_0 2 rfl
theorem dX7_doSign_5 : decode cX7_doSign 5 = .ok (.iconst 1, 1) := dec_at kDX7_doSign_0 3 rfl
theorem dX7_doSign_6 : decode cX7_doSign 6 = .ok (.isub, 1) := dec_at kDX7_doSign_0 4 rfl
theorem dX7_doSign_7 : decode cX7_doSign 7 = .ok (.putfield 155, 3) := dec_at kDX7_doSign_0 5 rfl
theorem dX7_doSign_10 : decode cX7_doSign 10 = .ok (.aload_n 0, 1) := dec_at kDX7_doSign_0 6 rfl
theorem dX7_doSign_11 : decode cX7_doSign 11 = .ok (.getfield 26, 3) := dec_at kDX7_doSign_0 7 rfl
theorem dX7_doSign_14 : decode cX7_doSign 14 = .ok (.aload_n 0, 1) := dec_at kDX7_doSign_0 8 rfl
theorem dX7_doSign_15 : decode cX7_doSign 15 = .ok (.getfield 155, 3) := dec_at kDX7_doSign_0 9 rfl
theorem dX7_doSign_18 : decode cX7_doSign 18 = .ok (.iaload, 1) := dec_at kDX7_doSign_0 10 rfl
theorem dX7_doSign_19 : decode cX7_doSign 19 = .ok (.istore_n 1, 1) := dec_at kDX7_doSign_0 11 rfl
theorem dX7_doSign_20 : decode cX7_doSign 20 = .ok (.iconst 0, 1) := dec_at kDX7_doSign_0 12 rfl
theorem dX7_doSign_21 : decode cX7_doSign 21 = .ok (.istore_n 2, 1) := dec_at kDX7_doSign_0 13 rfl
theorem dX7_doSign_22 : decode cX7_doSign 22 = .ok (.iload_n 2, 1) := dec_at kDX7_doSign_0 14 rfl
theorem dX7_doSign_23 : decode cX7_doSign 23 = .ok (.iconst 4, 1) := dec_at kDX7_doSign_0 15 rfl
theorem dX7_doSign_24 : decode cX7_doSign 24 = .ok (.if_icmp .ge 54, 3) := dec_at kDX7_doSign_0 16 rfl
theorem dX7_doSign_27 : decode cX7_doSign 27 = .ok (.iload_n 1, 1) := dec_at kDX7_doSign_0 17 rfl
theorem dX7_doSign_28 : decode cX7_doSign 28 = .ok (.bipush 33, 2) := dec_at kDX7_doSign_0 18 rfl
theorem dX7_doSign_30 : decode cX7_doSign 30 = .ok (.if_icmp .ne 48, 3) := dec_at kDX7_doSign_0 19 rfl
theorem dX7_doSign_33 : decode cX7_doSign 33 = .ok (.aload_n 0, 1) := dec_at kDX7_doSign_0 20 rfl
theorem dX7_doSign_34 : decode cX7_doSign 34 = .ok (.getfield 23, 3) := dec_at kDX7_doSign_0 21 rfl
theorem dX7_doSign_37 : decode cX7_doSign 37 = .ok (.iconst 4, 1) := dec_at kDX7_doSign_0 22 rfl
theorem dX7_doSign_38 : decode cX7_doSign 38 = .ok (.aload_n 0, 1) := dec_at kDX7_doSign_0 23 rfl
theorem dX7_doSign_39 : decode cX7_doSign 39 = .ok (.getfield 148, 3) := dec_at kDX7_doSign_0 24 rfl
theorem dX7_doSign_42 : decode cX7_doSign 42 = .ok (.imul, 1) := dec_at kDX7_doSign_0 25 rfl
theorem dX7_doSign_43 : decode cX7_doSign 43 = .ok (.iconst 4, 1) := dec_at kDX7_doSign_0 26 rfl
theorem dX7_doSign_44 : decode cX7_doSign 44 = .ok (.isub, 1) := dec_at kDX7_doSign_0 27 rfl
theorem dX7_doSign_45 : decode cX7_doSign 45 = .ok (.iload_n 2, 1) := dec_at kDX7_doSign_0 28 rfl
theorem dX7_doSign_46 : decode cX7_doSign 46 = .ok (.iadd, 1) := dec_at kDX7_doSign_0 29 rfl
theorem dX7_doSign_47 : decode cX7_doSign 47 = .ok (.aload_n 0, 1) := dec_at kDX7_doSign_0 30 rfl
theorem dX7_doSign_48 : decode cX7_doSign 48 = .ok (.invokevirtual 98, 3) := dec_at kDX7_doSign_0 31 rfl
theorem dX7_doSign_51 : decode cX7_doSign 51 = .ok (.aload_n 0, 1) := dec_at kDX7_doSign_0 32 rfl
theorem dX7_doSign_52 : decode cX7_doSign 52 = .ok (.getfield 23, 3) := dec_at kDX7_doSign_0 33 rfl
theorem dX7_doSign_55 : decode cX7_doSign 55 = .ok (.iconst 4, 1) := dec_at kDX7_doSign_0 34 rfl
theorem dX7_doSign_56 : decode cX7_doSign 56 = .ok (.aload_n 0, 1) := dec_at kDX7_doSign_0 35 rfl
theorem dX7_doSign_57 : decode cX7_doSign 57 = .ok (.getfield 148, 3) := dec_at kDX7_doSign_0 36 rfl
theorem dX7_doSign_60 : decode cX7_doSign 60 = .ok (.imul, 1) := dec_at kDX7_doSign_0 37 rfl
theorem dX7_doSign_61 : decode cX7_doSign 61 = .ok (.iconst 4, 1) := dec_at kDX7_doSign_0 38 rfl
theorem dX7_doSign_62 : decode cX7_doSign 62 = .ok (.isub, 1) := dec_at kDX7_doSign_0 39 rfl
theorem dX7_doSign_63 : decode cX7_doSign 63 = .ok (.iload_n 2, 1) := dec_at kDX7_doSign_0 40 rfl
theorem dX7_doSign_64 : decode cX7_doSign 64 = .ok (.iadd, 1) := dec_at kDX7_doSign_0 41 rfl
theorem dX7_doSign_65 : decode cX7_doSign 65 = .ok (.laload, 1) := dec_at kDX7_doSign_0 42 rfl
theorem dX7_doSign_66 : decode cX7_doSign 66 = .ok (.ldc2_w 84, 3) := dec_at kDX7_doSign_0 43 rfl
theorem dX7_doSign_69 : decode cX7_doSign 69 = .ok (.lxor, 1) := dec_at kDX7_doSign_0 44 rfl
theorem dX7_doSign_70 : decode cX7_doSign 70 = .ok (.land, 1) := dec_at kDX7_doSign_0 45 rfl
theorem dX7_doSign_71 : decode cX7_doSign 71 = .ok (.lastore, 1) := dec_at kDX7_doSign_0 46 rfl
theorem dX7_doSign_72 : decode cX7_doSign 72 = .ok (.iinc 2 1, 3) := dec_at kDX7_doSign_0 47 rfl
theorem dX7_doSign_75 : decode cX7_doSign 75 = .ok (.goto (-53), 3) := dec_at kDX7_doSign_0 48 rfl
theorem dX7_doSign_78 : decode cX7_doSign 78 = .ok (.iconst 0, 1) := dec_at kDX7_doSign_0 49 rfl
def DX7_doSign_50 : List (Nat × (Instr × Nat)) := [(79, (.istore_n 2, 1)), (80, (.iload_n 2, 1)), (81, (.iconst 4, 1)), (82, (.if_icmp .ge 66, 3)), (85, (.iload_n 1, 1)), (86, (.bipush 33, 2)), (88, (.if_icmp .eq 60, 3)), (91, (.aload_n 0, 1)), (92, (.getfield 23, 3)), (95, (.iconst 4, 1)), (96, (.aload_n 0, 1)), (97, (.getfield 148, 3)), (100, (.imul, 1)), (101, (.bipush 8, 2)), (103, (.isub, 1)), (104, (.iload_n 2, 1)), (105, (.iadd, 1)), (106, (.iload_n 1, 1)), (107, (.aload_n 0, 1)), (108, (.getfield 23, 3)), (111, (.iconst 4, 1)), (112, (.aload_n 0, 1)), (113, (.getfield 148, 3)), (116, (.imul, 1)), (117, (.bipush 8, 2)), (119, (.isub, 1)), (120, (.iload_n 2, 1)), (121, (.iadd, 1)), (122, (.laload, 1)), (123, (.aload_n 0, 1)), (124, (.getfield 23, 3)), (127, (.iconst 4, 1)), (128, (.aload_n 0, 1)), (129, (.getfield 148, 3)), (132, (.imul, 1)), (133, (.iconst 4, 1)), (134, (.isub, 1)), (135, (.iload_n 2, 1)), (136, (.iadd, 1)), (137, (.laload, 1)), (138, (.invokestatic 158, 3)), (141, (.lastore, 1)), (142, (.iinc 2 1, 3)), (145, (.goto (-65), 3)), (148, (.aload_n 0, 1)), (149, (.dup, 1)), (150, (.getfield 148, 3)), (153, (.iload_n 1, 1)), (154, (.bipush 33, 2)), (156, (.if_icmp .ne 7, 3))]
theorem kDX7_doSign_50 : DX7_doSign_50.all (fun q => decide (decode cX7_doSign q.1 = .ok q.2)) = true := by decide +kernel
theorem dX7_doSign_79 : decode cX7_doSign 79 = .ok (.istore_n 2, 1) := dec_at kDX7_doSign_50 0 rfl
theorem dX7_doSign_80 : decode cX7_doSign 80 = .ok (.iload_n 2, 1) := dec_at kDX7_doSign_50 1 rfl
theorem dX7_doSign_81 : decode cX7_doSign 81 = .ok (.iconst 4, 1) := dec_at kDX7_doSign_50 2 rfl
theorem dX7_doSign_82 : decode cX7_doSign 82 = .ok (.if_icmp .ge 66, 3) := dec_at kDX7_doSign_50 3 rfl
theorem dX7_doSign_85 : decode cX7_doSign 85 = .ok (.iload_n 1, 1) := dec_at kDX7_doSign_50 4 rfl
theorem dX7_doSign_86 : decode cX7_doSign 86 = .ok (.bipush 33, 2) := dec_at kDX7_doSign_50 5 rfl
theorem dX7_doSign_88 : decode cX7_doSign 88 = .ok (.if_icmp .eq 60, 3) := dec_at kDX7_doSign_50 6 rfl
theorem dX7_doSign_91 : decode cX7_doSign 91 = .ok (.aload_n 0, 1) := dec_at kDX7_doSign_50 7 rfl
theorem dX7_doSign_92 : decode cX7_doSign 92 = .ok (.getfield 23, 3) := dec_at kDX7_doSign_50 8 rfl
theorem dX7_doSign_95 : decode cX7_doSign 95 = .ok (.iconst 4, 1) := dec_at kDX7_doSign_50 9 rfl
theorem dX7_doSign_96 : decode cX7_doSign 96 = .ok (.aload_n 0, 1) := dec_at kDX7_doSign_50 10 rfl
theorem dX7_doSign_97 : decode cX7_doSign 97 = .ok (.getfield 148, 3) := dec_at kDX7_doSign_50 11 rfl
theorem dX7_doSign_100 : decode cX7_doSign 100 = .ok (.imul, 1) := dec_at kDX7_doSign_50 12 rfl
theorem dX7_doSign_101 : decode cX7_doSign 101 = .ok (.bipush 8, 2) := dec_at kDX7_doSign_50 13 rfl
theorem dX7_doSign_103 : decode cX7_doSign 103 = .ok (.isub, 1) := dec_at kDX7_doSign_50 14 rfl
theorem dX7_doSign_104 : decode cX7_doSign 104 = .ok (.iload_n 2, 1) := dec_at kDX7_doSign_50 15 rfl
theorem dX7_doSign_105 : decode cX7_doSign 105 = .ok (.iadd, 1) := dec_at kDX7_doSign_50 16 rfl
theorem dX7_doSign_106 : decode cX7_doSign 106 = .ok (.iload_n 1, 1) := dec_at kDX7_doSign_50 17 rfl
theorem dX7_doSign_107 : decode cX7_doSign 107 = .ok (.aload_n 0, 1) := dec_at kDX7_doSign_50 18 rfl
theorem dX7_doSign_108 : decode cX7_doSign 108 = .ok (.getfield 23, 3) := dec_at kDX7_doSign_50 19 rfl
theorem dX7_doSign_111 : decode cX7_doSign 111 = .ok (.iconst 4, 1) := dec_at kDX7_doSign_50 20 rfl
theorem dX7_doSign_112 : decode cX7_doSign 112 = .ok (.aload_n 0, 1) := dec_at kDX7_doSign_50 21 rfl
theorem dX7_doSign_113 : decode cX7_doSign 113 = .ok (.getfield 148, 3) := dec_at kDX7_doSign_50 22 rfl
theorem dX7_doSign_116 : decode cX7_doSign 116 = .ok (.imul, 1) := dec_at kDX7_doSign_50 23 rfl
theorem dX7_doSign_117 : decode cX7_doSign 117 = .ok (.bipush 8, 2) := dec_at kDX7_doSign_50 24 rfl
theorem dX7_doSign_119 : decode cX7_doSign 119 = .ok (.isub, 1) := dec_at kDX7_doSign_50 25 rfl
theorem dX7_doSign_120 : decode cX7_doSign 120 = .ok (.iload_n 2, 1) := dec_at kDX7_doSign_50 26 rfl
theorem dX7_doSign_121 : decode cX7_doSign 121 = .ok (.iadd, 1) := dec_at kDX7_doSign_50 27 rfl
theorem dX7_doSign_122 : decode cX7_doSign 122 = .ok (.laload, 1) := dec_at kDX7_doSign_50 28 rfl
theorem dX7_doSign_123 : decode cX7_doSign 123 = .ok (.aload_n 0, 1) := dec_at kDX7_doSign_50 29 rfl
theorem dX7_doSign_124 : decode cX7_doSign 124 = .ok (.getfield 23, 3) := dec_at kDX7_doSign_50 30 rfl
theorem dX7_doSign_127 : decode cX7_doSign 127 = .ok (.iconst 4, 1) := dec_at kDX7_doSign_50 31 rfl
theorem dX7_doSign_128 : decode cX7_doSign 128 = .ok (.aload_n 0, 1) := dec_at kDX7_doSign_50 32 rfl
theorem dX7_doSign_129 : decode cX7_doSign 129 = .ok (.getfield 148, 3) := dec_at kDX7_doSign_50 33 rfl
theorem dX7_doSign_132 : decode cX7_doSign 132 = .ok (.imul, 1) := dec_at kDX7_doSign_50 34 rfl
theorem dX7_doSign_133 : decode cX7_doSign 133 = .ok (.iconst 4, 1) := dec_at kDX7_doSign_50 35 rfl
theorem dX7_doSign_134 : decode cX7_doSign 134 = .ok (.isub, 1) := dec_at kDX7_doSign_50 36 rfl
theorem dX7_doSign_135 : decode cX7_doSign 135 = .ok (.iload_n 2, 1) := dec_at kDX7_doSign_50 37 rfl
theorem dX7_doSign_136 : decode cX7_doSign 136 = .ok (.iadd, 1) := dec_at kDX7_doSign_50 38 rfl
theorem dX7_doSign_137 : decode cX7_doSign 137 = .ok (.laload, 1) := dec_at kDX7_doSign_50 39 rfl
theorem dX7_doSign_138 : decode cX7_doSign 138 = .ok (.invokestatic 158, 3) := dec_at kDX7_doSign_50 40 rfl
theorem dX7_doSign_141 : decode cX7_doSign 141 = .ok (.lastore, 1) := dec_at kDX7_doSign_50 41 rfl
theorem dX7_doSign_142 : decode cX7_doSign 142 = .ok (.iinc 2 1, 3) := dec_at kDX7_doSign_50 42 rfl
theorem dX7_doSign_145 : decode cX7_doSign 145 = .ok (.goto (-65), 3) := dec_at kDX7_doSign_50 43 rfl
theorem dX7_doSign_148 : decode cX7_doSign 148 = .ok (.aload_n 0, 1) := dec_at kDX7_doSign_50 44 rfl
theorem dX7_doSign_149 : decode cX7_doSign 149 = .ok (.dup, 1) := dec_at kDX7_doSign_50 45 rfl
theorem dX7_doSign_150 : decode cX7_doSign 150 = .ok (.getfield 148, 3) := dec_at kDX7_doSign_50 46 rfl
theorem dX7_doSign_153 : decode cX7_doSign 153 = .ok (.iload_n 1, 1) := dec_at kDX7_doSign_50 47 rfl
theorem dX7_doSign_154 : decode cX7_doSign 154 = .ok (.bipush 33, 2) := dec_at kDX7_doSign_50 48 rfl
theorem dX7_doSign_156 : decode cX7_doSign 156 = .ok (.if_icmp .ne 7, 3) := dec_at kDX7_doSign_50 49 rfl
def DX7_doSign_100 : List (Nat × (Instr × Nat)) := [(159, (.iconst 0, 1)), (160, (.goto 4, 3)), (163, (.iconst 1, 1)), (164, (.isub, 1)), (165, (.putfield 148, 3)), (168, (.return_, 1))]
theorem kDX7_doSign_100 : DX7_doSign_100.all (fun q => decide (decode cX7_doSign q.1 = .ok q.2)) = true := by decide +kernel
theorem dX7_doSign_159 : decode cX7_doSign 159 = .ok (.iconst 0, 1) := dec_at kDX7_doSign_100 0 rfl
theorem dX7_doSign_160 : decode cX7_doSign 160 = .ok (.goto 4, 3) := dec_at kDX7_doSign_100 1 rfl
theorem dX7_doSign_163 : decode cX7_doSign 163 = .ok (.iconst 1, 1) := dec_at kDX7_doSign_100 2 rfl
theorem dX7_doSign_164 : decode cX7_doSign 164 = .ok (.isub, 1) := dec_at kDX7_doSign_100 3 rfl
theorem dX7_doSign_165 : decode cX7_doSign 165 = .ok (.putfield 148, 3) := dec_at kDX7_doSign_100 4 rfl
theorem dX7_doSign_168 : decode cX7_doSign 168 = .ok (.return_, 1) := dec_at kDX7_doSign_100 5 rfl
def DX7_doSigns_0 : List (Nat × (Instr × Nat)) := [(0, (.aload_n 0, 1)), (1, (.getfield 155, 3)), (4, (.ifCond .le 28, 3)), (7, (.aload_n 0, 1)), (8, (.getfield 26, 3)), (11, (.aload_n 0, 1)), (12, (.getfield 155, 3)), (15, (.iconst 1, 1)), (16, (.isub, 1)), (17, (.iaload, 1)), (18, (.invokestatic 162, 3)), (21, (.iload_n 1, 1)), (22, (.if_icmp .lt 10, 3)), (25, (.aload_n 0, 1)), (26, (.invokevirtual 166, 3)), (29, (.goto (-29), 3)), (32, (.return_, 1))]
theorem kDX7_doSigns_0 : DX7_doSigns_0.all (fun q => decide (decode cX7_doSigns q.1 = .ok q.2)) = true := by decide +kernel
theorem dX7_doSigns_0 : decode cX7_doSigns 0 = .ok (.aload_n 0, 1) := dec_at kDX7_doSigns_0 0 rfl
theorem dX7_doSigns_1 : decode cX7_doSigns 1 = .ok (.getfield 155, 3) := dec_at kDX7_doSigns_0 1 rfl
theorem dX7_doSigns_4 : decode cX7_doSigns 4 = .ok (.ifCond .le 28, 3) := dec_at kDX7_doSigns_0 2 rfl
theorem dX7_doSigns_7 : decode cX7_doSigns 7 = .ok (.aload_n 0, 1) := dec_at kDX7_doSigns_0 3 rfl
theorem dX7_doSigns_8 : decode cX7_doSigns 8 = .ok (.getfield 26, 3) := dec_at kDX7_doSigns_0 4 rfl
theorem dX7_doSigns_11 : decode cX7_doSigns 11 = .ok (.aload_n 0, 1) := dec_at kDX7_doSigns_0 5 rfl
theorem dX7_doSigns_12 : decode cX7_doSigns 12 = .ok (.getfield 155, 3) := dec_at kDX7_doSigns_0 6 rfl
theorem dX7_doSigns_15 : decode cX7_doSigns 15 = .ok (.iconst 1, 1) := dec_at kDX7_doSigns_0 7 rfl
theorem dX7_doSigns_16 : decode cX7_doSigns 16 = .ok (.isub, 1) := dec_at kDX7_doSigns_0 8 rfl
theorem dX7_doSigns_17 : decode cX7_doSigns 17 = .ok (.iaload, 1) := dec_at kDX7_doSigns_0 9 rfl
theorem dX7_doSigns_18 : decode cX7_doSigns 18 = .ok (.invokestatic 162, 3) := dec_at kDX7_doSigns_0 10 rfl
theorem dX7_doSigns_21 : decode cX7_doSigns 21 = .ok (.iload_n 1, 1) := dec_at kDX7_doSigns_0 11 rfl
theorem dX7_doSigns_22 : decode cX7_doSigns 22 = .ok (.if_icmp .lt 10, 3) := dec_at kDX7_doSigns_0 12 rfl
theorem dX7_doSigns_25 : decode cX7_doSigns 25 = .ok (.aload_n 0, 1) := dec_at kDX7_doSigns_0 13 rfl
theorem dX7_doSigns_26 : decode cX7_doSigns 26 = .ok (.invokevirtual 166, 3) := dec_at kDX7_doSigns_0 14 rfl
theorem dX7_doSigns_29 : decode cX7_doSigns 29 = .ok (.goto (-29), 3) := dec_at kDX7_doSigns_0 15 rfl
theorem dX7_doSigns_32 : decode cX7_doSigns 32 = .ok (.return_, 1) := dec_at kDX7_doSigns_0 16 rfl
def DX7_pushSign_0 : List (Nat × (Instr × Nat)) := [(0, (.aload_n 0, 1)), (1, (.getfield 26, 3)), (4, (.aload_n 0, 1)), (5, (.getfield 155, 3)), (8, (.iload_n 1, 1)), (9, (.iastore, 1)), (10, (.aload_n 0, 1)), (11, (.dup, 1)), (12, (.getfield 155, 3)), (15, (.iconst 1, 1)), (16, (.iadd, 1)), (17, (.putfield 155, 3)), (20, (.return_, 1))]
theorem kDX7_pushSign_0 : DX7_pushSign_0.all (fun q => decide (decode cX7_pushSign q.1 = .ok q.2)) = true := by decide +kernel
theorem dX7_pushSign_0 : decode cX7_pushSign 0 = .ok (.aload_n 0, 1) := dec_at kDX7_pushSign_0 0 rfl
theorem dX7_pushSign_1 : decode cX7_pushSign 1 = .ok (.getfield 26, 3) := dec_at kDX7_pushSign_0 1 rfl
theorem dX7_pushSign_4 : decode cX7_pushSign 4 = .ok (.aload_n 0, 1) := dec_at kDX7_pushSign_0 2 rfl
theorem dX7_pushSign_5 : decode cX7_pushSign 5 = .ok (.getfield 155, 3) := dec_at kDX7_pushSign_0 3 rfl
theorem dX7_pushSign_8 : decode cX7_pushSign 8 = .ok (.iload_n 1, 1) := dec_at kDX7_pushSign_0 4 rfl
theorem dX7_pushSign_9 : decode cX7_pushSign 9 = .ok (.iastore, 1) := dec_at kDX7_pushSign_0 5 rfl
theorem dX7_pushSign_10 : decode cX7_pushSign 10 = .ok (.aload_n 0, 1) := dec_at kDX7_pushSign_0 6 rfl
theorem dX7_pushSign_11 : decode cX7_pushSign 11 = .ok (.dup, 1) := dec_at kDX7_pushSign_0 7 rfl
theorem dX7_pushSign_12 : decode cX7_pushSign 12 = .ok (.getfield 155, 3) := dec_at kDX7_pushSign_0 8 rfl
theorem dX7_pushSign_15 : decode cX7_pushSign 15 = .ok (.iconst 1, 1) := dec_at kDX7_pushSign_0 9 rfl
theorem dX7_pushSign_16 : decode cX7_pushSign 16 = .ok (.iadd, 1) := dec_at kDX7_pushSign_0 10 rfl
theorem dX7_pushSign_17 : decode cX7_pushSign 17 = .ok (.putfield 155, 3) := dec_at kDX7_pushSign_0 11 rfl
theorem dX7_pushSign_20 : decode cX7_pushSign 20 = .ok (.return_, 1) := dec_at kDX7_pushSign_0 12 rfl
def DX7_evaluate_0 : List (Nat × (Instr × Nat)) := [(0, (.aload_n 0, 1)), (1, (.iconst 0, 1)), (2, (.putfield 148, 3)), (5, (.aload_n 0, 1)), (6, (.iconst 0, 1)), (7, (.putfield 155, 3)), (10, (.iconst 0, 1)), (11, (.istore_n 1, 1)), (12, (.iload_n 1, 1)), (13, (.aload_n 0, 1)), (14, (.getfield 116, 3)), (17, (.if_icmp .ge 98, 3)), (20, (.aload_n 0, 1)), (21, (.getfield 13, 3)), (24, (.iload_n 1, 1)), (25, (.iaload, 1)), (26, (.istore_n 2, 1)), (27, (.iload_n 2, 1)), (28, (.bipush 40, 2)), (30, (.if_icmp .eq 9, 3)), (33, (.iload_n 2, 1)), (34, (.bipush 33, 2)), (36, (.if_icmp .ne 11, 3)), (39, (.aload_n 0, 1)), (40, (.iload_n 2, 1)), (41, (.invokevirtual 169, 3)), (44, (.goto 65, 3)), (47, (.iload_n 2, 1)), (48, (.bipush 41, 2)), (50, (.if_icmp .ne 26, 3)), (53, (.aload_n 0, 1)), (54, (.iconst 1, 1)), (55, (.invokevirtual 173, 3)), (58, (.aload_n 0, 1)), (59, (.dup, 1)), (60, (.getfield 155, 3)), (63, (.iconst 1, 1)), (64, (.isub, 1)), (65, (.putfield 155, 3)), (68, (.aload_n 0, 1)), (69, (.iconst 4, 1)), (70, (.invokevirtual 173, 3)), (73, (.goto 36, 3)), (76, (.iload_n 2, 1)), (77, (.invokestatic 126, 3)), (80, (.ifCond .eq 19, 3)), (83, (.aload_n 0, 1)), (84, (.iload_n 2, 1)), (85, (.invokestatic 162, 3)), (88, (.invokevirtual 173, 3))]
theorem kDX7_evaluate_0 : DX7_evaluate_0.all (fun q => decide (decode cX7_evaluate q.1 = .ok q.2)) = true := by decide +kernel
theorem dX7_evaluate_0 : decode cX7_evaluate 0 = .ok (.aload_n 0, 1) := dec_at kDX7_evaluate_0 0 rfl
theorem dX7_evaluate_1 : decode cX7_evaluate 1 = .ok (.iconst 0, 1) := dec_at kDX7_evaluate_0 1 rfl
theorem dX7_evaluate_2 : decode cX7_evaluate 2 = .ok (.putfield 148, 3) := dec_at kDX7_evaluate_0 2 rfl
theorem dX7_evaluate_5 : decode cX7_evaluate 5 = .ok (.aload_n 0, 1) := dec_at kDX7_evaluate_0 3 rfl
theorem dX7_evaluate_6 : decode cX7_evaluate 6 = .ok (.iconst 0, 1) := dec_at kDX7_evaluate_0 4 rfl
theorem dX7_evaluate_7 : decode cX7_evaluate 7 = .ok (.putfield 155, 3) := dec_at kDX7_evaluate_0 5 rfl
theorem dX7_evaluate_10 : decode cX7_evaluate 10 = .ok (.iconst 0, 1) := dec_at kDX7_evaluate_0 6 rfl
theorem dX7_evaluate_11 : decode cX7_evaluate 11 = .ok (.istore_n 1, 1) := dec_at kDX7_evaluate_0 7 rfl
theorem dX7_evaluate_12 : decode cX7_evaluate 12 = .ok (.iload_n 1, 1) := dec_at kDX7_evaluate_0 8 rfl
theorem dX7_evaluate_13 : decode cX7_evaluate 13 = .ok (.aload_n 0, 1) := dec_at kDX7_evaluate_0 9 rfl
theorem dX7_evaluate_14 : decode cX7_evaluate 14 = .ok (.getfield 116, 3) := dec_at kDX7_evaluate_0 10 rfl
theorem dX7_evaluate_17 : decode cX7_evaluate 17 = .ok (.if_icmp .ge 98, 3) := dec_at kDX7_evaluate_0 11 rfl
theorem dX7_evaluate_20 : decode cX7_evaluate 20 = .ok (.aload_n 0, 1) := dec_at kDX7_evaluate_0 12 rfl
theorem dX7_evaluate_21 : decode cX7_evaluate 21 = .ok (.getfield 13, 3) := dec_at kDX7_evaluate_0 13 rfl
theorem dX7_evaluate_24 : decode cX7_evaluate 24 = .ok (.iload_n 1, 1) := dec_at kDX7_evaluate_0 14 rfl
theorem dX7_evaluate_25 : decode cX7_evaluate 25 = .ok (.iaload, 1) := dec_at kDX7_evaluate_0 15 rfl
theorem dX7_evaluate_26 : decode cX7_evaluate 26 = .ok (.istore_n 2, 1) := dec_at kDX7_evaluate_0 16 rfl
theorem dX7_evaluate_27 : decode cX7_evaluate 27 = .ok (.iload_n 2, 1) := dec_at kDX7_evaluate_0 17 rfl
theorem dX7_evaluate_28 : decode cX7_evaluate 28 = .ok (.bipush 40, 2) := dec_at kDX7_evaluate_0 18 rfl
theorem dX7_evaluate_30 : decode cX7_evaluate 30 = .ok (.if_icmp .eq 9, 3) := dec_at kDX7_evaluate_0 19 rfl
theorem dX7_evaluate_33 : decode cX7_evaluate 33 = .ok (.iload_n 2, 1) := dec_at kDX7_evaluate_0 20 rfl
theorem dX7_evaluate_34 : decode cX7_evaluate 34 = .ok (.bipush 33, 2) := dec_at kDX7_evaluate_0 21 rfl
theorem dX7_evaluate_36 : decode cX7_evaluate 36 = .ok (.if_icmp .ne 11, 3) := dec_at kDX7_evaluate_0 22 rfl
theorem dX7_evaluate_39 : decode cX7_evaluate 39 = .ok (.aload_n 0, 1) := dec_at kDX7_evaluate_0 23 rfl
theorem dX7_evaluate_40 : decode cX7_evaluate 40 = .ok (.iload_n 2, 1) := dec_at kDX7_evaluate_0 24 rfl
theorem dX7_evaluate_41 : decode cX7_evaluate 41 = .ok (.invokevirtual 169, 3) := dec_at kDX7_evaluate_0 25 rfl
theorem dX7_evaluate_44 : decode cX7_evaluate 44 = .ok (.goto 65, 3) := dec_at kDX7_evaluate_0 26 rfl
theorem dX7_evaluate_47 : decode cX7_evaluate 47 = .ok (.iload_n 2, 1) := dec_at kDX7_evaluate_0 27 rfl
theorem dX7_evaluate_48 : decode cX7_evaluate 48 = .ok (.bipush 41, 2) := dec_at kDX7_evaluate_0 28 rfl
theorem dX7_evaluate_50 : decode cX7_evaluate 50 = .ok (.if_icmp .ne 26, 3) := dec_at kDX7_evaluate_0 29 rfl
theorem dX7_evaluate_53 : decode cX7_evaluate 53 = .ok (.aload_n 0, 1) := dec_at kDX7_evaluate_0 30 rfl
theorem dX7_evaluate_54 : decode cX7_evaluate 54 = .ok (.iconst 1, 1) := dec_at kDX7_evaluate_0 31 rfl
theorem dX7_evaluate_55 : decode cX7_evaluate 55 = .ok (.invokevirtual 173, 3) := dec_at kDX7_evaluate_0 32 rfl
theorem dX7_evaluate_58 : decode cX7_evaluate 58 = .ok (.aload_n 0, 1) := dec_at kDX7_evaluate_0 33 rfl
theorem dX7_evaluate_59 : decode cX7_evaluate 59 = .ok (.dup, 1) := dec_at kDX7_evaluate_0 34 rfl
theorem dX7_evaluate_60 : decode cX7_evaluate 60 = .ok (.getfield 155, 3) := dec_at kDX7_evaluate_0 35 rfl
theorem dX7_evaluate_63 : decode cX7_evaluate 63 = .ok (.iconst 1, 1) := dec_at kDX7_evaluate_0 36 rfl
theorem dX7_evaluate_64 : decode cX7_evaluate 64 = .ok (.isub, 1) := dec_at kDX7_evaluate_0 37 rfl
theorem dX7_evaluate_65 : decode cX7_evaluate 65 = .ok (.putfield 155, 3) := dec_at kDX7_evaluate_0 38 rfl
theorem dX7_evaluate_68 : decode cX7_evaluate 68 = .ok (.aload_n 0, 1) := dec_at kDX7_evaluate_0 39 rfl
theorem dX7_evaluate_69 : decode cX7_evaluate 69 = .ok (.iconst 4, 1) := dec_at kDX7_evaluate_0 40 rfl
theorem dX7_evaluate_70 : decode cX7_evaluate 70 = .ok (.invokevirtual 173, 3) := dec_at kDX7_evaluate_0 41 rfl
theorem dX7_evaluate_73 : decode cX7_evaluate 73 = .ok (.goto 36, 3) := dec_at kDX7_evaluate_0 42 rfl
theorem dX7_evaluate_76 : decode cX7_evaluate 76 = .ok (.iload_n 2, 1) := dec_at kDX7_evaluate_0 43 rfl
theorem dX7_evaluate_77 : decode cX7_evaluate 77 = .ok (.invokestatic 126, 3) := dec_at kDX7_evaluate_0 44 rfl
theorem dX7_evaluate_80 : decode cX7_evaluate 80 = .ok (.ifCond .eq 19, 3) := dec_at kDX7_evaluate_0 45 rfl
theorem dX7_evaluate_83 : decode cX7_evaluate 83 = .ok (.aload_n 0, 1) := dec_at kDX7_evaluate_0 46 rfl
theorem dX7_evaluate_84 : decode cX7_evaluate 84 = .ok (.iload_n 2, 1) := dec_at kDX7_evaluate_0 47 rfl
theorem dX7_evaluate_85 : decode cX7_evaluate 85 = .ok (.invokestatic 162, 3) := dec_at kDX7_evaluate_0 48 rfl
theorem dX7_evaluate_88 : decode cX7_evaluate 88 = .ok (.invokevirtual 173, 3) := dec_at kDX7_evaluate_0 49 rfl
def DX7_evaluate_50 : List (Nat × (Instr × Nat)) := [(91, (.aload_n 0, 1)), (92, (.iload_n 2, 1)), (93, (.invokevirtual 169, 3)), (96, (.goto 13, 3)), (99, (.aload_n 0, 1)), (100, (.iload_n 2, 1)), (101, (.invokevirtual 176, 3)), (104, (.aload_n 0, 1)), (105, (.iconst 4, 1)), (106, (.invokevirtual 173, 3)), (109, (.iinc 1 1, 3)), (112, (.goto (-100), 3)), (115, (.aload_n 0, 1)), (116, (.iconst 1, 1)), (117, (.invokevirtual 173, 3)), (120, (.return_, 1))]
theorem kDX7_evaluate_50 : DX7_evaluate_50.all (fun q => decide (decode cX7_evaluate q.1 = .ok q.2)) = true := by decide +kernel
theorem dX7_evaluate_91 : decode cX7_evaluate 91 = .ok (.aload_n 0, 1) := dec_at kDX7_evaluate_50 0 rfl
theorem dX7_evaluate_92 : decode cX7_evaluate 92 = .ok (.iload_n 2, 1) := dec_at kDX7_evaluate_50 1 rfl
theorem dX7_evaluate_93 : decode cX7_evaluate 93 = .ok (.invokevirtual 169, 3) := dec_at kDX7_evaluate_50 2 rfl
theorem dX7_evaluate_96 : decode cX7_evaluate 96 = .ok (.goto 13, 3) := dec_at kDX7_evaluate_50 3 rfl
theorem dX7_evaluate_99 : decode cX7_evaluate 99 = .ok (.aload_n 0, 1) := dec_at kDX7_evaluate_50 4 rfl
theorem dX7_evaluate_100 : decode cX7_evaluate 100 = .ok (.iload_n 2, 1) := dec_at kDX7_evaluate_50 5 rfl
theorem dX7_evaluate_101 : decode cX7_evaluate 101 = .ok (.invokevirtual 176, 3) := dec_at kDX7_evaluate_50 6 rfl
theorem dX7_evaluate_104 : decode cX7_evaluate 104 = .ok (.aload_n 0, 1) := dec_at kDX7_evaluate_50 7 rfl
theorem dX7_evaluate_105 : decode cX7_evaluate 105 = .ok (.iconst 4, 1) := dec_at kDX7_evaluate_50 8 rfl
theorem dX7_evaluate_106 : decode cX7_evaluate 106 = .ok (.invokevirtual 173, 3) := dec_at kDX7_evaluate_50 9 rfl
theorem dX7_evaluate_109 : decode cX7_evaluate 109 = .ok (.iinc 1 1, 3) := dec_at kDX7_evaluate_50 10 rfl
theorem dX7_evaluate_112 : decode cX7_evaluate 112 = .ok (.goto (-100), 3) := dec_at kDX7_evaluate_50 11 rfl
theorem dX7_evaluate_115 : decode cX7_evaluate 115 = .ok (.aload_n 0, 1) := dec_at kDX7_evaluate_50 12 rfl
theorem dX7_evaluate_116 : decode cX7_evaluate 116 = .ok (.iconst 1, 1) := dec_at kDX7_evaluate_50 13 rfl
theorem dX7_evaluate_117 : decode cX7_evaluate 117 = .ok (.invokevirtual 173, 3) := dec_at kDX7_evaluate_50 14 rfl
theorem dX7_evaluate_120 : decode cX7_evaluate 120 = .ok (.return_, 1) := dec_at kDX7_evaluate_50 15 rfl
def DX7_was_0 : List (Nat × (Instr × Nat)) := [(0, (.iload_n 1, 1)), (1, (.bipush 6, 2)), (3, (.if_icmp .ne 10, 3)), (6, (.aload_n 0, 1)), (7, (.getfield 94, 3)), (10, (.goto 26, 3)), (13, (.iload_n 1, 1)), (14, (.bipush 7, 2)), (16, (.if_icmp .ne 10, 3)), (19, (.aload_n 0, 1)), (20, (.getfield 102, 3)), (23, (.goto 13, 3)), (26, (.aload_n 0, 1)), (27, (.getfield 7, 3)), (30, (.iconst 4, 1)), (31, (.iload_n 1, 1)), (32, (.imul, 1)), (33, (.iload_n 2, 1)), (34, (.iadd, 1)), (35, (.laload, 1)), (36, (.lreturn, 1))]
theorem kDX7_was_0 : DX7_was_0.all (fun q => decide (decode cX7_was q.1 = .ok q.2)) = true := by decide +kernel
theorem dX7_was_0 : decode cX7_was 0 = .ok (.iload_n 1, 1) := dec_at kDX7_was_0 0 rfl
theorem dX7_was_1 : decode cX7_was 1 = .ok (.bipush 6, 2) := dec_at kDX7_was_0 1 rfl
theorem dX7_was_3 : decode cX7_was 3 = .ok (.if_icmp .ne 10, 3) := dec_at kDX7_was_0 2 rfl
theorem dX7_was_6 : decode cX7_was 6 = .ok (.aload_n 0, 1) := dec_at kDX7_was_0 3 rfl
theorem dX7_was_7 : decode cX7_was 7 = .ok (.getfield 94, 3) := dec_at kDX7_was_0 4 rfl
theorem dX7_was_10 : decode cX7_was 10 = .ok (.goto 26, 3) := dec_at kDX7_was_0 5 rfl
theorem dX7_was_13 : decode cX7_was 13 = .ok (.iload_n 1, 1) := dec_at kDX7_was_0 6 rfl
theorem dX7_was_14 : decode cX7_was 14 = .ok (.bipush 7, 2) := dec_at kDX7_was_0 7 rfl
theorem dX7_was_16 : decode cX7_was 16 = .ok (.if_icmp .ne 10, 3) := dec_at kDX7_was_0 8 rfl
theorem dX7_was_19 : decode cX7_was 19 = .ok (.aload_n 0, 1) := dec_at kDX7_was_0 9 rfl
theorem dX7_was_20 : decode cX7_was 20 = .ok (.getfield 102, 3) := dec_at kDX7_was_0 10 rfl
theorem dX7_was_23 : decode cX7_was 23 = .ok (.goto 13, 3) := dec_at kDX7_was_0 11 rfl
theorem dX7_was_26 : decode cX7_was 26 = .ok (.aload_n 0, 1) := dec_at kDX7_was_0 12 rfl
theorem dX7_was_27 : decode cX7_was 27 = .ok (.getfield 7, 3) := dec_at kDX7_was_0 13 rfl
theorem dX7_was_30 : decode cX7_was 30 = .ok (.iconst 4, 1) := dec_at kDX7_was_0 14 rfl
theorem dX7_was_31 : decode cX7_was 31 = .ok (.iload_n 1, 1) := dec_at kDX7_was_0 15 rfl
theorem dX7_was_32 : decode cX7_was 32 = .ok (.imul, 1) := dec_at kDX7_was_0 16 rfl
theorem dX7_was_33 : decode cX7_was 33 = .ok (.iload_n 2, 1) := dec_at kDX7_was_0 17 rfl
theorem dX7_was_34 : decode cX7_was 34 = .ok (.iadd, 1) := dec_at kDX7_was_0 18 rfl
theorem dX7_was_35 : decode cX7_was 35 = .ok (.laload, 1) := dec_at kDX7_was_0 19 rfl
theorem dX7_was_36 : decode cX7_was 36 = .ok (.lreturn, 1) := dec_at kDX7_was_0 20 rfl
def DX7_put_0 : List (Nat × (Instr × Nat)) := [(0, (.iload_n 1, 1)), (1, (.bipush 6, 2)), (3, (.if_icmp .ge 17, 3)), (6, (.aload_n 0, 1)), (7, (.getfield 7, 3)), (10, (.iconst 4, 1)), (11, (.iload_n 1, 1)), (12, (.imul, 1)), (13, (.iload_n 2, 1)), (14, (.iadd, 1)), (15, (.lload_n 3, 1)), (16, (.lastore, 1)), (17, (.goto 22, 3)), (20, (.iload_n 1, 1)), (21, (.bipush 6, 2)), (23, (.if_icmp .ne 11, 3)), (26, (.aload_n 0, 1)), (27, (.lload_n 3, 1)), (28, (.putfield 94, 3)), (31, (.goto 8, 3)), (34, (.aload_n 0, 1)), (35, (.lload_n 3, 1)), (36, (.putfield 102, 3)), (39, (.return_, 1))]
theorem kDX7_put_0 : DX7_put_0.all (fun q => decide (decode cX7_put q.1 = .ok q.2)) = true := by decide +kernel
theorem dX7_put_0 : decode cX7_put 0 = .ok (.iload_n 1, 1) := dec_at kDX7_put_0 0 rfl
theorem dX7_put_1 : decode cX7_put 1 = .ok (.bipush 6, 2) := dec_at kDX7_put_0 1 rfl
theorem dX7_put_3 : decode cX7_put 3 = .ok (.if_icmp .ge 17, 3) := dec_at kDX7_put_0 2 rfl
theorem dX7_put_6 : decode cX7_put 6 = .ok (.aload_n 0, 1) := dec_at kDX7_put_0 3 rfl
theorem dX7_put_7 : decode cX7_put 7 = .ok (.getfield 7, 3) := dec_at kDX7_put_0 4 rfl
theorem dX7_put_10 : decode cX7_put 10 = .ok (.iconst 4, 1) := dec_at kDX7_put_0 5 rfl
theorem dX7_put_11 : decode cX7_put 11 = .ok (.iload_n 1, 1) := dec_at kDX7_put_0 6 rfl
theorem dX7_put_12 : decode cX7_put 12 = .ok (.imul, 1) := dec_at kDX7_put_0 7 rfl
theorem dX7_put_13 : decode cX7_put 13 = .ok (.iload_n 2, 1) := dec_at kDX7_put_0 8 rfl
theorem dX7_put_14 : decode cX7_put 14 = .ok (.iadd, 1) := dec_at kDX7_put_0 9 rfl
theorem dX7_put_15 : decode cX7_put 15 = .ok (.lload_n 3, 1) := dec_at kDX7_put_0 10 rfl
theorem dX7_put_16 : decode cX7_put 16 = .ok (.lastore, 1) := dec_at kDX7_put_0 11 rfl
theorem dX7_put_17 : decode cX7_put 17 = .ok (.goto 22, 3) := dec_at kDX7_put_0 12 rfl
theorem dX7_put_20 : decode cX7_put 20 = .ok (.iload_n 1, 1) := dec_at kDX7_put_0 13 rfl
theorem dX7_put_21 : decode cX7_put 21 = .ok (.bipush 6, 2) := dec_at kDX7_put_0 14 rfl
theorem dX7_put_23 : decode cX7_put 23 = .ok (.if_icmp .ne 11, 3) := dec_at kDX7_put_0 15 rfl
theorem dX7_put_26 : decode cX7_put 26 = .ok (.aload_n 0, 1) := dec_at kDX7_put_0 16 rfl
theorem dX7_put_27 : decode cX7_put 27 = .ok (.lload_n 3, 1) := dec_at kDX7_put_0 17 rfl
theorem dX7_put_28 : decode cX7_put 28 = .ok (.putfield 94, 3) := dec_at kDX7_put_0 18 rfl
theorem dX7_put_31 : decode cX7_put 31 = .ok (.goto 8, 3) := dec_at kDX7_put_0 19 rfl
theorem dX7_put_34 : decode cX7_put 34 = .ok (.aload_n 0, 1) := dec_at kDX7_put_0 20 rfl
theorem dX7_put_35 : decode cX7_put 35 = .ok (.lload_n 3, 1) := dec_at kDX7_put_0 21 rfl
theorem dX7_put_36 : decode cX7_put 36 = .ok (.putfield 102, 3) := dec_at kDX7_put_0 22 rfl
theorem dX7_put_39 : decode cX7_put 39 = .ok (.return_, 1) := dec_at kDX7_put_0 23 rfl
def DX7_keep_0 : List (Nat × (Instr × Nat)) := [(0, (.aload_n 0, 1)), (1, (.getfield 105, 3)), (4, (.bipush 10, 2)), (6, (.if_icmp .ne 69, 3)), (9, (.iconst 1, 1)), (10, (.istore_n 2, 1)), (11, (.iload_n 2, 1)), (12, (.bipush 10, 2)), (14, (.if_icmp .ge 23, 3)), (17, (.aload_n 0, 1)), (18, (.getfield 17, 3)), (21, (.iload_n 2, 1)), (22, (.iconst 1, 1)), (23, (.isub, 1)), (24, (.aload_n 0, 1)), (25, (.getfield 17, 3)), (28, (.iload_n 2, 1)), (29, (.iaload, 1)), (30, (.iastore, 1)), (31, (.iinc 2 1, 3)), (34, (.goto (-23), 3)), (37, (.iconst 4, 1)), (38, (.istore_n 2, 1)), (39, (.iload_n 2, 1)), (40, (.bipush 40, 2)), (42, (.if_icmp .ge 23, 3)), (45, (.aload_n 0, 1)), (46, (.getfield 20, 3)), (49, (.iload_n 2, 1)), (50, (.iconst 4, 1)), (51, (.isub, 1)), (52, (.aload_n 0, 1)), (53, (.getfield 20, 3)), (56, (.iload_n 2, 1)), (57, (.laload, 1)), (58, (.lastore, 1)), (59, (.iinc 2 1, 3)), (62, (.goto (-23), 3)), (65, (.aload_n 0, 1)), (66, (.dup, 1)), (67, (.getfield 105, 3)), (70, (.iconst 1, 1)), (71, (.isub, 1)), (72, (.putfield 105, 3)), (75, (.aload_n 0, 1)), (76, (.getfield 17, 3)), (79, (.aload_n 0, 1)), (80, (.getfield 105, 3)), (83, (.iload_n 1, 1)), (84, (.iastore, 1))]
theorem kDX7_keep_0 : DX7_keep_0.all (fun q => decide (decode cX7_keep q.1 = .ok q.2)) = true := by decide +kernel
theorem dX7_keep_0 : decode cX7_keep 0 = .ok (.aload_n 0, 1) := dec_at kDX7_keep_0 0 rfl
theorem dX7_keep_1 : decode cX7_keep 1 = .ok (.getfield 105, 3) := dec_at kDX7_keep_0 1 rfl
theorem dX7_keep_4 : decode cX7_keep 4 = .ok (.bipush 10, 2) := dec_at kDX7_keep_0 2 rfl
theorem dX7_keep_6 : decode cX7_keep 6 = .ok (.if_icmp .ne 69, 3) := dec_at kDX7_keep_0 3 rfl
theorem dX7_keep_9 : decode cX7_keep 9 = .ok (.iconst 1, 1) := dec_at kDX7_keep_0 4 rfl
theorem dX7_keep_10 : decode cX7_keep 10 = .ok (.istore_n 2, 1) := dec_at kDX7_keep_0 5 rfl
theorem dX7_keep_11 : decode cX7_keep 11 = .ok (.iload_n 2, 1) := dec_at kDX7_keep_0 6 rfl
theorem dX7_keep_12 : decode cX7_keep 12 = .ok (.bipush 10, 2) := dec_at kDX7_keep_0 7 rfl
theorem dX7_keep_14 : decode cX7_keep 14 = .ok (.if_icmp .ge 23, 3) := dec_at kDX7_keep_0 8 rfl
theorem dX7_keep_17 : decode cX7_keep 17 = .ok (.aload_n 0, 1) := dec_at kDX7_keep_0 9 rfl
theorem dX7_keep_18 : decode cX7_keep 18 = .ok (.getfield 17, 3) := dec_at kDX7_keep_0 10 rfl
theorem dX7_keep_21 : decode cX7_keep 21 = .ok (.iload_n 2, 1) := dec_at kDX7_keep_0 11 rfl
theorem dX7_keep_22 : decode cX7_keep 22 = .ok (.iconst 1, 1) := dec_at kDX7_keep_0 12 rfl
theorem dX7_keep_23 : decode cX7_keep 23 = .ok (.isub, 1) := dec_at kDX7_keep_0 13 rfl
theorem dX7_keep_24 : decode cX7_keep 24 = .ok (.aload_n 0, 1) := dec_at kDX7_keep_0 14 rfl
theorem dX7_keep_25 : decode cX7_keep 25 = .ok (.getfield 17, 3) := dec_at kDX7_keep_0 15 rfl
theorem dX7_keep_28 : decode cX7_keep 28 = .ok (.iload_n 2, 1) := dec_at kDX7_keep_0 16 rfl
theorem dX7_keep_29 : decode cX7_keep 29 = .ok (.iaload, 1) := dec_at kDX7_keep_0 17 rfl
theorem dX7_keep_30 : decode cX7_keep 30 = .ok (.iastore, 1) := dec_at kDX7_keep_0 18 rfl
theorem dX7_keep_31 : decode cX7_keep 31 = .ok (.iinc 2 1, 3) := dec_at kDX7_keep_0 19 rfl
theorem dX7_keep_34 : decode cX7_keep 34 = .ok (.goto (-23), 3) := dec_at kDX7_keep_0 20 rfl
theorem dX7_keep_37 : decode cX7_keep 37 = .ok (.iconst 4, 1) := dec_at kDX7_keep_0 21 rfl
theorem dX7_keep_38 : decode cX7_keep 38 = .ok (.istore_n 2, 1) := dec_at kDX7_keep_0 22 rfl
theorem dX7_keep_39 : decode cX7_keep 39 = .ok (.iload_n 2, 1) := dec_at kDX7_keep_0 23 rfl
theorem dX7_keep_40 : decode cX7_keep 40 = .ok (.bipush 40, 2) := dec_at kDX7_keep_0 24 rfl
theorem dX7_keep_42 : decode cX7_keep 42 = .ok (.if_icmp .ge 23, 3) := dec_at kDX7_keep_0 25 rfl
theorem dX7_keep_45 : decode cX7_keep 45 = .ok (.aload_n 0, 1) := dec_at kDX7_keep_0 26 rfl
theorem dX7_keep_46 : decode cX7_keep 46 = .ok (.getfield 20, 3) := dec_at kDX7_keep_0 27 rfl
theorem dX7_keep_49 : decode cX7_keep 49 = .ok (.iload_n 2, 1) := dec_at kDX7_keep_0 28 rfl
theorem dX7_keep_50 : decode cX7_keep 50 = .ok (.iconst 4, 1) := dec_at kDX7_keep_0 29 rfl
theorem dX7_keep_51 : decode cX7_keep 51 = .ok (.isub, 1) := dec_at kDX7_keep_0 30 rfl
theorem dX7_keep_52 : decode cX7_keep 52 = .ok (.aload_n 0, 1) := dec_at kDX7_keep_0 31 rfl
theorem dX7_keep_53 : decode cX7_keep 53 = .ok (.getfield 20, 3) := dec_at kDX7_keep_0 32 rfl
theorem dX7_keep_56 : decode cX7_keep 56 = .ok (.iload_n 2, 1) := dec_at kDX7_keep_0 33 rfl
theorem dX7_keep_57 : decode cX7_keep 57 = .ok (.laload, 1) := dec_at kDX7_keep_0 34 rfl
theorem dX7_keep_58 : decode cX7_keep 58 = .ok (.lastore, 1) := dec_at kDX7_keep_0 35 rfl
theorem dX7_keep_59 : decode cX7_keep 59 = .ok (.iinc 2 1, 3) := dec_at kDX7_keep_0 36 rfl
theorem dX7_keep_62 : decode cX7_keep 62 = .ok (.goto (-23), 3) := dec_at kDX7_keep_0 37 rfl
theorem dX7_keep_65 : decode cX7_keep 65 = .ok (.aload_n 0, 1) := dec_at kDX7_keep_0 38 rfl
theorem dX7_keep_66 : decode cX7_keep 66 = .ok (.dup, 1) := dec_at kDX7_keep_0 39 rfl
theorem dX7_keep_67 : decode cX7_keep 67 = .ok (.getfield 105, 3) := dec_at kDX7_keep_0 40 rfl
theorem dX7_keep_70 : decode cX7_keep 70 = .ok (.iconst 1, 1) := dec_at kDX7_keep_0 41 rfl
theorem dX7_keep_71 : decode cX7_keep 71 = .ok (.isub, 1) := dec_at kDX7_keep_0 42 rfl
theorem dX7_keep_72 : decode cX7_keep 72 = .ok (.putfield 105, 3) := dec_at kDX7_keep_0 43 rfl
theorem dX7_keep_75 : decode cX7_keep 75 = .ok (.aload_n 0, 1) := dec_at kDX7_keep_0 44 rfl
theorem dX7_keep_76 : decode cX7_keep 76 = .ok (.getfield 17, 3) := dec_at kDX7_keep_0 45 rfl
theorem dX7_keep_79 : decode cX7_keep 79 = .ok (.aload_n 0, 1) := dec_at kDX7_keep_0 46 rfl
theorem dX7_keep_80 : decode cX7_keep 80 = .ok (.getfield 105, 3) := dec_at kDX7_keep_0 47 rfl
theorem dX7_keep_83 : decode cX7_keep 83 = .ok (.iload_n 1, 1) := dec_at kDX7_keep_0 48 rfl
theorem dX7_keep_84 : decode cX7_keep 84 = .ok (.iastore, 1) := dec_at kDX7_keep_0 49 rfl
def DX7_keep_50 : List (Nat × (Instr × Nat)) := [(85, (.iconst 0, 1)), (86, (.istore_n 2, 1)), (87, (.iload_n 2, 1)), (88, (.iconst 4, 1)), (89, (.if_icmp .ge 28, 3)), (92, (.aload_n 0, 1)), (93, (.getfield 20, 3)), (96, (.iconst 4, 1)), (97, (.aload_n 0, 1)), (98, (.getfield 105, 3)), (101, (.imul, 1)), (102, (.iload_n 2, 1)), (103, (.iadd, 1)), (104, (.aload_n 0, 1)), (105, (.iload_n 1, 1)), (106, (.iload_n 2, 1)), (107, (.invokevirtual 179, 3)), (110, (.lastore, 1)), (111, (.iinc 2 1, 3)), (114, (.goto (-27), 3)), (117, (.aload_n 0, 1)), (118, (.dup, 1)), (119, (.getfield 105, 3)), (122, (.iconst 1, 1)), (123, (.iadd, 1)), (124, (.putfield 105, 3)), (127, (.aload_n 0, 1)), (128, (.iconst 0, 1)), (129, (.putfield 108, 3)), (132, (.return_, 1))]
theorem kDX7_keep_50 : DX7_keep_50.all (fun q => decide (decode cX7_keep q.1 = .ok q.2)) = true := by decide +kernel
theorem dX7_keep_85 : decode cX7_keep 85 = .ok (.iconst 0, 1) := dec_at kDX7_keep_50 0 rfl
theorem dX7_keep_86 : decode cX7_keep 86 = .ok (.istore_n 2, 1) := dec_at kDX7_keep_50 1 rfl
theorem dX7_keep_87 : decode cX7_keep 87 = .ok (.iload_n 2, 1) := dec_at kDX7_keep_50 2 rfl
theorem dX7_keep_88 : decode cX7_keep 88 = .ok (.iconst 4, 1) := dec_at kDX7_keep_50 3 rfl
theorem dX7_keep_89 : decode cX7_keep 89 = .ok (.if_icmp .ge 28, 3) := dec_at kDX7_keep_50 4 rfl
theorem dX7_keep_92 : decode cX7_keep 92 = .ok (.aload_n 0, 1) := dec_at kDX7_keep_50 5 rfl
theorem dX7_keep_93 : decode cX7_keep 93 = .ok (.getfield 20, 3) := dec_at kDX7_keep_50 6 rfl
theorem dX7_keep_96 : decode cX7_keep 96 = .ok (.iconst 4, 1) := dec_at kDX7_keep_50 7 rfl
theorem dX7_keep_97 : decode cX7_keep 97 = .ok (.aload_n 0, 1) := dec_at kDX7_keep_50 8 rfl
theorem dX7_keep_98 : decode cX7_keep 98 = .ok (.getfield 105, 3) := dec_at kDX7_keep_50 9 rfl
theorem dX7_keep_101 : decode cX7_keep 101 = .ok (.imul, 1) := dec_at kDX7_keep_50 10 rfl
theorem dX7_keep_102 : decode cX7_keep 102 = .ok (.iload_n 2, 1) := dec_at kDX7_keep_50 11 rfl
theorem dX7_keep_103 : decode cX7_keep 103 = .ok (.iadd, 1) := dec_at kDX7_keep_50 12 rfl
theorem dX7_keep_104 : decode cX7_keep 104 = .ok (.aload_n 0, 1) := dec_at kDX7_keep_50 13 rfl
theorem dX7_keep_105 : decode cX7_keep 105 = .ok (.iload_n 1, 1) := dec_at kDX7_keep_50 14 rfl
theorem dX7_keep_106 : decode cX7_keep 106 = .ok (.iload_n 2, 1) := dec_at kDX7_keep_50 15 rfl
theorem dX7_keep_107 : decode cX7_keep 107 = .ok (.invokevirtual 179, 3) := dec_at kDX7_keep_50 16 rfl
theorem dX7_keep_110 : decode cX7_keep 110 = .ok (.lastore, 1) := dec_at kDX7_keep_50 17 rfl
theorem dX7_keep_111 : decode cX7_keep 111 = .ok (.iinc 2 1, 3) := dec_at kDX7_keep_50 18 rfl
theorem dX7_keep_114 : decode cX7_keep 114 = .ok (.goto (-27), 3) := dec_at kDX7_keep_50 19 rfl
theorem dX7_keep_117 : decode cX7_keep 117 = .ok (.aload_n 0, 1) := dec_at kDX7_keep_50 20 rfl
theorem dX7_keep_118 : decode cX7_keep 118 = .ok (.dup, 1) := dec_at kDX7_keep_50 21 rfl
theorem dX7_keep_119 : decode cX7_keep 119 = .ok (.getfield 105, 3) := dec_at kDX7_keep_50 22 rfl
theorem dX7_keep_122 : decode cX7_keep 122 = .ok (.iconst 1, 1) := dec_at kDX7_keep_50 23 rfl
theorem dX7_keep_123 : decode cX7_keep 123 = .ok (.iadd, 1) := dec_at kDX7_keep_50 24 rfl
theorem dX7_keep_124 : decode cX7_keep 124 = .ok (.putfield 105, 3) := dec_at kDX7_keep_50 25 rfl
theorem dX7_keep_127 : decode cX7_keep 127 = .ok (.aload_n 0, 1) := dec_at kDX7_keep_50 26 rfl
theorem dX7_keep_128 : decode cX7_keep 128 = .ok (.iconst 0, 1) := dec_at kDX7_keep_50 27 rfl
theorem dX7_keep_129 : decode cX7_keep 129 = .ok (.putfield 108, 3) := dec_at kDX7_keep_50 28 rfl
theorem dX7_keep_132 : decode cX7_keep 132 = .ok (.return_, 1) := dec_at kDX7_keep_50 29 rfl
def DX7_become_0 : List (Nat × (Instr × Nat)) := [(0, (.aload_n 0, 1)), (1, (.invokevirtual 182, 3)), (4, (.aload_n 0, 1)), (5, (.iload_n 1, 1)), (6, (.invokevirtual 185, 3)), (9, (.iconst 0, 1)), (10, (.istore_n 2, 1)), (11, (.iconst 0, 1)), (12, (.istore_n 3, 1)), (13, (.iload_n 3, 1)), (14, (.iconst 4, 1)), (15, (.if_icmp .ge 52, 3)), (18, (.iload_n 2, 1)), (19, (.iload_n 3, 1)), (20, (.aload_n 0, 1)), (21, (.invokevirtual 188, 3)), (24, (.if_icmp .ge 22, 3)), (27, (.aload_n 0, 1)), (28, (.iload_n 1, 1)), (29, (.iload_n 3, 1)), (30, (.invokevirtual 179, 3)), (33, (.aload_n 0, 1)), (34, (.getfield 23, 3)), (37, (.iload_n 3, 1)), (38, (.laload, 1)), (39, (.lxor, 1)), (40, (.invokestatic 191, 3)), (43, (.goto 4, 3)), (46, (.iconst 0, 1)), (47, (.iadd, 1)), (48, (.istore_n 2, 1)), (49, (.aload_n 0, 1)), (50, (.iload_n 1, 1)), (51, (.iload_n 3, 1)), (52, (.aload_n 0, 1)), (53, (.getfield 23, 3)), (56, (.iload_n 3, 1)), (57, (.laload, 1)), (58, (.invokevirtual 195, 3)), (61, (.iinc 3 1, 3)), (64, (.goto (-51), 3)), (67, (.aload_n 0, 1)), (68, (.iconst 0, 1)), (69, (.putfield 116, 3)), (72, (.iload_n 2, 1)), (73, (.ireturn, 1))]
theorem kDX7_become_0 : DX7_become_0.all (fun q => decide (decode cX7_become q.1 = .ok q.2)) = true := by decide +kernel
theorem dX7_become_0 : decode cX7_become 0 = .ok (.aload_n 0, 1) := dec_at kDX7_become_0 0 rfl
theorem dX7_become_1 : decode cX7_become 1 = .ok (.invokevirtual 182, 3) := dec_at kDX7_become_0 1 rfl
theorem dX7_become_4 : decode cX7_become 4 = .ok (.aload_n 0, 1) := dec_at kDX7_become_0 2 rfl
theorem dX7_become_5 : decode cX7_become 5 = .ok (.iload_n 1, 1) := dec_at kDX7_become_0 3 rfl
theorem dX7_become_6 : decode cX7_become 6 = .ok (.invokevirtual 185, 3) := dec_at kDX7_become_0 4 rfl
theorem dX7_become_9 : decode cX7_become 9 = .ok (.iconst 0, 1) := dec_at kDX7_become_0 5 rfl
theorem dX7_become_10 : decode cX7_become 10 = .ok (.istore_n 2, 1) := dec_at kDX7_become_0 6 rfl
theorem dX7_become_11 : decode cX7_become 11 = .ok (.iconst 0, 1) := dec_at kDX7_become_0 7 rfl
theorem dX7_become_12 : decode cX7_become 12 = .ok (.istore_n 3, 1) := dec_at kDX7_become_0 8 rfl
theorem dX7_become_13 : decode cX7_become 13 = .ok (.iload_n 3, 1) := dec_at kDX7_become_0 9 rfl
theorem dX7_become_14 : decode cX7_become 14 = .ok (.iconst 4, 1) := dec_at kDX7_become_0 10 rfl
theorem dX7_become_15 : decode cX7_become 15 = .ok (.if_icmp .ge 52, 3) := dec_at kDX7_become_0 11 rfl
theorem dX7_become_18 : decode cX7_become 18 = .ok (.iload_n 2, 1) := dec_at kDX7_become_0 12 rfl
theorem dX7_become_19 : decode cX7_become 19 = .ok (.iload_n 3, 1) := dec_at kDX7_become_0 13 rfl
theorem dX7_become_20 : decode cX7_become 20 = .ok (.aload_n 0, 1) := dec_at kDX7_become_0 14 rfl
theorem dX7_become_21 : decode cX7_become 21 = .ok (.invokevirtual 188, 3) := dec_at kDX7_become_0 15 rfl
theorem dX7_become_24 : decode cX7_become 24 = .ok (.if_icmp .ge 22, 3) := dec_at kDX7_become_0 16 rfl
theorem dX7_become_27 : decode cX7_become 27 = .ok (.aload_n 0, 1) := dec_at kDX7_become_0 17 rfl
theorem dX7_become_28 : decode cX7_become 28 = .ok (.iload_n 1, 1) := dec_at kDX7_become_0 18 rfl
theorem dX7_become_29 : decode cX7_become 29 = .ok (.iload_n 3, 1) := dec_at kDX7_become_0 19 rfl
theorem dX7_become_30 : decode cX7_become 30 = .ok (.invokevirtual 179, 3) := dec_at kDX7_become_0 20 rfl
theorem dX7_become_33 : decode cX7_become 33 = .ok (.aload_n 0, 1) := dec_at kDX7_become_0 21 rfl
theorem dX7_become_34 : decode cX7_become 34 = .ok (.getfield 23, 3) := dec_at kDX7_become_0 22 rfl
theorem dX7_become_37 : decode cX7_become 37 = .ok (.iload_n 3, 1) := dec_at kDX7_become_0 23 rfl
theorem dX7_become_38 : decode cX7_become 38 = .ok (.laload, 1) := dec_at kDX7_become_0 24 rfl
theorem dX7_become_39 : decode cX7_become 39 = .ok (.lxor, 1) := dec_at kDX7_become_0 25 rfl
theorem dX7_become_40 : decode cX7_become 40 = .ok (.invokestatic 191, 3) := dec_at kDX7_become_0 26 rfl
theorem dX7_become_43 : decode cX7_become 43 = .ok (.goto 4, 3) := dec_at kDX7_become_0 27 rfl
theorem dX7_become_46 : decode cX7_become 46 = .ok (.iconst 0, 1) := dec_at kDX7_become_0 28 rfl
theorem dX7_become_47 : decode cX7_become 47 = .ok (.iadd, 1) := dec_at kDX7_become_0 29 rfl
theorem dX7_become_48 : decode cX7_become 48 = .ok (.istore_n 2, 1) := dec_at kDX7_become_0 30 rfl
theorem dX7_become_49 : decode cX7_become 49 = .ok (.aload_n 0, 1) := dec_at kDX7_become_0 31 rfl
theorem dX7_become_50 : decode cX7_become 50 = .ok (.iload_n 1, 1) := dec_at kDX7_become_0 32 rfl
theorem dX7_become_51 : decode cX7_become 51 = .ok (.iload_n 3, 1) := dec_at kDX7_become_0 33 rfl
theorem dX7_become_52 : decode cX7_become 52 = .ok (.aload_n 0, 1) := dec_at kDX7_become_0 34 rfl
theorem dX7_become_53 : decode cX7_become 53 = .ok (.getfield 23, 3) := dec_at kDX7_become_0 35 rfl
theorem dX7_become_56 : decode cX7_become 56 = .ok (.iload_n 3, 1) := dec_at kDX7_become_0 36 rfl
theorem dX7_become_57 : decode cX7_become 57 = .ok (.laload, 1) := dec_at kDX7_become_0 37 rfl
theorem dX7_become_58 : decode cX7_become 58 = .ok (.invokevirtual 195, 3) := dec_at kDX7_become_0 38 rfl
theorem dX7_become_61 : decode cX7_become 61 = .ok (.iinc 3 1, 3) := dec_at kDX7_become_0 39 rfl
theorem dX7_become_64 : decode cX7_become 64 = .ok (.goto (-51), 3) := dec_at kDX7_become_0 40 rfl
theorem dX7_become_67 : decode cX7_become 67 = .ok (.aload_n 0, 1) := dec_at kDX7_become_0 41 rfl
theorem dX7_become_68 : decode cX7_become 68 = .ok (.iconst 0, 1) := dec_at kDX7_become_0 42 rfl
theorem dX7_become_69 : decode cX7_become 69 = .ok (.putfield 116, 3) := dec_at kDX7_become_0 43 rfl
theorem dX7_become_72 : decode cX7_become 72 = .ok (.iload_n 2, 1) := dec_at kDX7_become_0 44 rfl
theorem dX7_become_73 : decode cX7_become 73 = .ok (.ireturn, 1) := dec_at kDX7_become_0 45 rfl
def DX7_setNext_0 : List (Nat × (Instr × Nat)) := [(0, (.aload_n 0, 1)), (1, (.iload_n 1, 1)), (2, (.iconst 0, 1)), (3, (.aload_n 0, 1)), (4, (.getfield 78, 3)), (7, (.iconst 1, 1)), (8, (.isub, 1)), (9, (.invokestatic 112, 3)), (12, (.ifCond .ne 7, 3)), (15, (.iconst 1, 1)), (16, (.goto 15, 3)), (19, (.aload_n 0, 1)), (20, (.invokevirtual 141, 3)), (23, (.ifCond .eq 7, 3)), (26, (.iconst 0, 1)), (27, (.goto 4, 3)), (30, (.iconst 2, 1)), (31, (.putfield 70, 3)), (34, (.aload_n 0, 1)), (35, (.getfield 70, 3)), (38, (.ifCond .le 7, 3)), (41, (.iconst 0, 1)), (42, (.goto 8, 3)), (45, (.aload_n 0, 1)), (46, (.iload_n 1, 1)), (47, (.invokevirtual 199, 3)), (50, (.ireturn, 1))]
theorem kDX7_setNext_0 : DX7_setNext_0.all (fun q => decide (decode cX7_setNext q.1 = .ok q.2)) = true := by decide +kernel
theorem dX7_setNext_0 : decode cX7_setNext 0 = .ok (.aload_n 0, 1) := dec_at kDX7_setNext_0 0 rfl
theorem dX7_setNext_1 : decode cX7_setNext 1 = .ok (.iload_n 1, 1) := dec_at kDX7_setNext_0 1 rfl
theorem dX7_setNext_2 : decode cX7_setNext 2 = .ok (.iconst 0, 1) := dec_at kDX7_setNext_0 2 rfl
theorem dX7_setNext_3 : decode cX7_setNext 3 = .ok (.aload_n 0, 1) := dec_at kDX7_setNext_0 3 rfl
theorem dX7_setNext_4 : decode cX7_setNext 4 = .ok (.getfield 78, 3) := dec_at kDX7_setNext_0 4 rfl
theorem dX7_setNext_7 : decode cX7_setNext 7 = .ok (.iconst 1, 1) := dec_at kDX7_setNext_0 5 rfl
theorem dX7_setNext_8 : decode cX7_setNext 8 = .ok (.isub, 1) := dec_at kDX7_setNext_0 6 rfl
theorem dX7_setNext_9 : decode cX7_setNext 9 = .ok (.invokestatic 112, 3) := dec_at kDX7_setNext_0 7 rfl
theorem dX7_setNext_12 : decode cX7_setNext 12 = .ok (.ifCond .ne 7, 3) := dec_at kDX7_setNext_0 8 rfl
theorem dX7_setNext_15 : decode cX7_setNext 15 = .ok (.iconst 1, 1) := dec_at kDX7_setNext_0 9 rfl
theorem dX7_setNext_16 : decode cX7_setNext 16 = .ok (.goto 15, 3) := dec_at kDX7_setNext_0 10 rfl
theorem dX7_setNext_19 : decode cX7_setNext 19 = .ok (.aload_n 0, 1) := dec_at kDX7_setNext_0 11 rfl
theorem dX7_setNext_20 : decode cX7_setNext 20 = .ok (.invokevirtual 141, 3) := dec_at kDX7_setNext_0 12 rfl
theorem dX7_setNext_23 : decode cX7_setNext 23 = .ok (.ifCond .eq 7, 3) := dec_at kDX7_setNext_0 13 rfl
theorem dX7_setNext_26 : decode cX7_setNext 26 = .ok (.iconst 0, 1) := dec_at kDX7_setNext_0 14 rfl
theorem dX7_setNext_27 : decode cX7_setNext 27 = .ok (.goto 4, 3) := dec_at kDX7_setNext_0 15 rfl
theorem dX7_setNext_30 : decode cX7_setNext 30 = .ok (.iconst 2, 1) := dec_at kDX7_setNext_0 16 rfl
theorem dX7_setNext_31 : decode cX7_setNext 31 = .ok (.putfield 70, 3) := dec_at kDX7_setNext_0 17 rfl
theorem dX7_setNext_34 : decode cX7_setNext 34 = .ok (.aload_n 0, 1) := dec_at kDX7_setNext_0 18 rfl
theorem dX7_setNext_35 : decode cX7_setNext 35 = .ok (.getfield 70, 3) := dec_at kDX7_setNext_0 19 rfl
theorem dX7_setNext_38 : decode cX7_setNext 38 = .ok (.ifCond .le 7, 3) := dec_at kDX7_setNext_0 20 rfl
theorem dX7_setNext_41 : decode cX7_setNext 41 = .ok (.iconst 0, 1) := dec_at kDX7_setNext_0 21 rfl
theorem dX7_setNext_42 : decode cX7_setNext 42 = .ok (.goto 8, 3) := dec_at kDX7_setNext_0 22 rfl
theorem dX7_setNext_45 : decode cX7_setNext 45 = .ok (.aload_n 0, 1) := dec_at kDX7_setNext_0 23 rfl
theorem dX7_setNext_46 : decode cX7_setNext 46 = .ok (.iload_n 1, 1) := dec_at kDX7_setNext_0 24 rfl
theorem dX7_setNext_47 : decode cX7_setNext 47 = .ok (.invokevirtual 199, 3) := dec_at kDX7_setNext_0 25 rfl
theorem dX7_setNext_50 : decode cX7_setNext 50 = .ok (.ireturn, 1) := dec_at kDX7_setNext_0 26 rfl
def DX7_setInit_0 : List (Nat × (Instr × Nat)) := [(0, (.aload_n 0, 1)), (1, (.aload_n 0, 1)), (2, (.invokevirtual 202, 3)), (5, (.ifCond .eq 7, 3)), (8, (.iconst 0, 1)), (9, (.goto 4, 3)), (12, (.iconst 1, 1)), (13, (.putfield 70, 3)), (16, (.aload_n 0, 1)), (17, (.getfield 70, 3)), (20, (.ifCond .ne 10, 3)), (23, (.aload_n 0, 1)), (24, (.bipush 6, 2)), (26, (.invokevirtual 199, 3)), (29, (.pop, 1)), (30, (.aload_n 0, 1)), (31, (.getfield 70, 3)), (34, (.ifCond .le 7, 3)), (37, (.iconst 0, 1)), (38, (.goto 10, 3)), (41, (.aload_n 0, 1)), (42, (.getfield 94, 3)), (45, (.invokestatic 191, 3)), (48, (.ireturn, 1))]
theorem kDX7_setInit_0 : DX7_setInit_0.all (fun q => decide (decode cX7_setInit q.1 = .ok q.2)) = true := by decide +kernel
theorem dX7_setInit_0 : decode cX7_setInit 0 = .ok (.aload_n 0, 1) := dec_at kDX7_setInit_0 0 rfl
theorem dX7_setInit_1 : decode cX7_setInit 1 = .ok (.aload_n 0, 1) := dec_at kDX7_setInit_0 1 rfl
theorem dX7_setInit_2 : decode cX7_setInit 2 = .ok (.invokevirtual 202, 3) := dec_at kDX7_setInit_0 2 rfl
theorem dX7_setInit_5 : decode cX7_setInit 5 = .ok (.ifCond .eq 7, 3) := dec_at kDX7_setInit_0 3 rfl
theorem dX7_setInit_8 : decode cX7_setInit 8 = .ok (.iconst 0, 1) := dec_at kDX7_setInit_0 4 rfl
theorem dX7_setInit_9 : decode cX7_setInit 9 = .ok (.goto 4, 3) := dec_at kDX7_setInit_0 5 rfl
theorem dX7_setInit_12 : decode cX7_setInit 12 = .ok (.iconst 1, 1) := dec_at kDX7_setInit_0 6 rfl
theorem dX7_setInit_13 : decode cX7_setInit 13 = .ok (.putfield 70, 3) := dec_at kDX7_setInit_0 7 rfl
theorem dX7_setInit_16 : decode cX7_setInit 16 = .ok (.aload_n 0, 1) := dec_at kDX7_setInit_0 8 rfl
theorem dX7_setInit_17 : decode cX7_setInit 17 = .ok (.getfield 70, 3) := dec_at kDX7_setInit_0 9 rfl
theorem dX7_setInit_20 : decode cX7_setInit 20 = .ok (.ifCond .ne 10, 3) := dec_at kDX7_setInit_0 10 rfl
theorem dX7_setInit_23 : decode cX7_setInit 23 = .ok (.aload_n 0, 1) := dec_at kDX7_setInit_0 11 rfl
theorem dX7_setInit_24 : decode cX7_setInit 24 = .ok (.bipush 6, 2) := dec_at kDX7_setInit_0 12 rfl
theorem dX7_setInit_26 : decode cX7_setInit 26 = .ok (.invokevirtual 199, 3) := dec_at kDX7_setInit_0 13 rfl
theorem dX7_setInit_29 : decode cX7_setInit 29 = .ok (.pop, 1) := dec_at kDX7_setInit_0 14 rfl
theorem dX7_setInit_30 : decode cX7_setInit 30 = .ok (.aload_n 0, 1) := dec_at kDX7_setInit_0 15 rfl
theorem dX7_setInit_31 : decode cX7_setInit 31 = .ok (.getfield 70, 3) := dec_at kDX7_setInit_0 16 rfl
theorem dX7_setInit_34 : decode cX7_setInit 34 = .ok (.ifCond .le 7, 3) := dec_at kDX7_setInit_0 17 rfl
theorem dX7_setInit_37 : decode cX7_setInit 37 = .ok (.iconst 0, 1) := dec_at kDX7_setInit_0 18 rfl
theorem dX7_setInit_38 : decode cX7_setInit 38 = .ok (.goto 10, 3) := dec_at kDX7_setInit_0 19 rfl
theorem dX7_setInit_41 : decode cX7_setInit 41 = .ok (.aload_n 0, 1) := dec_at kDX7_setInit_0 20 rfl
theorem dX7_setInit_42 : decode cX7_setInit 42 = .ok (.getfield 94, 3) := dec_at kDX7_setInit_0 21 rfl
theorem dX7_setInit_45 : decode cX7_setInit 45 = .ok (.invokestatic 191, 3) := dec_at kDX7_setInit_0 22 rfl
theorem dX7_setInit_48 : decode cX7_setInit 48 = .ok (.ireturn, 1) := dec_at kDX7_setInit_0 23 rfl
def DX7_setProperty_0 : List (Nat × (Instr × Nat)) := [(0, (.aload_n 0, 1)), (1, (.aload_n 0, 1)), (2, (.invokevirtual 202, 3)), (5, (.ifCond .eq 7, 3)), (8, (.iconst 0, 1)), (9, (.goto 4, 3)), (12, (.iconst 1, 1)), (13, (.putfield 70, 3)), (16, (.aload_n 0, 1)), (17, (.getfield 70, 3)), (20, (.ifCond .ne 10, 3)), (23, (.aload_n 0, 1)), (24, (.bipush 7, 2)), (26, (.invokevirtual 199, 3)), (29, (.pop, 1)), (30, (.aload_n 0, 1)), (31, (.getfield 70, 3)), (34, (.ifCond .le 7, 3)), (37, (.iconst 0, 1)), (38, (.goto 10, 3)), (41, (.aload_n 0, 1)), (42, (.getfield 102, 3)), (45, (.invokestatic 191, 3)), (48, (.ireturn, 1))]
theorem kDX7_setProperty_0 : DX7_setProperty_0.all (fun q => decide (decode cX7_setProperty q.1 = .ok q.2)) = true := by decide +kernel
theorem dX7_setProperty_0 : decode cX7_setProperty 0 = .ok (.aload_n 0, 1) := dec_at kDX7_setProperty_0 0 rfl
theorem dX7_setProperty_1 : decode cX7_setProperty 1 = .ok (.aload_n 0, 1) := dec_at kDX7_setProperty_0 1 rfl
theorem dX7_setProperty_2 : decode cX7_setProperty 2 = .ok (.invokevirtual 202, 3) := dec_at kDX7_setProperty_0 2 rfl
theorem dX7_setProperty_5 : decode cX7_setProperty 5 = .ok (.ifCond .eq 7, 3) := dec_at kDX7_setProperty_0 3 rfl
theorem dX7_setProperty_8 : decode cX7_setProperty 8 = .ok (.iconst 0, 1) := dec_at kDX7_setProperty_0 4 rfl
theorem dX7_setProperty_9 : decode cX7_setProperty 9 = .ok (.goto 4, 3) := dec_at kDX7_setProperty_0 5 rfl
theorem dX7_setProperty_12 : decode cX7_setProperty 12 = .ok (.iconst 1, 1) := dec_at kDX7_setProperty_0 6 rfl
theorem dX7_setProperty_13 : decode cX7_setProperty 13 = .ok (.putfield 70, 3) := dec_at kDX7_setProperty_0 7 rfl
theorem dX7_setProperty_16 : decode cX7_setProperty 16 = .ok (.aload_n 0, 1) := dec_at kDX7_setProperty_0 8 rfl
theorem dX7_setProperty_17 : decode cX7_setProperty 17 = .ok (.getfield 70, 3) := dec_at kDX7_setProperty_0 9 rfl
theorem dX7_setProperty_20 : decode cX7_setProperty 20 = .ok (.ifCond .ne 10, 3) := dec_at kDX7_setProperty_0 10 rfl
theorem dX7_setProperty_23 : decode cX7_setProperty 23 = .ok (.aload_n 0, 1) := dec_at kDX7_setProperty_0 11 rfl
theorem dX7_setProperty_24 : decode cX7_setProperty 24 = .ok (.bipush 7, 2) := dec_at kDX7_setProperty_0 12 rfl
theorem dX7_setProperty_26 : decode cX7_setProperty 26 = .ok (.invokevirtual 199, 3) := dec_at kDX7_setProperty_0 13 rfl
theorem dX7_setProperty_29 : decode cX7_setProperty 29 = .ok (.pop, 1) := dec_at kDX7_setProperty_0 14 rfl
theorem dX7_setProperty_30 : decode cX7_setProperty 30 = .ok (.aload_n 0, 1) := dec_at kDX7_setProperty_0 15 rfl
theorem dX7_setProperty_31 : decode cX7_setProperty 31 = .ok (.getfield 70, 3) := dec_at kDX7_setProperty_0 16 rfl
theorem dX7_setProperty_34 : decode cX7_setProperty 34 = .ok (.ifCond .le 7, 3) := dec_at kDX7_setProperty_0 17 rfl
theorem dX7_setProperty_37 : decode cX7_setProperty 37 = .ok (.iconst 0, 1) := dec_at kDX7_setProperty_0 18 rfl
theorem dX7_setProperty_38 : decode cX7_setProperty 38 = .ok (.goto 10, 3) := dec_at kDX7_setProperty_0 19 rfl
theorem dX7_setProperty_41 : decode cX7_setProperty 41 = .ok (.aload_n 0, 1) := dec_at kDX7_setProperty_0 20 rfl
theorem dX7_setProperty_42 : decode cX7_setProperty 42 = .ok (.getfield 102, 3) := dec_at kDX7_setProperty_0 21 rfl
theorem dX7_setProperty_45 : decode cX7_setProperty 45 = .ok (.invokestatic 191, 3) := dec_at kDX7_setProperty_0 22 rfl
theorem dX7_setProperty_48 : decode cX7_setProperty 48 = .ok (.ireturn, 1) := dec_at kDX7_setProperty_0 23 rfl
def DX7_undo_0 : List (Nat × (Instr × Nat)) := [(0, (.aload_n 0, 1)), (1, (.aload_n 0, 1)), (2, (.getfield 105, 3)), (5, (.ifCond .le 7, 3)), (8, (.iconst 0, 1)), (9, (.goto 4, 3)), (12, (.iconst 1, 1)), (13, (.putfield 70, 3)), (16, (.aload_n 0, 1)), (17, (.getfield 70, 3)), (20, (.ifCond .le 5, 3)), (23, (.iconst 0, 1)), (24, (.ireturn, 1)), (25, (.aload_n 0, 1)), (26, (.dup, 1)), (27, (.getfield 105, 3)), (30, (.iconst 1, 1)), (31, (.isub, 1)), (32, (.putfield 105, 3)), (35, (.iconst 0, 1)), (36, (.istore_n 1, 1)), (37, (.iload_n 1, 1)), (38, (.iconst 4, 1)), (39, (.if_icmp .ge 36, 3)), (42, (.aload_n 0, 1)), (43, (.aload_n 0, 1)), (44, (.getfield 17, 3)), (47, (.aload_n 0, 1)), (48, (.getfield 105, 3)), (51, (.iaload, 1)), (52, (.iload_n 1, 1)), (53, (.aload_n 0, 1)), (54, (.getfield 20, 3)), (57, (.iconst 4, 1)), (58, (.aload_n 0, 1)), (59, (.getfield 105, 3)), (62, (.imul, 1)), (63, (.iload_n 1, 1)), (64, (.iadd, 1)), (65, (.laload, 1)), (66, (.invokevirtual 195, 3)), (69, (.iinc 1 1, 3)), (72, (.goto (-35), 3)), (75, (.aload_n 0, 1)), (76, (.iconst 0, 1)), (77, (.putfield 108, 3)), (80, (.aload_n 0, 1)), (81, (.getfield 105, 3)), (84, (.ireturn, 1))]
theorem kDX7_undo_0 : DX7_undo_0.all (fun q => decide (decode cX7_undo q.1 = .ok q.2)) = true := by decide +kernel
theorem dX7_undo_0 : decode cX7_undo 0 = .ok (.aload_n 0, 1) := dec_at kDX7_undo_0 0 rfl
theorem dX7_undo_1 : decode cX7_undo 1 = .ok (.aload_n 0, 1) := dec_at kDX7_undo_0 1 rfl
theorem dX7_undo_2 : decode cX7_undo 2 = .ok (.getfield 105, 3) := dec_at kDX7_undo_0 2 rfl
theorem dX7_undo_5 : decode cX7_undo 5 = .ok (.ifCond .le 7, 3) := dec_at kDX7_undo_0 3 rfl
theorem dX7_undo_8 : decode cX7_undo 8 = .ok (.iconst 0, 1) := dec_at kDX7_undo_0 4 rfl
theorem dX7_undo_9 : decode cX7_undo 9 = .ok (.goto 4, 3) := dec_at kDX7_undo_0 5 rfl
theorem dX7_undo_12 : decode cX7_undo 12 = .ok (.iconst 1, 1) := dec_at kDX7_undo_0 6 rfl
theorem dX7_undo_13 : decode cX7_undo 13 = .ok (.putfield 70, 3) := dec_at kDX7_undo_0 7 rfl
theorem dX7_undo_16 : decode cX7_undo 16 = .ok (.aload_n 0, 1) := dec_at kDX7_undo_0 8 rfl
theorem dX7_undo_17 : decode cX7_undo 17 = .ok (.getfield 70, 3) := dec_at kDX7_undo_0 9 rfl
theorem dX7_undo_20 : decode cX7_undo 20 = .ok (.ifCond .le 5, 3) := dec_at kDX7_undo_0 10 rfl
theorem dX7_undo_23 : decode cX7_undo 23 = .ok (.iconst 0, 1) := dec_at kDX7_undo_0 11 rfl
theorem dX7_undo_24 : decode cX7_undo 24 = .ok (.ireturn, 1) := dec_at kDX7_undo_0 12 rfl
theorem dX7_undo_25 : decode cX7_undo 25 = .ok (.aload_n 0, 1) := dec_at kDX7_undo_0 13 rfl
theorem dX7_undo_26 : decode cX7_undo 26 = .ok (.dup, 1) := dec_at kDX7_undo_0 14 rfl
theorem dX7_undo_27 : decode cX7_undo 27 = .ok (.getfield 105, 3) := dec_at kDX7_undo_0 15 rfl
theorem dX7_undo_30 : decode cX7_undo 30 = .ok (.iconst 1, 1) := dec_at kDX7_undo_0 16 rfl
theorem dX7_undo_31 : decode cX7_undo 31 = .ok (.isub, 1) := dec_at kDX7_undo_0 17 rfl
theorem dX7_undo_32 : decode cX7_undo 32 = .ok (.putfield 105, 3) := dec_at kDX7_undo_0 18 rfl
theorem dX7_undo_35 : decode cX7_undo 35 = .ok (.iconst 0, 1) := dec_at kDX7_undo_0 19 rfl
theorem dX7_undo_36 : decode cX7_undo 36 = .ok (.istore_n 1, 1) := dec_at kDX7_undo_0 20 rfl
theorem dX7_undo_37 : decode cX7_undo 37 = .ok (.iload_n 1, 1) := dec_at kDX7_undo_0 21 rfl
theorem dX7_undo_38 : decode cX7_undo 38 = .ok (.iconst 4, 1) := dec_at kDX7_undo_0 22 rfl
theorem dX7_undo_39 : decode cX7_undo 39 = .ok (.if_icmp .ge 36, 3) := dec_at kDX7_undo_0 23 rfl
theorem dX7_undo_42 : decode cX7_undo 42 = .ok (.aload_n 0, 1) := dec_at kDX7_undo_0 24 rfl
theorem dX7_undo_43 : decode cX7_undo 43 = .ok (.aload_n 0, 1) := dec_at kDX7_undo_0 25 rfl
theorem dX7_undo_44 : decode cX7_undo 44 = .ok (.getfield 17, 3) := dec_at kDX7_undo_0 26 rfl
theorem dX7_undo_47 : decode cX7_undo 47 = .ok (.aload_n 0, 1) := dec_at kDX7_undo_0 27 rfl
theorem dX7_undo_48 : decode cX7_undo 48 = .ok (.getfield 105, 3) := dec_at kDX7_undo_0 28 rfl
theorem dX7_undo_51 : decode cX7_undo 51 = .ok (.iaload, 1) := dec_at kDX7_undo_0 29 rfl
theorem dX7_undo_52 : decode cX7_undo 52 = .ok (.iload_n 1, 1) := dec_at kDX7_undo_0 30 rfl
theorem dX7_undo_53 : decode cX7_undo 53 = .ok (.aload_n 0, 1) := dec_at kDX7_undo_0 31 rfl
theorem dX7_undo_54 : decode cX7_undo 54 = .ok (.getfield 20, 3) := dec_at kDX7_undo_0 32 rfl
theorem dX7_undo_57 : decode cX7_undo 57 = .ok (.iconst 4, 1) := dec_at kDX7_undo_0 33 rfl
theorem dX7_undo_58 : decode cX7_undo 58 = .ok (.aload_n 0, 1) := dec_at kDX7_undo_0 34 rfl
theorem dX7_undo_59 : decode cX7_undo 59 = .ok (.getfield 105, 3) := dec_at kDX7_undo_0 35 rfl
theorem dX7_undo_62 : decode cX7_undo 62 = .ok (.imul, 1) := dec_at kDX7_undo_0 36 rfl
theorem dX7_undo_63 : decode cX7_undo 63 = .ok (.iload_n 1, 1) := dec_at kDX7_undo_0 37 rfl
theorem dX7_undo_64 : decode cX7_undo 64 = .ok (.iadd, 1) := dec_at kDX7_undo_0 38 rfl
theorem dX7_undo_65 : decode cX7_undo 65 = .ok (.laload, 1) := dec_at kDX7_undo_0 39 rfl
theorem dX7_undo_66 : decode cX7_undo 66 = .ok (.invokevirtual 195, 3) := dec_at kDX7_undo_0 40 rfl
theorem dX7_undo_69 : decode cX7_undo 69 = .ok (.iinc 1 1, 3) := dec_at kDX7_undo_0 41 rfl
theorem dX7_undo_72 : decode cX7_undo 72 = .ok (.goto (-35), 3) := dec_at kDX7_undo_0 42 rfl
theorem dX7_undo_75 : decode cX7_undo 75 = .ok (.aload_n 0, 1) := dec_at kDX7_undo_0 43 rfl
theorem dX7_undo_76 : decode cX7_undo 76 = .ok (.iconst 0, 1) := dec_at kDX7_undo_0 44 rfl
theorem dX7_undo_77 : decode cX7_undo 77 = .ok (.putfield 108, 3) := dec_at kDX7_undo_0 45 rfl
theorem dX7_undo_80 : decode cX7_undo 80 = .ok (.aload_n 0, 1) := dec_at kDX7_undo_0 46 rfl
theorem dX7_undo_81 : decode cX7_undo 81 = .ok (.getfield 105, 3) := dec_at kDX7_undo_0 47 rfl
theorem dX7_undo_84 : decode cX7_undo 84 = .ok (.ireturn, 1) := dec_at kDX7_undo_0 48 rfl
def DX7_successorOf_0 : List (Nat × (Instr × Nat)) := [(0, (.iconst 0, 1)), (1, (.istore_n 3, 1)), (2, (.iconst 0, 1)), (3, (.istore 4, 2)), (5, (.iload 4, 2)), (7, (.aload_n 0, 1)), (8, (.getfield 78, 3)), (11, (.if_icmp .ge 38, 3)), (14, (.iload_n 3, 1)), (15, (.aload_n 0, 1)), (16, (.getfield 7, 3)), (19, (.iconst 4, 1)), (20, (.iload 4, 2)), (22, (.imul, 1)), (23, (.iload_n 2, 1)), (24, (.iadd, 1)), (25, (.laload, 1)), (26, (.iload_n 1, 1)), (27, (.invokestatic 74, 3)), (30, (.ifCond .eq 10, 3)), (33, (.iconst 1, 1)), (34, (.iload 4, 2)), (36, (.ishl, 1)), (37, (.goto 4, 3)), (40, (.iconst 0, 1)), (41, (.ior, 1)), (42, (.istore_n 3, 1)), (43, (.iinc 4 1, 3)), (46, (.goto (-41), 3)), (49, (.iload_n 3, 1)), (50, (.ireturn, 1))]
theorem kDX7_successorOf_0 : DX7_successorOf_0.all (fun q => decide (decode cX7_successorOf q.1 = .ok q.2)) = true := by decide +kernel
theorem dX7_successorOf_0 : decode cX7_successorOf 0 = .ok (.iconst 0, 1) := dec_at kDX7_successorOf_0 0 rfl
theorem dX7_successorOf_1 : decode cX7_successorOf 1 = .ok (.istore_n 3, 1) := dec_at kDX7_successorOf_0 1 rfl
theorem dX7_successorOf_2 : decode cX7_successorOf 2 = .ok (.iconst 0, 1) := dec_at kDX7_successorOf_0 2 rfl
theorem dX7_successorOf_3 : decode cX7_successorOf 3 = .ok (.istore 4, 2) := dec_at kDX7_successorOf_0 3 rfl
theorem dX7_successorOf_5 : decode cX7_successorOf 5 = .ok (.iload 4, 2) := dec_at kDX7_successorOf_0 4 rfl
theorem dX7_successorOf_7 : decode cX7_successorOf 7 = .ok (.aload_n 0, 1) := dec_at kDX7_successorOf_0 5 rfl
theorem dX7_successorOf_8 : decode cX7_successorOf 8 = .ok (.getfield 78, 3) := dec_at kDX7_successorOf_0 6 rfl
theorem dX7_successorOf_11 : decode cX7_successorOf 11 = .ok (.if_icmp .ge 38, 3) := dec_at kDX7_successorOf_0 7 rfl
theorem dX7_successorOf_14 : decode cX7_successorOf 14 = .ok (.iload_n 3, 1) := dec_at kDX7_successorOf_0 8 rfl
theorem dX7_successorOf_15 : decode cX7_successorOf 15 = .ok (.aload_n 0, 1) := dec_at kDX7_successorOf_0 9 rfl
theorem dX7_successorOf_16 : decode cX7_successorOf 16 = .ok (.getfield 7, 3) := dec_at kDX7_successorOf_0 10 rfl
theorem dX7_successorOf_19 : decode cX7_successorOf 19 = .ok (.iconst 4, 1) := dec_at kDX7_successorOf_0 11 rfl
theorem dX7_successorOf_20 : decode cX7_successorOf 20 = .ok (.iload 4, 2) := dec_at kDX7_successorOf_0 12 rfl
theorem dX7_successorOf_22 : decode cX7_successorOf 22 = .ok (.imul, 1) := dec_at kDX7_successorOf_0 13 rfl
theorem dX7_successorOf_23 : decode cX7_successorOf 23 = .ok (.iload_n 2, 1) := dec_at kDX7_successorOf_0 14 rfl
theorem dX7_successorOf_24 : decode cX7_successorOf 24 = .ok (.iadd, 1) := dec_at kDX7_successorOf_0 15 rfl
theorem dX7_successorOf_25 : decode cX7_successorOf 25 = .ok (.laload, 1) := dec_at kDX7_successorOf_0 16 rfl
theorem dX7_successorOf_26 : decode cX7_successorOf 26 = .ok (.iload_n 1, 1) := dec_at kDX7_successorOf_0 17 rfl
theorem dX7_successorOf_27 : decode cX7_successorOf 27 = .ok (.invokestatic 74, 3) := dec_at kDX7_successorOf_0 18 rfl
theorem dX7_successorOf_30 : decode cX7_successorOf 30 = .ok (.ifCond .eq 10, 3) := dec_at kDX7_successorOf_0 19 rfl
theorem dX7_successorOf_33 : decode cX7_successorOf 33 = .ok (.iconst 1, 1) := dec_at kDX7_successorOf_0 20 rfl
theorem dX7_successorOf_34 : decode cX7_successorOf 34 = .ok (.iload 4, 2) := dec_at kDX7_successorOf_0 21 rfl
theorem dX7_successorOf_36 : decode cX7_successorOf 36 = .ok (.ishl, 1) := dec_at kDX7_successorOf_0 22 rfl
theorem dX7_successorOf_37 : decode cX7_successorOf 37 = .ok (.goto 4, 3) := dec_at kDX7_successorOf_0 23 rfl
theorem dX7_successorOf_40 : decode cX7_successorOf 40 = .ok (.iconst 0, 1) := dec_at kDX7_successorOf_0 24 rfl
theorem dX7_successorOf_41 : decode cX7_successorOf 41 = .ok (.ior, 1) := dec_at kDX7_successorOf_0 25 rfl
theorem dX7_successorOf_42 : decode cX7_successorOf 42 = .ok (.istore_n 3, 1) := dec_at kDX7_successorOf_0 26 rfl
theorem dX7_successorOf_43 : decode cX7_successorOf 43 = .ok (.iinc 4 1, 3) := dec_at kDX7_successorOf_0 27 rfl
theorem dX7_successorOf_46 : decode cX7_successorOf 46 = .ok (.goto (-41), 3) := dec_at kDX7_successorOf_0 28 rfl
theorem dX7_successorOf_49 : decode cX7_successorOf 49 = .ok (.iload_n 3, 1) := dec_at kDX7_successorOf_0 29 rfl
theorem dX7_successorOf_50 : decode cX7_successorOf 50 = .ok (.ireturn, 1) := dec_at kDX7_successorOf_0 30 rfl
def DX7_successor_0 : List (Nat × (Instr × Nat)) := [(0, (.aload_n 0, 1)), (1, (.iload_n 1, 1)), (2, (.iconst 0, 1)), (3, (.aload_n 0, 1)), (4, (.invokevirtual 86, 3)), (7, (.iconst 1, 1)), (8, (.isub, 1)), (9, (.invokestatic 112, 3)), (12, (.ifCond .ne 7, 3)), (15, (.iconst 1, 1)), (16, (.goto 22, 3)), (19, (.iload_n 2, 1)), (20, (.iconst 0, 1)), (21, (.aload_n 0, 1)), (22, (.invokevirtual 188, 3)), (25, (.iconst 1, 1)), (26, (.isub, 1)), (27, (.invokestatic 112, 3)), (30, (.ifCond .eq 7, 3)), (33, (.iconst 0, 1)), (34, (.goto 4, 3)), (37, (.iconst 2, 1)), (38, (.putfield 70, 3)), (41, (.aload_n 0, 1)), (42, (.getfield 70, 3)), (45, (.ifCond .le 7, 3)), (48, (.iconst 0, 1)), (49, (.goto 9, 3)), (52, (.aload_n 0, 1)), (53, (.iload_n 1, 1)), (54, (.iload_n 2, 1)), (55, (.invokevirtual 205, 3)), (58, (.ireturn, 1))]
theorem kDX7_successor_0 : DX7_successor_0.all (fun q => decide (decode cX7_successor q.1 = .ok q.2)) = true := by decide +kernel
theorem dX7_successor_0 : decode cX7_successor 0 = .ok (.aload_n 0, 1) := dec_at kDX7_successor_0 0 rfl
theorem dX7_successor_1 : decode cX7_successor 1 = .ok (.iload_n 1, 1) := dec_at kDX7_successor_0 1 rfl
theorem dX7_successor_2 : decode cX7_successor 2 = .ok (.iconst 0, 1) := dec_at kDX7_successor_0 2 rfl
theorem dX7_successor_3 : decode cX7_successor 3 = .ok (.aload_n 0, 1) := dec_at kDX7_successor_0 3 rfl
theorem dX7_successor_4 : decode cX7_successor 4 = .ok (.invokevirtual 86, 3) := dec_at kDX7_successor_0 4 rfl
theorem dX7_successor_7 : decode cX7_successor 7 = .ok (.iconst 1, 1) := dec_at kDX7_successor_0 5 rfl
theorem dX7_successor_8 : decode cX7_successor 8 = .ok (.isub, 1) := dec_at kDX7_successor_0 6 rfl
theorem dX7_successor_9 : decode cX7_successor 9 = .ok (.invokestatic 112, 3) := dec_at kDX7_successor_0 7 rfl
theorem dX7_successor_12 : decode cX7_successor 12 = .ok (.ifCond .ne 7, 3) := dec_at kDX7_successor_0 8 rfl
theorem dX7_successor_15 : decode cX7_successor 15 = .ok (.iconst 1, 1) := dec_at kDX7_successor_0 9 rfl
theorem dX7_successor_16 : decode cX7_successor 16 = .ok (.goto 22, 3) := dec_at kDX7_successor_0 10 rfl
theorem dX7_successor_19 : decode cX7_successor 19 = .ok (.iload_n 2, 1) := dec_at kDX7_successor_0 11 rfl
theorem dX7_successor_20 : decode cX7_successor 20 = .ok (.iconst 0, 1) := dec_at kDX7_successor_0 12 rfl
theorem dX7_successor_21 : decode cX7_successor 21 = .ok (.aload_n 0, 1) := dec_at kDX7_successor_0 13 rfl
theorem dX7_successor_22 : decode cX7_successor 22 = .ok (.invokevirtual 188, 3) := dec_at kDX7_successor_0 14 rfl
theorem dX7_successor_25 : decode cX7_successor 25 = .ok (.iconst 1, 1) := dec_at kDX7_successor_0 15 rfl
theorem dX7_successor_26 : decode cX7_successor 26 = .ok (.isub, 1) := dec_at kDX7_successor_0 16 rfl
theorem dX7_successor_27 : decode cX7_successor 27 = .ok (.invokestatic 112, 3) := dec_at kDX7_successor_0 17 rfl
theorem dX7_successor_30 : decode cX7_successor 30 = .ok (.ifCond .eq 7, 3) := dec_at kDX7_successor_0 18 rfl
theorem dX7_successor_33 : decode cX7_successor 33 = .ok (.iconst 0, 1) := dec_at kDX7_successor_0 19 rfl
theorem dX7_successor_34 : decode cX7_successor 34 = .ok (.goto 4, 3) := dec_at kDX7_successor_0 20 rfl
theorem dX7_successor_37 : decode cX7_successor 37 = .ok (.iconst 2, 1) := dec_at kDX7_successor_0 21 rfl
theorem dX7_successor_38 : decode cX7_successor 38 = .ok (.putfield 70, 3) := dec_at kDX7_successor_0 22 rfl
theorem dX7_successor_41 : decode cX7_successor 41 = .ok (.aload_n 0, 1) := dec_at kDX7_successor_0 23 rfl
theorem dX7_successor_42 : decode cX7_successor 42 = .ok (.getfield 70, 3) := dec_at kDX7_successor_0 24 rfl
theorem dX7_successor_45 : decode cX7_successor 45 = .ok (.ifCond .le 7, 3) := dec_at kDX7_successor_0 25 rfl
theorem dX7_successor_48 : decode cX7_successor 48 = .ok (.iconst 0, 1) := dec_at kDX7_successor_0 26 rfl
theorem dX7_successor_49 : decode cX7_successor 49 = .ok (.goto 9, 3) := dec_at kDX7_successor_0 27 rfl
theorem dX7_successor_52 : decode cX7_successor 52 = .ok (.aload_n 0, 1) := dec_at kDX7_successor_0 28 rfl
theorem dX7_successor_53 : decode cX7_successor 53 = .ok (.iload_n 1, 1) := dec_at kDX7_successor_0 29 rfl
theorem dX7_successor_54 : decode cX7_successor 54 = .ok (.iload_n 2, 1) := dec_at kDX7_successor_0 30 rfl
theorem dX7_successor_55 : decode cX7_successor 55 = .ok (.invokevirtual 205, 3) := dec_at kDX7_successor_0 31 rfl
theorem dX7_successor_58 : decode cX7_successor 58 = .ok (.ireturn, 1) := dec_at kDX7_successor_0 32 rfl
def DX7_successors_0 : List (Nat × (Instr × Nat)) := [(0, (.lconst 0, 1)), (1, (.lstore_n 3, 1)), (2, (.iconst 0, 1)), (3, (.istore 5, 2)), (5, (.iload 5, 2)), (7, (.aload_n 0, 1)), (8, (.invokevirtual 86, 3)), (11, (.if_icmp .ge 49, 3)), (14, (.iconst 0, 1)), (15, (.istore 6, 2)), (17, (.iload 6, 2)), (19, (.aload_n 0, 1)), (20, (.invokevirtual 188, 3)), (23, (.if_icmp .ge 31, 3)), (26, (.lload_n 1, 1)), (27, (.iload 5, 2)), (29, (.invokestatic 74, 3)), (32, (.ifCond .eq 22, 3)), (35, (.lload_n 3, 1)), (36, (.lconst 1, 1)), (37, (.aload_n 0, 1)), (38, (.iload 5, 2)), (40, (.iload 6, 2)), (42, (.invokevirtual 205, 3)), (45, (.lshl, 1)), (46, (.lor, 1)), (47, (.lstore_n 3, 1)), (48, (.iinc 6 1, 3)), (51, (.goto (-34), 3)), (54, (.iinc 5 1, 3)), (57, (.goto (-52), 3)), (60, (.lload_n 3, 1)), (61, (.lreturn, 1))]
theorem kDX7_successors_0 : DX7_successors_0.all (fun q => decide (decode cX7_successors q.1 = .ok q.2)) = true := by decide +kernel
theorem dX7_successors_0 : decode cX7_successors 0 = .ok (.lconst 0, 1) := dec_at kDX7_successors_0 0 rfl
theorem dX7_successors_1 : decode cX7_successors 1 = .ok (.lstore_n 3, 1) := dec_at kDX7_successors_0 1 rfl
theorem dX7_successors_2 : decode cX7_successors 2 = .ok (.iconst 0, 1) := dec_at kDX7_successors_0 2 rfl
theorem dX7_successors_3 : decode cX7_successors 3 = .ok (.istore 5, 2) := dec_at kDX7_successors_0 3 rfl
theorem dX7_successors_5 : decode cX7_successors 5 = .ok (.iload 5, 2) := dec_at kDX7_successors_0 4 rfl
theorem dX7_successors_7 : decode cX7_successors 7 = .ok (.aload_n 0, 1) := dec_at kDX7_successors_0 5 rfl
theorem dX7_successors_8 : decode cX7_successors 8 = .ok (.invokevirtual 86, 3) := dec_at kDX7_successors_0 6 rfl
theorem dX7_successors_11 : decode cX7_successors 11 = .ok (.if_icmp .ge 49, 3) := dec_at kDX7_successors_0 7 rfl
theorem dX7_successors_14 : decode cX7_successors 14 = .ok (.iconst 0, 1) := dec_at kDX7_successors_0 8 rfl
theorem dX7_successors_15 : decode cX7_successors 15 = .ok (.istore 6, 2) := dec_at kDX7_successors_0 9 rfl
theorem dX7_successors_17 : decode cX7_successors 17 = .ok (.iload 6, 2) := dec_at kDX7_successors_0 10 rfl
theorem dX7_successors_19 : decode cX7_successors 19 = .ok (.aload_n 0, 1) := dec_at kDX7_successors_0 11 rfl
theorem dX7_successors_20 : decode cX7_successors 20 = .ok (.invokevirtual 188, 3) := dec_at kDX7_successors_0 12 rfl
theorem dX7_successors_23 : decode cX7_successors 23 = .ok (.if_icmp .ge 31, 3) := dec_at kDX7_successors_0 13 rfl
theorem dX7_successors_26 : decode cX7_successors 26 = .ok (.lload_n 1, 1) := dec_at kDX7_successors_0 14 rfl
theorem dX7_successors_27 : decode cX7_successors 27 = .ok (.iload 5, 2) := dec_at kDX7_successors_0 15 rfl
theorem dX7_successors_29 : decode cX7_successors 29 = .ok (.invokestatic 74, 3) := dec_at kDX7_successors_0 16 rfl
theorem dX7_successors_32 : decode cX7_successors 32 = .ok (.ifCond .eq 22, 3) := dec_at kDX7_successors_0 17 rfl
theorem dX7_successors_35 : decode cX7_successors 35 = .ok (.lload_n 3, 1) := dec_at kDX7_successors_0 18 rfl
theorem dX7_successors_36 : decode cX7_successors 36 = .ok (.lconst 1, 1) := dec_at kDX7_successors_0 19 rfl
theorem dX7_successors_37 : decode cX7_successors 37 = .ok (.aload_n 0, 1) := dec_at kDX7_successors_0 20 rfl
theorem dX7_successors_38 : decode cX7_successors 38 = .ok (.iload 5, 2) := dec_at kDX7_successors_0 21 rfl
theorem dX7_successors_40 : decode cX7_successors 40 = .ok (.iload 6, 2) := dec_at kDX7_successors_0 22 rfl
theorem dX7_successors_42 : decode cX7_successors 42 = .ok (.invokevirtual 205, 3) := dec_at kDX7_successors_0 23 rfl
theorem dX7_successors_45 : decode cX7_successors 45 = .ok (.lshl, 1) := dec_at kDX7_successors_0 24 rfl
theorem dX7_successors_46 : decode cX7_successors 46 = .ok (.lor, 1) := dec_at kDX7_successors_0 25 rfl
theorem dX7_successors_47 : decode cX7_successors 47 = .ok (.lstore_n 3, 1) := dec_at kDX7_successors_0 26 rfl
theorem dX7_successors_48 : decode cX7_successors 48 = .ok (.iinc 6 1, 3) := dec_at kDX7_successors_0 27 rfl
theorem dX7_successors_51 : decode cX7_successors 51 = .ok (.goto (-34), 3) := dec_at kDX7_successors_0 28 rfl
theorem dX7_successors_54 : decode cX7_successors 54 = .ok (.iinc 5 1, 3) := dec_at kDX7_successors_0 29 rfl
theorem dX7_successors_57 : decode cX7_successors 57 = .ok (.goto (-52), 3) := dec_at kDX7_successors_0 30 rfl
theorem dX7_successors_60 : decode cX7_successors 60 = .ok (.lload_n 3, 1) := dec_at kDX7_successors_0 31 rfl
theorem dX7_successors_61 : decode cX7_successors 61 = .ok (.lreturn, 1) := dec_at kDX7_successors_0 32 rfl
def DX7_before_0 : List (Nat × (Instr × Nat)) := [(0, (.lconst 0, 1)), (1, (.lstore_n 3, 1)), (2, (.iconst 0, 1)), (3, (.istore 5, 2)), (5, (.iload 5, 2)), (7, (.aload_n 0, 1)), (8, (.invokevirtual 86, 3)), (11, (.if_icmp .ge 53, 3)), (14, (.iconst 0, 1)), (15, (.istore 6, 2)), (17, (.iload 6, 2)), (19, (.aload_n 0, 1)), (20, (.invokevirtual 188, 3)), (23, (.if_icmp .ge 35, 3)), (26, (.lload_n 3, 1)), (27, (.lload_n 1, 1)), (28, (.aload_n 0, 1)), (29, (.iload 5, 2)), (31, (.iload 6, 2)), (33, (.invokevirtual 205, 3)), (36, (.invokestatic 74, 3)), (39, (.ifCond .eq 10, 3)), (42, (.lconst 1, 1)), (43, (.iload 5, 2)), (45, (.lshl, 1)), (46, (.goto 4, 3)), (49, (.lconst 0, 1)), (50, (.lor, 1)), (51, (.lstore_n 3, 1)), (52, (.iinc 6 1, 3)), (55, (.goto (-38), 3)), (58, (.iinc 5 1, 3)), (61, (.goto (-56), 3)), (64, (.lload_n 3, 1)), (65, (.lreturn, 1))]
theorem kDX7_before_0 : DX7_before_0.all (fun q => decide (decode cX7_before q.1 = .ok q.2)) = true := by decide +kernel
theorem dX7_before_0 : decode cX7_before 0 = .ok (.lconst 0, 1) := dec_at kDX7_before_0 0 rfl
theorem dX7_before_1 : decode cX7_before 1 = .ok (.lstore_n 3, 1) := dec_at kDX7_before_0 1 rfl
theorem dX7_before_2 : decode cX7_before 2 = .ok (.iconst 0, 1) := dec_at kDX7_before_0 2 rfl
theorem dX7_before_3 : decode cX7_before 3 = .ok (.istore 5, 2) := dec_at kDX7_before_0 3 rfl
theorem dX7_before_5 : decode cX7_before 5 = .ok (.iload 5, 2) := dec_at kDX7_before_0 4 rfl
theorem dX7_before_7 : decode cX7_before 7 = .ok (.aload_n 0, 1) := dec_at kDX7_before_0 5 rfl
theorem dX7_before_8 : decode cX7_before 8 = .ok (.invokevirtual 86, 3) := dec_at kDX7_before_0 6 rfl
theorem dX7_before_11 : decode cX7_before 11 = .ok (.if_icmp .ge 53, 3) := dec_at kDX7_before_0 7 rfl
theorem dX7_before_14 : decode cX7_before 14 = .ok (.iconst 0, 1) := dec_at kDX7_before_0 8 rfl
theorem dX7_before_15 : decode cX7_before 15 = .ok (.istore 6, 2) := dec_at kDX7_before_0 9 rfl
theorem dX7_before_17 : decode cX7_before 17 = .ok (.iload 6, 2) := dec_at kDX7_before_0 10 rfl
theorem dX7_before_19 : decode cX7_before 19 = .ok (.aload_n 0, 1) := dec_at kDX7_before_0 11 rfl
theorem dX7_before_20 : decode cX7_before 20 = .ok (.invokevirtual 188, 3) := dec_at kDX7_before_0 12 rfl
theorem dX7_before_23 : decode cX7_before 23 = .ok (.if_icmp .ge 35, 3) := dec_at kDX7_before_0 13 rfl
theorem dX7_before_26 : decode cX7_before 26 = .ok (.lload_n 3, 1) := dec_at kDX7_before_0 14 rfl
theorem dX7_before_27 : decode cX7_before 27 = .ok (.lload_n 1, 1) := dec_at kDX7_before_0 15 rfl
theorem dX7_before_28 : decode cX7_before 28 = .ok (.aload_n 0, 1) := dec_at kDX7_before_0 16 rfl
theorem dX7_before_29 : decode cX7_before 29 = .ok (.iload 5, 2) := dec_at kDX7_before_0 17 rfl
theorem dX7_before_31 : decode cX7_before 31 = .ok (.iload 6, 2) := dec_at kDX7_before_0 18 rfl
theorem dX7_before_33 : decode cX7_before 33 = .ok (.invokevirtual 205, 3) := dec_at kDX7_before_0 19 rfl
theorem dX7_before_36 : decode cX7_before 36 = .ok (.invokestatic 74, 3) := dec_at kDX7_before_0 20 rfl
theorem dX7_before_39 : decode cX7_before 39 = .ok (.ifCond .eq 10, 3) := dec_at kDX7_before_0 21 rfl
theorem dX7_before_42 : decode cX7_before 42 = .ok (.lconst 1, 1) := dec_at kDX7_before_0 22 rfl
theorem dX7_before_43 : decode cX7_before 43 = .ok (.iload 5, 2) := dec_at kDX7_before_0 23 rfl
theorem dX7_before_45 : decode cX7_before 45 = .ok (.lshl, 1) := dec_at kDX7_before_0 24 rfl
theorem dX7_before_46 : decode cX7_before 46 = .ok (.goto 4, 3) := dec_at kDX7_before_0 25 rfl
theorem dX7_before_49 : decode cX7_before 49 = .ok (.lconst 0, 1) := dec_at kDX7_before_0 26 rfl
theorem dX7_before_50 : decode cX7_before 50 = .ok (.lor, 1) := dec_at kDX7_before_0 27 rfl
theorem dX7_before_51 : decode cX7_before 51 = .ok (.lstore_n 3, 1) := dec_at kDX7_before_0 28 rfl
theorem dX7_before_52 : decode cX7_before 52 = .ok (.iinc 6 1, 3) := dec_at kDX7_before_0 29 rfl
theorem dX7_before_55 : decode cX7_before 55 = .ok (.goto (-38), 3) := dec_at kDX7_before_0 30 rfl
theorem dX7_before_58 : decode cX7_before 58 = .ok (.iinc 5 1, 3) := dec_at kDX7_before_0 31 rfl
theorem dX7_before_61 : decode cX7_before 61 = .ok (.goto (-56), 3) := dec_at kDX7_before_0 32 rfl
theorem dX7_before_64 : decode cX7_before 64 = .ok (.lload_n 3, 1) := dec_at kDX7_before_0 33 rfl
theorem dX7_before_65 : decode cX7_before 65 = .ok (.lreturn, 1) := dec_at kDX7_before_0 34 rfl
def DX7_allBefore_0 : List (Nat × (Instr × Nat)) := [(0, (.aload_n 0, 1)), (1, (.invokevirtual 98, 3)), (4, (.aload_n 0, 1)), (5, (.aload_n 0, 1)), (6, (.invokevirtual 98, 3)), (9, (.lload_n 1, 1)), (10, (.ldc2_w 84, 3)), (13, (.lxor, 1)), (14, (.land, 1)), (15, (.invokevirtual 209, 3)), (18, (.ldc2_w 84, 3)), (21, (.lxor, 1)), (22, (.land, 1)), (23, (.lreturn, 1))]
theorem kDX7_allBefore_0 : DX7_allBefore_0.all (fun q => decide (decode cX7_allBefore q.1 = .ok q.2)) = true := by decide +kernel
theorem dX7_allBefore_0 : decode cX7_allBefore 0 = .ok (.aload_n 0, 1) := dec_at kDX7_allBefore_0 0 rfl
theorem dX7_allBefore_1 : decode cX7_allBefore 1 = .ok (.invokevirtual 98, 3) := dec_at kDX7_allBefore_0 1 rfl
theorem dX7_allBefore_4 : decode cX7_allBefore 4 = .ok (.aload_n 0, 1) := dec_at kDX7_allBefore_0 2 rfl
theorem dX7_allBefore_5 : decode cX7_allBefore 5 = .ok (.aload_n 0, 1) := dec_at kDX7_allBefore_0 3 rfl
theorem dX7_allBefore_6 : decode cX7_allBefore 6 = .ok (.invokevirtual 98, 3) := dec_at kDX7_allBefore_0 4 rfl
theorem dX7_allBefore_9 : decode cX7_allBefore 9 = .ok (.lload_n 1, 1) := dec_at kDX7_allBefore_0 5 rfl
theorem dX7_allBefore_10 : decode cX7_allBefore 10 = .ok (.ldc2_w 84, 3) := dec_at kDX7_allBefore_0 6 rfl
theorem dX7_allBefore_13 : decode cX7_allBefore 13 = .ok (.lxor, 1) := dec_at kDX7_allBefore_0 7 rfl
theorem dX7_allBefore_14 : decode cX7_allBefore 14 = .ok (.land, 1) := dec_at kDX7_allBefore_0 8 rfl
theorem dX7_allBefore_15 : decode cX7_allBefore 15 = .ok (.invokevirtual 209, 3) := dec_at kDX7_allBefore_0 9 rfl
theorem dX7_allBefore_18 : decode cX7_allBefore 18 = .ok (.ldc2_w 84, 3) := dec_at kDX7_allBefore_0 10 rfl
theorem dX7_allBefore_21 : decode cX7_allBefore 21 = .ok (.lxor, 1) := dec_at kDX7_allBefore_0 11 rfl
theorem dX7_allBefore_22 : decode cX7_allBefore 22 = .ok (.land, 1) := dec_at kDX7_allBefore_0 12 rfl
theorem dX7_allBefore_23 : decode cX7_allBefore 23 = .ok (.lreturn, 1) := dec_at kDX7_allBefore_0 13 rfl
def DX7_bad_0 : List (Nat × (Instr × Nat)) := [(0, (.aload_n 0, 1)), (1, (.invokevirtual 98, 3)), (4, (.aload_n 0, 1)), (5, (.getfield 102, 3)), (8, (.ldc2_w 84, 3)), (11, (.lxor, 1)), (12, (.land, 1)), (13, (.lreturn, 1))]
theorem kDX7_bad_0 : DX7_bad_0.all (fun q => decide (decode cX7_bad q.1 = .ok q.2)) = true := by decide +kernel
theorem dX7_bad_0 : decode cX7_bad 0 = .ok (.aload_n 0, 1) := dec_at kDX7_bad_0 0 rfl
theorem dX7_bad_1 : decode cX7_bad 1 = .ok (.invokevirtual 98, 3) := dec_at kDX7_bad_0 1 rfl
theorem dX7_bad_4 : decode cX7_bad 4 = .ok (.aload_n 0, 1) := dec_at kDX7_bad_0 2 rfl
theorem dX7_bad_5 : decode cX7_bad 5 = .ok (.getfield 102, 3) := dec_at kDX7_bad_0 3 rfl
theorem dX7_bad_8 : decode cX7_bad 8 = .ok (.ldc2_w 84, 3) := dec_at kDX7_bad_0 4 rfl
theorem dX7_bad_11 : decode cX7_bad 11 = .ok (.lxor, 1) := dec_at kDX7_bad_0 5 rfl
theorem dX7_bad_12 : decode cX7_bad 12 = .ok (.land, 1) := dec_at kDX7_bad_0 6 rfl
theorem dX7_bad_13 : decode cX7_bad 13 = .ok (.lreturn, 1) := dec_at kDX7_bad_0 7 rfl
def DX7_layFar_0 : List (Nat × (Instr × Nat)) := [(0, (.iconst 0, 1)), (1, (.istore 4, 2)), (3, (.iload 4, 2)), (5, (.bipush 64, 2)), (7, (.if_icmp .ge 17, 3)), (10, (.aload_n 0, 1)), (11, (.getfield 29, 3)), (14, (.iload 4, 2)), (16, (.iconst (-1), 1)), (17, (.iastore, 1)), (18, (.iinc 4 1, 3)), (21, (.goto (-18), 3)), (24, (.lconst 0, 1)), (25, (.lstore 4, 2)), (27, (.lload_n 1, 1)), (28, (.lstore 6, 2)), (30, (.iconst 0, 1)), (31, (.istore 8, 2)), (33, (.lload 6, 2)), (35, (.lconst 0, 1)), (36, (.lcmp, 1)), (37, (.ifCond .eq 91, 3)), (40, (.iconst 0, 1)), (41, (.istore 9, 2)), (43, (.iload 9, 2)), (45, (.aload_n 0, 1)), (46, (.invokevirtual 86, 3)), (49, (.if_icmp .ge 38, 3)), (52, (.aload_n 0, 1)), (53, (.getfield 29, 3)), (56, (.iload 9, 2)), (58, (.lload 6, 2)), (60, (.iload 9, 2)), (62, (.invokestatic 74, 3)), (65, (.ifCond .eq 8, 3)), (68, (.iload 8, 2)), (70, (.goto 10, 3)), (73, (.aload_n 0, 1)), (74, (.getfield 29, 3)), (77, (.iload 9, 2)), (79, (.iaload, 1)), (80, (.iastore, 1)), (81, (.iinc 9 1, 3)), (84, (.goto (-41), 3)), (87, (.lload 4, 2)), (89, (.lload 6, 2)), (91, (.lor, 1)), (92, (.lstore 4, 2)), (94, (.iload_n 3, 1)), (95, (.ifCond .eq 12, 3))]
theorem kDX7_layFar_0 : DX7_layFar_0.all (fun q => decide (decode cX7_layFar q.1 = .ok q.2)) = true := by decide +kernel
theorem dX7_layFar_0 : decode cX7_layFar 0 = .ok (.iconst 0, 1) := dec_at kDX7_layFar_0 0 rfl
theorem dX7_layFar_1 : decode cX7_layFar 1 = .ok (.istore 4, 2) := dec_at kDX7_layFar_0 1 rfl
theorem dX7_layFar_3 : decode cX7_layFar 3 = .ok (.iload 4, 2) := dec_at kDX7_layFar_0 2 rfl
theorem dX7_layFar_5 : decode cX7_layFar 5 = .ok (.bipush 64, 2) := dec_at kDX7_layFar_0 3 rfl
theorem dX7_layFar_7 : decode cX7_layFar 7 = .ok (.if_icmp .ge 17, 3) := dec_at kDX7_layFar_0 4 rfl
theorem dX7_layFar_10 : decode cX7_layFar 10 = .ok (.aload_n 0, 1) := dec_at kDX7_layFar_0 5 rfl
theorem dX7_layFar_11 : decode cX7_layFar 11 = .ok (.getfield 29, 3) := dec_at kDX7_layFar_0 6 rfl
theorem dX7_layFar_14 : decode cX7_layFar 14 = .ok (.iload 4, 2) := dec_at kDX7_layFar_0 7 rfl
theorem dX7_layFar_16 : decode cX7_layFar 16 = .ok (.iconst (-1), 1) := dec_at kDX7_layFar_0 8 rfl
theorem dX7_layFar_17 : decode cX7_layFar 17 = .ok (.iastore, 1) := dec_at kDX7_layFar_0 9 rfl
theorem dX7_layFar_18 : decode cX7_layFar 18 = .ok (.iinc 4 1, 3) := dec_at kDX7_layFar_0 10 rfl
theorem dX7_layFar_21 : decode cX7_layFar 21 = .ok (.goto (-18), 3) := dec_at kDX7_layFar_0 11 rfl
theorem dX7_layFar_24 : decode cX7_layFar 24 = .ok (.lconst 0, 1) := dec_at kDX7_layFar_0 12 rfl
theorem dX7_layFar_25 : decode cX7_layFar 25 = .ok (.lstore 4, 2) := dec_at kDX7_layFar_0 13 rfl
theorem dX7_layFar_27 : decode cX7_layFar 27 = .ok (.lload_n 1, 1) := dec_at kDX7_layFar_0 14 rfl
theorem dX7_layFar_28 : decode cX7_layFar 28 = .ok (.lstore 6, 2) := dec_at kDX7_layFar_0 15 rfl
theorem dX7_layFar_30 : decode cX7_layFar 30 = .ok (.iconst 0, 1) := dec_at kDX7_layFar_0 16 rfl
theorem dX7_layFar_31 : decode cX7_layFar 31 = .ok (.istore 8, 2) := dec_at kDX7_layFar_0 17 rfl
theorem dX7_layFar_33 : decode cX7_layFar 33 = .ok (.lload 6, 2) := dec_at kDX7_layFar_0 18 rfl
theorem dX7_layFar_35 : decode cX7_layFar 35 = .ok (.lconst 0, 1) := dec_at kDX7_layFar_0 19 rfl
theorem dX7_layFar_36 : decode cX7_layFar 36 = .ok (.lcmp, 1) := dec_at kDX7_layFar_0 20 rfl
theorem dX7_layFar_37 : decode cX7_layFar 37 = .ok (.ifCond .eq 91, 3) := dec_at kDX7_layFar_0 21 rfl
theorem dX7_layFar_40 : decode cX7_layFar 40 = .ok (.iconst 0, 1) := dec_at kDX7_layFar_0 22 rfl
theorem dX7_layFar_41 : decode cX7_layFar 41 = .ok (.istore 9, 2) := dec_at kDX7_layFar_0 23 rfl
theorem dX7_layFar_43 : decode cX7_layFar 43 = .ok (.iload 9, 2) := dec_at kDX7_layFar_0 24 rfl
theorem dX7_layFar_45 : decode cX7_layFar 45 = .ok (.aload_n 0, 1) := dec_at kDX7_layFar_0 25 rfl
theorem dX7_layFar_46 : decode cX7_layFar 46 = .ok (.invokevirtual 86, 3) := dec_at kDX7_layFar_0 26 rfl
theorem dX7_layFar_49 : decode cX7_layFar 49 = .ok (.if_icmp .ge 38, 3) := dec_at kDX7_layFar_0 27 rfl
theorem dX7_layFar_52 : decode cX7_layFar 52 = .ok (.aload_n 0, 1) := dec_at kDX7_layFar_0 28 rfl
theorem dX7_layFar_53 : decode cX7_layFar 53 = .ok (.getfield 29, 3) := dec_at kDX7_layFar_0 29 rfl
theorem dX7_layFar_56 : decode cX7_layFar 56 = .ok (.iload 9, 2) := dec_at kDX7_layFar_0 30 rfl
theorem dX7_layFar_58 : decode cX7_layFar 58 = .ok (.lload 6, 2) := dec_at kDX7_layFar_0 31 rfl
theorem dX7_layFar_60 : decode cX7_layFar 60 = .ok (.iload 9, 2) := dec_at kDX7_layFar_0 32 rfl
theorem dX7_layFar_62 : decode cX7_layFar 62 = .ok (.invokestatic 74, 3) := dec_at kDX7_layFar_0 33 rfl
theorem dX7_layFar_65 : decode cX7_layFar 65 = .ok (.ifCond .eq 8, 3) := dec_at kDX7_layFar_0 34 rfl
theorem dX7_layFar_68 : decode cX7_layFar 68 = .ok (.iload 8, 2) := dec_at kDX7_layFar_0 35 rfl
theorem dX7_layFar_70 : decode cX7_layFar 70 = .ok (.goto 10, 3) := dec_at kDX7_layFar_0 36 rfl
theorem dX7_layFar_73 : decode cX7_layFar 73 = .ok (.aload_n 0, 1) := dec_at kDX7_layFar_0 37 rfl
theorem dX7_layFar_74 : decode cX7_layFar 74 = .ok (.getfield 29, 3) := dec_at kDX7_layFar_0 38 rfl
theorem dX7_layFar_77 : decode cX7_layFar 77 = .ok (.iload 9, 2) := dec_at kDX7_layFar_0 39 rfl
theorem dX7_layFar_79 : decode cX7_layFar 79 = .ok (.iaload, 1) := dec_at kDX7_layFar_0 40 rfl
theorem dX7_layFar_80 : decode cX7_layFar 80 = .ok (.iastore, 1) := dec_at kDX7_layFar_0 41 rfl
theorem dX7_layFar_81 : decode cX7_layFar 81 = .ok (.iinc 9 1, 3) := dec_at kDX7_layFar_0 42 rfl
theorem dX7_layFar_84 : decode cX7_layFar 84 = .ok (.goto (-41), 3) := dec_at kDX7_layFar_0 43 rfl
theorem dX7_layFar_87 : decode cX7_layFar 87 = .ok (.lload 4, 2) := dec_at kDX7_layFar_0 44 rfl
theorem dX7_layFar_89 : decode cX7_layFar 89 = .ok (.lload 6, 2) := dec_at kDX7_layFar_0 45 rfl
theorem dX7_layFar_91 : decode cX7_layFar 91 = .ok (.lor, 1) := dec_at kDX7_layFar_0 46 rfl
theorem dX7_layFar_92 : decode cX7_layFar 92 = .ok (.lstore 4, 2) := dec_at kDX7_layFar_0 47 rfl
theorem dX7_layFar_94 : decode cX7_layFar 94 = .ok (.iload_n 3, 1) := dec_at kDX7_layFar_0 48 rfl
theorem dX7_layFar_95 : decode cX7_layFar 95 = .ok (.ifCond .eq 12, 3) := dec_at kDX7_layFar_0 49 rfl
def DX7_layFar_50 : List (Nat × (Instr × Nat)) := [(98, (.aload_n 0, 1)), (99, (.lload 6, 2)), (101, (.invokevirtual 209, 3)), (104, (.goto 9, 3)), (107, (.aload_n 0, 1)), (108, (.lload 6, 2)), (110, (.invokevirtual 213, 3)), (113, (.lload 4, 2)), (115, (.ldc2_w 84, 3)), (118, (.lxor, 1)), (119, (.land, 1)), (120, (.lstore 6, 2)), (122, (.iinc 8 1, 3)), (125, (.goto (-92), 3)), (128, (.return_, 1))]
theorem kDX7_layFar_50 : DX7_layFar_50.all (fun q => decide (decode cX7_layFar q.1 = .ok q.2)) = true := by decide +kernel
theorem dX7_layFar_98 : decode cX7_layFar 98 = .ok (.aload_n 0, 1) := dec_at kDX7_layFar_50 0 rfl
theorem dX7_layFar_99 : decode cX7_layFar 99 = .ok (.lload 6, 2) := dec_at kDX7_layFar_50 1 rfl
theorem dX7_layFar_101 : decode cX7_layFar 101 = .ok (.invokevirtual 209, 3) := dec_at kDX7_layFar_50 2 rfl
theorem dX7_layFar_104 : decode cX7_layFar 104 = .ok (.goto 9, 3) := dec_at kDX7_layFar_50 3 rfl
theorem dX7_layFar_107 : decode cX7_layFar 107 = .ok (.aload_n 0, 1) := dec_at kDX7_layFar_50 4 rfl
theorem dX7_layFar_108 : decode cX7_layFar 108 = .ok (.lload 6, 2) := dec_at kDX7_layFar_50 5 rfl
theorem dX7_layFar_110 : decode cX7_layFar 110 = .ok (.invokevirtual 213, 3) := dec_at kDX7_layFar_50 6 rfl
theorem dX7_layFar_113 : decode cX7_layFar 113 = .ok (.lload 4, 2) := dec_at kDX7_layFar_50 7 rfl
theorem dX7_layFar_115 : decode cX7_layFar 115 = .ok (.ldc2_w 84, 3) := dec_at kDX7_layFar_50 8 rfl
theorem dX7_layFar_118 : decode cX7_layFar 118 = .ok (.lxor, 1) := dec_at kDX7_layFar_50 9 rfl
theorem dX7_layFar_119 : decode cX7_layFar 119 = .ok (.land, 1) := dec_at kDX7_layFar_50 10 rfl
theorem dX7_layFar_120 : decode cX7_layFar 120 = .ok (.lstore 6, 2) := dec_at kDX7_layFar_50 11 rfl
theorem dX7_layFar_122 : decode cX7_layFar 122 = .ok (.iinc 8 1, 3) := dec_at kDX7_layFar_50 12 rfl
theorem dX7_layFar_125 : decode cX7_layFar 125 = .ok (.goto (-92), 3) := dec_at kDX7_layFar_50 13 rfl
theorem dX7_layFar_128 : decode cX7_layFar 128 = .ok (.return_, 1) := dec_at kDX7_layFar_50 14 rfl
def DX7_areAlike_0 : List (Nat × (Instr × Nat)) := [(0, (.aload_n 0, 1)), (1, (.getfield 32, 3)), (4, (.iload_n 1, 1)), (5, (.iaload, 1)), (6, (.aload_n 0, 1)), (7, (.getfield 32, 3)), (10, (.iload_n 2, 1)), (11, (.iaload, 1)), (12, (.if_icmp .ne 7, 3)), (15, (.iconst 1, 1)), (16, (.goto 4, 3)), (19, (.iconst 0, 1)), (20, (.istore_n 3, 1)), (21, (.iconst 0, 1)), (22, (.istore 4, 2)), (24, (.iload 4, 2)), (26, (.aload_n 0, 1)), (27, (.invokevirtual 188, 3)), (30, (.if_icmp .ge 46, 3)), (33, (.iload_n 3, 1)), (34, (.ifCond .eq 34, 3)), (37, (.aload_n 0, 1)), (38, (.getfield 32, 3)), (41, (.aload_n 0, 1)), (42, (.iload_n 1, 1)), (43, (.iload 4, 2)), (45, (.invokevirtual 205, 3)), (48, (.iaload, 1)), (49, (.aload_n 0, 1)), (50, (.getfield 32, 3)), (53, (.aload_n 0, 1)), (54, (.iload_n 2, 1)), (55, (.iload 4, 2)), (57, (.invokevirtual 205, 3)), (60, (.iaload, 1)), (61, (.if_icmp .ne 7, 3)), (64, (.iconst 1, 1)), (65, (.goto 4, 3)), (68, (.iconst 0, 1)), (69, (.istore_n 3, 1)), (70, (.iinc 4 1, 3)), (73, (.goto (-49), 3)), (76, (.iload_n 3, 1)), (77, (.ireturn, 1))]
theorem kDX7_areAlike_0 : DX7_areAlike_0.all (fun q => decide (decode cX7_areAlike q.1 = .ok q.2)) = true := by decide +kernel
theorem dX7_areAlike_0 : decode cX7_areAlike 0 = .ok (.aload_n 0, 1) := dec_at kDX7_areAlike_0 0 rfl
theorem dX7_areAlike_1 : decode cX7_areAlike 1 = .ok (.getfield 32, 3) := dec_at kDX7_areAlike_0 1 rfl
theorem dX7_areAlike_4 : decode cX7_areAlike 4 = .ok (.iload_n 1, 1) := dec_at kDX7_areAlike_0 2 rfl
theorem dX7_areAlike_5 : decode cX7_areAlike 5 = .ok (.iaload, 1) := dec_at kDX7_areAlike_0 3 rfl
theorem dX7_areAlike_6 : decode cX7_areAlike 6 = .ok (.aload_n 0, 1) := dec_at kDX7_areAlike_0 4 rfl
theorem dX7_areAlike_7 : decode cX7_areAlike 7 = .ok (.getfield 32, 3) := dec_at kDX7_areAlike_0 5 rfl
theorem dX7_areAlike_10 : decode cX7_areAlike 10 = .ok (.iload_n 2, 1) := dec_at kDX7_areAlike_0 6 rfl
theorem dX7_areAlike_11 : decode cX7_areAlike 11 = .ok (.iaload, 1) := dec_at kDX7_areAlike_0 7 rfl
theorem dX7_areAlike_12 : decode cX7_areAlike 12 = .ok (.if_icmp .ne 7, 3) := dec_at kDX7_areAlike_0 8 rfl
theorem dX7_areAlike_15 : decode cX7_areAlike 15 = .ok (.iconst 1, 1) := dec_at kDX7_areAlike_0 9 rfl
theorem dX7_areAlike_16 : decode cX7_areAlike 16 = .ok (.goto 4, 3) := dec_at kDX7_areAlike_0 10 rfl
theorem dX7_areAlike_19 : decode cX7_areAlike 19 = .ok (.iconst 0, 1) := dec_at kDX7_areAlike_0 11 rfl
theorem dX7_areAlike_20 : decode cX7_areAlike 20 = .ok (.istore_n 3, 1) := dec_at kDX7_areAlike_0 12 rfl
theorem dX7_areAlike_21 : decode cX7_areAlike 21 = .ok (.iconst 0, 1) := dec_at kDX7_areAlike_0 13 rfl
theorem dX7_areAlike_22 : decode cX7_areAlike 22 = .ok (.istore 4, 2) := dec_at kDX7_areAlike_0 14 rfl
theorem dX7_areAlike_24 : decode cX7_areAlike 24 = .ok (.iload 4, 2) := dec_at kDX7_areAlike_0 15 rfl
theorem dX7_areAlike_26 : decode cX7_areAlike 26 = .ok (.aload_n 0, 1) := dec_at kDX7_areAlike_0 16 rfl
theorem dX7_areAlike_27 : decode cX7_areAlike 27 = .ok (.invokevirtual 188, 3) := dec_at kDX7_areAlike_0 17 rfl
theorem dX7_areAlike_30 : decode cX7_areAlike 30 = .ok (.if_icmp .ge 46, 3) := dec_at kDX7_areAlike_0 18 rfl
theorem dX7_areAlike_33 : decode cX7_areAlike 33 = .ok (.iload_n 3, 1) := dec_at kDX7_areAlike_0 19 rfl
theorem dX7_areAlike_34 : decode cX7_areAlike 34 = .ok (.ifCond .eq 34, 3) := dec_at kDX7_areAlike_0 20 rfl
theorem dX7_areAlike_37 : decode cX7_areAlike 37 = .ok (.aload_n 0, 1) := dec_at kDX7_areAlike_0 21 rfl
theorem dX7_areAlike_38 : decode cX7_areAlike 38 = .ok (.getfield 32, 3) := dec_at kDX7_areAlike_0 22 rfl
theorem dX7_areAlike_41 : decode cX7_areAlike 41 = .ok (.aload_n 0, 1) := dec_at kDX7_areAlike_0 23 rfl
theorem dX7_areAlike_42 : decode cX7_areAlike 42 = .ok (.iload_n 1, 1) := dec_at kDX7_areAlike_0 24 rfl
theorem dX7_areAlike_43 : decode cX7_areAlike 43 = .ok (.iload 4, 2) := dec_at kDX7_areAlike_0 25 rfl
theorem dX7_areAlike_45 : decode cX7_areAlike 45 = .ok (.invokevirtual 205, 3) := dec_at kDX7_areAlike_0 26 rfl
theorem dX7_areAlike_48 : decode cX7_areAlike 48 = .ok (.iaload, 1) := dec_at kDX7_areAlike_0 27 rfl
theorem dX7_areAlike_49 : decode cX7_areAlike 49 = .ok (.aload_n 0, 1) := dec_at kDX7_areAlike_0 28 rfl
theorem dX7_areAlike_50 : decode cX7_areAlike 50 = .ok (.getfield 32, 3) := dec_at kDX7_areAlike_0 29 rfl
theorem dX7_areAlike_53 : decode cX7_areAlike 53 = .ok (.aload_n 0, 1) := dec_at kDX7_areAlike_0 30 rfl
theorem dX7_areAlike_54 : decode cX7_areAlike 54 = .ok (.iload_n 2, 1) := dec_at kDX7_areAlike_0 31 rfl
theorem dX7_areAlike_55 : decode cX7_areAlike 55 = .ok (.iload 4, 2) := dec_at kDX7_areAlike_0 32 rfl
theorem dX7_areAlike_57 : decode cX7_areAlike 57 = .ok (.invokevirtual 205, 3) := dec_at kDX7_areAlike_0 33 rfl
theorem dX7_areAlike_60 : decode cX7_areAlike 60 = .ok (.iaload, 1) := dec_at kDX7_areAlike_0 34 rfl
theorem dX7_areAlike_61 : decode cX7_areAlike 61 = .ok (.if_icmp .ne 7, 3) := dec_at kDX7_areAlike_0 35 rfl
theorem dX7_areAlike_64 : decode cX7_areAlike 64 = .ok (.iconst 1, 1) := dec_at kDX7_areAlike_0 36 rfl
theorem dX7_areAlike_65 : decode cX7_areAlike 65 = .ok (.goto 4, 3) := dec_at kDX7_areAlike_0 37 rfl
theorem dX7_areAlike_68 : decode cX7_areAlike 68 = .ok (.iconst 0, 1) := dec_at kDX7_areAlike_0 38 rfl
theorem dX7_areAlike_69 : decode cX7_areAlike 69 = .ok (.istore_n 3, 1) := dec_at kDX7_areAlike_0 39 rfl
theorem dX7_areAlike_70 : decode cX7_areAlike 70 = .ok (.iinc 4 1, 3) := dec_at kDX7_areAlike_0 40 rfl
theorem dX7_areAlike_73 : decode cX7_areAlike 73 = .ok (.goto (-49), 3) := dec_at kDX7_areAlike_0 41 rfl
theorem dX7_areAlike_76 : decode cX7_areAlike 76 = .ok (.iload_n 3, 1) := dec_at kDX7_areAlike_0 42 rfl
theorem dX7_areAlike_77 : decode cX7_areAlike 77 = .ok (.ireturn, 1) := dec_at kDX7_areAlike_0 43 rfl
def DX7_layClasses_0 : List (Nat × (Instr × Nat)) := [(0, (.iconst 0, 1)), (1, (.istore_n 1, 1)), (2, (.iload_n 1, 1)), (3, (.aload_n 0, 1)), (4, (.invokevirtual 86, 3)), (7, (.if_icmp .ge 43, 3)), (10, (.aload_n 0, 1)), (11, (.getfield 32, 3)), (14, (.iload_n 1, 1)), (15, (.aload_n 0, 1)), (16, (.getfield 102, 3)), (19, (.iload_n 1, 1)), (20, (.invokestatic 74, 3)), (23, (.ifCond .eq 13, 3)), (26, (.aload_n 0, 1)), (27, (.getfield 102, 3)), (30, (.invokestatic 216, 3)), (33, (.goto 10, 3)), (36, (.aload_n 0, 1)), (37, (.invokevirtual 219, 3)), (40, (.invokestatic 216, 3)), (43, (.iastore, 1)), (44, (.iinc 1 1, 3)), (47, (.goto (-45), 3)), (50, (.iconst 1, 1)), (51, (.istore_n 1, 1)), (52, (.iload_n 1, 1)), (53, (.ifCond .eq 96, 3)), (56, (.iconst 0, 1)), (57, (.istore_n 1, 1)), (58, (.iconst 0, 1)), (59, (.istore_n 2, 1)), (60, (.iload_n 2, 1)), (61, (.aload_n 0, 1)), (62, (.invokevirtual 86, 3)), (65, (.if_icmp .ge 53, 3)), (68, (.iconst 0, 1)), (69, (.istore_n 3, 1)), (70, (.aload_n 0, 1)), (71, (.iload_n 2, 1)), (72, (.iload_n 3, 1)), (73, (.invokevirtual 222, 3)), (76, (.ifCond .ne 9, 3)), (79, (.iinc 3 1, 3)), (82, (.goto (-12), 3)), (85, (.aload_n 0, 1)), (86, (.getfield 35, 3)), (89, (.iload_n 2, 1)), (90, (.iload_n 3, 1)), (91, (.iastore, 1))]
theorem kDX7_layClasses_0 : DX7_layClasses_0.all (fun q => decide (decode cX7_layClasses q.1 = .ok q.2)) = true := by decide +kernel
theorem dX7_layClasses_0 : decode cX7_layClasses 0 = .ok (.iconst 0, 1) := dec_at kDX7_layClasses_0 0 rfl
theorem dX7_layClasses_1 : decode cX7_layClasses 1 = .ok (.istore_n 1, 1) := dec_at kDX7_layClasses_0 1 rfl
theorem dX7_layClasses_2 : decode cX7_layClasses 2 = .ok (.iload_n 1, 1) := dec_at kDX7_layClasses_0 2 rfl
theorem dX7_layClasses_3 : decode cX7_layClasses 3 = .ok (.aload_n 0, 1) := dec_at kDX7_layClasses_0 3 rfl
theorem dX7_layClasses_4 : decode cX7_layClasses 4 = .ok (.invokevirtual 86, 3) := dec_at kDX7_layClasses_0 4 rfl
theorem dX7_layClasses_7 : decode cX7_layClasses 7 = .ok (.if_icmp .ge 43, 3) := dec_at kDX7_layClasses_0 5 rfl
theorem dX7_layClasses_10 : decode cX7_layClasses 10 = .ok (.aload_n 0, 1) := dec_at kDX7_layClasses_0 6 rfl
theorem dX7_layClasses_11 : decode cX7_layClasses 11 = .ok (.getfield 32, 3) := dec_at kDX7_layClasses_0 7 rfl
theorem dX7_layClasses_14 : decode cX7_layClasses 14 = .ok (.iload_n 1, 1) := dec_at kDX7_layClasses_0 8 rfl
theorem dX7_layClasses_15 : decode cX7_layClasses 15 = .ok (.aload_n 0, 1) := dec_at kDX7_layClasses_0 9 rfl
theorem dX7_layClasses_16 : decode cX7_layClasses 16 = .ok (.getfield 102, 3) := dec_at kDX7_layClasses_0 10 rfl
theorem dX7_layClasses_19 : decode cX7_layClasses 19 = .ok (.iload_n 1, 1) := dec_at kDX7_layClasses_0 11 rfl
theorem dX7_layClasses_20 : decode cX7_layClasses 20 = .ok (.invokestatic 74, 3) := dec_at kDX7_layClasses_0 12 rfl
theorem dX7_layClasses_23 : decode cX7_layClasses 23 = .ok (.ifCond .eq 13, 3) := dec_at kDX7_layClasses_0 13 rfl
theorem dX7_layClasses_26 : decode cX7_layClasses 26 = .ok (.aload_n 0, 1) := dec_at kDX7_layClasses_0 14 rfl
theorem dX7_layClasses_27 : decode cX7_layClasses 27 = .ok (.getfield 102, 3) := dec_at kDX7_layClasses_0 15 rfl
theorem dX7_layClasses_30 : decode cX7_layClasses 30 = .ok (.invokestatic 216, 3) := dec_at kDX7_layClasses_0 16 rfl
theorem dX7_layClasses_33 : decode cX7_layClasses 33 = .ok (.goto 10, 3) := dec_at kDX7_layClasses_0 17 rfl
theorem dX7_layClasses_36 : decode cX7_layClasses 36 = .ok (.aload_n 0, 1) := dec_at kDX7_layClasses_0 18 rfl
theorem dX7_layClasses_37 : decode cX7_layClasses 37 = .ok (.invokevirtual 219, 3) := dec_at kDX7_layClasses_0 19 rfl
theorem dX7_layClasses_40 : decode cX7_layClasses 40 = .ok (.invokestatic 216, 3) := dec_at kDX7_layClasses_0 20 rfl
theorem dX7_layClasses_43 : decode cX7_layClasses 43 = .ok (.iastore, 1) := dec_at kDX7_layClasses_0 21 rfl
theorem dX7_layClasses_44 : decode cX7_layClasses 44 = .ok (.iinc 1 1, 3) := dec_at kDX7_layClasses_0 22 rfl
theorem dX7_layClasses_47 : decode cX7_layClasses 47 = .ok (.goto (-45), 3) := dec_at kDX7_layClasses_0 23 rfl
theorem dX7_layClasses_50 : decode cX7_layClasses 50 = .ok (.iconst 1, 1) := dec_at kDX7_layClasses_0 24 rfl
theorem dX7_layClasses_51 : decode cX7_layClasses 51 = .ok (.istore_n 1, 1) := dec_at kDX7_layClasses_0 25 rfl
theorem dX7_layClasses_52 : decode cX7_layClasses 52 = .ok (.iload_n 1, 1) := dec_at kDX7_layClasses_0 26 rfl
theorem dX7_layClasses_53 : decode cX7_layClasses 53 = .ok (.ifCond .eq 96, 3) := dec_at kDX7_layClasses_0 27 rfl
theorem dX7_layClasses_56 : decode cX7_layClasses 56 = .ok (.iconst 0, 1) := dec_at kDX7_layClasses_0 28 rfl
theorem dX7_layClasses_57 : decode cX7_layClasses 57 = .ok (.istore_n 1, 1) := dec_at kDX7_layClasses_0 29 rfl
theorem dX7_layClasses_58 : decode cX7_layClasses 58 = .ok (.iconst 0, 1) := dec_at kDX7_layClasses_0 30 rfl
theorem dX7_layClasses_59 : decode cX7_layClasses 59 = .ok (.istore_n 2, 1) := dec_at kDX7_layClasses_0 31 rfl
theorem dX7_layClasses_60 : decode cX7_layClasses 60 = .ok (.iload_n 2, 1) := dec_at kDX7_layClasses_0 32 rfl
theorem dX7_layClasses_61 : decode cX7_layClasses 61 = .ok (.aload_n 0, 1) := dec_at kDX7_layClasses_0 33 rfl
theorem dX7_layClasses_62 : decode cX7_layClasses 62 = .ok (.invokevirtual 86, 3) := dec_at kDX7_layClasses_0 34 rfl
theorem dX7_layClasses_65 : decode cX7_layClasses 65 = .ok (.if_icmp .ge 53, 3) := dec_at kDX7_layClasses_0 35 rfl
theorem dX7_layClasses_68 : decode cX7_layClasses 68 = .ok (.iconst 0, 1) := dec_at kDX7_layClasses_0 36 rfl
theorem dX7_layClasses_69 : decode cX7_layClasses 69 = .ok (.istore_n 3, 1) := dec_at kDX7_layClasses_0 37 rfl
theorem dX7_layClasses_70 : decode cX7_layClasses 70 = .ok (.aload_n 0, 1) := dec_at kDX7_layClasses_0 38 rfl
theorem dX7_layClasses_71 : decode cX7_layClasses 71 = .ok (.iload_n 2, 1) := dec_at kDX7_layClasses_0 39 rfl
theorem dX7_layClasses_72 : decode cX7_layClasses 72 = .ok (.iload_n 3, 1) := dec_at kDX7_layClasses_0 40 rfl
theorem dX7_layClasses_73 : decode cX7_layClasses 73 = .ok (.invokevirtual 222, 3) := dec_at kDX7_layClasses_0 41 rfl
theorem dX7_layClasses_76 : decode cX7_layClasses 76 = .ok (.ifCond .ne 9, 3) := dec_at kDX7_layClasses_0 42 rfl
theorem dX7_layClasses_79 : decode cX7_layClasses 79 = .ok (.iinc 3 1, 3) := dec_at kDX7_layClasses_0 43 rfl
theorem dX7_layClasses_82 : decode cX7_layClasses 82 = .ok (.goto (-12), 3) := dec_at kDX7_layClasses_0 44 rfl
theorem dX7_layClasses_85 : decode cX7_layClasses 85 = .ok (.aload_n 0, 1) := dec_at kDX7_layClasses_0 45 rfl
theorem dX7_layClasses_86 : decode cX7_layClasses 86 = .ok (.getfield 35, 3) := dec_at kDX7_layClasses_0 46 rfl
theorem dX7_layClasses_89 : decode cX7_layClasses 89 = .ok (.iload_n 2, 1) := dec_at kDX7_layClasses_0 47 rfl
theorem dX7_layClasses_90 : decode cX7_layClasses 90 = .ok (.iload_n 3, 1) := dec_at kDX7_layClasses_0 48 rfl
theorem dX7_layClasses_91 : decode cX7_layClasses 91 = .ok (.iastore, 1) := dec_at kDX7_layClasses_0 49 rfl
def DX7_layClasses_50 : List (Nat × (Instr × Nat)) := [(92, (.iload_n 1, 1)), (93, (.ifCond .ne 13, 3)), (96, (.iload_n 3, 1)), (97, (.aload_n 0, 1)), (98, (.getfield 32, 3)), (101, (.iload_n 2, 1)), (102, (.iaload, 1)), (103, (.if_icmp .eq 7, 3)), (106, (.iconst 1, 1)), (107, (.goto 4, 3)), (110, (.iconst 0, 1)), (111, (.istore_n 1, 1)), (112, (.iinc 2 1, 3)), (115, (.goto (-55), 3)), (118, (.iconst 0, 1)), (119, (.istore_n 2, 1)), (120, (.iload_n 2, 1)), (121, (.aload_n 0, 1)), (122, (.invokevirtual 86, 3)), (125, (.if_icmp .ge 21, 3)), (128, (.aload_n 0, 1)), (129, (.getfield 32, 3)), (132, (.iload_n 2, 1)), (133, (.aload_n 0, 1)), (134, (.getfield 35, 3)), (137, (.iload_n 2, 1)), (138, (.iaload, 1)), (139, (.iastore, 1)), (140, (.iinc 2 1, 3)), (143, (.goto (-23), 3)), (146, (.goto (-94), 3)), (149, (.return_, 1))]
theorem kDX7_layClasses_50 : DX7_layClasses_50.all (fun q => decide (decode cX7_layClasses q.1 = .ok q.2)) = true := by decide +kernel
theorem dX7_layClasses_92 : decode cX7_layClasses 92 = .ok (.iload_n 1, 1) := dec_at kDX7_layClasses_50 0 rfl
theorem dX7_layClasses_93 : decode cX7_layClasses 93 = .ok (.ifCond .ne 13, 3) := dec_at kDX7_layClasses_50 1 rfl
theorem dX7_layClasses_96 : decode cX7_layClasses 96 = .ok (.iload_n 3, 1) := dec_at kDX7_layClasses_50 2 rfl
theorem dX7_layClasses_97 : decode cX7_layClasses 97 = .ok (.aload_n 0, 1) := dec_at kDX7_layClasses_50 3 rfl
theorem dX7_layClasses_98 : decode cX7_layClasses 98 = .ok (.getfield 32, 3) := dec_at kDX7_layClasses_50 4 rfl
theorem dX7_layClasses_101 : decode cX7_layClasses 101 = .ok (.iload_n 2, 1) := dec_at kDX7_layClasses_50 5 rfl
theorem dX7_layClasses_102 : decode cX7_layClasses 102 = .ok (.iaload, 1) := dec_at kDX7_layClasses_50 6 rfl
theorem dX7_layClasses_103 : decode cX7_layClasses 103 = .ok (.if_icmp .eq 7, 3) := dec_at kDX7_layClasses_50 7 rfl
theorem dX7_layClasses_106 : decode cX7_layClasses 106 = .ok (.iconst 1, 1) := dec_at kDX7_layClasses_50 8 rfl
theorem dX7_layClasses_107 : decode cX7_layClasses 107 = .ok (.goto 4, 3) := dec_at kDX7_layClasses_50 9 rfl
theorem dX7_layClasses_110 : decode cX7_layClasses 110 = .ok (.iconst 0, 1) := dec_at kDX7_layClasses_50 10 rfl
theorem dX7_layClasses_111 : decode cX7_layClasses 111 = .ok (.istore_n 1, 1) := dec_at kDX7_layClasses_50 11 rfl
theorem dX7_layClasses_112 : decode cX7_layClasses 112 = .ok (.iinc 2 1, 3) := dec_at kDX7_layClasses_50 12 rfl
theorem dX7_layClasses_115 : decode cX7_layClasses 115 = .ok (.goto (-55), 3) := dec_at kDX7_layClasses_50 13 rfl
theorem dX7_layClasses_118 : decode cX7_layClasses 118 = .ok (.iconst 0, 1) := dec_at kDX7_layClasses_50 14 rfl
theorem dX7_layClasses_119 : decode cX7_layClasses 119 = .ok (.istore_n 2, 1) := dec_at kDX7_layClasses_50 15 rfl
theorem dX7_layClasses_120 : decode cX7_layClasses 120 = .ok (.iload_n 2, 1) := dec_at kDX7_layClasses_50 16 rfl
theorem dX7_layClasses_121 : decode cX7_layClasses 121 = .ok (.aload_n 0, 1) := dec_at kDX7_layClasses_50 17 rfl
theorem dX7_layClasses_122 : decode cX7_layClasses 122 = .ok (.invokevirtual 86, 3) := dec_at kDX7_layClasses_50 18 rfl
theorem dX7_layClasses_125 : decode cX7_layClasses 125 = .ok (.if_icmp .ge 21, 3) := dec_at kDX7_layClasses_50 19 rfl
theorem dX7_layClasses_128 : decode cX7_layClasses 128 = .ok (.aload_n 0, 1) := dec_at kDX7_layClasses_50 20 rfl
theorem dX7_layClasses_129 : decode cX7_layClasses 129 = .ok (.getfield 32, 3) := dec_at kDX7_layClasses_50 21 rfl
theorem dX7_layClasses_132 : decode cX7_layClasses 132 = .ok (.iload_n 2, 1) := dec_at kDX7_layClasses_50 22 rfl
theorem dX7_layClasses_133 : decode cX7_layClasses 133 = .ok (.aload_n 0, 1) := dec_at kDX7_layClasses_50 23 rfl
theorem dX7_layClasses_134 : decode cX7_layClasses 134 = .ok (.getfield 35, 3) := dec_at kDX7_layClasses_50 24 rfl
theorem dX7_layClasses_137 : decode cX7_layClasses 137 = .ok (.iload_n 2, 1) := dec_at kDX7_layClasses_50 25 rfl
theorem dX7_layClasses_138 : decode cX7_layClasses 138 = .ok (.iaload, 1) := dec_at kDX7_layClasses_50 26 rfl
theorem dX7_layClasses_139 : decode cX7_layClasses 139 = .ok (.iastore, 1) := dec_at kDX7_layClasses_50 27 rfl
theorem dX7_layClasses_140 : decode cX7_layClasses 140 = .ok (.iinc 2 1, 3) := dec_at kDX7_layClasses_50 28 rfl
theorem dX7_layClasses_143 : decode cX7_layClasses 143 = .ok (.goto (-23), 3) := dec_at kDX7_layClasses_50 29 rfl
theorem dX7_layClasses_146 : decode cX7_layClasses 146 = .ok (.goto (-94), 3) := dec_at kDX7_layClasses_50 30 rfl
theorem dX7_layClasses_149 : decode cX7_layClasses 149 = .ok (.return_, 1) := dec_at kDX7_layClasses_50 31 rfl
def DX7_farOf_0 : List (Nat × (Instr × Nat)) := [(0, (.aload_n 0, 1)), (1, (.iload_n 2, 1)), (2, (.ifCond .eq 10, 3)), (5, (.aload_n 0, 1)), (6, (.invokevirtual 219, 3)), (9, (.goto 7, 3)), (12, (.aload_n 0, 1)), (13, (.getfield 94, 3)), (16, (.iload_n 2, 1)), (17, (.invokevirtual 226, 3)), (20, (.aload_n 0, 1)), (21, (.getfield 29, 3)), (24, (.iload_n 1, 1)), (25, (.iaload, 1)), (26, (.ireturn, 1))]
theorem kDX7_farOf_0 : DX7_farOf_0.all (fun q => decide (decode cX7_farOf q.1 = .ok q.2)) = true := by decide +kernel
theorem dX7_farOf_0 : decode cX7_farOf 0 = .ok (.aload_n 0, 1) := dec_at kDX7_farOf_0 0 rfl
theorem dX7_farOf_1 : decode cX7_farOf 1 = .ok (.iload_n 2, 1) := dec_at kDX7_farOf_0 1 rfl
theorem dX7_farOf_2 : decode cX7_farOf 2 = .ok (.ifCond .eq 10, 3) := dec_at kDX7_farOf_0 2 rfl
theorem dX7_farOf_5 : decode cX7_farOf 5 = .ok (.aload_n 0, 1) := dec_at kDX7_farOf_0 3 rfl
theorem dX7_farOf_6 : decode cX7_farOf 6 = .ok (.invokevirtual 219, 3) := dec_at kDX7_farOf_0 4 rfl
theorem dX7_farOf_9 : decode cX7_farOf 9 = .ok (.goto 7, 3) := dec_at kDX7_farOf_0 5 rfl
theorem dX7_farOf_12 : decode cX7_farOf 12 = .ok (.aload_n 0, 1) := dec_at kDX7_farOf_0 6 rfl
theorem dX7_farOf_13 : decode cX7_farOf 13 = .ok (.getfield 94, 3) := dec_at kDX7_farOf_0 7 rfl
theorem dX7_farOf_16 : decode cX7_farOf 16 = .ok (.iload_n 2, 1) := dec_at kDX7_farOf_0 8 rfl
theorem dX7_farOf_17 : decode cX7_farOf 17 = .ok (.invokevirtual 226, 3) := dec_at kDX7_farOf_0 9 rfl
theorem dX7_farOf_20 : decode cX7_farOf 20 = .ok (.aload_n 0, 1) := dec_at kDX7_farOf_0 10 rfl
theorem dX7_farOf_21 : decode cX7_farOf 21 = .ok (.getfield 29, 3) := dec_at kDX7_farOf_0 11 rfl
theorem dX7_farOf_24 : decode cX7_farOf 24 = .ok (.iload_n 1, 1) := dec_at kDX7_farOf_0 12 rfl
theorem dX7_farOf_25 : decode cX7_farOf 25 = .ok (.iaload, 1) := dec_at kDX7_farOf_0 13 rfl
theorem dX7_farOf_26 : decode cX7_farOf 26 = .ok (.ireturn, 1) := dec_at kDX7_farOf_0 14 rfl
def DX7_classNow_0 : List (Nat × (Instr × Nat)) := [(0, (.aload_n 0, 1)), (1, (.invokevirtual 230, 3)), (4, (.aload_n 0, 1)), (5, (.getfield 32, 3)), (8, (.iload_n 1, 1)), (9, (.iaload, 1)), (10, (.ireturn, 1))]
theorem kDX7_classNow_0 : DX7_classNow_0.all (fun q => decide (decode cX7_classNow q.1 = .ok q.2)) = true := by decide +kernel
theorem dX7_classNow_0 : decode cX7_classNow 0 = .ok (.aload_n 0, 1) := dec_at kDX7_classNow_0 0 rfl
theorem dX7_classNow_1 : decode cX7_classNow 1 = .ok (.invokevirtual 230, 3) := dec_at kDX7_classNow_0 1 rfl
theorem dX7_classNow_4 : decode cX7_classNow 4 = .ok (.aload_n 0, 1) := dec_at kDX7_classNow_0 2 rfl
theorem dX7_classNow_5 : decode cX7_classNow 5 = .ok (.getfield 32, 3) := dec_at kDX7_classNow_0 3 rfl
theorem dX7_classNow_8 : decode cX7_classNow 8 = .ok (.iload_n 1, 1) := dec_at kDX7_classNow_0 4 rfl
theorem dX7_classNow_9 : decode cX7_classNow 9 = .ok (.iaload, 1) := dec_at kDX7_classNow_0 5 rfl
theorem dX7_classNow_10 : decode cX7_classNow 10 = .ok (.ireturn, 1) := dec_at kDX7_classNow_0 6 rfl
def DX7_stateNow_0 : List (Nat × (Instr × Nat)) := [(0, (.iload_n 2, 1)), (1, (.tableswitch 79 0 3 #[31, 48, 65, 72], 31)), (32, (.aload_n 0, 1)), (33, (.getfield 94, 3)), (36, (.iload_n 1, 1)), (37, (.invokestatic 74, 3)), (40, (.ifCond .eq 7, 3)), (43, (.iconst 1, 1)), (44, (.goto 4, 3)), (47, (.iconst 0, 1)), (48, (.ireturn, 1)), (49, (.aload_n 0, 1)), (50, (.getfield 102, 3)), (53, (.iload_n 1, 1)), (54, (.invokestatic 74, 3)), (57, (.ifCond .eq 7, 3)), (60, (.iconst 1, 1)), (61, (.goto 4, 3)), (64, (.iconst 0, 1)), (65, (.ireturn, 1)), (66, (.aload_n 0, 1)), (67, (.iload_n 1, 1)), (68, (.iconst 0, 1)), (69, (.invokevirtual 233, 3)), (72, (.ireturn, 1)), (73, (.aload_n 0, 1)), (74, (.iload_n 1, 1)), (75, (.iconst 1, 1)), (76, (.invokevirtual 233, 3)), (79, (.ireturn, 1)), (80, (.aload_n 0, 1)), (81, (.iload_n 1, 1)), (82, (.invokevirtual 237, 3)), (85, (.ireturn, 1))]
theorem kDX7_stateNow_0 : DX7_stateNow_0.all (fun q => decide (decode cX7_stateNow q.1 = .ok q.2)) = true := by decide +kernel
theorem dX7_stateNow_0 : decode cX7_stateNow 0 = .ok (.iload_n 2, 1) := dec_at kDX7_stateNow_0 0 rfl
theorem dX7_stateNow_1 : decode cX7_stateNow 1 = .ok (.tableswitch 79 0 3 #[31, 48, 65, 72], 31) := dec_at kDX7_stateNow_0 1 rfl
theorem dX7_stateNow_32 : decode cX7_stateNow 32 = .ok (.aload_n 0, 1) := dec_at kDX7_stateNow_0 2 rfl
theorem dX7_stateNow_33 : decode cX7_stateNow 33 = .ok (.getfield 94, 3) := dec_at kDX7_stateNow_0 3 rfl
theorem dX7_stateNow_36 : decode cX7_stateNow 36 = .ok (.iload_n 1, 1) := dec_at kDX7_stateNow_0 4 rfl
theorem dX7_stateNow_37 : decode cX7_stateNow 37 = .ok (.invokestatic 74, 3) := dec_at kDX7_stateNow_0 5 rfl
theorem dX7_stateNow_40 : decode cX7_stateNow 40 = .ok (.ifCond .eq 7, 3) := dec_at kDX7_stateNow_0 6 rfl
theorem dX7_stateNow_43 : decode cX7_stateNow 43 = .ok (.iconst 1, 1) := dec_at kDX7_stateNow_0 7 rfl
theorem dX7_stateNow_44 : decode cX7_stateNow 44 = .ok (.goto 4, 3) := dec_at kDX7_stateNow_0 8 rfl
theorem dX7_stateNow_47 : decode cX7_stateNow 47 = .ok (.iconst 0, 1) := dec_at kDX7_stateNow_0 9 rfl
theorem dX7_stateNow_48 : decode cX7_stateNow 48 = .ok (.ireturn, 1) := dec_at kDX7_stateNow_0 10 rfl
theorem dX7_stateNow_49 : decode cX7_stateNow 49 = .ok (.aload_n 0, 1) := dec_at kDX7_stateNow_0 11 rfl
theorem dX7_stateNow_50 : decode cX7_stateNow 50 = .ok (.getfield 102, 3) := dec_at kDX7_stateNow_0 12 rfl
theorem dX7_stateNow_53 : decode cX7_stateNow 53 = .ok (.iload_n 1, 1) := dec_at kDX7_stateNow_0 13 rfl
theorem dX7_stateNow_54 : decode cX7_stateNow 54 = .ok (.invokestatic 74, 3) := dec_at kDX7_stateNow_0 14 rfl
theorem dX7_stateNow_57 : decode cX7_stateNow 57 = .ok (.ifCond .eq 7, 3) := dec_at kDX7_stateNow_0 15 rfl
theorem dX7_stateNow_60 : decode cX7_stateNow 60 = .ok (.iconst 1, 1) := dec_at kDX7_stateNow_0 16 rfl
theorem dX7_stateNow_61 : decode cX7_stateNow 61 = .ok (.goto 4, 3) := dec_at kDX7_stateNow_0 17 rfl
theorem dX7_stateNow_64 : decode cX7_stateNow 64 = .ok (.iconst 0, 1) := dec_at kDX7_stateNow_0 18 rfl
theorem dX7_stateNow_65 : decode cX7_stateNow 65 = .ok (.ireturn, 1) := dec_at kDX7_stateNow_0 19 rfl
theorem dX7_stateNow_66 : decode cX7_stateNow 66 = .ok (.aload_n 0, 1) := dec_at kDX7_stateNow_0 20 rfl
theorem dX7_stateNow_67 : decode cX7_stateNow 67 = .ok (.iload_n 1, 1) := dec_at kDX7_stateNow_0 21 rfl
theorem dX7_stateNow_68 : decode cX7_stateNow 68 = .ok (.iconst 0, 1) := dec_at kDX7_stateNow_0 22 rfl
theorem dX7_stateNow_69 : decode cX7_stateNow 69 = .ok (.invokevirtual 233, 3) := dec_at kDX7_stateNow_0 23 rfl
theorem dX7_stateNow_72 : decode cX7_stateNow 72 = .ok (.ireturn, 1) := dec_at kDX7_stateNow_0 24 rfl
theorem dX7_stateNow_73 : decode cX7_stateNow 73 = .ok (.aload_n 0, 1) := dec_at kDX7_stateNow_0 25 rfl
theorem dX7_stateNow_74 : decode cX7_stateNow 74 = .ok (.iload_n 1, 1) := dec_at kDX7_stateNow_0 26 rfl
theorem dX7_stateNow_75 : decode cX7_stateNow 75 = .ok (.iconst 1, 1) := dec_at kDX7_stateNow_0 27 rfl
theorem dX7_stateNow_76 : decode cX7_stateNow 76 = .ok (.invokevirtual 233, 3) := dec_at kDX7_stateNow_0 28 rfl
theorem dX7_stateNow_79 : decode cX7_stateNow 79 = .ok (.ireturn, 1) := dec_at kDX7_stateNow_0 29 rfl
theorem dX7_stateNow_80 : decode cX7_stateNow 80 = .ok (.aload_n 0, 1) := dec_at kDX7_stateNow_0 30 rfl
theorem dX7_stateNow_81 : decode cX7_stateNow 81 = .ok (.iload_n 1, 1) := dec_at kDX7_stateNow_0 31 rfl
theorem dX7_stateNow_82 : decode cX7_stateNow 82 = .ok (.invokevirtual 237, 3) := dec_at kDX7_stateNow_0 32 rfl
theorem dX7_stateNow_85 : decode cX7_stateNow 85 = .ok (.ireturn, 1) := dec_at kDX7_stateNow_0 33 rfl
def DX7_state_0 : List (Nat × (Instr × Nat)) := [(0, (.aload_n 0, 1)), (1, (.iload_n 1, 1)), (2, (.iconst 0, 1)), (3, (.aload_n 0, 1)), (4, (.invokevirtual 86, 3)), (7, (.iconst 1, 1)), (8, (.isub, 1)), (9, (.invokestatic 112, 3)), (12, (.ifCond .ne 7, 3)), (15, (.iconst 1, 1)), (16, (.goto 17, 3)), (19, (.iload_n 2, 1)), (20, (.iconst 0, 1)), (21, (.iconst 4, 1)), (22, (.invokestatic 112, 3)), (25, (.ifCond .eq 7, 3)), (28, (.iconst 0, 1)), (29, (.goto 4, 3)), (32, (.iconst 2, 1)), (33, (.putfield 70, 3)), (36, (.aload_n 0, 1)), (37, (.getfield 70, 3)), (40, (.ifCond .le 7, 3)), (43, (.iconst 0, 1)), (44, (.goto 9, 3)), (47, (.aload_n 0, 1)), (48, (.iload_n 1, 1)), (49, (.iload_n 2, 1)), (50, (.invokevirtual 240, 3)), (53, (.ireturn, 1))]
theorem kDX7_state_0 : DX7_state_0.all (fun q => decide (decode cX7_state q.1 = .ok q.2)) = true := by decide +kernel
theorem dX7_state_0 : decode cX7_state 0 = .ok (.aload_n 0, 1) := dec_at kDX7_state_0 0 rfl
theorem dX7_state_1 : decode cX7_state 1 = .ok (.iload_n 1, 1) := dec_at kDX7_state_0 1 rfl
theorem dX7_state_2 : decode cX7_state 2 = .ok (.iconst 0, 1) := dec_at kDX7_state_0 2 rfl
theorem dX7_state_3 : decode cX7_state 3 = .ok (.aload_n 0, 1) := dec_at kDX7_state_0 3 rfl
theorem dX7_state_4 : decode cX7_state 4 = .ok (.invokevirtual 86, 3) := dec_at kDX7_state_0 4 rfl
theorem dX7_state_7 : decode cX7_state 7 = .ok (.iconst 1, 1) := dec_at kDX7_state_0 5 rfl
theorem dX7_state_8 : decode cX7_state 8 = .ok (.isub, 1) := dec_at kDX7_state_0 6 rfl
theorem dX7_state_9 : decode cX7_state 9 = .ok (.invokestatic 112, 3) := dec_at kDX7_state_0 7 rfl
theorem dX7_state_12 : decode cX7_state 12 = .ok (.ifCond .ne 7, 3) := dec_at kDX7_state_0 8 rfl
theorem dX7_state_15 : decode cX7_state 15 = .ok (.iconst 1, 1) := dec_at kDX7_state_0 9 rfl
theorem dX7_state_16 : decode cX7_state 16 = .ok (.goto 17, 3) := dec_at kDX7_state_0 10 rfl
theorem dX7_state_19 : decode cX7_state 19 = .ok (.iload_n 2, 1) := dec_at kDX7_state_0 11 rfl
theorem dX7_state_20 : decode cX7_state 20 = .ok (.iconst 0, 1) := dec_at kDX7_state_0 12 rfl
theorem dX7_state_21 : decode cX7_state 21 = .ok (.iconst 4, 1) := dec_at kDX7_state_0 13 rfl
theorem dX7_state_22 : decode cX7_state 22 = .ok (.invokestatic 112, 3) := dec_at kDX7_state_0 14 rfl
theorem dX7_state_25 : decode cX7_state 25 = .ok (.ifCond .eq 7, 3) := dec_at kDX7_state_0 15 rfl
theorem dX7_state_28 : decode cX7_state 28 = .ok (.iconst 0, 1) := dec_at kDX7_state_0 16 rfl
theorem dX7_state_29 : decode cX7_state 29 = .ok (.goto 4, 3) := dec_at kDX7_state_0 17 rfl
theorem dX7_state_32 : decode cX7_state 32 = .ok (.iconst 2, 1) := dec_at kDX7_state_0 18 rfl
theorem dX7_state_33 : decode cX7_state 33 = .ok (.putfield 70, 3) := dec_at kDX7_state_0 19 rfl
theorem dX7_state_36 : decode cX7_state 36 = .ok (.aload_n 0, 1) := dec_at kDX7_state_0 20 rfl
theorem dX7_state_37 : decode cX7_state 37 = .ok (.getfield 70, 3) := dec_at kDX7_state_0 21 rfl
theorem dX7_state_40 : decode cX7_state 40 = .ok (.ifCond .le 7, 3) := dec_at kDX7_state_0 22 rfl
theorem dX7_state_43 : decode cX7_state 43 = .ok (.iconst 0, 1) := dec_at kDX7_state_0 23 rfl
theorem dX7_state_44 : decode cX7_state 44 = .ok (.goto 9, 3) := dec_at kDX7_state_0 24 rfl
theorem dX7_state_47 : decode cX7_state 47 = .ok (.aload_n 0, 1) := dec_at kDX7_state_0 25 rfl
theorem dX7_state_48 : decode cX7_state 48 = .ok (.iload_n 1, 1) := dec_at kDX7_state_0 26 rfl
theorem dX7_state_49 : decode cX7_state 49 = .ok (.iload_n 2, 1) := dec_at kDX7_state_0 27 rfl
theorem dX7_state_50 : decode cX7_state 50 = .ok (.invokevirtual 240, 3) := dec_at kDX7_state_0 28 rfl
theorem dX7_state_53 : decode cX7_state 53 = .ok (.ireturn, 1) := dec_at kDX7_state_0 29 rfl
def DX7_reached_0 : List (Nat × (Instr × Nat)) := [(0, (.aload_n 0, 1)), (1, (.aload_n 0, 1)), (2, (.getfield 94, 3)), (5, (.iconst 0, 1)), (6, (.invokevirtual 226, 3)), (9, (.iconst 0, 1)), (10, (.istore_n 2, 1)), (11, (.iconst (-1), 1)), (12, (.istore_n 3, 1)), (13, (.iconst 0, 1)), (14, (.istore 4, 2)), (16, (.iload 4, 2)), (18, (.aload_n 0, 1)), (19, (.invokevirtual 86, 3)), (22, (.if_icmp .ge 51, 3)), (25, (.iload_n 2, 1)), (26, (.aload_n 0, 1)), (27, (.getfield 29, 3)), (30, (.iload 4, 2)), (32, (.iaload, 1)), (33, (.iconst (-1), 1)), (34, (.if_icmp .ne 7, 3)), (37, (.iconst 0, 1)), (38, (.goto 4, 3)), (41, (.iconst 1, 1)), (42, (.iadd, 1)), (43, (.istore_n 2, 1)), (44, (.aload_n 0, 1)), (45, (.getfield 29, 3)), (48, (.iload 4, 2)), (50, (.iaload, 1)), (51, (.iload_n 3, 1)), (52, (.if_icmp .le 13, 3)), (55, (.aload_n 0, 1)), (56, (.getfield 29, 3)), (59, (.iload 4, 2)), (61, (.iaload, 1)), (62, (.goto 4, 3)), (65, (.iload_n 3, 1)), (66, (.istore_n 3, 1)), (67, (.iinc 4 1, 3)), (70, (.goto (-54), 3)), (73, (.iload_n 1, 1)), (74, (.ifCond .eq 7, 3)), (77, (.iload_n 3, 1)), (78, (.goto 4, 3)), (81, (.iload_n 2, 1)), (82, (.ireturn, 1))]
theorem kDX7_reached_0 : DX7_reached_0.all (fun q => decide (decode cX7_reached q.1 = .ok q.2)) = true := by decide +kernel
theorem dX7_reached_0 : decode cX7_reached 0 = .ok (.aload_n 0, 1) := dec_at kDX7_reached_0 0 rfl
theorem dX7_reached_1 : decode cX7_reached 1 = .ok (.aload_n 0, 1) := dec_at kDX7_reached_0 1 rfl
theorem dX7_reached_2 : decode cX7_reached 2 = .ok (.getfield 94, 3) := dec_at kDX7_reached_0 2 rfl
theorem dX7_reached_5 : decode cX7_reached 5 = .ok (.iconst 0, 1) := dec_at kDX7_reached_0 3 rfl
theorem dX7_reached_6 : decode cX7_reached 6 = .ok (.invokevirtual 226, 3) := dec_at kDX7_reached_0 4 rfl
theorem dX7_reached_9 : decode cX7_reached 9 = .ok (.iconst 0, 1) := dec_at kDX7_reached_0 5 rfl
theorem dX7_reached_10 : decode cX7_reached 10 = .ok (.istore_n 2, 1) := dec_at kDX7_reached_0 6 rfl
theorem dX7_reached_11 : decode cX7_reached 11 = .ok (.iconst (-1), 1) := dec_at kDX7_reached_0 7 rfl
theorem dX7_reached_12 : decode cX7_reached 12 = .ok (.istore_n 3, 1) := dec_at kDX7_reached_0 8 rfl
theorem dX7_reached_13 : decode cX7_reached 13 = .ok (.iconst 0, 1) := dec_at kDX7_reached_0 9 rfl
theorem dX7_reached_14 : decode cX7_reached 14 = .ok (.istore 4, 2) := dec_at kDX7_reached_0 10 rfl
theorem dX7_reached_16 : decode cX7_reached 16 = .ok (.iload 4, 2) := dec_at kDX7_reached_0 11 rfl
theorem dX7_reached_18 : decode cX7_reached 18 = .ok (.aload_n 0, 1) := dec_at kDX7_reached_0 12 rfl
theorem dX7_reached_19 : decode cX7_reached 19 = .ok (.invokevirtual 86, 3) := dec_at kDX7_reached_0 13 rfl
theorem dX7_reached_22 : decode cX7_reached 22 = .ok (.if_icmp .ge 51, 3) := dec_at kDX7_reached_0 14 rfl
theorem dX7_reached_25 : decode cX7_reached 25 = .ok (.iload_n 2, 1) := dec_at kDX7_reached_0 15 rfl
theorem dX7_reached_26 : decode cX7_reached 26 = .ok (.aload_n 0, 1) := dec_at kDX7_reached_0 16 rfl
theorem dX7_reached_27 : decode cX7_reached 27 = .ok (.getfield 29, 3) := dec_at kDX7_reached_0 17 rfl
theorem dX7_reached_30 : decode cX7_reached 30 = .ok (.iload 4, 2) := dec_at kDX7_reached_0 18 rfl
theorem dX7_reached_32 : decode cX7_reached 32 = .ok (.iaload, 1) := dec_at kDX7_reached_0 19 rfl
theorem dX7_reached_33 : decode cX7_reached 33 = .ok (.iconst (-1), 1) := dec_at kDX7_reached_0 20 rfl
theorem dX7_reached_34 : decode cX7_reached 34 = .ok (.if_icmp .ne 7, 3) := dec_at kDX7_reached_0 21 rfl
theorem dX7_reached_37 : decode cX7_reached 37 = .ok (.iconst 0, 1) := dec_at kDX7_reached_0 22 rfl
theorem dX7_reached_38 : decode cX7_reached 38 = .ok (.goto 4, 3) := dec_at kDX7_reached_0 23 rfl
theorem dX7_reached_41 : decode cX7_reached 41 = .ok (.iconst 1, 1) := dec_at kDX7_reached_0 24 rfl
theorem dX7_reached_42 : decode cX7_reached 42 = .ok (.iadd, 1) := dec_at kDX7_reached_0 25 rfl
theorem dX7_reached_43 : decode cX7_reached 43 = .ok (.istore_n 2, 1) := dec_at kDX7_reached_0 26 rfl
theorem dX7_reached_44 : decode cX7_reached 44 = .ok (.aload_n 0, 1) := dec_at kDX7_reached_0 27 rfl
theorem dX7_reached_45 : decode cX7_reached 45 = .ok (.getfield 29, 3) := dec_at kDX7_reached_0 28 rfl
theorem dX7_reached_48 : decode cX7_reached 48 = .ok (.iload 4, 2) := dec_at kDX7_reached_0 29 rfl
theorem dX7_reached_50 : decode cX7_reached 50 = .ok (.iaload, 1) := dec_at kDX7_reached_0 30 rfl
theorem dX7_reached_51 : decode cX7_reached 51 = .ok (.iload_n 3, 1) := dec_at kDX7_reached_0 31 rfl
theorem dX7_reached_52 : decode cX7_reached 52 = .ok (.if_icmp .le 13, 3) := dec_at kDX7_reached_0 32 rfl
theorem dX7_reached_55 : decode cX7_reached 55 = .ok (.aload_n 0, 1) := dec_at kDX7_reached_0 33 rfl
theorem dX7_reached_56 : decode cX7_reached 56 = .ok (.getfield 29, 3) := dec_at kDX7_reached_0 34 rfl
theorem dX7_reached_59 : decode cX7_reached 59 = .ok (.iload 4, 2) := dec_at kDX7_reached_0 35 rfl
theorem dX7_reached_61 : decode cX7_reached 61 = .ok (.iaload, 1) := dec_at kDX7_reached_0 36 rfl
theorem dX7_reached_62 : decode cX7_reached 62 = .ok (.goto 4, 3) := dec_at kDX7_reached_0 37 rfl
theorem dX7_reached_65 : decode cX7_reached 65 = .ok (.iload_n 3, 1) := dec_at kDX7_reached_0 38 rfl
theorem dX7_reached_66 : decode cX7_reached 66 = .ok (.istore_n 3, 1) := dec_at kDX7_reached_0 39 rfl
theorem dX7_reached_67 : decode cX7_reached 67 = .ok (.iinc 4 1, 3) := dec_at kDX7_reached_0 40 rfl
theorem dX7_reached_70 : decode cX7_reached 70 = .ok (.goto (-54), 3) := dec_at kDX7_reached_0 41 rfl
theorem dX7_reached_73 : decode cX7_reached 73 = .ok (.iload_n 1, 1) := dec_at kDX7_reached_0 42 rfl
theorem dX7_reached_74 : decode cX7_reached 74 = .ok (.ifCond .eq 7, 3) := dec_at kDX7_reached_0 43 rfl
theorem dX7_reached_77 : decode cX7_reached 77 = .ok (.iload_n 3, 1) := dec_at kDX7_reached_0 44 rfl
theorem dX7_reached_78 : decode cX7_reached 78 = .ok (.goto 4, 3) := dec_at kDX7_reached_0 45 rfl
theorem dX7_reached_81 : decode cX7_reached 81 = .ok (.iload_n 2, 1) := dec_at kDX7_reached_0 46 rfl
theorem dX7_reached_82 : decode cX7_reached 82 = .ok (.ireturn, 1) := dec_at kDX7_reached_0 47 rfl
def DX7_classes_0 : List (Nat × (Instr × Nat)) := [(0, (.aload_n 0, 1)), (1, (.invokevirtual 230, 3)), (4, (.iconst 0, 1)), (5, (.istore_n 1, 1)), (6, (.iconst 0, 1)), (7, (.istore_n 2, 1)), (8, (.iload_n 2, 1)), (9, (.aload_n 0, 1)), (10, (.invokevirtual 86, 3)), (13, (.if_icmp .ge 27, 3)), (16, (.iload_n 1, 1)), (17, (.aload_n 0, 1)), (18, (.getfield 32, 3)), (21, (.iload_n 2, 1)), (22, (.iaload, 1)), (23, (.iload_n 2, 1)), (24, (.if_icmp .ne 7, 3)), (27, (.iconst 1, 1)), (28, (.goto 4, 3)), (31, (.iconst 0, 1)), (32, (.iadd, 1)), (33, (.istore_n 1, 1)), (34, (.iinc 2 1, 3)), (37, (.goto (-29), 3)), (40, (.iload_n 1, 1)), (41, (.ireturn, 1))]
theorem kDX7_classes_0 : DX7_classes_0.all (fun q => decide (decode cX7_classes q.1 = .ok q.2)) = true := by decide +kernel
theorem dX7_classes_0 : decode cX7_classes 0 = .ok (.aload_n 0, 1) := dec_at kDX7_classes_0 0 rfl
theorem dX7_classes_1 : decode cX7_classes 1 = .ok (.invokevirtual 230, 3) := dec_at kDX7_classes_0 1 rfl
theorem dX7_classes_4 : decode cX7_classes 4 = .ok (.iconst 0, 1) := dec_at kDX7_classes_0 2 rfl
theorem dX7_classes_5 : decode cX7_classes 5 = .ok (.istore_n 1, 1) := dec_at kDX7_classes_0 3 rfl
theorem dX7_classes_6 : decode cX7_classes 6 = .ok (.iconst 0, 1) := dec_at kDX7_classes_0 4 rfl
theorem dX7_classes_7 : decode cX7_classes 7 = .ok (.istore_n 2, 1) := dec_at kDX7_classes_0 5 rfl
theorem dX7_classes_8 : decode cX7_classes 8 = .ok (.iload_n 2, 1) := dec_at kDX7_classes_0 6 rfl
theorem dX7_classes_9 : decode cX7_classes 9 = .ok (.aload_n 0, 1) := dec_at kDX7_classes_0 7 rfl
theorem dX7_classes_10 : decode cX7_classes 10 = .ok (.invokevirtual 86, 3) := dec_at kDX7_classes_0 8 rfl
theorem dX7_classes_13 : decode cX7_classes 13 = .ok (.if_icmp .ge 27, 3) := dec_at kDX7_classes_0 9 rfl
theorem dX7_classes_16 : decode cX7_classes 16 = .ok (.iload_n 1, 1) := dec_at kDX7_classes_0 10 rfl
theorem dX7_classes_17 : decode cX7_classes 17 = .ok (.aload_n 0, 1) := dec_at kDX7_classes_0 11 rfl
theorem dX7_classes_18 : decode cX7_classes 18 = .ok (.getfield 32, 3) := dec_at kDX7_classes_0 12 rfl
theorem dX7_classes_21 : decode cX7_classes 21 = .ok (.iload_n 2, 1) := dec_at kDX7_classes_0 13 rfl
theorem dX7_classes_22 : decode cX7_classes 22 = .ok (.iaload, 1) := dec_at kDX7_classes_0 14 rfl
theorem dX7_classes_23 : decode cX7_classes 23 = .ok (.iload_n 2, 1) := dec_at kDX7_classes_0 15 rfl
theorem dX7_classes_24 : decode cX7_classes 24 = .ok (.if_icmp .ne 7, 3) := dec_at kDX7_classes_0 16 rfl
theorem dX7_classes_27 : decode cX7_classes 27 = .ok (.iconst 1, 1) := dec_at kDX7_classes_0 17 rfl
theorem dX7_classes_28 : decode cX7_classes 28 = .ok (.goto 4, 3) := dec_at kDX7_classes_0 18 rfl
theorem dX7_classes_31 : decode cX7_classes 31 = .ok (.iconst 0, 1) := dec_at kDX7_classes_0 19 rfl
theorem dX7_classes_32 : decode cX7_classes 32 = .ok (.iadd, 1) := dec_at kDX7_classes_0 20 rfl
theorem dX7_classes_33 : decode cX7_classes 33 = .ok (.istore_n 1, 1) := dec_at kDX7_classes_0 21 rfl
theorem dX7_classes_34 : decode cX7_classes 34 = .ok (.iinc 2 1, 3) := dec_at kDX7_classes_0 22 rfl
theorem dX7_classes_37 : decode cX7_classes 37 = .ok (.goto (-29), 3) := dec_at kDX7_classes_0 23 rfl
theorem dX7_classes_40 : decode cX7_classes 40 = .ok (.iload_n 1, 1) := dec_at kDX7_classes_0 24 rfl
theorem dX7_classes_41 : decode cX7_classes 41 = .ok (.ireturn, 1) := dec_at kDX7_classes_0 25 rfl
def DX7_runLength_0 : List (Nat × (Instr × Nat)) := [(0, (.aload_n 0, 1)), (1, (.aload_n 0, 1)), (2, (.invokevirtual 219, 3)), (5, (.iconst 1, 1)), (6, (.invokevirtual 226, 3)), (9, (.iconst (-1), 1)), (10, (.istore_n 1, 1)), (11, (.iconst 0, 1)), (12, (.istore_n 2, 1)), (13, (.iload_n 2, 1)), (14, (.aload_n 0, 1)), (15, (.invokevirtual 86, 3)), (18, (.if_icmp .ge 66, 3)), (21, (.aload_n 0, 1)), (22, (.getfield 94, 3)), (25, (.iload_n 2, 1)), (26, (.invokestatic 74, 3)), (29, (.ifCond .eq 17, 3)), (32, (.aload_n 0, 1)), (33, (.getfield 29, 3)), (36, (.iload_n 2, 1)), (37, (.iaload, 1)), (38, (.iconst (-1), 1)), (39, (.if_icmp .eq 7, 3)), (42, (.iconst 1, 1)), (43, (.goto 4, 3)), (46, (.iconst 0, 1)), (47, (.istore_n 3, 1)), (48, (.iload_n 3, 1)), (49, (.ifCond .eq 27, 3)), (52, (.iload_n 1, 1)), (53, (.iconst (-1), 1)), (54, (.if_icmp .eq 13, 3)), (57, (.aload_n 0, 1)), (58, (.getfield 29, 3)), (61, (.iload_n 2, 1)), (62, (.iaload, 1)), (63, (.iload_n 1, 1)), (64, (.if_icmp .ge 12, 3)), (67, (.aload_n 0, 1)), (68, (.getfield 29, 3)), (71, (.iload_n 2, 1)), (72, (.iaload, 1)), (73, (.goto 4, 3)), (76, (.iload_n 1, 1)), (77, (.istore_n 1, 1)), (78, (.iinc 2 1, 3)), (81, (.goto (-68), 3)), (84, (.iload_n 1, 1)), (85, (.ireturn, 1))]
theorem kDX7_runLength_0 : DX7_runLength_0.all (fun q => decide (decode cX7_runLength q.1 = .ok q.2)) = true := by decide +kernel
theorem dX7_runLength_0 : decode cX7_runLength 0 = .ok (.aload_n 0, 1) := dec_at kDX7_runLength_0 0 rfl
theorem dX7_runLength_1 : decode cX7_runLength 1 = .ok (.aload_n 0, 1) := dec_at kDX7_runLength_0 1 rfl
theorem dX7_runLength_2 : decode cX7_runLength 2 = .ok (.invokevirtual 219, 3) := dec_at kDX7_runLength_0 2 rfl
theorem dX7_runLength_5 : decode cX7_runLength 5 = .ok (.iconst 1, 1) := dec_at kDX7_runLength_0 3 rfl
theorem dX7_runLength_6 : decode cX7_runLength 6 = .ok (.invokevirtual 226, 3) := dec_at kDX7_runLength_0 4 rfl
theorem dX7_runLength_9 : decode cX7_runLength 9 = .ok (.iconst (-1), 1) := dec_at kDX7_runLength_0 5 rfl
theorem dX7_runLength_10 : decode cX7_runLength 10 = .ok (.istore_n 1, 1) := dec_at kDX7_runLength_0 6 rfl
theorem dX7_runLength_11 : decode cX7_runLength 11 = .ok (.iconst 0, 1) := dec_at kDX7_runLength_0 7 rfl
theorem dX7_runLength_12 : decode cX7_runLength 12 = .ok (.istore_n 2, 1) := dec_at kDX7_runLength_0 8 rfl
theorem dX7_runLength_13 : decode cX7_runLength 13 = .ok (.iload_n 2, 1) := dec_at kDX7_runLength_0 9 rfl
theorem dX7_runLength_14 : decode cX7_runLength 14 = .ok (.aload_n 0, 1) := dec_at kDX7_runLength_0 10 rfl
theorem dX7_runLength_15 : decode cX7_runLength 15 = .ok (.invokevirtual 86, 3) := dec_at kDX7_runLength_0 11 rfl
theorem dX7_runLength_18 : decode cX7_runLength 18 = .ok (.if_icmp .ge 66, 3) := dec_at kDX7_runLength_0 12 rfl
theorem dX7_runLength_21 : decode cX7_runLength 21 = .ok (.aload_n 0, 1) := dec_at kDX7_runLength_0 13 rfl
theorem dX7_runLength_22 : decode cX7_runLength 22 = .ok (.getfield 94, 3) := dec_at kDX7_runLength_0 14 rfl
theorem dX7_runLength_25 : decode cX7_runLength 25 = .ok (.iload_n 2, 1) := dec_at kDX7_runLength_0 15 rfl
theorem dX7_runLength_26 : decode cX7_runLength 26 = .ok (.invokestatic 74, 3) := dec_at kDX7_runLength_0 16 rfl
theorem dX7_runLength_29 : decode cX7_runLength 29 = .ok (.ifCond .eq 17, 3) := dec_at kDX7_runLength_0 17 rfl
theorem dX7_runLength_32 : decode cX7_runLength 32 = .ok (.aload_n 0, 1) := dec_at kDX7_runLength_0 18 rfl
theorem dX7_runLength_33 : decode cX7_runLength 33 = .ok (.getfield 29, 3) := dec_at kDX7_runLength_0 19 rfl
theorem dX7_runLength_36 : decode cX7_runLength 36 = .ok (.iload_n 2, 1) := dec_at kDX7_runLength_0 20 rfl
theorem dX7_runLength_37 : decode cX7_runLength 37 = .ok (.iaload, 1) := dec_at kDX7_runLength_0 21 rfl
theorem dX7_runLength_38 : decode cX7_runLength 38 = .ok (.iconst (-1), 1) := dec_at kDX7_runLength_0 22 rfl
theorem dX7_runLength_39 : decode cX7_runLength 39 = .ok (.if_icmp .eq 7, 3) := dec_at kDX7_runLength_0 23 rfl
theorem dX7_runLength_42 : decode cX7_runLength 42 = .ok (.iconst 1, 1) := dec_at kDX7_runLength_0 24 rfl
theorem dX7_runLength_43 : decode cX7_runLength 43 = .ok (.goto 4, 3) := dec_at kDX7_runLength_0 25 rfl
theorem dX7_runLength_46 : decode cX7_runLength 46 = .ok (.iconst 0, 1) := dec_at kDX7_runLength_0 26 rfl
theorem dX7_runLength_47 : decode cX7_runLength 47 = .ok (.istore_n 3, 1) := dec_at kDX7_runLength_0 27 rfl
theorem dX7_runLength_48 : decode cX7_runLength 48 = .ok (.iload_n 3, 1) := dec_at kDX7_runLength_0 28 rfl
theorem dX7_runLength_49 : decode cX7_runLength 49 = .ok (.ifCond .eq 27, 3) := dec_at kDX7_runLength_0 29 rfl
theorem dX7_runLength_52 : decode cX7_runLength 52 = .ok (.iload_n 1, 1) := dec_at kDX7_runLength_0 30 rfl
theorem dX7_runLength_53 : decode cX7_runLength 53 = .ok (.iconst (-1), 1) := dec_at kDX7_runLength_0 31 rfl
theorem dX7_runLength_54 : decode cX7_runLength 54 = .ok (.if_icmp .eq 13, 3) := dec_at kDX7_runLength_0 32 rfl
theorem dX7_runLength_57 : decode cX7_runLength 57 = .ok (.aload_n 0, 1) := dec_at kDX7_runLength_0 33 rfl
theorem dX7_runLength_58 : decode cX7_runLength 58 = .ok (.getfield 29, 3) := dec_at kDX7_runLength_0 34 rfl
theorem dX7_runLength_61 : decode cX7_runLength 61 = .ok (.iload_n 2, 1) := dec_at kDX7_runLength_0 35 rfl
theorem dX7_runLength_62 : decode cX7_runLength 62 = .ok (.iaload, 1) := dec_at kDX7_runLength_0 36 rfl
theorem dX7_runLength_63 : decode cX7_runLength 63 = .ok (.iload_n 1, 1) := dec_at kDX7_runLength_0 37 rfl
theorem dX7_runLength_64 : decode cX7_runLength 64 = .ok (.if_icmp .ge 12, 3) := dec_at kDX7_runLength_0 38 rfl
theorem dX7_runLength_67 : decode cX7_runLength 67 = .ok (.aload_n 0, 1) := dec_at kDX7_runLength_0 39 rfl
theorem dX7_runLength_68 : decode cX7_runLength 68 = .ok (.getfield 29, 3) := dec_at kDX7_runLength_0 40 rfl
theorem dX7_runLength_71 : decode cX7_runLength 71 = .ok (.iload_n 2, 1) := dec_at kDX7_runLength_0 41 rfl
theorem dX7_runLength_72 : decode cX7_runLength 72 = .ok (.iaload, 1) := dec_at kDX7_runLength_0 42 rfl
theorem dX7_runLength_73 : decode cX7_runLength 73 = .ok (.goto 4, 3) := dec_at kDX7_runLength_0 43 rfl
theorem dX7_runLength_76 : decode cX7_runLength 76 = .ok (.iload_n 1, 1) := dec_at kDX7_runLength_0 44 rfl
theorem dX7_runLength_77 : decode cX7_runLength 77 = .ok (.istore_n 1, 1) := dec_at kDX7_runLength_0 45 rfl
theorem dX7_runLength_78 : decode cX7_runLength 78 = .ok (.iinc 2 1, 3) := dec_at kDX7_runLength_0 46 rfl
theorem dX7_runLength_81 : decode cX7_runLength 81 = .ok (.goto (-68), 3) := dec_at kDX7_runLength_0 47 rfl
theorem dX7_runLength_84 : decode cX7_runLength 84 = .ok (.iload_n 1, 1) := dec_at kDX7_runLength_0 48 rfl
theorem dX7_runLength_85 : decode cX7_runLength 85 = .ok (.ireturn, 1) := dec_at kDX7_runLength_0 49 rfl
def DX7_systemNow_0 : List (Nat × (Instr × Nat)) := [(0, (.iload_n 1, 1)), (1, (.tableswitch 104 0 8 #[51, 56, 61, 66, 74, 82, 88, 94, 99], 51)), (52, (.aload_n 0, 1)), (53, (.getfield 78, 3)), (56, (.ireturn, 1)), (57, (.aload_n 0, 1)), (58, (.getfield 81, 3)), (61, (.ireturn, 1)), (62, (.aload_n 0, 1)), (63, (.invokevirtual 86, 3)), (66, (.ireturn, 1)), (67, (.aload_n 0, 1)), (68, (.getfield 94, 3)), (71, (.invokestatic 191, 3)), (74, (.ireturn, 1)), (75, (.aload_n 0, 1)), (76, (.getfield 102, 3)), (79, (.invokestatic 191, 3)), (82, (.ireturn, 1)), (83, (.aload_n 0, 1)), (84, (.iconst 0, 1)), (85, (.invokevirtual 243, 3)), (88, (.ireturn, 1)), (89, (.aload_n 0, 1)), (90, (.iconst 1, 1)), (91, (.invokevirtual 243, 3)), (94, (.ireturn, 1)), (95, (.aload_n 0, 1)), (96, (.invokevirtual 247, 3)), (99, (.ireturn, 1)), (100, (.aload_n 0, 1)), (101, (.getfield 105, 3)), (104, (.ireturn, 1)), (105, (.aload_n 0, 1)), (106, (.invokevirtual 250, 3)), (109, (.ireturn, 1))]
theorem kDX7_systemNow_0 : DX7_systemNow_0.all (fun q => decide (decode cX7_systemNow q.1 = .ok q.2)) = true := by decide +kernel
theorem dX7_systemNow_0 : decode cX7_systemNow 0 = .ok (.iload_n 1, 1) := dec_at kDX7_systemNow_0 0 rfl
theorem dX7_systemNow_1 : decode cX7_systemNow 1 = .ok (.tableswitch 104 0 8 #[51, 56, 61, 66, 74, 82, 88, 94, 99], 51) := dec_at kDX7_systemNow_0 1 rfl
theorem dX7_systemNow_52 : decode cX7_systemNow 52 = .ok (.aload_n 0, 1) := dec_at kDX7_systemNow_0 2 rfl
theorem dX7_systemNow_53 : decode cX7_systemNow 53 = .ok (.getfield 78, 3) := dec_at kDX7_systemNow_0 3 rfl
theorem dX7_systemNow_56 : decode cX7_systemNow 56 = .ok (.ireturn, 1) := dec_at kDX7_systemNow_0 4 rfl
theorem dX7_systemNow_57 : decode cX7_systemNow 57 = .ok (.aload_n 0, 1) := dec_at kDX7_systemNow_0 5 rfl
theorem dX7_systemNow_58 : decode cX7_systemNow 58 = .ok (.getfield 81, 3) := dec_at kDX7_systemNow_0 6 rfl
theorem dX7_systemNow_61 : decode cX7_systemNow 61 = .ok (.ireturn, 1) := dec_at kDX7_systemNow_0 7 rfl
theorem dX7_systemNow_62 : decode cX7_systemNow 62 = .ok (.aload_n 0, 1) := dec_at kDX7_systemNow_0 8 rfl
theorem dX7_systemNow_63 : decode cX7_systemNow 63 = .ok (.invokevirtual 86, 3) := dec_at kDX7_systemNow_0 9 rfl
theorem dX7_systemNow_66 : decode cX7_systemNow 66 = .ok (.ireturn, 1) := dec_at kDX7_systemNow_0 10 rfl
theorem dX7_systemNow_67 : decode cX7_systemNow 67 = .ok (.aload_n 0, 1) := dec_at kDX7_systemNow_0 11 rfl
theorem dX7_systemNow_68 : decode cX7_systemNow 68 = .ok (.getfield 94, 3) := dec_at kDX7_systemNow_0 12 rfl
theorem dX7_systemNow_71 : decode cX7_systemNow 71 = .ok (.invokestatic 191, 3) := dec_at kDX7_systemNow_0 13 rfl
theorem dX7_systemNow_74 : decode cX7_systemNow 74 = .ok (.ireturn, 1) := dec_at kDX7_systemNow_0 14 rfl
theorem dX7_systemNow_75 : decode cX7_systemNow 75 = .ok (.aload_n 0, 1) := dec_at kDX7_systemNow_0 15 rfl
theorem dX7_systemNow_76 : decode cX7_systemNow 76 = .ok (.getfield 102, 3) := dec_at kDX7_systemNow_0 16 rfl
theorem dX7_systemNow_79 : decode cX7_systemNow 79 = .ok (.invokestatic 191, 3) := dec_at kDX7_systemNow_0 17 rfl
theorem dX7_systemNow_82 : decode cX7_systemNow 82 = .ok (.ireturn, 1) := dec_at kDX7_systemNow_0 18 rfl
theorem dX7_systemNow_83 : decode cX7_systemNow 83 = .ok (.aload_n 0, 1) := dec_at kDX7_systemNow_0 19 rfl
theorem dX7_systemNow_84 : decode cX7_systemNow 84 = .ok (.iconst 0, 1) := dec_at kDX7_systemNow_0 20 rfl
theorem dX7_systemNow_85 : decode cX7_systemNow 85 = .ok (.invokevirtual 243, 3) := dec_at kDX7_systemNow_0 21 rfl
theorem dX7_systemNow_88 : decode cX7_systemNow 88 = .ok (.ireturn, 1) := dec_at kDX7_systemNow_0 22 rfl
theorem dX7_systemNow_89 : decode cX7_systemNow 89 = .ok (.aload_n 0, 1) := dec_at kDX7_systemNow_0 23 rfl
theorem dX7_systemNow_90 : decode cX7_systemNow 90 = .ok (.iconst 1, 1) := dec_at kDX7_systemNow_0 24 rfl
theorem dX7_systemNow_91 : decode cX7_systemNow 91 = .ok (.invokevirtual 243, 3) := dec_at kDX7_systemNow_0 25 rfl
theorem dX7_systemNow_94 : decode cX7_systemNow 94 = .ok (.ireturn, 1) := dec_at kDX7_systemNow_0 26 rfl
theorem dX7_systemNow_95 : decode cX7_systemNow 95 = .ok (.aload_n 0, 1) := dec_at kDX7_systemNow_0 27 rfl
theorem dX7_systemNow_96 : decode cX7_systemNow 96 = .ok (.invokevirtual 247, 3) := dec_at kDX7_systemNow_0 28 rfl
theorem dX7_systemNow_99 : decode cX7_systemNow 99 = .ok (.ireturn, 1) := dec_at kDX7_systemNow_0 29 rfl
theorem dX7_systemNow_100 : decode cX7_systemNow 100 = .ok (.aload_n 0, 1) := dec_at kDX7_systemNow_0 30 rfl
theorem dX7_systemNow_101 : decode cX7_systemNow 101 = .ok (.getfield 105, 3) := dec_at kDX7_systemNow_0 31 rfl
theorem dX7_systemNow_104 : decode cX7_systemNow 104 = .ok (.ireturn, 1) := dec_at kDX7_systemNow_0 32 rfl
theorem dX7_systemNow_105 : decode cX7_systemNow 105 = .ok (.aload_n 0, 1) := dec_at kDX7_systemNow_0 33 rfl
theorem dX7_systemNow_106 : decode cX7_systemNow 106 = .ok (.invokevirtual 250, 3) := dec_at kDX7_systemNow_0 34 rfl
theorem dX7_systemNow_109 : decode cX7_systemNow 109 = .ok (.ireturn, 1) := dec_at kDX7_systemNow_0 35 rfl
def DX7_system_0 : List (Nat × (Instr × Nat)) := [(0, (.aload_n 0, 1)), (1, (.iload_n 1, 1)), (2, (.iconst 0, 1)), (3, (.bipush 9, 2)), (5, (.invokestatic 112, 3)), (8, (.ifCond .eq 7, 3)), (11, (.iconst 0, 1)), (12, (.goto 4, 3)), (15, (.iconst 1, 1)), (16, (.putfield 70, 3)), (19, (.aload_n 0, 1)), (20, (.getfield 70, 3)), (23, (.ifCond .le 7, 3)), (26, (.iconst 0, 1)), (27, (.goto 8, 3)), (30, (.aload_n 0, 1)), (31, (.iload_n 1, 1)), (32, (.invokevirtual 253, 3)), (35, (.ireturn, 1))]
theorem kDX7_system_0 : DX7_system_0.all (fun q => decide (decode cX7_system q.1 = .ok q.2)) = true := by decide +kernel
theorem dX7_system_0 : decode cX7_system 0 = .ok (.aload_n 0, 1) := dec_at kDX7_system_0 0 rfl
theorem dX7_system_1 : decode cX7_system 1 = .ok (.iload_n 1, 1) := dec_at kDX7_system_0 1 rfl
theorem dX7_system_2 : decode cX7_system 2 = .ok (.iconst 0, 1) := dec_at kDX7_system_0 2 rfl
theorem dX7_system_3 : decode cX7_system 3 = .ok (.bipush 9, 2) := dec_at kDX7_system_0 3 rfl
theorem dX7_system_5 : decode cX7_system 5 = .ok (.invokestatic 112, 3) := dec_at kDX7_system_0 4 rfl
theorem dX7_system_8 : decode cX7_system 8 = .ok (.ifCond .eq 7, 3) := dec_at kDX7_system_0 5 rfl
theorem dX7_system_11 : decode cX7_system 11 = .ok (.iconst 0, 1) := dec_at kDX7_system_0 6 rfl
theorem dX7_system_12 : decode cX7_system 12 = .ok (.goto 4, 3) := dec_at kDX7_system_0 7 rfl
theorem dX7_system_15 : decode cX7_system 15 = .ok (.iconst 1, 1) := dec_at kDX7_system_0 8 rfl
theorem dX7_system_16 : decode cX7_system 16 = .ok (.putfield 70, 3) := dec_at kDX7_system_0 9 rfl
theorem dX7_system_19 : decode cX7_system 19 = .ok (.aload_n 0, 1) := dec_at kDX7_system_0 10 rfl
theorem dX7_system_20 : decode cX7_system 20 = .ok (.getfield 70, 3) := dec_at kDX7_system_0 11 rfl
theorem dX7_system_23 : decode cX7_system 23 = .ok (.ifCond .le 7, 3) := dec_at kDX7_system_0 12 rfl
theorem dX7_system_26 : decode cX7_system 26 = .ok (.iconst 0, 1) := dec_at kDX7_system_0 13 rfl
theorem dX7_system_27 : decode cX7_system 27 = .ok (.goto 8, 3) := dec_at kDX7_system_0 14 rfl
theorem dX7_system_30 : decode cX7_system 30 = .ok (.aload_n 0, 1) := dec_at kDX7_system_0 15 rfl
theorem dX7_system_31 : decode cX7_system 31 = .ok (.iload_n 1, 1) := dec_at kDX7_system_0 16 rfl
theorem dX7_system_32 : decode cX7_system 32 = .ok (.invokevirtual 253, 3) := dec_at kDX7_system_0 17 rfl
theorem dX7_system_35 : decode cX7_system 35 = .ok (.ireturn, 1) := dec_at kDX7_system_0 18 rfl
def DX7_leastAt_0 : List (Nat × (Instr × Nat)) := [(0, (.iconst 0, 1)), (1, (.istore 4, 2)), (3, (.lload_n 1, 1)), (4, (.iload 4, 2)), (6, (.invokestatic 74, 3)), (9, (.ifCond .eq 14, 3)), (12, (.aload_n 0, 1)), (13, (.getfield 29, 3)), (16, (.iload 4, 2)), (18, (.iaload, 1)), (19, (.iload_n 3, 1)), (20, (.if_icmp .eq 9, 3)), (23, (.iinc 4 1, 3)), (26, (.goto (-23), 3)), (29, (.iload 4, 2)), (31, (.ireturn, 1))]
theorem kDX7_leastAt_0 : DX7_leastAt_0.all (fun q => decide (decode cX7_leastAt q.1 = .ok q.2)) = true := by decide +kernel
theorem dX7_leastAt_0 : decode cX7_leastAt 0 = .ok (.iconst 0, 1) := dec_at kDX7_leastAt_0 0 rfl
theorem dX7_leastAt_1 : decode cX7_leastAt 1 = .ok (.istore 4, 2) := dec_at kDX7_leastAt_0 1 rfl
theorem dX7_leastAt_3 : decode cX7_leastAt 3 = .ok (.lload_n 1, 1) := dec_at kDX7_leastAt_0 2 rfl
theorem dX7_leastAt_4 : decode cX7_leastAt 4 = .ok (.iload 4, 2) := dec_at kDX7_leastAt_0 3 rfl
theorem dX7_leastAt_6 : decode cX7_leastAt 6 = .ok (.invokestatic 74, 3) := dec_at kDX7_leastAt_0 4 rfl
theorem dX7_leastAt_9 : decode cX7_leastAt 9 = .ok (.ifCond .eq 14, 3) := dec_at kDX7_leastAt_0 5 rfl
theorem dX7_leastAt_12 : decode cX7_leastAt 12 = .ok (.aload_n 0, 1) := dec_at kDX7_leastAt_0 6 rfl
theorem dX7_leastAt_13 : decode cX7_leastAt 13 = .ok (.getfield 29, 3) := dec_at kDX7_leastAt_0 7 rfl
theorem dX7_leastAt_16 : decode cX7_leastAt 16 = .ok (.iload 4, 2) := dec_at kDX7_leastAt_0 8 rfl
theorem dX7_leastAt_18 : decode cX7_leastAt 18 = .ok (.iaload, 1) := dec_at kDX7_leastAt_0 9 rfl
theorem dX7_leastAt_19 : decode cX7_leastAt 19 = .ok (.iload_n 3, 1) := dec_at kDX7_leastAt_0 10 rfl
theorem dX7_leastAt_20 : decode cX7_leastAt 20 = .ok (.if_icmp .eq 9, 3) := dec_at kDX7_leastAt_0 11 rfl
theorem dX7_leastAt_23 : decode cX7_leastAt 23 = .ok (.iinc 4 1, 3) := dec_at kDX7_leastAt_0 12 rfl
theorem dX7_leastAt_26 : decode cX7_leastAt 26 = .ok (.goto (-23), 3) := dec_at kDX7_leastAt_0 13 rfl
theorem dX7_leastAt_29 : decode cX7_leastAt 29 = .ok (.iload 4, 2) := dec_at kDX7_leastAt_0 14 rfl
theorem dX7_leastAt_31 : decode cX7_leastAt 31 = .ok (.ireturn, 1) := dec_at kDX7_leastAt_0 15 rfl
def DX7_runState_0 : List (Nat × (Instr × Nat)) := [(0, (.aload_n 0, 1)), (1, (.aload_n 0, 1)), (2, (.getfield 94, 3)), (5, (.iload_n 1, 1)), (6, (.invokevirtual 256, 3)), (9, (.istore_n 3, 1)), (10, (.iconst 1, 1)), (11, (.istore 4, 2)), (13, (.iload 4, 2)), (15, (.iload_n 2, 1)), (16, (.if_icmp .gt 25, 3)), (19, (.aload_n 0, 1)), (20, (.aload_n 0, 1)), (21, (.lconst 1, 1)), (22, (.iload_n 3, 1)), (23, (.lshl, 1)), (24, (.invokevirtual 213, 3)), (27, (.iload_n 1, 1)), (28, (.iload 4, 2)), (30, (.isub, 1)), (31, (.invokevirtual 256, 3)), (34, (.istore_n 3, 1)), (35, (.iinc 4 1, 3)), (38, (.goto (-25), 3)), (41, (.iload_n 3, 1)), (42, (.ireturn, 1))]
theorem kDX7_runState_0 : DX7_runState_0.all (fun q => decide (decode cX7_runState q.1 = .ok q.2)) = true := by decide +kernel
theorem dX7_runState_0 : decode cX7_runState 0 = .ok (.aload_n 0, 1) := dec_at kDX7_runState_0 0 rfl
theorem dX7_runState_1 : decode cX7_runState 1 = .ok (.aload_n 0, 1) := dec_at kDX7_runState_0 1 rfl
theorem dX7_runState_2 : decode cX7_runState 2 = .ok (.getfield 94, 3) := dec_at kDX7_runState_0 2 rfl
theorem dX7_runState_5 : decode cX7_runState 5 = .ok (.iload_n 1, 1) := dec_at kDX7_runState_0 3 rfl
theorem dX7_runState_6 : decode cX7_runState 6 = .ok (.invokevirtual 256, 3) := dec_at kDX7_runState_0 4 rfl
theorem dX7_runState_9 : decode cX7_runState 9 = .ok (.istore_n 3, 1) := dec_at kDX7_runState_0 5 rfl
theorem dX7_runState_10 : decode cX7_runState 10 = .ok (.iconst 1, 1) := dec_at kDX7_runState_0 6 rfl
theorem dX7_runState_11 : decode cX7_runState 11 = .ok (.istore 4, 2) := dec_at kDX7_runState_0 7 rfl
theorem dX7_runState_13 : decode cX7_runState 13 = .ok (.iload 4, 2) := dec_at kDX7_runState_0 8 rfl
theorem dX7_runState_15 : decode cX7_runState 15 = .ok (.iload_n 2, 1) := dec_at kDX7_runState_0 9 rfl
theorem dX7_runState_16 : decode cX7_runState 16 = .ok (.if_icmp .gt 25, 3) := dec_at kDX7_runState_0 10 rfl
theorem dX7_runState_19 : decode cX7_runState 19 = .ok (.aload_n 0, 1) := dec_at kDX7_runState_0 11 rfl
theorem dX7_runState_20 : decode cX7_runState 20 = .ok (.aload_n 0, 1) := dec_at kDX7_runState_0 12 rfl
theorem dX7_runState_21 : decode cX7_runState 21 = .ok (.lconst 1, 1) := dec_at kDX7_runState_0 13 rfl
theorem dX7_runState_22 : decode cX7_runState 22 = .ok (.iload_n 3, 1) := dec_at kDX7_runState_0 14 rfl
theorem dX7_runState_23 : decode cX7_runState 23 = .ok (.lshl, 1) := dec_at kDX7_runState_0 15 rfl
theorem dX7_runState_24 : decode cX7_runState 24 = .ok (.invokevirtual 213, 3) := dec_at kDX7_runState_0 16 rfl
theorem dX7_runState_27 : decode cX7_runState 27 = .ok (.iload_n 1, 1) := dec_at kDX7_runState_0 17 rfl
theorem dX7_runState_28 : decode cX7_runState 28 = .ok (.iload 4, 2) := dec_at kDX7_runState_0 18 rfl
theorem dX7_runState_30 : decode cX7_runState 30 = .ok (.isub, 1) := dec_at kDX7_runState_0 19 rfl
theorem dX7_runState_31 : decode cX7_runState 31 = .ok (.invokevirtual 256, 3) := dec_at kDX7_runState_0 20 rfl
theorem dX7_runState_34 : decode cX7_runState 34 = .ok (.istore_n 3, 1) := dec_at kDX7_runState_0 21 rfl
theorem dX7_runState_35 : decode cX7_runState 35 = .ok (.iinc 4 1, 3) := dec_at kDX7_runState_0 22 rfl
theorem dX7_runState_38 : decode cX7_runState 38 = .ok (.goto (-25), 3) := dec_at kDX7_runState_0 23 rfl
theorem dX7_runState_41 : decode cX7_runState 41 = .ok (.iload_n 3, 1) := dec_at kDX7_runState_0 24 rfl
theorem dX7_runState_42 : decode cX7_runState 42 = .ok (.ireturn, 1) := dec_at kDX7_runState_0 25 rfl
def DX7_inputTo_0 : List (Nat × (Instr × Nat)) := [(0, (.iconst 0, 1)), (1, (.istore_n 3, 1)), (2, (.aload_n 0, 1)), (3, (.iload_n 1, 1)), (4, (.iload_n 3, 1)), (5, (.invokevirtual 205, 3)), (8, (.iload_n 2, 1)), (9, (.if_icmp .eq 9, 3)), (12, (.iinc 3 1, 3)), (15, (.goto (-13), 3)), (18, (.iload_n 3, 1)), (19, (.ireturn, 1))]
theorem kDX7_inputTo_0 : DX7_inputTo_0.all (fun q => decide (decode cX7_inputTo q.1 = .ok q.2)) = true := by decide +kernel
theorem dX7_inputTo_0 : decode cX7_inputTo 0 = .ok (.iconst 0, 1) := dec_at kDX7_inputTo_0 0 rfl
theorem dX7_inputTo_1 : decode cX7_inputTo 1 = .ok (.istore_n 3, 1) := dec_at kDX7_inputTo_0 1 rfl
theorem dX7_inputTo_2 : decode cX7_inputTo 2 = .ok (.aload_n 0, 1) := dec_at kDX7_inputTo_0 2 rfl
theorem dX7_inputTo_3 : decode cX7_inputTo 3 = .ok (.iload_n 1, 1) := dec_at kDX7_inputTo_0 3 rfl
theorem dX7_inputTo_4 : decode cX7_inputTo 4 = .ok (.iload_n 3, 1) := dec_at kDX7_inputTo_0 4 rfl
theorem dX7_inputTo_5 : decode cX7_inputTo 5 = .ok (.invokevirtual 205, 3) := dec_at kDX7_inputTo_0 5 rfl
theorem dX7_inputTo_8 : decode cX7_inputTo 8 = .ok (.iload_n 2, 1) := dec_at kDX7_inputTo_0 6 rfl
theorem dX7_inputTo_9 : decode cX7_inputTo 9 = .ok (.if_icmp .eq 9, 3) := dec_at kDX7_inputTo_0 7 rfl
theorem dX7_inputTo_12 : decode cX7_inputTo 12 = .ok (.iinc 3 1, 3) := dec_at kDX7_inputTo_0 8 rfl
theorem dX7_inputTo_15 : decode cX7_inputTo 15 = .ok (.goto (-13), 3) := dec_at kDX7_inputTo_0 9 rfl
theorem dX7_inputTo_18 : decode cX7_inputTo 18 = .ok (.iload_n 3, 1) := dec_at kDX7_inputTo_0 10 rfl
theorem dX7_inputTo_19 : decode cX7_inputTo 19 = .ok (.ireturn, 1) := dec_at kDX7_inputTo_0 11 rfl
def DX7_shortest_0 : List (Nat × (Instr × Nat)) := [(0, (.aload_n 0, 1)), (1, (.invokevirtual 250, 3)), (4, (.istore_n 3, 1)), (5, (.aload_n 0, 1)), (6, (.iload_n 3, 1)), (7, (.iconst (-1), 1)), (8, (.if_icmp .ne 7, 3)), (11, (.iconst 1, 1)), (12, (.goto 30, 3)), (15, (.iload_n 1, 1)), (16, (.iconst 0, 1)), (17, (.iload_n 3, 1)), (18, (.invokestatic 112, 3)), (21, (.ifCond .ne 7, 3)), (24, (.iconst 2, 1)), (25, (.goto 17, 3)), (28, (.iload_n 2, 1)), (29, (.iconst 0, 1)), (30, (.iconst 1, 1)), (31, (.invokestatic 112, 3)), (34, (.ifCond .eq 7, 3)), (37, (.iconst 0, 1)), (38, (.goto 4, 3)), (41, (.iconst 3, 1)), (42, (.putfield 70, 3)), (45, (.aload_n 0, 1)), (46, (.getfield 70, 3)), (49, (.ifCond .le 5, 3)), (52, (.iconst 0, 1)), (53, (.ireturn, 1)), (54, (.aload_n 0, 1)), (55, (.iload_n 3, 1)), (56, (.iload_n 1, 1)), (57, (.invokevirtual 260, 3)), (60, (.istore 4, 2)), (62, (.iload_n 2, 1)), (63, (.ifCond .ne 8, 3)), (66, (.iload 4, 2)), (68, (.goto 26, 3)), (71, (.iload_n 1, 1)), (72, (.iload_n 3, 1)), (73, (.if_icmp .ne 7, 3)), (76, (.iconst (-1), 1)), (77, (.goto 17, 3)), (80, (.aload_n 0, 1)), (81, (.iload 4, 2)), (83, (.aload_n 0, 1)), (84, (.iload_n 3, 1)), (85, (.iload_n 1, 1)), (86, (.iconst 1, 1))]
theorem kDX7_shortest_0 : DX7_shortest_0.all (fun q => decide (decode cX7_shortest q.1 = .ok q.2)) = true := by decide +kernel
theorem dX7_shortest_0 : decode cX7_shortest 0 = .ok (.aload_n 0, 1) := dec_at kDX7_shortest_0 0 rfl
theorem dX7_shortest_1 : decode cX7_shortest 1 = .ok (.invokevirtual 250, 3) := dec_at kDX7_shortest_0 1 rfl
theorem dX7_shortest_4 : decode cX7_shortest 4 = .ok (.istore_n 3, 1) := dec_at kDX7_shortest_0 2 rfl
theorem dX7_shortest_5 : decode cX7_shortest 5 = .ok (.aload_n 0, 1) := dec_at kDX7_shortest_0 3 rfl
theorem dX7_shortest_6 : decode cX7_shortest 6 = .ok (.iload_n 3, 1) := dec_at kDX7_shortest_0 4 rfl
theorem dX7_shortest_7 : decode cX7_shortest 7 = .ok (.iconst (-1), 1) := dec_at kDX7_shortest_0 5 rfl
theorem dX7_shortest_8 : decode cX7_shortest 8 = .ok (.if_icmp .ne 7, 3) := dec_at kDX7_shortest_0 6 rfl
theorem dX7_shortest_11 : decode cX7_shortest 11 = .ok (.iconst 1, 1) := dec_at kDX7_shortest_0 7 rfl
theorem dX7_shortest_12 : decode cX7_shortest 12 = .ok (.goto 30, 3) := dec_at kDX7_shortest_0 8 rfl
theorem dX7_shortest_15 : decode cX7_shortest 15 = .ok (.iload_n 1, 1) := dec_at kDX7_shortest_0 9 rfl
theorem dX7_shortest_16 : decode cX7_shortest 16 = .ok (.iconst 0, 1) := dec_at kDX7_shortest_0 10 rfl
theorem dX7_shortest_17 : decode cX7_shortest 17 = .ok (.iload_n 3, 1) := dec_at kDX7_shortest_0 11 rfl
theorem dX7_shortest_18 : decode cX7_shortest 18 = .ok (.invokestatic 112, 3) := dec_at kDX7_shortest_0 12 rfl
theorem dX7_shortest_21 : decode cX7_shortest 21 = .ok (.ifCond .ne 7, 3) := dec_at kDX7_shortest_0 13 rfl
theorem dX7_shortest_24 : decode cX7_shortest 24 = .ok (.iconst 2, 1) := dec_at kDX7_shortest_0 14 rfl
theorem dX7_shortest_25 : decode cX7_shortest 25 = .ok (.goto 17, 3) := dec_at kDX7_shortest_0 15 rfl
theorem dX7_shortest_28 : decode cX7_shortest 28 = .ok (.iload_n 2, 1) := dec_at kDX7_shortest_0 16 rfl
theorem dX7_shortest_29 : decode cX7_shortest 29 = .ok (.iconst 0, 1) := dec_at kDX7_shortest_0 17 rfl
theorem dX7_shortest_30 : decode cX7_shortest 30 = .ok (.iconst 1, 1) := dec_at kDX7_shortest_0 18 rfl
theorem dX7_shortest_31 : decode cX7_shortest 31 = .ok (.invokestatic 112, 3) := dec_at kDX7_shortest_0 19 rfl
theorem dX7_shortest_34 : decode cX7_shortest 34 = .ok (.ifCond .eq 7, 3) := dec_at kDX7_shortest_0 20 rfl
theorem dX7_shortest_37 : decode cX7_shortest 37 = .ok (.iconst 0, 1) := dec_at kDX7_shortest_0 21 rfl
theorem dX7_shortest_38 : decode cX7_shortest 38 = .ok (.goto 4, 3) := dec_at kDX7_shortest_0 22 rfl
theorem dX7_shortest_41 : decode cX7_shortest 41 = .ok (.iconst 3, 1) := dec_at kDX7_shortest_0 23 rfl
theorem dX7_shortest_42 : decode cX7_shortest 42 = .ok (.putfield 70, 3) := dec_at kDX7_shortest_0 24 rfl
theorem dX7_shortest_45 : decode cX7_shortest 45 = .ok (.aload_n 0, 1) := dec_at kDX7_shortest_0 25 rfl
theorem dX7_shortest_46 : decode cX7_shortest 46 = .ok (.getfield 70, 3) := dec_at kDX7_shortest_0 26 rfl
theorem dX7_shortest_49 : decode cX7_shortest 49 = .ok (.ifCond .le 5, 3) := dec_at kDX7_shortest_0 27 rfl
theorem dX7_shortest_52 : decode cX7_shortest 52 = .ok (.iconst 0, 1) := dec_at kDX7_shortest_0 28 rfl
theorem dX7_shortest_53 : decode cX7_shortest 53 = .ok (.ireturn, 1) := dec_at kDX7_shortest_0 29 rfl
theorem dX7_shortest_54 : decode cX7_shortest 54 = .ok (.aload_n 0, 1) := dec_at kDX7_shortest_0 30 rfl
theorem dX7_shortest_55 : decode cX7_shortest 55 = .ok (.iload_n 3, 1) := dec_at kDX7_shortest_0 31 rfl
theorem dX7_shortest_56 : decode cX7_shortest 56 = .ok (.iload_n 1, 1) := dec_at kDX7_shortest_0 32 rfl
theorem dX7_shortest_57 : decode cX7_shortest 57 = .ok (.invokevirtual 260, 3) := dec_at kDX7_shortest_0 33 rfl
theorem dX7_shortest_60 : decode cX7_shortest 60 = .ok (.istore 4, 2) := dec_at kDX7_shortest_0 34 rfl
theorem dX7_shortest_62 : decode cX7_shortest 62 = .ok (.iload_n 2, 1) := dec_at kDX7_shortest_0 35 rfl
theorem dX7_shortest_63 : decode cX7_shortest 63 = .ok (.ifCond .ne 8, 3) := dec_at kDX7_shortest_0 36 rfl
theorem dX7_shortest_66 : decode cX7_shortest 66 = .ok (.iload 4, 2) := dec_at kDX7_shortest_0 37 rfl
theorem dX7_shortest_68 : decode cX7_shortest 68 = .ok (.goto 26, 3) := dec_at kDX7_shortest_0 38 rfl
theorem dX7_shortest_71 : decode cX7_shortest 71 = .ok (.iload_n 1, 1) := dec_at kDX7_shortest_0 39 rfl
theorem dX7_shortest_72 : decode cX7_shortest 72 = .ok (.iload_n 3, 1) := dec_at kDX7_shortest_0 40 rfl
theorem dX7_shortest_73 : decode cX7_shortest 73 = .ok (.if_icmp .ne 7, 3) := dec_at kDX7_shortest_0 41 rfl
theorem dX7_shortest_76 : decode cX7_shortest 76 = .ok (.iconst (-1), 1) := dec_at kDX7_shortest_0 42 rfl
theorem dX7_shortest_77 : decode cX7_shortest 77 = .ok (.goto 17, 3) := dec_at kDX7_shortest_0 43 rfl
theorem dX7_shortest_80 : decode cX7_shortest 80 = .ok (.aload_n 0, 1) := dec_at kDX7_shortest_0 44 rfl
theorem dX7_shortest_81 : decode cX7_shortest 81 = .ok (.iload 4, 2) := dec_at kDX7_shortest_0 45 rfl
theorem dX7_shortest_83 : decode cX7_shortest 83 = .ok (.aload_n 0, 1) := dec_at kDX7_shortest_0 46 rfl
theorem dX7_shortest_84 : decode cX7_shortest 84 = .ok (.iload_n 3, 1) := dec_at kDX7_shortest_0 47 rfl
theorem dX7_shortest_85 : decode cX7_shortest 85 = .ok (.iload_n 1, 1) := dec_at kDX7_shortest_0 48 rfl
theorem dX7_shortest_86 : decode cX7_shortest 86 = .ok (.iconst 1, 1) := dec_at kDX7_shortest_0 49 rfl
def DX7_shortest_50 : List (Nat × (Instr × Nat)) := [(87, (.iadd, 1)), (88, (.invokevirtual 260, 3)), (91, (.invokevirtual 263, 3)), (94, (.ireturn, 1))]
theorem kDX7_shortest_50 : DX7_shortest_50.all (fun q => decide (decode cX7_shortest q.1 = .ok q.2)) = true := by decide +kernel
theorem dX7_shortest_87 : decode cX7_shortest 87 = .ok (.iadd, 1) := dec_at kDX7_shortest_50 0 rfl
theorem dX7_shortest_88 : decode cX7_shortest 88 = .ok (.invokevirtual 260, 3) := dec_at kDX7_shortest_50 1 rfl
theorem dX7_shortest_91 : decode cX7_shortest 91 = .ok (.invokevirtual 263, 3) := dec_at kDX7_shortest_50 2 rfl
theorem dX7_shortest_94 : decode cX7_shortest 94 = .ok (.ireturn, 1) := dec_at kDX7_shortest_50 3 rfl
def DX7_asked_0 : List (Nat × (Instr × Nat)) := [(0, (.aload_n 0, 1)), (1, (.invokevirtual 182, 3)), (4, (.aload_n 0, 1)), (5, (.getfield 23, 3)), (8, (.iconst 0, 1)), (9, (.laload, 1)), (10, (.lreturn, 1))]
theorem kDX7_asked_0 : DX7_asked_0.all (fun q => decide (decode cX7_asked q.1 = .ok q.2)) = true := by decide +kernel
theorem dX7_asked_0 : decode cX7_asked 0 = .ok (.aload_n 0, 1) := dec_at kDX7_asked_0 0 rfl
theorem dX7_asked_1 : decode cX7_asked 1 = .ok (.invokevirtual 182, 3) := dec_at kDX7_asked_0 1 rfl
theorem dX7_asked_4 : decode cX7_asked 4 = .ok (.aload_n 0, 1) := dec_at kDX7_asked_0 2 rfl
theorem dX7_asked_5 : decode cX7_asked 5 = .ok (.getfield 23, 3) := dec_at kDX7_asked_0 3 rfl
theorem dX7_asked_8 : decode cX7_asked 8 = .ok (.iconst 0, 1) := dec_at kDX7_asked_0 4 rfl
theorem dX7_asked_9 : decode cX7_asked 9 = .ok (.laload, 1) := dec_at kDX7_asked_0 5 rfl
theorem dX7_asked_10 : decode cX7_asked 10 = .ok (.lreturn, 1) := dec_at kDX7_asked_0 6 rfl
def DX7_candidate_0 : List (Nat × (Instr × Nat)) := [(0, (.aload_n 0, 1)), (1, (.aload_n 0, 1)), (2, (.invokevirtual 202, 3)), (5, (.ifCond .eq 7, 3)), (8, (.iconst 0, 1)), (9, (.goto 4, 3)), (12, (.iconst 1, 1)), (13, (.putfield 70, 3)), (16, (.aload_n 0, 1)), (17, (.getfield 70, 3)), (20, (.ifCond .le 7, 3)), (23, (.lconst 0, 1)), (24, (.goto 7, 3)), (27, (.aload_n 0, 1)), (28, (.invokevirtual 266, 3)), (31, (.lreturn, 1))]
theorem kDX7_candidate_0 : DX7_candidate_0.all (fun q => decide (decode cX7_candidate q.1 = .ok q.2)) = true := by decide +kernel
theorem dX7_candidate_0 : decode cX7_candidate 0 = .ok (.aload_n 0, 1) := dec_at kDX7_candidate_0 0 rfl
theorem dX7_candidate_1 : decode cX7_candidate 1 = .ok (.aload_n 0, 1) := dec_at kDX7_candidate_0 1 rfl
theorem dX7_candidate_2 : decode cX7_candidate 2 = .ok (.invokevirtual 202, 3) := dec_at kDX7_candidate_0 2 rfl
theorem dX7_candidate_5 : decode cX7_candidate 5 = .ok (.ifCond .eq 7, 3) := dec_at kDX7_candidate_0 3 rfl
theorem dX7_candidate_8 : decode cX7_candidate 8 = .ok (.iconst 0, 1) := dec_at kDX7_candidate_0 4 rfl
theorem dX7_candidate_9 : decode cX7_candidate 9 = .ok (.goto 4, 3) := dec_at kDX7_candidate_0 5 rfl
theorem dX7_candidate_12 : decode cX7_candidate 12 = .ok (.iconst 1, 1) := dec_at kDX7_candidate_0 6 rfl
theorem dX7_candidate_13 : decode cX7_candidate 13 = .ok (.putfield 70, 3) := dec_at kDX7_candidate_0 7 rfl
theorem dX7_candidate_16 : decode cX7_candidate 16 = .ok (.aload_n 0, 1) := dec_at kDX7_candidate_0 8 rfl
theorem dX7_candidate_17 : decode cX7_candidate 17 = .ok (.getfield 70, 3) := dec_at kDX7_candidate_0 9 rfl
theorem dX7_candidate_20 : decode cX7_candidate 20 = .ok (.ifCond .le 7, 3) := dec_at kDX7_candidate_0 10 rfl
theorem dX7_candidate_23 : decode cX7_candidate 23 = .ok (.lconst 0, 1) := dec_at kDX7_candidate_0 11 rfl
theorem dX7_candidate_24 : decode cX7_candidate 24 = .ok (.goto 7, 3) := dec_at kDX7_candidate_0 12 rfl
theorem dX7_candidate_27 : decode cX7_candidate 27 = .ok (.aload_n 0, 1) := dec_at kDX7_candidate_0 13 rfl
theorem dX7_candidate_28 : decode cX7_candidate 28 = .ok (.invokevirtual 266, 3) := dec_at kDX7_candidate_0 14 rfl
theorem dX7_candidate_31 : decode cX7_candidate 31 = .ok (.lreturn, 1) := dec_at kDX7_candidate_0 15 rfl
def DX7_check_0 : List (Nat × (Instr × Nat)) := [(0, (.aload_n 0, 1)), (1, (.aload_n 0, 1)), (2, (.invokevirtual 202, 3)), (5, (.ifCond .eq 7, 3)), (8, (.iconst 0, 1)), (9, (.goto 4, 3)), (12, (.iconst 1, 1)), (13, (.putfield 70, 3)), (16, (.aload_n 0, 1)), (17, (.getfield 70, 3)), (20, (.ifCond .le 5, 3)), (23, (.iconst 0, 1)), (24, (.ireturn, 1)), (25, (.aload_n 0, 1)), (26, (.invokevirtual 266, 3)), (29, (.lstore_n 1, 1)), (30, (.aload_n 0, 1)), (31, (.getfield 94, 3)), (34, (.lload_n 1, 1)), (35, (.ldc2_w 84, 3)), (38, (.lxor, 1)), (39, (.land, 1)), (40, (.lconst 0, 1)), (41, (.lcmp, 1)), (42, (.ifCond .eq 7, 3)), (45, (.iconst 1, 1)), (46, (.goto 4, 3)), (49, (.iconst 0, 1)), (50, (.aload_n 0, 1)), (51, (.lload_n 1, 1)), (52, (.invokevirtual 213, 3)), (55, (.lload_n 1, 1)), (56, (.ldc2_w 84, 3)), (59, (.lxor, 1)), (60, (.land, 1)), (61, (.lconst 0, 1)), (62, (.lcmp, 1)), (63, (.ifCond .eq 7, 3)), (66, (.iconst 2, 1)), (67, (.goto 4, 3)), (70, (.iconst 0, 1)), (71, (.iadd, 1)), (72, (.lload_n 1, 1)), (73, (.aload_n 0, 1)), (74, (.invokevirtual 219, 3)), (77, (.land, 1)), (78, (.lconst 0, 1)), (79, (.lcmp, 1)), (80, (.ifCond .eq 7, 3)), (83, (.iconst 4, 1))]
theorem kDX7_check_0 : DX7_check_0.all (fun q => decide (decode cX7_check q.1 = .ok q.2)) = true := by decide +kernel
theorem dX7_check_0 : decode cX7_check 0 = .ok (.aload_n 0, 1) := dec_at kDX7_check_0 0 rfl
theorem dX7_check_1 : decode cX7_check 1 = .ok (.aload_n 0, 1) := dec_at kDX7_check_0 1 rfl
theorem dX7_check_2 : decode cX7_check 2 = .ok (.invokevirtual 202, 3) := dec_at kDX7_check_0 2 rfl
theorem dX7_check_5 : decode cX7_check 5 = .ok (.ifCond .eq 7, 3) := dec_at kDX7_check_0 3 rfl
theorem dX7_check_8 : decode cX7_check 8 = .ok (.iconst 0, 1) := dec_at kDX7_check_0 4 rfl
theorem dX7_check_9 : decode cX7_check 9 = .ok (.goto 4, 3) := dec_at kDX7_check_0 5 rfl
theorem dX7_check_12 : decode cX7_check 12 = .ok (.iconst 1, 1) := dec_at kDX7_check_0 6 rfl
theorem dX7_check_13 : decode cX7_check 13 = .ok (.putfield 70, 3) := dec_at kDX7_check_0 7 rfl
theorem dX7_check_16 : decode cX7_check 16 = .ok (.aload_n 0, 1) := dec_at kDX7_check_0 8 rfl
theorem dX7_check_17 : decode cX7_check 17 = .ok (.getfield 70, 3) := dec_at kDX7_check_0 9 rfl
theorem dX7_check_20 : decode cX7_check 20 = .ok (.ifCond .le 5, 3) := dec_at kDX7_check_0 10 rfl
theorem dX7_check_23 : decode cX7_check 23 = .ok (.iconst 0, 1) := dec_at kDX7_check_0 11 rfl
theorem dX7_check_24 : decode cX7_check 24 = .ok (.ireturn, 1) := dec_at kDX7_check_0 12 rfl
theorem dX7_check_25 : decode cX7_check 25 = .ok (.aload_n 0, 1) := dec_at kDX7_check_0 13 rfl
theorem dX7_check_26 : decode cX7_check 26 = .ok (.invokevirtual 266, 3) := dec_at kDX7_check_0 14 rfl
theorem dX7_check_29 : decode cX7_check 29 = .ok (.lstore_n 1, 1) := dec_at kDX7_check_0 15 rfl
theorem dX7_check_30 : decode cX7_check 30 = .ok (.aload_n 0, 1) := dec_at kDX7_check_0 16 rfl
theorem dX7_check_31 : decode cX7_check 31 = .ok (.getfield 94, 3) := dec_at kDX7_check_0 17 rfl
theorem dX7_check_34 : decode cX7_check 34 = .ok (.lload_n 1, 1) := dec_at kDX7_check_0 18 rfl
theorem dX7_check_35 : decode cX7_check 35 = .ok (.ldc2_w 84, 3) := dec_at kDX7_check_0 19 rfl
theorem dX7_check_38 : decode cX7_check 38 = .ok (.lxor, 1) := dec_at kDX7_check_0 20 rfl
theorem dX7_check_39 : decode cX7_check 39 = .ok (.land, 1) := dec_at kDX7_check_0 21 rfl
theorem dX7_check_40 : decode cX7_check 40 = .ok (.lconst 0, 1) := dec_at kDX7_check_0 22 rfl
theorem dX7_check_41 : decode cX7_check 41 = .ok (.lcmp, 1) := dec_at kDX7_check_0 23 rfl
theorem dX7_check_42 : decode cX7_check 42 = .ok (.ifCond .eq 7, 3) := dec_at kDX7_check_0 24 rfl
theorem dX7_check_45 : decode cX7_check 45 = .ok (.iconst 1, 1) := dec_at kDX7_check_0 25 rfl
theorem dX7_check_46 : decode cX7_check 46 = .ok (.goto 4, 3) := dec_at kDX7_check_0 26 rfl
theorem dX7_check_49 : decode cX7_check 49 = .ok (.iconst 0, 1) := dec_at kDX7_check_0 27 rfl
theorem dX7_check_50 : decode cX7_check 50 = .ok (.aload_n 0, 1) := dec_at kDX7_check_0 28 rfl
theorem dX7_check_51 : decode cX7_check 51 = .ok (.lload_n 1, 1) := dec_at kDX7_check_0 29 rfl
theorem dX7_check_52 : decode cX7_check 52 = .ok (.invokevirtual 213, 3) := dec_at kDX7_check_0 30 rfl
theorem dX7_check_55 : decode cX7_check 55 = .ok (.lload_n 1, 1) := dec_at kDX7_check_0 31 rfl
theorem dX7_check_56 : decode cX7_check 56 = .ok (.ldc2_w 84, 3) := dec_at kDX7_check_0 32 rfl
theorem dX7_check_59 : decode cX7_check 59 = .ok (.lxor, 1) := dec_at kDX7_check_0 33 rfl
theorem dX7_check_60 : decode cX7_check 60 = .ok (.land, 1) := dec_at kDX7_check_0 34 rfl
theorem dX7_check_61 : decode cX7_check 61 = .ok (.lconst 0, 1) := dec_at kDX7_check_0 35 rfl
theorem dX7_check_62 : decode cX7_check 62 = .ok (.lcmp, 1) := dec_at kDX7_check_0 36 rfl
theorem dX7_check_63 : decode cX7_check 63 = .ok (.ifCond .eq 7, 3) := dec_at kDX7_check_0 37 rfl
theorem dX7_check_66 : decode cX7_check 66 = .ok (.iconst 2, 1) := dec_at kDX7_check_0 38 rfl
theorem dX7_check_67 : decode cX7_check 67 = .ok (.goto 4, 3) := dec_at kDX7_check_0 39 rfl
theorem dX7_check_70 : decode cX7_check 70 = .ok (.iconst 0, 1) := dec_at kDX7_check_0 40 rfl
theorem dX7_check_71 : decode cX7_check 71 = .ok (.iadd, 1) := dec_at kDX7_check_0 41 rfl
theorem dX7_check_72 : decode cX7_check 72 = .ok (.lload_n 1, 1) := dec_at kDX7_check_0 42 rfl
theorem dX7_check_73 : decode cX7_check 73 = .ok (.aload_n 0, 1) := dec_at kDX7_check_0 43 rfl
theorem dX7_check_74 : decode cX7_check 74 = .ok (.invokevirtual 219, 3) := dec_at kDX7_check_0 44 rfl
theorem dX7_check_77 : decode cX7_check 77 = .ok (.land, 1) := dec_at kDX7_check_0 45 rfl
theorem dX7_check_78 : decode cX7_check 78 = .ok (.lconst 0, 1) := dec_at kDX7_check_0 46 rfl
theorem dX7_check_79 : decode cX7_check 79 = .ok (.lcmp, 1) := dec_at kDX7_check_0 47 rfl
theorem dX7_check_80 : decode cX7_check 80 = .ok (.ifCond .eq 7, 3) := dec_at kDX7_check_0 48 rfl
theorem dX7_check_83 : decode cX7_check 83 = .ok (.iconst 4, 1) := dec_at kDX7_check_0 49 rfl
def DX7_check_50 : List (Nat × (Instr × Nat)) := [(84, (.goto 4, 3)), (87, (.iconst 0, 1)), (88, (.iadd, 1)), (89, (.ireturn, 1))]
theorem kDX7_check_50 : DX7_check_50.all (fun q => decide (decode cX7_check q.1 = .ok q.2)) = true := by decide +kernel
theorem dX7_check_84 : decode cX7_check 84 = .ok (.goto 4, 3) := dec_at kDX7_check_50 0 rfl
theorem dX7_check_87 : decode cX7_check 87 = .ok (.iconst 0, 1) := dec_at kDX7_check_50 1 rfl
theorem dX7_check_88 : decode cX7_check 88 = .ok (.iadd, 1) := dec_at kDX7_check_50 2 rfl
theorem dX7_check_89 : decode cX7_check 89 = .ok (.ireturn, 1) := dec_at kDX7_check_50 3 rfl
def DX7_escapeNow_0 : List (Nat × (Instr × Nat)) := [(0, (.aload_n 0, 1)), (1, (.invokevirtual 266, 3)), (4, (.lstore_n 2, 1)), (5, (.lload_n 2, 1)), (6, (.aload_n 0, 1)), (7, (.aload_n 0, 1)), (8, (.invokevirtual 98, 3)), (11, (.lload_n 2, 1)), (12, (.ldc2_w 84, 3)), (15, (.lxor, 1)), (16, (.land, 1)), (17, (.invokevirtual 209, 3)), (20, (.land, 1)), (21, (.invokestatic 216, 3)), (24, (.istore 4, 2)), (26, (.iload 4, 2)), (28, (.iconst (-1), 1)), (29, (.if_icmp .ne 5, 3)), (32, (.iconst (-1), 1)), (33, (.ireturn, 1)), (34, (.iconst 0, 1)), (35, (.istore 5, 2)), (37, (.lload_n 2, 1)), (38, (.aload_n 0, 1)), (39, (.iload 4, 2)), (41, (.iload 5, 2)), (43, (.invokevirtual 205, 3)), (46, (.invokestatic 74, 3)), (49, (.ifCond .eq 9, 3)), (52, (.iinc 5 1, 3)), (55, (.goto (-18), 3)), (58, (.iload_n 1, 1)), (59, (.ifCond .ne 8, 3)), (62, (.iload 4, 2)), (64, (.goto 21, 3)), (67, (.iload_n 1, 1)), (68, (.iconst 1, 1)), (69, (.if_icmp .ne 8, 3)), (72, (.iload 5, 2)), (74, (.goto 11, 3)), (77, (.aload_n 0, 1)), (78, (.iload 4, 2)), (80, (.iload 5, 2)), (82, (.invokevirtual 205, 3)), (85, (.ireturn, 1))]
theorem kDX7_escapeNow_0 : DX7_escapeNow_0.all (fun q => decide (decode cX7_escapeNow q.1 = .ok q.2)) = true := by decide +kernel
theorem dX7_escapeNow_0 : decode cX7_escapeNow 0 = .ok (.aload_n 0, 1) := dec_at kDX7_escapeNow_0 0 rfl
theorem dX7_escapeNow_1 : decode cX7_escapeNow 1 = .ok (.invokevirtual 266, 3) := dec_at kDX7_escapeNow_0 1 rfl
theorem dX7_escapeNow_4 : decode cX7_escapeNow 4 = .ok (.lstore_n 2, 1) := dec_at kDX7_escapeNow_0 2 rfl
theorem dX7_escapeNow_5 : decode cX7_escapeNow 5 = .ok (.lload_n 2, 1) := dec_at kDX7_escapeNow_0 3 rfl
theorem dX7_escapeNow_6 : decode cX7_escapeNow 6 = .ok (.aload_n 0, 1) := dec_at kDX7_escapeNow_0 4 rfl
theorem dX7_escapeNow_7 : decode cX7_escapeNow 7 = .ok (.aload_n 0, 1) := dec_at kDX7_escapeNow_0 5 rfl
theorem dX7_escapeNow_8 : decode cX7_escapeNow 8 = .ok (.invokevirtual 98, 3) := dec_at kDX7_escapeNow_0 6 rfl
theorem dX7_escapeNow_11 : decode cX7_escapeNow 11 = .ok (.lload_n 2, 1) := dec_at kDX7_escapeNow_0 7 rfl
theorem dX7_escapeNow_12 : decode cX7_escapeNow 12 = .ok (.ldc2_w 84, 3) := dec_at kDX7_escapeNow_0 8 rfl
theorem dX7_escapeNow_15 : decode cX7_escapeNow 15 = .ok (.lxor, 1) := dec_at kDX7_escapeNow_0 9 rfl
theorem dX7_escapeNow_16 : decode cX7_escapeNow 16 = .ok (.land, 1) := dec_at kDX7_escapeNow_0 10 rfl
theorem dX7_escapeNow_17 : decode cX7_escapeNow 17 = .ok (.invokevirtual 209, 3) := dec_at kDX7_escapeNow_0 11 rfl
theorem dX7_escapeNow_20 : decode cX7_escapeNow 20 = .ok (.land, 1) := dec_at kDX7_escapeNow_0 12 rfl
theorem dX7_escapeNow_21 : decode cX7_escapeNow 21 = .ok (.invokestatic 216, 3) := dec_at kDX7_escapeNow_0 13 rfl
theorem dX7_escapeNow_24 : decode cX7_escapeNow 24 = .ok (.istore 4, 2) := dec_at kDX7_escapeNow_0 14 rfl
theorem dX7_escapeNow_26 : decode cX7_escapeNow 26 = .ok (.iload 4, 2) := dec_at kDX7_escapeNow_0 15 rfl
theorem dX7_escapeNow_28 : decode cX7_escapeNow 28 = .ok (.iconst (-1), 1) := dec_at kDX7_escapeNow_0 16 rfl
theorem dX7_escapeNow_29 : decode cX7_escapeNow 29 = .ok (.if_icmp .ne 5, 3) := dec_at kDX7_escapeNow_0 17 rfl
theorem dX7_escapeNow_32 : decode cX7_escapeNow 32 = .ok (.iconst (-1), 1) := dec_at kDX7_escapeNow_0 18 rfl
theorem dX7_escapeNow_33 : decode cX7_escapeNow 33 = .ok (.ireturn, 1) := dec_at kDX7_escapeNow_0 19 rfl
theorem dX7_escapeNow_34 : decode cX7_escapeNow 34 = .ok (.iconst 0, 1) := dec_at kDX7_escapeNow_0 20 rfl
theorem dX7_escapeNow_35 : decode cX7_escapeNow 35 = .ok (.istore 5, 2) := dec_at kDX7_escapeNow_0 21 rfl
theorem dX7_escapeNow_37 : decode cX7_escapeNow 37 = .ok (.lload_n 2, 1) := dec_at kDX7_escapeNow_0 22 rfl
theorem dX7_escapeNow_38 : decode cX7_escapeNow 38 = .ok (.aload_n 0, 1) := dec_at kDX7_escapeNow_0 23 rfl
theorem dX7_escapeNow_39 : decode cX7_escapeNow 39 = .ok (.iload 4, 2) := dec_at kDX7_escapeNow_0 24 rfl
theorem dX7_escapeNow_41 : decode cX7_escapeNow 41 = .ok (.iload 5, 2) := dec_at kDX7_escapeNow_0 25 rfl
theorem dX7_escapeNow_43 : decode cX7_escapeNow 43 = .ok (.invokevirtual 205, 3) := dec_at kDX7_escapeNow_0 26 rfl
theorem dX7_escapeNow_46 : decode cX7_escapeNow 46 = .ok (.invokestatic 74, 3) := dec_at kDX7_escapeNow_0 27 rfl
theorem dX7_escapeNow_49 : decode cX7_escapeNow 49 = .ok (.ifCond .eq 9, 3) := dec_at kDX7_escapeNow_0 28 rfl
theorem dX7_escapeNow_52 : decode cX7_escapeNow 52 = .ok (.iinc 5 1, 3) := dec_at kDX7_escapeNow_0 29 rfl
theorem dX7_escapeNow_55 : decode cX7_escapeNow 55 = .ok (.goto (-18), 3) := dec_at kDX7_escapeNow_0 30 rfl
theorem dX7_escapeNow_58 : decode cX7_escapeNow 58 = .ok (.iload_n 1, 1) := dec_at kDX7_escapeNow_0 31 rfl
theorem dX7_escapeNow_59 : decode cX7_escapeNow 59 = .ok (.ifCond .ne 8, 3) := dec_at kDX7_escapeNow_0 32 rfl
theorem dX7_escapeNow_62 : decode cX7_escapeNow 62 = .ok (.iload 4, 2) := dec_at kDX7_escapeNow_0 33 rfl
theorem dX7_escapeNow_64 : decode cX7_escapeNow 64 = .ok (.goto 21, 3) := dec_at kDX7_escapeNow_0 34 rfl
theorem dX7_escapeNow_67 : decode cX7_escapeNow 67 = .ok (.iload_n 1, 1) := dec_at kDX7_escapeNow_0 35 rfl
theorem dX7_escapeNow_68 : decode cX7_escapeNow 68 = .ok (.iconst 1, 1) := dec_at kDX7_escapeNow_0 36 rfl
theorem dX7_escapeNow_69 : decode cX7_escapeNow 69 = .ok (.if_icmp .ne 8, 3) := dec_at kDX7_escapeNow_0 37 rfl
theorem dX7_escapeNow_72 : decode cX7_escapeNow 72 = .ok (.iload 5, 2) := dec_at kDX7_escapeNow_0 38 rfl
theorem dX7_escapeNow_74 : decode cX7_escapeNow 74 = .ok (.goto 11, 3) := dec_at kDX7_escapeNow_0 39 rfl
theorem dX7_escapeNow_77 : decode cX7_escapeNow 77 = .ok (.aload_n 0, 1) := dec_at kDX7_escapeNow_0 40 rfl
theorem dX7_escapeNow_78 : decode cX7_escapeNow 78 = .ok (.iload 4, 2) := dec_at kDX7_escapeNow_0 41 rfl
theorem dX7_escapeNow_80 : decode cX7_escapeNow 80 = .ok (.iload 5, 2) := dec_at kDX7_escapeNow_0 42 rfl
theorem dX7_escapeNow_82 : decode cX7_escapeNow 82 = .ok (.invokevirtual 205, 3) := dec_at kDX7_escapeNow_0 43 rfl
theorem dX7_escapeNow_85 : decode cX7_escapeNow 85 = .ok (.ireturn, 1) := dec_at kDX7_escapeNow_0 44 rfl
def DX7_escape_0 : List (Nat × (Instr × Nat)) := [(0, (.aload_n 0, 1)), (1, (.iload_n 1, 1)), (2, (.iconst 0, 1)), (3, (.iconst 2, 1)), (4, (.invokestatic 112, 3)), (7, (.ifCond .ne 7, 3)), (10, (.iconst 1, 1)), (11, (.goto 15, 3)), (14, (.aload_n 0, 1)), (15, (.invokevirtual 202, 3)), (18, (.ifCond .eq 7, 3)), (21, (.iconst 0, 1)), (22, (.goto 4, 3)), (25, (.iconst 2, 1)), (26, (.putfield 70, 3)), (29, (.aload_n 0, 1)), (30, (.getfield 70, 3)), (33, (.ifCond .le 7, 3)), (36, (.iconst 0, 1)), (37, (.goto 8, 3)), (40, (.aload_n 0, 1)), (41, (.iload_n 1, 1)), (42, (.invokevirtual 269, 3)), (45, (.ireturn, 1))]
theorem kDX7_escape_0 : DX7_escape_0.all (fun q => decide (decode cX7_escape q.1 = .ok q.2)) = true := by decide +kernel
theorem dX7_escape_0 : decode cX7_escape 0 = .ok (.aload_n 0, 1) := dec_at kDX7_escape_0 0 rfl
theorem dX7_escape_1 : decode cX7_escape 1 = .ok (.iload_n 1, 1) := dec_at kDX7_escape_0 1 rfl
theorem dX7_escape_2 : decode cX7_escape 2 = .ok (.iconst 0, 1) := dec_at kDX7_escape_0 2 rfl
theorem dX7_escape_3 : decode cX7_escape 3 = .ok (.iconst 2, 1) := dec_at kDX7_escape_0 3 rfl
theorem dX7_escape_4 : decode cX7_escape 4 = .ok (.invokestatic 112, 3) := dec_at kDX7_escape_0 4 rfl
theorem dX7_escape_7 : decode cX7_escape 7 = .ok (.ifCond .ne 7, 3) := dec_at kDX7_escape_0 5 rfl
theorem dX7_escape_10 : decode cX7_escape 10 = .ok (.iconst 1, 1) := dec_at kDX7_escape_0 6 rfl
theorem dX7_escape_11 : decode cX7_escape 11 = .ok (.goto 15, 3) := dec_at kDX7_escape_0 7 rfl
theorem dX7_escape_14 : decode cX7_escape 14 = .ok (.aload_n 0, 1) := dec_at kDX7_escape_0 8 rfl
theorem dX7_escape_15 : decode cX7_escape 15 = .ok (.invokevirtual 202, 3) := dec_at kDX7_escape_0 9 rfl
theorem dX7_escape_18 : decode cX7_escape 18 = .ok (.ifCond .eq 7, 3) := dec_at kDX7_escape_0 10 rfl
theorem dX7_escape_21 : decode cX7_escape 21 = .ok (.iconst 0, 1) := dec_at kDX7_escape_0 11 rfl
theorem dX7_escape_22 : decode cX7_escape 22 = .ok (.goto 4, 3) := dec_at kDX7_escape_0 12 rfl
theorem dX7_escape_25 : decode cX7_escape 25 = .ok (.iconst 2, 1) := dec_at kDX7_escape_0 13 rfl
theorem dX7_escape_26 : decode cX7_escape 26 = .ok (.putfield 70, 3) := dec_at kDX7_escape_0 14 rfl
theorem dX7_escape_29 : decode cX7_escape 29 = .ok (.aload_n 0, 1) := dec_at kDX7_escape_0 15 rfl
theorem dX7_escape_30 : decode cX7_escape 30 = .ok (.getfield 70, 3) := dec_at kDX7_escape_0 16 rfl
theorem dX7_escape_33 : decode cX7_escape 33 = .ok (.ifCond .le 7, 3) := dec_at kDX7_escape_0 17 rfl
theorem dX7_escape_36 : decode cX7_escape 36 = .ok (.iconst 0, 1) := dec_at kDX7_escape_0 18 rfl
theorem dX7_escape_37 : decode cX7_escape 37 = .ok (.goto 8, 3) := dec_at kDX7_escape_0 19 rfl
theorem dX7_escape_40 : decode cX7_escape 40 = .ok (.aload_n 0, 1) := dec_at kDX7_escape_0 20 rfl
theorem dX7_escape_41 : decode cX7_escape 41 = .ok (.iload_n 1, 1) := dec_at kDX7_escape_0 21 rfl
theorem dX7_escape_42 : decode cX7_escape 42 = .ok (.invokevirtual 269, 3) := dec_at kDX7_escape_0 22 rfl
theorem dX7_escape_45 : decode cX7_escape 45 = .ok (.ireturn, 1) := dec_at kDX7_escape_0 23 rfl
def DX7_modalStep_0 : List (Nat × (Instr × Nat)) := [(0, (.iload_n 1, 1)), (1, (.tableswitch 54 2 4 #[27, 36, 45], 27)), (28, (.lload_n 2, 1)), (29, (.aload_n 0, 1)), (30, (.lload 4, 2)), (32, (.invokevirtual 209, 3)), (35, (.lor, 1)), (36, (.lreturn, 1)), (37, (.lload_n 2, 1)), (38, (.aload_n 0, 1)), (39, (.lload 4, 2)), (41, (.invokevirtual 272, 3)), (44, (.lor, 1)), (45, (.lreturn, 1)), (46, (.lload_n 2, 1)), (47, (.aload_n 0, 1)), (48, (.lload 4, 2)), (50, (.invokevirtual 209, 3)), (53, (.land, 1)), (54, (.lreturn, 1)), (55, (.lload_n 2, 1)), (56, (.aload_n 0, 1)), (57, (.lload 4, 2)), (59, (.invokevirtual 272, 3)), (62, (.land, 1)), (63, (.lreturn, 1))]
theorem kDX7_modalStep_0 : DX7_modalStep_0.all (fun q => decide (decode cX7_modalStep q.1 = .ok q.2)) = true := by decide +kernel
theorem dX7_modalStep_0 : decode cX7_modalStep 0 = .ok (.iload_n 1, 1) := dec_at kDX7_modalStep_0 0 rfl
theorem dX7_modalStep_1 : decode cX7_modalStep 1 = .ok (.tableswitch 54 2 4 #[27, 36, 45], 27) := dec_at kDX7_modalStep_0 1 rfl
theorem dX7_modalStep_28 : decode cX7_modalStep 28 = .ok (.lload_n 2, 1) := dec_at kDX7_modalStep_0 2 rfl
theorem dX7_modalStep_29 : decode cX7_modalStep 29 = .ok (.aload_n 0, 1) := dec_at kDX7_modalStep_0 3 rfl
theorem dX7_modalStep_30 : decode cX7_modalStep 30 = .ok (.lload 4, 2) := dec_at kDX7_modalStep_0 4 rfl
theorem dX7_modalStep_32 : decode cX7_modalStep 32 = .ok (.invokevirtual 209, 3) := dec_at kDX7_modalStep_0 5 rfl
theorem dX7_modalStep_35 : decode cX7_modalStep 35 = .ok (.lor, 1) := dec_at kDX7_modalStep_0 6 rfl
theorem dX7_modalStep_36 : decode cX7_modalStep 36 = .ok (.lreturn, 1) := dec_at kDX7_modalStep_0 7 rfl
theorem dX7_modalStep_37 : decode cX7_modalStep 37 = .ok (.lload_n 2, 1) := dec_at kDX7_modalStep_0 8 rfl
theorem dX7_modalStep_38 : decode cX7_modalStep 38 = .ok (.aload_n 0, 1) := dec_at kDX7_modalStep_0 9 rfl
theorem dX7_modalStep_39 : decode cX7_modalStep 39 = .ok (.lload 4, 2) := dec_at kDX7_modalStep_0 10 rfl
theorem dX7_modalStep_41 : decode cX7_modalStep 41 = .ok (.invokevirtual 272, 3) := dec_at kDX7_modalStep_0 11 rfl
theorem dX7_modalStep_44 : decode cX7_modalStep 44 = .ok (.lor, 1) := dec_at kDX7_modalStep_0 12 rfl
theorem dX7_modalStep_45 : decode cX7_modalStep 45 = .ok (.lreturn, 1) := dec_at kDX7_modalStep_0 13 rfl
theorem dX7_modalStep_46 : decode cX7_modalStep 46 = .ok (.lload_n 2, 1) := dec_at kDX7_modalStep_0 14 rfl
theorem dX7_modalStep_47 : decode cX7_modalStep 47 = .ok (.aload_n 0, 1) := dec_at kDX7_modalStep_0 15 rfl
theorem dX7_modalStep_48 : decode cX7_modalStep 48 = .ok (.lload 4, 2) := dec_at kDX7_modalStep_0 16 rfl
theorem dX7_modalStep_50 : decode cX7_modalStep 50 = .ok (.invokevirtual 209, 3) := dec_at kDX7_modalStep_0 17 rfl
theorem dX7_modalStep_53 : decode cX7_modalStep 53 = .ok (.land, 1) := dec_at kDX7_modalStep_0 18 rfl
theorem dX7_modalStep_54 : decode cX7_modalStep 54 = .ok (.lreturn, 1) := dec_at kDX7_modalStep_0 19 rfl
theorem dX7_modalStep_55 : decode cX7_modalStep 55 = .ok (.lload_n 2, 1) := dec_at kDX7_modalStep_0 20 rfl
theorem dX7_modalStep_56 : decode cX7_modalStep 56 = .ok (.aload_n 0, 1) := dec_at kDX7_modalStep_0 21 rfl
theorem dX7_modalStep_57 : decode cX7_modalStep 57 = .ok (.lload 4, 2) := dec_at kDX7_modalStep_0 22 rfl
theorem dX7_modalStep_59 : decode cX7_modalStep 59 = .ok (.invokevirtual 272, 3) := dec_at kDX7_modalStep_0 23 rfl
theorem dX7_modalStep_62 : decode cX7_modalStep 62 = .ok (.land, 1) := dec_at kDX7_modalStep_0 24 rfl
theorem dX7_modalStep_63 : decode cX7_modalStep 63 = .ok (.lreturn, 1) := dec_at kDX7_modalStep_0 25 rfl
def DX7_modalNow_0 : List (Nat × (Instr × Nat)) := [(0, (.aload_n 0, 1)), (1, (.invokevirtual 266, 3)), (4, (.lstore_n 2, 1)), (5, (.iload_n 1, 1)), (6, (.iconst 2, 1)), (7, (.if_icmp .ge 21, 3)), (10, (.iload_n 1, 1)), (11, (.ifCond .ne 11, 3)), (14, (.aload_n 0, 1)), (15, (.lload_n 2, 1)), (16, (.invokevirtual 209, 3)), (19, (.goto 8, 3)), (22, (.aload_n 0, 1)), (23, (.lload_n 2, 1)), (24, (.invokevirtual 272, 3)), (27, (.lreturn, 1)), (28, (.lload_n 2, 1)), (29, (.lstore 4, 2)), (31, (.aload_n 0, 1)), (32, (.iload_n 1, 1)), (33, (.lload_n 2, 1)), (34, (.lload 4, 2)), (36, (.invokevirtual 275, 3)), (39, (.lstore 6, 2)), (41, (.lload 6, 2)), (43, (.lload 4, 2)), (45, (.lcmp, 1)), (46, (.ifCond .eq 20, 3)), (49, (.lload 6, 2)), (51, (.lstore 4, 2)), (53, (.aload_n 0, 1)), (54, (.iload_n 1, 1)), (55, (.lload_n 2, 1)), (56, (.lload 4, 2)), (58, (.invokevirtual 275, 3)), (61, (.lstore 6, 2)), (63, (.goto (-22), 3)), (66, (.lload 4, 2)), (68, (.lreturn, 1))]
theorem kDX7_modalNow_0 : DX7_modalNow_0.all (fun q => decide (decode cX7_modalNow q.1 = .ok q.2)) = true := by decide +kernel
theorem dX7_modalNow_0 : decode cX7_modalNow 0 = .ok (.aload_n 0, 1) := dec_at kDX7_modalNow_0 0 rfl
theorem dX7_modalNow_1 : decode cX7_modalNow 1 = .ok (.invokevirtual 266, 3) := dec_at kDX7_modalNow_0 1 rfl
theorem dX7_modalNow_4 : decode cX7_modalNow 4 = .ok (.lstore_n 2, 1) := dec_at kDX7_modalNow_0 2 rfl
theorem dX7_modalNow_5 : decode cX7_modalNow 5 = .ok (.iload_n 1, 1) := dec_at kDX7_modalNow_0 3 rfl
theorem dX7_modalNow_6 : decode cX7_modalNow 6 = .ok (.iconst 2, 1) := dec_at kDX7_modalNow_0 4 rfl
theorem dX7_modalNow_7 : decode cX7_modalNow 7 = .ok (.if_icmp .ge 21, 3) := dec_at kDX7_modalNow_0 5 rfl
theorem dX7_modalNow_10 : decode cX7_modalNow 10 = .ok (.iload_n 1, 1) := dec_at kDX7_modalNow_0 6 rfl
theorem dX7_modalNow_11 : decode cX7_modalNow 11 = .ok (.ifCond .ne 11, 3) := dec_at kDX7_modalNow_0 7 rfl
theorem dX7_modalNow_14 : decode cX7_modalNow 14 = .ok (.aload_n 0, 1) := dec_at kDX7_modalNow_0 8 rfl
theorem dX7_modalNow_15 : decode cX7_modalNow 15 = .ok (.lload_n 2, 1) := dec_at kDX7_modalNow_0 9 rfl
theorem dX7_modalNow_16 : decode cX7_modalNow 16 = .ok (.invokevirtual 209, 3) := dec_at kDX7_modalNow_0 10 rfl
theorem dX7_modalNow_19 : decode cX7_modalNow 19 = .ok (.goto 8, 3) := dec_at kDX7_modalNow_0 11 rfl
theorem dX7_modalNow_22 : decode cX7_modalNow 22 = .ok (.aload_n 0, 1) := dec_at kDX7_modalNow_0 12 rfl
theorem dX7_modalNow_23 : decode cX7_modalNow 23 = .ok (.lload_n 2, 1) := dec_at kDX7_modalNow_0 13 rfl
theorem dX7_modalNow_24 : decode cX7_modalNow 24 = .ok (.invokevirtual 272, 3) := dec_at kDX7_modalNow_0 14 rfl
theorem dX7_modalNow_27 : decode cX7_modalNow 27 = .ok (.lreturn, 1) := dec_at kDX7_modalNow_0 15 rfl
theorem dX7_modalNow_28 : decode cX7_modalNow 28 = .ok (.lload_n 2, 1) := dec_at kDX7_modalNow_0 16 rfl
theorem dX7_modalNow_29 : decode cX7_modalNow 29 = .ok (.lstore 4, 2) := dec_at kDX7_modalNow_0 17 rfl
theorem dX7_modalNow_31 : decode cX7_modalNow 31 = .ok (.aload_n 0, 1) := dec_at kDX7_modalNow_0 18 rfl
theorem dX7_modalNow_32 : decode cX7_modalNow 32 = .ok (.iload_n 1, 1) := dec_at kDX7_modalNow_0 19 rfl
theorem dX7_modalNow_33 : decode cX7_modalNow 33 = .ok (.lload_n 2, 1) := dec_at kDX7_modalNow_0 20 rfl
theorem dX7_modalNow_34 : decode cX7_modalNow 34 = .ok (.lload 4, 2) := dec_at kDX7_modalNow_0 21 rfl
theorem dX7_modalNow_36 : decode cX7_modalNow 36 = .ok (.invokevirtual 275, 3) := dec_at kDX7_modalNow_0 22 rfl
theorem dX7_modalNow_39 : decode cX7_modalNow 39 = .ok (.lstore 6, 2) := dec_at kDX7_modalNow_0 23 rfl
theorem dX7_modalNow_41 : decode cX7_modalNow 41 = .ok (.lload 6, 2) := dec_at kDX7_modalNow_0 24 rfl
theorem dX7_modalNow_43 : decode cX7_modalNow 43 = .ok (.lload 4, 2) := dec_at kDX7_modalNow_0 25 rfl
theorem dX7_modalNow_45 : decode cX7_modalNow 45 = .ok (.lcmp, 1) := dec_at kDX7_modalNow_0 26 rfl
theorem dX7_modalNow_46 : decode cX7_modalNow 46 = .ok (.ifCond .eq 20, 3) := dec_at kDX7_modalNow_0 27 rfl
theorem dX7_modalNow_49 : decode cX7_modalNow 49 = .ok (.lload 6, 2) := dec_at kDX7_modalNow_0 28 rfl
theorem dX7_modalNow_51 : decode cX7_modalNow 51 = .ok (.lstore 4, 2) := dec_at kDX7_modalNow_0 29 rfl
theorem dX7_modalNow_53 : decode cX7_modalNow 53 = .ok (.aload_n 0, 1) := dec_at kDX7_modalNow_0 30 rfl
theorem dX7_modalNow_54 : decode cX7_modalNow 54 = .ok (.iload_n 1, 1) := dec_at kDX7_modalNow_0 31 rfl
theorem dX7_modalNow_55 : decode cX7_modalNow 55 = .ok (.lload_n 2, 1) := dec_at kDX7_modalNow_0 32 rfl
theorem dX7_modalNow_56 : decode cX7_modalNow 56 = .ok (.lload 4, 2) := dec_at kDX7_modalNow_0 33 rfl
theorem dX7_modalNow_58 : decode cX7_modalNow 58 = .ok (.invokevirtual 275, 3) := dec_at kDX7_modalNow_0 34 rfl
theorem dX7_modalNow_61 : decode cX7_modalNow 61 = .ok (.lstore 6, 2) := dec_at kDX7_modalNow_0 35 rfl
theorem dX7_modalNow_63 : decode cX7_modalNow 63 = .ok (.goto (-22), 3) := dec_at kDX7_modalNow_0 36 rfl
theorem dX7_modalNow_66 : decode cX7_modalNow 66 = .ok (.lload 4, 2) := dec_at kDX7_modalNow_0 37 rfl
theorem dX7_modalNow_68 : decode cX7_modalNow 68 = .ok (.lreturn, 1) := dec_at kDX7_modalNow_0 38 rfl
def DX7_modal_0 : List (Nat × (Instr × Nat)) := [(0, (.aload_n 0, 1)), (1, (.iload_n 1, 1)), (2, (.iconst 0, 1)), (3, (.iconst 5, 1)), (4, (.invokestatic 112, 3)), (7, (.ifCond .ne 7, 3)), (10, (.iconst 1, 1)), (11, (.goto 15, 3)), (14, (.aload_n 0, 1)), (15, (.invokevirtual 202, 3)), (18, (.ifCond .eq 7, 3)), (21, (.iconst 0, 1)), (22, (.goto 4, 3)), (25, (.iconst 2, 1)), (26, (.putfield 70, 3)), (29, (.aload_n 0, 1)), (30, (.getfield 70, 3)), (33, (.ifCond .le 7, 3)), (36, (.lconst 0, 1)), (37, (.goto 8, 3)), (40, (.aload_n 0, 1)), (41, (.iload_n 1, 1)), (42, (.invokevirtual 278, 3)), (45, (.lreturn, 1))]
theorem kDX7_modal_0 : DX7_modal_0.all (fun q => decide (decode cX7_modal q.1 = .ok q.2)) = true := by decide +kernel
theorem dX7_modal_0 : decode cX7_modal 0 = .ok (.aload_n 0, 1) := dec_at kDX7_modal_0 0 rfl
theorem dX7_modal_1 : decode cX7_modal 1 = .ok (.iload_n 1, 1) := dec_at kDX7_modal_0 1 rfl
theorem dX7_modal_2 : decode cX7_modal 2 = .ok (.iconst 0, 1) := dec_at kDX7_modal_0 2 rfl
theorem dX7_modal_3 : decode cX7_modal 3 = .ok (.iconst 5, 1) := dec_at kDX7_modal_0 3 rfl
theorem dX7_modal_4 : decode cX7_modal 4 = .ok (.invokestatic 112, 3) := dec_at kDX7_modal_0 4 rfl
theorem dX7_modal_7 : decode cX7_modal 7 = .ok (.ifCond .ne 7, 3) := dec_at kDX7_modal_0 5 rfl
theorem dX7_modal_10 : decode cX7_modal 10 = .ok (.iconst 1, 1) := dec_at kDX7_modal_0 6 rfl
theorem dX7_modal_11 : decode cX7_modal 11 = .ok (.goto 15, 3) := dec_at kDX7_modal_0 7 rfl
theorem dX7_modal_14 : decode cX7_modal 14 = .ok (.aload_n 0, 1) := dec_at kDX7_modal_0 8 rfl
theorem dX7_modal_15 : decode cX7_modal 15 = .ok (.invokevirtual 202, 3) := dec_at kDX7_modal_0 9 rfl
theorem dX7_modal_18 : decode cX7_modal 18 = .ok (.ifCond .eq 7, 3) := dec_at kDX7_modal_0 10 rfl
theorem dX7_modal_21 : decode cX7_modal 21 = .ok (.iconst 0, 1) := dec_at kDX7_modal_0 11 rfl
theorem dX7_modal_22 : decode cX7_modal 22 = .ok (.goto 4, 3) := dec_at kDX7_modal_0 12 rfl
theorem dX7_modal_25 : decode cX7_modal 25 = .ok (.iconst 2, 1) := dec_at kDX7_modal_0 13 rfl
theorem dX7_modal_26 : decode cX7_modal 26 = .ok (.putfield 70, 3) := dec_at kDX7_modal_0 14 rfl
theorem dX7_modal_29 : decode cX7_modal 29 = .ok (.aload_n 0, 1) := dec_at kDX7_modal_0 15 rfl
theorem dX7_modal_30 : decode cX7_modal 30 = .ok (.getfield 70, 3) := dec_at kDX7_modal_0 16 rfl
theorem dX7_modal_33 : decode cX7_modal 33 = .ok (.ifCond .le 7, 3) := dec_at kDX7_modal_0 17 rfl
theorem dX7_modal_36 : decode cX7_modal 36 = .ok (.lconst 0, 1) := dec_at kDX7_modal_0 18 rfl
theorem dX7_modal_37 : decode cX7_modal 37 = .ok (.goto 8, 3) := dec_at kDX7_modal_0 19 rfl
theorem dX7_modal_40 : decode cX7_modal 40 = .ok (.aload_n 0, 1) := dec_at kDX7_modal_0 20 rfl
theorem dX7_modal_41 : decode cX7_modal 41 = .ok (.iload_n 1, 1) := dec_at kDX7_modal_0 21 rfl
theorem dX7_modal_42 : decode cX7_modal 42 = .ok (.invokevirtual 278, 3) := dec_at kDX7_modal_0 22 rfl
theorem dX7_modal_45 : decode cX7_modal 45 = .ok (.lreturn, 1) := dec_at kDX7_modal_0 23 rfl
def DX7_cubeSet_0 : List (Nat × (Instr × Nat)) := [(0, (.lconst 0, 1)), (1, (.lstore_n 3, 1)), (2, (.iconst 0, 1)), (3, (.istore 5, 2)), (5, (.iload 5, 2)), (7, (.aload_n 0, 1)), (8, (.invokevirtual 86, 3)), (11, (.if_icmp .ge 28, 3)), (14, (.lload_n 3, 1)), (15, (.iload 5, 2)), (17, (.iload_n 1, 1)), (18, (.iand, 1)), (19, (.iload_n 2, 1)), (20, (.if_icmp .ne 10, 3)), (23, (.lconst 1, 1)), (24, (.iload 5, 2)), (26, (.lshl, 1)), (27, (.goto 4, 3)), (30, (.lconst 0, 1)), (31, (.lor, 1)), (32, (.lstore_n 3, 1)), (33, (.iinc 5 1, 3)), (36, (.goto (-31), 3)), (39, (.lload_n 3, 1)), (40, (.lreturn, 1))]
theorem kDX7_cubeSet_0 : DX7_cubeSet_0.all (fun q => decide (decode cX7_cubeSet q.1 = .ok q.2)) = true := by decide +kernel
theorem dX7_cubeSet_0 : decode cX7_cubeSet 0 = .ok (.lconst 0, 1) := dec_at kDX7_cubeSet_0 0 rfl
theorem dX7_cubeSet_1 : decode cX7_cubeSet 1 = .ok (.lstore_n 3, 1) := dec_at kDX7_cubeSet_0 1 rfl
theorem dX7_cubeSet_2 : decode cX7_cubeSet 2 = .ok (.iconst 0, 1) := dec_at kDX7_cubeSet_0 2 rfl
theorem dX7_cubeSet_3 : decode cX7_cubeSet 3 = .ok (.istore 5, 2) := dec_at kDX7_cubeSet_0 3 rfl
theorem dX7_cubeSet_5 : decode cX7_cubeSet 5 = .ok (.iload 5, 2) := dec_at kDX7_cubeSet_0 4 rfl
theorem dX7_cubeSet_7 : decode cX7_cubeSet 7 = .ok (.aload_n 0, 1) := dec_at kDX7_cubeSet_0 5 rfl
theorem dX7_cubeSet_8 : decode cX7_cubeSet 8 = .ok (.invokevirtual 86, 3) := dec_at kDX7_cubeSet_0 6 rfl
theorem dX7_cubeSet_11 : decode cX7_cubeSet 11 = .ok (.if_icmp .ge 28, 3) := dec_at kDX7_cubeSet_0 7 rfl
theorem dX7_cubeSet_14 : decode cX7_cubeSet 14 = .ok (.lload_n 3, 1) := dec_at kDX7_cubeSet_0 8 rfl
theorem dX7_cubeSet_15 : decode cX7_cubeSet 15 = .ok (.iload 5, 2) := dec_at kDX7_cubeSet_0 9 rfl
theorem dX7_cubeSet_17 : decode cX7_cubeSet 17 = .ok (.iload_n 1, 1) := dec_at kDX7_cubeSet_0 10 rfl
theorem dX7_cubeSet_18 : decode cX7_cubeSet 18 = .ok (.iand, 1) := dec_at kDX7_cubeSet_0 11 rfl
theorem dX7_cubeSet_19 : decode cX7_cubeSet 19 = .ok (.iload_n 2, 1) := dec_at kDX7_cubeSet_0 12 rfl
theorem dX7_cubeSet_20 : decode cX7_cubeSet 20 = .ok (.if_icmp .ne 10, 3) := dec_at kDX7_cubeSet_0 13 rfl
theorem dX7_cubeSet_23 : decode cX7_cubeSet 23 = .ok (.lconst 1, 1) := dec_at kDX7_cubeSet_0 14 rfl
theorem dX7_cubeSet_24 : decode cX7_cubeSet 24 = .ok (.iload 5, 2) := dec_at kDX7_cubeSet_0 15 rfl
theorem dX7_cubeSet_26 : decode cX7_cubeSet 26 = .ok (.lshl, 1) := dec_at kDX7_cubeSet_0 16 rfl
theorem dX7_cubeSet_27 : decode cX7_cubeSet 27 = .ok (.goto 4, 3) := dec_at kDX7_cubeSet_0 17 rfl
theorem dX7_cubeSet_30 : decode cX7_cubeSet 30 = .ok (.lconst 0, 1) := dec_at kDX7_cubeSet_0 18 rfl
theorem dX7_cubeSet_31 : decode cX7_cubeSet 31 = .ok (.lor, 1) := dec_at kDX7_cubeSet_0 19 rfl
theorem dX7_cubeSet_32 : decode cX7_cubeSet 32 = .ok (.lstore_n 3, 1) := dec_at kDX7_cubeSet_0 20 rfl
theorem dX7_cubeSet_33 : decode cX7_cubeSet 33 = .ok (.iinc 5 1, 3) := dec_at kDX7_cubeSet_0 21 rfl
theorem dX7_cubeSet_36 : decode cX7_cubeSet 36 = .ok (.goto (-31), 3) := dec_at kDX7_cubeSet_0 22 rfl
theorem dX7_cubeSet_39 : decode cX7_cubeSet 39 = .ok (.lload_n 3, 1) := dec_at kDX7_cubeSet_0 23 rfl
theorem dX7_cubeSet_40 : decode cX7_cubeSet 40 = .ok (.lreturn, 1) := dec_at kDX7_cubeSet_0 24 rfl
def DX7_cubeAt_0 : List (Nat × (Instr × Nat)) := [(0, (.aload_n 0, 1)), (1, (.aload_n 0, 1)), (2, (.getfield 38, 3)), (5, (.iload_n 1, 1)), (6, (.iaload, 1)), (7, (.aload_n 0, 1)), (8, (.getfield 41, 3)), (11, (.iload_n 1, 1)), (12, (.iaload, 1)), (13, (.invokevirtual 281, 3)), (16, (.lreturn, 1))]
theorem kDX7_cubeAt_0 : DX7_cubeAt_0.all (fun q => decide (decode cX7_cubeAt q.1 = .ok q.2)) = true := by decide +kernel
theorem dX7_cubeAt_0 : decode cX7_cubeAt 0 = .ok (.aload_n 0, 1) := dec_at kDX7_cubeAt_0 0 rfl
theorem dX7_cubeAt_1 : decode cX7_cubeAt 1 = .ok (.aload_n 0, 1) := dec_at kDX7_cubeAt_0 1 rfl
theorem dX7_cubeAt_2 : decode cX7_cubeAt 2 = .ok (.getfield 38, 3) := dec_at kDX7_cubeAt_0 2 rfl
theorem dX7_cubeAt_5 : decode cX7_cubeAt 5 = .ok (.iload_n 1, 1) := dec_at kDX7_cubeAt_0 3 rfl
theorem dX7_cubeAt_6 : decode cX7_cubeAt 6 = .ok (.iaload, 1) := dec_at kDX7_cubeAt_0 4 rfl
theorem dX7_cubeAt_7 : decode cX7_cubeAt 7 = .ok (.aload_n 0, 1) := dec_at kDX7_cubeAt_0 5 rfl
theorem dX7_cubeAt_8 : decode cX7_cubeAt 8 = .ok (.getfield 41, 3) := dec_at kDX7_cubeAt_0 6 rfl
theorem dX7_cubeAt_11 : decode cX7_cubeAt 11 = .ok (.iload_n 1, 1) := dec_at kDX7_cubeAt_0 7 rfl
theorem dX7_cubeAt_12 : decode cX7_cubeAt 12 = .ok (.iaload, 1) := dec_at kDX7_cubeAt_0 8 rfl
theorem dX7_cubeAt_13 : decode cX7_cubeAt 13 = .ok (.invokevirtual 281, 3) := dec_at kDX7_cubeAt_0 9 rfl
theorem dX7_cubeAt_16 : decode cX7_cubeAt 16 = .ok (.lreturn, 1) := dec_at kDX7_cubeAt_0 10 rfl
def DX7_frameOf_0 : List (Nat × (Instr × Nat)) := [(0, (.iload_n 1, 1)), (1, (.ifCond .ne 8, 3)), (4, (.aload_n 0, 1)), (5, (.getfield 94, 3)), (8, (.lreturn, 1)), (9, (.aload_n 0, 1)), (10, (.invokevirtual 98, 3)), (13, (.lstore_n 2, 1)), (14, (.iconst 0, 1)), (15, (.istore 4, 2)), (17, (.iload 4, 2)), (19, (.aload_n 0, 1)), (20, (.getfield 284, 3)), (23, (.if_icmp .ge 39, 3)), (26, (.lload_n 2, 1)), (27, (.aload_n 0, 1)), (28, (.getfield 44, 3)), (31, (.iload 4, 2)), (33, (.iaload, 1)), (34, (.iload_n 1, 1)), (35, (.if_icmp .lt 16, 3)), (38, (.aload_n 0, 1)), (39, (.iload 4, 2)), (41, (.invokevirtual 287, 3)), (44, (.ldc2_w 84, 3)), (47, (.lxor, 1)), (48, (.goto 6, 3)), (51, (.ldc2_w 84, 3)), (54, (.land, 1)), (55, (.lstore_n 2, 1)), (56, (.iinc 4 1, 3)), (59, (.goto (-42), 3)), (62, (.lload_n 2, 1)), (63, (.lreturn, 1))]
theorem kDX7_frameOf_0 : DX7_frameOf_0.all (fun q => decide (decode cX7_frameOf q.1 = .ok q.2)) = true := by decide +kernel
theorem dX7_frameOf_0 : decode cX7_frameOf 0 = .ok (.iload_n 1, 1) := dec_at kDX7_frameOf_0 0 rfl
theorem dX7_frameOf_1 : decode cX7_frameOf 1 = .ok (.ifCond .ne 8, 3) := dec_at kDX7_frameOf_0 1 rfl
theorem dX7_frameOf_4 : decode cX7_frameOf 4 = .ok (.aload_n 0, 1) := dec_at kDX7_frameOf_0 2 rfl
theorem dX7_frameOf_5 : decode cX7_frameOf 5 = .ok (.getfield 94, 3) := dec_at kDX7_frameOf_0 3 rfl
theorem dX7_frameOf_8 : decode cX7_frameOf 8 = .ok (.lreturn, 1) := dec_at kDX7_frameOf_0 4 rfl
theorem dX7_frameOf_9 : decode cX7_frameOf 9 = .ok (.aload_n 0, 1) := dec_at kDX7_frameOf_0 5 rfl
theorem dX7_frameOf_10 : decode cX7_frameOf 10 = .ok (.invokevirtual 98, 3) := dec_at kDX7_frameOf_0 6 rfl
theorem dX7_frameOf_13 : decode cX7_frameOf 13 = .ok (.lstore_n 2, 1) := dec_at kDX7_frameOf_0 7 rfl
theorem dX7_frameOf_14 : decode cX7_frameOf 14 = .ok (.iconst 0, 1) := dec_at kDX7_frameOf_0 8 rfl
theorem dX7_frameOf_15 : decode cX7_frameOf 15 = .ok (.istore 4, 2) := dec_at kDX7_frameOf_0 9 rfl
theorem dX7_frameOf_17 : decode cX7_frameOf 17 = .ok (.iload 4, 2) := dec_at kDX7_frameOf_0 10 rfl
theorem dX7_frameOf_19 : decode cX7_frameOf 19 = .ok (.aload_n 0, 1) := dec_at kDX7_frameOf_0 11 rfl
theorem dX7_frameOf_20 : decode cX7_frameOf 20 = .ok (.getfield 284, 3) := dec_at kDX7_frameOf_0 12 rfl
theorem dX7_frameOf_23 : decode cX7_frameOf 23 = .ok (.if_icmp .ge 39, 3) := dec_at kDX7_frameOf_0 13 rfl
theorem dX7_frameOf_26 : decode cX7_frameOf 26 = .ok (.lload_n 2, 1) := dec_at kDX7_frameOf_0 14 rfl
theorem dX7_frameOf_27 : decode cX7_frameOf 27 = .ok (.aload_n 0, 1) := dec_at kDX7_frameOf_0 15 rfl
theorem dX7_frameOf_28 : decode cX7_frameOf 28 = .ok (.getfield 44, 3) := dec_at kDX7_frameOf_0 16 rfl
theorem dX7_frameOf_31 : decode cX7_frameOf 31 = .ok (.iload 4, 2) := dec_at kDX7_frameOf_0 17 rfl
theorem dX7_frameOf_33 : decode cX7_frameOf 33 = .ok (.iaload, 1) := dec_at kDX7_frameOf_0 18 rfl
theorem dX7_frameOf_34 : decode cX7_frameOf 34 = .ok (.iload_n 1, 1) := dec_at kDX7_frameOf_0 19 rfl
theorem dX7_frameOf_35 : decode cX7_frameOf 35 = .ok (.if_icmp .lt 16, 3) := dec_at kDX7_frameOf_0 20 rfl
theorem dX7_frameOf_38 : decode cX7_frameOf 38 = .ok (.aload_n 0, 1) := dec_at kDX7_frameOf_0 21 rfl
theorem dX7_frameOf_39 : decode cX7_frameOf 39 = .ok (.iload 4, 2) := dec_at kDX7_frameOf_0 22 rfl
theorem dX7_frameOf_41 : decode cX7_frameOf 41 = .ok (.invokevirtual 287, 3) := dec_at kDX7_frameOf_0 23 rfl
theorem dX7_frameOf_44 : decode cX7_frameOf 44 = .ok (.ldc2_w 84, 3) := dec_at kDX7_frameOf_0 24 rfl
theorem dX7_frameOf_47 : decode cX7_frameOf 47 = .ok (.lxor, 1) := dec_at kDX7_frameOf_0 25 rfl
theorem dX7_frameOf_48 : decode cX7_frameOf 48 = .ok (.goto 6, 3) := dec_at kDX7_frameOf_0 26 rfl
theorem dX7_frameOf_51 : decode cX7_frameOf 51 = .ok (.ldc2_w 84, 3) := dec_at kDX7_frameOf_0 27 rfl
theorem dX7_frameOf_54 : decode cX7_frameOf 54 = .ok (.land, 1) := dec_at kDX7_frameOf_0 28 rfl
theorem dX7_frameOf_55 : decode cX7_frameOf 55 = .ok (.lstore_n 2, 1) := dec_at kDX7_frameOf_0 29 rfl
theorem dX7_frameOf_56 : decode cX7_frameOf 56 = .ok (.iinc 4 1, 3) := dec_at kDX7_frameOf_0 30 rfl
theorem dX7_frameOf_59 : decode cX7_frameOf 59 = .ok (.goto (-42), 3) := dec_at kDX7_frameOf_0 31 rfl
theorem dX7_frameOf_62 : decode cX7_frameOf 62 = .ok (.lload_n 2, 1) := dec_at kDX7_frameOf_0 32 rfl
theorem dX7_frameOf_63 : decode cX7_frameOf 63 = .ok (.lreturn, 1) := dec_at kDX7_frameOf_0 33 rfl
def DX7_isBlocked_0 : List (Nat × (Instr × Nat)) := [(0, (.aload_n 0, 1)), (1, (.lload_n 1, 1)), (2, (.invokevirtual 209, 3)), (5, (.aload_n 0, 1)), (6, (.iload_n 3, 1)), (7, (.invokevirtual 290, 3)), (10, (.land, 1)), (11, (.lload_n 1, 1)), (12, (.ldc2_w 84, 3)), (15, (.lxor, 1)), (16, (.land, 1)), (17, (.lconst 0, 1)), (18, (.lcmp, 1)), (19, (.ifCond .ne 7, 3)), (22, (.iconst 1, 1)), (23, (.goto 4, 3)), (26, (.iconst 0, 1)), (27, (.ireturn, 1))]
theorem kDX7_isBlocked_0 : DX7_isBlocked_0.all (fun q => decide (decode cX7_isBlocked q.1 = .ok q.2)) = true := by decide +kernel
theorem dX7_isBlocked_0 : decode cX7_isBlocked 0 = .ok (.aload_n 0, 1) := dec_at kDX7_isBlocked_0 0 rfl
theorem dX7_isBlocked_1 : decode cX7_isBlocked 1 = .ok (.lload_n 1, 1) := dec_at kDX7_isBlocked_0 1 rfl
theorem dX7_isBlocked_2 : decode cX7_isBlocked 2 = .ok (.invokevirtual 209, 3) := dec_at kDX7_isBlocked_0 2 rfl
theorem dX7_isBlocked_5 : decode cX7_isBlocked 5 = .ok (.aload_n 0, 1) := dec_at kDX7_isBlocked_0 3 rfl
theorem dX7_isBlocked_6 : decode cX7_isBlocked 6 = .ok (.iload_n 3, 1) := dec_at kDX7_isBlocked_0 4 rfl
theorem dX7_isBlocked_7 : decode cX7_isBlocked 7 = .ok (.invokevirtual 290, 3) := dec_at kDX7_isBlocked_0 5 rfl
theorem dX7_isBlocked_10 : decode cX7_isBlocked 10 = .ok (.land, 1) := dec_at kDX7_isBlocked_0 6 rfl
theorem dX7_isBlocked_11 : decode cX7_isBlocked 11 = .ok (.lload_n 1, 1) := dec_at kDX7_isBlocked_0 7 rfl
theorem dX7_isBlocked_12 : decode cX7_isBlocked 12 = .ok (.ldc2_w 84, 3) := dec_at kDX7_isBlocked_0 8 rfl
theorem dX7_isBlocked_15 : decode cX7_isBlocked 15 = .ok (.lxor, 1) := dec_at kDX7_isBlocked_0 9 rfl
theorem dX7_isBlocked_16 : decode cX7_isBlocked 16 = .ok (.land, 1) := dec_at kDX7_isBlocked_0 10 rfl
theorem dX7_isBlocked_17 : decode cX7_isBlocked 17 = .ok (.lconst 0, 1) := dec_at kDX7_isBlocked_0 11 rfl
theorem dX7_isBlocked_18 : decode cX7_isBlocked 18 = .ok (.lcmp, 1) := dec_at kDX7_isBlocked_0 12 rfl
theorem dX7_isBlocked_19 : decode cX7_isBlocked 19 = .ok (.ifCond .ne 7, 3) := dec_at kDX7_isBlocked_0 13 rfl
theorem dX7_isBlocked_22 : decode cX7_isBlocked 22 = .ok (.iconst 1, 1) := dec_at kDX7_isBlocked_0 14 rfl
theorem dX7_isBlocked_23 : decode cX7_isBlocked 23 = .ok (.goto 4, 3) := dec_at kDX7_isBlocked_0 15 rfl
theorem dX7_isBlocked_26 : decode cX7_isBlocked 26 = .ok (.iconst 0, 1) := dec_at kDX7_isBlocked_0 16 rfl
theorem dX7_isBlocked_27 : decode cX7_isBlocked 27 = .ok (.ireturn, 1) := dec_at kDX7_isBlocked_0 17 rfl
def DX7_generalized_0 : List (Nat × (Instr × Nat)) := [(0, (.aload_n 0, 1)), (1, (.invokevirtual 86, 3)), (4, (.iconst 1, 1)), (5, (.isub, 1)), (6, (.istore_n 3, 1)), (7, (.iconst 0, 1)), (8, (.istore 4, 2)), (10, (.iload 4, 2)), (12, (.aload_n 0, 1)), (13, (.getfield 78, 3)), (16, (.if_icmp .ge 68, 3)), (19, (.iload_n 3, 1)), (20, (.iconst 1, 1)), (21, (.iload 4, 2)), (23, (.ishl, 1)), (24, (.iconst (-1), 1)), (25, (.ixor, 1)), (26, (.iand, 1)), (27, (.istore 5, 2)), (29, (.aload_n 0, 1)), (30, (.iload 5, 2)), (32, (.iload_n 1, 1)), (33, (.iload 5, 2)), (35, (.iand, 1)), (36, (.invokevirtual 281, 3)), (39, (.lstore 6, 2)), (41, (.lload 6, 2)), (43, (.aload_n 0, 1)), (44, (.getfield 94, 3)), (47, (.land, 1)), (48, (.lconst 0, 1)), (49, (.lcmp, 1)), (50, (.ifCond .ne 28, 3)), (53, (.aload_n 0, 1)), (54, (.lload 6, 2)), (56, (.iload_n 2, 1)), (57, (.iconst 1, 1)), (58, (.isub, 1)), (59, (.invokevirtual 293, 3)), (62, (.ifCond .eq 16, 3)), (65, (.iload 5, 2)), (67, (.istore_n 3, 1)), (68, (.aload_n 0, 1)), (69, (.dup, 1)), (70, (.getfield 296, 3)), (73, (.iconst 1, 1)), (74, (.iadd, 1)), (75, (.putfield 296, 3)), (78, (.iinc 4 1, 3)), (81, (.goto (-71), 3))]
theorem kDX7_generalized_0 : DX7_generalized_0.all (fun q => decide (decode cX7_generalized q.1 = .ok q.2)) = true := by decide +kernel
theorem dX7_generalized_0 : decode cX7_generalized 0 = .ok (.aload_n 0, 1) := dec_at kDX7_generalized_0 0 rfl
theorem dX7_generalized_1 : decode cX7_generalized 1 = .ok (.invokevirtual 86, 3) := dec_at kDX7_generalized_0 1 rfl
theorem dX7_generalized_4 : decode cX7_generalized 4 = .ok (.iconst 1, 1) := dec_at kDX7_generalized_0 2 rfl
theorem dX7_generalized_5 : decode cX7_generalized 5 = .ok (.isub, 1) := dec_at kDX7_generalized_0 3 rfl
theorem dX7_generalized_6 : decode cX7_generalized 6 = .ok (.istore_n 3, 1) := dec_at kDX7_generalized_0 4 rfl
theorem dX7_generalized_7 : decode cX7_generalized 7 = .ok (.iconst 0, 1) := dec_at kDX7_generalized_0 5 rfl
theorem dX7_generalized_8 : decode cX7_generalized 8 = .ok (.istore 4, 2) := dec_at kDX7_generalized_0 6 rfl
theorem dX7_generalized_10 : decode cX7_generalized 10 = .ok (.iload 4, 2) := dec_at kDX7_generalized_0 7 rfl
theorem dX7_generalized_12 : decode cX7_generalized 12 = .ok (.aload_n 0, 1) := dec_at kDX7_generalized_0 8 rfl
theorem dX7_generalized_13 : decode cX7_generalized 13 = .ok (.getfield 78, 3) := dec_at kDX7_generalized_0 9 rfl
theorem dX7_generalized_16 : decode cX7_generalized 16 = .ok (.if_icmp .ge 68, 3) := dec_at kDX7_generalized_0 10 rfl
theorem dX7_generalized_19 : decode cX7_generalized 19 = .ok (.iload_n 3, 1) := dec_at kDX7_generalized_0 11 rfl
theorem dX7_generalized_20 : decode cX7_generalized 20 = .ok (.iconst 1, 1) := dec_at kDX7_generalized_0 12 rfl
theorem dX7_generalized_21 : decode cX7_generalized 21 = .ok (.iload 4, 2) := dec_at kDX7_generalized_0 13 rfl
theorem dX7_generalized_23 : decode cX7_generalized 23 = .ok (.ishl, 1) := dec_at kDX7_generalized_0 14 rfl
theorem dX7_generalized_24 : decode cX7_generalized 24 = .ok (.iconst (-1), 1) := dec_at kDX7_generalized_0 15 rfl
theorem dX7_generalized_25 : decode cX7_generalized 25 = .ok (.ixor, 1) := dec_at kDX7_generalized_0 16 rfl
theorem dX7_generalized_26 : decode cX7_generalized 26 = .ok (.iand, 1) := dec_at kDX7_generalized_0 17 rfl
theorem dX7_generalized_27 : decode cX7_generalized 27 = .ok (.istore 5, 2) := dec_at kDX7_generalized_0 18 rfl
theorem dX7_generalized_29 : decode cX7_generalized 29 = .ok (.aload_n 0, 1) := dec_at kDX7_generalized_0 19 rfl
theorem dX7_generalized_30 : decode cX7_generalized 30 = .ok (.iload 5, 2) := dec_at kDX7_generalized_0 20 rfl
theorem dX7_generalized_32 : decode cX7_generalized 32 = .ok (.iload_n 1, 1) := dec_at kDX7_generalized_0 21 rfl
theorem dX7_generalized_33 : decode cX7_generalized 33 = .ok (.iload 5, 2) := dec_at kDX7_generalized_0 22 rfl
theorem dX7_generalized_35 : decode cX7_generalized 35 = .ok (.iand, 1) := dec_at kDX7_generalized_0 23 rfl
theorem dX7_generalized_36 : decode cX7_generalized 36 = .ok (.invokevirtual 281, 3) := dec_at kDX7_generalized_0 24 rfl
theorem dX7_generalized_39 : decode cX7_generalized 39 = .ok (.lstore 6, 2) := dec_at kDX7_generalized_0 25 rfl
theorem dX7_generalized_41 : decode cX7_generalized 41 = .ok (.lload 6, 2) := dec_at kDX7_generalized_0 26 rfl
theorem dX7_generalized_43 : decode cX7_generalized 43 = .ok (.aload_n 0, 1) := dec_at kDX7_generalized_0 27 rfl
theorem dX7_generalized_44 : decode cX7_generalized 44 = .ok (.getfield 94, 3) := dec_at kDX7_generalized_0 28 rfl
theorem dX7_generalized_47 : decode cX7_generalized 47 = .ok (.land, 1) := dec_at kDX7_generalized_0 29 rfl
theorem dX7_generalized_48 : decode cX7_generalized 48 = .ok (.lconst 0, 1) := dec_at kDX7_generalized_0 30 rfl
theorem dX7_generalized_49 : decode cX7_generalized 49 = .ok (.lcmp, 1) := dec_at kDX7_generalized_0 31 rfl
theorem dX7_generalized_50 : decode cX7_generalized 50 = .ok (.ifCond .ne 28, 3) := dec_at kDX7_generalized_0 32 rfl
theorem dX7_generalized_53 : decode cX7_generalized 53 = .ok (.aload_n 0, 1) := dec_at kDX7_generalized_0 33 rfl
theorem dX7_generalized_54 : decode cX7_generalized 54 = .ok (.lload 6, 2) := dec_at kDX7_generalized_0 34 rfl
theorem dX7_generalized_56 : decode cX7_generalized 56 = .ok (.iload_n 2, 1) := dec_at kDX7_generalized_0 35 rfl
theorem dX7_generalized_57 : decode cX7_generalized 57 = .ok (.iconst 1, 1) := dec_at kDX7_generalized_0 36 rfl
theorem dX7_generalized_58 : decode cX7_generalized 58 = .ok (.isub, 1) := dec_at kDX7_generalized_0 37 rfl
theorem dX7_generalized_59 : decode cX7_generalized 59 = .ok (.invokevirtual 293, 3) := dec_at kDX7_generalized_0 38 rfl
theorem dX7_generalized_62 : decode cX7_generalized 62 = .ok (.ifCond .eq 16, 3) := dec_at kDX7_generalized_0 39 rfl
theorem dX7_generalized_65 : decode cX7_generalized 65 = .ok (.iload 5, 2) := dec_at kDX7_generalized_0 40 rfl
theorem dX7_generalized_67 : decode cX7_generalized 67 = .ok (.istore_n 3, 1) := dec_at kDX7_generalized_0 41 rfl
theorem dX7_generalized_68 : decode cX7_generalized 68 = .ok (.aload_n 0, 1) := dec_at kDX7_generalized_0 42 rfl
theorem dX7_generalized_69 : decode cX7_generalized 69 = .ok (.dup, 1) := dec_at kDX7_generalized_0 43 rfl
theorem dX7_generalized_70 : decode cX7_generalized 70 = .ok (.getfield 296, 3) := dec_at kDX7_generalized_0 44 rfl
theorem dX7_generalized_73 : decode cX7_generalized 73 = .ok (.iconst 1, 1) := dec_at kDX7_generalized_0 45 rfl
theorem dX7_generalized_74 : decode cX7_generalized 74 = .ok (.iadd, 1) := dec_at kDX7_generalized_0 46 rfl
theorem dX7_generalized_75 : decode cX7_generalized 75 = .ok (.putfield 296, 3) := dec_at kDX7_generalized_0 47 rfl
theorem dX7_generalized_78 : decode cX7_generalized 78 = .ok (.iinc 4 1, 3) := dec_at kDX7_generalized_0 48 rfl
theorem dX7_generalized_81 : decode cX7_generalized 81 = .ok (.goto (-71), 3) := dec_at kDX7_generalized_0 49 rfl
def DX7_generalized_50 : List (Nat × (Instr × Nat)) := [(84, (.iload_n 3, 1)), (85, (.ireturn, 1))]
theorem kDX7_generalized_50 : DX7_generalized_50.all (fun q => decide (decode cX7_generalized q.1 = .ok q.2)) = true := by decide +kernel
theorem dX7_generalized_84 : decode cX7_generalized 84 = .ok (.iload_n 3, 1) := dec_at kDX7_generalized_50 0 rfl
theorem dX7_generalized_85 : decode cX7_generalized 85 = .ok (.ireturn, 1) := dec_at kDX7_generalized_50 1 rfl
def DX7_dropCubes_0 : List (Nat × (Instr × Nat)) := [(0, (.iconst 0, 1)), (1, (.istore 4, 2)), (3, (.iconst 0, 1)), (4, (.istore 5, 2)), (6, (.iload 5, 2)), (8, (.aload_n 0, 1)), (9, (.getfield 284, 3)), (12, (.if_icmp .ge 94, 3)), (15, (.aload_n 0, 1)), (16, (.getfield 44, 3)), (19, (.iload 5, 2)), (21, (.iaload, 1)), (22, (.iload_n 3, 1)), (23, (.if_icmp .gt 24, 3)), (26, (.aload_n 0, 1)), (27, (.iload 5, 2)), (29, (.invokevirtual 287, 3)), (32, (.lload_n 1, 1)), (33, (.ldc2_w 84, 3)), (36, (.lxor, 1)), (37, (.land, 1)), (38, (.lconst 0, 1)), (39, (.lcmp, 1)), (40, (.ifCond .ne 7, 3)), (43, (.iconst 1, 1)), (44, (.goto 4, 3)), (47, (.iconst 0, 1)), (48, (.istore 6, 2)), (50, (.iload 6, 2)), (52, (.ifCond .ne 48, 3)), (55, (.aload_n 0, 1)), (56, (.getfield 38, 3)), (59, (.iload 4, 2)), (61, (.aload_n 0, 1)), (62, (.getfield 38, 3)), (65, (.iload 5, 2)), (67, (.iaload, 1)), (68, (.iastore, 1)), (69, (.aload_n 0, 1)), (70, (.getfield 41, 3)), (73, (.iload 4, 2)), (75, (.aload_n 0, 1)), (76, (.getfield 41, 3)), (79, (.iload 5, 2)), (81, (.iaload, 1)), (82, (.iastore, 1)), (83, (.aload_n 0, 1)), (84, (.getfield 44, 3)), (87, (.iload 4, 2)), (89, (.aload_n 0, 1))]
theorem kDX7_dropCubes_0 : DX7_dropCubes_0.all (fun q => decide (decode cX7_dropCubes q.1 = .ok q.2)) = true := by decide +kernel
theorem dX7_dropCubes_0 : decode cX7_dropCubes 0 = .ok (.iconst 0, 1) := dec_at kDX7_dropCubes_0 0 rfl
theorem dX7_dropCubes_1 : decode cX7_dropCubes 1 = .ok (.istore 4, 2) := dec_at kDX7_dropCubes_0 1 rfl
theorem dX7_dropCubes_3 : decode cX7_dropCubes 3 = .ok (.iconst 0, 1) := dec_at kDX7_dropCubes_0 2 rfl
theorem dX7_dropCubes_4 : decode cX7_dropCubes 4 = .ok (.istore 5, 2) := dec_at kDX7_dropCubes_0 3 rfl
theorem dX7_dropCubes_6 : decode cX7_dropCubes 6 = .ok (.iload 5, 2) := dec_at kDX7_dropCubes_0 4 rfl
theorem dX7_dropCubes_8 : decode cX7_dropCubes 8 = .ok (.aload_n 0, 1) := dec_at kDX7_dropCubes_0 5 rfl
theorem dX7_dropCubes_9 : decode cX7_dropCubes 9 = .ok (.getfield 284, 3) := dec_at kDX7_dropCubes_0 6 rfl
theorem dX7_dropCubes_12 : decode cX7_dropCubes 12 = .ok (.if_icmp .ge 94, 3) := dec_at kDX7_dropCubes_0 7 rfl
theorem dX7_dropCubes_15 : decode cX7_dropCubes 15 = .ok (.aload_n 0, 1) := dec_at kDX7_dropCubes_0 8 rfl
theorem dX7_dropCubes_16 : decode cX7_dropCubes 16 = .ok (.getfield 44, 3) := dec_at kDX7_dropCubes_0 9 rfl
theorem dX7_dropCubes_19 : decode cX7_dropCubes 19 = .ok (.iload 5, 2) := dec_at kDX7_dropCubes_0 10 rfl
theorem dX7_dropCubes_21 : decode cX7_dropCubes 21 = .ok (.iaload, 1) := dec_at kDX7_dropCubes_0 11 rfl
theorem dX7_dropCubes_22 : decode cX7_dropCubes 22 = .ok (.iload_n 3, 1) := dec_at kDX7_dropCubes_0 12 rfl
theorem dX7_dropCubes_23 : decode cX7_dropCubes 23 = .ok (.if_icmp .gt 24, 3) := dec_at kDX7_dropCubes_0 13 rfl
theorem dX7_dropCubes_26 : decode cX7_dropCubes 26 = .ok (.aload_n 0, 1) := dec_at kDX7_dropCubes_0 14 rfl
theorem dX7_dropCubes_27 : decode cX7_dropCubes 27 = .ok (.iload 5, 2) := dec_at kDX7_dropCubes_0 15 rfl
theorem dX7_dropCubes_29 : decode cX7_dropCubes 29 = .ok (.invokevirtual 287, 3) := dec_at kDX7_dropCubes_0 16 rfl
theorem dX7_dropCubes_32 : decode cX7_dropCubes 32 = .ok (.lload_n 1, 1) := dec_at kDX7_dropCubes_0 17 rfl
theorem dX7_dropCubes_33 : decode cX7_dropCubes 33 = .ok (.ldc2_w 84, 3) := dec_at kDX7_dropCubes_0 18 rfl
theorem dX7_dropCubes_36 : decode cX7_dropCubes 36 = .ok (.lxor, 1) := dec_at kDX7_dropCubes_0 19 rfl
theorem dX7_dropCubes_37 : decode cX7_dropCubes 37 = .ok (.land, 1) := dec_at kDX7_dropCubes_0 20 rfl
theorem dX7_dropCubes_38 : decode cX7_dropCubes 38 = .ok (.lconst 0, 1) := dec_at kDX7_dropCubes_0 21 rfl
theorem dX7_dropCubes_39 : decode cX7_dropCubes 39 = .ok (.lcmp, 1) := dec_at kDX7_dropCubes_0 22 rfl
theorem dX7_dropCubes_40 : decode cX7_dropCubes 40 = .ok (.ifCond .ne 7, 3) := dec_at kDX7_dropCubes_0 23 rfl
theorem dX7_dropCubes_43 : decode cX7_dropCubes 43 = .ok (.iconst 1, 1) := dec_at kDX7_dropCubes_0 24 rfl
theorem dX7_dropCubes_44 : decode cX7_dropCubes 44 = .ok (.goto 4, 3) := dec_at kDX7_dropCubes_0 25 rfl
theorem dX7_dropCubes_47 : decode cX7_dropCubes 47 = .ok (.iconst 0, 1) := dec_at kDX7_dropCubes_0 26 rfl
theorem dX7_dropCubes_48 : decode cX7_dropCubes 48 = .ok (.istore 6, 2) := dec_at kDX7_dropCubes_0 27 rfl
theorem dX7_dropCubes_50 : decode cX7_dropCubes 50 = .ok (.iload 6, 2) := dec_at kDX7_dropCubes_0 28 rfl
theorem dX7_dropCubes_52 : decode cX7_dropCubes 52 = .ok (.ifCond .ne 48, 3) := dec_at kDX7_dropCubes_0 29 rfl
theorem dX7_dropCubes_55 : decode cX7_dropCubes 55 = .ok (.aload_n 0, 1) := dec_at kDX7_dropCubes_0 30 rfl
theorem dX7_dropCubes_56 : decode cX7_dropCubes 56 = .ok (.getfield 38, 3) := dec_at kDX7_dropCubes_0 31 rfl
theorem dX7_dropCubes_59 : decode cX7_dropCubes 59 = .ok (.iload 4, 2) := dec_at kDX7_dropCubes_0 32 rfl
theorem dX7_dropCubes_61 : decode cX7_dropCubes 61 = .ok (.aload_n 0, 1) := dec_at kDX7_dropCubes_0 33 rfl
theorem dX7_dropCubes_62 : decode cX7_dropCubes 62 = .ok (.getfield 38, 3) := dec_at kDX7_dropCubes_0 34 rfl
theorem dX7_dropCubes_65 : decode cX7_dropCubes 65 = .ok (.iload 5, 2) := dec_at kDX7_dropCubes_0 35 rfl
theorem dX7_dropCubes_67 : decode cX7_dropCubes 67 = .ok (.iaload, 1) := dec_at kDX7_dropCubes_0 36 rfl
theorem dX7_dropCubes_68 : decode cX7_dropCubes 68 = .ok (.iastore, 1) := dec_at kDX7_dropCubes_0 37 rfl
theorem dX7_dropCubes_69 : decode cX7_dropCubes 69 = .ok (.aload_n 0, 1) := dec_at kDX7_dropCubes_0 38 rfl
theorem dX7_dropCubes_70 : decode cX7_dropCubes 70 = .ok (.getfield 41, 3) := dec_at kDX7_dropCubes_0 39 rfl
theorem dX7_dropCubes_73 : decode cX7_dropCubes 73 = .ok (.iload 4, 2) := dec_at kDX7_dropCubes_0 40 rfl
theorem dX7_dropCubes_75 : decode cX7_dropCubes 75 = .ok (.aload_n 0, 1) := dec_at kDX7_dropCubes_0 41 rfl
theorem dX7_dropCubes_76 : decode cX7_dropCubes 76 = .ok (.getfield 41, 3) := dec_at kDX7_dropCubes_0 42 rfl
theorem dX7_dropCubes_79 : decode cX7_dropCubes 79 = .ok (.iload 5, 2) := dec_at kDX7_dropCubes_0 43 rfl
theorem dX7_dropCubes_81 : decode cX7_dropCubes 81 = .ok (.iaload, 1) := dec_at kDX7_dropCubes_0 44 rfl
theorem dX7_dropCubes_82 : decode cX7_dropCubes 82 = .ok (.iastore, 1) := dec_at kDX7_dropCubes_0 45 rfl
theorem dX7_dropCubes_83 : decode cX7_dropCubes 83 = .ok (.aload_n 0, 1) := dec_at kDX7_dropCubes_0 46 rfl
theorem dX7_dropCubes_84 : decode cX7_dropCubes 84 = .ok (.getfield 44, 3) := dec_at kDX7_dropCubes_0 47 rfl
theorem dX7_dropCubes_87 : decode cX7_dropCubes 87 = .ok (.iload 4, 2) := dec_at kDX7_dropCubes_0 48 rfl
theorem dX7_dropCubes_89 : decode cX7_dropCubes 89 = .ok (.aload_n 0, 1) := dec_at kDX7_dropCubes_0 49 rfl
def DX7_dropCubes_50 : List (Nat × (Instr × Nat)) := [(90, (.getfield 44, 3)), (93, (.iload 5, 2)), (95, (.iaload, 1)), (96, (.iastore, 1)), (97, (.iinc 4 1, 3)), (100, (.iinc 5 1, 3)), (103, (.goto (-97), 3)), (106, (.aload_n 0, 1)), (107, (.iload 4, 2)), (109, (.putfield 284, 3)), (112, (.return_, 1))]
theorem kDX7_dropCubes_50 : DX7_dropCubes_50.all (fun q => decide (decode cX7_dropCubes q.1 = .ok q.2)) = true := by decide +kernel
theorem dX7_dropCubes_90 : decode cX7_dropCubes 90 = .ok (.getfield 44, 3) := dec_at kDX7_dropCubes_50 0 rfl
theorem dX7_dropCubes_93 : decode cX7_dropCubes 93 = .ok (.iload 5, 2) := dec_at kDX7_dropCubes_50 1 rfl
theorem dX7_dropCubes_95 : decode cX7_dropCubes 95 = .ok (.iaload, 1) := dec_at kDX7_dropCubes_50 2 rfl
theorem dX7_dropCubes_96 : decode cX7_dropCubes 96 = .ok (.iastore, 1) := dec_at kDX7_dropCubes_50 3 rfl
theorem dX7_dropCubes_97 : decode cX7_dropCubes 97 = .ok (.iinc 4 1, 3) := dec_at kDX7_dropCubes_50 4 rfl
theorem dX7_dropCubes_100 : decode cX7_dropCubes 100 = .ok (.iinc 5 1, 3) := dec_at kDX7_dropCubes_50 5 rfl
theorem dX7_dropCubes_103 : decode cX7_dropCubes 103 = .ok (.goto (-97), 3) := dec_at kDX7_dropCubes_50 6 rfl
theorem dX7_dropCubes_106 : decode cX7_dropCubes 106 = .ok (.aload_n 0, 1) := dec_at kDX7_dropCubes_50 7 rfl
theorem dX7_dropCubes_107 : decode cX7_dropCubes 107 = .ok (.iload 4, 2) := dec_at kDX7_dropCubes_50 8 rfl
theorem dX7_dropCubes_109 : decode cX7_dropCubes 109 = .ok (.putfield 284, 3) := dec_at kDX7_dropCubes_50 9 rfl
theorem dX7_dropCubes_112 : decode cX7_dropCubes 112 = .ok (.return_, 1) := dec_at kDX7_dropCubes_50 10 rfl
def DX7_addCube_0 : List (Nat × (Instr × Nat)) := [(0, (.aload_n 0, 1)), (1, (.iload_n 1, 1)), (2, (.iload_n 2, 1)), (3, (.invokevirtual 299, 3)), (6, (.istore_n 3, 1)), (7, (.aload_n 0, 1)), (8, (.iload_n 3, 1)), (9, (.iload_n 1, 1)), (10, (.iload_n 3, 1)), (11, (.iand, 1)), (12, (.invokevirtual 281, 3)), (15, (.lstore 4, 2)), (17, (.iload_n 2, 1)), (18, (.istore 6, 2)), (20, (.iload 6, 2)), (22, (.aload_n 0, 1)), (23, (.getfield 302, 3)), (26, (.if_icmp .ge 20, 3)), (29, (.aload_n 0, 1)), (30, (.lload 4, 2)), (32, (.iload 6, 2)), (34, (.invokevirtual 293, 3)), (37, (.ifCond .eq 9, 3)), (40, (.iinc 6 1, 3)), (43, (.goto (-23), 3)), (46, (.aload_n 0, 1)), (47, (.lload 4, 2)), (49, (.iload 6, 2)), (51, (.invokevirtual 305, 3)), (54, (.aload_n 0, 1)), (55, (.getfield 38, 3)), (58, (.aload_n 0, 1)), (59, (.getfield 284, 3)), (62, (.iload_n 3, 1)), (63, (.iastore, 1)), (64, (.aload_n 0, 1)), (65, (.getfield 41, 3)), (68, (.aload_n 0, 1)), (69, (.getfield 284, 3)), (72, (.iload_n 1, 1)), (73, (.iload_n 3, 1)), (74, (.iand, 1)), (75, (.iastore, 1)), (76, (.aload_n 0, 1)), (77, (.getfield 44, 3)), (80, (.aload_n 0, 1)), (81, (.getfield 284, 3)), (84, (.iload 6, 2)), (86, (.iastore, 1)), (87, (.aload_n 0, 1))]
theorem kDX7_addCube_0 : DX7_addCube_0.all (fun q => decide (decode cX7_addCube q.1 = .ok q.2)) = true := by decide +kernel
theorem dX7_addCube_0 : decode cX7_addCube 0 = .ok (.aload_n 0, 1) := dec_at kDX7_addCube_0 0 rfl
theorem dX7_addCube_1 : decode cX7_addCube 1 = .ok (.iload_n 1, 1) := dec_at kDX7_addCube_0 1 rfl
theorem dX7_addCube_2 : decode cX7_addCube 2 = .ok (.iload_n 2, 1) := dec_at kDX7_addCube_0 2 rfl
theorem dX7_addCube_3 : decode cX7_addCube 3 = .ok (.invokevirtual 299, 3) := dec_at kDX7_addCube_0 3 rfl
theorem dX7_addCube_6 : decode cX7_addCube 6 = .ok (.istore_n 3, 1) := dec_at kDX7_addCube_0 4 rfl
theorem dX7_addCube_7 : decode cX7_addCube 7 = .ok (.aload_n 0, 1) := dec_at kDX7_addCube_0 5 rfl
theorem dX7_addCube_8 : decode cX7_addCube 8 = .ok (.iload_n 3, 1) := dec_at kDX7_addCube_0 6 rfl
theorem dX7_addCube_9 : decode cX7_addCube 9 = .ok (.iload_n 1, 1) := dec_at kDX7_addCube_0 7 rfl
theorem dX7_addCube_10 : decode cX7_addCube 10 = .ok (.iload_n 3, 1) := dec_at kDX7_addCube_0 8 rfl
theorem dX7_addCube_11 : decode cX7_addCube 11 = .ok (.iand, 1) := dec_at kDX7_addCube_0 9 rfl
theorem dX7_addCube_12 : decode cX7_addCube 12 = .ok (.invokevirtual 281, 3) := dec_at kDX7_addCube_0 10 rfl
theorem dX7_addCube_15 : decode cX7_addCube 15 = .ok (.lstore 4, 2) := dec_at kDX7_addCube_0 11 rfl
theorem dX7_addCube_17 : decode cX7_addCube 17 = .ok (.iload_n 2, 1) := dec_at kDX7_addCube_0 12 rfl
theorem dX7_addCube_18 : decode cX7_addCube 18 = .ok (.istore 6, 2) := dec_at kDX7_addCube_0 13 rfl
theorem dX7_addCube_20 : decode cX7_addCube 20 = .ok (.iload 6, 2) := dec_at kDX7_addCube_0 14 rfl
theorem dX7_addCube_22 : decode cX7_addCube 22 = .ok (.aload_n 0, 1) := dec_at kDX7_addCube_0 15 rfl
theorem dX7_addCube_23 : decode cX7_addCube 23 = .ok (.getfield 302, 3) := dec_at kDX7_addCube_0 16 rfl
theorem dX7_addCube_26 : decode cX7_addCube 26 = .ok (.if_icmp .ge 20, 3) := dec_at kDX7_addCube_0 17 rfl
theorem dX7_addCube_29 : decode cX7_addCube 29 = .ok (.aload_n 0, 1) := dec_at kDX7_addCube_0 18 rfl
theorem dX7_addCube_30 : decode cX7_addCube 30 = .ok (.lload 4, 2) := dec_at kDX7_addCube_0 19 rfl
theorem dX7_addCube_32 : decode cX7_addCube 32 = .ok (.iload 6, 2) := dec_at kDX7_addCube_0 20 rfl
theorem dX7_addCube_34 : decode cX7_addCube 34 = .ok (.invokevirtual 293, 3) := dec_at kDX7_addCube_0 21 rfl
theorem dX7_addCube_37 : decode cX7_addCube 37 = .ok (.ifCond .eq 9, 3) := dec_at kDX7_addCube_0 22 rfl
theorem dX7_addCube_40 : decode cX7_addCube 40 = .ok (.iinc 6 1, 3) := dec_at kDX7_addCube_0 23 rfl
theorem dX7_addCube_43 : decode cX7_addCube 43 = .ok (.goto (-23), 3) := dec_at kDX7_addCube_0 24 rfl
theorem dX7_addCube_46 : decode cX7_addCube 46 = .ok (.aload_n 0, 1) := dec_at kDX7_addCube_0 25 rfl
theorem dX7_addCube_47 : decode cX7_addCube 47 = .ok (.lload 4, 2) := dec_at kDX7_addCube_0 26 rfl
theorem dX7_addCube_49 : decode cX7_addCube 49 = .ok (.iload 6, 2) := dec_at kDX7_addCube_0 27 rfl
theorem dX7_addCube_51 : decode cX7_addCube 51 = .ok (.invokevirtual 305, 3) := dec_at kDX7_addCube_0 28 rfl
theorem dX7_addCube_54 : decode cX7_addCube 54 = .ok (.aload_n 0, 1) := dec_at kDX7_addCube_0 29 rfl
theorem dX7_addCube_55 : decode cX7_addCube 55 = .ok (.getfield 38, 3) := dec_at kDX7_addCube_0 30 rfl
theorem dX7_addCube_58 : decode cX7_addCube 58 = .ok (.aload_n 0, 1) := dec_at kDX7_addCube_0 31 rfl
theorem dX7_addCube_59 : decode cX7_addCube 59 = .ok (.getfield 284, 3) := dec_at kDX7_addCube_0 32 rfl
theorem dX7_addCube_62 : decode cX7_addCube 62 = .ok (.iload_n 3, 1) := dec_at kDX7_addCube_0 33 rfl
theorem dX7_addCube_63 : decode cX7_addCube 63 = .ok (.iastore, 1) := dec_at kDX7_addCube_0 34 rfl
theorem dX7_addCube_64 : decode cX7_addCube 64 = .ok (.aload_n 0, 1) := dec_at kDX7_addCube_0 35 rfl
theorem dX7_addCube_65 : decode cX7_addCube 65 = .ok (.getfield 41, 3) := dec_at kDX7_addCube_0 36 rfl
theorem dX7_addCube_68 : decode cX7_addCube 68 = .ok (.aload_n 0, 1) := dec_at kDX7_addCube_0 37 rfl
theorem dX7_addCube_69 : decode cX7_addCube 69 = .ok (.getfield 284, 3) := dec_at kDX7_addCube_0 38 rfl
theorem dX7_addCube_72 : decode cX7_addCube 72 = .ok (.iload_n 1, 1) := dec_at kDX7_addCube_0 39 rfl
theorem dX7_addCube_73 : decode cX7_addCube 73 = .ok (.iload_n 3, 1) := dec_at kDX7_addCube_0 40 rfl
theorem dX7_addCube_74 : decode cX7_addCube 74 = .ok (.iand, 1) := dec_at kDX7_addCube_0 41 rfl
theorem dX7_addCube_75 : decode cX7_addCube 75 = .ok (.iastore, 1) := dec_at kDX7_addCube_0 42 rfl
theorem dX7_addCube_76 : decode cX7_addCube 76 = .ok (.aload_n 0, 1) := dec_at kDX7_addCube_0 43 rfl
theorem dX7_addCube_77 : decode cX7_addCube 77 = .ok (.getfield 44, 3) := dec_at kDX7_addCube_0 44 rfl
theorem dX7_addCube_80 : decode cX7_addCube 80 = .ok (.aload_n 0, 1) := dec_at kDX7_addCube_0 45 rfl
theorem dX7_addCube_81 : decode cX7_addCube 81 = .ok (.getfield 284, 3) := dec_at kDX7_addCube_0 46 rfl
theorem dX7_addCube_84 : decode cX7_addCube 84 = .ok (.iload 6, 2) := dec_at kDX7_addCube_0 47 rfl
theorem dX7_addCube_86 : decode cX7_addCube 86 = .ok (.iastore, 1) := dec_at kDX7_addCube_0 48 rfl
theorem dX7_addCube_87 : decode cX7_addCube 87 = .ok (.aload_n 0, 1) := dec_at kDX7_addCube_0 49 rfl
def DX7_addCube_50 : List (Nat × (Instr × Nat)) := [(88, (.dup, 1)), (89, (.getfield 284, 3)), (92, (.iconst 1, 1)), (93, (.iadd, 1)), (94, (.putfield 284, 3)), (97, (.aload_n 0, 1)), (98, (.dup, 1)), (99, (.getfield 309, 3)), (102, (.iconst 1, 1)), (103, (.iadd, 1)), (104, (.putfield 309, 3)), (107, (.return_, 1))]
theorem kDX7_addCube_50 : DX7_addCube_50.all (fun q => decide (decode cX7_addCube q.1 = .ok q.2)) = true := by decide +kernel
theorem dX7_addCube_88 : decode cX7_addCube 88 = .ok (.dup, 1) := dec_at kDX7_addCube_50 0 rfl
theorem dX7_addCube_89 : decode cX7_addCube 89 = .ok (.getfield 284, 3) := dec_at kDX7_addCube_50 1 rfl
theorem dX7_addCube_92 : decode cX7_addCube 92 = .ok (.iconst 1, 1) := dec_at kDX7_addCube_50 2 rfl
theorem dX7_addCube_93 : decode cX7_addCube 93 = .ok (.iadd, 1) := dec_at kDX7_addCube_50 3 rfl
theorem dX7_addCube_94 : decode cX7_addCube 94 = .ok (.putfield 284, 3) := dec_at kDX7_addCube_50 4 rfl
theorem dX7_addCube_97 : decode cX7_addCube 97 = .ok (.aload_n 0, 1) := dec_at kDX7_addCube_50 5 rfl
theorem dX7_addCube_98 : decode cX7_addCube 98 = .ok (.dup, 1) := dec_at kDX7_addCube_50 6 rfl
theorem dX7_addCube_99 : decode cX7_addCube 99 = .ok (.getfield 309, 3) := dec_at kDX7_addCube_50 7 rfl
theorem dX7_addCube_102 : decode cX7_addCube 102 = .ok (.iconst 1, 1) := dec_at kDX7_addCube_50 8 rfl
theorem dX7_addCube_103 : decode cX7_addCube 103 = .ok (.iadd, 1) := dec_at kDX7_addCube_50 9 rfl
theorem dX7_addCube_104 : decode cX7_addCube 104 = .ok (.putfield 309, 3) := dec_at kDX7_addCube_50 10 rfl
theorem dX7_addCube_107 : decode cX7_addCube 107 = .ok (.return_, 1) := dec_at kDX7_addCube_50 11 rfl
def DX7_moveOn_0 : List (Nat × (Instr × Nat)) := [(0, (.aload_n 0, 1)), (1, (.getfield 47, 3)), (4, (.iload_n 2, 1)), (5, (.dup2, 1)), (6, (.laload, 1)), (7, (.lconst 1, 1)), (8, (.iload_n 1, 1)), (9, (.lshl, 1)), (10, (.ldc2_w 84, 3)), (13, (.lxor, 1)), (14, (.land, 1)), (15, (.lastore, 1)), (16, (.aload_n 0, 1)), (17, (.getfield 47, 3)), (20, (.iload_n 2, 1)), (21, (.iconst 1, 1)), (22, (.iadd, 1)), (23, (.dup2, 1)), (24, (.laload, 1)), (25, (.iload_n 2, 1)), (26, (.aload_n 0, 1)), (27, (.getfield 302, 3)), (30, (.if_icmp .ge 9, 3)), (33, (.lconst 1, 1)), (34, (.iload_n 1, 1)), (35, (.lshl, 1)), (36, (.goto 4, 3)), (39, (.lconst 0, 1)), (40, (.lor, 1)), (41, (.lastore, 1)), (42, (.return_, 1))]
theorem kDX7_moveOn_0 : DX7_moveOn_0.all (fun q => decide (decode cX7_moveOn q.1 = .ok q.2)) = true := by decide +kernel
theorem dX7_moveOn_0 : decode cX7_moveOn 0 = .ok (.aload_n 0, 1) := dec_at kDX7_moveOn_0 0 rfl
theorem dX7_moveOn_1 : decode cX7_moveOn 1 = .ok (.getfield 47, 3) := dec_at kDX7_moveOn_0 1 rfl
theorem dX7_moveOn_4 : decode cX7_moveOn 4 = .ok (.iload_n 2, 1) := dec_at kDX7_moveOn_0 2 rfl
theorem dX7_moveOn_5 : decode cX7_moveOn 5 = .ok (.dup2, 1) := dec_at kDX7_moveOn_0 3 rfl
theorem dX7_moveOn_6 : decode cX7_moveOn 6 = .ok (.laload, 1) := dec_at kDX7_moveOn_0 4 rfl
theorem dX7_moveOn_7 : decode cX7_moveOn 7 = .ok (.lconst 1, 1) := dec_at kDX7_moveOn_0 5 rfl
theorem dX7_moveOn_8 : decode cX7_moveOn 8 = .ok (.iload_n 1, 1) := dec_at kDX7_moveOn_0 6 rfl
theorem dX7_moveOn_9 : decode cX7_moveOn 9 = .ok (.lshl, 1) := dec_at kDX7_moveOn_0 7 rfl
theorem dX7_moveOn_10 : decode cX7_moveOn 10 = .ok (.ldc2_w 84, 3) := dec_at kDX7_moveOn_0 8 rfl
theorem dX7_moveOn_13 : decode cX7_moveOn 13 = .ok (.lxor, 1) := dec_at kDX7_moveOn_0 9 rfl
theorem dX7_moveOn_14 : decode cX7_moveOn 14 = .ok (.land, 1) := dec_at kDX7_moveOn_0 10 rfl
theorem dX7_moveOn_15 : decode cX7_moveOn 15 = .ok (.lastore, 1) := dec_at kDX7_moveOn_0 11 rfl
theorem dX7_moveOn_16 : decode cX7_moveOn 16 = .ok (.aload_n 0, 1) := dec_at kDX7_moveOn_0 12 rfl
theorem dX7_moveOn_17 : decode cX7_moveOn 17 = .ok (.getfield 47, 3) := dec_at kDX7_moveOn_0 13 rfl
theorem dX7_moveOn_20 : decode cX7_moveOn 20 = .ok (.iload_n 2, 1) := dec_at kDX7_moveOn_0 14 rfl
theorem dX7_moveOn_21 : decode cX7_moveOn 21 = .ok (.iconst 1, 1) := dec_at kDX7_moveOn_0 15 rfl
theorem dX7_moveOn_22 : decode cX7_moveOn 22 = .ok (.iadd, 1) := dec_at kDX7_moveOn_0 16 rfl
theorem dX7_moveOn_23 : decode cX7_moveOn 23 = .ok (.dup2, 1) := dec_at kDX7_moveOn_0 17 rfl
theorem dX7_moveOn_24 : decode cX7_moveOn 24 = .ok (.laload, 1) := dec_at kDX7_moveOn_0 18 rfl
theorem dX7_moveOn_25 : decode cX7_moveOn 25 = .ok (.iload_n 2, 1) := dec_at kDX7_moveOn_0 19 rfl
theorem dX7_moveOn_26 : decode cX7_moveOn 26 = .ok (.aload_n 0, 1) := dec_at kDX7_moveOn_0 20 rfl
theorem dX7_moveOn_27 : decode cX7_moveOn 27 = .ok (.getfield 302, 3) := dec_at kDX7_moveOn_0 21 rfl
theorem dX7_moveOn_30 : decode cX7_moveOn 30 = .ok (.if_icmp .ge 9, 3) := dec_at kDX7_moveOn_0 22 rfl
theorem dX7_moveOn_33 : decode cX7_moveOn 33 = .ok (.lconst 1, 1) := dec_at kDX7_moveOn_0 23 rfl
theorem dX7_moveOn_34 : decode cX7_moveOn 34 = .ok (.iload_n 1, 1) := dec_at kDX7_moveOn_0 24 rfl
theorem dX7_moveOn_35 : decode cX7_moveOn 35 = .ok (.lshl, 1) := dec_at kDX7_moveOn_0 25 rfl
theorem dX7_moveOn_36 : decode cX7_moveOn 36 = .ok (.goto 4, 3) := dec_at kDX7_moveOn_0 26 rfl
theorem dX7_moveOn_39 : decode cX7_moveOn 39 = .ok (.lconst 0, 1) := dec_at kDX7_moveOn_0 27 rfl
theorem dX7_moveOn_40 : decode cX7_moveOn 40 = .ok (.lor, 1) := dec_at kDX7_moveOn_0 28 rfl
theorem dX7_moveOn_41 : decode cX7_moveOn 41 = .ok (.lastore, 1) := dec_at kDX7_moveOn_0 29 rfl
theorem dX7_moveOn_42 : decode cX7_moveOn 42 = .ok (.return_, 1) := dec_at kDX7_moveOn_0 30 rfl
def DX7_handle_0 : List (Nat × (Instr × Nat)) := [(0, (.aload_n 0, 1)), (1, (.dup, 1)), (2, (.getfield 312, 3)), (5, (.iconst 1, 1)), (6, (.iadd, 1)), (7, (.putfield 312, 3)), (10, (.aload_n 0, 1)), (11, (.getfield 94, 3)), (14, (.iload_n 1, 1)), (15, (.invokestatic 74, 3)), (18, (.ifCond .eq 5, 3)), (21, (.iconst 1, 1)), (22, (.ireturn, 1)), (23, (.aload_n 0, 1)), (24, (.iload_n 2, 1)), (25, (.invokevirtual 290, 3)), (28, (.iload_n 1, 1)), (29, (.invokestatic 74, 3)), (32, (.ifCond .ne 11, 3)), (35, (.aload_n 0, 1)), (36, (.iload_n 1, 1)), (37, (.iload_n 2, 1)), (38, (.invokevirtual 315, 3)), (41, (.iconst 0, 1)), (42, (.ireturn, 1)), (43, (.aload_n 0, 1)), (44, (.lconst 1, 1)), (45, (.iload_n 1, 1)), (46, (.lshl, 1)), (47, (.invokevirtual 209, 3)), (50, (.aload_n 0, 1)), (51, (.iload_n 2, 1)), (52, (.iconst 1, 1)), (53, (.isub, 1)), (54, (.invokevirtual 290, 3)), (57, (.land, 1)), (58, (.lconst 1, 1)), (59, (.iload_n 1, 1)), (60, (.lshl, 1)), (61, (.ldc2_w 84, 3)), (64, (.lxor, 1)), (65, (.land, 1)), (66, (.invokestatic 216, 3)), (69, (.istore_n 3, 1)), (70, (.iload_n 3, 1)), (71, (.iconst (-1), 1)), (72, (.if_icmp .eq 19, 3)), (75, (.aload_n 0, 1)), (76, (.getfield 47, 3)), (79, (.iload_n 2, 1))]
theorem kDX7_handle_0 : DX7_handle_0.all (fun q => decide (decode cX7_handle q.1 = .ok q.2)) = true := by decide +kernel
theorem dX7_handle_0 : decode cX7_handle 0 = .ok (.aload_n 0, 1) := dec_at kDX7_handle_0 0 rfl
theorem dX7_handle_1 : decode cX7_handle 1 = .ok (.dup, 1) := dec_at kDX7_handle_0 1 rfl
theorem dX7_handle_2 : decode cX7_handle 2 = .ok (.getfield 312, 3) := dec_at kDX7_handle_0 2 rfl
theorem dX7_handle_5 : decode cX7_handle 5 = .ok (.iconst 1, 1) := dec_at kDX7_handle_0 3 rfl
theorem dX7_handle_6 : decode cX7_handle 6 = .ok (.iadd, 1) := dec_at kDX7_handle_0 4 rfl
theorem dX7_handle_7 : decode cX7_handle 7 = .ok (.putfield 312, 3) := dec_at kDX7_handle_0 5 rfl
theorem dX7_handle_10 : decode cX7_handle 10 = .ok (.aload_n 0, 1) := dec_at kDX7_handle_0 6 rfl
theorem dX7_handle_11 : decode cX7_handle 11 = .ok (.getfield 94, 3) := dec_at kDX7_handle_0 7 rfl
theorem dX7_handle_14 : decode cX7_handle 14 = .ok (.iload_n 1, 1) := dec_at kDX7_handle_0 8 rfl
theorem dX7_handle_15 : decode cX7_handle 15 = .ok (.invokestatic 74, 3) := dec_at kDX7_handle_0 9 rfl
theorem dX7_handle_18 : decode cX7_handle 18 = .ok (.ifCond .eq 5, 3) := dec_at kDX7_handle_0 10 rfl
theorem dX7_handle_21 : decode cX7_handle 21 = .ok (.iconst 1, 1) := dec_at kDX7_handle_0 11 rfl
theorem dX7_handle_22 : decode cX7_handle 22 = .ok (.ireturn, 1) := dec_at kDX7_handle_0 12 rfl
theorem dX7_handle_23 : decode cX7_handle 23 = .ok (.aload_n 0, 1) := dec_at kDX7_handle_0 13 rfl
theorem dX7_handle_24 : decode cX7_handle 24 = .ok (.iload_n 2, 1) := dec_at kDX7_handle_0 14 rfl
theorem dX7_handle_25 : decode cX7_handle 25 = .ok (.invokevirtual 290, 3) := dec_at kDX7_handle_0 15 rfl
theorem dX7_handle_28 : decode cX7_handle 28 = .ok (.iload_n 1, 1) := dec_at kDX7_handle_0 16 rfl
theorem dX7_handle_29 : decode cX7_handle 29 = .ok (.invokestatic 74, 3) := dec_at kDX7_handle_0 17 rfl
theorem dX7_handle_32 : decode cX7_handle 32 = .ok (.ifCond .ne 11, 3) := dec_at kDX7_handle_0 18 rfl
theorem dX7_handle_35 : decode cX7_handle 35 = .ok (.aload_n 0, 1) := dec_at kDX7_handle_0 19 rfl
theorem dX7_handle_36 : decode cX7_handle 36 = .ok (.iload_n 1, 1) := dec_at kDX7_handle_0 20 rfl
theorem dX7_handle_37 : decode cX7_handle 37 = .ok (.iload_n 2, 1) := dec_at kDX7_handle_0 21 rfl
theorem dX7_handle_38 : decode cX7_handle 38 = .ok (.invokevirtual 315, 3) := dec_at kDX7_handle_0 22 rfl
theorem dX7_handle_41 : decode cX7_handle 41 = .ok (.iconst 0, 1) := dec_at kDX7_handle_0 23 rfl
theorem dX7_handle_42 : decode cX7_handle 42 = .ok (.ireturn, 1) := dec_at kDX7_handle_0 24 rfl
theorem dX7_handle_43 : decode cX7_handle 43 = .ok (.aload_n 0, 1) := dec_at kDX7_handle_0 25 rfl
theorem dX7_handle_44 : decode cX7_handle 44 = .ok (.lconst 1, 1) := dec_at kDX7_handle_0 26 rfl
theorem dX7_handle_45 : decode cX7_handle 45 = .ok (.iload_n 1, 1) := dec_at kDX7_handle_0 27 rfl
theorem dX7_handle_46 : decode cX7_handle 46 = .ok (.lshl, 1) := dec_at kDX7_handle_0 28 rfl
theorem dX7_handle_47 : decode cX7_handle 47 = .ok (.invokevirtual 209, 3) := dec_at kDX7_handle_0 29 rfl
theorem dX7_handle_50 : decode cX7_handle 50 = .ok (.aload_n 0, 1) := dec_at kDX7_handle_0 30 rfl
theorem dX7_handle_51 : decode cX7_handle 51 = .ok (.iload_n 2, 1) := dec_at kDX7_handle_0 31 rfl
theorem dX7_handle_52 : decode cX7_handle 52 = .ok (.iconst 1, 1) := dec_at kDX7_handle_0 32 rfl
theorem dX7_handle_53 : decode cX7_handle 53 = .ok (.isub, 1) := dec_at kDX7_handle_0 33 rfl
theorem dX7_handle_54 : decode cX7_handle 54 = .ok (.invokevirtual 290, 3) := dec_at kDX7_handle_0 34 rfl
theorem dX7_handle_57 : decode cX7_handle 57 = .ok (.land, 1) := dec_at kDX7_handle_0 35 rfl
theorem dX7_handle_58 : decode cX7_handle 58 = .ok (.lconst 1, 1) := dec_at kDX7_handle_0 36 rfl
theorem dX7_handle_59 : decode cX7_handle 59 = .ok (.iload_n 1, 1) := dec_at kDX7_handle_0 37 rfl
theorem dX7_handle_60 : decode cX7_handle 60 = .ok (.lshl, 1) := dec_at kDX7_handle_0 38 rfl
theorem dX7_handle_61 : decode cX7_handle 61 = .ok (.ldc2_w 84, 3) := dec_at kDX7_handle_0 39 rfl
theorem dX7_handle_64 : decode cX7_handle 64 = .ok (.lxor, 1) := dec_at kDX7_handle_0 40 rfl
theorem dX7_handle_65 : decode cX7_handle 65 = .ok (.land, 1) := dec_at kDX7_handle_0 41 rfl
theorem dX7_handle_66 : decode cX7_handle 66 = .ok (.invokestatic 216, 3) := dec_at kDX7_handle_0 42 rfl
theorem dX7_handle_69 : decode cX7_handle 69 = .ok (.istore_n 3, 1) := dec_at kDX7_handle_0 43 rfl
theorem dX7_handle_70 : decode cX7_handle 70 = .ok (.iload_n 3, 1) := dec_at kDX7_handle_0 44 rfl
theorem dX7_handle_71 : decode cX7_handle 71 = .ok (.iconst (-1), 1) := dec_at kDX7_handle_0 45 rfl
theorem dX7_handle_72 : decode cX7_handle 72 = .ok (.if_icmp .eq 19, 3) := dec_at kDX7_handle_0 46 rfl
theorem dX7_handle_75 : decode cX7_handle 75 = .ok (.aload_n 0, 1) := dec_at kDX7_handle_0 47 rfl
theorem dX7_handle_76 : decode cX7_handle 76 = .ok (.getfield 47, 3) := dec_at kDX7_handle_0 48 rfl
theorem dX7_handle_79 : decode cX7_handle 79 = .ok (.iload_n 2, 1) := dec_at kDX7_handle_0 49 rfl
def DX7_handle_50 : List (Nat × (Instr × Nat)) := [(80, (.iconst 1, 1)), (81, (.isub, 1)), (82, (.dup2, 1)), (83, (.laload, 1)), (84, (.lconst 1, 1)), (85, (.iload_n 3, 1)), (86, (.lshl, 1)), (87, (.lor, 1)), (88, (.lastore, 1)), (89, (.iconst 0, 1)), (90, (.ireturn, 1)), (91, (.aload_n 0, 1)), (92, (.iload_n 1, 1)), (93, (.iload_n 2, 1)), (94, (.invokevirtual 318, 3)), (97, (.aload_n 0, 1)), (98, (.iload_n 1, 1)), (99, (.iload_n 2, 1)), (100, (.invokevirtual 315, 3)), (103, (.iconst 0, 1)), (104, (.ireturn, 1))]
theorem kDX7_handle_50 : DX7_handle_50.all (fun q => decide (decode cX7_handle q.1 = .ok q.2)) = true := by decide +kernel
theorem dX7_handle_80 : decode cX7_handle 80 = .ok (.iconst 1, 1) := dec_at kDX7_handle_50 0 rfl
theorem dX7_handle_81 : decode cX7_handle 81 = .ok (.isub, 1) := dec_at kDX7_handle_50 1 rfl
theorem dX7_handle_82 : decode cX7_handle 82 = .ok (.dup2, 1) := dec_at kDX7_handle_50 2 rfl
theorem dX7_handle_83 : decode cX7_handle 83 = .ok (.laload, 1) := dec_at kDX7_handle_50 3 rfl
theorem dX7_handle_84 : decode cX7_handle 84 = .ok (.lconst 1, 1) := dec_at kDX7_handle_50 4 rfl
theorem dX7_handle_85 : decode cX7_handle 85 = .ok (.iload_n 3, 1) := dec_at kDX7_handle_50 5 rfl
theorem dX7_handle_86 : decode cX7_handle 86 = .ok (.lshl, 1) := dec_at kDX7_handle_50 6 rfl
theorem dX7_handle_87 : decode cX7_handle 87 = .ok (.lor, 1) := dec_at kDX7_handle_50 7 rfl
theorem dX7_handle_88 : decode cX7_handle 88 = .ok (.lastore, 1) := dec_at kDX7_handle_50 8 rfl
theorem dX7_handle_89 : decode cX7_handle 89 = .ok (.iconst 0, 1) := dec_at kDX7_handle_50 9 rfl
theorem dX7_handle_90 : decode cX7_handle 90 = .ok (.ireturn, 1) := dec_at kDX7_handle_50 10 rfl
theorem dX7_handle_91 : decode cX7_handle 91 = .ok (.aload_n 0, 1) := dec_at kDX7_handle_50 11 rfl
theorem dX7_handle_92 : decode cX7_handle 92 = .ok (.iload_n 1, 1) := dec_at kDX7_handle_50 12 rfl
theorem dX7_handle_93 : decode cX7_handle 93 = .ok (.iload_n 2, 1) := dec_at kDX7_handle_50 13 rfl
theorem dX7_handle_94 : decode cX7_handle 94 = .ok (.invokevirtual 318, 3) := dec_at kDX7_handle_50 14 rfl
theorem dX7_handle_97 : decode cX7_handle 97 = .ok (.aload_n 0, 1) := dec_at kDX7_handle_50 15 rfl
theorem dX7_handle_98 : decode cX7_handle 98 = .ok (.iload_n 1, 1) := dec_at kDX7_handle_50 16 rfl
theorem dX7_handle_99 : decode cX7_handle 99 = .ok (.iload_n 2, 1) := dec_at kDX7_handle_50 17 rfl
theorem dX7_handle_100 : decode cX7_handle 100 = .ok (.invokevirtual 315, 3) := dec_at kDX7_handle_50 18 rfl
theorem dX7_handle_103 : decode cX7_handle 103 = .ok (.iconst 0, 1) := dec_at kDX7_handle_50 19 rfl
theorem dX7_handle_104 : decode cX7_handle 104 = .ok (.ireturn, 1) := dec_at kDX7_handle_50 20 rfl
def DX7_lowestLevel_0 : List (Nat × (Instr × Nat)) := [(0, (.iconst 0, 1)), (1, (.istore_n 1, 1)), (2, (.iload_n 1, 1)), (3, (.aload_n 0, 1)), (4, (.getfield 302, 3)), (7, (.if_icmp .gt 20, 3)), (10, (.aload_n 0, 1)), (11, (.getfield 47, 3)), (14, (.iload_n 1, 1)), (15, (.laload, 1)), (16, (.lconst 0, 1)), (17, (.lcmp, 1)), (18, (.ifCond .ne 9, 3)), (21, (.iinc 1 1, 3)), (24, (.goto (-22), 3)), (27, (.iload_n 1, 1)), (28, (.aload_n 0, 1)), (29, (.getfield 302, 3)), (32, (.if_icmp .gt 7, 3)), (35, (.iload_n 1, 1)), (36, (.goto 4, 3)), (39, (.iconst (-1), 1)), (40, (.ireturn, 1))]
theorem kDX7_lowestLevel_0 : DX7_lowestLevel_0.all (fun q => decide (decode cX7_lowestLevel q.1 = .ok q.2)) = true := by decide +kernel
theorem dX7_lowestLevel_0 : decode cX7_lowestLevel 0 = .ok (.iconst 0, 1) := dec_at kDX7_lowestLevel_0 0 rfl
theorem dX7_lowestLevel_1 : decode cX7_lowestLevel 1 = .ok (.istore_n 1, 1) := dec_at kDX7_lowestLevel_0 1 rfl
theorem dX7_lowestLevel_2 : decode cX7_lowestLevel 2 = .ok (.iload_n 1, 1) := dec_at kDX7_lowestLevel_0 2 rfl
theorem dX7_lowestLevel_3 : decode cX7_lowestLevel 3 = .ok (.aload_n 0, 1) := dec_at kDX7_lowestLevel_0 3 rfl
theorem dX7_lowestLevel_4 : decode cX7_lowestLevel 4 = .ok (.getfield 302, 3) := dec_at kDX7_lowestLevel_0 4 rfl
theorem dX7_lowestLevel_7 : decode cX7_lowestLevel 7 = .ok (.if_icmp .gt 20, 3) := dec_at kDX7_lowestLevel_0 5 rfl
theorem dX7_lowestLevel_10 : decode cX7_lowestLevel 10 = .ok (.aload_n 0, 1) := dec_at kDX7_lowestLevel_0 6 rfl
theorem dX7_lowestLevel_11 : decode cX7_lowestLevel 11 = .ok (.getfield 47, 3) := dec_at kDX7_lowestLevel_0 7 rfl
theorem dX7_lowestLevel_14 : decode cX7_lowestLevel 14 = .ok (.iload_n 1, 1) := dec_at kDX7_lowestLevel_0 8 rfl
theorem dX7_lowestLevel_15 : decode cX7_lowestLevel 15 = .ok (.laload, 1) := dec_at kDX7_lowestLevel_0 9 rfl
theorem dX7_lowestLevel_16 : decode cX7_lowestLevel 16 = .ok (.lconst 0, 1) := dec_at kDX7_lowestLevel_0 10 rfl
theorem dX7_lowestLevel_17 : decode cX7_lowestLevel 17 = .ok (.lcmp, 1) := dec_at kDX7_lowestLevel_0 11 rfl
theorem dX7_lowestLevel_18 : decode cX7_lowestLevel 18 = .ok (.ifCond .ne 9, 3) := dec_at kDX7_lowestLevel_0 12 rfl
theorem dX7_lowestLevel_21 : decode cX7_lowestLevel 21 = .ok (.iinc 1 1, 3) := dec_at kDX7_lowestLevel_0 13 rfl
theorem dX7_lowestLevel_24 : decode cX7_lowestLevel 24 = .ok (.goto (-22), 3) := dec_at kDX7_lowestLevel_0 14 rfl
theorem dX7_lowestLevel_27 : decode cX7_lowestLevel 27 = .ok (.iload_n 1, 1) := dec_at kDX7_lowestLevel_0 15 rfl
theorem dX7_lowestLevel_28 : decode cX7_lowestLevel 28 = .ok (.aload_n 0, 1) := dec_at kDX7_lowestLevel_0 16 rfl
theorem dX7_lowestLevel_29 : decode cX7_lowestLevel 29 = .ok (.getfield 302, 3) := dec_at kDX7_lowestLevel_0 17 rfl
theorem dX7_lowestLevel_32 : decode cX7_lowestLevel 32 = .ok (.if_icmp .gt 7, 3) := dec_at kDX7_lowestLevel_0 18 rfl
theorem dX7_lowestLevel_35 : decode cX7_lowestLevel 35 = .ok (.iload_n 1, 1) := dec_at kDX7_lowestLevel_0 19 rfl
theorem dX7_lowestLevel_36 : decode cX7_lowestLevel 36 = .ok (.goto 4, 3) := dec_at kDX7_lowestLevel_0 20 rfl
theorem dX7_lowestLevel_39 : decode cX7_lowestLevel 39 = .ok (.iconst (-1), 1) := dec_at kDX7_lowestLevel_0 21 rfl
theorem dX7_lowestLevel_40 : decode cX7_lowestLevel 40 = .ok (.ireturn, 1) := dec_at kDX7_lowestLevel_0 22 rfl
def DX7_blocks_0 : List (Nat × (Instr × Nat)) := [(0, (.iconst 0, 1)), (1, (.istore_n 1, 1)), (2, (.iload_n 1, 1)), (3, (.ifCond .ne 91, 3)), (6, (.aload_n 0, 1)), (7, (.aload_n 0, 1)), (8, (.getfield 302, 3)), (11, (.invokevirtual 290, 3)), (14, (.aload_n 0, 1)), (15, (.invokevirtual 219, 3)), (18, (.land, 1)), (19, (.lconst 0, 1)), (20, (.lcmp, 1)), (21, (.ifCond .eq 73, 3)), (24, (.aload_n 0, 1)), (25, (.getfield 47, 3)), (28, (.aload_n 0, 1)), (29, (.getfield 302, 3)), (32, (.dup2, 1)), (33, (.laload, 1)), (34, (.lconst 1, 1)), (35, (.aload_n 0, 1)), (36, (.aload_n 0, 1)), (37, (.getfield 302, 3)), (40, (.invokevirtual 290, 3)), (43, (.aload_n 0, 1)), (44, (.invokevirtual 219, 3)), (47, (.land, 1)), (48, (.invokestatic 216, 3)), (51, (.lshl, 1)), (52, (.lor, 1)), (53, (.lastore, 1)), (54, (.aload_n 0, 1)), (55, (.invokevirtual 321, 3)), (58, (.istore_n 2, 1)), (59, (.iload_n 2, 1)), (60, (.iconst (-1), 1)), (61, (.if_icmp .eq 30, 3)), (64, (.iload_n 1, 1)), (65, (.ifCond .ne 26, 3)), (68, (.aload_n 0, 1)), (69, (.aload_n 0, 1)), (70, (.getfield 47, 3)), (73, (.iload_n 2, 1)), (74, (.laload, 1)), (75, (.invokestatic 216, 3)), (78, (.iload_n 2, 1)), (79, (.invokevirtual 324, 3)), (82, (.istore_n 1, 1)), (83, (.aload_n 0, 1))]
theorem kDX7_blocks_0 : DX7_blocks_0.all (fun q => decide (decode cX7_blocks q.1 = .ok q.2)) = true := by decide +kernel
theorem dX7_blocks_0 : decode cX7_blocks 0 = .ok (.iconst 0, 1) := dec_at kDX7_blocks_0 0 rfl
theorem dX7_blocks_1 : decode cX7_blocks 1 = .ok (.istore_n 1, 1) := dec_at kDX7_blocks_0 1 rfl
theorem dX7_blocks_2 : decode cX7_blocks 2 = .ok (.iload_n 1, 1) := dec_at kDX7_blocks_0 2 rfl
theorem dX7_blocks_3 : decode cX7_blocks 3 = .ok (.ifCond .ne 91, 3) := dec_at kDX7_blocks_0 3 rfl
theorem dX7_blocks_6 : decode cX7_blocks 6 = .ok (.aload_n 0, 1) := dec_at kDX7_blocks_0 4 rfl
theorem dX7_blocks_7 : decode cX7_blocks 7 = .ok (.aload_n 0, 1) := dec_at kDX7_blocks_0 5 rfl
theorem dX7_blocks_8 : decode cX7_blocks 8 = .ok (.getfield 302, 3) := dec_at kDX7_blocks_0 6 rfl
theorem dX7_blocks_11 : decode cX7_blocks 11 = .ok (.invokevirtual 290, 3) := dec_at kDX7_blocks_0 7 rfl
theorem dX7_blocks_14 : decode cX7_blocks 14 = .ok (.aload_n 0, 1) := dec_at kDX7_blocks_0 8 rfl
theorem dX7_blocks_15 : decode cX7_blocks 15 = .ok (.invokevirtual 219, 3) := dec_at kDX7_blocks_0 9 rfl
theorem dX7_blocks_18 : decode cX7_blocks 18 = .ok (.land, 1) := dec_at kDX7_blocks_0 10 rfl
theorem dX7_blocks_19 : decode cX7_blocks 19 = .ok (.lconst 0, 1) := dec_at kDX7_blocks_0 11 rfl
theorem dX7_blocks_20 : decode cX7_blocks 20 = .ok (.lcmp, 1) := dec_at kDX7_blocks_0 12 rfl
theorem dX7_blocks_21 : decode cX7_blocks 21 = .ok (.ifCond .eq 73, 3) := dec_at kDX7_blocks_0 13 rfl
theorem dX7_blocks_24 : decode cX7_blocks 24 = .ok (.aload_n 0, 1) := dec_at kDX7_blocks_0 14 rfl
theorem dX7_blocks_25 : decode cX7_blocks 25 = .ok (.getfield 47, 3) := dec_at kDX7_blocks_0 15 rfl
theorem dX7_blocks_28 : decode cX7_blocks 28 = .ok (.aload_n 0, 1) := dec_at kDX7_blocks_0 16 rfl
theorem dX7_blocks_29 : decode cX7_blocks 29 = .ok (.getfield 302, 3) := dec_at kDX7_blocks_0 17 rfl
theorem dX7_blocks_32 : decode cX7_blocks 32 = .ok (.dup2, 1) := dec_at kDX7_blocks_0 18 rfl
theorem dX7_blocks_33 : decode cX7_blocks 33 = .ok (.laload, 1) := dec_at kDX7_blocks_0 19 rfl
theorem dX7_blocks_34 : decode cX7_blocks 34 = .ok (.lconst 1, 1) := dec_at kDX7_blocks_0 20 rfl
theorem dX7_blocks_35 : decode cX7_blocks 35 = .ok (.aload_n 0, 1) := dec_at kDX7_blocks_0 21 rfl
theorem dX7_blocks_36 : decode cX7_blocks 36 = .ok (.aload_n 0, 1) := dec_at kDX7_blocks_0 22 rfl
theorem dX7_blocks_37 : decode cX7_blocks 37 = .ok (.getfield 302, 3) := dec_at kDX7_blocks_0 23 rfl
theorem dX7_blocks_40 : decode cX7_blocks 40 = .ok (.invokevirtual 290, 3) := dec_at kDX7_blocks_0 24 rfl
theorem dX7_blocks_43 : decode cX7_blocks 43 = .ok (.aload_n 0, 1) := dec_at kDX7_blocks_0 25 rfl
theorem dX7_blocks_44 : decode cX7_blocks 44 = .ok (.invokevirtual 219, 3) := dec_at kDX7_blocks_0 26 rfl
theorem dX7_blocks_47 : decode cX7_blocks 47 = .ok (.land, 1) := dec_at kDX7_blocks_0 27 rfl
theorem dX7_blocks_48 : decode cX7_blocks 48 = .ok (.invokestatic 216, 3) := dec_at kDX7_blocks_0 28 rfl
theorem dX7_blocks_51 : decode cX7_blocks 51 = .ok (.lshl, 1) := dec_at kDX7_blocks_0 29 rfl
theorem dX7_blocks_52 : decode cX7_blocks 52 = .ok (.lor, 1) := dec_at kDX7_blocks_0 30 rfl
theorem dX7_blocks_53 : decode cX7_blocks 53 = .ok (.lastore, 1) := dec_at kDX7_blocks_0 31 rfl
theorem dX7_blocks_54 : decode cX7_blocks 54 = .ok (.aload_n 0, 1) := dec_at kDX7_blocks_0 32 rfl
theorem dX7_blocks_55 : decode cX7_blocks 55 = .ok (.invokevirtual 321, 3) := dec_at kDX7_blocks_0 33 rfl
theorem dX7_blocks_58 : decode cX7_blocks 58 = .ok (.istore_n 2, 1) := dec_at kDX7_blocks_0 34 rfl
theorem dX7_blocks_59 : decode cX7_blocks 59 = .ok (.iload_n 2, 1) := dec_at kDX7_blocks_0 35 rfl
theorem dX7_blocks_60 : decode cX7_blocks 60 = .ok (.iconst (-1), 1) := dec_at kDX7_blocks_0 36 rfl
theorem dX7_blocks_61 : decode cX7_blocks 61 = .ok (.if_icmp .eq 30, 3) := dec_at kDX7_blocks_0 37 rfl
theorem dX7_blocks_64 : decode cX7_blocks 64 = .ok (.iload_n 1, 1) := dec_at kDX7_blocks_0 38 rfl
theorem dX7_blocks_65 : decode cX7_blocks 65 = .ok (.ifCond .ne 26, 3) := dec_at kDX7_blocks_0 39 rfl
theorem dX7_blocks_68 : decode cX7_blocks 68 = .ok (.aload_n 0, 1) := dec_at kDX7_blocks_0 40 rfl
theorem dX7_blocks_69 : decode cX7_blocks 69 = .ok (.aload_n 0, 1) := dec_at kDX7_blocks_0 41 rfl
theorem dX7_blocks_70 : decode cX7_blocks 70 = .ok (.getfield 47, 3) := dec_at kDX7_blocks_0 42 rfl
theorem dX7_blocks_73 : decode cX7_blocks 73 = .ok (.iload_n 2, 1) := dec_at kDX7_blocks_0 43 rfl
theorem dX7_blocks_74 : decode cX7_blocks 74 = .ok (.laload, 1) := dec_at kDX7_blocks_0 44 rfl
theorem dX7_blocks_75 : decode cX7_blocks 75 = .ok (.invokestatic 216, 3) := dec_at kDX7_blocks_0 45 rfl
theorem dX7_blocks_78 : decode cX7_blocks 78 = .ok (.iload_n 2, 1) := dec_at kDX7_blocks_0 46 rfl
theorem dX7_blocks_79 : decode cX7_blocks 79 = .ok (.invokevirtual 324, 3) := dec_at kDX7_blocks_0 47 rfl
theorem dX7_blocks_82 : decode cX7_blocks 82 = .ok (.istore_n 1, 1) := dec_at kDX7_blocks_0 48 rfl
theorem dX7_blocks_83 : decode cX7_blocks 83 = .ok (.aload_n 0, 1) := dec_at kDX7_blocks_0 49 rfl
def DX7_blocks_50 : List (Nat × (Instr × Nat)) := [(84, (.invokevirtual 321, 3)), (87, (.istore_n 2, 1)), (88, (.goto (-29), 3)), (91, (.goto (-89), 3)), (94, (.iload_n 1, 1)), (95, (.ireturn, 1))]
theorem kDX7_blocks_50 : DX7_blocks_50.all (fun q => decide (decode cX7_blocks q.1 = .ok q.2)) = true := by decide +kernel
theorem dX7_blocks_84 : decode cX7_blocks 84 = .ok (.invokevirtual 321, 3) := dec_at kDX7_blocks_50 0 rfl
theorem dX7_blocks_87 : decode cX7_blocks 87 = .ok (.istore_n 2, 1) := dec_at kDX7_blocks_50 1 rfl
theorem dX7_blocks_88 : decode cX7_blocks 88 = .ok (.goto (-29), 3) := dec_at kDX7_blocks_50 2 rfl
theorem dX7_blocks_91 : decode cX7_blocks 91 = .ok (.goto (-89), 3) := dec_at kDX7_blocks_50 3 rfl
theorem dX7_blocks_94 : decode cX7_blocks 94 = .ok (.iload_n 1, 1) := dec_at kDX7_blocks_50 4 rfl
theorem dX7_blocks_95 : decode cX7_blocks 95 = .ok (.ireturn, 1) := dec_at kDX7_blocks_50 5 rfl
def DX7_cubesAt_0 : List (Nat × (Instr × Nat)) := [(0, (.iconst 0, 1)), (1, (.istore_n 2, 1)), (2, (.iconst 0, 1)), (3, (.istore_n 3, 1)), (4, (.iload_n 3, 1)), (5, (.aload_n 0, 1)), (6, (.getfield 284, 3)), (9, (.if_icmp .ge 27, 3)), (12, (.iload_n 2, 1)), (13, (.aload_n 0, 1)), (14, (.getfield 44, 3)), (17, (.iload_n 3, 1)), (18, (.iaload, 1)), (19, (.iload_n 1, 1)), (20, (.if_icmp .ne 7, 3)), (23, (.iconst 1, 1)), (24, (.goto 4, 3)), (27, (.iconst 0, 1)), (28, (.iadd, 1)), (29, (.istore_n 2, 1)), (30, (.iinc 3 1, 3)), (33, (.goto (-29), 3)), (36, (.iload_n 2, 1)), (37, (.ireturn, 1))]
theorem kDX7_cubesAt_0 : DX7_cubesAt_0.all (fun q => decide (decode cX7_cubesAt q.1 = .ok q.2)) = true := by decide +kernel
theorem dX7_cubesAt_0 : decode cX7_cubesAt 0 = .ok (.iconst 0, 1) := dec_at kDX7_cubesAt_0 0 rfl
theorem dX7_cubesAt_1 : decode cX7_cubesAt 1 = .ok (.istore_n 2, 1) := dec_at kDX7_cubesAt_0 1 rfl
theorem dX7_cubesAt_2 : decode cX7_cubesAt 2 = .ok (.iconst 0, 1) := dec_at kDX7_cubesAt_0 2 rfl
theorem dX7_cubesAt_3 : decode cX7_cubesAt 3 = .ok (.istore_n 3, 1) := dec_at kDX7_cubesAt_0 3 rfl
theorem dX7_cubesAt_4 : decode cX7_cubesAt 4 = .ok (.iload_n 3, 1) := dec_at kDX7_cubesAt_0 4 rfl
theorem dX7_cubesAt_5 : decode cX7_cubesAt 5 = .ok (.aload_n 0, 1) := dec_at kDX7_cubesAt_0 5 rfl
theorem dX7_cubesAt_6 : decode cX7_cubesAt 6 = .ok (.getfield 284, 3) := dec_at kDX7_cubesAt_0 6 rfl
theorem dX7_cubesAt_9 : decode cX7_cubesAt 9 = .ok (.if_icmp .ge 27, 3) := dec_at kDX7_cubesAt_0 7 rfl
theorem dX7_cubesAt_12 : decode cX7_cubesAt 12 = .ok (.iload_n 2, 1) := dec_at kDX7_cubesAt_0 8 rfl
theorem dX7_cubesAt_13 : decode cX7_cubesAt 13 = .ok (.aload_n 0, 1) := dec_at kDX7_cubesAt_0 9 rfl
theorem dX7_cubesAt_14 : decode cX7_cubesAt 14 = .ok (.getfield 44, 3) := dec_at kDX7_cubesAt_0 10 rfl
theorem dX7_cubesAt_17 : decode cX7_cubesAt 17 = .ok (.iload_n 3, 1) := dec_at kDX7_cubesAt_0 11 rfl
theorem dX7_cubesAt_18 : decode cX7_cubesAt 18 = .ok (.iaload, 1) := dec_at kDX7_cubesAt_0 12 rfl
theorem dX7_cubesAt_19 : decode cX7_cubesAt 19 = .ok (.iload_n 1, 1) := dec_at kDX7_cubesAt_0 13 rfl
theorem dX7_cubesAt_20 : decode cX7_cubesAt 20 = .ok (.if_icmp .ne 7, 3) := dec_at kDX7_cubesAt_0 14 rfl
theorem dX7_cubesAt_23 : decode cX7_cubesAt 23 = .ok (.iconst 1, 1) := dec_at kDX7_cubesAt_0 15 rfl
theorem dX7_cubesAt_24 : decode cX7_cubesAt 24 = .ok (.goto 4, 3) := dec_at kDX7_cubesAt_0 16 rfl
theorem dX7_cubesAt_27 : decode cX7_cubesAt 27 = .ok (.iconst 0, 1) := dec_at kDX7_cubesAt_0 17 rfl
theorem dX7_cubesAt_28 : decode cX7_cubesAt 28 = .ok (.iadd, 1) := dec_at kDX7_cubesAt_0 18 rfl
theorem dX7_cubesAt_29 : decode cX7_cubesAt 29 = .ok (.istore_n 2, 1) := dec_at kDX7_cubesAt_0 19 rfl
theorem dX7_cubesAt_30 : decode cX7_cubesAt 30 = .ok (.iinc 3 1, 3) := dec_at kDX7_cubesAt_0 20 rfl
theorem dX7_cubesAt_33 : decode cX7_cubesAt 33 = .ok (.goto (-29), 3) := dec_at kDX7_cubesAt_0 21 rfl
theorem dX7_cubesAt_36 : decode cX7_cubesAt 36 = .ok (.iload_n 2, 1) := dec_at kDX7_cubesAt_0 22 rfl
theorem dX7_cubesAt_37 : decode cX7_cubesAt 37 = .ok (.ireturn, 1) := dec_at kDX7_cubesAt_0 23 rfl
def DX7_spreads_0 : List (Nat × (Instr × Nat)) := [(0, (.aload_n 0, 1)), (1, (.dup, 1)), (2, (.getfield 302, 3)), (5, (.iconst 1, 1)), (6, (.iadd, 1)), (7, (.putfield 302, 3)), (10, (.iconst 1, 1)), (11, (.istore_n 1, 1)), (12, (.iload_n 1, 1)), (13, (.aload_n 0, 1)), (14, (.getfield 302, 3)), (17, (.if_icmp .ge 112, 3)), (20, (.iconst 0, 1)), (21, (.istore_n 2, 1)), (22, (.iload_n 2, 1)), (23, (.aload_n 0, 1)), (24, (.getfield 284, 3)), (27, (.if_icmp .ge 81, 3)), (30, (.aload_n 0, 1)), (31, (.getfield 44, 3)), (34, (.iload_n 2, 1)), (35, (.iaload, 1)), (36, (.iload_n 1, 1)), (37, (.if_icmp .ne 27, 3)), (40, (.aload_n 0, 1)), (41, (.aload_n 0, 1)), (42, (.iload_n 2, 1)), (43, (.invokevirtual 287, 3)), (46, (.invokevirtual 209, 3)), (49, (.aload_n 0, 1)), (50, (.iload_n 1, 1)), (51, (.invokevirtual 290, 3)), (54, (.land, 1)), (55, (.lconst 0, 1)), (56, (.lcmp, 1)), (57, (.ifCond .ne 7, 3)), (60, (.iconst 1, 1)), (61, (.goto 4, 3)), (64, (.iconst 0, 1)), (65, (.istore_n 3, 1)), (66, (.aload_n 0, 1)), (67, (.getfield 44, 3)), (70, (.iload_n 2, 1)), (71, (.dup2, 1)), (72, (.iaload, 1)), (73, (.iload_n 3, 1)), (74, (.ifCond .eq 7, 3)), (77, (.iconst 1, 1)), (78, (.goto 4, 3)), (81, (.iconst 0, 1))]
theorem kDX7_spreads_0 : DX7_spreads_0.all (fun q => decide (decode cX7_spreads q.1 = .ok q.2)) = true := by decide +kernel
theorem dX7_spreads_0 : decode cX7_spreads 0 = .ok (.aload_n 0, 1) := dec_at kDX7_spreads_0 0 rfl
theorem dX7_spreads_1 : decode cX7_spreads 1 = .ok (.dup, 1) := dec_at kDX7_spreads_0 1 rfl
theorem dX7_spreads_2 : decode cX7_spreads 2 = .ok (.getfield 302, 3) := dec_at kDX7_spreads_0 2 rfl
theorem dX7_spreads_5 : decode cX7_spreads 5 = .ok (.iconst 1, 1) := dec_at kDX7_spreads_0 3 rfl
theorem dX7_spreads_6 : decode cX7_spreads 6 = .ok (.iadd, 1) := dec_at kDX7_spreads_0 4 rfl
theorem dX7_spreads_7 : decode cX7_spreads 7 = .ok (.putfield 302, 3) := dec_at kDX7_spreads_0 5 rfl
theorem dX7_spreads_10 : decode cX7_spreads 10 = .ok (.iconst 1, 1) := dec_at kDX7_spreads_0 6 rfl
theorem dX7_spreads_11 : decode cX7_spreads 11 = .ok (.istore_n 1, 1) := dec_at kDX7_spreads_0 7 rfl
theorem dX7_spreads_12 : decode cX7_spreads 12 = .ok (.iload_n 1, 1) := dec_at kDX7_spreads_0 8 rfl
theorem dX7_spreads_13 : decode cX7_spreads 13 = .ok (.aload_n 0, 1) := dec_at kDX7_spreads_0 9 rfl
theorem dX7_spreads_14 : decode cX7_spreads 14 = .ok (.getfield 302, 3) := dec_at kDX7_spreads_0 10 rfl
theorem dX7_spreads_17 : decode cX7_spreads 17 = .ok (.if_icmp .ge 112, 3) := dec_at kDX7_spreads_0 11 rfl
theorem dX7_spreads_20 : decode cX7_spreads 20 = .ok (.iconst 0, 1) := dec_at kDX7_spreads_0 12 rfl
theorem dX7_spreads_21 : decode cX7_spreads 21 = .ok (.istore_n 2, 1) := dec_at kDX7_spreads_0 13 rfl
theorem dX7_spreads_22 : decode cX7_spreads 22 = .ok (.iload_n 2, 1) := dec_at kDX7_spreads_0 14 rfl
theorem dX7_spreads_23 : decode cX7_spreads 23 = .ok (.aload_n 0, 1) := dec_at kDX7_spreads_0 15 rfl
theorem dX7_spreads_24 : decode cX7_spreads 24 = .ok (.getfield 284, 3) := dec_at kDX7_spreads_0 16 rfl
theorem dX7_spreads_27 : decode cX7_spreads 27 = .ok (.if_icmp .ge 81, 3) := dec_at kDX7_spreads_0 17 rfl
theorem dX7_spreads_30 : decode cX7_spreads 30 = .ok (.aload_n 0, 1) := dec_at kDX7_spreads_0 18 rfl
theorem dX7_spreads_31 : decode cX7_spreads 31 = .ok (.getfield 44, 3) := dec_at kDX7_spreads_0 19 rfl
theorem dX7_spreads_34 : decode cX7_spreads 34 = .ok (.iload_n 2, 1) := dec_at kDX7_spreads_0 20 rfl
theorem dX7_spreads_35 : decode cX7_spreads 35 = .ok (.iaload, 1) := dec_at kDX7_spreads_0 21 rfl
theorem dX7_spreads_36 : decode cX7_spreads 36 = .ok (.iload_n 1, 1) := dec_at kDX7_spreads_0 22 rfl
theorem dX7_spreads_37 : decode cX7_spreads 37 = .ok (.if_icmp .ne 27, 3) := dec_at kDX7_spreads_0 23 rfl
theorem dX7_spreads_40 : decode cX7_spreads 40 = .ok (.aload_n 0, 1) := dec_at kDX7_spreads_0 24 rfl
theorem dX7_spreads_41 : decode cX7_spreads 41 = .ok (.aload_n 0, 1) := dec_at kDX7_spreads_0 25 rfl
theorem dX7_spreads_42 : decode cX7_spreads 42 = .ok (.iload_n 2, 1) := dec_at kDX7_spreads_0 26 rfl
theorem dX7_spreads_43 : decode cX7_spreads 43 = .ok (.invokevirtual 287, 3) := dec_at kDX7_spreads_0 27 rfl
theorem dX7_spreads_46 : decode cX7_spreads 46 = .ok (.invokevirtual 209, 3) := dec_at kDX7_spreads_0 28 rfl
theorem dX7_spreads_49 : decode cX7_spreads 49 = .ok (.aload_n 0, 1) := dec_at kDX7_spreads_0 29 rfl
theorem dX7_spreads_50 : decode cX7_spreads 50 = .ok (.iload_n 1, 1) := dec_at kDX7_spreads_0 30 rfl
theorem dX7_spreads_51 : decode cX7_spreads 51 = .ok (.invokevirtual 290, 3) := dec_at kDX7_spreads_0 31 rfl
theorem dX7_spreads_54 : decode cX7_spreads 54 = .ok (.land, 1) := dec_at kDX7_spreads_0 32 rfl
theorem dX7_spreads_55 : decode cX7_spreads 55 = .ok (.lconst 0, 1) := dec_at kDX7_spreads_0 33 rfl
theorem dX7_spreads_56 : decode cX7_spreads 56 = .ok (.lcmp, 1) := dec_at kDX7_spreads_0 34 rfl
theorem dX7_spreads_57 : decode cX7_spreads 57 = .ok (.ifCond .ne 7, 3) := dec_at kDX7_spreads_0 35 rfl
theorem dX7_spreads_60 : decode cX7_spreads 60 = .ok (.iconst 1, 1) := dec_at kDX7_spreads_0 36 rfl
theorem dX7_spreads_61 : decode cX7_spreads 61 = .ok (.goto 4, 3) := dec_at kDX7_spreads_0 37 rfl
theorem dX7_spreads_64 : decode cX7_spreads 64 = .ok (.iconst 0, 1) := dec_at kDX7_spreads_0 38 rfl
theorem dX7_spreads_65 : decode cX7_spreads 65 = .ok (.istore_n 3, 1) := dec_at kDX7_spreads_0 39 rfl
theorem dX7_spreads_66 : decode cX7_spreads 66 = .ok (.aload_n 0, 1) := dec_at kDX7_spreads_0 40 rfl
theorem dX7_spreads_67 : decode cX7_spreads 67 = .ok (.getfield 44, 3) := dec_at kDX7_spreads_0 41 rfl
theorem dX7_spreads_70 : decode cX7_spreads 70 = .ok (.iload_n 2, 1) := dec_at kDX7_spreads_0 42 rfl
theorem dX7_spreads_71 : decode cX7_spreads 71 = .ok (.dup2, 1) := dec_at kDX7_spreads_0 43 rfl
theorem dX7_spreads_72 : decode cX7_spreads 72 = .ok (.iaload, 1) := dec_at kDX7_spreads_0 44 rfl
theorem dX7_spreads_73 : decode cX7_spreads 73 = .ok (.iload_n 3, 1) := dec_at kDX7_spreads_0 45 rfl
theorem dX7_spreads_74 : decode cX7_spreads 74 = .ok (.ifCond .eq 7, 3) := dec_at kDX7_spreads_0 46 rfl
theorem dX7_spreads_77 : decode cX7_spreads 77 = .ok (.iconst 1, 1) := dec_at kDX7_spreads_0 47 rfl
theorem dX7_spreads_78 : decode cX7_spreads 78 = .ok (.goto 4, 3) := dec_at kDX7_spreads_0 48 rfl
theorem dX7_spreads_81 : decode cX7_spreads 81 = .ok (.iconst 0, 1) := dec_at kDX7_spreads_0 49 rfl
def DX7_spreads_50 : List (Nat × (Instr × Nat)) := [(82, (.iadd, 1)), (83, (.iastore, 1)), (84, (.aload_n 0, 1)), (85, (.dup, 1)), (86, (.getfield 327, 3)), (89, (.iload_n 3, 1)), (90, (.ifCond .eq 7, 3)), (93, (.iconst 1, 1)), (94, (.goto 4, 3)), (97, (.iconst 0, 1)), (98, (.iadd, 1)), (99, (.putfield 327, 3)), (102, (.iinc 2 1, 3)), (105, (.goto (-83), 3)), (108, (.aload_n 0, 1)), (109, (.iload_n 1, 1)), (110, (.invokevirtual 330, 3)), (113, (.ifCond .ne 10, 3)), (116, (.aload_n 0, 1)), (117, (.iload_n 1, 1)), (118, (.putfield 333, 3)), (121, (.iconst 1, 1)), (122, (.ireturn, 1)), (123, (.iinc 1 1, 3)), (126, (.goto (-114), 3)), (129, (.iconst 0, 1)), (130, (.ireturn, 1))]
theorem kDX7_spreads_50 : DX7_spreads_50.all (fun q => decide (decode cX7_spreads q.1 = .ok q.2)) = true := by decide +kernel
theorem dX7_spreads_82 : decode cX7_spreads 82 = .ok (.iadd, 1) := dec_at kDX7_spreads_50 0 rfl
theorem dX7_spreads_83 : decode cX7_spreads 83 = .ok (.iastore, 1) := dec_at kDX7_spreads_50 1 rfl
theorem dX7_spreads_84 : decode cX7_spreads 84 = .ok (.aload_n 0, 1) := dec_at kDX7_spreads_50 2 rfl
theorem dX7_spreads_85 : decode cX7_spreads 85 = .ok (.dup, 1) := dec_at kDX7_spreads_50 3 rfl
theorem dX7_spreads_86 : decode cX7_spreads 86 = .ok (.getfield 327, 3) := dec_at kDX7_spreads_50 4 rfl
theorem dX7_spreads_89 : decode cX7_spreads 89 = .ok (.iload_n 3, 1) := dec_at kDX7_spreads_50 5 rfl
theorem dX7_spreads_90 : decode cX7_spreads 90 = .ok (.ifCond .eq 7, 3) := dec_at kDX7_spreads_50 6 rfl
theorem dX7_spreads_93 : decode cX7_spreads 93 = .ok (.iconst 1, 1) := dec_at kDX7_spreads_50 7 rfl
theorem dX7_spreads_94 : decode cX7_spreads 94 = .ok (.goto 4, 3) := dec_at kDX7_spreads_50 8 rfl
theorem dX7_spreads_97 : decode cX7_spreads 97 = .ok (.iconst 0, 1) := dec_at kDX7_spreads_50 9 rfl
theorem dX7_spreads_98 : decode cX7_spreads 98 = .ok (.iadd, 1) := dec_at kDX7_spreads_50 10 rfl
theorem dX7_spreads_99 : decode cX7_spreads 99 = .ok (.putfield 327, 3) := dec_at kDX7_spreads_50 11 rfl
theorem dX7_spreads_102 : decode cX7_spreads 102 = .ok (.iinc 2 1, 3) := dec_at kDX7_spreads_50 12 rfl
theorem dX7_spreads_105 : decode cX7_spreads 105 = .ok (.goto (-83), 3) := dec_at kDX7_spreads_50 13 rfl
theorem dX7_spreads_108 : decode cX7_spreads 108 = .ok (.aload_n 0, 1) := dec_at kDX7_spreads_50 14 rfl
theorem dX7_spreads_109 : decode cX7_spreads 109 = .ok (.iload_n 1, 1) := dec_at kDX7_spreads_50 15 rfl
theorem dX7_spreads_110 : decode cX7_spreads 110 = .ok (.invokevirtual 330, 3) := dec_at kDX7_spreads_50 16 rfl
theorem dX7_spreads_113 : decode cX7_spreads 113 = .ok (.ifCond .ne 10, 3) := dec_at kDX7_spreads_50 17 rfl
theorem dX7_spreads_116 : decode cX7_spreads 116 = .ok (.aload_n 0, 1) := dec_at kDX7_spreads_50 18 rfl
theorem dX7_spreads_117 : decode cX7_spreads 117 = .ok (.iload_n 1, 1) := dec_at kDX7_spreads_50 19 rfl
theorem dX7_spreads_118 : decode cX7_spreads 118 = .ok (.putfield 333, 3) := dec_at kDX7_spreads_50 20 rfl
theorem dX7_spreads_121 : decode cX7_spreads 121 = .ok (.iconst 1, 1) := dec_at kDX7_spreads_50 21 rfl
theorem dX7_spreads_122 : decode cX7_spreads 122 = .ok (.ireturn, 1) := dec_at kDX7_spreads_50 22 rfl
theorem dX7_spreads_123 : decode cX7_spreads 123 = .ok (.iinc 1 1, 3) := dec_at kDX7_spreads_50 23 rfl
theorem dX7_spreads_126 : decode cX7_spreads 126 = .ok (.goto (-114), 3) := dec_at kDX7_spreads_50 24 rfl
theorem dX7_spreads_129 : decode cX7_spreads 129 = .ok (.iconst 0, 1) := dec_at kDX7_spreads_50 25 rfl
theorem dX7_spreads_130 : decode cX7_spreads 130 = .ok (.ireturn, 1) := dec_at kDX7_spreads_50 26 rfl
def DX7_carryOut_0 : List (Nat × (Instr × Nat)) := [(0, (.iconst 0, 1)), (1, (.istore_n 1, 1)), (2, (.iload_n 1, 1)), (3, (.ifCond .ne 41, 3)), (6, (.aload_n 0, 1)), (7, (.invokevirtual 336, 3)), (10, (.istore_n 2, 1)), (11, (.aload_n 0, 1)), (12, (.iload_n 2, 1)), (13, (.ifCond .eq 7, 3)), (16, (.iconst 1, 1)), (17, (.goto 4, 3)), (20, (.iconst 0, 1)), (21, (.putfield 339, 3)), (24, (.iload_n 2, 1)), (25, (.ifCond .ne 10, 3)), (28, (.aload_n 0, 1)), (29, (.invokevirtual 342, 3)), (32, (.ifCond .eq 7, 3)), (35, (.iconst 1, 1)), (36, (.goto 4, 3)), (39, (.iconst 0, 1)), (40, (.istore_n 1, 1)), (41, (.goto (-39), 3)), (44, (.return_, 1))]
theorem kDX7_carryOut_0 : DX7_carryOut_0.all (fun q => decide (decode cX7_carryOut q.1 = .ok q.2)) = true := by decide +kernel
theorem dX7_carryOut_0 : decode cX7_carryOut 0 = .ok (.iconst 0, 1) := dec_at kDX7_carryOut_0 0 rfl
theorem dX7_carryOut_1 : decode cX7_carryOut 1 = .ok (.istore_n 1, 1) := dec_at kDX7_carryOut_0 1 rfl
theorem dX7_carryOut_2 : decode cX7_carryOut 2 = .ok (.iload_n 1, 1) := dec_at kDX7_carryOut_0 2 rfl
theorem dX7_carryOut_3 : decode cX7_carryOut 3 = .ok (.ifCond .ne 41, 3) := dec_at kDX7_carryOut_0 3 rfl
theorem dX7_carryOut_6 : decode cX7_carryOut 6 = .ok (.aload_n 0, 1) := dec_at kDX7_carryOut_0 4 rfl
theorem dX7_carryOut_7 : decode cX7_carryOut 7 = .ok (.invokevirtual 336, 3) := dec_at kDX7_carryOut_0 5 rfl
theorem dX7_carryOut_10 : decode cX7_carryOut 10 = .ok (.istore_n 2, 1) := dec_at kDX7_carryOut_0 6 rfl
theorem dX7_carryOut_11 : decode cX7_carryOut 11 = .ok (.aload_n 0, 1) := dec_at kDX7_carryOut_0 7 rfl
theorem dX7_carryOut_12 : decode cX7_carryOut 12 = .ok (.iload_n 2, 1) := dec_at kDX7_carryOut_0 8 rfl
theorem dX7_carryOut_13 : decode cX7_carryOut 13 = .ok (.ifCond .eq 7, 3) := dec_at kDX7_carryOut_0 9 rfl
theorem dX7_carryOut_16 : decode cX7_carryOut 16 = .ok (.iconst 1, 1) := dec_at kDX7_carryOut_0 10 rfl
theorem dX7_carryOut_17 : decode cX7_carryOut 17 = .ok (.goto 4, 3) := dec_at kDX7_carryOut_0 11 rfl
theorem dX7_carryOut_20 : decode cX7_carryOut 20 = .ok (.iconst 0, 1) := dec_at kDX7_carryOut_0 12 rfl
theorem dX7_carryOut_21 : decode cX7_carryOut 21 = .ok (.putfield 339, 3) := dec_at kDX7_carryOut_0 13 rfl
theorem dX7_carryOut_24 : decode cX7_carryOut 24 = .ok (.iload_n 2, 1) := dec_at kDX7_carryOut_0 14 rfl
theorem dX7_carryOut_25 : decode cX7_carryOut 25 = .ok (.ifCond .ne 10, 3) := dec_at kDX7_carryOut_0 15 rfl
theorem dX7_carryOut_28 : decode cX7_carryOut 28 = .ok (.aload_n 0, 1) := dec_at kDX7_carryOut_0 16 rfl
theorem dX7_carryOut_29 : decode cX7_carryOut 29 = .ok (.invokevirtual 342, 3) := dec_at kDX7_carryOut_0 17 rfl
theorem dX7_carryOut_32 : decode cX7_carryOut 32 = .ok (.ifCond .eq 7, 3) := dec_at kDX7_carryOut_0 18 rfl
theorem dX7_carryOut_35 : decode cX7_carryOut 35 = .ok (.iconst 1, 1) := dec_at kDX7_carryOut_0 19 rfl
theorem dX7_carryOut_36 : decode cX7_carryOut 36 = .ok (.goto 4, 3) := dec_at kDX7_carryOut_0 20 rfl
theorem dX7_carryOut_39 : decode cX7_carryOut 39 = .ok (.iconst 0, 1) := dec_at kDX7_carryOut_0 21 rfl
theorem dX7_carryOut_40 : decode cX7_carryOut 40 = .ok (.istore_n 1, 1) := dec_at kDX7_carryOut_0 22 rfl
theorem dX7_carryOut_41 : decode cX7_carryOut 41 = .ok (.goto (-39), 3) := dec_at kDX7_carryOut_0 23 rfl
theorem dX7_carryOut_44 : decode cX7_carryOut 44 = .ok (.return_, 1) := dec_at kDX7_carryOut_0 24 rfl
def DX7_prove_0 : List (Nat × (Instr × Nat)) := [(0, (.aload_n 0, 1)), (1, (.iconst 0, 1)), (2, (.putfield 70, 3)), (5, (.aload_n 0, 1)), (6, (.iconst 1, 1)), (7, (.putfield 108, 3)), (10, (.aload_n 0, 1)), (11, (.iconst 1, 1)), (12, (.putfield 339, 3)), (15, (.aload_n 0, 1)), (16, (.iconst 0, 1)), (17, (.putfield 302, 3)), (20, (.aload_n 0, 1)), (21, (.iconst 0, 1)), (22, (.putfield 284, 3)), (25, (.aload_n 0, 1)), (26, (.iconst 0, 1)), (27, (.putfield 312, 3)), (30, (.aload_n 0, 1)), (31, (.iconst 0, 1)), (32, (.putfield 309, 3)), (35, (.aload_n 0, 1)), (36, (.iconst 0, 1)), (37, (.putfield 296, 3)), (40, (.aload_n 0, 1)), (41, (.iconst 0, 1)), (42, (.putfield 327, 3)), (45, (.aload_n 0, 1)), (46, (.iconst 0, 1)), (47, (.putfield 333, 3)), (50, (.iconst 0, 1)), (51, (.istore_n 1, 1)), (52, (.iload_n 1, 1)), (53, (.sipush 128, 3)), (56, (.if_icmp .ge 16, 3)), (59, (.aload_n 0, 1)), (60, (.getfield 47, 3)), (63, (.iload_n 1, 1)), (64, (.lconst 0, 1)), (65, (.lastore, 1)), (66, (.iinc 1 1, 3)), (69, (.goto (-17), 3)), (72, (.aload_n 0, 1)), (73, (.getfield 94, 3)), (76, (.aload_n 0, 1)), (77, (.invokevirtual 219, 3)), (80, (.land, 1)), (81, (.lconst 0, 1)), (82, (.lcmp, 1)), (83, (.ifCond .ne 12, 3))]
theorem kDX7_prove_0 : DX7_prove_0.all (fun q => decide (decode cX7_prove q.1 = .ok q.2)) = true := by decide +kernel
theorem dX7_prove_0 : decode cX7_prove 0 = .ok (.aload_n 0, 1) := dec_at kDX7_prove_0 0 rfl
theorem dX7_prove_1 : decode cX7_prove 1 = .ok (.iconst 0, 1) := dec_at kDX7_prove_0 1 rfl
theorem dX7_prove_2 : decode cX7_prove 2 = .ok (.putfield 70, 3) := dec_at kDX7_prove_0 2 rfl
theorem dX7_prove_5 : decode cX7_prove 5 = .ok (.aload_n 0, 1) := dec_at kDX7_prove_0 3 rfl
theorem dX7_prove_6 : decode cX7_prove 6 = .ok (.iconst 1, 1) := dec_at kDX7_prove_0 4 rfl
theorem dX7_prove_7 : decode cX7_prove 7 = .ok (.putfield 108, 3) := dec_at kDX7_prove_0 5 rfl
theorem dX7_prove_10 : decode cX7_prove 10 = .ok (.aload_n 0, 1) := dec_at kDX7_prove_0 6 rfl
theorem dX7_prove_11 : decode cX7_prove 11 = .ok (.iconst 1, 1) := dec_at kDX7_prove_0 7 rfl
theorem dX7_prove_12 : decode cX7_prove 12 = .ok (.putfield 339, 3) := dec_at kDX7_prove_0 8 rfl
theorem dX7_prove_15 : decode cX7_prove 15 = .ok (.aload_n 0, 1) := dec_at kDX7_prove_0 9 rfl
theorem dX7_prove_16 : decode cX7_prove 16 = .ok (.iconst 0, 1) := dec_at kDX7_prove_0 10 rfl
theorem dX7_prove_17 : decode cX7_prove 17 = .ok (.putfield 302, 3) := dec_at kDX7_prove_0 11 rfl
theorem dX7_prove_20 : decode cX7_prove 20 = .ok (.aload_n 0, 1) := dec_at kDX7_prove_0 12 rfl
theorem dX7_prove_21 : decode cX7_prove 21 = .ok (.iconst 0, 1) := dec_at kDX7_prove_0 13 rfl
theorem dX7_prove_22 : decode cX7_prove 22 = .ok (.putfield 284, 3) := dec_at kDX7_prove_0 14 rfl
theorem dX7_prove_25 : decode cX7_prove 25 = .ok (.aload_n 0, 1) := dec_at kDX7_prove_0 15 rfl
theorem dX7_prove_26 : decode cX7_prove 26 = .ok (.iconst 0, 1) := dec_at kDX7_prove_0 16 rfl
theorem dX7_prove_27 : decode cX7_prove 27 = .ok (.putfield 312, 3) := dec_at kDX7_prove_0 17 rfl
theorem dX7_prove_30 : decode cX7_prove 30 = .ok (.aload_n 0, 1) := dec_at kDX7_prove_0 18 rfl
theorem dX7_prove_31 : decode cX7_prove 31 = .ok (.iconst 0, 1) := dec_at kDX7_prove_0 19 rfl
theorem dX7_prove_32 : decode cX7_prove 32 = .ok (.putfield 309, 3) := dec_at kDX7_prove_0 20 rfl
theorem dX7_prove_35 : decode cX7_prove 35 = .ok (.aload_n 0, 1) := dec_at kDX7_prove_0 21 rfl
theorem dX7_prove_36 : decode cX7_prove 36 = .ok (.iconst 0, 1) := dec_at kDX7_prove_0 22 rfl
theorem dX7_prove_37 : decode cX7_prove 37 = .ok (.putfield 296, 3) := dec_at kDX7_prove_0 23 rfl
theorem dX7_prove_40 : decode cX7_prove 40 = .ok (.aload_n 0, 1) := dec_at kDX7_prove_0 24 rfl
theorem dX7_prove_41 : decode cX7_prove 41 = .ok (.iconst 0, 1) := dec_at kDX7_prove_0 25 rfl
theorem dX7_prove_42 : decode cX7_prove 42 = .ok (.putfield 327, 3) := dec_at kDX7_prove_0 26 rfl
theorem dX7_prove_45 : decode cX7_prove 45 = .ok (.aload_n 0, 1) := dec_at kDX7_prove_0 27 rfl
theorem dX7_prove_46 : decode cX7_prove 46 = .ok (.iconst 0, 1) := dec_at kDX7_prove_0 28 rfl
theorem dX7_prove_47 : decode cX7_prove 47 = .ok (.putfield 333, 3) := dec_at kDX7_prove_0 29 rfl
theorem dX7_prove_50 : decode cX7_prove 50 = .ok (.iconst 0, 1) := dec_at kDX7_prove_0 30 rfl
theorem dX7_prove_51 : decode cX7_prove 51 = .ok (.istore_n 1, 1) := dec_at kDX7_prove_0 31 rfl
theorem dX7_prove_52 : decode cX7_prove 52 = .ok (.iload_n 1, 1) := dec_at kDX7_prove_0 32 rfl
theorem dX7_prove_53 : decode cX7_prove 53 = .ok (.sipush 128, 3) := dec_at kDX7_prove_0 33 rfl
theorem dX7_prove_56 : decode cX7_prove 56 = .ok (.if_icmp .ge 16, 3) := dec_at kDX7_prove_0 34 rfl
theorem dX7_prove_59 : decode cX7_prove 59 = .ok (.aload_n 0, 1) := dec_at kDX7_prove_0 35 rfl
theorem dX7_prove_60 : decode cX7_prove 60 = .ok (.getfield 47, 3) := dec_at kDX7_prove_0 36 rfl
theorem dX7_prove_63 : decode cX7_prove 63 = .ok (.iload_n 1, 1) := dec_at kDX7_prove_0 37 rfl
theorem dX7_prove_64 : decode cX7_prove 64 = .ok (.lconst 0, 1) := dec_at kDX7_prove_0 38 rfl
theorem dX7_prove_65 : decode cX7_prove 65 = .ok (.lastore, 1) := dec_at kDX7_prove_0 39 rfl
theorem dX7_prove_66 : decode cX7_prove 66 = .ok (.iinc 1 1, 3) := dec_at kDX7_prove_0 40 rfl
theorem dX7_prove_69 : decode cX7_prove 69 = .ok (.goto (-17), 3) := dec_at kDX7_prove_0 41 rfl
theorem dX7_prove_72 : decode cX7_prove 72 = .ok (.aload_n 0, 1) := dec_at kDX7_prove_0 42 rfl
theorem dX7_prove_73 : decode cX7_prove 73 = .ok (.getfield 94, 3) := dec_at kDX7_prove_0 43 rfl
theorem dX7_prove_76 : decode cX7_prove 76 = .ok (.aload_n 0, 1) := dec_at kDX7_prove_0 44 rfl
theorem dX7_prove_77 : decode cX7_prove 77 = .ok (.invokevirtual 219, 3) := dec_at kDX7_prove_0 45 rfl
theorem dX7_prove_80 : decode cX7_prove 80 = .ok (.land, 1) := dec_at kDX7_prove_0 46 rfl
theorem dX7_prove_81 : decode cX7_prove 81 = .ok (.lconst 0, 1) := dec_at kDX7_prove_0 47 rfl
theorem dX7_prove_82 : decode cX7_prove 82 = .ok (.lcmp, 1) := dec_at kDX7_prove_0 48 rfl
theorem dX7_prove_83 : decode cX7_prove 83 = .ok (.ifCond .ne 12, 3) := dec_at kDX7_prove_0 49 rfl
def DX7_prove_50 : List (Nat × (Instr × Nat)) := [(86, (.aload_n 0, 1)), (87, (.iconst 1, 1)), (88, (.putfield 302, 3)), (91, (.aload_n 0, 1)), (92, (.invokevirtual 345, 3)), (95, (.aload_n 0, 1)), (96, (.getfield 339, 3)), (99, (.ireturn, 1))]
theorem kDX7_prove_50 : DX7_prove_50.all (fun q => decide (decode cX7_prove q.1 = .ok q.2)) = true := by decide +kernel
theorem dX7_prove_86 : decode cX7_prove 86 = .ok (.aload_n 0, 1) := dec_at kDX7_prove_50 0 rfl
theorem dX7_prove_87 : decode cX7_prove 87 = .ok (.iconst 1, 1) := dec_at kDX7_prove_50 1 rfl
theorem dX7_prove_88 : decode cX7_prove 88 = .ok (.putfield 302, 3) := dec_at kDX7_prove_50 2 rfl
theorem dX7_prove_91 : decode cX7_prove 91 = .ok (.aload_n 0, 1) := dec_at kDX7_prove_50 3 rfl
theorem dX7_prove_92 : decode cX7_prove 92 = .ok (.invokevirtual 345, 3) := dec_at kDX7_prove_50 4 rfl
theorem dX7_prove_95 : decode cX7_prove 95 = .ok (.aload_n 0, 1) := dec_at kDX7_prove_50 5 rfl
theorem dX7_prove_96 : decode cX7_prove 96 = .ok (.getfield 339, 3) := dec_at kDX7_prove_50 6 rfl
theorem dX7_prove_99 : decode cX7_prove 99 = .ok (.ireturn, 1) := dec_at kDX7_prove_50 7 rfl
def DX7_isCertified_0 : List (Nat × (Instr × Nat)) := [(0, (.aload_n 0, 1)), (1, (.getfield 339, 3)), (4, (.ifCond .ne 20, 3)), (7, (.aload_n 0, 1)), (8, (.getfield 44, 3)), (11, (.iload_n 1, 1)), (12, (.iaload, 1)), (13, (.aload_n 0, 1)), (14, (.getfield 333, 3)), (17, (.if_icmp .le 7, 3)), (20, (.iconst 1, 1)), (21, (.goto 4, 3)), (24, (.iconst 0, 1)), (25, (.ireturn, 1))]
theorem kDX7_isCertified_0 : DX7_isCertified_0.all (fun q => decide (decode cX7_isCertified q.1 = .ok q.2)) = true := by decide +kernel
theorem dX7_isCertified_0 : decode cX7_isCertified 0 = .ok (.aload_n 0, 1) := dec_at kDX7_isCertified_0 0 rfl
theorem dX7_isCertified_1 : decode cX7_isCertified 1 = .ok (.getfield 339, 3) := dec_at kDX7_isCertified_0 1 rfl
theorem dX7_isCertified_4 : decode cX7_isCertified 4 = .ok (.ifCond .ne 20, 3) := dec_at kDX7_isCertified_0 2 rfl
theorem dX7_isCertified_7 : decode cX7_isCertified 7 = .ok (.aload_n 0, 1) := dec_at kDX7_isCertified_0 3 rfl
theorem dX7_isCertified_8 : decode cX7_isCertified 8 = .ok (.getfield 44, 3) := dec_at kDX7_isCertified_0 4 rfl
theorem dX7_isCertified_11 : decode cX7_isCertified 11 = .ok (.iload_n 1, 1) := dec_at kDX7_isCertified_0 5 rfl
theorem dX7_isCertified_12 : decode cX7_isCertified 12 = .ok (.iaload, 1) := dec_at kDX7_isCertified_0 6 rfl
theorem dX7_isCertified_13 : decode cX7_isCertified 13 = .ok (.aload_n 0, 1) := dec_at kDX7_isCertified_0 7 rfl
theorem dX7_isCertified_14 : decode cX7_isCertified 14 = .ok (.getfield 333, 3) := dec_at kDX7_isCertified_0 8 rfl
theorem dX7_isCertified_17 : decode cX7_isCertified 17 = .ok (.if_icmp .le 7, 3) := dec_at kDX7_isCertified_0 9 rfl
theorem dX7_isCertified_20 : decode cX7_isCertified 20 = .ok (.iconst 1, 1) := dec_at kDX7_isCertified_0 10 rfl
theorem dX7_isCertified_21 : decode cX7_isCertified 21 = .ok (.goto 4, 3) := dec_at kDX7_isCertified_0 11 rfl
theorem dX7_isCertified_24 : decode cX7_isCertified 24 = .ok (.iconst 0, 1) := dec_at kDX7_isCertified_0 12 rfl
theorem dX7_isCertified_25 : decode cX7_isCertified 25 = .ok (.ireturn, 1) := dec_at kDX7_isCertified_0 13 rfl
def DX7_certified_0 : List (Nat × (Instr × Nat)) := [(0, (.iconst 0, 1)), (1, (.istore_n 1, 1)), (2, (.iconst 0, 1)), (3, (.istore_n 2, 1)), (4, (.iload_n 2, 1)), (5, (.aload_n 0, 1)), (6, (.getfield 284, 3)), (9, (.if_icmp .ge 25, 3)), (12, (.iload_n 1, 1)), (13, (.aload_n 0, 1)), (14, (.iload_n 2, 1)), (15, (.invokevirtual 348, 3)), (18, (.ifCond .eq 7, 3)), (21, (.iconst 1, 1)), (22, (.goto 4, 3)), (25, (.iconst 0, 1)), (26, (.iadd, 1)), (27, (.istore_n 1, 1)), (28, (.iinc 2 1, 3)), (31, (.goto (-27), 3)), (34, (.iload_n 1, 1)), (35, (.ireturn, 1))]
theorem kDX7_certified_0 : DX7_certified_0.all (fun q => decide (decode cX7_certified q.1 = .ok q.2)) = true := by decide +kernel
theorem dX7_certified_0 : decode cX7_certified 0 = .ok (.iconst 0, 1) := dec_at kDX7_certified_0 0 rfl
theorem dX7_certified_1 : decode cX7_certified 1 = .ok (.istore_n 1, 1) := dec_at kDX7_certified_0 1 rfl
theorem dX7_certified_2 : decode cX7_certified 2 = .ok (.iconst 0, 1) := dec_at kDX7_certified_0 2 rfl
theorem dX7_certified_3 : decode cX7_certified 3 = .ok (.istore_n 2, 1) := dec_at kDX7_certified_0 3 rfl
theorem dX7_certified_4 : decode cX7_certified 4 = .ok (.iload_n 2, 1) := dec_at kDX7_certified_0 4 rfl
theorem dX7_certified_5 : decode cX7_certified 5 = .ok (.aload_n 0, 1) := dec_at kDX7_certified_0 5 rfl
theorem dX7_certified_6 : decode cX7_certified 6 = .ok (.getfield 284, 3) := dec_at kDX7_certified_0 6 rfl
theorem dX7_certified_9 : decode cX7_certified 9 = .ok (.if_icmp .ge 25, 3) := dec_at kDX7_certified_0 7 rfl
theorem dX7_certified_12 : decode cX7_certified 12 = .ok (.iload_n 1, 1) := dec_at kDX7_certified_0 8 rfl
theorem dX7_certified_13 : decode cX7_certified 13 = .ok (.aload_n 0, 1) := dec_at kDX7_certified_0 9 rfl
theorem dX7_certified_14 : decode cX7_certified 14 = .ok (.iload_n 2, 1) := dec_at kDX7_certified_0 10 rfl
theorem dX7_certified_15 : decode cX7_certified 15 = .ok (.invokevirtual 348, 3) := dec_at kDX7_certified_0 11 rfl
theorem dX7_certified_18 : decode cX7_certified 18 = .ok (.ifCond .eq 7, 3) := dec_at kDX7_certified_0 12 rfl
theorem dX7_certified_21 : decode cX7_certified 21 = .ok (.iconst 1, 1) := dec_at kDX7_certified_0 13 rfl
theorem dX7_certified_22 : decode cX7_certified 22 = .ok (.goto 4, 3) := dec_at kDX7_certified_0 14 rfl
theorem dX7_certified_25 : decode cX7_certified 25 = .ok (.iconst 0, 1) := dec_at kDX7_certified_0 15 rfl
theorem dX7_certified_26 : decode cX7_certified 26 = .ok (.iadd, 1) := dec_at kDX7_certified_0 16 rfl
theorem dX7_certified_27 : decode cX7_certified 27 = .ok (.istore_n 1, 1) := dec_at kDX7_certified_0 17 rfl
theorem dX7_certified_28 : decode cX7_certified 28 = .ok (.iinc 2 1, 3) := dec_at kDX7_certified_0 18 rfl
theorem dX7_certified_31 : decode cX7_certified 31 = .ok (.goto (-27), 3) := dec_at kDX7_certified_0 19 rfl
theorem dX7_certified_34 : decode cX7_certified 34 = .ok (.iload_n 1, 1) := dec_at kDX7_certified_0 20 rfl
theorem dX7_certified_35 : decode cX7_certified 35 = .ok (.ireturn, 1) := dec_at kDX7_certified_0 21 rfl
def DX7_proofNow_0 : List (Nat × (Instr × Nat)) := [(0, (.iload_n 1, 1)), (1, (.tableswitch 78 0 6 #[43, 48, 53, 58, 63, 68, 73], 43)), (44, (.aload_n 0, 1)), (45, (.getfield 339, 3)), (48, (.ireturn, 1)), (49, (.aload_n 0, 1)), (50, (.getfield 302, 3)), (53, (.ireturn, 1)), (54, (.aload_n 0, 1)), (55, (.getfield 284, 3)), (58, (.ireturn, 1)), (59, (.aload_n 0, 1)), (60, (.getfield 312, 3)), (63, (.ireturn, 1)), (64, (.aload_n 0, 1)), (65, (.getfield 309, 3)), (68, (.ireturn, 1)), (69, (.aload_n 0, 1)), (70, (.getfield 296, 3)), (73, (.ireturn, 1)), (74, (.aload_n 0, 1)), (75, (.getfield 327, 3)), (78, (.ireturn, 1)), (79, (.aload_n 0, 1)), (80, (.invokevirtual 351, 3)), (83, (.ireturn, 1))]
theorem kDX7_proofNow_0 : DX7_proofNow_0.all (fun q => decide (decode cX7_proofNow q.1 = .ok q.2)) = true := by decide +kernel
theorem dX7_proofNow_0 : decode cX7_proofNow 0 = .ok (.iload_n 1, 1) := dec_at kDX7_proofNow_0 0 rfl
theorem dX7_proofNow_1 : decode cX7_proofNow 1 = .ok (.tableswitch 78 0 6 #[43, 48, 53, 58, 63, 68, 73], 43) := dec_at kDX7_proofNow_0 1 rfl
theorem dX7_proofNow_44 : decode cX7_proofNow 44 = .ok (.aload_n 0, 1) := dec_at kDX7_proofNow_0 2 rfl
theorem dX7_proofNow_45 : decode cX7_proofNow 45 = .ok (.getfield 339, 3) := dec_at kDX7_proofNow_0 3 rfl
theorem dX7_proofNow_48 : decode cX7_proofNow 48 = .ok (.ireturn, 1) := dec_at kDX7_proofNow_0 4 rfl
theorem dX7_proofNow_49 : decode cX7_proofNow 49 = .ok (.aload_n 0, 1) := dec_at kDX7_proofNow_0 5 rfl
theorem dX7_proofNow_50 : decode cX7_proofNow 50 = .ok (.getfield 302, 3) := dec_at kDX7_proofNow_0 6 rfl
theorem dX7_proofNow_53 : decode cX7_proofNow 53 = .ok (.ireturn, 1) := dec_at kDX7_proofNow_0 7 rfl
theorem dX7_proofNow_54 : decode cX7_proofNow 54 = .ok (.aload_n 0, 1) := dec_at kDX7_proofNow_0 8 rfl
theorem dX7_proofNow_55 : decode cX7_proofNow 55 = .ok (.getfield 284, 3) := dec_at kDX7_proofNow_0 9 rfl
theorem dX7_proofNow_58 : decode cX7_proofNow 58 = .ok (.ireturn, 1) := dec_at kDX7_proofNow_0 10 rfl
theorem dX7_proofNow_59 : decode cX7_proofNow 59 = .ok (.aload_n 0, 1) := dec_at kDX7_proofNow_0 11 rfl
theorem dX7_proofNow_60 : decode cX7_proofNow 60 = .ok (.getfield 312, 3) := dec_at kDX7_proofNow_0 12 rfl
theorem dX7_proofNow_63 : decode cX7_proofNow 63 = .ok (.ireturn, 1) := dec_at kDX7_proofNow_0 13 rfl
theorem dX7_proofNow_64 : decode cX7_proofNow 64 = .ok (.aload_n 0, 1) := dec_at kDX7_proofNow_0 14 rfl
theorem dX7_proofNow_65 : decode cX7_proofNow 65 = .ok (.getfield 309, 3) := dec_at kDX7_proofNow_0 15 rfl
theorem dX7_proofNow_68 : decode cX7_proofNow 68 = .ok (.ireturn, 1) := dec_at kDX7_proofNow_0 16 rfl
theorem dX7_proofNow_69 : decode cX7_proofNow 69 = .ok (.aload_n 0, 1) := dec_at kDX7_proofNow_0 17 rfl
theorem dX7_proofNow_70 : decode cX7_proofNow 70 = .ok (.getfield 296, 3) := dec_at kDX7_proofNow_0 18 rfl
theorem dX7_proofNow_73 : decode cX7_proofNow 73 = .ok (.ireturn, 1) := dec_at kDX7_proofNow_0 19 rfl
theorem dX7_proofNow_74 : decode cX7_proofNow 74 = .ok (.aload_n 0, 1) := dec_at kDX7_proofNow_0 20 rfl
theorem dX7_proofNow_75 : decode cX7_proofNow 75 = .ok (.getfield 327, 3) := dec_at kDX7_proofNow_0 21 rfl
theorem dX7_proofNow_78 : decode cX7_proofNow 78 = .ok (.ireturn, 1) := dec_at kDX7_proofNow_0 22 rfl
theorem dX7_proofNow_79 : decode cX7_proofNow 79 = .ok (.aload_n 0, 1) := dec_at kDX7_proofNow_0 23 rfl
theorem dX7_proofNow_80 : decode cX7_proofNow 80 = .ok (.invokevirtual 351, 3) := dec_at kDX7_proofNow_0 24 rfl
theorem dX7_proofNow_83 : decode cX7_proofNow 83 = .ok (.ireturn, 1) := dec_at kDX7_proofNow_0 25 rfl
def DX7_proof_0 : List (Nat × (Instr × Nat)) := [(0, (.aload_n 0, 1)), (1, (.iload_n 1, 1)), (2, (.iconst 0, 1)), (3, (.bipush 7, 2)), (5, (.invokestatic 112, 3)), (8, (.ifCond .eq 7, 3)), (11, (.iconst 0, 1)), (12, (.goto 4, 3)), (15, (.iconst 1, 1)), (16, (.putfield 70, 3)), (19, (.aload_n 0, 1)), (20, (.getfield 70, 3)), (23, (.ifCond .le 7, 3)), (26, (.iconst 0, 1)), (27, (.goto 19, 3)), (30, (.aload_n 0, 1)), (31, (.getfield 108, 3)), (34, (.ifCond .eq 11, 3)), (37, (.aload_n 0, 1)), (38, (.iload_n 1, 1)), (39, (.invokevirtual 354, 3)), (42, (.goto 4, 3)), (45, (.iconst (-1), 1)), (46, (.ireturn, 1))]
theorem kDX7_proof_0 : DX7_proof_0.all (fun q => decide (decode cX7_proof q.1 = .ok q.2)) = true := by decide +kernel
theorem dX7_proof_0 : decode cX7_proof 0 = .ok (.aload_n 0, 1) := dec_at kDX7_proof_0 0 rfl
theorem dX7_proof_1 : decode cX7_proof 1 = .ok (.iload_n 1, 1) := dec_at kDX7_proof_0 1 rfl
theorem dX7_proof_2 : decode cX7_proof 2 = .ok (.iconst 0, 1) := dec_at kDX7_proof_0 2 rfl
theorem dX7_proof_3 : decode cX7_proof 3 = .ok (.bipush 7, 2) := dec_at kDX7_proof_0 3 rfl
theorem dX7_proof_5 : decode cX7_proof 5 = .ok (.invokestatic 112, 3) := dec_at kDX7_proof_0 4 rfl
theorem dX7_proof_8 : decode cX7_proof 8 = .ok (.ifCond .eq 7, 3) := dec_at kDX7_proof_0 5 rfl
theorem dX7_proof_11 : decode cX7_proof 11 = .ok (.iconst 0, 1) := dec_at kDX7_proof_0 6 rfl
theorem dX7_proof_12 : decode cX7_proof 12 = .ok (.goto 4, 3) := dec_at kDX7_proof_0 7 rfl
theorem dX7_proof_15 : decode cX7_proof 15 = .ok (.iconst 1, 1) := dec_at kDX7_proof_0 8 rfl
theorem dX7_proof_16 : decode cX7_proof 16 = .ok (.putfield 70, 3) := dec_at kDX7_proof_0 9 rfl
theorem dX7_proof_19 : decode cX7_proof 19 = .ok (.aload_n 0, 1) := dec_at kDX7_proof_0 10 rfl
theorem dX7_proof_20 : decode cX7_proof 20 = .ok (.getfield 70, 3) := dec_at kDX7_proof_0 11 rfl
theorem dX7_proof_23 : decode cX7_proof 23 = .ok (.ifCond .le 7, 3) := dec_at kDX7_proof_0 12 rfl
theorem dX7_proof_26 : decode cX7_proof 26 = .ok (.iconst 0, 1) := dec_at kDX7_proof_0 13 rfl
theorem dX7_proof_27 : decode cX7_proof 27 = .ok (.goto 19, 3) := dec_at kDX7_proof_0 14 rfl
theorem dX7_proof_30 : decode cX7_proof 30 = .ok (.aload_n 0, 1) := dec_at kDX7_proof_0 15 rfl
theorem dX7_proof_31 : decode cX7_proof 31 = .ok (.getfield 108, 3) := dec_at kDX7_proof_0 16 rfl
theorem dX7_proof_34 : decode cX7_proof 34 = .ok (.ifCond .eq 11, 3) := dec_at kDX7_proof_0 17 rfl
theorem dX7_proof_37 : decode cX7_proof 37 = .ok (.aload_n 0, 1) := dec_at kDX7_proof_0 18 rfl
theorem dX7_proof_38 : decode cX7_proof 38 = .ok (.iload_n 1, 1) := dec_at kDX7_proof_0 19 rfl
theorem dX7_proof_39 : decode cX7_proof 39 = .ok (.invokevirtual 354, 3) := dec_at kDX7_proof_0 20 rfl
theorem dX7_proof_42 : decode cX7_proof 42 = .ok (.goto 4, 3) := dec_at kDX7_proof_0 21 rfl
theorem dX7_proof_45 : decode cX7_proof 45 = .ok (.iconst (-1), 1) := dec_at kDX7_proof_0 22 rfl
theorem dX7_proof_46 : decode cX7_proof 46 = .ok (.ireturn, 1) := dec_at kDX7_proof_0 23 rfl
def DX7_frame_0 : List (Nat × (Instr × Nat)) := [(0, (.aload_n 0, 1)), (1, (.aload_n 0, 1)), (2, (.getfield 108, 3)), (5, (.ifCond .ne 7, 3)), (8, (.iconst 1, 1)), (9, (.goto 20, 3)), (12, (.iload_n 1, 1)), (13, (.iconst 0, 1)), (14, (.aload_n 0, 1)), (15, (.getfield 302, 3)), (18, (.invokestatic 112, 3)), (21, (.ifCond .eq 7, 3)), (24, (.iconst 0, 1)), (25, (.goto 4, 3)), (28, (.iconst 2, 1)), (29, (.putfield 70, 3)), (32, (.aload_n 0, 1)), (33, (.getfield 70, 3)), (36, (.ifCond .le 7, 3)), (39, (.lconst 0, 1)), (40, (.goto 8, 3)), (43, (.aload_n 0, 1)), (44, (.iload_n 1, 1)), (45, (.invokevirtual 290, 3)), (48, (.lreturn, 1))]
theorem kDX7_frame_0 : DX7_frame_0.all (fun q => decide (decode cX7_frame q.1 = .ok q.2)) = true := by decide +kernel
theorem dX7_frame_0 : decode cX7_frame 0 = .ok (.aload_n 0, 1) := dec_at kDX7_frame_0 0 rfl
theorem dX7_frame_1 : decode cX7_frame 1 = .ok (.aload_n 0, 1) := dec_at kDX7_frame_0 1 rfl
theorem dX7_frame_2 : decode cX7_frame 2 = .ok (.getfield 108, 3) := dec_at kDX7_frame_0 2 rfl
theorem dX7_frame_5 : decode cX7_frame 5 = .ok (.ifCond .ne 7, 3) := dec_at kDX7_frame_0 3 rfl
theorem dX7_frame_8 : decode cX7_frame 8 = .ok (.iconst 1, 1) := dec_at kDX7_frame_0 4 rfl
theorem dX7_frame_9 : decode cX7_frame 9 = .ok (.goto 20, 3) := dec_at kDX7_frame_0 5 rfl
theorem dX7_frame_12 : decode cX7_frame 12 = .ok (.iload_n 1, 1) := dec_at kDX7_frame_0 6 rfl
theorem dX7_frame_13 : decode cX7_frame 13 = .ok (.iconst 0, 1) := dec_at kDX7_frame_0 7 rfl
theorem dX7_frame_14 : decode cX7_frame 14 = .ok (.aload_n 0, 1) := dec_at kDX7_frame_0 8 rfl
theorem dX7_frame_15 : decode cX7_frame 15 = .ok (.getfield 302, 3) := dec_at kDX7_frame_0 9 rfl
theorem dX7_frame_18 : decode cX7_frame 18 = .ok (.invokestatic 112, 3) := dec_at kDX7_frame_0 10 rfl
theorem dX7_frame_21 : decode cX7_frame 21 = .ok (.ifCond .eq 7, 3) := dec_at kDX7_frame_0 11 rfl
theorem dX7_frame_24 : decode cX7_frame 24 = .ok (.iconst 0, 1) := dec_at kDX7_frame_0 12 rfl
theorem dX7_frame_25 : decode cX7_frame 25 = .ok (.goto 4, 3) := dec_at kDX7_frame_0 13 rfl
theorem dX7_frame_28 : decode cX7_frame 28 = .ok (.iconst 2, 1) := dec_at kDX7_frame_0 14 rfl
theorem dX7_frame_29 : decode cX7_frame 29 = .ok (.putfield 70, 3) := dec_at kDX7_frame_0 15 rfl
theorem dX7_frame_32 : decode cX7_frame 32 = .ok (.aload_n 0, 1) := dec_at kDX7_frame_0 16 rfl
theorem dX7_frame_33 : decode cX7_frame 33 = .ok (.getfield 70, 3) := dec_at kDX7_frame_0 17 rfl
theorem dX7_frame_36 : decode cX7_frame 36 = .ok (.ifCond .le 7, 3) := dec_at kDX7_frame_0 18 rfl
theorem dX7_frame_39 : decode cX7_frame 39 = .ok (.lconst 0, 1) := dec_at kDX7_frame_0 19 rfl
theorem dX7_frame_40 : decode cX7_frame 40 = .ok (.goto 8, 3) := dec_at kDX7_frame_0 20 rfl
theorem dX7_frame_43 : decode cX7_frame 43 = .ok (.aload_n 0, 1) := dec_at kDX7_frame_0 21 rfl
theorem dX7_frame_44 : decode cX7_frame 44 = .ok (.iload_n 1, 1) := dec_at kDX7_frame_0 22 rfl
theorem dX7_frame_45 : decode cX7_frame 45 = .ok (.invokevirtual 290, 3) := dec_at kDX7_frame_0 23 rfl
theorem dX7_frame_48 : decode cX7_frame 48 = .ok (.lreturn, 1) := dec_at kDX7_frame_0 24 rfl
def DX7_cube_0 : List (Nat × (Instr × Nat)) := [(0, (.aload_n 0, 1)), (1, (.aload_n 0, 1)), (2, (.getfield 108, 3)), (5, (.ifCond .ne 7, 3)), (8, (.iconst 1, 1)), (9, (.goto 35, 3)), (12, (.iload_n 1, 1)), (13, (.iconst 0, 1)), (14, (.aload_n 0, 1)), (15, (.getfield 284, 3)), (18, (.iconst 1, 1)), (19, (.isub, 1)), (20, (.invokestatic 112, 3)), (23, (.ifCond .ne 7, 3)), (26, (.iconst 2, 1)), (27, (.goto 17, 3)), (30, (.iload_n 2, 1)), (31, (.iconst 0, 1)), (32, (.iconst 2, 1)), (33, (.invokestatic 112, 3)), (36, (.ifCond .eq 7, 3)), (39, (.iconst 0, 1)), (40, (.goto 4, 3)), (43, (.iconst 3, 1)), (44, (.putfield 70, 3)), (47, (.aload_n 0, 1)), (48, (.getfield 70, 3)), (51, (.ifCond .le 7, 3)), (54, (.iconst 0, 1)), (55, (.goto 36, 3)), (58, (.iload_n 2, 1)), (59, (.ifCond .ne 12, 3)), (62, (.aload_n 0, 1)), (63, (.getfield 38, 3)), (66, (.iload_n 1, 1)), (67, (.iaload, 1)), (68, (.goto 23, 3)), (71, (.iload_n 2, 1)), (72, (.iconst 1, 1)), (73, (.if_icmp .ne 12, 3)), (76, (.aload_n 0, 1)), (77, (.getfield 41, 3)), (80, (.iload_n 1, 1)), (81, (.iaload, 1)), (82, (.goto 9, 3)), (85, (.aload_n 0, 1)), (86, (.getfield 44, 3)), (89, (.iload_n 1, 1)), (90, (.iaload, 1)), (91, (.ireturn, 1))]
theorem kDX7_cube_0 : DX7_cube_0.all (fun q => decide (decode cX7_cube q.1 = .ok q.2)) = true := by decide +kernel
theorem dX7_cube_0 : decode cX7_cube 0 = .ok (.aload_n 0, 1) := dec_at kDX7_cube_0 0 rfl
theorem dX7_cube_1 : decode cX7_cube 1 = .ok (.aload_n 0, 1) := dec_at kDX7_cube_0 1 rfl
theorem dX7_cube_2 : decode cX7_cube 2 = .ok (.getfield 108, 3) := dec_at kDX7_cube_0 2 rfl
theorem dX7_cube_5 : decode cX7_cube 5 = .ok (.ifCond .ne 7, 3) := dec_at kDX7_cube_0 3 rfl
theorem dX7_cube_8 : decode cX7_cube 8 = .ok (.iconst 1, 1) := dec_at kDX7_cube_0 4 rfl
theorem dX7_cube_9 : decode cX7_cube 9 = .ok (.goto 35, 3) := dec_at kDX7_cube_0 5 rfl
theorem dX7_cube_12 : decode cX7_cube 12 = .ok (.iload_n 1, 1) := dec_at kDX7_cube_0 6 rfl
theorem dX7_cube_13 : decode cX7_cube 13 = .ok (.iconst 0, 1) := dec_at kDX7_cube_0 7 rfl
theorem dX7_cube_14 : decode cX7_cube 14 = .ok (.aload_n 0, 1) := dec_at kDX7_cube_0 8 rfl
theorem dX7_cube_15 : decode cX7_cube 15 = .ok (.getfield 284, 3) := dec_at kDX7_cube_0 9 rfl
theorem dX7_cube_18 : decode cX7_cube 18 = .ok (.iconst 1, 1) := dec_at kDX7_cube_0 10 rfl
theorem dX7_cube_19 : decode cX7_cube 19 = .ok (.isub, 1) := dec_at kDX7_cube_0 11 rfl
theorem dX7_cube_20 : decode cX7_cube 20 = .ok (.invokestatic 112, 3) := dec_at kDX7_cube_0 12 rfl
theorem dX7_cube_23 : decode cX7_cube 23 = .ok (.ifCond .ne 7, 3) := dec_at kDX7_cube_0 13 rfl
theorem dX7_cube_26 : decode cX7_cube 26 = .ok (.iconst 2, 1) := dec_at kDX7_cube_0 14 rfl
theorem dX7_cube_27 : decode cX7_cube 27 = .ok (.goto 17, 3) := dec_at kDX7_cube_0 15 rfl
theorem dX7_cube_30 : decode cX7_cube 30 = .ok (.iload_n 2, 1) := dec_at kDX7_cube_0 16 rfl
theorem dX7_cube_31 : decode cX7_cube 31 = .ok (.iconst 0, 1) := dec_at kDX7_cube_0 17 rfl
theorem dX7_cube_32 : decode cX7_cube 32 = .ok (.iconst 2, 1) := dec_at kDX7_cube_0 18 rfl
theorem dX7_cube_33 : decode cX7_cube 33 = .ok (.invokestatic 112, 3) := dec_at kDX7_cube_0 19 rfl
theorem dX7_cube_36 : decode cX7_cube 36 = .ok (.ifCond .eq 7, 3) := dec_at kDX7_cube_0 20 rfl
theorem dX7_cube_39 : decode cX7_cube 39 = .ok (.iconst 0, 1) := dec_at kDX7_cube_0 21 rfl
theorem dX7_cube_40 : decode cX7_cube 40 = .ok (.goto 4, 3) := dec_at kDX7_cube_0 22 rfl
theorem dX7_cube_43 : decode cX7_cube 43 = .ok (.iconst 3, 1) := dec_at kDX7_cube_0 23 rfl
theorem dX7_cube_44 : decode cX7_cube 44 = .ok (.putfield 70, 3) := dec_at kDX7_cube_0 24 rfl
theorem dX7_cube_47 : decode cX7_cube 47 = .ok (.aload_n 0, 1) := dec_at kDX7_cube_0 25 rfl
theorem dX7_cube_48 : decode cX7_cube 48 = .ok (.getfield 70, 3) := dec_at kDX7_cube_0 26 rfl
theorem dX7_cube_51 : decode cX7_cube 51 = .ok (.ifCond .le 7, 3) := dec_at kDX7_cube_0 27 rfl
theorem dX7_cube_54 : decode cX7_cube 54 = .ok (.iconst 0, 1) := dec_at kDX7_cube_0 28 rfl
theorem dX7_cube_55 : decode cX7_cube 55 = .ok (.goto 36, 3) := dec_at kDX7_cube_0 29 rfl
theorem dX7_cube_58 : decode cX7_cube 58 = .ok (.iload_n 2, 1) := dec_at kDX7_cube_0 30 rfl
theorem dX7_cube_59 : decode cX7_cube 59 = .ok (.ifCond .ne 12, 3) := dec_at kDX7_cube_0 31 rfl
theorem dX7_cube_62 : decode cX7_cube 62 = .ok (.aload_n 0, 1) := dec_at kDX7_cube_0 32 rfl
theorem dX7_cube_63 : decode cX7_cube 63 = .ok (.getfield 38, 3) := dec_at kDX7_cube_0 33 rfl
theorem dX7_cube_66 : decode cX7_cube 66 = .ok (.iload_n 1, 1) := dec_at kDX7_cube_0 34 rfl
theorem dX7_cube_67 : decode cX7_cube 67 = .ok (.iaload, 1) := dec_at kDX7_cube_0 35 rfl
theorem dX7_cube_68 : decode cX7_cube 68 = .ok (.goto 23, 3) := dec_at kDX7_cube_0 36 rfl
theorem dX7_cube_71 : decode cX7_cube 71 = .ok (.iload_n 2, 1) := dec_at kDX7_cube_0 37 rfl
theorem dX7_cube_72 : decode cX7_cube 72 = .ok (.iconst 1, 1) := dec_at kDX7_cube_0 38 rfl
theorem dX7_cube_73 : decode cX7_cube 73 = .ok (.if_icmp .ne 12, 3) := dec_at kDX7_cube_0 39 rfl
theorem dX7_cube_76 : decode cX7_cube 76 = .ok (.aload_n 0, 1) := dec_at kDX7_cube_0 40 rfl
theorem dX7_cube_77 : decode cX7_cube 77 = .ok (.getfield 41, 3) := dec_at kDX7_cube_0 41 rfl
theorem dX7_cube_80 : decode cX7_cube 80 = .ok (.iload_n 1, 1) := dec_at kDX7_cube_0 42 rfl
theorem dX7_cube_81 : decode cX7_cube 81 = .ok (.iaload, 1) := dec_at kDX7_cube_0 43 rfl
theorem dX7_cube_82 : decode cX7_cube 82 = .ok (.goto 9, 3) := dec_at kDX7_cube_0 44 rfl
theorem dX7_cube_85 : decode cX7_cube 85 = .ok (.aload_n 0, 1) := dec_at kDX7_cube_0 45 rfl
theorem dX7_cube_86 : decode cX7_cube 86 = .ok (.getfield 44, 3) := dec_at kDX7_cube_0 46 rfl
theorem dX7_cube_89 : decode cX7_cube 89 = .ok (.iload_n 1, 1) := dec_at kDX7_cube_0 47 rfl
theorem dX7_cube_90 : decode cX7_cube 90 = .ok (.iaload, 1) := dec_at kDX7_cube_0 48 rfl
theorem dX7_cube_91 : decode cX7_cube 91 = .ok (.ireturn, 1) := dec_at kDX7_cube_0 49 rfl
def DX7_certificateSet_0 : List (Nat × (Instr × Nat)) := [(0, (.aload_n 0, 1)), (1, (.invokevirtual 98, 3)), (4, (.lstore_n 1, 1)), (5, (.iconst 0, 1)), (6, (.istore_n 3, 1)), (7, (.iload_n 3, 1)), (8, (.aload_n 0, 1)), (9, (.getfield 284, 3)), (12, (.if_icmp .ge 44, 3)), (15, (.lload_n 1, 1)), (16, (.aload_n 0, 1)), (17, (.iload_n 3, 1)), (18, (.invokevirtual 348, 3)), (21, (.ifCond .eq 24, 3)), (24, (.aload_n 0, 1)), (25, (.getfield 50, 3)), (28, (.iload_n 3, 1)), (29, (.baload, 1)), (30, (.ifCond .ne 15, 3)), (33, (.aload_n 0, 1)), (34, (.iload_n 3, 1)), (35, (.invokevirtual 287, 3)), (38, (.ldc2_w 84, 3)), (41, (.lxor, 1)), (42, (.goto 6, 3)), (45, (.ldc2_w 84, 3)), (48, (.land, 1)), (49, (.lstore_n 1, 1)), (50, (.iinc 3 1, 3)), (53, (.goto (-46), 3)), (56, (.lload_n 1, 1)), (57, (.lreturn, 1))]
theorem kDX7_certificateSet_0 : DX7_certificateSet_0.all (fun q => decide (decode cX7_certificateSet q.1 = .ok q.2)) = true := by decide +kernel
theorem dX7_certificateSet_0 : decode cX7_certificateSet 0 = .ok (.aload_n 0, 1) := dec_at kDX7_certificateSet_0 0 rfl
theorem dX7_certificateSet_1 : decode cX7_certificateSet 1 = .ok (.invokevirtual 98, 3) := dec_at kDX7_certificateSet_0 1 rfl
theorem dX7_certificateSet_4 : decode cX7_certificateSet 4 = .ok (.lstore_n 1, 1) := dec_at kDX7_certificateSet_0 2 rfl
theorem dX7_certificateSet_5 : decode cX7_certificateSet 5 = .ok (.iconst 0, 1) := dec_at kDX7_certificateSet_0 3 rfl
theorem dX7_certificateSet_6 : decode cX7_certificateSet 6 = .ok (.istore_n 3, 1) := dec_at kDX7_certificateSet_0 4 rfl
theorem dX7_certificateSet_7 : decode cX7_certificateSet 7 = .ok (.iload_n 3, 1) := dec_at kDX7_certificateSet_0 5 rfl
theorem dX7_certificateSet_8 : decode cX7_certificateSet 8 = .ok (.aload_n 0, 1) := dec_at kDX7_certificateSet_0 6 rfl
theorem dX7_certificateSet_9 : decode cX7_certificateSet 9 = .ok (.getfield 284, 3) := dec_at kDX7_certificateSet_0 7 rfl
theorem dX7_certificateSet_12 : decode cX7_certificateSet 12 = .ok (.if_icmp .ge 44, 3) := dec_at kDX7_certificateSet_0 8 rfl
theorem dX7_certificateSet_15 : decode cX7_certificateSet 15 = .ok (.lload_n 1, 1) := dec_at kDX7_certificateSet_0 9 rfl
theorem dX7_certificateSet_16 : decode cX7_certificateSet 16 = .ok (.aload_n 0, 1) := dec_at kDX7_certificateSet_0 10 rfl
theorem dX7_certificateSet_17 : decode cX7_certificateSet 17 = .ok (.iload_n 3, 1) := dec_at kDX7_certificateSet_0 11 rfl
theorem dX7_certificateSet_18 : decode cX7_certificateSet 18 = .ok (.invokevirtual 348, 3) := dec_at kDX7_certificateSet_0 12 rfl
theorem dX7_certificateSet_21 : decode cX7_certificateSet 21 = .ok (.ifCond .eq 24, 3) := dec_at kDX7_certificateSet_0 13 rfl
theorem dX7_certificateSet_24 : decode cX7_certificateSet 24 = .ok (.aload_n 0, 1) := dec_at kDX7_certificateSet_0 14 rfl
theorem dX7_certificateSet_25 : decode cX7_certificateSet 25 = .ok (.getfield 50, 3) := dec_at kDX7_certificateSet_0 15 rfl
theorem dX7_certificateSet_28 : decode cX7_certificateSet 28 = .ok (.iload_n 3, 1) := dec_at kDX7_certificateSet_0 16 rfl
theorem dX7_certificateSet_29 : decode cX7_certificateSet 29 = .ok (.baload, 1) := dec_at kDX7_certificateSet_0 17 rfl
theorem dX7_certificateSet_30 : decode cX7_certificateSet 30 = .ok (.ifCond .ne 15, 3) := dec_at kDX7_certificateSet_0 18 rfl
theorem dX7_certificateSet_33 : decode cX7_certificateSet 33 = .ok (.aload_n 0, 1) := dec_at kDX7_certificateSet_0 19 rfl
theorem dX7_certificateSet_34 : decode cX7_certificateSet 34 = .ok (.iload_n 3, 1) := dec_at kDX7_certificateSet_0 20 rfl
theorem dX7_certificateSet_35 : decode cX7_certificateSet 35 = .ok (.invokevirtual 287, 3) := dec_at kDX7_certificateSet_0 21 rfl
theorem dX7_certificateSet_38 : decode cX7_certificateSet 38 = .ok (.ldc2_w 84, 3) := dec_at kDX7_certificateSet_0 22 rfl
theorem dX7_certificateSet_41 : decode cX7_certificateSet 41 = .ok (.lxor, 1) := dec_at kDX7_certificateSet_0 23 rfl
theorem dX7_certificateSet_42 : decode cX7_certificateSet 42 = .ok (.goto 6, 3) := dec_at kDX7_certificateSet_0 24 rfl
theorem dX7_certificateSet_45 : decode cX7_certificateSet 45 = .ok (.ldc2_w 84, 3) := dec_at kDX7_certificateSet_0 25 rfl
theorem dX7_certificateSet_48 : decode cX7_certificateSet 48 = .ok (.land, 1) := dec_at kDX7_certificateSet_0 26 rfl
theorem dX7_certificateSet_49 : decode cX7_certificateSet 49 = .ok (.lstore_n 1, 1) := dec_at kDX7_certificateSet_0 27 rfl
theorem dX7_certificateSet_50 : decode cX7_certificateSet 50 = .ok (.iinc 3 1, 3) := dec_at kDX7_certificateSet_0 28 rfl
theorem dX7_certificateSet_53 : decode cX7_certificateSet 53 = .ok (.goto (-46), 3) := dec_at kDX7_certificateSet_0 29 rfl
theorem dX7_certificateSet_56 : decode cX7_certificateSet 56 = .ok (.lload_n 1, 1) := dec_at kDX7_certificateSet_0 30 rfl
theorem dX7_certificateSet_57 : decode cX7_certificateSet 57 = .ok (.lreturn, 1) := dec_at kDX7_certificateSet_0 31 rfl
def DX7_allIn_0 : List (Nat × (Instr × Nat)) := [(0, (.iconst 0, 1)), (1, (.istore_n 1, 1)), (2, (.iload_n 1, 1)), (3, (.aload_n 0, 1)), (4, (.getfield 284, 3)), (7, (.if_icmp .ge 16, 3)), (10, (.aload_n 0, 1)), (11, (.getfield 50, 3)), (14, (.iload_n 1, 1)), (15, (.iconst 0, 1)), (16, (.bastore, 1)), (17, (.iinc 1 1, 3)), (20, (.goto (-18), 3)), (23, (.return_, 1))]
theorem kDX7_allIn_0 : DX7_allIn_0.all (fun q => decide (decode cX7_allIn q.1 = .ok q.2)) = true := by decide +kernel
theorem dX7_allIn_0 : decode cX7_allIn 0 = .ok (.iconst 0, 1) := dec_at kDX7_allIn_0 0 rfl
theorem dX7_allIn_1 : decode cX7_allIn 1 = .ok (.istore_n 1, 1) := dec_at kDX7_allIn_0 1 rfl
theorem dX7_allIn_2 : decode cX7_allIn 2 = .ok (.iload_n 1, 1) := dec_at kDX7_allIn_0 2 rfl
theorem dX7_allIn_3 : decode cX7_allIn 3 = .ok (.aload_n 0, 1) := dec_at kDX7_allIn_0 3 rfl
theorem dX7_allIn_4 : decode cX7_allIn 4 = .ok (.getfield 284, 3) := dec_at kDX7_allIn_0 4 rfl
theorem dX7_allIn_7 : decode cX7_allIn 7 = .ok (.if_icmp .ge 16, 3) := dec_at kDX7_allIn_0 5 rfl
theorem dX7_allIn_10 : decode cX7_allIn 10 = .ok (.aload_n 0, 1) := dec_at kDX7_allIn_0 6 rfl
theorem dX7_allIn_11 : decode cX7_allIn 11 = .ok (.getfield 50, 3) := dec_at kDX7_allIn_0 7 rfl
theorem dX7_allIn_14 : decode cX7_allIn 14 = .ok (.iload_n 1, 1) := dec_at kDX7_allIn_0 8 rfl
theorem dX7_allIn_15 : decode cX7_allIn 15 = .ok (.iconst 0, 1) := dec_at kDX7_allIn_0 9 rfl
theorem dX7_allIn_16 : decode cX7_allIn 16 = .ok (.bastore, 1) := dec_at kDX7_allIn_0 10 rfl
theorem dX7_allIn_17 : decode cX7_allIn 17 = .ok (.iinc 1 1, 3) := dec_at kDX7_allIn_0 11 rfl
theorem dX7_allIn_20 : decode cX7_allIn 20 = .ok (.goto (-18), 3) := dec_at kDX7_allIn_0 12 rfl
theorem dX7_allIn_23 : decode cX7_allIn 23 = .ok (.return_, 1) := dec_at kDX7_allIn_0 13 rfl
def DX7_certificate_0 : List (Nat × (Instr × Nat)) := [(0, (.aload_n 0, 1)), (1, (.aload_n 0, 1)), (2, (.getfield 108, 3)), (5, (.ifCond .eq 14, 3)), (8, (.aload_n 0, 1)), (9, (.getfield 339, 3)), (12, (.ifCond .ne 7, 3)), (15, (.iconst 0, 1)), (16, (.goto 4, 3)), (19, (.iconst 1, 1)), (20, (.putfield 70, 3)), (23, (.aload_n 0, 1)), (24, (.getfield 70, 3)), (27, (.ifCond .le 5, 3)), (30, (.lconst 0, 1)), (31, (.lreturn, 1)), (32, (.aload_n 0, 1)), (33, (.invokevirtual 357, 3)), (36, (.aload_n 0, 1)), (37, (.invokevirtual 360, 3)), (40, (.lreturn, 1))]
theorem kDX7_certificate_0 : DX7_certificate_0.all (fun q => decide (decode cX7_certificate q.1 = .ok q.2)) = true := by decide +kernel
theorem dX7_certificate_0 : decode cX7_certificate 0 = .ok (.aload_n 0, 1) := dec_at kDX7_certificate_0 0 rfl
theorem dX7_certificate_1 : decode cX7_certificate 1 = .ok (.aload_n 0, 1) := dec_at kDX7_certificate_0 1 rfl
theorem dX7_certificate_2 : decode cX7_certificate 2 = .ok (.getfield 108, 3) := dec_at kDX7_certificate_0 2 rfl
theorem dX7_certificate_5 : decode cX7_certificate 5 = .ok (.ifCond .eq 14, 3) := dec_at kDX7_certificate_0 3 rfl
theorem dX7_certificate_8 : decode cX7_certificate 8 = .ok (.aload_n 0, 1) := dec_at kDX7_certificate_0 4 rfl
theorem dX7_certificate_9 : decode cX7_certificate 9 = .ok (.getfield 339, 3) := dec_at kDX7_certificate_0 5 rfl
theorem dX7_certificate_12 : decode cX7_certificate 12 = .ok (.ifCond .ne 7, 3) := dec_at kDX7_certificate_0 6 rfl
theorem dX7_certificate_15 : decode cX7_certificate 15 = .ok (.iconst 0, 1) := dec_at kDX7_certificate_0 7 rfl
theorem dX7_certificate_16 : decode cX7_certificate 16 = .ok (.goto 4, 3) := dec_at kDX7_certificate_0 8 rfl
theorem dX7_certificate_19 : decode cX7_certificate 19 = .ok (.iconst 1, 1) := dec_at kDX7_certificate_0 9 rfl
theorem dX7_certificate_20 : decode cX7_certificate 20 = .ok (.putfield 70, 3) := dec_at kDX7_certificate_0 10 rfl
theorem dX7_certificate_23 : decode cX7_certificate 23 = .ok (.aload_n 0, 1) := dec_at kDX7_certificate_0 11 rfl
theorem dX7_certificate_24 : decode cX7_certificate 24 = .ok (.getfield 70, 3) := dec_at kDX7_certificate_0 12 rfl
theorem dX7_certificate_27 : decode cX7_certificate 27 = .ok (.ifCond .le 5, 3) := dec_at kDX7_certificate_0 13 rfl
theorem dX7_certificate_30 : decode cX7_certificate 30 = .ok (.lconst 0, 1) := dec_at kDX7_certificate_0 14 rfl
theorem dX7_certificate_31 : decode cX7_certificate 31 = .ok (.lreturn, 1) := dec_at kDX7_certificate_0 15 rfl
theorem dX7_certificate_32 : decode cX7_certificate 32 = .ok (.aload_n 0, 1) := dec_at kDX7_certificate_0 16 rfl
theorem dX7_certificate_33 : decode cX7_certificate 33 = .ok (.invokevirtual 357, 3) := dec_at kDX7_certificate_0 17 rfl
theorem dX7_certificate_36 : decode cX7_certificate 36 = .ok (.aload_n 0, 1) := dec_at kDX7_certificate_0 18 rfl
theorem dX7_certificate_37 : decode cX7_certificate 37 = .ok (.invokevirtual 360, 3) := dec_at kDX7_certificate_0 19 rfl
theorem dX7_certificate_40 : decode cX7_certificate 40 = .ok (.lreturn, 1) := dec_at kDX7_certificate_0 20 rfl
def DX7_shrunkenNow_0 : List (Nat × (Instr × Nat)) := [(0, (.aload_n 0, 1)), (1, (.invokevirtual 357, 3)), (4, (.iconst 0, 1)), (5, (.istore_n 1, 1)), (6, (.iconst 0, 1)), (7, (.istore_n 2, 1)), (8, (.iload_n 2, 1)), (9, (.aload_n 0, 1)), (10, (.getfield 284, 3)), (13, (.if_icmp .ge 84, 3)), (16, (.aload_n 0, 1)), (17, (.iload_n 2, 1)), (18, (.invokevirtual 348, 3)), (21, (.ifCond .eq 70, 3)), (24, (.aload_n 0, 1)), (25, (.getfield 50, 3)), (28, (.iload_n 2, 1)), (29, (.iconst 1, 1)), (30, (.bastore, 1)), (31, (.aload_n 0, 1)), (32, (.invokevirtual 360, 3)), (35, (.lstore_n 3, 1)), (36, (.aload_n 0, 1)), (37, (.getfield 50, 3)), (40, (.iload_n 2, 1)), (41, (.aload_n 0, 1)), (42, (.lload_n 3, 1)), (43, (.invokevirtual 213, 3)), (46, (.lload_n 3, 1)), (47, (.ldc2_w 84, 3)), (50, (.lxor, 1)), (51, (.land, 1)), (52, (.lconst 0, 1)), (53, (.lcmp, 1)), (54, (.ifCond .ne 18, 3)), (57, (.lload_n 3, 1)), (58, (.aload_n 0, 1)), (59, (.invokevirtual 219, 3)), (62, (.land, 1)), (63, (.lconst 0, 1)), (64, (.lcmp, 1)), (65, (.ifCond .ne 7, 3)), (68, (.iconst 1, 1)), (69, (.goto 4, 3)), (72, (.iconst 0, 1)), (73, (.bastore, 1)), (74, (.iload_n 1, 1)), (75, (.aload_n 0, 1)), (76, (.getfield 50, 3)), (79, (.iload_n 2, 1))]
theorem kDX7_shrunkenNow_0 : DX7_shrunkenNow_0.all (fun q => decide (decode cX7_shrunkenNow q.1 = .ok q.2)) = true := by decide +kernel
theorem dX7_shrunkenNow_0 : decode cX7_shrunkenNow 0 = .ok (.aload_n 0, 1) := dec_at kDX7_shrunkenNow_0 0 rfl
theorem dX7_shrunkenNow_1 : decode cX7_shrunkenNow 1 = .ok (.invokevirtual 357, 3) := dec_at kDX7_shrunkenNow_0 1 rfl
theorem dX7_shrunkenNow_4 : decode cX7_shrunkenNow 4 = .ok (.iconst 0, 1) := dec_at kDX7_shrunkenNow_0 2 rfl
theorem dX7_shrunkenNow_5 : decode cX7_shrunkenNow 5 = .ok (.istore_n 1, 1) := dec_at kDX7_shrunkenNow_0 3 rfl
theorem dX7_shrunkenNow_6 : decode cX7_shrunkenNow 6 = .ok (.iconst 0, 1) := dec_at kDX7_shrunkenNow_0 4 rfl
theorem dX7_shrunkenNow_7 : decode cX7_shrunkenNow 7 = .ok (.istore_n 2, 1) := dec_at kDX7_shrunkenNow_0 5 rfl
theorem dX7_shrunkenNow_8 : decode cX7_shrunkenNow 8 = .ok (.iload_n 2, 1) := dec_at kDX7_shrunkenNow_0 6 rfl
theorem dX7_shrunkenNow_9 : decode cX7_shrunkenNow 9 = .ok (.aload_n 0, 1) := dec_at kDX7_shrunkenNow_0 7 rfl
theorem dX7_shrunkenNow_10 : decode cX7_shrunkenNow 10 = .ok (.getfield 284, 3) := dec_at kDX7_shrunkenNow_0 8 rfl
theorem dX7_shrunkenNow_13 : decode cX7_shrunkenNow 13 = .ok (.if_icmp .ge 84, 3) := dec_at kDX7_shrunkenNow_0 9 rfl
theorem dX7_shrunkenNow_16 : decode cX7_shrunkenNow 16 = .ok (.aload_n 0, 1) := dec_at kDX7_shrunkenNow_0 10 rfl
theorem dX7_shrunkenNow_17 : decode cX7_shrunkenNow 17 = .ok (.iload_n 2, 1) := dec_at kDX7_shrunkenNow_0 11 rfl
theorem dX7_shrunkenNow_18 : decode cX7_shrunkenNow 18 = .ok (.invokevirtual 348, 3) := dec_at kDX7_shrunkenNow_0 12 rfl
theorem dX7_shrunkenNow_21 : decode cX7_shrunkenNow 21 = .ok (.ifCond .eq 70, 3) := dec_at kDX7_shrunkenNow_0 13 rfl
theorem dX7_shrunkenNow_24 : decode cX7_shrunkenNow 24 = .ok (.aload_n 0, 1) := dec_at kDX7_shrunkenNow_0 14 rfl
theorem dX7_shrunkenNow_25 : decode cX7_shrunkenNow 25 = .ok (.getfield 50, 3) := dec_at kDX7_shrunkenNow_0 15 rfl
theorem dX7_shrunkenNow_28 : decode cX7_shrunkenNow 28 = .ok (.iload_n 2, 1) := dec_at kDX7_shrunkenNow_0 16 rfl
theorem dX7_shrunkenNow_29 : decode cX7_shrunkenNow 29 = .ok (.iconst 1, 1) := dec_at kDX7_shrunkenNow_0 17 rfl
theorem dX7_shrunkenNow_30 : decode cX7_shrunkenNow 30 = .ok (.bastore, 1) := dec_at kDX7_shrunkenNow_0 18 rfl
theorem dX7_shrunkenNow_31 : decode cX7_shrunkenNow 31 = .ok (.aload_n 0, 1) := dec_at kDX7_shrunkenNow_0 19 rfl
theorem dX7_shrunkenNow_32 : decode cX7_shrunkenNow 32 = .ok (.invokevirtual 360, 3) := dec_at kDX7_shrunkenNow_0 20 rfl
theorem dX7_shrunkenNow_35 : decode cX7_shrunkenNow 35 = .ok (.lstore_n 3, 1) := dec_at kDX7_shrunkenNow_0 21 rfl
theorem dX7_shrunkenNow_36 : decode cX7_shrunkenNow 36 = .ok (.aload_n 0, 1) := dec_at kDX7_shrunkenNow_0 22 rfl
theorem dX7_shrunkenNow_37 : decode cX7_shrunkenNow 37 = .ok (.getfield 50, 3) := dec_at kDX7_shrunkenNow_0 23 rfl
theorem dX7_shrunkenNow_40 : decode cX7_shrunkenNow 40 = .ok (.iload_n 2, 1) := dec_at kDX7_shrunkenNow_0 24 rfl
theorem dX7_shrunkenNow_41 : decode cX7_shrunkenNow 41 = .ok (.aload_n 0, 1) := dec_at kDX7_shrunkenNow_0 25 rfl
theorem dX7_shrunkenNow_42 : decode cX7_shrunkenNow 42 = .ok (.lload_n 3, 1) := dec_at kDX7_shrunkenNow_0 26 rfl
theorem dX7_shrunkenNow_43 : decode cX7_shrunkenNow 43 = .ok (.invokevirtual 213, 3) := dec_at kDX7_shrunkenNow_0 27 rfl
theorem dX7_shrunkenNow_46 : decode cX7_shrunkenNow 46 = .ok (.lload_n 3, 1) := dec_at kDX7_shrunkenNow_0 28 rfl
theorem dX7_shrunkenNow_47 : decode cX7_shrunkenNow 47 = .ok (.ldc2_w 84, 3) := dec_at kDX7_shrunkenNow_0 29 rfl
theorem dX7_shrunkenNow_50 : decode cX7_shrunkenNow 50 = .ok (.lxor, 1) := dec_at kDX7_shrunkenNow_0 30 rfl
theorem dX7_shrunkenNow_51 : decode cX7_shrunkenNow 51 = .ok (.land, 1) := dec_at kDX7_shrunkenNow_0 31 rfl
theorem dX7_shrunkenNow_52 : decode cX7_shrunkenNow 52 = .ok (.lconst 0, 1) := dec_at kDX7_shrunkenNow_0 32 rfl
theorem dX7_shrunkenNow_53 : decode cX7_shrunkenNow 53 = .ok (.lcmp, 1) := dec_at kDX7_shrunkenNow_0 33 rfl
theorem dX7_shrunkenNow_54 : decode cX7_shrunkenNow 54 = .ok (.ifCond .ne 18, 3) := dec_at kDX7_shrunkenNow_0 34 rfl
theorem dX7_shrunkenNow_57 : decode cX7_shrunkenNow 57 = .ok (.lload_n 3, 1) := dec_at kDX7_shrunkenNow_0 35 rfl
theorem dX7_shrunkenNow_58 : decode cX7_shrunkenNow 58 = .ok (.aload_n 0, 1) := dec_at kDX7_shrunkenNow_0 36 rfl
theorem dX7_shrunkenNow_59 : decode cX7_shrunkenNow 59 = .ok (.invokevirtual 219, 3) := dec_at kDX7_shrunkenNow_0 37 rfl
theorem dX7_shrunkenNow_62 : decode cX7_shrunkenNow 62 = .ok (.land, 1) := dec_at kDX7_shrunkenNow_0 38 rfl
theorem dX7_shrunkenNow_63 : decode cX7_shrunkenNow 63 = .ok (.lconst 0, 1) := dec_at kDX7_shrunkenNow_0 39 rfl
theorem dX7_shrunkenNow_64 : decode cX7_shrunkenNow 64 = .ok (.lcmp, 1) := dec_at kDX7_shrunkenNow_0 40 rfl
theorem dX7_shrunkenNow_65 : decode cX7_shrunkenNow 65 = .ok (.ifCond .ne 7, 3) := dec_at kDX7_shrunkenNow_0 41 rfl
theorem dX7_shrunkenNow_68 : decode cX7_shrunkenNow 68 = .ok (.iconst 1, 1) := dec_at kDX7_shrunkenNow_0 42 rfl
theorem dX7_shrunkenNow_69 : decode cX7_shrunkenNow 69 = .ok (.goto 4, 3) := dec_at kDX7_shrunkenNow_0 43 rfl
theorem dX7_shrunkenNow_72 : decode cX7_shrunkenNow 72 = .ok (.iconst 0, 1) := dec_at kDX7_shrunkenNow_0 44 rfl
theorem dX7_shrunkenNow_73 : decode cX7_shrunkenNow 73 = .ok (.bastore, 1) := dec_at kDX7_shrunkenNow_0 45 rfl
theorem dX7_shrunkenNow_74 : decode cX7_shrunkenNow 74 = .ok (.iload_n 1, 1) := dec_at kDX7_shrunkenNow_0 46 rfl
theorem dX7_shrunkenNow_75 : decode cX7_shrunkenNow 75 = .ok (.aload_n 0, 1) := dec_at kDX7_shrunkenNow_0 47 rfl
theorem dX7_shrunkenNow_76 : decode cX7_shrunkenNow 76 = .ok (.getfield 50, 3) := dec_at kDX7_shrunkenNow_0 48 rfl
theorem dX7_shrunkenNow_79 : decode cX7_shrunkenNow 79 = .ok (.iload_n 2, 1) := dec_at kDX7_shrunkenNow_0 49 rfl
def DX7_shrunkenNow_50 : List (Nat × (Instr × Nat)) := [(80, (.baload, 1)), (81, (.ifCond .eq 7, 3)), (84, (.iconst 0, 1)), (85, (.goto 4, 3)), (88, (.iconst 1, 1)), (89, (.iadd, 1)), (90, (.istore_n 1, 1)), (91, (.iinc 2 1, 3)), (94, (.goto (-86), 3)), (97, (.iload_n 1, 1)), (98, (.ireturn, 1))]
theorem kDX7_shrunkenNow_50 : DX7_shrunkenNow_50.all (fun q => decide (decode cX7_shrunkenNow q.1 = .ok q.2)) = true := by decide +kernel
theorem dX7_shrunkenNow_80 : decode cX7_shrunkenNow 80 = .ok (.baload, 1) := dec_at kDX7_shrunkenNow_50 0 rfl
theorem dX7_shrunkenNow_81 : decode cX7_shrunkenNow 81 = .ok (.ifCond .eq 7, 3) := dec_at kDX7_shrunkenNow_50 1 rfl
theorem dX7_shrunkenNow_84 : decode cX7_shrunkenNow 84 = .ok (.iconst 0, 1) := dec_at kDX7_shrunkenNow_50 2 rfl
theorem dX7_shrunkenNow_85 : decode cX7_shrunkenNow 85 = .ok (.goto 4, 3) := dec_at kDX7_shrunkenNow_50 3 rfl
theorem dX7_shrunkenNow_88 : decode cX7_shrunkenNow 88 = .ok (.iconst 1, 1) := dec_at kDX7_shrunkenNow_50 4 rfl
theorem dX7_shrunkenNow_89 : decode cX7_shrunkenNow 89 = .ok (.iadd, 1) := dec_at kDX7_shrunkenNow_50 5 rfl
theorem dX7_shrunkenNow_90 : decode cX7_shrunkenNow 90 = .ok (.istore_n 1, 1) := dec_at kDX7_shrunkenNow_50 6 rfl
theorem dX7_shrunkenNow_91 : decode cX7_shrunkenNow 91 = .ok (.iinc 2 1, 3) := dec_at kDX7_shrunkenNow_50 7 rfl
theorem dX7_shrunkenNow_94 : decode cX7_shrunkenNow 94 = .ok (.goto (-86), 3) := dec_at kDX7_shrunkenNow_50 8 rfl
theorem dX7_shrunkenNow_97 : decode cX7_shrunkenNow 97 = .ok (.iload_n 1, 1) := dec_at kDX7_shrunkenNow_50 9 rfl
theorem dX7_shrunkenNow_98 : decode cX7_shrunkenNow 98 = .ok (.ireturn, 1) := dec_at kDX7_shrunkenNow_50 10 rfl
def DX7_shrunken_0 : List (Nat × (Instr × Nat)) := [(0, (.aload_n 0, 1)), (1, (.aload_n 0, 1)), (2, (.getfield 108, 3)), (5, (.ifCond .eq 14, 3)), (8, (.aload_n 0, 1)), (9, (.getfield 339, 3)), (12, (.ifCond .ne 7, 3)), (15, (.iconst 0, 1)), (16, (.goto 4, 3)), (19, (.iconst 1, 1)), (20, (.putfield 70, 3)), (23, (.aload_n 0, 1)), (24, (.getfield 70, 3)), (27, (.ifCond .le 7, 3)), (30, (.iconst 0, 1)), (31, (.goto 7, 3)), (34, (.aload_n 0, 1)), (35, (.invokevirtual 363, 3)), (38, (.ireturn, 1))]
theorem kDX7_shrunken_0 : DX7_shrunken_0.all (fun q => decide (decode cX7_shrunken q.1 = .ok q.2)) = true := by decide +kernel
theorem dX7_shrunken_0 : decode cX7_shrunken 0 = .ok (.aload_n 0, 1) := dec_at kDX7_shrunken_0 0 rfl
theorem dX7_shrunken_1 : decode cX7_shrunken 1 = .ok (.aload_n 0, 1) := dec_at kDX7_shrunken_0 1 rfl
theorem dX7_shrunken_2 : decode cX7_shrunken 2 = .ok (.getfield 108, 3) := dec_at kDX7_shrunken_0 2 rfl
theorem dX7_shrunken_5 : decode cX7_shrunken 5 = .ok (.ifCond .eq 14, 3) := dec_at kDX7_shrunken_0 3 rfl
theorem dX7_shrunken_8 : decode cX7_shrunken 8 = .ok (.aload_n 0, 1) := dec_at kDX7_shrunken_0 4 rfl
theorem dX7_shrunken_9 : decode cX7_shrunken 9 = .ok (.getfield 339, 3) := dec_at kDX7_shrunken_0 5 rfl
theorem dX7_shrunken_12 : decode cX7_shrunken 12 = .ok (.ifCond .ne 7, 3) := dec_at kDX7_shrunken_0 6 rfl
theorem dX7_shrunken_15 : decode cX7_shrunken 15 = .ok (.iconst 0, 1) := dec_at kDX7_shrunken_0 7 rfl
theorem dX7_shrunken_16 : decode cX7_shrunken 16 = .ok (.goto 4, 3) := dec_at kDX7_shrunken_0 8 rfl
theorem dX7_shrunken_19 : decode cX7_shrunken 19 = .ok (.iconst 1, 1) := dec_at kDX7_shrunken_0 9 rfl
theorem dX7_shrunken_20 : decode cX7_shrunken 20 = .ok (.putfield 70, 3) := dec_at kDX7_shrunken_0 10 rfl
theorem dX7_shrunken_23 : decode cX7_shrunken 23 = .ok (.aload_n 0, 1) := dec_at kDX7_shrunken_0 11 rfl
theorem dX7_shrunken_24 : decode cX7_shrunken 24 = .ok (.getfield 70, 3) := dec_at kDX7_shrunken_0 12 rfl
theorem dX7_shrunken_27 : decode cX7_shrunken 27 = .ok (.ifCond .le 7, 3) := dec_at kDX7_shrunken_0 13 rfl
theorem dX7_shrunken_30 : decode cX7_shrunken 30 = .ok (.iconst 0, 1) := dec_at kDX7_shrunken_0 14 rfl
theorem dX7_shrunken_31 : decode cX7_shrunken 31 = .ok (.goto 7, 3) := dec_at kDX7_shrunken_0 15 rfl
theorem dX7_shrunken_34 : decode cX7_shrunken 34 = .ok (.aload_n 0, 1) := dec_at kDX7_shrunken_0 16 rfl
theorem dX7_shrunken_35 : decode cX7_shrunken 35 = .ok (.invokevirtual 363, 3) := dec_at kDX7_shrunken_0 17 rfl
theorem dX7_shrunken_38 : decode cX7_shrunken 38 = .ok (.ireturn, 1) := dec_at kDX7_shrunken_0 18 rfl
def DX7_isOn_0 : List (Nat × (Instr × Nat)) := [(0, (.iconst 0, 1)), (1, (.istore_n 3, 1)), (2, (.iconst 0, 1)), (3, (.istore 4, 2)), (5, (.iload 4, 2)), (7, (.iload_n 1, 1)), (8, (.if_icmp .ge 30, 3)), (11, (.iload_n 3, 1)), (12, (.ifCond .ne 14, 3)), (15, (.aload_n 0, 1)), (16, (.getfield 57, 3)), (19, (.iload 4, 2)), (21, (.iaload, 1)), (22, (.iload_n 2, 1)), (23, (.if_icmp .ne 7, 3)), (26, (.iconst 1, 1)), (27, (.goto 4, 3)), (30, (.iconst 0, 1)), (31, (.istore_n 3, 1)), (32, (.iinc 4 1, 3)), (35, (.goto (-30), 3)), (38, (.iload_n 3, 1)), (39, (.ireturn, 1))]
theorem kDX7_isOn_0 : DX7_isOn_0.all (fun q => decide (decode cX7_isOn q.1 = .ok q.2)) = true := by decide +kernel
theorem dX7_isOn_0 : decode cX7_isOn 0 = .ok (.iconst 0, 1) := dec_at kDX7_isOn_0 0 rfl
theorem dX7_isOn_1 : decode cX7_isOn 1 = .ok (.istore_n 3, 1) := dec_at kDX7_isOn_0 1 rfl
theorem dX7_isOn_2 : decode cX7_isOn 2 = .ok (.iconst 0, 1) := dec_at kDX7_isOn_0 2 rfl
theorem dX7_isOn_3 : decode cX7_isOn 3 = .ok (.istore 4, 2) := dec_at kDX7_isOn_0 3 rfl
theorem dX7_isOn_5 : decode cX7_isOn 5 = .ok (.iload 4, 2) := dec_at kDX7_isOn_0 4 rfl
theorem dX7_isOn_7 : decode cX7_isOn 7 = .ok (.iload_n 1, 1) := dec_at kDX7_isOn_0 5 rfl
theorem dX7_isOn_8 : decode cX7_isOn 8 = .ok (.if_icmp .ge 30, 3) := dec_at kDX7_isOn_0 6 rfl
theorem dX7_isOn_11 : decode cX7_isOn 11 = .ok (.iload_n 3, 1) := dec_at kDX7_isOn_0 7 rfl
theorem dX7_isOn_12 : decode cX7_isOn 12 = .ok (.ifCond .ne 14, 3) := dec_at kDX7_isOn_0 8 rfl
theorem dX7_isOn_15 : decode cX7_isOn 15 = .ok (.aload_n 0, 1) := dec_at kDX7_isOn_0 9 rfl
theorem dX7_isOn_16 : decode cX7_isOn 16 = .ok (.getfield 57, 3) := dec_at kDX7_isOn_0 10 rfl
theorem dX7_isOn_19 : decode cX7_isOn 19 = .ok (.iload 4, 2) := dec_at kDX7_isOn_0 11 rfl
theorem dX7_isOn_21 : decode cX7_isOn 21 = .ok (.iaload, 1) := dec_at kDX7_isOn_0 12 rfl
theorem dX7_isOn_22 : decode cX7_isOn 22 = .ok (.iload_n 2, 1) := dec_at kDX7_isOn_0 13 rfl
theorem dX7_isOn_23 : decode cX7_isOn 23 = .ok (.if_icmp .ne 7, 3) := dec_at kDX7_isOn_0 14 rfl
theorem dX7_isOn_26 : decode cX7_isOn 26 = .ok (.iconst 1, 1) := dec_at kDX7_isOn_0 15 rfl
theorem dX7_isOn_27 : decode cX7_isOn 27 = .ok (.goto 4, 3) := dec_at kDX7_isOn_0 16 rfl
theorem dX7_isOn_30 : decode cX7_isOn 30 = .ok (.iconst 0, 1) := dec_at kDX7_isOn_0 17 rfl
theorem dX7_isOn_31 : decode cX7_isOn 31 = .ok (.istore_n 3, 1) := dec_at kDX7_isOn_0 18 rfl
theorem dX7_isOn_32 : decode cX7_isOn 32 = .ok (.iinc 4 1, 3) := dec_at kDX7_isOn_0 19 rfl
theorem dX7_isOn_35 : decode cX7_isOn 35 = .ok (.goto (-30), 3) := dec_at kDX7_isOn_0 20 rfl
theorem dX7_isOn_38 : decode cX7_isOn 38 = .ok (.iload_n 3, 1) := dec_at kDX7_isOn_0 21 rfl
theorem dX7_isOn_39 : decode cX7_isOn 39 = .ok (.ireturn, 1) := dec_at kDX7_isOn_0 22 rfl
def DX7_isSimple_0 : List (Nat × (Instr × Nat)) := [(0, (.aload_n 0, 1)), (1, (.getfield 57, 3)), (4, (.iconst 0, 1)), (5, (.iload_n 1, 1)), (6, (.iastore, 1)), (7, (.aload_n 0, 1)), (8, (.getfield 60, 3)), (11, (.iconst 0, 1)), (12, (.iconst 0, 1)), (13, (.iastore, 1)), (14, (.iconst 0, 1)), (15, (.istore_n 3, 1)), (16, (.iload_n 3, 1)), (17, (.ifCond .lt 106, 3)), (20, (.iload_n 3, 1)), (21, (.iload_n 2, 1)), (22, (.if_icmp .ge 101, 3)), (25, (.aload_n 0, 1)), (26, (.getfield 60, 3)), (29, (.iload_n 3, 1)), (30, (.iaload, 1)), (31, (.aload_n 0, 1)), (32, (.invokevirtual 188, 3)), (35, (.if_icmp .ne 9, 3)), (38, (.iinc 3 (-1), 3)), (41, (.goto (-25), 3)), (44, (.aload_n 0, 1)), (45, (.aload_n 0, 1)), (46, (.getfield 57, 3)), (49, (.iload_n 3, 1)), (50, (.iaload, 1)), (51, (.aload_n 0, 1)), (52, (.getfield 60, 3)), (55, (.iload_n 3, 1)), (56, (.iaload, 1)), (57, (.invokevirtual 205, 3)), (60, (.istore 4, 2)), (62, (.aload_n 0, 1)), (63, (.getfield 60, 3)), (66, (.iload_n 3, 1)), (67, (.dup2, 1)), (68, (.iaload, 1)), (69, (.iconst 1, 1)), (70, (.iadd, 1)), (71, (.iastore, 1)), (72, (.aload_n 0, 1)), (73, (.getfield 54, 3)), (76, (.iload_n 2, 1)), (77, (.iload_n 3, 1)), (78, (.isub, 1))]
theorem kDX7_isSimple_0 : DX7_isSimple_0.all (fun q => decide (decode cX7_isSimple q.1 = .ok q.2)) = true := by decide +kernel
theorem dX7_isSimple_0 : decode cX7_isSimple 0 = .ok (.aload_n 0, 1) := dec_at kDX7_isSimple_0 0 rfl
theorem dX7_isSimple_1 : decode cX7_isSimple 1 = .ok (.getfield 57, 3) := dec_at kDX7_isSimple_0 1 rfl
theorem dX7_isSimple_4 : decode cX7_isSimple 4 = .ok (.iconst 0, 1) := dec_at kDX7_isSimple_0 2 rfl
theorem dX7_isSimple_5 : decode cX7_isSimple 5 = .ok (.iload_n 1, 1) := dec_at kDX7_isSimple_0 3 rfl
theorem dX7_isSimple_6 : decode cX7_isSimple 6 = .ok (.iastore, 1) := dec_at kDX7_isSimple_0 4 rfl
theorem dX7_isSimple_7 : decode cX7_isSimple 7 = .ok (.aload_n 0, 1) := dec_at kDX7_isSimple_0 5 rfl
theorem dX7_isSimple_8 : decode cX7_isSimple 8 = .ok (.getfield 60, 3) := dec_at kDX7_isSimple_0 6 rfl
theorem dX7_isSimple_11 : decode cX7_isSimple 11 = .ok (.iconst 0, 1) := dec_at kDX7_isSimple_0 7 rfl
theorem dX7_isSimple_12 : decode cX7_isSimple 12 = .ok (.iconst 0, 1) := dec_at kDX7_isSimple_0 8 rfl
theorem dX7_isSimple_13 : decode cX7_isSimple 13 = .ok (.iastore, 1) := dec_at kDX7_isSimple_0 9 rfl
theorem dX7_isSimple_14 : decode cX7_isSimple 14 = .ok (.iconst 0, 1) := dec_at kDX7_isSimple_0 10 rfl
theorem dX7_isSimple_15 : decode cX7_isSimple 15 = .ok (.istore_n 3, 1) := dec_at kDX7_isSimple_0 11 rfl
theorem dX7_isSimple_16 : decode cX7_isSimple 16 = .ok (.iload_n 3, 1) := dec_at kDX7_isSimple_0 12 rfl
theorem dX7_isSimple_17 : decode cX7_isSimple 17 = .ok (.ifCond .lt 106, 3) := dec_at kDX7_isSimple_0 13 rfl
theorem dX7_isSimple_20 : decode cX7_isSimple 20 = .ok (.iload_n 3, 1) := dec_at kDX7_isSimple_0 14 rfl
theorem dX7_isSimple_21 : decode cX7_isSimple 21 = .ok (.iload_n 2, 1) := dec_at kDX7_isSimple_0 15 rfl
theorem dX7_isSimple_22 : decode cX7_isSimple 22 = .ok (.if_icmp .ge 101, 3) := dec_at kDX7_isSimple_0 16 rfl
theorem dX7_isSimple_25 : decode cX7_isSimple 25 = .ok (.aload_n 0, 1) := dec_at kDX7_isSimple_0 17 rfl
theorem dX7_isSimple_26 : decode cX7_isSimple 26 = .ok (.getfield 60, 3) := dec_at kDX7_isSimple_0 18 rfl
theorem dX7_isSimple_29 : decode cX7_isSimple 29 = .ok (.iload_n 3, 1) := dec_at kDX7_isSimple_0 19 rfl
theorem dX7_isSimple_30 : decode cX7_isSimple 30 = .ok (.iaload, 1) := dec_at kDX7_isSimple_0 20 rfl
theorem dX7_isSimple_31 : decode cX7_isSimple 31 = .ok (.aload_n 0, 1) := dec_at kDX7_isSimple_0 21 rfl
theorem dX7_isSimple_32 : decode cX7_isSimple 32 = .ok (.invokevirtual 188, 3) := dec_at kDX7_isSimple_0 22 rfl
theorem dX7_isSimple_35 : decode cX7_isSimple 35 = .ok (.if_icmp .ne 9, 3) := dec_at kDX7_isSimple_0 23 rfl
theorem dX7_isSimple_38 : decode cX7_isSimple 38 = .ok (.iinc 3 (-1), 3) := dec_at kDX7_isSimple_0 24 rfl
theorem dX7_isSimple_41 : decode cX7_isSimple 41 = .ok (.goto (-25), 3) := dec_at kDX7_isSimple_0 25 rfl
theorem dX7_isSimple_44 : decode cX7_isSimple 44 = .ok (.aload_n 0, 1) := dec_at kDX7_isSimple_0 26 rfl
theorem dX7_isSimple_45 : decode cX7_isSimple 45 = .ok (.aload_n 0, 1) := dec_at kDX7_isSimple_0 27 rfl
theorem dX7_isSimple_46 : decode cX7_isSimple 46 = .ok (.getfield 57, 3) := dec_at kDX7_isSimple_0 28 rfl
theorem dX7_isSimple_49 : decode cX7_isSimple 49 = .ok (.iload_n 3, 1) := dec_at kDX7_isSimple_0 29 rfl
theorem dX7_isSimple_50 : decode cX7_isSimple 50 = .ok (.iaload, 1) := dec_at kDX7_isSimple_0 30 rfl
theorem dX7_isSimple_51 : decode cX7_isSimple 51 = .ok (.aload_n 0, 1) := dec_at kDX7_isSimple_0 31 rfl
theorem dX7_isSimple_52 : decode cX7_isSimple 52 = .ok (.getfield 60, 3) := dec_at kDX7_isSimple_0 32 rfl
theorem dX7_isSimple_55 : decode cX7_isSimple 55 = .ok (.iload_n 3, 1) := dec_at kDX7_isSimple_0 33 rfl
theorem dX7_isSimple_56 : decode cX7_isSimple 56 = .ok (.iaload, 1) := dec_at kDX7_isSimple_0 34 rfl
theorem dX7_isSimple_57 : decode cX7_isSimple 57 = .ok (.invokevirtual 205, 3) := dec_at kDX7_isSimple_0 35 rfl
theorem dX7_isSimple_60 : decode cX7_isSimple 60 = .ok (.istore 4, 2) := dec_at kDX7_isSimple_0 36 rfl
theorem dX7_isSimple_62 : decode cX7_isSimple 62 = .ok (.aload_n 0, 1) := dec_at kDX7_isSimple_0 37 rfl
theorem dX7_isSimple_63 : decode cX7_isSimple 63 = .ok (.getfield 60, 3) := dec_at kDX7_isSimple_0 38 rfl
theorem dX7_isSimple_66 : decode cX7_isSimple 66 = .ok (.iload_n 3, 1) := dec_at kDX7_isSimple_0 39 rfl
theorem dX7_isSimple_67 : decode cX7_isSimple 67 = .ok (.dup2, 1) := dec_at kDX7_isSimple_0 40 rfl
theorem dX7_isSimple_68 : decode cX7_isSimple 68 = .ok (.iaload, 1) := dec_at kDX7_isSimple_0 41 rfl
theorem dX7_isSimple_69 : decode cX7_isSimple 69 = .ok (.iconst 1, 1) := dec_at kDX7_isSimple_0 42 rfl
theorem dX7_isSimple_70 : decode cX7_isSimple 70 = .ok (.iadd, 1) := dec_at kDX7_isSimple_0 43 rfl
theorem dX7_isSimple_71 : decode cX7_isSimple 71 = .ok (.iastore, 1) := dec_at kDX7_isSimple_0 44 rfl
theorem dX7_isSimple_72 : decode cX7_isSimple 72 = .ok (.aload_n 0, 1) := dec_at kDX7_isSimple_0 45 rfl
theorem dX7_isSimple_73 : decode cX7_isSimple 73 = .ok (.getfield 54, 3) := dec_at kDX7_isSimple_0 46 rfl
theorem dX7_isSimple_76 : decode cX7_isSimple 76 = .ok (.iload_n 2, 1) := dec_at kDX7_isSimple_0 47 rfl
theorem dX7_isSimple_77 : decode cX7_isSimple 77 = .ok (.iload_n 3, 1) := dec_at kDX7_isSimple_0 48 rfl
theorem dX7_isSimple_78 : decode cX7_isSimple 78 = .ok (.isub, 1) := dec_at kDX7_isSimple_0 49 rfl
def DX7_isSimple_50 : List (Nat × (Instr × Nat)) := [(79, (.iconst 1, 1)), (80, (.isub, 1)), (81, (.laload, 1)), (82, (.iload 4, 2)), (84, (.invokestatic 74, 3)), (87, (.ifCond .eq 33, 3)), (90, (.aload_n 0, 1)), (91, (.iload_n 3, 1)), (92, (.iconst 1, 1)), (93, (.iadd, 1)), (94, (.iload 4, 2)), (96, (.invokevirtual 366, 3)), (99, (.ifCond .ne 21, 3)), (102, (.iinc 3 1, 3)), (105, (.aload_n 0, 1)), (106, (.getfield 57, 3)), (109, (.iload_n 3, 1)), (110, (.iload 4, 2)), (112, (.iastore, 1)), (113, (.aload_n 0, 1)), (114, (.getfield 60, 3)), (117, (.iload_n 3, 1)), (118, (.iconst 0, 1)), (119, (.iastore, 1)), (120, (.goto (-104), 3)), (123, (.iload_n 3, 1)), (124, (.iload_n 2, 1)), (125, (.if_icmp .ne 7, 3)), (128, (.iconst 1, 1)), (129, (.goto 4, 3)), (132, (.iconst 0, 1)), (133, (.ireturn, 1))]
theorem kDX7_isSimple_50 : DX7_isSimple_50.all (fun q => decide (decode cX7_isSimple q.1 = .ok q.2)) = true := by decide +kernel
theorem dX7_isSimple_79 : decode cX7_isSimple 79 = .ok (.iconst 1, 1) := dec_at kDX7_isSimple_50 0 rfl
theorem dX7_isSimple_80 : decode cX7_isSimple 80 = .ok (.isub, 1) := dec_at kDX7_isSimple_50 1 rfl
theorem dX7_isSimple_81 : decode cX7_isSimple 81 = .ok (.laload, 1) := dec_at kDX7_isSimple_50 2 rfl
theorem dX7_isSimple_82 : decode cX7_isSimple 82 = .ok (.iload 4, 2) := dec_at kDX7_isSimple_50 3 rfl
theorem dX7_isSimple_84 : decode cX7_isSimple 84 = .ok (.invokestatic 74, 3) := dec_at kDX7_isSimple_50 4 rfl
theorem dX7_isSimple_87 : decode cX7_isSimple 87 = .ok (.ifCond .eq 33, 3) := dec_at kDX7_isSimple_50 5 rfl
theorem dX7_isSimple_90 : decode cX7_isSimple 90 = .ok (.aload_n 0, 1) := dec_at kDX7_isSimple_50 6 rfl
theorem dX7_isSimple_91 : decode cX7_isSimple 91 = .ok (.iload_n 3, 1) := dec_at kDX7_isSimple_50 7 rfl
theorem dX7_isSimple_92 : decode cX7_isSimple 92 = .ok (.iconst 1, 1) := dec_at kDX7_isSimple_50 8 rfl
theorem dX7_isSimple_93 : decode cX7_isSimple 93 = .ok (.iadd, 1) := dec_at kDX7_isSimple_50 9 rfl
theorem dX7_isSimple_94 : decode cX7_isSimple 94 = .ok (.iload 4, 2) := dec_at kDX7_isSimple_50 10 rfl
theorem dX7_isSimple_96 : decode cX7_isSimple 96 = .ok (.invokevirtual 366, 3) := dec_at kDX7_isSimple_50 11 rfl
theorem dX7_isSimple_99 : decode cX7_isSimple 99 = .ok (.ifCond .ne 21, 3) := dec_at kDX7_isSimple_50 12 rfl
theorem dX7_isSimple_102 : decode cX7_isSimple 102 = .ok (.iinc 3 1, 3) := dec_at kDX7_isSimple_50 13 rfl
theorem dX7_isSimple_105 : decode cX7_isSimple 105 = .ok (.aload_n 0, 1) := dec_at kDX7_isSimple_50 14 rfl
theorem dX7_isSimple_106 : decode cX7_isSimple 106 = .ok (.getfield 57, 3) := dec_at kDX7_isSimple_50 15 rfl
theorem dX7_isSimple_109 : decode cX7_isSimple 109 = .ok (.iload_n 3, 1) := dec_at kDX7_isSimple_50 16 rfl
theorem dX7_isSimple_110 : decode cX7_isSimple 110 = .ok (.iload 4, 2) := dec_at kDX7_isSimple_50 17 rfl
theorem dX7_isSimple_112 : decode cX7_isSimple 112 = .ok (.iastore, 1) := dec_at kDX7_isSimple_50 18 rfl
theorem dX7_isSimple_113 : decode cX7_isSimple 113 = .ok (.aload_n 0, 1) := dec_at kDX7_isSimple_50 19 rfl
theorem dX7_isSimple_114 : decode cX7_isSimple 114 = .ok (.getfield 60, 3) := dec_at kDX7_isSimple_50 20 rfl
theorem dX7_isSimple_117 : decode cX7_isSimple 117 = .ok (.iload_n 3, 1) := dec_at kDX7_isSimple_50 21 rfl
theorem dX7_isSimple_118 : decode cX7_isSimple 118 = .ok (.iconst 0, 1) := dec_at kDX7_isSimple_50 22 rfl
theorem dX7_isSimple_119 : decode cX7_isSimple 119 = .ok (.iastore, 1) := dec_at kDX7_isSimple_50 23 rfl
theorem dX7_isSimple_120 : decode cX7_isSimple 120 = .ok (.goto (-104), 3) := dec_at kDX7_isSimple_50 24 rfl
theorem dX7_isSimple_123 : decode cX7_isSimple 123 = .ok (.iload_n 3, 1) := dec_at kDX7_isSimple_50 25 rfl
theorem dX7_isSimple_124 : decode cX7_isSimple 124 = .ok (.iload_n 2, 1) := dec_at kDX7_isSimple_50 26 rfl
theorem dX7_isSimple_125 : decode cX7_isSimple 125 = .ok (.if_icmp .ne 7, 3) := dec_at kDX7_isSimple_50 27 rfl
theorem dX7_isSimple_128 : decode cX7_isSimple 128 = .ok (.iconst 1, 1) := dec_at kDX7_isSimple_50 28 rfl
theorem dX7_isSimple_129 : decode cX7_isSimple 129 = .ok (.goto 4, 3) := dec_at kDX7_isSimple_50 29 rfl
theorem dX7_isSimple_132 : decode cX7_isSimple 132 = .ok (.iconst 0, 1) := dec_at kDX7_isSimple_50 30 rfl
theorem dX7_isSimple_133 : decode cX7_isSimple 133 = .ok (.ireturn, 1) := dec_at kDX7_isSimple_50 31 rfl
def DX7_leads_0 : List (Nat × (Instr × Nat)) := [(0, (.iconst 0, 1)), (1, (.istore_n 3, 1)), (2, (.iconst 0, 1)), (3, (.istore 4, 2)), (5, (.iload 4, 2)), (7, (.aload_n 0, 1)), (8, (.invokevirtual 86, 3)), (11, (.if_icmp .ge 47, 3)), (14, (.iload_n 3, 1)), (15, (.ifCond .ne 31, 3)), (18, (.aload_n 0, 1)), (19, (.getfield 54, 3)), (22, (.iload_n 1, 1)), (23, (.laload, 1)), (24, (.iload 4, 2)), (26, (.invokestatic 74, 3)), (29, (.ifCond .eq 21, 3)), (32, (.iload_n 2, 1)), (33, (.ifCond .eq 13, 3)), (36, (.aload_n 0, 1)), (37, (.iload 4, 2)), (39, (.iload_n 1, 1)), (40, (.invokevirtual 369, 3)), (43, (.ifCond .eq 7, 3)), (46, (.iconst 1, 1)), (47, (.goto 4, 3)), (50, (.iconst 0, 1)), (51, (.istore_n 3, 1)), (52, (.iinc 4 1, 3)), (55, (.goto (-50), 3)), (58, (.iload_n 3, 1)), (59, (.ireturn, 1))]
theorem kDX7_leads_0 : DX7_leads_0.all (fun q => decide (decode cX7_leads q.1 = .ok q.2)) = true := by decide +kernel
theorem dX7_leads_0 : decode cX7_leads 0 = .ok (.iconst 0, 1) := dec_at kDX7_leads_0 0 rfl
theorem dX7_leads_1 : decode cX7_leads 1 = .ok (.istore_n 3, 1) := dec_at kDX7_leads_0 1 rfl
theorem dX7_leads_2 : decode cX7_leads 2 = .ok (.iconst 0, 1) := dec_at kDX7_leads_0 2 rfl
theorem dX7_leads_3 : decode cX7_leads 3 = .ok (.istore 4, 2) := dec_at kDX7_leads_0 3 rfl
theorem dX7_leads_5 : decode cX7_leads 5 = .ok (.iload 4, 2) := dec_at kDX7_leads_0 4 rfl
theorem dX7_leads_7 : decode cX7_leads 7 = .ok (.aload_n 0, 1) := dec_at kDX7_leads_0 5 rfl
theorem dX7_leads_8 : decode cX7_leads 8 = .ok (.invokevirtual 86, 3) := dec_at kDX7_leads_0 6 rfl
theorem dX7_leads_11 : decode cX7_leads 11 = .ok (.if_icmp .ge 47, 3) := dec_at kDX7_leads_0 7 rfl
theorem dX7_leads_14 : decode cX7_leads 14 = .ok (.iload_n 3, 1) := dec_at kDX7_leads_0 8 rfl
theorem dX7_leads_15 : decode cX7_leads 15 = .ok (.ifCond .ne 31, 3) := dec_at kDX7_leads_0 9 rfl
theorem dX7_leads_18 : decode cX7_leads 18 = .ok (.aload_n 0, 1) := dec_at kDX7_leads_0 10 rfl
theorem dX7_leads_19 : decode cX7_leads 19 = .ok (.getfield 54, 3) := dec_at kDX7_leads_0 11 rfl
theorem dX7_leads_22 : decode cX7_leads 22 = .ok (.iload_n 1, 1) := dec_at kDX7_leads_0 12 rfl
theorem dX7_leads_23 : decode cX7_leads 23 = .ok (.laload, 1) := dec_at kDX7_leads_0 13 rfl
theorem dX7_leads_24 : decode cX7_leads 24 = .ok (.iload 4, 2) := dec_at kDX7_leads_0 14 rfl
theorem dX7_leads_26 : decode cX7_leads 26 = .ok (.invokestatic 74, 3) := dec_at kDX7_leads_0 15 rfl
theorem dX7_leads_29 : decode cX7_leads 29 = .ok (.ifCond .eq 21, 3) := dec_at kDX7_leads_0 16 rfl
theorem dX7_leads_32 : decode cX7_leads 32 = .ok (.iload_n 2, 1) := dec_at kDX7_leads_0 17 rfl
theorem dX7_leads_33 : decode cX7_leads 33 = .ok (.ifCond .eq 13, 3) := dec_at kDX7_leads_0 18 rfl
theorem dX7_leads_36 : decode cX7_leads 36 = .ok (.aload_n 0, 1) := dec_at kDX7_leads_0 19 rfl
theorem dX7_leads_37 : decode cX7_leads 37 = .ok (.iload 4, 2) := dec_at kDX7_leads_0 20 rfl
theorem dX7_leads_39 : decode cX7_leads 39 = .ok (.iload_n 1, 1) := dec_at kDX7_leads_0 21 rfl
theorem dX7_leads_40 : decode cX7_leads 40 = .ok (.invokevirtual 369, 3) := dec_at kDX7_leads_0 22 rfl
theorem dX7_leads_43 : decode cX7_leads 43 = .ok (.ifCond .eq 7, 3) := dec_at kDX7_leads_0 23 rfl
theorem dX7_leads_46 : decode cX7_leads 46 = .ok (.iconst 1, 1) := dec_at kDX7_leads_0 24 rfl
theorem dX7_leads_47 : decode cX7_leads 47 = .ok (.goto 4, 3) := dec_at kDX7_leads_0 25 rfl
theorem dX7_leads_50 : decode cX7_leads 50 = .ok (.iconst 0, 1) := dec_at kDX7_leads_0 26 rfl
theorem dX7_leads_51 : decode cX7_leads 51 = .ok (.istore_n 3, 1) := dec_at kDX7_leads_0 27 rfl
theorem dX7_leads_52 : decode cX7_leads 52 = .ok (.iinc 4 1, 3) := dec_at kDX7_leads_0 28 rfl
theorem dX7_leads_55 : decode cX7_leads 55 = .ok (.goto (-50), 3) := dec_at kDX7_leads_0 29 rfl
theorem dX7_leads_58 : decode cX7_leads 58 = .ok (.iload_n 3, 1) := dec_at kDX7_leads_0 30 rfl
theorem dX7_leads_59 : decode cX7_leads 59 = .ok (.ireturn, 1) := dec_at kDX7_leads_0 31 rfl
def DX7_inductionNow_0 : List (Nat × (Instr × Nat)) := [(0, (.aload_n 0, 1)), (1, (.getfield 54, 3)), (4, (.iconst 0, 1)), (5, (.aload_n 0, 1)), (6, (.invokevirtual 219, 3)), (9, (.lastore, 1)), (10, (.iconst 1, 1)), (11, (.istore_n 2, 1)), (12, (.iload_n 2, 1)), (13, (.bipush 6, 2)), (15, (.if_icmp .gt 32, 3)), (18, (.aload_n 0, 1)), (19, (.getfield 54, 3)), (22, (.iload_n 2, 1)), (23, (.aload_n 0, 1)), (24, (.getfield 102, 3)), (27, (.aload_n 0, 1)), (28, (.aload_n 0, 1)), (29, (.getfield 54, 3)), (32, (.iload_n 2, 1)), (33, (.iconst 1, 1)), (34, (.isub, 1)), (35, (.laload, 1)), (36, (.invokevirtual 209, 3)), (39, (.land, 1)), (40, (.lastore, 1)), (41, (.iinc 2 1, 3)), (44, (.goto (-32), 3)), (47, (.aload_n 0, 1)), (48, (.getfield 94, 3)), (51, (.lstore_n 2, 1)), (52, (.iconst 0, 1)), (53, (.istore 4, 2)), (55, (.iload 4, 2)), (57, (.bipush 6, 2)), (59, (.if_icmp .gt 41, 3)), (62, (.aload_n 0, 1)), (63, (.iload 4, 2)), (65, (.iload_n 1, 1)), (66, (.invokevirtual 372, 3)), (69, (.ifCond .ne 6, 3)), (72, (.iload 4, 2)), (74, (.ireturn, 1)), (75, (.lload_n 2, 1)), (76, (.aload_n 0, 1)), (77, (.invokevirtual 219, 3)), (80, (.land, 1)), (81, (.lconst 0, 1)), (82, (.lcmp, 1)), (83, (.ifCond .eq 5, 3))]
theorem kDX7_inductionNow_0 : DX7_inductionNow_0.all (fun q => decide (decode cX7_inductionNow q.1 = .ok q.2)) = true := by decide +kernel
theorem dX7_inductionNow_0 : decode cX7_inductionNow 0 = .ok (.aload_n 0, 1) := dec_at kDX7_inductionNow_0 0 rfl
theorem dX7_inductionNow_1 : decode cX7_inductionNow 1 = .ok (.getfield 54, 3) := dec_at kDX7_inductionNow_0 1 rfl
theorem dX7_inductionNow_4 : decode cX7_inductionNow 4 = .ok (.iconst 0, 1) := dec_at kDX7_inductionNow_0 2 rfl
theorem dX7_inductionNow_5 : decode cX7_inductionNow 5 = .ok (.aload_n 0, 1) := dec_at kDX7_inductionNow_0 3 rfl
theorem dX7_inductionNow_6 : decode cX7_inductionNow 6 = .ok (.invokevirtual 219, 3) := dec_at kDX7_inductionNow_0 4 rfl
theorem dX7_inductionNow_9 : decode cX7_inductionNow 9 = .ok (.lastore, 1) := dec_at kDX7_inductionNow_0 5 rfl
theorem dX7_inductionNow_10 : decode cX7_inductionNow 10 = .ok (.iconst 1, 1) := dec_at kDX7_inductionNow_0 6 rfl
theorem dX7_inductionNow_11 : decode cX7_inductionNow 11 = .ok (.istore_n 2, 1) := dec_at kDX7_inductionNow_0 7 rfl
theorem dX7_inductionNow_12 : decode cX7_inductionNow 12 = .ok (.iload_n 2, 1) := dec_at kDX7_inductionNow_0 8 rfl
theorem dX7_inductionNow_13 : decode cX7_inductionNow 13 = .ok (.bipush 6, 2) := dec_at kDX7_inductionNow_0 9 rfl
theorem dX7_inductionNow_15 : decode cX7_inductionNow 15 = .ok (.if_icmp .gt 32, 3) := dec_at kDX7_inductionNow_0 10 rfl
theorem dX7_inductionNow_18 : decode cX7_inductionNow 18 = .ok (.aload_n 0, 1) := dec_at kDX7_inductionNow_0 11 rfl
theorem dX7_inductionNow_19 : decode cX7_inductionNow 19 = .ok (.getfield 54, 3) := dec_at kDX7_inductionNow_0 12 rfl
theorem dX7_inductionNow_22 : decode cX7_inductionNow 22 = .ok (.iload_n 2, 1) := dec_at kDX7_inductionNow_0 13 rfl
theorem dX7_inductionNow_23 : decode cX7_inductionNow 23 = .ok (.aload_n 0, 1) := dec_at kDX7_inductionNow_0 14 rfl
theorem dX7_inductionNow_24 : decode cX7_inductionNow 24 = .ok (.getfield 102, 3) := dec_at kDX7_inductionNow_0 15 rfl
theorem dX7_inductionNow_27 : decode cX7_inductionNow 27 = .ok (.aload_n 0, 1) := dec_at kDX7_inductionNow_0 16 rfl
theorem dX7_inductionNow_28 : decode cX7_inductionNow 28 = .ok (.aload_n 0, 1) := dec_at kDX7_inductionNow_0 17 rfl
theorem dX7_inductionNow_29 : decode cX7_inductionNow 29 = .ok (.getfield 54, 3) := dec_at kDX7_inductionNow_0 18 rfl
theorem dX7_inductionNow_32 : decode cX7_inductionNow 32 = .ok (.iload_n 2, 1) := dec_at kDX7_inductionNow_0 19 rfl
theorem dX7_inductionNow_33 : decode cX7_inductionNow 33 = .ok (.iconst 1, 1) := dec_at kDX7_inductionNow_0 20 rfl
theorem dX7_inductionNow_34 : decode cX7_inductionNow 34 = .ok (.isub, 1) := dec_at kDX7_inductionNow_0 21 rfl
theorem dX7_inductionNow_35 : decode cX7_inductionNow 35 = .ok (.laload, 1) := dec_at kDX7_inductionNow_0 22 rfl
theorem dX7_inductionNow_36 : decode cX7_inductionNow 36 = .ok (.invokevirtual 209, 3) := dec_at kDX7_inductionNow_0 23 rfl
theorem dX7_inductionNow_39 : decode cX7_inductionNow 39 = .ok (.land, 1) := dec_at kDX7_inductionNow_0 24 rfl
theorem dX7_inductionNow_40 : decode cX7_inductionNow 40 = .ok (.lastore, 1) := dec_at kDX7_inductionNow_0 25 rfl
theorem dX7_inductionNow_41 : decode cX7_inductionNow 41 = .ok (.iinc 2 1, 3) := dec_at kDX7_inductionNow_0 26 rfl
theorem dX7_inductionNow_44 : decode cX7_inductionNow 44 = .ok (.goto (-32), 3) := dec_at kDX7_inductionNow_0 27 rfl
theorem dX7_inductionNow_47 : decode cX7_inductionNow 47 = .ok (.aload_n 0, 1) := dec_at kDX7_inductionNow_0 28 rfl
theorem dX7_inductionNow_48 : decode cX7_inductionNow 48 = .ok (.getfield 94, 3) := dec_at kDX7_inductionNow_0 29 rfl
theorem dX7_inductionNow_51 : decode cX7_inductionNow 51 = .ok (.lstore_n 2, 1) := dec_at kDX7_inductionNow_0 30 rfl
theorem dX7_inductionNow_52 : decode cX7_inductionNow 52 = .ok (.iconst 0, 1) := dec_at kDX7_inductionNow_0 31 rfl
theorem dX7_inductionNow_53 : decode cX7_inductionNow 53 = .ok (.istore 4, 2) := dec_at kDX7_inductionNow_0 32 rfl
theorem dX7_inductionNow_55 : decode cX7_inductionNow 55 = .ok (.iload 4, 2) := dec_at kDX7_inductionNow_0 33 rfl
theorem dX7_inductionNow_57 : decode cX7_inductionNow 57 = .ok (.bipush 6, 2) := dec_at kDX7_inductionNow_0 34 rfl
theorem dX7_inductionNow_59 : decode cX7_inductionNow 59 = .ok (.if_icmp .gt 41, 3) := dec_at kDX7_inductionNow_0 35 rfl
theorem dX7_inductionNow_62 : decode cX7_inductionNow 62 = .ok (.aload_n 0, 1) := dec_at kDX7_inductionNow_0 36 rfl
theorem dX7_inductionNow_63 : decode cX7_inductionNow 63 = .ok (.iload 4, 2) := dec_at kDX7_inductionNow_0 37 rfl
theorem dX7_inductionNow_65 : decode cX7_inductionNow 65 = .ok (.iload_n 1, 1) := dec_at kDX7_inductionNow_0 38 rfl
theorem dX7_inductionNow_66 : decode cX7_inductionNow 66 = .ok (.invokevirtual 372, 3) := dec_at kDX7_inductionNow_0 39 rfl
theorem dX7_inductionNow_69 : decode cX7_inductionNow 69 = .ok (.ifCond .ne 6, 3) := dec_at kDX7_inductionNow_0 40 rfl
theorem dX7_inductionNow_72 : decode cX7_inductionNow 72 = .ok (.iload 4, 2) := dec_at kDX7_inductionNow_0 41 rfl
theorem dX7_inductionNow_74 : decode cX7_inductionNow 74 = .ok (.ireturn, 1) := dec_at kDX7_inductionNow_0 42 rfl
theorem dX7_inductionNow_75 : decode cX7_inductionNow 75 = .ok (.lload_n 2, 1) := dec_at kDX7_inductionNow_0 43 rfl
theorem dX7_inductionNow_76 : decode cX7_inductionNow 76 = .ok (.aload_n 0, 1) := dec_at kDX7_inductionNow_0 44 rfl
theorem dX7_inductionNow_77 : decode cX7_inductionNow 77 = .ok (.invokevirtual 219, 3) := dec_at kDX7_inductionNow_0 45 rfl
theorem dX7_inductionNow_80 : decode cX7_inductionNow 80 = .ok (.land, 1) := dec_at kDX7_inductionNow_0 46 rfl
theorem dX7_inductionNow_81 : decode cX7_inductionNow 81 = .ok (.lconst 0, 1) := dec_at kDX7_inductionNow_0 47 rfl
theorem dX7_inductionNow_82 : decode cX7_inductionNow 82 = .ok (.lcmp, 1) := dec_at kDX7_inductionNow_0 48 rfl
theorem dX7_inductionNow_83 : decode cX7_inductionNow 83 = .ok (.ifCond .eq 5, 3) := dec_at kDX7_inductionNow_0 49 rfl
def DX7_inductionNow_50 : List (Nat × (Instr × Nat)) := [(86, (.iconst (-1), 1)), (87, (.ireturn, 1)), (88, (.aload_n 0, 1)), (89, (.lload_n 2, 1)), (90, (.invokevirtual 213, 3)), (93, (.lstore_n 2, 1)), (94, (.iinc 4 1, 3)), (97, (.goto (-42), 3)), (100, (.iconst (-1), 1)), (101, (.ireturn, 1))]
theorem kDX7_inductionNow_50 : DX7_inductionNow_50.all (fun q => decide (decode cX7_inductionNow q.1 = .ok q.2)) = true := by decide +kernel
theorem dX7_inductionNow_86 : decode cX7_inductionNow 86 = .ok (.iconst (-1), 1) := dec_at kDX7_inductionNow_50 0 rfl
theorem dX7_inductionNow_87 : decode cX7_inductionNow 87 = .ok (.ireturn, 1) := dec_at kDX7_inductionNow_50 1 rfl
theorem dX7_inductionNow_88 : decode cX7_inductionNow 88 = .ok (.aload_n 0, 1) := dec_at kDX7_inductionNow_50 2 rfl
theorem dX7_inductionNow_89 : decode cX7_inductionNow 89 = .ok (.lload_n 2, 1) := dec_at kDX7_inductionNow_50 3 rfl
theorem dX7_inductionNow_90 : decode cX7_inductionNow 90 = .ok (.invokevirtual 213, 3) := dec_at kDX7_inductionNow_50 4 rfl
theorem dX7_inductionNow_93 : decode cX7_inductionNow 93 = .ok (.lstore_n 2, 1) := dec_at kDX7_inductionNow_50 5 rfl
theorem dX7_inductionNow_94 : decode cX7_inductionNow 94 = .ok (.iinc 4 1, 3) := dec_at kDX7_inductionNow_50 6 rfl
theorem dX7_inductionNow_97 : decode cX7_inductionNow 97 = .ok (.goto (-42), 3) := dec_at kDX7_inductionNow_50 7 rfl
theorem dX7_inductionNow_100 : decode cX7_inductionNow 100 = .ok (.iconst (-1), 1) := dec_at kDX7_inductionNow_50 8 rfl
theorem dX7_inductionNow_101 : decode cX7_inductionNow 101 = .ok (.ireturn, 1) := dec_at kDX7_inductionNow_50 9 rfl
def DX7_induction_0 : List (Nat × (Instr × Nat)) := [(0, (.aload_n 0, 1)), (1, (.iconst 0, 1)), (2, (.putfield 70, 3)), (5, (.aload_n 0, 1)), (6, (.iload_n 1, 1)), (7, (.invokevirtual 376, 3)), (10, (.ireturn, 1))]
theorem kDX7_induction_0 : DX7_induction_0.all (fun q => decide (decode cX7_induction q.1 = .ok q.2)) = true := by decide +kernel
theorem dX7_induction_0 : decode cX7_induction 0 = .ok (.aload_n 0, 1) := dec_at kDX7_induction_0 0 rfl
theorem dX7_induction_1 : decode cX7_induction 1 = .ok (.iconst 0, 1) := dec_at kDX7_induction_0 1 rfl
theorem dX7_induction_2 : decode cX7_induction 2 = .ok (.putfield 70, 3) := dec_at kDX7_induction_0 2 rfl
theorem dX7_induction_5 : decode cX7_induction 5 = .ok (.aload_n 0, 1) := dec_at kDX7_induction_0 3 rfl
theorem dX7_induction_6 : decode cX7_induction 6 = .ok (.iload_n 1, 1) := dec_at kDX7_induction_0 4 rfl
theorem dX7_induction_7 : decode cX7_induction 7 = .ok (.invokevirtual 376, 3) := dec_at kDX7_induction_0 5 rfl
theorem dX7_induction_10 : decode cX7_induction 10 = .ok (.ireturn, 1) := dec_at kDX7_induction_0 6 rfl
def DX7_isLeft_0 : List (Nat × (Instr × Nat)) := [(0, (.iload_n 1, 1)), (1, (.invokestatic 379, 3)), (4, (.iconst 1, 1)), (5, (.iload_n 3, 1)), (6, (.invokestatic 112, 3)), (9, (.ifCond .eq 29, 3)), (12, (.iload_n 2, 1)), (13, (.iload_n 1, 1)), (14, (.iconst (-1), 1)), (15, (.ixor, 1)), (16, (.iand, 1)), (17, (.ifCond .ne 21, 3)), (20, (.aload_n 0, 1)), (21, (.getfield 63, 3)), (24, (.bipush 64, 2)), (26, (.iload_n 1, 1)), (27, (.imul, 1)), (28, (.iload_n 2, 1)), (29, (.iadd, 1)), (30, (.baload, 1)), (31, (.ifCond .ne 7, 3)), (34, (.iconst 1, 1)), (35, (.goto 4, 3)), (38, (.iconst 0, 1)), (39, (.ireturn, 1))]
theorem kDX7_isLeft_0 : DX7_isLeft_0.all (fun q => decide (decode cX7_isLeft q.1 = .ok q.2)) = true := by decide +kernel
theorem dX7_isLeft_0 : decode cX7_isLeft 0 = .ok (.iload_n 1, 1) := dec_at kDX7_isLeft_0 0 rfl
theorem dX7_isLeft_1 : decode cX7_isLeft 1 = .ok (.invokestatic 379, 3) := dec_at kDX7_isLeft_0 1 rfl
theorem dX7_isLeft_4 : decode cX7_isLeft 4 = .ok (.iconst 1, 1) := dec_at kDX7_isLeft_0 2 rfl
theorem dX7_isLeft_5 : decode cX7_isLeft 5 = .ok (.iload_n 3, 1) := dec_at kDX7_isLeft_0 3 rfl
theorem dX7_isLeft_6 : decode cX7_isLeft 6 = .ok (.invokestatic 112, 3) := dec_at kDX7_isLeft_0 4 rfl
theorem dX7_isLeft_9 : decode cX7_isLeft 9 = .ok (.ifCond .eq 29, 3) := dec_at kDX7_isLeft_0 5 rfl
theorem dX7_isLeft_12 : decode cX7_isLeft 12 = .ok (.iload_n 2, 1) := dec_at kDX7_isLeft_0 6 rfl
theorem dX7_isLeft_13 : decode cX7_isLeft 13 = .ok (.iload_n 1, 1) := dec_at kDX7_isLeft_0 7 rfl
theorem dX7_isLeft_14 : decode cX7_isLeft 14 = .ok (.iconst (-1), 1) := dec_at kDX7_isLeft_0 8 rfl
theorem dX7_isLeft_15 : decode cX7_isLeft 15 = .ok (.ixor, 1) := dec_at kDX7_isLeft_0 9 rfl
theorem dX7_isLeft_16 : decode cX7_isLeft 16 = .ok (.iand, 1) := dec_at kDX7_isLeft_0 10 rfl
theorem dX7_isLeft_17 : decode cX7_isLeft 17 = .ok (.ifCond .ne 21, 3) := dec_at kDX7_isLeft_0 11 rfl
theorem dX7_isLeft_20 : decode cX7_isLeft 20 = .ok (.aload_n 0, 1) := dec_at kDX7_isLeft_0 12 rfl
theorem dX7_isLeft_21 : decode cX7_isLeft 21 = .ok (.getfield 63, 3) := dec_at kDX7_isLeft_0 13 rfl
theorem dX7_isLeft_24 : decode cX7_isLeft 24 = .ok (.bipush 64, 2) := dec_at kDX7_isLeft_0 14 rfl
theorem dX7_isLeft_26 : decode cX7_isLeft 26 = .ok (.iload_n 1, 1) := dec_at kDX7_isLeft_0 15 rfl
theorem dX7_isLeft_27 : decode cX7_isLeft 27 = .ok (.imul, 1) := dec_at kDX7_isLeft_0 16 rfl
theorem dX7_isLeft_28 : decode cX7_isLeft 28 = .ok (.iload_n 2, 1) := dec_at kDX7_isLeft_0 17 rfl
theorem dX7_isLeft_29 : decode cX7_isLeft 29 = .ok (.iadd, 1) := dec_at kDX7_isLeft_0 18 rfl
theorem dX7_isLeft_30 : decode cX7_isLeft 30 = .ok (.baload, 1) := dec_at kDX7_isLeft_0 19 rfl
theorem dX7_isLeft_31 : decode cX7_isLeft 31 = .ok (.ifCond .ne 7, 3) := dec_at kDX7_isLeft_0 20 rfl
theorem dX7_isLeft_34 : decode cX7_isLeft 34 = .ok (.iconst 1, 1) := dec_at kDX7_isLeft_0 21 rfl
theorem dX7_isLeft_35 : decode cX7_isLeft 35 = .ok (.goto 4, 3) := dec_at kDX7_isLeft_0 22 rfl
theorem dX7_isLeft_38 : decode cX7_isLeft 38 = .ok (.iconst 0, 1) := dec_at kDX7_isLeft_0 23 rfl
theorem dX7_isLeft_39 : decode cX7_isLeft 39 = .ok (.ireturn, 1) := dec_at kDX7_isLeft_0 24 rfl
def DX7_ones_0 : List (Nat × (Instr × Nat)) := [(0, (.iconst 0, 1)), (1, (.istore_n 1, 1)), (2, (.iconst 0, 1)), (3, (.istore_n 2, 1)), (4, (.iload_n 2, 1)), (5, (.bipush 6, 2)), (7, (.if_icmp .ge 17, 3)), (10, (.iload_n 1, 1)), (11, (.iload_n 0, 1)), (12, (.iload_n 2, 1)), (13, (.ishr, 1)), (14, (.iconst 1, 1)), (15, (.iand, 1)), (16, (.iadd, 1)), (17, (.istore_n 1, 1)), (18, (.iinc 2 1, 3)), (21, (.goto (-17), 3)), (24, (.iload_n 1, 1)), (25, (.ireturn, 1))]
theorem kDX7_ones_0 : DX7_ones_0.all (fun q => decide (decode cX7_ones q.1 = .ok q.2)) = true := by decide +kernel
theorem dX7_ones_0 : decode cX7_ones 0 = .ok (.iconst 0, 1) := dec_at kDX7_ones_0 0 rfl
theorem dX7_ones_1 : decode cX7_ones 1 = .ok (.istore_n 1, 1) := dec_at kDX7_ones_0 1 rfl
theorem dX7_ones_2 : decode cX7_ones 2 = .ok (.iconst 0, 1) := dec_at kDX7_ones_0 2 rfl
theorem dX7_ones_3 : decode cX7_ones 3 = .ok (.istore_n 2, 1) := dec_at kDX7_ones_0 3 rfl
theorem dX7_ones_4 : decode cX7_ones 4 = .ok (.iload_n 2, 1) := dec_at kDX7_ones_0 4 rfl
theorem dX7_ones_5 : decode cX7_ones 5 = .ok (.bipush 6, 2) := dec_at kDX7_ones_0 5 rfl
theorem dX7_ones_7 : decode cX7_ones 7 = .ok (.if_icmp .ge 17, 3) := dec_at kDX7_ones_0 6 rfl
theorem dX7_ones_10 : decode cX7_ones 10 = .ok (.iload_n 1, 1) := dec_at kDX7_ones_0 7 rfl
theorem dX7_ones_11 : decode cX7_ones 11 = .ok (.iload_n 0, 1) := dec_at kDX7_ones_0 8 rfl
theorem dX7_ones_12 : decode cX7_ones 12 = .ok (.iload_n 2, 1) := dec_at kDX7_ones_0 9 rfl
theorem dX7_ones_13 : decode cX7_ones 13 = .ok (.ishr, 1) := dec_at kDX7_ones_0 10 rfl
theorem dX7_ones_14 : decode cX7_ones 14 = .ok (.iconst 1, 1) := dec_at kDX7_ones_0 11 rfl
theorem dX7_ones_15 : decode cX7_ones 15 = .ok (.iand, 1) := dec_at kDX7_ones_0 12 rfl
theorem dX7_ones_16 : decode cX7_ones 16 = .ok (.iadd, 1) := dec_at kDX7_ones_0 13 rfl
theorem dX7_ones_17 : decode cX7_ones 17 = .ok (.istore_n 1, 1) := dec_at kDX7_ones_0 14 rfl
theorem dX7_ones_18 : decode cX7_ones 18 = .ok (.iinc 2 1, 3) := dec_at kDX7_ones_0 15 rfl
theorem dX7_ones_21 : decode cX7_ones 21 = .ok (.goto (-17), 3) := dec_at kDX7_ones_0 16 rfl
theorem dX7_ones_24 : decode cX7_ones 24 = .ok (.iload_n 1, 1) := dec_at kDX7_ones_0 17 rfl
theorem dX7_ones_25 : decode cX7_ones 25 = .ok (.ireturn, 1) := dec_at kDX7_ones_0 18 rfl
def DX7_outside_0 : List (Nat × (Instr × Nat)) := [(0, (.aload_n 0, 1)), (1, (.invokevirtual 98, 3)), (4, (.lstore_n 2, 1)), (5, (.iconst 0, 1)), (6, (.istore 4, 2)), (8, (.iload 4, 2)), (10, (.bipush 64, 2)), (12, (.aload_n 0, 1)), (13, (.invokevirtual 86, 3)), (16, (.imul, 1)), (17, (.if_icmp .ge 54, 3)), (20, (.lload_n 2, 1)), (21, (.aload_n 0, 1)), (22, (.iload 4, 2)), (24, (.bipush 64, 2)), (26, (.idiv, 1)), (27, (.iload 4, 2)), (29, (.bipush 64, 2)), (31, (.irem, 1)), (32, (.iload_n 1, 1)), (33, (.invokevirtual 382, 3)), (36, (.ifCond .eq 24, 3)), (39, (.aload_n 0, 1)), (40, (.iload 4, 2)), (42, (.bipush 64, 2)), (44, (.idiv, 1)), (45, (.iload 4, 2)), (47, (.bipush 64, 2)), (49, (.irem, 1)), (50, (.invokevirtual 281, 3)), (53, (.ldc2_w 84, 3)), (56, (.lxor, 1)), (57, (.goto 6, 3)), (60, (.ldc2_w 84, 3)), (63, (.land, 1)), (64, (.lstore_n 2, 1)), (65, (.iinc 4 1, 3)), (68, (.goto (-60), 3)), (71, (.lload_n 2, 1)), (72, (.lreturn, 1))]
theorem kDX7_outside_0 : DX7_outside_0.all (fun q => decide (decode cX7_outside q.1 = .ok q.2)) = true := by decide +kernel
theorem dX7_outside_0 : decode cX7_outside 0 = .ok (.aload_n 0, 1) := dec_at kDX7_outside_0 0 rfl
theorem dX7_outside_1 : decode cX7_outside 1 = .ok (.invokevirtual 98, 3) := dec_at kDX7_outside_0 1 rfl
theorem dX7_outside_4 : decode cX7_outside 4 = .ok (.lstore_n 2, 1) := dec_at kDX7_outside_0 2 rfl
theorem dX7_outside_5 : decode cX7_outside 5 = .ok (.iconst 0, 1) := dec_at kDX7_outside_0 3 rfl
theorem dX7_outside_6 : decode cX7_outside 6 = .ok (.istore 4, 2) := dec_at kDX7_outside_0 4 rfl
theorem dX7_outside_8 : decode cX7_outside 8 = .ok (.iload 4, 2) := dec_at kDX7_outside_0 5 rfl
theorem dX7_outside_10 : decode cX7_outside 10 = .ok (.bipush 64, 2) := dec_at kDX7_outside_0 6 rfl
theorem dX7_outside_12 : decode cX7_outside 12 = .ok (.aload_n 0, 1) := dec_at kDX7_outside_0 7 rfl
theorem dX7_outside_13 : decode cX7_outside 13 = .ok (.invokevirtual 86, 3) := dec_at kDX7_outside_0 8 rfl
theorem dX7_outside_16 : decode cX7_outside 16 = .ok (.imul, 1) := dec_at kDX7_outside_0 9 rfl
theorem dX7_outside_17 : decode cX7_outside 17 = .ok (.if_icmp .ge 54, 3) := dec_at kDX7_outside_0 10 rfl
theorem dX7_outside_20 : decode cX7_outside 20 = .ok (.lload_n 2, 1) := dec_at kDX7_outside_0 11 rfl
theorem dX7_outside_21 : decode cX7_outside 21 = .ok (.aload_n 0, 1) := dec_at kDX7_outside_0 12 rfl
theorem dX7_outside_22 : decode cX7_outside 22 = .ok (.iload 4, 2) := dec_at kDX7_outside_0 13 rfl
theorem dX7_outside_24 : decode cX7_outside 24 = .ok (.bipush 64, 2) := dec_at kDX7_outside_0 14 rfl
theorem dX7_outside_26 : decode cX7_outside 26 = .ok (.idiv, 1) := dec_at kDX7_outside_0 15 rfl
theorem dX7_outside_27 : decode cX7_outside 27 = .ok (.iload 4, 2) := dec_at kDX7_outside_0 16 rfl
theorem dX7_outside_29 : decode cX7_outside 29 = .ok (.bipush 64, 2) := dec_at kDX7_outside_0 17 rfl
theorem dX7_outside_31 : decode cX7_outside 31 = .ok (.irem, 1) := dec_at kDX7_outside_0 18 rfl
theorem dX7_outside_32 : decode cX7_outside 32 = .ok (.iload_n 1, 1) := dec_at kDX7_outside_0 19 rfl
theorem dX7_outside_33 : decode cX7_outside 33 = .ok (.invokevirtual 382, 3) := dec_at kDX7_outside_0 20 rfl
theorem dX7_outside_36 : decode cX7_outside 36 = .ok (.ifCond .eq 24, 3) := dec_at kDX7_outside_0 21 rfl
theorem dX7_outside_39 : decode cX7_outside 39 = .ok (.aload_n 0, 1) := dec_at kDX7_outside_0 22 rfl
theorem dX7_outside_40 : decode cX7_outside 40 = .ok (.iload 4, 2) := dec_at kDX7_outside_0 23 rfl
theorem dX7_outside_42 : decode cX7_outside 42 = .ok (.bipush 64, 2) := dec_at kDX7_outside_0 24 rfl
theorem dX7_outside_44 : decode cX7_outside 44 = .ok (.idiv, 1) := dec_at kDX7_outside_0 25 rfl
theorem dX7_outside_45 : decode cX7_outside 45 = .ok (.iload 4, 2) := dec_at kDX7_outside_0 26 rfl
theorem dX7_outside_47 : decode cX7_outside 47 = .ok (.bipush 64, 2) := dec_at kDX7_outside_0 27 rfl
theorem dX7_outside_49 : decode cX7_outside 49 = .ok (.irem, 1) := dec_at kDX7_outside_0 28 rfl
theorem dX7_outside_50 : decode cX7_outside 50 = .ok (.invokevirtual 281, 3) := dec_at kDX7_outside_0 29 rfl
theorem dX7_outside_53 : decode cX7_outside 53 = .ok (.ldc2_w 84, 3) := dec_at kDX7_outside_0 30 rfl
theorem dX7_outside_56 : decode cX7_outside 56 = .ok (.lxor, 1) := dec_at kDX7_outside_0 31 rfl
theorem dX7_outside_57 : decode cX7_outside 57 = .ok (.goto 6, 3) := dec_at kDX7_outside_0 32 rfl
theorem dX7_outside_60 : decode cX7_outside 60 = .ok (.ldc2_w 84, 3) := dec_at kDX7_outside_0 33 rfl
theorem dX7_outside_63 : decode cX7_outside 63 = .ok (.land, 1) := dec_at kDX7_outside_0 34 rfl
theorem dX7_outside_64 : decode cX7_outside 64 = .ok (.lstore_n 2, 1) := dec_at kDX7_outside_0 35 rfl
theorem dX7_outside_65 : decode cX7_outside 65 = .ok (.iinc 4 1, 3) := dec_at kDX7_outside_0 36 rfl
theorem dX7_outside_68 : decode cX7_outside 68 = .ok (.goto (-60), 3) := dec_at kDX7_outside_0 37 rfl
theorem dX7_outside_71 : decode cX7_outside 71 = .ok (.lload_n 2, 1) := dec_at kDX7_outside_0 38 rfl
theorem dX7_outside_72 : decode cX7_outside 72 = .ok (.lreturn, 1) := dec_at kDX7_outside_0 39 rfl
def DX7_discards_0 : List (Nat × (Instr × Nat)) := [(0, (.iconst 0, 1)), (1, (.istore 4, 2)), (3, (.iconst 0, 1)), (4, (.istore 5, 2)), (6, (.iload 5, 2)), (8, (.bipush 64, 2)), (10, (.aload_n 0, 1)), (11, (.invokevirtual 86, 3)), (14, (.imul, 1)), (15, (.if_icmp .ge 99, 3)), (18, (.aload_n 0, 1)), (19, (.iload 5, 2)), (21, (.bipush 64, 2)), (23, (.idiv, 1)), (24, (.iload 5, 2)), (26, (.bipush 64, 2)), (28, (.irem, 1)), (29, (.iload_n 1, 1)), (30, (.invokevirtual 382, 3)), (33, (.ifCond .eq 28, 3)), (36, (.aload_n 0, 1)), (37, (.iload 5, 2)), (39, (.bipush 64, 2)), (41, (.idiv, 1)), (42, (.iload 5, 2)), (44, (.bipush 64, 2)), (46, (.irem, 1)), (47, (.invokevirtual 281, 3)), (50, (.lload_n 2, 1)), (51, (.land, 1)), (52, (.lconst 0, 1)), (53, (.lcmp, 1)), (54, (.ifCond .eq 7, 3)), (57, (.iconst 1, 1)), (58, (.goto 4, 3)), (61, (.iconst 0, 1)), (62, (.istore 6, 2)), (64, (.aload_n 0, 1)), (65, (.getfield 63, 3)), (68, (.iload 5, 2)), (70, (.aload_n 0, 1)), (71, (.getfield 63, 3)), (74, (.iload 5, 2)), (76, (.baload, 1)), (77, (.ifCond .ne 8, 3)), (80, (.iload 6, 2)), (82, (.ifCond .eq 7, 3)), (85, (.iconst 1, 1)), (86, (.goto 4, 3)), (89, (.iconst 0, 1))]
theorem kDX7_discards_0 : DX7_discards_0.all (fun q => decide (decode cX7_discards q.1 = .ok q.2)) = true := by decide +kernel
theorem dX7_discards_0 : decode cX7_discards 0 = .ok (.iconst 0, 1) := dec_at kDX7_discards_0 0 rfl
theorem dX7_discards_1 : decode cX7_discards 1 = .ok (.istore 4, 2) := dec_at kDX7_discards_0 1 rfl
theorem dX7_discards_3 : decode cX7_discards 3 = .ok (.iconst 0, 1) := dec_at kDX7_discards_0 2 rfl
theorem dX7_discards_4 : decode cX7_discards 4 = .ok (.istore 5, 2) := dec_at kDX7_discards_0 3 rfl
theorem dX7_discards_6 : decode cX7_discards 6 = .ok (.iload 5, 2) := dec_at kDX7_discards_0 4 rfl
theorem dX7_discards_8 : decode cX7_discards 8 = .ok (.bipush 64, 2) := dec_at kDX7_discards_0 5 rfl
theorem dX7_discards_10 : decode cX7_discards 10 = .ok (.aload_n 0, 1) := dec_at kDX7_discards_0 6 rfl
theorem dX7_discards_11 : decode cX7_discards 11 = .ok (.invokevirtual 86, 3) := dec_at kDX7_discards_0 7 rfl
theorem dX7_discards_14 : decode cX7_discards 14 = .ok (.imul, 1) := dec_at kDX7_discards_0 8 rfl
theorem dX7_discards_15 : decode cX7_discards 15 = .ok (.if_icmp .ge 99, 3) := dec_at kDX7_discards_0 9 rfl
theorem dX7_discards_18 : decode cX7_discards 18 = .ok (.aload_n 0, 1) := dec_at kDX7_discards_0 10 rfl
theorem dX7_discards_19 : decode cX7_discards 19 = .ok (.iload 5, 2) := dec_at kDX7_discards_0 11 rfl
theorem dX7_discards_21 : decode cX7_discards 21 = .ok (.bipush 64, 2) := dec_at kDX7_discards_0 12 rfl
theorem dX7_discards_23 : decode cX7_discards 23 = .ok (.idiv, 1) := dec_at kDX7_discards_0 13 rfl
theorem dX7_discards_24 : decode cX7_discards 24 = .ok (.iload 5, 2) := dec_at kDX7_discards_0 14 rfl
theorem dX7_discards_26 : decode cX7_discards 26 = .ok (.bipush 64, 2) := dec_at kDX7_discards_0 15 rfl
theorem dX7_discards_28 : decode cX7_discards 28 = .ok (.irem, 1) := dec_at kDX7_discards_0 16 rfl
theorem dX7_discards_29 : decode cX7_discards 29 = .ok (.iload_n 1, 1) := dec_at kDX7_discards_0 17 rfl
theorem dX7_discards_30 : decode cX7_discards 30 = .ok (.invokevirtual 382, 3) := dec_at kDX7_discards_0 18 rfl
theorem dX7_discards_33 : decode cX7_discards 33 = .ok (.ifCond .eq 28, 3) := dec_at kDX7_discards_0 19 rfl
theorem dX7_discards_36 : decode cX7_discards 36 = .ok (.aload_n 0, 1) := dec_at kDX7_discards_0 20 rfl
theorem dX7_discards_37 : decode cX7_discards 37 = .ok (.iload 5, 2) := dec_at kDX7_discards_0 21 rfl
theorem dX7_discards_39 : decode cX7_discards 39 = .ok (.bipush 64, 2) := dec_at kDX7_discards_0 22 rfl
theorem dX7_discards_41 : decode cX7_discards 41 = .ok (.idiv, 1) := dec_at kDX7_discards_0 23 rfl
theorem dX7_discards_42 : decode cX7_discards 42 = .ok (.iload 5, 2) := dec_at kDX7_discards_0 24 rfl
theorem dX7_discards_44 : decode cX7_discards 44 = .ok (.bipush 64, 2) := dec_at kDX7_discards_0 25 rfl
theorem dX7_discards_46 : decode cX7_discards 46 = .ok (.irem, 1) := dec_at kDX7_discards_0 26 rfl
theorem dX7_discards_47 : decode cX7_discards 47 = .ok (.invokevirtual 281, 3) := dec_at kDX7_discards_0 27 rfl
theorem dX7_discards_50 : decode cX7_discards 50 = .ok (.lload_n 2, 1) := dec_at kDX7_discards_0 28 rfl
theorem dX7_discards_51 : decode cX7_discards 51 = .ok (.land, 1) := dec_at kDX7_discards_0 29 rfl
theorem dX7_discards_52 : decode cX7_discards 52 = .ok (.lconst 0, 1) := dec_at kDX7_discards_0 30 rfl
theorem dX7_discards_53 : decode cX7_discards 53 = .ok (.lcmp, 1) := dec_at kDX7_discards_0 31 rfl
theorem dX7_discards_54 : decode cX7_discards 54 = .ok (.ifCond .eq 7, 3) := dec_at kDX7_discards_0 32 rfl
theorem dX7_discards_57 : decode cX7_discards 57 = .ok (.iconst 1, 1) := dec_at kDX7_discards_0 33 rfl
theorem dX7_discards_58 : decode cX7_discards 58 = .ok (.goto 4, 3) := dec_at kDX7_discards_0 34 rfl
theorem dX7_discards_61 : decode cX7_discards 61 = .ok (.iconst 0, 1) := dec_at kDX7_discards_0 35 rfl
theorem dX7_discards_62 : decode cX7_discards 62 = .ok (.istore 6, 2) := dec_at kDX7_discards_0 36 rfl
theorem dX7_discards_64 : decode cX7_discards 64 = .ok (.aload_n 0, 1) := dec_at kDX7_discards_0 37 rfl
theorem dX7_discards_65 : decode cX7_discards 65 = .ok (.getfield 63, 3) := dec_at kDX7_discards_0 38 rfl
theorem dX7_discards_68 : decode cX7_discards 68 = .ok (.iload 5, 2) := dec_at kDX7_discards_0 39 rfl
theorem dX7_discards_70 : decode cX7_discards 70 = .ok (.aload_n 0, 1) := dec_at kDX7_discards_0 40 rfl
theorem dX7_discards_71 : decode cX7_discards 71 = .ok (.getfield 63, 3) := dec_at kDX7_discards_0 41 rfl
theorem dX7_discards_74 : decode cX7_discards 74 = .ok (.iload 5, 2) := dec_at kDX7_discards_0 42 rfl
theorem dX7_discards_76 : decode cX7_discards 76 = .ok (.baload, 1) := dec_at kDX7_discards_0 43 rfl
theorem dX7_discards_77 : decode cX7_discards 77 = .ok (.ifCond .ne 8, 3) := dec_at kDX7_discards_0 44 rfl
theorem dX7_discards_80 : decode cX7_discards 80 = .ok (.iload 6, 2) := dec_at kDX7_discards_0 45 rfl
theorem dX7_discards_82 : decode cX7_discards 82 = .ok (.ifCond .eq 7, 3) := dec_at kDX7_discards_0 46 rfl
theorem dX7_discards_85 : decode cX7_discards 85 = .ok (.iconst 1, 1) := dec_at kDX7_discards_0 47 rfl
theorem dX7_discards_86 : decode cX7_discards 86 = .ok (.goto 4, 3) := dec_at kDX7_discards_0 48 rfl
theorem dX7_discards_89 : decode cX7_discards 89 = .ok (.iconst 0, 1) := dec_at kDX7_discards_0 49 rfl
def DX7_discards_50 : List (Nat × (Instr × Nat)) := [(90, (.bastore, 1)), (91, (.iload 4, 2)), (93, (.ifCond .ne 8, 3)), (96, (.iload 6, 2)), (98, (.ifCond .eq 7, 3)), (101, (.iconst 1, 1)), (102, (.goto 4, 3)), (105, (.iconst 0, 1)), (106, (.istore 4, 2)), (108, (.iinc 5 1, 3)), (111, (.goto (-105), 3)), (114, (.iload 4, 2)), (116, (.ireturn, 1))]
theorem kDX7_discards_50 : DX7_discards_50.all (fun q => decide (decode cX7_discards q.1 = .ok q.2)) = true := by decide +kernel
theorem dX7_discards_90 : decode cX7_discards 90 = .ok (.bastore, 1) := dec_at kDX7_discards_50 0 rfl
theorem dX7_discards_91 : decode cX7_discards 91 = .ok (.iload 4, 2) := dec_at kDX7_discards_50 1 rfl
theorem dX7_discards_93 : decode cX7_discards 93 = .ok (.ifCond .ne 8, 3) := dec_at kDX7_discards_50 2 rfl
theorem dX7_discards_96 : decode cX7_discards 96 = .ok (.iload 6, 2) := dec_at kDX7_discards_50 3 rfl
theorem dX7_discards_98 : decode cX7_discards 98 = .ok (.ifCond .eq 7, 3) := dec_at kDX7_discards_50 4 rfl
theorem dX7_discards_101 : decode cX7_discards 101 = .ok (.iconst 1, 1) := dec_at kDX7_discards_50 5 rfl
theorem dX7_discards_102 : decode cX7_discards 102 = .ok (.goto 4, 3) := dec_at kDX7_discards_50 6 rfl
theorem dX7_discards_105 : decode cX7_discards 105 = .ok (.iconst 0, 1) := dec_at kDX7_discards_50 7 rfl
theorem dX7_discards_106 : decode cX7_discards 106 = .ok (.istore 4, 2) := dec_at kDX7_discards_50 8 rfl
theorem dX7_discards_108 : decode cX7_discards 108 = .ok (.iinc 5 1, 3) := dec_at kDX7_discards_50 9 rfl
theorem dX7_discards_111 : decode cX7_discards 111 = .ok (.goto (-105), 3) := dec_at kDX7_discards_50 10 rfl
theorem dX7_discards_114 : decode cX7_discards 114 = .ok (.iload 4, 2) := dec_at kDX7_discards_50 11 rfl
theorem dX7_discards_116 : decode cX7_discards 116 = .ok (.ireturn, 1) := dec_at kDX7_discards_50 12 rfl
def DX7_eliminationNow_0 : List (Nat × (Instr × Nat)) := [(0, (.iconst 0, 1)), (1, (.istore_n 2, 1)), (2, (.iload_n 2, 1)), (3, (.sipush 4096, 3)), (6, (.if_icmp .ge 16, 3)), (9, (.aload_n 0, 1)), (10, (.getfield 63, 3)), (13, (.iload_n 2, 1)), (14, (.iconst 0, 1)), (15, (.bastore, 1)), (16, (.iinc 2 1, 3)), (19, (.goto (-17), 3)), (22, (.aload_n 0, 1)), (23, (.iload_n 1, 1)), (24, (.aload_n 0, 1)), (25, (.getfield 94, 3)), (28, (.invokevirtual 385, 3)), (31, (.pop, 1)), (32, (.iconst 1, 1)), (33, (.istore_n 2, 1)), (34, (.iload_n 2, 1)), (35, (.ifCond .eq 21, 3)), (38, (.aload_n 0, 1)), (39, (.iload_n 1, 1)), (40, (.aload_n 0, 1)), (41, (.aload_n 0, 1)), (42, (.iload_n 1, 1)), (43, (.invokevirtual 389, 3)), (46, (.invokevirtual 213, 3)), (49, (.invokevirtual 385, 3)), (52, (.istore_n 2, 1)), (53, (.goto (-19), 3)), (56, (.aload_n 0, 1)), (57, (.iload_n 1, 1)), (58, (.invokevirtual 389, 3)), (61, (.lreturn, 1))]
theorem kDX7_eliminationNow_0 : DX7_eliminationNow_0.all (fun q => decide (decode cX7_eliminationNow q.1 = .ok q.2)) = true := by decide +kernel
theorem dX7_eliminationNow_0 : decode cX7_eliminationNow 0 = .ok (.iconst 0, 1) := dec_at kDX7_eliminationNow_0 0 rfl
theorem dX7_eliminationNow_1 : decode cX7_eliminationNow 1 = .ok (.istore_n 2, 1) := dec_at kDX7_eliminationNow_0 1 rfl
theorem dX7_eliminationNow_2 : decode cX7_eliminationNow 2 = .ok (.iload_n 2, 1) := dec_at kDX7_eliminationNow_0 2 rfl
theorem dX7_eliminationNow_3 : decode cX7_eliminationNow 3 = .ok (.sipush 4096, 3) := dec_at kDX7_eliminationNow_0 3 rfl
theorem dX7_eliminationNow_6 : decode cX7_eliminationNow 6 = .ok (.if_icmp .ge 16, 3) := dec_at kDX7_eliminationNow_0 4 rfl
theorem dX7_eliminationNow_9 : decode cX7_eliminationNow 9 = .ok (.aload_n 0, 1) := dec_at kDX7_eliminationNow_0 5 rfl
theorem dX7_eliminationNow_10 : decode cX7_eliminationNow 10 = .ok (.getfield 63, 3) := dec_at kDX7_eliminationNow_0 6 rfl
theorem dX7_eliminationNow_13 : decode cX7_eliminationNow 13 = .ok (.iload_n 2, 1) := dec_at kDX7_eliminationNow_0 7 rfl
theorem dX7_eliminationNow_14 : decode cX7_eliminationNow 14 = .ok (.iconst 0, 1) := dec_at kDX7_eliminationNow_0 8 rfl
theorem dX7_eliminationNow_15 : decode cX7_eliminationNow 15 = .ok (.bastore, 1) := dec_at kDX7_eliminationNow_0 9 rfl
theorem dX7_eliminationNow_16 : decode cX7_eliminationNow 16 = .ok (.iinc 2 1, 3) := dec_at kDX7_eliminationNow_0 10 rfl
theorem dX7_eliminationNow_19 : decode cX7_eliminationNow 19 = .ok (.goto (-17), 3) := dec_at kDX7_eliminationNow_0 11 rfl
theorem dX7_eliminationNow_22 : decode cX7_eliminationNow 22 = .ok (.aload_n 0, 1) := dec_at kDX7_eliminationNow_0 12 rfl
theorem dX7_eliminationNow_23 : decode cX7_eliminationNow 23 = .ok (.iload_n 1, 1) := dec_at kDX7_eliminationNow_0 13 rfl
theorem dX7_eliminationNow_24 : decode cX7_eliminationNow 24 = .ok (.aload_n 0, 1) := dec_at kDX7_eliminationNow_0 14 rfl
theorem dX7_eliminationNow_25 : decode cX7_eliminationNow 25 = .ok (.getfield 94, 3) := dec_at kDX7_eliminationNow_0 15 rfl
theorem dX7_eliminationNow_28 : decode cX7_eliminationNow 28 = .ok (.invokevirtual 385, 3) := dec_at kDX7_eliminationNow_0 16 rfl
theorem dX7_eliminationNow_31 : decode cX7_eliminationNow 31 = .ok (.pop, 1) := dec_at kDX7_eliminationNow_0 17 rfl
theorem dX7_eliminationNow_32 : decode cX7_eliminationNow 32 = .ok (.iconst 1, 1) := dec_at kDX7_eliminationNow_0 18 rfl
theorem dX7_eliminationNow_33 : decode cX7_eliminationNow 33 = .ok (.istore_n 2, 1) := dec_at kDX7_eliminationNow_0 19 rfl
theorem dX7_eliminationNow_34 : decode cX7_eliminationNow 34 = .ok (.iload_n 2, 1) := dec_at kDX7_eliminationNow_0 20 rfl
theorem dX7_eliminationNow_35 : decode cX7_eliminationNow 35 = .ok (.ifCond .eq 21, 3) := dec_at kDX7_eliminationNow_0 21 rfl
theorem dX7_eliminationNow_38 : decode cX7_eliminationNow 38 = .ok (.aload_n 0, 1) := dec_at kDX7_eliminationNow_0 22 rfl
theorem dX7_eliminationNow_39 : decode cX7_eliminationNow 39 = .ok (.iload_n 1, 1) := dec_at kDX7_eliminationNow_0 23 rfl
theorem dX7_eliminationNow_40 : decode cX7_eliminationNow 40 = .ok (.aload_n 0, 1) := dec_at kDX7_eliminationNow_0 24 rfl
theorem dX7_eliminationNow_41 : decode cX7_eliminationNow 41 = .ok (.aload_n 0, 1) := dec_at kDX7_eliminationNow_0 25 rfl
theorem dX7_eliminationNow_42 : decode cX7_eliminationNow 42 = .ok (.iload_n 1, 1) := dec_at kDX7_eliminationNow_0 26 rfl
theorem dX7_eliminationNow_43 : decode cX7_eliminationNow 43 = .ok (.invokevirtual 389, 3) := dec_at kDX7_eliminationNow_0 27 rfl
theorem dX7_eliminationNow_46 : decode cX7_eliminationNow 46 = .ok (.invokevirtual 213, 3) := dec_at kDX7_eliminationNow_0 28 rfl
theorem dX7_eliminationNow_49 : decode cX7_eliminationNow 49 = .ok (.invokevirtual 385, 3) := dec_at kDX7_eliminationNow_0 29 rfl
theorem dX7_eliminationNow_52 : decode cX7_eliminationNow 52 = .ok (.istore_n 2, 1) := dec_at kDX7_eliminationNow_0 30 rfl
theorem dX7_eliminationNow_53 : decode cX7_eliminationNow 53 = .ok (.goto (-19), 3) := dec_at kDX7_eliminationNow_0 31 rfl
theorem dX7_eliminationNow_56 : decode cX7_eliminationNow 56 = .ok (.aload_n 0, 1) := dec_at kDX7_eliminationNow_0 32 rfl
theorem dX7_eliminationNow_57 : decode cX7_eliminationNow 57 = .ok (.iload_n 1, 1) := dec_at kDX7_eliminationNow_0 33 rfl
theorem dX7_eliminationNow_58 : decode cX7_eliminationNow 58 = .ok (.invokevirtual 389, 3) := dec_at kDX7_eliminationNow_0 34 rfl
theorem dX7_eliminationNow_61 : decode cX7_eliminationNow 61 = .ok (.lreturn, 1) := dec_at kDX7_eliminationNow_0 35 rfl
def DX7_elimination_0 : List (Nat × (Instr × Nat)) := [(0, (.aload_n 0, 1)), (1, (.iload_n 1, 1)), (2, (.iconst 1, 1)), (3, (.iconst 3, 1)), (4, (.invokestatic 112, 3)), (7, (.ifCond .eq 7, 3)), (10, (.iconst 0, 1)), (11, (.goto 4, 3)), (14, (.iconst 1, 1)), (15, (.putfield 70, 3)), (18, (.aload_n 0, 1)), (19, (.getfield 70, 3)), (22, (.ifCond .le 7, 3)), (25, (.lconst 0, 1)), (26, (.goto 8, 3)), (29, (.aload_n 0, 1)), (30, (.iload_n 1, 1)), (31, (.invokevirtual 392, 3)), (34, (.lreturn, 1))]
theorem kDX7_elimination_0 : DX7_elimination_0.all (fun q => decide (decode cX7_elimination q.1 = .ok q.2)) = true := by decide +kernel
theorem dX7_elimination_0 : decode cX7_elimination 0 = .ok (.aload_n 0, 1) := dec_at kDX7_elimination_0 0 rfl
theorem dX7_elimination_1 : decode cX7_elimination 1 = .ok (.iload_n 1, 1) := dec_at kDX7_elimination_0 1 rfl
theorem dX7_elimination_2 : decode cX7_elimination 2 = .ok (.iconst 1, 1) := dec_at kDX7_elimination_0 2 rfl
theorem dX7_elimination_3 : decode cX7_elimination 3 = .ok (.iconst 3, 1) := dec_at kDX7_elimination_0 3 rfl
theorem dX7_elimination_4 : decode cX7_elimination 4 = .ok (.invokestatic 112, 3) := dec_at kDX7_elimination_0 4 rfl
theorem dX7_elimination_7 : decode cX7_elimination 7 = .ok (.ifCond .eq 7, 3) := dec_at kDX7_elimination_0 5 rfl
theorem dX7_elimination_10 : decode cX7_elimination 10 = .ok (.iconst 0, 1) := dec_at kDX7_elimination_0 6 rfl
theorem dX7_elimination_11 : decode cX7_elimination 11 = .ok (.goto 4, 3) := dec_at kDX7_elimination_0 7 rfl
theorem dX7_elimination_14 : decode cX7_elimination 14 = .ok (.iconst 1, 1) := dec_at kDX7_elimination_0 8 rfl
theorem dX7_elimination_15 : decode cX7_elimination 15 = .ok (.putfield 70, 3) := dec_at kDX7_elimination_0 9 rfl
theorem dX7_elimination_18 : decode cX7_elimination 18 = .ok (.aload_n 0, 1) := dec_at kDX7_elimination_0 10 rfl
theorem dX7_elimination_19 : decode cX7_elimination 19 = .ok (.getfield 70, 3) := dec_at kDX7_elimination_0 11 rfl
theorem dX7_elimination_22 : decode cX7_elimination 22 = .ok (.ifCond .le 7, 3) := dec_at kDX7_elimination_0 12 rfl
theorem dX7_elimination_25 : decode cX7_elimination 25 = .ok (.lconst 0, 1) := dec_at kDX7_elimination_0 13 rfl
theorem dX7_elimination_26 : decode cX7_elimination 26 = .ok (.goto 8, 3) := dec_at kDX7_elimination_0 14 rfl
theorem dX7_elimination_29 : decode cX7_elimination 29 = .ok (.aload_n 0, 1) := dec_at kDX7_elimination_0 15 rfl
theorem dX7_elimination_30 : decode cX7_elimination 30 = .ok (.iload_n 1, 1) := dec_at kDX7_elimination_0 16 rfl
theorem dX7_elimination_31 : decode cX7_elimination 31 = .ok (.invokevirtual 392, 3) := dec_at kDX7_elimination_0 17 rfl
theorem dX7_elimination_34 : decode cX7_elimination 34 = .ok (.lreturn, 1) := dec_at kDX7_elimination_0 18 rfl
def DX7_isSafe_0 : List (Nat × (Instr × Nat)) := [(0, (.aload_n 0, 1)), (1, (.invokevirtual 86, 3)), (4, (.iconst 1, 1)), (5, (.isub, 1)), (6, (.iload_n 1, 1)), (7, (.iconst (-1), 1)), (8, (.ixor, 1)), (9, (.iand, 1)), (10, (.istore_n 2, 1)), (11, (.lconst 0, 1)), (12, (.lstore_n 3, 1)), (13, (.aload_n 0, 1)), (14, (.getfield 94, 3)), (17, (.lstore 5, 2)), (19, (.lload 5, 2)), (21, (.lconst 0, 1)), (22, (.lcmp, 1)), (23, (.ifCond .eq 90, 3)), (26, (.lload_n 3, 1)), (27, (.lload 5, 2)), (29, (.lor, 1)), (30, (.lstore_n 3, 1)), (31, (.lconst 0, 1)), (32, (.lstore 7, 2)), (34, (.iconst 0, 1)), (35, (.istore 9, 2)), (37, (.iload 9, 2)), (39, (.aload_n 0, 1)), (40, (.invokevirtual 86, 3)), (43, (.if_icmp .ge 57, 3)), (46, (.iconst 0, 1)), (47, (.istore 10, 2)), (49, (.iload 10, 2)), (51, (.aload_n 0, 1)), (52, (.invokevirtual 188, 3)), (55, (.if_icmp .ge 39, 3)), (58, (.lload 5, 2)), (60, (.iload 9, 2)), (62, (.invokestatic 74, 3)), (65, (.ifCond .eq 29, 3)), (68, (.lload 7, 2)), (70, (.aload_n 0, 1)), (71, (.iload_n 2, 1)), (72, (.aload_n 0, 1)), (73, (.iload 9, 2)), (75, (.iload 10, 2)), (77, (.invokevirtual 205, 3)), (80, (.iload_n 2, 1)), (81, (.iand, 1)), (82, (.invokevirtual 281, 3))]
theorem kDX7_isSafe_0 : DX7_isSafe_0.all (fun q => decide (decode cX7_isSafe q.1 = .ok q.2)) = true := by decide +kernel
theorem dX7_isSafe_0 : decode cX7_isSafe 0 = .ok (.aload_n 0, 1) := dec_at kDX7_isSafe_0 0 rfl
theorem dX7_isSafe_1 : decode cX7_isSafe 1 = .ok (.invokevirtual 86, 3) := dec_at kDX7_isSafe_0 1 rfl
theorem dX7_isSafe_4 : decode cX7_isSafe 4 = .ok (.iconst 1, 1) := dec_at kDX7_isSafe_0 2 rfl
theorem dX7_isSafe_5 : decode cX7_isSafe 5 = .ok (.isub, 1) := dec_at kDX7_isSafe_0 3 rfl
theorem dX7_isSafe_6 : decode cX7_isSafe 6 = .ok (.iload_n 1, 1) := dec_at kDX7_isSafe_0 4 rfl
theorem dX7_isSafe_7 : decode cX7_isSafe 7 = .ok (.iconst (-1), 1) := dec_at kDX7_isSafe_0 5 rfl
theorem dX7_isSafe_8 : decode cX7_isSafe 8 = .ok (.ixor, 1) := dec_at kDX7_isSafe_0 6 rfl
theorem dX7_isSafe_9 : decode cX7_isSafe 9 = .ok (.iand, 1) := dec_at kDX7_isSafe_0 7 rfl
theorem dX7_isSafe_10 : decode cX7_isSafe 10 = .ok (.istore_n 2, 1) := dec_at kDX7_isSafe_0 8 rfl
theorem dX7_isSafe_11 : decode cX7_isSafe 11 = .ok (.lconst 0, 1) := dec_at kDX7_isSafe_0 9 rfl
theorem dX7_isSafe_12 : decode cX7_isSafe 12 = .ok (.lstore_n 3, 1) := dec_at kDX7_isSafe_0 10 rfl
theorem dX7_isSafe_13 : decode cX7_isSafe 13 = .ok (.aload_n 0, 1) := dec_at kDX7_isSafe_0 11 rfl
theorem dX7_isSafe_14 : decode cX7_isSafe 14 = .ok (.getfield 94, 3) := dec_at kDX7_isSafe_0 12 rfl
theorem dX7_isSafe_17 : decode cX7_isSafe 17 = .ok (.lstore 5, 2) := dec_at kDX7_isSafe_0 13 rfl
theorem dX7_isSafe_19 : decode cX7_isSafe 19 = .ok (.lload 5, 2) := dec_at kDX7_isSafe_0 14 rfl
theorem dX7_isSafe_21 : decode cX7_isSafe 21 = .ok (.lconst 0, 1) := dec_at kDX7_isSafe_0 15 rfl
theorem dX7_isSafe_22 : decode cX7_isSafe 22 = .ok (.lcmp, 1) := dec_at kDX7_isSafe_0 16 rfl
theorem dX7_isSafe_23 : decode cX7_isSafe 23 = .ok (.ifCond .eq 90, 3) := dec_at kDX7_isSafe_0 17 rfl
theorem dX7_isSafe_26 : decode cX7_isSafe 26 = .ok (.lload_n 3, 1) := dec_at kDX7_isSafe_0 18 rfl
theorem dX7_isSafe_27 : decode cX7_isSafe 27 = .ok (.lload 5, 2) := dec_at kDX7_isSafe_0 19 rfl
theorem dX7_isSafe_29 : decode cX7_isSafe 29 = .ok (.lor, 1) := dec_at kDX7_isSafe_0 20 rfl
theorem dX7_isSafe_30 : decode cX7_isSafe 30 = .ok (.lstore_n 3, 1) := dec_at kDX7_isSafe_0 21 rfl
theorem dX7_isSafe_31 : decode cX7_isSafe 31 = .ok (.lconst 0, 1) := dec_at kDX7_isSafe_0 22 rfl
theorem dX7_isSafe_32 : decode cX7_isSafe 32 = .ok (.lstore 7, 2) := dec_at kDX7_isSafe_0 23 rfl
theorem dX7_isSafe_34 : decode cX7_isSafe 34 = .ok (.iconst 0, 1) := dec_at kDX7_isSafe_0 24 rfl
theorem dX7_isSafe_35 : decode cX7_isSafe 35 = .ok (.istore 9, 2) := dec_at kDX7_isSafe_0 25 rfl
theorem dX7_isSafe_37 : decode cX7_isSafe 37 = .ok (.iload 9, 2) := dec_at kDX7_isSafe_0 26 rfl
theorem dX7_isSafe_39 : decode cX7_isSafe 39 = .ok (.aload_n 0, 1) := dec_at kDX7_isSafe_0 27 rfl
theorem dX7_isSafe_40 : decode cX7_isSafe 40 = .ok (.invokevirtual 86, 3) := dec_at kDX7_isSafe_0 28 rfl
theorem dX7_isSafe_43 : decode cX7_isSafe 43 = .ok (.if_icmp .ge 57, 3) := dec_at kDX7_isSafe_0 29 rfl
theorem dX7_isSafe_46 : decode cX7_isSafe 46 = .ok (.iconst 0, 1) := dec_at kDX7_isSafe_0 30 rfl
theorem dX7_isSafe_47 : decode cX7_isSafe 47 = .ok (.istore 10, 2) := dec_at kDX7_isSafe_0 31 rfl
theorem dX7_isSafe_49 : decode cX7_isSafe 49 = .ok (.iload 10, 2) := dec_at kDX7_isSafe_0 32 rfl
theorem dX7_isSafe_51 : decode cX7_isSafe 51 = .ok (.aload_n 0, 1) := dec_at kDX7_isSafe_0 33 rfl
theorem dX7_isSafe_52 : decode cX7_isSafe 52 = .ok (.invokevirtual 188, 3) := dec_at kDX7_isSafe_0 34 rfl
theorem dX7_isSafe_55 : decode cX7_isSafe 55 = .ok (.if_icmp .ge 39, 3) := dec_at kDX7_isSafe_0 35 rfl
theorem dX7_isSafe_58 : decode cX7_isSafe 58 = .ok (.lload 5, 2) := dec_at kDX7_isSafe_0 36 rfl
theorem dX7_isSafe_60 : decode cX7_isSafe 60 = .ok (.iload 9, 2) := dec_at kDX7_isSafe_0 37 rfl
theorem dX7_isSafe_62 : decode cX7_isSafe 62 = .ok (.invokestatic 74, 3) := dec_at kDX7_isSafe_0 38 rfl
theorem dX7_isSafe_65 : decode cX7_isSafe 65 = .ok (.ifCond .eq 29, 3) := dec_at kDX7_isSafe_0 39 rfl
theorem dX7_isSafe_68 : decode cX7_isSafe 68 = .ok (.lload 7, 2) := dec_at kDX7_isSafe_0 40 rfl
theorem dX7_isSafe_70 : decode cX7_isSafe 70 = .ok (.aload_n 0, 1) := dec_at kDX7_isSafe_0 41 rfl
theorem dX7_isSafe_71 : decode cX7_isSafe 71 = .ok (.iload_n 2, 1) := dec_at kDX7_isSafe_0 42 rfl
theorem dX7_isSafe_72 : decode cX7_isSafe 72 = .ok (.aload_n 0, 1) := dec_at kDX7_isSafe_0 43 rfl
theorem dX7_isSafe_73 : decode cX7_isSafe 73 = .ok (.iload 9, 2) := dec_at kDX7_isSafe_0 44 rfl
theorem dX7_isSafe_75 : decode cX7_isSafe 75 = .ok (.iload 10, 2) := dec_at kDX7_isSafe_0 45 rfl
theorem dX7_isSafe_77 : decode cX7_isSafe 77 = .ok (.invokevirtual 205, 3) := dec_at kDX7_isSafe_0 46 rfl
theorem dX7_isSafe_80 : decode cX7_isSafe 80 = .ok (.iload_n 2, 1) := dec_at kDX7_isSafe_0 47 rfl
theorem dX7_isSafe_81 : decode cX7_isSafe 81 = .ok (.iand, 1) := dec_at kDX7_isSafe_0 48 rfl
theorem dX7_isSafe_82 : decode cX7_isSafe 82 = .ok (.invokevirtual 281, 3) := dec_at kDX7_isSafe_0 49 rfl
def DX7_isSafe_50 : List (Nat × (Instr × Nat)) := [(85, (.lor, 1)), (86, (.lstore 7, 2)), (88, (.iinc 10 1, 3)), (91, (.goto (-42), 3)), (94, (.iinc 9 1, 3)), (97, (.goto (-60), 3)), (100, (.lload 7, 2)), (102, (.lload_n 3, 1)), (103, (.ldc2_w 84, 3)), (106, (.lxor, 1)), (107, (.land, 1)), (108, (.lstore 5, 2)), (110, (.goto (-91), 3)), (113, (.lload_n 3, 1)), (114, (.aload_n 0, 1)), (115, (.invokevirtual 219, 3)), (118, (.land, 1)), (119, (.lconst 0, 1)), (120, (.lcmp, 1)), (121, (.ifCond .ne 7, 3)), (124, (.iconst 1, 1)), (125, (.goto 4, 3)), (128, (.iconst 0, 1)), (129, (.ireturn, 1))]
theorem kDX7_isSafe_50 : DX7_isSafe_50.all (fun q => decide (decode cX7_isSafe q.1 = .ok q.2)) = true := by decide +kernel
theorem dX7_isSafe_85 : decode cX7_isSafe 85 = .ok (.lor, 1) := dec_at kDX7_isSafe_50 0 rfl
theorem dX7_isSafe_86 : decode cX7_isSafe 86 = .ok (.lstore 7, 2) := dec_at kDX7_isSafe_50 1 rfl
theorem dX7_isSafe_88 : decode cX7_isSafe 88 = .ok (.iinc 10 1, 3) := dec_at kDX7_isSafe_50 2 rfl
theorem dX7_isSafe_91 : decode cX7_isSafe 91 = .ok (.goto (-42), 3) := dec_at kDX7_isSafe_50 3 rfl
theorem dX7_isSafe_94 : decode cX7_isSafe 94 = .ok (.iinc 9 1, 3) := dec_at kDX7_isSafe_50 4 rfl
theorem dX7_isSafe_97 : decode cX7_isSafe 97 = .ok (.goto (-60), 3) := dec_at kDX7_isSafe_50 5 rfl
theorem dX7_isSafe_100 : decode cX7_isSafe 100 = .ok (.lload 7, 2) := dec_at kDX7_isSafe_50 6 rfl
theorem dX7_isSafe_102 : decode cX7_isSafe 102 = .ok (.lload_n 3, 1) := dec_at kDX7_isSafe_50 7 rfl
theorem dX7_isSafe_103 : decode cX7_isSafe 103 = .ok (.ldc2_w 84, 3) := dec_at kDX7_isSafe_50 8 rfl
theorem dX7_isSafe_106 : decode cX7_isSafe 106 = .ok (.lxor, 1) := dec_at kDX7_isSafe_50 9 rfl
theorem dX7_isSafe_107 : decode cX7_isSafe 107 = .ok (.land, 1) := dec_at kDX7_isSafe_50 10 rfl
theorem dX7_isSafe_108 : decode cX7_isSafe 108 = .ok (.lstore 5, 2) := dec_at kDX7_isSafe_50 11 rfl
theorem dX7_isSafe_110 : decode cX7_isSafe 110 = .ok (.goto (-91), 3) := dec_at kDX7_isSafe_50 12 rfl
theorem dX7_isSafe_113 : decode cX7_isSafe 113 = .ok (.lload_n 3, 1) := dec_at kDX7_isSafe_50 13 rfl
theorem dX7_isSafe_114 : decode cX7_isSafe 114 = .ok (.aload_n 0, 1) := dec_at kDX7_isSafe_50 14 rfl
theorem dX7_isSafe_115 : decode cX7_isSafe 115 = .ok (.invokevirtual 219, 3) := dec_at kDX7_isSafe_50 15 rfl
theorem dX7_isSafe_118 : decode cX7_isSafe 118 = .ok (.land, 1) := dec_at kDX7_isSafe_50 16 rfl
theorem dX7_isSafe_119 : decode cX7_isSafe 119 = .ok (.lconst 0, 1) := dec_at kDX7_isSafe_50 17 rfl
theorem dX7_isSafe_120 : decode cX7_isSafe 120 = .ok (.lcmp, 1) := dec_at kDX7_isSafe_50 18 rfl
theorem dX7_isSafe_121 : decode cX7_isSafe 121 = .ok (.ifCond .ne 7, 3) := dec_at kDX7_isSafe_50 19 rfl
theorem dX7_isSafe_124 : decode cX7_isSafe 124 = .ok (.iconst 1, 1) := dec_at kDX7_isSafe_50 20 rfl
theorem dX7_isSafe_125 : decode cX7_isSafe 125 = .ok (.goto 4, 3) := dec_at kDX7_isSafe_50 21 rfl
theorem dX7_isSafe_128 : decode cX7_isSafe 128 = .ok (.iconst 0, 1) := dec_at kDX7_isSafe_50 22 rfl
theorem dX7_isSafe_129 : decode cX7_isSafe 129 = .ok (.ireturn, 1) := dec_at kDX7_isSafe_50 23 rfl
def DX7_isSafeWithFree_0 : List (Nat × (Instr × Nat)) := [(0, (.aload_n 0, 1)), (1, (.iload_n 1, 1)), (2, (.iconst 0, 1)), (3, (.aload_n 0, 1)), (4, (.invokevirtual 86, 3)), (7, (.iconst 1, 1)), (8, (.isub, 1)), (9, (.invokestatic 112, 3)), (12, (.ifCond .eq 7, 3)), (15, (.iconst 0, 1)), (16, (.goto 4, 3)), (19, (.iconst 1, 1)), (20, (.putfield 70, 3)), (23, (.aload_n 0, 1)), (24, (.getfield 70, 3)), (27, (.ifCond .ne 15, 3)), (30, (.aload_n 0, 1)), (31, (.iload_n 1, 1)), (32, (.invokevirtual 395, 3)), (35, (.ifCond .eq 7, 3)), (38, (.iconst 1, 1)), (39, (.goto 4, 3)), (42, (.iconst 0, 1)), (43, (.ireturn, 1))]
theorem kDX7_isSafeWithFree_0 : DX7_isSafeWithFree_0.all (fun q => decide (decode cX7_isSafeWithFree q.1 = .ok q.2)) = true := by decide +kernel
theorem dX7_isSafeWithFree_0 : decode cX7_isSafeWithFree 0 = .ok (.aload_n 0, 1) := dec_at kDX7_isSafeWithFree_0 0 rfl
theorem dX7_isSafeWithFree_1 : decode cX7_isSafeWithFree 1 = .ok (.iload_n 1, 1) := dec_at kDX7_isSafeWithFree_0 1 rfl
theorem dX7_isSafeWithFree_2 : decode cX7_isSafeWithFree 2 = .ok (.iconst 0, 1) := dec_at kDX7_isSafeWithFree_0 2 rfl
theorem dX7_isSafeWithFree_3 : decode cX7_isSafeWithFree 3 = .ok (.aload_n 0, 1) := dec_at kDX7_isSafeWithFree_0 3 rfl
theorem dX7_isSafeWithFree_4 : decode cX7_isSafeWithFree 4 = .ok (.invokevirtual 86, 3) := dec_at kDX7_isSafeWithFree_0 4 rfl
theorem dX7_isSafeWithFree_7 : decode cX7_isSafeWithFree 7 = .ok (.iconst 1, 1) := dec_at kDX7_isSafeWithFree_0 5 rfl
theorem dX7_isSafeWithFree_8 : decode cX7_isSafeWithFree 8 = .ok (.isub, 1) := dec_at kDX7_isSafeWithFree_0 6 rfl
theorem dX7_isSafeWithFree_9 : decode cX7_isSafeWithFree 9 = .ok (.invokestatic 112, 3) := dec_at kDX7_isSafeWithFree_0 7 rfl
theorem dX7_isSafeWithFree_12 : decode cX7_isSafeWithFree 12 = .ok (.ifCond .eq 7, 3) := dec_at kDX7_isSafeWithFree_0 8 rfl
theorem dX7_isSafeWithFree_15 : decode cX7_isSafeWithFree 15 = .ok (.iconst 0, 1) := dec_at kDX7_isSafeWithFree_0 9 rfl
theorem dX7_isSafeWithFree_16 : decode cX7_isSafeWithFree 16 = .ok (.goto 4, 3) := dec_at kDX7_isSafeWithFree_0 10 rfl
theorem dX7_isSafeWithFree_19 : decode cX7_isSafeWithFree 19 = .ok (.iconst 1, 1) := dec_at kDX7_isSafeWithFree_0 11 rfl
theorem dX7_isSafeWithFree_20 : decode cX7_isSafeWithFree 20 = .ok (.putfield 70, 3) := dec_at kDX7_isSafeWithFree_0 12 rfl
theorem dX7_isSafeWithFree_23 : decode cX7_isSafeWithFree 23 = .ok (.aload_n 0, 1) := dec_at kDX7_isSafeWithFree_0 13 rfl
theorem dX7_isSafeWithFree_24 : decode cX7_isSafeWithFree 24 = .ok (.getfield 70, 3) := dec_at kDX7_isSafeWithFree_0 14 rfl
theorem dX7_isSafeWithFree_27 : decode cX7_isSafeWithFree 27 = .ok (.ifCond .ne 15, 3) := dec_at kDX7_isSafeWithFree_0 15 rfl
theorem dX7_isSafeWithFree_30 : decode cX7_isSafeWithFree 30 = .ok (.aload_n 0, 1) := dec_at kDX7_isSafeWithFree_0 16 rfl
theorem dX7_isSafeWithFree_31 : decode cX7_isSafeWithFree 31 = .ok (.iload_n 1, 1) := dec_at kDX7_isSafeWithFree_0 17 rfl
theorem dX7_isSafeWithFree_32 : decode cX7_isSafeWithFree 32 = .ok (.invokevirtual 395, 3) := dec_at kDX7_isSafeWithFree_0 18 rfl
theorem dX7_isSafeWithFree_35 : decode cX7_isSafeWithFree 35 = .ok (.ifCond .eq 7, 3) := dec_at kDX7_isSafeWithFree_0 19 rfl
theorem dX7_isSafeWithFree_38 : decode cX7_isSafeWithFree 38 = .ok (.iconst 1, 1) := dec_at kDX7_isSafeWithFree_0 20 rfl
theorem dX7_isSafeWithFree_39 : decode cX7_isSafeWithFree 39 = .ok (.goto 4, 3) := dec_at kDX7_isSafeWithFree_0 21 rfl
theorem dX7_isSafeWithFree_42 : decode cX7_isSafeWithFree 42 = .ok (.iconst 0, 1) := dec_at kDX7_isSafeWithFree_0 22 rfl
theorem dX7_isSafeWithFree_43 : decode cX7_isSafeWithFree 43 = .ok (.ireturn, 1) := dec_at kDX7_isSafeWithFree_0 23 rfl
def DX7_coneNow_0 : List (Nat × (Instr × Nat)) := [(0, (.iconst (-1), 1)), (1, (.istore_n 1, 1)), (2, (.iconst 0, 1)), (3, (.istore_n 2, 1)), (4, (.iload_n 2, 1)), (5, (.aload_n 0, 1)), (6, (.invokevirtual 86, 3)), (9, (.if_icmp .ge 58, 3)), (12, (.iload_n 1, 1)), (13, (.iconst (-1), 1)), (14, (.if_icmp .eq 14, 3)), (17, (.iload_n 2, 1)), (18, (.invokestatic 379, 3)), (21, (.iload_n 1, 1)), (22, (.invokestatic 379, 3)), (25, (.if_icmp .ge 7, 3)), (28, (.iconst 1, 1)), (29, (.goto 4, 3)), (32, (.iconst 0, 1)), (33, (.istore_n 3, 1)), (34, (.iload_n 3, 1)), (35, (.ifCond .eq 24, 3)), (38, (.aload_n 0, 1)), (39, (.aload_n 0, 1)), (40, (.invokevirtual 86, 3)), (43, (.iconst 1, 1)), (44, (.isub, 1)), (45, (.iload_n 2, 1)), (46, (.iconst (-1), 1)), (47, (.ixor, 1)), (48, (.iand, 1)), (49, (.invokevirtual 395, 3)), (52, (.ifCond .eq 7, 3)), (55, (.iload_n 2, 1)), (56, (.goto 4, 3)), (59, (.iload_n 1, 1)), (60, (.istore_n 1, 1)), (61, (.iinc 2 1, 3)), (64, (.goto (-60), 3)), (67, (.iload_n 1, 1)), (68, (.ireturn, 1))]
theorem kDX7_coneNow_0 : DX7_coneNow_0.all (fun q => decide (decode cX7_coneNow q.1 = .ok q.2)) = true := by decide +kernel
theorem dX7_coneNow_0 : decode cX7_coneNow 0 = .ok (.iconst (-1), 1) := dec_at kDX7_coneNow_0 0 rfl
theorem dX7_coneNow_1 : decode cX7_coneNow 1 = .ok (.istore_n 1, 1) := dec_at kDX7_coneNow_0 1 rfl
theorem dX7_coneNow_2 : decode cX7_coneNow 2 = .ok (.iconst 0, 1) := dec_at kDX7_coneNow_0 2 rfl
theorem dX7_coneNow_3 : decode cX7_coneNow 3 = .ok (.istore_n 2, 1) := dec_at kDX7_coneNow_0 3 rfl
theorem dX7_coneNow_4 : decode cX7_coneNow 4 = .ok (.iload_n 2, 1) := dec_at kDX7_coneNow_0 4 rfl
theorem dX7_coneNow_5 : decode cX7_coneNow 5 = .ok (.aload_n 0, 1) := dec_at kDX7_coneNow_0 5 rfl
theorem dX7_coneNow_6 : decode cX7_coneNow 6 = .ok (.invokevirtual 86, 3) := dec_at kDX7_coneNow_0 6 rfl
theorem dX7_coneNow_9 : decode cX7_coneNow 9 = .ok (.if_icmp .ge 58, 3) := dec_at kDX7_coneNow_0 7 rfl
theorem dX7_coneNow_12 : decode cX7_coneNow 12 = .ok (.iload_n 1, 1) := dec_at kDX7_coneNow_0 8 rfl
theorem dX7_coneNow_13 : decode cX7_coneNow 13 = .ok (.iconst (-1), 1) := dec_at kDX7_coneNow_0 9 rfl
theorem dX7_coneNow_14 : decode cX7_coneNow 14 = .ok (.if_icmp .eq 14, 3) := dec_at kDX7_coneNow_0 10 rfl
theorem dX7_coneNow_17 : decode cX7_coneNow 17 = .ok (.iload_n 2, 1) := dec_at kDX7_coneNow_0 11 rfl
theorem dX7_coneNow_18 : decode cX7_coneNow 18 = .ok (.invokestatic 379, 3) := dec_at kDX7_coneNow_0 12 rfl
theorem dX7_coneNow_21 : decode cX7_coneNow 21 = .ok (.iload_n 1, 1) := dec_at kDX7_coneNow_0 13 rfl
theorem dX7_coneNow_22 : decode cX7_coneNow 22 = .ok (.invokestatic 379, 3) := dec_at kDX7_coneNow_0 14 rfl
theorem dX7_coneNow_25 : decode cX7_coneNow 25 = .ok (.if_icmp .ge 7, 3) := dec_at kDX7_coneNow_0 15 rfl
theorem dX7_coneNow_28 : decode cX7_coneNow 28 = .ok (.iconst 1, 1) := dec_at kDX7_coneNow_0 16 rfl
theorem dX7_coneNow_29 : decode cX7_coneNow 29 = .ok (.goto 4, 3) := dec_at kDX7_coneNow_0 17 rfl
theorem dX7_coneNow_32 : decode cX7_coneNow 32 = .ok (.iconst 0, 1) := dec_at kDX7_coneNow_0 18 rfl
theorem dX7_coneNow_33 : decode cX7_coneNow 33 = .ok (.istore_n 3, 1) := dec_at kDX7_coneNow_0 19 rfl
theorem dX7_coneNow_34 : decode cX7_coneNow 34 = .ok (.iload_n 3, 1) := dec_at kDX7_coneNow_0 20 rfl
theorem dX7_coneNow_35 : decode cX7_coneNow 35 = .ok (.ifCond .eq 24, 3) := dec_at kDX7_coneNow_0 21 rfl
theorem dX7_coneNow_38 : decode cX7_coneNow 38 = .ok (.aload_n 0, 1) := dec_at kDX7_coneNow_0 22 rfl
theorem dX7_coneNow_39 : decode cX7_coneNow 39 = .ok (.aload_n 0, 1) := dec_at kDX7_coneNow_0 23 rfl
theorem dX7_coneNow_40 : decode cX7_coneNow 40 = .ok (.invokevirtual 86, 3) := dec_at kDX7_coneNow_0 24 rfl
theorem dX7_coneNow_43 : decode cX7_coneNow 43 = .ok (.iconst 1, 1) := dec_at kDX7_coneNow_0 25 rfl
theorem dX7_coneNow_44 : decode cX7_coneNow 44 = .ok (.isub, 1) := dec_at kDX7_coneNow_0 26 rfl
theorem dX7_coneNow_45 : decode cX7_coneNow 45 = .ok (.iload_n 2, 1) := dec_at kDX7_coneNow_0 27 rfl
theorem dX7_coneNow_46 : decode cX7_coneNow 46 = .ok (.iconst (-1), 1) := dec_at kDX7_coneNow_0 28 rfl
theorem dX7_coneNow_47 : decode cX7_coneNow 47 = .ok (.ixor, 1) := dec_at kDX7_coneNow_0 29 rfl
theorem dX7_coneNow_48 : decode cX7_coneNow 48 = .ok (.iand, 1) := dec_at kDX7_coneNow_0 30 rfl
theorem dX7_coneNow_49 : decode cX7_coneNow 49 = .ok (.invokevirtual 395, 3) := dec_at kDX7_coneNow_0 31 rfl
theorem dX7_coneNow_52 : decode cX7_coneNow 52 = .ok (.ifCond .eq 7, 3) := dec_at kDX7_coneNow_0 32 rfl
theorem dX7_coneNow_55 : decode cX7_coneNow 55 = .ok (.iload_n 2, 1) := dec_at kDX7_coneNow_0 33 rfl
theorem dX7_coneNow_56 : decode cX7_coneNow 56 = .ok (.goto 4, 3) := dec_at kDX7_coneNow_0 34 rfl
theorem dX7_coneNow_59 : decode cX7_coneNow 59 = .ok (.iload_n 1, 1) := dec_at kDX7_coneNow_0 35 rfl
theorem dX7_coneNow_60 : decode cX7_coneNow 60 = .ok (.istore_n 1, 1) := dec_at kDX7_coneNow_0 36 rfl
theorem dX7_coneNow_61 : decode cX7_coneNow 61 = .ok (.iinc 2 1, 3) := dec_at kDX7_coneNow_0 37 rfl
theorem dX7_coneNow_64 : decode cX7_coneNow 64 = .ok (.goto (-60), 3) := dec_at kDX7_coneNow_0 38 rfl
theorem dX7_coneNow_67 : decode cX7_coneNow 67 = .ok (.iload_n 1, 1) := dec_at kDX7_coneNow_0 39 rfl
theorem dX7_coneNow_68 : decode cX7_coneNow 68 = .ok (.ireturn, 1) := dec_at kDX7_coneNow_0 40 rfl
def DX7_leastCone_0 : List (Nat × (Instr × Nat)) := [(0, (.aload_n 0, 1)), (1, (.iconst 0, 1)), (2, (.putfield 70, 3)), (5, (.aload_n 0, 1)), (6, (.invokevirtual 398, 3)), (9, (.ireturn, 1))]
theorem kDX7_leastCone_0 : DX7_leastCone_0.all (fun q => decide (decode cX7_leastCone q.1 = .ok q.2)) = true := by decide +kernel
theorem dX7_leastCone_0 : decode cX7_leastCone 0 = .ok (.aload_n 0, 1) := dec_at kDX7_leastCone_0 0 rfl
theorem dX7_leastCone_1 : decode cX7_leastCone 1 = .ok (.iconst 0, 1) := dec_at kDX7_leastCone_0 1 rfl
theorem dX7_leastCone_2 : decode cX7_leastCone 2 = .ok (.putfield 70, 3) := dec_at kDX7_leastCone_0 2 rfl
theorem dX7_leastCone_5 : decode cX7_leastCone 5 = .ok (.aload_n 0, 1) := dec_at kDX7_leastCone_0 3 rfl
theorem dX7_leastCone_6 : decode cX7_leastCone 6 = .ok (.invokevirtual 398, 3) := dec_at kDX7_leastCone_0 4 rfl
theorem dX7_leastCone_9 : decode cX7_leastCone 9 = .ok (.ireturn, 1) := dec_at kDX7_leastCone_0 5 rfl
def DX7_simulated_0 : List (Nat × (Instr × Nat)) := [(0, (.iload_n 2, 1)), (1, (.i2l, 1)), (2, (.lstore 4, 2)), (4, (.aload_n 0, 1)), (5, (.getfield 94, 3)), (8, (.invokestatic 216, 3)), (11, (.istore 6, 2)), (13, (.lconst 1, 1)), (14, (.iload 6, 2)), (16, (.lshl, 1)), (17, (.lstore 7, 2)), (19, (.aload_n 0, 1)), (20, (.getfield 102, 3)), (23, (.iload 6, 2)), (25, (.invokestatic 74, 3)), (28, (.ifCond .eq 7, 3)), (31, (.iconst (-1), 1)), (32, (.goto 4, 3)), (35, (.iconst 0, 1)), (36, (.istore 9, 2)), (38, (.iconst 1, 1)), (39, (.istore 10, 2)), (41, (.iload 10, 2)), (43, (.iload_n 1, 1)), (44, (.if_icmp .gt 82, 3)), (47, (.ldc2_w 401, 3)), (50, (.lload 4, 2)), (52, (.lmul, 1)), (53, (.ldc2_w 403, 3)), (56, (.ladd, 1)), (57, (.ldc2_w 405, 3)), (60, (.lrem, 1)), (61, (.lstore 4, 2)), (63, (.aload_n 0, 1)), (64, (.iload 6, 2)), (66, (.lload 4, 2)), (68, (.ldc2_w 407, 3)), (71, (.ldiv, 1)), (72, (.aload_n 0, 1)), (73, (.invokevirtual 188, 3)), (76, (.i2l, 1)), (77, (.lrem, 1)), (78, (.l2i, 1)), (79, (.invokevirtual 205, 3)), (82, (.istore 6, 2)), (84, (.lload 7, 2)), (86, (.lconst 1, 1)), (87, (.iload 6, 2)), (89, (.lshl, 1)), (90, (.lor, 1))]
theorem kDX7_simulated_0 : DX7_simulated_0.all (fun q => decide (decode cX7_simulated q.1 = .ok q.2)) = true := by decide +kernel
theorem dX7_simulated_0 : decode cX7_simulated 0 = .ok (.iload_n 2, 1) := dec_at kDX7_simulated_0 0 rfl
theorem dX7_simulated_1 : decode cX7_simulated 1 = .ok (.i2l, 1) := dec_at kDX7_simulated_0 1 rfl
theorem dX7_simulated_2 : decode cX7_simulated 2 = .ok (.lstore 4, 2) := dec_at kDX7_simulated_0 2 rfl
theorem dX7_simulated_4 : decode cX7_simulated 4 = .ok (.aload_n 0, 1) := dec_at kDX7_simulated_0 3 rfl
theorem dX7_simulated_5 : decode cX7_simulated 5 = .ok (.getfield 94, 3) := dec_at kDX7_simulated_0 4 rfl
theorem dX7_simulated_8 : decode cX7_simulated 8 = .ok (.invokestatic 216, 3) := dec_at kDX7_simulated_0 5 rfl
theorem dX7_simulated_11 : decode cX7_simulated 11 = .ok (.istore 6, 2) := dec_at kDX7_simulated_0 6 rfl
theorem dX7_simulated_13 : decode cX7_simulated 13 = .ok (.lconst 1, 1) := dec_at kDX7_simulated_0 7 rfl
theorem dX7_simulated_14 : decode cX7_simulated 14 = .ok (.iload 6, 2) := dec_at kDX7_simulated_0 8 rfl
theorem dX7_simulated_16 : decode cX7_simulated 16 = .ok (.lshl, 1) := dec_at kDX7_simulated_0 9 rfl
theorem dX7_simulated_17 : decode cX7_simulated 17 = .ok (.lstore 7, 2) := dec_at kDX7_simulated_0 10 rfl
theorem dX7_simulated_19 : decode cX7_simulated 19 = .ok (.aload_n 0, 1) := dec_at kDX7_simulated_0 11 rfl
theorem dX7_simulated_20 : decode cX7_simulated 20 = .ok (.getfield 102, 3) := dec_at kDX7_simulated_0 12 rfl
theorem dX7_simulated_23 : decode cX7_simulated 23 = .ok (.iload 6, 2) := dec_at kDX7_simulated_0 13 rfl
theorem dX7_simulated_25 : decode cX7_simulated 25 = .ok (.invokestatic 74, 3) := dec_at kDX7_simulated_0 14 rfl
theorem dX7_simulated_28 : decode cX7_simulated 28 = .ok (.ifCond .eq 7, 3) := dec_at kDX7_simulated_0 15 rfl
theorem dX7_simulated_31 : decode cX7_simulated 31 = .ok (.iconst (-1), 1) := dec_at kDX7_simulated_0 16 rfl
theorem dX7_simulated_32 : decode cX7_simulated 32 = .ok (.goto 4, 3) := dec_at kDX7_simulated_0 17 rfl
theorem dX7_simulated_35 : decode cX7_simulated 35 = .ok (.iconst 0, 1) := dec_at kDX7_simulated_0 18 rfl
theorem dX7_simulated_36 : decode cX7_simulated 36 = .ok (.istore 9, 2) := dec_at kDX7_simulated_0 19 rfl
theorem dX7_simulated_38 : decode cX7_simulated 38 = .ok (.iconst 1, 1) := dec_at kDX7_simulated_0 20 rfl
theorem dX7_simulated_39 : decode cX7_simulated 39 = .ok (.istore 10, 2) := dec_at kDX7_simulated_0 21 rfl
theorem dX7_simulated_41 : decode cX7_simulated 41 = .ok (.iload 10, 2) := dec_at kDX7_simulated_0 22 rfl
theorem dX7_simulated_43 : decode cX7_simulated 43 = .ok (.iload_n 1, 1) := dec_at kDX7_simulated_0 23 rfl
theorem dX7_simulated_44 : decode cX7_simulated 44 = .ok (.if_icmp .gt 82, 3) := dec_at kDX7_simulated_0 24 rfl
theorem dX7_simulated_47 : decode cX7_simulated 47 = .ok (.ldc2_w 401, 3) := dec_at kDX7_simulated_0 25 rfl
theorem dX7_simulated_50 : decode cX7_simulated 50 = .ok (.lload 4, 2) := dec_at kDX7_simulated_0 26 rfl
theorem dX7_simulated_52 : decode cX7_simulated 52 = .ok (.lmul, 1) := dec_at kDX7_simulated_0 27 rfl
theorem dX7_simulated_53 : decode cX7_simulated 53 = .ok (.ldc2_w 403, 3) := dec_at kDX7_simulated_0 28 rfl
theorem dX7_simulated_56 : decode cX7_simulated 56 = .ok (.ladd, 1) := dec_at kDX7_simulated_0 29 rfl
theorem dX7_simulated_57 : decode cX7_simulated 57 = .ok (.ldc2_w 405, 3) := dec_at kDX7_simulated_0 30 rfl
theorem dX7_simulated_60 : decode cX7_simulated 60 = .ok (.lrem, 1) := dec_at kDX7_simulated_0 31 rfl
theorem dX7_simulated_61 : decode cX7_simulated 61 = .ok (.lstore 4, 2) := dec_at kDX7_simulated_0 32 rfl
theorem dX7_simulated_63 : decode cX7_simulated 63 = .ok (.aload_n 0, 1) := dec_at kDX7_simulated_0 33 rfl
theorem dX7_simulated_64 : decode cX7_simulated 64 = .ok (.iload 6, 2) := dec_at kDX7_simulated_0 34 rfl
theorem dX7_simulated_66 : decode cX7_simulated 66 = .ok (.lload 4, 2) := dec_at kDX7_simulated_0 35 rfl
theorem dX7_simulated_68 : decode cX7_simulated 68 = .ok (.ldc2_w 407, 3) := dec_at kDX7_simulated_0 36 rfl
theorem dX7_simulated_71 : decode cX7_simulated 71 = .ok (.ldiv, 1) := dec_at kDX7_simulated_0 37 rfl
theorem dX7_simulated_72 : decode cX7_simulated 72 = .ok (.aload_n 0, 1) := dec_at kDX7_simulated_0 38 rfl
theorem dX7_simulated_73 : decode cX7_simulated 73 = .ok (.invokevirtual 188, 3) := dec_at kDX7_simulated_0 39 rfl
theorem dX7_simulated_76 : decode cX7_simulated 76 = .ok (.i2l, 1) := dec_at kDX7_simulated_0 40 rfl
theorem dX7_simulated_77 : decode cX7_simulated 77 = .ok (.lrem, 1) := dec_at kDX7_simulated_0 41 rfl
theorem dX7_simulated_78 : decode cX7_simulated 78 = .ok (.l2i, 1) := dec_at kDX7_simulated_0 42 rfl
theorem dX7_simulated_79 : decode cX7_simulated 79 = .ok (.invokevirtual 205, 3) := dec_at kDX7_simulated_0 43 rfl
theorem dX7_simulated_82 : decode cX7_simulated 82 = .ok (.istore 6, 2) := dec_at kDX7_simulated_0 44 rfl
theorem dX7_simulated_84 : decode cX7_simulated 84 = .ok (.lload 7, 2) := dec_at kDX7_simulated_0 45 rfl
theorem dX7_simulated_86 : decode cX7_simulated 86 = .ok (.lconst 1, 1) := dec_at kDX7_simulated_0 46 rfl
theorem dX7_simulated_87 : decode cX7_simulated 87 = .ok (.iload 6, 2) := dec_at kDX7_simulated_0 47 rfl
theorem dX7_simulated_89 : decode cX7_simulated 89 = .ok (.lshl, 1) := dec_at kDX7_simulated_0 48 rfl
theorem dX7_simulated_90 : decode cX7_simulated 90 = .ok (.lor, 1) := dec_at kDX7_simulated_0 49 rfl
def DX7_simulated_50 : List (Nat × (Instr × Nat)) := [(91, (.lstore 7, 2)), (93, (.iload 9, 2)), (95, (.iconst (-1), 1)), (96, (.if_icmp .ne 20, 3)), (99, (.aload_n 0, 1)), (100, (.getfield 102, 3)), (103, (.iload 6, 2)), (105, (.invokestatic 74, 3)), (108, (.ifCond .ne 8, 3)), (111, (.iload 10, 2)), (113, (.goto 5, 3)), (116, (.iload 9, 2)), (118, (.istore 9, 2)), (120, (.iinc 10 1, 3)), (123, (.goto (-82), 3)), (126, (.iload_n 3, 1)), (127, (.ifCond .ne 8, 3)), (130, (.iload 6, 2)), (132, (.goto 18, 3)), (135, (.iload_n 3, 1)), (136, (.iconst 1, 1)), (137, (.if_icmp .ne 11, 3)), (140, (.lload 7, 2)), (142, (.invokestatic 191, 3)), (145, (.goto 5, 3)), (148, (.iload 9, 2)), (150, (.ireturn, 1))]
theorem kDX7_simulated_50 : DX7_simulated_50.all (fun q => decide (decode cX7_simulated q.1 = .ok q.2)) = true := by decide +kernel
theorem dX7_simulated_91 : decode cX7_simulated 91 = .ok (.lstore 7, 2) := dec_at kDX7_simulated_50 0 rfl
theorem dX7_simulated_93 : decode cX7_simulated 93 = .ok (.iload 9, 2) := dec_at kDX7_simulated_50 1 rfl
theorem dX7_simulated_95 : decode cX7_simulated 95 = .ok (.iconst (-1), 1) := dec_at kDX7_simulated_50 2 rfl
theorem dX7_simulated_96 : decode cX7_simulated 96 = .ok (.if_icmp .ne 20, 3) := dec_at kDX7_simulated_50 3 rfl
theorem dX7_simulated_99 : decode cX7_simulated 99 = .ok (.aload_n 0, 1) := dec_at kDX7_simulated_50 4 rfl
theorem dX7_simulated_100 : decode cX7_simulated 100 = .ok (.getfield 102, 3) := dec_at kDX7_simulated_50 5 rfl
theorem dX7_simulated_103 : decode cX7_simulated 103 = .ok (.iload 6, 2) := dec_at kDX7_simulated_50 6 rfl
theorem dX7_simulated_105 : decode cX7_simulated 105 = .ok (.invokestatic 74, 3) := dec_at kDX7_simulated_50 7 rfl
theorem dX7_simulated_108 : decode cX7_simulated 108 = .ok (.ifCond .ne 8, 3) := dec_at kDX7_simulated_50 8 rfl
theorem dX7_simulated_111 : decode cX7_simulated 111 = .ok (.iload 10, 2) := dec_at kDX7_simulated_50 9 rfl
theorem dX7_simulated_113 : decode cX7_simulated 113 = .ok (.goto 5, 3) := dec_at kDX7_simulated_50 10 rfl
theorem dX7_simulated_116 : decode cX7_simulated 116 = .ok (.iload 9, 2) := dec_at kDX7_simulated_50 11 rfl
theorem dX7_simulated_118 : decode cX7_simulated 118 = .ok (.istore 9, 2) := dec_at kDX7_simulated_50 12 rfl
theorem dX7_simulated_120 : decode cX7_simulated 120 = .ok (.iinc 10 1, 3) := dec_at kDX7_simulated_50 13 rfl
theorem dX7_simulated_123 : decode cX7_simulated 123 = .ok (.goto (-82), 3) := dec_at kDX7_simulated_50 14 rfl
theorem dX7_simulated_126 : decode cX7_simulated 126 = .ok (.iload_n 3, 1) := dec_at kDX7_simulated_50 15 rfl
theorem dX7_simulated_127 : decode cX7_simulated 127 = .ok (.ifCond .ne 8, 3) := dec_at kDX7_simulated_50 16 rfl
theorem dX7_simulated_130 : decode cX7_simulated 130 = .ok (.iload 6, 2) := dec_at kDX7_simulated_50 17 rfl
theorem dX7_simulated_132 : decode cX7_simulated 132 = .ok (.goto 18, 3) := dec_at kDX7_simulated_50 18 rfl
theorem dX7_simulated_135 : decode cX7_simulated 135 = .ok (.iload_n 3, 1) := dec_at kDX7_simulated_50 19 rfl
theorem dX7_simulated_136 : decode cX7_simulated 136 = .ok (.iconst 1, 1) := dec_at kDX7_simulated_50 20 rfl
theorem dX7_simulated_137 : decode cX7_simulated 137 = .ok (.if_icmp .ne 11, 3) := dec_at kDX7_simulated_50 21 rfl
theorem dX7_simulated_140 : decode cX7_simulated 140 = .ok (.lload 7, 2) := dec_at kDX7_simulated_50 22 rfl
theorem dX7_simulated_142 : decode cX7_simulated 142 = .ok (.invokestatic 191, 3) := dec_at kDX7_simulated_50 23 rfl
theorem dX7_simulated_145 : decode cX7_simulated 145 = .ok (.goto 5, 3) := dec_at kDX7_simulated_50 24 rfl
theorem dX7_simulated_148 : decode cX7_simulated 148 = .ok (.iload 9, 2) := dec_at kDX7_simulated_50 25 rfl
theorem dX7_simulated_150 : decode cX7_simulated 150 = .ok (.ireturn, 1) := dec_at kDX7_simulated_50 26 rfl
def DX7_simulate_0 : List (Nat × (Instr × Nat)) := [(0, (.aload_n 0, 1)), (1, (.iload_n 1, 1)), (2, (.iconst 0, 1)), (3, (.bipush 100, 2)), (5, (.invokestatic 112, 3)), (8, (.ifCond .eq 16, 3)), (11, (.iload_n 2, 1)), (12, (.ifCond .lt 12, 3)), (15, (.iload_n 3, 1)), (16, (.iconst 0, 1)), (17, (.iconst 2, 1)), (18, (.invokestatic 112, 3)), (21, (.ifCond .ne 7, 3)), (24, (.iconst 1, 1)), (25, (.goto 17, 3)), (28, (.aload_n 0, 1)), (29, (.getfield 94, 3)), (32, (.lconst 0, 1)), (33, (.lcmp, 1)), (34, (.ifCond .ne 7, 3)), (37, (.iconst 2, 1)), (38, (.goto 4, 3)), (41, (.iconst 0, 1)), (42, (.putfield 70, 3)), (45, (.aload_n 0, 1)), (46, (.getfield 70, 3)), (49, (.ifCond .le 7, 3)), (52, (.iconst 0, 1)), (53, (.goto 10, 3)), (56, (.aload_n 0, 1)), (57, (.iload_n 1, 1)), (58, (.iload_n 2, 1)), (59, (.iload_n 3, 1)), (60, (.invokevirtual 409, 3)), (63, (.ireturn, 1))]
theorem kDX7_simulate_0 : DX7_simulate_0.all (fun q => decide (decode cX7_simulate q.1 = .ok q.2)) = true := by decide +kernel
theorem dX7_simulate_0 : decode cX7_simulate 0 = .ok (.aload_n 0, 1) := dec_at kDX7_simulate_0 0 rfl
theorem dX7_simulate_1 : decode cX7_simulate 1 = .ok (.iload_n 1, 1) := dec_at kDX7_simulate_0 1 rfl
theorem dX7_simulate_2 : decode cX7_simulate 2 = .ok (.iconst 0, 1) := dec_at kDX7_simulate_0 2 rfl
theorem dX7_simulate_3 : decode cX7_simulate 3 = .ok (.bipush 100, 2) := dec_at kDX7_simulate_0 3 rfl
theorem dX7_simulate_5 : decode cX7_simulate 5 = .ok (.invokestatic 112, 3) := dec_at kDX7_simulate_0 4 rfl
theorem dX7_simulate_8 : decode cX7_simulate 8 = .ok (.ifCond .eq 16, 3) := dec_at kDX7_simulate_0 5 rfl
theorem dX7_simulate_11 : decode cX7_simulate 11 = .ok (.iload_n 2, 1) := dec_at kDX7_simulate_0 6 rfl
theorem dX7_simulate_12 : decode cX7_simulate 12 = .ok (.ifCond .lt 12, 3) := dec_at kDX7_simulate_0 7 rfl
theorem dX7_simulate_15 : decode cX7_simulate 15 = .ok (.iload_n 3, 1) := dec_at kDX7_simulate_0 8 rfl
theorem dX7_simulate_16 : decode cX7_simulate 16 = .ok (.iconst 0, 1) := dec_at kDX7_simulate_0 9 rfl
theorem dX7_simulate_17 : decode cX7_simulate 17 = .ok (.iconst 2, 1) := dec_at kDX7_simulate_0 10 rfl
theorem dX7_simulate_18 : decode cX7_simulate 18 = .ok (.invokestatic 112, 3) := dec_at kDX7_simulate_0 11 rfl
theorem dX7_simulate_21 : decode cX7_simulate 21 = .ok (.ifCond .ne 7, 3) := dec_at kDX7_simulate_0 12 rfl
theorem dX7_simulate_24 : decode cX7_simulate 24 = .ok (.iconst 1, 1) := dec_at kDX7_simulate_0 13 rfl
theorem dX7_simulate_25 : decode cX7_simulate 25 = .ok (.goto 17, 3) := dec_at kDX7_simulate_0 14 rfl
theorem dX7_simulate_28 : decode cX7_simulate 28 = .ok (.aload_n 0, 1) := dec_at kDX7_simulate_0 15 rfl
theorem dX7_simulate_29 : decode cX7_simulate 29 = .ok (.getfield 94, 3) := dec_at kDX7_simulate_0 16 rfl
theorem dX7_simulate_32 : decode cX7_simulate 32 = .ok (.lconst 0, 1) := dec_at kDX7_simulate_0 17 rfl
theorem dX7_simulate_33 : decode cX7_simulate 33 = .ok (.lcmp, 1) := dec_at kDX7_simulate_0 18 rfl
theorem dX7_simulate_34 : decode cX7_simulate 34 = .ok (.ifCond .ne 7, 3) := dec_at kDX7_simulate_0 19 rfl
theorem dX7_simulate_37 : decode cX7_simulate 37 = .ok (.iconst 2, 1) := dec_at kDX7_simulate_0 20 rfl
theorem dX7_simulate_38 : decode cX7_simulate 38 = .ok (.goto 4, 3) := dec_at kDX7_simulate_0 21 rfl
theorem dX7_simulate_41 : decode cX7_simulate 41 = .ok (.iconst 0, 1) := dec_at kDX7_simulate_0 22 rfl
theorem dX7_simulate_42 : decode cX7_simulate 42 = .ok (.putfield 70, 3) := dec_at kDX7_simulate_0 23 rfl
theorem dX7_simulate_45 : decode cX7_simulate 45 = .ok (.aload_n 0, 1) := dec_at kDX7_simulate_0 24 rfl
theorem dX7_simulate_46 : decode cX7_simulate 46 = .ok (.getfield 70, 3) := dec_at kDX7_simulate_0 25 rfl
theorem dX7_simulate_49 : decode cX7_simulate 49 = .ok (.ifCond .le 7, 3) := dec_at kDX7_simulate_0 26 rfl
theorem dX7_simulate_52 : decode cX7_simulate 52 = .ok (.iconst 0, 1) := dec_at kDX7_simulate_0 27 rfl
theorem dX7_simulate_53 : decode cX7_simulate 53 = .ok (.goto 10, 3) := dec_at kDX7_simulate_0 28 rfl
theorem dX7_simulate_56 : decode cX7_simulate 56 = .ok (.aload_n 0, 1) := dec_at kDX7_simulate_0 29 rfl
theorem dX7_simulate_57 : decode cX7_simulate 57 = .ok (.iload_n 1, 1) := dec_at kDX7_simulate_0 30 rfl
theorem dX7_simulate_58 : decode cX7_simulate 58 = .ok (.iload_n 2, 1) := dec_at kDX7_simulate_0 31 rfl
theorem dX7_simulate_59 : decode cX7_simulate 59 = .ok (.iload_n 3, 1) := dec_at kDX7_simulate_0 32 rfl
theorem dX7_simulate_60 : decode cX7_simulate 60 = .ok (.invokevirtual 409, 3) := dec_at kDX7_simulate_0 33 rfl
theorem dX7_simulate_63 : decode cX7_simulate 63 = .ok (.ireturn, 1) := dec_at kDX7_simulate_0 34 rfl
def DX7_mix_0 : List (Nat × (Instr × Nat)) := [(0, (.aload_n 0, 1)), (1, (.ldc2_w 413, 3)), (4, (.aload_n 0, 1)), (5, (.getfield 415, 3)), (8, (.lmul, 1)), (9, (.lload_n 1, 1)), (10, (.ladd, 1)), (11, (.putfield 415, 3)), (14, (.return_, 1))]
theorem kDX7_mix_0 : DX7_mix_0.all (fun q => decide (decode cX7_mix q.1 = .ok q.2)) = true := by decide +kernel
theorem dX7_mix_0 : decode cX7_mix 0 = .ok (.aload_n 0, 1) := dec_at kDX7_mix_0 0 rfl
theorem dX7_mix_1 : decode cX7_mix 1 = .ok (.ldc2_w 413, 3) := dec_at kDX7_mix_0 1 rfl
theorem dX7_mix_4 : decode cX7_mix 4 = .ok (.aload_n 0, 1) := dec_at kDX7_mix_0 2 rfl
theorem dX7_mix_5 : decode cX7_mix 5 = .ok (.getfield 415, 3) := dec_at kDX7_mix_0 3 rfl
theorem dX7_mix_8 : decode cX7_mix 8 = .ok (.lmul, 1) := dec_at kDX7_mix_0 4 rfl
theorem dX7_mix_9 : decode cX7_mix 9 = .ok (.lload_n 1, 1) := dec_at kDX7_mix_0 5 rfl
theorem dX7_mix_10 : decode cX7_mix 10 = .ok (.ladd, 1) := dec_at kDX7_mix_0 6 rfl
theorem dX7_mix_11 : decode cX7_mix 11 = .ok (.putfield 415, 3) := dec_at kDX7_mix_0 7 rfl
theorem dX7_mix_14 : decode cX7_mix 14 = .ok (.return_, 1) := dec_at kDX7_mix_0 8 rfl
def DX7_mixStates_0 : List (Nat × (Instr × Nat)) := [(0, (.iconst 0, 1)), (1, (.istore_n 1, 1)), (2, (.iload_n 1, 1)), (3, (.aload_n 0, 1)), (4, (.invokevirtual 86, 3)), (7, (.if_icmp .ge 60, 3)), (10, (.iconst 0, 1)), (11, (.istore_n 2, 1)), (12, (.iload_n 2, 1)), (13, (.iconst 5, 1)), (14, (.if_icmp .ge 20, 3)), (17, (.aload_n 0, 1)), (18, (.aload_n 0, 1)), (19, (.iload_n 1, 1)), (20, (.iload_n 2, 1)), (21, (.invokevirtual 240, 3)), (24, (.i2l, 1)), (25, (.invokevirtual 418, 3)), (28, (.iinc 2 1, 3)), (31, (.goto (-19), 3)), (34, (.iconst 0, 1)), (35, (.istore_n 2, 1)), (36, (.iload_n 2, 1)), (37, (.aload_n 0, 1)), (38, (.invokevirtual 188, 3)), (41, (.if_icmp .ge 20, 3)), (44, (.aload_n 0, 1)), (45, (.aload_n 0, 1)), (46, (.iload_n 1, 1)), (47, (.iload_n 2, 1)), (48, (.invokevirtual 205, 3)), (51, (.i2l, 1)), (52, (.invokevirtual 418, 3)), (55, (.iinc 2 1, 3)), (58, (.goto (-22), 3)), (61, (.iinc 1 1, 3)), (64, (.goto (-62), 3)), (67, (.return_, 1))]
theorem kDX7_mixStates_0 : DX7_mixStates_0.all (fun q => decide (decode cX7_mixStates q.1 = .ok q.2)) = true := by decide +kernel
theorem dX7_mixStates_0 : decode cX7_mixStates 0 = .ok (.iconst 0, 1) := dec_at kDX7_mixStates_0 0 rfl
theorem dX7_mixStates_1 : decode cX7_mixStates 1 = .ok (.istore_n 1, 1) := dec_at kDX7_mixStates_0 1 rfl
theorem dX7_mixStates_2 : decode cX7_mixStates 2 = .ok (.iload_n 1, 1) := dec_at kDX7_mixStates_0 2 rfl
theorem dX7_mixStates_3 : decode cX7_mixStates 3 = .ok (.aload_n 0, 1) := dec_at kDX7_mixStates_0 3 rfl
theorem dX7_mixStates_4 : decode cX7_mixStates 4 = .ok (.invokevirtual 86, 3) := dec_at kDX7_mixStates_0 4 rfl
theorem dX7_mixStates_7 : decode cX7_mixStates 7 = .ok (.if_icmp .ge 60, 3) := dec_at kDX7_mixStates_0 5 rfl
theorem dX7_mixStates_10 : decode cX7_mixStates 10 = .ok (.iconst 0, 1) := dec_at kDX7_mixStates_0 6 rfl
theorem dX7_mixStates_11 : decode cX7_mixStates 11 = .ok (.istore_n 2, 1) := dec_at kDX7_mixStates_0 7 rfl
theorem dX7_mixStates_12 : decode cX7_mixStates 12 = .ok (.iload_n 2, 1) := dec_at kDX7_mixStates_0 8 rfl
theorem dX7_mixStates_13 : decode cX7_mixStates 13 = .ok (.iconst 5, 1) := dec_at kDX7_mixStates_0 9 rfl
theorem dX7_mixStates_14 : decode cX7_mixStates 14 = .ok (.if_icmp .ge 20, 3) := dec_at kDX7_mixStates_0 10 rfl
theorem dX7_mixStates_17 : decode cX7_mixStates 17 = .ok (.aload_n 0, 1) := dec_at kDX7_mixStates_0 11 rfl
theorem dX7_mixStates_18 : decode cX7_mixStates 18 = .ok (.aload_n 0, 1) := dec_at kDX7_mixStates_0 12 rfl
theorem dX7_mixStates_19 : decode cX7_mixStates 19 = .ok (.iload_n 1, 1) := dec_at kDX7_mixStates_0 13 rfl
theorem dX7_mixStates_20 : decode cX7_mixStates 20 = .ok (.iload_n 2, 1) := dec_at kDX7_mixStates_0 14 rfl
theorem dX7_mixStates_21 : decode cX7_mixStates 21 = .ok (.invokevirtual 240, 3) := dec_at kDX7_mixStates_0 15 rfl
theorem dX7_mixStates_24 : decode cX7_mixStates 24 = .ok (.i2l, 1) := dec_at kDX7_mixStates_0 16 rfl
theorem dX7_mixStates_25 : decode cX7_mixStates 25 = .ok (.invokevirtual 418, 3) := dec_at kDX7_mixStates_0 17 rfl
theorem dX7_mixStates_28 : decode cX7_mixStates 28 = .ok (.iinc 2 1, 3) := dec_at kDX7_mixStates_0 18 rfl
theorem dX7_mixStates_31 : decode cX7_mixStates 31 = .ok (.goto (-19), 3) := dec_at kDX7_mixStates_0 19 rfl
theorem dX7_mixStates_34 : decode cX7_mixStates 34 = .ok (.iconst 0, 1) := dec_at kDX7_mixStates_0 20 rfl
theorem dX7_mixStates_35 : decode cX7_mixStates 35 = .ok (.istore_n 2, 1) := dec_at kDX7_mixStates_0 21 rfl
theorem dX7_mixStates_36 : decode cX7_mixStates 36 = .ok (.iload_n 2, 1) := dec_at kDX7_mixStates_0 22 rfl
theorem dX7_mixStates_37 : decode cX7_mixStates 37 = .ok (.aload_n 0, 1) := dec_at kDX7_mixStates_0 23 rfl
theorem dX7_mixStates_38 : decode cX7_mixStates 38 = .ok (.invokevirtual 188, 3) := dec_at kDX7_mixStates_0 24 rfl
theorem dX7_mixStates_41 : decode cX7_mixStates 41 = .ok (.if_icmp .ge 20, 3) := dec_at kDX7_mixStates_0 25 rfl
theorem dX7_mixStates_44 : decode cX7_mixStates 44 = .ok (.aload_n 0, 1) := dec_at kDX7_mixStates_0 26 rfl
theorem dX7_mixStates_45 : decode cX7_mixStates 45 = .ok (.aload_n 0, 1) := dec_at kDX7_mixStates_0 27 rfl
theorem dX7_mixStates_46 : decode cX7_mixStates 46 = .ok (.iload_n 1, 1) := dec_at kDX7_mixStates_0 28 rfl
theorem dX7_mixStates_47 : decode cX7_mixStates 47 = .ok (.iload_n 2, 1) := dec_at kDX7_mixStates_0 29 rfl
theorem dX7_mixStates_48 : decode cX7_mixStates 48 = .ok (.invokevirtual 205, 3) := dec_at kDX7_mixStates_0 30 rfl
theorem dX7_mixStates_51 : decode cX7_mixStates 51 = .ok (.i2l, 1) := dec_at kDX7_mixStates_0 31 rfl
theorem dX7_mixStates_52 : decode cX7_mixStates 52 = .ok (.invokevirtual 418, 3) := dec_at kDX7_mixStates_0 32 rfl
theorem dX7_mixStates_55 : decode cX7_mixStates 55 = .ok (.iinc 2 1, 3) := dec_at kDX7_mixStates_0 33 rfl
theorem dX7_mixStates_58 : decode cX7_mixStates 58 = .ok (.goto (-22), 3) := dec_at kDX7_mixStates_0 34 rfl
theorem dX7_mixStates_61 : decode cX7_mixStates 61 = .ok (.iinc 1 1, 3) := dec_at kDX7_mixStates_0 35 rfl
theorem dX7_mixStates_64 : decode cX7_mixStates 64 = .ok (.goto (-62), 3) := dec_at kDX7_mixStates_0 36 rfl
theorem dX7_mixStates_67 : decode cX7_mixStates 67 = .ok (.return_, 1) := dec_at kDX7_mixStates_0 37 rfl
def DX7_mixProof_0 : List (Nat × (Instr × Nat)) := [(0, (.iconst 0, 1)), (1, (.istore_n 1, 1)), (2, (.iload_n 1, 1)), (3, (.bipush 8, 2)), (5, (.if_icmp .ge 32, 3)), (8, (.aload_n 0, 1)), (9, (.aload_n 0, 1)), (10, (.getfield 108, 3)), (13, (.ifCond .eq 12, 3)), (16, (.aload_n 0, 1)), (17, (.iload_n 1, 1)), (18, (.invokevirtual 354, 3)), (21, (.i2l, 1)), (22, (.goto 6, 3)), (25, (.ldc2_w 84, 3)), (28, (.invokevirtual 418, 3)), (31, (.iinc 1 1, 3)), (34, (.goto (-32), 3)), (37, (.iconst 0, 1)), (38, (.istore_n 1, 1)), (39, (.iload_n 1, 1)), (40, (.aload_n 0, 1)), (41, (.getfield 302, 3)), (44, (.if_icmp .gt 25, 3)), (47, (.aload_n 0, 1)), (48, (.getfield 108, 3)), (51, (.ifCond .eq 18, 3)), (54, (.aload_n 0, 1)), (55, (.aload_n 0, 1)), (56, (.iload_n 1, 1)), (57, (.invokevirtual 290, 3)), (60, (.invokevirtual 418, 3)), (63, (.iinc 1 1, 3)), (66, (.goto (-27), 3)), (69, (.iconst 0, 1)), (70, (.istore_n 1, 1)), (71, (.iload_n 1, 1)), (72, (.aload_n 0, 1)), (73, (.getfield 284, 3)), (76, (.if_icmp .ge 49, 3)), (79, (.aload_n 0, 1)), (80, (.getfield 108, 3)), (83, (.ifCond .eq 42, 3)), (86, (.aload_n 0, 1)), (87, (.aload_n 0, 1)), (88, (.getfield 38, 3)), (91, (.iload_n 1, 1)), (92, (.iaload, 1)), (93, (.i2l, 1)), (94, (.invokevirtual 418, 3))]
theorem kDX7_mixProof_0 : DX7_mixProof_0.all (fun q => decide (decode cX7_mixProof q.1 = .ok q.2)) = true := by decide +kernel
theorem dX7_mixProof_0 : decode cX7_mixProof 0 = .ok (.iconst 0, 1) := dec_at kDX7_mixProof_0 0 rfl
theorem dX7_mixProof_1 : decode cX7_mixProof 1 = .ok (.istore_n 1, 1) := dec_at kDX7_mixProof_0 1 rfl
theorem dX7_mixProof_2 : decode cX7_mixProof 2 = .ok (.iload_n 1, 1) := dec_at kDX7_mixProof_0 2 rfl
theorem dX7_mixProof_3 : decode cX7_mixProof 3 = .ok (.bipush 8, 2) := dec_at kDX7_mixProof_0 3 rfl
theorem dX7_mixProof_5 : decode cX7_mixProof 5 = .ok (.if_icmp .ge 32, 3) := dec_at kDX7_mixProof_0 4 rfl
theorem dX7_mixProof_8 : decode cX7_mixProof 8 = .ok (.aload_n 0, 1) := dec_at kDX7_mixProof_0 5 rfl
theorem dX7_mixProof_9 : decode cX7_mixProof 9 = .ok (.aload_n 0, 1) := dec_at kDX7_mixProof_0 6 rfl
theorem dX7_mixProof_10 : decode cX7_mixProof 10 = .ok (.getfield 108, 3) := dec_at kDX7_mixProof_0 7 rfl
theorem dX7_mixProof_13 : decode cX7_mixProof 13 = .ok (.ifCond .eq 12, 3) := dec_at kDX7_mixProof_0 8 rfl
theorem dX7_mixProof_16 : decode cX7_mixProof 16 = .ok (.aload_n 0, 1) := dec_at kDX7_mixProof_0 9 rfl
theorem dX7_mixProof_17 : decode cX7_mixProof 17 = .ok (.iload_n 1, 1) := dec_at kDX7_mixProof_0 10 rfl
theorem dX7_mixProof_18 : decode cX7_mixProof 18 = .ok (.invokevirtual 354, 3) := dec_at kDX7_mixProof_0 11 rfl
theorem dX7_mixProof_21 : decode cX7_mixProof 21 = .ok (.i2l, 1) := dec_at kDX7_mixProof_0 12 rfl
theorem dX7_mixProof_22 : decode cX7_mixProof 22 = .ok (.goto 6, 3) := dec_at kDX7_mixProof_0 13 rfl
theorem dX7_mixProof_25 : decode cX7_mixProof 25 = .ok (.ldc2_w 84, 3) := dec_at kDX7_mixProof_0 14 rfl
theorem dX7_mixProof_28 : decode cX7_mixProof 28 = .ok (.invokevirtual 418, 3) := dec_at kDX7_mixProof_0 15 rfl
theorem dX7_mixProof_31 : decode cX7_mixProof 31 = .ok (.iinc 1 1, 3) := dec_at kDX7_mixProof_0 16 rfl
theorem dX7_mixProof_34 : decode cX7_mixProof 34 = .ok (.goto (-32), 3) := dec_at kDX7_mixProof_0 17 rfl
theorem dX7_mixProof_37 : decode cX7_mixProof 37 = .ok (.iconst 0, 1) := dec_at kDX7_mixProof_0 18 rfl
theorem dX7_mixProof_38 : decode cX7_mixProof 38 = .ok (.istore_n 1, 1) := dec_at kDX7_mixProof_0 19 rfl
theorem dX7_mixProof_39 : decode cX7_mixProof 39 = .ok (.iload_n 1, 1) := dec_at kDX7_mixProof_0 20 rfl
theorem dX7_mixProof_40 : decode cX7_mixProof 40 = .ok (.aload_n 0, 1) := dec_at kDX7_mixProof_0 21 rfl
theorem dX7_mixProof_41 : decode cX7_mixProof 41 = .ok (.getfield 302, 3) := dec_at kDX7_mixProof_0 22 rfl
theorem dX7_mixProof_44 : decode cX7_mixProof 44 = .ok (.if_icmp .gt 25, 3) := dec_at kDX7_mixProof_0 23 rfl
theorem dX7_mixProof_47 : decode cX7_mixProof 47 = .ok (.aload_n 0, 1) := dec_at kDX7_mixProof_0 24 rfl
theorem dX7_mixProof_48 : decode cX7_mixProof 48 = .ok (.getfield 108, 3) := dec_at kDX7_mixProof_0 25 rfl
theorem dX7_mixProof_51 : decode cX7_mixProof 51 = .ok (.ifCond .eq 18, 3) := dec_at kDX7_mixProof_0 26 rfl
theorem dX7_mixProof_54 : decode cX7_mixProof 54 = .ok (.aload_n 0, 1) := dec_at kDX7_mixProof_0 27 rfl
theorem dX7_mixProof_55 : decode cX7_mixProof 55 = .ok (.aload_n 0, 1) := dec_at kDX7_mixProof_0 28 rfl
theorem dX7_mixProof_56 : decode cX7_mixProof 56 = .ok (.iload_n 1, 1) := dec_at kDX7_mixProof_0 29 rfl
theorem dX7_mixProof_57 : decode cX7_mixProof 57 = .ok (.invokevirtual 290, 3) := dec_at kDX7_mixProof_0 30 rfl
theorem dX7_mixProof_60 : decode cX7_mixProof 60 = .ok (.invokevirtual 418, 3) := dec_at kDX7_mixProof_0 31 rfl
theorem dX7_mixProof_63 : decode cX7_mixProof 63 = .ok (.iinc 1 1, 3) := dec_at kDX7_mixProof_0 32 rfl
theorem dX7_mixProof_66 : decode cX7_mixProof 66 = .ok (.goto (-27), 3) := dec_at kDX7_mixProof_0 33 rfl
theorem dX7_mixProof_69 : decode cX7_mixProof 69 = .ok (.iconst 0, 1) := dec_at kDX7_mixProof_0 34 rfl
theorem dX7_mixProof_70 : decode cX7_mixProof 70 = .ok (.istore_n 1, 1) := dec_at kDX7_mixProof_0 35 rfl
theorem dX7_mixProof_71 : decode cX7_mixProof 71 = .ok (.iload_n 1, 1) := dec_at kDX7_mixProof_0 36 rfl
theorem dX7_mixProof_72 : decode cX7_mixProof 72 = .ok (.aload_n 0, 1) := dec_at kDX7_mixProof_0 37 rfl
theorem dX7_mixProof_73 : decode cX7_mixProof 73 = .ok (.getfield 284, 3) := dec_at kDX7_mixProof_0 38 rfl
theorem dX7_mixProof_76 : decode cX7_mixProof 76 = .ok (.if_icmp .ge 49, 3) := dec_at kDX7_mixProof_0 39 rfl
theorem dX7_mixProof_79 : decode cX7_mixProof 79 = .ok (.aload_n 0, 1) := dec_at kDX7_mixProof_0 40 rfl
theorem dX7_mixProof_80 : decode cX7_mixProof 80 = .ok (.getfield 108, 3) := dec_at kDX7_mixProof_0 41 rfl
theorem dX7_mixProof_83 : decode cX7_mixProof 83 = .ok (.ifCond .eq 42, 3) := dec_at kDX7_mixProof_0 42 rfl
theorem dX7_mixProof_86 : decode cX7_mixProof 86 = .ok (.aload_n 0, 1) := dec_at kDX7_mixProof_0 43 rfl
theorem dX7_mixProof_87 : decode cX7_mixProof 87 = .ok (.aload_n 0, 1) := dec_at kDX7_mixProof_0 44 rfl
theorem dX7_mixProof_88 : decode cX7_mixProof 88 = .ok (.getfield 38, 3) := dec_at kDX7_mixProof_0 45 rfl
theorem dX7_mixProof_91 : decode cX7_mixProof 91 = .ok (.iload_n 1, 1) := dec_at kDX7_mixProof_0 46 rfl
theorem dX7_mixProof_92 : decode cX7_mixProof 92 = .ok (.iaload, 1) := dec_at kDX7_mixProof_0 47 rfl
theorem dX7_mixProof_93 : decode cX7_mixProof 93 = .ok (.i2l, 1) := dec_at kDX7_mixProof_0 48 rfl
theorem dX7_mixProof_94 : decode cX7_mixProof 94 = .ok (.invokevirtual 418, 3) := dec_at kDX7_mixProof_0 49 rfl
def DX7_mixProof_50 : List (Nat × (Instr × Nat)) := [(97, (.aload_n 0, 1)), (98, (.aload_n 0, 1)), (99, (.getfield 41, 3)), (102, (.iload_n 1, 1)), (103, (.iaload, 1)), (104, (.i2l, 1)), (105, (.invokevirtual 418, 3)), (108, (.aload_n 0, 1)), (109, (.aload_n 0, 1)), (110, (.getfield 44, 3)), (113, (.iload_n 1, 1)), (114, (.iaload, 1)), (115, (.i2l, 1)), (116, (.invokevirtual 418, 3)), (119, (.iinc 1 1, 3)), (122, (.goto (-51), 3)), (125, (.return_, 1))]
theorem kDX7_mixProof_50 : DX7_mixProof_50.all (fun q => decide (decode cX7_mixProof q.1 = .ok q.2)) = true := by decide +kernel
theorem dX7_mixProof_97 : decode cX7_mixProof 97 = .ok (.aload_n 0, 1) := dec_at kDX7_mixProof_50 0 rfl
theorem dX7_mixProof_98 : decode cX7_mixProof 98 = .ok (.aload_n 0, 1) := dec_at kDX7_mixProof_50 1 rfl
theorem dX7_mixProof_99 : decode cX7_mixProof 99 = .ok (.getfield 41, 3) := dec_at kDX7_mixProof_50 2 rfl
theorem dX7_mixProof_102 : decode cX7_mixProof 102 = .ok (.iload_n 1, 1) := dec_at kDX7_mixProof_50 3 rfl
theorem dX7_mixProof_103 : decode cX7_mixProof 103 = .ok (.iaload, 1) := dec_at kDX7_mixProof_50 4 rfl
theorem dX7_mixProof_104 : decode cX7_mixProof 104 = .ok (.i2l, 1) := dec_at kDX7_mixProof_50 5 rfl
theorem dX7_mixProof_105 : decode cX7_mixProof 105 = .ok (.invokevirtual 418, 3) := dec_at kDX7_mixProof_50 6 rfl
theorem dX7_mixProof_108 : decode cX7_mixProof 108 = .ok (.aload_n 0, 1) := dec_at kDX7_mixProof_50 7 rfl
theorem dX7_mixProof_109 : decode cX7_mixProof 109 = .ok (.aload_n 0, 1) := dec_at kDX7_mixProof_50 8 rfl
theorem dX7_mixProof_110 : decode cX7_mixProof 110 = .ok (.getfield 44, 3) := dec_at kDX7_mixProof_50 9 rfl
theorem dX7_mixProof_113 : decode cX7_mixProof 113 = .ok (.iload_n 1, 1) := dec_at kDX7_mixProof_50 10 rfl
theorem dX7_mixProof_114 : decode cX7_mixProof 114 = .ok (.iaload, 1) := dec_at kDX7_mixProof_50 11 rfl
theorem dX7_mixProof_115 : decode cX7_mixProof 115 = .ok (.i2l, 1) := dec_at kDX7_mixProof_50 12 rfl
theorem dX7_mixProof_116 : decode cX7_mixProof 116 = .ok (.invokevirtual 418, 3) := dec_at kDX7_mixProof_50 13 rfl
theorem dX7_mixProof_119 : decode cX7_mixProof 119 = .ok (.iinc 1 1, 3) := dec_at kDX7_mixProof_50 14 rfl
theorem dX7_mixProof_122 : decode cX7_mixProof 122 = .ok (.goto (-51), 3) := dec_at kDX7_mixProof_50 15 rfl
theorem dX7_mixProof_125 : decode cX7_mixProof 125 = .ok (.return_, 1) := dec_at kDX7_mixProof_50 16 rfl
def DX7_digest_0 : List (Nat × (Instr × Nat)) := [(0, (.aload_n 0, 1)), (1, (.iconst 0, 1)), (2, (.putfield 70, 3)), (5, (.aload_n 0, 1)), (6, (.ldc2_w 422, 3)), (9, (.putfield 415, 3)), (12, (.iconst 0, 1)), (13, (.istore_n 1, 1)), (14, (.iload_n 1, 1)), (15, (.bipush 10, 2)), (17, (.if_icmp .ge 19, 3)), (20, (.aload_n 0, 1)), (21, (.aload_n 0, 1)), (22, (.iload_n 1, 1)), (23, (.invokevirtual 253, 3)), (26, (.i2l, 1)), (27, (.invokevirtual 418, 3)), (30, (.iinc 1 1, 3)), (33, (.goto (-19), 3)), (36, (.aload_n 0, 1)), (37, (.invokevirtual 424, 3)), (40, (.aload_n 0, 1)), (41, (.aload_n 0, 1)), (42, (.iconst 0, 1)), (43, (.invokevirtual 376, 3)), (46, (.i2l, 1)), (47, (.invokevirtual 418, 3)), (50, (.aload_n 0, 1)), (51, (.aload_n 0, 1)), (52, (.iconst 1, 1)), (53, (.invokevirtual 376, 3)), (56, (.i2l, 1)), (57, (.invokevirtual 418, 3)), (60, (.aload_n 0, 1)), (61, (.aload_n 0, 1)), (62, (.iconst 1, 1)), (63, (.invokevirtual 392, 3)), (66, (.invokevirtual 418, 3)), (69, (.aload_n 0, 1)), (70, (.aload_n 0, 1)), (71, (.iconst 2, 1)), (72, (.invokevirtual 392, 3)), (75, (.invokevirtual 418, 3)), (78, (.aload_n 0, 1)), (79, (.aload_n 0, 1)), (80, (.invokevirtual 398, 3)), (83, (.i2l, 1)), (84, (.invokevirtual 418, 3)), (87, (.aload_n 0, 1)), (88, (.invokevirtual 427, 3))]
theorem kDX7_digest_0 : DX7_digest_0.all (fun q => decide (decode cX7_digest q.1 = .ok q.2)) = true := by decide +kernel
theorem dX7_digest_0 : decode cX7_digest 0 = .ok (.aload_n 0, 1) := dec_at kDX7_digest_0 0 rfl
theorem dX7_digest_1 : decode cX7_digest 1 = .ok (.iconst 0, 1) := dec_at kDX7_digest_0 1 rfl
theorem dX7_digest_2 : decode cX7_digest 2 = .ok (.putfield 70, 3) := dec_at kDX7_digest_0 2 rfl
theorem dX7_digest_5 : decode cX7_digest 5 = .ok (.aload_n 0, 1) := dec_at kDX7_digest_0 3 rfl
theorem dX7_digest_6 : decode cX7_digest 6 = .ok (.ldc2_w 422, 3) := dec_at kDX7_digest_0 4 rfl
theorem dX7_digest_9 : decode cX7_digest 9 = .ok (.putfield 415, 3) := dec_at kDX7_digest_0 5 rfl
theorem dX7_digest_12 : decode cX7_digest 12 = .ok (.iconst 0, 1) := dec_at kDX7_digest_0 6 rfl
theorem dX7_digest_13 : decode cX7_digest 13 = .ok (.istore_n 1, 1) := dec_at kDX7_digest_0 7 rfl
theorem dX7_digest_14 : decode cX7_digest 14 = .ok (.iload_n 1, 1) := dec_at kDX7_digest_0 8 rfl
theorem dX7_digest_15 : decode cX7_digest 15 = .ok (.bipush 10, 2) := dec_at kDX7_digest_0 9 rfl
theorem dX7_digest_17 : decode cX7_digest 17 = .ok (.if_icmp .ge 19, 3) := dec_at kDX7_digest_0 10 rfl
theorem dX7_digest_20 : decode cX7_digest 20 = .ok (.aload_n 0, 1) := dec_at kDX7_digest_0 11 rfl
theorem dX7_digest_21 : decode cX7_digest 21 = .ok (.aload_n 0, 1) := dec_at kDX7_digest_0 12 rfl
theorem dX7_digest_22 : decode cX7_digest 22 = .ok (.iload_n 1, 1) := dec_at kDX7_digest_0 13 rfl
theorem dX7_digest_23 : decode cX7_digest 23 = .ok (.invokevirtual 253, 3) := dec_at kDX7_digest_0 14 rfl
theorem dX7_digest_26 : decode cX7_digest 26 = .ok (.i2l, 1) := dec_at kDX7_digest_0 15 rfl
theorem dX7_digest_27 : decode cX7_digest 27 = .ok (.invokevirtual 418, 3) := dec_at kDX7_digest_0 16 rfl
theorem dX7_digest_30 : decode cX7_digest 30 = .ok (.iinc 1 1, 3) := dec_at kDX7_digest_0 17 rfl
theorem dX7_digest_33 : decode cX7_digest 33 = .ok (.goto (-19), 3) := dec_at kDX7_digest_0 18 rfl
theorem dX7_digest_36 : decode cX7_digest 36 = .ok (.aload_n 0, 1) := dec_at kDX7_digest_0 19 rfl
theorem dX7_digest_37 : decode cX7_digest 37 = .ok (.invokevirtual 424, 3) := dec_at kDX7_digest_0 20 rfl
theorem dX7_digest_40 : decode cX7_digest 40 = .ok (.aload_n 0, 1) := dec_at kDX7_digest_0 21 rfl
theorem dX7_digest_41 : decode cX7_digest 41 = .ok (.aload_n 0, 1) := dec_at kDX7_digest_0 22 rfl
theorem dX7_digest_42 : decode cX7_digest 42 = .ok (.iconst 0, 1) := dec_at kDX7_digest_0 23 rfl
theorem dX7_digest_43 : decode cX7_digest 43 = .ok (.invokevirtual 376, 3) := dec_at kDX7_digest_0 24 rfl
theorem dX7_digest_46 : decode cX7_digest 46 = .ok (.i2l, 1) := dec_at kDX7_digest_0 25 rfl
theorem dX7_digest_47 : decode cX7_digest 47 = .ok (.invokevirtual 418, 3) := dec_at kDX7_digest_0 26 rfl
theorem dX7_digest_50 : decode cX7_digest 50 = .ok (.aload_n 0, 1) := dec_at kDX7_digest_0 27 rfl
theorem dX7_digest_51 : decode cX7_digest 51 = .ok (.aload_n 0, 1) := dec_at kDX7_digest_0 28 rfl
theorem dX7_digest_52 : decode cX7_digest 52 = .ok (.iconst 1, 1) := dec_at kDX7_digest_0 29 rfl
theorem dX7_digest_53 : decode cX7_digest 53 = .ok (.invokevirtual 376, 3) := dec_at kDX7_digest_0 30 rfl
theorem dX7_digest_56 : decode cX7_digest 56 = .ok (.i2l, 1) := dec_at kDX7_digest_0 31 rfl
theorem dX7_digest_57 : decode cX7_digest 57 = .ok (.invokevirtual 418, 3) := dec_at kDX7_digest_0 32 rfl
theorem dX7_digest_60 : decode cX7_digest 60 = .ok (.aload_n 0, 1) := dec_at kDX7_digest_0 33 rfl
theorem dX7_digest_61 : decode cX7_digest 61 = .ok (.aload_n 0, 1) := dec_at kDX7_digest_0 34 rfl
theorem dX7_digest_62 : decode cX7_digest 62 = .ok (.iconst 1, 1) := dec_at kDX7_digest_0 35 rfl
theorem dX7_digest_63 : decode cX7_digest 63 = .ok (.invokevirtual 392, 3) := dec_at kDX7_digest_0 36 rfl
theorem dX7_digest_66 : decode cX7_digest 66 = .ok (.invokevirtual 418, 3) := dec_at kDX7_digest_0 37 rfl
theorem dX7_digest_69 : decode cX7_digest 69 = .ok (.aload_n 0, 1) := dec_at kDX7_digest_0 38 rfl
theorem dX7_digest_70 : decode cX7_digest 70 = .ok (.aload_n 0, 1) := dec_at kDX7_digest_0 39 rfl
theorem dX7_digest_71 : decode cX7_digest 71 = .ok (.iconst 2, 1) := dec_at kDX7_digest_0 40 rfl
theorem dX7_digest_72 : decode cX7_digest 72 = .ok (.invokevirtual 392, 3) := dec_at kDX7_digest_0 41 rfl
theorem dX7_digest_75 : decode cX7_digest 75 = .ok (.invokevirtual 418, 3) := dec_at kDX7_digest_0 42 rfl
theorem dX7_digest_78 : decode cX7_digest 78 = .ok (.aload_n 0, 1) := dec_at kDX7_digest_0 43 rfl
theorem dX7_digest_79 : decode cX7_digest 79 = .ok (.aload_n 0, 1) := dec_at kDX7_digest_0 44 rfl
theorem dX7_digest_80 : decode cX7_digest 80 = .ok (.invokevirtual 398, 3) := dec_at kDX7_digest_0 45 rfl
theorem dX7_digest_83 : decode cX7_digest 83 = .ok (.i2l, 1) := dec_at kDX7_digest_0 46 rfl
theorem dX7_digest_84 : decode cX7_digest 84 = .ok (.invokevirtual 418, 3) := dec_at kDX7_digest_0 47 rfl
theorem dX7_digest_87 : decode cX7_digest 87 = .ok (.aload_n 0, 1) := dec_at kDX7_digest_0 48 rfl
theorem dX7_digest_88 : decode cX7_digest 88 = .ok (.invokevirtual 427, 3) := dec_at kDX7_digest_0 49 rfl
def DX7_digest_50 : List (Nat × (Instr × Nat)) := [(91, (.aload_n 0, 1)), (92, (.aload_n 0, 1)), (93, (.getfield 116, 3)), (96, (.i2l, 1)), (97, (.invokevirtual 418, 3)), (100, (.iconst 0, 1)), (101, (.istore_n 1, 1)), (102, (.iload_n 1, 1)), (103, (.aload_n 0, 1)), (104, (.getfield 116, 3)), (107, (.if_icmp .ge 20, 3)), (110, (.aload_n 0, 1)), (111, (.aload_n 0, 1)), (112, (.getfield 13, 3)), (115, (.iload_n 1, 1)), (116, (.iaload, 1)), (117, (.i2l, 1)), (118, (.invokevirtual 418, 3)), (121, (.iinc 1 1, 3)), (124, (.goto (-22), 3)), (127, (.aload_n 0, 1)), (128, (.getfield 415, 3)), (131, (.lreturn, 1))]
theorem kDX7_digest_50 : DX7_digest_50.all (fun q => decide (decode cX7_digest q.1 = .ok q.2)) = true := by decide +kernel
theorem dX7_digest_91 : decode cX7_digest 91 = .ok (.aload_n 0, 1) := dec_at kDX7_digest_50 0 rfl
theorem dX7_digest_92 : decode cX7_digest 92 = .ok (.aload_n 0, 1) := dec_at kDX7_digest_50 1 rfl
theorem dX7_digest_93 : decode cX7_digest 93 = .ok (.getfield 116, 3) := dec_at kDX7_digest_50 2 rfl
theorem dX7_digest_96 : decode cX7_digest 96 = .ok (.i2l, 1) := dec_at kDX7_digest_50 3 rfl
theorem dX7_digest_97 : decode cX7_digest 97 = .ok (.invokevirtual 418, 3) := dec_at kDX7_digest_50 4 rfl
theorem dX7_digest_100 : decode cX7_digest 100 = .ok (.iconst 0, 1) := dec_at kDX7_digest_50 5 rfl
theorem dX7_digest_101 : decode cX7_digest 101 = .ok (.istore_n 1, 1) := dec_at kDX7_digest_50 6 rfl
theorem dX7_digest_102 : decode cX7_digest 102 = .ok (.iload_n 1, 1) := dec_at kDX7_digest_50 7 rfl
theorem dX7_digest_103 : decode cX7_digest 103 = .ok (.aload_n 0, 1) := dec_at kDX7_digest_50 8 rfl
theorem dX7_digest_104 : decode cX7_digest 104 = .ok (.getfield 116, 3) := dec_at kDX7_digest_50 9 rfl
theorem dX7_digest_107 : decode cX7_digest 107 = .ok (.if_icmp .ge 20, 3) := dec_at kDX7_digest_50 10 rfl
theorem dX7_digest_110 : decode cX7_digest 110 = .ok (.aload_n 0, 1) := dec_at kDX7_digest_50 11 rfl
theorem dX7_digest_111 : decode cX7_digest 111 = .ok (.aload_n 0, 1) := dec_at kDX7_digest_50 12 rfl
theorem dX7_digest_112 : decode cX7_digest 112 = .ok (.getfield 13, 3) := dec_at kDX7_digest_50 13 rfl
theorem dX7_digest_115 : decode cX7_digest 115 = .ok (.iload_n 1, 1) := dec_at kDX7_digest_50 14 rfl
theorem dX7_digest_116 : decode cX7_digest 116 = .ok (.iaload, 1) := dec_at kDX7_digest_50 15 rfl
theorem dX7_digest_117 : decode cX7_digest 117 = .ok (.i2l, 1) := dec_at kDX7_digest_50 16 rfl
theorem dX7_digest_118 : decode cX7_digest 118 = .ok (.invokevirtual 418, 3) := dec_at kDX7_digest_50 17 rfl
theorem dX7_digest_121 : decode cX7_digest 121 = .ok (.iinc 1 1, 3) := dec_at kDX7_digest_50 18 rfl
theorem dX7_digest_124 : decode cX7_digest 124 = .ok (.goto (-22), 3) := dec_at kDX7_digest_50 19 rfl
theorem dX7_digest_127 : decode cX7_digest 127 = .ok (.aload_n 0, 1) := dec_at kDX7_digest_50 20 rfl
theorem dX7_digest_128 : decode cX7_digest 128 = .ok (.getfield 415, 3) := dec_at kDX7_digest_50 21 rfl
theorem dX7_digest_131 : decode cX7_digest 131 = .ok (.lreturn, 1) := dec_at kDX7_digest_50 22 rfl
