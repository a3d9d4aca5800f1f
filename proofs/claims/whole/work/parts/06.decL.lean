def DJ6_bitCount_0f7a4_0 : List (Nat × (Instr × Nat)) := [(0, (.iload_n 0, 1)), (1, (.iload_n 0, 1)), (2, (.iconst 1, 1)), (3, (.iushr, 1)), (4, (.ldc_w 265, 3)), (7, (.iand, 1)), (8, (.isub, 1)), (9, (.istore_n 0, 1)), (10, (.iload_n 0, 1)), (11, (.ldc_w 266, 3)), (14, (.iand, 1)), (15, (.iload_n 0, 1)), (16, (.iconst 2, 1)), (17, (.iushr, 1)), (18, (.ldc_w 266, 3)), (21, (.iand, 1)), (22, (.iadd, 1)), (23, (.istore_n 0, 1)), (24, (.iload_n 0, 1)), (25, (.iload_n 0, 1)), (26, (.iconst 4, 1)), (27, (.iushr, 1)), (28, (.iadd, 1)), (29, (.ldc_w 267, 3)), (32, (.iand, 1)), (33, (.istore_n 0, 1)), (34, (.iload_n 0, 1)), (35, (.iload_n 0, 1)), (36, (.bipush 8, 2)), (38, (.iushr, 1)), (39, (.iadd, 1)), (40, (.istore_n 0, 1)), (41, (.iload_n 0, 1)), (42, (.iload_n 0, 1)), (43, (.bipush 16, 2)), (45, (.iushr, 1)), (46, (.iadd, 1)), (47, (.istore_n 0, 1)), (48, (.iload_n 0, 1)), (49, (.bipush 63, 2)), (51, (.iand, 1)), (52, (.ireturn, 1))]
theorem kDJ6_bitCount_0f7a4_0 : DJ6_bitCount_0f7a4_0.all (fun q => decide (decode cJ6_bitCount_0f7a4 q.1 = .ok q.2)) = true := by decide +kernel
theorem dJ6_bitCount_0f7a4_0 : decode cJ6_bitCount_0f7a4 0 = .ok (.iload_n 0, 1) := dec_at kDJ6_bitCount_0f7a4_0 0 rfl
theorem dJ6_bitCount_0f7a4_1 : decode cJ6_bitCount_0f7a4 1 = .ok (.iload_n 0, 1) := dec_at kDJ6_bitCount_0f7a4_0 1 rfl
theorem dJ6_bitCount_0f7a4_2 : decode cJ6_bitCount_0f7a4 2 = .ok (.iconst 1, 1) := dec_at kDJ6_bitCount_0f7a4_0 2 rfl
theorem dJ6_bitCount_0f7a4_3 : decode cJ6_bitCount_0f7a4 3 = .ok (.iushr, 1) := dec_at kDJ6_bitCount_0f7a4_0 3 rfl
theorem dJ6_bitCount_0f7a4_4 : decode cJ6_bitCount_0f7a4 4 = .ok (.ldc_w 265, 3) := dec_at kDJ6_bitCount_0f7a4_0 4 rfl
theorem dJ6_bitCount_0f7a4_7 : decode cJ6_bitCount_0f7a4 7 = .ok (.iand, 1) := dec_at kDJ6_bitCount_0f7a4_0 5 rfl
theorem dJ6_bitCount_0f7a4_8 : decode cJ6_bitCount_0f7a4 8 = .ok (.isub, 1) := dec_at kDJ6_bitCount_0f7a4_0 6 rfl
theorem dJ6_bitCount_0f7a4_9 : decode cJ6_bitCount_0f7a4 9 = .ok (.istore_n 0, 1) := dec_at kDJ6_bitCount_0f7a4_0 7 rfl
theorem dJ6_bitCount_0f7a4_10 : decode cJ6_bitCount_0f7a4 10 = .ok (.iload_n 0, 1) := dec_at kDJ6_bitCount_0f7a4_0 8 rfl
theorem dJ6_bitCount_0f7a4_11 : decode cJ6_bitCount_0f7a4 11 = .ok (.ldc_w 266, 3) := dec_at kDJ6_bitCount_0f7a4_0 9 rfl
theorem dJ6_bitCount_0f7a4_14 : decode cJ6_bitCount_0f7a4 14 = .ok (.iand, 1) := dec_at kDJ6_bitCount_0f7a4_0 10 rfl
theorem dJ6_bitCount_0f7a4_15 : decode cJ6_bitCount_0f7a4 15 = .ok (.iload_n 0, 1) := dec_at kDJ6_bitCount_0f7a4_0 11 rfl
theorem dJ6_bitCount_0f7a4_16 : decode cJ6_bitCount_0f7a4 16 = .ok (.iconst 2, 1) := dec_at kDJ6_bitCount_0f7a4_0 12 rfl
theorem dJ6_bitCount_0f7a4_17 : decode cJ6_bitCount_0f7a4 17 = .ok (.iushr, 1) := dec_at kDJ6_bitCount_0f7a4_0 13 rfl
theorem dJ6_bitCount_0f7a4_18 : decode cJ6_bitCount_0f7a4 18 = .ok (.ldc_w 266, 3) := dec_at kDJ6_bitCount_0f7a4_0 14 rfl
theorem dJ6_bitCount_0f7a4_21 : decode cJ6_bitCount_0f7a4 21 = .ok (.iand, 1) := dec_at kDJ6_bitCount_0f7a4_0 15 rfl
theorem dJ6_bitCount_0f7a4_22 : decode cJ6_bitCount_0f7a4 22 = .ok (.iadd, 1) := dec_at kDJ6_bitCount_0f7a4_0 16 rfl
theorem dJ6_bitCount_0f7a4_23 : decode cJ6_bitCount_0f7a4 23 = .ok (.istore_n 0, 1) := dec_at kDJ6_bitCount_0f7a4_0 17 rfl
theorem dJ6_bitCount_0f7a4_24 : decode cJ6_bitCount_0f7a4 24 = .ok (.iload_n 0, 1) := dec_at kDJ6_bitCount_0f7a4_0 18 rfl
theorem dJ6_bitCount_0f7a4_25 : decode cJ6_bitCount_0f7a4 25 = .ok (.iload_n 0, 1) := dec_at kDJ6_bitCount_0f7a4_0 19 rfl
theorem dJ6_bitCount_0f7a4_26 : decode cJ6_bitCount_0f7a4 26 = .ok (.iconst 4, 1) := dec_at kDJ6_bitCount_0f7a4_0 20 rfl
theorem dJ6_bitCount_0f7a4_27 : decode cJ6_bitCount_0f7a4 27 = .ok (.iushr, 1) := dec_at kDJ6_bitCount_0f7a4_0 21 rfl
theorem dJ6_bitCount_0f7a4_28 : decode cJ6_bitCount_0f7a4 28 = .ok (.iadd, 1) := dec_at kDJ6_bitCount_0f7a4_0 22 rfl
theorem dJ6_bitCount_0f7a4_29 : decode cJ6_bitCount_0f7a4 29 = .ok (.ldc_w 267, 3) := dec_at kDJ6_bitCount_0f7a4_0 23 rfl
theorem dJ6_bitCount_0f7a4_32 : decode cJ6_bitCount_0f7a4 32 = .ok (.iand, 1) := dec_at kDJ6_bitCount_0f7a4_0 24 rfl
theorem dJ6_bitCount_0f7a4_33 : decode cJ6_bitCount_0f7a4 33 = .ok (.istore_n 0, 1) := dec_at kDJ6_bitCount_0f7a4_0 25 rfl
theorem dJ6_bitCount_0f7a4_34 : decode cJ6_bitCount_0f7a4 34 = .ok (.iload_n 0, 1) := dec_at kDJ6_bitCount_0f7a4_0 26 rfl
theorem dJ6_bitCount_0f7a4_35 : decode cJ6_bitCount_0f7a4 35 = .ok (.iload_n 0, 1) := dec_at kDJ6_bitCount_0f7a4_0 27 rfl
theorem dJ6_bitCount_0f7a4_36 : decode cJ6_bitCount_0f7a4 36 = .ok (.bipush 8, 2) := dec_at kDJ6_bitCount_0f7a4_0 28 rfl
theorem dJ6_bitCount_0f7a4_38 : decode cJ6_bitCount_0f7a4 38 = .ok (.iushr, 1) := dec_at kDJ6_bitCount_0f7a4_0 29 rfl
theorem dJ6_bitCount_0f7a4_39 : decode cJ6_bitCount_0f7a4 39 = .ok (.iadd, 1) := dec_at kDJ6_bitCount_0f7a4_0 30 rfl
theorem dJ6_bitCount_0f7a4_40 : decode cJ6_bitCount_0f7a4 40 = .ok (.istore_n 0, 1) := dec_at kDJ6_bitCount_0f7a4_0 31 rfl
theorem dJ6_bitCount_0f7a4_41 : decode cJ6_bitCount_0f7a4 41 = .ok (.iload_n 0, 1) := dec_at kDJ6_bitCount_0f7a4_0 32 rfl
theorem dJ6_bitCount_0f7a4_42 : decode cJ6_bitCount_0f7a4 42 = .ok (.iload_n 0, 1) := dec_at kDJ6_bitCount_0f7a4_0 33 rfl
theorem dJ6_bitCount_0f7a4_43 : decode cJ6_bitCount_0f7a4 43 = .ok (.bipush 16, 2) := dec_at kDJ6_bitCount_0f7a4_0 34 rfl
theorem dJ6_bitCount_0f7a4_45 : decode cJ6_bitCount_0f7a4 45 = .ok (.iushr, 1) := dec_at kDJ6_bitCount_0f7a4_0 35 rfl
theorem dJ6_bitCount_0f7a4_46 : decode cJ6_bitCount_0f7a4 46 = .ok (.iadd, 1) := dec_at kDJ6_bitCount_0f7a4_0 36 rfl
theorem dJ6_bitCount_0f7a4_47 : decode cJ6_bitCount_0f7a4 47 = .ok (.istore_n 0, 1) := dec_at kDJ6_bitCount_0f7a4_0 37 rfl
theorem dJ6_bitCount_0f7a4_48 : decode cJ6_bitCount_0f7a4 48 = .ok (.iload_n 0, 1) := dec_at kDJ6_bitCount_0f7a4_0 38 rfl
theorem dJ6_bitCount_0f7a4_49 : decode cJ6_bitCount_0f7a4 49 = .ok (.bipush 63, 2) := dec_at kDJ6_bitCount_0f7a4_0 39 rfl
theorem dJ6_bitCount_0f7a4_51 : decode cJ6_bitCount_0f7a4 51 = .ok (.iand, 1) := dec_at kDJ6_bitCount_0f7a4_0 40 rfl
theorem dJ6_bitCount_0f7a4_52 : decode cJ6_bitCount_0f7a4 52 = .ok (.ireturn, 1) := dec_at kDJ6_bitCount_0f7a4_0 41 rfl
def DJ13_bitCount_95d88_0 : List (Nat × (Instr × Nat)) := [(0, (.lload_n 0, 1)), (1, (.lload_n 0, 1)), (2, (.iconst 1, 1)), (3, (.lushr, 1)), (4, (.ldc2_w 314, 3)), (7, (.land, 1)), (8, (.lsub, 1)), (9, (.lstore_n 0, 1)), (10, (.lload_n 0, 1)), (11, (.ldc2_w 316, 3)), (14, (.land, 1)), (15, (.lload_n 0, 1)), (16, (.iconst 2, 1)), (17, (.lushr, 1)), (18, (.ldc2_w 316, 3)), (21, (.land, 1)), (22, (.ladd, 1)), (23, (.lstore_n 0, 1)), (24, (.lload_n 0, 1)), (25, (.lload_n 0, 1)), (26, (.iconst 4, 1)), (27, (.lushr, 1)), (28, (.ladd, 1)), (29, (.ldc2_w 318, 3)), (32, (.land, 1)), (33, (.lstore_n 0, 1)), (34, (.lload_n 0, 1)), (35, (.lload_n 0, 1)), (36, (.bipush 8, 2)), (38, (.lushr, 1)), (39, (.ladd, 1)), (40, (.lstore_n 0, 1)), (41, (.lload_n 0, 1)), (42, (.lload_n 0, 1)), (43, (.bipush 16, 2)), (45, (.lushr, 1)), (46, (.ladd, 1)), (47, (.lstore_n 0, 1)), (48, (.lload_n 0, 1)), (49, (.lload_n 0, 1)), (50, (.bipush 32, 2)), (52, (.lushr, 1)), (53, (.ladd, 1)), (54, (.lstore_n 0, 1)), (55, (.lload_n 0, 1)), (56, (.l2i, 1)), (57, (.bipush 127, 2)), (59, (.iand, 1)), (60, (.ireturn, 1))]
theorem kDJ13_bitCount_95d88_0 : DJ13_bitCount_95d88_0.all (fun q => decide (decode cJ13_bitCount_95d88 q.1 = .ok q.2)) = true := by decide +kernel
theorem dJ13_bitCount_95d88_0 : decode cJ13_bitCount_95d88 0 = .ok (.lload_n 0, 1) := dec_at kDJ13_bitCount_95d88_0 0 rfl
theorem dJ13_bitCount_95d88_1 : decode cJ13_bitCount_95d88 1 = .ok (.lload_n 0, 1) := dec_at kDJ13_bitCount_95d88_0 1 rfl
theorem dJ13_bitCount_95d88_2 : decode cJ13_bitCount_95d88 2 = .ok (.iconst 1, 1) := dec_at kDJ13_bitCount_95d88_0 2 rfl
theorem dJ13_bitCount_95d88_3 : decode cJ13_bitCount_95d88 3 = .ok (.lushr, 1) := dec_at kDJ13_bitCount_95d88_0 3 rfl
theorem dJ13_bitCount_95d88_4 : decode cJ13_bitCount_95d88 4 = .ok (.ldc2_w 314, 3) := dec_at kDJ13_bitCount_95d88_0 4 rfl
theorem dJ13_bitCount_95d88_7 : decode cJ13_bitCount_95d88 7 = .ok (.land, 1) := dec_at kDJ13_bitCount_95d88_0 5 rfl
theorem dJ13_bitCount_95d88_8 : decode cJ13_bitCount_95d88 8 = .ok (.lsub, 1) := dec_at kDJ13_bitCount_95d88_0 6 rfl
theorem dJ13_bitCount_95d88_9 : decode cJ13_bitCount_95d88 9 = .ok (.lstore_n 0, 1) := dec_at kDJ13_bitCount_95d88_0 7 rfl
theorem dJ13_bitCount_95d88_10 : decode cJ13_bitCount_95d88 10 = .ok (.lload_n 0, 1) := dec_at kDJ13_bitCount_95d88_0 8 rfl
theorem dJ13_bitCount_95d88_11 : decode cJ13_bitCount_95d88 11 = .ok (.ldc2_w 316, 3) := dec_at kDJ13_bitCount_95d88_0 9 rfl
theorem dJ13_bitCount_95d88_14 : decode cJ13_bitCount_95d88 14 = .ok (.land, 1) := dec_at kDJ13_bitCount_95d88_0 10 rfl
theorem dJ13_bitCount_95d88_15 : decode cJ13_bitCount_95d88 15 = .ok (.lload_n 0, 1) := dec_at kDJ13_bitCount_95d88_0 11 rfl
theorem dJ13_bitCount_95d88_16 : decode cJ13_bitCount_95d88 16 = .ok (.iconst 2, 1) := dec_at kDJ13_bitCount_95d88_0 12 rfl
theorem dJ13_bitCount_95d88_17 : decode cJ13_bitCount_95d88 17 = .ok (.lushr, 1) := dec_at kDJ13_bitCount_95d88_0 13 rfl
theorem dJ13_bitCount_95d88_18 : decode cJ13_bitCount_95d88 18 = .ok (.ldc2_w 316, 3) := dec_at kDJ13_bitCount_95d88_0 14 rfl
theorem dJ13_bitCount_95d88_21 : decode cJ13_bitCount_95d88 21 = .ok (.land, 1) := dec_at kDJ13_bitCount_95d88_0 15 rfl
theorem dJ13_bitCount_95d88_22 : decode cJ13_bitCount_95d88 22 = .ok (.ladd, 1) := dec_at kDJ13_bitCount_95d88_0 16 rfl
theorem dJ13_bitCount_95d88_23 : decode cJ13_bitCount_95d88 23 = .ok (.lstore_n 0, 1) := dec_at kDJ13_bitCount_95d88_0 17 rfl
theorem dJ13_bitCount_95d88_24 : decode cJ13_bitCount_95d88 24 = .ok (.lload_n 0, 1) := dec_at kDJ13_bitCount_95d88_0 18 rfl
theorem dJ13_bitCount_95d88_25 : decode cJ13_bitCount_95d88 25 = .ok (.lload_n 0, 1) := dec_at kDJ13_bitCount_95d88_0 19 rfl
theorem dJ13_bitCount_95d88_26 : decode cJ13_bitCount_95d88 26 = .ok (.iconst 4, 1) := dec_at kDJ13_bitCount_95d88_0 20 rfl
theorem dJ13_bitCount_95d88_27 : decode cJ13_bitCount_95d88 27 = .ok (.lushr, 1) := dec_at kDJ13_bitCount_95d88_0 21 rfl
theorem dJ13_bitCount_95d88_28 : decode cJ13_bitCount_95d88 28 = .ok (.ladd, 1) := dec_at kDJ13_bitCount_95d88_0 22 rfl
theorem dJ13_bitCount_95d88_29 : decode cJ13_bitCount_95d88 29 = .ok (.ldc2_w 318, 3) := dec_at kDJ13_bitCount_95d88_0 23 rfl
theorem dJ13_bitCount_95d88_32 : decode cJ13_bitCount_95d88 32 = .ok (.land, 1) := dec_at kDJ13_bitCount_95d88_0 24 rfl
theorem dJ13_bitCount_95d88_33 : decode cJ13_bitCount_95d88 33 = .ok (.lstore_n 0, 1) := dec_at kDJ13_bitCount_95d88_0 25 rfl
theorem dJ13_bitCount_95d88_34 : decode cJ13_bitCount_95d88 34 = .ok (.lload_n 0, 1) := dec_at kDJ13_bitCount_95d88_0 26 rfl
theorem dJ13_bitCount_95d88_35 : decode cJ13_bitCount_95d88 35 = .ok (.lload_n 0, 1) := dec_at kDJ13_bitCount_95d88_0 27 rfl
theorem dJ13_bitCount_95d88_36 : decode cJ13_bitCount_95d88 36 = .ok (.bipush 8, 2) := dec_at kDJ13_bitCount_95d88_0 28 rfl
theorem dJ13_bitCount_95d88_38 : decode cJ13_bitCount_95d88 38 = .ok (.lushr, 1) := dec_at kDJ13_bitCount_95d88_0 29 rfl
theorem dJ13_bitCount_95d88_39 : decode cJ13_bitCount_95d88 39 = .ok (.ladd, 1) := dec_at kDJ13_bitCount_95d88_0 30 rfl
theorem dJ13_bitCount_95d88_40 : decode cJ13_bitCount_95d88 40 = .ok (.lstore_n 0, 1) := dec_at kDJ13_bitCount_95d88_0 31 rfl
theorem dJ13_bitCount_95d88_41 : decode cJ13_bitCount_95d88 41 = .ok (.lload_n 0, 1) := dec_at kDJ13_bitCount_95d88_0 32 rfl
theorem dJ13_bitCount_95d88_42 : decode cJ13_bitCount_95d88 42 = .ok (.lload_n 0, 1) := dec_at kDJ13_bitCount_95d88_0 33 rfl
theorem dJ13_bitCount_95d88_43 : decode cJ13_bitCount_95d88 43 = .ok (.bipush 16, 2) := dec_at kDJ13_bitCount_95d88_0 34 rfl
theorem dJ13_bitCount_95d88_45 : decode cJ13_bitCount_95d88 45 = .ok (.lushr, 1) := dec_at kDJ13_bitCount_95d88_0 35 rfl
theorem dJ13_bitCount_95d88_46 : decode cJ13_bitCount_95d88 46 = .ok (.ladd, 1) := dec_at kDJ13_bitCount_95d88_0 36 rfl
theorem dJ13_bitCount_95d88_47 : decode cJ13_bitCount_95d88 47 = .ok (.lstore_n 0, 1) := dec_at kDJ13_bitCount_95d88_0 37 rfl
theorem dJ13_bitCount_95d88_48 : decode cJ13_bitCount_95d88 48 = .ok (.lload_n 0, 1) := dec_at kDJ13_bitCount_95d88_0 38 rfl
theorem dJ13_bitCount_95d88_49 : decode cJ13_bitCount_95d88 49 = .ok (.lload_n 0, 1) := dec_at kDJ13_bitCount_95d88_0 39 rfl
theorem dJ13_bitCount_95d88_50 : decode cJ13_bitCount_95d88 50 = .ok (.bipush 32, 2) := dec_at kDJ13_bitCount_95d88_0 40 rfl
theorem dJ13_bitCount_95d88_52 : decode cJ13_bitCount_95d88 52 = .ok (.lushr, 1) := dec_at kDJ13_bitCount_95d88_0 41 rfl
theorem dJ13_bitCount_95d88_53 : decode cJ13_bitCount_95d88 53 = .ok (.ladd, 1) := dec_at kDJ13_bitCount_95d88_0 42 rfl
theorem dJ13_bitCount_95d88_54 : decode cJ13_bitCount_95d88 54 = .ok (.lstore_n 0, 1) := dec_at kDJ13_bitCount_95d88_0 43 rfl
theorem dJ13_bitCount_95d88_55 : decode cJ13_bitCount_95d88 55 = .ok (.lload_n 0, 1) := dec_at kDJ13_bitCount_95d88_0 44 rfl
theorem dJ13_bitCount_95d88_56 : decode cJ13_bitCount_95d88 56 = .ok (.l2i, 1) := dec_at kDJ13_bitCount_95d88_0 45 rfl
theorem dJ13_bitCount_95d88_57 : decode cJ13_bitCount_95d88 57 = .ok (.bipush 127, 2) := dec_at kDJ13_bitCount_95d88_0 46 rfl
theorem dJ13_bitCount_95d88_59 : decode cJ13_bitCount_95d88 59 = .ok (.iand, 1) := dec_at kDJ13_bitCount_95d88_0 47 rfl
theorem dJ13_bitCount_95d88_60 : decode cJ13_bitCount_95d88 60 = .ok (.ireturn, 1) := dec_at kDJ13_bitCount_95d88_0 48 rfl
def DJ7_fill_d0a16_0 : List (Nat × (Instr × Nat)) := [(0, (.iconst 0, 1)), (1, (.istore_n 3, 1)), (2, (.aload_n 0, 1)), (3, (.arraylength, 1)), (4, (.istore 4, 2)), (6, (.iload_n 3, 1)), (7, (.iload 4, 2)), (9, (.if_icmp .ge 13, 3)), (12, (.aload_n 0, 1)), (13, (.iload_n 3, 1)), (14, (.lload_n 1, 1)), (15, (.lastore, 1)), (16, (.iinc 3 1, 3)), (19, (.goto (-13), 3)), (22, (.return_, 1))]
theorem kDJ7_fill_d0a16_0 : DJ7_fill_d0a16_0.all (fun q => decide (decode cJ7_fill_d0a16 q.1 = .ok q.2)) = true := by decide +kernel
theorem dJ7_fill_d0a16_0 : decode cJ7_fill_d0a16 0 = .ok (.iconst 0, 1) := dec_at kDJ7_fill_d0a16_0 0 rfl
theorem dJ7_fill_d0a16_1 : decode cJ7_fill_d0a16 1 = .ok (.istore_n 3, 1) := dec_at kDJ7_fill_d0a16_0 1 rfl
theorem dJ7_fill_d0a16_2 : decode cJ7_fill_d0a16 2 = .ok (.aload_n 0, 1) := dec_at kDJ7_fill_d0a16_0 2 rfl
theorem dJ7_fill_d0a16_3 : decode cJ7_fill_d0a16 3 = .ok (.arraylength, 1) := dec_at kDJ7_fill_d0a16_0 3 rfl
theorem dJ7_fill_d0a16_4 : decode cJ7_fill_d0a16 4 = .ok (.istore 4, 2) := dec_at kDJ7_fill_d0a16_0 4 rfl
theorem dJ7_fill_d0a16_6 : decode cJ7_fill_d0a16 6 = .ok (.iload_n 3, 1) := dec_at kDJ7_fill_d0a16_0 5 rfl
theorem dJ7_fill_d0a16_7 : decode cJ7_fill_d0a16 7 = .ok (.iload 4, 2) := dec_at kDJ7_fill_d0a16_0 6 rfl
theorem dJ7_fill_d0a16_9 : decode cJ7_fill_d0a16 9 = .ok (.if_icmp .ge 13, 3) := dec_at kDJ7_fill_d0a16_0 7 rfl
theorem dJ7_fill_d0a16_12 : decode cJ7_fill_d0a16 12 = .ok (.aload_n 0, 1) := dec_at kDJ7_fill_d0a16_0 8 rfl
theorem dJ7_fill_d0a16_13 : decode cJ7_fill_d0a16 13 = .ok (.iload_n 3, 1) := dec_at kDJ7_fill_d0a16_0 9 rfl
theorem dJ7_fill_d0a16_14 : decode cJ7_fill_d0a16 14 = .ok (.lload_n 1, 1) := dec_at kDJ7_fill_d0a16_0 10 rfl
theorem dJ7_fill_d0a16_15 : decode cJ7_fill_d0a16 15 = .ok (.lastore, 1) := dec_at kDJ7_fill_d0a16_0 11 rfl
theorem dJ7_fill_d0a16_16 : decode cJ7_fill_d0a16 16 = .ok (.iinc 3 1, 3) := dec_at kDJ7_fill_d0a16_0 12 rfl
theorem dJ7_fill_d0a16_19 : decode cJ7_fill_d0a16 19 = .ok (.goto (-13), 3) := dec_at kDJ7_fill_d0a16_0 13 rfl
theorem dJ7_fill_d0a16_22 : decode cJ7_fill_d0a16 22 = .ok (.return_, 1) := dec_at kDJ7_fill_d0a16_0 14 rfl
def DJ7_fill_53178_0 : List (Nat × (Instr × Nat)) := [(0, (.iconst 0, 1)), (1, (.istore_n 2, 1)), (2, (.aload_n 0, 1)), (3, (.arraylength, 1)), (4, (.istore_n 3, 1)), (5, (.iload_n 2, 1)), (6, (.iload_n 3, 1)), (7, (.if_icmp .ge 13, 3)), (10, (.aload_n 0, 1)), (11, (.iload_n 2, 1)), (12, (.iload_n 1, 1)), (13, (.iastore, 1)), (14, (.iinc 2 1, 3)), (17, (.goto (-12), 3)), (20, (.return_, 1))]
theorem kDJ7_fill_53178_0 : DJ7_fill_53178_0.all (fun q => decide (decode cJ7_fill_53178 q.1 = .ok q.2)) = true := by decide +kernel
theorem dJ7_fill_53178_0 : decode cJ7_fill_53178 0 = .ok (.iconst 0, 1) := dec_at kDJ7_fill_53178_0 0 rfl
theorem dJ7_fill_53178_1 : decode cJ7_fill_53178 1 = .ok (.istore_n 2, 1) := dec_at kDJ7_fill_53178_0 1 rfl
theorem dJ7_fill_53178_2 : decode cJ7_fill_53178 2 = .ok (.aload_n 0, 1) := dec_at kDJ7_fill_53178_0 2 rfl
theorem dJ7_fill_53178_3 : decode cJ7_fill_53178 3 = .ok (.arraylength, 1) := dec_at kDJ7_fill_53178_0 3 rfl
theorem dJ7_fill_53178_4 : decode cJ7_fill_53178 4 = .ok (.istore_n 3, 1) := dec_at kDJ7_fill_53178_0 4 rfl
theorem dJ7_fill_53178_5 : decode cJ7_fill_53178 5 = .ok (.iload_n 2, 1) := dec_at kDJ7_fill_53178_0 5 rfl
theorem dJ7_fill_53178_6 : decode cJ7_fill_53178 6 = .ok (.iload_n 3, 1) := dec_at kDJ7_fill_53178_0 6 rfl
theorem dJ7_fill_53178_7 : decode cJ7_fill_53178 7 = .ok (.if_icmp .ge 13, 3) := dec_at kDJ7_fill_53178_0 7 rfl
theorem dJ7_fill_53178_10 : decode cJ7_fill_53178 10 = .ok (.aload_n 0, 1) := dec_at kDJ7_fill_53178_0 8 rfl
theorem dJ7_fill_53178_11 : decode cJ7_fill_53178 11 = .ok (.iload_n 2, 1) := dec_at kDJ7_fill_53178_0 9 rfl
theorem dJ7_fill_53178_12 : decode cJ7_fill_53178 12 = .ok (.iload_n 1, 1) := dec_at kDJ7_fill_53178_0 10 rfl
theorem dJ7_fill_53178_13 : decode cJ7_fill_53178 13 = .ok (.iastore, 1) := dec_at kDJ7_fill_53178_0 11 rfl
theorem dJ7_fill_53178_14 : decode cJ7_fill_53178 14 = .ok (.iinc 2 1, 3) := dec_at kDJ7_fill_53178_0 12 rfl
theorem dJ7_fill_53178_17 : decode cJ7_fill_53178 17 = .ok (.goto (-12), 3) := dec_at kDJ7_fill_53178_0 13 rfl
theorem dJ7_fill_53178_20 : decode cJ7_fill_53178 20 = .ok (.return_, 1) := dec_at kDJ7_fill_53178_0 14 rfl
def DL_begin_0 : List (Nat × (Instr × Nat)) := [(0, (.aload_n 3, 1)), (1, (.iconst 0, 1)), (2, (.aload_n 0, 1)), (3, (.iload_n 1, 1)), (4, (.iload_n 2, 1)), (5, (.invokevirtual 7, 3)), (8, (.i2l, 1)), (9, (.lastore, 1)), (10, (.goto 7, 3)), (13, (.astore 4, 2)), (15, (.iconst 1, 1)), (16, (.ireturn, 1)), (17, (.iconst 0, 1)), (18, (.ireturn, 1))]
theorem kDL_begin_0 : DL_begin_0.all (fun q => decide (decode cL_begin q.1 = .ok q.2)) = true := by decide +kernel
theorem dL_begin_0 : decode cL_begin 0 = .ok (.aload_n 3, 1) := dec_at kDL_begin_0 0 rfl
theorem dL_begin_1 : decode cL_begin 1 = .ok (.iconst 0, 1) := dec_at kDL_begin_0 1 rfl
theorem dL_begin_2 : decode cL_begin 2 = .ok (.aload_n 0, 1) := dec_at kDL_begin_0 2 rfl
theorem dL_begin_3 : decode cL_begin 3 = .ok (.iload_n 1, 1) := dec_at kDL_begin_0 3 rfl
theorem dL_begin_4 : decode cL_begin 4 = .ok (.iload_n 2, 1) := dec_at kDL_begin_0 4 rfl
theorem dL_begin_5 : decode cL_begin 5 = .ok (.invokevirtual 7, 3) := dec_at kDL_begin_0 5 rfl
theorem dL_begin_8 : decode cL_begin 8 = .ok (.i2l, 1) := dec_at kDL_begin_0 6 rfl
theorem dL_begin_9 : decode cL_begin 9 = .ok (.lastore, 1) := dec_at kDL_begin_0 7 rfl
theorem dL_begin_10 : decode cL_begin 10 = .ok (.goto 7, 3) := dec_at kDL_begin_0 8 rfl
theorem dL_begin_13 : decode cL_begin 13 = .ok (.astore 4, 2) := dec_at kDL_begin_0 9 rfl
theorem dL_begin_15 : decode cL_begin 15 = .ok (.iconst 1, 1) := dec_at kDL_begin_0 10 rfl
theorem dL_begin_16 : decode cL_begin 16 = .ok (.ireturn, 1) := dec_at kDL_begin_0 11 rfl
theorem dL_begin_17 : decode cL_begin 17 = .ok (.iconst 0, 1) := dec_at kDL_begin_0 12 rfl
theorem dL_begin_18 : decode cL_begin 18 = .ok (.ireturn, 1) := dec_at kDL_begin_0 13 rfl
def DL_append_0 : List (Nat × (Instr × Nat)) := [(0, (.aload_n 2, 1)), (1, (.iconst 0, 1)), (2, (.aload_n 0, 1)), (3, (.iload_n 1, 1)), (4, (.invokevirtual 15, 3)), (7, (.i2l, 1)), (8, (.lastore, 1)), (9, (.goto 9, 3)), (12, (.astore_n 3, 1)), (13, (.iconst 1, 1)), (14, (.ireturn, 1)), (15, (.astore_n 3, 1)), (16, (.iconst 2, 1)), (17, (.ireturn, 1)), (18, (.iconst 0, 1)), (19, (.ireturn, 1))]
theorem kDL_append_0 : DL_append_0.all (fun q => decide (decode cL_append q.1 = .ok q.2)) = true := by decide +kernel
theorem dL_append_0 : decode cL_append 0 = .ok (.aload_n 2, 1) := dec_at kDL_append_0 0 rfl
theorem dL_append_1 : decode cL_append 1 = .ok (.iconst 0, 1) := dec_at kDL_append_0 1 rfl
theorem dL_append_2 : decode cL_append 2 = .ok (.aload_n 0, 1) := dec_at kDL_append_0 2 rfl
theorem dL_append_3 : decode cL_append 3 = .ok (.iload_n 1, 1) := dec_at kDL_append_0 3 rfl
theorem dL_append_4 : decode cL_append 4 = .ok (.invokevirtual 15, 3) := dec_at kDL_append_0 4 rfl
theorem dL_append_7 : decode cL_append 7 = .ok (.i2l, 1) := dec_at kDL_append_0 5 rfl
theorem dL_append_8 : decode cL_append 8 = .ok (.lastore, 1) := dec_at kDL_append_0 6 rfl
theorem dL_append_9 : decode cL_append 9 = .ok (.goto 9, 3) := dec_at kDL_append_0 7 rfl
theorem dL_append_12 : decode cL_append 12 = .ok (.astore_n 3, 1) := dec_at kDL_append_0 8 rfl
theorem dL_append_13 : decode cL_append 13 = .ok (.iconst 1, 1) := dec_at kDL_append_0 9 rfl
theorem dL_append_14 : decode cL_append 14 = .ok (.ireturn, 1) := dec_at kDL_append_0 10 rfl
theorem dL_append_15 : decode cL_append 15 = .ok (.astore_n 3, 1) := dec_at kDL_append_0 11 rfl
theorem dL_append_16 : decode cL_append 16 = .ok (.iconst 2, 1) := dec_at kDL_append_0 12 rfl
theorem dL_append_17 : decode cL_append 17 = .ok (.ireturn, 1) := dec_at kDL_append_0 13 rfl
theorem dL_append_18 : decode cL_append 18 = .ok (.iconst 0, 1) := dec_at kDL_append_0 14 rfl
theorem dL_append_19 : decode cL_append 19 = .ok (.ireturn, 1) := dec_at kDL_append_0 15 rfl
def DL_setNext_0 : List (Nat × (Instr × Nat)) := [(0, (.aload_n 2, 1)), (1, (.iconst 0, 1)), (2, (.aload_n 0, 1)), (3, (.iload_n 1, 1)), (4, (.invokevirtual 21, 3)), (7, (.i2l, 1)), (8, (.lastore, 1)), (9, (.goto 9, 3)), (12, (.astore_n 3, 1)), (13, (.iconst 1, 1)), (14, (.ireturn, 1)), (15, (.astore_n 3, 1)), (16, (.iconst 2, 1)), (17, (.ireturn, 1)), (18, (.iconst 0, 1)), (19, (.ireturn, 1))]
theorem kDL_setNext_0 : DL_setNext_0.all (fun q => decide (decode cL_setNext q.1 = .ok q.2)) = true := by decide +kernel
theorem dL_setNext_0 : decode cL_setNext 0 = .ok (.aload_n 2, 1) := dec_at kDL_setNext_0 0 rfl
theorem dL_setNext_1 : decode cL_setNext 1 = .ok (.iconst 0, 1) := dec_at kDL_setNext_0 1 rfl
theorem dL_setNext_2 : decode cL_setNext 2 = .ok (.aload_n 0, 1) := dec_at kDL_setNext_0 2 rfl
theorem dL_setNext_3 : decode cL_setNext 3 = .ok (.iload_n 1, 1) := dec_at kDL_setNext_0 3 rfl
theorem dL_setNext_4 : decode cL_setNext 4 = .ok (.invokevirtual 21, 3) := dec_at kDL_setNext_0 4 rfl
theorem dL_setNext_7 : decode cL_setNext 7 = .ok (.i2l, 1) := dec_at kDL_setNext_0 5 rfl
theorem dL_setNext_8 : decode cL_setNext 8 = .ok (.lastore, 1) := dec_at kDL_setNext_0 6 rfl
theorem dL_setNext_9 : decode cL_setNext 9 = .ok (.goto 9, 3) := dec_at kDL_setNext_0 7 rfl
theorem dL_setNext_12 : decode cL_setNext 12 = .ok (.astore_n 3, 1) := dec_at kDL_setNext_0 8 rfl
theorem dL_setNext_13 : decode cL_setNext 13 = .ok (.iconst 1, 1) := dec_at kDL_setNext_0 9 rfl
theorem dL_setNext_14 : decode cL_setNext 14 = .ok (.ireturn, 1) := dec_at kDL_setNext_0 10 rfl
theorem dL_setNext_15 : decode cL_setNext 15 = .ok (.astore_n 3, 1) := dec_at kDL_setNext_0 11 rfl
theorem dL_setNext_16 : decode cL_setNext 16 = .ok (.iconst 2, 1) := dec_at kDL_setNext_0 12 rfl
theorem dL_setNext_17 : decode cL_setNext 17 = .ok (.ireturn, 1) := dec_at kDL_setNext_0 13 rfl
theorem dL_setNext_18 : decode cL_setNext 18 = .ok (.iconst 0, 1) := dec_at kDL_setNext_0 14 rfl
theorem dL_setNext_19 : decode cL_setNext 19 = .ok (.ireturn, 1) := dec_at kDL_setNext_0 15 rfl
def DL_setInit_0 : List (Nat × (Instr × Nat)) := [(0, (.aload_n 1, 1)), (1, (.iconst 0, 1)), (2, (.aload_n 0, 1)), (3, (.invokevirtual 26, 3)), (6, (.i2l, 1)), (7, (.lastore, 1)), (8, (.goto 6, 3)), (11, (.astore_n 2, 1)), (12, (.iconst 1, 1)), (13, (.ireturn, 1)), (14, (.iconst 0, 1)), (15, (.ireturn, 1))]
theorem kDL_setInit_0 : DL_setInit_0.all (fun q => decide (decode cL_setInit q.1 = .ok q.2)) = true := by decide +kernel
theorem dL_setInit_0 : decode cL_setInit 0 = .ok (.aload_n 1, 1) := dec_at kDL_setInit_0 0 rfl
theorem dL_setInit_1 : decode cL_setInit 1 = .ok (.iconst 0, 1) := dec_at kDL_setInit_0 1 rfl
theorem dL_setInit_2 : decode cL_setInit 2 = .ok (.aload_n 0, 1) := dec_at kDL_setInit_0 2 rfl
theorem dL_setInit_3 : decode cL_setInit 3 = .ok (.invokevirtual 26, 3) := dec_at kDL_setInit_0 3 rfl
theorem dL_setInit_6 : decode cL_setInit 6 = .ok (.i2l, 1) := dec_at kDL_setInit_0 4 rfl
theorem dL_setInit_7 : decode cL_setInit 7 = .ok (.lastore, 1) := dec_at kDL_setInit_0 5 rfl
theorem dL_setInit_8 : decode cL_setInit 8 = .ok (.goto 6, 3) := dec_at kDL_setInit_0 6 rfl
theorem dL_setInit_11 : decode cL_setInit 11 = .ok (.astore_n 2, 1) := dec_at kDL_setInit_0 7 rfl
theorem dL_setInit_12 : decode cL_setInit 12 = .ok (.iconst 1, 1) := dec_at kDL_setInit_0 8 rfl
theorem dL_setInit_13 : decode cL_setInit 13 = .ok (.ireturn, 1) := dec_at kDL_setInit_0 9 rfl
theorem dL_setInit_14 : decode cL_setInit 14 = .ok (.iconst 0, 1) := dec_at kDL_setInit_0 10 rfl
theorem dL_setInit_15 : decode cL_setInit 15 = .ok (.ireturn, 1) := dec_at kDL_setInit_0 11 rfl
def DL_setProperty_0 : List (Nat × (Instr × Nat)) := [(0, (.aload_n 1, 1)), (1, (.iconst 0, 1)), (2, (.aload_n 0, 1)), (3, (.invokevirtual 30, 3)), (6, (.i2l, 1)), (7, (.lastore, 1)), (8, (.goto 6, 3)), (11, (.astore_n 2, 1)), (12, (.iconst 1, 1)), (13, (.ireturn, 1)), (14, (.iconst 0, 1)), (15, (.ireturn, 1))]
theorem kDL_setProperty_0 : DL_setProperty_0.all (fun q => decide (decode cL_setProperty q.1 = .ok q.2)) = true := by decide +kernel
theorem dL_setProperty_0 : decode cL_setProperty 0 = .ok (.aload_n 1, 1) := dec_at kDL_setProperty_0 0 rfl
theorem dL_setProperty_1 : decode cL_setProperty 1 = .ok (.iconst 0, 1) := dec_at kDL_setProperty_0 1 rfl
theorem dL_setProperty_2 : decode cL_setProperty 2 = .ok (.aload_n 0, 1) := dec_at kDL_setProperty_0 2 rfl
theorem dL_setProperty_3 : decode cL_setProperty 3 = .ok (.invokevirtual 30, 3) := dec_at kDL_setProperty_0 3 rfl
theorem dL_setProperty_6 : decode cL_setProperty 6 = .ok (.i2l, 1) := dec_at kDL_setProperty_0 4 rfl
theorem dL_setProperty_7 : decode cL_setProperty 7 = .ok (.lastore, 1) := dec_at kDL_setProperty_0 5 rfl
theorem dL_setProperty_8 : decode cL_setProperty 8 = .ok (.goto 6, 3) := dec_at kDL_setProperty_0 6 rfl
theorem dL_setProperty_11 : decode cL_setProperty 11 = .ok (.astore_n 2, 1) := dec_at kDL_setProperty_0 7 rfl
theorem dL_setProperty_12 : decode cL_setProperty 12 = .ok (.iconst 1, 1) := dec_at kDL_setProperty_0 8 rfl
theorem dL_setProperty_13 : decode cL_setProperty 13 = .ok (.ireturn, 1) := dec_at kDL_setProperty_0 9 rfl
theorem dL_setProperty_14 : decode cL_setProperty 14 = .ok (.iconst 0, 1) := dec_at kDL_setProperty_0 10 rfl
theorem dL_setProperty_15 : decode cL_setProperty 15 = .ok (.ireturn, 1) := dec_at kDL_setProperty_0 11 rfl
def DL_undo_0 : List (Nat × (Instr × Nat)) := [(0, (.aload_n 1, 1)), (1, (.iconst 0, 1)), (2, (.aload_n 0, 1)), (3, (.invokevirtual 33, 3)), (6, (.i2l, 1)), (7, (.lastore, 1)), (8, (.goto 6, 3)), (11, (.astore_n 2, 1)), (12, (.iconst 1, 1)), (13, (.ireturn, 1)), (14, (.iconst 0, 1)), (15, (.ireturn, 1))]
theorem kDL_undo_0 : DL_undo_0.all (fun q => decide (decode cL_undo q.1 = .ok q.2)) = true := by decide +kernel
theorem dL_undo_0 : decode cL_undo 0 = .ok (.aload_n 1, 1) := dec_at kDL_undo_0 0 rfl
theorem dL_undo_1 : decode cL_undo 1 = .ok (.iconst 0, 1) := dec_at kDL_undo_0 1 rfl
theorem dL_undo_2 : decode cL_undo 2 = .ok (.aload_n 0, 1) := dec_at kDL_undo_0 2 rfl
theorem dL_undo_3 : decode cL_undo 3 = .ok (.invokevirtual 33, 3) := dec_at kDL_undo_0 3 rfl
theorem dL_undo_6 : decode cL_undo 6 = .ok (.i2l, 1) := dec_at kDL_undo_0 4 rfl
theorem dL_undo_7 : decode cL_undo 7 = .ok (.lastore, 1) := dec_at kDL_undo_0 5 rfl
theorem dL_undo_8 : decode cL_undo 8 = .ok (.goto 6, 3) := dec_at kDL_undo_0 6 rfl
theorem dL_undo_11 : decode cL_undo 11 = .ok (.astore_n 2, 1) := dec_at kDL_undo_0 7 rfl
theorem dL_undo_12 : decode cL_undo 12 = .ok (.iconst 1, 1) := dec_at kDL_undo_0 8 rfl
theorem dL_undo_13 : decode cL_undo 13 = .ok (.ireturn, 1) := dec_at kDL_undo_0 9 rfl
theorem dL_undo_14 : decode cL_undo 14 = .ok (.iconst 0, 1) := dec_at kDL_undo_0 10 rfl
theorem dL_undo_15 : decode cL_undo 15 = .ok (.ireturn, 1) := dec_at kDL_undo_0 11 rfl
def DL_successor_0 : List (Nat × (Instr × Nat)) := [(0, (.aload_n 3, 1)), (1, (.iconst 0, 1)), (2, (.aload_n 0, 1)), (3, (.iload_n 1, 1)), (4, (.iload_n 2, 1)), (5, (.invokevirtual 36, 3)), (8, (.i2l, 1)), (9, (.lastore, 1)), (10, (.goto 11, 3)), (13, (.astore 4, 2)), (15, (.iconst 1, 1)), (16, (.ireturn, 1)), (17, (.astore 4, 2)), (19, (.iconst 2, 1)), (20, (.ireturn, 1)), (21, (.iconst 0, 1)), (22, (.ireturn, 1))]
theorem kDL_successor_0 : DL_successor_0.all (fun q => decide (decode cL_successor q.1 = .ok q.2)) = true := by decide +kernel
theorem dL_successor_0 : decode cL_successor 0 = .ok (.aload_n 3, 1) := dec_at kDL_successor_0 0 rfl
theorem dL_successor_1 : decode cL_successor 1 = .ok (.iconst 0, 1) := dec_at kDL_successor_0 1 rfl
theorem dL_successor_2 : decode cL_successor 2 = .ok (.aload_n 0, 1) := dec_at kDL_successor_0 2 rfl
theorem dL_successor_3 : decode cL_successor 3 = .ok (.iload_n 1, 1) := dec_at kDL_successor_0 3 rfl
theorem dL_successor_4 : decode cL_successor 4 = .ok (.iload_n 2, 1) := dec_at kDL_successor_0 4 rfl
theorem dL_successor_5 : decode cL_successor 5 = .ok (.invokevirtual 36, 3) := dec_at kDL_successor_0 5 rfl
theorem dL_successor_8 : decode cL_successor 8 = .ok (.i2l, 1) := dec_at kDL_successor_0 6 rfl
theorem dL_successor_9 : decode cL_successor 9 = .ok (.lastore, 1) := dec_at kDL_successor_0 7 rfl
theorem dL_successor_10 : decode cL_successor 10 = .ok (.goto 11, 3) := dec_at kDL_successor_0 8 rfl
theorem dL_successor_13 : decode cL_successor 13 = .ok (.astore 4, 2) := dec_at kDL_successor_0 9 rfl
theorem dL_successor_15 : decode cL_successor 15 = .ok (.iconst 1, 1) := dec_at kDL_successor_0 10 rfl
theorem dL_successor_16 : decode cL_successor 16 = .ok (.ireturn, 1) := dec_at kDL_successor_0 11 rfl
theorem dL_successor_17 : decode cL_successor 17 = .ok (.astore 4, 2) := dec_at kDL_successor_0 12 rfl
theorem dL_successor_19 : decode cL_successor 19 = .ok (.iconst 2, 1) := dec_at kDL_successor_0 13 rfl
theorem dL_successor_20 : decode cL_successor 20 = .ok (.ireturn, 1) := dec_at kDL_successor_0 14 rfl
theorem dL_successor_21 : decode cL_successor 21 = .ok (.iconst 0, 1) := dec_at kDL_successor_0 15 rfl
theorem dL_successor_22 : decode cL_successor 22 = .ok (.ireturn, 1) := dec_at kDL_successor_0 16 rfl
def DL_state_0 : List (Nat × (Instr × Nat)) := [(0, (.aload_n 3, 1)), (1, (.iconst 0, 1)), (2, (.aload_n 0, 1)), (3, (.iload_n 1, 1)), (4, (.iload_n 2, 1)), (5, (.invokevirtual 39, 3)), (8, (.i2l, 1)), (9, (.lastore, 1)), (10, (.goto 11, 3)), (13, (.astore 4, 2)), (15, (.iconst 1, 1)), (16, (.ireturn, 1)), (17, (.astore 4, 2)), (19, (.iconst 2, 1)), (20, (.ireturn, 1)), (21, (.iconst 0, 1)), (22, (.ireturn, 1))]
theorem kDL_state_0 : DL_state_0.all (fun q => decide (decode cL_state q.1 = .ok q.2)) = true := by decide +kernel
theorem dL_state_0 : decode cL_state 0 = .ok (.aload_n 3, 1) := dec_at kDL_state_0 0 rfl
theorem dL_state_1 : decode cL_state 1 = .ok (.iconst 0, 1) := dec_at kDL_state_0 1 rfl
theorem dL_state_2 : decode cL_state 2 = .ok (.aload_n 0, 1) := dec_at kDL_state_0 2 rfl
theorem dL_state_3 : decode cL_state 3 = .ok (.iload_n 1, 1) := dec_at kDL_state_0 3 rfl
theorem dL_state_4 : decode cL_state 4 = .ok (.iload_n 2, 1) := dec_at kDL_state_0 4 rfl
theorem dL_state_5 : decode cL_state 5 = .ok (.invokevirtual 39, 3) := dec_at kDL_state_0 5 rfl
theorem dL_state_8 : decode cL_state 8 = .ok (.i2l, 1) := dec_at kDL_state_0 6 rfl
theorem dL_state_9 : decode cL_state 9 = .ok (.lastore, 1) := dec_at kDL_state_0 7 rfl
theorem dL_state_10 : decode cL_state 10 = .ok (.goto 11, 3) := dec_at kDL_state_0 8 rfl
theorem dL_state_13 : decode cL_state 13 = .ok (.astore 4, 2) := dec_at kDL_state_0 9 rfl
theorem dL_state_15 : decode cL_state 15 = .ok (.iconst 1, 1) := dec_at kDL_state_0 10 rfl
theorem dL_state_16 : decode cL_state 16 = .ok (.ireturn, 1) := dec_at kDL_state_0 11 rfl
theorem dL_state_17 : decode cL_state 17 = .ok (.astore 4, 2) := dec_at kDL_state_0 12 rfl
theorem dL_state_19 : decode cL_state 19 = .ok (.iconst 2, 1) := dec_at kDL_state_0 13 rfl
theorem dL_state_20 : decode cL_state 20 = .ok (.ireturn, 1) := dec_at kDL_state_0 14 rfl
theorem dL_state_21 : decode cL_state 21 = .ok (.iconst 0, 1) := dec_at kDL_state_0 15 rfl
theorem dL_state_22 : decode cL_state 22 = .ok (.ireturn, 1) := dec_at kDL_state_0 16 rfl
def DL_system_0 : List (Nat × (Instr × Nat)) := [(0, (.aload_n 2, 1)), (1, (.iconst 0, 1)), (2, (.aload_n 0, 1)), (3, (.iload_n 1, 1)), (4, (.invokevirtual 42, 3)), (7, (.i2l, 1)), (8, (.lastore, 1)), (9, (.goto 6, 3)), (12, (.astore_n 3, 1)), (13, (.iconst 1, 1)), (14, (.ireturn, 1)), (15, (.iconst 0, 1)), (16, (.ireturn, 1))]
theorem kDL_system_0 : DL_system_0.all (fun q => decide (decode cL_system q.1 = .ok q.2)) = true := by decide +kernel
theorem dL_system_0 : decode cL_system 0 = .ok (.aload_n 2, 1) := dec_at kDL_system_0 0 rfl
theorem dL_system_1 : decode cL_system 1 = .ok (.iconst 0, 1) := dec_at kDL_system_0 1 rfl
theorem dL_system_2 : decode cL_system 2 = .ok (.aload_n 0, 1) := dec_at kDL_system_0 2 rfl
theorem dL_system_3 : decode cL_system 3 = .ok (.iload_n 1, 1) := dec_at kDL_system_0 3 rfl
theorem dL_system_4 : decode cL_system 4 = .ok (.invokevirtual 42, 3) := dec_at kDL_system_0 4 rfl
theorem dL_system_7 : decode cL_system 7 = .ok (.i2l, 1) := dec_at kDL_system_0 5 rfl
theorem dL_system_8 : decode cL_system 8 = .ok (.lastore, 1) := dec_at kDL_system_0 6 rfl
theorem dL_system_9 : decode cL_system 9 = .ok (.goto 6, 3) := dec_at kDL_system_0 7 rfl
theorem dL_system_12 : decode cL_system 12 = .ok (.astore_n 3, 1) := dec_at kDL_system_0 8 rfl
theorem dL_system_13 : decode cL_system 13 = .ok (.iconst 1, 1) := dec_at kDL_system_0 9 rfl
theorem dL_system_14 : decode cL_system 14 = .ok (.ireturn, 1) := dec_at kDL_system_0 10 rfl
theorem dL_system_15 : decode cL_system 15 = .ok (.iconst 0, 1) := dec_at kDL_system_0 11 rfl
theorem dL_system_16 : decode cL_system 16 = .ok (.ireturn, 1) := dec_at kDL_system_0 12 rfl
def DL_shortest_0 : List (Nat × (Instr × Nat)) := [(0, (.aload_n 3, 1)), (1, (.iconst 0, 1)), (2, (.aload_n 0, 1)), (3, (.iload_n 1, 1)), (4, (.iload_n 2, 1)), (5, (.invokevirtual 45, 3)), (8, (.i2l, 1)), (9, (.lastore, 1)), (10, (.goto 15, 3)), (13, (.astore 4, 2)), (15, (.iconst 1, 1)), (16, (.ireturn, 1)), (17, (.astore 4, 2)), (19, (.iconst 2, 1)), (20, (.ireturn, 1)), (21, (.astore 4, 2)), (23, (.iconst 3, 1)), (24, (.ireturn, 1)), (25, (.iconst 0, 1)), (26, (.ireturn, 1))]
theorem kDL_shortest_0 : DL_shortest_0.all (fun q => decide (decode cL_shortest q.1 = .ok q.2)) = true := by decide +kernel
theorem dL_shortest_0 : decode cL_shortest 0 = .ok (.aload_n 3, 1) := dec_at kDL_shortest_0 0 rfl
theorem dL_shortest_1 : decode cL_shortest 1 = .ok (.iconst 0, 1) := dec_at kDL_shortest_0 1 rfl
theorem dL_shortest_2 : decode cL_shortest 2 = .ok (.aload_n 0, 1) := dec_at kDL_shortest_0 2 rfl
theorem dL_shortest_3 : decode cL_shortest 3 = .ok (.iload_n 1, 1) := dec_at kDL_shortest_0 3 rfl
theorem dL_shortest_4 : decode cL_shortest 4 = .ok (.iload_n 2, 1) := dec_at kDL_shortest_0 4 rfl
theorem dL_shortest_5 : decode cL_shortest 5 = .ok (.invokevirtual 45, 3) := dec_at kDL_shortest_0 5 rfl
theorem dL_shortest_8 : decode cL_shortest 8 = .ok (.i2l, 1) := dec_at kDL_shortest_0 6 rfl
theorem dL_shortest_9 : decode cL_shortest 9 = .ok (.lastore, 1) := dec_at kDL_shortest_0 7 rfl
theorem dL_shortest_10 : decode cL_shortest 10 = .ok (.goto 15, 3) := dec_at kDL_shortest_0 8 rfl
theorem dL_shortest_13 : decode cL_shortest 13 = .ok (.astore 4, 2) := dec_at kDL_shortest_0 9 rfl
theorem dL_shortest_15 : decode cL_shortest 15 = .ok (.iconst 1, 1) := dec_at kDL_shortest_0 10 rfl
theorem dL_shortest_16 : decode cL_shortest 16 = .ok (.ireturn, 1) := dec_at kDL_shortest_0 11 rfl
theorem dL_shortest_17 : decode cL_shortest 17 = .ok (.astore 4, 2) := dec_at kDL_shortest_0 12 rfl
theorem dL_shortest_19 : decode cL_shortest 19 = .ok (.iconst 2, 1) := dec_at kDL_shortest_0 13 rfl
theorem dL_shortest_20 : decode cL_shortest 20 = .ok (.ireturn, 1) := dec_at kDL_shortest_0 14 rfl
theorem dL_shortest_21 : decode cL_shortest 21 = .ok (.astore 4, 2) := dec_at kDL_shortest_0 15 rfl
theorem dL_shortest_23 : decode cL_shortest 23 = .ok (.iconst 3, 1) := dec_at kDL_shortest_0 16 rfl
theorem dL_shortest_24 : decode cL_shortest 24 = .ok (.ireturn, 1) := dec_at kDL_shortest_0 17 rfl
theorem dL_shortest_25 : decode cL_shortest 25 = .ok (.iconst 0, 1) := dec_at kDL_shortest_0 18 rfl
theorem dL_shortest_26 : decode cL_shortest 26 = .ok (.ireturn, 1) := dec_at kDL_shortest_0 19 rfl
def DL_candidate_0 : List (Nat × (Instr × Nat)) := [(0, (.aload_n 1, 1)), (1, (.iconst 0, 1)), (2, (.aload_n 0, 1)), (3, (.invokevirtual 48, 3)), (6, (.lastore, 1)), (7, (.goto 6, 3)), (10, (.astore_n 2, 1)), (11, (.iconst 1, 1)), (12, (.ireturn, 1)), (13, (.iconst 0, 1)), (14, (.ireturn, 1))]
theorem kDL_candidate_0 : DL_candidate_0.all (fun q => decide (decode cL_candidate q.1 = .ok q.2)) = true := by decide +kernel
theorem dL_candidate_0 : decode cL_candidate 0 = .ok (.aload_n 1, 1) := dec_at kDL_candidate_0 0 rfl
theorem dL_candidate_1 : decode cL_candidate 1 = .ok (.iconst 0, 1) := dec_at kDL_candidate_0 1 rfl
theorem dL_candidate_2 : decode cL_candidate 2 = .ok (.aload_n 0, 1) := dec_at kDL_candidate_0 2 rfl
theorem dL_candidate_3 : decode cL_candidate 3 = .ok (.invokevirtual 48, 3) := dec_at kDL_candidate_0 3 rfl
theorem dL_candidate_6 : decode cL_candidate 6 = .ok (.lastore, 1) := dec_at kDL_candidate_0 4 rfl
theorem dL_candidate_7 : decode cL_candidate 7 = .ok (.goto 6, 3) := dec_at kDL_candidate_0 5 rfl
theorem dL_candidate_10 : decode cL_candidate 10 = .ok (.astore_n 2, 1) := dec_at kDL_candidate_0 6 rfl
theorem dL_candidate_11 : decode cL_candidate 11 = .ok (.iconst 1, 1) := dec_at kDL_candidate_0 7 rfl
theorem dL_candidate_12 : decode cL_candidate 12 = .ok (.ireturn, 1) := dec_at kDL_candidate_0 8 rfl
theorem dL_candidate_13 : decode cL_candidate 13 = .ok (.iconst 0, 1) := dec_at kDL_candidate_0 9 rfl
theorem dL_candidate_14 : decode cL_candidate 14 = .ok (.ireturn, 1) := dec_at kDL_candidate_0 10 rfl
def DL_check_0 : List (Nat × (Instr × Nat)) := [(0, (.aload_n 1, 1)), (1, (.iconst 0, 1)), (2, (.aload_n 0, 1)), (3, (.invokevirtual 52, 3)), (6, (.i2l, 1)), (7, (.lastore, 1)), (8, (.goto 6, 3)), (11, (.astore_n 2, 1)), (12, (.iconst 1, 1)), (13, (.ireturn, 1)), (14, (.iconst 0, 1)), (15, (.ireturn, 1))]
theorem kDL_check_0 : DL_check_0.all (fun q => decide (decode cL_check q.1 = .ok q.2)) = true := by decide +kernel
theorem dL_check_0 : decode cL_check 0 = .ok (.aload_n 1, 1) := dec_at kDL_check_0 0 rfl
theorem dL_check_1 : decode cL_check 1 = .ok (.iconst 0, 1) := dec_at kDL_check_0 1 rfl
theorem dL_check_2 : decode cL_check 2 = .ok (.aload_n 0, 1) := dec_at kDL_check_0 2 rfl
theorem dL_check_3 : decode cL_check 3 = .ok (.invokevirtual 52, 3) := dec_at kDL_check_0 3 rfl
theorem dL_check_6 : decode cL_check 6 = .ok (.i2l, 1) := dec_at kDL_check_0 4 rfl
theorem dL_check_7 : decode cL_check 7 = .ok (.lastore, 1) := dec_at kDL_check_0 5 rfl
theorem dL_check_8 : decode cL_check 8 = .ok (.goto 6, 3) := dec_at kDL_check_0 6 rfl
theorem dL_check_11 : decode cL_check 11 = .ok (.astore_n 2, 1) := dec_at kDL_check_0 7 rfl
theorem dL_check_12 : decode cL_check 12 = .ok (.iconst 1, 1) := dec_at kDL_check_0 8 rfl
theorem dL_check_13 : decode cL_check 13 = .ok (.ireturn, 1) := dec_at kDL_check_0 9 rfl
theorem dL_check_14 : decode cL_check 14 = .ok (.iconst 0, 1) := dec_at kDL_check_0 10 rfl
theorem dL_check_15 : decode cL_check 15 = .ok (.ireturn, 1) := dec_at kDL_check_0 11 rfl
def DL_escape_0 : List (Nat × (Instr × Nat)) := [(0, (.aload_n 2, 1)), (1, (.iconst 0, 1)), (2, (.aload_n 0, 1)), (3, (.iload_n 1, 1)), (4, (.invokevirtual 55, 3)), (7, (.i2l, 1)), (8, (.lastore, 1)), (9, (.goto 9, 3)), (12, (.astore_n 3, 1)), (13, (.iconst 1, 1)), (14, (.ireturn, 1)), (15, (.astore_n 3, 1)), (16, (.iconst 2, 1)), (17, (.ireturn, 1)), (18, (.iconst 0, 1)), (19, (.ireturn, 1))]
theorem kDL_escape_0 : DL_escape_0.all (fun q => decide (decode cL_escape q.1 = .ok q.2)) = true := by decide +kernel
theorem dL_escape_0 : decode cL_escape 0 = .ok (.aload_n 2, 1) := dec_at kDL_escape_0 0 rfl
theorem dL_escape_1 : decode cL_escape 1 = .ok (.iconst 0, 1) := dec_at kDL_escape_0 1 rfl
theorem dL_escape_2 : decode cL_escape 2 = .ok (.aload_n 0, 1) := dec_at kDL_escape_0 2 rfl
theorem dL_escape_3 : decode cL_escape 3 = .ok (.iload_n 1, 1) := dec_at kDL_escape_0 3 rfl
theorem dL_escape_4 : decode cL_escape 4 = .ok (.invokevirtual 55, 3) := dec_at kDL_escape_0 4 rfl
theorem dL_escape_7 : decode cL_escape 7 = .ok (.i2l, 1) := dec_at kDL_escape_0 5 rfl
theorem dL_escape_8 : decode cL_escape 8 = .ok (.lastore, 1) := dec_at kDL_escape_0 6 rfl
theorem dL_escape_9 : decode cL_escape 9 = .ok (.goto 9, 3) := dec_at kDL_escape_0 7 rfl
theorem dL_escape_12 : decode cL_escape 12 = .ok (.astore_n 3, 1) := dec_at kDL_escape_0 8 rfl
theorem dL_escape_13 : decode cL_escape 13 = .ok (.iconst 1, 1) := dec_at kDL_escape_0 9 rfl
theorem dL_escape_14 : decode cL_escape 14 = .ok (.ireturn, 1) := dec_at kDL_escape_0 10 rfl
theorem dL_escape_15 : decode cL_escape 15 = .ok (.astore_n 3, 1) := dec_at kDL_escape_0 11 rfl
theorem dL_escape_16 : decode cL_escape 16 = .ok (.iconst 2, 1) := dec_at kDL_escape_0 12 rfl
theorem dL_escape_17 : decode cL_escape 17 = .ok (.ireturn, 1) := dec_at kDL_escape_0 13 rfl
theorem dL_escape_18 : decode cL_escape 18 = .ok (.iconst 0, 1) := dec_at kDL_escape_0 14 rfl
theorem dL_escape_19 : decode cL_escape 19 = .ok (.ireturn, 1) := dec_at kDL_escape_0 15 rfl
def DL_modal_0 : List (Nat × (Instr × Nat)) := [(0, (.aload_n 2, 1)), (1, (.iconst 0, 1)), (2, (.aload_n 0, 1)), (3, (.iload_n 1, 1)), (4, (.invokevirtual 58, 3)), (7, (.lastore, 1)), (8, (.goto 9, 3)), (11, (.astore_n 3, 1)), (12, (.iconst 1, 1)), (13, (.ireturn, 1)), (14, (.astore_n 3, 1)), (15, (.iconst 2, 1)), (16, (.ireturn, 1)), (17, (.iconst 0, 1)), (18, (.ireturn, 1))]
theorem kDL_modal_0 : DL_modal_0.all (fun q => decide (decode cL_modal q.1 = .ok q.2)) = true := by decide +kernel
theorem dL_modal_0 : decode cL_modal 0 = .ok (.aload_n 2, 1) := dec_at kDL_modal_0 0 rfl
theorem dL_modal_1 : decode cL_modal 1 = .ok (.iconst 0, 1) := dec_at kDL_modal_0 1 rfl
theorem dL_modal_2 : decode cL_modal 2 = .ok (.aload_n 0, 1) := dec_at kDL_modal_0 2 rfl
theorem dL_modal_3 : decode cL_modal 3 = .ok (.iload_n 1, 1) := dec_at kDL_modal_0 3 rfl
theorem dL_modal_4 : decode cL_modal 4 = .ok (.invokevirtual 58, 3) := dec_at kDL_modal_0 4 rfl
theorem dL_modal_7 : decode cL_modal 7 = .ok (.lastore, 1) := dec_at kDL_modal_0 5 rfl
theorem dL_modal_8 : decode cL_modal 8 = .ok (.goto 9, 3) := dec_at kDL_modal_0 6 rfl
theorem dL_modal_11 : decode cL_modal 11 = .ok (.astore_n 3, 1) := dec_at kDL_modal_0 7 rfl
theorem dL_modal_12 : decode cL_modal 12 = .ok (.iconst 1, 1) := dec_at kDL_modal_0 8 rfl
theorem dL_modal_13 : decode cL_modal 13 = .ok (.ireturn, 1) := dec_at kDL_modal_0 9 rfl
theorem dL_modal_14 : decode cL_modal 14 = .ok (.astore_n 3, 1) := dec_at kDL_modal_0 10 rfl
theorem dL_modal_15 : decode cL_modal 15 = .ok (.iconst 2, 1) := dec_at kDL_modal_0 11 rfl
theorem dL_modal_16 : decode cL_modal 16 = .ok (.ireturn, 1) := dec_at kDL_modal_0 12 rfl
theorem dL_modal_17 : decode cL_modal 17 = .ok (.iconst 0, 1) := dec_at kDL_modal_0 13 rfl
theorem dL_modal_18 : decode cL_modal 18 = .ok (.ireturn, 1) := dec_at kDL_modal_0 14 rfl
def DL_proof_0 : List (Nat × (Instr × Nat)) := [(0, (.aload_n 2, 1)), (1, (.iconst 0, 1)), (2, (.aload_n 0, 1)), (3, (.iload_n 1, 1)), (4, (.invokevirtual 62, 3)), (7, (.i2l, 1)), (8, (.lastore, 1)), (9, (.goto 6, 3)), (12, (.astore_n 3, 1)), (13, (.iconst 1, 1)), (14, (.ireturn, 1)), (15, (.iconst 0, 1)), (16, (.ireturn, 1))]
theorem kDL_proof_0 : DL_proof_0.all (fun q => decide (decode cL_proof q.1 = .ok q.2)) = true := by decide +kernel
theorem dL_proof_0 : decode cL_proof 0 = .ok (.aload_n 2, 1) := dec_at kDL_proof_0 0 rfl
theorem dL_proof_1 : decode cL_proof 1 = .ok (.iconst 0, 1) := dec_at kDL_proof_0 1 rfl
theorem dL_proof_2 : decode cL_proof 2 = .ok (.aload_n 0, 1) := dec_at kDL_proof_0 2 rfl
theorem dL_proof_3 : decode cL_proof 3 = .ok (.iload_n 1, 1) := dec_at kDL_proof_0 3 rfl
theorem dL_proof_4 : decode cL_proof 4 = .ok (.invokevirtual 62, 3) := dec_at kDL_proof_0 4 rfl
theorem dL_proof_7 : decode cL_proof 7 = .ok (.i2l, 1) := dec_at kDL_proof_0 5 rfl
theorem dL_proof_8 : decode cL_proof 8 = .ok (.lastore, 1) := dec_at kDL_proof_0 6 rfl
theorem dL_proof_9 : decode cL_proof 9 = .ok (.goto 6, 3) := dec_at kDL_proof_0 7 rfl
theorem dL_proof_12 : decode cL_proof 12 = .ok (.astore_n 3, 1) := dec_at kDL_proof_0 8 rfl
theorem dL_proof_13 : decode cL_proof 13 = .ok (.iconst 1, 1) := dec_at kDL_proof_0 9 rfl
theorem dL_proof_14 : decode cL_proof 14 = .ok (.ireturn, 1) := dec_at kDL_proof_0 10 rfl
theorem dL_proof_15 : decode cL_proof 15 = .ok (.iconst 0, 1) := dec_at kDL_proof_0 11 rfl
theorem dL_proof_16 : decode cL_proof 16 = .ok (.ireturn, 1) := dec_at kDL_proof_0 12 rfl
def DL_frame_0 : List (Nat × (Instr × Nat)) := [(0, (.aload_n 2, 1)), (1, (.iconst 0, 1)), (2, (.aload_n 0, 1)), (3, (.iload_n 1, 1)), (4, (.invokevirtual 65, 3)), (7, (.lastore, 1)), (8, (.goto 9, 3)), (11, (.astore_n 3, 1)), (12, (.iconst 1, 1)), (13, (.ireturn, 1)), (14, (.astore_n 3, 1)), (15, (.iconst 2, 1)), (16, (.ireturn, 1)), (17, (.iconst 0, 1)), (18, (.ireturn, 1))]
theorem kDL_frame_0 : DL_frame_0.all (fun q => decide (decode cL_frame q.1 = .ok q.2)) = true := by decide +kernel
theorem dL_frame_0 : decode cL_frame 0 = .ok (.aload_n 2, 1) := dec_at kDL_frame_0 0 rfl
theorem dL_frame_1 : decode cL_frame 1 = .ok (.iconst 0, 1) := dec_at kDL_frame_0 1 rfl
theorem dL_frame_2 : decode cL_frame 2 = .ok (.aload_n 0, 1) := dec_at kDL_frame_0 2 rfl
theorem dL_frame_3 : decode cL_frame 3 = .ok (.iload_n 1, 1) := dec_at kDL_frame_0 3 rfl
theorem dL_frame_4 : decode cL_frame 4 = .ok (.invokevirtual 65, 3) := dec_at kDL_frame_0 4 rfl
theorem dL_frame_7 : decode cL_frame 7 = .ok (.lastore, 1) := dec_at kDL_frame_0 5 rfl
theorem dL_frame_8 : decode cL_frame 8 = .ok (.goto 9, 3) := dec_at kDL_frame_0 6 rfl
theorem dL_frame_11 : decode cL_frame 11 = .ok (.astore_n 3, 1) := dec_at kDL_frame_0 7 rfl
theorem dL_frame_12 : decode cL_frame 12 = .ok (.iconst 1, 1) := dec_at kDL_frame_0 8 rfl
theorem dL_frame_13 : decode cL_frame 13 = .ok (.ireturn, 1) := dec_at kDL_frame_0 9 rfl
theorem dL_frame_14 : decode cL_frame 14 = .ok (.astore_n 3, 1) := dec_at kDL_frame_0 10 rfl
theorem dL_frame_15 : decode cL_frame 15 = .ok (.iconst 2, 1) := dec_at kDL_frame_0 11 rfl
theorem dL_frame_16 : decode cL_frame 16 = .ok (.ireturn, 1) := dec_at kDL_frame_0 12 rfl
theorem dL_frame_17 : decode cL_frame 17 = .ok (.iconst 0, 1) := dec_at kDL_frame_0 13 rfl
theorem dL_frame_18 : decode cL_frame 18 = .ok (.ireturn, 1) := dec_at kDL_frame_0 14 rfl
def DL_cube_0 : List (Nat × (Instr × Nat)) := [(0, (.aload_n 3, 1)), (1, (.iconst 0, 1)), (2, (.aload_n 0, 1)), (3, (.iload_n 1, 1)), (4, (.iload_n 2, 1)), (5, (.invokevirtual 68, 3)), (8, (.i2l, 1)), (9, (.lastore, 1)), (10, (.goto 15, 3)), (13, (.astore 4, 2)), (15, (.iconst 1, 1)), (16, (.ireturn, 1)), (17, (.astore 4, 2)), (19, (.iconst 2, 1)), (20, (.ireturn, 1)), (21, (.astore 4, 2)), (23, (.iconst 3, 1)), (24, (.ireturn, 1)), (25, (.iconst 0, 1)), (26, (.ireturn, 1))]
theorem kDL_cube_0 : DL_cube_0.all (fun q => decide (decode cL_cube q.1 = .ok q.2)) = true := by decide +kernel
theorem dL_cube_0 : decode cL_cube 0 = .ok (.aload_n 3, 1) := dec_at kDL_cube_0 0 rfl
theorem dL_cube_1 : decode cL_cube 1 = .ok (.iconst 0, 1) := dec_at kDL_cube_0 1 rfl
theorem dL_cube_2 : decode cL_cube 2 = .ok (.aload_n 0, 1) := dec_at kDL_cube_0 2 rfl
theorem dL_cube_3 : decode cL_cube 3 = .ok (.iload_n 1, 1) := dec_at kDL_cube_0 3 rfl
theorem dL_cube_4 : decode cL_cube 4 = .ok (.iload_n 2, 1) := dec_at kDL_cube_0 4 rfl
theorem dL_cube_5 : decode cL_cube 5 = .ok (.invokevirtual 68, 3) := dec_at kDL_cube_0 5 rfl
theorem dL_cube_8 : decode cL_cube 8 = .ok (.i2l, 1) := dec_at kDL_cube_0 6 rfl
theorem dL_cube_9 : decode cL_cube 9 = .ok (.lastore, 1) := dec_at kDL_cube_0 7 rfl
theorem dL_cube_10 : decode cL_cube 10 = .ok (.goto 15, 3) := dec_at kDL_cube_0 8 rfl
theorem dL_cube_13 : decode cL_cube 13 = .ok (.astore 4, 2) := dec_at kDL_cube_0 9 rfl
theorem dL_cube_15 : decode cL_cube 15 = .ok (.iconst 1, 1) := dec_at kDL_cube_0 10 rfl
theorem dL_cube_16 : decode cL_cube 16 = .ok (.ireturn, 1) := dec_at kDL_cube_0 11 rfl
theorem dL_cube_17 : decode cL_cube 17 = .ok (.astore 4, 2) := dec_at kDL_cube_0 12 rfl
theorem dL_cube_19 : decode cL_cube 19 = .ok (.iconst 2, 1) := dec_at kDL_cube_0 13 rfl
theorem dL_cube_20 : decode cL_cube 20 = .ok (.ireturn, 1) := dec_at kDL_cube_0 14 rfl
theorem dL_cube_21 : decode cL_cube 21 = .ok (.astore 4, 2) := dec_at kDL_cube_0 15 rfl
theorem dL_cube_23 : decode cL_cube 23 = .ok (.iconst 3, 1) := dec_at kDL_cube_0 16 rfl
theorem dL_cube_24 : decode cL_cube 24 = .ok (.ireturn, 1) := dec_at kDL_cube_0 17 rfl
theorem dL_cube_25 : decode cL_cube 25 = .ok (.iconst 0, 1) := dec_at kDL_cube_0 18 rfl
theorem dL_cube_26 : decode cL_cube 26 = .ok (.ireturn, 1) := dec_at kDL_cube_0 19 rfl
def DL_certificate_0 : List (Nat × (Instr × Nat)) := [(0, (.aload_n 1, 1)), (1, (.iconst 0, 1)), (2, (.aload_n 0, 1)), (3, (.invokevirtual 71, 3)), (6, (.lastore, 1)), (7, (.goto 6, 3)), (10, (.astore_n 2, 1)), (11, (.iconst 1, 1)), (12, (.ireturn, 1)), (13, (.iconst 0, 1)), (14, (.ireturn, 1))]
theorem kDL_certificate_0 : DL_certificate_0.all (fun q => decide (decode cL_certificate q.1 = .ok q.2)) = true := by decide +kernel
theorem dL_certificate_0 : decode cL_certificate 0 = .ok (.aload_n 1, 1) := dec_at kDL_certificate_0 0 rfl
theorem dL_certificate_1 : decode cL_certificate 1 = .ok (.iconst 0, 1) := dec_at kDL_certificate_0 1 rfl
theorem dL_certificate_2 : decode cL_certificate 2 = .ok (.aload_n 0, 1) := dec_at kDL_certificate_0 2 rfl
theorem dL_certificate_3 : decode cL_certificate 3 = .ok (.invokevirtual 71, 3) := dec_at kDL_certificate_0 3 rfl
theorem dL_certificate_6 : decode cL_certificate 6 = .ok (.lastore, 1) := dec_at kDL_certificate_0 4 rfl
theorem dL_certificate_7 : decode cL_certificate 7 = .ok (.goto 6, 3) := dec_at kDL_certificate_0 5 rfl
theorem dL_certificate_10 : decode cL_certificate 10 = .ok (.astore_n 2, 1) := dec_at kDL_certificate_0 6 rfl
theorem dL_certificate_11 : decode cL_certificate 11 = .ok (.iconst 1, 1) := dec_at kDL_certificate_0 7 rfl
theorem dL_certificate_12 : decode cL_certificate 12 = .ok (.ireturn, 1) := dec_at kDL_certificate_0 8 rfl
theorem dL_certificate_13 : decode cL_certificate 13 = .ok (.iconst 0, 1) := dec_at kDL_certificate_0 9 rfl
theorem dL_certificate_14 : decode cL_certificate 14 = .ok (.ireturn, 1) := dec_at kDL_certificate_0 10 rfl
def DL_shrunken_0 : List (Nat × (Instr × Nat)) := [(0, (.aload_n 1, 1)), (1, (.iconst 0, 1)), (2, (.aload_n 0, 1)), (3, (.invokevirtual 74, 3)), (6, (.i2l, 1)), (7, (.lastore, 1)), (8, (.goto 6, 3)), (11, (.astore_n 2, 1)), (12, (.iconst 1, 1)), (13, (.ireturn, 1)), (14, (.iconst 0, 1)), (15, (.ireturn, 1))]
theorem kDL_shrunken_0 : DL_shrunken_0.all (fun q => decide (decode cL_shrunken q.1 = .ok q.2)) = true := by decide +kernel
theorem dL_shrunken_0 : decode cL_shrunken 0 = .ok (.aload_n 1, 1) := dec_at kDL_shrunken_0 0 rfl
theorem dL_shrunken_1 : decode cL_shrunken 1 = .ok (.iconst 0, 1) := dec_at kDL_shrunken_0 1 rfl
theorem dL_shrunken_2 : decode cL_shrunken 2 = .ok (.aload_n 0, 1) := dec_at kDL_shrunken_0 2 rfl
theorem dL_shrunken_3 : decode cL_shrunken 3 = .ok (.invokevirtual 74, 3) := dec_at kDL_shrunken_0 3 rfl
theorem dL_shrunken_6 : decode cL_shrunken 6 = .ok (.i2l, 1) := dec_at kDL_shrunken_0 4 rfl
theorem dL_shrunken_7 : decode cL_shrunken 7 = .ok (.lastore, 1) := dec_at kDL_shrunken_0 5 rfl
theorem dL_shrunken_8 : decode cL_shrunken 8 = .ok (.goto 6, 3) := dec_at kDL_shrunken_0 6 rfl
theorem dL_shrunken_11 : decode cL_shrunken 11 = .ok (.astore_n 2, 1) := dec_at kDL_shrunken_0 7 rfl
theorem dL_shrunken_12 : decode cL_shrunken 12 = .ok (.iconst 1, 1) := dec_at kDL_shrunken_0 8 rfl
theorem dL_shrunken_13 : decode cL_shrunken 13 = .ok (.ireturn, 1) := dec_at kDL_shrunken_0 9 rfl
theorem dL_shrunken_14 : decode cL_shrunken 14 = .ok (.iconst 0, 1) := dec_at kDL_shrunken_0 10 rfl
theorem dL_shrunken_15 : decode cL_shrunken 15 = .ok (.ireturn, 1) := dec_at kDL_shrunken_0 11 rfl
def DL_elimination_0 : List (Nat × (Instr × Nat)) := [(0, (.aload_n 2, 1)), (1, (.iconst 0, 1)), (2, (.aload_n 0, 1)), (3, (.iload_n 1, 1)), (4, (.invokevirtual 77, 3)), (7, (.lastore, 1)), (8, (.goto 6, 3)), (11, (.astore_n 3, 1)), (12, (.iconst 1, 1)), (13, (.ireturn, 1)), (14, (.iconst 0, 1)), (15, (.ireturn, 1))]
theorem kDL_elimination_0 : DL_elimination_0.all (fun q => decide (decode cL_elimination q.1 = .ok q.2)) = true := by decide +kernel
theorem dL_elimination_0 : decode cL_elimination 0 = .ok (.aload_n 2, 1) := dec_at kDL_elimination_0 0 rfl
theorem dL_elimination_1 : decode cL_elimination 1 = .ok (.iconst 0, 1) := dec_at kDL_elimination_0 1 rfl
theorem dL_elimination_2 : decode cL_elimination 2 = .ok (.aload_n 0, 1) := dec_at kDL_elimination_0 2 rfl
theorem dL_elimination_3 : decode cL_elimination 3 = .ok (.iload_n 1, 1) := dec_at kDL_elimination_0 3 rfl
theorem dL_elimination_4 : decode cL_elimination 4 = .ok (.invokevirtual 77, 3) := dec_at kDL_elimination_0 4 rfl
theorem dL_elimination_7 : decode cL_elimination 7 = .ok (.lastore, 1) := dec_at kDL_elimination_0 5 rfl
theorem dL_elimination_8 : decode cL_elimination 8 = .ok (.goto 6, 3) := dec_at kDL_elimination_0 6 rfl
theorem dL_elimination_11 : decode cL_elimination 11 = .ok (.astore_n 3, 1) := dec_at kDL_elimination_0 7 rfl
theorem dL_elimination_12 : decode cL_elimination 12 = .ok (.iconst 1, 1) := dec_at kDL_elimination_0 8 rfl
theorem dL_elimination_13 : decode cL_elimination 13 = .ok (.ireturn, 1) := dec_at kDL_elimination_0 9 rfl
theorem dL_elimination_14 : decode cL_elimination 14 = .ok (.iconst 0, 1) := dec_at kDL_elimination_0 10 rfl
theorem dL_elimination_15 : decode cL_elimination 15 = .ok (.ireturn, 1) := dec_at kDL_elimination_0 11 rfl
def DL_isSafeWithFree_0 : List (Nat × (Instr × Nat)) := [(0, (.aload_n 2, 1)), (1, (.iconst 0, 1)), (2, (.aload_n 0, 1)), (3, (.iload_n 1, 1)), (4, (.invokevirtual 80, 3)), (7, (.ifCond .eq 7, 3)), (10, (.lconst 1, 1)), (11, (.goto 4, 3)), (14, (.lconst 0, 1)), (15, (.lastore, 1)), (16, (.goto 6, 3)), (19, (.astore_n 3, 1)), (20, (.iconst 1, 1)), (21, (.ireturn, 1)), (22, (.iconst 0, 1)), (23, (.ireturn, 1))]
theorem kDL_isSafeWithFree_0 : DL_isSafeWithFree_0.all (fun q => decide (decode cL_isSafeWithFree q.1 = .ok q.2)) = true := by decide +kernel
theorem dL_isSafeWithFree_0 : decode cL_isSafeWithFree 0 = .ok (.aload_n 2, 1) := dec_at kDL_isSafeWithFree_0 0 rfl
theorem dL_isSafeWithFree_1 : decode cL_isSafeWithFree 1 = .ok (.iconst 0, 1) := dec_at kDL_isSafeWithFree_0 1 rfl
theorem dL_isSafeWithFree_2 : decode cL_isSafeWithFree 2 = .ok (.aload_n 0, 1) := dec_at kDL_isSafeWithFree_0 2 rfl
theorem dL_isSafeWithFree_3 : decode cL_isSafeWithFree 3 = .ok (.iload_n 1, 1) := dec_at kDL_isSafeWithFree_0 3 rfl
theorem dL_isSafeWithFree_4 : decode cL_isSafeWithFree 4 = .ok (.invokevirtual 80, 3) := dec_at kDL_isSafeWithFree_0 4 rfl
theorem dL_isSafeWithFree_7 : decode cL_isSafeWithFree 7 = .ok (.ifCond .eq 7, 3) := dec_at kDL_isSafeWithFree_0 5 rfl
theorem dL_isSafeWithFree_10 : decode cL_isSafeWithFree 10 = .ok (.lconst 1, 1) := dec_at kDL_isSafeWithFree_0 6 rfl
theorem dL_isSafeWithFree_11 : decode cL_isSafeWithFree 11 = .ok (.goto 4, 3) := dec_at kDL_isSafeWithFree_0 7 rfl
theorem dL_isSafeWithFree_14 : decode cL_isSafeWithFree 14 = .ok (.lconst 0, 1) := dec_at kDL_isSafeWithFree_0 8 rfl
theorem dL_isSafeWithFree_15 : decode cL_isSafeWithFree 15 = .ok (.lastore, 1) := dec_at kDL_isSafeWithFree_0 9 rfl
theorem dL_isSafeWithFree_16 : decode cL_isSafeWithFree 16 = .ok (.goto 6, 3) := dec_at kDL_isSafeWithFree_0 10 rfl
theorem dL_isSafeWithFree_19 : decode cL_isSafeWithFree 19 = .ok (.astore_n 3, 1) := dec_at kDL_isSafeWithFree_0 11 rfl
theorem dL_isSafeWithFree_20 : decode cL_isSafeWithFree 20 = .ok (.iconst 1, 1) := dec_at kDL_isSafeWithFree_0 12 rfl
theorem dL_isSafeWithFree_21 : decode cL_isSafeWithFree 21 = .ok (.ireturn, 1) := dec_at kDL_isSafeWithFree_0 13 rfl
theorem dL_isSafeWithFree_22 : decode cL_isSafeWithFree 22 = .ok (.iconst 0, 1) := dec_at kDL_isSafeWithFree_0 14 rfl
theorem dL_isSafeWithFree_23 : decode cL_isSafeWithFree 23 = .ok (.ireturn, 1) := dec_at kDL_isSafeWithFree_0 15 rfl
def DL_simulate_0 : List (Nat × (Instr × Nat)) := [(0, (.aload 4, 2)), (2, (.iconst 0, 1)), (3, (.aload_n 0, 1)), (4, (.iload_n 1, 1)), (5, (.iload_n 2, 1)), (6, (.iload_n 3, 1)), (7, (.invokevirtual 84, 3)), (10, (.i2l, 1)), (11, (.lastore, 1)), (12, (.goto 11, 3)), (15, (.astore 5, 2)), (17, (.iconst 1, 1)), (18, (.ireturn, 1)), (19, (.astore 5, 2)), (21, (.iconst 2, 1)), (22, (.ireturn, 1)), (23, (.iconst 0, 1)), (24, (.ireturn, 1))]
theorem kDL_simulate_0 : DL_simulate_0.all (fun q => decide (decode cL_simulate q.1 = .ok q.2)) = true := by decide +kernel
theorem dL_simulate_0 : decode cL_simulate 0 = .ok (.aload 4, 2) := dec_at kDL_simulate_0 0 rfl
theorem dL_simulate_2 : decode cL_simulate 2 = .ok (.iconst 0, 1) := dec_at kDL_simulate_0 1 rfl
theorem dL_simulate_3 : decode cL_simulate 3 = .ok (.aload_n 0, 1) := dec_at kDL_simulate_0 2 rfl
theorem dL_simulate_4 : decode cL_simulate 4 = .ok (.iload_n 1, 1) := dec_at kDL_simulate_0 3 rfl
theorem dL_simulate_5 : decode cL_simulate 5 = .ok (.iload_n 2, 1) := dec_at kDL_simulate_0 4 rfl
theorem dL_simulate_6 : decode cL_simulate 6 = .ok (.iload_n 3, 1) := dec_at kDL_simulate_0 5 rfl
theorem dL_simulate_7 : decode cL_simulate 7 = .ok (.invokevirtual 84, 3) := dec_at kDL_simulate_0 6 rfl
theorem dL_simulate_10 : decode cL_simulate 10 = .ok (.i2l, 1) := dec_at kDL_simulate_0 7 rfl
theorem dL_simulate_11 : decode cL_simulate 11 = .ok (.lastore, 1) := dec_at kDL_simulate_0 8 rfl
theorem dL_simulate_12 : decode cL_simulate 12 = .ok (.goto 11, 3) := dec_at kDL_simulate_0 9 rfl
theorem dL_simulate_15 : decode cL_simulate 15 = .ok (.astore 5, 2) := dec_at kDL_simulate_0 10 rfl
theorem dL_simulate_17 : decode cL_simulate 17 = .ok (.iconst 1, 1) := dec_at kDL_simulate_0 11 rfl
theorem dL_simulate_18 : decode cL_simulate 18 = .ok (.ireturn, 1) := dec_at kDL_simulate_0 12 rfl
theorem dL_simulate_19 : decode cL_simulate 19 = .ok (.astore 5, 2) := dec_at kDL_simulate_0 13 rfl
theorem dL_simulate_21 : decode cL_simulate 21 = .ok (.iconst 2, 1) := dec_at kDL_simulate_0 14 rfl
theorem dL_simulate_22 : decode cL_simulate 22 = .ok (.ireturn, 1) := dec_at kDL_simulate_0 15 rfl
theorem dL_simulate_23 : decode cL_simulate 23 = .ok (.iconst 0, 1) := dec_at kDL_simulate_0 16 rfl
theorem dL_simulate_24 : decode cL_simulate 24 = .ok (.ireturn, 1) := dec_at kDL_simulate_0 17 rfl
def DL_law_0 : List (Nat × (Instr × Nat)) := [(0, (.new 8, 3)), (3, (.dup, 1)), (4, (.invokespecial 88, 3)), (7, (.astore_n 1, 1)), (8, (.new 89, 3)), (11, (.dup, 1)), (12, (.invokespecial 91, 3)), (15, (.astore_n 2, 1)), (16, (.iconst 1, 1)), (17, (.newarray .long, 2)), (19, (.astore_n 3, 1)), (20, (.iconst 0, 1)), (21, (.istore 4, 2)), (23, (.iload 4, 2)), (25, (.aload_n 0, 1)), (26, (.arraylength, 1)), (27, (.iconst 4, 1)), (28, (.isub, 1)), (29, (.if_icmp .gt 1482, 3)), (32, (.aload_n 0, 1)), (33, (.iload 4, 2)), (35, (.iaload, 1)), (36, (.bipush 31, 2)), (38, (.iand, 1)), (39, (.tableswitch 1466 0 27 #[125, 193, 249, 262, 275, 331, 375, 419, 463, 531, 599, 655, 723, 766, 810, 866, 921, 934, 990, 1045, 1113, 1156, 1200, 1241, 1296, 1359, 1372, 1452], 125)), (164, (.aload_n 1, 1)), (165, (.aload_n 0, 1)), (166, (.iload 4, 2)), (168, (.iconst 1, 1)), (169, (.iadd, 1)), (170, (.iaload, 1)), (171, (.aload_n 0, 1)), (172, (.iload 4, 2)), (174, (.iconst 2, 1)), (175, (.iadd, 1)), (176, (.iaload, 1)), (177, (.aload_n 3, 1)), (178, (.invokestatic 92, 3)), (181, (.istore 5, 2)), (183, (.aload_n 2, 1)), (184, (.aload_n 0, 1)), (185, (.iload 4, 2)), (187, (.iconst 1, 1)), (188, (.iadd, 1)), (189, (.iaload, 1)), (190, (.aload_n 0, 1)), (191, (.iload 4, 2)), (193, (.iconst 2, 1)), (194, (.iadd, 1)), (195, (.iaload, 1))]
theorem kDL_law_0 : DL_law_0.all (fun q => decide (decode cL_law q.1 = .ok q.2)) = true := by decide +kernel
theorem dL_law_0 : decode cL_law 0 = .ok (.new 8, 3) := dec_at kDL_law_0 0 rfl
theorem dL_law_3 : decode cL_law 3 = .ok (.dup, 1) := dec_at kDL_law_0 1 rfl
theorem dL_law_4 : decode cL_law 4 = .ok (.invokespecial 88, 3) := dec_at kDL_law_0 2 rfl
theorem dL_law_7 : decode cL_law 7 = .ok (.astore_n 1, 1) := dec_at kDL_law_0 3 rfl
theorem dL_law_8 : decode cL_law 8 = .ok (.new 89, 3) := dec_at kDL_law_0 4 rfl
theorem dL_law_11 : decode cL_law 11 = .ok (.dup, 1) := dec_at kDL_law_0 5 rfl
theorem dL_law_12 : decode cL_law 12 = .ok (.invokespecial 91, 3) := dec_at kDL_law_0 6 rfl
theorem dL_law_15 : decode cL_law 15 = .ok (.astore_n 2, 1) := dec_at kDL_law_0 7 rfl
theorem dL_law_16 : decode cL_law 16 = .ok (.iconst 1, 1) := dec_at kDL_law_0 8 rfl
theorem dL_law_17 : decode cL_law 17 = .ok (.newarray .long, 2) := dec_at kDL_law_0 9 rfl
theorem dL_law_19 : decode cL_law 19 = .ok (.astore_n 3, 1) := dec_at kDL_law_0 10 rfl
theorem dL_law_20 : decode cL_law 20 = .ok (.iconst 0, 1) := dec_at kDL_law_0 11 rfl
theorem dL_law_21 : decode cL_law 21 = .ok (.istore 4, 2) := dec_at kDL_law_0 12 rfl
theorem dL_law_23 : decode cL_law 23 = .ok (.iload 4, 2) := dec_at kDL_law_0 13 rfl
theorem dL_law_25 : decode cL_law 25 = .ok (.aload_n 0, 1) := dec_at kDL_law_0 14 rfl
theorem dL_law_26 : decode cL_law 26 = .ok (.arraylength, 1) := dec_at kDL_law_0 15 rfl
theorem dL_law_27 : decode cL_law 27 = .ok (.iconst 4, 1) := dec_at kDL_law_0 16 rfl
theorem dL_law_28 : decode cL_law 28 = .ok (.isub, 1) := dec_at kDL_law_0 17 rfl
theorem dL_law_29 : decode cL_law 29 = .ok (.if_icmp .gt 1482, 3) := dec_at kDL_law_0 18 rfl
theorem dL_law_32 : decode cL_law 32 = .ok (.aload_n 0, 1) := dec_at kDL_law_0 19 rfl
theorem dL_law_33 : decode cL_law 33 = .ok (.iload 4, 2) := dec_at kDL_law_0 20 rfl
theorem dL_law_35 : decode cL_law 35 = .ok (.iaload, 1) := dec_at kDL_law_0 21 rfl
theorem dL_law_36 : decode cL_law 36 = .ok (.bipush 31, 2) := dec_at kDL_law_0 22 rfl
theorem dL_law_38 : decode cL_law 38 = .ok (.iand, 1) := dec_at kDL_law_0 23 rfl
theorem dL_law_39 : decode cL_law 39 = .ok (.tableswitch 1466 0 27 #[125, 193, 249, 262, 275, 331, 375, 419, 463, 531, 599, 655, 723, 766, 810, 866, 921, 934, 990, 1045, 1113, 1156, 1200, 1241, 1296, 1359, 1372, 1452], 125) := dec_at kDL_law_0 24 rfl
theorem dL_law_164 : decode cL_law 164 = .ok (.aload_n 1, 1) := dec_at kDL_law_0 25 rfl
theorem dL_law_165 : decode cL_law 165 = .ok (.aload_n 0, 1) := dec_at kDL_law_0 26 rfl
theorem dL_law_166 : decode cL_law 166 = .ok (.iload 4, 2) := dec_at kDL_law_0 27 rfl
theorem dL_law_168 : decode cL_law 168 = .ok (.iconst 1, 1) := dec_at kDL_law_0 28 rfl
theorem dL_law_169 : decode cL_law 169 = .ok (.iadd, 1) := dec_at kDL_law_0 29 rfl
theorem dL_law_170 : decode cL_law 170 = .ok (.iaload, 1) := dec_at kDL_law_0 30 rfl
theorem dL_law_171 : decode cL_law 171 = .ok (.aload_n 0, 1) := dec_at kDL_law_0 31 rfl
theorem dL_law_172 : decode cL_law 172 = .ok (.iload 4, 2) := dec_at kDL_law_0 32 rfl
theorem dL_law_174 : decode cL_law 174 = .ok (.iconst 2, 1) := dec_at kDL_law_0 33 rfl
theorem dL_law_175 : decode cL_law 175 = .ok (.iadd, 1) := dec_at kDL_law_0 34 rfl
theorem dL_law_176 : decode cL_law 176 = .ok (.iaload, 1) := dec_at kDL_law_0 35 rfl
theorem dL_law_177 : decode cL_law 177 = .ok (.aload_n 3, 1) := dec_at kDL_law_0 36 rfl
theorem dL_law_178 : decode cL_law 178 = .ok (.invokestatic 92, 3) := dec_at kDL_law_0 37 rfl
theorem dL_law_181 : decode cL_law 181 = .ok (.istore 5, 2) := dec_at kDL_law_0 38 rfl
theorem dL_law_183 : decode cL_law 183 = .ok (.aload_n 2, 1) := dec_at kDL_law_0 39 rfl
theorem dL_law_184 : decode cL_law 184 = .ok (.aload_n 0, 1) := dec_at kDL_law_0 40 rfl
theorem dL_law_185 : decode cL_law 185 = .ok (.iload 4, 2) := dec_at kDL_law_0 41 rfl
theorem dL_law_187 : decode cL_law 187 = .ok (.iconst 1, 1) := dec_at kDL_law_0 42 rfl
theorem dL_law_188 : decode cL_law 188 = .ok (.iadd, 1) := dec_at kDL_law_0 43 rfl
theorem dL_law_189 : decode cL_law 189 = .ok (.iaload, 1) := dec_at kDL_law_0 44 rfl
theorem dL_law_190 : decode cL_law 190 = .ok (.aload_n 0, 1) := dec_at kDL_law_0 45 rfl
theorem dL_law_191 : decode cL_law 191 = .ok (.iload 4, 2) := dec_at kDL_law_0 46 rfl
theorem dL_law_193 : decode cL_law 193 = .ok (.iconst 2, 1) := dec_at kDL_law_0 47 rfl
theorem dL_law_194 : decode cL_law 194 = .ok (.iadd, 1) := dec_at kDL_law_0 48 rfl
theorem dL_law_195 : decode cL_law 195 = .ok (.iaload, 1) := dec_at kDL_law_0 49 rfl
def DL_law_50 : List (Nat × (Instr × Nat)) := [(196, (.invokevirtual 97, 3)), (199, (.istore 6, 2)), (201, (.aload_n 2, 1)), (202, (.invokevirtual 98, 3)), (205, (.iload 5, 2)), (207, (.if_icmp .eq 5, 3)), (210, (.iconst 0, 1)), (211, (.ireturn, 1)), (212, (.iload 5, 2)), (214, (.ifCond .ne 15, 3)), (217, (.aload_n 3, 1)), (218, (.iconst 0, 1)), (219, (.laload, 1)), (220, (.iload 6, 2)), (222, (.i2l, 1)), (223, (.lcmp, 1)), (224, (.ifCond .eq 5, 3)), (227, (.iconst 0, 1)), (228, (.ireturn, 1)), (229, (.goto 1276, 3)), (232, (.aload_n 1, 1)), (233, (.aload_n 0, 1)), (234, (.iload 4, 2)), (236, (.iconst 1, 1)), (237, (.iadd, 1)), (238, (.iaload, 1)), (239, (.aload_n 3, 1)), (240, (.invokestatic 101, 3)), (243, (.istore 5, 2)), (245, (.aload_n 2, 1)), (246, (.aload_n 0, 1)), (247, (.iload 4, 2)), (249, (.iconst 1, 1)), (250, (.iadd, 1)), (251, (.iaload, 1)), (252, (.invokevirtual 104, 3)), (255, (.istore 6, 2)), (257, (.aload_n 2, 1)), (258, (.invokevirtual 98, 3)), (261, (.iload 5, 2)), (263, (.if_icmp .eq 5, 3)), (266, (.iconst 0, 1)), (267, (.ireturn, 1)), (268, (.iload 5, 2)), (270, (.ifCond .ne 15, 3)), (273, (.aload_n 3, 1)), (274, (.iconst 0, 1)), (275, (.laload, 1)), (276, (.iload 6, 2)), (278, (.i2l, 1))]
theorem kDL_law_50 : DL_law_50.all (fun q => decide (decode cL_law q.1 = .ok q.2)) = true := by decide +kernel
theorem dL_law_196 : decode cL_law 196 = .ok (.invokevirtual 97, 3) := dec_at kDL_law_50 0 rfl
theorem dL_law_199 : decode cL_law 199 = .ok (.istore 6, 2) := dec_at kDL_law_50 1 rfl
theorem dL_law_201 : decode cL_law 201 = .ok (.aload_n 2, 1) := dec_at kDL_law_50 2 rfl
theorem dL_law_202 : decode cL_law 202 = .ok (.invokevirtual 98, 3) := dec_at kDL_law_50 3 rfl
theorem dL_law_205 : decode cL_law 205 = .ok (.iload 5, 2) := dec_at kDL_law_50 4 rfl
theorem dL_law_207 : decode cL_law 207 = .ok (.if_icmp .eq 5, 3) := dec_at kDL_law_50 5 rfl
theorem dL_law_210 : decode cL_law 210 = .ok (.iconst 0, 1) := dec_at kDL_law_50 6 rfl
theorem dL_law_211 : decode cL_law 211 = .ok (.ireturn, 1) := dec_at kDL_law_50 7 rfl
theorem dL_law_212 : decode cL_law 212 = .ok (.iload 5, 2) := dec_at kDL_law_50 8 rfl
theorem dL_law_214 : decode cL_law 214 = .ok (.ifCond .ne 15, 3) := dec_at kDL_law_50 9 rfl
theorem dL_law_217 : decode cL_law 217 = .ok (.aload_n 3, 1) := dec_at kDL_law_50 10 rfl
theorem dL_law_218 : decode cL_law 218 = .ok (.iconst 0, 1) := dec_at kDL_law_50 11 rfl
theorem dL_law_219 : decode cL_law 219 = .ok (.laload, 1) := dec_at kDL_law_50 12 rfl
theorem dL_law_220 : decode cL_law 220 = .ok (.iload 6, 2) := dec_at kDL_law_50 13 rfl
theorem dL_law_222 : decode cL_law 222 = .ok (.i2l, 1) := dec_at kDL_law_50 14 rfl
theorem dL_law_223 : decode cL_law 223 = .ok (.lcmp, 1) := dec_at kDL_law_50 15 rfl
theorem dL_law_224 : decode cL_law 224 = .ok (.ifCond .eq 5, 3) := dec_at kDL_law_50 16 rfl
theorem dL_law_227 : decode cL_law 227 = .ok (.iconst 0, 1) := dec_at kDL_law_50 17 rfl
theorem dL_law_228 : decode cL_law 228 = .ok (.ireturn, 1) := dec_at kDL_law_50 18 rfl
theorem dL_law_229 : decode cL_law 229 = .ok (.goto 1276, 3) := dec_at kDL_law_50 19 rfl
theorem dL_law_232 : decode cL_law 232 = .ok (.aload_n 1, 1) := dec_at kDL_law_50 20 rfl
theorem dL_law_233 : decode cL_law 233 = .ok (.aload_n 0, 1) := dec_at kDL_law_50 21 rfl
theorem dL_law_234 : decode cL_law 234 = .ok (.iload 4, 2) := dec_at kDL_law_50 22 rfl
theorem dL_law_236 : decode cL_law 236 = .ok (.iconst 1, 1) := dec_at kDL_law_50 23 rfl
theorem dL_law_237 : decode cL_law 237 = .ok (.iadd, 1) := dec_at kDL_law_50 24 rfl
theorem dL_law_238 : decode cL_law 238 = .ok (.iaload, 1) := dec_at kDL_law_50 25 rfl
theorem dL_law_239 : decode cL_law 239 = .ok (.aload_n 3, 1) := dec_at kDL_law_50 26 rfl
theorem dL_law_240 : decode cL_law 240 = .ok (.invokestatic 101, 3) := dec_at kDL_law_50 27 rfl
theorem dL_law_243 : decode cL_law 243 = .ok (.istore 5, 2) := dec_at kDL_law_50 28 rfl
theorem dL_law_245 : decode cL_law 245 = .ok (.aload_n 2, 1) := dec_at kDL_law_50 29 rfl
theorem dL_law_246 : decode cL_law 246 = .ok (.aload_n 0, 1) := dec_at kDL_law_50 30 rfl
theorem dL_law_247 : decode cL_law 247 = .ok (.iload 4, 2) := dec_at kDL_law_50 31 rfl
theorem dL_law_249 : decode cL_law 249 = .ok (.iconst 1, 1) := dec_at kDL_law_50 32 rfl
theorem dL_law_250 : decode cL_law 250 = .ok (.iadd, 1) := dec_at kDL_law_50 33 rfl
theorem dL_law_251 : decode cL_law 251 = .ok (.iaload, 1) := dec_at kDL_law_50 34 rfl
theorem dL_law_252 : decode cL_law 252 = .ok (.invokevirtual 104, 3) := dec_at kDL_law_50 35 rfl
theorem dL_law_255 : decode cL_law 255 = .ok (.istore 6, 2) := dec_at kDL_law_50 36 rfl
theorem dL_law_257 : decode cL_law 257 = .ok (.aload_n 2, 1) := dec_at kDL_law_50 37 rfl
theorem dL_law_258 : decode cL_law 258 = .ok (.invokevirtual 98, 3) := dec_at kDL_law_50 38 rfl
theorem dL_law_261 : decode cL_law 261 = .ok (.iload 5, 2) := dec_at kDL_law_50 39 rfl
theorem dL_law_263 : decode cL_law 263 = .ok (.if_icmp .eq 5, 3) := dec_at kDL_law_50 40 rfl
theorem dL_law_266 : decode cL_law 266 = .ok (.iconst 0, 1) := dec_at kDL_law_50 41 rfl
theorem dL_law_267 : decode cL_law 267 = .ok (.ireturn, 1) := dec_at kDL_law_50 42 rfl
theorem dL_law_268 : decode cL_law 268 = .ok (.iload 5, 2) := dec_at kDL_law_50 43 rfl
theorem dL_law_270 : decode cL_law 270 = .ok (.ifCond .ne 15, 3) := dec_at kDL_law_50 44 rfl
theorem dL_law_273 : decode cL_law 273 = .ok (.aload_n 3, 1) := dec_at kDL_law_50 45 rfl
theorem dL_law_274 : decode cL_law 274 = .ok (.iconst 0, 1) := dec_at kDL_law_50 46 rfl
theorem dL_law_275 : decode cL_law 275 = .ok (.laload, 1) := dec_at kDL_law_50 47 rfl
theorem dL_law_276 : decode cL_law 276 = .ok (.iload 6, 2) := dec_at kDL_law_50 48 rfl
theorem dL_law_278 : decode cL_law 278 = .ok (.i2l, 1) := dec_at kDL_law_50 49 rfl
def DL_law_100 : List (Nat × (Instr × Nat)) := [(279, (.lcmp, 1)), (280, (.ifCond .eq 5, 3)), (283, (.iconst 0, 1)), (284, (.ireturn, 1)), (285, (.goto 1220, 3)), (288, (.aload_n 1, 1)), (289, (.invokevirtual 105, 3)), (292, (.aload_n 2, 1)), (293, (.invokevirtual 108, 3)), (296, (.if_icmp .eq 1209, 3)), (299, (.iconst 0, 1)), (300, (.ireturn, 1)), (301, (.aload_n 1, 1)), (302, (.invokevirtual 109, 3)), (305, (.aload_n 2, 1)), (306, (.invokevirtual 112, 3)), (309, (.if_icmp .eq 1196, 3)), (312, (.iconst 0, 1)), (313, (.ireturn, 1)), (314, (.aload_n 1, 1)), (315, (.aload_n 0, 1)), (316, (.iload 4, 2)), (318, (.iconst 1, 1)), (319, (.iadd, 1)), (320, (.iaload, 1)), (321, (.aload_n 3, 1)), (322, (.invokestatic 113, 3)), (325, (.istore 5, 2)), (327, (.aload_n 2, 1)), (328, (.aload_n 0, 1)), (329, (.iload 4, 2)), (331, (.iconst 1, 1)), (332, (.iadd, 1)), (333, (.iaload, 1)), (334, (.invokevirtual 115, 3)), (337, (.istore 6, 2)), (339, (.aload_n 2, 1)), (340, (.invokevirtual 98, 3)), (343, (.iload 5, 2)), (345, (.if_icmp .eq 5, 3)), (348, (.iconst 0, 1)), (349, (.ireturn, 1)), (350, (.iload 5, 2)), (352, (.ifCond .ne 15, 3)), (355, (.aload_n 3, 1)), (356, (.iconst 0, 1)), (357, (.laload, 1)), (358, (.iload 6, 2)), (360, (.i2l, 1)), (361, (.lcmp, 1))]
theorem kDL_law_100 : DL_law_100.all (fun q => decide (decode cL_law q.1 = .ok q.2)) = true := by decide +kernel
theorem dL_law_279 : decode cL_law 279 = .ok (.lcmp, 1) := dec_at kDL_law_100 0 rfl
theorem dL_law_280 : decode cL_law 280 = .ok (.ifCond .eq 5, 3) := dec_at kDL_law_100 1 rfl
theorem dL_law_283 : decode cL_law 283 = .ok (.iconst 0, 1) := dec_at kDL_law_100 2 rfl
theorem dL_law_284 : decode cL_law 284 = .ok (.ireturn, 1) := dec_at kDL_law_100 3 rfl
theorem dL_law_285 : decode cL_law 285 = .ok (.goto 1220, 3) := dec_at kDL_law_100 4 rfl
theorem dL_law_288 : decode cL_law 288 = .ok (.aload_n 1, 1) := dec_at kDL_law_100 5 rfl
theorem dL_law_289 : decode cL_law 289 = .ok (.invokevirtual 105, 3) := dec_at kDL_law_100 6 rfl
theorem dL_law_292 : decode cL_law 292 = .ok (.aload_n 2, 1) := dec_at kDL_law_100 7 rfl
theorem dL_law_293 : decode cL_law 293 = .ok (.invokevirtual 108, 3) := dec_at kDL_law_100 8 rfl
theorem dL_law_296 : decode cL_law 296 = .ok (.if_icmp .eq 1209, 3) := dec_at kDL_law_100 9 rfl
theorem dL_law_299 : decode cL_law 299 = .ok (.iconst 0, 1) := dec_at kDL_law_100 10 rfl
theorem dL_law_300 : decode cL_law 300 = .ok (.ireturn, 1) := dec_at kDL_law_100 11 rfl
theorem dL_law_301 : decode cL_law 301 = .ok (.aload_n 1, 1) := dec_at kDL_law_100 12 rfl
theorem dL_law_302 : decode cL_law 302 = .ok (.invokevirtual 109, 3) := dec_at kDL_law_100 13 rfl
theorem dL_law_305 : decode cL_law 305 = .ok (.aload_n 2, 1) := dec_at kDL_law_100 14 rfl
theorem dL_law_306 : decode cL_law 306 = .ok (.invokevirtual 112, 3) := dec_at kDL_law_100 15 rfl
theorem dL_law_309 : decode cL_law 309 = .ok (.if_icmp .eq 1196, 3) := dec_at kDL_law_100 16 rfl
theorem dL_law_312 : decode cL_law 312 = .ok (.iconst 0, 1) := dec_at kDL_law_100 17 rfl
theorem dL_law_313 : decode cL_law 313 = .ok (.ireturn, 1) := dec_at kDL_law_100 18 rfl
theorem dL_law_314 : decode cL_law 314 = .ok (.aload_n 1, 1) := dec_at kDL_law_100 19 rfl
theorem dL_law_315 : decode cL_law 315 = .ok (.aload_n 0, 1) := dec_at kDL_law_100 20 rfl
theorem dL_law_316 : decode cL_law 316 = .ok (.iload 4, 2) := dec_at kDL_law_100 21 rfl
theorem dL_law_318 : decode cL_law 318 = .ok (.iconst 1, 1) := dec_at kDL_law_100 22 rfl
theorem dL_law_319 : decode cL_law 319 = .ok (.iadd, 1) := dec_at kDL_law_100 23 rfl
theorem dL_law_320 : decode cL_law 320 = .ok (.iaload, 1) := dec_at kDL_law_100 24 rfl
theorem dL_law_321 : decode cL_law 321 = .ok (.aload_n 3, 1) := dec_at kDL_law_100 25 rfl
theorem dL_law_322 : decode cL_law 322 = .ok (.invokestatic 113, 3) := dec_at kDL_law_100 26 rfl
theorem dL_law_325 : decode cL_law 325 = .ok (.istore 5, 2) := dec_at kDL_law_100 27 rfl
theorem dL_law_327 : decode cL_law 327 = .ok (.aload_n 2, 1) := dec_at kDL_law_100 28 rfl
theorem dL_law_328 : decode cL_law 328 = .ok (.aload_n 0, 1) := dec_at kDL_law_100 29 rfl
theorem dL_law_329 : decode cL_law 329 = .ok (.iload 4, 2) := dec_at kDL_law_100 30 rfl
theorem dL_law_331 : decode cL_law 331 = .ok (.iconst 1, 1) := dec_at kDL_law_100 31 rfl
theorem dL_law_332 : decode cL_law 332 = .ok (.iadd, 1) := dec_at kDL_law_100 32 rfl
theorem dL_law_333 : decode cL_law 333 = .ok (.iaload, 1) := dec_at kDL_law_100 33 rfl
theorem dL_law_334 : decode cL_law 334 = .ok (.invokevirtual 115, 3) := dec_at kDL_law_100 34 rfl
theorem dL_law_337 : decode cL_law 337 = .ok (.istore 6, 2) := dec_at kDL_law_100 35 rfl
theorem dL_law_339 : decode cL_law 339 = .ok (.aload_n 2, 1) := dec_at kDL_law_100 36 rfl
theorem dL_law_340 : decode cL_law 340 = .ok (.invokevirtual 98, 3) := dec_at kDL_law_100 37 rfl
theorem dL_law_343 : decode cL_law 343 = .ok (.iload 5, 2) := dec_at kDL_law_100 38 rfl
theorem dL_law_345 : decode cL_law 345 = .ok (.if_icmp .eq 5, 3) := dec_at kDL_law_100 39 rfl
theorem dL_law_348 : decode cL_law 348 = .ok (.iconst 0, 1) := dec_at kDL_law_100 40 rfl
theorem dL_law_349 : decode cL_law 349 = .ok (.ireturn, 1) := dec_at kDL_law_100 41 rfl
theorem dL_law_350 : decode cL_law 350 = .ok (.iload 5, 2) := dec_at kDL_law_100 42 rfl
theorem dL_law_352 : decode cL_law 352 = .ok (.ifCond .ne 15, 3) := dec_at kDL_law_100 43 rfl
theorem dL_law_355 : decode cL_law 355 = .ok (.aload_n 3, 1) := dec_at kDL_law_100 44 rfl
theorem dL_law_356 : decode cL_law 356 = .ok (.iconst 0, 1) := dec_at kDL_law_100 45 rfl
theorem dL_law_357 : decode cL_law 357 = .ok (.laload, 1) := dec_at kDL_law_100 46 rfl
theorem dL_law_358 : decode cL_law 358 = .ok (.iload 6, 2) := dec_at kDL_law_100 47 rfl
theorem dL_law_360 : decode cL_law 360 = .ok (.i2l, 1) := dec_at kDL_law_100 48 rfl
theorem dL_law_361 : decode cL_law 361 = .ok (.lcmp, 1) := dec_at kDL_law_100 49 rfl
def DL_law_150 : List (Nat × (Instr × Nat)) := [(362, (.ifCond .eq 5, 3)), (365, (.iconst 0, 1)), (366, (.ireturn, 1)), (367, (.goto 1138, 3)), (370, (.aload_n 1, 1)), (371, (.aload_n 3, 1)), (372, (.invokestatic 116, 3)), (375, (.istore 5, 2)), (377, (.aload_n 2, 1)), (378, (.invokevirtual 119, 3)), (381, (.istore 6, 2)), (383, (.aload_n 2, 1)), (384, (.invokevirtual 98, 3)), (387, (.iload 5, 2)), (389, (.if_icmp .eq 5, 3)), (392, (.iconst 0, 1)), (393, (.ireturn, 1)), (394, (.iload 5, 2)), (396, (.ifCond .ne 15, 3)), (399, (.aload_n 3, 1)), (400, (.iconst 0, 1)), (401, (.laload, 1)), (402, (.iload 6, 2)), (404, (.i2l, 1)), (405, (.lcmp, 1)), (406, (.ifCond .eq 5, 3)), (409, (.iconst 0, 1)), (410, (.ireturn, 1)), (411, (.goto 1094, 3)), (414, (.aload_n 1, 1)), (415, (.aload_n 3, 1)), (416, (.invokestatic 120, 3)), (419, (.istore 5, 2)), (421, (.aload_n 2, 1)), (422, (.invokevirtual 122, 3)), (425, (.istore 6, 2)), (427, (.aload_n 2, 1)), (428, (.invokevirtual 98, 3)), (431, (.iload 5, 2)), (433, (.if_icmp .eq 5, 3)), (436, (.iconst 0, 1)), (437, (.ireturn, 1)), (438, (.iload 5, 2)), (440, (.ifCond .ne 15, 3)), (443, (.aload_n 3, 1)), (444, (.iconst 0, 1)), (445, (.laload, 1)), (446, (.iload 6, 2)), (448, (.i2l, 1)), (449, (.lcmp, 1))]
theorem kDL_law_150 : DL_law_150.all (fun q => decide (decode cL_law q.1 = .ok q.2)) = true := by decide +kernel
theorem dL_law_362 : decode cL_law 362 = .ok (.ifCond .eq 5, 3) := dec_at kDL_law_150 0 rfl
theorem dL_law_365 : decode cL_law 365 = .ok (.iconst 0, 1) := dec_at kDL_law_150 1 rfl
theorem dL_law_366 : decode cL_law 366 = .ok (.ireturn, 1) := dec_at kDL_law_150 2 rfl
theorem dL_law_367 : decode cL_law 367 = .ok (.goto 1138, 3) := dec_at kDL_law_150 3 rfl
theorem dL_law_370 : decode cL_law 370 = .ok (.aload_n 1, 1) := dec_at kDL_law_150 4 rfl
theorem dL_law_371 : decode cL_law 371 = .ok (.aload_n 3, 1) := dec_at kDL_law_150 5 rfl
theorem dL_law_372 : decode cL_law 372 = .ok (.invokestatic 116, 3) := dec_at kDL_law_150 6 rfl
theorem dL_law_375 : decode cL_law 375 = .ok (.istore 5, 2) := dec_at kDL_law_150 7 rfl
theorem dL_law_377 : decode cL_law 377 = .ok (.aload_n 2, 1) := dec_at kDL_law_150 8 rfl
theorem dL_law_378 : decode cL_law 378 = .ok (.invokevirtual 119, 3) := dec_at kDL_law_150 9 rfl
theorem dL_law_381 : decode cL_law 381 = .ok (.istore 6, 2) := dec_at kDL_law_150 10 rfl
theorem dL_law_383 : decode cL_law 383 = .ok (.aload_n 2, 1) := dec_at kDL_law_150 11 rfl
theorem dL_law_384 : decode cL_law 384 = .ok (.invokevirtual 98, 3) := dec_at kDL_law_150 12 rfl
theorem dL_law_387 : decode cL_law 387 = .ok (.iload 5, 2) := dec_at kDL_law_150 13 rfl
theorem dL_law_389 : decode cL_law 389 = .ok (.if_icmp .eq 5, 3) := dec_at kDL_law_150 14 rfl
theorem dL_law_392 : decode cL_law 392 = .ok (.iconst 0, 1) := dec_at kDL_law_150 15 rfl
theorem dL_law_393 : decode cL_law 393 = .ok (.ireturn, 1) := dec_at kDL_law_150 16 rfl
theorem dL_law_394 : decode cL_law 394 = .ok (.iload 5, 2) := dec_at kDL_law_150 17 rfl
theorem dL_law_396 : decode cL_law 396 = .ok (.ifCond .ne 15, 3) := dec_at kDL_law_150 18 rfl
theorem dL_law_399 : decode cL_law 399 = .ok (.aload_n 3, 1) := dec_at kDL_law_150 19 rfl
theorem dL_law_400 : decode cL_law 400 = .ok (.iconst 0, 1) := dec_at kDL_law_150 20 rfl
theorem dL_law_401 : decode cL_law 401 = .ok (.laload, 1) := dec_at kDL_law_150 21 rfl
theorem dL_law_402 : decode cL_law 402 = .ok (.iload 6, 2) := dec_at kDL_law_150 22 rfl
theorem dL_law_404 : decode cL_law 404 = .ok (.i2l, 1) := dec_at kDL_law_150 23 rfl
theorem dL_law_405 : decode cL_law 405 = .ok (.lcmp, 1) := dec_at kDL_law_150 24 rfl
theorem dL_law_406 : decode cL_law 406 = .ok (.ifCond .eq 5, 3) := dec_at kDL_law_150 25 rfl
theorem dL_law_409 : decode cL_law 409 = .ok (.iconst 0, 1) := dec_at kDL_law_150 26 rfl
theorem dL_law_410 : decode cL_law 410 = .ok (.ireturn, 1) := dec_at kDL_law_150 27 rfl
theorem dL_law_411 : decode cL_law 411 = .ok (.goto 1094, 3) := dec_at kDL_law_150 28 rfl
theorem dL_law_414 : decode cL_law 414 = .ok (.aload_n 1, 1) := dec_at kDL_law_150 29 rfl
theorem dL_law_415 : decode cL_law 415 = .ok (.aload_n 3, 1) := dec_at kDL_law_150 30 rfl
theorem dL_law_416 : decode cL_law 416 = .ok (.invokestatic 120, 3) := dec_at kDL_law_150 31 rfl
theorem dL_law_419 : decode cL_law 419 = .ok (.istore 5, 2) := dec_at kDL_law_150 32 rfl
theorem dL_law_421 : decode cL_law 421 = .ok (.aload_n 2, 1) := dec_at kDL_law_150 33 rfl
theorem dL_law_422 : decode cL_law 422 = .ok (.invokevirtual 122, 3) := dec_at kDL_law_150 34 rfl
theorem dL_law_425 : decode cL_law 425 = .ok (.istore 6, 2) := dec_at kDL_law_150 35 rfl
theorem dL_law_427 : decode cL_law 427 = .ok (.aload_n 2, 1) := dec_at kDL_law_150 36 rfl
theorem dL_law_428 : decode cL_law 428 = .ok (.invokevirtual 98, 3) := dec_at kDL_law_150 37 rfl
theorem dL_law_431 : decode cL_law 431 = .ok (.iload 5, 2) := dec_at kDL_law_150 38 rfl
theorem dL_law_433 : decode cL_law 433 = .ok (.if_icmp .eq 5, 3) := dec_at kDL_law_150 39 rfl
theorem dL_law_436 : decode cL_law 436 = .ok (.iconst 0, 1) := dec_at kDL_law_150 40 rfl
theorem dL_law_437 : decode cL_law 437 = .ok (.ireturn, 1) := dec_at kDL_law_150 41 rfl
theorem dL_law_438 : decode cL_law 438 = .ok (.iload 5, 2) := dec_at kDL_law_150 42 rfl
theorem dL_law_440 : decode cL_law 440 = .ok (.ifCond .ne 15, 3) := dec_at kDL_law_150 43 rfl
theorem dL_law_443 : decode cL_law 443 = .ok (.aload_n 3, 1) := dec_at kDL_law_150 44 rfl
theorem dL_law_444 : decode cL_law 444 = .ok (.iconst 0, 1) := dec_at kDL_law_150 45 rfl
theorem dL_law_445 : decode cL_law 445 = .ok (.laload, 1) := dec_at kDL_law_150 46 rfl
theorem dL_law_446 : decode cL_law 446 = .ok (.iload 6, 2) := dec_at kDL_law_150 47 rfl
theorem dL_law_448 : decode cL_law 448 = .ok (.i2l, 1) := dec_at kDL_law_150 48 rfl
theorem dL_law_449 : decode cL_law 449 = .ok (.lcmp, 1) := dec_at kDL_law_150 49 rfl
def DL_law_200 : List (Nat × (Instr × Nat)) := [(450, (.ifCond .eq 5, 3)), (453, (.iconst 0, 1)), (454, (.ireturn, 1)), (455, (.goto 1050, 3)), (458, (.aload_n 1, 1)), (459, (.aload_n 3, 1)), (460, (.invokestatic 123, 3)), (463, (.istore 5, 2)), (465, (.aload_n 2, 1)), (466, (.invokevirtual 125, 3)), (469, (.istore 6, 2)), (471, (.aload_n 2, 1)), (472, (.invokevirtual 98, 3)), (475, (.iload 5, 2)), (477, (.if_icmp .eq 5, 3)), (480, (.iconst 0, 1)), (481, (.ireturn, 1)), (482, (.iload 5, 2)), (484, (.ifCond .ne 15, 3)), (487, (.aload_n 3, 1)), (488, (.iconst 0, 1)), (489, (.laload, 1)), (490, (.iload 6, 2)), (492, (.i2l, 1)), (493, (.lcmp, 1)), (494, (.ifCond .eq 5, 3)), (497, (.iconst 0, 1)), (498, (.ireturn, 1)), (499, (.goto 1006, 3)), (502, (.aload_n 1, 1)), (503, (.aload_n 0, 1)), (504, (.iload 4, 2)), (506, (.iconst 1, 1)), (507, (.iadd, 1)), (508, (.iaload, 1)), (509, (.aload_n 0, 1)), (510, (.iload 4, 2)), (512, (.iconst 2, 1)), (513, (.iadd, 1)), (514, (.iaload, 1)), (515, (.aload_n 3, 1)), (516, (.invokestatic 126, 3)), (519, (.istore 5, 2)), (521, (.aload_n 2, 1)), (522, (.aload_n 0, 1)), (523, (.iload 4, 2)), (525, (.iconst 1, 1)), (526, (.iadd, 1)), (527, (.iaload, 1)), (528, (.aload_n 0, 1))]
theorem kDL_law_200 : DL_law_200.all (fun q => decide (decode cL_law q.1 = .ok q.2)) = true := by decide +kernel
theorem dL_law_450 : decode cL_law 450 = .ok (.ifCond .eq 5, 3) := dec_at kDL_law_200 0 rfl
theorem dL_law_453 : decode cL_law 453 = .ok (.iconst 0, 1) := dec_at kDL_law_200 1 rfl
theorem dL_law_454 : decode cL_law 454 = .ok (.ireturn, 1) := dec_at kDL_law_200 2 rfl
theorem dL_law_455 : decode cL_law 455 = .ok (.goto 1050, 3) := dec_at kDL_law_200 3 rfl
theorem dL_law_458 : decode cL_law 458 = .ok (.aload_n 1, 1) := dec_at kDL_law_200 4 rfl
theorem dL_law_459 : decode cL_law 459 = .ok (.aload_n 3, 1) := dec_at kDL_law_200 5 rfl
theorem dL_law_460 : decode cL_law 460 = .ok (.invokestatic 123, 3) := dec_at kDL_law_200 6 rfl
theorem dL_law_463 : decode cL_law 463 = .ok (.istore 5, 2) := dec_at kDL_law_200 7 rfl
theorem dL_law_465 : decode cL_law 465 = .ok (.aload_n 2, 1) := dec_at kDL_law_200 8 rfl
theorem dL_law_466 : decode cL_law 466 = .ok (.invokevirtual 125, 3) := dec_at kDL_law_200 9 rfl
theorem dL_law_469 : decode cL_law 469 = .ok (.istore 6, 2) := dec_at kDL_law_200 10 rfl
theorem dL_law_471 : decode cL_law 471 = .ok (.aload_n 2, 1) := dec_at kDL_law_200 11 rfl
theorem dL_law_472 : decode cL_law 472 = .ok (.invokevirtual 98, 3) := dec_at kDL_law_200 12 rfl
theorem dL_law_475 : decode cL_law 475 = .ok (.iload 5, 2) := dec_at kDL_law_200 13 rfl
theorem dL_law_477 : decode cL_law 477 = .ok (.if_icmp .eq 5, 3) := dec_at kDL_law_200 14 rfl
theorem dL_law_480 : decode cL_law 480 = .ok (.iconst 0, 1) := dec_at kDL_law_200 15 rfl
theorem dL_law_481 : decode cL_law 481 = .ok (.ireturn, 1) := dec_at kDL_law_200 16 rfl
theorem dL_law_482 : decode cL_law 482 = .ok (.iload 5, 2) := dec_at kDL_law_200 17 rfl
theorem dL_law_484 : decode cL_law 484 = .ok (.ifCond .ne 15, 3) := dec_at kDL_law_200 18 rfl
theorem dL_law_487 : decode cL_law 487 = .ok (.aload_n 3, 1) := dec_at kDL_law_200 19 rfl
theorem dL_law_488 : decode cL_law 488 = .ok (.iconst 0, 1) := dec_at kDL_law_200 20 rfl
theorem dL_law_489 : decode cL_law 489 = .ok (.laload, 1) := dec_at kDL_law_200 21 rfl
theorem dL_law_490 : decode cL_law 490 = .ok (.iload 6, 2) := dec_at kDL_law_200 22 rfl
theorem dL_law_492 : decode cL_law 492 = .ok (.i2l, 1) := dec_at kDL_law_200 23 rfl
theorem dL_law_493 : decode cL_law 493 = .ok (.lcmp, 1) := dec_at kDL_law_200 24 rfl
theorem dL_law_494 : decode cL_law 494 = .ok (.ifCond .eq 5, 3) := dec_at kDL_law_200 25 rfl
theorem dL_law_497 : decode cL_law 497 = .ok (.iconst 0, 1) := dec_at kDL_law_200 26 rfl
theorem dL_law_498 : decode cL_law 498 = .ok (.ireturn, 1) := dec_at kDL_law_200 27 rfl
theorem dL_law_499 : decode cL_law 499 = .ok (.goto 1006, 3) := dec_at kDL_law_200 28 rfl
theorem dL_law_502 : decode cL_law 502 = .ok (.aload_n 1, 1) := dec_at kDL_law_200 29 rfl
theorem dL_law_503 : decode cL_law 503 = .ok (.aload_n 0, 1) := dec_at kDL_law_200 30 rfl
theorem dL_law_504 : decode cL_law 504 = .ok (.iload 4, 2) := dec_at kDL_law_200 31 rfl
theorem dL_law_506 : decode cL_law 506 = .ok (.iconst 1, 1) := dec_at kDL_law_200 32 rfl
theorem dL_law_507 : decode cL_law 507 = .ok (.iadd, 1) := dec_at kDL_law_200 33 rfl
theorem dL_law_508 : decode cL_law 508 = .ok (.iaload, 1) := dec_at kDL_law_200 34 rfl
theorem dL_law_509 : decode cL_law 509 = .ok (.aload_n 0, 1) := dec_at kDL_law_200 35 rfl
theorem dL_law_510 : decode cL_law 510 = .ok (.iload 4, 2) := dec_at kDL_law_200 36 rfl
theorem dL_law_512 : decode cL_law 512 = .ok (.iconst 2, 1) := dec_at kDL_law_200 37 rfl
theorem dL_law_513 : decode cL_law 513 = .ok (.iadd, 1) := dec_at kDL_law_200 38 rfl
theorem dL_law_514 : decode cL_law 514 = .ok (.iaload, 1) := dec_at kDL_law_200 39 rfl
theorem dL_law_515 : decode cL_law 515 = .ok (.aload_n 3, 1) := dec_at kDL_law_200 40 rfl
theorem dL_law_516 : decode cL_law 516 = .ok (.invokestatic 126, 3) := dec_at kDL_law_200 41 rfl
theorem dL_law_519 : decode cL_law 519 = .ok (.istore 5, 2) := dec_at kDL_law_200 42 rfl
theorem dL_law_521 : decode cL_law 521 = .ok (.aload_n 2, 1) := dec_at kDL_law_200 43 rfl
theorem dL_law_522 : decode cL_law 522 = .ok (.aload_n 0, 1) := dec_at kDL_law_200 44 rfl
theorem dL_law_523 : decode cL_law 523 = .ok (.iload 4, 2) := dec_at kDL_law_200 45 rfl
theorem dL_law_525 : decode cL_law 525 = .ok (.iconst 1, 1) := dec_at kDL_law_200 46 rfl
theorem dL_law_526 : decode cL_law 526 = .ok (.iadd, 1) := dec_at kDL_law_200 47 rfl
theorem dL_law_527 : decode cL_law 527 = .ok (.iaload, 1) := dec_at kDL_law_200 48 rfl
theorem dL_law_528 : decode cL_law 528 = .ok (.aload_n 0, 1) := dec_at kDL_law_200 49 rfl
def DL_law_250 : List (Nat × (Instr × Nat)) := [(529, (.iload 4, 2)), (531, (.iconst 2, 1)), (532, (.iadd, 1)), (533, (.iaload, 1)), (534, (.invokevirtual 128, 3)), (537, (.istore 6, 2)), (539, (.aload_n 2, 1)), (540, (.invokevirtual 98, 3)), (543, (.iload 5, 2)), (545, (.if_icmp .eq 5, 3)), (548, (.iconst 0, 1)), (549, (.ireturn, 1)), (550, (.iload 5, 2)), (552, (.ifCond .ne 15, 3)), (555, (.aload_n 3, 1)), (556, (.iconst 0, 1)), (557, (.laload, 1)), (558, (.iload 6, 2)), (560, (.i2l, 1)), (561, (.lcmp, 1)), (562, (.ifCond .eq 5, 3)), (565, (.iconst 0, 1)), (566, (.ireturn, 1)), (567, (.goto 938, 3)), (570, (.aload_n 1, 1)), (571, (.aload_n 0, 1)), (572, (.iload 4, 2)), (574, (.iconst 1, 1)), (575, (.iadd, 1)), (576, (.iaload, 1)), (577, (.aload_n 0, 1)), (578, (.iload 4, 2)), (580, (.iconst 2, 1)), (581, (.iadd, 1)), (582, (.iaload, 1)), (583, (.aload_n 3, 1)), (584, (.invokestatic 129, 3)), (587, (.istore 5, 2)), (589, (.aload_n 2, 1)), (590, (.aload_n 0, 1)), (591, (.iload 4, 2)), (593, (.iconst 1, 1)), (594, (.iadd, 1)), (595, (.iaload, 1)), (596, (.aload_n 0, 1)), (597, (.iload 4, 2)), (599, (.iconst 2, 1)), (600, (.iadd, 1)), (601, (.iaload, 1)), (602, (.invokevirtual 131, 3))]
theorem kDL_law_250 : DL_law_250.all (fun q => decide (decode cL_law q.1 = .ok q.2)) = true := by decide +kernel
theorem dL_law_529 : decode cL_law 529 = .ok (.iload 4, 2) := dec_at kDL_law_250 0 rfl
theorem dL_law_531 : decode cL_law 531 = .ok (.iconst 2, 1) := dec_at kDL_law_250 1 rfl
theorem dL_law_532 : decode cL_law 532 = .ok (.iadd, 1) := dec_at kDL_law_250 2 rfl
theorem dL_law_533 : decode cL_law 533 = .ok (.iaload, 1) := dec_at kDL_law_250 3 rfl
theorem dL_law_534 : decode cL_law 534 = .ok (.invokevirtual 128, 3) := dec_at kDL_law_250 4 rfl
theorem dL_law_537 : decode cL_law 537 = .ok (.istore 6, 2) := dec_at kDL_law_250 5 rfl
theorem dL_law_539 : decode cL_law 539 = .ok (.aload_n 2, 1) := dec_at kDL_law_250 6 rfl
theorem dL_law_540 : decode cL_law 540 = .ok (.invokevirtual 98, 3) := dec_at kDL_law_250 7 rfl
theorem dL_law_543 : decode cL_law 543 = .ok (.iload 5, 2) := dec_at kDL_law_250 8 rfl
theorem dL_law_545 : decode cL_law 545 = .ok (.if_icmp .eq 5, 3) := dec_at kDL_law_250 9 rfl
theorem dL_law_548 : decode cL_law 548 = .ok (.iconst 0, 1) := dec_at kDL_law_250 10 rfl
theorem dL_law_549 : decode cL_law 549 = .ok (.ireturn, 1) := dec_at kDL_law_250 11 rfl
theorem dL_law_550 : decode cL_law 550 = .ok (.iload 5, 2) := dec_at kDL_law_250 12 rfl
theorem dL_law_552 : decode cL_law 552 = .ok (.ifCond .ne 15, 3) := dec_at kDL_law_250 13 rfl
theorem dL_law_555 : decode cL_law 555 = .ok (.aload_n 3, 1) := dec_at kDL_law_250 14 rfl
theorem dL_law_556 : decode cL_law 556 = .ok (.iconst 0, 1) := dec_at kDL_law_250 15 rfl
theorem dL_law_557 : decode cL_law 557 = .ok (.laload, 1) := dec_at kDL_law_250 16 rfl
theorem dL_law_558 : decode cL_law 558 = .ok (.iload 6, 2) := dec_at kDL_law_250 17 rfl
theorem dL_law_560 : decode cL_law 560 = .ok (.i2l, 1) := dec_at kDL_law_250 18 rfl
theorem dL_law_561 : decode cL_law 561 = .ok (.lcmp, 1) := dec_at kDL_law_250 19 rfl
theorem dL_law_562 : decode cL_law 562 = .ok (.ifCond .eq 5, 3) := dec_at kDL_law_250 20 rfl
theorem dL_law_565 : decode cL_law 565 = .ok (.iconst 0, 1) := dec_at kDL_law_250 21 rfl
theorem dL_law_566 : decode cL_law 566 = .ok (.ireturn, 1) := dec_at kDL_law_250 22 rfl
theorem dL_law_567 : decode cL_law 567 = .ok (.goto 938, 3) := dec_at kDL_law_250 23 rfl
theorem dL_law_570 : decode cL_law 570 = .ok (.aload_n 1, 1) := dec_at kDL_law_250 24 rfl
theorem dL_law_571 : decode cL_law 571 = .ok (.aload_n 0, 1) := dec_at kDL_law_250 25 rfl
theorem dL_law_572 : decode cL_law 572 = .ok (.iload 4, 2) := dec_at kDL_law_250 26 rfl
theorem dL_law_574 : decode cL_law 574 = .ok (.iconst 1, 1) := dec_at kDL_law_250 27 rfl
theorem dL_law_575 : decode cL_law 575 = .ok (.iadd, 1) := dec_at kDL_law_250 28 rfl
theorem dL_law_576 : decode cL_law 576 = .ok (.iaload, 1) := dec_at kDL_law_250 29 rfl
theorem dL_law_577 : decode cL_law 577 = .ok (.aload_n 0, 1) := dec_at kDL_law_250 30 rfl
theorem dL_law_578 : decode cL_law 578 = .ok (.iload 4, 2) := dec_at kDL_law_250 31 rfl
theorem dL_law_580 : decode cL_law 580 = .ok (.iconst 2, 1) := dec_at kDL_law_250 32 rfl
theorem dL_law_581 : decode cL_law 581 = .ok (.iadd, 1) := dec_at kDL_law_250 33 rfl
theorem dL_law_582 : decode cL_law 582 = .ok (.iaload, 1) := dec_at kDL_law_250 34 rfl
theorem dL_law_583 : decode cL_law 583 = .ok (.aload_n 3, 1) := dec_at kDL_law_250 35 rfl
theorem dL_law_584 : decode cL_law 584 = .ok (.invokestatic 129, 3) := dec_at kDL_law_250 36 rfl
theorem dL_law_587 : decode cL_law 587 = .ok (.istore 5, 2) := dec_at kDL_law_250 37 rfl
theorem dL_law_589 : decode cL_law 589 = .ok (.aload_n 2, 1) := dec_at kDL_law_250 38 rfl
theorem dL_law_590 : decode cL_law 590 = .ok (.aload_n 0, 1) := dec_at kDL_law_250 39 rfl
theorem dL_law_591 : decode cL_law 591 = .ok (.iload 4, 2) := dec_at kDL_law_250 40 rfl
theorem dL_law_593 : decode cL_law 593 = .ok (.iconst 1, 1) := dec_at kDL_law_250 41 rfl
theorem dL_law_594 : decode cL_law 594 = .ok (.iadd, 1) := dec_at kDL_law_250 42 rfl
theorem dL_law_595 : decode cL_law 595 = .ok (.iaload, 1) := dec_at kDL_law_250 43 rfl
theorem dL_law_596 : decode cL_law 596 = .ok (.aload_n 0, 1) := dec_at kDL_law_250 44 rfl
theorem dL_law_597 : decode cL_law 597 = .ok (.iload 4, 2) := dec_at kDL_law_250 45 rfl
theorem dL_law_599 : decode cL_law 599 = .ok (.iconst 2, 1) := dec_at kDL_law_250 46 rfl
theorem dL_law_600 : decode cL_law 600 = .ok (.iadd, 1) := dec_at kDL_law_250 47 rfl
theorem dL_law_601 : decode cL_law 601 = .ok (.iaload, 1) := dec_at kDL_law_250 48 rfl
theorem dL_law_602 : decode cL_law 602 = .ok (.invokevirtual 131, 3) := dec_at kDL_law_250 49 rfl
def DL_law_300 : List (Nat × (Instr × Nat)) := [(605, (.istore 6, 2)), (607, (.aload_n 2, 1)), (608, (.invokevirtual 98, 3)), (611, (.iload 5, 2)), (613, (.if_icmp .eq 5, 3)), (616, (.iconst 0, 1)), (617, (.ireturn, 1)), (618, (.iload 5, 2)), (620, (.ifCond .ne 15, 3)), (623, (.aload_n 3, 1)), (624, (.iconst 0, 1)), (625, (.laload, 1)), (626, (.iload 6, 2)), (628, (.i2l, 1)), (629, (.lcmp, 1)), (630, (.ifCond .eq 5, 3)), (633, (.iconst 0, 1)), (634, (.ireturn, 1)), (635, (.goto 870, 3)), (638, (.aload_n 1, 1)), (639, (.aload_n 0, 1)), (640, (.iload 4, 2)), (642, (.iconst 1, 1)), (643, (.iadd, 1)), (644, (.iaload, 1)), (645, (.aload_n 3, 1)), (646, (.invokestatic 132, 3)), (649, (.istore 5, 2)), (651, (.aload_n 2, 1)), (652, (.aload_n 0, 1)), (653, (.iload 4, 2)), (655, (.iconst 1, 1)), (656, (.iadd, 1)), (657, (.iaload, 1)), (658, (.invokevirtual 134, 3)), (661, (.istore 6, 2)), (663, (.aload_n 2, 1)), (664, (.invokevirtual 98, 3)), (667, (.iload 5, 2)), (669, (.if_icmp .eq 5, 3)), (672, (.iconst 0, 1)), (673, (.ireturn, 1)), (674, (.iload 5, 2)), (676, (.ifCond .ne 15, 3)), (679, (.aload_n 3, 1)), (680, (.iconst 0, 1)), (681, (.laload, 1)), (682, (.iload 6, 2)), (684, (.i2l, 1)), (685, (.lcmp, 1))]
theorem kDL_law_300 : DL_law_300.all (fun q => decide (decode cL_law q.1 = .ok q.2)) = true := by decide +kernel
theorem dL_law_605 : decode cL_law 605 = .ok (.istore 6, 2) := dec_at kDL_law_300 0 rfl
theorem dL_law_607 : decode cL_law 607 = .ok (.aload_n 2, 1) := dec_at kDL_law_300 1 rfl
theorem dL_law_608 : decode cL_law 608 = .ok (.invokevirtual 98, 3) := dec_at kDL_law_300 2 rfl
theorem dL_law_611 : decode cL_law 611 = .ok (.iload 5, 2) := dec_at kDL_law_300 3 rfl
theorem dL_law_613 : decode cL_law 613 = .ok (.if_icmp .eq 5, 3) := dec_at kDL_law_300 4 rfl
theorem dL_law_616 : decode cL_law 616 = .ok (.iconst 0, 1) := dec_at kDL_law_300 5 rfl
theorem dL_law_617 : decode cL_law 617 = .ok (.ireturn, 1) := dec_at kDL_law_300 6 rfl
theorem dL_law_618 : decode cL_law 618 = .ok (.iload 5, 2) := dec_at kDL_law_300 7 rfl
theorem dL_law_620 : decode cL_law 620 = .ok (.ifCond .ne 15, 3) := dec_at kDL_law_300 8 rfl
theorem dL_law_623 : decode cL_law 623 = .ok (.aload_n 3, 1) := dec_at kDL_law_300 9 rfl
theorem dL_law_624 : decode cL_law 624 = .ok (.iconst 0, 1) := dec_at kDL_law_300 10 rfl
theorem dL_law_625 : decode cL_law 625 = .ok (.laload, 1) := dec_at kDL_law_300 11 rfl
theorem dL_law_626 : decode cL_law 626 = .ok (.iload 6, 2) := dec_at kDL_law_300 12 rfl
theorem dL_law_628 : decode cL_law 628 = .ok (.i2l, 1) := dec_at kDL_law_300 13 rfl
theorem dL_law_629 : decode cL_law 629 = .ok (.lcmp, 1) := dec_at kDL_law_300 14 rfl
theorem dL_law_630 : decode cL_law 630 = .ok (.ifCond .eq 5, 3) := dec_at kDL_law_300 15 rfl
theorem dL_law_633 : decode cL_law 633 = .ok (.iconst 0, 1) := dec_at kDL_law_300 16 rfl
theorem dL_law_634 : decode cL_law 634 = .ok (.ireturn, 1) := dec_at kDL_law_300 17 rfl
theorem dL_law_635 : decode cL_law 635 = .ok (.goto 870, 3) := dec_at kDL_law_300 18 rfl
theorem dL_law_638 : decode cL_law 638 = .ok (.aload_n 1, 1) := dec_at kDL_law_300 19 rfl
theorem dL_law_639 : decode cL_law 639 = .ok (.aload_n 0, 1) := dec_at kDL_law_300 20 rfl
theorem dL_law_640 : decode cL_law 640 = .ok (.iload 4, 2) := dec_at kDL_law_300 21 rfl
theorem dL_law_642 : decode cL_law 642 = .ok (.iconst 1, 1) := dec_at kDL_law_300 22 rfl
theorem dL_law_643 : decode cL_law 643 = .ok (.iadd, 1) := dec_at kDL_law_300 23 rfl
theorem dL_law_644 : decode cL_law 644 = .ok (.iaload, 1) := dec_at kDL_law_300 24 rfl
theorem dL_law_645 : decode cL_law 645 = .ok (.aload_n 3, 1) := dec_at kDL_law_300 25 rfl
theorem dL_law_646 : decode cL_law 646 = .ok (.invokestatic 132, 3) := dec_at kDL_law_300 26 rfl
theorem dL_law_649 : decode cL_law 649 = .ok (.istore 5, 2) := dec_at kDL_law_300 27 rfl
theorem dL_law_651 : decode cL_law 651 = .ok (.aload_n 2, 1) := dec_at kDL_law_300 28 rfl
theorem dL_law_652 : decode cL_law 652 = .ok (.aload_n 0, 1) := dec_at kDL_law_300 29 rfl
theorem dL_law_653 : decode cL_law 653 = .ok (.iload 4, 2) := dec_at kDL_law_300 30 rfl
theorem dL_law_655 : decode cL_law 655 = .ok (.iconst 1, 1) := dec_at kDL_law_300 31 rfl
theorem dL_law_656 : decode cL_law 656 = .ok (.iadd, 1) := dec_at kDL_law_300 32 rfl
theorem dL_law_657 : decode cL_law 657 = .ok (.iaload, 1) := dec_at kDL_law_300 33 rfl
theorem dL_law_658 : decode cL_law 658 = .ok (.invokevirtual 134, 3) := dec_at kDL_law_300 34 rfl
theorem dL_law_661 : decode cL_law 661 = .ok (.istore 6, 2) := dec_at kDL_law_300 35 rfl
theorem dL_law_663 : decode cL_law 663 = .ok (.aload_n 2, 1) := dec_at kDL_law_300 36 rfl
theorem dL_law_664 : decode cL_law 664 = .ok (.invokevirtual 98, 3) := dec_at kDL_law_300 37 rfl
theorem dL_law_667 : decode cL_law 667 = .ok (.iload 5, 2) := dec_at kDL_law_300 38 rfl
theorem dL_law_669 : decode cL_law 669 = .ok (.if_icmp .eq 5, 3) := dec_at kDL_law_300 39 rfl
theorem dL_law_672 : decode cL_law 672 = .ok (.iconst 0, 1) := dec_at kDL_law_300 40 rfl
theorem dL_law_673 : decode cL_law 673 = .ok (.ireturn, 1) := dec_at kDL_law_300 41 rfl
theorem dL_law_674 : decode cL_law 674 = .ok (.iload 5, 2) := dec_at kDL_law_300 42 rfl
theorem dL_law_676 : decode cL_law 676 = .ok (.ifCond .ne 15, 3) := dec_at kDL_law_300 43 rfl
theorem dL_law_679 : decode cL_law 679 = .ok (.aload_n 3, 1) := dec_at kDL_law_300 44 rfl
theorem dL_law_680 : decode cL_law 680 = .ok (.iconst 0, 1) := dec_at kDL_law_300 45 rfl
theorem dL_law_681 : decode cL_law 681 = .ok (.laload, 1) := dec_at kDL_law_300 46 rfl
theorem dL_law_682 : decode cL_law 682 = .ok (.iload 6, 2) := dec_at kDL_law_300 47 rfl
theorem dL_law_684 : decode cL_law 684 = .ok (.i2l, 1) := dec_at kDL_law_300 48 rfl
theorem dL_law_685 : decode cL_law 685 = .ok (.lcmp, 1) := dec_at kDL_law_300 49 rfl
def DL_law_350 : List (Nat × (Instr × Nat)) := [(686, (.ifCond .eq 5, 3)), (689, (.iconst 0, 1)), (690, (.ireturn, 1)), (691, (.goto 814, 3)), (694, (.aload_n 1, 1)), (695, (.aload_n 0, 1)), (696, (.iload 4, 2)), (698, (.iconst 1, 1)), (699, (.iadd, 1)), (700, (.iaload, 1)), (701, (.aload_n 0, 1)), (702, (.iload 4, 2)), (704, (.iconst 2, 1)), (705, (.iadd, 1)), (706, (.iaload, 1)), (707, (.aload_n 3, 1)), (708, (.invokestatic 135, 3)), (711, (.istore 5, 2)), (713, (.aload_n 2, 1)), (714, (.aload_n 0, 1)), (715, (.iload 4, 2)), (717, (.iconst 1, 1)), (718, (.iadd, 1)), (719, (.iaload, 1)), (720, (.aload_n 0, 1)), (721, (.iload 4, 2)), (723, (.iconst 2, 1)), (724, (.iadd, 1)), (725, (.iaload, 1)), (726, (.invokevirtual 137, 3)), (729, (.istore 6, 2)), (731, (.aload_n 2, 1)), (732, (.invokevirtual 98, 3)), (735, (.iload 5, 2)), (737, (.if_icmp .eq 5, 3)), (740, (.iconst 0, 1)), (741, (.ireturn, 1)), (742, (.iload 5, 2)), (744, (.ifCond .ne 15, 3)), (747, (.aload_n 3, 1)), (748, (.iconst 0, 1)), (749, (.laload, 1)), (750, (.iload 6, 2)), (752, (.i2l, 1)), (753, (.lcmp, 1)), (754, (.ifCond .eq 5, 3)), (757, (.iconst 0, 1)), (758, (.ireturn, 1)), (759, (.goto 746, 3)), (762, (.aload_n 1, 1))]
theorem kDL_law_350 : DL_law_350.all (fun q => decide (decode cL_law q.1 = .ok q.2)) = true := by decide +kernel
theorem dL_law_686 : decode cL_law 686 = .ok (.ifCond .eq 5, 3) := dec_at kDL_law_350 0 rfl
theorem dL_law_689 : decode cL_law 689 = .ok (.iconst 0, 1) := dec_at kDL_law_350 1 rfl
theorem dL_law_690 : decode cL_law 690 = .ok (.ireturn, 1) := dec_at kDL_law_350 2 rfl
theorem dL_law_691 : decode cL_law 691 = .ok (.goto 814, 3) := dec_at kDL_law_350 3 rfl
theorem dL_law_694 : decode cL_law 694 = .ok (.aload_n 1, 1) := dec_at kDL_law_350 4 rfl
theorem dL_law_695 : decode cL_law 695 = .ok (.aload_n 0, 1) := dec_at kDL_law_350 5 rfl
theorem dL_law_696 : decode cL_law 696 = .ok (.iload 4, 2) := dec_at kDL_law_350 6 rfl
theorem dL_law_698 : decode cL_law 698 = .ok (.iconst 1, 1) := dec_at kDL_law_350 7 rfl
theorem dL_law_699 : decode cL_law 699 = .ok (.iadd, 1) := dec_at kDL_law_350 8 rfl
theorem dL_law_700 : decode cL_law 700 = .ok (.iaload, 1) := dec_at kDL_law_350 9 rfl
theorem dL_law_701 : decode cL_law 701 = .ok (.aload_n 0, 1) := dec_at kDL_law_350 10 rfl
theorem dL_law_702 : decode cL_law 702 = .ok (.iload 4, 2) := dec_at kDL_law_350 11 rfl
theorem dL_law_704 : decode cL_law 704 = .ok (.iconst 2, 1) := dec_at kDL_law_350 12 rfl
theorem dL_law_705 : decode cL_law 705 = .ok (.iadd, 1) := dec_at kDL_law_350 13 rfl
theorem dL_law_706 : decode cL_law 706 = .ok (.iaload, 1) := dec_at kDL_law_350 14 rfl
theorem dL_law_707 : decode cL_law 707 = .ok (.aload_n 3, 1) := dec_at kDL_law_350 15 rfl
theorem dL_law_708 : decode cL_law 708 = .ok (.invokestatic 135, 3) := dec_at kDL_law_350 16 rfl
theorem dL_law_711 : decode cL_law 711 = .ok (.istore 5, 2) := dec_at kDL_law_350 17 rfl
theorem dL_law_713 : decode cL_law 713 = .ok (.aload_n 2, 1) := dec_at kDL_law_350 18 rfl
theorem dL_law_714 : decode cL_law 714 = .ok (.aload_n 0, 1) := dec_at kDL_law_350 19 rfl
theorem dL_law_715 : decode cL_law 715 = .ok (.iload 4, 2) := dec_at kDL_law_350 20 rfl
theorem dL_law_717 : decode cL_law 717 = .ok (.iconst 1, 1) := dec_at kDL_law_350 21 rfl
theorem dL_law_718 : decode cL_law 718 = .ok (.iadd, 1) := dec_at kDL_law_350 22 rfl
theorem dL_law_719 : decode cL_law 719 = .ok (.iaload, 1) := dec_at kDL_law_350 23 rfl
theorem dL_law_720 : decode cL_law 720 = .ok (.aload_n 0, 1) := dec_at kDL_law_350 24 rfl
theorem dL_law_721 : decode cL_law 721 = .ok (.iload 4, 2) := dec_at kDL_law_350 25 rfl
theorem dL_law_723 : decode cL_law 723 = .ok (.iconst 2, 1) := dec_at kDL_law_350 26 rfl
theorem dL_law_724 : decode cL_law 724 = .ok (.iadd, 1) := dec_at kDL_law_350 27 rfl
theorem dL_law_725 : decode cL_law 725 = .ok (.iaload, 1) := dec_at kDL_law_350 28 rfl
theorem dL_law_726 : decode cL_law 726 = .ok (.invokevirtual 137, 3) := dec_at kDL_law_350 29 rfl
theorem dL_law_729 : decode cL_law 729 = .ok (.istore 6, 2) := dec_at kDL_law_350 30 rfl
theorem dL_law_731 : decode cL_law 731 = .ok (.aload_n 2, 1) := dec_at kDL_law_350 31 rfl
theorem dL_law_732 : decode cL_law 732 = .ok (.invokevirtual 98, 3) := dec_at kDL_law_350 32 rfl
theorem dL_law_735 : decode cL_law 735 = .ok (.iload 5, 2) := dec_at kDL_law_350 33 rfl
theorem dL_law_737 : decode cL_law 737 = .ok (.if_icmp .eq 5, 3) := dec_at kDL_law_350 34 rfl
theorem dL_law_740 : decode cL_law 740 = .ok (.iconst 0, 1) := dec_at kDL_law_350 35 rfl
theorem dL_law_741 : decode cL_law 741 = .ok (.ireturn, 1) := dec_at kDL_law_350 36 rfl
theorem dL_law_742 : decode cL_law 742 = .ok (.iload 5, 2) := dec_at kDL_law_350 37 rfl
theorem dL_law_744 : decode cL_law 744 = .ok (.ifCond .ne 15, 3) := dec_at kDL_law_350 38 rfl
theorem dL_law_747 : decode cL_law 747 = .ok (.aload_n 3, 1) := dec_at kDL_law_350 39 rfl
theorem dL_law_748 : decode cL_law 748 = .ok (.iconst 0, 1) := dec_at kDL_law_350 40 rfl
theorem dL_law_749 : decode cL_law 749 = .ok (.laload, 1) := dec_at kDL_law_350 41 rfl
theorem dL_law_750 : decode cL_law 750 = .ok (.iload 6, 2) := dec_at kDL_law_350 42 rfl
theorem dL_law_752 : decode cL_law 752 = .ok (.i2l, 1) := dec_at kDL_law_350 43 rfl
theorem dL_law_753 : decode cL_law 753 = .ok (.lcmp, 1) := dec_at kDL_law_350 44 rfl
theorem dL_law_754 : decode cL_law 754 = .ok (.ifCond .eq 5, 3) := dec_at kDL_law_350 45 rfl
theorem dL_law_757 : decode cL_law 757 = .ok (.iconst 0, 1) := dec_at kDL_law_350 46 rfl
theorem dL_law_758 : decode cL_law 758 = .ok (.ireturn, 1) := dec_at kDL_law_350 47 rfl
theorem dL_law_759 : decode cL_law 759 = .ok (.goto 746, 3) := dec_at kDL_law_350 48 rfl
theorem dL_law_762 : decode cL_law 762 = .ok (.aload_n 1, 1) := dec_at kDL_law_350 49 rfl
def DL_law_400 : List (Nat × (Instr × Nat)) := [(763, (.aload_n 3, 1)), (764, (.invokestatic 138, 3)), (767, (.istore 5, 2)), (769, (.aload_n 2, 1)), (770, (.invokevirtual 140, 3)), (773, (.lstore 6, 2)), (775, (.aload_n 2, 1)), (776, (.invokevirtual 98, 3)), (779, (.iload 5, 2)), (781, (.if_icmp .eq 5, 3)), (784, (.iconst 0, 1)), (785, (.ireturn, 1)), (786, (.iload 5, 2)), (788, (.ifCond .ne 14, 3)), (791, (.aload_n 3, 1)), (792, (.iconst 0, 1)), (793, (.laload, 1)), (794, (.lload 6, 2)), (796, (.lcmp, 1)), (797, (.ifCond .eq 5, 3)), (800, (.iconst 0, 1)), (801, (.ireturn, 1)), (802, (.goto 703, 3)), (805, (.aload_n 1, 1)), (806, (.aload_n 3, 1)), (807, (.invokestatic 141, 3)), (810, (.istore 5, 2)), (812, (.aload_n 2, 1)), (813, (.invokevirtual 143, 3)), (816, (.istore 6, 2)), (818, (.aload_n 2, 1)), (819, (.invokevirtual 98, 3)), (822, (.iload 5, 2)), (824, (.if_icmp .eq 5, 3)), (827, (.iconst 0, 1)), (828, (.ireturn, 1)), (829, (.iload 5, 2)), (831, (.ifCond .ne 15, 3)), (834, (.aload_n 3, 1)), (835, (.iconst 0, 1)), (836, (.laload, 1)), (837, (.iload 6, 2)), (839, (.i2l, 1)), (840, (.lcmp, 1)), (841, (.ifCond .eq 5, 3)), (844, (.iconst 0, 1)), (845, (.ireturn, 1)), (846, (.goto 659, 3)), (849, (.aload_n 1, 1)), (850, (.aload_n 0, 1))]
theorem kDL_law_400 : DL_law_400.all (fun q => decide (decode cL_law q.1 = .ok q.2)) = true := by decide +kernel
theorem dL_law_763 : decode cL_law 763 = .ok (.aload_n 3, 1) := dec_at kDL_law_400 0 rfl
theorem dL_law_764 : decode cL_law 764 = .ok (.invokestatic 138, 3) := dec_at kDL_law_400 1 rfl
theorem dL_law_767 : decode cL_law 767 = .ok (.istore 5, 2) := dec_at kDL_law_400 2 rfl
theorem dL_law_769 : decode cL_law 769 = .ok (.aload_n 2, 1) := dec_at kDL_law_400 3 rfl
theorem dL_law_770 : decode cL_law 770 = .ok (.invokevirtual 140, 3) := dec_at kDL_law_400 4 rfl
theorem dL_law_773 : decode cL_law 773 = .ok (.lstore 6, 2) := dec_at kDL_law_400 5 rfl
theorem dL_law_775 : decode cL_law 775 = .ok (.aload_n 2, 1) := dec_at kDL_law_400 6 rfl
theorem dL_law_776 : decode cL_law 776 = .ok (.invokevirtual 98, 3) := dec_at kDL_law_400 7 rfl
theorem dL_law_779 : decode cL_law 779 = .ok (.iload 5, 2) := dec_at kDL_law_400 8 rfl
theorem dL_law_781 : decode cL_law 781 = .ok (.if_icmp .eq 5, 3) := dec_at kDL_law_400 9 rfl
theorem dL_law_784 : decode cL_law 784 = .ok (.iconst 0, 1) := dec_at kDL_law_400 10 rfl
theorem dL_law_785 : decode cL_law 785 = .ok (.ireturn, 1) := dec_at kDL_law_400 11 rfl
theorem dL_law_786 : decode cL_law 786 = .ok (.iload 5, 2) := dec_at kDL_law_400 12 rfl
theorem dL_law_788 : decode cL_law 788 = .ok (.ifCond .ne 14, 3) := dec_at kDL_law_400 13 rfl
theorem dL_law_791 : decode cL_law 791 = .ok (.aload_n 3, 1) := dec_at kDL_law_400 14 rfl
theorem dL_law_792 : decode cL_law 792 = .ok (.iconst 0, 1) := dec_at kDL_law_400 15 rfl
theorem dL_law_793 : decode cL_law 793 = .ok (.laload, 1) := dec_at kDL_law_400 16 rfl
theorem dL_law_794 : decode cL_law 794 = .ok (.lload 6, 2) := dec_at kDL_law_400 17 rfl
theorem dL_law_796 : decode cL_law 796 = .ok (.lcmp, 1) := dec_at kDL_law_400 18 rfl
theorem dL_law_797 : decode cL_law 797 = .ok (.ifCond .eq 5, 3) := dec_at kDL_law_400 19 rfl
theorem dL_law_800 : decode cL_law 800 = .ok (.iconst 0, 1) := dec_at kDL_law_400 20 rfl
theorem dL_law_801 : decode cL_law 801 = .ok (.ireturn, 1) := dec_at kDL_law_400 21 rfl
theorem dL_law_802 : decode cL_law 802 = .ok (.goto 703, 3) := dec_at kDL_law_400 22 rfl
theorem dL_law_805 : decode cL_law 805 = .ok (.aload_n 1, 1) := dec_at kDL_law_400 23 rfl
theorem dL_law_806 : decode cL_law 806 = .ok (.aload_n 3, 1) := dec_at kDL_law_400 24 rfl
theorem dL_law_807 : decode cL_law 807 = .ok (.invokestatic 141, 3) := dec_at kDL_law_400 25 rfl
theorem dL_law_810 : decode cL_law 810 = .ok (.istore 5, 2) := dec_at kDL_law_400 26 rfl
theorem dL_law_812 : decode cL_law 812 = .ok (.aload_n 2, 1) := dec_at kDL_law_400 27 rfl
theorem dL_law_813 : decode cL_law 813 = .ok (.invokevirtual 143, 3) := dec_at kDL_law_400 28 rfl
theorem dL_law_816 : decode cL_law 816 = .ok (.istore 6, 2) := dec_at kDL_law_400 29 rfl
theorem dL_law_818 : decode cL_law 818 = .ok (.aload_n 2, 1) := dec_at kDL_law_400 30 rfl
theorem dL_law_819 : decode cL_law 819 = .ok (.invokevirtual 98, 3) := dec_at kDL_law_400 31 rfl
theorem dL_law_822 : decode cL_law 822 = .ok (.iload 5, 2) := dec_at kDL_law_400 32 rfl
theorem dL_law_824 : decode cL_law 824 = .ok (.if_icmp .eq 5, 3) := dec_at kDL_law_400 33 rfl
theorem dL_law_827 : decode cL_law 827 = .ok (.iconst 0, 1) := dec_at kDL_law_400 34 rfl
theorem dL_law_828 : decode cL_law 828 = .ok (.ireturn, 1) := dec_at kDL_law_400 35 rfl
theorem dL_law_829 : decode cL_law 829 = .ok (.iload 5, 2) := dec_at kDL_law_400 36 rfl
theorem dL_law_831 : decode cL_law 831 = .ok (.ifCond .ne 15, 3) := dec_at kDL_law_400 37 rfl
theorem dL_law_834 : decode cL_law 834 = .ok (.aload_n 3, 1) := dec_at kDL_law_400 38 rfl
theorem dL_law_835 : decode cL_law 835 = .ok (.iconst 0, 1) := dec_at kDL_law_400 39 rfl
theorem dL_law_836 : decode cL_law 836 = .ok (.laload, 1) := dec_at kDL_law_400 40 rfl
theorem dL_law_837 : decode cL_law 837 = .ok (.iload 6, 2) := dec_at kDL_law_400 41 rfl
theorem dL_law_839 : decode cL_law 839 = .ok (.i2l, 1) := dec_at kDL_law_400 42 rfl
theorem dL_law_840 : decode cL_law 840 = .ok (.lcmp, 1) := dec_at kDL_law_400 43 rfl
theorem dL_law_841 : decode cL_law 841 = .ok (.ifCond .eq 5, 3) := dec_at kDL_law_400 44 rfl
theorem dL_law_844 : decode cL_law 844 = .ok (.iconst 0, 1) := dec_at kDL_law_400 45 rfl
theorem dL_law_845 : decode cL_law 845 = .ok (.ireturn, 1) := dec_at kDL_law_400 46 rfl
theorem dL_law_846 : decode cL_law 846 = .ok (.goto 659, 3) := dec_at kDL_law_400 47 rfl
theorem dL_law_849 : decode cL_law 849 = .ok (.aload_n 1, 1) := dec_at kDL_law_400 48 rfl
theorem dL_law_850 : decode cL_law 850 = .ok (.aload_n 0, 1) := dec_at kDL_law_400 49 rfl
def DL_law_450 : List (Nat × (Instr × Nat)) := [(851, (.iload 4, 2)), (853, (.iconst 1, 1)), (854, (.iadd, 1)), (855, (.iaload, 1)), (856, (.aload_n 3, 1)), (857, (.invokestatic 144, 3)), (860, (.istore 5, 2)), (862, (.aload_n 2, 1)), (863, (.aload_n 0, 1)), (864, (.iload 4, 2)), (866, (.iconst 1, 1)), (867, (.iadd, 1)), (868, (.iaload, 1)), (869, (.invokevirtual 146, 3)), (872, (.istore 6, 2)), (874, (.aload_n 2, 1)), (875, (.invokevirtual 98, 3)), (878, (.iload 5, 2)), (880, (.if_icmp .eq 5, 3)), (883, (.iconst 0, 1)), (884, (.ireturn, 1)), (885, (.iload 5, 2)), (887, (.ifCond .ne 15, 3)), (890, (.aload_n 3, 1)), (891, (.iconst 0, 1)), (892, (.laload, 1)), (893, (.iload 6, 2)), (895, (.i2l, 1)), (896, (.lcmp, 1)), (897, (.ifCond .eq 5, 3)), (900, (.iconst 0, 1)), (901, (.ireturn, 1)), (902, (.goto 603, 3)), (905, (.aload_n 1, 1)), (906, (.aload_n 0, 1)), (907, (.iload 4, 2)), (909, (.iconst 1, 1)), (910, (.iadd, 1)), (911, (.iaload, 1)), (912, (.aload_n 3, 1)), (913, (.invokestatic 147, 3)), (916, (.istore 5, 2)), (918, (.aload_n 2, 1)), (919, (.aload_n 0, 1)), (920, (.iload 4, 2)), (922, (.iconst 1, 1)), (923, (.iadd, 1)), (924, (.iaload, 1)), (925, (.invokevirtual 149, 3)), (928, (.lstore 6, 2))]
theorem kDL_law_450 : DL_law_450.all (fun q => decide (decode cL_law q.1 = .ok q.2)) = true := by decide +kernel
theorem dL_law_851 : decode cL_law 851 = .ok (.iload 4, 2) := dec_at kDL_law_450 0 rfl
theorem dL_law_853 : decode cL_law 853 = .ok (.iconst 1, 1) := dec_at kDL_law_450 1 rfl
theorem dL_law_854 : decode cL_law 854 = .ok (.iadd, 1) := dec_at kDL_law_450 2 rfl
theorem dL_law_855 : decode cL_law 855 = .ok (.iaload, 1) := dec_at kDL_law_450 3 rfl
theorem dL_law_856 : decode cL_law 856 = .ok (.aload_n 3, 1) := dec_at kDL_law_450 4 rfl
theorem dL_law_857 : decode cL_law 857 = .ok (.invokestatic 144, 3) := dec_at kDL_law_450 5 rfl
theorem dL_law_860 : decode cL_law 860 = .ok (.istore 5, 2) := dec_at kDL_law_450 6 rfl
theorem dL_law_862 : decode cL_law 862 = .ok (.aload_n 2, 1) := dec_at kDL_law_450 7 rfl
theorem dL_law_863 : decode cL_law 863 = .ok (.aload_n 0, 1) := dec_at kDL_law_450 8 rfl
theorem dL_law_864 : decode cL_law 864 = .ok (.iload 4, 2) := dec_at kDL_law_450 9 rfl
theorem dL_law_866 : decode cL_law 866 = .ok (.iconst 1, 1) := dec_at kDL_law_450 10 rfl
theorem dL_law_867 : decode cL_law 867 = .ok (.iadd, 1) := dec_at kDL_law_450 11 rfl
theorem dL_law_868 : decode cL_law 868 = .ok (.iaload, 1) := dec_at kDL_law_450 12 rfl
theorem dL_law_869 : decode cL_law 869 = .ok (.invokevirtual 146, 3) := dec_at kDL_law_450 13 rfl
theorem dL_law_872 : decode cL_law 872 = .ok (.istore 6, 2) := dec_at kDL_law_450 14 rfl
theorem dL_law_874 : decode cL_law 874 = .ok (.aload_n 2, 1) := dec_at kDL_law_450 15 rfl
theorem dL_law_875 : decode cL_law 875 = .ok (.invokevirtual 98, 3) := dec_at kDL_law_450 16 rfl
theorem dL_law_878 : decode cL_law 878 = .ok (.iload 5, 2) := dec_at kDL_law_450 17 rfl
theorem dL_law_880 : decode cL_law 880 = .ok (.if_icmp .eq 5, 3) := dec_at kDL_law_450 18 rfl
theorem dL_law_883 : decode cL_law 883 = .ok (.iconst 0, 1) := dec_at kDL_law_450 19 rfl
theorem dL_law_884 : decode cL_law 884 = .ok (.ireturn, 1) := dec_at kDL_law_450 20 rfl
theorem dL_law_885 : decode cL_law 885 = .ok (.iload 5, 2) := dec_at kDL_law_450 21 rfl
theorem dL_law_887 : decode cL_law 887 = .ok (.ifCond .ne 15, 3) := dec_at kDL_law_450 22 rfl
theorem dL_law_890 : decode cL_law 890 = .ok (.aload_n 3, 1) := dec_at kDL_law_450 23 rfl
theorem dL_law_891 : decode cL_law 891 = .ok (.iconst 0, 1) := dec_at kDL_law_450 24 rfl
theorem dL_law_892 : decode cL_law 892 = .ok (.laload, 1) := dec_at kDL_law_450 25 rfl
theorem dL_law_893 : decode cL_law 893 = .ok (.iload 6, 2) := dec_at kDL_law_450 26 rfl
theorem dL_law_895 : decode cL_law 895 = .ok (.i2l, 1) := dec_at kDL_law_450 27 rfl
theorem dL_law_896 : decode cL_law 896 = .ok (.lcmp, 1) := dec_at kDL_law_450 28 rfl
theorem dL_law_897 : decode cL_law 897 = .ok (.ifCond .eq 5, 3) := dec_at kDL_law_450 29 rfl
theorem dL_law_900 : decode cL_law 900 = .ok (.iconst 0, 1) := dec_at kDL_law_450 30 rfl
theorem dL_law_901 : decode cL_law 901 = .ok (.ireturn, 1) := dec_at kDL_law_450 31 rfl
theorem dL_law_902 : decode cL_law 902 = .ok (.goto 603, 3) := dec_at kDL_law_450 32 rfl
theorem dL_law_905 : decode cL_law 905 = .ok (.aload_n 1, 1) := dec_at kDL_law_450 33 rfl
theorem dL_law_906 : decode cL_law 906 = .ok (.aload_n 0, 1) := dec_at kDL_law_450 34 rfl
theorem dL_law_907 : decode cL_law 907 = .ok (.iload 4, 2) := dec_at kDL_law_450 35 rfl
theorem dL_law_909 : decode cL_law 909 = .ok (.iconst 1, 1) := dec_at kDL_law_450 36 rfl
theorem dL_law_910 : decode cL_law 910 = .ok (.iadd, 1) := dec_at kDL_law_450 37 rfl
theorem dL_law_911 : decode cL_law 911 = .ok (.iaload, 1) := dec_at kDL_law_450 38 rfl
theorem dL_law_912 : decode cL_law 912 = .ok (.aload_n 3, 1) := dec_at kDL_law_450 39 rfl
theorem dL_law_913 : decode cL_law 913 = .ok (.invokestatic 147, 3) := dec_at kDL_law_450 40 rfl
theorem dL_law_916 : decode cL_law 916 = .ok (.istore 5, 2) := dec_at kDL_law_450 41 rfl
theorem dL_law_918 : decode cL_law 918 = .ok (.aload_n 2, 1) := dec_at kDL_law_450 42 rfl
theorem dL_law_919 : decode cL_law 919 = .ok (.aload_n 0, 1) := dec_at kDL_law_450 43 rfl
theorem dL_law_920 : decode cL_law 920 = .ok (.iload 4, 2) := dec_at kDL_law_450 44 rfl
theorem dL_law_922 : decode cL_law 922 = .ok (.iconst 1, 1) := dec_at kDL_law_450 45 rfl
theorem dL_law_923 : decode cL_law 923 = .ok (.iadd, 1) := dec_at kDL_law_450 46 rfl
theorem dL_law_924 : decode cL_law 924 = .ok (.iaload, 1) := dec_at kDL_law_450 47 rfl
theorem dL_law_925 : decode cL_law 925 = .ok (.invokevirtual 149, 3) := dec_at kDL_law_450 48 rfl
theorem dL_law_928 : decode cL_law 928 = .ok (.lstore 6, 2) := dec_at kDL_law_450 49 rfl
def DL_law_500 : List (Nat × (Instr × Nat)) := [(930, (.aload_n 2, 1)), (931, (.invokevirtual 98, 3)), (934, (.iload 5, 2)), (936, (.if_icmp .eq 5, 3)), (939, (.iconst 0, 1)), (940, (.ireturn, 1)), (941, (.iload 5, 2)), (943, (.ifCond .ne 14, 3)), (946, (.aload_n 3, 1)), (947, (.iconst 0, 1)), (948, (.laload, 1)), (949, (.lload 6, 2)), (951, (.lcmp, 1)), (952, (.ifCond .eq 5, 3)), (955, (.iconst 0, 1)), (956, (.ireturn, 1)), (957, (.goto 548, 3)), (960, (.aload_n 1, 1)), (961, (.invokevirtual 150, 3)), (964, (.aload_n 2, 1)), (965, (.invokevirtual 153, 3)), (968, (.if_icmp .eq 537, 3)), (971, (.iconst 0, 1)), (972, (.ireturn, 1)), (973, (.aload_n 1, 1)), (974, (.aload_n 0, 1)), (975, (.iload 4, 2)), (977, (.iconst 1, 1)), (978, (.iadd, 1)), (979, (.iaload, 1)), (980, (.aload_n 3, 1)), (981, (.invokestatic 154, 3)), (984, (.istore 5, 2)), (986, (.aload_n 2, 1)), (987, (.aload_n 0, 1)), (988, (.iload 4, 2)), (990, (.iconst 1, 1)), (991, (.iadd, 1)), (992, (.iaload, 1)), (993, (.invokevirtual 156, 3)), (996, (.istore 6, 2)), (998, (.aload_n 2, 1)), (999, (.invokevirtual 98, 3)), (1002, (.iload 5, 2)), (1004, (.if_icmp .eq 5, 3)), (1007, (.iconst 0, 1)), (1008, (.ireturn, 1)), (1009, (.iload 5, 2)), (1011, (.ifCond .ne 15, 3)), (1014, (.aload_n 3, 1))]
theorem kDL_law_500 : DL_law_500.all (fun q => decide (decode cL_law q.1 = .ok q.2)) = true := by decide +kernel
theorem dL_law_930 : decode cL_law 930 = .ok (.aload_n 2, 1) := dec_at kDL_law_500 0 rfl
theorem dL_law_931 : decode cL_law 931 = .ok (.invokevirtual 98, 3) := dec_at kDL_law_500 1 rfl
theorem dL_law_934 : decode cL_law 934 = .ok (.iload 5, 2) := dec_at kDL_law_500 2 rfl
theorem dL_law_936 : decode cL_law 936 = .ok (.if_icmp .eq 5, 3) := dec_at kDL_law_500 3 rfl
theorem dL_law_939 : decode cL_law 939 = .ok (.iconst 0, 1) := dec_at kDL_law_500 4 rfl
theorem dL_law_940 : decode cL_law 940 = .ok (.ireturn, 1) := dec_at kDL_law_500 5 rfl
theorem dL_law_941 : decode cL_law 941 = .ok (.iload 5, 2) := dec_at kDL_law_500 6 rfl
theorem dL_law_943 : decode cL_law 943 = .ok (.ifCond .ne 14, 3) := dec_at kDL_law_500 7 rfl
theorem dL_law_946 : decode cL_law 946 = .ok (.aload_n 3, 1) := dec_at kDL_law_500 8 rfl
theorem dL_law_947 : decode cL_law 947 = .ok (.iconst 0, 1) := dec_at kDL_law_500 9 rfl
theorem dL_law_948 : decode cL_law 948 = .ok (.laload, 1) := dec_at kDL_law_500 10 rfl
theorem dL_law_949 : decode cL_law 949 = .ok (.lload 6, 2) := dec_at kDL_law_500 11 rfl
theorem dL_law_951 : decode cL_law 951 = .ok (.lcmp, 1) := dec_at kDL_law_500 12 rfl
theorem dL_law_952 : decode cL_law 952 = .ok (.ifCond .eq 5, 3) := dec_at kDL_law_500 13 rfl
theorem dL_law_955 : decode cL_law 955 = .ok (.iconst 0, 1) := dec_at kDL_law_500 14 rfl
theorem dL_law_956 : decode cL_law 956 = .ok (.ireturn, 1) := dec_at kDL_law_500 15 rfl
theorem dL_law_957 : decode cL_law 957 = .ok (.goto 548, 3) := dec_at kDL_law_500 16 rfl
theorem dL_law_960 : decode cL_law 960 = .ok (.aload_n 1, 1) := dec_at kDL_law_500 17 rfl
theorem dL_law_961 : decode cL_law 961 = .ok (.invokevirtual 150, 3) := dec_at kDL_law_500 18 rfl
theorem dL_law_964 : decode cL_law 964 = .ok (.aload_n 2, 1) := dec_at kDL_law_500 19 rfl
theorem dL_law_965 : decode cL_law 965 = .ok (.invokevirtual 153, 3) := dec_at kDL_law_500 20 rfl
theorem dL_law_968 : decode cL_law 968 = .ok (.if_icmp .eq 537, 3) := dec_at kDL_law_500 21 rfl
theorem dL_law_971 : decode cL_law 971 = .ok (.iconst 0, 1) := dec_at kDL_law_500 22 rfl
theorem dL_law_972 : decode cL_law 972 = .ok (.ireturn, 1) := dec_at kDL_law_500 23 rfl
theorem dL_law_973 : decode cL_law 973 = .ok (.aload_n 1, 1) := dec_at kDL_law_500 24 rfl
theorem dL_law_974 : decode cL_law 974 = .ok (.aload_n 0, 1) := dec_at kDL_law_500 25 rfl
theorem dL_law_975 : decode cL_law 975 = .ok (.iload 4, 2) := dec_at kDL_law_500 26 rfl
theorem dL_law_977 : decode cL_law 977 = .ok (.iconst 1, 1) := dec_at kDL_law_500 27 rfl
theorem dL_law_978 : decode cL_law 978 = .ok (.iadd, 1) := dec_at kDL_law_500 28 rfl
theorem dL_law_979 : decode cL_law 979 = .ok (.iaload, 1) := dec_at kDL_law_500 29 rfl
theorem dL_law_980 : decode cL_law 980 = .ok (.aload_n 3, 1) := dec_at kDL_law_500 30 rfl
theorem dL_law_981 : decode cL_law 981 = .ok (.invokestatic 154, 3) := dec_at kDL_law_500 31 rfl
theorem dL_law_984 : decode cL_law 984 = .ok (.istore 5, 2) := dec_at kDL_law_500 32 rfl
theorem dL_law_986 : decode cL_law 986 = .ok (.aload_n 2, 1) := dec_at kDL_law_500 33 rfl
theorem dL_law_987 : decode cL_law 987 = .ok (.aload_n 0, 1) := dec_at kDL_law_500 34 rfl
theorem dL_law_988 : decode cL_law 988 = .ok (.iload 4, 2) := dec_at kDL_law_500 35 rfl
theorem dL_law_990 : decode cL_law 990 = .ok (.iconst 1, 1) := dec_at kDL_law_500 36 rfl
theorem dL_law_991 : decode cL_law 991 = .ok (.iadd, 1) := dec_at kDL_law_500 37 rfl
theorem dL_law_992 : decode cL_law 992 = .ok (.iaload, 1) := dec_at kDL_law_500 38 rfl
theorem dL_law_993 : decode cL_law 993 = .ok (.invokevirtual 156, 3) := dec_at kDL_law_500 39 rfl
theorem dL_law_996 : decode cL_law 996 = .ok (.istore 6, 2) := dec_at kDL_law_500 40 rfl
theorem dL_law_998 : decode cL_law 998 = .ok (.aload_n 2, 1) := dec_at kDL_law_500 41 rfl
theorem dL_law_999 : decode cL_law 999 = .ok (.invokevirtual 98, 3) := dec_at kDL_law_500 42 rfl
theorem dL_law_1002 : decode cL_law 1002 = .ok (.iload 5, 2) := dec_at kDL_law_500 43 rfl
theorem dL_law_1004 : decode cL_law 1004 = .ok (.if_icmp .eq 5, 3) := dec_at kDL_law_500 44 rfl
theorem dL_law_1007 : decode cL_law 1007 = .ok (.iconst 0, 1) := dec_at kDL_law_500 45 rfl
theorem dL_law_1008 : decode cL_law 1008 = .ok (.ireturn, 1) := dec_at kDL_law_500 46 rfl
theorem dL_law_1009 : decode cL_law 1009 = .ok (.iload 5, 2) := dec_at kDL_law_500 47 rfl
theorem dL_law_1011 : decode cL_law 1011 = .ok (.ifCond .ne 15, 3) := dec_at kDL_law_500 48 rfl
theorem dL_law_1014 : decode cL_law 1014 = .ok (.aload_n 3, 1) := dec_at kDL_law_500 49 rfl
def DL_law_550 : List (Nat × (Instr × Nat)) := [(1015, (.iconst 0, 1)), (1016, (.laload, 1)), (1017, (.iload 6, 2)), (1019, (.i2l, 1)), (1020, (.lcmp, 1)), (1021, (.ifCond .eq 5, 3)), (1024, (.iconst 0, 1)), (1025, (.ireturn, 1)), (1026, (.goto 479, 3)), (1029, (.aload_n 1, 1)), (1030, (.aload_n 0, 1)), (1031, (.iload 4, 2)), (1033, (.iconst 1, 1)), (1034, (.iadd, 1)), (1035, (.iaload, 1)), (1036, (.aload_n 3, 1)), (1037, (.invokestatic 157, 3)), (1040, (.istore 5, 2)), (1042, (.aload_n 2, 1)), (1043, (.aload_n 0, 1)), (1044, (.iload 4, 2)), (1046, (.iconst 1, 1)), (1047, (.iadd, 1)), (1048, (.iaload, 1)), (1049, (.invokevirtual 159, 3)), (1052, (.lstore 6, 2)), (1054, (.aload_n 2, 1)), (1055, (.invokevirtual 98, 3)), (1058, (.iload 5, 2)), (1060, (.if_icmp .eq 5, 3)), (1063, (.iconst 0, 1)), (1064, (.ireturn, 1)), (1065, (.iload 5, 2)), (1067, (.ifCond .ne 14, 3)), (1070, (.aload_n 3, 1)), (1071, (.iconst 0, 1)), (1072, (.laload, 1)), (1073, (.lload 6, 2)), (1075, (.lcmp, 1)), (1076, (.ifCond .eq 5, 3)), (1079, (.iconst 0, 1)), (1080, (.ireturn, 1)), (1081, (.goto 424, 3)), (1084, (.aload_n 1, 1)), (1085, (.aload_n 0, 1)), (1086, (.iload 4, 2)), (1088, (.iconst 1, 1)), (1089, (.iadd, 1)), (1090, (.iaload, 1)), (1091, (.aload_n 0, 1))]
theorem kDL_law_550 : DL_law_550.all (fun q => decide (decode cL_law q.1 = .ok q.2)) = true := by decide +kernel
theorem dL_law_1015 : decode cL_law 1015 = .ok (.iconst 0, 1) := dec_at kDL_law_550 0 rfl
theorem dL_law_1016 : decode cL_law 1016 = .ok (.laload, 1) := dec_at kDL_law_550 1 rfl
theorem dL_law_1017 : decode cL_law 1017 = .ok (.iload 6, 2) := dec_at kDL_law_550 2 rfl
theorem dL_law_1019 : decode cL_law 1019 = .ok (.i2l, 1) := dec_at kDL_law_550 3 rfl
theorem dL_law_1020 : decode cL_law 1020 = .ok (.lcmp, 1) := dec_at kDL_law_550 4 rfl
theorem dL_law_1021 : decode cL_law 1021 = .ok (.ifCond .eq 5, 3) := dec_at kDL_law_550 5 rfl
theorem dL_law_1024 : decode cL_law 1024 = .ok (.iconst 0, 1) := dec_at kDL_law_550 6 rfl
theorem dL_law_1025 : decode cL_law 1025 = .ok (.ireturn, 1) := dec_at kDL_law_550 7 rfl
theorem dL_law_1026 : decode cL_law 1026 = .ok (.goto 479, 3) := dec_at kDL_law_550 8 rfl
theorem dL_law_1029 : decode cL_law 1029 = .ok (.aload_n 1, 1) := dec_at kDL_law_550 9 rfl
theorem dL_law_1030 : decode cL_law 1030 = .ok (.aload_n 0, 1) := dec_at kDL_law_550 10 rfl
theorem dL_law_1031 : decode cL_law 1031 = .ok (.iload 4, 2) := dec_at kDL_law_550 11 rfl
theorem dL_law_1033 : decode cL_law 1033 = .ok (.iconst 1, 1) := dec_at kDL_law_550 12 rfl
theorem dL_law_1034 : decode cL_law 1034 = .ok (.iadd, 1) := dec_at kDL_law_550 13 rfl
theorem dL_law_1035 : decode cL_law 1035 = .ok (.iaload, 1) := dec_at kDL_law_550 14 rfl
theorem dL_law_1036 : decode cL_law 1036 = .ok (.aload_n 3, 1) := dec_at kDL_law_550 15 rfl
theorem dL_law_1037 : decode cL_law 1037 = .ok (.invokestatic 157, 3) := dec_at kDL_law_550 16 rfl
theorem dL_law_1040 : decode cL_law 1040 = .ok (.istore 5, 2) := dec_at kDL_law_550 17 rfl
theorem dL_law_1042 : decode cL_law 1042 = .ok (.aload_n 2, 1) := dec_at kDL_law_550 18 rfl
theorem dL_law_1043 : decode cL_law 1043 = .ok (.aload_n 0, 1) := dec_at kDL_law_550 19 rfl
theorem dL_law_1044 : decode cL_law 1044 = .ok (.iload 4, 2) := dec_at kDL_law_550 20 rfl
theorem dL_law_1046 : decode cL_law 1046 = .ok (.iconst 1, 1) := dec_at kDL_law_550 21 rfl
theorem dL_law_1047 : decode cL_law 1047 = .ok (.iadd, 1) := dec_at kDL_law_550 22 rfl
theorem dL_law_1048 : decode cL_law 1048 = .ok (.iaload, 1) := dec_at kDL_law_550 23 rfl
theorem dL_law_1049 : decode cL_law 1049 = .ok (.invokevirtual 159, 3) := dec_at kDL_law_550 24 rfl
theorem dL_law_1052 : decode cL_law 1052 = .ok (.lstore 6, 2) := dec_at kDL_law_550 25 rfl
theorem dL_law_1054 : decode cL_law 1054 = .ok (.aload_n 2, 1) := dec_at kDL_law_550 26 rfl
theorem dL_law_1055 : decode cL_law 1055 = .ok (.invokevirtual 98, 3) := dec_at kDL_law_550 27 rfl
theorem dL_law_1058 : decode cL_law 1058 = .ok (.iload 5, 2) := dec_at kDL_law_550 28 rfl
theorem dL_law_1060 : decode cL_law 1060 = .ok (.if_icmp .eq 5, 3) := dec_at kDL_law_550 29 rfl
theorem dL_law_1063 : decode cL_law 1063 = .ok (.iconst 0, 1) := dec_at kDL_law_550 30 rfl
theorem dL_law_1064 : decode cL_law 1064 = .ok (.ireturn, 1) := dec_at kDL_law_550 31 rfl
theorem dL_law_1065 : decode cL_law 1065 = .ok (.iload 5, 2) := dec_at kDL_law_550 32 rfl
theorem dL_law_1067 : decode cL_law 1067 = .ok (.ifCond .ne 14, 3) := dec_at kDL_law_550 33 rfl
theorem dL_law_1070 : decode cL_law 1070 = .ok (.aload_n 3, 1) := dec_at kDL_law_550 34 rfl
theorem dL_law_1071 : decode cL_law 1071 = .ok (.iconst 0, 1) := dec_at kDL_law_550 35 rfl
theorem dL_law_1072 : decode cL_law 1072 = .ok (.laload, 1) := dec_at kDL_law_550 36 rfl
theorem dL_law_1073 : decode cL_law 1073 = .ok (.lload 6, 2) := dec_at kDL_law_550 37 rfl
theorem dL_law_1075 : decode cL_law 1075 = .ok (.lcmp, 1) := dec_at kDL_law_550 38 rfl
theorem dL_law_1076 : decode cL_law 1076 = .ok (.ifCond .eq 5, 3) := dec_at kDL_law_550 39 rfl
theorem dL_law_1079 : decode cL_law 1079 = .ok (.iconst 0, 1) := dec_at kDL_law_550 40 rfl
theorem dL_law_1080 : decode cL_law 1080 = .ok (.ireturn, 1) := dec_at kDL_law_550 41 rfl
theorem dL_law_1081 : decode cL_law 1081 = .ok (.goto 424, 3) := dec_at kDL_law_550 42 rfl
theorem dL_law_1084 : decode cL_law 1084 = .ok (.aload_n 1, 1) := dec_at kDL_law_550 43 rfl
theorem dL_law_1085 : decode cL_law 1085 = .ok (.aload_n 0, 1) := dec_at kDL_law_550 44 rfl
theorem dL_law_1086 : decode cL_law 1086 = .ok (.iload 4, 2) := dec_at kDL_law_550 45 rfl
theorem dL_law_1088 : decode cL_law 1088 = .ok (.iconst 1, 1) := dec_at kDL_law_550 46 rfl
theorem dL_law_1089 : decode cL_law 1089 = .ok (.iadd, 1) := dec_at kDL_law_550 47 rfl
theorem dL_law_1090 : decode cL_law 1090 = .ok (.iaload, 1) := dec_at kDL_law_550 48 rfl
theorem dL_law_1091 : decode cL_law 1091 = .ok (.aload_n 0, 1) := dec_at kDL_law_550 49 rfl
def DL_law_600 : List (Nat × (Instr × Nat)) := [(1092, (.iload 4, 2)), (1094, (.iconst 2, 1)), (1095, (.iadd, 1)), (1096, (.iaload, 1)), (1097, (.aload_n 3, 1)), (1098, (.invokestatic 160, 3)), (1101, (.istore 5, 2)), (1103, (.aload_n 2, 1)), (1104, (.aload_n 0, 1)), (1105, (.iload 4, 2)), (1107, (.iconst 1, 1)), (1108, (.iadd, 1)), (1109, (.iaload, 1)), (1110, (.aload_n 0, 1)), (1111, (.iload 4, 2)), (1113, (.iconst 2, 1)), (1114, (.iadd, 1)), (1115, (.iaload, 1)), (1116, (.invokevirtual 162, 3)), (1119, (.istore 6, 2)), (1121, (.aload_n 2, 1)), (1122, (.invokevirtual 98, 3)), (1125, (.iload 5, 2)), (1127, (.if_icmp .eq 5, 3)), (1130, (.iconst 0, 1)), (1131, (.ireturn, 1)), (1132, (.iload 5, 2)), (1134, (.ifCond .ne 15, 3)), (1137, (.aload_n 3, 1)), (1138, (.iconst 0, 1)), (1139, (.laload, 1)), (1140, (.iload 6, 2)), (1142, (.i2l, 1)), (1143, (.lcmp, 1)), (1144, (.ifCond .eq 5, 3)), (1147, (.iconst 0, 1)), (1148, (.ireturn, 1)), (1149, (.goto 356, 3)), (1152, (.aload_n 1, 1)), (1153, (.aload_n 3, 1)), (1154, (.invokestatic 163, 3)), (1157, (.istore 5, 2)), (1159, (.aload_n 2, 1)), (1160, (.invokevirtual 165, 3)), (1163, (.lstore 6, 2)), (1165, (.aload_n 2, 1)), (1166, (.invokevirtual 98, 3)), (1169, (.iload 5, 2)), (1171, (.if_icmp .eq 5, 3)), (1174, (.iconst 0, 1))]
theorem kDL_law_600 : DL_law_600.all (fun q => decide (decode cL_law q.1 = .ok q.2)) = true := by decide +kernel
theorem dL_law_1092 : decode cL_law 1092 = .ok (.iload 4, 2) := dec_at kDL_law_600 0 rfl
theorem dL_law_1094 : decode cL_law 1094 = .ok (.iconst 2, 1) := dec_at kDL_law_600 1 rfl
theorem dL_law_1095 : decode cL_law 1095 = .ok (.iadd, 1) := dec_at kDL_law_600 2 rfl
theorem dL_law_1096 : decode cL_law 1096 = .ok (.iaload, 1) := dec_at kDL_law_600 3 rfl
theorem dL_law_1097 : decode cL_law 1097 = .ok (.aload_n 3, 1) := dec_at kDL_law_600 4 rfl
theorem dL_law_1098 : decode cL_law 1098 = .ok (.invokestatic 160, 3) := dec_at kDL_law_600 5 rfl
theorem dL_law_1101 : decode cL_law 1101 = .ok (.istore 5, 2) := dec_at kDL_law_600 6 rfl
theorem dL_law_1103 : decode cL_law 1103 = .ok (.aload_n 2, 1) := dec_at kDL_law_600 7 rfl
theorem dL_law_1104 : decode cL_law 1104 = .ok (.aload_n 0, 1) := dec_at kDL_law_600 8 rfl
theorem dL_law_1105 : decode cL_law 1105 = .ok (.iload 4, 2) := dec_at kDL_law_600 9 rfl
theorem dL_law_1107 : decode cL_law 1107 = .ok (.iconst 1, 1) := dec_at kDL_law_600 10 rfl
theorem dL_law_1108 : decode cL_law 1108 = .ok (.iadd, 1) := dec_at kDL_law_600 11 rfl
theorem dL_law_1109 : decode cL_law 1109 = .ok (.iaload, 1) := dec_at kDL_law_600 12 rfl
theorem dL_law_1110 : decode cL_law 1110 = .ok (.aload_n 0, 1) := dec_at kDL_law_600 13 rfl
theorem dL_law_1111 : decode cL_law 1111 = .ok (.iload 4, 2) := dec_at kDL_law_600 14 rfl
theorem dL_law_1113 : decode cL_law 1113 = .ok (.iconst 2, 1) := dec_at kDL_law_600 15 rfl
theorem dL_law_1114 : decode cL_law 1114 = .ok (.iadd, 1) := dec_at kDL_law_600 16 rfl
theorem dL_law_1115 : decode cL_law 1115 = .ok (.iaload, 1) := dec_at kDL_law_600 17 rfl
theorem dL_law_1116 : decode cL_law 1116 = .ok (.invokevirtual 162, 3) := dec_at kDL_law_600 18 rfl
theorem dL_law_1119 : decode cL_law 1119 = .ok (.istore 6, 2) := dec_at kDL_law_600 19 rfl
theorem dL_law_1121 : decode cL_law 1121 = .ok (.aload_n 2, 1) := dec_at kDL_law_600 20 rfl
theorem dL_law_1122 : decode cL_law 1122 = .ok (.invokevirtual 98, 3) := dec_at kDL_law_600 21 rfl
theorem dL_law_1125 : decode cL_law 1125 = .ok (.iload 5, 2) := dec_at kDL_law_600 22 rfl
theorem dL_law_1127 : decode cL_law 1127 = .ok (.if_icmp .eq 5, 3) := dec_at kDL_law_600 23 rfl
theorem dL_law_1130 : decode cL_law 1130 = .ok (.iconst 0, 1) := dec_at kDL_law_600 24 rfl
theorem dL_law_1131 : decode cL_law 1131 = .ok (.ireturn, 1) := dec_at kDL_law_600 25 rfl
theorem dL_law_1132 : decode cL_law 1132 = .ok (.iload 5, 2) := dec_at kDL_law_600 26 rfl
theorem dL_law_1134 : decode cL_law 1134 = .ok (.ifCond .ne 15, 3) := dec_at kDL_law_600 27 rfl
theorem dL_law_1137 : decode cL_law 1137 = .ok (.aload_n 3, 1) := dec_at kDL_law_600 28 rfl
theorem dL_law_1138 : decode cL_law 1138 = .ok (.iconst 0, 1) := dec_at kDL_law_600 29 rfl
theorem dL_law_1139 : decode cL_law 1139 = .ok (.laload, 1) := dec_at kDL_law_600 30 rfl
theorem dL_law_1140 : decode cL_law 1140 = .ok (.iload 6, 2) := dec_at kDL_law_600 31 rfl
theorem dL_law_1142 : decode cL_law 1142 = .ok (.i2l, 1) := dec_at kDL_law_600 32 rfl
theorem dL_law_1143 : decode cL_law 1143 = .ok (.lcmp, 1) := dec_at kDL_law_600 33 rfl
theorem dL_law_1144 : decode cL_law 1144 = .ok (.ifCond .eq 5, 3) := dec_at kDL_law_600 34 rfl
theorem dL_law_1147 : decode cL_law 1147 = .ok (.iconst 0, 1) := dec_at kDL_law_600 35 rfl
theorem dL_law_1148 : decode cL_law 1148 = .ok (.ireturn, 1) := dec_at kDL_law_600 36 rfl
theorem dL_law_1149 : decode cL_law 1149 = .ok (.goto 356, 3) := dec_at kDL_law_600 37 rfl
theorem dL_law_1152 : decode cL_law 1152 = .ok (.aload_n 1, 1) := dec_at kDL_law_600 38 rfl
theorem dL_law_1153 : decode cL_law 1153 = .ok (.aload_n 3, 1) := dec_at kDL_law_600 39 rfl
theorem dL_law_1154 : decode cL_law 1154 = .ok (.invokestatic 163, 3) := dec_at kDL_law_600 40 rfl
theorem dL_law_1157 : decode cL_law 1157 = .ok (.istore 5, 2) := dec_at kDL_law_600 41 rfl
theorem dL_law_1159 : decode cL_law 1159 = .ok (.aload_n 2, 1) := dec_at kDL_law_600 42 rfl
theorem dL_law_1160 : decode cL_law 1160 = .ok (.invokevirtual 165, 3) := dec_at kDL_law_600 43 rfl
theorem dL_law_1163 : decode cL_law 1163 = .ok (.lstore 6, 2) := dec_at kDL_law_600 44 rfl
theorem dL_law_1165 : decode cL_law 1165 = .ok (.aload_n 2, 1) := dec_at kDL_law_600 45 rfl
theorem dL_law_1166 : decode cL_law 1166 = .ok (.invokevirtual 98, 3) := dec_at kDL_law_600 46 rfl
theorem dL_law_1169 : decode cL_law 1169 = .ok (.iload 5, 2) := dec_at kDL_law_600 47 rfl
theorem dL_law_1171 : decode cL_law 1171 = .ok (.if_icmp .eq 5, 3) := dec_at kDL_law_600 48 rfl
theorem dL_law_1174 : decode cL_law 1174 = .ok (.iconst 0, 1) := dec_at kDL_law_600 49 rfl
def DL_law_650 : List (Nat × (Instr × Nat)) := [(1175, (.ireturn, 1)), (1176, (.iload 5, 2)), (1178, (.ifCond .ne 14, 3)), (1181, (.aload_n 3, 1)), (1182, (.iconst 0, 1)), (1183, (.laload, 1)), (1184, (.lload 6, 2)), (1186, (.lcmp, 1)), (1187, (.ifCond .eq 5, 3)), (1190, (.iconst 0, 1)), (1191, (.ireturn, 1)), (1192, (.goto 313, 3)), (1195, (.aload_n 1, 1)), (1196, (.aload_n 3, 1)), (1197, (.invokestatic 166, 3)), (1200, (.istore 5, 2)), (1202, (.aload_n 2, 1)), (1203, (.invokevirtual 168, 3)), (1206, (.istore 6, 2)), (1208, (.aload_n 2, 1)), (1209, (.invokevirtual 98, 3)), (1212, (.iload 5, 2)), (1214, (.if_icmp .eq 5, 3)), (1217, (.iconst 0, 1)), (1218, (.ireturn, 1)), (1219, (.iload 5, 2)), (1221, (.ifCond .ne 15, 3)), (1224, (.aload_n 3, 1)), (1225, (.iconst 0, 1)), (1226, (.laload, 1)), (1227, (.iload 6, 2)), (1229, (.i2l, 1)), (1230, (.lcmp, 1)), (1231, (.ifCond .eq 5, 3)), (1234, (.iconst 0, 1)), (1235, (.ireturn, 1)), (1236, (.goto 269, 3)), (1239, (.aload_n 1, 1)), (1240, (.aload_n 0, 1)), (1241, (.iload 4, 2)), (1243, (.iconst 1, 1)), (1244, (.iadd, 1)), (1245, (.iaload, 1)), (1246, (.ifCond .eq 7, 3)), (1249, (.iconst 1, 1)), (1250, (.goto 4, 3)), (1253, (.iconst 0, 1)), (1254, (.invokevirtual 169, 3)), (1257, (.aload_n 2, 1)), (1258, (.aload_n 0, 1))]
theorem kDL_law_650 : DL_law_650.all (fun q => decide (decode cL_law q.1 = .ok q.2)) = true := by decide +kernel
theorem dL_law_1175 : decode cL_law 1175 = .ok (.ireturn, 1) := dec_at kDL_law_650 0 rfl
theorem dL_law_1176 : decode cL_law 1176 = .ok (.iload 5, 2) := dec_at kDL_law_650 1 rfl
theorem dL_law_1178 : decode cL_law 1178 = .ok (.ifCond .ne 14, 3) := dec_at kDL_law_650 2 rfl
theorem dL_law_1181 : decode cL_law 1181 = .ok (.aload_n 3, 1) := dec_at kDL_law_650 3 rfl
theorem dL_law_1182 : decode cL_law 1182 = .ok (.iconst 0, 1) := dec_at kDL_law_650 4 rfl
theorem dL_law_1183 : decode cL_law 1183 = .ok (.laload, 1) := dec_at kDL_law_650 5 rfl
theorem dL_law_1184 : decode cL_law 1184 = .ok (.lload 6, 2) := dec_at kDL_law_650 6 rfl
theorem dL_law_1186 : decode cL_law 1186 = .ok (.lcmp, 1) := dec_at kDL_law_650 7 rfl
theorem dL_law_1187 : decode cL_law 1187 = .ok (.ifCond .eq 5, 3) := dec_at kDL_law_650 8 rfl
theorem dL_law_1190 : decode cL_law 1190 = .ok (.iconst 0, 1) := dec_at kDL_law_650 9 rfl
theorem dL_law_1191 : decode cL_law 1191 = .ok (.ireturn, 1) := dec_at kDL_law_650 10 rfl
theorem dL_law_1192 : decode cL_law 1192 = .ok (.goto 313, 3) := dec_at kDL_law_650 11 rfl
theorem dL_law_1195 : decode cL_law 1195 = .ok (.aload_n 1, 1) := dec_at kDL_law_650 12 rfl
theorem dL_law_1196 : decode cL_law 1196 = .ok (.aload_n 3, 1) := dec_at kDL_law_650 13 rfl
theorem dL_law_1197 : decode cL_law 1197 = .ok (.invokestatic 166, 3) := dec_at kDL_law_650 14 rfl
theorem dL_law_1200 : decode cL_law 1200 = .ok (.istore 5, 2) := dec_at kDL_law_650 15 rfl
theorem dL_law_1202 : decode cL_law 1202 = .ok (.aload_n 2, 1) := dec_at kDL_law_650 16 rfl
theorem dL_law_1203 : decode cL_law 1203 = .ok (.invokevirtual 168, 3) := dec_at kDL_law_650 17 rfl
theorem dL_law_1206 : decode cL_law 1206 = .ok (.istore 6, 2) := dec_at kDL_law_650 18 rfl
theorem dL_law_1208 : decode cL_law 1208 = .ok (.aload_n 2, 1) := dec_at kDL_law_650 19 rfl
theorem dL_law_1209 : decode cL_law 1209 = .ok (.invokevirtual 98, 3) := dec_at kDL_law_650 20 rfl
theorem dL_law_1212 : decode cL_law 1212 = .ok (.iload 5, 2) := dec_at kDL_law_650 21 rfl
theorem dL_law_1214 : decode cL_law 1214 = .ok (.if_icmp .eq 5, 3) := dec_at kDL_law_650 22 rfl
theorem dL_law_1217 : decode cL_law 1217 = .ok (.iconst 0, 1) := dec_at kDL_law_650 23 rfl
theorem dL_law_1218 : decode cL_law 1218 = .ok (.ireturn, 1) := dec_at kDL_law_650 24 rfl
theorem dL_law_1219 : decode cL_law 1219 = .ok (.iload 5, 2) := dec_at kDL_law_650 25 rfl
theorem dL_law_1221 : decode cL_law 1221 = .ok (.ifCond .ne 15, 3) := dec_at kDL_law_650 26 rfl
theorem dL_law_1224 : decode cL_law 1224 = .ok (.aload_n 3, 1) := dec_at kDL_law_650 27 rfl
theorem dL_law_1225 : decode cL_law 1225 = .ok (.iconst 0, 1) := dec_at kDL_law_650 28 rfl
theorem dL_law_1226 : decode cL_law 1226 = .ok (.laload, 1) := dec_at kDL_law_650 29 rfl
theorem dL_law_1227 : decode cL_law 1227 = .ok (.iload 6, 2) := dec_at kDL_law_650 30 rfl
theorem dL_law_1229 : decode cL_law 1229 = .ok (.i2l, 1) := dec_at kDL_law_650 31 rfl
theorem dL_law_1230 : decode cL_law 1230 = .ok (.lcmp, 1) := dec_at kDL_law_650 32 rfl
theorem dL_law_1231 : decode cL_law 1231 = .ok (.ifCond .eq 5, 3) := dec_at kDL_law_650 33 rfl
theorem dL_law_1234 : decode cL_law 1234 = .ok (.iconst 0, 1) := dec_at kDL_law_650 34 rfl
theorem dL_law_1235 : decode cL_law 1235 = .ok (.ireturn, 1) := dec_at kDL_law_650 35 rfl
theorem dL_law_1236 : decode cL_law 1236 = .ok (.goto 269, 3) := dec_at kDL_law_650 36 rfl
theorem dL_law_1239 : decode cL_law 1239 = .ok (.aload_n 1, 1) := dec_at kDL_law_650 37 rfl
theorem dL_law_1240 : decode cL_law 1240 = .ok (.aload_n 0, 1) := dec_at kDL_law_650 38 rfl
theorem dL_law_1241 : decode cL_law 1241 = .ok (.iload 4, 2) := dec_at kDL_law_650 39 rfl
theorem dL_law_1243 : decode cL_law 1243 = .ok (.iconst 1, 1) := dec_at kDL_law_650 40 rfl
theorem dL_law_1244 : decode cL_law 1244 = .ok (.iadd, 1) := dec_at kDL_law_650 41 rfl
theorem dL_law_1245 : decode cL_law 1245 = .ok (.iaload, 1) := dec_at kDL_law_650 42 rfl
theorem dL_law_1246 : decode cL_law 1246 = .ok (.ifCond .eq 7, 3) := dec_at kDL_law_650 43 rfl
theorem dL_law_1249 : decode cL_law 1249 = .ok (.iconst 1, 1) := dec_at kDL_law_650 44 rfl
theorem dL_law_1250 : decode cL_law 1250 = .ok (.goto 4, 3) := dec_at kDL_law_650 45 rfl
theorem dL_law_1253 : decode cL_law 1253 = .ok (.iconst 0, 1) := dec_at kDL_law_650 46 rfl
theorem dL_law_1254 : decode cL_law 1254 = .ok (.invokevirtual 169, 3) := dec_at kDL_law_650 47 rfl
theorem dL_law_1257 : decode cL_law 1257 = .ok (.aload_n 2, 1) := dec_at kDL_law_650 48 rfl
theorem dL_law_1258 : decode cL_law 1258 = .ok (.aload_n 0, 1) := dec_at kDL_law_650 49 rfl
def DL_law_700 : List (Nat × (Instr × Nat)) := [(1259, (.iload 4, 2)), (1261, (.iconst 1, 1)), (1262, (.iadd, 1)), (1263, (.iaload, 1)), (1264, (.ifCond .eq 7, 3)), (1267, (.iconst 1, 1)), (1268, (.goto 4, 3)), (1271, (.iconst 0, 1)), (1272, (.invokevirtual 173, 3)), (1275, (.if_icmp .eq 230, 3)), (1278, (.iconst 0, 1)), (1279, (.ireturn, 1)), (1280, (.aload_n 1, 1)), (1281, (.aload_n 0, 1)), (1282, (.iload 4, 2)), (1284, (.iconst 1, 1)), (1285, (.iadd, 1)), (1286, (.iaload, 1)), (1287, (.aload_n 3, 1)), (1288, (.invokestatic 174, 3)), (1291, (.istore 5, 2)), (1293, (.aload_n 2, 1)), (1294, (.aload_n 0, 1)), (1295, (.iload 4, 2)), (1297, (.iconst 1, 1)), (1298, (.iadd, 1)), (1299, (.iaload, 1)), (1300, (.invokevirtual 176, 3)), (1303, (.lstore 6, 2)), (1305, (.aload_n 2, 1)), (1306, (.invokevirtual 98, 3)), (1309, (.iload 5, 2)), (1311, (.if_icmp .eq 5, 3)), (1314, (.iconst 0, 1)), (1315, (.ireturn, 1)), (1316, (.iload 5, 2)), (1318, (.ifCond .ne 14, 3)), (1321, (.aload_n 3, 1)), (1322, (.iconst 0, 1)), (1323, (.laload, 1)), (1324, (.lload 6, 2)), (1326, (.lcmp, 1)), (1327, (.ifCond .eq 5, 3)), (1330, (.iconst 0, 1)), (1331, (.ireturn, 1)), (1332, (.goto 173, 3)), (1335, (.aload_n 1, 1)), (1336, (.aload_n 0, 1)), (1337, (.iload 4, 2)), (1339, (.iconst 1, 1))]
theorem kDL_law_700 : DL_law_700.all (fun q => decide (decode cL_law q.1 = .ok q.2)) = true := by decide +kernel
theorem dL_law_1259 : decode cL_law 1259 = .ok (.iload 4, 2) := dec_at kDL_law_700 0 rfl
theorem dL_law_1261 : decode cL_law 1261 = .ok (.iconst 1, 1) := dec_at kDL_law_700 1 rfl
theorem dL_law_1262 : decode cL_law 1262 = .ok (.iadd, 1) := dec_at kDL_law_700 2 rfl
theorem dL_law_1263 : decode cL_law 1263 = .ok (.iaload, 1) := dec_at kDL_law_700 3 rfl
theorem dL_law_1264 : decode cL_law 1264 = .ok (.ifCond .eq 7, 3) := dec_at kDL_law_700 4 rfl
theorem dL_law_1267 : decode cL_law 1267 = .ok (.iconst 1, 1) := dec_at kDL_law_700 5 rfl
theorem dL_law_1268 : decode cL_law 1268 = .ok (.goto 4, 3) := dec_at kDL_law_700 6 rfl
theorem dL_law_1271 : decode cL_law 1271 = .ok (.iconst 0, 1) := dec_at kDL_law_700 7 rfl
theorem dL_law_1272 : decode cL_law 1272 = .ok (.invokevirtual 173, 3) := dec_at kDL_law_700 8 rfl
theorem dL_law_1275 : decode cL_law 1275 = .ok (.if_icmp .eq 230, 3) := dec_at kDL_law_700 9 rfl
theorem dL_law_1278 : decode cL_law 1278 = .ok (.iconst 0, 1) := dec_at kDL_law_700 10 rfl
theorem dL_law_1279 : decode cL_law 1279 = .ok (.ireturn, 1) := dec_at kDL_law_700 11 rfl
theorem dL_law_1280 : decode cL_law 1280 = .ok (.aload_n 1, 1) := dec_at kDL_law_700 12 rfl
theorem dL_law_1281 : decode cL_law 1281 = .ok (.aload_n 0, 1) := dec_at kDL_law_700 13 rfl
theorem dL_law_1282 : decode cL_law 1282 = .ok (.iload 4, 2) := dec_at kDL_law_700 14 rfl
theorem dL_law_1284 : decode cL_law 1284 = .ok (.iconst 1, 1) := dec_at kDL_law_700 15 rfl
theorem dL_law_1285 : decode cL_law 1285 = .ok (.iadd, 1) := dec_at kDL_law_700 16 rfl
theorem dL_law_1286 : decode cL_law 1286 = .ok (.iaload, 1) := dec_at kDL_law_700 17 rfl
theorem dL_law_1287 : decode cL_law 1287 = .ok (.aload_n 3, 1) := dec_at kDL_law_700 18 rfl
theorem dL_law_1288 : decode cL_law 1288 = .ok (.invokestatic 174, 3) := dec_at kDL_law_700 19 rfl
theorem dL_law_1291 : decode cL_law 1291 = .ok (.istore 5, 2) := dec_at kDL_law_700 20 rfl
theorem dL_law_1293 : decode cL_law 1293 = .ok (.aload_n 2, 1) := dec_at kDL_law_700 21 rfl
theorem dL_law_1294 : decode cL_law 1294 = .ok (.aload_n 0, 1) := dec_at kDL_law_700 22 rfl
theorem dL_law_1295 : decode cL_law 1295 = .ok (.iload 4, 2) := dec_at kDL_law_700 23 rfl
theorem dL_law_1297 : decode cL_law 1297 = .ok (.iconst 1, 1) := dec_at kDL_law_700 24 rfl
theorem dL_law_1298 : decode cL_law 1298 = .ok (.iadd, 1) := dec_at kDL_law_700 25 rfl
theorem dL_law_1299 : decode cL_law 1299 = .ok (.iaload, 1) := dec_at kDL_law_700 26 rfl
theorem dL_law_1300 : decode cL_law 1300 = .ok (.invokevirtual 176, 3) := dec_at kDL_law_700 27 rfl
theorem dL_law_1303 : decode cL_law 1303 = .ok (.lstore 6, 2) := dec_at kDL_law_700 28 rfl
theorem dL_law_1305 : decode cL_law 1305 = .ok (.aload_n 2, 1) := dec_at kDL_law_700 29 rfl
theorem dL_law_1306 : decode cL_law 1306 = .ok (.invokevirtual 98, 3) := dec_at kDL_law_700 30 rfl
theorem dL_law_1309 : decode cL_law 1309 = .ok (.iload 5, 2) := dec_at kDL_law_700 31 rfl
theorem dL_law_1311 : decode cL_law 1311 = .ok (.if_icmp .eq 5, 3) := dec_at kDL_law_700 32 rfl
theorem dL_law_1314 : decode cL_law 1314 = .ok (.iconst 0, 1) := dec_at kDL_law_700 33 rfl
theorem dL_law_1315 : decode cL_law 1315 = .ok (.ireturn, 1) := dec_at kDL_law_700 34 rfl
theorem dL_law_1316 : decode cL_law 1316 = .ok (.iload 5, 2) := dec_at kDL_law_700 35 rfl
theorem dL_law_1318 : decode cL_law 1318 = .ok (.ifCond .ne 14, 3) := dec_at kDL_law_700 36 rfl
theorem dL_law_1321 : decode cL_law 1321 = .ok (.aload_n 3, 1) := dec_at kDL_law_700 37 rfl
theorem dL_law_1322 : decode cL_law 1322 = .ok (.iconst 0, 1) := dec_at kDL_law_700 38 rfl
theorem dL_law_1323 : decode cL_law 1323 = .ok (.laload, 1) := dec_at kDL_law_700 39 rfl
theorem dL_law_1324 : decode cL_law 1324 = .ok (.lload 6, 2) := dec_at kDL_law_700 40 rfl
theorem dL_law_1326 : decode cL_law 1326 = .ok (.lcmp, 1) := dec_at kDL_law_700 41 rfl
theorem dL_law_1327 : decode cL_law 1327 = .ok (.ifCond .eq 5, 3) := dec_at kDL_law_700 42 rfl
theorem dL_law_1330 : decode cL_law 1330 = .ok (.iconst 0, 1) := dec_at kDL_law_700 43 rfl
theorem dL_law_1331 : decode cL_law 1331 = .ok (.ireturn, 1) := dec_at kDL_law_700 44 rfl
theorem dL_law_1332 : decode cL_law 1332 = .ok (.goto 173, 3) := dec_at kDL_law_700 45 rfl
theorem dL_law_1335 : decode cL_law 1335 = .ok (.aload_n 1, 1) := dec_at kDL_law_700 46 rfl
theorem dL_law_1336 : decode cL_law 1336 = .ok (.aload_n 0, 1) := dec_at kDL_law_700 47 rfl
theorem dL_law_1337 : decode cL_law 1337 = .ok (.iload 4, 2) := dec_at kDL_law_700 48 rfl
theorem dL_law_1339 : decode cL_law 1339 = .ok (.iconst 1, 1) := dec_at kDL_law_700 49 rfl
def DL_law_750 : List (Nat × (Instr × Nat)) := [(1340, (.iadd, 1)), (1341, (.iaload, 1)), (1342, (.aload_n 3, 1)), (1343, (.invokestatic 177, 3)), (1346, (.istore 5, 2)), (1348, (.aload_n 2, 1)), (1349, (.aload_n 0, 1)), (1350, (.iload 4, 2)), (1352, (.iconst 1, 1)), (1353, (.iadd, 1)), (1354, (.iaload, 1)), (1355, (.invokevirtual 179, 3)), (1358, (.istore 6, 2)), (1360, (.aload_n 2, 1)), (1361, (.invokevirtual 98, 3)), (1364, (.iload 5, 2)), (1366, (.if_icmp .eq 5, 3)), (1369, (.iconst 0, 1)), (1370, (.ireturn, 1)), (1371, (.iload 5, 2)), (1373, (.ifCond .ne 22, 3)), (1376, (.aload_n 3, 1)), (1377, (.iconst 0, 1)), (1378, (.laload, 1)), (1379, (.iload 6, 2)), (1381, (.ifCond .eq 7, 3)), (1384, (.lconst 1, 1)), (1385, (.goto 4, 3)), (1388, (.lconst 0, 1)), (1389, (.lcmp, 1)), (1390, (.ifCond .eq 5, 3)), (1393, (.iconst 0, 1)), (1394, (.ireturn, 1)), (1395, (.goto 110, 3)), (1398, (.aload_n 1, 1)), (1399, (.invokevirtual 180, 3)), (1402, (.aload_n 2, 1)), (1403, (.invokevirtual 183, 3)), (1406, (.if_icmp .eq 99, 3)), (1409, (.iconst 0, 1)), (1410, (.ireturn, 1)), (1411, (.aload_n 1, 1)), (1412, (.aload_n 0, 1)), (1413, (.iload 4, 2)), (1415, (.iconst 1, 1)), (1416, (.iadd, 1)), (1417, (.iaload, 1)), (1418, (.aload_n 0, 1)), (1419, (.iload 4, 2)), (1421, (.iconst 2, 1))]
theorem kDL_law_750 : DL_law_750.all (fun q => decide (decode cL_law q.1 = .ok q.2)) = true := by decide +kernel
theorem dL_law_1340 : decode cL_law 1340 = .ok (.iadd, 1) := dec_at kDL_law_750 0 rfl
theorem dL_law_1341 : decode cL_law 1341 = .ok (.iaload, 1) := dec_at kDL_law_750 1 rfl
theorem dL_law_1342 : decode cL_law 1342 = .ok (.aload_n 3, 1) := dec_at kDL_law_750 2 rfl
theorem dL_law_1343 : decode cL_law 1343 = .ok (.invokestatic 177, 3) := dec_at kDL_law_750 3 rfl
theorem dL_law_1346 : decode cL_law 1346 = .ok (.istore 5, 2) := dec_at kDL_law_750 4 rfl
theorem dL_law_1348 : decode cL_law 1348 = .ok (.aload_n 2, 1) := dec_at kDL_law_750 5 rfl
theorem dL_law_1349 : decode cL_law 1349 = .ok (.aload_n 0, 1) := dec_at kDL_law_750 6 rfl
theorem dL_law_1350 : decode cL_law 1350 = .ok (.iload 4, 2) := dec_at kDL_law_750 7 rfl
theorem dL_law_1352 : decode cL_law 1352 = .ok (.iconst 1, 1) := dec_at kDL_law_750 8 rfl
theorem dL_law_1353 : decode cL_law 1353 = .ok (.iadd, 1) := dec_at kDL_law_750 9 rfl
theorem dL_law_1354 : decode cL_law 1354 = .ok (.iaload, 1) := dec_at kDL_law_750 10 rfl
theorem dL_law_1355 : decode cL_law 1355 = .ok (.invokevirtual 179, 3) := dec_at kDL_law_750 11 rfl
theorem dL_law_1358 : decode cL_law 1358 = .ok (.istore 6, 2) := dec_at kDL_law_750 12 rfl
theorem dL_law_1360 : decode cL_law 1360 = .ok (.aload_n 2, 1) := dec_at kDL_law_750 13 rfl
theorem dL_law_1361 : decode cL_law 1361 = .ok (.invokevirtual 98, 3) := dec_at kDL_law_750 14 rfl
theorem dL_law_1364 : decode cL_law 1364 = .ok (.iload 5, 2) := dec_at kDL_law_750 15 rfl
theorem dL_law_1366 : decode cL_law 1366 = .ok (.if_icmp .eq 5, 3) := dec_at kDL_law_750 16 rfl
theorem dL_law_1369 : decode cL_law 1369 = .ok (.iconst 0, 1) := dec_at kDL_law_750 17 rfl
theorem dL_law_1370 : decode cL_law 1370 = .ok (.ireturn, 1) := dec_at kDL_law_750 18 rfl
theorem dL_law_1371 : decode cL_law 1371 = .ok (.iload 5, 2) := dec_at kDL_law_750 19 rfl
theorem dL_law_1373 : decode cL_law 1373 = .ok (.ifCond .ne 22, 3) := dec_at kDL_law_750 20 rfl
theorem dL_law_1376 : decode cL_law 1376 = .ok (.aload_n 3, 1) := dec_at kDL_law_750 21 rfl
theorem dL_law_1377 : decode cL_law 1377 = .ok (.iconst 0, 1) := dec_at kDL_law_750 22 rfl
theorem dL_law_1378 : decode cL_law 1378 = .ok (.laload, 1) := dec_at kDL_law_750 23 rfl
theorem dL_law_1379 : decode cL_law 1379 = .ok (.iload 6, 2) := dec_at kDL_law_750 24 rfl
theorem dL_law_1381 : decode cL_law 1381 = .ok (.ifCond .eq 7, 3) := dec_at kDL_law_750 25 rfl
theorem dL_law_1384 : decode cL_law 1384 = .ok (.lconst 1, 1) := dec_at kDL_law_750 26 rfl
theorem dL_law_1385 : decode cL_law 1385 = .ok (.goto 4, 3) := dec_at kDL_law_750 27 rfl
theorem dL_law_1388 : decode cL_law 1388 = .ok (.lconst 0, 1) := dec_at kDL_law_750 28 rfl
theorem dL_law_1389 : decode cL_law 1389 = .ok (.lcmp, 1) := dec_at kDL_law_750 29 rfl
theorem dL_law_1390 : decode cL_law 1390 = .ok (.ifCond .eq 5, 3) := dec_at kDL_law_750 30 rfl
theorem dL_law_1393 : decode cL_law 1393 = .ok (.iconst 0, 1) := dec_at kDL_law_750 31 rfl
theorem dL_law_1394 : decode cL_law 1394 = .ok (.ireturn, 1) := dec_at kDL_law_750 32 rfl
theorem dL_law_1395 : decode cL_law 1395 = .ok (.goto 110, 3) := dec_at kDL_law_750 33 rfl
theorem dL_law_1398 : decode cL_law 1398 = .ok (.aload_n 1, 1) := dec_at kDL_law_750 34 rfl
theorem dL_law_1399 : decode cL_law 1399 = .ok (.invokevirtual 180, 3) := dec_at kDL_law_750 35 rfl
theorem dL_law_1402 : decode cL_law 1402 = .ok (.aload_n 2, 1) := dec_at kDL_law_750 36 rfl
theorem dL_law_1403 : decode cL_law 1403 = .ok (.invokevirtual 183, 3) := dec_at kDL_law_750 37 rfl
theorem dL_law_1406 : decode cL_law 1406 = .ok (.if_icmp .eq 99, 3) := dec_at kDL_law_750 38 rfl
theorem dL_law_1409 : decode cL_law 1409 = .ok (.iconst 0, 1) := dec_at kDL_law_750 39 rfl
theorem dL_law_1410 : decode cL_law 1410 = .ok (.ireturn, 1) := dec_at kDL_law_750 40 rfl
theorem dL_law_1411 : decode cL_law 1411 = .ok (.aload_n 1, 1) := dec_at kDL_law_750 41 rfl
theorem dL_law_1412 : decode cL_law 1412 = .ok (.aload_n 0, 1) := dec_at kDL_law_750 42 rfl
theorem dL_law_1413 : decode cL_law 1413 = .ok (.iload 4, 2) := dec_at kDL_law_750 43 rfl
theorem dL_law_1415 : decode cL_law 1415 = .ok (.iconst 1, 1) := dec_at kDL_law_750 44 rfl
theorem dL_law_1416 : decode cL_law 1416 = .ok (.iadd, 1) := dec_at kDL_law_750 45 rfl
theorem dL_law_1417 : decode cL_law 1417 = .ok (.iaload, 1) := dec_at kDL_law_750 46 rfl
theorem dL_law_1418 : decode cL_law 1418 = .ok (.aload_n 0, 1) := dec_at kDL_law_750 47 rfl
theorem dL_law_1419 : decode cL_law 1419 = .ok (.iload 4, 2) := dec_at kDL_law_750 48 rfl
theorem dL_law_1421 : decode cL_law 1421 = .ok (.iconst 2, 1) := dec_at kDL_law_750 49 rfl
def DL_law_800 : List (Nat × (Instr × Nat)) := [(1422, (.iadd, 1)), (1423, (.iaload, 1)), (1424, (.aload_n 0, 1)), (1425, (.iload 4, 2)), (1427, (.iconst 3, 1)), (1428, (.iadd, 1)), (1429, (.iaload, 1)), (1430, (.aload_n 3, 1)), (1431, (.invokestatic 184, 3)), (1434, (.istore 5, 2)), (1436, (.aload_n 2, 1)), (1437, (.aload_n 0, 1)), (1438, (.iload 4, 2)), (1440, (.iconst 1, 1)), (1441, (.iadd, 1)), (1442, (.iaload, 1)), (1443, (.aload_n 0, 1)), (1444, (.iload 4, 2)), (1446, (.iconst 2, 1)), (1447, (.iadd, 1)), (1448, (.iaload, 1)), (1449, (.aload_n 0, 1)), (1450, (.iload 4, 2)), (1452, (.iconst 3, 1)), (1453, (.iadd, 1)), (1454, (.iaload, 1)), (1455, (.invokevirtual 187, 3)), (1458, (.istore 6, 2)), (1460, (.aload_n 2, 1)), (1461, (.invokevirtual 98, 3)), (1464, (.iload 5, 2)), (1466, (.if_icmp .eq 5, 3)), (1469, (.iconst 0, 1)), (1470, (.ireturn, 1)), (1471, (.iload 5, 2)), (1473, (.ifCond .ne 15, 3)), (1476, (.aload_n 3, 1)), (1477, (.iconst 0, 1)), (1478, (.laload, 1)), (1479, (.iload 6, 2)), (1481, (.i2l, 1)), (1482, (.lcmp, 1)), (1483, (.ifCond .eq 5, 3)), (1486, (.iconst 0, 1)), (1487, (.ireturn, 1)), (1488, (.goto 17, 3)), (1491, (.aload_n 1, 1)), (1492, (.invokevirtual 188, 3)), (1495, (.aload_n 2, 1)), (1496, (.invokevirtual 191, 3))]
theorem kDL_law_800 : DL_law_800.all (fun q => decide (decode cL_law q.1 = .ok q.2)) = true := by decide +kernel
theorem dL_law_1422 : decode cL_law 1422 = .ok (.iadd, 1) := dec_at kDL_law_800 0 rfl
theorem dL_law_1423 : decode cL_law 1423 = .ok (.iaload, 1) := dec_at kDL_law_800 1 rfl
theorem dL_law_1424 : decode cL_law 1424 = .ok (.aload_n 0, 1) := dec_at kDL_law_800 2 rfl
theorem dL_law_1425 : decode cL_law 1425 = .ok (.iload 4, 2) := dec_at kDL_law_800 3 rfl
theorem dL_law_1427 : decode cL_law 1427 = .ok (.iconst 3, 1) := dec_at kDL_law_800 4 rfl
theorem dL_law_1428 : decode cL_law 1428 = .ok (.iadd, 1) := dec_at kDL_law_800 5 rfl
theorem dL_law_1429 : decode cL_law 1429 = .ok (.iaload, 1) := dec_at kDL_law_800 6 rfl
theorem dL_law_1430 : decode cL_law 1430 = .ok (.aload_n 3, 1) := dec_at kDL_law_800 7 rfl
theorem dL_law_1431 : decode cL_law 1431 = .ok (.invokestatic 184, 3) := dec_at kDL_law_800 8 rfl
theorem dL_law_1434 : decode cL_law 1434 = .ok (.istore 5, 2) := dec_at kDL_law_800 9 rfl
theorem dL_law_1436 : decode cL_law 1436 = .ok (.aload_n 2, 1) := dec_at kDL_law_800 10 rfl
theorem dL_law_1437 : decode cL_law 1437 = .ok (.aload_n 0, 1) := dec_at kDL_law_800 11 rfl
theorem dL_law_1438 : decode cL_law 1438 = .ok (.iload 4, 2) := dec_at kDL_law_800 12 rfl
theorem dL_law_1440 : decode cL_law 1440 = .ok (.iconst 1, 1) := dec_at kDL_law_800 13 rfl
theorem dL_law_1441 : decode cL_law 1441 = .ok (.iadd, 1) := dec_at kDL_law_800 14 rfl
theorem dL_law_1442 : decode cL_law 1442 = .ok (.iaload, 1) := dec_at kDL_law_800 15 rfl
theorem dL_law_1443 : decode cL_law 1443 = .ok (.aload_n 0, 1) := dec_at kDL_law_800 16 rfl
theorem dL_law_1444 : decode cL_law 1444 = .ok (.iload 4, 2) := dec_at kDL_law_800 17 rfl
theorem dL_law_1446 : decode cL_law 1446 = .ok (.iconst 2, 1) := dec_at kDL_law_800 18 rfl
theorem dL_law_1447 : decode cL_law 1447 = .ok (.iadd, 1) := dec_at kDL_law_800 19 rfl
theorem dL_law_1448 : decode cL_law 1448 = .ok (.iaload, 1) := dec_at kDL_law_800 20 rfl
theorem dL_law_1449 : decode cL_law 1449 = .ok (.aload_n 0, 1) := dec_at kDL_law_800 21 rfl
theorem dL_law_1450 : decode cL_law 1450 = .ok (.iload 4, 2) := dec_at kDL_law_800 22 rfl
theorem dL_law_1452 : decode cL_law 1452 = .ok (.iconst 3, 1) := dec_at kDL_law_800 23 rfl
theorem dL_law_1453 : decode cL_law 1453 = .ok (.iadd, 1) := dec_at kDL_law_800 24 rfl
theorem dL_law_1454 : decode cL_law 1454 = .ok (.iaload, 1) := dec_at kDL_law_800 25 rfl
theorem dL_law_1455 : decode cL_law 1455 = .ok (.invokevirtual 187, 3) := dec_at kDL_law_800 26 rfl
theorem dL_law_1458 : decode cL_law 1458 = .ok (.istore 6, 2) := dec_at kDL_law_800 27 rfl
theorem dL_law_1460 : decode cL_law 1460 = .ok (.aload_n 2, 1) := dec_at kDL_law_800 28 rfl
theorem dL_law_1461 : decode cL_law 1461 = .ok (.invokevirtual 98, 3) := dec_at kDL_law_800 29 rfl
theorem dL_law_1464 : decode cL_law 1464 = .ok (.iload 5, 2) := dec_at kDL_law_800 30 rfl
theorem dL_law_1466 : decode cL_law 1466 = .ok (.if_icmp .eq 5, 3) := dec_at kDL_law_800 31 rfl
theorem dL_law_1469 : decode cL_law 1469 = .ok (.iconst 0, 1) := dec_at kDL_law_800 32 rfl
theorem dL_law_1470 : decode cL_law 1470 = .ok (.ireturn, 1) := dec_at kDL_law_800 33 rfl
theorem dL_law_1471 : decode cL_law 1471 = .ok (.iload 5, 2) := dec_at kDL_law_800 34 rfl
theorem dL_law_1473 : decode cL_law 1473 = .ok (.ifCond .ne 15, 3) := dec_at kDL_law_800 35 rfl
theorem dL_law_1476 : decode cL_law 1476 = .ok (.aload_n 3, 1) := dec_at kDL_law_800 36 rfl
theorem dL_law_1477 : decode cL_law 1477 = .ok (.iconst 0, 1) := dec_at kDL_law_800 37 rfl
theorem dL_law_1478 : decode cL_law 1478 = .ok (.laload, 1) := dec_at kDL_law_800 38 rfl
theorem dL_law_1479 : decode cL_law 1479 = .ok (.iload 6, 2) := dec_at kDL_law_800 39 rfl
theorem dL_law_1481 : decode cL_law 1481 = .ok (.i2l, 1) := dec_at kDL_law_800 40 rfl
theorem dL_law_1482 : decode cL_law 1482 = .ok (.lcmp, 1) := dec_at kDL_law_800 41 rfl
theorem dL_law_1483 : decode cL_law 1483 = .ok (.ifCond .eq 5, 3) := dec_at kDL_law_800 42 rfl
theorem dL_law_1486 : decode cL_law 1486 = .ok (.iconst 0, 1) := dec_at kDL_law_800 43 rfl
theorem dL_law_1487 : decode cL_law 1487 = .ok (.ireturn, 1) := dec_at kDL_law_800 44 rfl
theorem dL_law_1488 : decode cL_law 1488 = .ok (.goto 17, 3) := dec_at kDL_law_800 45 rfl
theorem dL_law_1491 : decode cL_law 1491 = .ok (.aload_n 1, 1) := dec_at kDL_law_800 46 rfl
theorem dL_law_1492 : decode cL_law 1492 = .ok (.invokevirtual 188, 3) := dec_at kDL_law_800 47 rfl
theorem dL_law_1495 : decode cL_law 1495 = .ok (.aload_n 2, 1) := dec_at kDL_law_800 48 rfl
theorem dL_law_1496 : decode cL_law 1496 = .ok (.invokevirtual 191, 3) := dec_at kDL_law_800 49 rfl
def DL_law_850 : List (Nat × (Instr × Nat)) := [(1499, (.lcmp, 1)), (1500, (.ifCond .eq 5, 3)), (1503, (.iconst 0, 1)), (1504, (.ireturn, 1)), (1505, (.iinc 4 4, 3)), (1508, (.goto (-1485), 3)), (1511, (.iconst 1, 1)), (1512, (.ireturn, 1))]
theorem kDL_law_850 : DL_law_850.all (fun q => decide (decode cL_law q.1 = .ok q.2)) = true := by decide +kernel
theorem dL_law_1499 : decode cL_law 1499 = .ok (.lcmp, 1) := dec_at kDL_law_850 0 rfl
theorem dL_law_1500 : decode cL_law 1500 = .ok (.ifCond .eq 5, 3) := dec_at kDL_law_850 1 rfl
theorem dL_law_1503 : decode cL_law 1503 = .ok (.iconst 0, 1) := dec_at kDL_law_850 2 rfl
theorem dL_law_1504 : decode cL_law 1504 = .ok (.ireturn, 1) := dec_at kDL_law_850 3 rfl
theorem dL_law_1505 : decode cL_law 1505 = .ok (.iinc 4 4, 3) := dec_at kDL_law_850 4 rfl
theorem dL_law_1508 : decode cL_law 1508 = .ok (.goto (-1485), 3) := dec_at kDL_law_850 5 rfl
theorem dL_law_1511 : decode cL_law 1511 = .ok (.iconst 1, 1) := dec_at kDL_law_850 6 rfl
theorem dL_law_1512 : decode cL_law 1512 = .ok (.ireturn, 1) := dec_at kDL_law_850 7 rfl
