theorem hdd_X3_init : yX3_init.cls ≠ "java/lang/invoke/MethodHandle" ∧ yX3_init.cls ≠ "java/lang/invoke/VarHandle" ∧ (parseMethodDescriptor yX3_init.desc).map (fun d => d.parameters.length) = some 0 := by decide +kernel
theorem hdd_X1_init : yX1_init.cls ≠ "java/lang/invoke/MethodHandle" ∧ yX1_init.cls ≠ "java/lang/invoke/VarHandle" ∧ (parseMethodDescriptor yX1_init.desc).map (fun d => d.parameters.length) = some 0 := by decide +kernel
theorem hdd_X2_init : yX2_init.cls ≠ "java/lang/invoke/MethodHandle" ∧ yX2_init.cls ≠ "java/lang/invoke/VarHandle" ∧ (parseMethodDescriptor yX2_init.desc).map (fun d => d.parameters.length) = some 1 := by decide +kernel
theorem hdd_X5_init : yX5_init.cls ≠ "java/lang/invoke/MethodHandle" ∧ yX5_init.cls ≠ "java/lang/invoke/VarHandle" ∧ (parseMethodDescriptor yX5_init.desc).map (fun d => d.parameters.length) = some 2 := by decide +kernel
theorem hdd_X4_init : yX4_init.cls ≠ "java/lang/invoke/MethodHandle" ∧ yX4_init.cls ≠ "java/lang/invoke/VarHandle" ∧ (parseMethodDescriptor yX4_init.desc).map (fun d => d.parameters.length) = some 1 := by decide +kernel
theorem hdd_X0_init : yX0_init.cls ≠ "java/lang/invoke/MethodHandle" ∧ yX0_init.cls ≠ "java/lang/invoke/VarHandle" ∧ (parseMethodDescriptor yX0_init.desc).map (fun d => d.parameters.length) = some 0 := by decide +kernel
theorem hdd_X6_init : yX6_init.cls ≠ "java/lang/invoke/MethodHandle" ∧ yX6_init.cls ≠ "java/lang/invoke/VarHandle" ∧ (parseMethodDescriptor yX6_init.desc).map (fun d => d.parameters.length) = some 0 := by decide +kernel
theorem hdd_X7_init : yX7_init.cls ≠ "java/lang/invoke/MethodHandle" ∧ yX7_init.cls ≠ "java/lang/invoke/VarHandle" ∧ (parseMethodDescriptor yX7_init.desc).map (fun d => d.parameters.length) = some 0 := by decide +kernel
abbrev post_X3 (cA : Nat → ClassId) (h : Nat) (f : Nat → Nat) : va_W := [(h, .inr (3, [.ref (f 0), .ref (f 1), .ref (f 2), .int 0, .int 0, .int 0, .int 0, .int 0])), ((f 0), .inl (cA 0, 60, .inl (fun _ => 0))), ((f 1), .inl (cA 0, 60, .inl (fun _ => 0))), ((f 2), .inl (cA 1, 60, .inr (.inl (fun _ => 0))))]
set_option maxRecDepth 20000 in
set_option maxHeartbeats 4000000 in
theorem c_X3_init {l : Launch} {D : va_G} {cA : Nat → ClassId} {h : Nat} {E : (Nat → Prop) → State → Prop} (hE : EOK E) : MetC l yX3_init cX3_init 1 1 3 180 D cA E [(h, .inr (3, [.null, .null, .null, .int 0, .int 0, .int 0, .int 0, .int 0]))] [.ref h] (post_X3 cA h) := by
  refine mkC (by decide) rfl (Nat.le_of_ble_eq_true rfl) ?_
  intro p e R s m args below meth c A Q ls X hR hp hl
  obtain ⟨hx, hb, -⟩ := id X
  have hl : lv_has ls 1 [(0, .ref h)] := hl
  refine lv_aload_n hx hb dX3_init_0 rfl (lv_at hl 0 rfl) ?_
  refine cobj X tw_2_12 tw_1_11 tw_1_12 hl.1 (by decide) dX3_init_1 ?_
  refine lv_aload_n hx hb dX3_init_4 rfl (lv_at hl 0 rfl) ?_
  refine lv_bipush (v := 60) hx hb dX3_init_5 (by decide) ?_
  refine cI (N := 60) X hp tw_2_13 (by decide) (by decide) (Nat.le_of_ble_eq_true rfl) (Nat.le_of_ble_eq_true rfl) (Nat.le_of_ble_eq_true rfl) dX3_init_7 (fun q1 H hp => ?_)
  have hp : Pg D A s.heap H _ [(h, .inr (3, [.null, .null, .null, .int 0, .int 0, .int 0, .int 0, .int 0])), (q1, .inl (cA 0, 60, .inl (fun _ => 0)))] := hp
  refine W.widen (k := 1) (n := 60) (Nat.le_of_ble_eq_true rfl) (Nat.le_of_ble_eq_true rfl) ?_
  refine cput (q0 := 0) (ci := 3) (k := 0) (T := TX3) (N := 8) (C := RX3) (ref := "SafetyProver$FormulaBuffer") (ty := tyX3 0) (ws' := [(h, .inr (3, [.ref q1, .null, .null, .int 0, .int 0, .int 0, .int 0, .int 0])), (q1, .inl (cA 0, 60, .inl (fun _ => 0)))]) X hp rfl rfl (by decide) (Nat.le_of_ble_eq_true rfl) inlX3 tyX3_ok nmX3 tw_2_14 rfl rfl rfl (by decide +kernel) rfl rfl dX3_init_9 rfl (fun H locs hp => ?_)
  refine lv_aload_n hx hb dX3_init_12 rfl (lv_at hl 0 rfl) ?_
  refine lv_bipush (v := 60) hx hb dX3_init_13 (by decide) ?_
  refine cI (N := 60) X hp tw_2_13 (by decide) (by decide) (Nat.le_of_ble_eq_true rfl) (Nat.le_of_ble_eq_true rfl) (Nat.le_of_ble_eq_true rfl) dX3_init_15 (fun q2 H hp => ?_)
  have hp : Pg D A s.heap H _ [(h, .inr (3, [.ref q1, .null, .null, .int 0, .int 0, .int 0, .int 0, .int 0])), (q1, .inl (cA 0, 60, .inl (fun _ => 0))), (q2, .inl (cA 0, 60, .inl (fun _ => 0)))] := hp
  refine W.widen (k := 2) (n := 120) (Nat.le_of_ble_eq_true rfl) (Nat.le_of_ble_eq_true rfl) ?_
  refine cput (q0 := 0) (ci := 3) (k := 1) (T := TX3) (N := 8) (C := RX3) (ref := "SafetyProver$FormulaBuffer") (ty := tyX3 1) (ws' := [(h, .inr (3, [.ref q1, .ref q2, .null, .int 0, .int 0, .int 0, .int 0, .int 0])), (q1, .inl (cA 0, 60, .inl (fun _ => 0))), (q2, .inl (cA 0, 60, .inl (fun _ => 0)))]) X hp rfl rfl (by decide) (Nat.le_of_ble_eq_true rfl) inlX3 tyX3_ok nmX3 tw_2_15 rfl rfl rfl (by decide +kernel) rfl rfl dX3_init_17 rfl (fun H locs hp => ?_)
  refine lv_aload_n hx hb dX3_init_20 rfl (lv_at hl 0 rfl) ?_
  refine lv_bipush (v := 60) hx hb dX3_init_21 (by decide) ?_
  refine cJ (N := 60) X hp tw_1_6 (by decide) (by decide) (Nat.le_of_ble_eq_true rfl) (Nat.le_of_ble_eq_true rfl) (Nat.le_of_ble_eq_true rfl) dX3_init_23 (fun q3 H hp => ?_)
  have hp : Pg D A s.heap H _ [(h, .inr (3, [.ref q1, .ref q2, .null, .int 0, .int 0, .int 0, .int 0, .int 0])), (q1, .inl (cA 0, 60, .inl (fun _ => 0))), (q2, .inl (cA 0, 60, .inl (fun _ => 0))), (q3, .inl (cA 1, 60, .inr (.inl (fun _ => 0))))] := hp
  refine W.widen (k := 3) (n := 180) (Nat.le_of_ble_eq_true rfl) (Nat.le_of_ble_eq_true rfl) ?_
  refine cput (q0 := 0) (ci := 3) (k := 2) (T := TX3) (N := 8) (C := RX3) (ref := "SafetyProver$FormulaBuffer") (ty := tyX3 2) (ws' := [(h, .inr (3, [.ref q1, .ref q2, .ref q3, .int 0, .int 0, .int 0, .int 0, .int 0])), (q1, .inl (cA 0, 60, .inl (fun _ => 0))), (q2, .inl (cA 0, 60, .inl (fun _ => 0))), (q3, .inl (cA 1, 60, .inr (.inl (fun _ => 0))))]) X hp rfl rfl (by decide) (Nat.le_of_ble_eq_true rfl) inlX3 tyX3_ok nmX3 tw_2_16 rfl rfl rfl (by decide +kernel) rfl rfl dX3_init_25 rfl (fun H locs hp => ?_)
  exact hR (fun k => ([q1, q2, q3] : List Nat).getD k 0) _ _ _ _ _ _ dX3_init_28 (Nat.le_refl _) (Nat.le_refl _) hp
abbrev post_X1 (cA : Nat → ClassId) (h : Nat) (f : Nat → Nat) : va_W := [(h, .inr (1, [.ref (f 0), .ref (f 1), .ref (f 2), .ref (f 3), .int 0])), ((f 0), .inl (cA 0, 729, .inl (fun _ => 0))), ((f 1), .inl (cA 0, 729, .inl (fun _ => 0))), ((f 2), .inl (cA 0, 729, .inl (fun _ => 0))), ((f 3), .inl (cA 1, 729, .inr (.inl (fun _ => 0))))]
set_option maxRecDepth 20000 in
set_option maxHeartbeats 4000000 in
theorem c_X1_init {l : Launch} {D : va_G} {cA : Nat → ClassId} {h : Nat} {E : (Nat → Prop) → State → Prop} (hE : EOK E) : MetC l yX1_init cX1_init 1 1 4 2916 D cA E [(h, .inr (1, [.null, .null, .null, .null, .int 0]))] [.ref h] (post_X1 cA h) := by
  refine mkC (by decide) rfl (Nat.le_of_ble_eq_true rfl) ?_
  intro p e R s m args below meth c A Q ls X hR hp hl
  obtain ⟨hx, hb, -⟩ := id X
  have hl : lv_has ls 1 [(0, .ref h)] := hl
  refine lv_aload_n hx hb dX1_init_0 rfl (lv_at hl 0 rfl) ?_
  refine cobj X tw_5_0 tw_1_11 tw_1_12 hl.1 (by decide) dX1_init_1 ?_
  refine lv_aload_n hx hb dX1_init_4 rfl (lv_at hl 0 rfl) ?_
  refine lv_sipush (v := 729) hx hb dX1_init_5 (by decide) ?_
  refine cI (N := 729) X hp tw_2_13 (by decide) (by decide) (Nat.le_of_ble_eq_true rfl) (Nat.le_of_ble_eq_true rfl) (Nat.le_of_ble_eq_true rfl) dX1_init_8 (fun q1 H hp => ?_)
  have hp : Pg D A s.heap H _ [(h, .inr (1, [.null, .null, .null, .null, .int 0])), (q1, .inl (cA 0, 729, .inl (fun _ => 0)))] := hp
  refine W.widen (k := 1) (n := 729) (Nat.le_of_ble_eq_true rfl) (Nat.le_of_ble_eq_true rfl) ?_
  refine cput (q0 := 0) (ci := 1) (k := 0) (T := TX1) (N := 5) (C := RX1) (ref := "SafetyProver$CubeList") (ty := tyX1 0) (ws' := [(h, .inr (1, [.ref q1, .null, .null, .null, .int 0])), (q1, .inl (cA 0, 729, .inl (fun _ => 0)))]) X hp rfl rfl (by decide) (Nat.le_of_ble_eq_true rfl) inlX1 tyX1_ok nmX1 tw_5_1 rfl rfl rfl (by decide +kernel) rfl rfl dX1_init_10 rfl (fun H locs hp => ?_)
  refine lv_aload_n hx hb dX1_init_13 rfl (lv_at hl 0 rfl) ?_
  refine lv_sipush (v := 729) hx hb dX1_init_14 (by decide) ?_
  refine cI (N := 729) X hp tw_2_13 (by decide) (by decide) (Nat.le_of_ble_eq_true rfl) (Nat.le_of_ble_eq_true rfl) (Nat.le_of_ble_eq_true rfl) dX1_init_17 (fun q2 H hp => ?_)
  have hp : Pg D A s.heap H _ [(h, .inr (1, [.ref q1, .null, .null, .null, .int 0])), (q1, .inl (cA 0, 729, .inl (fun _ => 0))), (q2, .inl (cA 0, 729, .inl (fun _ => 0)))] := hp
  refine W.widen (k := 2) (n := 1458) (Nat.le_of_ble_eq_true rfl) (Nat.le_of_ble_eq_true rfl) ?_
  refine cput (q0 := 0) (ci := 1) (k := 1) (T := TX1) (N := 5) (C := RX1) (ref := "SafetyProver$CubeList") (ty := tyX1 1) (ws' := [(h, .inr (1, [.ref q1, .ref q2, .null, .null, .int 0])), (q1, .inl (cA 0, 729, .inl (fun _ => 0))), (q2, .inl (cA 0, 729, .inl (fun _ => 0)))]) X hp rfl rfl (by decide) (Nat.le_of_ble_eq_true rfl) inlX1 tyX1_ok nmX1 tw_5_2 rfl rfl rfl (by decide +kernel) rfl rfl dX1_init_19 rfl (fun H locs hp => ?_)
  refine lv_aload_n hx hb dX1_init_22 rfl (lv_at hl 0 rfl) ?_
  refine lv_sipush (v := 729) hx hb dX1_init_23 (by decide) ?_
  refine cI (N := 729) X hp tw_2_13 (by decide) (by decide) (Nat.le_of_ble_eq_true rfl) (Nat.le_of_ble_eq_true rfl) (Nat.le_of_ble_eq_true rfl) dX1_init_26 (fun q3 H hp => ?_)
  have hp : Pg D A s.heap H _ [(h, .inr (1, [.ref q1, .ref q2, .null, .null, .int 0])), (q1, .inl (cA 0, 729, .inl (fun _ => 0))), (q2, .inl (cA 0, 729, .inl (fun _ => 0))), (q3, .inl (cA 0, 729, .inl (fun _ => 0)))] := hp
  refine W.widen (k := 3) (n := 2187) (Nat.le_of_ble_eq_true rfl) (Nat.le_of_ble_eq_true rfl) ?_
  refine cput (q0 := 0) (ci := 1) (k := 2) (T := TX1) (N := 5) (C := RX1) (ref := "SafetyProver$CubeList") (ty := tyX1 2) (ws' := [(h, .inr (1, [.ref q1, .ref q2, .ref q3, .null, .int 0])), (q1, .inl (cA 0, 729, .inl (fun _ => 0))), (q2, .inl (cA 0, 729, .inl (fun _ => 0))), (q3, .inl (cA 0, 729, .inl (fun _ => 0)))]) X hp rfl rfl (by decide) (Nat.le_of_ble_eq_true rfl) inlX1 tyX1_ok nmX1 tw_5_3 rfl rfl rfl (by decide +kernel) rfl rfl dX1_init_28 rfl (fun H locs hp => ?_)
  refine lv_aload_n hx hb dX1_init_31 rfl (lv_at hl 0 rfl) ?_
  refine lv_sipush (v := 729) hx hb dX1_init_32 (by decide) ?_
  refine cJ (N := 729) X hp tw_1_6 (by decide) (by decide) (Nat.le_of_ble_eq_true rfl) (Nat.le_of_ble_eq_true rfl) (Nat.le_of_ble_eq_true rfl) dX1_init_35 (fun q4 H hp => ?_)
  have hp : Pg D A s.heap H _ [(h, .inr (1, [.ref q1, .ref q2, .ref q3, .null, .int 0])), (q1, .inl (cA 0, 729, .inl (fun _ => 0))), (q2, .inl (cA 0, 729, .inl (fun _ => 0))), (q3, .inl (cA 0, 729, .inl (fun _ => 0))), (q4, .inl (cA 1, 729, .inr (.inl (fun _ => 0))))] := hp
  refine W.widen (k := 4) (n := 2916) (Nat.le_of_ble_eq_true rfl) (Nat.le_of_ble_eq_true rfl) ?_
  refine cput (q0 := 0) (ci := 1) (k := 3) (T := TX1) (N := 5) (C := RX1) (ref := "SafetyProver$CubeList") (ty := tyX1 3) (ws' := [(h, .inr (1, [.ref q1, .ref q2, .ref q3, .ref q4, .int 0])), (q1, .inl (cA 0, 729, .inl (fun _ => 0))), (q2, .inl (cA 0, 729, .inl (fun _ => 0))), (q3, .inl (cA 0, 729, .inl (fun _ => 0))), (q4, .inl (cA 1, 729, .inr (.inl (fun _ => 0))))]) X hp rfl rfl (by decide) (Nat.le_of_ble_eq_true rfl) inlX1 tyX1_ok nmX1 tw_5_4 rfl rfl rfl (by decide +kernel) rfl rfl dX1_init_37 rfl (fun H locs hp => ?_)
  exact hR (fun k => ([q1, q2, q3, q4] : List Nat).getD k 0) _ _ _ _ _ _ dX1_init_40 (Nat.le_refl _) (Nat.le_refl _) hp
abbrev post_X2 (cA : Nat → ClassId) (h g1 : Nat) (f : Nat → Nat) : va_W := [(h, .inr (2, [.ref g1, .ref (f 0), .ref (f 1), .ref (f 2), .ref (f 3), .ref (f 4), .ref (f 5), .ref (f 6), .long 0, .int 0, .int 0, .int 0])), ((f 0), .inl (cA 0, 256, .inl (fun _ => 0))), ((f 1), .inl (cA 1, 64, .inr (.inl (fun _ => 0)))), ((f 2), .inl (cA 1, 64, .inr (.inl (fun _ => 0)))), ((f 3), .inl (cA 0, 64, .inl (fun _ => 0))), ((f 4), .inl (cA 0, 64, .inl (fun _ => 0))), ((f 5), .inl (cA 0, 64, .inl (fun _ => 0))), ((f 6), .inl (cA 0, 64, .inl (fun _ => 0)))]
set_option maxRecDepth 20000 in
set_option maxHeartbeats 4000000 in
theorem c_X2_init {l : Launch} {D : va_G} {cA : Nat → ClassId} {h g1 : Nat} {E : (Nat → Prop) → State → Prop} (hE : EOK E) : MetC l yX2_init cX2_init 2 1 7 640 D cA E [(h, .inr (2, [.null, .null, .null, .null, .null, .null, .null, .null, .long 0, .int 0, .int 0, .int 0]))] [.ref h, .ref g1] (post_X2 cA h g1) := by
  refine mkC (by decide) rfl (Nat.le_of_ble_eq_true rfl) ?_
  intro p e R s m args below meth c A Q ls X hR hp hl
  obtain ⟨hx, hb, -⟩ := id X
  have hl : lv_has ls 2 [(0, .ref h), (1, .ref g1)] := hl
  refine lv_aload_n hx hb dX2_init_0 rfl (lv_at hl 0 rfl) ?_
  refine cobj X tw_3_23 tw_1_11 tw_1_12 hl.1 (by decide) dX2_init_1 ?_
  refine lv_aload_n hx hb dX2_init_4 rfl (lv_at hl 0 rfl) ?_
  refine lv_aload_n hx hb dX2_init_5 rfl (lv_at hl 1 rfl) ?_
  refine cput (q0 := 0) (ci := 2) (k := 0) (T := TX2) (N := 12) (C := RX2) (ref := "SafetyProver$Exploration") (ty := tyX2 0) (ws' := [(h, .inr (2, [.ref g1, .null, .null, .null, .null, .null, .null, .null, .long 0, .int 0, .int 0, .int 0]))]) X hp rfl rfl (by decide) (Nat.le_of_ble_eq_true rfl) inlX2 tyX2_ok nmX2 tw_4_0 rfl rfl rfl (by decide +kernel) rfl rfl dX2_init_6 rfl (fun H locs hp => ?_)
  refine lv_aload_n hx hb dX2_init_9 rfl (lv_at hl 0 rfl) ?_
  refine lv_sipush (v := 256) hx hb dX2_init_10 (by decide) ?_
  refine cI (N := 256) X hp tw_2_13 (by decide) (by decide) (Nat.le_of_ble_eq_true rfl) (Nat.le_of_ble_eq_true rfl) (Nat.le_of_ble_eq_true rfl) dX2_init_13 (fun q1 H hp => ?_)
  have hp : Pg D A s.heap H _ [(h, .inr (2, [.ref g1, .null, .null, .null, .null, .null, .null, .null, .long 0, .int 0, .int 0, .int 0])), (q1, .inl (cA 0, 256, .inl (fun _ => 0)))] := hp
  refine W.widen (k := 1) (n := 256) (Nat.le_of_ble_eq_true rfl) (Nat.le_of_ble_eq_true rfl) ?_
  refine cput (q0 := 0) (ci := 2) (k := 1) (T := TX2) (N := 12) (C := RX2) (ref := "SafetyProver$Exploration") (ty := tyX2 1) (ws' := [(h, .inr (2, [.ref g1, .ref q1, .null, .null, .null, .null, .null, .null, .long 0, .int 0, .int 0, .int 0])), (q1, .inl (cA 0, 256, .inl (fun _ => 0)))]) X hp rfl rfl (by decide) (Nat.le_of_ble_eq_true rfl) inlX2 tyX2_ok nmX2 tw_4_1 rfl rfl rfl (by decide +kernel) rfl rfl dX2_init_15 rfl (fun H locs hp => ?_)
  refine lv_aload_n hx hb dX2_init_18 rfl (lv_at hl 0 rfl) ?_
  refine lv_bipush (v := 64) hx hb dX2_init_19 (by decide) ?_
  refine cJ (N := 64) X hp tw_1_6 (by decide) (by decide) (Nat.le_of_ble_eq_true rfl) (Nat.le_of_ble_eq_true rfl) (Nat.le_of_ble_eq_true rfl) dX2_init_21 (fun q2 H hp => ?_)
  have hp : Pg D A s.heap H _ [(h, .inr (2, [.ref g1, .ref q1, .null, .null, .null, .null, .null, .null, .long 0, .int 0, .int 0, .int 0])), (q1, .inl (cA 0, 256, .inl (fun _ => 0))), (q2, .inl (cA 1, 64, .inr (.inl (fun _ => 0))))] := hp
  refine W.widen (k := 2) (n := 320) (Nat.le_of_ble_eq_true rfl) (Nat.le_of_ble_eq_true rfl) ?_
  refine cput (q0 := 0) (ci := 2) (k := 2) (T := TX2) (N := 12) (C := RX2) (ref := "SafetyProver$Exploration") (ty := tyX2 2) (ws' := [(h, .inr (2, [.ref g1, .ref q1, .ref q2, .null, .null, .null, .null, .null, .long 0, .int 0, .int 0, .int 0])), (q1, .inl (cA 0, 256, .inl (fun _ => 0))), (q2, .inl (cA 1, 64, .inr (.inl (fun _ => 0))))]) X hp rfl rfl (by decide) (Nat.le_of_ble_eq_true rfl) inlX2 tyX2_ok nmX2 tw_4_2 rfl rfl rfl (by decide +kernel) rfl rfl dX2_init_23 rfl (fun H locs hp => ?_)
  refine lv_aload_n hx hb dX2_init_26 rfl (lv_at hl 0 rfl) ?_
  refine lv_bipush (v := 64) hx hb dX2_init_27 (by decide) ?_
  refine cJ (N := 64) X hp tw_1_6 (by decide) (by decide) (Nat.le_of_ble_eq_true rfl) (Nat.le_of_ble_eq_true rfl) (Nat.le_of_ble_eq_true rfl) dX2_init_29 (fun q3 H hp => ?_)
  have hp : Pg D A s.heap H _ [(h, .inr (2, [.ref g1, .ref q1, .ref q2, .null, .null, .null, .null, .null, .long 0, .int 0, .int 0, .int 0])), (q1, .inl (cA 0, 256, .inl (fun _ => 0))), (q2, .inl (cA 1, 64, .inr (.inl (fun _ => 0)))), (q3, .inl (cA 1, 64, .inr (.inl (fun _ => 0))))] := hp
  refine W.widen (k := 3) (n := 384) (Nat.le_of_ble_eq_true rfl) (Nat.le_of_ble_eq_true rfl) ?_
  refine cput (q0 := 0) (ci := 2) (k := 3) (T := TX2) (N := 12) (C := RX2) (ref := "SafetyProver$Exploration") (ty := tyX2 3) (ws' := [(h, .inr (2, [.ref g1, .ref q1, .ref q2, .ref q3, .null, .null, .null, .null, .long 0, .int 0, .int 0, .int 0])), (q1, .inl (cA 0, 256, .inl (fun _ => 0))), (q2, .inl (cA 1, 64, .inr (.inl (fun _ => 0)))), (q3, .inl (cA 1, 64, .inr (.inl (fun _ => 0))))]) X hp rfl rfl (by decide) (Nat.le_of_ble_eq_true rfl) inlX2 tyX2_ok nmX2 tw_4_3 rfl rfl rfl (by decide +kernel) rfl rfl dX2_init_31 rfl (fun H locs hp => ?_)
  refine lv_aload_n hx hb dX2_init_34 rfl (lv_at hl 0 rfl) ?_
  refine lv_bipush (v := 64) hx hb dX2_init_35 (by decide) ?_
  refine cI (N := 64) X hp tw_2_13 (by decide) (by decide) (Nat.le_of_ble_eq_true rfl) (Nat.le_of_ble_eq_true rfl) (Nat.le_of_ble_eq_true rfl) dX2_init_37 (fun q4 H hp => ?_)
  have hp : Pg D A s.heap H _ [(h, .inr (2, [.ref g1, .ref q1, .ref q2, .ref q3, .null, .null, .null, .null, .long 0, .int 0, .int 0, .int 0])), (q1, .inl (cA 0, 256, .inl (fun _ => 0))), (q2, .inl (cA 1, 64, .inr (.inl (fun _ => 0)))), (q3, .inl (cA 1, 64, .inr (.inl (fun _ => 0)))), (q4, .inl (cA 0, 64, .inl (fun _ => 0)))] := hp
  refine W.widen (k := 4) (n := 448) (Nat.le_of_ble_eq_true rfl) (Nat.le_of_ble_eq_true rfl) ?_
  refine cput (q0 := 0) (ci := 2) (k := 4) (T := TX2) (N := 12) (C := RX2) (ref := "SafetyProver$Exploration") (ty := tyX2 4) (ws' := [(h, .inr (2, [.ref g1, .ref q1, .ref q2, .ref q3, .ref q4, .null, .null, .null, .long 0, .int 0, .int 0, .int 0])), (q1, .inl (cA 0, 256, .inl (fun _ => 0))), (q2, .inl (cA 1, 64, .inr (.inl (fun _ => 0)))), (q3, .inl (cA 1, 64, .inr (.inl (fun _ => 0)))), (q4, .inl (cA 0, 64, .inl (fun _ => 0)))]) X hp rfl rfl (by decide) (Nat.le_of_ble_eq_true rfl) inlX2 tyX2_ok nmX2 tw_4_4 rfl rfl rfl (by decide +kernel) rfl rfl dX2_init_39 rfl (fun H locs hp => ?_)
  refine lv_aload_n hx hb dX2_init_42 rfl (lv_at hl 0 rfl) ?_
  refine lv_bipush (v := 64) hx hb dX2_init_43 (by decide) ?_
  refine cI (N := 64) X hp tw_2_13 (by decide) (by decide) (Nat.le_of_ble_eq_true rfl) (Nat.le_of_ble_eq_true rfl) (Nat.le_of_ble_eq_true rfl) dX2_init_45 (fun q5 H hp => ?_)
  have hp : Pg D A s.heap H _ [(h, .inr (2, [.ref g1, .ref q1, .ref q2, .ref q3, .ref q4, .null, .null, .null, .long 0, .int 0, .int 0, .int 0])), (q1, .inl (cA 0, 256, .inl (fun _ => 0))), (q2, .inl (cA 1, 64, .inr (.inl (fun _ => 0)))), (q3, .inl (cA 1, 64, .inr (.inl (fun _ => 0)))), (q4, .inl (cA 0, 64, .inl (fun _ => 0))), (q5, .inl (cA 0, 64, .inl (fun _ => 0)))] := hp
  refine W.widen (k := 5) (n := 512) (Nat.le_of_ble_eq_true rfl) (Nat.le_of_ble_eq_true rfl) ?_
  refine cput (q0 := 0) (ci := 2) (k := 5) (T := TX2) (N := 12) (C := RX2) (ref := "SafetyProver$Exploration") (ty := tyX2 5) (ws' := [(h, .inr (2, [.ref g1, .ref q1, .ref q2, .ref q3, .ref q4, .ref q5, .null, .null, .long 0, .int 0, .int 0, .int 0])), (q1, .inl (cA 0, 256, .inl (fun _ => 0))), (q2, .inl (cA 1, 64, .inr (.inl (fun _ => 0)))), (q3, .inl (cA 1, 64, .inr (.inl (fun _ => 0)))), (q4, .inl (cA 0, 64, .inl (fun _ => 0))), (q5, .inl (cA 0, 64, .inl (fun _ => 0)))]) X hp rfl rfl (by decide) (Nat.le_of_ble_eq_true rfl) inlX2 tyX2_ok nmX2 tw_4_5 rfl rfl rfl (by decide +kernel) rfl rfl dX2_init_47 rfl (fun H locs hp => ?_)
  refine lv_aload_n hx hb dX2_init_50 rfl (lv_at hl 0 rfl) ?_
  refine lv_bipush (v := 64) hx hb dX2_init_51 (by decide) ?_
  refine cI (N := 64) X hp tw_2_13 (by decide) (by decide) (Nat.le_of_ble_eq_true rfl) (Nat.le_of_ble_eq_true rfl) (Nat.le_of_ble_eq_true rfl) dX2_init_53 (fun q6 H hp => ?_)
  have hp : Pg D A s.heap H _ [(h, .inr (2, [.ref g1, .ref q1, .ref q2, .ref q3, .ref q4, .ref q5, .null, .null, .long 0, .int 0, .int 0, .int 0])), (q1, .inl (cA 0, 256, .inl (fun _ => 0))), (q2, .inl (cA 1, 64, .inr (.inl (fun _ => 0)))), (q3, .inl (cA 1, 64, .inr (.inl (fun _ => 0)))), (q4, .inl (cA 0, 64, .inl (fun _ => 0))), (q5, .inl (cA 0, 64, .inl (fun _ => 0))), (q6, .inl (cA 0, 64, .inl (fun _ => 0)))] := hp
  refine W.widen (k := 6) (n := 576) (Nat.le_of_ble_eq_true rfl) (Nat.le_of_ble_eq_true rfl) ?_
  refine cput (q0 := 0) (ci := 2) (k := 6) (T := TX2) (N := 12) (C := RX2) (ref := "SafetyProver$Exploration") (ty := tyX2 6) (ws' := [(h, .inr (2, [.ref g1, .ref q1, .ref q2, .ref q3, .ref q4, .ref q5, .ref q6, .null, .long 0, .int 0, .int 0, .int 0])), (q1, .inl (cA 0, 256, .inl (fun _ => 0))), (q2, .inl (cA 1, 64, .inr (.inl (fun _ => 0)))), (q3, .inl (cA 1, 64, .inr (.inl (fun _ => 0)))), (q4, .inl (cA 0, 64, .inl (fun _ => 0))), (q5, .inl (cA 0, 64, .inl (fun _ => 0))), (q6, .inl (cA 0, 64, .inl (fun _ => 0)))]) X hp rfl rfl (by decide) (Nat.le_of_ble_eq_true rfl) inlX2 tyX2_ok nmX2 tw_4_6 rfl rfl rfl (by decide +kernel) rfl rfl dX2_init_55 rfl (fun H locs hp => ?_)
  refine lv_aload_n hx hb dX2_init_58 rfl (lv_at hl 0 rfl) ?_
  refine lv_bipush (v := 64) hx hb dX2_init_59 (by decide) ?_
  refine cI (N := 64) X hp tw_2_13 (by decide) (by decide) (Nat.le_of_ble_eq_true rfl) (Nat.le_of_ble_eq_true rfl) (Nat.le_of_ble_eq_true rfl) dX2_init_61 (fun q7 H hp => ?_)
  have hp : Pg D A s.heap H _ [(h, .inr (2, [.ref g1, .ref q1, .ref q2, .ref q3, .ref q4, .ref q5, .ref q6, .null, .long 0, .int 0, .int 0, .int 0])), (q1, .inl (cA 0, 256, .inl (fun _ => 0))), (q2, .inl (cA 1, 64, .inr (.inl (fun _ => 0)))), (q3, .inl (cA 1, 64, .inr (.inl (fun _ => 0)))), (q4, .inl (cA 0, 64, .inl (fun _ => 0))), (q5, .inl (cA 0, 64, .inl (fun _ => 0))), (q6, .inl (cA 0, 64, .inl (fun _ => 0))), (q7, .inl (cA 0, 64, .inl (fun _ => 0)))] := hp
  refine W.widen (k := 7) (n := 640) (Nat.le_of_ble_eq_true rfl) (Nat.le_of_ble_eq_true rfl) ?_
  refine cput (q0 := 0) (ci := 2) (k := 7) (T := TX2) (N := 12) (C := RX2) (ref := "SafetyProver$Exploration") (ty := tyX2 7) (ws' := [(h, .inr (2, [.ref g1, .ref q1, .ref q2, .ref q3, .ref q4, .ref q5, .ref q6, .ref q7, .long 0, .int 0, .int 0, .int 0])), (q1, .inl (cA 0, 256, .inl (fun _ => 0))), (q2, .inl (cA 1, 64, .inr (.inl (fun _ => 0)))), (q3, .inl (cA 1, 64, .inr (.inl (fun _ => 0)))), (q4, .inl (cA 0, 64, .inl (fun _ => 0))), (q5, .inl (cA 0, 64, .inl (fun _ => 0))), (q6, .inl (cA 0, 64, .inl (fun _ => 0))), (q7, .inl (cA 0, 64, .inl (fun _ => 0)))]) X hp rfl rfl (by decide) (Nat.le_of_ble_eq_true rfl) inlX2 tyX2_ok nmX2 tw_4_7 rfl rfl rfl (by decide +kernel) rfl rfl dX2_init_63 rfl (fun H locs hp => ?_)
  exact hR (fun k => ([q1, q2, q3, q4, q5, q6, q7] : List Nat).getD k 0) _ _ _ _ _ _ dX2_init_66 (Nat.le_refl _) (Nat.le_refl _) hp
abbrev post_X5 (cA : Nat → ClassId) (h g1 g2 : Nat) (f : Nat → Nat) : va_W := [(h, .inr (5, [.ref g1, .ref g2, .ref (f 0), .ref (f 1), .int 0])), ((f 0), .inl (cA 1, 7, .inr (.inl (fun _ => 0)))), ((f 1), .inl (cA 1, 232, .inr (.inl (fun _ => 0))))]
set_option maxRecDepth 20000 in
set_option maxHeartbeats 4000000 in
theorem c_X5_init {l : Launch} {D : va_G} {cA : Nat → ClassId} {h g1 g2 : Nat} {E : (Nat → Prop) → State → Prop} (hE : EOK E) : MetC l yX5_init cX5_init 3 1 2 239 D cA E [(h, .inr (5, [.null, .null, .null, .null, .int 0]))] [.ref h, .ref g1, .ref g2] (post_X5 cA h g1 g2) := by
  refine mkC (by decide) rfl (Nat.le_of_ble_eq_true rfl) ?_
  intro p e R s m args below meth c A Q ls X hR hp hl
  obtain ⟨hx, hb, -⟩ := id X
  have hl : lv_has ls 3 [(0, .ref h), (1, .ref g1), (2, .ref g2)] := hl
  refine lv_aload_n hx hb dX5_init_0 rfl (lv_at hl 0 rfl) ?_
  refine cobj X tw_5_8 tw_1_11 tw_1_12 hl.1 (by decide) dX5_init_1 ?_
  refine lv_aload_n hx hb dX5_init_4 rfl (lv_at hl 0 rfl) ?_
  refine lv_aload_n hx hb dX5_init_5 rfl (lv_at hl 1 rfl) ?_
  refine cput (q0 := 0) (ci := 5) (k := 0) (T := TX5) (N := 5) (C := RX5) (ref := "SafetyProver$OtherProofs") (ty := tyX5 0) (ws' := [(h, .inr (5, [.ref g1, .null, .null, .null, .int 0]))]) X hp rfl rfl (by decide) (Nat.le_of_ble_eq_true rfl) inlX5 tyX5_ok nmX5 tw_5_9 rfl rfl rfl (by decide +kernel) rfl rfl dX5_init_6 rfl (fun H locs hp => ?_)
  refine lv_aload_n hx hb dX5_init_9 rfl (lv_at hl 0 rfl) ?_
  refine lv_aload_n hx hb dX5_init_10 rfl (lv_at hl 2 rfl) ?_
  refine cput (q0 := 0) (ci := 5) (k := 1) (T := TX5) (N := 5) (C := RX5) (ref := "SafetyProver$OtherProofs") (ty := tyX5 1) (ws' := [(h, .inr (5, [.ref g1, .ref g2, .null, .null, .int 0]))]) X hp rfl rfl (by decide) (Nat.le_of_ble_eq_true rfl) inlX5 tyX5_ok nmX5 tw_5_10 rfl rfl rfl (by decide +kernel) rfl rfl dX5_init_11 rfl (fun H locs hp => ?_)
  refine lv_aload_n hx hb dX5_init_14 rfl (lv_at hl 0 rfl) ?_
  refine lv_bipush (v := 7) hx hb dX5_init_15 (by decide) ?_
  refine cJ (N := 7) X hp tw_1_6 (by decide) (by decide) (Nat.le_of_ble_eq_true rfl) (Nat.le_of_ble_eq_true rfl) (Nat.le_of_ble_eq_true rfl) dX5_init_17 (fun q1 H hp => ?_)
  have hp : Pg D A s.heap H _ [(h, .inr (5, [.ref g1, .ref g2, .null, .null, .int 0])), (q1, .inl (cA 1, 7, .inr (.inl (fun _ => 0))))] := hp
  refine W.widen (k := 1) (n := 7) (Nat.le_of_ble_eq_true rfl) (Nat.le_of_ble_eq_true rfl) ?_
  refine cput (q0 := 0) (ci := 5) (k := 2) (T := TX5) (N := 5) (C := RX5) (ref := "SafetyProver$OtherProofs") (ty := tyX5 2) (ws' := [(h, .inr (5, [.ref g1, .ref g2, .ref q1, .null, .int 0])), (q1, .inl (cA 1, 7, .inr (.inl (fun _ => 0))))]) X hp rfl rfl (by decide) (Nat.le_of_ble_eq_true rfl) inlX5 tyX5_ok nmX5 tw_5_11 rfl rfl rfl (by decide +kernel) rfl rfl dX5_init_19 rfl (fun H locs hp => ?_)
  refine lv_aload_n hx hb dX5_init_22 rfl (lv_at hl 0 rfl) ?_
  refine lv_sipush (v := 232) hx hb dX5_init_23 (by decide) ?_
  refine cJ (N := 232) X hp tw_1_6 (by decide) (by decide) (Nat.le_of_ble_eq_true rfl) (Nat.le_of_ble_eq_true rfl) (Nat.le_of_ble_eq_true rfl) dX5_init_26 (fun q2 H hp => ?_)
  have hp : Pg D A s.heap H _ [(h, .inr (5, [.ref g1, .ref g2, .ref q1, .null, .int 0])), (q1, .inl (cA 1, 7, .inr (.inl (fun _ => 0)))), (q2, .inl (cA 1, 232, .inr (.inl (fun _ => 0))))] := hp
  refine W.widen (k := 2) (n := 239) (Nat.le_of_ble_eq_true rfl) (Nat.le_of_ble_eq_true rfl) ?_
  refine cput (q0 := 0) (ci := 5) (k := 3) (T := TX5) (N := 5) (C := RX5) (ref := "SafetyProver$OtherProofs") (ty := tyX5 3) (ws' := [(h, .inr (5, [.ref g1, .ref g2, .ref q1, .ref q2, .int 0])), (q1, .inl (cA 1, 7, .inr (.inl (fun _ => 0)))), (q2, .inl (cA 1, 232, .inr (.inl (fun _ => 0))))]) X hp rfl rfl (by decide) (Nat.le_of_ble_eq_true rfl) inlX5 tyX5_ok nmX5 tw_5_12 rfl rfl rfl (by decide +kernel) rfl rfl dX5_init_28 rfl (fun H locs hp => ?_)
  exact hR (fun k => ([q1, q2] : List Nat).getD k 0) _ _ _ _ _ _ dX5_init_31 (Nat.le_refl _) (Nat.le_refl _) hp
abbrev post_X4 (cA : Nat → ClassId) (h g1 : Nat) (f : Nat → Nat) : va_W := [(h, .inr (4, [.ref g1, .ref (f 0), .ref (f 5), .ref (f 6), .ref (f 7), .int 0, .int 0, .int 0, .int 0, .int 0, .int 0, .int 0, .int 0])), ((f 0), .inr (1, [.ref (f 1), .ref (f 2), .ref (f 3), .ref (f 4), .int 0])), ((f 1), .inl (cA 0, 729, .inl (fun _ => 0))), ((f 2), .inl (cA 0, 729, .inl (fun _ => 0))), ((f 3), .inl (cA 0, 729, .inl (fun _ => 0))), ((f 4), .inl (cA 1, 729, .inr (.inl (fun _ => 0)))), ((f 5), .inl (cA 1, 70, .inr (.inl (fun _ => 0)))), ((f 6), .inl (cA 1, 70, .inr (.inl (fun _ => 0)))), ((f 7), .inl (cA 2, 729, .inl (fun _ => 0)))]
set_option maxRecDepth 20000 in
set_option maxHeartbeats 4000000 in
theorem c_X4_init {l : Launch} {D : va_G} {cA : Nat → ClassId} {h g1 : Nat} {E : (Nat → Prop) → State → Prop} (hE : EOK E) : MetC l yX4_init cX4_init 2 2 8 3790 D cA E [(h, .inr (4, [.null, .null, .null, .null, .null, .int 0, .int 0, .int 0, .int 0, .int 0, .int 0, .int 0, .int 0]))] [.ref h, .ref g1] (post_X4 cA h g1) := by
  refine mkC (by decide) rfl (Nat.le_of_ble_eq_true rfl) ?_
  intro p e R s m args below meth c A Q ls X hR hp hl
  obtain ⟨hx, hb, -⟩ := id X
  have hl : lv_has ls 2 [(0, .ref h), (1, .ref g1)] := hl
  refine lv_aload_n hx hb dX4_init_0 rfl (lv_at hl 0 rfl) ?_
  refine cobj X tw_4_11 tw_1_11 tw_1_12 hl.1 (by decide) dX4_init_1 ?_
  refine lv_aload_n hx hb dX4_init_4 rfl (lv_at hl 0 rfl) ?_
  refine lv_aload_n hx hb dX4_init_5 rfl (lv_at hl 1 rfl) ?_
  refine cput (q0 := 0) (ci := 4) (k := 0) (T := TX4) (N := 13) (C := RX4) (ref := "SafetyProver$FrameProof") (ty := tyX4 0) (ws' := [(h, .inr (4, [.ref g1, .null, .null, .null, .null, .int 0, .int 0, .int 0, .int 0, .int 0, .int 0, .int 0, .int 0]))]) X hp rfl rfl (by decide) (Nat.le_of_ble_eq_true rfl) inlX4 tyX4_ok nmX4 tw_4_12 rfl rfl rfl (by decide +kernel) rfl rfl dX4_init_6 rfl (fun H locs hp => ?_)
  refine lv_aload_n hx hb dX4_init_9 rfl (lv_at hl 0 rfl) ?_
  refine cnew (ci := 1) (N := 5) (C := RX1) (T := TX1) (fs := [.null, .null, .null, .null, .int 0]) X hp rfl inlX1 tyX1_ok tw_4_13 tw_4_14 tw_4_15 (fun j hj => by rcases (show j = 0 ∨ j = 1 ∨ j = 2 ∨ j = 3 ∨ j = 4 by omega) with rfl | rfl | rfl | rfl | rfl <;> rfl) (Nat.le_of_ble_eq_true rfl) (Nat.le_of_ble_eq_true rfl) dX4_init_10 (fun q1 H hp => ?_)
  have hp : Pg D A s.heap H _ [(h, .inr (4, [.ref g1, .null, .null, .null, .null, .int 0, .int 0, .int 0, .int 0, .int 0, .int 0, .int 0, .int 0])), (q1, .inr (1, [.null, .null, .null, .null, .int 0]))] := hp
  refine W.widen (k := 1) (n := 5) (Nat.le_of_ble_eq_true rfl) (Nat.le_of_ble_eq_true rfl) ?_
  refine lv_dup hx hb dX4_init_13 rfl ?_
  refine cini (wr := [(h, .inr (4, [.ref g1, .null, .null, .null, .null, .int 0, .int 0, .int 0, .int 0, .int 0, .int 0, .int 0, .int 0]))]) X hE (c_X1_init (E := E) hE) tw_4_21 tw_4_22 tw_4_15 tw_4_23 rfl hdd_X1_init (by decide) (by decide) hp [1] [0] rfl (by decide) rfl rfl (by decide) (by decide) hl.1 rfl (Nat.le_of_ble_eq_true rfl) (Nat.le_of_ble_eq_true rfl) (Nat.le_of_ble_eq_true rfl) dX4_init_14 (fun f2 H locs hp => ?_)
  have hp : Pg D A s.heap H _ [(h, .inr (4, [.ref g1, .null, .null, .null, .null, .int 0, .int 0, .int 0, .int 0, .int 0, .int 0, .int 0, .int 0])), (q1, .inr (1, [.ref (f2 0), .ref (f2 1), .ref (f2 2), .ref (f2 3), .int 0])), ((f2 0), .inl (cA 0, 729, .inl (fun _ => 0))), ((f2 1), .inl (cA 0, 729, .inl (fun _ => 0))), ((f2 2), .inl (cA 0, 729, .inl (fun _ => 0))), ((f2 3), .inl (cA 1, 729, .inr (.inl (fun _ => 0))))] := hp
  refine W.widen (k := 5) (n := 2921) (Nat.le_of_ble_eq_true rfl) (Nat.le_of_ble_eq_true rfl) ?_
  refine cput (q0 := 0) (ci := 4) (k := 1) (T := TX4) (N := 13) (C := RX4) (ref := "SafetyProver$FrameProof") (ty := tyX4 1) (ws' := [(h, .inr (4, [.ref g1, .ref q1, .null, .null, .null, .int 0, .int 0, .int 0, .int 0, .int 0, .int 0, .int 0, .int 0])), (q1, .inr (1, [.ref (f2 0), .ref (f2 1), .ref (f2 2), .ref (f2 3), .int 0])), ((f2 0), .inl (cA 0, 729, .inl (fun _ => 0))), ((f2 1), .inl (cA 0, 729, .inl (fun _ => 0))), ((f2 2), .inl (cA 0, 729, .inl (fun _ => 0))), ((f2 3), .inl (cA 1, 729, .inr (.inl (fun _ => 0))))]) X hp rfl rfl (by decide) (Nat.le_of_ble_eq_true rfl) inlX4 tyX4_ok nmX4 tw_4_16 rfl rfl rfl (by decide +kernel) rfl rfl dX4_init_17 rfl (fun H locs hp => ?_)
  refine lv_aload_n hx hb dX4_init_20 rfl (lv_at hl 0 rfl) ?_
  refine lv_bipush (v := 70) hx hb dX4_init_21 (by decide) ?_
  refine cJ (N := 70) X hp tw_1_6 (by decide) (by decide) (Nat.le_of_ble_eq_true rfl) (Nat.le_of_ble_eq_true rfl) (Nat.le_of_ble_eq_true rfl) dX4_init_23 (fun q3 H hp => ?_)
  have hp : Pg D A s.heap H _ [(h, .inr (4, [.ref g1, .ref q1, .null, .null, .null, .int 0, .int 0, .int 0, .int 0, .int 0, .int 0, .int 0, .int 0])), (q1, .inr (1, [.ref (f2 0), .ref (f2 1), .ref (f2 2), .ref (f2 3), .int 0])), ((f2 0), .inl (cA 0, 729, .inl (fun _ => 0))), ((f2 1), .inl (cA 0, 729, .inl (fun _ => 0))), ((f2 2), .inl (cA 0, 729, .inl (fun _ => 0))), ((f2 3), .inl (cA 1, 729, .inr (.inl (fun _ => 0)))), (q3, .inl (cA 1, 70, .inr (.inl (fun _ => 0))))] := hp
  refine W.widen (k := 6) (n := 2991) (Nat.le_of_ble_eq_true rfl) (Nat.le_of_ble_eq_true rfl) ?_
  refine cput (q0 := 0) (ci := 4) (k := 2) (T := TX4) (N := 13) (C := RX4) (ref := "SafetyProver$FrameProof") (ty := tyX4 2) (ws' := [(h, .inr (4, [.ref g1, .ref q1, .ref q3, .null, .null, .int 0, .int 0, .int 0, .int 0, .int 0, .int 0, .int 0, .int 0])), (q1, .inr (1, [.ref (f2 0), .ref (f2 1), .ref (f2 2), .ref (f2 3), .int 0])), ((f2 0), .inl (cA 0, 729, .inl (fun _ => 0))), ((f2 1), .inl (cA 0, 729, .inl (fun _ => 0))), ((f2 2), .inl (cA 0, 729, .inl (fun _ => 0))), ((f2 3), .inl (cA 1, 729, .inr (.inl (fun _ => 0)))), (q3, .inl (cA 1, 70, .inr (.inl (fun _ => 0))))]) X hp rfl rfl (by decide) (Nat.le_of_ble_eq_true rfl) inlX4 tyX4_ok nmX4 tw_4_17 rfl rfl rfl (by decide +kernel) rfl rfl dX4_init_25 rfl (fun H locs hp => ?_)
  refine lv_aload_n hx hb dX4_init_28 rfl (lv_at hl 0 rfl) ?_
  refine lv_bipush (v := 70) hx hb dX4_init_29 (by decide) ?_
  refine cJ (N := 70) X hp tw_1_6 (by decide) (by decide) (Nat.le_of_ble_eq_true rfl) (Nat.le_of_ble_eq_true rfl) (Nat.le_of_ble_eq_true rfl) dX4_init_31 (fun q4 H hp => ?_)
  have hp : Pg D A s.heap H _ [(h, .inr (4, [.ref g1, .ref q1, .ref q3, .null, .null, .int 0, .int 0, .int 0, .int 0, .int 0, .int 0, .int 0, .int 0])), (q1, .inr (1, [.ref (f2 0), .ref (f2 1), .ref (f2 2), .ref (f2 3), .int 0])), ((f2 0), .inl (cA 0, 729, .inl (fun _ => 0))), ((f2 1), .inl (cA 0, 729, .inl (fun _ => 0))), ((f2 2), .inl (cA 0, 729, .inl (fun _ => 0))), ((f2 3), .inl (cA 1, 729, .inr (.inl (fun _ => 0)))), (q3, .inl (cA 1, 70, .inr (.inl (fun _ => 0)))), (q4, .inl (cA 1, 70, .inr (.inl (fun _ => 0))))] := hp
  refine W.widen (k := 7) (n := 3061) (Nat.le_of_ble_eq_true rfl) (Nat.le_of_ble_eq_true rfl) ?_
  refine cput (q0 := 0) (ci := 4) (k := 3) (T := TX4) (N := 13) (C := RX4) (ref := "SafetyProver$FrameProof") (ty := tyX4 3) (ws' := [(h, .inr (4, [.ref g1, .ref q1, .ref q3, .ref q4, .null, .int 0, .int 0, .int 0, .int 0, .int 0, .int 0, .int 0, .int 0])), (q1, .inr (1, [.ref (f2 0), .ref (f2 1), .ref (f2 2), .ref (f2 3), .int 0])), ((f2 0), .inl (cA 0, 729, .inl (fun _ => 0))), ((f2 1), .inl (cA 0, 729, .inl (fun _ => 0))), ((f2 2), .inl (cA 0, 729, .inl (fun _ => 0))), ((f2 3), .inl (cA 1, 729, .inr (.inl (fun _ => 0)))), (q3, .inl (cA 1, 70, .inr (.inl (fun _ => 0)))), (q4, .inl (cA 1, 70, .inr (.inl (fun _ => 0))))]) X hp rfl rfl (by decide) (Nat.le_of_ble_eq_true rfl) inlX4 tyX4_ok nmX4 tw_4_18 rfl rfl rfl (by decide +kernel) rfl rfl dX4_init_33 rfl (fun H locs hp => ?_)
  refine lv_aload_n hx hb dX4_init_36 rfl (lv_at hl 0 rfl) ?_
  refine lv_sipush (v := 729) hx hb dX4_init_37 (by decide) ?_
  refine cZ (N := 729) X hp tw_4_19 (by decide) (by decide) (Nat.le_of_ble_eq_true rfl) (Nat.le_of_ble_eq_true rfl) (Nat.le_of_ble_eq_true rfl) dX4_init_40 (fun q5 H hp => ?_)
  have hp : Pg D A s.heap H _ [(h, .inr (4, [.ref g1, .ref q1, .ref q3, .ref q4, .null, .int 0, .int 0, .int 0, .int 0, .int 0, .int 0, .int 0, .int 0])), (q1, .inr (1, [.ref (f2 0), .ref (f2 1), .ref (f2 2), .ref (f2 3), .int 0])), ((f2 0), .inl (cA 0, 729, .inl (fun _ => 0))), ((f2 1), .inl (cA 0, 729, .inl (fun _ => 0))), ((f2 2), .inl (cA 0, 729, .inl (fun _ => 0))), ((f2 3), .inl (cA 1, 729, .inr (.inl (fun _ => 0)))), (q3, .inl (cA 1, 70, .inr (.inl (fun _ => 0)))), (q4, .inl (cA 1, 70, .inr (.inl (fun _ => 0)))), (q5, .inl (cA 2, 729, .inl (fun _ => 0)))] := hp
  refine W.widen (k := 8) (n := 3790) (Nat.le_of_ble_eq_true rfl) (Nat.le_of_ble_eq_true rfl) ?_
  refine cput (q0 := 0) (ci := 4) (k := 4) (T := TX4) (N := 13) (C := RX4) (ref := "SafetyProver$FrameProof") (ty := tyX4 4) (ws' := [(h, .inr (4, [.ref g1, .ref q1, .ref q3, .ref q4, .ref q5, .int 0, .int 0, .int 0, .int 0, .int 0, .int 0, .int 0, .int 0])), (q1, .inr (1, [.ref (f2 0), .ref (f2 1), .ref (f2 2), .ref (f2 3), .int 0])), ((f2 0), .inl (cA 0, 729, .inl (fun _ => 0))), ((f2 1), .inl (cA 0, 729, .inl (fun _ => 0))), ((f2 2), .inl (cA 0, 729, .inl (fun _ => 0))), ((f2 3), .inl (cA 1, 729, .inr (.inl (fun _ => 0)))), (q3, .inl (cA 1, 70, .inr (.inl (fun _ => 0)))), (q4, .inl (cA 1, 70, .inr (.inl (fun _ => 0)))), (q5, .inl (cA 2, 729, .inl (fun _ => 0)))]) X hp rfl rfl (by decide) (Nat.le_of_ble_eq_true rfl) inlX4 tyX4_ok nmX4 tw_4_20 rfl rfl rfl (by decide +kernel) rfl rfl dX4_init_42 rfl (fun H locs hp => ?_)
  exact hR (fun k => ([q1, (f2 0), (f2 1), (f2 2), (f2 3), q3, q4, q5] : List Nat).getD k 0) _ _ _ _ _ _ dX4_init_45 (Nat.le_refl _) (Nat.le_refl _) hp
def aC (h : Nat) (f : Nat → Nat) : Nat → Nat := fun k => if k = 2 then h else f (k - 10)
set_option maxRecDepth 20000 in
set_option maxHeartbeats 4000000 in
theorem c_X0_init {l : Launch} {D : va_G} {cA : Nat → ClassId} {h : Nat} {t : Nat} {F : (Nat → Prop) → State → Prop} (hF : EOK F) {N : Nat} {σ1 : St} (h0 : X0_restart N 2 1 zst = some σ1) : MetC l yX0_init cX0_init 1 3 3 82 D cA (ES t F) [(h, .inr (0, [.null, .null, .null, .int 0, .int 0, .int 0, .int 0, .long 0, .int 0, .int 0]))] [.ref h] (fun f => wC (aC h f) cA σ1) := by
  have hE : EOK (ES t F) := eokS hF
  refine mkC (by decide) rfl (Nat.le_of_ble_eq_true rfl) ?_
  intro p e R s m args below meth c A Q ls X hR hp hl
  obtain ⟨hx, hb, -⟩ := id X
  have hl : lv_has ls 1 [(0, .ref h)] := hl
  refine lv_aload_n hx hb dX0_init_0 rfl (lv_at hl 0 rfl) ?_
  refine cobj X tw_2_20 tw_1_11 tw_1_12 hl.1 (by decide) dX0_init_1 ?_
  refine lv_aload_n hx hb dX0_init_4 rfl (lv_at hl 0 rfl) ?_
  refine lv_bipush (v := 32) hx hb dX0_init_5 (by decide) ?_
  refine cJ (N := 32) X hp tw_1_6 (by decide) (by decide) (Nat.le_of_ble_eq_true rfl) (Nat.le_of_ble_eq_true rfl) (Nat.le_of_ble_eq_true rfl) dX0_init_7 (fun q1 H hp => ?_)
  have hp : Pg D A s.heap H _ [(h, .inr (0, [.null, .null, .null, .int 0, .int 0, .int 0, .int 0, .long 0, .int 0, .int 0])), (q1, .inl (cA 1, 32, .inr (.inl (fun _ => 0))))] := hp
  refine W.widen (k := 1) (n := 32) (Nat.le_of_ble_eq_true rfl) (Nat.le_of_ble_eq_true rfl) ?_
  refine cput (q0 := 0) (ci := 0) (k := 0) (T := TX0) (N := 10) (C := RX0) (ref := "SafetyProver$Circuit") (ty := tyX0 0) (ws' := [(h, .inr (0, [.ref q1, .null, .null, .int 0, .int 0, .int 0, .int 0, .long 0, .int 0, .int 0])), (q1, .inl (cA 1, 32, .inr (.inl (fun _ => 0))))]) X hp rfl rfl (by decide) (Nat.le_of_ble_eq_true rfl) inlX0 tyX0_ok nmX0 tw_2_21 rfl rfl rfl (by decide +kernel) rfl rfl dX0_init_9 rfl (fun H locs hp => ?_)
  refine lv_aload_n hx hb dX0_init_12 rfl (lv_at hl 0 rfl) ?_
  refine lv_bipush (v := 40) hx hb dX0_init_13 (by decide) ?_
  refine cJ (N := 40) X hp tw_1_6 (by decide) (by decide) (Nat.le_of_ble_eq_true rfl) (Nat.le_of_ble_eq_true rfl) (Nat.le_of_ble_eq_true rfl) dX0_init_15 (fun q2 H hp => ?_)
  have hp : Pg D A s.heap H _ [(h, .inr (0, [.ref q1, .null, .null, .int 0, .int 0, .int 0, .int 0, .long 0, .int 0, .int 0])), (q1, .inl (cA 1, 32, .inr (.inl (fun _ => 0)))), (q2, .inl (cA 1, 40, .inr (.inl (fun _ => 0))))] := hp
  refine W.widen (k := 2) (n := 72) (Nat.le_of_ble_eq_true rfl) (Nat.le_of_ble_eq_true rfl) ?_
  refine cput (q0 := 0) (ci := 0) (k := 1) (T := TX0) (N := 10) (C := RX0) (ref := "SafetyProver$Circuit") (ty := tyX0 1) (ws' := [(h, .inr (0, [.ref q1, .ref q2, .null, .int 0, .int 0, .int 0, .int 0, .long 0, .int 0, .int 0])), (q1, .inl (cA 1, 32, .inr (.inl (fun _ => 0)))), (q2, .inl (cA 1, 40, .inr (.inl (fun _ => 0))))]) X hp rfl rfl (by decide) (Nat.le_of_ble_eq_true rfl) inlX0 tyX0_ok nmX0 tw_2_22 rfl rfl rfl (by decide +kernel) rfl rfl dX0_init_17 rfl (fun H locs hp => ?_)
  refine lv_aload_n hx hb dX0_init_20 rfl (lv_at hl 0 rfl) ?_
  refine lv_bipush (v := 10) hx hb dX0_init_21 (by decide) ?_
  refine cI (N := 10) X hp tw_2_13 (by decide) (by decide) (Nat.le_of_ble_eq_true rfl) (Nat.le_of_ble_eq_true rfl) (Nat.le_of_ble_eq_true rfl) dX0_init_23 (fun q3 H hp => ?_)
  have hp : Pg D A s.heap H _ [(h, .inr (0, [.ref q1, .ref q2, .null, .int 0, .int 0, .int 0, .int 0, .long 0, .int 0, .int 0])), (q1, .inl (cA 1, 32, .inr (.inl (fun _ => 0)))), (q2, .inl (cA 1, 40, .inr (.inl (fun _ => 0)))), (q3, .inl (cA 0, 10, .inl (fun _ => 0)))] := hp
  refine W.widen (k := 3) (n := 82) (Nat.le_of_ble_eq_true rfl) (Nat.le_of_ble_eq_true rfl) ?_
  refine cput (q0 := 0) (ci := 0) (k := 2) (T := TX0) (N := 10) (C := RX0) (ref := "SafetyProver$Circuit") (ty := tyX0 2) (ws' := [(h, .inr (0, [.ref q1, .ref q2, .ref q3, .int 0, .int 0, .int 0, .int 0, .long 0, .int 0, .int 0])), (q1, .inl (cA 1, 32, .inr (.inl (fun _ => 0)))), (q2, .inl (cA 1, 40, .inr (.inl (fun _ => 0)))), (q3, .inl (cA 0, 10, .inl (fun _ => 0)))]) X hp rfl rfl (by decide) (Nat.le_of_ble_eq_true rfl) inlX0 tyX0_ok nmX0 tw_2_23 rfl rfl rfl (by decide +kernel) rfl rfl dX0_init_25 rfl (fun H locs hp => ?_)
  refine lv_aload_n hx hb dX0_init_28 rfl (lv_at hl 0 rfl) ?_
  refine lv_iconst (v := 2) hx hb dX0_init_29 (by decide) ?_
  refine lv_iconst (v := 1) hx hb dX0_init_30 (by decide) ?_
  have hp : Pg D A s.heap H _ (wC (aC h (fun k => ([q1, q2, q3] : List Nat).getD k 0)) cA zst) := hp
  refine cmet X hE (adrC _ _) (c_X0_restart_C hF h0) tw_3_0 mw_X0_restart (by decide) hp 0 rfl rfl rfl hl.1 rfl (Nat.le_of_ble_eq_true rfl) (Nat.le_of_ble_eq_true rfl) (Nat.le_of_ble_eq_true rfl) dX0_init_31 (fun H locs hp => ?_)
  exact hR (fun k => ([q1, q2, q3] : List Nat).getD k 0) _ _ _ _ _ _ dX0_init_34 (Nat.le_refl _) (Nat.le_refl _) hp
