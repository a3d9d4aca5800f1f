/- X6_requireProof X6_frame X1_number X6_cube X6_requireSafeProof X1_unionAbove X4_certificateStates X6_certificate X4_unionOfKept X4_countNeededCubes_a3 X6_shrunken X5_startsAt X5_goesOnSimply -/
def X6_requireProof (σ : St) : Option (St) :=
  if (σ.1 14) = 0 then
    none
  else
    some σ
set_option maxRecDepth 20000 in
set_option maxHeartbeats 4000000 in
theorem c_X6_requireProof {l : Launch} {D : va_G} {a : Nat → Nat} {cA : Nat → ClassId} {t : Nat} {F : (Nat → Prop) → State → Prop} (hF : EOK F) {σ : St} {σ' : St} (h : X6_requireProof σ = some σ') : MetV l yX6_requireProof cX6_requireProof 1 none 0 D (tyW cA) (wS a cA) (ES t F) [.ref (a 0)] σ σ' := by
  refine mkV (by decide) (adrS a cA) rfl (Nat.le_of_ble_eq_true rfl) ?_
  intro p e R s m args below meth c A Q ls X hR hp hl
  obtain ⟨hx, hb, -, hown, hts, -⟩ := id X
  unfold X6_requireProof at h
  have hl := lv_sub (l' := [(0, .ref (a 0))]) hl [0] rfl
  refine lv_aload_n hx hb dX6_requireProof_0 rfl (lv_at hl 0 rfl) ?_
  refine gS_X6_frameProof X hp tw_2_4 dX6_requireProof_1 ?_
  refine gS_X4_exists X hp tw_8_4 dX6_requireProof_4 ?_
  refine lv_if_ne (tgt := 21) hx hb dX6_requireProof_7 (by decide) (fun c1 => ?_) (fun c1 => ?_)
  · have h := it_n h c1
    exact hR _ _ _ _ _ dX6_requireProof_21 hp (Option.some.inj h)
  · have h := it_p h c1
    exact nn_s h
def X6_frame_19 (σ : St) : Option (Int64 × St) :=
  none
def X6_frame (v1 : Int32) (σ : St) : Option (Int64 × St) :=
  bd (X6_requireProof σ) (fun t1 =>
  if v1 < 0 then
    X6_frame_19 t1
  else
    if v1 ≤ (t1.1 16) then
      bd (X4_frameAt t1 v1) (fun t4 =>
      some (t4, t1))
    else
      X6_frame_19 t1)
set_option maxRecDepth 20000 in
set_option maxHeartbeats 4000000 in
theorem c_X6_frame {l : Launch} {D : va_G} {a : Nat → Nat} {cA : Nat → ClassId} {t : Nat} {F : (Nat → Prop) → State → Prop} (hF : EOK F) {σ : St} {v1 : Int32} {r : Int64} {σ' : St} (h : X6_frame v1 σ = some (r, σ')) : MetL l yX6_frame cX6_frame 2 (some .long) 1 D (tyW cA) (wS a cA) (ES t F) [.ref (a 0), .int v1] σ r σ' := by
  refine mkL (by decide) (adrS a cA) rfl (Nat.le_of_ble_eq_true rfl) ?_
  intro p e R s m args below meth c A Q ls X hR hp hl
  obtain ⟨hx, hb, -, hown, hts, -⟩ := id X
  have J_19 : ∀  (σ : St) (H : Heap) (locs : List Loc) (ls : Array Slot), Pw D (wS a cA) A s.heap H locs σ → lv_has ls 2 [(0, .ref (a 0))] → X6_frame_19 σ = some (r, σ') → W p l e R s m args below meth c H locs 0 0 Q (F0 m 19 ls []) := by
    intro σ H locs ls hp hl h
    unfold X6_frame_19 at h
    exact nn_s h
  unfold X6_frame at h
  have hl := lv_sub (l' := [(0, .ref (a 0)), (1, .int v1)]) hl [0, 1] rfl
  refine lv_aload_n hx hb dX6_frame_0 rfl (lv_at hl 0 rfl) ?_
  obtain ⟨t1, ht1, h⟩ := bd_s h
  refine cl_Vv X (eokS hF) (c_X6_requireProof hF ht1) tw_43_18 mw_X6_requireProof (by decide) hp 0 rfl rfl rfl hl.1 rfl (Nat.le_of_ble_eq_true rfl) dX6_frame_1 (fun H locs hp => ?_)
  refine lv_iload_n hx hb dX6_frame_4 rfl (lv_at hl 1 rfl) ?_
  refine lv_if_lt (tgt := 19) hx hb dX6_frame_5 (by decide) (fun c2 => ?_) (fun c2 => ?_)
  · have h := it_p h c2
    exact J_19 t1 _ _ _ hp (lv_sub hl [0] rfl) h
  · have h := it_n h c2
    refine lv_iload_n hx hb dX6_frame_8 rfl (lv_at hl 1 rfl) ?_
    refine lv_aload_n hx hb dX6_frame_9 rfl (lv_at hl 0 rfl) ?_
    refine gS_X6_frameProof X hp tw_2_4 dX6_frame_10 ?_
    refine gS_X4_top X hp tw_43_17 dX6_frame_13 ?_
    refine lv_icmp_le (tgt := 29) hx hb dX6_frame_16 (by decide) (fun c3 => ?_) (fun c3 => ?_)
    · have h := it_p h c3
      refine lv_aload_n hx hb dX6_frame_29 rfl (lv_at hl 0 rfl) ?_
      refine gS_X6_frameProof X hp tw_2_4 dX6_frame_30 ?_
      refine lv_iload_n hx hb dX6_frame_33 rfl (lv_at hl 1 rfl) ?_
      obtain ⟨t4, ht4, h⟩ := bd_s h
      refine cl_Vl X (eokS hF) (c_X4_frameAt hF ht4) tw_43_22 mw_X4_frameAt (by decide) hp 4 rfl rfl rfl hl.1 rfl (Nat.le_of_ble_eq_true rfl) dX6_frame_34 (fun H locs hp => ?_)
      exact hR _ _ _ _ _ _ dX6_frame_37 hp (congrArg Prod.fst (Option.some.inj h)) (congrArg Prod.snd (Option.some.inj h))
    · have h := it_n h c3
      exact J_19 t1 _ _ _ hp (lv_sub hl [0] rfl) h
def X1_number (σ : St) (v1 : Int32) (v2 : Int32) : Option (Int32) :=
  if v1 < 0 then
    some (-1 : Int32)
  else
    if v1 < (729 : Int32) then
      if v2 = 0 then
        gd (inb v1 729) (
        some (σ.2.2.1 9 v1.toNatClampNeg))
      else
        if v2 = (1 : Int32) then
          gd (inb v1 729) (
          some (σ.2.2.1 10 v1.toNatClampNeg))
        else
          gd (inb v1 729) (
          some (σ.2.2.1 11 v1.toNatClampNeg))
    else
      some (-1 : Int32)
set_option maxRecDepth 20000 in
set_option maxHeartbeats 4000000 in
theorem c_X1_number {l : Launch} {D : va_G} {a : Nat → Nat} {cA : Nat → ClassId} {t : Nat} {F : (Nat → Prop) → State → Prop} (hF : EOK F) {σ : St} {v1 : Int32} {v2 : Int32} {r : Int32} (h : X1_number σ v1 v2 = some r) : MetI l yX1_number cX1_number 3 (some .int) 0 D (tyW cA) (wS a cA) (ES t F) [.ref (a 6), .int v1, .int v2] σ r σ := by
  refine mkI (by decide) (adrS a cA) (Or.inl rfl) (Nat.le_of_ble_eq_true rfl) ?_
  intro p e R s m args below meth c A Q ls X hR hp hl
  obtain ⟨hx, hb, -, hown, hts, -⟩ := id X
  unfold X1_number at h
  have hl := lv_sub (l' := [(0, .ref (a 6)), (1, .int v1), (2, .int v2)]) hl [0, 1, 2] rfl
  refine lv_iload_n hx hb dX1_number_0 rfl (lv_at hl 1 rfl) ?_
  refine lv_if_lt (tgt := 11) hx hb dX1_number_1 (by decide) (fun c1 => ?_) (fun c1 => ?_)
  · have h := it_p h c1
    refine lv_iconst (v := -1) hx hb dX1_number_11 (by decide) ?_
    exact hR _ _ _ _ _ _ dX1_number_12 hp (Option.some.inj h) rfl (fun q => by cases q)
  · have h := it_n h c1
    refine lv_iload_n hx hb dX1_number_4 rfl (lv_at hl 1 rfl) ?_
    refine lv_sipush (v := 729) hx hb dX1_number_5 (by decide) ?_
    refine lv_icmp_lt (tgt := 13) hx hb dX1_number_8 (by decide) (fun c2 => ?_) (fun c2 => ?_)
    · have h := it_p h c2
      refine lv_iload_n hx hb dX1_number_13 rfl (lv_at hl 2 rfl) ?_
      refine lv_if_ne (tgt := 24) hx hb dX1_number_14 (by decide) (fun c3 => ?_) (fun c3 => ?_)
      · have h := it_n h c3
        refine lv_iload_n hx hb dX1_number_24 rfl (lv_at hl 2 rfl) ?_
        refine lv_iconst (v := 1) hx hb dX1_number_25 (by decide) ?_
        refine lv_icmp_ne (tgt := 38) hx hb dX1_number_26 (by decide) (fun c4 => ?_) (fun c4 => ?_)
        · have h := it_n h c4
          refine lv_aload_n hx hb dX1_number_38 rfl (lv_at hl 0 rfl) ?_
          refine gS_X1_levels X hp tw_5_3 dX1_number_39 ?_
          refine lv_iload_n hx hb dX1_number_42 rfl (lv_at hl 1 rfl) ?_
          obtain ⟨g5, h⟩ := gd_s h
          refine lS_X1_levels X hp g5 dX1_number_43 ?_
          exact hR _ _ _ _ _ _ dX1_number_44 hp (Option.some.inj h) rfl (fun q => by cases q)
        · have h := it_p h c4
          refine lv_aload_n hx hb dX1_number_29 rfl (lv_at hl 0 rfl) ?_
          refine gS_X1_values X hp tw_5_2 dX1_number_30 ?_
          refine lv_iload_n hx hb dX1_number_33 rfl (lv_at hl 1 rfl) ?_
          obtain ⟨g6, h⟩ := gd_s h
          refine lS_X1_values X hp g6 dX1_number_34 ?_
          refine lv_goto (tgt := 44) hx hb dX1_number_35 (by decide) ?_
          exact hR _ _ _ _ _ _ dX1_number_44 hp (Option.some.inj h) rfl (fun q => by cases q)
      · have h := it_p h c3
        refine lv_aload_n hx hb dX1_number_17 rfl (lv_at hl 0 rfl) ?_
        refine gS_X1_masks X hp tw_5_1 dX1_number_18 ?_
        refine lv_iload_n hx hb dX1_number_21 rfl (lv_at hl 1 rfl) ?_
        obtain ⟨g7, h⟩ := gd_s h
        refine lS_X1_masks X hp g7 dX1_number_22 ?_
        exact hR _ _ _ _ _ _ dX1_number_23 hp (Option.some.inj h) rfl (fun q => by cases q)
    · have h := it_n h c2
      refine lv_iconst (v := -1) hx hb dX1_number_11 (by decide) ?_
      exact hR _ _ _ _ _ _ dX1_number_12 hp (Option.some.inj h) rfl (fun q => by cases q)
def X6_cube_22 (σ : St) : Option (Int32 × St) :=
  none
def X6_cube_42 (σ : St) : Option (Int32 × St) :=
  none
def X6_cube (v1 : Int32) (v2 : Int32) (σ : St) : Option (Int32 × St) :=
  bd (X6_requireProof σ) (fun t1 =>
  if v1 < 0 then
    X6_cube_22 t1
  else
    if v1 < (t1.1 23) then
      if v2 < 0 then
        X6_cube_42 t1
      else
        if v2 ≤ (2 : Int32) then
          bd (X1_number t1 v1 v2) (fun t6 =>
          some (t6, t1))
        else
          X6_cube_42 t1
    else
      X6_cube_22 t1)
set_option maxRecDepth 20000 in
set_option maxHeartbeats 4000000 in
theorem c_X6_cube {l : Launch} {D : va_G} {a : Nat → Nat} {cA : Nat → ClassId} {t : Nat} {F : (Nat → Prop) → State → Prop} (hF : EOK F) {σ : St} {v1 : Int32} {v2 : Int32} {r : Int32} {σ' : St} (h : X6_cube v1 v2 σ = some (r, σ')) : MetI l yX6_cube cX6_cube 3 (some .int) 1 D (tyW cA) (wS a cA) (ES t F) [.ref (a 0), .int v1, .int v2] σ r σ' := by
  refine mkI (by decide) (adrS a cA) (Or.inl rfl) (Nat.le_of_ble_eq_true rfl) ?_
  intro p e R s m args below meth c A Q ls X hR hp hl
  obtain ⟨hx, hb, -, hown, hts, -⟩ := id X
  have J_22 : ∀  (σ : St) (H : Heap) (locs : List Loc) (ls : Array Slot), Pw D (wS a cA) A s.heap H locs σ → lv_has ls 3 [(0, .ref (a 0))] → X6_cube_22 σ = some (r, σ') → W p l e R s m args below meth c H locs 0 0 Q (F0 m 22 ls []) := by
    intro σ H locs ls hp hl h
    unfold X6_cube_22 at h
    exact nn_s h
  have J_42 : ∀  (σ : St) (H : Heap) (locs : List Loc) (ls : Array Slot), Pw D (wS a cA) A s.heap H locs σ → lv_has ls 3 [(0, .ref (a 0))] → X6_cube_42 σ = some (r, σ') → W p l e R s m args below meth c H locs 0 0 Q (F0 m 42 ls []) := by
    intro σ H locs ls hp hl h
    unfold X6_cube_42 at h
    exact nn_s h
  unfold X6_cube at h
  have hl := lv_sub (l' := [(0, .ref (a 0)), (1, .int v1), (2, .int v2)]) hl [0, 1, 2] rfl
  refine lv_aload_n hx hb dX6_cube_0 rfl (lv_at hl 0 rfl) ?_
  obtain ⟨t1, ht1, h⟩ := bd_s h
  refine cl_Vv X (eokS hF) (c_X6_requireProof hF ht1) tw_43_18 mw_X6_requireProof (by decide) hp 0 rfl rfl rfl hl.1 rfl (Nat.le_of_ble_eq_true rfl) dX6_cube_1 (fun H locs hp => ?_)
  refine lv_iload_n hx hb dX6_cube_4 rfl (lv_at hl 1 rfl) ?_
  refine lv_if_lt (tgt := 22) hx hb dX6_cube_5 (by decide) (fun c2 => ?_) (fun c2 => ?_)
  · have h := it_p h c2
    exact J_22 t1 _ _ _ hp (lv_sub hl [0] rfl) h
  · have h := it_n h c2
    refine lv_iload_n hx hb dX6_cube_8 rfl (lv_at hl 1 rfl) ?_
    refine lv_aload_n hx hb dX6_cube_9 rfl (lv_at hl 0 rfl) ?_
    refine gS_X6_frameProof X hp tw_2_4 dX6_cube_10 ?_
    refine gS_X4_cubes X hp tw_44_10 dX6_cube_13 ?_
    refine gS_X1_count X hp tw_44_11 dX6_cube_16 ?_
    refine lv_icmp_lt (tgt := 33) hx hb dX6_cube_19 (by decide) (fun c3 => ?_) (fun c3 => ?_)
    · have h := it_p h c3
      refine lv_iload_n hx hb dX6_cube_33 rfl (lv_at hl 2 rfl) ?_
      refine lv_if_lt (tgt := 42) hx hb dX6_cube_34 (by decide) (fun c4 => ?_) (fun c4 => ?_)
      · have h := it_p h c4
        exact J_42 t1 _ _ _ hp (lv_sub hl [0] rfl) h
      · have h := it_n h c4
        refine lv_iload_n hx hb dX6_cube_37 rfl (lv_at hl 2 rfl) ?_
        refine lv_iconst (v := 2) hx hb dX6_cube_38 (by decide) ?_
        refine lv_icmp_le (tgt := 52) hx hb dX6_cube_39 (by decide) (fun c5 => ?_) (fun c5 => ?_)
        · have h := it_p h c5
          refine lv_aload_n hx hb dX6_cube_52 rfl (lv_at hl 0 rfl) ?_
          refine gS_X6_frameProof X hp tw_2_4 dX6_cube_53 ?_
          refine gS_X4_cubes X hp tw_44_10 dX6_cube_56 ?_
          refine lv_iload_n hx hb dX6_cube_59 rfl (lv_at hl 1 rfl) ?_
          refine lv_iload_n hx hb dX6_cube_60 rfl (lv_at hl 2 rfl) ?_
          obtain ⟨t6, ht6, h⟩ := bd_s h
          refine cl_Vi X (eokS hF) (c_X1_number hF ht6) tw_44_12 mw_X1_number (by decide) hp 6 rfl rfl rfl hl.1 rfl (Nat.le_of_ble_eq_true rfl) dX6_cube_61 (fun H locs hp => ?_)
          exact hR _ _ _ _ _ _ dX6_cube_64 hp (congrArg Prod.fst (Option.some.inj h)) (congrArg Prod.snd (Option.some.inj h)) (fun q => by cases q)
        · have h := it_n h c5
          exact J_42 t1 _ _ _ hp (lv_sub hl [0] rfl) h
    · have h := it_n h c3
      exact J_22 t1 _ _ _ hp (lv_sub hl [0] rfl) h
def X6_requireSafeProof_20 (σ : St) : Option (St) :=
  none
def X6_requireSafeProof (σ : St) : Option (St) :=
  if (σ.1 14) = 0 then
    X6_requireSafeProof_20 σ
  else
    if (σ.1 15) = 0 then
      some σ
    else
      X6_requireSafeProof_20 σ
set_option maxRecDepth 20000 in
set_option maxHeartbeats 4000000 in
theorem c_X6_requireSafeProof {l : Launch} {D : va_G} {a : Nat → Nat} {cA : Nat → ClassId} {t : Nat} {F : (Nat → Prop) → State → Prop} (hF : EOK F) {σ : St} {σ' : St} (h : X6_requireSafeProof σ = some σ') : MetV l yX6_requireSafeProof cX6_requireSafeProof 1 none 0 D (tyW cA) (wS a cA) (ES t F) [.ref (a 0)] σ σ' := by
  refine mkV (by decide) (adrS a cA) rfl (Nat.le_of_ble_eq_true rfl) ?_
  intro p e R s m args below meth c A Q ls X hR hp hl
  obtain ⟨hx, hb, -, hown, hts, -⟩ := id X
  have J_20 : ∀  (σ : St) (H : Heap) (locs : List Loc) (ls : Array Slot), Pw D (wS a cA) A s.heap H locs σ → lv_has ls 1 [(0, .ref (a 0))] → X6_requireSafeProof_20 σ = some σ' → W p l e R s m args below meth c H locs 0 0 Q (F0 m 20 ls []) := by
    intro σ H locs ls hp hl h
    unfold X6_requireSafeProof_20 at h
    exact nn_s h
  unfold X6_requireSafeProof at h
  have hl := lv_sub (l' := [(0, .ref (a 0))]) hl [0] rfl
  refine lv_aload_n hx hb dX6_requireSafeProof_0 rfl (lv_at hl 0 rfl) ?_
  refine gS_X6_frameProof X hp tw_2_4 dX6_requireSafeProof_1 ?_
  refine gS_X4_exists X hp tw_8_4 dX6_requireSafeProof_4 ?_
  refine lv_if_eq (tgt := 20) hx hb dX6_requireSafeProof_7 (by decide) (fun c1 => ?_) (fun c1 => ?_)
  · have h := it_p h c1
    exact J_20 σ _ _ _ hp (lv_sub hl [0] rfl) h
  · have h := it_n h c1
    refine lv_aload_n hx hb dX6_requireSafeProof_10 rfl (lv_at hl 0 rfl) ?_
    refine gS_X6_frameProof X hp tw_2_4 dX6_requireSafeProof_11 ?_
    refine gS_X4_verdict X hp tw_34_19 dX6_requireSafeProof_14 ?_
    refine lv_if_eq (tgt := 31) hx hb dX6_requireSafeProof_17 (by decide) (fun c2 => ?_) (fun c2 => ?_)
    · have h := it_p h c2
      exact hR _ _ _ _ _ dX6_requireSafeProof_31 hp (Option.some.inj h)
    · have h := it_n h c2
      exact J_20 σ _ _ _ hp (lv_sub hl [0] rfl) h
def X1_unionAbove_5b (k5 : (Int64 → Int32 → Option (Int64))) (k49 : (Int64 → Option (Int64))) (σ : St) (v1 : Int32) (v2 : Int64) (v4 : Int32) : Option (Int64) :=
  if (σ.1 23) ≤ v4 then
    k49 v2
  else
    if (729 : Int32) ≤ v4 then
      k49 v2
    else
      gd (inb v4 729) (
      if (σ.2.2.1 11 v4.toNatClampNeg) ≤ v1 then
        nm (v4 + (1 : Int32)) (fun (x5 : Int32) =>
        k5 v2 x5)
      else
        gd (inb v4 729) (
        nm (v2 ||| (σ.2.2.2 9 v4.toNatClampNeg)) (fun (x7 : Int64) =>
        nm (v4 + (1 : Int32)) (fun (x8 : Int32) =>
        k5 x7 x8))))
def X1_unionAbove_5 (k49 : (Int64 → Option (Int64))) (σ : St) (v1 : Int32) : Nat → Int64 → Int32 → Option (Int64)
  | 0, _, _ => none
  | n + 1, v2, v4 => X1_unionAbove_5b (fun v2 v4 => X1_unionAbove_5 k49 σ v1 n v2 v4) k49 σ v1 v2 v4
def X1_unionAbove_49 (σ : St) (v2 : Int64) : Option (Int64) :=
  some v2
def X1_unionAbove (N : Nat) (σ : St) (v1 : Int32) : Option (Int64) :=
  X1_unionAbove_5 (fun v2 => X1_unionAbove_49 σ v2) σ v1 N (0 : Int64) (0 : Int32)
set_option maxRecDepth 20000 in
set_option maxHeartbeats 4000000 in
theorem c_X1_unionAbove {l : Launch} {D : va_G} {a : Nat → Nat} {cA : Nat → ClassId} {t : Nat} {F : (Nat → Prop) → State → Prop} (hF : EOK F) {σ : St} {N : Nat} {v1 : Int32} {r : Int64} (h : X1_unionAbove N σ v1 = some r) : MetL l yX1_unionAbove cX1_unionAbove 5 (some .long) 0 D (tyW cA) (wS a cA) (ES t F) [.ref (a 6), .int v1] σ r σ := by
  refine mkL (by decide) (adrS a cA) rfl (Nat.le_of_ble_eq_true rfl) ?_
  intro p e R s m args below meth c A Q ls X hR hp hl
  obtain ⟨hx, hb, -, hown, hts, -⟩ := id X
  have J_5 : ∀ (v1 : Int32) (k49 : (Int64 → Option (Int64))) (hk49 : ∀ (v2 : Int64) (H : Heap) (locs : List Loc) (ls : Array Slot), Pw D (wS a cA) A s.heap H locs σ → lv_has ls 5 [(0, .ref (a 6)), (2, .long v2)] → k49 v2 = some r → W p l e R s m args below meth c H locs 0 0 Q (F0 m 49 ls [])) (n : Nat) (v2 : Int64) (v4 : Int32) (H : Heap) (locs : List Loc) (ls : Array Slot), Pw D (wS a cA) A s.heap H locs σ → lv_has ls 5 [(0, .ref (a 6)), (1, .int v1), (2, .long v2), (4, .int v4)] → X1_unionAbove_5 k49 σ v1 n v2 v4 = some r → W p l e R s m args below meth c H locs 0 0 Q (F0 m 5 ls []) := by
    intro v1 k49 hk49 n
    induction n with
    | zero => intro v2 v4 H locs ls hp hl h; exact nn_s (show (none : Option (Int64)) = some _ from h)
    | succ n ih =>
      intro v2 v4 H locs ls hp hl h
      have h : X1_unionAbove_5b (fun v2 v4 => X1_unionAbove_5 k49 σ v1 n v2 v4) k49 σ v1 v2 v4 = some r := h
      unfold X1_unionAbove_5b at h
      have hk5 := ih
      refine lv_iload hx hb dX1_unionAbove_5 (lv_at hl 3 rfl) ?_
      refine lv_aload_n hx hb dX1_unionAbove_7 rfl (lv_at hl 0 rfl) ?_
      refine gS_X1_count X hp tw_38_5 dX1_unionAbove_8 ?_
      refine lv_icmp_ge (tgt := 49) hx hb dX1_unionAbove_11 (by decide) (fun c1 => ?_) (fun c1 => ?_)
      · have h := it_p h c1
        exact hk49 v2 _ _ _ hp (lv_sub hl [0, 2] rfl) h
      · have h := it_n h c1
        refine lv_iload hx hb dX1_unionAbove_14 (lv_at hl 3 rfl) ?_
        refine lv_sipush (v := 729) hx hb dX1_unionAbove_16 (by decide) ?_
        refine lv_icmp_ge (tgt := 49) hx hb dX1_unionAbove_19 (by decide) (fun c2 => ?_) (fun c2 => ?_)
        · have h := it_p h c2
          exact hk49 v2 _ _ _ hp (lv_sub hl [0, 2] rfl) h
        · have h := it_n h c2
          refine lv_aload_n hx hb dX1_unionAbove_22 rfl (lv_at hl 0 rfl) ?_
          refine gS_X1_levels X hp tw_5_3 dX1_unionAbove_23 ?_
          refine lv_iload hx hb dX1_unionAbove_26 (lv_at hl 3 rfl) ?_
          obtain ⟨g3, h⟩ := gd_s h
          refine lS_X1_levels X hp g3 dX1_unionAbove_28 ?_
          refine lv_iload_n hx hb dX1_unionAbove_29 rfl (lv_at hl 1 rfl) ?_
          refine lv_icmp_le (tgt := 43) hx hb dX1_unionAbove_30 (by decide) (fun c4 => ?_) (fun c4 => ?_)
          · have h := it_p h c4
            obtain ⟨x5, ex5⟩ : ∃ z : Int32, z = v4 + (1 : Int32) := ⟨_, rfl⟩
            have h := nm_s h x5 ex5
            refine lv_iinc (v := x5) (lv' := [(4, .int x5), (0, .ref (a 6)), (1, .int v1), (2, .long v2)]) hx hb dX1_unionAbove_43 hl (k := 3) rfl (by rw [ex5]; rfl) (by decide) rfl (fun ls hl => ?_)
            refine lv_goto (tgt := 5) hx hb dX1_unionAbove_46 (by decide) ?_
            exact hk5 v2 x5 _ _ _ hp (lv_sub hl [1, 2, 3, 0] rfl) h
          · have h := it_n h c4
            refine lv_lload_n hx hb dX1_unionAbove_33 rfl (lv_at hl 2 rfl) ?_
            refine lv_aload_n hx hb dX1_unionAbove_34 rfl (lv_at hl 0 rfl) ?_
            refine gS_X1_sets X hp tw_5_4 dX1_unionAbove_35 ?_
            refine lv_iload hx hb dX1_unionAbove_38 (lv_at hl 3 rfl) ?_
            obtain ⟨g6, h⟩ := gd_s h
            refine lS_X1_sets X hp g6 dX1_unionAbove_40 ?_
            refine lv_lor hx hb dX1_unionAbove_41 ?_
            refine lv_topl (fun x7 ex7 => ?_)
            have h := nm_s h x7 ex7
            refine lv_lstore_n (lv' := [(2, .long x7), (0, .ref (a 6)), (1, .int v1), (4, .int v4)]) hx hb dX1_unionAbove_42 rfl hl (by decide) rfl (fun ls hl => ?_)
            obtain ⟨x8, ex8⟩ : ∃ z : Int32, z = v4 + (1 : Int32) := ⟨_, rfl⟩
            have h := nm_s h x8 ex8
            refine lv_iinc (v := x8) (lv' := [(4, .int x8), (2, .long x7), (0, .ref (a 6)), (1, .int v1)]) hx hb dX1_unionAbove_43 hl (k := 3) rfl (by rw [ex8]; rfl) (by decide) rfl (fun ls hl => ?_)
            refine lv_goto (tgt := 5) hx hb dX1_unionAbove_46 (by decide) ?_
            exact hk5 x7 x8 _ _ _ hp (lv_sub hl [2, 3, 1, 0] rfl) h
  have J_49 : ∀ (v2 : Int64) (H : Heap) (locs : List Loc) (ls : Array Slot), Pw D (wS a cA) A s.heap H locs σ → lv_has ls 5 [(0, .ref (a 6)), (2, .long v2)] → X1_unionAbove_49 σ v2 = some r → W p l e R s m args below meth c H locs 0 0 Q (F0 m 49 ls []) := by
    intro v2 H locs ls hp hl h
    unfold X1_unionAbove_49 at h
    refine lv_lload_n hx hb dX1_unionAbove_49 rfl (lv_at hl 1 rfl) ?_
    exact hR _ _ _ _ _ _ dX1_unionAbove_50 hp (Option.some.inj h) rfl
  unfold X1_unionAbove at h
  have hl := lv_sub (l' := [(0, .ref (a 6)), (1, .int v1)]) hl [0, 1] rfl
  refine lv_lconst (v := 0) hx hb dX1_unionAbove_0 (by decide) ?_
  refine lv_lstore_n (lv' := [(2, .long (0 : Int64)), (0, .ref (a 6)), (1, .int v1)]) hx hb dX1_unionAbove_1 rfl hl (by decide) rfl (fun ls hl => ?_)
  refine lv_iconst (v := 0) hx hb dX1_unionAbove_2 (by decide) ?_
  refine lv_istore (lv' := [(4, .int (0 : Int32)), (2, .long (0 : Int64)), (0, .ref (a 6)), (1, .int v1)]) hx hb dX1_unionAbove_3 hl (by decide) rfl (fun ls hl => ?_)
  exact J_5 v1 _ (fun v2 H locs ls hp hl h => J_49 v2 _ _ _ hp hl h) _ (0 : Int64) (0 : Int32) _ _ _ hp (lv_sub hl [2, 3, 1, 0] rfl) h
def X4_certificateStates (N : Nat) (σ : St) : Option (Int64) :=
  bd (X1_unionAbove N σ (σ.1 21)) (fun t1 =>
  some ((σ.2.1 0) &&& (t1 ^^^ (-1 : Int64))))
set_option maxRecDepth 20000 in
set_option maxHeartbeats 4000000 in
theorem c_X4_certificateStates {l : Launch} {D : va_G} {a : Nat → Nat} {cA : Nat → ClassId} {t : Nat} {F : (Nat → Prop) → State → Prop} (hF : EOK F) {σ : St} {N : Nat} {r : Int64} (h : X4_certificateStates N σ = some r) : MetL l yX4_certificateStates cX4_certificateStates 1 (some .long) 1 D (tyW cA) (wS a cA) (ES t F) [.ref (a 4)] σ r σ := by
  refine mkL (by decide) (adrS a cA) rfl (Nat.le_of_ble_eq_true rfl) ?_
  intro p e R s m args below meth c A Q ls X hR hp hl
  obtain ⟨hx, hb, -, hown, hts, -⟩ := id X
  unfold X4_certificateStates at h
  have hl := lv_sub (l' := [(0, .ref (a 4))]) hl [0] rfl
  refine lv_aload_n hx hb dX4_certificateStates_0 rfl (lv_at hl 0 rfl) ?_
  refine gS_X4_circuit X hp tw_4_12 dX4_certificateStates_1 ?_
  refine gS_X0_all X hp tw_35_20 dX4_certificateStates_4 ?_
  refine lv_aload_n hx hb dX4_certificateStates_7 rfl (lv_at hl 0 rfl) ?_
  refine gS_X4_cubes X hp tw_4_16 dX4_certificateStates_8 ?_
  refine lv_aload_n hx hb dX4_certificateStates_11 rfl (lv_at hl 0 rfl) ?_
  refine gS_X4_certificateBase X hp tw_35_12 dX4_certificateStates_12 ?_
  obtain ⟨t1, ht1, h⟩ := bd_s h
  refine cl_Vl X (eokS hF) (c_X1_unionAbove hF ht1) tw_45_11 mw_X1_unionAbove (by decide) hp 6 rfl rfl rfl hl.1 rfl (Nat.le_of_ble_eq_true rfl) dX4_certificateStates_15 (fun H locs hp => ?_)
  refine lv_ldc2 hx hb hown (hts _ tw_36_23) dX4_certificateStates_18 ?_
  refine lv_lxor hx hb dX4_certificateStates_21 ?_
  refine lv_land hx hb dX4_certificateStates_22 ?_
  exact hR _ _ _ _ _ _ dX4_certificateStates_23 hp (Option.some.inj h) rfl
def X6_certificate (N : Nat) (σ : St) : Option (Int64 × St) :=
  bd (X6_requireSafeProof σ) (fun t1 =>
  bd (X4_certificateStates N t1) (fun t2 =>
  some (t2, t1)))
set_option maxRecDepth 20000 in
set_option maxHeartbeats 4000000 in
theorem c_X6_certificate {l : Launch} {D : va_G} {a : Nat → Nat} {cA : Nat → ClassId} {t : Nat} {F : (Nat → Prop) → State → Prop} (hF : EOK F) {σ : St} {N : Nat} {r : Int64} {σ' : St} (h : X6_certificate N σ = some (r, σ')) : MetL l yX6_certificate cX6_certificate 1 (some .long) 2 D (tyW cA) (wS a cA) (ES t F) [.ref (a 0)] σ r σ' := by
  refine mkL (by decide) (adrS a cA) rfl (Nat.le_of_ble_eq_true rfl) ?_
  intro p e R s m args below meth c A Q ls X hR hp hl
  obtain ⟨hx, hb, -, hown, hts, -⟩ := id X
  unfold X6_certificate at h
  have hl := lv_sub (l' := [(0, .ref (a 0))]) hl [0] rfl
  refine lv_aload_n hx hb dX6_certificate_0 rfl (lv_at hl 0 rfl) ?_
  obtain ⟨t1, ht1, h⟩ := bd_s h
  refine cl_Vv X (eokS hF) (c_X6_requireSafeProof hF ht1) tw_45_3 mw_X6_requireSafeProof (by decide) hp 0 rfl rfl rfl hl.1 rfl (Nat.le_of_ble_eq_true rfl) dX6_certificate_1 (fun H locs hp => ?_)
  refine lv_aload_n hx hb dX6_certificate_4 rfl (lv_at hl 0 rfl) ?_
  refine gS_X6_frameProof X hp tw_2_4 dX6_certificate_5 ?_
  obtain ⟨t2, ht2, h⟩ := bd_s h
  refine cl_Vl X (eokS hF) (c_X4_certificateStates hF ht2) tw_45_7 mw_X4_certificateStates (by decide) hp 4 rfl rfl rfl hl.1 rfl (Nat.le_of_ble_eq_true rfl) dX6_certificate_8 (fun H locs hp => ?_)
  exact hR _ _ _ _ _ _ dX6_certificate_11 hp (congrArg Prod.fst (Option.some.inj h)) (congrArg Prod.snd (Option.some.inj h))
def X4_unionOfKept_4b (k4 : (Int64 → Int32 → Option (Int64))) (k49 : (Int64 → Option (Int64))) (σ : St) (v1 : Int64) (v3 : Int32) : Option (Int64) :=
  if (σ.1 23) ≤ v3 then
    k49 v1
  else
    if (729 : Int32) ≤ v3 then
      k49 v1
    else
      gd (inb v3 729) (
      if (σ.2.2.1 8 v3.toNatClampNeg) = 0 then
        gd (inb v3 729) (
        nm (v1 ||| (σ.2.2.2 9 v3.toNatClampNeg)) (fun (x7 : Int64) =>
        nm (v3 + (1 : Int32)) (fun (x8 : Int32) =>
        k4 x7 x8)))
      else
        nm (v3 + (1 : Int32)) (fun (x5 : Int32) =>
        k4 v1 x5))
def X4_unionOfKept_4 (k49 : (Int64 → Option (Int64))) (σ : St) : Nat → Int64 → Int32 → Option (Int64)
  | 0, _, _ => none
  | n + 1, v1, v3 => X4_unionOfKept_4b (fun v1 v3 => X4_unionOfKept_4 k49 σ n v1 v3) k49 σ v1 v3
def X4_unionOfKept_49 (σ : St) (v1 : Int64) : Option (Int64) :=
  some v1
def X4_unionOfKept (N : Nat) (σ : St) : Option (Int64) :=
  X4_unionOfKept_4 (fun v1 => X4_unionOfKept_49 σ v1) σ N (0 : Int64) (0 : Int32)
set_option maxRecDepth 20000 in
set_option maxHeartbeats 4000000 in
theorem c_X4_unionOfKept {l : Launch} {D : va_G} {a : Nat → Nat} {cA : Nat → ClassId} {t : Nat} {F : (Nat → Prop) → State → Prop} (hF : EOK F) {σ : St} {N : Nat} {r : Int64} (h : X4_unionOfKept N σ = some r) : MetL l yX4_unionOfKept cX4_unionOfKept 4 (some .long) 0 D (tyW cA) (wS a cA) (ES t F) [.ref (a 4)] σ r σ := by
  refine mkL (by decide) (adrS a cA) rfl (Nat.le_of_ble_eq_true rfl) ?_
  intro p e R s m args below meth c A Q ls X hR hp hl
  obtain ⟨hx, hb, -, hown, hts, -⟩ := id X
  have J_4 : ∀  (k49 : (Int64 → Option (Int64))) (hk49 : ∀ (v1 : Int64) (H : Heap) (locs : List Loc) (ls : Array Slot), Pw D (wS a cA) A s.heap H locs σ → lv_has ls 4 [(0, .ref (a 4)), (1, .long v1)] → k49 v1 = some r → W p l e R s m args below meth c H locs 0 0 Q (F0 m 49 ls [])) (n : Nat) (v1 : Int64) (v3 : Int32) (H : Heap) (locs : List Loc) (ls : Array Slot), Pw D (wS a cA) A s.heap H locs σ → lv_has ls 4 [(0, .ref (a 4)), (1, .long v1), (3, .int v3)] → X4_unionOfKept_4 k49 σ n v1 v3 = some r → W p l e R s m args below meth c H locs 0 0 Q (F0 m 4 ls []) := by
    intro k49 hk49 n
    induction n with
    | zero => intro v1 v3 H locs ls hp hl h; exact nn_s (show (none : Option (Int64)) = some _ from h)
    | succ n ih =>
      intro v1 v3 H locs ls hp hl h
      have h : X4_unionOfKept_4b (fun v1 v3 => X4_unionOfKept_4 k49 σ n v1 v3) k49 σ v1 v3 = some r := h
      unfold X4_unionOfKept_4b at h
      have hk4 := ih
      refine lv_iload_n hx hb dX4_unionOfKept_4 rfl (lv_at hl 2 rfl) ?_
      refine lv_aload_n hx hb dX4_unionOfKept_5 rfl (lv_at hl 0 rfl) ?_
      refine gS_X4_cubes X hp tw_4_16 dX4_unionOfKept_6 ?_
      refine gS_X1_count X hp tw_35_6 dX4_unionOfKept_9 ?_
      refine lv_icmp_ge (tgt := 49) hx hb dX4_unionOfKept_12 (by decide) (fun c1 => ?_) (fun c1 => ?_)
      · have h := it_p h c1
        exact hk49 v1 _ _ _ hp (lv_sub hl [0, 1] rfl) h
      · have h := it_n h c1
        refine lv_iload_n hx hb dX4_unionOfKept_15 rfl (lv_at hl 2 rfl) ?_
        refine lv_sipush (v := 729) hx hb dX4_unionOfKept_16 (by decide) ?_
        refine lv_icmp_ge (tgt := 49) hx hb dX4_unionOfKept_19 (by decide) (fun c2 => ?_) (fun c2 => ?_)
        · have h := it_p h c2
          exact hk49 v1 _ _ _ hp (lv_sub hl [0, 1] rfl) h
        · have h := it_n h c2
          refine lv_aload_n hx hb dX4_unionOfKept_22 rfl (lv_at hl 0 rfl) ?_
          refine gS_X4_dropped X hp tw_4_20 dX4_unionOfKept_23 ?_
          refine lv_iload_n hx hb dX4_unionOfKept_26 rfl (lv_at hl 2 rfl) ?_
          obtain ⟨g3, h⟩ := gd_s h
          refine lS_X4_dropped X hp g3 dX4_unionOfKept_27 ?_
          refine lv_if_ne (tgt := 43) hx hb dX4_unionOfKept_28 (by decide) (fun c4 => ?_) (fun c4 => ?_)
          · have h := it_n h c4
            obtain ⟨x5, ex5⟩ : ∃ z : Int32, z = v3 + (1 : Int32) := ⟨_, rfl⟩
            have h := nm_s h x5 ex5
            refine lv_iinc (v := x5) (lv' := [(3, .int x5), (0, .ref (a 4)), (1, .long v1)]) hx hb dX4_unionOfKept_43 hl (k := 2) rfl (by rw [ex5]; rfl) (by decide) rfl (fun ls hl => ?_)
            refine lv_goto (tgt := 4) hx hb dX4_unionOfKept_46 (by decide) ?_
            exact hk4 v1 x5 _ _ _ hp (lv_sub hl [1, 2, 0] rfl) h
          · have h := it_p h c4
            refine lv_lload_n hx hb dX4_unionOfKept_31 rfl (lv_at hl 1 rfl) ?_
            refine lv_aload_n hx hb dX4_unionOfKept_32 rfl (lv_at hl 0 rfl) ?_
            refine gS_X4_cubes X hp tw_4_16 dX4_unionOfKept_33 ?_
            refine gS_X1_sets X hp tw_39_2 dX4_unionOfKept_36 ?_
            refine lv_iload_n hx hb dX4_unionOfKept_39 rfl (lv_at hl 2 rfl) ?_
            obtain ⟨g6, h⟩ := gd_s h
            refine lS_X1_sets X hp g6 dX4_unionOfKept_40 ?_
            refine lv_lor hx hb dX4_unionOfKept_41 ?_
            refine lv_topl (fun x7 ex7 => ?_)
            have h := nm_s h x7 ex7
            refine lv_lstore_n (lv' := [(1, .long x7), (0, .ref (a 4)), (3, .int v3)]) hx hb dX4_unionOfKept_42 rfl hl (by decide) rfl (fun ls hl => ?_)
            obtain ⟨x8, ex8⟩ : ∃ z : Int32, z = v3 + (1 : Int32) := ⟨_, rfl⟩
            have h := nm_s h x8 ex8
            refine lv_iinc (v := x8) (lv' := [(3, .int x8), (1, .long x7), (0, .ref (a 4))]) hx hb dX4_unionOfKept_43 hl (k := 2) rfl (by rw [ex8]; rfl) (by decide) rfl (fun ls hl => ?_)
            refine lv_goto (tgt := 4) hx hb dX4_unionOfKept_46 (by decide) ?_
            exact hk4 x7 x8 _ _ _ hp (lv_sub hl [2, 1, 0] rfl) h
  have J_49 : ∀ (v1 : Int64) (H : Heap) (locs : List Loc) (ls : Array Slot), Pw D (wS a cA) A s.heap H locs σ → lv_has ls 4 [(0, .ref (a 4)), (1, .long v1)] → X4_unionOfKept_49 σ v1 = some r → W p l e R s m args below meth c H locs 0 0 Q (F0 m 49 ls []) := by
    intro v1 H locs ls hp hl h
    unfold X4_unionOfKept_49 at h
    refine lv_lload_n hx hb dX4_unionOfKept_49 rfl (lv_at hl 1 rfl) ?_
    exact hR _ _ _ _ _ _ dX4_unionOfKept_50 hp (Option.some.inj h) rfl
  unfold X4_unionOfKept at h
  have hl := lv_sub (l' := [(0, .ref (a 4))]) hl [0] rfl
  refine lv_lconst (v := 0) hx hb dX4_unionOfKept_0 (by decide) ?_
  refine lv_lstore_n (lv' := [(1, .long (0 : Int64)), (0, .ref (a 4))]) hx hb dX4_unionOfKept_1 rfl hl (by decide) rfl (fun ls hl => ?_)
  refine lv_iconst (v := 0) hx hb dX4_unionOfKept_2 (by decide) ?_
  refine lv_istore_n (lv' := [(3, .int (0 : Int32)), (1, .long (0 : Int64)), (0, .ref (a 4))]) hx hb dX4_unionOfKept_3 rfl hl (by decide) rfl (fun ls hl => ?_)
  exact J_4 _ (fun v1 H locs ls hp hl h => J_49 v1 _ _ _ hp hl h) _ (0 : Int64) (0 : Int32) _ _ _ hp (lv_sub hl [2, 1, 0] rfl) h
def X4_countNeededCubes_a3_48 (k4 : (Int32 → St → Option (Int32 × St))) (v2 : Int32) (v3 : Int32) (u0 : Int32) (u1 : Int32) (σ : St) : Option (Int32 × St) :=
  gd (inb u1 729) (
  gd (isb u0) (
  nm (sa σ 8 u1.toNatClampNeg u0) (fun (σ2 : St) =>
  nm (v3 + (1 : Int32)) (fun (x4 : Int32) =>
  k4 x4 σ2))))
def X4_countNeededCubes_a3_4b (k4 : (Int32 → St → Option (Int32 × St))) (k55 : (Int32 → St → Option (Int32 × St))) (v2 : Int32) (v3 : Int32) (σ : St) : Option (Int32 × St) :=
  if (σ.1 23) ≤ v3 then
    k55 v2 σ
  else
    if (729 : Int32) ≤ v3 then
      k55 v2 σ
    else
      gd (inb v3 729) (
      if (σ.1 21) < (σ.2.2.1 11 v3.toNatClampNeg) then
        X4_countNeededCubes_a3_48 k4 v2 v3 (0 : Int32) v3 σ
      else
        X4_countNeededCubes_a3_48 k4 v2 v3 (1 : Int32) v3 σ)
def X4_countNeededCubes_a3_4 (k55 : (Int32 → St → Option (Int32 × St))) (v2 : Int32) : Nat → Int32 → St → Option (Int32 × St)
  | 0, _, _ => none
  | n + 1, v3, σ => X4_countNeededCubes_a3_4b (fun v3 σ => X4_countNeededCubes_a3_4 k55 v2 n v3 σ) k55 v2 v3 σ
def X4_countNeededCubes_a3_157 (k57 : (Int32 → Int32 → St → Option (Int32 × St))) (v2 : Int32) (v3 : Int32) (σ : St) : Option (Int32 × St) :=
  gd (inb v3 729) (
  nm (sa σ 8 v3.toNatClampNeg (0 : Int32)) (fun (σ2 : St) =>
  nm (v2 + (1 : Int32)) (fun (x3 : Int32) =>
  nm (v3 + (1 : Int32)) (fun (x4 : Int32) =>
  k57 x3 x4 σ2))))
def X4_countNeededCubes_a3_135 (k57 : (Int32 → Int32 → St → Option (Int32 × St))) (v2 : Int32) (v3 : Int32) (v4 : Int64) (u0 : Int32) (σ : St) : Option (Int32 × St) :=
  if u0 = 0 then
    X4_countNeededCubes_a3_157 k57 v2 v3 σ
  else
    bd (X0_bad σ) (fun t2 =>
    if (v4 &&& t2) = (0 : Int64) then
      nm (v3 + (1 : Int32)) (fun (x4 : Int32) =>
      k57 v2 x4 σ)
    else
      X4_countNeededCubes_a3_157 k57 v2 v3 σ)
def X4_countNeededCubes_a3_57b (N : Nat) (k57 : (Int32 → Int32 → St → Option (Int32 × St))) (k173 : (Int32 → St → Option (Int32 × St))) (v2 : Int32) (v3 : Int32) (σ : St) : Option (Int32 × St) :=
  if (σ.1 23) ≤ v3 then
    k173 v2 σ
  else
    if (729 : Int32) ≤ v3 then
      k173 v2 σ
    else
      gd (inb v3 729) (
      if (σ.2.2.1 8 v3.toNatClampNeg) = 0 then
        gd (inb v3 729) (
        nm (sa σ 8 v3.toNatClampNeg (1 : Int32)) (fun (σ6 : St) =>
        bd (X4_unionOfKept N σ6) (fun t7 =>
        nm ((σ6.2.1 0) &&& (t7 ^^^ (-1 : Int64))) (fun (x8 : Int64) =>
        bd (X2_successorsOf N σ6 x8) (fun t9 =>
        if (t9 &&& (x8 ^^^ (-1 : Int64))) = (0 : Int64) then
          X4_countNeededCubes_a3_135 k57 v2 v3 x8 (1 : Int32) σ6
        else
          X4_countNeededCubes_a3_135 k57 v2 v3 x8 (0 : Int32) σ6)))))
      else
        nm (v3 + (1 : Int32)) (fun (x11 : Int32) =>
        k57 v2 x11 σ))
def X4_countNeededCubes_a3_57 (N : Nat) (k173 : (Int32 → St → Option (Int32 × St))) : Nat → Int32 → Int32 → St → Option (Int32 × St)
  | 0, _, _, _ => none
  | n + 1, v2, v3, σ => X4_countNeededCubes_a3_57b N (fun v2 v3 σ => X4_countNeededCubes_a3_57 N k173 n v2 v3 σ) k173 v2 v3 σ
def X4_countNeededCubes_a3_173 (v2 : Int32) (σ : St) : Option (Int32 × St) :=
  some (v2, σ)
def X4_countNeededCubes_a3_55 (N : Nat) (v2 : Int32) (σ : St) : Option (Int32 × St) :=
  X4_countNeededCubes_a3_57 N (fun v2 σ => X4_countNeededCubes_a3_173 v2 σ) N v2 (0 : Int32) σ
def X4_countNeededCubes_a3 (N : Nat) (σ : St) : Option (Int32 × St) :=
  X4_countNeededCubes_a3_4 (fun v2 σ => X4_countNeededCubes_a3_55 N v2 σ) (0 : Int32) N (0 : Int32) σ
set_option maxRecDepth 20000 in
set_option maxHeartbeats 4000000 in
theorem c_X4_countNeededCubes_a3 {l : Launch} {D : va_G} {a : Nat → Nat} {cA : Nat → ClassId} {t : Nat} {F : (Nat → Prop) → State → Prop} (hF : EOK F) {σ : St} {N : Nat} {r : Int32} {σ' : St} (h : X4_countNeededCubes_a3 N σ = some (r, σ')) : MetI l yX4_countNeededCubes cX4_countNeededCubes 7 (some .int) 4 D (tyW cA) (wS a cA) (ES t F) [.ref (a 4), .ref (a 3)] σ r σ' := by
  refine mkI (by decide) (adrS a cA) (Or.inl rfl) (Nat.le_of_ble_eq_true rfl) ?_
  intro p e R s m args below meth c A Q ls X hR hp hl
  obtain ⟨hx, hb, -, hown, hts, -⟩ := id X
  have J_48 : ∀ (v2 : Int32) (v3 : Int32) (u0 : Int32) (u1 : Int32) (k4 : (Int32 → St → Option (Int32 × St))) (hk4 : ∀ (v3 : Int32) (σ : St) (H : Heap) (locs : List Loc) (ls : Array Slot), Pw D (wS a cA) A s.heap H locs σ → lv_has ls 7 [(0, .ref (a 4)), (1, .ref (a 3)), (2, .int v2), (3, .int v3)] → k4 v3 σ = some (r, σ') → W p l e R s m args below meth c H locs 0 0 Q (F0 m 4 ls [])) (σ : St) (H : Heap) (locs : List Loc) (ls : Array Slot), Pw D (wS a cA) A s.heap H locs σ → lv_has ls 7 [(0, .ref (a 4)), (1, .ref (a 3)), (2, .int v2), (3, .int v3)] → X4_countNeededCubes_a3_48 k4 v2 v3 u0 u1 σ = some (r, σ') → W p l e R s m args below meth c H locs 0 0 Q (F0 m 48 ls [.int u0, .int u1, .ref (a 22)]) := by
    intro v2 v3 u0 u1 k4 hk4 σ H locs ls hp hl h
    unfold X4_countNeededCubes_a3_48 at h
    obtain ⟨g1, h⟩ := gd_s h
    obtain ⟨g3, h⟩ := gd_s h
    refine sS_X4_dropped X hp g1 g3 dX4_countNeededCubes_48 (fun H locs σ2 eσ2 hp => ?_)
    have h := nm_s h σ2 eσ2
    obtain ⟨x4, ex4⟩ : ∃ z : Int32, z = v3 + (1 : Int32) := ⟨_, rfl⟩
    have h := nm_s h x4 ex4
    refine lv_iinc (v := x4) (lv' := [(3, .int x4), (0, .ref (a 4)), (1, .ref (a 3)), (2, .int v2)]) hx hb dX4_countNeededCubes_49 hl (k := 3) rfl (by rw [ex4]; rfl) (by decide) rfl (fun ls hl => ?_)
    refine lv_goto (tgt := 4) hx hb dX4_countNeededCubes_52 (by decide) ?_
    exact hk4 x4 σ2 _ _ _ hp (lv_sub hl [1, 2, 3, 0] rfl) h
  have J_4 : ∀ (v2 : Int32) (k55 : (Int32 → St → Option (Int32 × St))) (hk55 : ∀ (v2 : Int32) (σ : St) (H : Heap) (locs : List Loc) (ls : Array Slot), Pw D (wS a cA) A s.heap H locs σ → lv_has ls 7 [(0, .ref (a 4)), (1, .ref (a 3)), (2, .int v2)] → k55 v2 σ = some (r, σ') → W p l e R s m args below meth c H locs 0 0 Q (F0 m 55 ls [])) (n : Nat) (v3 : Int32) (σ : St) (H : Heap) (locs : List Loc) (ls : Array Slot), Pw D (wS a cA) A s.heap H locs σ → lv_has ls 7 [(0, .ref (a 4)), (1, .ref (a 3)), (2, .int v2), (3, .int v3)] → X4_countNeededCubes_a3_4 k55 v2 n v3 σ = some (r, σ') → W p l e R s m args below meth c H locs 0 0 Q (F0 m 4 ls []) := by
    intro v2 k55 hk55 n
    induction n with
    | zero => intro v3 σ H locs ls hp hl h; exact nn_s (show (none : Option (Int32 × St)) = some _ from h)
    | succ n ih =>
      intro v3 σ H locs ls hp hl h
      have h : X4_countNeededCubes_a3_4b (fun v3 σ => X4_countNeededCubes_a3_4 k55 v2 n v3 σ) k55 v2 v3 σ = some (r, σ') := h
      unfold X4_countNeededCubes_a3_4b at h
      have hk4 := ih
      refine lv_iload_n hx hb dX4_countNeededCubes_4 rfl (lv_at hl 3 rfl) ?_
      refine lv_aload_n hx hb dX4_countNeededCubes_5 rfl (lv_at hl 0 rfl) ?_
      refine gS_X4_cubes X hp tw_4_16 dX4_countNeededCubes_6 ?_
      refine gS_X1_count X hp tw_35_6 dX4_countNeededCubes_9 ?_
      refine lv_icmp_ge (tgt := 55) hx hb dX4_countNeededCubes_12 (by decide) (fun c1 => ?_) (fun c1 => ?_)
      · have h := it_p h c1
        exact hk55 v2 σ _ _ _ hp (lv_sub hl [0, 1, 2] rfl) h
      · have h := it_n h c1
        refine lv_iload_n hx hb dX4_countNeededCubes_15 rfl (lv_at hl 3 rfl) ?_
        refine lv_sipush (v := 729) hx hb dX4_countNeededCubes_16 (by decide) ?_
        refine lv_icmp_ge (tgt := 55) hx hb dX4_countNeededCubes_19 (by decide) (fun c2 => ?_) (fun c2 => ?_)
        · have h := it_p h c2
          exact hk55 v2 σ _ _ _ hp (lv_sub hl [0, 1, 2] rfl) h
        · have h := it_n h c2
          refine lv_aload_n hx hb dX4_countNeededCubes_22 rfl (lv_at hl 0 rfl) ?_
          refine gS_X4_dropped X hp tw_4_20 dX4_countNeededCubes_23 ?_
          refine lv_iload_n hx hb dX4_countNeededCubes_26 rfl (lv_at hl 3 rfl) ?_
          refine lv_aload_n hx hb dX4_countNeededCubes_27 rfl (lv_at hl 0 rfl) ?_
          refine gS_X4_cubes X hp tw_4_16 dX4_countNeededCubes_28 ?_
          refine gS_X1_levels X hp tw_39_1 dX4_countNeededCubes_31 ?_
          refine lv_iload_n hx hb dX4_countNeededCubes_34 rfl (lv_at hl 3 rfl) ?_
          obtain ⟨g3, h⟩ := gd_s h
          refine lS_X1_levels X hp g3 dX4_countNeededCubes_35 ?_
          refine lv_aload_n hx hb dX4_countNeededCubes_36 rfl (lv_at hl 0 rfl) ?_
          refine gS_X4_certificateBase X hp tw_35_12 dX4_countNeededCubes_37 ?_
          refine lv_icmp_gt (tgt := 47) hx hb dX4_countNeededCubes_40 (by decide) (fun c4 => ?_) (fun c4 => ?_)
          · have h := it_p h c4
            refine lv_iconst (v := 0) hx hb dX4_countNeededCubes_47 (by decide) ?_
            exact J_48 v2 v3 (0 : Int32) v3 _ hk4 σ _ _ _ hp (lv_sub hl [0, 1, 2, 3] rfl) h
          · have h := it_n h c4
            refine lv_iconst (v := 1) hx hb dX4_countNeededCubes_43 (by decide) ?_
            refine lv_goto (tgt := 48) hx hb dX4_countNeededCubes_44 (by decide) ?_
            exact J_48 v2 v3 (1 : Int32) v3 _ hk4 σ _ _ _ hp (lv_sub hl [0, 1, 2, 3] rfl) h
  have J_157 : ∀ (v2 : Int32) (v3 : Int32) (k57 : (Int32 → Int32 → St → Option (Int32 × St))) (hk57 : ∀ (v2 : Int32) (v3 : Int32) (σ : St) (H : Heap) (locs : List Loc) (ls : Array Slot), Pw D (wS a cA) A s.heap H locs σ → lv_has ls 7 [(0, .ref (a 4)), (1, .ref (a 3)), (2, .int v2), (3, .int v3)] → k57 v2 v3 σ = some (r, σ') → W p l e R s m args below meth c H locs 0 0 Q (F0 m 57 ls [])) (σ : St) (H : Heap) (locs : List Loc) (ls : Array Slot), Pw D (wS a cA) A s.heap H locs σ → lv_has ls 7 [(0, .ref (a 4)), (1, .ref (a 3)), (2, .int v2), (3, .int v3)] → X4_countNeededCubes_a3_157 k57 v2 v3 σ = some (r, σ') → W p l e R s m args below meth c H locs 0 0 Q (F0 m 157 ls []) := by
    intro v2 v3 k57 hk57 σ H locs ls hp hl h
    unfold X4_countNeededCubes_a3_157 at h
    refine lv_aload_n hx hb dX4_countNeededCubes_157 rfl (lv_at hl 0 rfl) ?_
    refine gS_X4_dropped X hp tw_4_20 dX4_countNeededCubes_158 ?_
    refine lv_iload_n hx hb dX4_countNeededCubes_161 rfl (lv_at hl 3 rfl) ?_
    refine lv_iconst (v := 0) hx hb dX4_countNeededCubes_162 (by decide) ?_
    obtain ⟨g1, h⟩ := gd_s h
    refine sS_X4_dropped X hp g1 (Or.inl rfl) dX4_countNeededCubes_163 (fun H locs σ2 eσ2 hp => ?_)
    have h := nm_s h σ2 eσ2
    obtain ⟨x3, ex3⟩ : ∃ z : Int32, z = v2 + (1 : Int32) := ⟨_, rfl⟩
    have h := nm_s h x3 ex3
    refine lv_iinc (v := x3) (lv' := [(2, .int x3), (0, .ref (a 4)), (1, .ref (a 3)), (3, .int v3)]) hx hb dX4_countNeededCubes_164 hl (k := 2) rfl (by rw [ex3]; rfl) (by decide) rfl (fun ls hl => ?_)
    obtain ⟨x4, ex4⟩ : ∃ z : Int32, z = v3 + (1 : Int32) := ⟨_, rfl⟩
    have h := nm_s h x4 ex4
    refine lv_iinc (v := x4) (lv' := [(3, .int x4), (2, .int x3), (0, .ref (a 4)), (1, .ref (a 3))]) hx hb dX4_countNeededCubes_167 hl (k := 3) rfl (by rw [ex4]; rfl) (by decide) rfl (fun ls hl => ?_)
    refine lv_goto (tgt := 57) hx hb dX4_countNeededCubes_170 (by decide) ?_
    exact hk57 x3 x4 σ2 _ _ _ hp (lv_sub hl [2, 3, 1, 0] rfl) h
  have J_135 : ∀ (v2 : Int32) (v3 : Int32) (v4 : Int64) (u0 : Int32) (k57 : (Int32 → Int32 → St → Option (Int32 × St))) (hk57 : ∀ (v2 : Int32) (v3 : Int32) (σ : St) (H : Heap) (locs : List Loc) (ls : Array Slot), Pw D (wS a cA) A s.heap H locs σ → lv_has ls 7 [(0, .ref (a 4)), (1, .ref (a 3)), (2, .int v2), (3, .int v3)] → k57 v2 v3 σ = some (r, σ') → W p l e R s m args below meth c H locs 0 0 Q (F0 m 57 ls [])) (σ : St) (H : Heap) (locs : List Loc) (ls : Array Slot), Pw D (wS a cA) A s.heap H locs σ → lv_has ls 7 [(0, .ref (a 4)), (1, .ref (a 3)), (2, .int v2), (3, .int v3), (4, .long v4)] → X4_countNeededCubes_a3_135 k57 v2 v3 v4 u0 σ = some (r, σ') → W p l e R s m args below meth c H locs 0 0 Q (F0 m 135 ls [.int u0]) := by
    intro v2 v3 v4 u0 k57 hk57 σ H locs ls hp hl h
    unfold X4_countNeededCubes_a3_135 at h
    refine lv_istore (lv' := [(6, .int u0), (0, .ref (a 4)), (1, .ref (a 3)), (2, .int v2), (3, .int v3), (4, .long v4)]) hx hb dX4_countNeededCubes_135 hl (by decide) rfl (fun ls hl => ?_)
    refine lv_iload hx hb dX4_countNeededCubes_137 (lv_at hl 0 rfl) ?_
    refine lv_if_eq (tgt := 157) hx hb dX4_countNeededCubes_139 (by decide) (fun c1 => ?_) (fun c1 => ?_)
    · have h := it_p h c1
      exact J_157 v2 v3 _ hk57 σ _ _ _ hp (lv_sub hl [1, 2, 3, 4] rfl) h
    · have h := it_n h c1
      refine lv_lload hx hb dX4_countNeededCubes_142 (lv_at hl 5 rfl) ?_
      refine lv_aload_n hx hb dX4_countNeededCubes_144 rfl (lv_at hl 1 rfl) ?_
      refine gS_X4_circuit X hp tw_4_12 dX4_countNeededCubes_145 ?_
      obtain ⟨t2, ht2, h⟩ := bd_s h
      refine cl_Vl X (eokS hF) (c_X0_bad hF ht2) tw_35_15 mw_X0_bad (by decide) hp 2 rfl rfl rfl hl.1 rfl (Nat.le_of_ble_eq_true rfl) dX4_countNeededCubes_148 (fun H locs hp => ?_)
      refine lv_land hx hb dX4_countNeededCubes_151 ?_
      refine lv_lconst (v := 0) hx hb dX4_countNeededCubes_152 (by decide) ?_
      refine W.lcmp hx hb dX4_countNeededCubes_153 ?_
      refine lv_if_eq (tgt := 167) hx hb dX4_countNeededCubes_154 (by decide) (fun c3 => ?_) (fun c3 => ?_)
      · have h := it_p h (lcmp0.mp c3)
        obtain ⟨x4, ex4⟩ : ∃ z : Int32, z = v3 + (1 : Int32) := ⟨_, rfl⟩
        have h := nm_s h x4 ex4
        refine lv_iinc (v := x4) (lv' := [(3, .int x4), (6, .int u0), (0, .ref (a 4)), (1, .ref (a 3)), (2, .int v2), (4, .long v4)]) hx hb dX4_countNeededCubes_167 hl (k := 4) rfl (by rw [ex4]; rfl) (by decide) rfl (fun ls hl => ?_)
        refine lv_goto (tgt := 57) hx hb dX4_countNeededCubes_170 (by decide) ?_
        exact hk57 v2 x4 σ _ _ _ hp (lv_sub hl [2, 3, 4, 0] rfl) h
      · have h := it_n h (fun q => c3 (lcmp0.mpr q))
        exact J_157 v2 v3 _ hk57 σ _ _ _ hp (lv_sub hl [1, 2, 3, 4] rfl) h
  have J_57 : ∀  (k173 : (Int32 → St → Option (Int32 × St))) (hk173 : ∀ (v2 : Int32) (σ : St) (H : Heap) (locs : List Loc) (ls : Array Slot), Pw D (wS a cA) A s.heap H locs σ → lv_has ls 7 [(0, .ref (a 4)), (2, .int v2)] → k173 v2 σ = some (r, σ') → W p l e R s m args below meth c H locs 0 0 Q (F0 m 173 ls [])) (n : Nat) (v2 : Int32) (v3 : Int32) (σ : St) (H : Heap) (locs : List Loc) (ls : Array Slot), Pw D (wS a cA) A s.heap H locs σ → lv_has ls 7 [(0, .ref (a 4)), (1, .ref (a 3)), (2, .int v2), (3, .int v3)] → X4_countNeededCubes_a3_57 N k173 n v2 v3 σ = some (r, σ') → W p l e R s m args below meth c H locs 0 0 Q (F0 m 57 ls []) := by
    intro k173 hk173 n
    induction n with
    | zero => intro v2 v3 σ H locs ls hp hl h; exact nn_s (show (none : Option (Int32 × St)) = some _ from h)
    | succ n ih =>
      intro v2 v3 σ H locs ls hp hl h
      have h : X4_countNeededCubes_a3_57b N (fun v2 v3 σ => X4_countNeededCubes_a3_57 N k173 n v2 v3 σ) k173 v2 v3 σ = some (r, σ') := h
      unfold X4_countNeededCubes_a3_57b at h
      have hk57 := ih
      refine lv_iload_n hx hb dX4_countNeededCubes_57 rfl (lv_at hl 3 rfl) ?_
      refine lv_aload_n hx hb dX4_countNeededCubes_58 rfl (lv_at hl 0 rfl) ?_
      refine gS_X4_cubes X hp tw_4_16 dX4_countNeededCubes_59 ?_
      refine gS_X1_count X hp tw_35_6 dX4_countNeededCubes_62 ?_
      refine lv_icmp_ge (tgt := 173) hx hb dX4_countNeededCubes_65 (by decide) (fun c1 => ?_) (fun c1 => ?_)
      · have h := it_p h c1
        exact hk173 v2 σ _ _ _ hp (lv_sub hl [0, 2] rfl) h
      · have h := it_n h c1
        refine lv_iload_n hx hb dX4_countNeededCubes_68 rfl (lv_at hl 3 rfl) ?_
        refine lv_sipush (v := 729) hx hb dX4_countNeededCubes_69 (by decide) ?_
        refine lv_icmp_ge (tgt := 173) hx hb dX4_countNeededCubes_72 (by decide) (fun c2 => ?_) (fun c2 => ?_)
        · have h := it_p h c2
          exact hk173 v2 σ _ _ _ hp (lv_sub hl [0, 2] rfl) h
        · have h := it_n h c2
          refine lv_aload_n hx hb dX4_countNeededCubes_75 rfl (lv_at hl 0 rfl) ?_
          refine gS_X4_dropped X hp tw_4_20 dX4_countNeededCubes_76 ?_
          refine lv_iload_n hx hb dX4_countNeededCubes_79 rfl (lv_at hl 3 rfl) ?_
          obtain ⟨g3, h⟩ := gd_s h
          refine lS_X4_dropped X hp g3 dX4_countNeededCubes_80 ?_
          refine lv_if_eq (tgt := 87) hx hb dX4_countNeededCubes_81 (by decide) (fun c4 => ?_) (fun c4 => ?_)
          · have h := it_p h c4
            refine lv_aload_n hx hb dX4_countNeededCubes_87 rfl (lv_at hl 0 rfl) ?_
            refine gS_X4_dropped X hp tw_4_20 dX4_countNeededCubes_88 ?_
            refine lv_iload_n hx hb dX4_countNeededCubes_91 rfl (lv_at hl 3 rfl) ?_
            refine lv_iconst (v := 1) hx hb dX4_countNeededCubes_92 (by decide) ?_
            obtain ⟨g5, h⟩ := gd_s h
            refine sS_X4_dropped X hp g5 (Or.inr rfl) dX4_countNeededCubes_93 (fun H locs σ6 eσ6 hp => ?_)
            have h := nm_s h σ6 eσ6
            refine lv_aload_n hx hb dX4_countNeededCubes_94 rfl (lv_at hl 0 rfl) ?_
            refine gS_X4_circuit X hp tw_4_12 dX4_countNeededCubes_95 ?_
            refine gS_X0_all X hp tw_35_20 dX4_countNeededCubes_98 ?_
            refine lv_aload_n hx hb dX4_countNeededCubes_101 rfl (lv_at hl 0 rfl) ?_
            obtain ⟨t7, ht7, h⟩ := bd_s h
            refine cl_Vl X (eokS hF) (c_X4_unionOfKept hF ht7) tw_46_14 mw_X4_unionOfKept (by decide) hp 4 rfl rfl rfl hl.1 rfl (Nat.le_of_ble_eq_true rfl) dX4_countNeededCubes_102 (fun H locs hp => ?_)
            refine lv_ldc2 hx hb hown (hts _ tw_36_23) dX4_countNeededCubes_105 ?_
            refine lv_lxor hx hb dX4_countNeededCubes_108 ?_
            refine lv_land hx hb dX4_countNeededCubes_109 ?_
            refine lv_topl (fun x8 ex8 => ?_)
            have h := nm_s h x8 ex8
            refine lv_lstore (lv' := [(4, .long x8), (0, .ref (a 4)), (1, .ref (a 3)), (2, .int v2), (3, .int v3)]) hx hb dX4_countNeededCubes_110 hl (by decide) rfl (fun ls hl => ?_)
            refine lv_aload_n hx hb dX4_countNeededCubes_112 rfl (lv_at hl 2 rfl) ?_
            refine lv_lload hx hb dX4_countNeededCubes_113 (lv_at hl 0 rfl) ?_
            obtain ⟨t9, ht9, h⟩ := bd_s h
            refine cl_Vl X (eokS hF) (c_X2_successorsOf hF ht9) tw_46_18 mw_X2_successorsOf (by decide) hp 3 rfl rfl rfl hl.1 rfl (Nat.le_of_ble_eq_true rfl) dX4_countNeededCubes_115 (fun H locs hp => ?_)
            refine lv_lload hx hb dX4_countNeededCubes_118 (lv_at hl 0 rfl) ?_
            refine lv_ldc2 hx hb hown (hts _ tw_36_23) dX4_countNeededCubes_120 ?_
            refine lv_lxor hx hb dX4_countNeededCubes_123 ?_
            refine lv_land hx hb dX4_countNeededCubes_124 ?_
            refine lv_lconst (v := 0) hx hb dX4_countNeededCubes_125 (by decide) ?_
            refine W.lcmp hx hb dX4_countNeededCubes_126 ?_
            refine lv_if_ne (tgt := 134) hx hb dX4_countNeededCubes_127 (by decide) (fun c10 => ?_) (fun c10 => ?_)
            · have h := it_n h (fun q => c10 (lcmp0.mpr q))
              refine lv_iconst (v := 0) hx hb dX4_countNeededCubes_134 (by decide) ?_
              exact J_135 v2 v3 x8 (0 : Int32) _ hk57 σ6 _ _ _ hp (lv_sub hl [1, 2, 3, 4, 0] rfl) h
            · have h := it_p h (lcmp0.mp c10)
              refine lv_iconst (v := 1) hx hb dX4_countNeededCubes_130 (by decide) ?_
              refine lv_goto (tgt := 135) hx hb dX4_countNeededCubes_131 (by decide) ?_
              exact J_135 v2 v3 x8 (1 : Int32) _ hk57 σ6 _ _ _ hp (lv_sub hl [1, 2, 3, 4, 0] rfl) h
          · have h := it_n h c4
            refine lv_goto (tgt := 167) hx hb dX4_countNeededCubes_84 (by decide) ?_
            obtain ⟨x11, ex11⟩ : ∃ z : Int32, z = v3 + (1 : Int32) := ⟨_, rfl⟩
            have h := nm_s h x11 ex11
            refine lv_iinc (v := x11) (lv' := [(3, .int x11), (0, .ref (a 4)), (1, .ref (a 3)), (2, .int v2)]) hx hb dX4_countNeededCubes_167 hl (k := 3) rfl (by rw [ex11]; rfl) (by decide) rfl (fun ls hl => ?_)
            refine lv_goto (tgt := 57) hx hb dX4_countNeededCubes_170 (by decide) ?_
            exact hk57 v2 x11 σ _ _ _ hp (lv_sub hl [1, 2, 3, 0] rfl) h
  have J_173 : ∀ (v2 : Int32) (σ : St) (H : Heap) (locs : List Loc) (ls : Array Slot), Pw D (wS a cA) A s.heap H locs σ → lv_has ls 7 [(0, .ref (a 4)), (2, .int v2)] → X4_countNeededCubes_a3_173 v2 σ = some (r, σ') → W p l e R s m args below meth c H locs 0 0 Q (F0 m 173 ls []) := by
    intro v2 σ H locs ls hp hl h
    unfold X4_countNeededCubes_a3_173 at h
    refine lv_iload_n hx hb dX4_countNeededCubes_173 rfl (lv_at hl 1 rfl) ?_
    exact hR _ _ _ _ _ _ dX4_countNeededCubes_174 hp (congrArg Prod.fst (Option.some.inj h)) (congrArg Prod.snd (Option.some.inj h)) (fun q => by cases q)
  have J_55 : ∀ (v2 : Int32) (σ : St) (H : Heap) (locs : List Loc) (ls : Array Slot), Pw D (wS a cA) A s.heap H locs σ → lv_has ls 7 [(0, .ref (a 4)), (1, .ref (a 3)), (2, .int v2)] → X4_countNeededCubes_a3_55 N v2 σ = some (r, σ') → W p l e R s m args below meth c H locs 0 0 Q (F0 m 55 ls []) := by
    intro v2 σ H locs ls hp hl h
    unfold X4_countNeededCubes_a3_55 at h
    refine lv_iconst (v := 0) hx hb dX4_countNeededCubes_55 (by decide) ?_
    refine lv_istore_n (lv' := [(3, .int (0 : Int32)), (0, .ref (a 4)), (1, .ref (a 3)), (2, .int v2)]) hx hb dX4_countNeededCubes_56 rfl hl (by decide) rfl (fun ls hl => ?_)
    exact J_57 _ (fun v2 σ H locs ls hp hl h => J_173 v2 σ _ _ _ hp hl h) _ v2 (0 : Int32) σ _ _ _ hp (lv_sub hl [1, 2, 3, 0] rfl) h
  unfold X4_countNeededCubes_a3 at h
  have hl := lv_sub (l' := [(0, .ref (a 4)), (1, .ref (a 3))]) hl [0, 1] rfl
  refine lv_iconst (v := 0) hx hb dX4_countNeededCubes_0 (by decide) ?_
  refine lv_istore_n (lv' := [(2, .int (0 : Int32)), (0, .ref (a 4)), (1, .ref (a 3))]) hx hb dX4_countNeededCubes_1 rfl hl (by decide) rfl (fun ls hl => ?_)
  refine lv_iconst (v := 0) hx hb dX4_countNeededCubes_2 (by decide) ?_
  refine lv_istore_n (lv' := [(3, .int (0 : Int32)), (2, .int (0 : Int32)), (0, .ref (a 4)), (1, .ref (a 3))]) hx hb dX4_countNeededCubes_3 rfl hl (by decide) rfl (fun ls hl => ?_)
  exact J_4 (0 : Int32) _ (fun v2 σ H locs ls hp hl h => J_55 v2 σ _ _ _ hp hl h) _ (0 : Int32) σ _ _ _ hp (lv_sub hl [2, 3, 1, 0] rfl) h
def X6_shrunken (N : Nat) (σ : St) : Option (Int32 × St) :=
  bd (X6_requireSafeProof σ) (fun t1 =>
  bd (X2_refresh N t1) (fun t2 =>
  bd (X4_countNeededCubes_a3 N t2) (fun t3 =>
  some (t3.1, t3.2))))
set_option maxRecDepth 20000 in
set_option maxHeartbeats 4000000 in
theorem c_X6_shrunken {l : Launch} {D : va_G} {a : Nat → Nat} {cA : Nat → ClassId} {t : Nat} {F : (Nat → Prop) → State → Prop} (hF : EOK F) {σ : St} {N : Nat} {r : Int32} {σ' : St} (h : X6_shrunken N σ = some (r, σ')) : MetI l yX6_shrunken cX6_shrunken 1 (some .int) 6 D (tyW cA) (wS a cA) (ES t F) [.ref (a 0)] σ r σ' := by
  refine mkI (by decide) (adrS a cA) (Or.inl rfl) (Nat.le_of_ble_eq_true rfl) ?_
  intro p e R s m args below meth c A Q ls X hR hp hl
  obtain ⟨hx, hb, -, hown, hts, -⟩ := id X
  unfold X6_shrunken at h
  have hl := lv_sub (l' := [(0, .ref (a 0))]) hl [0] rfl
  refine lv_aload_n hx hb dX6_shrunken_0 rfl (lv_at hl 0 rfl) ?_
  obtain ⟨t1, ht1, h⟩ := bd_s h
  refine cl_Vv X (eokS hF) (c_X6_requireSafeProof hF ht1) tw_45_3 mw_X6_requireSafeProof (by decide) hp 0 rfl rfl rfl hl.1 rfl (Nat.le_of_ble_eq_true rfl) dX6_shrunken_1 (fun H locs hp => ?_)
  refine lv_aload_n hx hb dX6_shrunken_4 rfl (lv_at hl 0 rfl) ?_
  refine gS_X6_exploration X hp tw_2_0 dX6_shrunken_5 ?_
  obtain ⟨t2, ht2, h⟩ := bd_s h
  refine cl_Vv X (eokS hF) (c_X2_refresh hF ht2) tw_22_10 mw_X2_refresh (by decide) hp 3 rfl rfl rfl hl.1 rfl (Nat.le_of_ble_eq_true rfl) dX6_shrunken_8 (fun H locs hp => ?_)
  refine lv_aload_n hx hb dX6_shrunken_11 rfl (lv_at hl 0 rfl) ?_
  refine gS_X6_frameProof X hp tw_2_4 dX6_shrunken_12 ?_
  refine lv_aload_n hx hb dX6_shrunken_15 rfl (lv_at hl 0 rfl) ?_
  refine gS_X6_exploration X hp tw_2_0 dX6_shrunken_16 ?_
  obtain ⟨t3, ht3, h⟩ := bd_s h
  refine cl_Vi X (eokS hF) (c_X4_countNeededCubes_a3 hF ht3) tw_46_10 mw_X4_countNeededCubes (by decide) hp 4 rfl rfl rfl hl.1 rfl (Nat.le_of_ble_eq_true rfl) dX6_shrunken_19 (fun H locs hp => ?_)
  exact hR _ _ _ _ _ _ dX6_shrunken_22 hp (congrArg Prod.fst (Option.some.inj h)) (congrArg Prod.snd (Option.some.inj h)) (fun q => by cases q)
def X5_startsAt (σ : St) (v1 : Int32) : Option (Int64) :=
  if v1 < 0 then
    some (0 : Int64)
  else
    if (6 : Int32) < v1 then
      some (0 : Int64)
    else
      gd (inb v1 7) (
      some (σ.2.2.2 7 v1.toNatClampNeg))
set_option maxRecDepth 20000 in
set_option maxHeartbeats 4000000 in
theorem c_X5_startsAt {l : Launch} {D : va_G} {a : Nat → Nat} {cA : Nat → ClassId} {t : Nat} {F : (Nat → Prop) → State → Prop} (hF : EOK F) {σ : St} {v1 : Int32} {r : Int64} (h : X5_startsAt σ v1 = some r) : MetL l yX5_startsAt cX5_startsAt 2 (some .long) 0 D (tyW cA) (wS a cA) (ES t F) [.ref (a 5), .int v1] σ r σ := by
  refine mkL (by decide) (adrS a cA) rfl (Nat.le_of_ble_eq_true rfl) ?_
  intro p e R s m args below meth c A Q ls X hR hp hl
  obtain ⟨hx, hb, -, hown, hts, -⟩ := id X
  unfold X5_startsAt at h
  have hl := lv_sub (l' := [(0, .ref (a 5)), (1, .int v1)]) hl [0, 1] rfl
  refine lv_iload_n hx hb dX5_startsAt_0 rfl (lv_at hl 1 rfl) ?_
  refine lv_if_lt (tgt := 19) hx hb dX5_startsAt_1 (by decide) (fun c1 => ?_) (fun c1 => ?_)
  · have h := it_p h c1
    refine lv_lconst (v := 0) hx hb dX5_startsAt_19 (by decide) ?_
    exact hR _ _ _ _ _ _ dX5_startsAt_20 hp (Option.some.inj h) rfl
  · have h := it_n h c1
    refine lv_iload_n hx hb dX5_startsAt_4 rfl (lv_at hl 1 rfl) ?_
    refine lv_bipush (v := 6) hx hb dX5_startsAt_5 (by decide) ?_
    refine lv_icmp_gt (tgt := 19) hx hb dX5_startsAt_7 (by decide) (fun c2 => ?_) (fun c2 => ?_)
    · have h := it_p h c2
      refine lv_lconst (v := 0) hx hb dX5_startsAt_19 (by decide) ?_
      exact hR _ _ _ _ _ _ dX5_startsAt_20 hp (Option.some.inj h) rfl
    · have h := it_n h c2
      refine lv_aload_n hx hb dX5_startsAt_10 rfl (lv_at hl 0 rfl) ?_
      refine gS_X5_starts X hp tw_5_11 dX5_startsAt_11 ?_
      refine lv_iload_n hx hb dX5_startsAt_14 rfl (lv_at hl 1 rfl) ?_
      obtain ⟨g3, h⟩ := gd_s h
      refine lS_X5_starts X hp g3 dX5_startsAt_15 ?_
      refine lv_goto (tgt := 20) hx hb dX5_startsAt_16 (by decide) ?_
      exact hR _ _ _ _ _ _ dX5_startsAt_20 hp (Option.some.inj h) rfl
def X5_goesOnSimply_25b (rec : Int32 → Int32 → Int64 → Option (Int32)) (k25 : (Int64 → Int32 → Option (Int32))) (k90 : (Option (Int32))) (k98 : (Option (Int32))) (σ : St) (v1 : Int32) (v2 : Int32) (v3 : Int64) (v5 : Int64) (v7 : Int32) : Option (Int32) :=
  if (σ.1 8) ≤ v7 then
    k98
  else
    bd (X2_nextOf σ v1 v7) (fun t2 =>
    bd (X6_contains v5 t2) (fun t3 =>
    if t3 = 0 then
      nm (v7 + (1 : Int32)) (fun (x5 : Int32) =>
      k25 v5 x5)
    else
      nm (v5 &&& (((1 : Int64) <<< (t2.toInt64 &&& 63)) ^^^ (-1 : Int64))) (fun (x6 : Int64) =>
      bd (rec t2 (v2 - (1 : Int32)) (v3 ||| ((1 : Int64) <<< (t2.toInt64 &&& 63)))) (fun t7 =>
      if t7 = 0 then
        nm (v7 + (1 : Int32)) (fun (x9 : Int32) =>
        k25 x6 x9)
      else
        k90))))
def X5_goesOnSimply_25 (rec : Int32 → Int32 → Int64 → Option (Int32)) (k90 : (Option (Int32))) (k98 : (Option (Int32))) (σ : St) (v1 : Int32) (v2 : Int32) (v3 : Int64) : Nat → Int64 → Int32 → Option (Int32)
  | 0, _, _ => none
  | n + 1, v5, v7 => X5_goesOnSimply_25b rec (fun v5 v7 => X5_goesOnSimply_25 rec k90 k98 σ v1 v2 v3 n v5 v7) k90 k98 σ v1 v2 v3 v5 v7
def X5_goesOnSimply_90 (rec : Int32 → Int32 → Int64 → Option (Int32)) (σ : St) : Option (Int32) :=
  some (1 : Int32)
def X5_goesOnSimply_98 (rec : Int32 → Int32 → Int64 → Option (Int32)) (σ : St) : Option (Int32) :=
  some (0 : Int32)
def X5_goesOnSimplyB (rec : Int32 → Int32 → Int64 → Option (Int32)) (N : Nat) (σ : St) (v1 : Int32) (v2 : Int32) (v3 : Int64) : Option (Int32) :=
  if (1 : Int32) < v2 then
    bd (X5_startsAt σ (v2 - (1 : Int32))) (fun t2 =>
    nm (t2 &&& (v3 ^^^ (-1 : Int64))) (fun (x3 : Int64) =>
    X5_goesOnSimply_25 rec (X5_goesOnSimply_90 rec σ) (X5_goesOnSimply_98 rec σ) σ v1 v2 v3 N x3 (0 : Int32)))
  else
    some (1 : Int32)
set_option maxRecDepth 20000 in
set_option maxHeartbeats 4000000 in
theorem c_X5_goesOnSimplyB {l : Launch} {D : va_G} {a : Nat → Nat} {cA : Nat → ClassId} {t : Nat} {F : (Nat → Prop) → State → Prop} (hF : EOK F) {σ : St} {N : Nat} {dd : Nat} {rec : Int32 → Int32 → Int64 → Option (Int32)} (hrec : ∀ (v1 : Int32) (v2 : Int32) (v3 : Int64) (r : Int32), rec v1 v2 v3 = some r → MetI l yX5_goesOnSimply cX5_goesOnSimply 9 (some .boolean) (1 + dd) D (tyW cA) (wS a cA) (ES t F) [.ref (a 5), .int v1, .int v2, .long v3] σ r σ) {v1 : Int32} {v2 : Int32} {v3 : Int64} {r : Int32} (h : X5_goesOnSimplyB rec N σ v1 v2 v3 = some r) : MetI l yX5_goesOnSimply cX5_goesOnSimply 9 (some .boolean) (1 + dd + 1) D (tyW cA) (wS a cA) (ES t F) [.ref (a 5), .int v1, .int v2, .long v3] σ r σ := by
  refine mkI (by decide) (adrS a cA) (Or.inr rfl) (Nat.le_of_ble_eq_true rfl) ?_
  intro p e R s m args below meth c A Q ls X hR hp hl
  obtain ⟨hx, hb, -, hown, hts, -⟩ := id X
  have J_25 : ∀ (v1 : Int32) (v2 : Int32) (v3 : Int64) (k90 : (Option (Int32))) (hk90 : ∀ (H : Heap) (locs : List Loc) (ls : Array Slot), Pw D (wS a cA) A s.heap H locs σ → lv_has ls 9 [(0, .ref (a 5))] → k90 = some r → W p l e R s m args below meth c H locs 0 0 Q (F0 m 90 ls [])) (k98 : (Option (Int32))) (hk98 : ∀ (H : Heap) (locs : List Loc) (ls : Array Slot), Pw D (wS a cA) A s.heap H locs σ → lv_has ls 9 [(0, .ref (a 5))] → k98 = some r → W p l e R s m args below meth c H locs 0 0 Q (F0 m 98 ls [])) (n : Nat) (v5 : Int64) (v7 : Int32) (H : Heap) (locs : List Loc) (ls : Array Slot), Pw D (wS a cA) A s.heap H locs σ → lv_has ls 9 [(0, .ref (a 5)), (1, .int v1), (2, .int v2), (3, .long v3), (5, .long v5), (7, .int v7)] → X5_goesOnSimply_25 rec k90 k98 σ v1 v2 v3 n v5 v7 = some r → W p l e R s m args below meth c H locs 0 0 Q (F0 m 25 ls []) := by
    intro v1 v2 v3 k90 hk90 k98 hk98 n
    induction n with
    | zero => intro v5 v7 H locs ls hp hl h; exact nn_s (show (none : Option (Int32)) = some _ from h)
    | succ n ih =>
      intro v5 v7 H locs ls hp hl h
      have h : X5_goesOnSimply_25b rec (fun v5 v7 => X5_goesOnSimply_25 rec k90 k98 σ v1 v2 v3 n v5 v7) k90 k98 σ v1 v2 v3 v5 v7 = some r := h
      unfold X5_goesOnSimply_25b at h
      have hk25 := ih
      refine lv_iload hx hb dX5_goesOnSimply_25 (lv_at hl 5 rfl) ?_
      refine lv_aload_n hx hb dX5_goesOnSimply_27 rfl (lv_at hl 0 rfl) ?_
      refine gS_X5_circuit X hp tw_5_9 dX5_goesOnSimply_28 ?_
      refine gS_X0_inputValues X hp tw_48_5 dX5_goesOnSimply_31 ?_
      refine lv_icmp_ge (tgt := 98) hx hb dX5_goesOnSimply_34 (by decide) (fun c1 => ?_) (fun c1 => ?_)
      · have h := it_p h c1
        exact hk98 _ _ _ hp (lv_sub hl [0] rfl) h
      · have h := it_n h c1
        refine lv_aload_n hx hb dX5_goesOnSimply_37 rfl (lv_at hl 0 rfl) ?_
        refine gS_X5_exploration X hp tw_5_10 dX5_goesOnSimply_38 ?_
        refine lv_iload_n hx hb dX5_goesOnSimply_41 rfl (lv_at hl 1 rfl) ?_
        refine lv_iload hx hb dX5_goesOnSimply_42 (lv_at hl 5 rfl) ?_
        obtain ⟨t2, ht2, h⟩ := bd_s h
        refine cl_Vi X (eokS hF) (c_X2_nextOf hF ht2) tw_48_6 mw_X2_nextOf (by omega) hp 3 rfl rfl rfl hl.1 rfl (Nat.le_of_ble_eq_true rfl) dX5_goesOnSimply_44 (fun H locs hp => ?_)
        refine lv_istore (lv' := [(8, .int t2), (0, .ref (a 5)), (1, .int v1), (2, .int v2), (3, .long v3), (5, .long v5), (7, .int v7)]) hx hb dX5_goesOnSimply_47 hl (by decide) rfl (fun ls hl => ?_)
        refine lv_lload hx hb dX5_goesOnSimply_49 (lv_at hl 5 rfl) ?_
        refine lv_iload hx hb dX5_goesOnSimply_51 (lv_at hl 0 rfl) ?_
        obtain ⟨t3, ht3, h⟩ := bd_s h
        refine cl_Ni X (eokS hF) (c_X6_contains (adrS a cA) (eokS hF) ht3) (nwS X (List.mem_of_getElem? (i := 8) rfl)) mw_X6_contains (by omega) hp hl.1 rfl (Nat.le_of_ble_eq_true rfl) dX5_goesOnSimply_53 (fun H locs hp => ?_)
        refine lv_if_eq (tgt := 92) hx hb dX5_goesOnSimply_56 (by decide) (fun c4 => ?_) (fun c4 => ?_)
        · have h := it_p h c4
          obtain ⟨x5, ex5⟩ : ∃ z : Int32, z = v7 + (1 : Int32) := ⟨_, rfl⟩
          have h := nm_s h x5 ex5
          refine lv_iinc (v := x5) (lv' := [(7, .int x5), (8, .int t2), (0, .ref (a 5)), (1, .int v1), (2, .int v2), (3, .long v3), (5, .long v5)]) hx hb dX5_goesOnSimply_92 hl (k := 6) rfl (by rw [ex5]; rfl) (by decide) rfl (fun ls hl => ?_)
          refine lv_goto (tgt := 25) hx hb dX5_goesOnSimply_95 (by decide) ?_
          exact hk25 v5 x5 _ _ _ hp (lv_sub hl [2, 3, 4, 5, 6, 0] rfl) h
        · have h := it_n h c4
          refine lv_lload hx hb dX5_goesOnSimply_59 (lv_at hl 5 rfl) ?_
          refine lv_lconst (v := 1) hx hb dX5_goesOnSimply_61 (by decide) ?_
          refine lv_iload hx hb dX5_goesOnSimply_62 (lv_at hl 0 rfl) ?_
          refine lv_lshl hx hb dX5_goesOnSimply_64 rfl ?_
          refine lv_ldc2 hx hb hown (hts _ tw_48_4) dX5_goesOnSimply_65 ?_
          refine lv_lxor hx hb dX5_goesOnSimply_68 ?_
          refine lv_land hx hb dX5_goesOnSimply_69 ?_
          refine lv_topl (fun x6 ex6 => ?_)
          have h := nm_s h x6 ex6
          refine lv_lstore (lv' := [(5, .long x6), (8, .int t2), (0, .ref (a 5)), (1, .int v1), (2, .int v2), (3, .long v3), (7, .int v7)]) hx hb dX5_goesOnSimply_70 hl (by decide) rfl (fun ls hl => ?_)
          refine lv_aload_n hx hb dX5_goesOnSimply_72 rfl (lv_at hl 2 rfl) ?_
          refine lv_iload hx hb dX5_goesOnSimply_73 (lv_at hl 1 rfl) ?_
          refine lv_iload_n hx hb dX5_goesOnSimply_75 rfl (lv_at hl 4 rfl) ?_
          refine lv_iconst (v := 1) hx hb dX5_goesOnSimply_76 (by decide) ?_
          refine lv_isub hx hb dX5_goesOnSimply_77 ?_
          refine lv_lload_n hx hb dX5_goesOnSimply_78 rfl (lv_at hl 5 rfl) ?_
          refine lv_lconst (v := 1) hx hb dX5_goesOnSimply_79 (by decide) ?_
          refine lv_iload hx hb dX5_goesOnSimply_80 (lv_at hl 1 rfl) ?_
          refine lv_lshl hx hb dX5_goesOnSimply_82 rfl ?_
          refine lv_lor hx hb dX5_goesOnSimply_83 ?_
          obtain ⟨t7, ht7, h⟩ := bd_s h
          refine cl_Vi X (eokS hF) (hrec _ _ _ _ ht7) tw_48_0 mw_X5_goesOnSimply (by omega) hp 5 rfl rfl rfl hl.1 rfl (Nat.le_of_ble_eq_true rfl) dX5_goesOnSimply_84 (fun H locs hp => ?_)
          refine lv_if_eq (tgt := 92) hx hb dX5_goesOnSimply_87 (by decide) (fun c8 => ?_) (fun c8 => ?_)
          · have h := it_p h c8
            obtain ⟨x9, ex9⟩ : ∃ z : Int32, z = v7 + (1 : Int32) := ⟨_, rfl⟩
            have h := nm_s h x9 ex9
            refine lv_iinc (v := x9) (lv' := [(7, .int x9), (5, .long x6), (8, .int t2), (0, .ref (a 5)), (1, .int v1), (2, .int v2), (3, .long v3)]) hx hb dX5_goesOnSimply_92 hl (k := 6) rfl (by rw [ex9]; rfl) (by decide) rfl (fun ls hl => ?_)
            refine lv_goto (tgt := 25) hx hb dX5_goesOnSimply_95 (by decide) ?_
            exact hk25 x6 x9 _ _ _ hp (lv_sub hl [3, 4, 5, 6, 1, 0] rfl) h
          · have h := it_n h c8
            exact hk90 _ _ _ hp (lv_sub hl [2] rfl) h
  have J_90 : ∀  (H : Heap) (locs : List Loc) (ls : Array Slot), Pw D (wS a cA) A s.heap H locs σ → lv_has ls 9 [(0, .ref (a 5))] → X5_goesOnSimply_90 rec σ = some r → W p l e R s m args below meth c H locs 0 0 Q (F0 m 90 ls []) := by
    intro H locs ls hp hl h
    unfold X5_goesOnSimply_90 at h
    refine lv_iconst (v := 1) hx hb dX5_goesOnSimply_90 (by decide) ?_
    exact hR _ _ _ _ _ _ dX5_goesOnSimply_91 hp (Option.some.inj h) rfl (fun _ => Or.inr rfl)
  have J_98 : ∀  (H : Heap) (locs : List Loc) (ls : Array Slot), Pw D (wS a cA) A s.heap H locs σ → lv_has ls 9 [(0, .ref (a 5))] → X5_goesOnSimply_98 rec σ = some r → W p l e R s m args below meth c H locs 0 0 Q (F0 m 98 ls []) := by
    intro H locs ls hp hl h
    unfold X5_goesOnSimply_98 at h
    refine lv_iconst (v := 0) hx hb dX5_goesOnSimply_98 (by decide) ?_
    exact hR _ _ _ _ _ _ dX5_goesOnSimply_99 hp (Option.some.inj h) rfl (fun _ => Or.inl rfl)
  unfold X5_goesOnSimplyB at h
  have hl := lv_sub (l' := [(0, .ref (a 5)), (1, .int v1), (2, .int v2), (3, .long v3)]) hl [0, 1, 2, 3] rfl
  refine lv_iload_n hx hb dX5_goesOnSimply_0 rfl (lv_at hl 2 rfl) ?_
  refine lv_iconst (v := 1) hx hb dX5_goesOnSimply_1 (by decide) ?_
  refine lv_icmp_gt (tgt := 7) hx hb dX5_goesOnSimply_2 (by decide) (fun c1 => ?_) (fun c1 => ?_)
  · have h := it_p h c1
    refine lv_aload_n hx hb dX5_goesOnSimply_7 rfl (lv_at hl 0 rfl) ?_
    refine lv_iload_n hx hb dX5_goesOnSimply_8 rfl (lv_at hl 2 rfl) ?_
    refine lv_iconst (v := 1) hx hb dX5_goesOnSimply_9 (by decide) ?_
    refine lv_isub hx hb dX5_goesOnSimply_10 ?_
    obtain ⟨t2, ht2, h⟩ := bd_s h
    refine cl_Vl X (eokS hF) (c_X5_startsAt hF ht2) tw_47_20 mw_X5_startsAt (by omega) hp 5 rfl rfl rfl hl.1 rfl (Nat.le_of_ble_eq_true rfl) dX5_goesOnSimply_11 (fun H locs hp => ?_)
    refine lv_lload_n hx hb dX5_goesOnSimply_14 rfl (lv_at hl 3 rfl) ?_
    refine lv_ldc2 hx hb hown (hts _ tw_48_4) dX5_goesOnSimply_15 ?_
    refine lv_lxor hx hb dX5_goesOnSimply_18 ?_
    refine lv_land hx hb dX5_goesOnSimply_19 ?_
    refine lv_topl (fun x3 ex3 => ?_)
    have h := nm_s h x3 ex3
    refine lv_lstore (lv' := [(5, .long x3), (0, .ref (a 5)), (1, .int v1), (2, .int v2), (3, .long v3)]) hx hb dX5_goesOnSimply_20 hl (by decide) rfl (fun ls hl => ?_)
    refine lv_iconst (v := 0) hx hb dX5_goesOnSimply_22 (by decide) ?_
    refine lv_istore (lv' := [(7, .int (0 : Int32)), (5, .long x3), (0, .ref (a 5)), (1, .int v1), (2, .int v2), (3, .long v3)]) hx hb dX5_goesOnSimply_23 hl (by decide) rfl (fun ls hl => ?_)
    exact J_25 v1 v2 v3 _ (fun H locs ls hp hl h => J_90 _ _ _ hp hl h) _ (fun H locs ls hp hl h => J_98 _ _ _ hp hl h) _ x3 (0 : Int32) _ _ _ hp (lv_sub hl [2, 3, 4, 5, 1, 0] rfl) h
  · have h := it_n h c1
    refine lv_iconst (v := 1) hx hb dX5_goesOnSimply_5 (by decide) ?_
    exact hR _ _ _ _ _ _ dX5_goesOnSimply_6 hp (Option.some.inj h) rfl (fun _ => Or.inr rfl)
def X5_goesOnSimply (N : Nat) (σ : St) : Nat → Int32 → Int32 → Int64 → Option (Int32)
  | 0, _, _, _ => none
  | d + 1, v1, v2, v3 => X5_goesOnSimplyB (fun v1 v2 v3 => X5_goesOnSimply N σ d v1 v2 v3) N σ v1 v2 v3
theorem c_X5_goesOnSimply_d {l : Launch} {D : va_G} {a : Nat → Nat} {cA : Nat → ClassId} {t : Nat} {F : (Nat → Prop) → State → Prop} (hF : EOK F) {σ : St} {N : Nat} : ∀ (d : Nat) (v1 : Int32) (v2 : Int32) (v3 : Int64) (r : Int32), X5_goesOnSimply N σ d v1 v2 v3 = some r → MetI l yX5_goesOnSimply cX5_goesOnSimply 9 (some .boolean) (1 + d) D (tyW cA) (wS a cA) (ES t F) [.ref (a 5), .int v1, .int v2, .long v3] σ r σ := by
  intro d
  induction d with
  | zero => intro v1 v2 v3 r h; exact nn_s (show (none : Option (Int32)) = some _ from h)
  | succ d ih => intro v1 v2 v3 r h; exact c_X5_goesOnSimplyB hF ih h
theorem c_X5_goesOnSimply {l : Launch} {D : va_G} {a : Nat → Nat} {cA : Nat → ClassId} {t : Nat} {F : (Nat → Prop) → State → Prop} (hF : EOK F) {σ : St} {N : Nat} {v1 : Int32} {v2 : Int32} {v3 : Int64} {r : Int32} (h : X5_goesOnSimply N σ 8 v1 v2 v3 = some r) : MetI l yX5_goesOnSimply cX5_goesOnSimply 9 (some .boolean) 9 D (tyW cA) (wS a cA) (ES t F) [.ref (a 5), .int v1, .int v2, .long v3] σ r σ := c_X5_goesOnSimply_d hF 8 v1 v2 v3 r h
