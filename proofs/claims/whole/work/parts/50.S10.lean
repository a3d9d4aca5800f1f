/- X4_reachesInitialState X1_levelAt X4_raiseCube X1_hasLevel X4_raiseCubes X4_carryOut X6_prove X1_countAbove X4_number X6_proof -/
def X4_reachesInitialState_2b (N : Nat) (k2 : (Int32 → St → Option (Int32 × St))) (k43 : (St → Option (Int32 × St))) (k73 : (St → Option (Int32 × St))) (k81 : (St → Option (Int32 × St))) (v1 : Int32) (σ : St) : Option (Int32 × St) :=
  if (1000000 : Int32) ≤ v1 then
    k81 σ
  else
    bd (X4_lowestObliged N σ) (fun t2 =>
    if t2 = (-1 : Int32) then
      bd (X4_frameAt σ (σ.1 16)) (fun t9 =>
      bd (X0_bad σ) (fun t10 =>
      bd (X6_leastOf (t9 &&& t10)) (fun t11 =>
      if t11 = (-1 : Int32) then
        k43 σ
      else
        bd (X4_oblige t11 (σ.1 16) σ) (fun t13 =>
        nm (v1 + (1 : Int32)) (fun (x14 : Int32) =>
        k2 x14 t13)))))
    else
      bd (X4_obligedAt σ t2) (fun t4 =>
      bd (X6_leastOf t4) (fun t5 =>
      bd (X4_handle N t5 t2 σ) (fun t6 =>
      if t6.1 = 0 then
        nm (v1 + (1 : Int32)) (fun (x8 : Int32) =>
        k2 x8 t6.2)
      else
        k73 t6.2))))
def X4_reachesInitialState_2 (N : Nat) (k43 : (St → Option (Int32 × St))) (k73 : (St → Option (Int32 × St))) (k81 : (St → Option (Int32 × St))) : Nat → Int32 → St → Option (Int32 × St)
  | 0, _, _ => none
  | n + 1, v1, σ => X4_reachesInitialState_2b N (fun v1 σ => X4_reachesInitialState_2 N k43 k73 k81 n v1 σ) k43 k73 k81 v1 σ
def X4_reachesInitialState_81 (σ : St) : Option (Int32 × St) :=
  some ((0 : Int32), σ)
def X4_reachesInitialState_73 (σ : St) : Option (Int32 × St) :=
  some ((1 : Int32), σ)
def X4_reachesInitialState_43 (σ : St) : Option (Int32 × St) :=
  some ((0 : Int32), σ)
def X4_reachesInitialState (N : Nat) (σ : St) : Option (Int32 × St) :=
  X4_reachesInitialState_2 N (fun σ => X4_reachesInitialState_43 σ) (fun σ => X4_reachesInitialState_73 σ) (fun σ => X4_reachesInitialState_81 σ) N (0 : Int32) σ
set_option maxRecDepth 20000 in
set_option maxHeartbeats 4000000 in
theorem c_X4_reachesInitialState {l : Launch} {D : va_G} {a : Nat → Nat} {cA : Nat → ClassId} {t : Nat} {F : (Nat → Prop) → State → Prop} (hF : EOK F) {σ : St} {N : Nat} {r : Int32} {σ' : St} (h : X4_reachesInitialState N σ = some (r, σ')) : MetI l yX4_reachesInitialState cX4_reachesInitialState 4 (some .boolean) 4 D (tyW cA) (wS a cA) (ES t F) [.ref (a 4)] σ r σ' := by
  refine mkI (by decide) (adrS a cA) (Or.inr rfl) (Nat.le_of_ble_eq_true rfl) ?_
  intro p e R s m args below meth c A Q ls X hR hp hl
  obtain ⟨hx, hb, -, hown, hts, -⟩ := id X
  have J_2 : ∀  (k43 : (St → Option (Int32 × St))) (hk43 : ∀ (σ : St) (H : Heap) (locs : List Loc) (ls : Array Slot), Pw D (wS a cA) A s.heap H locs σ → lv_has ls 4 [(0, .ref (a 4))] → k43 σ = some (r, σ') → W p l e R s m args below meth c H locs 0 0 Q (F0 m 43 ls [])) (k73 : (St → Option (Int32 × St))) (hk73 : ∀ (σ : St) (H : Heap) (locs : List Loc) (ls : Array Slot), Pw D (wS a cA) A s.heap H locs σ → lv_has ls 4 [(0, .ref (a 4))] → k73 σ = some (r, σ') → W p l e R s m args below meth c H locs 0 0 Q (F0 m 73 ls [])) (k81 : (St → Option (Int32 × St))) (hk81 : ∀ (σ : St) (H : Heap) (locs : List Loc) (ls : Array Slot), Pw D (wS a cA) A s.heap H locs σ → lv_has ls 4 [(0, .ref (a 4))] → k81 σ = some (r, σ') → W p l e R s m args below meth c H locs 0 0 Q (F0 m 81 ls [])) (n : Nat) (v1 : Int32) (σ : St) (H : Heap) (locs : List Loc) (ls : Array Slot), Pw D (wS a cA) A s.heap H locs σ → lv_has ls 4 [(0, .ref (a 4)), (1, .int v1)] → X4_reachesInitialState_2 N k43 k73 k81 n v1 σ = some (r, σ') → W p l e R s m args below meth c H locs 0 0 Q (F0 m 2 ls []) := by
    intro k43 hk43 k73 hk73 k81 hk81 n
    induction n with
    | zero => intro v1 σ H locs ls hp hl h; exact nn_s (show (none : Option (Int32 × St)) = some _ from h)
    | succ n ih =>
      intro v1 σ H locs ls hp hl h
      have h : X4_reachesInitialState_2b N (fun v1 σ => X4_reachesInitialState_2 N k43 k73 k81 n v1 σ) k43 k73 k81 v1 σ = some (r, σ') := h
      unfold X4_reachesInitialState_2b at h
      have hk2 := ih
      refine lv_iload_n hx hb dX4_reachesInitialState_2 rfl (lv_at hl 1 rfl) ?_
      refine lv_ldc hx hb hown (hts _ tw_36_1) dX4_reachesInitialState_3 ?_
      refine lv_icmp_ge (tgt := 81) hx hb dX4_reachesInitialState_5 (by decide) (fun c1 => ?_) (fun c1 => ?_)
      · have h := it_p h c1
        exact hk81 σ _ _ _ hp (lv_sub hl [0] rfl) h
      · have h := it_n h c1
        refine lv_aload_n hx hb dX4_reachesInitialState_8 rfl (lv_at hl 0 rfl) ?_
        obtain ⟨t2, ht2, h⟩ := bd_s h
        refine cl_Vi X (eokS hF) (c_X4_lowestObliged hF ht2) tw_36_2 mw_X4_lowestObliged (by decide) hp 4 rfl rfl rfl hl.1 rfl (Nat.le_of_ble_eq_true rfl) dX4_reachesInitialState_9 (fun H locs hp => ?_)
        refine lv_istore_n (lv' := [(2, .int t2), (0, .ref (a 4)), (1, .int v1)]) hx hb dX4_reachesInitialState_12 rfl hl (by decide) rfl (fun ls hl => ?_)
        refine lv_iload_n hx hb dX4_reachesInitialState_13 rfl (lv_at hl 0 rfl) ?_
        refine lv_iconst (v := -1) hx hb dX4_reachesInitialState_14 (by decide) ?_
        refine lv_icmp_ne (tgt := 57) hx hb dX4_reachesInitialState_15 (by decide) (fun c3 => ?_) (fun c3 => ?_)
        · have h := it_n h c3
          refine lv_aload_n hx hb dX4_reachesInitialState_57 rfl (lv_at hl 1 rfl) ?_
          refine lv_aload_n hx hb dX4_reachesInitialState_58 rfl (lv_at hl 1 rfl) ?_
          refine lv_iload_n hx hb dX4_reachesInitialState_59 rfl (lv_at hl 0 rfl) ?_
          obtain ⟨t4, ht4, h⟩ := bd_s h
          refine cl_Vl X (eokS hF) (c_X4_obligedAt hF ht4) tw_36_14 mw_X4_obligedAt (by decide) hp 4 rfl rfl rfl hl.1 rfl (Nat.le_of_ble_eq_true rfl) dX4_reachesInitialState_60 (fun H locs hp => ?_)
          obtain ⟨t5, ht5, h⟩ := bd_s h
          refine cl_Ni X (eokS hF) (c_X6_leastOf (adrS a cA) (eokS hF) ht5) (nwS X (List.mem_of_getElem? (i := 3) rfl)) mw_X6_leastOf (by decide) hp hl.1 rfl (Nat.le_of_ble_eq_true rfl) dX4_reachesInitialState_63 (fun H locs hp => ?_)
          refine lv_iload_n hx hb dX4_reachesInitialState_66 rfl (lv_at hl 0 rfl) ?_
          obtain ⟨t6, ht6, h⟩ := bd_s h
          refine cl_Vi X (eokS hF) (c_X4_handle hF ht6) tw_36_18 mw_X4_handle (by decide) hp 4 rfl rfl rfl hl.1 rfl (Nat.le_of_ble_eq_true rfl) dX4_reachesInitialState_67 (fun H locs hp => ?_)
          refine lv_if_eq (tgt := 75) hx hb dX4_reachesInitialState_70 (by decide) (fun c7 => ?_) (fun c7 => ?_)
          · have h := it_p h c7
            obtain ⟨x8, ex8⟩ : ∃ z : Int32, z = v1 + (1 : Int32) := ⟨_, rfl⟩
            have h := nm_s h x8 ex8
            refine lv_iinc (v := x8) (lv' := [(1, .int x8), (2, .int t2), (0, .ref (a 4))]) hx hb dX4_reachesInitialState_75 hl (k := 2) rfl (by rw [ex8]; rfl) (by decide) rfl (fun ls hl => ?_)
            refine lv_goto (tgt := 2) hx hb dX4_reachesInitialState_78 (by decide) ?_
            exact hk2 x8 t6.2 _ _ _ hp (lv_sub hl [2, 0] rfl) h
          · have h := it_n h c7
            exact hk73 t6.2 _ _ _ hp (lv_sub hl [1] rfl) h
        · have h := it_p h c3
          refine lv_aload_n hx hb dX4_reachesInitialState_18 rfl (lv_at hl 1 rfl) ?_
          refine lv_aload_n hx hb dX4_reachesInitialState_19 rfl (lv_at hl 1 rfl) ?_
          refine gS_X4_top X hp tw_35_7 dX4_reachesInitialState_20 ?_
          obtain ⟨t9, ht9, h⟩ := bd_s h
          refine cl_Vl X (eokS hF) (c_X4_frameAt hF ht9) tw_36_6 mw_X4_frameAt (by decide) hp 4 rfl rfl rfl hl.1 rfl (Nat.le_of_ble_eq_true rfl) dX4_reachesInitialState_23 (fun H locs hp => ?_)
          refine lv_aload_n hx hb dX4_reachesInitialState_26 rfl (lv_at hl 1 rfl) ?_
          refine gS_X4_circuit X hp tw_4_12 dX4_reachesInitialState_27 ?_
          obtain ⟨t10, ht10, h⟩ := bd_s h
          refine cl_Vl X (eokS hF) (c_X0_bad hF ht10) tw_35_15 mw_X0_bad (by decide) hp 2 rfl rfl rfl hl.1 rfl (Nat.le_of_ble_eq_true rfl) dX4_reachesInitialState_30 (fun H locs hp => ?_)
          refine lv_land hx hb dX4_reachesInitialState_33 ?_
          obtain ⟨t11, ht11, h⟩ := bd_s h
          refine cl_Ni X (eokS hF) (c_X6_leastOf (adrS a cA) (eokS hF) ht11) (nwS X (List.mem_of_getElem? (i := 3) rfl)) mw_X6_leastOf (by decide) hp hl.1 rfl (Nat.le_of_ble_eq_true rfl) dX4_reachesInitialState_34 (fun H locs hp => ?_)
          refine lv_istore_n (lv' := [(3, .int t11), (2, .int t2), (0, .ref (a 4)), (1, .int v1)]) hx hb dX4_reachesInitialState_37 rfl hl (by decide) rfl (fun ls hl => ?_)
          refine lv_iload_n hx hb dX4_reachesInitialState_38 rfl (lv_at hl 0 rfl) ?_
          refine lv_iconst (v := -1) hx hb dX4_reachesInitialState_39 (by decide) ?_
          refine lv_icmp_ne (tgt := 45) hx hb dX4_reachesInitialState_40 (by decide) (fun c12 => ?_) (fun c12 => ?_)
          · have h := it_n h c12
            refine lv_aload_n hx hb dX4_reachesInitialState_45 rfl (lv_at hl 2 rfl) ?_
            refine lv_iload_n hx hb dX4_reachesInitialState_46 rfl (lv_at hl 0 rfl) ?_
            refine lv_aload_n hx hb dX4_reachesInitialState_47 rfl (lv_at hl 2 rfl) ?_
            refine gS_X4_top X hp tw_35_7 dX4_reachesInitialState_48 ?_
            obtain ⟨t13, ht13, h⟩ := bd_s h
            refine cl_Vv X (eokS hF) (c_X4_oblige hF ht13) tw_36_10 mw_X4_oblige (by decide) hp 4 rfl rfl rfl hl.1 rfl (Nat.le_of_ble_eq_true rfl) dX4_reachesInitialState_51 (fun H locs hp => ?_)
            refine lv_goto (tgt := 75) hx hb dX4_reachesInitialState_54 (by decide) ?_
            obtain ⟨x14, ex14⟩ : ∃ z : Int32, z = v1 + (1 : Int32) := ⟨_, rfl⟩
            have h := nm_s h x14 ex14
            refine lv_iinc (v := x14) (lv' := [(1, .int x14), (3, .int t11), (2, .int t2), (0, .ref (a 4))]) hx hb dX4_reachesInitialState_75 hl (k := 3) rfl (by rw [ex14]; rfl) (by decide) rfl (fun ls hl => ?_)
            refine lv_goto (tgt := 2) hx hb dX4_reachesInitialState_78 (by decide) ?_
            exact hk2 x14 t13 _ _ _ hp (lv_sub hl [3, 0] rfl) h
          · have h := it_p h c12
            exact hk43 σ _ _ _ hp (lv_sub hl [2] rfl) h
  have J_81 : ∀  (σ : St) (H : Heap) (locs : List Loc) (ls : Array Slot), Pw D (wS a cA) A s.heap H locs σ → lv_has ls 4 [(0, .ref (a 4))] → X4_reachesInitialState_81 σ = some (r, σ') → W p l e R s m args below meth c H locs 0 0 Q (F0 m 81 ls []) := by
    intro σ H locs ls hp hl h
    unfold X4_reachesInitialState_81 at h
    refine lv_iconst (v := 0) hx hb dX4_reachesInitialState_81 (by decide) ?_
    exact hR _ _ _ _ _ _ dX4_reachesInitialState_82 hp (congrArg Prod.fst (Option.some.inj h)) (congrArg Prod.snd (Option.some.inj h)) (fun _ => Or.inl rfl)
  have J_73 : ∀  (σ : St) (H : Heap) (locs : List Loc) (ls : Array Slot), Pw D (wS a cA) A s.heap H locs σ → lv_has ls 4 [(0, .ref (a 4))] → X4_reachesInitialState_73 σ = some (r, σ') → W p l e R s m args below meth c H locs 0 0 Q (F0 m 73 ls []) := by
    intro σ H locs ls hp hl h
    unfold X4_reachesInitialState_73 at h
    refine lv_iconst (v := 1) hx hb dX4_reachesInitialState_73 (by decide) ?_
    exact hR _ _ _ _ _ _ dX4_reachesInitialState_74 hp (congrArg Prod.fst (Option.some.inj h)) (congrArg Prod.snd (Option.some.inj h)) (fun _ => Or.inr rfl)
  have J_43 : ∀  (σ : St) (H : Heap) (locs : List Loc) (ls : Array Slot), Pw D (wS a cA) A s.heap H locs σ → lv_has ls 4 [(0, .ref (a 4))] → X4_reachesInitialState_43 σ = some (r, σ') → W p l e R s m args below meth c H locs 0 0 Q (F0 m 43 ls []) := by
    intro σ H locs ls hp hl h
    unfold X4_reachesInitialState_43 at h
    refine lv_iconst (v := 0) hx hb dX4_reachesInitialState_43 (by decide) ?_
    exact hR _ _ _ _ _ _ dX4_reachesInitialState_44 hp (congrArg Prod.fst (Option.some.inj h)) (congrArg Prod.snd (Option.some.inj h)) (fun _ => Or.inl rfl)
  unfold X4_reachesInitialState at h
  have hl := lv_sub (l' := [(0, .ref (a 4))]) hl [0] rfl
  refine lv_iconst (v := 0) hx hb dX4_reachesInitialState_0 (by decide) ?_
  refine lv_istore_n (lv' := [(1, .int (0 : Int32)), (0, .ref (a 4))]) hx hb dX4_reachesInitialState_1 rfl hl (by decide) rfl (fun ls hl => ?_)
  exact J_2 _ (fun σ H locs ls hp hl h => J_43 σ _ _ _ hp hl h) _ (fun σ H locs ls hp hl h => J_73 σ _ _ _ hp hl h) _ (fun σ H locs ls hp hl h => J_81 σ _ _ _ hp hl h) _ (0 : Int32) σ _ _ _ hp (lv_sub hl [1, 0] rfl) h
def X1_levelAt (σ : St) (v1 : Int32) : Option (Int32) :=
  if v1 < 0 then
    some (0 : Int32)
  else
    if (729 : Int32) ≤ v1 then
      some (0 : Int32)
    else
      gd (inb v1 729) (
      some (σ.2.2.1 11 v1.toNatClampNeg))
set_option maxRecDepth 20000 in
set_option maxHeartbeats 4000000 in
theorem c_X1_levelAt {l : Launch} {D : va_G} {a : Nat → Nat} {cA : Nat → ClassId} {t : Nat} {F : (Nat → Prop) → State → Prop} (hF : EOK F) {σ : St} {v1 : Int32} {r : Int32} (h : X1_levelAt σ v1 = some r) : MetI l yX1_levelAt cX1_levelAt 2 (some .int) 0 D (tyW cA) (wS a cA) (ES t F) [.ref (a 6), .int v1] σ r σ := by
  refine mkI (by decide) (adrS a cA) (Or.inl rfl) (Nat.le_of_ble_eq_true rfl) ?_
  intro p e R s m args below meth c A Q ls X hR hp hl
  obtain ⟨hx, hb, -, hown, hts, -⟩ := id X
  unfold X1_levelAt at h
  have hl := lv_sub (l' := [(0, .ref (a 6)), (1, .int v1)]) hl [0, 1] rfl
  refine lv_iload_n hx hb dX1_levelAt_0 rfl (lv_at hl 1 rfl) ?_
  refine lv_if_lt (tgt := 20) hx hb dX1_levelAt_1 (by decide) (fun c1 => ?_) (fun c1 => ?_)
  · have h := it_p h c1
    refine lv_iconst (v := 0) hx hb dX1_levelAt_20 (by decide) ?_
    exact hR _ _ _ _ _ _ dX1_levelAt_21 hp (Option.some.inj h) rfl (fun q => by cases q)
  · have h := it_n h c1
    refine lv_iload_n hx hb dX1_levelAt_4 rfl (lv_at hl 1 rfl) ?_
    refine lv_sipush (v := 729) hx hb dX1_levelAt_5 (by decide) ?_
    refine lv_icmp_ge (tgt := 20) hx hb dX1_levelAt_8 (by decide) (fun c2 => ?_) (fun c2 => ?_)
    · have h := it_p h c2
      refine lv_iconst (v := 0) hx hb dX1_levelAt_20 (by decide) ?_
      exact hR _ _ _ _ _ _ dX1_levelAt_21 hp (Option.some.inj h) rfl (fun q => by cases q)
    · have h := it_n h c2
      refine lv_aload_n hx hb dX1_levelAt_11 rfl (lv_at hl 0 rfl) ?_
      refine gS_X1_levels X hp tw_5_3 dX1_levelAt_12 ?_
      refine lv_iload_n hx hb dX1_levelAt_15 rfl (lv_at hl 1 rfl) ?_
      obtain ⟨g3, h⟩ := gd_s h
      refine lS_X1_levels X hp g3 dX1_levelAt_16 ?_
      refine lv_goto (tgt := 21) hx hb dX1_levelAt_17 (by decide) ?_
      exact hR _ _ _ _ _ _ dX1_levelAt_21 hp (Option.some.inj h) rfl (fun q => by cases q)
def X4_raiseCube (N : Nat) (v1 : Int32) (v2 : Int32) (σ : St) : Option (St) :=
  if v1 < 0 then
    some σ
  else
    if (729 : Int32) ≤ v1 then
      some σ
    else
      if v2 < 0 then
        some σ
      else
        if (v2 + (1 : Int32)) < (70 : Int32) then
          gd (inb v1 729) (
          gd (inb v1 729) (
          bd (X0_predecessorsOfCube N σ (σ.2.2.1 9 v1.toNatClampNeg) (σ.2.2.1 10 v1.toNatClampNeg)) (fun t7 =>
          gd (inb v2 70) (
          if (t7 &&& (σ.2.2.2 5 v2.toNatClampNeg)) = (0 : Int64) then
            gd (inb v1 729) (
            nm (sa σ 11 v1.toNatClampNeg (v2 + (1 : Int32))) (fun (σ11 : St) =>
            gd (inb (v2 + (1 : Int32)) 70) (
            gd (inb v1 729) (
            gd (inb (v2 + (1 : Int32)) 70) (
            nm (sb σ11 5 (v2 + (1 : Int32)).toNatClampNeg ((σ11.2.2.2 5 (v2 + (1 : Int32)).toNatClampNeg) &&& ((σ11.2.2.2 9 v1.toNatClampNeg) ^^^ (-1 : Int64)))) (fun (σ15 : St) =>
            nm (si σ15 20 ((σ15.1 20) + (1 : Int32))) (fun (σ16 : St) =>
            some σ16)))))))
          else
            some σ))))
        else
          some σ
set_option maxRecDepth 20000 in
set_option maxHeartbeats 4000000 in
theorem c_X4_raiseCube {l : Launch} {D : va_G} {a : Nat → Nat} {cA : Nat → ClassId} {t : Nat} {F : (Nat → Prop) → State → Prop} (hF : EOK F) {σ : St} {N : Nat} {v1 : Int32} {v2 : Int32} {σ' : St} (h : X4_raiseCube N v1 v2 σ = some σ') : MetV l yX4_raiseCube cX4_raiseCube 5 none 1 D (tyW cA) (wS a cA) (ES t F) [.ref (a 4), .int v1, .int v2] σ σ' := by
  refine mkV (by decide) (adrS a cA) rfl (Nat.le_of_ble_eq_true rfl) ?_
  intro p e R s m args below meth c A Q ls X hR hp hl
  obtain ⟨hx, hb, -, hown, hts, -⟩ := id X
  unfold X4_raiseCube at h
  have hl := lv_sub (l' := [(0, .ref (a 4)), (1, .int v1), (2, .int v2)]) hl [0, 1, 2] rfl
  refine lv_iload_n hx hb dX4_raiseCube_0 rfl (lv_at hl 1 rfl) ?_
  refine lv_if_lt (tgt := 23) hx hb dX4_raiseCube_1 (by decide) (fun c1 => ?_) (fun c1 => ?_)
  · have h := it_p h c1
    exact hR _ _ _ _ _ dX4_raiseCube_23 hp (Option.some.inj h)
  · have h := it_n h c1
    refine lv_iload_n hx hb dX4_raiseCube_4 rfl (lv_at hl 1 rfl) ?_
    refine lv_sipush (v := 729) hx hb dX4_raiseCube_5 (by decide) ?_
    refine lv_icmp_ge (tgt := 23) hx hb dX4_raiseCube_8 (by decide) (fun c2 => ?_) (fun c2 => ?_)
    · have h := it_p h c2
      exact hR _ _ _ _ _ dX4_raiseCube_23 hp (Option.some.inj h)
    · have h := it_n h c2
      refine lv_iload_n hx hb dX4_raiseCube_11 rfl (lv_at hl 2 rfl) ?_
      refine lv_if_lt (tgt := 23) hx hb dX4_raiseCube_12 (by decide) (fun c3 => ?_) (fun c3 => ?_)
      · have h := it_p h c3
        exact hR _ _ _ _ _ dX4_raiseCube_23 hp (Option.some.inj h)
      · have h := it_n h c3
        refine lv_iload_n hx hb dX4_raiseCube_15 rfl (lv_at hl 2 rfl) ?_
        refine lv_iconst (v := 1) hx hb dX4_raiseCube_16 (by decide) ?_
        refine lv_iadd hx hb dX4_raiseCube_17 ?_
        refine lv_bipush (v := 70) hx hb dX4_raiseCube_18 (by decide) ?_
        refine lv_icmp_lt (tgt := 24) hx hb dX4_raiseCube_20 (by decide) (fun c4 => ?_) (fun c4 => ?_)
        · have h := it_p h c4
          refine lv_aload_n hx hb dX4_raiseCube_24 rfl (lv_at hl 0 rfl) ?_
          refine gS_X4_circuit X hp tw_4_12 dX4_raiseCube_25 ?_
          refine lv_aload_n hx hb dX4_raiseCube_28 rfl (lv_at hl 0 rfl) ?_
          refine gS_X4_cubes X hp tw_4_16 dX4_raiseCube_29 ?_
          refine gS_X1_masks X hp tw_38_23 dX4_raiseCube_32 ?_
          refine lv_iload_n hx hb dX4_raiseCube_35 rfl (lv_at hl 1 rfl) ?_
          obtain ⟨g5, h⟩ := gd_s h
          refine lS_X1_masks X hp g5 dX4_raiseCube_36 ?_
          refine lv_aload_n hx hb dX4_raiseCube_37 rfl (lv_at hl 0 rfl) ?_
          refine gS_X4_cubes X hp tw_4_16 dX4_raiseCube_38 ?_
          refine gS_X1_values X hp tw_39_0 dX4_raiseCube_41 ?_
          refine lv_iload_n hx hb dX4_raiseCube_44 rfl (lv_at hl 1 rfl) ?_
          obtain ⟨g6, h⟩ := gd_s h
          refine lS_X1_values X hp g6 dX4_raiseCube_45 ?_
          obtain ⟨t7, ht7, h⟩ := bd_s h
          refine cl_Vl X (eokS hF) (c_X0_predecessorsOfCube hF ht7) tw_37_4 mw_X0_predecessorsOfCube (by decide) hp 2 rfl rfl rfl hl.1 rfl (Nat.le_of_ble_eq_true rfl) dX4_raiseCube_46 (fun H locs hp => ?_)
          refine lv_lstore_n (lv' := [(3, .long t7), (0, .ref (a 4)), (1, .int v1), (2, .int v2)]) hx hb dX4_raiseCube_49 rfl hl (by decide) rfl (fun ls hl => ?_)
          refine lv_lload_n hx hb dX4_raiseCube_50 rfl (lv_at hl 0 rfl) ?_
          refine lv_aload_n hx hb dX4_raiseCube_51 rfl (lv_at hl 1 rfl) ?_
          refine gS_X4_frames X hp tw_4_17 dX4_raiseCube_52 ?_
          refine lv_iload_n hx hb dX4_raiseCube_55 rfl (lv_at hl 3 rfl) ?_
          obtain ⟨g8, h⟩ := gd_s h
          refine lS_X4_frames X hp g8 dX4_raiseCube_56 ?_
          refine lv_land hx hb dX4_raiseCube_57 ?_
          refine lv_lconst (v := 0) hx hb dX4_raiseCube_58 (by decide) ?_
          refine W.lcmp hx hb dX4_raiseCube_59 ?_
          refine lv_if_ne (tgt := 109) hx hb dX4_raiseCube_60 (by decide) (fun c9 => ?_) (fun c9 => ?_)
          · have h := it_n h (fun q => c9 (lcmp0.mpr q))
            exact hR _ _ _ _ _ dX4_raiseCube_109 hp (Option.some.inj h)
          · have h := it_p h (lcmp0.mp c9)
            refine lv_aload_n hx hb dX4_raiseCube_63 rfl (lv_at hl 1 rfl) ?_
            refine gS_X4_cubes X hp tw_4_16 dX4_raiseCube_64 ?_
            refine gS_X1_levels X hp tw_39_1 dX4_raiseCube_67 ?_
            refine lv_iload_n hx hb dX4_raiseCube_70 rfl (lv_at hl 2 rfl) ?_
            refine lv_iload_n hx hb dX4_raiseCube_71 rfl (lv_at hl 3 rfl) ?_
            refine lv_iconst (v := 1) hx hb dX4_raiseCube_72 (by decide) ?_
            refine lv_iadd hx hb dX4_raiseCube_73 ?_
            obtain ⟨g10, h⟩ := gd_s h
            refine sS_X1_levels X hp g10 dX4_raiseCube_74 (fun H locs σ11 eσ11 hp => ?_)
            have h := nm_s h σ11 eσ11
            refine lv_aload_n hx hb dX4_raiseCube_75 rfl (lv_at hl 1 rfl) ?_
            refine gS_X4_frames X hp tw_4_17 dX4_raiseCube_76 ?_
            refine lv_iload_n hx hb dX4_raiseCube_79 rfl (lv_at hl 3 rfl) ?_
            refine lv_iconst (v := 1) hx hb dX4_raiseCube_80 (by decide) ?_
            refine lv_iadd hx hb dX4_raiseCube_81 ?_
            refine lv_dup2_11 hx hb dX4_raiseCube_82 rfl rfl ?_
            obtain ⟨g12, h⟩ := gd_s h
            refine lS_X4_frames X hp g12 dX4_raiseCube_83 ?_
            refine lv_aload_n hx hb dX4_raiseCube_84 rfl (lv_at hl 1 rfl) ?_
            refine gS_X4_cubes X hp tw_4_16 dX4_raiseCube_85 ?_
            refine gS_X1_sets X hp tw_39_2 dX4_raiseCube_88 ?_
            refine lv_iload_n hx hb dX4_raiseCube_91 rfl (lv_at hl 2 rfl) ?_
            obtain ⟨g13, h⟩ := gd_s h
            refine lS_X1_sets X hp g13 dX4_raiseCube_92 ?_
            refine lv_ldc2 hx hb hown (hts _ tw_36_23) dX4_raiseCube_93 ?_
            refine lv_lxor hx hb dX4_raiseCube_96 ?_
            refine lv_land hx hb dX4_raiseCube_97 ?_
            obtain ⟨g14, h⟩ := gd_s h
            refine sS_X4_frames X hp g14 dX4_raiseCube_98 (fun H locs σ15 eσ15 hp => ?_)
            have h := nm_s h σ15 eσ15
            refine lv_aload_n hx hb dX4_raiseCube_99 rfl (lv_at hl 1 rfl) ?_
            refine lv_dup hx hb dX4_raiseCube_100 rfl ?_
            refine gS_X4_raised X hp tw_35_11 dX4_raiseCube_101 ?_
            refine lv_iconst (v := 1) hx hb dX4_raiseCube_104 (by decide) ?_
            refine lv_iadd hx hb dX4_raiseCube_105 ?_
            refine pS_X4_raised X hp tw_35_11 dX4_raiseCube_106 (fun H locs σ16 eσ16 hp => ?_)
            have h := nm_s h σ16 eσ16
            exact hR _ _ _ _ _ dX4_raiseCube_109 hp (Option.some.inj h)
        · have h := it_n h c4
          exact hR _ _ _ _ _ dX4_raiseCube_23 hp (Option.some.inj h)
def X1_hasLevel_2b (k2 : (Int32 → Option (Int32))) (k27 : (Option (Int32))) (k35 : (Option (Int32))) (σ : St) (v1 : Int32) (v2 : Int32) : Option (Int32) :=
  if (σ.1 23) ≤ v2 then
    k35
  else
    if (729 : Int32) ≤ v2 then
      k35
    else
      gd (inb v2 729) (
      if (σ.2.2.1 11 v2.toNatClampNeg) = v1 then
        k27
      else
        nm (v2 + (1 : Int32)) (fun (x5 : Int32) =>
        k2 x5))
def X1_hasLevel_2 (k27 : (Option (Int32))) (k35 : (Option (Int32))) (σ : St) (v1 : Int32) : Nat → Int32 → Option (Int32)
  | 0, _ => none
  | n + 1, v2 => X1_hasLevel_2b (fun v2 => X1_hasLevel_2 k27 k35 σ v1 n v2) k27 k35 σ v1 v2
def X1_hasLevel_35 (σ : St) : Option (Int32) :=
  some (0 : Int32)
def X1_hasLevel_27 (σ : St) : Option (Int32) :=
  some (1 : Int32)
def X1_hasLevel (N : Nat) (σ : St) (v1 : Int32) : Option (Int32) :=
  X1_hasLevel_2 (X1_hasLevel_27 σ) (X1_hasLevel_35 σ) σ v1 N (0 : Int32)
set_option maxRecDepth 20000 in
set_option maxHeartbeats 4000000 in
theorem c_X1_hasLevel {l : Launch} {D : va_G} {a : Nat → Nat} {cA : Nat → ClassId} {t : Nat} {F : (Nat → Prop) → State → Prop} (hF : EOK F) {σ : St} {N : Nat} {v1 : Int32} {r : Int32} (h : X1_hasLevel N σ v1 = some r) : MetI l yX1_hasLevel cX1_hasLevel 3 (some .boolean) 0 D (tyW cA) (wS a cA) (ES t F) [.ref (a 6), .int v1] σ r σ := by
  refine mkI (by decide) (adrS a cA) (Or.inr rfl) (Nat.le_of_ble_eq_true rfl) ?_
  intro p e R s m args below meth c A Q ls X hR hp hl
  obtain ⟨hx, hb, -, hown, hts, -⟩ := id X
  have J_2 : ∀ (v1 : Int32) (k27 : (Option (Int32))) (hk27 : ∀ (H : Heap) (locs : List Loc) (ls : Array Slot), Pw D (wS a cA) A s.heap H locs σ → lv_has ls 3 [(0, .ref (a 6))] → k27 = some r → W p l e R s m args below meth c H locs 0 0 Q (F0 m 27 ls [])) (k35 : (Option (Int32))) (hk35 : ∀ (H : Heap) (locs : List Loc) (ls : Array Slot), Pw D (wS a cA) A s.heap H locs σ → lv_has ls 3 [(0, .ref (a 6))] → k35 = some r → W p l e R s m args below meth c H locs 0 0 Q (F0 m 35 ls [])) (n : Nat) (v2 : Int32) (H : Heap) (locs : List Loc) (ls : Array Slot), Pw D (wS a cA) A s.heap H locs σ → lv_has ls 3 [(0, .ref (a 6)), (1, .int v1), (2, .int v2)] → X1_hasLevel_2 k27 k35 σ v1 n v2 = some r → W p l e R s m args below meth c H locs 0 0 Q (F0 m 2 ls []) := by
    intro v1 k27 hk27 k35 hk35 n
    induction n with
    | zero => intro v2 H locs ls hp hl h; exact nn_s (show (none : Option (Int32)) = some _ from h)
    | succ n ih =>
      intro v2 H locs ls hp hl h
      have h : X1_hasLevel_2b (fun v2 => X1_hasLevel_2 k27 k35 σ v1 n v2) k27 k35 σ v1 v2 = some r := h
      unfold X1_hasLevel_2b at h
      have hk2 := ih
      refine lv_iload_n hx hb dX1_hasLevel_2 rfl (lv_at hl 2 rfl) ?_
      refine lv_aload_n hx hb dX1_hasLevel_3 rfl (lv_at hl 0 rfl) ?_
      refine gS_X1_count X hp tw_38_5 dX1_hasLevel_4 ?_
      refine lv_icmp_ge (tgt := 35) hx hb dX1_hasLevel_7 (by decide) (fun c1 => ?_) (fun c1 => ?_)
      · have h := it_p h c1
        exact hk35 _ _ _ hp (lv_sub hl [0] rfl) h
      · have h := it_n h c1
        refine lv_iload_n hx hb dX1_hasLevel_10 rfl (lv_at hl 2 rfl) ?_
        refine lv_sipush (v := 729) hx hb dX1_hasLevel_11 (by decide) ?_
        refine lv_icmp_ge (tgt := 35) hx hb dX1_hasLevel_14 (by decide) (fun c2 => ?_) (fun c2 => ?_)
        · have h := it_p h c2
          exact hk35 _ _ _ hp (lv_sub hl [0] rfl) h
        · have h := it_n h c2
          refine lv_aload_n hx hb dX1_hasLevel_17 rfl (lv_at hl 0 rfl) ?_
          refine gS_X1_levels X hp tw_5_3 dX1_hasLevel_18 ?_
          refine lv_iload_n hx hb dX1_hasLevel_21 rfl (lv_at hl 2 rfl) ?_
          obtain ⟨g3, h⟩ := gd_s h
          refine lS_X1_levels X hp g3 dX1_hasLevel_22 ?_
          refine lv_iload_n hx hb dX1_hasLevel_23 rfl (lv_at hl 1 rfl) ?_
          refine lv_icmp_ne (tgt := 29) hx hb dX1_hasLevel_24 (by decide) (fun c4 => ?_) (fun c4 => ?_)
          · have h := it_n h c4
            obtain ⟨x5, ex5⟩ : ∃ z : Int32, z = v2 + (1 : Int32) := ⟨_, rfl⟩
            have h := nm_s h x5 ex5
            refine lv_iinc (v := x5) (lv' := [(2, .int x5), (0, .ref (a 6)), (1, .int v1)]) hx hb dX1_hasLevel_29 hl (k := 2) rfl (by rw [ex5]; rfl) (by decide) rfl (fun ls hl => ?_)
            refine lv_goto (tgt := 2) hx hb dX1_hasLevel_32 (by decide) ?_
            exact hk2 x5 _ _ _ hp (lv_sub hl [1, 2, 0] rfl) h
          · have h := it_p h c4
            exact hk27 _ _ _ hp (lv_sub hl [0] rfl) h
  have J_35 : ∀  (H : Heap) (locs : List Loc) (ls : Array Slot), Pw D (wS a cA) A s.heap H locs σ → lv_has ls 3 [(0, .ref (a 6))] → X1_hasLevel_35 σ = some r → W p l e R s m args below meth c H locs 0 0 Q (F0 m 35 ls []) := by
    intro H locs ls hp hl h
    unfold X1_hasLevel_35 at h
    refine lv_iconst (v := 0) hx hb dX1_hasLevel_35 (by decide) ?_
    exact hR _ _ _ _ _ _ dX1_hasLevel_36 hp (Option.some.inj h) rfl (fun _ => Or.inl rfl)
  have J_27 : ∀  (H : Heap) (locs : List Loc) (ls : Array Slot), Pw D (wS a cA) A s.heap H locs σ → lv_has ls 3 [(0, .ref (a 6))] → X1_hasLevel_27 σ = some r → W p l e R s m args below meth c H locs 0 0 Q (F0 m 27 ls []) := by
    intro H locs ls hp hl h
    unfold X1_hasLevel_27 at h
    refine lv_iconst (v := 1) hx hb dX1_hasLevel_27 (by decide) ?_
    exact hR _ _ _ _ _ _ dX1_hasLevel_28 hp (Option.some.inj h) rfl (fun _ => Or.inr rfl)
  unfold X1_hasLevel at h
  have hl := lv_sub (l' := [(0, .ref (a 6)), (1, .int v1)]) hl [0, 1] rfl
  refine lv_iconst (v := 0) hx hb dX1_hasLevel_0 (by decide) ?_
  refine lv_istore_n (lv' := [(2, .int (0 : Int32)), (0, .ref (a 6)), (1, .int v1)]) hx hb dX1_hasLevel_1 rfl hl (by decide) rfl (fun ls hl => ?_)
  exact J_2 v1 _ (fun H locs ls hp hl h => J_27 _ _ _ hp hl h) _ (fun H locs ls hp hl h => J_35 _ _ _ hp hl h) _ (0 : Int32) _ _ _ hp (lv_sub hl [1, 2, 0] rfl) h
def X4_raiseCubes_12b (N : Nat) (k12 : (Int32 → St → Option (Int32 × St))) (k47 : (Int32 → St → Option (Int32 × St))) (v1 : Int32) (v2 : Int32) (σ : St) : Option (Int32 × St) :=
  if (σ.1 23) ≤ v2 then
    k47 v1 σ
  else
    bd (X1_levelAt σ v2) (fun t2 =>
    if t2 = v1 then
      bd (X4_raiseCube N v2 v1 σ) (fun t5 =>
      nm (v2 + (1 : Int32)) (fun (x6 : Int32) =>
      k12 x6 t5))
    else
      nm (v2 + (1 : Int32)) (fun (x4 : Int32) =>
      k12 x4 σ))
def X4_raiseCubes_12 (N : Nat) (k47 : (Int32 → St → Option (Int32 × St))) (v1 : Int32) : Nat → Int32 → St → Option (Int32 × St)
  | 0, _, _ => none
  | n + 1, v2, σ => X4_raiseCubes_12b N (fun v2 σ => X4_raiseCubes_12 N k47 v1 n v2 σ) k47 v1 v2 σ
def X4_raiseCubes_47 (N : Nat) (k2 : (Int32 → St → Option (Int32 × St))) (k58 : (Int32 → St → Option (Int32 × St))) (v1 : Int32) (σ : St) : Option (Int32 × St) :=
  bd (X1_hasLevel N σ v1) (fun t1 =>
  if t1 = 0 then
    k58 v1 σ
  else
    nm (v1 + (1 : Int32)) (fun (x3 : Int32) =>
    k2 x3 σ))
def X4_raiseCubes_2b (N : Nat) (k2 : (Int32 → St → Option (Int32 × St))) (k58 : (Int32 → St → Option (Int32 × St))) (k71 : (St → Option (Int32 × St))) (v1 : Int32) (σ : St) : Option (Int32 × St) :=
  if (σ.1 16) ≤ v1 then
    k71 σ
  else
    X4_raiseCubes_12 N (fun v1 σ => X4_raiseCubes_47 N k2 k58 v1 σ) v1 N (0 : Int32) σ
def X4_raiseCubes_2 (N : Nat) (k58 : (Int32 → St → Option (Int32 × St))) (k71 : (St → Option (Int32 × St))) : Nat → Int32 → St → Option (Int32 × St)
  | 0, _, _ => none
  | n + 1, v1, σ => X4_raiseCubes_2b N (fun v1 σ => X4_raiseCubes_2 N k58 k71 n v1 σ) k58 k71 v1 σ
def X4_raiseCubes_58 (v1 : Int32) (σ : St) : Option (Int32 × St) :=
  nm (si σ 21 v1) (fun (σ1 : St) =>
  some ((1 : Int32), σ1))
def X4_raiseCubes_71 (σ : St) : Option (Int32 × St) :=
  some ((0 : Int32), σ)
def X4_raiseCubes (N : Nat) (σ : St) : Option (Int32 × St) :=
  X4_raiseCubes_2 N (fun v1 σ => X4_raiseCubes_58 v1 σ) (fun σ => X4_raiseCubes_71 σ) N (1 : Int32) σ
set_option maxRecDepth 20000 in
set_option maxHeartbeats 4000000 in
theorem c_X4_raiseCubes {l : Launch} {D : va_G} {a : Nat → Nat} {cA : Nat → ClassId} {t : Nat} {F : (Nat → Prop) → State → Prop} (hF : EOK F) {σ : St} {N : Nat} {r : Int32} {σ' : St} (h : X4_raiseCubes N σ = some (r, σ')) : MetI l yX4_raiseCubes cX4_raiseCubes 3 (some .boolean) 2 D (tyW cA) (wS a cA) (ES t F) [.ref (a 4)] σ r σ' := by
  refine mkI (by decide) (adrS a cA) (Or.inr rfl) (Nat.le_of_ble_eq_true rfl) ?_
  intro p e R s m args below meth c A Q ls X hR hp hl
  obtain ⟨hx, hb, -, hown, hts, -⟩ := id X
  have J_12 : ∀ (v1 : Int32) (k47 : (Int32 → St → Option (Int32 × St))) (hk47 : ∀ (v1 : Int32) (σ : St) (H : Heap) (locs : List Loc) (ls : Array Slot), Pw D (wS a cA) A s.heap H locs σ → lv_has ls 3 [(0, .ref (a 4)), (1, .int v1)] → k47 v1 σ = some (r, σ') → W p l e R s m args below meth c H locs 0 0 Q (F0 m 47 ls [])) (n : Nat) (v2 : Int32) (σ : St) (H : Heap) (locs : List Loc) (ls : Array Slot), Pw D (wS a cA) A s.heap H locs σ → lv_has ls 3 [(0, .ref (a 4)), (1, .int v1), (2, .int v2)] → X4_raiseCubes_12 N k47 v1 n v2 σ = some (r, σ') → W p l e R s m args below meth c H locs 0 0 Q (F0 m 12 ls []) := by
    intro v1 k47 hk47 n
    induction n with
    | zero => intro v2 σ H locs ls hp hl h; exact nn_s (show (none : Option (Int32 × St)) = some _ from h)
    | succ n ih =>
      intro v2 σ H locs ls hp hl h
      have h : X4_raiseCubes_12b N (fun v2 σ => X4_raiseCubes_12 N k47 v1 n v2 σ) k47 v1 v2 σ = some (r, σ') := h
      unfold X4_raiseCubes_12b at h
      have hk12 := ih
      refine lv_iload_n hx hb dX4_raiseCubes_12 rfl (lv_at hl 2 rfl) ?_
      refine lv_aload_n hx hb dX4_raiseCubes_13 rfl (lv_at hl 0 rfl) ?_
      refine gS_X4_cubes X hp tw_4_16 dX4_raiseCubes_14 ?_
      refine gS_X1_count X hp tw_35_6 dX4_raiseCubes_17 ?_
      refine lv_icmp_ge (tgt := 47) hx hb dX4_raiseCubes_20 (by decide) (fun c1 => ?_) (fun c1 => ?_)
      · have h := it_p h c1
        exact hk47 v1 σ _ _ _ hp (lv_sub hl [0, 1] rfl) h
      · have h := it_n h c1
        refine lv_aload_n hx hb dX4_raiseCubes_23 rfl (lv_at hl 0 rfl) ?_
        refine gS_X4_cubes X hp tw_4_16 dX4_raiseCubes_24 ?_
        refine lv_iload_n hx hb dX4_raiseCubes_27 rfl (lv_at hl 2 rfl) ?_
        obtain ⟨t2, ht2, h⟩ := bd_s h
        refine cl_Vi X (eokS hF) (c_X1_levelAt hF ht2) tw_38_15 mw_X1_levelAt (by decide) hp 6 rfl rfl rfl hl.1 rfl (Nat.le_of_ble_eq_true rfl) dX4_raiseCubes_28 (fun H locs hp => ?_)
        refine lv_iload_n hx hb dX4_raiseCubes_31 rfl (lv_at hl 1 rfl) ?_
        refine lv_icmp_ne (tgt := 41) hx hb dX4_raiseCubes_32 (by decide) (fun c3 => ?_) (fun c3 => ?_)
        · have h := it_n h c3
          obtain ⟨x4, ex4⟩ : ∃ z : Int32, z = v2 + (1 : Int32) := ⟨_, rfl⟩
          have h := nm_s h x4 ex4
          refine lv_iinc (v := x4) (lv' := [(2, .int x4), (0, .ref (a 4)), (1, .int v1)]) hx hb dX4_raiseCubes_41 hl (k := 2) rfl (by rw [ex4]; rfl) (by decide) rfl (fun ls hl => ?_)
          refine lv_goto (tgt := 12) hx hb dX4_raiseCubes_44 (by decide) ?_
          exact hk12 x4 σ _ _ _ hp (lv_sub hl [1, 2, 0] rfl) h
        · have h := it_p h c3
          refine lv_aload_n hx hb dX4_raiseCubes_35 rfl (lv_at hl 0 rfl) ?_
          refine lv_iload_n hx hb dX4_raiseCubes_36 rfl (lv_at hl 2 rfl) ?_
          refine lv_iload_n hx hb dX4_raiseCubes_37 rfl (lv_at hl 1 rfl) ?_
          obtain ⟨t5, ht5, h⟩ := bd_s h
          refine cl_Vv X (eokS hF) (c_X4_raiseCube hF ht5) tw_38_19 mw_X4_raiseCube (by decide) hp 4 rfl rfl rfl hl.1 rfl (Nat.le_of_ble_eq_true rfl) dX4_raiseCubes_38 (fun H locs hp => ?_)
          obtain ⟨x6, ex6⟩ : ∃ z : Int32, z = v2 + (1 : Int32) := ⟨_, rfl⟩
          have h := nm_s h x6 ex6
          refine lv_iinc (v := x6) (lv' := [(2, .int x6), (0, .ref (a 4)), (1, .int v1)]) hx hb dX4_raiseCubes_41 hl (k := 2) rfl (by rw [ex6]; rfl) (by decide) rfl (fun ls hl => ?_)
          refine lv_goto (tgt := 12) hx hb dX4_raiseCubes_44 (by decide) ?_
          exact hk12 x6 t5 _ _ _ hp (lv_sub hl [1, 2, 0] rfl) h
  have J_47 : ∀ (v1 : Int32) (k2 : (Int32 → St → Option (Int32 × St))) (hk2 : ∀ (v1 : Int32) (σ : St) (H : Heap) (locs : List Loc) (ls : Array Slot), Pw D (wS a cA) A s.heap H locs σ → lv_has ls 3 [(0, .ref (a 4)), (1, .int v1)] → k2 v1 σ = some (r, σ') → W p l e R s m args below meth c H locs 0 0 Q (F0 m 2 ls [])) (k58 : (Int32 → St → Option (Int32 × St))) (hk58 : ∀ (v1 : Int32) (σ : St) (H : Heap) (locs : List Loc) (ls : Array Slot), Pw D (wS a cA) A s.heap H locs σ → lv_has ls 3 [(0, .ref (a 4)), (1, .int v1)] → k58 v1 σ = some (r, σ') → W p l e R s m args below meth c H locs 0 0 Q (F0 m 58 ls [])) (σ : St) (H : Heap) (locs : List Loc) (ls : Array Slot), Pw D (wS a cA) A s.heap H locs σ → lv_has ls 3 [(0, .ref (a 4)), (1, .int v1)] → X4_raiseCubes_47 N k2 k58 v1 σ = some (r, σ') → W p l e R s m args below meth c H locs 0 0 Q (F0 m 47 ls []) := by
    intro v1 k2 hk2 k58 hk58 σ H locs ls hp hl h
    unfold X4_raiseCubes_47 at h
    refine lv_aload_n hx hb dX4_raiseCubes_47 rfl (lv_at hl 0 rfl) ?_
    refine gS_X4_cubes X hp tw_4_16 dX4_raiseCubes_48 ?_
    refine lv_iload_n hx hb dX4_raiseCubes_51 rfl (lv_at hl 1 rfl) ?_
    obtain ⟨t1, ht1, h⟩ := bd_s h
    refine cl_Vi X (eokS hF) (c_X1_hasLevel hF ht1) tw_39_3 mw_X1_hasLevel (by decide) hp 6 rfl rfl rfl hl.1 rfl (Nat.le_of_ble_eq_true rfl) dX4_raiseCubes_52 (fun H locs hp => ?_)
    refine lv_if_ne (tgt := 65) hx hb dX4_raiseCubes_55 (by decide) (fun c2 => ?_) (fun c2 => ?_)
    · have h := it_n h c2
      obtain ⟨x3, ex3⟩ : ∃ z : Int32, z = v1 + (1 : Int32) := ⟨_, rfl⟩
      have h := nm_s h x3 ex3
      refine lv_iinc (v := x3) (lv' := [(1, .int x3), (0, .ref (a 4))]) hx hb dX4_raiseCubes_65 hl (k := 1) rfl (by rw [ex3]; rfl) (by decide) rfl (fun ls hl => ?_)
      refine lv_goto (tgt := 2) hx hb dX4_raiseCubes_68 (by decide) ?_
      exact hk2 x3 σ _ _ _ hp (lv_sub hl [1, 0] rfl) h
    · have h := it_p h c2
      exact hk58 v1 σ _ _ _ hp (lv_sub hl [0, 1] rfl) h
  have J_2 : ∀  (k58 : (Int32 → St → Option (Int32 × St))) (hk58 : ∀ (v1 : Int32) (σ : St) (H : Heap) (locs : List Loc) (ls : Array Slot), Pw D (wS a cA) A s.heap H locs σ → lv_has ls 3 [(0, .ref (a 4)), (1, .int v1)] → k58 v1 σ = some (r, σ') → W p l e R s m args below meth c H locs 0 0 Q (F0 m 58 ls [])) (k71 : (St → Option (Int32 × St))) (hk71 : ∀ (σ : St) (H : Heap) (locs : List Loc) (ls : Array Slot), Pw D (wS a cA) A s.heap H locs σ → lv_has ls 3 [(0, .ref (a 4))] → k71 σ = some (r, σ') → W p l e R s m args below meth c H locs 0 0 Q (F0 m 71 ls [])) (n : Nat) (v1 : Int32) (σ : St) (H : Heap) (locs : List Loc) (ls : Array Slot), Pw D (wS a cA) A s.heap H locs σ → lv_has ls 3 [(0, .ref (a 4)), (1, .int v1)] → X4_raiseCubes_2 N k58 k71 n v1 σ = some (r, σ') → W p l e R s m args below meth c H locs 0 0 Q (F0 m 2 ls []) := by
    intro k58 hk58 k71 hk71 n
    induction n with
    | zero => intro v1 σ H locs ls hp hl h; exact nn_s (show (none : Option (Int32 × St)) = some _ from h)
    | succ n ih =>
      intro v1 σ H locs ls hp hl h
      have h : X4_raiseCubes_2b N (fun v1 σ => X4_raiseCubes_2 N k58 k71 n v1 σ) k58 k71 v1 σ = some (r, σ') := h
      unfold X4_raiseCubes_2b at h
      have hk2 := ih
      refine lv_iload_n hx hb dX4_raiseCubes_2 rfl (lv_at hl 1 rfl) ?_
      refine lv_aload_n hx hb dX4_raiseCubes_3 rfl (lv_at hl 0 rfl) ?_
      refine gS_X4_top X hp tw_35_7 dX4_raiseCubes_4 ?_
      refine lv_icmp_ge (tgt := 71) hx hb dX4_raiseCubes_7 (by decide) (fun c1 => ?_) (fun c1 => ?_)
      · have h := it_p h c1
        exact hk71 σ _ _ _ hp (lv_sub hl [0] rfl) h
      · have h := it_n h c1
        refine lv_iconst (v := 0) hx hb dX4_raiseCubes_10 (by decide) ?_
        refine lv_istore_n (lv' := [(2, .int (0 : Int32)), (0, .ref (a 4)), (1, .int v1)]) hx hb dX4_raiseCubes_11 rfl hl (by decide) rfl (fun ls hl => ?_)
        exact J_12 v1 _ (fun v1 σ H locs ls hp hl h => J_47 v1 _ hk2 _ hk58 σ _ _ _ hp hl h) _ (0 : Int32) σ _ _ _ hp (lv_sub hl [1, 2, 0] rfl) h
  have J_58 : ∀ (v1 : Int32) (σ : St) (H : Heap) (locs : List Loc) (ls : Array Slot), Pw D (wS a cA) A s.heap H locs σ → lv_has ls 3 [(0, .ref (a 4)), (1, .int v1)] → X4_raiseCubes_58 v1 σ = some (r, σ') → W p l e R s m args below meth c H locs 0 0 Q (F0 m 58 ls []) := by
    intro v1 σ H locs ls hp hl h
    unfold X4_raiseCubes_58 at h
    refine lv_aload_n hx hb dX4_raiseCubes_58 rfl (lv_at hl 0 rfl) ?_
    refine lv_iload_n hx hb dX4_raiseCubes_59 rfl (lv_at hl 1 rfl) ?_
    refine pS_X4_certificateBase X hp tw_35_12 dX4_raiseCubes_60 (fun H locs σ1 eσ1 hp => ?_)
    have h := nm_s h σ1 eσ1
    refine lv_iconst (v := 1) hx hb dX4_raiseCubes_63 (by decide) ?_
    exact hR _ _ _ _ _ _ dX4_raiseCubes_64 hp (congrArg Prod.fst (Option.some.inj h)) (congrArg Prod.snd (Option.some.inj h)) (fun _ => Or.inr rfl)
  have J_71 : ∀  (σ : St) (H : Heap) (locs : List Loc) (ls : Array Slot), Pw D (wS a cA) A s.heap H locs σ → lv_has ls 3 [(0, .ref (a 4))] → X4_raiseCubes_71 σ = some (r, σ') → W p l e R s m args below meth c H locs 0 0 Q (F0 m 71 ls []) := by
    intro σ H locs ls hp hl h
    unfold X4_raiseCubes_71 at h
    refine lv_iconst (v := 0) hx hb dX4_raiseCubes_71 (by decide) ?_
    exact hR _ _ _ _ _ _ dX4_raiseCubes_72 hp (congrArg Prod.fst (Option.some.inj h)) (congrArg Prod.snd (Option.some.inj h)) (fun _ => Or.inl rfl)
  unfold X4_raiseCubes at h
  have hl := lv_sub (l' := [(0, .ref (a 4))]) hl [0] rfl
  refine lv_iconst (v := 1) hx hb dX4_raiseCubes_0 (by decide) ?_
  refine lv_istore_n (lv' := [(1, .int (1 : Int32)), (0, .ref (a 4))]) hx hb dX4_raiseCubes_1 rfl hl (by decide) rfl (fun ls hl => ?_)
  exact J_2 _ (fun v1 σ H locs ls hp hl h => J_58 v1 σ _ _ _ hp hl h) _ (fun σ H locs ls hp hl h => J_71 σ _ _ _ hp hl h) _ (1 : Int32) σ _ _ _ hp (lv_sub hl [1, 0] rfl) h
def X4_carryOut_41b (N : Nat) (k41 : (Int32 → St → Option (St))) (k54 : (St → Option (St))) (k71 : (St → Option (St))) (k83 : (St → Option (St))) (v1 : Int32) (σ : St) : Option (St) :=
  if (70 : Int32) ≤ v1 then
    k83 σ
  else
    bd (X4_reachesInitialState N σ) (fun t2 =>
    if t2.1 = 0 then
      bd (X4_openFrame t2.2) (fun t4 =>
      bd (X4_raiseCubes N t4) (fun t5 =>
      if t5.1 = 0 then
        nm (v1 + (1 : Int32)) (fun (x7 : Int32) =>
        k41 x7 t5.2)
      else
        k71 t5.2))
    else
      k54 t2.2)
def X4_carryOut_41 (N : Nat) (k54 : (St → Option (St))) (k71 : (St → Option (St))) (k83 : (St → Option (St))) : Nat → Int32 → St → Option (St)
  | 0, _, _ => none
  | n + 1, v1, σ => X4_carryOut_41b N (fun v1 σ => X4_carryOut_41 N k54 k71 k83 n v1 σ) k54 k71 k83 v1 σ
def X4_carryOut_83 (σ : St) : Option (St) :=
  some σ
def X4_carryOut_54 (σ : St) : Option (St) :=
  nm (si σ 15 (1 : Int32)) (fun (σ1 : St) =>
  some σ1)
def X4_carryOut_71 (σ : St) : Option (St) :=
  nm (si σ 15 (0 : Int32)) (fun (σ1 : St) =>
  some σ1)
def X4_carryOut (N : Nat) (σ : St) : Option (St) :=
  bd (X4_forgetLast N σ) (fun t1 =>
  nm (si t1 14 (1 : Int32)) (fun (σ2 : St) =>
  bd (X0_initial σ2) (fun t3 =>
  bd (X0_bad σ2) (fun t4 =>
  if (t3 &&& t4) = (0 : Int64) then
    bd (X4_openFrame σ2) (fun t6 =>
    X4_carryOut_41 N (fun σ => X4_carryOut_54 σ) (fun σ => X4_carryOut_71 σ) (fun σ => X4_carryOut_83 σ) N (0 : Int32) t6)
  else
    nm (si σ2 15 (1 : Int32)) (fun (σ7 : St) =>
    some σ7)))))
set_option maxRecDepth 20000 in
set_option maxHeartbeats 4000000 in
theorem c_X4_carryOut {l : Launch} {D : va_G} {a : Nat → Nat} {cA : Nat → ClassId} {t : Nat} {F : (Nat → Prop) → State → Prop} (hF : EOK F) {σ : St} {N : Nat} {σ' : St} (h : X4_carryOut N σ = some σ') : MetV l yX4_carryOut cX4_carryOut 2 none 5 D (tyW cA) (wS a cA) (ES t F) [.ref (a 4)] σ σ' := by
  refine mkV (by decide) (adrS a cA) rfl (Nat.le_of_ble_eq_true rfl) ?_
  intro p e R s m args below meth c A Q ls X hR hp hl
  obtain ⟨hx, hb, -, hown, hts, -⟩ := id X
  have J_41 : ∀  (k54 : (St → Option (St))) (hk54 : ∀ (σ : St) (H : Heap) (locs : List Loc) (ls : Array Slot), Pw D (wS a cA) A s.heap H locs σ → lv_has ls 2 [(0, .ref (a 4))] → k54 σ = some σ' → W p l e R s m args below meth c H locs 0 0 Q (F0 m 54 ls [])) (k71 : (St → Option (St))) (hk71 : ∀ (σ : St) (H : Heap) (locs : List Loc) (ls : Array Slot), Pw D (wS a cA) A s.heap H locs σ → lv_has ls 2 [(0, .ref (a 4))] → k71 σ = some σ' → W p l e R s m args below meth c H locs 0 0 Q (F0 m 71 ls [])) (k83 : (St → Option (St))) (hk83 : ∀ (σ : St) (H : Heap) (locs : List Loc) (ls : Array Slot), Pw D (wS a cA) A s.heap H locs σ → lv_has ls 2 [(0, .ref (a 4))] → k83 σ = some σ' → W p l e R s m args below meth c H locs 0 0 Q (F0 m 83 ls [])) (n : Nat) (v1 : Int32) (σ : St) (H : Heap) (locs : List Loc) (ls : Array Slot), Pw D (wS a cA) A s.heap H locs σ → lv_has ls 2 [(0, .ref (a 4)), (1, .int v1)] → X4_carryOut_41 N k54 k71 k83 n v1 σ = some σ' → W p l e R s m args below meth c H locs 0 0 Q (F0 m 41 ls []) := by
    intro k54 hk54 k71 hk71 k83 hk83 n
    induction n with
    | zero => intro v1 σ H locs ls hp hl h; exact nn_s (show (none : Option (St)) = some _ from h)
    | succ n ih =>
      intro v1 σ H locs ls hp hl h
      have h : X4_carryOut_41b N (fun v1 σ => X4_carryOut_41 N k54 k71 k83 n v1 σ) k54 k71 k83 v1 σ = some σ' := h
      unfold X4_carryOut_41b at h
      have hk41 := ih
      refine lv_iload_n hx hb dX4_carryOut_41 rfl (lv_at hl 1 rfl) ?_
      refine lv_bipush (v := 70) hx hb dX4_carryOut_42 (by decide) ?_
      refine lv_icmp_ge (tgt := 83) hx hb dX4_carryOut_44 (by decide) (fun c1 => ?_) (fun c1 => ?_)
      · have h := it_p h c1
        exact hk83 σ _ _ _ hp (lv_sub hl [0] rfl) h
      · have h := it_n h c1
        refine lv_aload_n hx hb dX4_carryOut_47 rfl (lv_at hl 0 rfl) ?_
        obtain ⟨t2, ht2, h⟩ := bd_s h
        refine cl_Vi X (eokS hF) (c_X4_reachesInitialState hF ht2) tw_35_21 mw_X4_reachesInitialState (by decide) hp 4 rfl rfl rfl hl.1 rfl (Nat.le_of_ble_eq_true rfl) dX4_carryOut_48 (fun H locs hp => ?_)
        refine lv_if_eq (tgt := 60) hx hb dX4_carryOut_51 (by decide) (fun c3 => ?_) (fun c3 => ?_)
        · have h := it_p h c3
          refine lv_aload_n hx hb dX4_carryOut_60 rfl (lv_at hl 0 rfl) ?_
          obtain ⟨t4, ht4, h⟩ := bd_s h
          refine cl_Vv X (eokS hF) (c_X4_openFrame hF ht4) tw_35_16 mw_X4_openFrame (by decide) hp 4 rfl rfl rfl hl.1 rfl (Nat.le_of_ble_eq_true rfl) dX4_carryOut_61 (fun H locs hp => ?_)
          refine lv_aload_n hx hb dX4_carryOut_64 rfl (lv_at hl 0 rfl) ?_
          obtain ⟨t5, ht5, h⟩ := bd_s h
          refine cl_Vi X (eokS hF) (c_X4_raiseCubes hF ht5) tw_38_11 mw_X4_raiseCubes (by decide) hp 4 rfl rfl rfl hl.1 rfl (Nat.le_of_ble_eq_true rfl) dX4_carryOut_65 (fun H locs hp => ?_)
          refine lv_if_eq (tgt := 77) hx hb dX4_carryOut_68 (by decide) (fun c6 => ?_) (fun c6 => ?_)
          · have h := it_p h c6
            obtain ⟨x7, ex7⟩ : ∃ z : Int32, z = v1 + (1 : Int32) := ⟨_, rfl⟩
            have h := nm_s h x7 ex7
            refine lv_iinc (v := x7) (lv' := [(1, .int x7), (0, .ref (a 4))]) hx hb dX4_carryOut_77 hl (k := 1) rfl (by rw [ex7]; rfl) (by decide) rfl (fun ls hl => ?_)
            refine lv_goto (tgt := 41) hx hb dX4_carryOut_80 (by decide) ?_
            exact hk41 x7 t5.2 _ _ _ hp (lv_sub hl [1, 0] rfl) h
          · have h := it_n h c6
            exact hk71 t5.2 _ _ _ hp (lv_sub hl [0] rfl) h
        · have h := it_n h c3
          exact hk54 t2.2 _ _ _ hp (lv_sub hl [0] rfl) h
  have J_83 : ∀  (σ : St) (H : Heap) (locs : List Loc) (ls : Array Slot), Pw D (wS a cA) A s.heap H locs σ → lv_has ls 2 [(0, .ref (a 4))] → X4_carryOut_83 σ = some σ' → W p l e R s m args below meth c H locs 0 0 Q (F0 m 83 ls []) := by
    intro σ H locs ls hp hl h
    unfold X4_carryOut_83 at h
    exact hR _ _ _ _ _ dX4_carryOut_83 hp (Option.some.inj h)
  have J_54 : ∀  (σ : St) (H : Heap) (locs : List Loc) (ls : Array Slot), Pw D (wS a cA) A s.heap H locs σ → lv_has ls 2 [(0, .ref (a 4))] → X4_carryOut_54 σ = some σ' → W p l e R s m args below meth c H locs 0 0 Q (F0 m 54 ls []) := by
    intro σ H locs ls hp hl h
    unfold X4_carryOut_54 at h
    refine lv_aload_n hx hb dX4_carryOut_54 rfl (lv_at hl 0 rfl) ?_
    refine lv_iconst (v := 1) hx hb dX4_carryOut_55 (by decide) ?_
    refine pS_X4_verdict X hp tw_35_1 dX4_carryOut_56 (fun H locs σ1 eσ1 hp => ?_)
    have h := nm_s h σ1 eσ1
    exact hR _ _ _ _ _ dX4_carryOut_59 hp (Option.some.inj h)
  have J_71 : ∀  (σ : St) (H : Heap) (locs : List Loc) (ls : Array Slot), Pw D (wS a cA) A s.heap H locs σ → lv_has ls 2 [(0, .ref (a 4))] → X4_carryOut_71 σ = some σ' → W p l e R s m args below meth c H locs 0 0 Q (F0 m 71 ls []) := by
    intro σ H locs ls hp hl h
    unfold X4_carryOut_71 at h
    refine lv_aload_n hx hb dX4_carryOut_71 rfl (lv_at hl 0 rfl) ?_
    refine lv_iconst (v := 0) hx hb dX4_carryOut_72 (by decide) ?_
    refine pS_X4_verdict X hp tw_35_1 dX4_carryOut_73 (fun H locs σ1 eσ1 hp => ?_)
    have h := nm_s h σ1 eσ1
    exact hR _ _ _ _ _ dX4_carryOut_76 hp (Option.some.inj h)
  unfold X4_carryOut at h
  have hl := lv_sub (l' := [(0, .ref (a 4))]) hl [0] rfl
  refine lv_aload_n hx hb dX4_carryOut_0 rfl (lv_at hl 0 rfl) ?_
  obtain ⟨t1, ht1, h⟩ := bd_s h
  refine cl_Vv X (eokS hF) (c_X4_forgetLast hF ht1) tw_35_2 mw_X4_forgetLast (by decide) hp 4 rfl rfl rfl hl.1 rfl (Nat.le_of_ble_eq_true rfl) dX4_carryOut_1 (fun H locs hp => ?_)
  refine lv_aload_n hx hb dX4_carryOut_4 rfl (lv_at hl 0 rfl) ?_
  refine lv_iconst (v := 1) hx hb dX4_carryOut_5 (by decide) ?_
  refine pS_X4_exists X hp tw_35_0 (Or.inr rfl) dX4_carryOut_6 (fun H locs σ2 eσ2 hp => ?_)
  have h := nm_s h σ2 eσ2
  refine lv_aload_n hx hb dX4_carryOut_9 rfl (lv_at hl 0 rfl) ?_
  refine gS_X4_circuit X hp tw_4_12 dX4_carryOut_10 ?_
  obtain ⟨t3, ht3, h⟩ := bd_s h
  refine cl_Vl X (eokS hF) (c_X0_initial hF ht3) tw_35_14 mw_X0_initial (by decide) hp 2 rfl rfl rfl hl.1 rfl (Nat.le_of_ble_eq_true rfl) dX4_carryOut_13 (fun H locs hp => ?_)
  refine lv_aload_n hx hb dX4_carryOut_16 rfl (lv_at hl 0 rfl) ?_
  refine gS_X4_circuit X hp tw_4_12 dX4_carryOut_17 ?_
  obtain ⟨t4, ht4, h⟩ := bd_s h
  refine cl_Vl X (eokS hF) (c_X0_bad hF ht4) tw_35_15 mw_X0_bad (by decide) hp 2 rfl rfl rfl hl.1 rfl (Nat.le_of_ble_eq_true rfl) dX4_carryOut_20 (fun H locs hp => ?_)
  refine lv_land hx hb dX4_carryOut_23 ?_
  refine lv_lconst (v := 0) hx hb dX4_carryOut_24 (by decide) ?_
  refine W.lcmp hx hb dX4_carryOut_25 ?_
  refine lv_if_eq (tgt := 35) hx hb dX4_carryOut_26 (by decide) (fun c5 => ?_) (fun c5 => ?_)
  · have h := it_p h (lcmp0.mp c5)
    refine lv_aload_n hx hb dX4_carryOut_35 rfl (lv_at hl 0 rfl) ?_
    obtain ⟨t6, ht6, h⟩ := bd_s h
    refine cl_Vv X (eokS hF) (c_X4_openFrame hF ht6) tw_35_16 mw_X4_openFrame (by decide) hp 4 rfl rfl rfl hl.1 rfl (Nat.le_of_ble_eq_true rfl) dX4_carryOut_36 (fun H locs hp => ?_)
    refine lv_iconst (v := 0) hx hb dX4_carryOut_39 (by decide) ?_
    refine lv_istore_n (lv' := [(1, .int (0 : Int32)), (0, .ref (a 4))]) hx hb dX4_carryOut_40 rfl hl (by decide) rfl (fun ls hl => ?_)
    exact J_41 _ (fun σ H locs ls hp hl h => J_54 σ _ _ _ hp hl h) _ (fun σ H locs ls hp hl h => J_71 σ _ _ _ hp hl h) _ (fun σ H locs ls hp hl h => J_83 σ _ _ _ hp hl h) _ (0 : Int32) t6 _ _ _ hp (lv_sub hl [1, 0] rfl) h
  · have h := it_n h (fun q => c5 (lcmp0.mpr q))
    refine lv_aload_n hx hb dX4_carryOut_29 rfl (lv_at hl 0 rfl) ?_
    refine lv_iconst (v := 1) hx hb dX4_carryOut_30 (by decide) ?_
    refine pS_X4_verdict X hp tw_35_1 dX4_carryOut_31 (fun H locs σ7 eσ7 hp => ?_)
    have h := nm_s h σ7 eσ7
    exact hR _ _ _ _ _ dX4_carryOut_34 hp (Option.some.inj h)
def X6_prove (N : Nat) (σ : St) : Option (Int32 × St) :=
  bd (X4_carryOut N σ) (fun t1 =>
  some ((t1.1 15), t1))
set_option maxRecDepth 20000 in
set_option maxHeartbeats 4000000 in
theorem c_X6_prove {l : Launch} {D : va_G} {a : Nat → Nat} {cA : Nat → ClassId} {t : Nat} {F : (Nat → Prop) → State → Prop} (hF : EOK F) {σ : St} {N : Nat} {r : Int32} {σ' : St} (h : X6_prove N σ = some (r, σ')) : MetI l yX6_prove cX6_prove 1 (some .int) 6 D (tyW cA) (wS a cA) (ES t F) [.ref (a 0)] σ r σ' := by
  refine mkI (by decide) (adrS a cA) (Or.inl rfl) (Nat.le_of_ble_eq_true rfl) ?_
  intro p e R s m args below meth c A Q ls X hR hp hl
  obtain ⟨hx, hb, -, hown, hts, -⟩ := id X
  unfold X6_prove at h
  have hl := lv_sub (l' := [(0, .ref (a 0))]) hl [0] rfl
  refine lv_aload_n hx hb dX6_prove_0 rfl (lv_at hl 0 rfl) ?_
  refine gS_X6_frameProof X hp tw_2_4 dX6_prove_1 ?_
  obtain ⟨t1, ht1, h⟩ := bd_s h
  refine cl_Vv X (eokS hF) (c_X4_carryOut hF ht1) tw_34_20 mw_X4_carryOut (by decide) hp 4 rfl rfl rfl hl.1 rfl (Nat.le_of_ble_eq_true rfl) dX6_prove_4 (fun H locs hp => ?_)
  refine lv_aload_n hx hb dX6_prove_7 rfl (lv_at hl 0 rfl) ?_
  refine gS_X6_frameProof X hp tw_2_4 dX6_prove_8 ?_
  refine gS_X4_verdict X hp tw_34_19 dX6_prove_11 ?_
  exact hR _ _ _ _ _ _ dX6_prove_14 hp (congrArg Prod.fst (Option.some.inj h)) (congrArg Prod.snd (Option.some.inj h)) (fun q => by cases q)
def X1_countAbove_4b (k4 : (Int32 → Int32 → Option (Int32))) (k38 : (Int32 → Option (Int32))) (σ : St) (v1 : Int32) (v2 : Int32) (v3 : Int32) : Option (Int32) :=
  if (σ.1 23) ≤ v3 then
    k38 v2
  else
    if (729 : Int32) ≤ v3 then
      k38 v2
    else
      gd (inb v3 729) (
      if (σ.2.2.1 11 v3.toNatClampNeg) ≤ v1 then
        nm (v3 + (1 : Int32)) (fun (x5 : Int32) =>
        k4 v2 x5)
      else
        nm (v2 + (1 : Int32)) (fun (x6 : Int32) =>
        nm (v3 + (1 : Int32)) (fun (x7 : Int32) =>
        k4 x6 x7)))
def X1_countAbove_4 (k38 : (Int32 → Option (Int32))) (σ : St) (v1 : Int32) : Nat → Int32 → Int32 → Option (Int32)
  | 0, _, _ => none
  | n + 1, v2, v3 => X1_countAbove_4b (fun v2 v3 => X1_countAbove_4 k38 σ v1 n v2 v3) k38 σ v1 v2 v3
def X1_countAbove_38 (σ : St) (v2 : Int32) : Option (Int32) :=
  some v2
def X1_countAbove (N : Nat) (σ : St) (v1 : Int32) : Option (Int32) :=
  X1_countAbove_4 (fun v2 => X1_countAbove_38 σ v2) σ v1 N (0 : Int32) (0 : Int32)
set_option maxRecDepth 20000 in
set_option maxHeartbeats 4000000 in
theorem c_X1_countAbove {l : Launch} {D : va_G} {a : Nat → Nat} {cA : Nat → ClassId} {t : Nat} {F : (Nat → Prop) → State → Prop} (hF : EOK F) {σ : St} {N : Nat} {v1 : Int32} {r : Int32} (h : X1_countAbove N σ v1 = some r) : MetI l yX1_countAbove cX1_countAbove 4 (some .int) 0 D (tyW cA) (wS a cA) (ES t F) [.ref (a 6), .int v1] σ r σ := by
  refine mkI (by decide) (adrS a cA) (Or.inl rfl) (Nat.le_of_ble_eq_true rfl) ?_
  intro p e R s m args below meth c A Q ls X hR hp hl
  obtain ⟨hx, hb, -, hown, hts, -⟩ := id X
  have J_4 : ∀ (v1 : Int32) (k38 : (Int32 → Option (Int32))) (hk38 : ∀ (v2 : Int32) (H : Heap) (locs : List Loc) (ls : Array Slot), Pw D (wS a cA) A s.heap H locs σ → lv_has ls 4 [(0, .ref (a 6)), (2, .int v2)] → k38 v2 = some r → W p l e R s m args below meth c H locs 0 0 Q (F0 m 38 ls [])) (n : Nat) (v2 : Int32) (v3 : Int32) (H : Heap) (locs : List Loc) (ls : Array Slot), Pw D (wS a cA) A s.heap H locs σ → lv_has ls 4 [(0, .ref (a 6)), (1, .int v1), (2, .int v2), (3, .int v3)] → X1_countAbove_4 k38 σ v1 n v2 v3 = some r → W p l e R s m args below meth c H locs 0 0 Q (F0 m 4 ls []) := by
    intro v1 k38 hk38 n
    induction n with
    | zero => intro v2 v3 H locs ls hp hl h; exact nn_s (show (none : Option (Int32)) = some _ from h)
    | succ n ih =>
      intro v2 v3 H locs ls hp hl h
      have h : X1_countAbove_4b (fun v2 v3 => X1_countAbove_4 k38 σ v1 n v2 v3) k38 σ v1 v2 v3 = some r := h
      unfold X1_countAbove_4b at h
      have hk4 := ih
      refine lv_iload_n hx hb dX1_countAbove_4 rfl (lv_at hl 3 rfl) ?_
      refine lv_aload_n hx hb dX1_countAbove_5 rfl (lv_at hl 0 rfl) ?_
      refine gS_X1_count X hp tw_38_5 dX1_countAbove_6 ?_
      refine lv_icmp_ge (tgt := 38) hx hb dX1_countAbove_9 (by decide) (fun c1 => ?_) (fun c1 => ?_)
      · have h := it_p h c1
        exact hk38 v2 _ _ _ hp (lv_sub hl [0, 2] rfl) h
      · have h := it_n h c1
        refine lv_iload_n hx hb dX1_countAbove_12 rfl (lv_at hl 3 rfl) ?_
        refine lv_sipush (v := 729) hx hb dX1_countAbove_13 (by decide) ?_
        refine lv_icmp_ge (tgt := 38) hx hb dX1_countAbove_16 (by decide) (fun c2 => ?_) (fun c2 => ?_)
        · have h := it_p h c2
          exact hk38 v2 _ _ _ hp (lv_sub hl [0, 2] rfl) h
        · have h := it_n h c2
          refine lv_aload_n hx hb dX1_countAbove_19 rfl (lv_at hl 0 rfl) ?_
          refine gS_X1_levels X hp tw_5_3 dX1_countAbove_20 ?_
          refine lv_iload_n hx hb dX1_countAbove_23 rfl (lv_at hl 3 rfl) ?_
          obtain ⟨g3, h⟩ := gd_s h
          refine lS_X1_levels X hp g3 dX1_countAbove_24 ?_
          refine lv_iload_n hx hb dX1_countAbove_25 rfl (lv_at hl 1 rfl) ?_
          refine lv_icmp_le (tgt := 32) hx hb dX1_countAbove_26 (by decide) (fun c4 => ?_) (fun c4 => ?_)
          · have h := it_p h c4
            obtain ⟨x5, ex5⟩ : ∃ z : Int32, z = v3 + (1 : Int32) := ⟨_, rfl⟩
            have h := nm_s h x5 ex5
            refine lv_iinc (v := x5) (lv' := [(3, .int x5), (0, .ref (a 6)), (1, .int v1), (2, .int v2)]) hx hb dX1_countAbove_32 hl (k := 3) rfl (by rw [ex5]; rfl) (by decide) rfl (fun ls hl => ?_)
            refine lv_goto (tgt := 4) hx hb dX1_countAbove_35 (by decide) ?_
            exact hk4 v2 x5 _ _ _ hp (lv_sub hl [1, 2, 3, 0] rfl) h
          · have h := it_n h c4
            obtain ⟨x6, ex6⟩ : ∃ z : Int32, z = v2 + (1 : Int32) := ⟨_, rfl⟩
            have h := nm_s h x6 ex6
            refine lv_iinc (v := x6) (lv' := [(2, .int x6), (0, .ref (a 6)), (1, .int v1), (3, .int v3)]) hx hb dX1_countAbove_29 hl (k := 2) rfl (by rw [ex6]; rfl) (by decide) rfl (fun ls hl => ?_)
            obtain ⟨x7, ex7⟩ : ∃ z : Int32, z = v3 + (1 : Int32) := ⟨_, rfl⟩
            have h := nm_s h x7 ex7
            refine lv_iinc (v := x7) (lv' := [(3, .int x7), (2, .int x6), (0, .ref (a 6)), (1, .int v1)]) hx hb dX1_countAbove_32 hl (k := 3) rfl (by rw [ex7]; rfl) (by decide) rfl (fun ls hl => ?_)
            refine lv_goto (tgt := 4) hx hb dX1_countAbove_35 (by decide) ?_
            exact hk4 x6 x7 _ _ _ hp (lv_sub hl [2, 3, 1, 0] rfl) h
  have J_38 : ∀ (v2 : Int32) (H : Heap) (locs : List Loc) (ls : Array Slot), Pw D (wS a cA) A s.heap H locs σ → lv_has ls 4 [(0, .ref (a 6)), (2, .int v2)] → X1_countAbove_38 σ v2 = some r → W p l e R s m args below meth c H locs 0 0 Q (F0 m 38 ls []) := by
    intro v2 H locs ls hp hl h
    unfold X1_countAbove_38 at h
    refine lv_iload_n hx hb dX1_countAbove_38 rfl (lv_at hl 1 rfl) ?_
    exact hR _ _ _ _ _ _ dX1_countAbove_39 hp (Option.some.inj h) rfl (fun q => by cases q)
  unfold X1_countAbove at h
  have hl := lv_sub (l' := [(0, .ref (a 6)), (1, .int v1)]) hl [0, 1] rfl
  refine lv_iconst (v := 0) hx hb dX1_countAbove_0 (by decide) ?_
  refine lv_istore_n (lv' := [(2, .int (0 : Int32)), (0, .ref (a 6)), (1, .int v1)]) hx hb dX1_countAbove_1 rfl hl (by decide) rfl (fun ls hl => ?_)
  refine lv_iconst (v := 0) hx hb dX1_countAbove_2 (by decide) ?_
  refine lv_istore_n (lv' := [(3, .int (0 : Int32)), (2, .int (0 : Int32)), (0, .ref (a 6)), (1, .int v1)]) hx hb dX1_countAbove_3 rfl hl (by decide) rfl (fun ls hl => ?_)
  exact J_4 v1 _ (fun v2 H locs ls hp hl h => J_38 v2 _ _ _ hp hl h) _ (0 : Int32) (0 : Int32) _ _ _ hp (lv_sub hl [2, 3, 1, 0] rfl) h
def X4_number (N : Nat) (σ : St) (v1 : Int32) : Option (Int32) :=
  if v1 = (0 : Int32) then
    some (σ.1 15)
  else if v1 = (1 : Int32) then
    some (σ.1 16)
  else if v1 = (2 : Int32) then
    some (σ.1 23)
  else if v1 = (3 : Int32) then
    some (σ.1 17)
  else if v1 = (4 : Int32) then
    some (σ.1 18)
  else if v1 = (5 : Int32) then
    some (σ.1 19)
  else if v1 = (6 : Int32) then
    some (σ.1 20)
  else 
    if (σ.1 15) = 0 then
      bd (X1_countAbove N σ (σ.1 21)) (fun t2 =>
      some t2)
    else
      some (0 : Int32)
set_option maxRecDepth 20000 in
set_option maxHeartbeats 4000000 in
theorem c_X4_number {l : Launch} {D : va_G} {a : Nat → Nat} {cA : Nat → ClassId} {t : Nat} {F : (Nat → Prop) → State → Prop} (hF : EOK F) {σ : St} {N : Nat} {v1 : Int32} {r : Int32} (h : X4_number N σ v1 = some r) : MetI l yX4_number cX4_number 2 (some .int) 1 D (tyW cA) (wS a cA) (ES t F) [.ref (a 4), .int v1] σ r σ := by
  refine mkI (by decide) (adrS a cA) (Or.inl rfl) (Nat.le_of_ble_eq_true rfl) ?_
  intro p e R s m args below meth c A Q ls X hR hp hl
  obtain ⟨hx, hb, -, hown, hts, -⟩ := id X
  unfold X4_number at h
  have hl := lv_sub (l' := [(0, .ref (a 4)), (1, .int v1)]) hl [0, 1] rfl
  refine lv_iload_n hx hb dX4_number_0 rfl (lv_at hl 1 rfl) ?_
  by_cases cs3 : v1 = (0 : Int32)
  · have h := it_p h cs3
    refine tsI (tgt := 44) (off := 43) (k := (0 : Int32)) hx hb dX4_number_1 cs3 (by decide) (by decide) (by decide) (by decide) ?_
    refine lv_aload_n hx hb dX4_number_44 rfl (lv_at hl 0 rfl) ?_
    refine gS_X4_verdict X hp tw_35_1 dX4_number_45 ?_
    exact hR _ _ _ _ _ _ dX4_number_48 hp (Option.some.inj h) rfl (fun q => by cases q)
  have h := it_n h cs3
  by_cases cs4 : v1 = (1 : Int32)
  · have h := it_p h cs4
    refine tsI (tgt := 49) (off := 48) (k := (1 : Int32)) hx hb dX4_number_1 cs4 (by decide) (by decide) (by decide) (by decide) ?_
    refine lv_aload_n hx hb dX4_number_49 rfl (lv_at hl 0 rfl) ?_
    refine gS_X4_top X hp tw_35_7 dX4_number_50 ?_
    exact hR _ _ _ _ _ _ dX4_number_53 hp (Option.some.inj h) rfl (fun q => by cases q)
  have h := it_n h cs4
  by_cases cs5 : v1 = (2 : Int32)
  · have h := it_p h cs5
    refine tsI (tgt := 54) (off := 53) (k := (2 : Int32)) hx hb dX4_number_1 cs5 (by decide) (by decide) (by decide) (by decide) ?_
    refine lv_aload_n hx hb dX4_number_54 rfl (lv_at hl 0 rfl) ?_
    refine gS_X4_cubes X hp tw_4_16 dX4_number_55 ?_
    refine gS_X1_count X hp tw_35_6 dX4_number_58 ?_
    exact hR _ _ _ _ _ _ dX4_number_61 hp (Option.some.inj h) rfl (fun q => by cases q)
  have h := it_n h cs5
  by_cases cs6 : v1 = (3 : Int32)
  · have h := it_p h cs6
    refine tsI (tgt := 62) (off := 61) (k := (3 : Int32)) hx hb dX4_number_1 cs6 (by decide) (by decide) (by decide) (by decide) ?_
    refine lv_aload_n hx hb dX4_number_62 rfl (lv_at hl 0 rfl) ?_
    refine gS_X4_handled X hp tw_35_8 dX4_number_63 ?_
    exact hR _ _ _ _ _ _ dX4_number_66 hp (Option.some.inj h) rfl (fun q => by cases q)
  have h := it_n h cs6
  by_cases cs7 : v1 = (4 : Int32)
  · have h := it_p h cs7
    refine tsI (tgt := 67) (off := 66) (k := (4 : Int32)) hx hb dX4_number_1 cs7 (by decide) (by decide) (by decide) (by decide) ?_
    refine lv_aload_n hx hb dX4_number_67 rfl (lv_at hl 0 rfl) ?_
    refine gS_X4_added X hp tw_35_9 dX4_number_68 ?_
    exact hR _ _ _ _ _ _ dX4_number_71 hp (Option.some.inj h) rfl (fun q => by cases q)
  have h := it_n h cs7
  by_cases cs8 : v1 = (5 : Int32)
  · have h := it_p h cs8
    refine tsI (tgt := 72) (off := 71) (k := (5 : Int32)) hx hb dX4_number_1 cs8 (by decide) (by decide) (by decide) (by decide) ?_
    refine lv_aload_n hx hb dX4_number_72 rfl (lv_at hl 0 rfl) ?_
    refine gS_X4_leftOut X hp tw_35_10 dX4_number_73 ?_
    exact hR _ _ _ _ _ _ dX4_number_76 hp (Option.some.inj h) rfl (fun q => by cases q)
  have h := it_n h cs8
  by_cases cs9 : v1 = (6 : Int32)
  · have h := it_p h cs9
    refine tsI (tgt := 77) (off := 76) (k := (6 : Int32)) hx hb dX4_number_1 cs9 (by decide) (by decide) (by decide) (by decide) ?_
    refine lv_aload_n hx hb dX4_number_77 rfl (lv_at hl 0 rfl) ?_
    refine gS_X4_raised X hp tw_35_11 dX4_number_78 ?_
    exact hR _ _ _ _ _ _ dX4_number_81 hp (Option.some.inj h) rfl (fun q => by cases q)
  have h := it_n h cs9
  have ncs3 : ¬ (v1).toInt = 0 := lv_neT cs3 (by decide)
  have ncs4 : ¬ (v1).toInt = 1 := lv_neT cs4 (by decide)
  have ncs5 : ¬ (v1).toInt = 2 := lv_neT cs5 (by decide)
  have ncs6 : ¬ (v1).toInt = 3 := lv_neT cs6 (by decide)
  have ncs7 : ¬ (v1).toInt = 4 := lv_neT cs7 (by decide)
  have ncs8 : ¬ (v1).toInt = 5 := lv_neT cs8 (by decide)
  have ncs9 : ¬ (v1).toInt = 6 := lv_neT cs9 (by decide)
  refine lv_tableOut (tgt := 82) hx hb dX4_number_1 (by omega) (by decide) ?_
  refine lv_aload_n hx hb dX4_number_82 rfl (lv_at hl 0 rfl) ?_
  refine gS_X4_verdict X hp tw_35_1 dX4_number_83 ?_
  refine lv_if_ne (tgt := 103) hx hb dX4_number_86 (by decide) (fun c1 => ?_) (fun c1 => ?_)
  · have h := it_n h c1
    refine lv_iconst (v := 0) hx hb dX4_number_103 (by decide) ?_
    exact hR _ _ _ _ _ _ dX4_number_104 hp (Option.some.inj h) rfl (fun q => by cases q)
  · have h := it_p h c1
    refine lv_aload_n hx hb dX4_number_89 rfl (lv_at hl 0 rfl) ?_
    refine gS_X4_cubes X hp tw_4_16 dX4_number_90 ?_
    refine lv_aload_n hx hb dX4_number_93 rfl (lv_at hl 0 rfl) ?_
    refine gS_X4_certificateBase X hp tw_35_12 dX4_number_94 ?_
    obtain ⟨t2, ht2, h⟩ := bd_s h
    refine cl_Vi X (eokS hF) (c_X1_countAbove hF ht2) tw_42_14 mw_X1_countAbove (by decide) hp 6 rfl rfl rfl hl.1 rfl (Nat.le_of_ble_eq_true rfl) dX4_number_97 (fun H locs hp => ?_)
    refine lv_goto (tgt := 104) hx hb dX4_number_100 (by decide) ?_
    exact hR _ _ _ _ _ _ dX4_number_104 hp (Option.some.inj h) rfl (fun q => by cases q)
def X6_proof_10 (σ : St) : Option (Int32) :=
  none
def X6_proof (N : Nat) (σ : St) (v1 : Int32) : Option (Int32) :=
  if v1 < 0 then
    X6_proof_10 σ
  else
    if v1 < (8 : Int32) then
      if (σ.1 14) = 0 then
        some (-1 : Int32)
      else
        bd (X4_number N σ v1) (fun t4 =>
        some t4)
    else
      X6_proof_10 σ
set_option maxRecDepth 20000 in
set_option maxHeartbeats 4000000 in
theorem c_X6_proof {l : Launch} {D : va_G} {a : Nat → Nat} {cA : Nat → ClassId} {t : Nat} {F : (Nat → Prop) → State → Prop} (hF : EOK F) {σ : St} {N : Nat} {v1 : Int32} {r : Int32} (h : X6_proof N σ v1 = some r) : MetI l yX6_proof cX6_proof 2 (some .int) 2 D (tyW cA) (wS a cA) (ES t F) [.ref (a 0), .int v1] σ r σ := by
  refine mkI (by decide) (adrS a cA) (Or.inl rfl) (Nat.le_of_ble_eq_true rfl) ?_
  intro p e R s m args below meth c A Q ls X hR hp hl
  obtain ⟨hx, hb, -, hown, hts, -⟩ := id X
  have J_10 : ∀  (H : Heap) (locs : List Loc) (ls : Array Slot), Pw D (wS a cA) A s.heap H locs σ → lv_has ls 2 [(0, .ref (a 0))] → X6_proof_10 σ = some r → W p l e R s m args below meth c H locs 0 0 Q (F0 m 10 ls []) := by
    intro H locs ls hp hl h
    unfold X6_proof_10 at h
    exact nn_s h
  unfold X6_proof at h
  have hl := lv_sub (l' := [(0, .ref (a 0)), (1, .int v1)]) hl [0, 1] rfl
  refine lv_iload_n hx hb dX6_proof_0 rfl (lv_at hl 1 rfl) ?_
  refine lv_if_lt (tgt := 10) hx hb dX6_proof_1 (by decide) (fun c1 => ?_) (fun c1 => ?_)
  · have h := it_p h c1
    exact J_10 _ _ _ hp (lv_sub hl [0] rfl) h
  · have h := it_n h c1
    refine lv_iload_n hx hb dX6_proof_4 rfl (lv_at hl 1 rfl) ?_
    refine lv_bipush (v := 8) hx hb dX6_proof_5 (by decide) ?_
    refine lv_icmp_lt (tgt := 20) hx hb dX6_proof_7 (by decide) (fun c2 => ?_) (fun c2 => ?_)
    · have h := it_p h c2
      refine lv_aload_n hx hb dX6_proof_20 rfl (lv_at hl 0 rfl) ?_
      refine gS_X6_frameProof X hp tw_2_4 dX6_proof_21 ?_
      refine gS_X4_exists X hp tw_8_4 dX6_proof_24 ?_
      refine lv_if_eq (tgt := 41) hx hb dX6_proof_27 (by decide) (fun c3 => ?_) (fun c3 => ?_)
      · have h := it_p h c3
        refine lv_iconst (v := -1) hx hb dX6_proof_41 (by decide) ?_
        exact hR _ _ _ _ _ _ dX6_proof_42 hp (Option.some.inj h) rfl (fun q => by cases q)
      · have h := it_n h c3
        refine lv_aload_n hx hb dX6_proof_30 rfl (lv_at hl 0 rfl) ?_
        refine gS_X6_frameProof X hp tw_2_4 dX6_proof_31 ?_
        refine lv_iload_n hx hb dX6_proof_34 rfl (lv_at hl 1 rfl) ?_
        obtain ⟨t4, ht4, h⟩ := bd_s h
        refine cl_Vi X (eokS hF) (c_X4_number hF ht4) tw_42_10 mw_X4_number (by decide) hp 4 rfl rfl rfl hl.1 rfl (Nat.le_of_ble_eq_true rfl) dX6_proof_35 (fun H locs hp => ?_)
        refine lv_goto (tgt := 42) hx hb dX6_proof_38 (by decide) ?_
        exact hR _ _ _ _ _ _ dX6_proof_42 hp (Option.some.inj h) rfl (fun q => by cases q)
    · have h := it_n h c2
      exact J_10 _ _ _ hp (lv_sub hl [0] rfl) h
