/- X2_findClasses X2_refresh X2_depthOf X2_distanceOf X6_state X2_classCount X6_system X2_leastNearer X2_stateOfShortestRun -/
def X2_findClasses_65 (k24 : (Int32 → St → Option (St))) (v1 : Int32) (v2 : Int32) (v3 : Int32) (u0 : Int32) (u1 : Int32) (σ : St) : Option (St) :=
  gd (inb u1 64) (
  nm (sa σ 6 u1.toNatClampNeg u0) (fun (σ2 : St) =>
  nm (v3 + (1 : Int32)) (fun (x3 : Int32) =>
  k24 x3 σ2)))
def X2_findClasses_24b (k24 : (Int32 → St → Option (St))) (k72 : (St → Option (St))) (v1 : Int32) (v2 : Int32) (v3 : Int32) (σ : St) : Option (St) :=
  if (σ.1 7) ≤ v3 then
    k72 σ
  else
    if (64 : Int32) ≤ v3 then
      k72 σ
    else
      bd (X0_good σ) (fun t3 =>
      bd (X6_contains t3 v3) (fun t4 =>
      if t4 = 0 then
        X2_findClasses_65 k24 v1 v2 v3 v2 v3 σ
      else
        X2_findClasses_65 k24 v1 v2 v3 v1 v3 σ))
def X2_findClasses_24 (k72 : (St → Option (St))) (v1 : Int32) (v2 : Int32) : Nat → Int32 → St → Option (St)
  | 0, _, _ => none
  | n + 1, v3, σ => X2_findClasses_24b (fun v3 σ => X2_findClasses_24 k72 v1 v2 n v3 σ) k72 v1 v2 v3 σ
def X2_findClasses_77b (N : Nat) (k77 : (Int32 → Int32 → St → Option (St))) (k99 : (St → Option (St))) (v3 : Int32) (v4 : Int32) (σ : St) : Option (St) :=
  if (64 : Int32) < v4 then
    k99 σ
  else
    if v3 = 0 then
      k99 σ
    else
      bd (X2_refineClasses N σ) (fun t3 =>
      nm (v4 + (1 : Int32)) (fun (x4 : Int32) =>
      k77 t3.1 x4 t3.2))
def X2_findClasses_77 (N : Nat) (k99 : (St → Option (St))) : Nat → Int32 → Int32 → St → Option (St)
  | 0, _, _, _ => none
  | n + 1, v3, v4, σ => X2_findClasses_77b N (fun v3 v4 σ => X2_findClasses_77 N k99 n v3 v4 σ) k99 v3 v4 σ
def X2_findClasses_99 (σ : St) : Option (St) :=
  some σ
def X2_findClasses_72 (N : Nat) (σ : St) : Option (St) :=
  X2_findClasses_77 N (fun σ => X2_findClasses_99 σ) N (1 : Int32) (0 : Int32) σ
def X2_findClasses (N : Nat) (σ : St) : Option (St) :=
  bd (X0_good σ) (fun t1 =>
  bd (X6_leastOf t1) (fun t2 =>
  bd (X0_bad σ) (fun t3 =>
  bd (X6_leastOf t3) (fun t4 =>
  X2_findClasses_24 (fun σ => X2_findClasses_72 N σ) t2 t4 N (0 : Int32) σ))))
set_option maxRecDepth 20000 in
set_option maxHeartbeats 4000000 in
theorem c_X2_findClasses {l : Launch} {D : va_G} {a : Nat → Nat} {cA : Nat → ClassId} {t : Nat} {F : (Nat → Prop) → State → Prop} (hF : EOK F) {σ : St} {N : Nat} {σ' : St} (h : X2_findClasses N σ = some σ') : MetV l yX2_findClasses cX2_findClasses 5 none 3 D (tyW cA) (wS a cA) (ES t F) [.ref (a 3)] σ σ' := by
  refine mkV (by decide) (adrS a cA) rfl (Nat.le_of_ble_eq_true rfl) ?_
  intro p e R s m args below meth c A Q ls X hR hp hl
  obtain ⟨hx, hb, -, hown, hts, -⟩ := id X
  have J_65 : ∀ (v1 : Int32) (v2 : Int32) (v3 : Int32) (u0 : Int32) (u1 : Int32) (k24 : (Int32 → St → Option (St))) (hk24 : ∀ (v3 : Int32) (σ : St) (H : Heap) (locs : List Loc) (ls : Array Slot), Pw D (wS a cA) A s.heap H locs σ → lv_has ls 5 [(0, .ref (a 3)), (1, .int v1), (2, .int v2), (3, .int v3)] → k24 v3 σ = some σ' → W p l e R s m args below meth c H locs 0 0 Q (F0 m 24 ls [])) (σ : St) (H : Heap) (locs : List Loc) (ls : Array Slot), Pw D (wS a cA) A s.heap H locs σ → lv_has ls 5 [(0, .ref (a 3)), (1, .int v1), (2, .int v2), (3, .int v3)] → X2_findClasses_65 k24 v1 v2 v3 u0 u1 σ = some σ' → W p l e R s m args below meth c H locs 0 0 Q (F0 m 65 ls [.int u0, .int u1, .ref (a 18)]) := by
    intro v1 v2 v3 u0 u1 k24 hk24 σ H locs ls hp hl h
    unfold X2_findClasses_65 at h
    obtain ⟨g1, h⟩ := gd_s h
    refine sS_X2_classes X hp g1 dX2_findClasses_65 (fun H locs σ2 eσ2 hp => ?_)
    have h := nm_s h σ2 eσ2
    obtain ⟨x3, ex3⟩ : ∃ z : Int32, z = v3 + (1 : Int32) := ⟨_, rfl⟩
    have h := nm_s h x3 ex3
    refine lv_iinc (v := x3) (lv' := [(3, .int x3), (0, .ref (a 3)), (1, .int v1), (2, .int v2)]) hx hb dX2_findClasses_66 hl (k := 3) rfl (by rw [ex3]; rfl) (by decide) rfl (fun ls hl => ?_)
    refine lv_goto (tgt := 24) hx hb dX2_findClasses_69 (by decide) ?_
    exact hk24 x3 σ2 _ _ _ hp (lv_sub hl [1, 2, 3, 0] rfl) h
  have J_24 : ∀ (v1 : Int32) (v2 : Int32) (k72 : (St → Option (St))) (hk72 : ∀ (σ : St) (H : Heap) (locs : List Loc) (ls : Array Slot), Pw D (wS a cA) A s.heap H locs σ → lv_has ls 5 [(0, .ref (a 3))] → k72 σ = some σ' → W p l e R s m args below meth c H locs 0 0 Q (F0 m 72 ls [])) (n : Nat) (v3 : Int32) (σ : St) (H : Heap) (locs : List Loc) (ls : Array Slot), Pw D (wS a cA) A s.heap H locs σ → lv_has ls 5 [(0, .ref (a 3)), (1, .int v1), (2, .int v2), (3, .int v3)] → X2_findClasses_24 k72 v1 v2 n v3 σ = some σ' → W p l e R s m args below meth c H locs 0 0 Q (F0 m 24 ls []) := by
    intro v1 v2 k72 hk72 n
    induction n with
    | zero => intro v3 σ H locs ls hp hl h; exact nn_s (show (none : Option (St)) = some _ from h)
    | succ n ih =>
      intro v3 σ H locs ls hp hl h
      have h : X2_findClasses_24b (fun v3 σ => X2_findClasses_24 k72 v1 v2 n v3 σ) k72 v1 v2 v3 σ = some σ' := h
      unfold X2_findClasses_24b at h
      have hk24 := ih
      refine lv_iload_n hx hb dX2_findClasses_24 rfl (lv_at hl 3 rfl) ?_
      refine lv_aload_n hx hb dX2_findClasses_25 rfl (lv_at hl 0 rfl) ?_
      refine gS_X2_circuit X hp tw_4_0 dX2_findClasses_26 ?_
      refine gS_X0_states X hp tw_22_19 dX2_findClasses_29 ?_
      refine lv_icmp_ge (tgt := 72) hx hb dX2_findClasses_32 (by decide) (fun c1 => ?_) (fun c1 => ?_)
      · have h := it_p h c1
        exact hk72 σ _ _ _ hp (lv_sub hl [0] rfl) h
      · have h := it_n h c1
        refine lv_iload_n hx hb dX2_findClasses_35 rfl (lv_at hl 3 rfl) ?_
        refine lv_bipush (v := 64) hx hb dX2_findClasses_36 (by decide) ?_
        refine lv_icmp_ge (tgt := 72) hx hb dX2_findClasses_38 (by decide) (fun c2 => ?_) (fun c2 => ?_)
        · have h := it_p h c2
          exact hk72 σ _ _ _ hp (lv_sub hl [0] rfl) h
        · have h := it_n h c2
          refine lv_aload_n hx hb dX2_findClasses_41 rfl (lv_at hl 0 rfl) ?_
          refine gS_X2_classes X hp tw_4_6 dX2_findClasses_42 ?_
          refine lv_iload_n hx hb dX2_findClasses_45 rfl (lv_at hl 3 rfl) ?_
          refine lv_aload_n hx hb dX2_findClasses_46 rfl (lv_at hl 0 rfl) ?_
          refine gS_X2_circuit X hp tw_4_0 dX2_findClasses_47 ?_
          obtain ⟨t3, ht3, h⟩ := bd_s h
          refine cl_Vl X (eokS hF) (c_X0_good hF ht3) tw_24_23 mw_X0_good (by decide) hp 2 rfl rfl rfl hl.1 rfl (Nat.le_of_ble_eq_true rfl) dX2_findClasses_50 (fun H locs hp => ?_)
          refine lv_iload_n hx hb dX2_findClasses_53 rfl (lv_at hl 3 rfl) ?_
          obtain ⟨t4, ht4, h⟩ := bd_s h
          refine cl_Ni X (eokS hF) (c_X6_contains (adrS a cA) (eokS hF) ht4) (nwS X (List.mem_of_getElem? (i := 6) rfl)) mw_X6_contains (by decide) hp hl.1 rfl (Nat.le_of_ble_eq_true rfl) dX2_findClasses_54 (fun H locs hp => ?_)
          refine lv_if_eq (tgt := 64) hx hb dX2_findClasses_57 (by decide) (fun c5 => ?_) (fun c5 => ?_)
          · have h := it_p h c5
            refine lv_iload_n hx hb dX2_findClasses_64 rfl (lv_at hl 2 rfl) ?_
            exact J_65 v1 v2 v3 v2 v3 _ hk24 σ _ _ _ hp (lv_sub hl [0, 1, 2, 3] rfl) h
          · have h := it_n h c5
            refine lv_iload_n hx hb dX2_findClasses_60 rfl (lv_at hl 1 rfl) ?_
            refine lv_goto (tgt := 65) hx hb dX2_findClasses_61 (by decide) ?_
            exact J_65 v1 v2 v3 v1 v3 _ hk24 σ _ _ _ hp (lv_sub hl [0, 1, 2, 3] rfl) h
  have J_77 : ∀  (k99 : (St → Option (St))) (hk99 : ∀ (σ : St) (H : Heap) (locs : List Loc) (ls : Array Slot), Pw D (wS a cA) A s.heap H locs σ → lv_has ls 5 [(0, .ref (a 3))] → k99 σ = some σ' → W p l e R s m args below meth c H locs 0 0 Q (F0 m 99 ls [])) (n : Nat) (v3 : Int32) (v4 : Int32) (σ : St) (H : Heap) (locs : List Loc) (ls : Array Slot), Pw D (wS a cA) A s.heap H locs σ → lv_has ls 5 [(0, .ref (a 3)), (3, .int v3), (4, .int v4)] → X2_findClasses_77 N k99 n v3 v4 σ = some σ' → W p l e R s m args below meth c H locs 0 0 Q (F0 m 77 ls []) := by
    intro k99 hk99 n
    induction n with
    | zero => intro v3 v4 σ H locs ls hp hl h; exact nn_s (show (none : Option (St)) = some _ from h)
    | succ n ih =>
      intro v3 v4 σ H locs ls hp hl h
      have h : X2_findClasses_77b N (fun v3 v4 σ => X2_findClasses_77 N k99 n v3 v4 σ) k99 v3 v4 σ = some σ' := h
      unfold X2_findClasses_77b at h
      have hk77 := ih
      refine lv_iload hx hb dX2_findClasses_77 (lv_at hl 2 rfl) ?_
      refine lv_bipush (v := 64) hx hb dX2_findClasses_79 (by decide) ?_
      refine lv_icmp_gt (tgt := 99) hx hb dX2_findClasses_81 (by decide) (fun c1 => ?_) (fun c1 => ?_)
      · have h := it_p h c1
        exact hk99 σ _ _ _ hp (lv_sub hl [0] rfl) h
      · have h := it_n h c1
        refine lv_iload_n hx hb dX2_findClasses_84 rfl (lv_at hl 1 rfl) ?_
        refine lv_if_eq (tgt := 99) hx hb dX2_findClasses_85 (by decide) (fun c2 => ?_) (fun c2 => ?_)
        · have h := it_p h c2
          exact hk99 σ _ _ _ hp (lv_sub hl [0] rfl) h
        · have h := it_n h c2
          refine lv_aload_n hx hb dX2_findClasses_88 rfl (lv_at hl 0 rfl) ?_
          obtain ⟨t3, ht3, h⟩ := bd_s h
          refine cl_Vi X (eokS hF) (c_X2_refineClasses hF ht3) tw_25_0 mw_X2_refineClasses (by decide) hp 3 rfl rfl rfl hl.1 rfl (Nat.le_of_ble_eq_true rfl) dX2_findClasses_89 (fun H locs hp => ?_)
          refine lv_istore_n (lv' := [(3, .int t3.1), (0, .ref (a 3)), (4, .int v4)]) hx hb dX2_findClasses_92 rfl hl (by decide) rfl (fun ls hl => ?_)
          obtain ⟨x4, ex4⟩ : ∃ z : Int32, z = v4 + (1 : Int32) := ⟨_, rfl⟩
          have h := nm_s h x4 ex4
          refine lv_iinc (v := x4) (lv' := [(4, .int x4), (3, .int t3.1), (0, .ref (a 3))]) hx hb dX2_findClasses_93 hl (k := 2) rfl (by rw [ex4]; rfl) (by decide) rfl (fun ls hl => ?_)
          refine lv_goto (tgt := 77) hx hb dX2_findClasses_96 (by decide) ?_
          exact hk77 t3.1 x4 t3.2 _ _ _ hp (lv_sub hl [2, 1, 0] rfl) h
  have J_99 : ∀  (σ : St) (H : Heap) (locs : List Loc) (ls : Array Slot), Pw D (wS a cA) A s.heap H locs σ → lv_has ls 5 [(0, .ref (a 3))] → X2_findClasses_99 σ = some σ' → W p l e R s m args below meth c H locs 0 0 Q (F0 m 99 ls []) := by
    intro σ H locs ls hp hl h
    unfold X2_findClasses_99 at h
    exact hR _ _ _ _ _ dX2_findClasses_99 hp (Option.some.inj h)
  have J_72 : ∀  (σ : St) (H : Heap) (locs : List Loc) (ls : Array Slot), Pw D (wS a cA) A s.heap H locs σ → lv_has ls 5 [(0, .ref (a 3))] → X2_findClasses_72 N σ = some σ' → W p l e R s m args below meth c H locs 0 0 Q (F0 m 72 ls []) := by
    intro σ H locs ls hp hl h
    unfold X2_findClasses_72 at h
    refine lv_iconst (v := 1) hx hb dX2_findClasses_72 (by decide) ?_
    refine lv_istore_n (lv' := [(3, .int (1 : Int32)), (0, .ref (a 3))]) hx hb dX2_findClasses_73 rfl hl (by decide) rfl (fun ls hl => ?_)
    refine lv_iconst (v := 0) hx hb dX2_findClasses_74 (by decide) ?_
    refine lv_istore (lv' := [(4, .int (0 : Int32)), (3, .int (1 : Int32)), (0, .ref (a 3))]) hx hb dX2_findClasses_75 hl (by decide) rfl (fun ls hl => ?_)
    exact J_77 _ (fun σ H locs ls hp hl h => J_99 σ _ _ _ hp hl h) _ (1 : Int32) (0 : Int32) σ _ _ _ hp (lv_sub hl [2, 1, 0] rfl) h
  unfold X2_findClasses at h
  have hl := lv_sub (l' := [(0, .ref (a 3))]) hl [0] rfl
  refine lv_aload_n hx hb dX2_findClasses_0 rfl (lv_at hl 0 rfl) ?_
  refine gS_X2_circuit X hp tw_4_0 dX2_findClasses_1 ?_
  obtain ⟨t1, ht1, h⟩ := bd_s h
  refine cl_Vl X (eokS hF) (c_X0_good hF ht1) tw_24_23 mw_X0_good (by decide) hp 2 rfl rfl rfl hl.1 rfl (Nat.le_of_ble_eq_true rfl) dX2_findClasses_4 (fun H locs hp => ?_)
  obtain ⟨t2, ht2, h⟩ := bd_s h
  refine cl_Ni X (eokS hF) (c_X6_leastOf (adrS a cA) (eokS hF) ht2) (nwS X (List.mem_of_getElem? (i := 7) rfl)) mw_X6_leastOf (by decide) hp hl.1 rfl (Nat.le_of_ble_eq_true rfl) dX2_findClasses_7 (fun H locs hp => ?_)
  refine lv_istore_n (lv' := [(1, .int t2), (0, .ref (a 3))]) hx hb dX2_findClasses_10 rfl hl (by decide) rfl (fun ls hl => ?_)
  refine lv_aload_n hx hb dX2_findClasses_11 rfl (lv_at hl 1 rfl) ?_
  refine gS_X2_circuit X hp tw_4_0 dX2_findClasses_12 ?_
  obtain ⟨t3, ht3, h⟩ := bd_s h
  refine cl_Vl X (eokS hF) (c_X0_bad hF ht3) tw_24_5 mw_X0_bad (by decide) hp 2 rfl rfl rfl hl.1 rfl (Nat.le_of_ble_eq_true rfl) dX2_findClasses_15 (fun H locs hp => ?_)
  obtain ⟨t4, ht4, h⟩ := bd_s h
  refine cl_Ni X (eokS hF) (c_X6_leastOf (adrS a cA) (eokS hF) ht4) (nwS X (List.mem_of_getElem? (i := 7) rfl)) mw_X6_leastOf (by decide) hp hl.1 rfl (Nat.le_of_ble_eq_true rfl) dX2_findClasses_18 (fun H locs hp => ?_)
  refine lv_istore_n (lv' := [(2, .int t4), (1, .int t2), (0, .ref (a 3))]) hx hb dX2_findClasses_21 rfl hl (by decide) rfl (fun ls hl => ?_)
  refine lv_iconst (v := 0) hx hb dX2_findClasses_22 (by decide) ?_
  refine lv_istore_n (lv' := [(3, .int (0 : Int32)), (2, .int t4), (1, .int t2), (0, .ref (a 3))]) hx hb dX2_findClasses_23 rfl hl (by decide) rfl (fun ls hl => ?_)
  exact J_24 t2 t4 _ (fun σ H locs ls hp hl h => J_72 σ _ _ _ hp hl h) _ (0 : Int32) σ _ _ _ hp (lv_sub hl [3, 2, 1, 0] rfl) h
def X2_refresh (N : Nat) (σ : St) : Option (St) :=
  if (σ.1 13) = 0 then
    nm (si σ 13 (1 : Int32)) (fun (σ2 : St) =>
    bd (X2_findSuccessors N σ2) (fun t3 =>
    bd (X2_findDepths N t3) (fun t4 =>
    bd (X2_findDistances N t4) (fun t5 =>
    bd (X2_findShortestLength N t5) (fun t6 =>
    bd (X2_findClasses N t6) (fun t7 =>
    some t7))))))
  else
    some σ
set_option maxRecDepth 20000 in
set_option maxHeartbeats 4000000 in
theorem c_X2_refresh {l : Launch} {D : va_G} {a : Nat → Nat} {cA : Nat → ClassId} {t : Nat} {F : (Nat → Prop) → State → Prop} (hF : EOK F) {σ : St} {N : Nat} {σ' : St} (h : X2_refresh N σ = some σ') : MetV l yX2_refresh cX2_refresh 1 none 5 D (tyW cA) (wS a cA) (ES t F) [.ref (a 3)] σ σ' := by
  refine mkV (by decide) (adrS a cA) rfl (Nat.le_of_ble_eq_true rfl) ?_
  intro p e R s m args below meth c A Q ls X hR hp hl
  obtain ⟨hx, hb, -, hown, hts, -⟩ := id X
  unfold X2_refresh at h
  have hl := lv_sub (l' := [(0, .ref (a 3))]) hl [0] rfl
  refine lv_aload_n hx hb dX2_refresh_0 rfl (lv_at hl 0 rfl) ?_
  refine gS_X2_isFresh X hp tw_22_14 dX2_refresh_1 ?_
  refine lv_if_eq (tgt := 8) hx hb dX2_refresh_4 (by decide) (fun c1 => ?_) (fun c1 => ?_)
  · have h := it_p h c1
    refine lv_aload_n hx hb dX2_refresh_8 rfl (lv_at hl 0 rfl) ?_
    refine lv_iconst (v := 1) hx hb dX2_refresh_9 (by decide) ?_
    refine pS_X2_isFresh X hp tw_22_14 (Or.inr rfl) dX2_refresh_10 (fun H locs σ2 eσ2 hp => ?_)
    have h := nm_s h σ2 eσ2
    refine lv_aload_n hx hb dX2_refresh_13 rfl (lv_at hl 0 rfl) ?_
    obtain ⟨t3, ht3, h⟩ := bd_s h
    refine cl_Vv X (eokS hF) (c_X2_findSuccessors hF ht3) tw_22_15 mw_X2_findSuccessors (by decide) hp 3 rfl rfl rfl hl.1 rfl (Nat.le_of_ble_eq_true rfl) dX2_refresh_14 (fun H locs hp => ?_)
    refine lv_aload_n hx hb dX2_refresh_17 rfl (lv_at hl 0 rfl) ?_
    obtain ⟨t4, ht4, h⟩ := bd_s h
    refine cl_Vv X (eokS hF) (c_X2_findDepths hF ht4) tw_23_2 mw_X2_findDepths (by decide) hp 3 rfl rfl rfl hl.1 rfl (Nat.le_of_ble_eq_true rfl) dX2_refresh_18 (fun H locs hp => ?_)
    refine lv_aload_n hx hb dX2_refresh_21 rfl (lv_at hl 0 rfl) ?_
    obtain ⟨t5, ht5, h⟩ := bd_s h
    refine cl_Vv X (eokS hF) (c_X2_findDistances hF ht5) tw_24_1 mw_X2_findDistances (by decide) hp 3 rfl rfl rfl hl.1 rfl (Nat.le_of_ble_eq_true rfl) dX2_refresh_22 (fun H locs hp => ?_)
    refine lv_aload_n hx hb dX2_refresh_25 rfl (lv_at hl 0 rfl) ?_
    obtain ⟨t6, ht6, h⟩ := bd_s h
    refine cl_Vv X (eokS hF) (c_X2_findShortestLength hF ht6) tw_24_14 mw_X2_findShortestLength (by decide) hp 3 rfl rfl rfl hl.1 rfl (Nat.le_of_ble_eq_true rfl) dX2_refresh_26 (fun H locs hp => ?_)
    refine lv_aload_n hx hb dX2_refresh_29 rfl (lv_at hl 0 rfl) ?_
    obtain ⟨t7, ht7, h⟩ := bd_s h
    refine cl_Vv X (eokS hF) (c_X2_findClasses hF ht7) tw_24_19 mw_X2_findClasses (by decide) hp 3 rfl rfl rfl hl.1 rfl (Nat.le_of_ble_eq_true rfl) dX2_refresh_30 (fun H locs hp => ?_)
    exact hR _ _ _ _ _ dX2_refresh_33 hp (Option.some.inj h)
  · have h := it_n h c1
    exact hR _ _ _ _ _ dX2_refresh_7 hp (Option.some.inj h)
def X2_depthOf (σ : St) (v1 : Int32) : Option (Int32) :=
  if v1 < 0 then
    some (-1 : Int32)
  else
    if (64 : Int32) ≤ v1 then
      some (-1 : Int32)
    else
      gd (inb v1 64) (
      some (σ.2.2.1 4 v1.toNatClampNeg))
set_option maxRecDepth 20000 in
set_option maxHeartbeats 4000000 in
theorem c_X2_depthOf {l : Launch} {D : va_G} {a : Nat → Nat} {cA : Nat → ClassId} {t : Nat} {F : (Nat → Prop) → State → Prop} (hF : EOK F) {σ : St} {v1 : Int32} {r : Int32} (h : X2_depthOf σ v1 = some r) : MetI l yX2_depthOf cX2_depthOf 2 (some .int) 0 D (tyW cA) (wS a cA) (ES t F) [.ref (a 3), .int v1] σ r σ := by
  refine mkI (by decide) (adrS a cA) (Or.inl rfl) (Nat.le_of_ble_eq_true rfl) ?_
  intro p e R s m args below meth c A Q ls X hR hp hl
  obtain ⟨hx, hb, -, hown, hts, -⟩ := id X
  unfold X2_depthOf at h
  have hl := lv_sub (l' := [(0, .ref (a 3)), (1, .int v1)]) hl [0, 1] rfl
  refine lv_iload_n hx hb dX2_depthOf_0 rfl (lv_at hl 1 rfl) ?_
  refine lv_if_lt (tgt := 19) hx hb dX2_depthOf_1 (by decide) (fun c1 => ?_) (fun c1 => ?_)
  · have h := it_p h c1
    refine lv_iconst (v := -1) hx hb dX2_depthOf_19 (by decide) ?_
    exact hR _ _ _ _ _ _ dX2_depthOf_20 hp (Option.some.inj h) rfl (fun q => by cases q)
  · have h := it_n h c1
    refine lv_iload_n hx hb dX2_depthOf_4 rfl (lv_at hl 1 rfl) ?_
    refine lv_bipush (v := 64) hx hb dX2_depthOf_5 (by decide) ?_
    refine lv_icmp_ge (tgt := 19) hx hb dX2_depthOf_7 (by decide) (fun c2 => ?_) (fun c2 => ?_)
    · have h := it_p h c2
      refine lv_iconst (v := -1) hx hb dX2_depthOf_19 (by decide) ?_
      exact hR _ _ _ _ _ _ dX2_depthOf_20 hp (Option.some.inj h) rfl (fun q => by cases q)
    · have h := it_n h c2
      refine lv_aload_n hx hb dX2_depthOf_10 rfl (lv_at hl 0 rfl) ?_
      refine gS_X2_depths X hp tw_4_4 dX2_depthOf_11 ?_
      refine lv_iload_n hx hb dX2_depthOf_14 rfl (lv_at hl 1 rfl) ?_
      obtain ⟨g3, h⟩ := gd_s h
      refine lS_X2_depths X hp g3 dX2_depthOf_15 ?_
      refine lv_goto (tgt := 20) hx hb dX2_depthOf_16 (by decide) ?_
      exact hR _ _ _ _ _ _ dX2_depthOf_20 hp (Option.some.inj h) rfl (fun q => by cases q)
def X2_distanceOf (σ : St) (v1 : Int32) : Option (Int32) :=
  if v1 < 0 then
    some (-1 : Int32)
  else
    if (64 : Int32) ≤ v1 then
      some (-1 : Int32)
    else
      gd (inb v1 64) (
      some (σ.2.2.1 5 v1.toNatClampNeg))
set_option maxRecDepth 20000 in
set_option maxHeartbeats 4000000 in
theorem c_X2_distanceOf {l : Launch} {D : va_G} {a : Nat → Nat} {cA : Nat → ClassId} {t : Nat} {F : (Nat → Prop) → State → Prop} (hF : EOK F) {σ : St} {v1 : Int32} {r : Int32} (h : X2_distanceOf σ v1 = some r) : MetI l yX2_distanceOf cX2_distanceOf 2 (some .int) 0 D (tyW cA) (wS a cA) (ES t F) [.ref (a 3), .int v1] σ r σ := by
  refine mkI (by decide) (adrS a cA) (Or.inl rfl) (Nat.le_of_ble_eq_true rfl) ?_
  intro p e R s m args below meth c A Q ls X hR hp hl
  obtain ⟨hx, hb, -, hown, hts, -⟩ := id X
  unfold X2_distanceOf at h
  have hl := lv_sub (l' := [(0, .ref (a 3)), (1, .int v1)]) hl [0, 1] rfl
  refine lv_iload_n hx hb dX2_distanceOf_0 rfl (lv_at hl 1 rfl) ?_
  refine lv_if_lt (tgt := 19) hx hb dX2_distanceOf_1 (by decide) (fun c1 => ?_) (fun c1 => ?_)
  · have h := it_p h c1
    refine lv_iconst (v := -1) hx hb dX2_distanceOf_19 (by decide) ?_
    exact hR _ _ _ _ _ _ dX2_distanceOf_20 hp (Option.some.inj h) rfl (fun q => by cases q)
  · have h := it_n h c1
    refine lv_iload_n hx hb dX2_distanceOf_4 rfl (lv_at hl 1 rfl) ?_
    refine lv_bipush (v := 64) hx hb dX2_distanceOf_5 (by decide) ?_
    refine lv_icmp_ge (tgt := 19) hx hb dX2_distanceOf_7 (by decide) (fun c2 => ?_) (fun c2 => ?_)
    · have h := it_p h c2
      refine lv_iconst (v := -1) hx hb dX2_distanceOf_19 (by decide) ?_
      exact hR _ _ _ _ _ _ dX2_distanceOf_20 hp (Option.some.inj h) rfl (fun q => by cases q)
    · have h := it_n h c2
      refine lv_aload_n hx hb dX2_distanceOf_10 rfl (lv_at hl 0 rfl) ?_
      refine gS_X2_distances X hp tw_4_5 dX2_distanceOf_11 ?_
      refine lv_iload_n hx hb dX2_distanceOf_14 rfl (lv_at hl 1 rfl) ?_
      obtain ⟨g3, h⟩ := gd_s h
      refine lS_X2_distances X hp g3 dX2_distanceOf_15 ?_
      refine lv_goto (tgt := 20) hx hb dX2_distanceOf_16 (by decide) ?_
      exact hR _ _ _ _ _ _ dX2_distanceOf_20 hp (Option.some.inj h) rfl (fun q => by cases q)
def X6_state_14 (σ : St) : Option (Int32 × St) :=
  none
def X6_state (N : Nat) (v1 : Int32) (v2 : Int32) (σ : St) : Option (Int32 × St) :=
  bd (X6_requireState v1 σ) (fun t1 =>
  if v2 < 0 then
    X6_state_14 t1
  else
    if v2 < (5 : Int32) then
      bd (X2_refresh N t1) (fun t4 =>
      if v2 = (0 : Int32) then
        bd (X0_initial t4) (fun t5 =>
        bd (X6_contains t5 v1) (fun t6 =>
        if t6 = 0 then
          some ((0 : Int32), t4)
        else
          some ((1 : Int32), t4)))
      else if v2 = (1 : Int32) then
        bd (X0_good t4) (fun t8 =>
        bd (X6_contains t8 v1) (fun t9 =>
        if t9 = 0 then
          some ((0 : Int32), t4)
        else
          some ((1 : Int32), t4)))
      else if v2 = (2 : Int32) then
        bd (X2_depthOf t4 v1) (fun t11 =>
        some (t11, t4))
      else if v2 = (3 : Int32) then
        bd (X2_distanceOf t4 v1) (fun t12 =>
        some (t12, t4))
      else 
        bd (X2_classOf t4 v1) (fun t13 =>
        some (t13, t4)))
    else
      X6_state_14 t1)
set_option maxRecDepth 20000 in
set_option maxHeartbeats 4000000 in
theorem c_X6_state {l : Launch} {D : va_G} {a : Nat → Nat} {cA : Nat → ClassId} {t : Nat} {F : (Nat → Prop) → State → Prop} (hF : EOK F) {σ : St} {N : Nat} {v1 : Int32} {v2 : Int32} {r : Int32} {σ' : St} (h : X6_state N v1 v2 σ = some (r, σ')) : MetI l yX6_state cX6_state 3 (some .int) 6 D (tyW cA) (wS a cA) (ES t F) [.ref (a 0), .int v1, .int v2] σ r σ' := by
  refine mkI (by decide) (adrS a cA) (Or.inl rfl) (Nat.le_of_ble_eq_true rfl) ?_
  intro p e R s m args below meth c A Q ls X hR hp hl
  obtain ⟨hx, hb, -, hown, hts, -⟩ := id X
  have J_14 : ∀  (σ : St) (H : Heap) (locs : List Loc) (ls : Array Slot), Pw D (wS a cA) A s.heap H locs σ → lv_has ls 3 [(0, .ref (a 0))] → X6_state_14 σ = some (r, σ') → W p l e R s m args below meth c H locs 0 0 Q (F0 m 14 ls []) := by
    intro σ H locs ls hp hl h
    unfold X6_state_14 at h
    exact nn_s h
  unfold X6_state at h
  have hl := lv_sub (l' := [(0, .ref (a 0)), (1, .int v1), (2, .int v2)]) hl [0, 1, 2] rfl
  refine lv_aload_n hx hb dX6_state_0 rfl (lv_at hl 0 rfl) ?_
  refine lv_iload_n hx hb dX6_state_1 rfl (lv_at hl 1 rfl) ?_
  obtain ⟨t1, ht1, h⟩ := bd_s h
  refine cl_Vv X (eokS hF) (c_X6_requireState hF ht1) tw_21_9 mw_X6_requireState (by decide) hp 0 rfl rfl rfl hl.1 rfl (Nat.le_of_ble_eq_true rfl) dX6_state_2 (fun H locs hp => ?_)
  refine lv_iload_n hx hb dX6_state_5 rfl (lv_at hl 2 rfl) ?_
  refine lv_if_lt (tgt := 14) hx hb dX6_state_6 (by decide) (fun c2 => ?_) (fun c2 => ?_)
  · have h := it_p h c2
    exact J_14 t1 _ _ _ hp (lv_sub hl [0] rfl) h
  · have h := it_n h c2
    refine lv_iload_n hx hb dX6_state_9 rfl (lv_at hl 2 rfl) ?_
    refine lv_iconst (v := 5) hx hb dX6_state_10 (by decide) ?_
    refine lv_icmp_lt (tgt := 24) hx hb dX6_state_11 (by decide) (fun c3 => ?_) (fun c3 => ?_)
    · have h := it_p h c3
      refine lv_aload_n hx hb dX6_state_24 rfl (lv_at hl 0 rfl) ?_
      refine gS_X6_exploration X hp tw_2_0 dX6_state_25 ?_
      obtain ⟨t4, ht4, h⟩ := bd_s h
      refine cl_Vv X (eokS hF) (c_X2_refresh hF ht4) tw_22_10 mw_X2_refresh (by decide) hp 3 rfl rfl rfl hl.1 rfl (Nat.le_of_ble_eq_true rfl) dX6_state_28 (fun H locs hp => ?_)
      refine lv_iload_n hx hb dX6_state_31 rfl (lv_at hl 2 rfl) ?_
      by_cases cs1 : v2 = (0 : Int32)
      · have h := it_p h cs1
        refine tsI (tgt := 64) (off := 32) (k := (0 : Int32)) hx hb dX6_state_32 cs1 (by decide) (by decide) (by decide) (by decide) ?_
        refine lv_aload_n hx hb dX6_state_64 rfl (lv_at hl 0 rfl) ?_
        refine gS_X6_circuit X hp tw_1_20 dX6_state_65 ?_
        obtain ⟨t5, ht5, h⟩ := bd_s h
        refine cl_Vl X (eokS hF) (c_X0_initial hF ht5) tw_19_1 mw_X0_initial (by decide) hp 2 rfl rfl rfl hl.1 rfl (Nat.le_of_ble_eq_true rfl) dX6_state_68 (fun H locs hp => ?_)
        refine lv_iload_n hx hb dX6_state_71 rfl (lv_at hl 1 rfl) ?_
        obtain ⟨t6, ht6, h⟩ := bd_s h
        refine cl_Si X (eokS hF) (c_X6_contains (adrS a cA) (eokS hF) ht6) tw_25_20 mw_X6_contains (by decide) hp hl.1 rfl (Nat.le_of_ble_eq_true rfl) dX6_state_72 (fun H locs hp => ?_)
        refine lv_if_eq (tgt := 82) hx hb dX6_state_75 (by decide) (fun c7 => ?_) (fun c7 => ?_)
        · have h := it_p h c7
          refine lv_iconst (v := 0) hx hb dX6_state_82 (by decide) ?_
          exact hR _ _ _ _ _ _ dX6_state_83 hp (congrArg Prod.fst (Option.some.inj h)) (congrArg Prod.snd (Option.some.inj h)) (fun q => by cases q)
        · have h := it_n h c7
          refine lv_iconst (v := 1) hx hb dX6_state_78 (by decide) ?_
          refine lv_goto (tgt := 83) hx hb dX6_state_79 (by decide) ?_
          exact hR _ _ _ _ _ _ dX6_state_83 hp (congrArg Prod.fst (Option.some.inj h)) (congrArg Prod.snd (Option.some.inj h)) (fun q => by cases q)
      have h := it_n h cs1
      by_cases cs2 : v2 = (1 : Int32)
      · have h := it_p h cs2
        refine tsI (tgt := 84) (off := 52) (k := (1 : Int32)) hx hb dX6_state_32 cs2 (by decide) (by decide) (by decide) (by decide) ?_
        refine lv_aload_n hx hb dX6_state_84 rfl (lv_at hl 0 rfl) ?_
        refine gS_X6_circuit X hp tw_1_20 dX6_state_85 ?_
        obtain ⟨t8, ht8, h⟩ := bd_s h
        refine cl_Vl X (eokS hF) (c_X0_good hF ht8) tw_20_1 mw_X0_good (by decide) hp 2 rfl rfl rfl hl.1 rfl (Nat.le_of_ble_eq_true rfl) dX6_state_88 (fun H locs hp => ?_)
        refine lv_iload_n hx hb dX6_state_91 rfl (lv_at hl 1 rfl) ?_
        obtain ⟨t9, ht9, h⟩ := bd_s h
        refine cl_Si X (eokS hF) (c_X6_contains (adrS a cA) (eokS hF) ht9) tw_25_20 mw_X6_contains (by decide) hp hl.1 rfl (Nat.le_of_ble_eq_true rfl) dX6_state_92 (fun H locs hp => ?_)
        refine lv_if_eq (tgt := 102) hx hb dX6_state_95 (by decide) (fun c10 => ?_) (fun c10 => ?_)
        · have h := it_p h c10
          refine lv_iconst (v := 0) hx hb dX6_state_102 (by decide) ?_
          exact hR _ _ _ _ _ _ dX6_state_103 hp (congrArg Prod.fst (Option.some.inj h)) (congrArg Prod.snd (Option.some.inj h)) (fun q => by cases q)
        · have h := it_n h c10
          refine lv_iconst (v := 1) hx hb dX6_state_98 (by decide) ?_
          refine lv_goto (tgt := 103) hx hb dX6_state_99 (by decide) ?_
          exact hR _ _ _ _ _ _ dX6_state_103 hp (congrArg Prod.fst (Option.some.inj h)) (congrArg Prod.snd (Option.some.inj h)) (fun q => by cases q)
      have h := it_n h cs2
      by_cases cs3 : v2 = (2 : Int32)
      · have h := it_p h cs3
        refine tsI (tgt := 104) (off := 72) (k := (2 : Int32)) hx hb dX6_state_32 cs3 (by decide) (by decide) (by decide) (by decide) ?_
        refine lv_aload_n hx hb dX6_state_104 rfl (lv_at hl 0 rfl) ?_
        refine gS_X6_exploration X hp tw_2_0 dX6_state_105 ?_
        refine lv_iload_n hx hb dX6_state_108 rfl (lv_at hl 1 rfl) ?_
        obtain ⟨t11, ht11, h⟩ := bd_s h
        refine cl_Vi X (eokS hF) (c_X2_depthOf hF ht11) tw_25_21 mw_X2_depthOf (by decide) hp 3 rfl rfl rfl hl.1 rfl (Nat.le_of_ble_eq_true rfl) dX6_state_109 (fun H locs hp => ?_)
        exact hR _ _ _ _ _ _ dX6_state_112 hp (congrArg Prod.fst (Option.some.inj h)) (congrArg Prod.snd (Option.some.inj h)) (fun q => by cases q)
      have h := it_n h cs3
      by_cases cs4 : v2 = (3 : Int32)
      · have h := it_p h cs4
        refine tsI (tgt := 113) (off := 81) (k := (3 : Int32)) hx hb dX6_state_32 cs4 (by decide) (by decide) (by decide) (by decide) ?_
        refine lv_aload_n hx hb dX6_state_113 rfl (lv_at hl 0 rfl) ?_
        refine gS_X6_exploration X hp tw_2_0 dX6_state_114 ?_
        refine lv_iload_n hx hb dX6_state_117 rfl (lv_at hl 1 rfl) ?_
        obtain ⟨t12, ht12, h⟩ := bd_s h
        refine cl_Vi X (eokS hF) (c_X2_distanceOf hF ht12) tw_26_1 mw_X2_distanceOf (by decide) hp 3 rfl rfl rfl hl.1 rfl (Nat.le_of_ble_eq_true rfl) dX6_state_118 (fun H locs hp => ?_)
        exact hR _ _ _ _ _ _ dX6_state_121 hp (congrArg Prod.fst (Option.some.inj h)) (congrArg Prod.snd (Option.some.inj h)) (fun q => by cases q)
      have h := it_n h cs4
      have ncs1 : ¬ (v2).toInt = 0 := lv_neT cs1 (by decide)
      have ncs2 : ¬ (v2).toInt = 1 := lv_neT cs2 (by decide)
      have ncs3 : ¬ (v2).toInt = 2 := lv_neT cs3 (by decide)
      have ncs4 : ¬ (v2).toInt = 3 := lv_neT cs4 (by decide)
      refine lv_tableOut (tgt := 122) hx hb dX6_state_32 (by omega) (by decide) ?_
      refine lv_aload_n hx hb dX6_state_122 rfl (lv_at hl 0 rfl) ?_
      refine gS_X6_exploration X hp tw_2_0 dX6_state_123 ?_
      refine lv_iload_n hx hb dX6_state_126 rfl (lv_at hl 1 rfl) ?_
      obtain ⟨t13, ht13, h⟩ := bd_s h
      refine cl_Vi X (eokS hF) (c_X2_classOf hF ht13) tw_26_5 mw_X2_classOf (by decide) hp 3 rfl rfl rfl hl.1 rfl (Nat.le_of_ble_eq_true rfl) dX6_state_127 (fun H locs hp => ?_)
      exact hR _ _ _ _ _ _ dX6_state_130 hp (congrArg Prod.fst (Option.some.inj h)) (congrArg Prod.snd (Option.some.inj h)) (fun q => by cases q)
    · have h := it_n h c3
      exact J_14 t1 _ _ _ hp (lv_sub hl [0] rfl) h
def X2_classCount_4b (k4 : (Int32 → Int32 → Option (Int32))) (k40 : (Int32 → Option (Int32))) (σ : St) (v1 : Int32) (v2 : Int32) : Option (Int32) :=
  if (σ.1 7) ≤ v2 then
    k40 v1
  else
    if (64 : Int32) ≤ v2 then
      k40 v1
    else
      gd (inb v2 64) (
      if (σ.2.2.1 6 v2.toNatClampNeg) = v2 then
        nm (v1 + (1 : Int32)) (fun (x6 : Int32) =>
        nm (v2 + (1 : Int32)) (fun (x7 : Int32) =>
        k4 x6 x7))
      else
        nm (v2 + (1 : Int32)) (fun (x5 : Int32) =>
        k4 v1 x5))
def X2_classCount_4 (k40 : (Int32 → Option (Int32))) (σ : St) : Nat → Int32 → Int32 → Option (Int32)
  | 0, _, _ => none
  | n + 1, v1, v2 => X2_classCount_4b (fun v1 v2 => X2_classCount_4 k40 σ n v1 v2) k40 σ v1 v2
def X2_classCount_40 (σ : St) (v1 : Int32) : Option (Int32) :=
  some v1
def X2_classCount (N : Nat) (σ : St) : Option (Int32) :=
  X2_classCount_4 (fun v1 => X2_classCount_40 σ v1) σ N (0 : Int32) (0 : Int32)
set_option maxRecDepth 20000 in
set_option maxHeartbeats 4000000 in
theorem c_X2_classCount {l : Launch} {D : va_G} {a : Nat → Nat} {cA : Nat → ClassId} {t : Nat} {F : (Nat → Prop) → State → Prop} (hF : EOK F) {σ : St} {N : Nat} {r : Int32} (h : X2_classCount N σ = some r) : MetI l yX2_classCount cX2_classCount 3 (some .int) 0 D (tyW cA) (wS a cA) (ES t F) [.ref (a 3)] σ r σ := by
  refine mkI (by decide) (adrS a cA) (Or.inl rfl) (Nat.le_of_ble_eq_true rfl) ?_
  intro p e R s m args below meth c A Q ls X hR hp hl
  obtain ⟨hx, hb, -, hown, hts, -⟩ := id X
  have J_4 : ∀  (k40 : (Int32 → Option (Int32))) (hk40 : ∀ (v1 : Int32) (H : Heap) (locs : List Loc) (ls : Array Slot), Pw D (wS a cA) A s.heap H locs σ → lv_has ls 3 [(0, .ref (a 3)), (1, .int v1)] → k40 v1 = some r → W p l e R s m args below meth c H locs 0 0 Q (F0 m 40 ls [])) (n : Nat) (v1 : Int32) (v2 : Int32) (H : Heap) (locs : List Loc) (ls : Array Slot), Pw D (wS a cA) A s.heap H locs σ → lv_has ls 3 [(0, .ref (a 3)), (1, .int v1), (2, .int v2)] → X2_classCount_4 k40 σ n v1 v2 = some r → W p l e R s m args below meth c H locs 0 0 Q (F0 m 4 ls []) := by
    intro k40 hk40 n
    induction n with
    | zero => intro v1 v2 H locs ls hp hl h; exact nn_s (show (none : Option (Int32)) = some _ from h)
    | succ n ih =>
      intro v1 v2 H locs ls hp hl h
      have h : X2_classCount_4b (fun v1 v2 => X2_classCount_4 k40 σ n v1 v2) k40 σ v1 v2 = some r := h
      unfold X2_classCount_4b at h
      have hk4 := ih
      refine lv_iload_n hx hb dX2_classCount_4 rfl (lv_at hl 2 rfl) ?_
      refine lv_aload_n hx hb dX2_classCount_5 rfl (lv_at hl 0 rfl) ?_
      refine gS_X2_circuit X hp tw_4_0 dX2_classCount_6 ?_
      refine gS_X0_states X hp tw_22_19 dX2_classCount_9 ?_
      refine lv_icmp_ge (tgt := 40) hx hb dX2_classCount_12 (by decide) (fun c1 => ?_) (fun c1 => ?_)
      · have h := it_p h c1
        exact hk40 v1 _ _ _ hp (lv_sub hl [0, 1] rfl) h
      · have h := it_n h c1
        refine lv_iload_n hx hb dX2_classCount_15 rfl (lv_at hl 2 rfl) ?_
        refine lv_bipush (v := 64) hx hb dX2_classCount_16 (by decide) ?_
        refine lv_icmp_ge (tgt := 40) hx hb dX2_classCount_18 (by decide) (fun c2 => ?_) (fun c2 => ?_)
        · have h := it_p h c2
          exact hk40 v1 _ _ _ hp (lv_sub hl [0, 1] rfl) h
        · have h := it_n h c2
          refine lv_aload_n hx hb dX2_classCount_21 rfl (lv_at hl 0 rfl) ?_
          refine gS_X2_classes X hp tw_4_6 dX2_classCount_22 ?_
          refine lv_iload_n hx hb dX2_classCount_25 rfl (lv_at hl 2 rfl) ?_
          obtain ⟨g3, h⟩ := gd_s h
          refine lS_X2_classes X hp g3 dX2_classCount_26 ?_
          refine lv_iload_n hx hb dX2_classCount_27 rfl (lv_at hl 2 rfl) ?_
          refine lv_icmp_ne (tgt := 34) hx hb dX2_classCount_28 (by decide) (fun c4 => ?_) (fun c4 => ?_)
          · have h := it_n h c4
            obtain ⟨x5, ex5⟩ : ∃ z : Int32, z = v2 + (1 : Int32) := ⟨_, rfl⟩
            have h := nm_s h x5 ex5
            refine lv_iinc (v := x5) (lv' := [(2, .int x5), (0, .ref (a 3)), (1, .int v1)]) hx hb dX2_classCount_34 hl (k := 2) rfl (by rw [ex5]; rfl) (by decide) rfl (fun ls hl => ?_)
            refine lv_goto (tgt := 4) hx hb dX2_classCount_37 (by decide) ?_
            exact hk4 v1 x5 _ _ _ hp (lv_sub hl [1, 2, 0] rfl) h
          · have h := it_p h c4
            obtain ⟨x6, ex6⟩ : ∃ z : Int32, z = v1 + (1 : Int32) := ⟨_, rfl⟩
            have h := nm_s h x6 ex6
            refine lv_iinc (v := x6) (lv' := [(1, .int x6), (0, .ref (a 3)), (2, .int v2)]) hx hb dX2_classCount_31 hl (k := 1) rfl (by rw [ex6]; rfl) (by decide) rfl (fun ls hl => ?_)
            obtain ⟨x7, ex7⟩ : ∃ z : Int32, z = v2 + (1 : Int32) := ⟨_, rfl⟩
            have h := nm_s h x7 ex7
            refine lv_iinc (v := x7) (lv' := [(2, .int x7), (1, .int x6), (0, .ref (a 3))]) hx hb dX2_classCount_34 hl (k := 2) rfl (by rw [ex7]; rfl) (by decide) rfl (fun ls hl => ?_)
            refine lv_goto (tgt := 4) hx hb dX2_classCount_37 (by decide) ?_
            exact hk4 x6 x7 _ _ _ hp (lv_sub hl [2, 1, 0] rfl) h
  have J_40 : ∀ (v1 : Int32) (H : Heap) (locs : List Loc) (ls : Array Slot), Pw D (wS a cA) A s.heap H locs σ → lv_has ls 3 [(0, .ref (a 3)), (1, .int v1)] → X2_classCount_40 σ v1 = some r → W p l e R s m args below meth c H locs 0 0 Q (F0 m 40 ls []) := by
    intro v1 H locs ls hp hl h
    unfold X2_classCount_40 at h
    refine lv_iload_n hx hb dX2_classCount_40 rfl (lv_at hl 1 rfl) ?_
    exact hR _ _ _ _ _ _ dX2_classCount_41 hp (Option.some.inj h) rfl (fun q => by cases q)
  unfold X2_classCount at h
  have hl := lv_sub (l' := [(0, .ref (a 3))]) hl [0] rfl
  refine lv_iconst (v := 0) hx hb dX2_classCount_0 (by decide) ?_
  refine lv_istore_n (lv' := [(1, .int (0 : Int32)), (0, .ref (a 3))]) hx hb dX2_classCount_1 rfl hl (by decide) rfl (fun ls hl => ?_)
  refine lv_iconst (v := 0) hx hb dX2_classCount_2 (by decide) ?_
  refine lv_istore_n (lv' := [(2, .int (0 : Int32)), (1, .int (0 : Int32)), (0, .ref (a 3))]) hx hb dX2_classCount_3 rfl hl (by decide) rfl (fun ls hl => ?_)
  exact J_4 _ (fun v1 H locs ls hp hl h => J_40 v1 _ _ _ hp hl h) _ (0 : Int32) (0 : Int32) _ _ _ hp (lv_sub hl [2, 1, 0] rfl) h
def X6_system_10 (σ : St) : Option (Int32 × St) :=
  none
def X6_system (N : Nat) (v1 : Int32) (σ : St) : Option (Int32 × St) :=
  if v1 < 0 then
    X6_system_10 σ
  else
    if v1 < (10 : Int32) then
      bd (X2_refresh N σ) (fun t3 =>
      if v1 = (0 : Int32) then
        some ((t3.1 5), t3)
      else if v1 = (1 : Int32) then
        some ((t3.1 6), t3)
      else if v1 = (2 : Int32) then
        some ((t3.1 7), t3)
      else if v1 = (3 : Int32) then
        bd (X0_initial t3) (fun t4 =>
        bd (J13_bitCount_95d88 t4) (fun t5 =>
        some (t5, t3)))
      else if v1 = (4 : Int32) then
        bd (X0_good t3) (fun t6 =>
        bd (J13_bitCount_95d88 t6) (fun t7 =>
        some (t7, t3)))
      else if v1 = (5 : Int32) then
        bd (J13_bitCount_95d88 (t3.2.1 1)) (fun t8 =>
        some (t8, t3))
      else if v1 = (6 : Int32) then
        some ((t3.1 11), t3)
      else if v1 = (7 : Int32) then
        bd (X2_classCount N t3) (fun t9 =>
        some (t9, t3))
      else if v1 = (8 : Int32) then
        some ((t3.1 10), t3)
      else 
        some ((t3.1 12), t3))
    else
      X6_system_10 σ
set_option maxRecDepth 20000 in
set_option maxHeartbeats 4000000 in
theorem c_X6_system {l : Launch} {D : va_G} {a : Nat → Nat} {cA : Nat → ClassId} {t : Nat} {F : (Nat → Prop) → State → Prop} (hF : EOK F) {σ : St} {N : Nat} {v1 : Int32} {r : Int32} {σ' : St} (h : X6_system N v1 σ = some (r, σ')) : MetI l yX6_system cX6_system 2 (some .int) 6 D (tyW cA) (wS a cA) (ES t F) [.ref (a 0), .int v1] σ r σ' := by
  refine mkI (by decide) (adrS a cA) (Or.inl rfl) (Nat.le_of_ble_eq_true rfl) ?_
  intro p e R s m args below meth c A Q ls X hR hp hl
  obtain ⟨hx, hb, -, hown, hts, -⟩ := id X
  have J_10 : ∀  (σ : St) (H : Heap) (locs : List Loc) (ls : Array Slot), Pw D (wS a cA) A s.heap H locs σ → lv_has ls 2 [(0, .ref (a 0))] → X6_system_10 σ = some (r, σ') → W p l e R s m args below meth c H locs 0 0 Q (F0 m 10 ls []) := by
    intro σ H locs ls hp hl h
    unfold X6_system_10 at h
    exact nn_s h
  unfold X6_system at h
  have hl := lv_sub (l' := [(0, .ref (a 0)), (1, .int v1)]) hl [0, 1] rfl
  refine lv_iload_n hx hb dX6_system_0 rfl (lv_at hl 1 rfl) ?_
  refine lv_if_lt (tgt := 10) hx hb dX6_system_1 (by decide) (fun c1 => ?_) (fun c1 => ?_)
  · have h := it_p h c1
    exact J_10 σ _ _ _ hp (lv_sub hl [0] rfl) h
  · have h := it_n h c1
    refine lv_iload_n hx hb dX6_system_4 rfl (lv_at hl 1 rfl) ?_
    refine lv_bipush (v := 10) hx hb dX6_system_5 (by decide) ?_
    refine lv_icmp_lt (tgt := 20) hx hb dX6_system_7 (by decide) (fun c2 => ?_) (fun c2 => ?_)
    · have h := it_p h c2
      refine lv_aload_n hx hb dX6_system_20 rfl (lv_at hl 0 rfl) ?_
      refine gS_X6_exploration X hp tw_2_0 dX6_system_21 ?_
      obtain ⟨t3, ht3, h⟩ := bd_s h
      refine cl_Vv X (eokS hF) (c_X2_refresh hF ht3) tw_22_10 mw_X2_refresh (by decide) hp 3 rfl rfl rfl hl.1 rfl (Nat.le_of_ble_eq_true rfl) dX6_system_24 (fun H locs hp => ?_)
      refine lv_iload_n hx hb dX6_system_27 rfl (lv_at hl 1 rfl) ?_
      by_cases cs1 : v1 = (0 : Int32)
      · have h := it_p h cs1
        refine tsI (tgt := 80) (off := 52) (k := (0 : Int32)) hx hb dX6_system_28 cs1 (by decide) (by decide) (by decide) (by decide) ?_
        refine lv_aload_n hx hb dX6_system_80 rfl (lv_at hl 0 rfl) ?_
        refine gS_X6_circuit X hp tw_1_20 dX6_system_81 ?_
        refine gS_X0_bits X hp tw_10_6 dX6_system_84 ?_
        exact hR _ _ _ _ _ _ dX6_system_87 hp (congrArg Prod.fst (Option.some.inj h)) (congrArg Prod.snd (Option.some.inj h)) (fun q => by cases q)
      have h := it_n h cs1
      by_cases cs2 : v1 = (1 : Int32)
      · have h := it_p h cs2
        refine tsI (tgt := 88) (off := 60) (k := (1 : Int32)) hx hb dX6_system_28 cs2 (by decide) (by decide) (by decide) (by decide) ?_
        refine lv_aload_n hx hb dX6_system_88 rfl (lv_at hl 0 rfl) ?_
        refine gS_X6_circuit X hp tw_1_20 dX6_system_89 ?_
        refine gS_X0_inputs X hp tw_10_7 dX6_system_92 ?_
        exact hR _ _ _ _ _ _ dX6_system_95 hp (congrArg Prod.fst (Option.some.inj h)) (congrArg Prod.snd (Option.some.inj h)) (fun q => by cases q)
      have h := it_n h cs2
      by_cases cs3 : v1 = (2 : Int32)
      · have h := it_p h cs3
        refine tsI (tgt := 96) (off := 68) (k := (2 : Int32)) hx hb dX6_system_28 cs3 (by decide) (by decide) (by decide) (by decide) ?_
        refine lv_aload_n hx hb dX6_system_96 rfl (lv_at hl 0 rfl) ?_
        refine gS_X6_circuit X hp tw_1_20 dX6_system_97 ?_
        refine gS_X0_states X hp tw_7_21 dX6_system_100 ?_
        exact hR _ _ _ _ _ _ dX6_system_103 hp (congrArg Prod.fst (Option.some.inj h)) (congrArg Prod.snd (Option.some.inj h)) (fun q => by cases q)
      have h := it_n h cs3
      by_cases cs4 : v1 = (3 : Int32)
      · have h := it_p h cs4
        refine tsI (tgt := 104) (off := 76) (k := (3 : Int32)) hx hb dX6_system_28 cs4 (by decide) (by decide) (by decide) (by decide) ?_
        refine lv_aload_n hx hb dX6_system_104 rfl (lv_at hl 0 rfl) ?_
        refine gS_X6_circuit X hp tw_1_20 dX6_system_105 ?_
        obtain ⟨t4, ht4, h⟩ := bd_s h
        refine cl_Vl X (eokS hF) (c_X0_initial hF ht4) tw_19_1 mw_X0_initial (by decide) hp 2 rfl rfl rfl hl.1 rfl (Nat.le_of_ble_eq_true rfl) dX6_system_108 (fun H locs hp => ?_)
        obtain ⟨t5, ht5, h⟩ := bd_s h
        refine cl_Si X (eokS hF) (c_J13_bitCount_95d88 (adrS a cA) (eokS hF) ht5) tw_19_5 mw_J13_bitCount_95d88 (by decide) hp hl.1 rfl (Nat.le_of_ble_eq_true rfl) dX6_system_111 (fun H locs hp => ?_)
        exact hR _ _ _ _ _ _ dX6_system_114 hp (congrArg Prod.fst (Option.some.inj h)) (congrArg Prod.snd (Option.some.inj h)) (fun q => by cases q)
      have h := it_n h cs4
      by_cases cs5 : v1 = (4 : Int32)
      · have h := it_p h cs5
        refine tsI (tgt := 115) (off := 87) (k := (4 : Int32)) hx hb dX6_system_28 cs5 (by decide) (by decide) (by decide) (by decide) ?_
        refine lv_aload_n hx hb dX6_system_115 rfl (lv_at hl 0 rfl) ?_
        refine gS_X6_circuit X hp tw_1_20 dX6_system_116 ?_
        obtain ⟨t6, ht6, h⟩ := bd_s h
        refine cl_Vl X (eokS hF) (c_X0_good hF ht6) tw_20_1 mw_X0_good (by decide) hp 2 rfl rfl rfl hl.1 rfl (Nat.le_of_ble_eq_true rfl) dX6_system_119 (fun H locs hp => ?_)
        obtain ⟨t7, ht7, h⟩ := bd_s h
        refine cl_Si X (eokS hF) (c_J13_bitCount_95d88 (adrS a cA) (eokS hF) ht7) tw_19_5 mw_J13_bitCount_95d88 (by decide) hp hl.1 rfl (Nat.le_of_ble_eq_true rfl) dX6_system_122 (fun H locs hp => ?_)
        exact hR _ _ _ _ _ _ dX6_system_125 hp (congrArg Prod.fst (Option.some.inj h)) (congrArg Prod.snd (Option.some.inj h)) (fun q => by cases q)
      have h := it_n h cs5
      by_cases cs6 : v1 = (5 : Int32)
      · have h := it_p h cs6
        refine tsI (tgt := 126) (off := 98) (k := (5 : Int32)) hx hb dX6_system_28 cs6 (by decide) (by decide) (by decide) (by decide) ?_
        refine lv_aload_n hx hb dX6_system_126 rfl (lv_at hl 0 rfl) ?_
        refine gS_X6_exploration X hp tw_2_0 dX6_system_127 ?_
        refine gS_X2_reachable X hp tw_28_8 dX6_system_130 ?_
        obtain ⟨t8, ht8, h⟩ := bd_s h
        refine cl_Si X (eokS hF) (c_J13_bitCount_95d88 (adrS a cA) (eokS hF) ht8) tw_19_5 mw_J13_bitCount_95d88 (by decide) hp hl.1 rfl (Nat.le_of_ble_eq_true rfl) dX6_system_133 (fun H locs hp => ?_)
        exact hR _ _ _ _ _ _ dX6_system_136 hp (congrArg Prod.fst (Option.some.inj h)) (congrArg Prod.snd (Option.some.inj h)) (fun q => by cases q)
      have h := it_n h cs6
      by_cases cs7 : v1 = (6 : Int32)
      · have h := it_p h cs7
        refine tsI (tgt := 137) (off := 109) (k := (6 : Int32)) hx hb dX6_system_28 cs7 (by decide) (by decide) (by decide) (by decide) ?_
        refine lv_aload_n hx hb dX6_system_137 rfl (lv_at hl 0 rfl) ?_
        refine gS_X6_exploration X hp tw_2_0 dX6_system_138 ?_
        refine gS_X2_deepest X hp tw_28_9 dX6_system_141 ?_
        exact hR _ _ _ _ _ _ dX6_system_144 hp (congrArg Prod.fst (Option.some.inj h)) (congrArg Prod.snd (Option.some.inj h)) (fun q => by cases q)
      have h := it_n h cs7
      by_cases cs8 : v1 = (7 : Int32)
      · have h := it_p h cs8
        refine tsI (tgt := 145) (off := 117) (k := (7 : Int32)) hx hb dX6_system_28 cs8 (by decide) (by decide) (by decide) (by decide) ?_
        refine lv_aload_n hx hb dX6_system_145 rfl (lv_at hl 0 rfl) ?_
        refine gS_X6_exploration X hp tw_2_0 dX6_system_146 ?_
        obtain ⟨t9, ht9, h⟩ := bd_s h
        refine cl_Vi X (eokS hF) (c_X2_classCount hF ht9) tw_28_11 mw_X2_classCount (by decide) hp 3 rfl rfl rfl hl.1 rfl (Nat.le_of_ble_eq_true rfl) dX6_system_149 (fun H locs hp => ?_)
        exact hR _ _ _ _ _ _ dX6_system_152 hp (congrArg Prod.fst (Option.some.inj h)) (congrArg Prod.snd (Option.some.inj h)) (fun q => by cases q)
      have h := it_n h cs8
      by_cases cs9 : v1 = (8 : Int32)
      · have h := it_p h cs9
        refine tsI (tgt := 153) (off := 125) (k := (8 : Int32)) hx hb dX6_system_28 cs9 (by decide) (by decide) (by decide) (by decide) ?_
        refine lv_aload_n hx hb dX6_system_153 rfl (lv_at hl 0 rfl) ?_
        refine gS_X6_circuit X hp tw_1_20 dX6_system_154 ?_
        refine gS_X0_keptCount X hp tw_20_16 dX6_system_157 ?_
        exact hR _ _ _ _ _ _ dX6_system_160 hp (congrArg Prod.fst (Option.some.inj h)) (congrArg Prod.snd (Option.some.inj h)) (fun q => by cases q)
      have h := it_n h cs9
      have ncs1 : ¬ (v1).toInt = 0 := lv_neT cs1 (by decide)
      have ncs2 : ¬ (v1).toInt = 1 := lv_neT cs2 (by decide)
      have ncs3 : ¬ (v1).toInt = 2 := lv_neT cs3 (by decide)
      have ncs4 : ¬ (v1).toInt = 3 := lv_neT cs4 (by decide)
      have ncs5 : ¬ (v1).toInt = 4 := lv_neT cs5 (by decide)
      have ncs6 : ¬ (v1).toInt = 5 := lv_neT cs6 (by decide)
      have ncs7 : ¬ (v1).toInt = 6 := lv_neT cs7 (by decide)
      have ncs8 : ¬ (v1).toInt = 7 := lv_neT cs8 (by decide)
      have ncs9 : ¬ (v1).toInt = 8 := lv_neT cs9 (by decide)
      refine lv_tableOut (tgt := 161) hx hb dX6_system_28 (by omega) (by decide) ?_
      refine lv_aload_n hx hb dX6_system_161 rfl (lv_at hl 0 rfl) ?_
      refine gS_X6_exploration X hp tw_2_0 dX6_system_162 ?_
      refine gS_X2_runLength X hp tw_28_10 dX6_system_165 ?_
      exact hR _ _ _ _ _ _ dX6_system_168 hp (congrArg Prod.fst (Option.some.inj h)) (congrArg Prod.snd (Option.some.inj h)) (fun q => by cases q)
    · have h := it_n h c2
      exact J_10 σ _ _ _ hp (lv_sub hl [0] rfl) h
def X2_leastNearer_44 (k4 : (Int32 → Int32 → Option (Int32))) (σ : St) (v1 : Int32) (v2 : Int32) (v3 : Int32) (v4 : Int32) (u0 : Int32) : Option (Int32) :=
  if u0 = 0 then
    nm (v3 + (1 : Int32)) (fun (x2 : Int32) =>
    k4 v2 x2)
  else
    if v2 = (-1 : Int32) then
      nm (v3 + (1 : Int32)) (fun (x4 : Int32) =>
      k4 v4 x4)
    else
      if v2 ≤ v4 then
        nm (v3 + (1 : Int32)) (fun (x6 : Int32) =>
        k4 v2 x6)
      else
        nm (v3 + (1 : Int32)) (fun (x7 : Int32) =>
        k4 v4 x7)
def X2_leastNearer_4b (k4 : (Int32 → Int32 → Option (Int32))) (k71 : (Int32 → Option (Int32))) (σ : St) (v1 : Int32) (v2 : Int32) (v3 : Int32) : Option (Int32) :=
  if (σ.1 8) ≤ v3 then
    k71 v2
  else
    bd (X2_nextOf σ v1 v3) (fun t2 =>
    bd (X2_distanceOf σ t2) (fun t3 =>
    bd (X2_distanceOf σ v1) (fun t4 =>
    if t3 = (t4 - (1 : Int32)) then
      X2_leastNearer_44 k4 σ v1 v2 v3 t2 (1 : Int32)
    else
      X2_leastNearer_44 k4 σ v1 v2 v3 t2 (0 : Int32))))
def X2_leastNearer_4 (k71 : (Int32 → Option (Int32))) (σ : St) (v1 : Int32) : Nat → Int32 → Int32 → Option (Int32)
  | 0, _, _ => none
  | n + 1, v2, v3 => X2_leastNearer_4b (fun v2 v3 => X2_leastNearer_4 k71 σ v1 n v2 v3) k71 σ v1 v2 v3
def X2_leastNearer_71 (σ : St) (v2 : Int32) : Option (Int32) :=
  some v2
def X2_leastNearer (N : Nat) (σ : St) (v1 : Int32) : Option (Int32) :=
  X2_leastNearer_4 (fun v2 => X2_leastNearer_71 σ v2) σ v1 N (-1 : Int32) (0 : Int32)
set_option maxRecDepth 20000 in
set_option maxHeartbeats 4000000 in
theorem c_X2_leastNearer {l : Launch} {D : va_G} {a : Nat → Nat} {cA : Nat → ClassId} {t : Nat} {F : (Nat → Prop) → State → Prop} (hF : EOK F) {σ : St} {N : Nat} {v1 : Int32} {r : Int32} (h : X2_leastNearer N σ v1 = some r) : MetI l yX2_leastNearer cX2_leastNearer 6 (some .int) 1 D (tyW cA) (wS a cA) (ES t F) [.ref (a 3), .int v1] σ r σ := by
  refine mkI (by decide) (adrS a cA) (Or.inl rfl) (Nat.le_of_ble_eq_true rfl) ?_
  intro p e R s m args below meth c A Q ls X hR hp hl
  obtain ⟨hx, hb, -, hown, hts, -⟩ := id X
  have J_44 : ∀ (v1 : Int32) (v2 : Int32) (v3 : Int32) (v4 : Int32) (u0 : Int32) (k4 : (Int32 → Int32 → Option (Int32))) (hk4 : ∀ (v2 : Int32) (v3 : Int32) (H : Heap) (locs : List Loc) (ls : Array Slot), Pw D (wS a cA) A s.heap H locs σ → lv_has ls 6 [(0, .ref (a 3)), (1, .int v1), (2, .int v2), (3, .int v3)] → k4 v2 v3 = some r → W p l e R s m args below meth c H locs 0 0 Q (F0 m 4 ls [])) (H : Heap) (locs : List Loc) (ls : Array Slot), Pw D (wS a cA) A s.heap H locs σ → lv_has ls 6 [(0, .ref (a 3)), (1, .int v1), (2, .int v2), (3, .int v3), (4, .int v4)] → X2_leastNearer_44 k4 σ v1 v2 v3 v4 u0 = some r → W p l e R s m args below meth c H locs 0 0 Q (F0 m 44 ls [.int u0]) := by
    intro v1 v2 v3 v4 u0 k4 hk4 H locs ls hp hl h
    unfold X2_leastNearer_44 at h
    refine lv_istore (lv' := [(5, .int u0), (0, .ref (a 3)), (1, .int v1), (2, .int v2), (3, .int v3), (4, .int v4)]) hx hb dX2_leastNearer_44 hl (by decide) rfl (fun ls hl => ?_)
    refine lv_iload hx hb dX2_leastNearer_46 (lv_at hl 0 rfl) ?_
    refine lv_if_eq (tgt := 65) hx hb dX2_leastNearer_48 (by decide) (fun c1 => ?_) (fun c1 => ?_)
    · have h := it_p h c1
      obtain ⟨x2, ex2⟩ : ∃ z : Int32, z = v3 + (1 : Int32) := ⟨_, rfl⟩
      have h := nm_s h x2 ex2
      refine lv_iinc (v := x2) (lv' := [(3, .int x2), (5, .int u0), (0, .ref (a 3)), (1, .int v1), (2, .int v2), (4, .int v4)]) hx hb dX2_leastNearer_65 hl (k := 4) rfl (by rw [ex2]; rfl) (by decide) rfl (fun ls hl => ?_)
      refine lv_goto (tgt := 4) hx hb dX2_leastNearer_68 (by decide) ?_
      exact hk4 v2 x2 _ _ _ hp (lv_sub hl [2, 3, 4, 0] rfl) h
    · have h := it_n h c1
      refine lv_iload_n hx hb dX2_leastNearer_51 rfl (lv_at hl 3 rfl) ?_
      refine lv_iconst (v := -1) hx hb dX2_leastNearer_52 (by decide) ?_
      refine lv_icmp_eq (tgt := 62) hx hb dX2_leastNearer_53 (by decide) (fun c3 => ?_) (fun c3 => ?_)
      · have h := it_p h c3
        refine lv_iload hx hb dX2_leastNearer_62 (lv_at hl 5 rfl) ?_
        refine lv_istore_n (lv' := [(2, .int v4), (5, .int u0), (0, .ref (a 3)), (1, .int v1), (3, .int v3), (4, .int v4)]) hx hb dX2_leastNearer_64 rfl hl (by decide) rfl (fun ls hl => ?_)
        obtain ⟨x4, ex4⟩ : ∃ z : Int32, z = v3 + (1 : Int32) := ⟨_, rfl⟩
        have h := nm_s h x4 ex4
        refine lv_iinc (v := x4) (lv' := [(3, .int x4), (2, .int v4), (5, .int u0), (0, .ref (a 3)), (1, .int v1), (4, .int v4)]) hx hb dX2_leastNearer_65 hl (k := 4) rfl (by rw [ex4]; rfl) (by decide) rfl (fun ls hl => ?_)
        refine lv_goto (tgt := 4) hx hb dX2_leastNearer_68 (by decide) ?_
        exact hk4 v4 x4 _ _ _ hp (lv_sub hl [3, 4, 1, 0] rfl) h
      · have h := it_n h c3
        refine lv_iload hx hb dX2_leastNearer_56 (lv_at hl 5 rfl) ?_
        refine lv_iload_n hx hb dX2_leastNearer_58 rfl (lv_at hl 3 rfl) ?_
        refine lv_icmp_ge (tgt := 65) hx hb dX2_leastNearer_59 (by decide) (fun c5 => ?_) (fun c5 => ?_)
        · have h := it_p h c5
          obtain ⟨x6, ex6⟩ : ∃ z : Int32, z = v3 + (1 : Int32) := ⟨_, rfl⟩
          have h := nm_s h x6 ex6
          refine lv_iinc (v := x6) (lv' := [(3, .int x6), (5, .int u0), (0, .ref (a 3)), (1, .int v1), (2, .int v2), (4, .int v4)]) hx hb dX2_leastNearer_65 hl (k := 4) rfl (by rw [ex6]; rfl) (by decide) rfl (fun ls hl => ?_)
          refine lv_goto (tgt := 4) hx hb dX2_leastNearer_68 (by decide) ?_
          exact hk4 v2 x6 _ _ _ hp (lv_sub hl [2, 3, 4, 0] rfl) h
        · have h := it_n h c5
          refine lv_iload hx hb dX2_leastNearer_62 (lv_at hl 5 rfl) ?_
          refine lv_istore_n (lv' := [(2, .int v4), (5, .int u0), (0, .ref (a 3)), (1, .int v1), (3, .int v3), (4, .int v4)]) hx hb dX2_leastNearer_64 rfl hl (by decide) rfl (fun ls hl => ?_)
          obtain ⟨x7, ex7⟩ : ∃ z : Int32, z = v3 + (1 : Int32) := ⟨_, rfl⟩
          have h := nm_s h x7 ex7
          refine lv_iinc (v := x7) (lv' := [(3, .int x7), (2, .int v4), (5, .int u0), (0, .ref (a 3)), (1, .int v1), (4, .int v4)]) hx hb dX2_leastNearer_65 hl (k := 4) rfl (by rw [ex7]; rfl) (by decide) rfl (fun ls hl => ?_)
          refine lv_goto (tgt := 4) hx hb dX2_leastNearer_68 (by decide) ?_
          exact hk4 v4 x7 _ _ _ hp (lv_sub hl [3, 4, 1, 0] rfl) h
  have J_4 : ∀ (v1 : Int32) (k71 : (Int32 → Option (Int32))) (hk71 : ∀ (v2 : Int32) (H : Heap) (locs : List Loc) (ls : Array Slot), Pw D (wS a cA) A s.heap H locs σ → lv_has ls 6 [(0, .ref (a 3)), (2, .int v2)] → k71 v2 = some r → W p l e R s m args below meth c H locs 0 0 Q (F0 m 71 ls [])) (n : Nat) (v2 : Int32) (v3 : Int32) (H : Heap) (locs : List Loc) (ls : Array Slot), Pw D (wS a cA) A s.heap H locs σ → lv_has ls 6 [(0, .ref (a 3)), (1, .int v1), (2, .int v2), (3, .int v3)] → X2_leastNearer_4 k71 σ v1 n v2 v3 = some r → W p l e R s m args below meth c H locs 0 0 Q (F0 m 4 ls []) := by
    intro v1 k71 hk71 n
    induction n with
    | zero => intro v2 v3 H locs ls hp hl h; exact nn_s (show (none : Option (Int32)) = some _ from h)
    | succ n ih =>
      intro v2 v3 H locs ls hp hl h
      have h : X2_leastNearer_4b (fun v2 v3 => X2_leastNearer_4 k71 σ v1 n v2 v3) k71 σ v1 v2 v3 = some r := h
      unfold X2_leastNearer_4b at h
      have hk4 := ih
      refine lv_iload_n hx hb dX2_leastNearer_4 rfl (lv_at hl 3 rfl) ?_
      refine lv_aload_n hx hb dX2_leastNearer_5 rfl (lv_at hl 0 rfl) ?_
      refine gS_X2_circuit X hp tw_4_0 dX2_leastNearer_6 ?_
      refine gS_X0_inputValues X hp tw_22_20 dX2_leastNearer_9 ?_
      refine lv_icmp_ge (tgt := 71) hx hb dX2_leastNearer_12 (by decide) (fun c1 => ?_) (fun c1 => ?_)
      · have h := it_p h c1
        exact hk71 v2 _ _ _ hp (lv_sub hl [0, 2] rfl) h
      · have h := it_n h c1
        refine lv_aload_n hx hb dX2_leastNearer_15 rfl (lv_at hl 0 rfl) ?_
        refine lv_iload_n hx hb dX2_leastNearer_16 rfl (lv_at hl 1 rfl) ?_
        refine lv_iload_n hx hb dX2_leastNearer_17 rfl (lv_at hl 3 rfl) ?_
        obtain ⟨t2, ht2, h⟩ := bd_s h
        refine cl_Vi X (eokS hF) (c_X2_nextOf hF ht2) tw_25_12 mw_X2_nextOf (by decide) hp 3 rfl rfl rfl hl.1 rfl (Nat.le_of_ble_eq_true rfl) dX2_leastNearer_18 (fun H locs hp => ?_)
        refine lv_istore (lv' := [(4, .int t2), (0, .ref (a 3)), (1, .int v1), (2, .int v2), (3, .int v3)]) hx hb dX2_leastNearer_21 hl (by decide) rfl (fun ls hl => ?_)
        refine lv_aload_n hx hb dX2_leastNearer_23 rfl (lv_at hl 1 rfl) ?_
        refine lv_iload hx hb dX2_leastNearer_24 (lv_at hl 0 rfl) ?_
        obtain ⟨t3, ht3, h⟩ := bd_s h
        refine cl_Vi X (eokS hF) (c_X2_distanceOf hF ht3) tw_30_2 mw_X2_distanceOf (by decide) hp 3 rfl rfl rfl hl.1 rfl (Nat.le_of_ble_eq_true rfl) dX2_leastNearer_26 (fun H locs hp => ?_)
        refine lv_aload_n hx hb dX2_leastNearer_29 rfl (lv_at hl 1 rfl) ?_
        refine lv_iload_n hx hb dX2_leastNearer_30 rfl (lv_at hl 2 rfl) ?_
        obtain ⟨t4, ht4, h⟩ := bd_s h
        refine cl_Vi X (eokS hF) (c_X2_distanceOf hF ht4) tw_30_2 mw_X2_distanceOf (by decide) hp 3 rfl rfl rfl hl.1 rfl (Nat.le_of_ble_eq_true rfl) dX2_leastNearer_31 (fun H locs hp => ?_)
        refine lv_iconst (v := 1) hx hb dX2_leastNearer_34 (by decide) ?_
        refine lv_isub hx hb dX2_leastNearer_35 ?_
        refine lv_icmp_ne (tgt := 43) hx hb dX2_leastNearer_36 (by decide) (fun c5 => ?_) (fun c5 => ?_)
        · have h := it_n h c5
          refine lv_iconst (v := 0) hx hb dX2_leastNearer_43 (by decide) ?_
          exact J_44 v1 v2 v3 t2 (0 : Int32) _ hk4 _ _ _ hp (lv_sub hl [1, 2, 3, 4, 0] rfl) h
        · have h := it_p h c5
          refine lv_iconst (v := 1) hx hb dX2_leastNearer_39 (by decide) ?_
          refine lv_goto (tgt := 44) hx hb dX2_leastNearer_40 (by decide) ?_
          exact J_44 v1 v2 v3 t2 (1 : Int32) _ hk4 _ _ _ hp (lv_sub hl [1, 2, 3, 4, 0] rfl) h
  have J_71 : ∀ (v2 : Int32) (H : Heap) (locs : List Loc) (ls : Array Slot), Pw D (wS a cA) A s.heap H locs σ → lv_has ls 6 [(0, .ref (a 3)), (2, .int v2)] → X2_leastNearer_71 σ v2 = some r → W p l e R s m args below meth c H locs 0 0 Q (F0 m 71 ls []) := by
    intro v2 H locs ls hp hl h
    unfold X2_leastNearer_71 at h
    refine lv_iload_n hx hb dX2_leastNearer_71 rfl (lv_at hl 1 rfl) ?_
    exact hR _ _ _ _ _ _ dX2_leastNearer_72 hp (Option.some.inj h) rfl (fun q => by cases q)
  unfold X2_leastNearer at h
  have hl := lv_sub (l' := [(0, .ref (a 3)), (1, .int v1)]) hl [0, 1] rfl
  refine lv_iconst (v := -1) hx hb dX2_leastNearer_0 (by decide) ?_
  refine lv_istore_n (lv' := [(2, .int (-1 : Int32)), (0, .ref (a 3)), (1, .int v1)]) hx hb dX2_leastNearer_1 rfl hl (by decide) rfl (fun ls hl => ?_)
  refine lv_iconst (v := 0) hx hb dX2_leastNearer_2 (by decide) ?_
  refine lv_istore_n (lv' := [(3, .int (0 : Int32)), (2, .int (-1 : Int32)), (0, .ref (a 3)), (1, .int v1)]) hx hb dX2_leastNearer_3 rfl hl (by decide) rfl (fun ls hl => ?_)
  exact J_4 v1 _ (fun v2 H locs ls hp hl h => J_71 v2 _ _ _ hp hl h) _ (-1 : Int32) (0 : Int32) _ _ _ hp (lv_sub hl [2, 3, 1, 0] rfl) h
def X2_stateOfShortestRun_5b (k5 : (Int32 → Int32 → Option (Int32))) (k44 : (Int32 → Int32 → Option (Int32))) (σ : St) (v1 : Int32) (v2 : Int32) (v3 : Int32) : Option (Int32) :=
  if v3 < 0 then
    k44 v1 v2
  else
    bd (X0_initial σ) (fun t2 =>
    bd (X6_contains t2 v3) (fun t3 =>
    if t3 = 0 then
      nm (v3 + (-1 : Int32)) (fun (x5 : Int32) =>
      k5 v2 x5)
    else
      gd (inb v3 64) (
      if (σ.2.2.1 5 v3.toNatClampNeg) = (σ.1 12) then
        nm (v3 + (-1 : Int32)) (fun (x9 : Int32) =>
        k5 v3 x9)
      else
        nm (v3 + (-1 : Int32)) (fun (x8 : Int32) =>
        k5 v2 x8))))
def X2_stateOfShortestRun_5 (k44 : (Int32 → Int32 → Option (Int32))) (σ : St) (v1 : Int32) : Nat → Int32 → Int32 → Option (Int32)
  | 0, _, _ => none
  | n + 1, v2, v3 => X2_stateOfShortestRun_5b (fun v2 v3 => X2_stateOfShortestRun_5 k44 σ v1 n v2 v3) k44 σ v1 v2 v3
def X2_stateOfShortestRun_46b (N : Nat) (k46 : (Int32 → Int32 → Option (Int32))) (k68 : (Int32 → Option (Int32))) (σ : St) (v1 : Int32) (v2 : Int32) (v3 : Int32) : Option (Int32) :=
  if v1 ≤ v3 then
    k68 v2
  else
    if v2 = (-1 : Int32) then
      k68 v2
    else
      bd (X2_leastNearer N σ v2) (fun t3 =>
      nm (v3 + (1 : Int32)) (fun (x4 : Int32) =>
      k46 t3 x4))
def X2_stateOfShortestRun_46 (N : Nat) (k68 : (Int32 → Option (Int32))) (σ : St) (v1 : Int32) : Nat → Int32 → Int32 → Option (Int32)
  | 0, _, _ => none
  | n + 1, v2, v3 => X2_stateOfShortestRun_46b N (fun v2 v3 => X2_stateOfShortestRun_46 N k68 σ v1 n v2 v3) k68 σ v1 v2 v3
def X2_stateOfShortestRun_68 (σ : St) (v2 : Int32) : Option (Int32) :=
  some v2
def X2_stateOfShortestRun_44 (N : Nat) (σ : St) (v1 : Int32) (v2 : Int32) : Option (Int32) :=
  X2_stateOfShortestRun_46 N (fun v2 => X2_stateOfShortestRun_68 σ v2) σ v1 N v2 (0 : Int32)
def X2_stateOfShortestRun (N : Nat) (σ : St) (v1 : Int32) : Option (Int32) :=
  X2_stateOfShortestRun_5 (fun v1 v2 => X2_stateOfShortestRun_44 N σ v1 v2) σ v1 N (-1 : Int32) (63 : Int32)
set_option maxRecDepth 20000 in
set_option maxHeartbeats 4000000 in
theorem c_X2_stateOfShortestRun {l : Launch} {D : va_G} {a : Nat → Nat} {cA : Nat → ClassId} {t : Nat} {F : (Nat → Prop) → State → Prop} (hF : EOK F) {σ : St} {N : Nat} {v1 : Int32} {r : Int32} (h : X2_stateOfShortestRun N σ v1 = some r) : MetI l yX2_stateOfShortestRun cX2_stateOfShortestRun 4 (some .int) 2 D (tyW cA) (wS a cA) (ES t F) [.ref (a 3), .int v1] σ r σ := by
  refine mkI (by decide) (adrS a cA) (Or.inl rfl) (Nat.le_of_ble_eq_true rfl) ?_
  intro p e R s m args below meth c A Q ls X hR hp hl
  obtain ⟨hx, hb, -, hown, hts, -⟩ := id X
  have J_5 : ∀ (v1 : Int32) (k44 : (Int32 → Int32 → Option (Int32))) (hk44 : ∀ (v1 : Int32) (v2 : Int32) (H : Heap) (locs : List Loc) (ls : Array Slot), Pw D (wS a cA) A s.heap H locs σ → lv_has ls 4 [(0, .ref (a 3)), (1, .int v1), (2, .int v2)] → k44 v1 v2 = some r → W p l e R s m args below meth c H locs 0 0 Q (F0 m 44 ls [])) (n : Nat) (v2 : Int32) (v3 : Int32) (H : Heap) (locs : List Loc) (ls : Array Slot), Pw D (wS a cA) A s.heap H locs σ → lv_has ls 4 [(0, .ref (a 3)), (1, .int v1), (2, .int v2), (3, .int v3)] → X2_stateOfShortestRun_5 k44 σ v1 n v2 v3 = some r → W p l e R s m args below meth c H locs 0 0 Q (F0 m 5 ls []) := by
    intro v1 k44 hk44 n
    induction n with
    | zero => intro v2 v3 H locs ls hp hl h; exact nn_s (show (none : Option (Int32)) = some _ from h)
    | succ n ih =>
      intro v2 v3 H locs ls hp hl h
      have h : X2_stateOfShortestRun_5b (fun v2 v3 => X2_stateOfShortestRun_5 k44 σ v1 n v2 v3) k44 σ v1 v2 v3 = some r := h
      unfold X2_stateOfShortestRun_5b at h
      have hk5 := ih
      refine lv_iload_n hx hb dX2_stateOfShortestRun_5 rfl (lv_at hl 3 rfl) ?_
      refine lv_if_lt (tgt := 44) hx hb dX2_stateOfShortestRun_6 (by decide) (fun c1 => ?_) (fun c1 => ?_)
      · have h := it_p h c1
        exact hk44 v1 v2 _ _ _ hp (lv_sub hl [0, 1, 2] rfl) h
      · have h := it_n h c1
        refine lv_aload_n hx hb dX2_stateOfShortestRun_9 rfl (lv_at hl 0 rfl) ?_
        refine gS_X2_circuit X hp tw_4_0 dX2_stateOfShortestRun_10 ?_
        obtain ⟨t2, ht2, h⟩ := bd_s h
        refine cl_Vl X (eokS hF) (c_X0_initial hF ht2) tw_23_12 mw_X0_initial (by decide) hp 2 rfl rfl rfl hl.1 rfl (Nat.le_of_ble_eq_true rfl) dX2_stateOfShortestRun_13 (fun H locs hp => ?_)
        refine lv_iload_n hx hb dX2_stateOfShortestRun_16 rfl (lv_at hl 3 rfl) ?_
        obtain ⟨t3, ht3, h⟩ := bd_s h
        refine cl_Ni X (eokS hF) (c_X6_contains (adrS a cA) (eokS hF) ht3) (nwS X (List.mem_of_getElem? (i := 6) rfl)) mw_X6_contains (by decide) hp hl.1 rfl (Nat.le_of_ble_eq_true rfl) dX2_stateOfShortestRun_17 (fun H locs hp => ?_)
        refine lv_if_eq (tgt := 38) hx hb dX2_stateOfShortestRun_20 (by decide) (fun c4 => ?_) (fun c4 => ?_)
        · have h := it_p h c4
          obtain ⟨x5, ex5⟩ : ∃ z : Int32, z = v3 + (-1 : Int32) := ⟨_, rfl⟩
          have h := nm_s h x5 ex5
          refine lv_iinc (v := x5) (lv' := [(3, .int x5), (0, .ref (a 3)), (1, .int v1), (2, .int v2)]) hx hb dX2_stateOfShortestRun_38 hl (k := 3) rfl (by rw [ex5]; rfl) (by decide) rfl (fun ls hl => ?_)
          refine lv_goto (tgt := 5) hx hb dX2_stateOfShortestRun_41 (by decide) ?_
          exact hk5 v2 x5 _ _ _ hp (lv_sub hl [1, 2, 3, 0] rfl) h
        · have h := it_n h c4
          refine lv_aload_n hx hb dX2_stateOfShortestRun_23 rfl (lv_at hl 0 rfl) ?_
          refine gS_X2_distances X hp tw_4_5 dX2_stateOfShortestRun_24 ?_
          refine lv_iload_n hx hb dX2_stateOfShortestRun_27 rfl (lv_at hl 3 rfl) ?_
          obtain ⟨g6, h⟩ := gd_s h
          refine lS_X2_distances X hp g6 dX2_stateOfShortestRun_28 ?_
          refine lv_aload_n hx hb dX2_stateOfShortestRun_29 rfl (lv_at hl 0 rfl) ?_
          refine gS_X2_runLength X hp tw_24_18 dX2_stateOfShortestRun_30 ?_
          refine lv_icmp_ne (tgt := 38) hx hb dX2_stateOfShortestRun_33 (by decide) (fun c7 => ?_) (fun c7 => ?_)
          · have h := it_n h c7
            obtain ⟨x8, ex8⟩ : ∃ z : Int32, z = v3 + (-1 : Int32) := ⟨_, rfl⟩
            have h := nm_s h x8 ex8
            refine lv_iinc (v := x8) (lv' := [(3, .int x8), (0, .ref (a 3)), (1, .int v1), (2, .int v2)]) hx hb dX2_stateOfShortestRun_38 hl (k := 3) rfl (by rw [ex8]; rfl) (by decide) rfl (fun ls hl => ?_)
            refine lv_goto (tgt := 5) hx hb dX2_stateOfShortestRun_41 (by decide) ?_
            exact hk5 v2 x8 _ _ _ hp (lv_sub hl [1, 2, 3, 0] rfl) h
          · have h := it_p h c7
            refine lv_iload_n hx hb dX2_stateOfShortestRun_36 rfl (lv_at hl 3 rfl) ?_
            refine lv_istore_n (lv' := [(2, .int v3), (0, .ref (a 3)), (1, .int v1), (3, .int v3)]) hx hb dX2_stateOfShortestRun_37 rfl hl (by decide) rfl (fun ls hl => ?_)
            obtain ⟨x9, ex9⟩ : ∃ z : Int32, z = v3 + (-1 : Int32) := ⟨_, rfl⟩
            have h := nm_s h x9 ex9
            refine lv_iinc (v := x9) (lv' := [(3, .int x9), (2, .int v3), (0, .ref (a 3)), (1, .int v1)]) hx hb dX2_stateOfShortestRun_38 hl (k := 3) rfl (by rw [ex9]; rfl) (by decide) rfl (fun ls hl => ?_)
            refine lv_goto (tgt := 5) hx hb dX2_stateOfShortestRun_41 (by decide) ?_
            exact hk5 v3 x9 _ _ _ hp (lv_sub hl [2, 3, 1, 0] rfl) h
  have J_46 : ∀ (v1 : Int32) (k68 : (Int32 → Option (Int32))) (hk68 : ∀ (v2 : Int32) (H : Heap) (locs : List Loc) (ls : Array Slot), Pw D (wS a cA) A s.heap H locs σ → lv_has ls 4 [(0, .ref (a 3)), (2, .int v2)] → k68 v2 = some r → W p l e R s m args below meth c H locs 0 0 Q (F0 m 68 ls [])) (n : Nat) (v2 : Int32) (v3 : Int32) (H : Heap) (locs : List Loc) (ls : Array Slot), Pw D (wS a cA) A s.heap H locs σ → lv_has ls 4 [(0, .ref (a 3)), (1, .int v1), (2, .int v2), (3, .int v3)] → X2_stateOfShortestRun_46 N k68 σ v1 n v2 v3 = some r → W p l e R s m args below meth c H locs 0 0 Q (F0 m 46 ls []) := by
    intro v1 k68 hk68 n
    induction n with
    | zero => intro v2 v3 H locs ls hp hl h; exact nn_s (show (none : Option (Int32)) = some _ from h)
    | succ n ih =>
      intro v2 v3 H locs ls hp hl h
      have h : X2_stateOfShortestRun_46b N (fun v2 v3 => X2_stateOfShortestRun_46 N k68 σ v1 n v2 v3) k68 σ v1 v2 v3 = some r := h
      unfold X2_stateOfShortestRun_46b at h
      have hk46 := ih
      refine lv_iload_n hx hb dX2_stateOfShortestRun_46 rfl (lv_at hl 3 rfl) ?_
      refine lv_iload_n hx hb dX2_stateOfShortestRun_47 rfl (lv_at hl 1 rfl) ?_
      refine lv_icmp_ge (tgt := 68) hx hb dX2_stateOfShortestRun_48 (by decide) (fun c1 => ?_) (fun c1 => ?_)
      · have h := it_p h c1
        exact hk68 v2 _ _ _ hp (lv_sub hl [0, 2] rfl) h
      · have h := it_n h c1
        refine lv_iload_n hx hb dX2_stateOfShortestRun_51 rfl (lv_at hl 2 rfl) ?_
        refine lv_iconst (v := -1) hx hb dX2_stateOfShortestRun_52 (by decide) ?_
        refine lv_icmp_eq (tgt := 68) hx hb dX2_stateOfShortestRun_53 (by decide) (fun c2 => ?_) (fun c2 => ?_)
        · have h := it_p h c2
          exact hk68 v2 _ _ _ hp (lv_sub hl [0, 2] rfl) h
        · have h := it_n h c2
          refine lv_aload_n hx hb dX2_stateOfShortestRun_56 rfl (lv_at hl 0 rfl) ?_
          refine lv_iload_n hx hb dX2_stateOfShortestRun_57 rfl (lv_at hl 2 rfl) ?_
          obtain ⟨t3, ht3, h⟩ := bd_s h
          refine cl_Vi X (eokS hF) (c_X2_leastNearer hF ht3) tw_29_22 mw_X2_leastNearer (by decide) hp 3 rfl rfl rfl hl.1 rfl (Nat.le_of_ble_eq_true rfl) dX2_stateOfShortestRun_58 (fun H locs hp => ?_)
          refine lv_istore_n (lv' := [(2, .int t3), (0, .ref (a 3)), (1, .int v1), (3, .int v3)]) hx hb dX2_stateOfShortestRun_61 rfl hl (by decide) rfl (fun ls hl => ?_)
          obtain ⟨x4, ex4⟩ : ∃ z : Int32, z = v3 + (1 : Int32) := ⟨_, rfl⟩
          have h := nm_s h x4 ex4
          refine lv_iinc (v := x4) (lv' := [(3, .int x4), (2, .int t3), (0, .ref (a 3)), (1, .int v1)]) hx hb dX2_stateOfShortestRun_62 hl (k := 3) rfl (by rw [ex4]; rfl) (by decide) rfl (fun ls hl => ?_)
          refine lv_goto (tgt := 46) hx hb dX2_stateOfShortestRun_65 (by decide) ?_
          exact hk46 t3 x4 _ _ _ hp (lv_sub hl [2, 3, 1, 0] rfl) h
  have J_68 : ∀ (v2 : Int32) (H : Heap) (locs : List Loc) (ls : Array Slot), Pw D (wS a cA) A s.heap H locs σ → lv_has ls 4 [(0, .ref (a 3)), (2, .int v2)] → X2_stateOfShortestRun_68 σ v2 = some r → W p l e R s m args below meth c H locs 0 0 Q (F0 m 68 ls []) := by
    intro v2 H locs ls hp hl h
    unfold X2_stateOfShortestRun_68 at h
    refine lv_iload_n hx hb dX2_stateOfShortestRun_68 rfl (lv_at hl 1 rfl) ?_
    exact hR _ _ _ _ _ _ dX2_stateOfShortestRun_69 hp (Option.some.inj h) rfl (fun q => by cases q)
  have J_44 : ∀ (v1 : Int32) (v2 : Int32) (H : Heap) (locs : List Loc) (ls : Array Slot), Pw D (wS a cA) A s.heap H locs σ → lv_has ls 4 [(0, .ref (a 3)), (1, .int v1), (2, .int v2)] → X2_stateOfShortestRun_44 N σ v1 v2 = some r → W p l e R s m args below meth c H locs 0 0 Q (F0 m 44 ls []) := by
    intro v1 v2 H locs ls hp hl h
    unfold X2_stateOfShortestRun_44 at h
    refine lv_iconst (v := 0) hx hb dX2_stateOfShortestRun_44 (by decide) ?_
    refine lv_istore_n (lv' := [(3, .int (0 : Int32)), (0, .ref (a 3)), (1, .int v1), (2, .int v2)]) hx hb dX2_stateOfShortestRun_45 rfl hl (by decide) rfl (fun ls hl => ?_)
    exact J_46 v1 _ (fun v2 H locs ls hp hl h => J_68 v2 _ _ _ hp hl h) _ v2 (0 : Int32) _ _ _ hp (lv_sub hl [1, 2, 3, 0] rfl) h
  unfold X2_stateOfShortestRun at h
  have hl := lv_sub (l' := [(0, .ref (a 3)), (1, .int v1)]) hl [0, 1] rfl
  refine lv_iconst (v := -1) hx hb dX2_stateOfShortestRun_0 (by decide) ?_
  refine lv_istore_n (lv' := [(2, .int (-1 : Int32)), (0, .ref (a 3)), (1, .int v1)]) hx hb dX2_stateOfShortestRun_1 rfl hl (by decide) rfl (fun ls hl => ?_)
  refine lv_bipush (v := 63) hx hb dX2_stateOfShortestRun_2 (by decide) ?_
  refine lv_istore_n (lv' := [(3, .int (63 : Int32)), (2, .int (-1 : Int32)), (0, .ref (a 3)), (1, .int v1)]) hx hb dX2_stateOfShortestRun_4 rfl hl (by decide) rfl (fun ls hl => ?_)
  exact J_5 v1 _ (fun v1 v2 H locs ls hp hl h => J_44 v1 v2 _ _ _ hp hl h) _ (-1 : Int32) (63 : Int32) _ _ _ hp (lv_sub hl [2, 3, 1, 0] rfl) h
