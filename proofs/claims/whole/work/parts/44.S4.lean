/- X6_undo X6_requireState X6_contains X0_step X6_successor J7_fill_d0a16_a15 X2_findSuccessors J7_fill_53178_a16 X2_mark_a16 X6_leastOf X2_unionOver_a14 X2_successorsOf X2_findDepths -/
def X6_undo (N : Nat) (σ : St) : Option (Int32 × St) :=
  if (σ.1 10) = 0 then
    none
  else
    bd (X0_restoreLatest N σ) (fun t2 =>
    bd (X6_forgetResults t2) (fun t3 =>
    some ((t3.1 10), t3)))
set_option maxRecDepth 20000 in
set_option maxHeartbeats 4000000 in
theorem c_X6_undo {l : Launch} {D : va_G} {a : Nat → Nat} {cA : Nat → ClassId} {t : Nat} {F : (Nat → Prop) → State → Prop} (hF : EOK F) {σ : St} {N : Nat} {r : Int32} {σ' : St} (h : X6_undo N σ = some (r, σ')) : MetI l yX6_undo cX6_undo 1 (some .int) 2 D (tyW cA) (wS a cA) (ES t F) [.ref (a 0)] σ r σ' := by
  refine mkI (by decide) (adrS a cA) (Or.inl rfl) (Nat.le_of_ble_eq_true rfl) ?_
  intro p e R s m args below meth c A Q ls X hR hp hl
  obtain ⟨hx, hb, -, hown, hts, -⟩ := id X
  unfold X6_undo at h
  have hl := lv_sub (l' := [(0, .ref (a 0))]) hl [0] rfl
  refine lv_aload_n hx hb dX6_undo_0 rfl (lv_at hl 0 rfl) ?_
  refine gS_X6_circuit X hp tw_1_20 dX6_undo_1 ?_
  refine gS_X0_keptCount X hp tw_20_16 dX6_undo_4 ?_
  refine lv_if_ne (tgt := 20) hx hb dX6_undo_7 (by decide) (fun c1 => ?_) (fun c1 => ?_)
  · have h := it_n h c1
    refine lv_aload_n hx hb dX6_undo_20 rfl (lv_at hl 0 rfl) ?_
    refine gS_X6_circuit X hp tw_1_20 dX6_undo_21 ?_
    obtain ⟨t2, ht2, h⟩ := bd_s h
    refine cl_Vv X (eokS hF) (c_X0_restoreLatest hF ht2) tw_20_17 mw_X0_restoreLatest (by decide) hp 2 rfl rfl rfl hl.1 rfl (Nat.le_of_ble_eq_true rfl) dX6_undo_24 (fun H locs hp => ?_)
    refine lv_aload_n hx hb dX6_undo_27 rfl (lv_at hl 0 rfl) ?_
    obtain ⟨t3, ht3, h⟩ := bd_s h
    refine cl_Vv X (eokS hF) (c_X6_forgetResults hF ht3) tw_7_23 mw_X6_forgetResults (by decide) hp 0 rfl rfl rfl hl.1 rfl (Nat.le_of_ble_eq_true rfl) dX6_undo_28 (fun H locs hp => ?_)
    refine lv_aload_n hx hb dX6_undo_31 rfl (lv_at hl 0 rfl) ?_
    refine gS_X6_circuit X hp tw_1_20 dX6_undo_32 ?_
    refine gS_X0_keptCount X hp tw_20_16 dX6_undo_35 ?_
    exact hR _ _ _ _ _ _ dX6_undo_38 hp (congrArg Prod.fst (Option.some.inj h)) (congrArg Prod.snd (Option.some.inj h)) (fun q => by cases q)
  · have h := it_p h c1
    exact nn_s h
def X6_requireState_15 (σ : St) : Option (St) :=
  none
def X6_requireState (v1 : Int32) (σ : St) : Option (St) :=
  if v1 < 0 then
    X6_requireState_15 σ
  else
    if v1 < (σ.1 7) then
      some σ
    else
      X6_requireState_15 σ
set_option maxRecDepth 20000 in
set_option maxHeartbeats 4000000 in
theorem c_X6_requireState {l : Launch} {D : va_G} {a : Nat → Nat} {cA : Nat → ClassId} {t : Nat} {F : (Nat → Prop) → State → Prop} (hF : EOK F) {σ : St} {v1 : Int32} {σ' : St} (h : X6_requireState v1 σ = some σ') : MetV l yX6_requireState cX6_requireState 2 none 0 D (tyW cA) (wS a cA) (ES t F) [.ref (a 0), .int v1] σ σ' := by
  refine mkV (by decide) (adrS a cA) rfl (Nat.le_of_ble_eq_true rfl) ?_
  intro p e R s m args below meth c A Q ls X hR hp hl
  obtain ⟨hx, hb, -, hown, hts, -⟩ := id X
  have J_15 : ∀  (σ : St) (H : Heap) (locs : List Loc) (ls : Array Slot), Pw D (wS a cA) A s.heap H locs σ → lv_has ls 2 [(0, .ref (a 0))] → X6_requireState_15 σ = some σ' → W p l e R s m args below meth c H locs 0 0 Q (F0 m 15 ls []) := by
    intro σ H locs ls hp hl h
    unfold X6_requireState_15 at h
    exact nn_s h
  unfold X6_requireState at h
  have hl := lv_sub (l' := [(0, .ref (a 0)), (1, .int v1)]) hl [0, 1] rfl
  refine lv_iload_n hx hb dX6_requireState_0 rfl (lv_at hl 1 rfl) ?_
  refine lv_if_lt (tgt := 15) hx hb dX6_requireState_1 (by decide) (fun c1 => ?_) (fun c1 => ?_)
  · have h := it_p h c1
    exact J_15 σ _ _ _ hp (lv_sub hl [0] rfl) h
  · have h := it_n h c1
    refine lv_iload_n hx hb dX6_requireState_4 rfl (lv_at hl 1 rfl) ?_
    refine lv_aload_n hx hb dX6_requireState_5 rfl (lv_at hl 0 rfl) ?_
    refine gS_X6_circuit X hp tw_1_20 dX6_requireState_6 ?_
    refine gS_X0_states X hp tw_7_21 dX6_requireState_9 ?_
    refine lv_icmp_lt (tgt := 26) hx hb dX6_requireState_12 (by decide) (fun c2 => ?_) (fun c2 => ?_)
    · have h := it_p h c2
      exact hR _ _ _ _ _ dX6_requireState_26 hp (Option.some.inj h)
    · have h := it_n h c2
      exact J_15 σ _ _ _ hp (lv_sub hl [0] rfl) h
def X6_contains (v0 : Int64) (v2 : Int32) : Option (Int32) :=
  if (((v0.toUInt64 >>> (v2.toInt64.toUInt64 &&& Int64.toUInt64 63)).toInt64) &&& (1 : Int64)) = (0 : Int64) then
    some (0 : Int32)
  else
    some (1 : Int32)
set_option maxRecDepth 20000 in
set_option maxHeartbeats 4000000 in
theorem c_X6_contains {l : Launch} {D : va_G} {tys : List (ClassId × FieldType)} {w : St → va_W} {E : (Nat → Prop) → State → Prop} (hw : Adr w) (hE : EOK E) {σ : St} {v0 : Int64} {v2 : Int32} {r : Int32} (h : X6_contains v0 v2 = some r) : MetI l yX6_contains cX6_contains 3 (some .boolean) 0 D tys w E [.long v0, .int v2] σ r σ := by
  refine mkI (by decide) hw (Or.inr rfl) (Nat.le_of_ble_eq_true rfl) ?_
  intro p e R s m args below meth c A Q ls X hR hp hl
  obtain ⟨hx, hb, -, hown, hts, -⟩ := id X
  unfold X6_contains at h
  have hl := lv_sub (l' := [(0, .long v0), (2, .int v2)]) hl [0, 1] rfl
  refine lv_lload_n hx hb dX6_contains_0 rfl (lv_at hl 0 rfl) ?_
  refine lv_iload_n hx hb dX6_contains_1 rfl (lv_at hl 1 rfl) ?_
  refine lv_lushr hx hb dX6_contains_2 rfl ?_
  refine lv_lconst (v := 1) hx hb dX6_contains_3 (by decide) ?_
  refine lv_land hx hb dX6_contains_4 ?_
  refine lv_lconst (v := 0) hx hb dX6_contains_5 (by decide) ?_
  refine W.lcmp hx hb dX6_contains_6 ?_
  refine lv_if_eq (tgt := 14) hx hb dX6_contains_7 (by decide) (fun c1 => ?_) (fun c1 => ?_)
  · have h := it_p h (lcmp0.mp c1)
    refine lv_iconst (v := 0) hx hb dX6_contains_14 (by decide) ?_
    exact hR _ _ _ _ _ _ dX6_contains_15 hp (Option.some.inj h) rfl (fun _ => Or.inl rfl)
  · have h := it_n h (fun q => c1 (lcmp0.mpr q))
    refine lv_iconst (v := 1) hx hb dX6_contains_10 (by decide) ?_
    refine lv_goto (tgt := 15) hx hb dX6_contains_11 (by decide) ?_
    exact hR _ _ _ _ _ _ dX6_contains_15 hp (Option.some.inj h) rfl (fun _ => Or.inr rfl)
def X0_step_5b (k5 : (Int32 → Int32 → Option (Int32))) (k41 : (Int32 → Option (Int32))) (σ : St) (v1 : Int32) (v2 : Int32) (v3 : Int32) (v4 : Int32) : Option (Int32) :=
  if (σ.1 5) ≤ v4 then
    k41 v3
  else
    bd (X0_table σ v4 v2) (fun t2 =>
    bd (X6_contains t2 v1) (fun t3 =>
    if t3 = 0 then
      nm (v4 + (1 : Int32)) (fun (x5 : Int32) =>
      k5 v3 x5)
    else
      nm (v3 ||| ((1 : Int32) <<< (v4 &&& 31))) (fun (x6 : Int32) =>
      nm (v4 + (1 : Int32)) (fun (x7 : Int32) =>
      k5 x6 x7))))
def X0_step_5 (k41 : (Int32 → Option (Int32))) (σ : St) (v1 : Int32) (v2 : Int32) : Nat → Int32 → Int32 → Option (Int32)
  | 0, _, _ => none
  | n + 1, v3, v4 => X0_step_5b (fun v3 v4 => X0_step_5 k41 σ v1 v2 n v3 v4) k41 σ v1 v2 v3 v4
def X0_step_41 (σ : St) (v3 : Int32) : Option (Int32) :=
  some v3
def X0_step (N : Nat) (σ : St) (v1 : Int32) (v2 : Int32) : Option (Int32) :=
  X0_step_5 (fun v3 => X0_step_41 σ v3) σ v1 v2 N (0 : Int32) (0 : Int32)
set_option maxRecDepth 20000 in
set_option maxHeartbeats 4000000 in
theorem c_X0_step {l : Launch} {D : va_G} {a : Nat → Nat} {cA : Nat → ClassId} {t : Nat} {F : (Nat → Prop) → State → Prop} (hF : EOK F) {σ : St} {N : Nat} {v1 : Int32} {v2 : Int32} {r : Int32} (h : X0_step N σ v1 v2 = some r) : MetI l yX0_step cX0_step 5 (some .int) 1 D (tyW cA) (wS a cA) (ES t F) [.ref (a 2), .int v1, .int v2] σ r σ := by
  refine mkI (by decide) (adrS a cA) (Or.inl rfl) (Nat.le_of_ble_eq_true rfl) ?_
  intro p e R s m args below meth c A Q ls X hR hp hl
  obtain ⟨hx, hb, -, hown, hts, -⟩ := id X
  have J_5 : ∀ (v1 : Int32) (v2 : Int32) (k41 : (Int32 → Option (Int32))) (hk41 : ∀ (v3 : Int32) (H : Heap) (locs : List Loc) (ls : Array Slot), Pw D (wS a cA) A s.heap H locs σ → lv_has ls 5 [(0, .ref (a 2)), (3, .int v3)] → k41 v3 = some r → W p l e R s m args below meth c H locs 0 0 Q (F0 m 41 ls [])) (n : Nat) (v3 : Int32) (v4 : Int32) (H : Heap) (locs : List Loc) (ls : Array Slot), Pw D (wS a cA) A s.heap H locs σ → lv_has ls 5 [(0, .ref (a 2)), (1, .int v1), (2, .int v2), (3, .int v3), (4, .int v4)] → X0_step_5 k41 σ v1 v2 n v3 v4 = some r → W p l e R s m args below meth c H locs 0 0 Q (F0 m 5 ls []) := by
    intro v1 v2 k41 hk41 n
    induction n with
    | zero => intro v3 v4 H locs ls hp hl h; exact nn_s (show (none : Option (Int32)) = some _ from h)
    | succ n ih =>
      intro v3 v4 H locs ls hp hl h
      have h : X0_step_5b (fun v3 v4 => X0_step_5 k41 σ v1 v2 n v3 v4) k41 σ v1 v2 v3 v4 = some r := h
      unfold X0_step_5b at h
      have hk5 := ih
      refine lv_iload hx hb dX0_step_5 (lv_at hl 4 rfl) ?_
      refine lv_aload_n hx hb dX0_step_7 rfl (lv_at hl 0 rfl) ?_
      refine gS_X0_bits X hp tw_3_4 dX0_step_8 ?_
      refine lv_icmp_ge (tgt := 41) hx hb dX0_step_11 (by decide) (fun c1 => ?_) (fun c1 => ?_)
      · have h := it_p h c1
        exact hk41 v3 _ _ _ hp (lv_sub hl [0, 3] rfl) h
      · have h := it_n h c1
        refine lv_aload_n hx hb dX0_step_14 rfl (lv_at hl 0 rfl) ?_
        refine lv_iload hx hb dX0_step_15 (lv_at hl 4 rfl) ?_
        refine lv_iload_n hx hb dX0_step_17 rfl (lv_at hl 2 rfl) ?_
        obtain ⟨t2, ht2, h⟩ := bd_s h
        refine cl_Vl X (eokS hF) (c_X0_table hF ht2) tw_13_12 mw_X0_table (by decide) hp 2 rfl rfl rfl hl.1 rfl (Nat.le_of_ble_eq_true rfl) dX0_step_18 (fun H locs hp => ?_)
        refine lv_iload_n hx hb dX0_step_21 rfl (lv_at hl 1 rfl) ?_
        obtain ⟨t3, ht3, h⟩ := bd_s h
        refine cl_Ni X (eokS hF) (c_X6_contains (adrS a cA) (eokS hF) ht3) (nwS X (List.mem_of_getElem? (i := 5) rfl)) mw_X6_contains (by decide) hp hl.1 rfl (Nat.le_of_ble_eq_true rfl) dX0_step_22 (fun H locs hp => ?_)
        refine lv_if_eq (tgt := 35) hx hb dX0_step_25 (by decide) (fun c4 => ?_) (fun c4 => ?_)
        · have h := it_p h c4
          obtain ⟨x5, ex5⟩ : ∃ z : Int32, z = v4 + (1 : Int32) := ⟨_, rfl⟩
          have h := nm_s h x5 ex5
          refine lv_iinc (v := x5) (lv' := [(4, .int x5), (0, .ref (a 2)), (1, .int v1), (2, .int v2), (3, .int v3)]) hx hb dX0_step_35 hl (k := 4) rfl (by rw [ex5]; rfl) (by decide) rfl (fun ls hl => ?_)
          refine lv_goto (tgt := 5) hx hb dX0_step_38 (by decide) ?_
          exact hk5 v3 x5 _ _ _ hp (lv_sub hl [1, 2, 3, 4, 0] rfl) h
        · have h := it_n h c4
          refine lv_iload_n hx hb dX0_step_28 rfl (lv_at hl 3 rfl) ?_
          refine lv_iconst (v := 1) hx hb dX0_step_29 (by decide) ?_
          refine lv_iload hx hb dX0_step_30 (lv_at hl 4 rfl) ?_
          refine lv_ishl hx hb dX0_step_32 ?_
          refine lv_ior hx hb dX0_step_33 ?_
          refine lv_topi (fun x6 ex6 => ?_)
          have h := nm_s h x6 ex6
          refine lv_istore_n (lv' := [(3, .int x6), (0, .ref (a 2)), (1, .int v1), (2, .int v2), (4, .int v4)]) hx hb dX0_step_34 rfl hl (by decide) rfl (fun ls hl => ?_)
          obtain ⟨x7, ex7⟩ : ∃ z : Int32, z = v4 + (1 : Int32) := ⟨_, rfl⟩
          have h := nm_s h x7 ex7
          refine lv_iinc (v := x7) (lv' := [(4, .int x7), (3, .int x6), (0, .ref (a 2)), (1, .int v1), (2, .int v2)]) hx hb dX0_step_35 hl (k := 4) rfl (by rw [ex7]; rfl) (by decide) rfl (fun ls hl => ?_)
          refine lv_goto (tgt := 5) hx hb dX0_step_38 (by decide) ?_
          exact hk5 x6 x7 _ _ _ hp (lv_sub hl [2, 3, 4, 1, 0] rfl) h
  have J_41 : ∀ (v3 : Int32) (H : Heap) (locs : List Loc) (ls : Array Slot), Pw D (wS a cA) A s.heap H locs σ → lv_has ls 5 [(0, .ref (a 2)), (3, .int v3)] → X0_step_41 σ v3 = some r → W p l e R s m args below meth c H locs 0 0 Q (F0 m 41 ls []) := by
    intro v3 H locs ls hp hl h
    unfold X0_step_41 at h
    refine lv_iload_n hx hb dX0_step_41 rfl (lv_at hl 1 rfl) ?_
    exact hR _ _ _ _ _ _ dX0_step_42 hp (Option.some.inj h) rfl (fun q => by cases q)
  unfold X0_step at h
  have hl := lv_sub (l' := [(0, .ref (a 2)), (1, .int v1), (2, .int v2)]) hl [0, 1, 2] rfl
  refine lv_iconst (v := 0) hx hb dX0_step_0 (by decide) ?_
  refine lv_istore_n (lv' := [(3, .int (0 : Int32)), (0, .ref (a 2)), (1, .int v1), (2, .int v2)]) hx hb dX0_step_1 rfl hl (by decide) rfl (fun ls hl => ?_)
  refine lv_iconst (v := 0) hx hb dX0_step_2 (by decide) ?_
  refine lv_istore (lv' := [(4, .int (0 : Int32)), (3, .int (0 : Int32)), (0, .ref (a 2)), (1, .int v1), (2, .int v2)]) hx hb dX0_step_3 hl (by decide) rfl (fun ls hl => ?_)
  exact J_5 v1 v2 _ (fun v3 H locs ls hp hl h => J_41 v3 _ _ _ hp hl h) _ (0 : Int32) (0 : Int32) _ _ _ hp (lv_sub hl [2, 3, 4, 1, 0] rfl) h
def X6_successor_20 (σ : St) : Option (Int32 × St) :=
  none
def X6_successor (N : Nat) (v1 : Int32) (v2 : Int32) (σ : St) : Option (Int32 × St) :=
  bd (X6_requireState v1 σ) (fun t1 =>
  if v2 < 0 then
    X6_successor_20 t1
  else
    if v2 < (t1.1 8) then
      bd (X0_step N t1 v1 v2) (fun t4 =>
      some (t4, t1))
    else
      X6_successor_20 t1)
set_option maxRecDepth 20000 in
set_option maxHeartbeats 4000000 in
theorem c_X6_successor {l : Launch} {D : va_G} {a : Nat → Nat} {cA : Nat → ClassId} {t : Nat} {F : (Nat → Prop) → State → Prop} (hF : EOK F) {σ : St} {N : Nat} {v1 : Int32} {v2 : Int32} {r : Int32} {σ' : St} (h : X6_successor N v1 v2 σ = some (r, σ')) : MetI l yX6_successor cX6_successor 3 (some .int) 2 D (tyW cA) (wS a cA) (ES t F) [.ref (a 0), .int v1, .int v2] σ r σ' := by
  refine mkI (by decide) (adrS a cA) (Or.inl rfl) (Nat.le_of_ble_eq_true rfl) ?_
  intro p e R s m args below meth c A Q ls X hR hp hl
  obtain ⟨hx, hb, -, hown, hts, -⟩ := id X
  have J_20 : ∀  (σ : St) (H : Heap) (locs : List Loc) (ls : Array Slot), Pw D (wS a cA) A s.heap H locs σ → lv_has ls 3 [(0, .ref (a 0))] → X6_successor_20 σ = some (r, σ') → W p l e R s m args below meth c H locs 0 0 Q (F0 m 20 ls []) := by
    intro σ H locs ls hp hl h
    unfold X6_successor_20 at h
    exact nn_s h
  unfold X6_successor at h
  have hl := lv_sub (l' := [(0, .ref (a 0)), (1, .int v1), (2, .int v2)]) hl [0, 1, 2] rfl
  refine lv_aload_n hx hb dX6_successor_0 rfl (lv_at hl 0 rfl) ?_
  refine lv_iload_n hx hb dX6_successor_1 rfl (lv_at hl 1 rfl) ?_
  obtain ⟨t1, ht1, h⟩ := bd_s h
  refine cl_Vv X (eokS hF) (c_X6_requireState hF ht1) tw_21_9 mw_X6_requireState (by decide) hp 0 rfl rfl rfl hl.1 rfl (Nat.le_of_ble_eq_true rfl) dX6_successor_2 (fun H locs hp => ?_)
  refine lv_iload_n hx hb dX6_successor_5 rfl (lv_at hl 2 rfl) ?_
  refine lv_if_lt (tgt := 20) hx hb dX6_successor_6 (by decide) (fun c2 => ?_) (fun c2 => ?_)
  · have h := it_p h c2
    exact J_20 t1 _ _ _ hp (lv_sub hl [0] rfl) h
  · have h := it_n h c2
    refine lv_iload_n hx hb dX6_successor_9 rfl (lv_at hl 2 rfl) ?_
    refine lv_aload_n hx hb dX6_successor_10 rfl (lv_at hl 0 rfl) ?_
    refine gS_X6_circuit X hp tw_1_20 dX6_successor_11 ?_
    refine gS_X0_inputValues X hp tw_21_8 dX6_successor_14 ?_
    refine lv_icmp_lt (tgt := 30) hx hb dX6_successor_17 (by decide) (fun c3 => ?_) (fun c3 => ?_)
    · have h := it_p h c3
      refine lv_aload_n hx hb dX6_successor_30 rfl (lv_at hl 0 rfl) ?_
      refine gS_X6_circuit X hp tw_1_20 dX6_successor_31 ?_
      refine lv_iload_n hx hb dX6_successor_34 rfl (lv_at hl 1 rfl) ?_
      refine lv_iload_n hx hb dX6_successor_35 rfl (lv_at hl 2 rfl) ?_
      obtain ⟨t4, ht4, h⟩ := bd_s h
      refine cl_Vi X (eokS hF) (c_X0_step hF ht4) tw_21_13 mw_X0_step (by decide) hp 2 rfl rfl rfl hl.1 rfl (Nat.le_of_ble_eq_true rfl) dX6_successor_36 (fun H locs hp => ?_)
      exact hR _ _ _ _ _ _ dX6_successor_39 hp (congrArg Prod.fst (Option.some.inj h)) (congrArg Prod.snd (Option.some.inj h)) (fun q => by cases q)
    · have h := it_n h c3
      exact J_20 t1 _ _ _ hp (lv_sub hl [0] rfl) h
def J7_fill_d0a16_a15_6b (k6 : (Int32 → St → Option (St))) (k22 : (St → Option (St))) (v1 : Int64) (v3 : Int32) (v4 : Int32) (σ : St) : Option (St) :=
  if v4 ≤ v3 then
    k22 σ
  else
    gd (inb v3 64) (
    nm (sb σ 4 v3.toNatClampNeg v1) (fun (σ3 : St) =>
    nm (v3 + (1 : Int32)) (fun (x4 : Int32) =>
    k6 x4 σ3)))
def J7_fill_d0a16_a15_6 (k22 : (St → Option (St))) (v1 : Int64) (v4 : Int32) : Nat → Int32 → St → Option (St)
  | 0, _, _ => none
  | n + 1, v3, σ => J7_fill_d0a16_a15_6b (fun v3 σ => J7_fill_d0a16_a15_6 k22 v1 v4 n v3 σ) k22 v1 v3 v4 σ
def J7_fill_d0a16_a15_22 (σ : St) : Option (St) :=
  some σ
def J7_fill_d0a16_a15 (N : Nat) (v1 : Int64) (σ : St) : Option (St) :=
  J7_fill_d0a16_a15_6 (fun σ => J7_fill_d0a16_a15_22 σ) v1 (64 : Int32) N (0 : Int32) σ
set_option maxRecDepth 20000 in
set_option maxHeartbeats 4000000 in
theorem c_J7_fill_d0a16_a15 {l : Launch} {D : va_G} {a : Nat → Nat} {cA : Nat → ClassId} {t : Nat} {F : (Nat → Prop) → State → Prop} (hF : EOK F) {σ : St} {N : Nat} {v1 : Int64} {σ' : St} (h : J7_fill_d0a16_a15 N v1 σ = some σ') : MetV l yJ7_fill_d0a16 cJ7_fill_d0a16 5 none 0 D (tyW cA) (wS a cA) (ES t F) [.ref (a 15), .long v1] σ σ' := by
  refine mkV (by decide) (adrS a cA) rfl (Nat.le_of_ble_eq_true rfl) ?_
  intro p e R s m args below meth c A Q ls X hR hp hl
  obtain ⟨hx, hb, -, hown, hts, -⟩ := id X
  have J_6 : ∀ (v1 : Int64) (v4 : Int32) (k22 : (St → Option (St))) (hk22 : ∀ (σ : St) (H : Heap) (locs : List Loc) (ls : Array Slot), Pw D (wS a cA) A s.heap H locs σ → lv_has ls 5 [] → k22 σ = some σ' → W p l e R s m args below meth c H locs 0 0 Q (F0 m 22 ls [])) (n : Nat) (v3 : Int32) (σ : St) (H : Heap) (locs : List Loc) (ls : Array Slot), Pw D (wS a cA) A s.heap H locs σ → lv_has ls 5 [(0, .ref (a 15)), (1, .long v1), (3, .int v3), (4, .int v4)] → J7_fill_d0a16_a15_6 k22 v1 v4 n v3 σ = some σ' → W p l e R s m args below meth c H locs 0 0 Q (F0 m 6 ls []) := by
    intro v1 v4 k22 hk22 n
    induction n with
    | zero => intro v3 σ H locs ls hp hl h; exact nn_s (show (none : Option (St)) = some _ from h)
    | succ n ih =>
      intro v3 σ H locs ls hp hl h
      have h : J7_fill_d0a16_a15_6b (fun v3 σ => J7_fill_d0a16_a15_6 k22 v1 v4 n v3 σ) k22 v1 v3 v4 σ = some σ' := h
      unfold J7_fill_d0a16_a15_6b at h
      have hk6 := ih
      refine lv_iload_n hx hb dJ7_fill_d0a16_6 rfl (lv_at hl 2 rfl) ?_
      refine lv_iload hx hb dJ7_fill_d0a16_7 (lv_at hl 3 rfl) ?_
      refine lv_icmp_ge (tgt := 22) hx hb dJ7_fill_d0a16_9 (by decide) (fun c1 => ?_) (fun c1 => ?_)
      · have h := it_p h c1
        exact hk22 σ _ _ _ hp (lv_sub hl [] rfl) h
      · have h := it_n h c1
        refine lv_aload_n hx hb dJ7_fill_d0a16_12 rfl (lv_at hl 0 rfl) ?_
        refine lv_iload_n hx hb dJ7_fill_d0a16_13 rfl (lv_at hl 2 rfl) ?_
        refine lv_lload_n hx hb dJ7_fill_d0a16_14 rfl (lv_at hl 1 rfl) ?_
        obtain ⟨g2, h⟩ := gd_s h
        refine sS_X2_predecessorSets X hp g2 dJ7_fill_d0a16_15 (fun H locs σ3 eσ3 hp => ?_)
        have h := nm_s h σ3 eσ3
        obtain ⟨x4, ex4⟩ : ∃ z : Int32, z = v3 + (1 : Int32) := ⟨_, rfl⟩
        have h := nm_s h x4 ex4
        refine lv_iinc (v := x4) (lv' := [(3, .int x4), (0, .ref (a 15)), (1, .long v1), (4, .int v4)]) hx hb dJ7_fill_d0a16_16 hl (k := 2) rfl (by rw [ex4]; rfl) (by decide) rfl (fun ls hl => ?_)
        refine lv_goto (tgt := 6) hx hb dJ7_fill_d0a16_19 (by decide) ?_
        exact hk6 x4 σ3 _ _ _ hp (lv_sub hl [1, 2, 0, 3] rfl) h
  have J_22 : ∀  (σ : St) (H : Heap) (locs : List Loc) (ls : Array Slot), Pw D (wS a cA) A s.heap H locs σ → lv_has ls 5 [] → J7_fill_d0a16_a15_22 σ = some σ' → W p l e R s m args below meth c H locs 0 0 Q (F0 m 22 ls []) := by
    intro σ H locs ls hp hl h
    unfold J7_fill_d0a16_a15_22 at h
    exact hR _ _ _ _ _ dJ7_fill_d0a16_22 hp (Option.some.inj h)
  unfold J7_fill_d0a16_a15 at h
  have hl := lv_sub (l' := [(0, .ref (a 15)), (1, .long v1)]) hl [0, 1] rfl
  refine lv_iconst (v := 0) hx hb dJ7_fill_d0a16_0 (by decide) ?_
  refine lv_istore_n (lv' := [(3, .int (0 : Int32)), (0, .ref (a 15)), (1, .long v1)]) hx hb dJ7_fill_d0a16_1 rfl hl (by decide) rfl (fun ls hl => ?_)
  refine lv_aload_n hx hb dJ7_fill_d0a16_2 rfl (lv_at hl 1 rfl) ?_
  refine nS_X2_predecessorSets X hp dJ7_fill_d0a16_3 ?_
  refine lv_istore (lv' := [(4, .int (64 : Int32)), (3, .int (0 : Int32)), (0, .ref (a 15)), (1, .long v1)]) hx hb dJ7_fill_d0a16_4 hl (by decide) rfl (fun ls hl => ?_)
  exact J_6 v1 (64 : Int32) _ (fun σ H locs ls hp hl h => J_22 σ _ _ _ hp hl h) _ (0 : Int32) σ _ _ _ hp (lv_sub hl [2, 3, 1, 0] rfl) h
def X2_findSuccessors_32b (N : Nat) (k32 : (Int64 → Int32 → St → Option (St))) (k113 : (Int32 → Int64 → St → Option (St))) (v1 : Int32) (v2 : Int64) (v4 : Int32) (σ : St) : Option (St) :=
  if (σ.1 8) ≤ v4 then
    k113 v1 v2 σ
  else
    if (4 : Int32) ≤ v4 then
      k113 v1 v2 σ
    else
      bd (X0_step N σ v1 v4) (fun t3 =>
      gd (inb ((v1 * (4 : Int32)) + v4) 256) (
      nm (sa σ 3 ((v1 * (4 : Int32)) + v4).toNatClampNeg t3) (fun (σ5 : St) =>
      nm (v2 ||| ((1 : Int64) <<< (t3.toInt64 &&& 63))) (fun (x6 : Int64) =>
      if t3 < 0 then
        nm (v4 + (1 : Int32)) (fun (x8 : Int32) =>
        k32 x6 x8 σ5)
      else
        if (64 : Int32) ≤ t3 then
          nm (v4 + (1 : Int32)) (fun (x10 : Int32) =>
          k32 x6 x10 σ5)
        else
          gd (inb t3 64) (
          gd (inb t3 64) (
          nm (sb σ5 4 t3.toNatClampNeg ((σ5.2.2.2 4 t3.toNatClampNeg) ||| ((1 : Int64) <<< (v1.toInt64 &&& 63)))) (fun (σ13 : St) =>
          nm (v4 + (1 : Int32)) (fun (x14 : Int32) =>
          k32 x6 x14 σ13))))))))
def X2_findSuccessors_32 (N : Nat) (k113 : (Int32 → Int64 → St → Option (St))) (v1 : Int32) : Nat → Int64 → Int32 → St → Option (St)
  | 0, _, _, _ => none
  | n + 1, v2, v4, σ => X2_findSuccessors_32b N (fun v2 v4 σ => X2_findSuccessors_32 N k113 v1 n v2 v4 σ) k113 v1 v2 v4 σ
def X2_findSuccessors_113 (k10 : (Int32 → St → Option (St))) (v1 : Int32) (v2 : Int64) (σ : St) : Option (St) :=
  gd (inb v1 64) (
  nm (sb σ 3 v1.toNatClampNeg v2) (fun (σ2 : St) =>
  nm (v1 + (1 : Int32)) (fun (x3 : Int32) =>
  k10 x3 σ2)))
def X2_findSuccessors_10b (N : Nat) (k10 : (Int32 → St → Option (St))) (k126 : (St → Option (St))) (v1 : Int32) (σ : St) : Option (St) :=
  if (σ.1 7) ≤ v1 then
    k126 σ
  else
    if (64 : Int32) ≤ v1 then
      k126 σ
    else
      X2_findSuccessors_32 N (fun v1 v2 σ => X2_findSuccessors_113 k10 v1 v2 σ) v1 N (0 : Int64) (0 : Int32) σ
def X2_findSuccessors_10 (N : Nat) (k126 : (St → Option (St))) : Nat → Int32 → St → Option (St)
  | 0, _, _ => none
  | n + 1, v1, σ => X2_findSuccessors_10b N (fun v1 σ => X2_findSuccessors_10 N k126 n v1 σ) k126 v1 σ
def X2_findSuccessors_126 (σ : St) : Option (St) :=
  some σ
def X2_findSuccessors (N : Nat) (σ : St) : Option (St) :=
  bd (J7_fill_d0a16_a15 N (0 : Int64) σ) (fun t1 =>
  X2_findSuccessors_10 N (fun σ => X2_findSuccessors_126 σ) N (0 : Int32) t1)
set_option maxRecDepth 20000 in
set_option maxHeartbeats 4000000 in
theorem c_X2_findSuccessors {l : Launch} {D : va_G} {a : Nat → Nat} {cA : Nat → ClassId} {t : Nat} {F : (Nat → Prop) → State → Prop} (hF : EOK F) {σ : St} {N : Nat} {σ' : St} (h : X2_findSuccessors N σ = some σ') : MetV l yX2_findSuccessors cX2_findSuccessors 6 none 2 D (tyW cA) (wS a cA) (ES t F) [.ref (a 3)] σ σ' := by
  refine mkV (by decide) (adrS a cA) rfl (Nat.le_of_ble_eq_true rfl) ?_
  intro p e R s m args below meth c A Q ls X hR hp hl
  obtain ⟨hx, hb, -, hown, hts, -⟩ := id X
  have J_32 : ∀ (v1 : Int32) (k113 : (Int32 → Int64 → St → Option (St))) (hk113 : ∀ (v1 : Int32) (v2 : Int64) (σ : St) (H : Heap) (locs : List Loc) (ls : Array Slot), Pw D (wS a cA) A s.heap H locs σ → lv_has ls 6 [(0, .ref (a 3)), (1, .int v1), (2, .long v2)] → k113 v1 v2 σ = some σ' → W p l e R s m args below meth c H locs 0 0 Q (F0 m 113 ls [])) (n : Nat) (v2 : Int64) (v4 : Int32) (σ : St) (H : Heap) (locs : List Loc) (ls : Array Slot), Pw D (wS a cA) A s.heap H locs σ → lv_has ls 6 [(0, .ref (a 3)), (1, .int v1), (2, .long v2), (4, .int v4)] → X2_findSuccessors_32 N k113 v1 n v2 v4 σ = some σ' → W p l e R s m args below meth c H locs 0 0 Q (F0 m 32 ls []) := by
    intro v1 k113 hk113 n
    induction n with
    | zero => intro v2 v4 σ H locs ls hp hl h; exact nn_s (show (none : Option (St)) = some _ from h)
    | succ n ih =>
      intro v2 v4 σ H locs ls hp hl h
      have h : X2_findSuccessors_32b N (fun v2 v4 σ => X2_findSuccessors_32 N k113 v1 n v2 v4 σ) k113 v1 v2 v4 σ = some σ' := h
      unfold X2_findSuccessors_32b at h
      have hk32 := ih
      refine lv_iload hx hb dX2_findSuccessors_32 (lv_at hl 3 rfl) ?_
      refine lv_aload_n hx hb dX2_findSuccessors_34 rfl (lv_at hl 0 rfl) ?_
      refine gS_X2_circuit X hp tw_4_0 dX2_findSuccessors_35 ?_
      refine gS_X0_inputValues X hp tw_22_20 dX2_findSuccessors_38 ?_
      refine lv_icmp_ge (tgt := 113) hx hb dX2_findSuccessors_41 (by decide) (fun c1 => ?_) (fun c1 => ?_)
      · have h := it_p h c1
        exact hk113 v1 v2 σ _ _ _ hp (lv_sub hl [0, 1, 2] rfl) h
      · have h := it_n h c1
        refine lv_iload hx hb dX2_findSuccessors_44 (lv_at hl 3 rfl) ?_
        refine lv_iconst (v := 4) hx hb dX2_findSuccessors_46 (by decide) ?_
        refine lv_icmp_ge (tgt := 113) hx hb dX2_findSuccessors_47 (by decide) (fun c2 => ?_) (fun c2 => ?_)
        · have h := it_p h c2
          exact hk113 v1 v2 σ _ _ _ hp (lv_sub hl [0, 1, 2] rfl) h
        · have h := it_n h c2
          refine lv_aload_n hx hb dX2_findSuccessors_50 rfl (lv_at hl 0 rfl) ?_
          refine gS_X2_circuit X hp tw_4_0 dX2_findSuccessors_51 ?_
          refine lv_iload_n hx hb dX2_findSuccessors_54 rfl (lv_at hl 1 rfl) ?_
          refine lv_iload hx hb dX2_findSuccessors_55 (lv_at hl 3 rfl) ?_
          obtain ⟨t3, ht3, h⟩ := bd_s h
          refine cl_Vi X (eokS hF) (c_X0_step hF ht3) tw_23_1 mw_X0_step (by decide) hp 2 rfl rfl rfl hl.1 rfl (Nat.le_of_ble_eq_true rfl) dX2_findSuccessors_57 (fun H locs hp => ?_)
          refine lv_istore (lv' := [(5, .int t3), (0, .ref (a 3)), (1, .int v1), (2, .long v2), (4, .int v4)]) hx hb dX2_findSuccessors_60 hl (by decide) rfl (fun ls hl => ?_)
          refine lv_aload_n hx hb dX2_findSuccessors_62 rfl (lv_at hl 1 rfl) ?_
          refine gS_X2_next X hp tw_4_1 dX2_findSuccessors_63 ?_
          refine lv_iload_n hx hb dX2_findSuccessors_66 rfl (lv_at hl 2 rfl) ?_
          refine lv_iconst (v := 4) hx hb dX2_findSuccessors_67 (by decide) ?_
          refine lv_imul hx hb dX2_findSuccessors_68 ?_
          refine lv_iload hx hb dX2_findSuccessors_69 (lv_at hl 4 rfl) ?_
          refine lv_iadd hx hb dX2_findSuccessors_71 ?_
          refine lv_iload hx hb dX2_findSuccessors_72 (lv_at hl 0 rfl) ?_
          obtain ⟨g4, h⟩ := gd_s h
          refine sS_X2_next X hp g4 dX2_findSuccessors_74 (fun H locs σ5 eσ5 hp => ?_)
          have h := nm_s h σ5 eσ5
          refine lv_lload_n hx hb dX2_findSuccessors_75 rfl (lv_at hl 3 rfl) ?_
          refine lv_lconst (v := 1) hx hb dX2_findSuccessors_76 (by decide) ?_
          refine lv_iload hx hb dX2_findSuccessors_77 (lv_at hl 0 rfl) ?_
          refine lv_lshl hx hb dX2_findSuccessors_79 rfl ?_
          refine lv_lor hx hb dX2_findSuccessors_80 ?_
          refine lv_topl (fun x6 ex6 => ?_)
          have h := nm_s h x6 ex6
          refine lv_lstore_n (lv' := [(2, .long x6), (5, .int t3), (0, .ref (a 3)), (1, .int v1), (4, .int v4)]) hx hb dX2_findSuccessors_81 rfl hl (by decide) rfl (fun ls hl => ?_)
          refine lv_iload hx hb dX2_findSuccessors_82 (lv_at hl 1 rfl) ?_
          refine lv_if_lt (tgt := 107) hx hb dX2_findSuccessors_84 (by decide) (fun c7 => ?_) (fun c7 => ?_)
          · have h := it_p h c7
            obtain ⟨x8, ex8⟩ : ∃ z : Int32, z = v4 + (1 : Int32) := ⟨_, rfl⟩
            have h := nm_s h x8 ex8
            refine lv_iinc (v := x8) (lv' := [(4, .int x8), (2, .long x6), (5, .int t3), (0, .ref (a 3)), (1, .int v1)]) hx hb dX2_findSuccessors_107 hl (k := 4) rfl (by rw [ex8]; rfl) (by decide) rfl (fun ls hl => ?_)
            refine lv_goto (tgt := 32) hx hb dX2_findSuccessors_110 (by decide) ?_
            exact hk32 x6 x8 σ5 _ _ _ hp (lv_sub hl [3, 4, 1, 0] rfl) h
          · have h := it_n h c7
            refine lv_iload hx hb dX2_findSuccessors_87 (lv_at hl 1 rfl) ?_
            refine lv_bipush (v := 64) hx hb dX2_findSuccessors_89 (by decide) ?_
            refine lv_icmp_ge (tgt := 107) hx hb dX2_findSuccessors_91 (by decide) (fun c9 => ?_) (fun c9 => ?_)
            · have h := it_p h c9
              obtain ⟨x10, ex10⟩ : ∃ z : Int32, z = v4 + (1 : Int32) := ⟨_, rfl⟩
              have h := nm_s h x10 ex10
              refine lv_iinc (v := x10) (lv' := [(4, .int x10), (2, .long x6), (5, .int t3), (0, .ref (a 3)), (1, .int v1)]) hx hb dX2_findSuccessors_107 hl (k := 4) rfl (by rw [ex10]; rfl) (by decide) rfl (fun ls hl => ?_)
              refine lv_goto (tgt := 32) hx hb dX2_findSuccessors_110 (by decide) ?_
              exact hk32 x6 x10 σ5 _ _ _ hp (lv_sub hl [3, 4, 1, 0] rfl) h
            · have h := it_n h c9
              refine lv_aload_n hx hb dX2_findSuccessors_94 rfl (lv_at hl 2 rfl) ?_
              refine gS_X2_predecessorSets X hp tw_4_3 dX2_findSuccessors_95 ?_
              refine lv_iload hx hb dX2_findSuccessors_98 (lv_at hl 1 rfl) ?_
              refine lv_dup2_11 hx hb dX2_findSuccessors_100 rfl rfl ?_
              obtain ⟨g11, h⟩ := gd_s h
              refine lS_X2_predecessorSets X hp g11 dX2_findSuccessors_101 ?_
              refine lv_lconst (v := 1) hx hb dX2_findSuccessors_102 (by decide) ?_
              refine lv_iload_n hx hb dX2_findSuccessors_103 rfl (lv_at hl 3 rfl) ?_
              refine lv_lshl hx hb dX2_findSuccessors_104 rfl ?_
              refine lv_lor hx hb dX2_findSuccessors_105 ?_
              obtain ⟨g12, h⟩ := gd_s h
              refine sS_X2_predecessorSets X hp g12 dX2_findSuccessors_106 (fun H locs σ13 eσ13 hp => ?_)
              have h := nm_s h σ13 eσ13
              obtain ⟨x14, ex14⟩ : ∃ z : Int32, z = v4 + (1 : Int32) := ⟨_, rfl⟩
              have h := nm_s h x14 ex14
              refine lv_iinc (v := x14) (lv' := [(4, .int x14), (2, .long x6), (5, .int t3), (0, .ref (a 3)), (1, .int v1)]) hx hb dX2_findSuccessors_107 hl (k := 4) rfl (by rw [ex14]; rfl) (by decide) rfl (fun ls hl => ?_)
              refine lv_goto (tgt := 32) hx hb dX2_findSuccessors_110 (by decide) ?_
              exact hk32 x6 x14 σ13 _ _ _ hp (lv_sub hl [3, 4, 1, 0] rfl) h
  have J_113 : ∀ (v1 : Int32) (v2 : Int64) (k10 : (Int32 → St → Option (St))) (hk10 : ∀ (v1 : Int32) (σ : St) (H : Heap) (locs : List Loc) (ls : Array Slot), Pw D (wS a cA) A s.heap H locs σ → lv_has ls 6 [(0, .ref (a 3)), (1, .int v1)] → k10 v1 σ = some σ' → W p l e R s m args below meth c H locs 0 0 Q (F0 m 10 ls [])) (σ : St) (H : Heap) (locs : List Loc) (ls : Array Slot), Pw D (wS a cA) A s.heap H locs σ → lv_has ls 6 [(0, .ref (a 3)), (1, .int v1), (2, .long v2)] → X2_findSuccessors_113 k10 v1 v2 σ = some σ' → W p l e R s m args below meth c H locs 0 0 Q (F0 m 113 ls []) := by
    intro v1 v2 k10 hk10 σ H locs ls hp hl h
    unfold X2_findSuccessors_113 at h
    refine lv_aload_n hx hb dX2_findSuccessors_113 rfl (lv_at hl 0 rfl) ?_
    refine gS_X2_successorSets X hp tw_4_2 dX2_findSuccessors_114 ?_
    refine lv_iload_n hx hb dX2_findSuccessors_117 rfl (lv_at hl 1 rfl) ?_
    refine lv_lload_n hx hb dX2_findSuccessors_118 rfl (lv_at hl 2 rfl) ?_
    obtain ⟨g1, h⟩ := gd_s h
    refine sS_X2_successorSets X hp g1 dX2_findSuccessors_119 (fun H locs σ2 eσ2 hp => ?_)
    have h := nm_s h σ2 eσ2
    obtain ⟨x3, ex3⟩ : ∃ z : Int32, z = v1 + (1 : Int32) := ⟨_, rfl⟩
    have h := nm_s h x3 ex3
    refine lv_iinc (v := x3) (lv' := [(1, .int x3), (0, .ref (a 3)), (2, .long v2)]) hx hb dX2_findSuccessors_120 hl (k := 1) rfl (by rw [ex3]; rfl) (by decide) rfl (fun ls hl => ?_)
    refine lv_goto (tgt := 10) hx hb dX2_findSuccessors_123 (by decide) ?_
    exact hk10 x3 σ2 _ _ _ hp (lv_sub hl [1, 0] rfl) h
  have J_10 : ∀  (k126 : (St → Option (St))) (hk126 : ∀ (σ : St) (H : Heap) (locs : List Loc) (ls : Array Slot), Pw D (wS a cA) A s.heap H locs σ → lv_has ls 6 [(0, .ref (a 3))] → k126 σ = some σ' → W p l e R s m args below meth c H locs 0 0 Q (F0 m 126 ls [])) (n : Nat) (v1 : Int32) (σ : St) (H : Heap) (locs : List Loc) (ls : Array Slot), Pw D (wS a cA) A s.heap H locs σ → lv_has ls 6 [(0, .ref (a 3)), (1, .int v1)] → X2_findSuccessors_10 N k126 n v1 σ = some σ' → W p l e R s m args below meth c H locs 0 0 Q (F0 m 10 ls []) := by
    intro k126 hk126 n
    induction n with
    | zero => intro v1 σ H locs ls hp hl h; exact nn_s (show (none : Option (St)) = some _ from h)
    | succ n ih =>
      intro v1 σ H locs ls hp hl h
      have h : X2_findSuccessors_10b N (fun v1 σ => X2_findSuccessors_10 N k126 n v1 σ) k126 v1 σ = some σ' := h
      unfold X2_findSuccessors_10b at h
      have hk10 := ih
      refine lv_iload_n hx hb dX2_findSuccessors_10 rfl (lv_at hl 1 rfl) ?_
      refine lv_aload_n hx hb dX2_findSuccessors_11 rfl (lv_at hl 0 rfl) ?_
      refine gS_X2_circuit X hp tw_4_0 dX2_findSuccessors_12 ?_
      refine gS_X0_states X hp tw_22_19 dX2_findSuccessors_15 ?_
      refine lv_icmp_ge (tgt := 126) hx hb dX2_findSuccessors_18 (by decide) (fun c1 => ?_) (fun c1 => ?_)
      · have h := it_p h c1
        exact hk126 σ _ _ _ hp (lv_sub hl [0] rfl) h
      · have h := it_n h c1
        refine lv_iload_n hx hb dX2_findSuccessors_21 rfl (lv_at hl 1 rfl) ?_
        refine lv_bipush (v := 64) hx hb dX2_findSuccessors_22 (by decide) ?_
        refine lv_icmp_ge (tgt := 126) hx hb dX2_findSuccessors_24 (by decide) (fun c2 => ?_) (fun c2 => ?_)
        · have h := it_p h c2
          exact hk126 σ _ _ _ hp (lv_sub hl [0] rfl) h
        · have h := it_n h c2
          refine lv_lconst (v := 0) hx hb dX2_findSuccessors_27 (by decide) ?_
          refine lv_lstore_n (lv' := [(2, .long (0 : Int64)), (0, .ref (a 3)), (1, .int v1)]) hx hb dX2_findSuccessors_28 rfl hl (by decide) rfl (fun ls hl => ?_)
          refine lv_iconst (v := 0) hx hb dX2_findSuccessors_29 (by decide) ?_
          refine lv_istore (lv' := [(4, .int (0 : Int32)), (2, .long (0 : Int64)), (0, .ref (a 3)), (1, .int v1)]) hx hb dX2_findSuccessors_30 hl (by decide) rfl (fun ls hl => ?_)
          exact J_32 v1 _ (fun v1 v2 σ H locs ls hp hl h => J_113 v1 v2 _ hk10 σ _ _ _ hp hl h) _ (0 : Int64) (0 : Int32) σ _ _ _ hp (lv_sub hl [2, 3, 1, 0] rfl) h
  have J_126 : ∀  (σ : St) (H : Heap) (locs : List Loc) (ls : Array Slot), Pw D (wS a cA) A s.heap H locs σ → lv_has ls 6 [(0, .ref (a 3))] → X2_findSuccessors_126 σ = some σ' → W p l e R s m args below meth c H locs 0 0 Q (F0 m 126 ls []) := by
    intro σ H locs ls hp hl h
    unfold X2_findSuccessors_126 at h
    exact hR _ _ _ _ _ dX2_findSuccessors_126 hp (Option.some.inj h)
  unfold X2_findSuccessors at h
  have hl := lv_sub (l' := [(0, .ref (a 3))]) hl [0] rfl
  refine lv_aload_n hx hb dX2_findSuccessors_0 rfl (lv_at hl 0 rfl) ?_
  refine gS_X2_predecessorSets X hp tw_4_3 dX2_findSuccessors_1 ?_
  refine lv_lconst (v := 0) hx hb dX2_findSuccessors_4 (by decide) ?_
  obtain ⟨t1, ht1, h⟩ := bd_s h
  refine cl_Sv X (eokS hF) (c_J7_fill_d0a16_a15 hF ht1) tw_22_21 mw_J7_fill_d0a16 (by decide) hp hl.1 rfl (Nat.le_of_ble_eq_true rfl) dX2_findSuccessors_5 (fun H locs hp => ?_)
  refine lv_iconst (v := 0) hx hb dX2_findSuccessors_8 (by decide) ?_
  refine lv_istore_n (lv' := [(1, .int (0 : Int32)), (0, .ref (a 3))]) hx hb dX2_findSuccessors_9 rfl hl (by decide) rfl (fun ls hl => ?_)
  exact J_10 _ (fun σ H locs ls hp hl h => J_126 σ _ _ _ hp hl h) _ (0 : Int32) t1 _ _ _ hp (lv_sub hl [1, 0] rfl) h
def J7_fill_53178_a16_5b (k5 : (Int32 → St → Option (St))) (k20 : (St → Option (St))) (v1 : Int32) (v2 : Int32) (v3 : Int32) (σ : St) : Option (St) :=
  if v3 ≤ v2 then
    k20 σ
  else
    gd (inb v2 64) (
    nm (sa σ 4 v2.toNatClampNeg v1) (fun (σ3 : St) =>
    nm (v2 + (1 : Int32)) (fun (x4 : Int32) =>
    k5 x4 σ3)))
def J7_fill_53178_a16_5 (k20 : (St → Option (St))) (v1 : Int32) (v3 : Int32) : Nat → Int32 → St → Option (St)
  | 0, _, _ => none
  | n + 1, v2, σ => J7_fill_53178_a16_5b (fun v2 σ => J7_fill_53178_a16_5 k20 v1 v3 n v2 σ) k20 v1 v2 v3 σ
def J7_fill_53178_a16_20 (σ : St) : Option (St) :=
  some σ
def J7_fill_53178_a16 (N : Nat) (v1 : Int32) (σ : St) : Option (St) :=
  J7_fill_53178_a16_5 (fun σ => J7_fill_53178_a16_20 σ) v1 (64 : Int32) N (0 : Int32) σ
set_option maxRecDepth 20000 in
set_option maxHeartbeats 4000000 in
theorem c_J7_fill_53178_a16 {l : Launch} {D : va_G} {a : Nat → Nat} {cA : Nat → ClassId} {t : Nat} {F : (Nat → Prop) → State → Prop} (hF : EOK F) {σ : St} {N : Nat} {v1 : Int32} {σ' : St} (h : J7_fill_53178_a16 N v1 σ = some σ') : MetV l yJ7_fill_53178 cJ7_fill_53178 4 none 0 D (tyW cA) (wS a cA) (ES t F) [.ref (a 16), .int v1] σ σ' := by
  refine mkV (by decide) (adrS a cA) rfl (Nat.le_of_ble_eq_true rfl) ?_
  intro p e R s m args below meth c A Q ls X hR hp hl
  obtain ⟨hx, hb, -, hown, hts, -⟩ := id X
  have J_5 : ∀ (v1 : Int32) (v3 : Int32) (k20 : (St → Option (St))) (hk20 : ∀ (σ : St) (H : Heap) (locs : List Loc) (ls : Array Slot), Pw D (wS a cA) A s.heap H locs σ → lv_has ls 4 [] → k20 σ = some σ' → W p l e R s m args below meth c H locs 0 0 Q (F0 m 20 ls [])) (n : Nat) (v2 : Int32) (σ : St) (H : Heap) (locs : List Loc) (ls : Array Slot), Pw D (wS a cA) A s.heap H locs σ → lv_has ls 4 [(0, .ref (a 16)), (1, .int v1), (2, .int v2), (3, .int v3)] → J7_fill_53178_a16_5 k20 v1 v3 n v2 σ = some σ' → W p l e R s m args below meth c H locs 0 0 Q (F0 m 5 ls []) := by
    intro v1 v3 k20 hk20 n
    induction n with
    | zero => intro v2 σ H locs ls hp hl h; exact nn_s (show (none : Option (St)) = some _ from h)
    | succ n ih =>
      intro v2 σ H locs ls hp hl h
      have h : J7_fill_53178_a16_5b (fun v2 σ => J7_fill_53178_a16_5 k20 v1 v3 n v2 σ) k20 v1 v2 v3 σ = some σ' := h
      unfold J7_fill_53178_a16_5b at h
      have hk5 := ih
      refine lv_iload_n hx hb dJ7_fill_53178_5 rfl (lv_at hl 2 rfl) ?_
      refine lv_iload_n hx hb dJ7_fill_53178_6 rfl (lv_at hl 3 rfl) ?_
      refine lv_icmp_ge (tgt := 20) hx hb dJ7_fill_53178_7 (by decide) (fun c1 => ?_) (fun c1 => ?_)
      · have h := it_p h c1
        exact hk20 σ _ _ _ hp (lv_sub hl [] rfl) h
      · have h := it_n h c1
        refine lv_aload_n hx hb dJ7_fill_53178_10 rfl (lv_at hl 0 rfl) ?_
        refine lv_iload_n hx hb dJ7_fill_53178_11 rfl (lv_at hl 2 rfl) ?_
        refine lv_iload_n hx hb dJ7_fill_53178_12 rfl (lv_at hl 1 rfl) ?_
        obtain ⟨g2, h⟩ := gd_s h
        refine sS_X2_depths X hp g2 dJ7_fill_53178_13 (fun H locs σ3 eσ3 hp => ?_)
        have h := nm_s h σ3 eσ3
        obtain ⟨x4, ex4⟩ : ∃ z : Int32, z = v2 + (1 : Int32) := ⟨_, rfl⟩
        have h := nm_s h x4 ex4
        refine lv_iinc (v := x4) (lv' := [(2, .int x4), (0, .ref (a 16)), (1, .int v1), (3, .int v3)]) hx hb dJ7_fill_53178_14 hl (k := 2) rfl (by rw [ex4]; rfl) (by decide) rfl (fun ls hl => ?_)
        refine lv_goto (tgt := 5) hx hb dJ7_fill_53178_17 (by decide) ?_
        exact hk5 x4 σ3 _ _ _ hp (lv_sub hl [1, 2, 0, 3] rfl) h
  have J_20 : ∀  (σ : St) (H : Heap) (locs : List Loc) (ls : Array Slot), Pw D (wS a cA) A s.heap H locs σ → lv_has ls 4 [] → J7_fill_53178_a16_20 σ = some σ' → W p l e R s m args below meth c H locs 0 0 Q (F0 m 20 ls []) := by
    intro σ H locs ls hp hl h
    unfold J7_fill_53178_a16_20 at h
    exact hR _ _ _ _ _ dJ7_fill_53178_20 hp (Option.some.inj h)
  unfold J7_fill_53178_a16 at h
  have hl := lv_sub (l' := [(0, .ref (a 16)), (1, .int v1)]) hl [0, 1] rfl
  refine lv_iconst (v := 0) hx hb dJ7_fill_53178_0 (by decide) ?_
  refine lv_istore_n (lv' := [(2, .int (0 : Int32)), (0, .ref (a 16)), (1, .int v1)]) hx hb dJ7_fill_53178_1 rfl hl (by decide) rfl (fun ls hl => ?_)
  refine lv_aload_n hx hb dJ7_fill_53178_2 rfl (lv_at hl 1 rfl) ?_
  refine nS_X2_depths X hp dJ7_fill_53178_3 ?_
  refine lv_istore_n (lv' := [(3, .int (64 : Int32)), (2, .int (0 : Int32)), (0, .ref (a 16)), (1, .int v1)]) hx hb dJ7_fill_53178_4 rfl hl (by decide) rfl (fun ls hl => ?_)
  exact J_5 v1 (64 : Int32) _ (fun σ H locs ls hp hl h => J_20 σ _ _ _ hp hl h) _ (0 : Int32) σ _ _ _ hp (lv_sub hl [2, 3, 1, 0] rfl) h
def X2_mark_a16_3b (k3 : (Int32 → St → Option (St))) (k37 : (St → Option (St))) (v1 : Int64) (v3 : Int32) (v4 : Int32) (σ : St) : Option (St) :=
  if (64 : Int32) ≤ v4 then
    k37 σ
  else
    if (64 : Int32) ≤ v4 then
      k37 σ
    else
      bd (X6_contains v1 v4) (fun t3 =>
      if t3 = 0 then
        nm (v4 + (1 : Int32)) (fun (x5 : Int32) =>
        k3 x5 σ)
      else
        gd (inb v4 64) (
        nm (sa σ 4 v4.toNatClampNeg v3) (fun (σ7 : St) =>
        nm (v4 + (1 : Int32)) (fun (x8 : Int32) =>
        k3 x8 σ7))))
def X2_mark_a16_3 (k37 : (St → Option (St))) (v1 : Int64) (v3 : Int32) : Nat → Int32 → St → Option (St)
  | 0, _, _ => none
  | n + 1, v4, σ => X2_mark_a16_3b (fun v4 σ => X2_mark_a16_3 k37 v1 v3 n v4 σ) k37 v1 v3 v4 σ
def X2_mark_a16_37 (σ : St) : Option (St) :=
  some σ
def X2_mark_a16 (N : Nat) (v1 : Int64) (v3 : Int32) (σ : St) : Option (St) :=
  X2_mark_a16_3 (fun σ => X2_mark_a16_37 σ) v1 v3 N (0 : Int32) σ
set_option maxRecDepth 20000 in
set_option maxHeartbeats 4000000 in
theorem c_X2_mark_a16 {l : Launch} {D : va_G} {a : Nat → Nat} {cA : Nat → ClassId} {t : Nat} {F : (Nat → Prop) → State → Prop} (hF : EOK F) {σ : St} {N : Nat} {v1 : Int64} {v3 : Int32} {σ' : St} (h : X2_mark_a16 N v1 v3 σ = some σ') : MetV l yX2_mark cX2_mark 5 none 1 D (tyW cA) (wS a cA) (ES t F) [.ref (a 16), .long v1, .int v3] σ σ' := by
  refine mkV (by decide) (adrS a cA) rfl (Nat.le_of_ble_eq_true rfl) ?_
  intro p e R s m args below meth c A Q ls X hR hp hl
  obtain ⟨hx, hb, -, hown, hts, -⟩ := id X
  have J_3 : ∀ (v1 : Int64) (v3 : Int32) (k37 : (St → Option (St))) (hk37 : ∀ (σ : St) (H : Heap) (locs : List Loc) (ls : Array Slot), Pw D (wS a cA) A s.heap H locs σ → lv_has ls 5 [] → k37 σ = some σ' → W p l e R s m args below meth c H locs 0 0 Q (F0 m 37 ls [])) (n : Nat) (v4 : Int32) (σ : St) (H : Heap) (locs : List Loc) (ls : Array Slot), Pw D (wS a cA) A s.heap H locs σ → lv_has ls 5 [(0, .ref (a 16)), (1, .long v1), (3, .int v3), (4, .int v4)] → X2_mark_a16_3 k37 v1 v3 n v4 σ = some σ' → W p l e R s m args below meth c H locs 0 0 Q (F0 m 3 ls []) := by
    intro v1 v3 k37 hk37 n
    induction n with
    | zero => intro v4 σ H locs ls hp hl h; exact nn_s (show (none : Option (St)) = some _ from h)
    | succ n ih =>
      intro v4 σ H locs ls hp hl h
      have h : X2_mark_a16_3b (fun v4 σ => X2_mark_a16_3 k37 v1 v3 n v4 σ) k37 v1 v3 v4 σ = some σ' := h
      unfold X2_mark_a16_3b at h
      have hk3 := ih
      refine lv_iload hx hb dX2_mark_3 (lv_at hl 3 rfl) ?_
      refine lv_aload_n hx hb dX2_mark_5 rfl (lv_at hl 0 rfl) ?_
      refine nS_X2_depths X hp dX2_mark_6 ?_
      refine lv_icmp_ge (tgt := 37) hx hb dX2_mark_7 (by decide) (fun c1 => ?_) (fun c1 => ?_)
      · have h := it_p h c1
        exact hk37 σ _ _ _ hp (lv_sub hl [] rfl) h
      · have h := it_n h c1
        refine lv_iload hx hb dX2_mark_10 (lv_at hl 3 rfl) ?_
        refine lv_bipush (v := 64) hx hb dX2_mark_12 (by decide) ?_
        refine lv_icmp_ge (tgt := 37) hx hb dX2_mark_14 (by decide) (fun c2 => ?_) (fun c2 => ?_)
        · have h := it_p h c2
          exact hk37 σ _ _ _ hp (lv_sub hl [] rfl) h
        · have h := it_n h c2
          refine lv_lload_n hx hb dX2_mark_17 rfl (lv_at hl 1 rfl) ?_
          refine lv_iload hx hb dX2_mark_18 (lv_at hl 3 rfl) ?_
          obtain ⟨t3, ht3, h⟩ := bd_s h
          refine cl_Ni X (eokS hF) (c_X6_contains (adrS a cA) (eokS hF) ht3) (nwS X (List.mem_of_getElem? (i := 6) rfl)) mw_X6_contains (by decide) hp hl.1 rfl (Nat.le_of_ble_eq_true rfl) dX2_mark_20 (fun H locs hp => ?_)
          refine lv_if_eq (tgt := 31) hx hb dX2_mark_23 (by decide) (fun c4 => ?_) (fun c4 => ?_)
          · have h := it_p h c4
            obtain ⟨x5, ex5⟩ : ∃ z : Int32, z = v4 + (1 : Int32) := ⟨_, rfl⟩
            have h := nm_s h x5 ex5
            refine lv_iinc (v := x5) (lv' := [(4, .int x5), (0, .ref (a 16)), (1, .long v1), (3, .int v3)]) hx hb dX2_mark_31 hl (k := 3) rfl (by rw [ex5]; rfl) (by decide) rfl (fun ls hl => ?_)
            refine lv_goto (tgt := 3) hx hb dX2_mark_34 (by decide) ?_
            exact hk3 x5 σ _ _ _ hp (lv_sub hl [1, 2, 3, 0] rfl) h
          · have h := it_n h c4
            refine lv_aload_n hx hb dX2_mark_26 rfl (lv_at hl 0 rfl) ?_
            refine lv_iload hx hb dX2_mark_27 (lv_at hl 3 rfl) ?_
            refine lv_iload_n hx hb dX2_mark_29 rfl (lv_at hl 2 rfl) ?_
            obtain ⟨g6, h⟩ := gd_s h
            refine sS_X2_depths X hp g6 dX2_mark_30 (fun H locs σ7 eσ7 hp => ?_)
            have h := nm_s h σ7 eσ7
            obtain ⟨x8, ex8⟩ : ∃ z : Int32, z = v4 + (1 : Int32) := ⟨_, rfl⟩
            have h := nm_s h x8 ex8
            refine lv_iinc (v := x8) (lv' := [(4, .int x8), (0, .ref (a 16)), (1, .long v1), (3, .int v3)]) hx hb dX2_mark_31 hl (k := 3) rfl (by rw [ex8]; rfl) (by decide) rfl (fun ls hl => ?_)
            refine lv_goto (tgt := 3) hx hb dX2_mark_34 (by decide) ?_
            exact hk3 x8 σ7 _ _ _ hp (lv_sub hl [1, 2, 3, 0] rfl) h
  have J_37 : ∀  (σ : St) (H : Heap) (locs : List Loc) (ls : Array Slot), Pw D (wS a cA) A s.heap H locs σ → lv_has ls 5 [] → X2_mark_a16_37 σ = some σ' → W p l e R s m args below meth c H locs 0 0 Q (F0 m 37 ls []) := by
    intro σ H locs ls hp hl h
    unfold X2_mark_a16_37 at h
    exact hR _ _ _ _ _ dX2_mark_37 hp (Option.some.inj h)
  unfold X2_mark_a16 at h
  have hl := lv_sub (l' := [(0, .ref (a 16)), (1, .long v1), (3, .int v3)]) hl [0, 1, 2] rfl
  refine lv_iconst (v := 0) hx hb dX2_mark_0 (by decide) ?_
  refine lv_istore (lv' := [(4, .int (0 : Int32)), (0, .ref (a 16)), (1, .long v1), (3, .int v3)]) hx hb dX2_mark_1 hl (by decide) rfl (fun ls hl => ?_)
  exact J_3 v1 v3 _ (fun σ H locs ls hp hl h => J_37 σ _ _ _ hp hl h) _ (0 : Int32) σ _ _ _ hp (lv_sub hl [1, 2, 3, 0] rfl) h
def X6_leastOf (v0 : Int64) : Option (Int32) :=
  if v0 = (0 : Int64) then
    some (-1 : Int32)
  else
    bd (J13_bitCount_95d88 ((v0 &&& (-v0)) - (1 : Int64))) (fun t2 =>
    some t2)
set_option maxRecDepth 20000 in
set_option maxHeartbeats 4000000 in
theorem c_X6_leastOf {l : Launch} {D : va_G} {tys : List (ClassId × FieldType)} {w : St → va_W} {E : (Nat → Prop) → State → Prop} (hw : Adr w) (hE : EOK E) {σ : St} {v0 : Int64} {r : Int32} (h : X6_leastOf v0 = some r) : MetI l yX6_leastOf cX6_leastOf 2 (some .int) 1 D tys w E [.long v0] σ r σ := by
  refine mkI (by decide) hw (Or.inl rfl) (Nat.le_of_ble_eq_true rfl) ?_
  intro p e R s m args below meth c A Q ls X hR hp hl
  obtain ⟨hx, hb, -, hown, hts, -⟩ := id X
  unfold X6_leastOf at h
  have hl := lv_sub (l' := [(0, .long v0)]) hl [0] rfl
  refine lv_lload_n hx hb dX6_leastOf_0 rfl (lv_at hl 0 rfl) ?_
  refine lv_lconst (v := 0) hx hb dX6_leastOf_1 (by decide) ?_
  refine W.lcmp hx hb dX6_leastOf_2 ?_
  refine lv_if_ne (tgt := 10) hx hb dX6_leastOf_3 (by decide) (fun c1 => ?_) (fun c1 => ?_)
  · have h := it_n h (fun q => c1 (lcmp0.mpr q))
    refine lv_lload_n hx hb dX6_leastOf_10 rfl (lv_at hl 0 rfl) ?_
    refine lv_lload_n hx hb dX6_leastOf_11 rfl (lv_at hl 0 rfl) ?_
    refine lv_lneg hx hb dX6_leastOf_12 ?_
    refine lv_land hx hb dX6_leastOf_13 ?_
    refine lv_lconst (v := 1) hx hb dX6_leastOf_14 (by decide) ?_
    refine lv_lsub hx hb dX6_leastOf_15 ?_
    obtain ⟨t2, ht2, h⟩ := bd_s h
    refine cl_Si X hE (c_J13_bitCount_95d88 hw hE ht2) tw_19_5 mw_J13_bitCount_95d88 (by decide) hp hl.1 rfl (Nat.le_of_ble_eq_true rfl) dX6_leastOf_16 (fun H locs hp => ?_)
    exact hR _ _ _ _ _ _ dX6_leastOf_19 hp (Option.some.inj h) rfl (fun q => by cases q)
  · have h := it_p h (lcmp0.mp c1)
    refine lv_iconst (v := -1) hx hb dX6_leastOf_6 (by decide) ?_
    refine lv_goto (tgt := 19) hx hb dX6_leastOf_7 (by decide) ?_
    exact hR _ _ _ _ _ _ dX6_leastOf_19 hp (Option.some.inj h) rfl (fun q => by cases q)
def X2_unionOver_a14_48 (k8 : (Int64 → Int64 → Int32 → Option (Int64))) (σ : St) (v3 : Int64) (v5 : Int64) (v7 : Int32) : Option (Int64) :=
  nm (v5 &&& (v5 - (1 : Int64))) (fun (x1 : Int64) =>
  nm (v7 + (1 : Int32)) (fun (x2 : Int32) =>
  k8 v3 x1 x2))
def X2_unionOver_a14_8b (k8 : (Int64 → Int64 → Int32 → Option (Int64))) (k63 : (Int64 → Option (Int64))) (σ : St) (v3 : Int64) (v5 : Int64) (v7 : Int32) : Option (Int64) :=
  if (64 : Int32) ≤ v7 then
    k63 v3
  else
    if v5 = (0 : Int64) then
      k63 v3
    else
      bd (X6_leastOf v5) (fun t3 =>
      if t3 < 0 then
        X2_unionOver_a14_48 k8 σ v3 v5 v7
      else
        if (64 : Int32) ≤ t3 then
          X2_unionOver_a14_48 k8 σ v3 v5 v7
        else
          gd (inb t3 64) (
          nm (v3 ||| (σ.2.2.2 3 t3.toNatClampNeg)) (fun (x7 : Int64) =>
          X2_unionOver_a14_48 k8 σ x7 v5 v7)))
def X2_unionOver_a14_8 (k63 : (Int64 → Option (Int64))) (σ : St) : Nat → Int64 → Int64 → Int32 → Option (Int64)
  | 0, _, _, _ => none
  | n + 1, v3, v5, v7 => X2_unionOver_a14_8b (fun v3 v5 v7 => X2_unionOver_a14_8 k63 σ n v3 v5 v7) k63 σ v3 v5 v7
def X2_unionOver_a14_63 (σ : St) (v3 : Int64) : Option (Int64) :=
  some v3
def X2_unionOver_a14 (N : Nat) (σ : St) (v0 : Int64) : Option (Int64) :=
  X2_unionOver_a14_8 (fun v3 => X2_unionOver_a14_63 σ v3) σ N (0 : Int64) v0 (0 : Int32)
set_option maxRecDepth 20000 in
set_option maxHeartbeats 4000000 in
theorem c_X2_unionOver_a14 {l : Launch} {D : va_G} {a : Nat → Nat} {cA : Nat → ClassId} {t : Nat} {F : (Nat → Prop) → State → Prop} (hF : EOK F) {σ : St} {N : Nat} {v0 : Int64} {r : Int64} (h : X2_unionOver_a14 N σ v0 = some r) : MetL l yX2_unionOver cX2_unionOver 9 (some .long) 2 D (tyW cA) (wS a cA) (ES t F) [.long v0, .ref (a 14)] σ r σ := by
  refine mkL (by decide) (adrS a cA) rfl (Nat.le_of_ble_eq_true rfl) ?_
  intro p e R s m args below meth c A Q ls X hR hp hl
  obtain ⟨hx, hb, -, hown, hts, -⟩ := id X
  have J_48 : ∀ (v3 : Int64) (v5 : Int64) (v7 : Int32) (k8 : (Int64 → Int64 → Int32 → Option (Int64))) (hk8 : ∀ (v3 : Int64) (v5 : Int64) (v7 : Int32) (H : Heap) (locs : List Loc) (ls : Array Slot), Pw D (wS a cA) A s.heap H locs σ → lv_has ls 9 [(2, .ref (a 14)), (3, .long v3), (5, .long v5), (7, .int v7)] → k8 v3 v5 v7 = some r → W p l e R s m args below meth c H locs 0 0 Q (F0 m 8 ls [])) (H : Heap) (locs : List Loc) (ls : Array Slot), Pw D (wS a cA) A s.heap H locs σ → lv_has ls 9 [(2, .ref (a 14)), (3, .long v3), (5, .long v5), (7, .int v7)] → X2_unionOver_a14_48 k8 σ v3 v5 v7 = some r → W p l e R s m args below meth c H locs 0 0 Q (F0 m 48 ls []) := by
    intro v3 v5 v7 k8 hk8 H locs ls hp hl h
    unfold X2_unionOver_a14_48 at h
    refine lv_lload hx hb dX2_unionOver_48 (lv_at hl 2 rfl) ?_
    refine lv_lload hx hb dX2_unionOver_50 (lv_at hl 2 rfl) ?_
    refine lv_lconst (v := 1) hx hb dX2_unionOver_52 (by decide) ?_
    refine lv_lsub hx hb dX2_unionOver_53 ?_
    refine lv_land hx hb dX2_unionOver_54 ?_
    refine lv_topl (fun x1 ex1 => ?_)
    have h := nm_s h x1 ex1
    refine lv_lstore (lv' := [(5, .long x1), (2, .ref (a 14)), (3, .long v3), (7, .int v7)]) hx hb dX2_unionOver_55 hl (by decide) rfl (fun ls hl => ?_)
    obtain ⟨x2, ex2⟩ : ∃ z : Int32, z = v7 + (1 : Int32) := ⟨_, rfl⟩
    have h := nm_s h x2 ex2
    refine lv_iinc (v := x2) (lv' := [(7, .int x2), (5, .long x1), (2, .ref (a 14)), (3, .long v3)]) hx hb dX2_unionOver_57 hl (k := 3) rfl (by rw [ex2]; rfl) (by decide) rfl (fun ls hl => ?_)
    refine lv_goto (tgt := 8) hx hb dX2_unionOver_60 (by decide) ?_
    exact hk8 v3 x1 x2 _ _ _ hp (lv_sub hl [2, 3, 1, 0] rfl) h
  have J_8 : ∀  (k63 : (Int64 → Option (Int64))) (hk63 : ∀ (v3 : Int64) (H : Heap) (locs : List Loc) (ls : Array Slot), Pw D (wS a cA) A s.heap H locs σ → lv_has ls 9 [(3, .long v3)] → k63 v3 = some r → W p l e R s m args below meth c H locs 0 0 Q (F0 m 63 ls [])) (n : Nat) (v3 : Int64) (v5 : Int64) (v7 : Int32) (H : Heap) (locs : List Loc) (ls : Array Slot), Pw D (wS a cA) A s.heap H locs σ → lv_has ls 9 [(2, .ref (a 14)), (3, .long v3), (5, .long v5), (7, .int v7)] → X2_unionOver_a14_8 k63 σ n v3 v5 v7 = some r → W p l e R s m args below meth c H locs 0 0 Q (F0 m 8 ls []) := by
    intro k63 hk63 n
    induction n with
    | zero => intro v3 v5 v7 H locs ls hp hl h; exact nn_s (show (none : Option (Int64)) = some _ from h)
    | succ n ih =>
      intro v3 v5 v7 H locs ls hp hl h
      have h : X2_unionOver_a14_8b (fun v3 v5 v7 => X2_unionOver_a14_8 k63 σ n v3 v5 v7) k63 σ v3 v5 v7 = some r := h
      unfold X2_unionOver_a14_8b at h
      have hk8 := ih
      refine lv_iload hx hb dX2_unionOver_8 (lv_at hl 3 rfl) ?_
      refine lv_bipush (v := 64) hx hb dX2_unionOver_10 (by decide) ?_
      refine lv_icmp_ge (tgt := 63) hx hb dX2_unionOver_12 (by decide) (fun c1 => ?_) (fun c1 => ?_)
      · have h := it_p h c1
        exact hk63 v3 _ _ _ hp (lv_sub hl [1] rfl) h
      · have h := it_n h c1
        refine lv_lload hx hb dX2_unionOver_15 (lv_at hl 2 rfl) ?_
        refine lv_lconst (v := 0) hx hb dX2_unionOver_17 (by decide) ?_
        refine W.lcmp hx hb dX2_unionOver_18 ?_
        refine lv_if_eq (tgt := 63) hx hb dX2_unionOver_19 (by decide) (fun c2 => ?_) (fun c2 => ?_)
        · have h := it_p h (lcmp0.mp c2)
          exact hk63 v3 _ _ _ hp (lv_sub hl [1] rfl) h
        · have h := it_n h (fun q => c2 (lcmp0.mpr q))
          refine lv_lload hx hb dX2_unionOver_22 (lv_at hl 2 rfl) ?_
          obtain ⟨t3, ht3, h⟩ := bd_s h
          refine cl_Ni X (eokS hF) (c_X6_leastOf (adrS a cA) (eokS hF) ht3) (nwS X (List.mem_of_getElem? (i := 7) rfl)) mw_X6_leastOf (by decide) hp hl.1 rfl (Nat.le_of_ble_eq_true rfl) dX2_unionOver_24 (fun H locs hp => ?_)
          refine lv_istore (lv' := [(8, .int t3), (2, .ref (a 14)), (3, .long v3), (5, .long v5), (7, .int v7)]) hx hb dX2_unionOver_27 hl (by decide) rfl (fun ls hl => ?_)
          refine lv_iload hx hb dX2_unionOver_29 (lv_at hl 0 rfl) ?_
          refine lv_if_lt (tgt := 48) hx hb dX2_unionOver_31 (by decide) (fun c4 => ?_) (fun c4 => ?_)
          · have h := it_p h c4
            exact J_48 v3 v5 v7 _ hk8 _ _ _ hp (lv_sub hl [1, 2, 3, 4] rfl) h
          · have h := it_n h c4
            refine lv_iload hx hb dX2_unionOver_34 (lv_at hl 0 rfl) ?_
            refine lv_aload_n hx hb dX2_unionOver_36 rfl (lv_at hl 1 rfl) ?_
            refine nS_X2_successorSets X hp dX2_unionOver_37 ?_
            refine lv_icmp_ge (tgt := 48) hx hb dX2_unionOver_38 (by decide) (fun c5 => ?_) (fun c5 => ?_)
            · have h := it_p h c5
              exact J_48 v3 v5 v7 _ hk8 _ _ _ hp (lv_sub hl [1, 2, 3, 4] rfl) h
            · have h := it_n h c5
              refine lv_lload_n hx hb dX2_unionOver_41 rfl (lv_at hl 2 rfl) ?_
              refine lv_aload_n hx hb dX2_unionOver_42 rfl (lv_at hl 1 rfl) ?_
              refine lv_iload hx hb dX2_unionOver_43 (lv_at hl 0 rfl) ?_
              obtain ⟨g6, h⟩ := gd_s h
              refine lS_X2_successorSets X hp g6 dX2_unionOver_45 ?_
              refine lv_lor hx hb dX2_unionOver_46 ?_
              refine lv_topl (fun x7 ex7 => ?_)
              have h := nm_s h x7 ex7
              refine lv_lstore_n (lv' := [(3, .long x7), (8, .int t3), (2, .ref (a 14)), (5, .long v5), (7, .int v7)]) hx hb dX2_unionOver_47 rfl hl (by decide) rfl (fun ls hl => ?_)
              exact J_48 x7 v5 v7 _ hk8 _ _ _ hp (lv_sub hl [2, 0, 3, 4] rfl) h
  have J_63 : ∀ (v3 : Int64) (H : Heap) (locs : List Loc) (ls : Array Slot), Pw D (wS a cA) A s.heap H locs σ → lv_has ls 9 [(3, .long v3)] → X2_unionOver_a14_63 σ v3 = some r → W p l e R s m args below meth c H locs 0 0 Q (F0 m 63 ls []) := by
    intro v3 H locs ls hp hl h
    unfold X2_unionOver_a14_63 at h
    refine lv_lload_n hx hb dX2_unionOver_63 rfl (lv_at hl 0 rfl) ?_
    exact hR _ _ _ _ _ _ dX2_unionOver_64 hp (Option.some.inj h) rfl
  unfold X2_unionOver_a14 at h
  have hl := lv_sub (l' := [(0, .long v0), (2, .ref (a 14))]) hl [0, 1] rfl
  refine lv_lconst (v := 0) hx hb dX2_unionOver_0 (by decide) ?_
  refine lv_lstore_n (lv' := [(3, .long (0 : Int64)), (0, .long v0), (2, .ref (a 14))]) hx hb dX2_unionOver_1 rfl hl (by decide) rfl (fun ls hl => ?_)
  refine lv_lload_n hx hb dX2_unionOver_2 rfl (lv_at hl 1 rfl) ?_
  refine lv_lstore (lv' := [(5, .long v0), (3, .long (0 : Int64)), (0, .long v0), (2, .ref (a 14))]) hx hb dX2_unionOver_3 hl (by decide) rfl (fun ls hl => ?_)
  refine lv_iconst (v := 0) hx hb dX2_unionOver_5 (by decide) ?_
  refine lv_istore (lv' := [(7, .int (0 : Int32)), (5, .long v0), (3, .long (0 : Int64)), (0, .long v0), (2, .ref (a 14))]) hx hb dX2_unionOver_6 hl (by decide) rfl (fun ls hl => ?_)
  exact J_8 _ (fun v3 H locs ls hp hl h => J_63 v3 _ _ _ hp hl h) _ (0 : Int64) v0 (0 : Int32) _ _ _ hp (lv_sub hl [4, 2, 1, 0] rfl) h
def X2_successorsOf (N : Nat) (σ : St) (v1 : Int64) : Option (Int64) :=
  bd (X2_unionOver_a14 N σ v1) (fun t1 =>
  some t1)
set_option maxRecDepth 20000 in
set_option maxHeartbeats 4000000 in
theorem c_X2_successorsOf {l : Launch} {D : va_G} {a : Nat → Nat} {cA : Nat → ClassId} {t : Nat} {F : (Nat → Prop) → State → Prop} (hF : EOK F) {σ : St} {N : Nat} {v1 : Int64} {r : Int64} (h : X2_successorsOf N σ v1 = some r) : MetL l yX2_successorsOf cX2_successorsOf 3 (some .long) 3 D (tyW cA) (wS a cA) (ES t F) [.ref (a 3), .long v1] σ r σ := by
  refine mkL (by decide) (adrS a cA) rfl (Nat.le_of_ble_eq_true rfl) ?_
  intro p e R s m args below meth c A Q ls X hR hp hl
  obtain ⟨hx, hb, -, hown, hts, -⟩ := id X
  unfold X2_successorsOf at h
  have hl := lv_sub (l' := [(0, .ref (a 3)), (1, .long v1)]) hl [0, 1] rfl
  refine lv_lload_n hx hb dX2_successorsOf_0 rfl (lv_at hl 1 rfl) ?_
  refine lv_aload_n hx hb dX2_successorsOf_1 rfl (lv_at hl 0 rfl) ?_
  refine gS_X2_successorSets X hp tw_4_2 dX2_successorsOf_2 ?_
  obtain ⟨t1, ht1, h⟩ := bd_s h
  refine cl_Sl X (eokS hF) (c_X2_unionOver_a14 hF ht1) tw_23_20 mw_X2_unionOver (by decide) hp hl.1 rfl (Nat.le_of_ble_eq_true rfl) dX2_successorsOf_5 (fun H locs hp => ?_)
  exact hR _ _ _ _ _ _ dX2_successorsOf_8 hp (Option.some.inj h) rfl
def X2_findDepths_28b (N : Nat) (k28 : (Int64 → Int32 → St → Option (St))) (k85 : (St → Option (St))) (v1 : Int64) (v3 : Int32) (σ : St) : Option (St) :=
  if (64 : Int32) ≤ v3 then
    k85 σ
  else
    if v1 = (0 : Int64) then
      k85 σ
    else
      bd (X2_mark_a16 N v1 v3 σ) (fun t3 =>
      nm (sj t3 1 ((t3.2.1 1) ||| v1)) (fun (σ4 : St) =>
      nm (si σ4 11 v3) (fun (σ5 : St) =>
      bd (X2_successorsOf N σ5 v1) (fun t6 =>
      nm (t6 &&& ((σ5.2.1 1) ^^^ (-1 : Int64))) (fun (x7 : Int64) =>
      nm (v3 + (1 : Int32)) (fun (x8 : Int32) =>
      k28 x7 x8 σ5))))))
def X2_findDepths_28 (N : Nat) (k85 : (St → Option (St))) : Nat → Int64 → Int32 → St → Option (St)
  | 0, _, _, _ => none
  | n + 1, v1, v3, σ => X2_findDepths_28b N (fun v1 v3 σ => X2_findDepths_28 N k85 n v1 v3 σ) k85 v1 v3 σ
def X2_findDepths_85 (σ : St) : Option (St) :=
  some σ
def X2_findDepths (N : Nat) (σ : St) : Option (St) :=
  bd (J7_fill_53178_a16 N (-1 : Int32) σ) (fun t1 =>
  nm (sj t1 1 (0 : Int64)) (fun (σ2 : St) =>
  nm (si σ2 11 (-1 : Int32)) (fun (σ3 : St) =>
  bd (X0_initial σ3) (fun t4 =>
  X2_findDepths_28 N (fun σ => X2_findDepths_85 σ) N t4 (0 : Int32) σ3))))
set_option maxRecDepth 20000 in
set_option maxHeartbeats 4000000 in
theorem c_X2_findDepths {l : Launch} {D : va_G} {a : Nat → Nat} {cA : Nat → ClassId} {t : Nat} {F : (Nat → Prop) → State → Prop} (hF : EOK F) {σ : St} {N : Nat} {σ' : St} (h : X2_findDepths N σ = some σ') : MetV l yX2_findDepths cX2_findDepths 4 none 4 D (tyW cA) (wS a cA) (ES t F) [.ref (a 3)] σ σ' := by
  refine mkV (by decide) (adrS a cA) rfl (Nat.le_of_ble_eq_true rfl) ?_
  intro p e R s m args below meth c A Q ls X hR hp hl
  obtain ⟨hx, hb, -, hown, hts, -⟩ := id X
  have J_28 : ∀  (k85 : (St → Option (St))) (hk85 : ∀ (σ : St) (H : Heap) (locs : List Loc) (ls : Array Slot), Pw D (wS a cA) A s.heap H locs σ → lv_has ls 4 [(0, .ref (a 3))] → k85 σ = some σ' → W p l e R s m args below meth c H locs 0 0 Q (F0 m 85 ls [])) (n : Nat) (v1 : Int64) (v3 : Int32) (σ : St) (H : Heap) (locs : List Loc) (ls : Array Slot), Pw D (wS a cA) A s.heap H locs σ → lv_has ls 4 [(0, .ref (a 3)), (1, .long v1), (3, .int v3)] → X2_findDepths_28 N k85 n v1 v3 σ = some σ' → W p l e R s m args below meth c H locs 0 0 Q (F0 m 28 ls []) := by
    intro k85 hk85 n
    induction n with
    | zero => intro v1 v3 σ H locs ls hp hl h; exact nn_s (show (none : Option (St)) = some _ from h)
    | succ n ih =>
      intro v1 v3 σ H locs ls hp hl h
      have h : X2_findDepths_28b N (fun v1 v3 σ => X2_findDepths_28 N k85 n v1 v3 σ) k85 v1 v3 σ = some σ' := h
      unfold X2_findDepths_28b at h
      have hk28 := ih
      refine lv_iload_n hx hb dX2_findDepths_28 rfl (lv_at hl 2 rfl) ?_
      refine lv_bipush (v := 64) hx hb dX2_findDepths_29 (by decide) ?_
      refine lv_icmp_ge (tgt := 85) hx hb dX2_findDepths_31 (by decide) (fun c1 => ?_) (fun c1 => ?_)
      · have h := it_p h c1
        exact hk85 σ _ _ _ hp (lv_sub hl [0] rfl) h
      · have h := it_n h c1
        refine lv_lload_n hx hb dX2_findDepths_34 rfl (lv_at hl 1 rfl) ?_
        refine lv_lconst (v := 0) hx hb dX2_findDepths_35 (by decide) ?_
        refine W.lcmp hx hb dX2_findDepths_36 ?_
        refine lv_if_eq (tgt := 85) hx hb dX2_findDepths_37 (by decide) (fun c2 => ?_) (fun c2 => ?_)
        · have h := it_p h (lcmp0.mp c2)
          exact hk85 σ _ _ _ hp (lv_sub hl [0] rfl) h
        · have h := it_n h (fun q => c2 (lcmp0.mpr q))
          refine lv_aload_n hx hb dX2_findDepths_40 rfl (lv_at hl 0 rfl) ?_
          refine gS_X2_depths X hp tw_4_4 dX2_findDepths_41 ?_
          refine lv_lload_n hx hb dX2_findDepths_44 rfl (lv_at hl 1 rfl) ?_
          refine lv_iload_n hx hb dX2_findDepths_45 rfl (lv_at hl 2 rfl) ?_
          obtain ⟨t3, ht3, h⟩ := bd_s h
          refine cl_Sv X (eokS hF) (c_X2_mark_a16 hF ht3) tw_23_13 mw_X2_mark (by decide) hp hl.1 rfl (Nat.le_of_ble_eq_true rfl) dX2_findDepths_46 (fun H locs hp => ?_)
          refine lv_aload_n hx hb dX2_findDepths_49 rfl (lv_at hl 0 rfl) ?_
          refine lv_dup hx hb dX2_findDepths_50 rfl ?_
          refine gS_X2_reachable X hp tw_23_6 dX2_findDepths_51 ?_
          refine lv_lload_n hx hb dX2_findDepths_54 rfl (lv_at hl 1 rfl) ?_
          refine lv_lor hx hb dX2_findDepths_55 ?_
          refine pS_X2_reachable X hp tw_23_6 dX2_findDepths_56 (fun H locs σ4 eσ4 hp => ?_)
          have h := nm_s h σ4 eσ4
          refine lv_aload_n hx hb dX2_findDepths_59 rfl (lv_at hl 0 rfl) ?_
          refine lv_iload_n hx hb dX2_findDepths_60 rfl (lv_at hl 2 rfl) ?_
          refine pS_X2_deepest X hp tw_23_7 dX2_findDepths_61 (fun H locs σ5 eσ5 hp => ?_)
          have h := nm_s h σ5 eσ5
          refine lv_aload_n hx hb dX2_findDepths_64 rfl (lv_at hl 0 rfl) ?_
          refine lv_lload_n hx hb dX2_findDepths_65 rfl (lv_at hl 1 rfl) ?_
          obtain ⟨t6, ht6, h⟩ := bd_s h
          refine cl_Vl X (eokS hF) (c_X2_successorsOf hF ht6) tw_23_16 mw_X2_successorsOf (by decide) hp 3 rfl rfl rfl hl.1 rfl (Nat.le_of_ble_eq_true rfl) dX2_findDepths_66 (fun H locs hp => ?_)
          refine lv_aload_n hx hb dX2_findDepths_69 rfl (lv_at hl 0 rfl) ?_
          refine gS_X2_reachable X hp tw_23_6 dX2_findDepths_70 ?_
          refine lv_ldc2 hx hb hown (hts _ tw_23_8) dX2_findDepths_73 ?_
          refine lv_lxor hx hb dX2_findDepths_76 ?_
          refine lv_land hx hb dX2_findDepths_77 ?_
          refine lv_topl (fun x7 ex7 => ?_)
          have h := nm_s h x7 ex7
          refine lv_lstore_n (lv' := [(1, .long x7), (0, .ref (a 3)), (3, .int v3)]) hx hb dX2_findDepths_78 rfl hl (by decide) rfl (fun ls hl => ?_)
          obtain ⟨x8, ex8⟩ : ∃ z : Int32, z = v3 + (1 : Int32) := ⟨_, rfl⟩
          have h := nm_s h x8 ex8
          refine lv_iinc (v := x8) (lv' := [(3, .int x8), (1, .long x7), (0, .ref (a 3))]) hx hb dX2_findDepths_79 hl (k := 2) rfl (by rw [ex8]; rfl) (by decide) rfl (fun ls hl => ?_)
          refine lv_goto (tgt := 28) hx hb dX2_findDepths_82 (by decide) ?_
          exact hk28 x7 x8 σ5 _ _ _ hp (lv_sub hl [2, 1, 0] rfl) h
  have J_85 : ∀  (σ : St) (H : Heap) (locs : List Loc) (ls : Array Slot), Pw D (wS a cA) A s.heap H locs σ → lv_has ls 4 [(0, .ref (a 3))] → X2_findDepths_85 σ = some σ' → W p l e R s m args below meth c H locs 0 0 Q (F0 m 85 ls []) := by
    intro σ H locs ls hp hl h
    unfold X2_findDepths_85 at h
    exact hR _ _ _ _ _ dX2_findDepths_85 hp (Option.some.inj h)
  unfold X2_findDepths at h
  have hl := lv_sub (l' := [(0, .ref (a 3))]) hl [0] rfl
  refine lv_aload_n hx hb dX2_findDepths_0 rfl (lv_at hl 0 rfl) ?_
  refine gS_X2_depths X hp tw_4_4 dX2_findDepths_1 ?_
  refine lv_iconst (v := -1) hx hb dX2_findDepths_4 (by decide) ?_
  obtain ⟨t1, ht1, h⟩ := bd_s h
  refine cl_Sv X (eokS hF) (c_J7_fill_53178_a16 hF ht1) tw_23_9 mw_J7_fill_53178 (by decide) hp hl.1 rfl (Nat.le_of_ble_eq_true rfl) dX2_findDepths_5 (fun H locs hp => ?_)
  refine lv_aload_n hx hb dX2_findDepths_8 rfl (lv_at hl 0 rfl) ?_
  refine lv_lconst (v := 0) hx hb dX2_findDepths_9 (by decide) ?_
  refine pS_X2_reachable X hp tw_23_6 dX2_findDepths_10 (fun H locs σ2 eσ2 hp => ?_)
  have h := nm_s h σ2 eσ2
  refine lv_aload_n hx hb dX2_findDepths_13 rfl (lv_at hl 0 rfl) ?_
  refine lv_iconst (v := -1) hx hb dX2_findDepths_14 (by decide) ?_
  refine pS_X2_deepest X hp tw_23_7 dX2_findDepths_15 (fun H locs σ3 eσ3 hp => ?_)
  have h := nm_s h σ3 eσ3
  refine lv_aload_n hx hb dX2_findDepths_18 rfl (lv_at hl 0 rfl) ?_
  refine gS_X2_circuit X hp tw_4_0 dX2_findDepths_19 ?_
  obtain ⟨t4, ht4, h⟩ := bd_s h
  refine cl_Vl X (eokS hF) (c_X0_initial hF ht4) tw_23_12 mw_X0_initial (by decide) hp 2 rfl rfl rfl hl.1 rfl (Nat.le_of_ble_eq_true rfl) dX2_findDepths_22 (fun H locs hp => ?_)
  refine lv_lstore_n (lv' := [(1, .long t4), (0, .ref (a 3))]) hx hb dX2_findDepths_25 rfl hl (by decide) rfl (fun ls hl => ?_)
  refine lv_iconst (v := 0) hx hb dX2_findDepths_26 (by decide) ?_
  refine lv_istore_n (lv' := [(3, .int (0 : Int32)), (1, .long t4), (0, .ref (a 3))]) hx hb dX2_findDepths_27 rfl hl (by decide) rfl (fun ls hl => ?_)
  exact J_28 _ (fun σ H locs ls hp hl h => J_85 σ _ _ _ hp hl h) _ t4 (0 : Int32) σ3 _ _ _ hp (lv_sub hl [2, 1, 0] rfl) h
