/- X2_leastInputInto X2_inputToBadState X6_shortest X6_askedStates X6_candidate X6_check X6_escape X2_statesThatCanReach X2_statesThatCanStayIn X6_modal -/
def X2_leastInputInto_3b (k3 : (Int32 → Option (Int32))) (k29 : (Int32 → Option (Int32))) (k38 : (Option (Int32))) (σ : St) (v1 : Int32) (v2 : Int64) (v4 : Int32) : Option (Int32) :=
  if (σ.1 8) ≤ v4 then
    k38
  else
    bd (X2_nextOf σ v1 v4) (fun t2 =>
    bd (X6_contains v2 t2) (fun t3 =>
    if t3 = 0 then
      nm (v4 + (1 : Int32)) (fun (x5 : Int32) =>
      k3 x5)
    else
      k29 v4))
def X2_leastInputInto_3 (k29 : (Int32 → Option (Int32))) (k38 : (Option (Int32))) (σ : St) (v1 : Int32) (v2 : Int64) : Nat → Int32 → Option (Int32)
  | 0, _ => none
  | n + 1, v4 => X2_leastInputInto_3b (fun v4 => X2_leastInputInto_3 k29 k38 σ v1 v2 n v4) k29 k38 σ v1 v2 v4
def X2_leastInputInto_29 (σ : St) (v4 : Int32) : Option (Int32) :=
  some v4
def X2_leastInputInto_38 (σ : St) : Option (Int32) :=
  some (-1 : Int32)
def X2_leastInputInto (N : Nat) (σ : St) (v1 : Int32) (v2 : Int64) : Option (Int32) :=
  X2_leastInputInto_3 (fun v4 => X2_leastInputInto_29 σ v4) (X2_leastInputInto_38 σ) σ v1 v2 N (0 : Int32)
set_option maxRecDepth 20000 in
set_option maxHeartbeats 4000000 in
theorem c_X2_leastInputInto {l : Launch} {D : va_G} {a : Nat → Nat} {cA : Nat → ClassId} {t : Nat} {F : (Nat → Prop) → State → Prop} (hF : EOK F) {σ : St} {N : Nat} {v1 : Int32} {v2 : Int64} {r : Int32} (h : X2_leastInputInto N σ v1 v2 = some r) : MetI l yX2_leastInputInto cX2_leastInputInto 5 (some .int) 1 D (tyW cA) (wS a cA) (ES t F) [.ref (a 3), .int v1, .long v2] σ r σ := by
  refine mkI (by decide) (adrS a cA) (Or.inl rfl) (Nat.le_of_ble_eq_true rfl) ?_
  intro p e R s m args below meth c A Q ls X hR hp hl
  obtain ⟨hx, hb, -, hown, hts, -⟩ := id X
  have J_3 : ∀ (v1 : Int32) (v2 : Int64) (k29 : (Int32 → Option (Int32))) (hk29 : ∀ (v4 : Int32) (H : Heap) (locs : List Loc) (ls : Array Slot), Pw D (wS a cA) A s.heap H locs σ → lv_has ls 5 [(0, .ref (a 3)), (4, .int v4)] → k29 v4 = some r → W p l e R s m args below meth c H locs 0 0 Q (F0 m 29 ls [])) (k38 : (Option (Int32))) (hk38 : ∀ (H : Heap) (locs : List Loc) (ls : Array Slot), Pw D (wS a cA) A s.heap H locs σ → lv_has ls 5 [(0, .ref (a 3))] → k38 = some r → W p l e R s m args below meth c H locs 0 0 Q (F0 m 38 ls [])) (n : Nat) (v4 : Int32) (H : Heap) (locs : List Loc) (ls : Array Slot), Pw D (wS a cA) A s.heap H locs σ → lv_has ls 5 [(0, .ref (a 3)), (1, .int v1), (2, .long v2), (4, .int v4)] → X2_leastInputInto_3 k29 k38 σ v1 v2 n v4 = some r → W p l e R s m args below meth c H locs 0 0 Q (F0 m 3 ls []) := by
    intro v1 v2 k29 hk29 k38 hk38 n
    induction n with
    | zero => intro v4 H locs ls hp hl h; exact nn_s (show (none : Option (Int32)) = some _ from h)
    | succ n ih =>
      intro v4 H locs ls hp hl h
      have h : X2_leastInputInto_3b (fun v4 => X2_leastInputInto_3 k29 k38 σ v1 v2 n v4) k29 k38 σ v1 v2 v4 = some r := h
      unfold X2_leastInputInto_3b at h
      have hk3 := ih
      refine lv_iload hx hb dX2_leastInputInto_3 (lv_at hl 3 rfl) ?_
      refine lv_aload_n hx hb dX2_leastInputInto_5 rfl (lv_at hl 0 rfl) ?_
      refine gS_X2_circuit X hp tw_4_0 dX2_leastInputInto_6 ?_
      refine gS_X0_inputValues X hp tw_22_20 dX2_leastInputInto_9 ?_
      refine lv_icmp_ge (tgt := 38) hx hb dX2_leastInputInto_12 (by decide) (fun c1 => ?_) (fun c1 => ?_)
      · have h := it_p h c1
        exact hk38 _ _ _ hp (lv_sub hl [0] rfl) h
      · have h := it_n h c1
        refine lv_lload_n hx hb dX2_leastInputInto_15 rfl (lv_at hl 2 rfl) ?_
        refine lv_aload_n hx hb dX2_leastInputInto_16 rfl (lv_at hl 0 rfl) ?_
        refine lv_iload_n hx hb dX2_leastInputInto_17 rfl (lv_at hl 1 rfl) ?_
        refine lv_iload hx hb dX2_leastInputInto_18 (lv_at hl 3 rfl) ?_
        obtain ⟨t2, ht2, h⟩ := bd_s h
        refine cl_Vi X (eokS hF) (c_X2_nextOf hF ht2) tw_25_12 mw_X2_nextOf (by decide) hp 3 rfl rfl rfl hl.1 rfl (Nat.le_of_ble_eq_true rfl) dX2_leastInputInto_20 (fun H locs hp => ?_)
        obtain ⟨t3, ht3, h⟩ := bd_s h
        refine cl_Ni X (eokS hF) (c_X6_contains (adrS a cA) (eokS hF) ht3) (nwS X (List.mem_of_getElem? (i := 6) rfl)) mw_X6_contains (by decide) hp hl.1 rfl (Nat.le_of_ble_eq_true rfl) dX2_leastInputInto_23 (fun H locs hp => ?_)
        refine lv_if_eq (tgt := 32) hx hb dX2_leastInputInto_26 (by decide) (fun c4 => ?_) (fun c4 => ?_)
        · have h := it_p h c4
          obtain ⟨x5, ex5⟩ : ∃ z : Int32, z = v4 + (1 : Int32) := ⟨_, rfl⟩
          have h := nm_s h x5 ex5
          refine lv_iinc (v := x5) (lv' := [(4, .int x5), (0, .ref (a 3)), (1, .int v1), (2, .long v2)]) hx hb dX2_leastInputInto_32 hl (k := 3) rfl (by rw [ex5]; rfl) (by decide) rfl (fun ls hl => ?_)
          refine lv_goto (tgt := 3) hx hb dX2_leastInputInto_35 (by decide) ?_
          exact hk3 x5 _ _ _ hp (lv_sub hl [1, 2, 3, 0] rfl) h
        · have h := it_n h c4
          exact hk29 v4 _ _ _ hp (lv_sub hl [0, 3] rfl) h
  have J_29 : ∀ (v4 : Int32) (H : Heap) (locs : List Loc) (ls : Array Slot), Pw D (wS a cA) A s.heap H locs σ → lv_has ls 5 [(0, .ref (a 3)), (4, .int v4)] → X2_leastInputInto_29 σ v4 = some r → W p l e R s m args below meth c H locs 0 0 Q (F0 m 29 ls []) := by
    intro v4 H locs ls hp hl h
    unfold X2_leastInputInto_29 at h
    refine lv_iload hx hb dX2_leastInputInto_29 (lv_at hl 1 rfl) ?_
    exact hR _ _ _ _ _ _ dX2_leastInputInto_31 hp (Option.some.inj h) rfl (fun q => by cases q)
  have J_38 : ∀  (H : Heap) (locs : List Loc) (ls : Array Slot), Pw D (wS a cA) A s.heap H locs σ → lv_has ls 5 [(0, .ref (a 3))] → X2_leastInputInto_38 σ = some r → W p l e R s m args below meth c H locs 0 0 Q (F0 m 38 ls []) := by
    intro H locs ls hp hl h
    unfold X2_leastInputInto_38 at h
    refine lv_iconst (v := -1) hx hb dX2_leastInputInto_38 (by decide) ?_
    exact hR _ _ _ _ _ _ dX2_leastInputInto_39 hp (Option.some.inj h) rfl (fun q => by cases q)
  unfold X2_leastInputInto at h
  have hl := lv_sub (l' := [(0, .ref (a 3)), (1, .int v1), (2, .long v2)]) hl [0, 1, 2] rfl
  refine lv_iconst (v := 0) hx hb dX2_leastInputInto_0 (by decide) ?_
  refine lv_istore (lv' := [(4, .int (0 : Int32)), (0, .ref (a 3)), (1, .int v1), (2, .long v2)]) hx hb dX2_leastInputInto_1 hl (by decide) rfl (fun ls hl => ?_)
  exact J_3 v1 v2 _ (fun v4 H locs ls hp hl h => J_29 v4 _ _ _ hp hl h) _ (fun H locs ls hp hl h => J_38 _ _ _ hp hl h) _ (0 : Int32) _ _ _ hp (lv_sub hl [1, 2, 3, 0] rfl) h
def X2_inputToBadState (N : Nat) (σ : St) (v1 : Int32) : Option (Int32) :=
  bd (X2_leastNearer N σ v1) (fun t1 =>
  if t1 = (-1 : Int32) then
    some (-1 : Int32)
  else
    bd (X2_leastInputInto N σ v1 ((1 : Int64) <<< (t1.toInt64 &&& 63))) (fun t3 =>
    some t3))
set_option maxRecDepth 20000 in
set_option maxHeartbeats 4000000 in
theorem c_X2_inputToBadState {l : Launch} {D : va_G} {a : Nat → Nat} {cA : Nat → ClassId} {t : Nat} {F : (Nat → Prop) → State → Prop} (hF : EOK F) {σ : St} {N : Nat} {v1 : Int32} {r : Int32} (h : X2_inputToBadState N σ v1 = some r) : MetI l yX2_inputToBadState cX2_inputToBadState 3 (some .int) 2 D (tyW cA) (wS a cA) (ES t F) [.ref (a 3), .int v1] σ r σ := by
  refine mkI (by decide) (adrS a cA) (Or.inl rfl) (Nat.le_of_ble_eq_true rfl) ?_
  intro p e R s m args below meth c A Q ls X hR hp hl
  obtain ⟨hx, hb, -, hown, hts, -⟩ := id X
  unfold X2_inputToBadState at h
  have hl := lv_sub (l' := [(0, .ref (a 3)), (1, .int v1)]) hl [0, 1] rfl
  refine lv_aload_n hx hb dX2_inputToBadState_0 rfl (lv_at hl 0 rfl) ?_
  refine lv_iload_n hx hb dX2_inputToBadState_1 rfl (lv_at hl 1 rfl) ?_
  obtain ⟨t1, ht1, h⟩ := bd_s h
  refine cl_Vi X (eokS hF) (c_X2_leastNearer hF ht1) tw_29_22 mw_X2_leastNearer (by decide) hp 3 rfl rfl rfl hl.1 rfl (Nat.le_of_ble_eq_true rfl) dX2_inputToBadState_2 (fun H locs hp => ?_)
  refine lv_istore_n (lv' := [(2, .int t1), (0, .ref (a 3)), (1, .int v1)]) hx hb dX2_inputToBadState_5 rfl hl (by decide) rfl (fun ls hl => ?_)
  refine lv_iload_n hx hb dX2_inputToBadState_6 rfl (lv_at hl 0 rfl) ?_
  refine lv_iconst (v := -1) hx hb dX2_inputToBadState_7 (by decide) ?_
  refine lv_icmp_ne (tgt := 15) hx hb dX2_inputToBadState_8 (by decide) (fun c2 => ?_) (fun c2 => ?_)
  · have h := it_n h c2
    refine lv_aload_n hx hb dX2_inputToBadState_15 rfl (lv_at hl 1 rfl) ?_
    refine lv_iload_n hx hb dX2_inputToBadState_16 rfl (lv_at hl 2 rfl) ?_
    refine lv_lconst (v := 1) hx hb dX2_inputToBadState_17 (by decide) ?_
    refine lv_iload_n hx hb dX2_inputToBadState_18 rfl (lv_at hl 0 rfl) ?_
    refine lv_lshl hx hb dX2_inputToBadState_19 rfl ?_
    obtain ⟨t3, ht3, h⟩ := bd_s h
    refine cl_Vi X (eokS hF) (c_X2_leastInputInto hF ht3) tw_30_7 mw_X2_leastInputInto (by decide) hp 3 rfl rfl rfl hl.1 rfl (Nat.le_of_ble_eq_true rfl) dX2_inputToBadState_20 (fun H locs hp => ?_)
    exact hR _ _ _ _ _ _ dX2_inputToBadState_23 hp (Option.some.inj h) rfl (fun q => by cases q)
  · have h := it_p h c2
    refine lv_iconst (v := -1) hx hb dX2_inputToBadState_11 (by decide) ?_
    refine lv_goto (tgt := 23) hx hb dX2_inputToBadState_12 (by decide) ?_
    exact hR _ _ _ _ _ _ dX2_inputToBadState_23 hp (Option.some.inj h) rfl (fun q => by cases q)
def X6_shortest_39 (σ : St) : Option (Int32 × St) :=
  none
def X6_shortest_58 (σ : St) : Option (Int32 × St) :=
  none
def X6_shortest (N : Nat) (v1 : Int32) (v2 : Int32) (σ : St) : Option (Int32 × St) :=
  bd (X2_refresh N σ) (fun t1 =>
  nm (t1.1 12) (fun (x2 : Int32) =>
  if x2 = (-1 : Int32) then
    none
  else
    if v1 < 0 then
      X6_shortest_39 t1
    else
      if v1 ≤ x2 then
        if v2 < 0 then
          X6_shortest_58 t1
        else
          if v2 ≤ (1 : Int32) then
            bd (X2_stateOfShortestRun N t1 v1) (fun t8 =>
            if v2 = 0 then
              some (t8, t1)
            else
              if v1 = x2 then
                some ((-1 : Int32), t1)
              else
                bd (X2_inputToBadState N t1 t8) (fun t11 =>
                some (t11, t1)))
          else
            X6_shortest_58 t1
      else
        X6_shortest_39 t1))
set_option maxRecDepth 20000 in
set_option maxHeartbeats 4000000 in
theorem c_X6_shortest {l : Launch} {D : va_G} {a : Nat → Nat} {cA : Nat → ClassId} {t : Nat} {F : (Nat → Prop) → State → Prop} (hF : EOK F) {σ : St} {N : Nat} {v1 : Int32} {v2 : Int32} {r : Int32} {σ' : St} (h : X6_shortest N v1 v2 σ = some (r, σ')) : MetI l yX6_shortest cX6_shortest 5 (some .int) 6 D (tyW cA) (wS a cA) (ES t F) [.ref (a 0), .int v1, .int v2] σ r σ' := by
  refine mkI (by decide) (adrS a cA) (Or.inl rfl) (Nat.le_of_ble_eq_true rfl) ?_
  intro p e R s m args below meth c A Q ls X hR hp hl
  obtain ⟨hx, hb, -, hown, hts, -⟩ := id X
  have J_39 : ∀  (σ : St) (H : Heap) (locs : List Loc) (ls : Array Slot), Pw D (wS a cA) A s.heap H locs σ → lv_has ls 5 [(0, .ref (a 0))] → X6_shortest_39 σ = some (r, σ') → W p l e R s m args below meth c H locs 0 0 Q (F0 m 39 ls []) := by
    intro σ H locs ls hp hl h
    unfold X6_shortest_39 at h
    exact nn_s h
  have J_58 : ∀  (σ : St) (H : Heap) (locs : List Loc) (ls : Array Slot), Pw D (wS a cA) A s.heap H locs σ → lv_has ls 5 [(0, .ref (a 0))] → X6_shortest_58 σ = some (r, σ') → W p l e R s m args below meth c H locs 0 0 Q (F0 m 58 ls []) := by
    intro σ H locs ls hp hl h
    unfold X6_shortest_58 at h
    exact nn_s h
  unfold X6_shortest at h
  have hl := lv_sub (l' := [(0, .ref (a 0)), (1, .int v1), (2, .int v2)]) hl [0, 1, 2] rfl
  refine lv_aload_n hx hb dX6_shortest_0 rfl (lv_at hl 0 rfl) ?_
  refine gS_X6_exploration X hp tw_2_0 dX6_shortest_1 ?_
  obtain ⟨t1, ht1, h⟩ := bd_s h
  refine cl_Vv X (eokS hF) (c_X2_refresh hF ht1) tw_22_10 mw_X2_refresh (by decide) hp 3 rfl rfl rfl hl.1 rfl (Nat.le_of_ble_eq_true rfl) dX6_shortest_4 (fun H locs hp => ?_)
  refine lv_aload_n hx hb dX6_shortest_7 rfl (lv_at hl 0 rfl) ?_
  refine gS_X6_exploration X hp tw_2_0 dX6_shortest_8 ?_
  refine gS_X2_runLength X hp tw_28_10 dX6_shortest_11 ?_
  refine lv_topi (fun x2 ex2 => ?_)
  have h := nm_s h x2 ex2
  refine lv_istore_n (lv' := [(3, .int x2), (0, .ref (a 0)), (1, .int v1), (2, .int v2)]) hx hb dX6_shortest_14 rfl hl (by decide) rfl (fun ls hl => ?_)
  refine lv_iload_n hx hb dX6_shortest_15 rfl (lv_at hl 0 rfl) ?_
  refine lv_iconst (v := -1) hx hb dX6_shortest_16 (by decide) ?_
  refine lv_icmp_ne (tgt := 30) hx hb dX6_shortest_17 (by decide) (fun c3 => ?_) (fun c3 => ?_)
  · have h := it_n h c3
    refine lv_iload_n hx hb dX6_shortest_30 rfl (lv_at hl 2 rfl) ?_
    refine lv_if_lt (tgt := 39) hx hb dX6_shortest_31 (by decide) (fun c4 => ?_) (fun c4 => ?_)
    · have h := it_p h c4
      exact J_39 t1 _ _ _ hp (lv_sub hl [1] rfl) h
    · have h := it_n h c4
      refine lv_iload_n hx hb dX6_shortest_34 rfl (lv_at hl 2 rfl) ?_
      refine lv_iload_n hx hb dX6_shortest_35 rfl (lv_at hl 0 rfl) ?_
      refine lv_icmp_le (tgt := 49) hx hb dX6_shortest_36 (by decide) (fun c5 => ?_) (fun c5 => ?_)
      · have h := it_p h c5
        refine lv_iload_n hx hb dX6_shortest_49 rfl (lv_at hl 3 rfl) ?_
        refine lv_if_lt (tgt := 58) hx hb dX6_shortest_50 (by decide) (fun c6 => ?_) (fun c6 => ?_)
        · have h := it_p h c6
          exact J_58 t1 _ _ _ hp (lv_sub hl [1] rfl) h
        · have h := it_n h c6
          refine lv_iload_n hx hb dX6_shortest_53 rfl (lv_at hl 3 rfl) ?_
          refine lv_iconst (v := 1) hx hb dX6_shortest_54 (by decide) ?_
          refine lv_icmp_le (tgt := 68) hx hb dX6_shortest_55 (by decide) (fun c7 => ?_) (fun c7 => ?_)
          · have h := it_p h c7
            refine lv_aload_n hx hb dX6_shortest_68 rfl (lv_at hl 1 rfl) ?_
            refine gS_X6_exploration X hp tw_2_0 dX6_shortest_69 ?_
            refine lv_iload_n hx hb dX6_shortest_72 rfl (lv_at hl 2 rfl) ?_
            obtain ⟨t8, ht8, h⟩ := bd_s h
            refine cl_Vi X (eokS hF) (c_X2_stateOfShortestRun hF ht8) tw_29_18 mw_X2_stateOfShortestRun (by decide) hp 3 rfl rfl rfl hl.1 rfl (Nat.le_of_ble_eq_true rfl) dX6_shortest_73 (fun H locs hp => ?_)
            refine lv_istore (lv' := [(4, .int t8), (3, .int x2), (0, .ref (a 0)), (1, .int v1), (2, .int v2)]) hx hb dX6_shortest_76 hl (by decide) rfl (fun ls hl => ?_)
            refine lv_iload_n hx hb dX6_shortest_78 rfl (lv_at hl 4 rfl) ?_
            refine lv_if_ne (tgt := 85) hx hb dX6_shortest_79 (by decide) (fun c9 => ?_) (fun c9 => ?_)
            · have h := it_n h c9
              refine lv_iload_n hx hb dX6_shortest_85 rfl (lv_at hl 3 rfl) ?_
              refine lv_iload_n hx hb dX6_shortest_86 rfl (lv_at hl 1 rfl) ?_
              refine lv_icmp_ne (tgt := 94) hx hb dX6_shortest_87 (by decide) (fun c10 => ?_) (fun c10 => ?_)
              · have h := it_n h c10
                refine lv_aload_n hx hb dX6_shortest_94 rfl (lv_at hl 2 rfl) ?_
                refine gS_X6_exploration X hp tw_2_0 dX6_shortest_95 ?_
                refine lv_iload hx hb dX6_shortest_98 (lv_at hl 0 rfl) ?_
                obtain ⟨t11, ht11, h⟩ := bd_s h
                refine cl_Vi X (eokS hF) (c_X2_inputToBadState hF ht11) tw_30_3 mw_X2_inputToBadState (by decide) hp 3 rfl rfl rfl hl.1 rfl (Nat.le_of_ble_eq_true rfl) dX6_shortest_100 (fun H locs hp => ?_)
                exact hR _ _ _ _ _ _ dX6_shortest_103 hp (congrArg Prod.fst (Option.some.inj h)) (congrArg Prod.snd (Option.some.inj h)) (fun q => by cases q)
              · have h := it_p h c10
                refine lv_iconst (v := -1) hx hb dX6_shortest_90 (by decide) ?_
                refine lv_goto (tgt := 103) hx hb dX6_shortest_91 (by decide) ?_
                exact hR _ _ _ _ _ _ dX6_shortest_103 hp (congrArg Prod.fst (Option.some.inj h)) (congrArg Prod.snd (Option.some.inj h)) (fun q => by cases q)
            · have h := it_p h c9
              refine lv_iload hx hb dX6_shortest_82 (lv_at hl 0 rfl) ?_
              exact hR _ _ _ _ _ _ dX6_shortest_84 hp (congrArg Prod.fst (Option.some.inj h)) (congrArg Prod.snd (Option.some.inj h)) (fun q => by cases q)
          · have h := it_n h c7
            exact J_58 t1 _ _ _ hp (lv_sub hl [1] rfl) h
      · have h := it_n h c5
        exact J_39 t1 _ _ _ hp (lv_sub hl [1] rfl) h
  · have h := it_p h c3
    exact nn_s h
def X6_askedStates (N : Nat) (σ : St) : Option (Int64 × St) :=
  bd (X3_valueFor N (0 : Int32) σ) (fun t1 =>
  some ((t1.1 &&& (t1.2.2.1 0)), t1.2))
set_option maxRecDepth 20000 in
set_option maxHeartbeats 4000000 in
theorem c_X6_askedStates {l : Launch} {D : va_G} {a : Nat → Nat} {cA : Nat → ClassId} {t : Nat} {F : (Nat → Prop) → State → Prop} (hF : EOK F) {σ : St} {N : Nat} {r : Int64} {σ' : St} (h : X6_askedStates N σ = some (r, σ')) : MetL l yX6_askedStates cX6_askedStates 1 (some .long) 4 D (tyW cA) (wS a cA) (ES t F) [.ref (a 0)] σ r σ' := by
  refine mkL (by decide) (adrS a cA) rfl (Nat.le_of_ble_eq_true rfl) ?_
  intro p e R s m args below meth c A Q ls X hR hp hl
  obtain ⟨hx, hb, -, hown, hts, -⟩ := id X
  unfold X6_askedStates at h
  have hl := lv_sub (l' := [(0, .ref (a 0))]) hl [0] rfl
  refine lv_aload_n hx hb dX6_askedStates_0 rfl (lv_at hl 0 rfl) ?_
  refine gS_X6_buffer X hp tw_1_16 dX6_askedStates_1 ?_
  refine lv_iconst (v := 0) hx hb dX6_askedStates_4 (by decide) ?_
  obtain ⟨t1, ht1, h⟩ := bd_s h
  refine cl_Vl X (eokS hF) (c_X3_valueFor hF ht1) tw_31_15 mw_X3_valueFor (by decide) hp 1 rfl rfl rfl hl.1 rfl (Nat.le_of_ble_eq_true rfl) dX6_askedStates_5 (fun H locs hp => ?_)
  refine lv_aload_n hx hb dX6_askedStates_8 rfl (lv_at hl 0 rfl) ?_
  refine gS_X6_circuit X hp tw_1_20 dX6_askedStates_9 ?_
  refine gS_X0_all X hp tw_31_14 dX6_askedStates_12 ?_
  refine lv_land hx hb dX6_askedStates_15 ?_
  exact hR _ _ _ _ _ _ dX6_askedStates_16 hp (congrArg Prod.fst (Option.some.inj h)) (congrArg Prod.snd (Option.some.inj h))
def X6_candidate (N : Nat) (σ : St) : Option (Int64 × St) :=
  bd (X6_requireStateFormula N σ) (fun t1 =>
  bd (X6_askedStates N t1) (fun t2 =>
  some (t2.1, t2.2)))
set_option maxRecDepth 20000 in
set_option maxHeartbeats 4000000 in
theorem c_X6_candidate {l : Launch} {D : va_G} {a : Nat → Nat} {cA : Nat → ClassId} {t : Nat} {F : (Nat → Prop) → State → Prop} (hF : EOK F) {σ : St} {N : Nat} {r : Int64} {σ' : St} (h : X6_candidate N σ = some (r, σ')) : MetL l yX6_candidate cX6_candidate 1 (some .long) 6 D (tyW cA) (wS a cA) (ES t F) [.ref (a 0)] σ r σ' := by
  refine mkL (by decide) (adrS a cA) rfl (Nat.le_of_ble_eq_true rfl) ?_
  intro p e R s m args below meth c A Q ls X hR hp hl
  obtain ⟨hx, hb, -, hown, hts, -⟩ := id X
  unfold X6_candidate at h
  have hl := lv_sub (l' := [(0, .ref (a 0))]) hl [0] rfl
  refine lv_aload_n hx hb dX6_candidate_0 rfl (lv_at hl 0 rfl) ?_
  obtain ⟨t1, ht1, h⟩ := bd_s h
  refine cl_Vv X (eokS hF) (c_X6_requireStateFormula hF ht1) tw_18_17 mw_X6_requireStateFormula (by decide) hp 0 rfl rfl rfl hl.1 rfl (Nat.le_of_ble_eq_true rfl) dX6_candidate_1 (fun H locs hp => ?_)
  refine lv_aload_n hx hb dX6_candidate_4 rfl (lv_at hl 0 rfl) ?_
  obtain ⟨t2, ht2, h⟩ := bd_s h
  refine cl_Vl X (eokS hF) (c_X6_askedStates hF ht2) tw_31_10 mw_X6_askedStates (by decide) hp 0 rfl rfl rfl hl.1 rfl (Nat.le_of_ble_eq_true rfl) dX6_candidate_5 (fun H locs hp => ?_)
  exact hR _ _ _ _ _ _ dX6_candidate_8 hp (congrArg Prod.fst (Option.some.inj h)) (congrArg Prod.snd (Option.some.inj h))
def X6_check_61 (v1 : Int64) (v3 : Int32) (σ : St) : Option (Int32 × St) :=
  bd (X0_bad σ) (fun t1 =>
  if (v1 &&& t1) = (0 : Int64) then
    some (v3, σ)
  else
    nm (v3 + (4 : Int32)) (fun (x3 : Int32) =>
    some (x3, σ)))
def X6_check_39 (N : Nat) (v1 : Int64) (v3 : Int32) (σ : St) : Option (Int32 × St) :=
  bd (X2_successorsOf N σ v1) (fun t1 =>
  if (t1 &&& (v1 ^^^ (-1 : Int64))) = (0 : Int64) then
    X6_check_61 v1 v3 σ
  else
    nm (v3 + (2 : Int32)) (fun (x3 : Int32) =>
    X6_check_61 v1 x3 σ))
def X6_check (N : Nat) (σ : St) : Option (Int32 × St) :=
  bd (X6_requireStateFormula N σ) (fun t1 =>
  bd (X2_refresh N t1) (fun t2 =>
  bd (X6_askedStates N t2) (fun t3 =>
  bd (X0_initial t3.2) (fun t4 =>
  if (t4 &&& (t3.1 ^^^ (-1 : Int64))) = (0 : Int64) then
    X6_check_39 N t3.1 (0 : Int32) t3.2
  else
    nm ((0 : Int32) + (1 : Int32)) (fun (x6 : Int32) =>
    X6_check_39 N t3.1 x6 t3.2)))))
set_option maxRecDepth 20000 in
set_option maxHeartbeats 4000000 in
theorem c_X6_check {l : Launch} {D : va_G} {a : Nat → Nat} {cA : Nat → ClassId} {t : Nat} {F : (Nat → Prop) → State → Prop} (hF : EOK F) {σ : St} {N : Nat} {r : Int32} {σ' : St} (h : X6_check N σ = some (r, σ')) : MetI l yX6_check cX6_check 4 (some .int) 6 D (tyW cA) (wS a cA) (ES t F) [.ref (a 0)] σ r σ' := by
  refine mkI (by decide) (adrS a cA) (Or.inl rfl) (Nat.le_of_ble_eq_true rfl) ?_
  intro p e R s m args below meth c A Q ls X hR hp hl
  obtain ⟨hx, hb, -, hown, hts, -⟩ := id X
  have J_61 : ∀ (v1 : Int64) (v3 : Int32) (σ : St) (H : Heap) (locs : List Loc) (ls : Array Slot), Pw D (wS a cA) A s.heap H locs σ → lv_has ls 4 [(0, .ref (a 0)), (1, .long v1), (3, .int v3)] → X6_check_61 v1 v3 σ = some (r, σ') → W p l e R s m args below meth c H locs 0 0 Q (F0 m 61 ls []) := by
    intro v1 v3 σ H locs ls hp hl h
    unfold X6_check_61 at h
    refine lv_lload_n hx hb dX6_check_61 rfl (lv_at hl 1 rfl) ?_
    refine lv_aload_n hx hb dX6_check_62 rfl (lv_at hl 0 rfl) ?_
    refine gS_X6_circuit X hp tw_1_20 dX6_check_63 ?_
    obtain ⟨t1, ht1, h⟩ := bd_s h
    refine cl_Vl X (eokS hF) (c_X0_bad hF ht1) tw_32_9 mw_X0_bad (by decide) hp 2 rfl rfl rfl hl.1 rfl (Nat.le_of_ble_eq_true rfl) dX6_check_66 (fun H locs hp => ?_)
    refine lv_land hx hb dX6_check_69 ?_
    refine lv_lconst (v := 0) hx hb dX6_check_70 (by decide) ?_
    refine W.lcmp hx hb dX6_check_71 ?_
    refine lv_if_eq (tgt := 78) hx hb dX6_check_72 (by decide) (fun c2 => ?_) (fun c2 => ?_)
    · have h := it_p h (lcmp0.mp c2)
      refine lv_iload_n hx hb dX6_check_78 rfl (lv_at hl 2 rfl) ?_
      exact hR _ _ _ _ _ _ dX6_check_79 hp (congrArg Prod.fst (Option.some.inj h)) (congrArg Prod.snd (Option.some.inj h)) (fun q => by cases q)
    · have h := it_n h (fun q => c2 (lcmp0.mpr q))
      obtain ⟨x3, ex3⟩ : ∃ z : Int32, z = v3 + (4 : Int32) := ⟨_, rfl⟩
      have h := nm_s h x3 ex3
      refine lv_iinc (v := x3) (lv' := [(3, .int x3), (0, .ref (a 0)), (1, .long v1)]) hx hb dX6_check_75 hl (k := 2) rfl (by rw [ex3]; rfl) (by decide) rfl (fun ls hl => ?_)
      refine lv_iload_n hx hb dX6_check_78 rfl (lv_at hl 0 rfl) ?_
      exact hR _ _ _ _ _ _ dX6_check_79 hp (congrArg Prod.fst (Option.some.inj h)) (congrArg Prod.snd (Option.some.inj h)) (fun q => by cases q)
  have J_39 : ∀ (v1 : Int64) (v3 : Int32) (σ : St) (H : Heap) (locs : List Loc) (ls : Array Slot), Pw D (wS a cA) A s.heap H locs σ → lv_has ls 4 [(0, .ref (a 0)), (1, .long v1), (3, .int v3)] → X6_check_39 N v1 v3 σ = some (r, σ') → W p l e R s m args below meth c H locs 0 0 Q (F0 m 39 ls []) := by
    intro v1 v3 σ H locs ls hp hl h
    unfold X6_check_39 at h
    refine lv_aload_n hx hb dX6_check_39 rfl (lv_at hl 0 rfl) ?_
    refine gS_X6_exploration X hp tw_2_0 dX6_check_40 ?_
    refine lv_lload_n hx hb dX6_check_43 rfl (lv_at hl 1 rfl) ?_
    obtain ⟨t1, ht1, h⟩ := bd_s h
    refine cl_Vl X (eokS hF) (c_X2_successorsOf hF ht1) tw_32_8 mw_X2_successorsOf (by decide) hp 3 rfl rfl rfl hl.1 rfl (Nat.le_of_ble_eq_true rfl) dX6_check_44 (fun H locs hp => ?_)
    refine lv_lload_n hx hb dX6_check_47 rfl (lv_at hl 1 rfl) ?_
    refine lv_ldc2 hx hb hown (hts _ tw_32_7) dX6_check_48 ?_
    refine lv_lxor hx hb dX6_check_51 ?_
    refine lv_land hx hb dX6_check_52 ?_
    refine lv_lconst (v := 0) hx hb dX6_check_53 (by decide) ?_
    refine W.lcmp hx hb dX6_check_54 ?_
    refine lv_if_eq (tgt := 61) hx hb dX6_check_55 (by decide) (fun c2 => ?_) (fun c2 => ?_)
    · have h := it_p h (lcmp0.mp c2)
      exact J_61 v1 v3 σ _ _ _ hp (lv_sub hl [0, 1, 2] rfl) h
    · have h := it_n h (fun q => c2 (lcmp0.mpr q))
      obtain ⟨x3, ex3⟩ : ∃ z : Int32, z = v3 + (2 : Int32) := ⟨_, rfl⟩
      have h := nm_s h x3 ex3
      refine lv_iinc (v := x3) (lv' := [(3, .int x3), (0, .ref (a 0)), (1, .long v1)]) hx hb dX6_check_58 hl (k := 2) rfl (by rw [ex3]; rfl) (by decide) rfl (fun ls hl => ?_)
      exact J_61 v1 x3 σ _ _ _ hp (lv_sub hl [1, 2, 0] rfl) h
  unfold X6_check at h
  have hl := lv_sub (l' := [(0, .ref (a 0))]) hl [0] rfl
  refine lv_aload_n hx hb dX6_check_0 rfl (lv_at hl 0 rfl) ?_
  obtain ⟨t1, ht1, h⟩ := bd_s h
  refine cl_Vv X (eokS hF) (c_X6_requireStateFormula hF ht1) tw_18_17 mw_X6_requireStateFormula (by decide) hp 0 rfl rfl rfl hl.1 rfl (Nat.le_of_ble_eq_true rfl) dX6_check_1 (fun H locs hp => ?_)
  refine lv_aload_n hx hb dX6_check_4 rfl (lv_at hl 0 rfl) ?_
  refine gS_X6_exploration X hp tw_2_0 dX6_check_5 ?_
  obtain ⟨t2, ht2, h⟩ := bd_s h
  refine cl_Vv X (eokS hF) (c_X2_refresh hF ht2) tw_22_10 mw_X2_refresh (by decide) hp 3 rfl rfl rfl hl.1 rfl (Nat.le_of_ble_eq_true rfl) dX6_check_8 (fun H locs hp => ?_)
  refine lv_aload_n hx hb dX6_check_11 rfl (lv_at hl 0 rfl) ?_
  obtain ⟨t3, ht3, h⟩ := bd_s h
  refine cl_Vl X (eokS hF) (c_X6_askedStates hF ht3) tw_31_10 mw_X6_askedStates (by decide) hp 0 rfl rfl rfl hl.1 rfl (Nat.le_of_ble_eq_true rfl) dX6_check_12 (fun H locs hp => ?_)
  refine lv_lstore_n (lv' := [(1, .long t3.1), (0, .ref (a 0))]) hx hb dX6_check_15 rfl hl (by decide) rfl (fun ls hl => ?_)
  refine lv_iconst (v := 0) hx hb dX6_check_16 (by decide) ?_
  refine lv_istore_n (lv' := [(3, .int (0 : Int32)), (1, .long t3.1), (0, .ref (a 0))]) hx hb dX6_check_17 rfl hl (by decide) rfl (fun ls hl => ?_)
  refine lv_aload_n hx hb dX6_check_18 rfl (lv_at hl 2 rfl) ?_
  refine gS_X6_circuit X hp tw_1_20 dX6_check_19 ?_
  obtain ⟨t4, ht4, h⟩ := bd_s h
  refine cl_Vl X (eokS hF) (c_X0_initial hF ht4) tw_19_1 mw_X0_initial (by decide) hp 2 rfl rfl rfl hl.1 rfl (Nat.le_of_ble_eq_true rfl) dX6_check_22 (fun H locs hp => ?_)
  refine lv_lload_n hx hb dX6_check_25 rfl (lv_at hl 1 rfl) ?_
  refine lv_ldc2 hx hb hown (hts _ tw_32_7) dX6_check_26 ?_
  refine lv_lxor hx hb dX6_check_29 ?_
  refine lv_land hx hb dX6_check_30 ?_
  refine lv_lconst (v := 0) hx hb dX6_check_31 (by decide) ?_
  refine W.lcmp hx hb dX6_check_32 ?_
  refine lv_if_eq (tgt := 39) hx hb dX6_check_33 (by decide) (fun c5 => ?_) (fun c5 => ?_)
  · have h := it_p h (lcmp0.mp c5)
    exact J_39 t3.1 (0 : Int32) t3.2 _ _ _ hp (lv_sub hl [2, 1, 0] rfl) h
  · have h := it_n h (fun q => c5 (lcmp0.mpr q))
    obtain ⟨x6, ex6⟩ : ∃ z : Int32, z = (0 : Int32) + (1 : Int32) := ⟨_, rfl⟩
    have h := nm_s h x6 ex6
    refine lv_iinc (v := x6) (lv' := [(3, .int x6), (1, .long t3.1), (0, .ref (a 0))]) hx hb dX6_check_36 hl (k := 0) rfl (by rw [ex6]; rfl) (by decide) rfl (fun ls hl => ?_)
    exact J_39 t3.1 x6 t3.2 _ _ _ hp (lv_sub hl [2, 1, 0] rfl) h
def X6_escape_9 (σ : St) : Option (Int32 × St) :=
  none
def X6_escape (N : Nat) (v1 : Int32) (σ : St) : Option (Int32 × St) :=
  if v1 < 0 then
    X6_escape_9 σ
  else
    if v1 ≤ (2 : Int32) then
      bd (X6_requireStateFormula N σ) (fun t3 =>
      bd (X2_refresh N t3) (fun t4 =>
      bd (X6_askedStates N t4) (fun t5 =>
      bd (X2_predecessorsOf N t5.2 ((t5.2.2.1 0) &&& (t5.1 ^^^ (-1 : Int64)))) (fun t6 =>
      bd (X6_leastOf (t5.1 &&& t6)) (fun t7 =>
      if t7 = (-1 : Int32) then
        some (t7, t5.2)
      else
        if v1 = 0 then
          some (t7, t5.2)
        else
          bd (X2_leastInputInto N t5.2 t7 ((t5.2.2.1 0) &&& (t5.1 ^^^ (-1 : Int64)))) (fun t10 =>
          if v1 = (1 : Int32) then
            some (t10, t5.2)
          else
            if t10 = (-1 : Int32) then
              some (t10, t5.2)
            else
              bd (X0_step N t5.2 t7 t10) (fun t13 =>
              some (t13, t5.2))))))))
    else
      X6_escape_9 σ
set_option maxRecDepth 20000 in
set_option maxHeartbeats 4000000 in
theorem c_X6_escape {l : Launch} {D : va_G} {a : Nat → Nat} {cA : Nat → ClassId} {t : Nat} {F : (Nat → Prop) → State → Prop} (hF : EOK F) {σ : St} {N : Nat} {v1 : Int32} {r : Int32} {σ' : St} (h : X6_escape N v1 σ = some (r, σ')) : MetI l yX6_escape cX6_escape 6 (some .int) 6 D (tyW cA) (wS a cA) (ES t F) [.ref (a 0), .int v1] σ r σ' := by
  refine mkI (by decide) (adrS a cA) (Or.inl rfl) (Nat.le_of_ble_eq_true rfl) ?_
  intro p e R s m args below meth c A Q ls X hR hp hl
  obtain ⟨hx, hb, -, hown, hts, -⟩ := id X
  have J_9 : ∀  (σ : St) (H : Heap) (locs : List Loc) (ls : Array Slot), Pw D (wS a cA) A s.heap H locs σ → lv_has ls 6 [(0, .ref (a 0))] → X6_escape_9 σ = some (r, σ') → W p l e R s m args below meth c H locs 0 0 Q (F0 m 9 ls []) := by
    intro σ H locs ls hp hl h
    unfold X6_escape_9 at h
    exact nn_s h
  unfold X6_escape at h
  have hl := lv_sub (l' := [(0, .ref (a 0)), (1, .int v1)]) hl [0, 1] rfl
  refine lv_iload_n hx hb dX6_escape_0 rfl (lv_at hl 1 rfl) ?_
  refine lv_if_lt (tgt := 9) hx hb dX6_escape_1 (by decide) (fun c1 => ?_) (fun c1 => ?_)
  · have h := it_p h c1
    exact J_9 σ _ _ _ hp (lv_sub hl [0] rfl) h
  · have h := it_n h c1
    refine lv_iload_n hx hb dX6_escape_4 rfl (lv_at hl 1 rfl) ?_
    refine lv_iconst (v := 2) hx hb dX6_escape_5 (by decide) ?_
    refine lv_icmp_le (tgt := 19) hx hb dX6_escape_6 (by decide) (fun c2 => ?_) (fun c2 => ?_)
    · have h := it_p h c2
      refine lv_aload_n hx hb dX6_escape_19 rfl (lv_at hl 0 rfl) ?_
      obtain ⟨t3, ht3, h⟩ := bd_s h
      refine cl_Vv X (eokS hF) (c_X6_requireStateFormula hF ht3) tw_18_17 mw_X6_requireStateFormula (by decide) hp 0 rfl rfl rfl hl.1 rfl (Nat.le_of_ble_eq_true rfl) dX6_escape_20 (fun H locs hp => ?_)
      refine lv_aload_n hx hb dX6_escape_23 rfl (lv_at hl 0 rfl) ?_
      refine gS_X6_exploration X hp tw_2_0 dX6_escape_24 ?_
      obtain ⟨t4, ht4, h⟩ := bd_s h
      refine cl_Vv X (eokS hF) (c_X2_refresh hF ht4) tw_22_10 mw_X2_refresh (by decide) hp 3 rfl rfl rfl hl.1 rfl (Nat.le_of_ble_eq_true rfl) dX6_escape_27 (fun H locs hp => ?_)
      refine lv_aload_n hx hb dX6_escape_30 rfl (lv_at hl 0 rfl) ?_
      obtain ⟨t5, ht5, h⟩ := bd_s h
      refine cl_Vl X (eokS hF) (c_X6_askedStates hF ht5) tw_31_10 mw_X6_askedStates (by decide) hp 0 rfl rfl rfl hl.1 rfl (Nat.le_of_ble_eq_true rfl) dX6_escape_31 (fun H locs hp => ?_)
      refine lv_lstore_n (lv' := [(2, .long t5.1), (0, .ref (a 0)), (1, .int v1)]) hx hb dX6_escape_34 rfl hl (by decide) rfl (fun ls hl => ?_)
      refine lv_lload_n hx hb dX6_escape_35 rfl (lv_at hl 0 rfl) ?_
      refine lv_aload_n hx hb dX6_escape_36 rfl (lv_at hl 1 rfl) ?_
      refine gS_X6_exploration X hp tw_2_0 dX6_escape_37 ?_
      refine lv_aload_n hx hb dX6_escape_40 rfl (lv_at hl 1 rfl) ?_
      refine gS_X6_circuit X hp tw_1_20 dX6_escape_41 ?_
      refine gS_X0_all X hp tw_31_14 dX6_escape_44 ?_
      refine lv_lload_n hx hb dX6_escape_47 rfl (lv_at hl 0 rfl) ?_
      refine lv_ldc2 hx hb hown (hts _ tw_32_7) dX6_escape_48 ?_
      refine lv_lxor hx hb dX6_escape_51 ?_
      refine lv_land hx hb dX6_escape_52 ?_
      obtain ⟨t6, ht6, h⟩ := bd_s h
      refine cl_Vl X (eokS hF) (c_X2_predecessorsOf hF ht6) tw_32_21 mw_X2_predecessorsOf (by decide) hp 3 rfl rfl rfl hl.1 rfl (Nat.le_of_ble_eq_true rfl) dX6_escape_53 (fun H locs hp => ?_)
      refine lv_land hx hb dX6_escape_56 ?_
      obtain ⟨t7, ht7, h⟩ := bd_s h
      refine cl_Si X (eokS hF) (c_X6_leastOf (adrS a cA) (eokS hF) ht7) tw_32_22 mw_X6_leastOf (by decide) hp hl.1 rfl (Nat.le_of_ble_eq_true rfl) dX6_escape_57 (fun H locs hp => ?_)
      refine lv_istore (lv' := [(4, .int t7), (2, .long t5.1), (0, .ref (a 0)), (1, .int v1)]) hx hb dX6_escape_60 hl (by decide) rfl (fun ls hl => ?_)
      refine lv_iload hx hb dX6_escape_62 (lv_at hl 0 rfl) ?_
      refine lv_iconst (v := -1) hx hb dX6_escape_64 (by decide) ?_
      refine lv_icmp_eq (tgt := 72) hx hb dX6_escape_65 (by decide) (fun c8 => ?_) (fun c8 => ?_)
      · have h := it_p h c8
        refine lv_iload hx hb dX6_escape_72 (lv_at hl 0 rfl) ?_
        exact hR _ _ _ _ _ _ dX6_escape_74 hp (congrArg Prod.fst (Option.some.inj h)) (congrArg Prod.snd (Option.some.inj h)) (fun q => by cases q)
      · have h := it_n h c8
        refine lv_iload_n hx hb dX6_escape_68 rfl (lv_at hl 3 rfl) ?_
        refine lv_if_ne (tgt := 75) hx hb dX6_escape_69 (by decide) (fun c9 => ?_) (fun c9 => ?_)
        · have h := it_n h c9
          refine lv_aload_n hx hb dX6_escape_75 rfl (lv_at hl 2 rfl) ?_
          refine gS_X6_exploration X hp tw_2_0 dX6_escape_76 ?_
          refine lv_iload hx hb dX6_escape_79 (lv_at hl 0 rfl) ?_
          refine lv_aload_n hx hb dX6_escape_81 rfl (lv_at hl 2 rfl) ?_
          refine gS_X6_circuit X hp tw_1_20 dX6_escape_82 ?_
          refine gS_X0_all X hp tw_31_14 dX6_escape_85 ?_
          refine lv_lload_n hx hb dX6_escape_88 rfl (lv_at hl 1 rfl) ?_
          refine lv_ldc2 hx hb hown (hts _ tw_32_7) dX6_escape_89 ?_
          refine lv_lxor hx hb dX6_escape_92 ?_
          refine lv_land hx hb dX6_escape_93 ?_
          obtain ⟨t10, ht10, h⟩ := bd_s h
          refine cl_Vi X (eokS hF) (c_X2_leastInputInto hF ht10) tw_32_23 mw_X2_leastInputInto (by decide) hp 3 rfl rfl rfl hl.1 rfl (Nat.le_of_ble_eq_true rfl) dX6_escape_94 (fun H locs hp => ?_)
          refine lv_istore (lv' := [(5, .int t10), (4, .int t7), (2, .long t5.1), (0, .ref (a 0)), (1, .int v1)]) hx hb dX6_escape_97 hl (by decide) rfl (fun ls hl => ?_)
          refine lv_iload_n hx hb dX6_escape_99 rfl (lv_at hl 4 rfl) ?_
          refine lv_iconst (v := 1) hx hb dX6_escape_100 (by decide) ?_
          refine lv_icmp_eq (tgt := 110) hx hb dX6_escape_101 (by decide) (fun c11 => ?_) (fun c11 => ?_)
          · have h := it_p h c11
            refine lv_iload hx hb dX6_escape_110 (lv_at hl 0 rfl) ?_
            refine lv_goto (tgt := 126) hx hb dX6_escape_112 (by decide) ?_
            exact hR _ _ _ _ _ _ dX6_escape_126 hp (congrArg Prod.fst (Option.some.inj h)) (congrArg Prod.snd (Option.some.inj h)) (fun q => by cases q)
          · have h := it_n h c11
            refine lv_iload hx hb dX6_escape_104 (lv_at hl 0 rfl) ?_
            refine lv_iconst (v := -1) hx hb dX6_escape_106 (by decide) ?_
            refine lv_icmp_ne (tgt := 115) hx hb dX6_escape_107 (by decide) (fun c12 => ?_) (fun c12 => ?_)
            · have h := it_n h c12
              refine lv_aload_n hx hb dX6_escape_115 rfl (lv_at hl 3 rfl) ?_
              refine gS_X6_circuit X hp tw_1_20 dX6_escape_116 ?_
              refine lv_iload hx hb dX6_escape_119 (lv_at hl 1 rfl) ?_
              refine lv_iload hx hb dX6_escape_121 (lv_at hl 0 rfl) ?_
              obtain ⟨t13, ht13, h⟩ := bd_s h
              refine cl_Vi X (eokS hF) (c_X0_step hF ht13) tw_21_13 mw_X0_step (by decide) hp 2 rfl rfl rfl hl.1 rfl (Nat.le_of_ble_eq_true rfl) dX6_escape_123 (fun H locs hp => ?_)
              exact hR _ _ _ _ _ _ dX6_escape_126 hp (congrArg Prod.fst (Option.some.inj h)) (congrArg Prod.snd (Option.some.inj h)) (fun q => by cases q)
            · have h := it_p h c12
              refine lv_iload hx hb dX6_escape_110 (lv_at hl 0 rfl) ?_
              refine lv_goto (tgt := 126) hx hb dX6_escape_112 (by decide) ?_
              exact hR _ _ _ _ _ _ dX6_escape_126 hp (congrArg Prod.fst (Option.some.inj h)) (congrArg Prod.snd (Option.some.inj h)) (fun q => by cases q)
        · have h := it_p h c9
          refine lv_iload hx hb dX6_escape_72 (lv_at hl 0 rfl) ?_
          exact hR _ _ _ _ _ _ dX6_escape_74 hp (congrArg Prod.fst (Option.some.inj h)) (congrArg Prod.snd (Option.some.inj h)) (fun q => by cases q)
    · have h := it_n h c2
      exact J_9 σ _ _ _ hp (lv_sub hl [0] rfl) h
def X2_statesThatCanReach_8b (N : Nat) (k8 : (Int64 → Int64 → Int32 → Option (Int64))) (k47 : (Int64 → Option (Int64))) (σ : St) (v3 : Int64) (v5 : Int64) (v7 : Int32) : Option (Int64) :=
  if (64 : Int32) ≤ v7 then
    k47 v3
  else
    if v5 = (0 : Int64) then
      k47 v3
    else
      bd (X2_predecessorsOf N σ v5) (fun t3 =>
      nm (t3 &&& (v3 ^^^ (-1 : Int64))) (fun (x4 : Int64) =>
      nm (v3 ||| x4) (fun (x5 : Int64) =>
      nm (v7 + (1 : Int32)) (fun (x6 : Int32) =>
      k8 x5 x4 x6))))
def X2_statesThatCanReach_8 (N : Nat) (k47 : (Int64 → Option (Int64))) (σ : St) : Nat → Int64 → Int64 → Int32 → Option (Int64)
  | 0, _, _, _ => none
  | n + 1, v3, v5, v7 => X2_statesThatCanReach_8b N (fun v3 v5 v7 => X2_statesThatCanReach_8 N k47 σ n v3 v5 v7) k47 σ v3 v5 v7
def X2_statesThatCanReach_47 (σ : St) (v3 : Int64) : Option (Int64) :=
  some v3
def X2_statesThatCanReach (N : Nat) (σ : St) (v1 : Int64) : Option (Int64) :=
  X2_statesThatCanReach_8 N (fun v3 => X2_statesThatCanReach_47 σ v3) σ N v1 v1 (0 : Int32)
set_option maxRecDepth 20000 in
set_option maxHeartbeats 4000000 in
theorem c_X2_statesThatCanReach {l : Launch} {D : va_G} {a : Nat → Nat} {cA : Nat → ClassId} {t : Nat} {F : (Nat → Prop) → State → Prop} (hF : EOK F) {σ : St} {N : Nat} {v1 : Int64} {r : Int64} (h : X2_statesThatCanReach N σ v1 = some r) : MetL l yX2_statesThatCanReach cX2_statesThatCanReach 8 (some .long) 4 D (tyW cA) (wS a cA) (ES t F) [.ref (a 3), .long v1] σ r σ := by
  refine mkL (by decide) (adrS a cA) rfl (Nat.le_of_ble_eq_true rfl) ?_
  intro p e R s m args below meth c A Q ls X hR hp hl
  obtain ⟨hx, hb, -, hown, hts, -⟩ := id X
  have J_8 : ∀  (k47 : (Int64 → Option (Int64))) (hk47 : ∀ (v3 : Int64) (H : Heap) (locs : List Loc) (ls : Array Slot), Pw D (wS a cA) A s.heap H locs σ → lv_has ls 8 [(0, .ref (a 3)), (3, .long v3)] → k47 v3 = some r → W p l e R s m args below meth c H locs 0 0 Q (F0 m 47 ls [])) (n : Nat) (v3 : Int64) (v5 : Int64) (v7 : Int32) (H : Heap) (locs : List Loc) (ls : Array Slot), Pw D (wS a cA) A s.heap H locs σ → lv_has ls 8 [(0, .ref (a 3)), (3, .long v3), (5, .long v5), (7, .int v7)] → X2_statesThatCanReach_8 N k47 σ n v3 v5 v7 = some r → W p l e R s m args below meth c H locs 0 0 Q (F0 m 8 ls []) := by
    intro k47 hk47 n
    induction n with
    | zero => intro v3 v5 v7 H locs ls hp hl h; exact nn_s (show (none : Option (Int64)) = some _ from h)
    | succ n ih =>
      intro v3 v5 v7 H locs ls hp hl h
      have h : X2_statesThatCanReach_8b N (fun v3 v5 v7 => X2_statesThatCanReach_8 N k47 σ n v3 v5 v7) k47 σ v3 v5 v7 = some r := h
      unfold X2_statesThatCanReach_8b at h
      have hk8 := ih
      refine lv_iload hx hb dX2_statesThatCanReach_8 (lv_at hl 3 rfl) ?_
      refine lv_bipush (v := 64) hx hb dX2_statesThatCanReach_10 (by decide) ?_
      refine lv_icmp_ge (tgt := 47) hx hb dX2_statesThatCanReach_12 (by decide) (fun c1 => ?_) (fun c1 => ?_)
      · have h := it_p h c1
        exact hk47 v3 _ _ _ hp (lv_sub hl [0, 1] rfl) h
      · have h := it_n h c1
        refine lv_lload hx hb dX2_statesThatCanReach_15 (lv_at hl 2 rfl) ?_
        refine lv_lconst (v := 0) hx hb dX2_statesThatCanReach_17 (by decide) ?_
        refine W.lcmp hx hb dX2_statesThatCanReach_18 ?_
        refine lv_if_eq (tgt := 47) hx hb dX2_statesThatCanReach_19 (by decide) (fun c2 => ?_) (fun c2 => ?_)
        · have h := it_p h (lcmp0.mp c2)
          exact hk47 v3 _ _ _ hp (lv_sub hl [0, 1] rfl) h
        · have h := it_n h (fun q => c2 (lcmp0.mpr q))
          refine lv_aload_n hx hb dX2_statesThatCanReach_22 rfl (lv_at hl 0 rfl) ?_
          refine lv_lload hx hb dX2_statesThatCanReach_23 (lv_at hl 2 rfl) ?_
          obtain ⟨t3, ht3, h⟩ := bd_s h
          refine cl_Vl X (eokS hF) (c_X2_predecessorsOf hF ht3) tw_24_10 mw_X2_predecessorsOf (by decide) hp 3 rfl rfl rfl hl.1 rfl (Nat.le_of_ble_eq_true rfl) dX2_statesThatCanReach_25 (fun H locs hp => ?_)
          refine lv_lload_n hx hb dX2_statesThatCanReach_28 rfl (lv_at hl 1 rfl) ?_
          refine lv_ldc2 hx hb hown (hts _ tw_23_8) dX2_statesThatCanReach_29 ?_
          refine lv_lxor hx hb dX2_statesThatCanReach_32 ?_
          refine lv_land hx hb dX2_statesThatCanReach_33 ?_
          refine lv_topl (fun x4 ex4 => ?_)
          have h := nm_s h x4 ex4
          refine lv_lstore (lv' := [(5, .long x4), (0, .ref (a 3)), (3, .long v3), (7, .int v7)]) hx hb dX2_statesThatCanReach_34 hl (by decide) rfl (fun ls hl => ?_)
          refine lv_lload_n hx hb dX2_statesThatCanReach_36 rfl (lv_at hl 2 rfl) ?_
          refine lv_lload hx hb dX2_statesThatCanReach_37 (lv_at hl 0 rfl) ?_
          refine lv_lor hx hb dX2_statesThatCanReach_39 ?_
          refine lv_topl (fun x5 ex5 => ?_)
          have h := nm_s h x5 ex5
          refine lv_lstore_n (lv' := [(3, .long x5), (5, .long x4), (0, .ref (a 3)), (7, .int v7)]) hx hb dX2_statesThatCanReach_40 rfl hl (by decide) rfl (fun ls hl => ?_)
          obtain ⟨x6, ex6⟩ : ∃ z : Int32, z = v7 + (1 : Int32) := ⟨_, rfl⟩
          have h := nm_s h x6 ex6
          refine lv_iinc (v := x6) (lv' := [(7, .int x6), (3, .long x5), (5, .long x4), (0, .ref (a 3))]) hx hb dX2_statesThatCanReach_41 hl (k := 3) rfl (by rw [ex6]; rfl) (by decide) rfl (fun ls hl => ?_)
          refine lv_goto (tgt := 8) hx hb dX2_statesThatCanReach_44 (by decide) ?_
          exact hk8 x5 x4 x6 _ _ _ hp (lv_sub hl [3, 1, 2, 0] rfl) h
  have J_47 : ∀ (v3 : Int64) (H : Heap) (locs : List Loc) (ls : Array Slot), Pw D (wS a cA) A s.heap H locs σ → lv_has ls 8 [(0, .ref (a 3)), (3, .long v3)] → X2_statesThatCanReach_47 σ v3 = some r → W p l e R s m args below meth c H locs 0 0 Q (F0 m 47 ls []) := by
    intro v3 H locs ls hp hl h
    unfold X2_statesThatCanReach_47 at h
    refine lv_lload_n hx hb dX2_statesThatCanReach_47 rfl (lv_at hl 1 rfl) ?_
    exact hR _ _ _ _ _ _ dX2_statesThatCanReach_48 hp (Option.some.inj h) rfl
  unfold X2_statesThatCanReach at h
  have hl := lv_sub (l' := [(0, .ref (a 3)), (1, .long v1)]) hl [0, 1] rfl
  refine lv_lload_n hx hb dX2_statesThatCanReach_0 rfl (lv_at hl 1 rfl) ?_
  refine lv_lstore_n (lv' := [(3, .long v1), (0, .ref (a 3)), (1, .long v1)]) hx hb dX2_statesThatCanReach_1 rfl hl (by decide) rfl (fun ls hl => ?_)
  refine lv_lload_n hx hb dX2_statesThatCanReach_2 rfl (lv_at hl 2 rfl) ?_
  refine lv_lstore (lv' := [(5, .long v1), (3, .long v1), (0, .ref (a 3)), (1, .long v1)]) hx hb dX2_statesThatCanReach_3 hl (by decide) rfl (fun ls hl => ?_)
  refine lv_iconst (v := 0) hx hb dX2_statesThatCanReach_5 (by decide) ?_
  refine lv_istore (lv' := [(7, .int (0 : Int32)), (5, .long v1), (3, .long v1), (0, .ref (a 3)), (1, .long v1)]) hx hb dX2_statesThatCanReach_6 hl (by decide) rfl (fun ls hl => ?_)
  exact J_8 _ (fun v3 H locs ls hp hl h => J_47 v3 _ _ _ hp hl h) _ v1 v1 (0 : Int32) _ _ _ hp (lv_sub hl [3, 2, 1, 0] rfl) h
def X2_statesThatCanStayIn_8b (N : Nat) (k8 : (Int64 → Int32 → Int32 → Option (Int64))) (k52 : (Int64 → Option (Int64))) (σ : St) (v3 : Int64) (v5 : Int32) (v6 : Int32) : Option (Int64) :=
  if (64 : Int32) < v6 then
    k52 v3
  else
    if v5 = 0 then
      k52 v3
    else
      bd (X2_predecessorsOf N σ v3) (fun t3 =>
      nm (v3 &&& t3) (fun (x4 : Int64) =>
      if x4 = v3 then
        nm (v6 + (1 : Int32)) (fun (x6 : Int32) =>
        k8 x4 (0 : Int32) x6)
      else
        nm (v6 + (1 : Int32)) (fun (x7 : Int32) =>
        k8 x4 (1 : Int32) x7)))
def X2_statesThatCanStayIn_8 (N : Nat) (k52 : (Int64 → Option (Int64))) (σ : St) : Nat → Int64 → Int32 → Int32 → Option (Int64)
  | 0, _, _, _ => none
  | n + 1, v3, v5, v6 => X2_statesThatCanStayIn_8b N (fun v3 v5 v6 => X2_statesThatCanStayIn_8 N k52 σ n v3 v5 v6) k52 σ v3 v5 v6
def X2_statesThatCanStayIn_52 (σ : St) (v3 : Int64) : Option (Int64) :=
  some v3
def X2_statesThatCanStayIn (N : Nat) (σ : St) (v1 : Int64) : Option (Int64) :=
  X2_statesThatCanStayIn_8 N (fun v3 => X2_statesThatCanStayIn_52 σ v3) σ N v1 (1 : Int32) (0 : Int32)
set_option maxRecDepth 20000 in
set_option maxHeartbeats 4000000 in
theorem c_X2_statesThatCanStayIn {l : Launch} {D : va_G} {a : Nat → Nat} {cA : Nat → ClassId} {t : Nat} {F : (Nat → Prop) → State → Prop} (hF : EOK F) {σ : St} {N : Nat} {v1 : Int64} {r : Int64} (h : X2_statesThatCanStayIn N σ v1 = some r) : MetL l yX2_statesThatCanStayIn cX2_statesThatCanStayIn 9 (some .long) 4 D (tyW cA) (wS a cA) (ES t F) [.ref (a 3), .long v1] σ r σ := by
  refine mkL (by decide) (adrS a cA) rfl (Nat.le_of_ble_eq_true rfl) ?_
  intro p e R s m args below meth c A Q ls X hR hp hl
  obtain ⟨hx, hb, -, hown, hts, -⟩ := id X
  have J_8 : ∀  (k52 : (Int64 → Option (Int64))) (hk52 : ∀ (v3 : Int64) (H : Heap) (locs : List Loc) (ls : Array Slot), Pw D (wS a cA) A s.heap H locs σ → lv_has ls 9 [(0, .ref (a 3)), (3, .long v3)] → k52 v3 = some r → W p l e R s m args below meth c H locs 0 0 Q (F0 m 52 ls [])) (n : Nat) (v3 : Int64) (v5 : Int32) (v6 : Int32) (H : Heap) (locs : List Loc) (ls : Array Slot), Pw D (wS a cA) A s.heap H locs σ → lv_has ls 9 [(0, .ref (a 3)), (3, .long v3), (5, .int v5), (6, .int v6)] → X2_statesThatCanStayIn_8 N k52 σ n v3 v5 v6 = some r → W p l e R s m args below meth c H locs 0 0 Q (F0 m 8 ls []) := by
    intro k52 hk52 n
    induction n with
    | zero => intro v3 v5 v6 H locs ls hp hl h; exact nn_s (show (none : Option (Int64)) = some _ from h)
    | succ n ih =>
      intro v3 v5 v6 H locs ls hp hl h
      have h : X2_statesThatCanStayIn_8b N (fun v3 v5 v6 => X2_statesThatCanStayIn_8 N k52 σ n v3 v5 v6) k52 σ v3 v5 v6 = some r := h
      unfold X2_statesThatCanStayIn_8b at h
      have hk8 := ih
      refine lv_iload hx hb dX2_statesThatCanStayIn_8 (lv_at hl 3 rfl) ?_
      refine lv_bipush (v := 64) hx hb dX2_statesThatCanStayIn_10 (by decide) ?_
      refine lv_icmp_gt (tgt := 52) hx hb dX2_statesThatCanStayIn_12 (by decide) (fun c1 => ?_) (fun c1 => ?_)
      · have h := it_p h c1
        exact hk52 v3 _ _ _ hp (lv_sub hl [0, 1] rfl) h
      · have h := it_n h c1
        refine lv_iload hx hb dX2_statesThatCanStayIn_15 (lv_at hl 2 rfl) ?_
        refine lv_if_eq (tgt := 52) hx hb dX2_statesThatCanStayIn_17 (by decide) (fun c2 => ?_) (fun c2 => ?_)
        · have h := it_p h c2
          exact hk52 v3 _ _ _ hp (lv_sub hl [0, 1] rfl) h
        · have h := it_n h c2
          refine lv_lload_n hx hb dX2_statesThatCanStayIn_20 rfl (lv_at hl 1 rfl) ?_
          refine lv_aload_n hx hb dX2_statesThatCanStayIn_21 rfl (lv_at hl 0 rfl) ?_
          refine lv_lload_n hx hb dX2_statesThatCanStayIn_22 rfl (lv_at hl 1 rfl) ?_
          obtain ⟨t3, ht3, h⟩ := bd_s h
          refine cl_Vl X (eokS hF) (c_X2_predecessorsOf hF ht3) tw_24_10 mw_X2_predecessorsOf (by decide) hp 3 rfl rfl rfl hl.1 rfl (Nat.le_of_ble_eq_true rfl) dX2_statesThatCanStayIn_23 (fun H locs hp => ?_)
          refine lv_land hx hb dX2_statesThatCanStayIn_26 ?_
          refine lv_topl (fun x4 ex4 => ?_)
          have h := nm_s h x4 ex4
          refine lv_lstore (lv' := [(7, .long x4), (0, .ref (a 3)), (3, .long v3), (5, .int v5), (6, .int v6)]) hx hb dX2_statesThatCanStayIn_27 hl (by decide) rfl (fun ls hl => ?_)
          refine lv_lload hx hb dX2_statesThatCanStayIn_29 (lv_at hl 0 rfl) ?_
          refine lv_lload_n hx hb dX2_statesThatCanStayIn_31 rfl (lv_at hl 2 rfl) ?_
          refine W.lcmp hx hb dX2_statesThatCanStayIn_32 ?_
          refine lv_if_eq (tgt := 40) hx hb dX2_statesThatCanStayIn_33 (by decide) (fun c5 => ?_) (fun c5 => ?_)
          · have h := it_p h (lcmp0.mp c5)
            refine lv_iconst (v := 0) hx hb dX2_statesThatCanStayIn_40 (by decide) ?_
            refine lv_istore (lv' := [(5, .int (0 : Int32)), (7, .long x4), (0, .ref (a 3)), (3, .long v3), (6, .int v6)]) hx hb dX2_statesThatCanStayIn_41 hl (by decide) rfl (fun ls hl => ?_)
            refine lv_lload hx hb dX2_statesThatCanStayIn_43 (lv_at hl 1 rfl) ?_
            refine lv_lstore_n (lv' := [(3, .long x4), (5, .int (0 : Int32)), (7, .long x4), (0, .ref (a 3)), (6, .int v6)]) hx hb dX2_statesThatCanStayIn_45 rfl hl (by decide) rfl (fun ls hl => ?_)
            obtain ⟨x6, ex6⟩ : ∃ z : Int32, z = v6 + (1 : Int32) := ⟨_, rfl⟩
            have h := nm_s h x6 ex6
            refine lv_iinc (v := x6) (lv' := [(6, .int x6), (3, .long x4), (5, .int (0 : Int32)), (7, .long x4), (0, .ref (a 3))]) hx hb dX2_statesThatCanStayIn_46 hl (k := 4) rfl (by rw [ex6]; rfl) (by decide) rfl (fun ls hl => ?_)
            refine lv_goto (tgt := 8) hx hb dX2_statesThatCanStayIn_49 (by decide) ?_
            exact hk8 x4 (0 : Int32) x6 _ _ _ hp (lv_sub hl [4, 1, 2, 0] rfl) h
          · have h := it_n h (fun q => c5 (lcmp0.mpr q))
            refine lv_iconst (v := 1) hx hb dX2_statesThatCanStayIn_36 (by decide) ?_
            refine lv_goto (tgt := 41) hx hb dX2_statesThatCanStayIn_37 (by decide) ?_
            refine lv_istore (lv' := [(5, .int (1 : Int32)), (7, .long x4), (0, .ref (a 3)), (3, .long v3), (6, .int v6)]) hx hb dX2_statesThatCanStayIn_41 hl (by decide) rfl (fun ls hl => ?_)
            refine lv_lload hx hb dX2_statesThatCanStayIn_43 (lv_at hl 1 rfl) ?_
            refine lv_lstore_n (lv' := [(3, .long x4), (5, .int (1 : Int32)), (7, .long x4), (0, .ref (a 3)), (6, .int v6)]) hx hb dX2_statesThatCanStayIn_45 rfl hl (by decide) rfl (fun ls hl => ?_)
            obtain ⟨x7, ex7⟩ : ∃ z : Int32, z = v6 + (1 : Int32) := ⟨_, rfl⟩
            have h := nm_s h x7 ex7
            refine lv_iinc (v := x7) (lv' := [(6, .int x7), (3, .long x4), (5, .int (1 : Int32)), (7, .long x4), (0, .ref (a 3))]) hx hb dX2_statesThatCanStayIn_46 hl (k := 4) rfl (by rw [ex7]; rfl) (by decide) rfl (fun ls hl => ?_)
            refine lv_goto (tgt := 8) hx hb dX2_statesThatCanStayIn_49 (by decide) ?_
            exact hk8 x4 (1 : Int32) x7 _ _ _ hp (lv_sub hl [4, 1, 2, 0] rfl) h
  have J_52 : ∀ (v3 : Int64) (H : Heap) (locs : List Loc) (ls : Array Slot), Pw D (wS a cA) A s.heap H locs σ → lv_has ls 9 [(0, .ref (a 3)), (3, .long v3)] → X2_statesThatCanStayIn_52 σ v3 = some r → W p l e R s m args below meth c H locs 0 0 Q (F0 m 52 ls []) := by
    intro v3 H locs ls hp hl h
    unfold X2_statesThatCanStayIn_52 at h
    refine lv_lload_n hx hb dX2_statesThatCanStayIn_52 rfl (lv_at hl 1 rfl) ?_
    exact hR _ _ _ _ _ _ dX2_statesThatCanStayIn_53 hp (Option.some.inj h) rfl
  unfold X2_statesThatCanStayIn at h
  have hl := lv_sub (l' := [(0, .ref (a 3)), (1, .long v1)]) hl [0, 1] rfl
  refine lv_lload_n hx hb dX2_statesThatCanStayIn_0 rfl (lv_at hl 1 rfl) ?_
  refine lv_lstore_n (lv' := [(3, .long v1), (0, .ref (a 3)), (1, .long v1)]) hx hb dX2_statesThatCanStayIn_1 rfl hl (by decide) rfl (fun ls hl => ?_)
  refine lv_iconst (v := 1) hx hb dX2_statesThatCanStayIn_2 (by decide) ?_
  refine lv_istore (lv' := [(5, .int (1 : Int32)), (3, .long v1), (0, .ref (a 3)), (1, .long v1)]) hx hb dX2_statesThatCanStayIn_3 hl (by decide) rfl (fun ls hl => ?_)
  refine lv_iconst (v := 0) hx hb dX2_statesThatCanStayIn_5 (by decide) ?_
  refine lv_istore (lv' := [(6, .int (0 : Int32)), (5, .int (1 : Int32)), (3, .long v1), (0, .ref (a 3)), (1, .long v1)]) hx hb dX2_statesThatCanStayIn_6 hl (by decide) rfl (fun ls hl => ?_)
  exact J_8 _ (fun v3 H locs ls hp hl h => J_52 v3 _ _ _ hp hl h) _ v1 (1 : Int32) (0 : Int32) _ _ _ hp (lv_sub hl [3, 2, 1, 0] rfl) h
def X6_modal_9 (σ : St) : Option (Int64 × St) :=
  none
def X6_modal (N : Nat) (v1 : Int32) (σ : St) : Option (Int64 × St) :=
  if v1 < 0 then
    X6_modal_9 σ
  else
    if v1 ≤ (5 : Int32) then
      bd (X6_requireStateFormula N σ) (fun t3 =>
      bd (X2_refresh N t3) (fun t4 =>
      bd (X6_askedStates N t4) (fun t5 =>
      nm ((t5.2.2.1 0) &&& (t5.1 ^^^ (-1 : Int64))) (fun (x6 : Int64) =>
      if v1 = (0 : Int32) then
        bd (X2_predecessorsOf N t5.2 t5.1) (fun t7 =>
        some (t7, t5.2))
      else if v1 = (1 : Int32) then
        bd (X2_predecessorsOf N t5.2 x6) (fun t8 =>
        some (((t5.2.2.1 0) &&& (t8 ^^^ (-1 : Int64))), t5.2))
      else if v1 = (2 : Int32) then
        bd (X2_statesThatCanReach N t5.2 t5.1) (fun t9 =>
        some (t9, t5.2))
      else if v1 = (3 : Int32) then
        bd (X2_statesThatCanStayIn N t5.2 x6) (fun t10 =>
        some (((t5.2.2.1 0) &&& (t10 ^^^ (-1 : Int64))), t5.2))
      else if v1 = (4 : Int32) then
        bd (X2_statesThatCanStayIn N t5.2 t5.1) (fun t11 =>
        some (t11, t5.2))
      else 
        bd (X2_statesThatCanReach N t5.2 x6) (fun t12 =>
        some (((t5.2.2.1 0) &&& (t12 ^^^ (-1 : Int64))), t5.2))))))
    else
      X6_modal_9 σ
set_option maxRecDepth 20000 in
set_option maxHeartbeats 4000000 in
theorem c_X6_modal {l : Launch} {D : va_G} {a : Nat → Nat} {cA : Nat → ClassId} {t : Nat} {F : (Nat → Prop) → State → Prop} (hF : EOK F) {σ : St} {N : Nat} {v1 : Int32} {r : Int64} {σ' : St} (h : X6_modal N v1 σ = some (r, σ')) : MetL l yX6_modal cX6_modal 6 (some .long) 6 D (tyW cA) (wS a cA) (ES t F) [.ref (a 0), .int v1] σ r σ' := by
  refine mkL (by decide) (adrS a cA) rfl (Nat.le_of_ble_eq_true rfl) ?_
  intro p e R s m args below meth c A Q ls X hR hp hl
  obtain ⟨hx, hb, -, hown, hts, -⟩ := id X
  have J_9 : ∀  (σ : St) (H : Heap) (locs : List Loc) (ls : Array Slot), Pw D (wS a cA) A s.heap H locs σ → lv_has ls 6 [(0, .ref (a 0))] → X6_modal_9 σ = some (r, σ') → W p l e R s m args below meth c H locs 0 0 Q (F0 m 9 ls []) := by
    intro σ H locs ls hp hl h
    unfold X6_modal_9 at h
    exact nn_s h
  unfold X6_modal at h
  have hl := lv_sub (l' := [(0, .ref (a 0)), (1, .int v1)]) hl [0, 1] rfl
  refine lv_iload_n hx hb dX6_modal_0 rfl (lv_at hl 1 rfl) ?_
  refine lv_if_lt (tgt := 9) hx hb dX6_modal_1 (by decide) (fun c1 => ?_) (fun c1 => ?_)
  · have h := it_p h c1
    exact J_9 σ _ _ _ hp (lv_sub hl [0] rfl) h
  · have h := it_n h c1
    refine lv_iload_n hx hb dX6_modal_4 rfl (lv_at hl 1 rfl) ?_
    refine lv_iconst (v := 5) hx hb dX6_modal_5 (by decide) ?_
    refine lv_icmp_le (tgt := 19) hx hb dX6_modal_6 (by decide) (fun c2 => ?_) (fun c2 => ?_)
    · have h := it_p h c2
      refine lv_aload_n hx hb dX6_modal_19 rfl (lv_at hl 0 rfl) ?_
      obtain ⟨t3, ht3, h⟩ := bd_s h
      refine cl_Vv X (eokS hF) (c_X6_requireStateFormula hF ht3) tw_18_17 mw_X6_requireStateFormula (by decide) hp 0 rfl rfl rfl hl.1 rfl (Nat.le_of_ble_eq_true rfl) dX6_modal_20 (fun H locs hp => ?_)
      refine lv_aload_n hx hb dX6_modal_23 rfl (lv_at hl 0 rfl) ?_
      refine gS_X6_exploration X hp tw_2_0 dX6_modal_24 ?_
      obtain ⟨t4, ht4, h⟩ := bd_s h
      refine cl_Vv X (eokS hF) (c_X2_refresh hF ht4) tw_22_10 mw_X2_refresh (by decide) hp 3 rfl rfl rfl hl.1 rfl (Nat.le_of_ble_eq_true rfl) dX6_modal_27 (fun H locs hp => ?_)
      refine lv_aload_n hx hb dX6_modal_30 rfl (lv_at hl 0 rfl) ?_
      obtain ⟨t5, ht5, h⟩ := bd_s h
      refine cl_Vl X (eokS hF) (c_X6_askedStates hF ht5) tw_31_10 mw_X6_askedStates (by decide) hp 0 rfl rfl rfl hl.1 rfl (Nat.le_of_ble_eq_true rfl) dX6_modal_31 (fun H locs hp => ?_)
      refine lv_lstore_n (lv' := [(2, .long t5.1), (0, .ref (a 0)), (1, .int v1)]) hx hb dX6_modal_34 rfl hl (by decide) rfl (fun ls hl => ?_)
      refine lv_aload_n hx hb dX6_modal_35 rfl (lv_at hl 1 rfl) ?_
      refine gS_X6_circuit X hp tw_1_20 dX6_modal_36 ?_
      refine gS_X0_all X hp tw_31_14 dX6_modal_39 ?_
      refine lv_lload_n hx hb dX6_modal_42 rfl (lv_at hl 0 rfl) ?_
      refine lv_ldc2 hx hb hown (hts _ tw_32_7) dX6_modal_43 ?_
      refine lv_lxor hx hb dX6_modal_46 ?_
      refine lv_land hx hb dX6_modal_47 ?_
      refine lv_topl (fun x6 ex6 => ?_)
      have h := nm_s h x6 ex6
      refine lv_lstore (lv' := [(4, .long x6), (2, .long t5.1), (0, .ref (a 0)), (1, .int v1)]) hx hb dX6_modal_48 hl (by decide) rfl (fun ls hl => ?_)
      refine lv_iload_n hx hb dX6_modal_50 rfl (lv_at hl 3 rfl) ?_
      by_cases cs1 : v1 = (0 : Int32)
      · have h := it_p h cs1
        refine tsI (tgt := 84) (off := 33) (k := (0 : Int32)) hx hb dX6_modal_51 cs1 (by decide) (by decide) (by decide) (by decide) ?_
        refine lv_aload_n hx hb dX6_modal_84 rfl (lv_at hl 2 rfl) ?_
        refine gS_X6_exploration X hp tw_2_0 dX6_modal_85 ?_
        refine lv_lload_n hx hb dX6_modal_88 rfl (lv_at hl 1 rfl) ?_
        obtain ⟨t7, ht7, h⟩ := bd_s h
        refine cl_Vl X (eokS hF) (c_X2_predecessorsOf hF ht7) tw_32_21 mw_X2_predecessorsOf (by decide) hp 3 rfl rfl rfl hl.1 rfl (Nat.le_of_ble_eq_true rfl) dX6_modal_89 (fun H locs hp => ?_)
        exact hR _ _ _ _ _ _ dX6_modal_92 hp (congrArg Prod.fst (Option.some.inj h)) (congrArg Prod.snd (Option.some.inj h))
      have h := it_n h cs1
      by_cases cs2 : v1 = (1 : Int32)
      · have h := it_p h cs2
        refine tsI (tgt := 93) (off := 42) (k := (1 : Int32)) hx hb dX6_modal_51 cs2 (by decide) (by decide) (by decide) (by decide) ?_
        refine lv_aload_n hx hb dX6_modal_93 rfl (lv_at hl 2 rfl) ?_
        refine gS_X6_circuit X hp tw_1_20 dX6_modal_94 ?_
        refine gS_X0_all X hp tw_31_14 dX6_modal_97 ?_
        refine lv_aload_n hx hb dX6_modal_100 rfl (lv_at hl 2 rfl) ?_
        refine gS_X6_exploration X hp tw_2_0 dX6_modal_101 ?_
        refine lv_lload hx hb dX6_modal_104 (lv_at hl 0 rfl) ?_
        obtain ⟨t8, ht8, h⟩ := bd_s h
        refine cl_Vl X (eokS hF) (c_X2_predecessorsOf hF ht8) tw_32_21 mw_X2_predecessorsOf (by decide) hp 3 rfl rfl rfl hl.1 rfl (Nat.le_of_ble_eq_true rfl) dX6_modal_106 (fun H locs hp => ?_)
        refine lv_ldc2 hx hb hown (hts _ tw_32_7) dX6_modal_109 ?_
        refine lv_lxor hx hb dX6_modal_112 ?_
        refine lv_land hx hb dX6_modal_113 ?_
        exact hR _ _ _ _ _ _ dX6_modal_114 hp (congrArg Prod.fst (Option.some.inj h)) (congrArg Prod.snd (Option.some.inj h))
      have h := it_n h cs2
      by_cases cs3 : v1 = (2 : Int32)
      · have h := it_p h cs3
        refine tsI (tgt := 115) (off := 64) (k := (2 : Int32)) hx hb dX6_modal_51 cs3 (by decide) (by decide) (by decide) (by decide) ?_
        refine lv_aload_n hx hb dX6_modal_115 rfl (lv_at hl 2 rfl) ?_
        refine gS_X6_exploration X hp tw_2_0 dX6_modal_116 ?_
        refine lv_lload_n hx hb dX6_modal_119 rfl (lv_at hl 1 rfl) ?_
        obtain ⟨t9, ht9, h⟩ := bd_s h
        refine cl_Vl X (eokS hF) (c_X2_statesThatCanReach hF ht9) tw_33_15 mw_X2_statesThatCanReach (by decide) hp 3 rfl rfl rfl hl.1 rfl (Nat.le_of_ble_eq_true rfl) dX6_modal_120 (fun H locs hp => ?_)
        exact hR _ _ _ _ _ _ dX6_modal_123 hp (congrArg Prod.fst (Option.some.inj h)) (congrArg Prod.snd (Option.some.inj h))
      have h := it_n h cs3
      by_cases cs4 : v1 = (3 : Int32)
      · have h := it_p h cs4
        refine tsI (tgt := 124) (off := 73) (k := (3 : Int32)) hx hb dX6_modal_51 cs4 (by decide) (by decide) (by decide) (by decide) ?_
        refine lv_aload_n hx hb dX6_modal_124 rfl (lv_at hl 2 rfl) ?_
        refine gS_X6_circuit X hp tw_1_20 dX6_modal_125 ?_
        refine gS_X0_all X hp tw_31_14 dX6_modal_128 ?_
        refine lv_aload_n hx hb dX6_modal_131 rfl (lv_at hl 2 rfl) ?_
        refine gS_X6_exploration X hp tw_2_0 dX6_modal_132 ?_
        refine lv_lload hx hb dX6_modal_135 (lv_at hl 0 rfl) ?_
        obtain ⟨t10, ht10, h⟩ := bd_s h
        refine cl_Vl X (eokS hF) (c_X2_statesThatCanStayIn hF ht10) tw_33_19 mw_X2_statesThatCanStayIn (by decide) hp 3 rfl rfl rfl hl.1 rfl (Nat.le_of_ble_eq_true rfl) dX6_modal_137 (fun H locs hp => ?_)
        refine lv_ldc2 hx hb hown (hts _ tw_32_7) dX6_modal_140 ?_
        refine lv_lxor hx hb dX6_modal_143 ?_
        refine lv_land hx hb dX6_modal_144 ?_
        exact hR _ _ _ _ _ _ dX6_modal_145 hp (congrArg Prod.fst (Option.some.inj h)) (congrArg Prod.snd (Option.some.inj h))
      have h := it_n h cs4
      by_cases cs5 : v1 = (4 : Int32)
      · have h := it_p h cs5
        refine tsI (tgt := 146) (off := 95) (k := (4 : Int32)) hx hb dX6_modal_51 cs5 (by decide) (by decide) (by decide) (by decide) ?_
        refine lv_aload_n hx hb dX6_modal_146 rfl (lv_at hl 2 rfl) ?_
        refine gS_X6_exploration X hp tw_2_0 dX6_modal_147 ?_
        refine lv_lload_n hx hb dX6_modal_150 rfl (lv_at hl 1 rfl) ?_
        obtain ⟨t11, ht11, h⟩ := bd_s h
        refine cl_Vl X (eokS hF) (c_X2_statesThatCanStayIn hF ht11) tw_33_19 mw_X2_statesThatCanStayIn (by decide) hp 3 rfl rfl rfl hl.1 rfl (Nat.le_of_ble_eq_true rfl) dX6_modal_151 (fun H locs hp => ?_)
        exact hR _ _ _ _ _ _ dX6_modal_154 hp (congrArg Prod.fst (Option.some.inj h)) (congrArg Prod.snd (Option.some.inj h))
      have h := it_n h cs5
      have ncs1 : ¬ (v1).toInt = 0 := lv_neT cs1 (by decide)
      have ncs2 : ¬ (v1).toInt = 1 := lv_neT cs2 (by decide)
      have ncs3 : ¬ (v1).toInt = 2 := lv_neT cs3 (by decide)
      have ncs4 : ¬ (v1).toInt = 3 := lv_neT cs4 (by decide)
      have ncs5 : ¬ (v1).toInt = 4 := lv_neT cs5 (by decide)
      refine lv_tableOut (tgt := 155) hx hb dX6_modal_51 (by omega) (by decide) ?_
      refine lv_aload_n hx hb dX6_modal_155 rfl (lv_at hl 2 rfl) ?_
      refine gS_X6_circuit X hp tw_1_20 dX6_modal_156 ?_
      refine gS_X0_all X hp tw_31_14 dX6_modal_159 ?_
      refine lv_aload_n hx hb dX6_modal_162 rfl (lv_at hl 2 rfl) ?_
      refine gS_X6_exploration X hp tw_2_0 dX6_modal_163 ?_
      refine lv_lload hx hb dX6_modal_166 (lv_at hl 0 rfl) ?_
      obtain ⟨t12, ht12, h⟩ := bd_s h
      refine cl_Vl X (eokS hF) (c_X2_statesThatCanReach hF ht12) tw_33_15 mw_X2_statesThatCanReach (by decide) hp 3 rfl rfl rfl hl.1 rfl (Nat.le_of_ble_eq_true rfl) dX6_modal_168 (fun H locs hp => ?_)
      refine lv_ldc2 hx hb hown (hts _ tw_32_7) dX6_modal_171 ?_
      refine lv_lxor hx hb dX6_modal_174 ?_
      refine lv_land hx hb dX6_modal_175 ?_
      exact hR _ _ _ _ _ _ dX6_modal_176 hp (congrArg Prod.fst (Option.some.inj h)) (congrArg Prod.snd (Option.some.inj h))
    · have h := it_n h c2
      exact J_9 σ _ _ _ hp (lv_sub hl [0] rfl) h
