/- X7_system X7_leastAt X7_runState X7_inputTo X7_shortest X7_asked X7_candidate X7_check X7_escapeNow X7_escape X7_modalStep X7_modalNow -/
def X7_system_16 (N : Nat) (v1 : Int32) (u0 : Int32) (σ : St) : Option (Int32 × St) :=
  nm (si σ 0 u0) (fun (σ1 : St) =>
  if (σ1.1 0) ≤ 0 then
    bd (X7_systemNow N v1 σ1) (fun t3 =>
    some (t3.1, t3.2))
  else
    some ((0 : Int32), σ1))
def X7_system (N : Nat) (v1 : Int32) (σ : St) : Option (Int32 × St) :=
  bd (X7_within v1 (0 : Int32) (9 : Int32)) (fun t1 =>
  if t1 = 0 then
    X7_system_16 N v1 (1 : Int32) σ
  else
    X7_system_16 N v1 (0 : Int32) σ)
set_option maxRecDepth 20000 in
set_option maxHeartbeats 4000000 in
theorem c_X7_system {l : Launch} {D : va_G} {a : Nat → Nat} {cA : Nat → ClassId} {σ : St} {N : Nat} {v1 : Int32} {r : Int32} {σ' : St} (h : X7_system N v1 σ = some (r, σ')) : MetI l yX7_system cX7_system 2 (some .int) 6 D (tyW cA) (wM a cA) EM [.ref (a 0), .int v1] σ r σ' := by
  refine mkI (by decide) (adrM a cA) (Or.inl rfl) (Nat.le_of_ble_eq_true rfl) ?_
  intro p e R s m args below meth c A Q ls X hR hp hl
  obtain ⟨hx, hb, -, hown, hts, -⟩ := id X
  have J_16 : ∀ (v1 : Int32) (u0 : Int32) (σ : St) (H : Heap) (locs : List Loc) (ls : Array Slot), Pw D (wM a cA) A s.heap H locs σ → lv_has ls 2 [(0, .ref (a 0)), (1, .int v1)] → X7_system_16 N v1 u0 σ = some (r, σ') → W p l e R s m args below meth c H locs 0 0 Q (F0 m 16 ls [.int u0, .ref (a 0)]) := by
    intro v1 u0 σ H locs ls hp hl h
    unfold X7_system_16 at h
    refine pM_X7_thrown X hp tw_8_9 dX7_system_16 (fun H locs σ1 eσ1 hp => ?_)
    have h := nm_s h σ1 eσ1
    refine lv_aload_n hx hb dX7_system_19 rfl (lv_at hl 0 rfl) ?_
    refine gM_X7_thrown X hp tw_8_9 dX7_system_20 ?_
    refine lv_if_le (tgt := 30) hx hb dX7_system_23 (by decide) (fun c2 => ?_) (fun c2 => ?_)
    · have h := it_p h c2
      refine lv_aload_n hx hb dX7_system_30 rfl (lv_at hl 0 rfl) ?_
      refine lv_iload_n hx hb dX7_system_31 rfl (lv_at hl 1 rfl) ?_
      obtain ⟨t3, ht3, h⟩ := bd_s h
      refine cl_Vi X eokM (c_X7_systemNow ht3) tw_28_19 mw_X7_systemNow (by decide) hp 0 rfl rfl rfl hl.1 rfl (Nat.le_of_ble_eq_true rfl) dX7_system_32 (fun H locs hp => ?_)
      exact hR _ _ _ _ _ _ dX7_system_35 hp (congrArg Prod.fst (Option.some.inj h)) (congrArg Prod.snd (Option.some.inj h)) (fun q => by cases q)
    · have h := it_n h c2
      refine lv_iconst (v := 0) hx hb dX7_system_26 (by decide) ?_
      refine lv_goto (tgt := 35) hx hb dX7_system_27 (by decide) ?_
      exact hR _ _ _ _ _ _ dX7_system_35 hp (congrArg Prod.fst (Option.some.inj h)) (congrArg Prod.snd (Option.some.inj h)) (fun q => by cases q)
  unfold X7_system at h
  have hl := lv_sub (l' := [(0, .ref (a 0)), (1, .int v1)]) hl [0, 1] rfl
  refine lv_aload_n hx hb dX7_system_0 rfl (lv_at hl 0 rfl) ?_
  refine lv_iload_n hx hb dX7_system_1 rfl (lv_at hl 1 rfl) ?_
  refine lv_iconst (v := 0) hx hb dX7_system_2 (by decide) ?_
  refine lv_bipush (v := 9) hx hb dX7_system_3 (by decide) ?_
  obtain ⟨t1, ht1, h⟩ := bd_s h
  refine cl_Si X eokM (c_X7_within (adrM a cA) eokM ht1) tw_8_10 mw_X7_within (by decide) hp hl.1 rfl (Nat.le_of_ble_eq_true rfl) dX7_system_5 (fun H locs hp => ?_)
  refine lv_if_eq (tgt := 15) hx hb dX7_system_8 (by decide) (fun c2 => ?_) (fun c2 => ?_)
  · have h := it_p h c2
    refine lv_iconst (v := 1) hx hb dX7_system_15 (by decide) ?_
    exact J_16 v1 (1 : Int32) σ _ _ _ hp (lv_sub hl [0, 1] rfl) h
  · have h := it_n h c2
    refine lv_iconst (v := 0) hx hb dX7_system_11 (by decide) ?_
    refine lv_goto (tgt := 16) hx hb dX7_system_12 (by decide) ?_
    exact J_16 v1 (0 : Int32) σ _ _ _ hp (lv_sub hl [0, 1] rfl) h
def X7_leastAt_3b (k3 : (Int32 → Option (Int32))) (k29 : (Int32 → Option (Int32))) (σ : St) (v1 : Int64) (v3 : Int32) (v4 : Int32) : Option (Int32) :=
  bd (X7_has v1 v4) (fun t1 =>
  if t1 = 0 then
    nm (v4 + (1 : Int32)) (fun (x3 : Int32) =>
    k3 x3)
  else
    gd (inb v4 64) (
    if (σ.2.2.1 3 v4.toNatClampNeg) = v3 then
      k29 v4
    else
      nm (v4 + (1 : Int32)) (fun (x6 : Int32) =>
      k3 x6)))
def X7_leastAt_3 (k29 : (Int32 → Option (Int32))) (σ : St) (v1 : Int64) (v3 : Int32) : Nat → Int32 → Option (Int32)
  | 0, _ => none
  | n + 1, v4 => X7_leastAt_3b (fun v4 => X7_leastAt_3 k29 σ v1 v3 n v4) k29 σ v1 v3 v4
def X7_leastAt_29 (σ : St) (v4 : Int32) : Option (Int32) :=
  some v4
def X7_leastAt (N : Nat) (σ : St) (v1 : Int64) (v3 : Int32) : Option (Int32) :=
  X7_leastAt_3 (fun v4 => X7_leastAt_29 σ v4) σ v1 v3 N (0 : Int32)
set_option maxRecDepth 20000 in
set_option maxHeartbeats 4000000 in
theorem c_X7_leastAt {l : Launch} {D : va_G} {a : Nat → Nat} {cA : Nat → ClassId} {σ : St} {N : Nat} {v1 : Int64} {v3 : Int32} {r : Int32} (h : X7_leastAt N σ v1 v3 = some r) : MetI l yX7_leastAt cX7_leastAt 5 (some .int) 1 D (tyW cA) (wM a cA) EM [.ref (a 0), .long v1, .int v3] σ r σ := by
  refine mkI (by decide) (adrM a cA) (Or.inl rfl) (Nat.le_of_ble_eq_true rfl) ?_
  intro p e R s m args below meth c A Q ls X hR hp hl
  obtain ⟨hx, hb, -, hown, hts, -⟩ := id X
  have J_3 : ∀ (v1 : Int64) (v3 : Int32) (k29 : (Int32 → Option (Int32))) (hk29 : ∀ (v4 : Int32) (H : Heap) (locs : List Loc) (ls : Array Slot), Pw D (wM a cA) A s.heap H locs σ → lv_has ls 5 [(0, .ref (a 0)), (4, .int v4)] → k29 v4 = some r → W p l e R s m args below meth c H locs 0 0 Q (F0 m 29 ls [])) (n : Nat) (v4 : Int32) (H : Heap) (locs : List Loc) (ls : Array Slot), Pw D (wM a cA) A s.heap H locs σ → lv_has ls 5 [(0, .ref (a 0)), (1, .long v1), (3, .int v3), (4, .int v4)] → X7_leastAt_3 k29 σ v1 v3 n v4 = some r → W p l e R s m args below meth c H locs 0 0 Q (F0 m 3 ls []) := by
    intro v1 v3 k29 hk29 n
    induction n with
    | zero => intro v4 H locs ls hp hl h; exact nn_s (show (none : Option (Int32)) = some _ from h)
    | succ n ih =>
      intro v4 H locs ls hp hl h
      have h : X7_leastAt_3b (fun v4 => X7_leastAt_3 k29 σ v1 v3 n v4) k29 σ v1 v3 v4 = some r := h
      unfold X7_leastAt_3b at h
      have hk3 := ih
      refine lv_lload_n hx hb dX7_leastAt_3 rfl (lv_at hl 1 rfl) ?_
      refine lv_iload hx hb dX7_leastAt_4 (lv_at hl 3 rfl) ?_
      obtain ⟨t1, ht1, h⟩ := bd_s h
      refine cl_Si X eokM (c_X7_has (adrM a cA) eokM ht1) tw_18_3 mw_X7_has (by decide) hp hl.1 rfl (Nat.le_of_ble_eq_true rfl) dX7_leastAt_6 (fun H locs hp => ?_)
      refine lv_if_eq (tgt := 23) hx hb dX7_leastAt_9 (by decide) (fun c2 => ?_) (fun c2 => ?_)
      · have h := it_p h c2
        obtain ⟨x3, ex3⟩ : ∃ z : Int32, z = v4 + (1 : Int32) := ⟨_, rfl⟩
        have h := nm_s h x3 ex3
        refine lv_iinc (v := x3) (lv' := [(4, .int x3), (0, .ref (a 0)), (1, .long v1), (3, .int v3)]) hx hb dX7_leastAt_23 hl (k := 3) rfl (by rw [ex3]; rfl) (by decide) rfl (fun ls hl => ?_)
        refine lv_goto (tgt := 3) hx hb dX7_leastAt_26 (by decide) ?_
        exact hk3 x3 _ _ _ hp (lv_sub hl [1, 2, 3, 0] rfl) h
      · have h := it_n h c2
        refine lv_aload_n hx hb dX7_leastAt_12 rfl (lv_at hl 0 rfl) ?_
        refine gM_X7_far X hp tw_5_23 dX7_leastAt_13 ?_
        refine lv_iload hx hb dX7_leastAt_16 (lv_at hl 3 rfl) ?_
        obtain ⟨g4, h⟩ := gd_s h
        refine lM_X7_far X hp g4 dX7_leastAt_18 ?_
        refine lv_iload_n hx hb dX7_leastAt_19 rfl (lv_at hl 2 rfl) ?_
        refine lv_icmp_eq (tgt := 29) hx hb dX7_leastAt_20 (by decide) (fun c5 => ?_) (fun c5 => ?_)
        · have h := it_p h c5
          exact hk29 v4 _ _ _ hp (lv_sub hl [0, 3] rfl) h
        · have h := it_n h c5
          obtain ⟨x6, ex6⟩ : ∃ z : Int32, z = v4 + (1 : Int32) := ⟨_, rfl⟩
          have h := nm_s h x6 ex6
          refine lv_iinc (v := x6) (lv' := [(4, .int x6), (0, .ref (a 0)), (1, .long v1), (3, .int v3)]) hx hb dX7_leastAt_23 hl (k := 3) rfl (by rw [ex6]; rfl) (by decide) rfl (fun ls hl => ?_)
          refine lv_goto (tgt := 3) hx hb dX7_leastAt_26 (by decide) ?_
          exact hk3 x6 _ _ _ hp (lv_sub hl [1, 2, 3, 0] rfl) h
  have J_29 : ∀ (v4 : Int32) (H : Heap) (locs : List Loc) (ls : Array Slot), Pw D (wM a cA) A s.heap H locs σ → lv_has ls 5 [(0, .ref (a 0)), (4, .int v4)] → X7_leastAt_29 σ v4 = some r → W p l e R s m args below meth c H locs 0 0 Q (F0 m 29 ls []) := by
    intro v4 H locs ls hp hl h
    unfold X7_leastAt_29 at h
    refine lv_iload hx hb dX7_leastAt_29 (lv_at hl 1 rfl) ?_
    exact hR _ _ _ _ _ _ dX7_leastAt_31 hp (Option.some.inj h) rfl (fun q => by cases q)
  unfold X7_leastAt at h
  have hl := lv_sub (l' := [(0, .ref (a 0)), (1, .long v1), (3, .int v3)]) hl [0, 1, 2] rfl
  refine lv_iconst (v := 0) hx hb dX7_leastAt_0 (by decide) ?_
  refine lv_istore (lv' := [(4, .int (0 : Int32)), (0, .ref (a 0)), (1, .long v1), (3, .int v3)]) hx hb dX7_leastAt_1 hl (by decide) rfl (fun ls hl => ?_)
  exact J_3 v1 v3 _ (fun v4 H locs ls hp hl h => J_29 v4 _ _ _ hp hl h) _ (0 : Int32) _ _ _ hp (lv_sub hl [1, 2, 3, 0] rfl) h
def X7_runState_13b (N : Nat) (k13 : (Int32 → Int32 → Option (Int32))) (k41 : (Int32 → Option (Int32))) (σ : St) (v1 : Int32) (v2 : Int32) (v3 : Int32) (v4 : Int32) : Option (Int32) :=
  if v2 < v4 then
    k41 v3
  else
    bd (X7_successors N σ ((1 : Int64) <<< (v3.toInt64 &&& 63))) (fun t2 =>
    bd (X7_leastAt N σ t2 (v1 - v4)) (fun t3 =>
    nm (v4 + (1 : Int32)) (fun (x4 : Int32) =>
    k13 t3 x4)))
def X7_runState_13 (N : Nat) (k41 : (Int32 → Option (Int32))) (σ : St) (v1 : Int32) (v2 : Int32) : Nat → Int32 → Int32 → Option (Int32)
  | 0, _, _ => none
  | n + 1, v3, v4 => X7_runState_13b N (fun v3 v4 => X7_runState_13 N k41 σ v1 v2 n v3 v4) k41 σ v1 v2 v3 v4
def X7_runState_41 (σ : St) (v3 : Int32) : Option (Int32) :=
  some v3
def X7_runState (N : Nat) (σ : St) (v1 : Int32) (v2 : Int32) : Option (Int32) :=
  bd (X7_leastAt N σ (σ.2.1 0) v1) (fun t1 =>
  X7_runState_13 N (fun v3 => X7_runState_41 σ v3) σ v1 v2 N t1 (1 : Int32))
set_option maxRecDepth 20000 in
set_option maxHeartbeats 4000000 in
theorem c_X7_runState {l : Launch} {D : va_G} {a : Nat → Nat} {cA : Nat → ClassId} {σ : St} {N : Nat} {v1 : Int32} {v2 : Int32} {r : Int32} (h : X7_runState N σ v1 v2 = some r) : MetI l yX7_runState cX7_runState 5 (some .int) 3 D (tyW cA) (wM a cA) EM [.ref (a 0), .int v1, .int v2] σ r σ := by
  refine mkI (by decide) (adrM a cA) (Or.inl rfl) (Nat.le_of_ble_eq_true rfl) ?_
  intro p e R s m args below meth c A Q ls X hR hp hl
  obtain ⟨hx, hb, -, hown, hts, -⟩ := id X
  have J_13 : ∀ (v1 : Int32) (v2 : Int32) (k41 : (Int32 → Option (Int32))) (hk41 : ∀ (v3 : Int32) (H : Heap) (locs : List Loc) (ls : Array Slot), Pw D (wM a cA) A s.heap H locs σ → lv_has ls 5 [(0, .ref (a 0)), (3, .int v3)] → k41 v3 = some r → W p l e R s m args below meth c H locs 0 0 Q (F0 m 41 ls [])) (n : Nat) (v3 : Int32) (v4 : Int32) (H : Heap) (locs : List Loc) (ls : Array Slot), Pw D (wM a cA) A s.heap H locs σ → lv_has ls 5 [(0, .ref (a 0)), (1, .int v1), (2, .int v2), (3, .int v3), (4, .int v4)] → X7_runState_13 N k41 σ v1 v2 n v3 v4 = some r → W p l e R s m args below meth c H locs 0 0 Q (F0 m 13 ls []) := by
    intro v1 v2 k41 hk41 n
    induction n with
    | zero => intro v3 v4 H locs ls hp hl h; exact nn_s (show (none : Option (Int32)) = some _ from h)
    | succ n ih =>
      intro v3 v4 H locs ls hp hl h
      have h : X7_runState_13b N (fun v3 v4 => X7_runState_13 N k41 σ v1 v2 n v3 v4) k41 σ v1 v2 v3 v4 = some r := h
      unfold X7_runState_13b at h
      have hk13 := ih
      refine lv_iload hx hb dX7_runState_13 (lv_at hl 4 rfl) ?_
      refine lv_iload_n hx hb dX7_runState_15 rfl (lv_at hl 2 rfl) ?_
      refine lv_icmp_gt (tgt := 41) hx hb dX7_runState_16 (by decide) (fun c1 => ?_) (fun c1 => ?_)
      · have h := it_p h c1
        exact hk41 v3 _ _ _ hp (lv_sub hl [0, 3] rfl) h
      · have h := it_n h c1
        refine lv_aload_n hx hb dX7_runState_19 rfl (lv_at hl 0 rfl) ?_
        refine lv_aload_n hx hb dX7_runState_20 rfl (lv_at hl 0 rfl) ?_
        refine lv_lconst (v := 1) hx hb dX7_runState_21 (by decide) ?_
        refine lv_iload_n hx hb dX7_runState_22 rfl (lv_at hl 3 rfl) ?_
        refine lv_lshl hx hb dX7_runState_23 rfl ?_
        obtain ⟨t2, ht2, h⟩ := bd_s h
        refine cl_Vl X eokM (c_X7_successors ht2) tw_27_6 mw_X7_successors (by decide) hp 0 rfl rfl rfl hl.1 rfl (Nat.le_of_ble_eq_true rfl) dX7_runState_24 (fun H locs hp => ?_)
        refine lv_iload_n hx hb dX7_runState_27 rfl (lv_at hl 1 rfl) ?_
        refine lv_iload hx hb dX7_runState_28 (lv_at hl 4 rfl) ?_
        refine lv_isub hx hb dX7_runState_30 ?_
        obtain ⟨t3, ht3, h⟩ := bd_s h
        refine cl_Vi X eokM (c_X7_leastAt ht3) tw_30_19 mw_X7_leastAt (by decide) hp 0 rfl rfl rfl hl.1 rfl (Nat.le_of_ble_eq_true rfl) dX7_runState_31 (fun H locs hp => ?_)
        refine lv_istore_n (lv' := [(3, .int t3), (0, .ref (a 0)), (1, .int v1), (2, .int v2), (4, .int v4)]) hx hb dX7_runState_34 rfl hl (by decide) rfl (fun ls hl => ?_)
        obtain ⟨x4, ex4⟩ : ∃ z : Int32, z = v4 + (1 : Int32) := ⟨_, rfl⟩
        have h := nm_s h x4 ex4
        refine lv_iinc (v := x4) (lv' := [(4, .int x4), (3, .int t3), (0, .ref (a 0)), (1, .int v1), (2, .int v2)]) hx hb dX7_runState_35 hl (k := 4) rfl (by rw [ex4]; rfl) (by decide) rfl (fun ls hl => ?_)
        refine lv_goto (tgt := 13) hx hb dX7_runState_38 (by decide) ?_
        exact hk13 t3 x4 _ _ _ hp (lv_sub hl [2, 3, 4, 1, 0] rfl) h
  have J_41 : ∀ (v3 : Int32) (H : Heap) (locs : List Loc) (ls : Array Slot), Pw D (wM a cA) A s.heap H locs σ → lv_has ls 5 [(0, .ref (a 0)), (3, .int v3)] → X7_runState_41 σ v3 = some r → W p l e R s m args below meth c H locs 0 0 Q (F0 m 41 ls []) := by
    intro v3 H locs ls hp hl h
    unfold X7_runState_41 at h
    refine lv_iload_n hx hb dX7_runState_41 rfl (lv_at hl 1 rfl) ?_
    exact hR _ _ _ _ _ _ dX7_runState_42 hp (Option.some.inj h) rfl (fun q => by cases q)
  unfold X7_runState at h
  have hl := lv_sub (l' := [(0, .ref (a 0)), (1, .int v1), (2, .int v2)]) hl [0, 1, 2] rfl
  refine lv_aload_n hx hb dX7_runState_0 rfl (lv_at hl 0 rfl) ?_
  refine lv_aload_n hx hb dX7_runState_1 rfl (lv_at hl 0 rfl) ?_
  refine gM_X7_init X hp tw_6_17 dX7_runState_2 ?_
  refine lv_iload_n hx hb dX7_runState_5 rfl (lv_at hl 1 rfl) ?_
  obtain ⟨t1, ht1, h⟩ := bd_s h
  refine cl_Vi X eokM (c_X7_leastAt ht1) tw_30_19 mw_X7_leastAt (by decide) hp 0 rfl rfl rfl hl.1 rfl (Nat.le_of_ble_eq_true rfl) dX7_runState_6 (fun H locs hp => ?_)
  refine lv_istore_n (lv' := [(3, .int t1), (0, .ref (a 0)), (1, .int v1), (2, .int v2)]) hx hb dX7_runState_9 rfl hl (by decide) rfl (fun ls hl => ?_)
  refine lv_iconst (v := 1) hx hb dX7_runState_10 (by decide) ?_
  refine lv_istore (lv' := [(4, .int (1 : Int32)), (3, .int t1), (0, .ref (a 0)), (1, .int v1), (2, .int v2)]) hx hb dX7_runState_11 hl (by decide) rfl (fun ls hl => ?_)
  exact J_13 v1 v2 _ (fun v3 H locs ls hp hl h => J_41 v3 _ _ _ hp hl h) _ t1 (1 : Int32) _ _ _ hp (lv_sub hl [2, 3, 4, 1, 0] rfl) h
def X7_inputTo_2b (N : Nat) (k2 : (Int32 → Option (Int32))) (k18 : (Int32 → Option (Int32))) (σ : St) (v1 : Int32) (v2 : Int32) (v3 : Int32) : Option (Int32) :=
  bd (X7_successorOf N σ v1 v3) (fun t1 =>
  if t1 = v2 then
    k18 v3
  else
    nm (v3 + (1 : Int32)) (fun (x3 : Int32) =>
    k2 x3))
def X7_inputTo_2 (N : Nat) (k18 : (Int32 → Option (Int32))) (σ : St) (v1 : Int32) (v2 : Int32) : Nat → Int32 → Option (Int32)
  | 0, _ => none
  | n + 1, v3 => X7_inputTo_2b N (fun v3 => X7_inputTo_2 N k18 σ v1 v2 n v3) k18 σ v1 v2 v3
def X7_inputTo_18 (σ : St) (v3 : Int32) : Option (Int32) :=
  some v3
def X7_inputTo (N : Nat) (σ : St) (v1 : Int32) (v2 : Int32) : Option (Int32) :=
  X7_inputTo_2 N (fun v3 => X7_inputTo_18 σ v3) σ v1 v2 N (0 : Int32)
set_option maxRecDepth 20000 in
set_option maxHeartbeats 4000000 in
theorem c_X7_inputTo {l : Launch} {D : va_G} {a : Nat → Nat} {cA : Nat → ClassId} {σ : St} {N : Nat} {v1 : Int32} {v2 : Int32} {r : Int32} (h : X7_inputTo N σ v1 v2 = some r) : MetI l yX7_inputTo cX7_inputTo 4 (some .int) 2 D (tyW cA) (wM a cA) EM [.ref (a 0), .int v1, .int v2] σ r σ := by
  refine mkI (by decide) (adrM a cA) (Or.inl rfl) (Nat.le_of_ble_eq_true rfl) ?_
  intro p e R s m args below meth c A Q ls X hR hp hl
  obtain ⟨hx, hb, -, hown, hts, -⟩ := id X
  have J_2 : ∀ (v1 : Int32) (v2 : Int32) (k18 : (Int32 → Option (Int32))) (hk18 : ∀ (v3 : Int32) (H : Heap) (locs : List Loc) (ls : Array Slot), Pw D (wM a cA) A s.heap H locs σ → lv_has ls 4 [(0, .ref (a 0)), (3, .int v3)] → k18 v3 = some r → W p l e R s m args below meth c H locs 0 0 Q (F0 m 18 ls [])) (n : Nat) (v3 : Int32) (H : Heap) (locs : List Loc) (ls : Array Slot), Pw D (wM a cA) A s.heap H locs σ → lv_has ls 4 [(0, .ref (a 0)), (1, .int v1), (2, .int v2), (3, .int v3)] → X7_inputTo_2 N k18 σ v1 v2 n v3 = some r → W p l e R s m args below meth c H locs 0 0 Q (F0 m 2 ls []) := by
    intro v1 v2 k18 hk18 n
    induction n with
    | zero => intro v3 H locs ls hp hl h; exact nn_s (show (none : Option (Int32)) = some _ from h)
    | succ n ih =>
      intro v3 H locs ls hp hl h
      have h : X7_inputTo_2b N (fun v3 => X7_inputTo_2 N k18 σ v1 v2 n v3) k18 σ v1 v2 v3 = some r := h
      unfold X7_inputTo_2b at h
      have hk2 := ih
      refine lv_aload_n hx hb dX7_inputTo_2 rfl (lv_at hl 0 rfl) ?_
      refine lv_iload_n hx hb dX7_inputTo_3 rfl (lv_at hl 1 rfl) ?_
      refine lv_iload_n hx hb dX7_inputTo_4 rfl (lv_at hl 3 rfl) ?_
      obtain ⟨t1, ht1, h⟩ := bd_s h
      refine cl_Vi X eokM (c_X7_successorOf ht1) tw_21_23 mw_X7_successorOf (by decide) hp 0 rfl rfl rfl hl.1 rfl (Nat.le_of_ble_eq_true rfl) dX7_inputTo_5 (fun H locs hp => ?_)
      refine lv_iload_n hx hb dX7_inputTo_8 rfl (lv_at hl 2 rfl) ?_
      refine lv_icmp_eq (tgt := 18) hx hb dX7_inputTo_9 (by decide) (fun c2 => ?_) (fun c2 => ?_)
      · have h := it_p h c2
        exact hk18 v3 _ _ _ hp (lv_sub hl [0, 3] rfl) h
      · have h := it_n h c2
        obtain ⟨x3, ex3⟩ : ∃ z : Int32, z = v3 + (1 : Int32) := ⟨_, rfl⟩
        have h := nm_s h x3 ex3
        refine lv_iinc (v := x3) (lv' := [(3, .int x3), (0, .ref (a 0)), (1, .int v1), (2, .int v2)]) hx hb dX7_inputTo_12 hl (k := 3) rfl (by rw [ex3]; rfl) (by decide) rfl (fun ls hl => ?_)
        refine lv_goto (tgt := 2) hx hb dX7_inputTo_15 (by decide) ?_
        exact hk2 x3 _ _ _ hp (lv_sub hl [1, 2, 3, 0] rfl) h
  have J_18 : ∀ (v3 : Int32) (H : Heap) (locs : List Loc) (ls : Array Slot), Pw D (wM a cA) A s.heap H locs σ → lv_has ls 4 [(0, .ref (a 0)), (3, .int v3)] → X7_inputTo_18 σ v3 = some r → W p l e R s m args below meth c H locs 0 0 Q (F0 m 18 ls []) := by
    intro v3 H locs ls hp hl h
    unfold X7_inputTo_18 at h
    refine lv_iload_n hx hb dX7_inputTo_18 rfl (lv_at hl 1 rfl) ?_
    exact hR _ _ _ _ _ _ dX7_inputTo_19 hp (Option.some.inj h) rfl (fun q => by cases q)
  unfold X7_inputTo at h
  have hl := lv_sub (l' := [(0, .ref (a 0)), (1, .int v1), (2, .int v2)]) hl [0, 1, 2] rfl
  refine lv_iconst (v := 0) hx hb dX7_inputTo_0 (by decide) ?_
  refine lv_istore_n (lv' := [(3, .int (0 : Int32)), (0, .ref (a 0)), (1, .int v1), (2, .int v2)]) hx hb dX7_inputTo_1 rfl hl (by decide) rfl (fun ls hl => ?_)
  exact J_2 v1 v2 _ (fun v3 H locs ls hp hl h => J_18 v3 _ _ _ hp hl h) _ (0 : Int32) _ _ _ hp (lv_sub hl [1, 2, 3, 0] rfl) h
def X7_shortest_42 (N : Nat) (v1 : Int32) (v2 : Int32) (v3 : Int32) (u0 : Int32) (σ : St) : Option (Int32 × St) :=
  nm (si σ 0 u0) (fun (σ1 : St) =>
  if (σ1.1 0) ≤ 0 then
    bd (X7_runState N σ1 v3 v1) (fun t3 =>
    if v2 = 0 then
      some (t3, σ1)
    else
      if v1 = v3 then
        some ((-1 : Int32), σ1)
      else
        bd (X7_runState N σ1 v3 (v1 + (1 : Int32))) (fun t6 =>
        bd (X7_inputTo N σ1 t3 t6) (fun t7 =>
        some (t7, σ1))))
  else
    some ((0 : Int32), σ1))
def X7_shortest (N : Nat) (v1 : Int32) (v2 : Int32) (σ : St) : Option (Int32 × St) :=
  bd (X7_runLength N σ) (fun t1 =>
  if t1.1 = (-1 : Int32) then
    X7_shortest_42 N v1 v2 t1.1 (1 : Int32) t1.2
  else
    bd (X7_within v1 (0 : Int32) t1.1) (fun t3 =>
    if t3 = 0 then
      X7_shortest_42 N v1 v2 t1.1 (2 : Int32) t1.2
    else
      bd (X7_within v2 (0 : Int32) (1 : Int32)) (fun t5 =>
      if t5 = 0 then
        X7_shortest_42 N v1 v2 t1.1 (3 : Int32) t1.2
      else
        X7_shortest_42 N v1 v2 t1.1 (0 : Int32) t1.2)))
set_option maxRecDepth 20000 in
set_option maxHeartbeats 4000000 in
theorem c_X7_shortest {l : Launch} {D : va_G} {a : Nat → Nat} {cA : Nat → ClassId} {σ : St} {N : Nat} {v1 : Int32} {v2 : Int32} {r : Int32} {σ' : St} (h : X7_shortest N v1 v2 σ = some (r, σ')) : MetI l yX7_shortest cX7_shortest 5 (some .int) 5 D (tyW cA) (wM a cA) EM [.ref (a 0), .int v1, .int v2] σ r σ' := by
  refine mkI (by decide) (adrM a cA) (Or.inl rfl) (Nat.le_of_ble_eq_true rfl) ?_
  intro p e R s m args below meth c A Q ls X hR hp hl
  obtain ⟨hx, hb, -, hown, hts, -⟩ := id X
  have J_42 : ∀ (v1 : Int32) (v2 : Int32) (v3 : Int32) (u0 : Int32) (σ : St) (H : Heap) (locs : List Loc) (ls : Array Slot), Pw D (wM a cA) A s.heap H locs σ → lv_has ls 5 [(0, .ref (a 0)), (1, .int v1), (2, .int v2), (3, .int v3)] → X7_shortest_42 N v1 v2 v3 u0 σ = some (r, σ') → W p l e R s m args below meth c H locs 0 0 Q (F0 m 42 ls [.int u0, .ref (a 0)]) := by
    intro v1 v2 v3 u0 σ H locs ls hp hl h
    unfold X7_shortest_42 at h
    refine pM_X7_thrown X hp tw_8_9 dX7_shortest_42 (fun H locs σ1 eσ1 hp => ?_)
    have h := nm_s h σ1 eσ1
    refine lv_aload_n hx hb dX7_shortest_45 rfl (lv_at hl 0 rfl) ?_
    refine gM_X7_thrown X hp tw_8_9 dX7_shortest_46 ?_
    refine lv_if_le (tgt := 54) hx hb dX7_shortest_49 (by decide) (fun c2 => ?_) (fun c2 => ?_)
    · have h := it_p h c2
      refine lv_aload_n hx hb dX7_shortest_54 rfl (lv_at hl 0 rfl) ?_
      refine lv_iload_n hx hb dX7_shortest_55 rfl (lv_at hl 3 rfl) ?_
      refine lv_iload_n hx hb dX7_shortest_56 rfl (lv_at hl 1 rfl) ?_
      obtain ⟨t3, ht3, h⟩ := bd_s h
      refine cl_Vi X eokM (c_X7_runState ht3) tw_30_15 mw_X7_runState (by decide) hp 0 rfl rfl rfl hl.1 rfl (Nat.le_of_ble_eq_true rfl) dX7_shortest_57 (fun H locs hp => ?_)
      refine lv_istore (lv' := [(4, .int t3), (0, .ref (a 0)), (1, .int v1), (2, .int v2), (3, .int v3)]) hx hb dX7_shortest_60 hl (by decide) rfl (fun ls hl => ?_)
      refine lv_iload_n hx hb dX7_shortest_62 rfl (lv_at hl 3 rfl) ?_
      refine lv_if_ne (tgt := 71) hx hb dX7_shortest_63 (by decide) (fun c4 => ?_) (fun c4 => ?_)
      · have h := it_n h c4
        refine lv_iload_n hx hb dX7_shortest_71 rfl (lv_at hl 2 rfl) ?_
        refine lv_iload_n hx hb dX7_shortest_72 rfl (lv_at hl 4 rfl) ?_
        refine lv_icmp_ne (tgt := 80) hx hb dX7_shortest_73 (by decide) (fun c5 => ?_) (fun c5 => ?_)
        · have h := it_n h c5
          refine lv_aload_n hx hb dX7_shortest_80 rfl (lv_at hl 1 rfl) ?_
          refine lv_iload hx hb dX7_shortest_81 (lv_at hl 0 rfl) ?_
          refine lv_aload_n hx hb dX7_shortest_83 rfl (lv_at hl 1 rfl) ?_
          refine lv_iload_n hx hb dX7_shortest_84 rfl (lv_at hl 4 rfl) ?_
          refine lv_iload_n hx hb dX7_shortest_85 rfl (lv_at hl 2 rfl) ?_
          refine lv_iconst (v := 1) hx hb dX7_shortest_86 (by decide) ?_
          refine lv_iadd hx hb dX7_shortest_87 ?_
          obtain ⟨t6, ht6, h⟩ := bd_s h
          refine cl_Vi X eokM (c_X7_runState ht6) tw_30_15 mw_X7_runState (by decide) hp 0 rfl rfl rfl hl.1 rfl (Nat.le_of_ble_eq_true rfl) dX7_shortest_88 (fun H locs hp => ?_)
          obtain ⟨t7, ht7, h⟩ := bd_s h
          refine cl_Vi X eokM (c_X7_inputTo ht7) tw_30_23 mw_X7_inputTo (by decide) hp 0 rfl rfl rfl hl.1 rfl (Nat.le_of_ble_eq_true rfl) dX7_shortest_91 (fun H locs hp => ?_)
          exact hR _ _ _ _ _ _ dX7_shortest_94 hp (congrArg Prod.fst (Option.some.inj h)) (congrArg Prod.snd (Option.some.inj h)) (fun q => by cases q)
        · have h := it_p h c5
          refine lv_iconst (v := -1) hx hb dX7_shortest_76 (by decide) ?_
          refine lv_goto (tgt := 94) hx hb dX7_shortest_77 (by decide) ?_
          exact hR _ _ _ _ _ _ dX7_shortest_94 hp (congrArg Prod.fst (Option.some.inj h)) (congrArg Prod.snd (Option.some.inj h)) (fun q => by cases q)
      · have h := it_p h c4
        refine lv_iload hx hb dX7_shortest_66 (lv_at hl 0 rfl) ?_
        refine lv_goto (tgt := 94) hx hb dX7_shortest_68 (by decide) ?_
        exact hR _ _ _ _ _ _ dX7_shortest_94 hp (congrArg Prod.fst (Option.some.inj h)) (congrArg Prod.snd (Option.some.inj h)) (fun q => by cases q)
    · have h := it_n h c2
      refine lv_iconst (v := 0) hx hb dX7_shortest_52 (by decide) ?_
      exact hR _ _ _ _ _ _ dX7_shortest_53 hp (congrArg Prod.fst (Option.some.inj h)) (congrArg Prod.snd (Option.some.inj h)) (fun q => by cases q)
  unfold X7_shortest at h
  have hl := lv_sub (l' := [(0, .ref (a 0)), (1, .int v1), (2, .int v2)]) hl [0, 1, 2] rfl
  refine lv_aload_n hx hb dX7_shortest_0 rfl (lv_at hl 0 rfl) ?_
  obtain ⟨t1, ht1, h⟩ := bd_s h
  refine cl_Vi X eokM (c_X7_runLength ht1) tw_29_7 mw_X7_runLength (by decide) hp 0 rfl rfl rfl hl.1 rfl (Nat.le_of_ble_eq_true rfl) dX7_shortest_1 (fun H locs hp => ?_)
  refine lv_istore_n (lv' := [(3, .int t1.1), (0, .ref (a 0)), (1, .int v1), (2, .int v2)]) hx hb dX7_shortest_4 rfl hl (by decide) rfl (fun ls hl => ?_)
  refine lv_aload_n hx hb dX7_shortest_5 rfl (lv_at hl 1 rfl) ?_
  refine lv_iload_n hx hb dX7_shortest_6 rfl (lv_at hl 0 rfl) ?_
  refine lv_iconst (v := -1) hx hb dX7_shortest_7 (by decide) ?_
  refine lv_icmp_ne (tgt := 15) hx hb dX7_shortest_8 (by decide) (fun c2 => ?_) (fun c2 => ?_)
  · have h := it_n h c2
    refine lv_iload_n hx hb dX7_shortest_15 rfl (lv_at hl 2 rfl) ?_
    refine lv_iconst (v := 0) hx hb dX7_shortest_16 (by decide) ?_
    refine lv_iload_n hx hb dX7_shortest_17 rfl (lv_at hl 0 rfl) ?_
    obtain ⟨t3, ht3, h⟩ := bd_s h
    refine cl_Si X eokM (c_X7_within (adrM a cA) eokM ht3) tw_8_10 mw_X7_within (by decide) hp hl.1 rfl (Nat.le_of_ble_eq_true rfl) dX7_shortest_18 (fun H locs hp => ?_)
    refine lv_if_ne (tgt := 28) hx hb dX7_shortest_21 (by decide) (fun c4 => ?_) (fun c4 => ?_)
    · have h := it_n h c4
      refine lv_iload_n hx hb dX7_shortest_28 rfl (lv_at hl 3 rfl) ?_
      refine lv_iconst (v := 0) hx hb dX7_shortest_29 (by decide) ?_
      refine lv_iconst (v := 1) hx hb dX7_shortest_30 (by decide) ?_
      obtain ⟨t5, ht5, h⟩ := bd_s h
      refine cl_Si X eokM (c_X7_within (adrM a cA) eokM ht5) tw_8_10 mw_X7_within (by decide) hp hl.1 rfl (Nat.le_of_ble_eq_true rfl) dX7_shortest_31 (fun H locs hp => ?_)
      refine lv_if_eq (tgt := 41) hx hb dX7_shortest_34 (by decide) (fun c6 => ?_) (fun c6 => ?_)
      · have h := it_p h c6
        refine lv_iconst (v := 3) hx hb dX7_shortest_41 (by decide) ?_
        exact J_42 v1 v2 t1.1 (3 : Int32) t1.2 _ _ _ hp (lv_sub hl [1, 2, 3, 0] rfl) h
      · have h := it_n h c6
        refine lv_iconst (v := 0) hx hb dX7_shortest_37 (by decide) ?_
        refine lv_goto (tgt := 42) hx hb dX7_shortest_38 (by decide) ?_
        exact J_42 v1 v2 t1.1 (0 : Int32) t1.2 _ _ _ hp (lv_sub hl [1, 2, 3, 0] rfl) h
    · have h := it_p h c4
      refine lv_iconst (v := 2) hx hb dX7_shortest_24 (by decide) ?_
      refine lv_goto (tgt := 42) hx hb dX7_shortest_25 (by decide) ?_
      exact J_42 v1 v2 t1.1 (2 : Int32) t1.2 _ _ _ hp (lv_sub hl [1, 2, 3, 0] rfl) h
  · have h := it_p h c2
    refine lv_iconst (v := 1) hx hb dX7_shortest_11 (by decide) ?_
    refine lv_goto (tgt := 42) hx hb dX7_shortest_12 (by decide) ?_
    exact J_42 v1 v2 t1.1 (1 : Int32) t1.2 _ _ _ hp (lv_sub hl [1, 2, 3, 0] rfl) h
def X7_asked (N : Nat) (σ : St) : Option (Int64 × St) :=
  bd (X7_evaluate N σ) (fun t1 =>
  gd (inb (0 : Int32) 256) (
  some ((t1.2.2.2 2 (0 : Int32).toNatClampNeg), t1)))
set_option maxRecDepth 20000 in
set_option maxHeartbeats 4000000 in
theorem c_X7_asked {l : Launch} {D : va_G} {a : Nat → Nat} {cA : Nat → ClassId} {σ : St} {N : Nat} {r : Int64} {σ' : St} (h : X7_asked N σ = some (r, σ')) : MetL l yX7_asked cX7_asked 1 (some .long) 5 D (tyW cA) (wM a cA) EM [.ref (a 0)] σ r σ' := by
  refine mkL (by decide) (adrM a cA) rfl (Nat.le_of_ble_eq_true rfl) ?_
  intro p e R s m args below meth c A Q ls X hR hp hl
  obtain ⟨hx, hb, -, hown, hts, -⟩ := id X
  unfold X7_asked at h
  have hl := lv_sub (l' := [(0, .ref (a 0))]) hl [0] rfl
  refine lv_aload_n hx hb dX7_asked_0 rfl (lv_at hl 0 rfl) ?_
  obtain ⟨t1, ht1, h⟩ := bd_s h
  refine cl_Vv X eokM (c_X7_evaluate ht1) tw_16_4 mw_X7_evaluate (by decide) hp 0 rfl rfl rfl hl.1 rfl (Nat.le_of_ble_eq_true rfl) dX7_asked_1 (fun H locs hp => ?_)
  refine lv_aload_n hx hb dX7_asked_4 rfl (lv_at hl 0 rfl) ?_
  refine gM_X7_operands X hp tw_5_21 dX7_asked_5 ?_
  refine lv_iconst (v := 0) hx hb dX7_asked_8 (by decide) ?_
  obtain ⟨g2, h⟩ := gd_s h
  refine lM_X7_operands X hp g2 dX7_asked_9 ?_
  exact hR _ _ _ _ _ _ dX7_asked_10 hp (congrArg Prod.fst (Option.some.inj h)) (congrArg Prod.snd (Option.some.inj h))
def X7_candidate_13 (N : Nat) (u0 : Int32) (σ : St) : Option (Int64 × St) :=
  nm (si σ 0 u0) (fun (σ1 : St) =>
  if (σ1.1 0) ≤ 0 then
    bd (X7_asked N σ1) (fun t3 =>
    some (t3.1, t3.2))
  else
    some ((0 : Int64), σ1))
def X7_candidate (N : Nat) (σ : St) : Option (Int64 × St) :=
  bd (X7_isPlain N σ) (fun t1 =>
  if t1.1 = 0 then
    X7_candidate_13 N (1 : Int32) t1.2
  else
    X7_candidate_13 N (0 : Int32) t1.2)
set_option maxRecDepth 20000 in
set_option maxHeartbeats 4000000 in
theorem c_X7_candidate {l : Launch} {D : va_G} {a : Nat → Nat} {cA : Nat → ClassId} {σ : St} {N : Nat} {r : Int64} {σ' : St} (h : X7_candidate N σ = some (r, σ')) : MetL l yX7_candidate cX7_candidate 1 (some .long) 6 D (tyW cA) (wM a cA) EM [.ref (a 0)] σ r σ' := by
  refine mkL (by decide) (adrM a cA) rfl (Nat.le_of_ble_eq_true rfl) ?_
  intro p e R s m args below meth c A Q ls X hR hp hl
  obtain ⟨hx, hb, -, hown, hts, -⟩ := id X
  have J_13 : ∀ (u0 : Int32) (σ : St) (H : Heap) (locs : List Loc) (ls : Array Slot), Pw D (wM a cA) A s.heap H locs σ → lv_has ls 1 [(0, .ref (a 0))] → X7_candidate_13 N u0 σ = some (r, σ') → W p l e R s m args below meth c H locs 0 0 Q (F0 m 13 ls [.int u0, .ref (a 0)]) := by
    intro u0 σ H locs ls hp hl h
    unfold X7_candidate_13 at h
    refine pM_X7_thrown X hp tw_8_9 dX7_candidate_13 (fun H locs σ1 eσ1 hp => ?_)
    have h := nm_s h σ1 eσ1
    refine lv_aload_n hx hb dX7_candidate_16 rfl (lv_at hl 0 rfl) ?_
    refine gM_X7_thrown X hp tw_8_9 dX7_candidate_17 ?_
    refine lv_if_le (tgt := 27) hx hb dX7_candidate_20 (by decide) (fun c2 => ?_) (fun c2 => ?_)
    · have h := it_p h c2
      refine lv_aload_n hx hb dX7_candidate_27 rfl (lv_at hl 0 rfl) ?_
      obtain ⟨t3, ht3, h⟩ := bd_s h
      refine cl_Vl X eokM (c_X7_asked ht3) tw_31_20 mw_X7_asked (by decide) hp 0 rfl rfl rfl hl.1 rfl (Nat.le_of_ble_eq_true rfl) dX7_candidate_28 (fun H locs hp => ?_)
      exact hR _ _ _ _ _ _ dX7_candidate_31 hp (congrArg Prod.fst (Option.some.inj h)) (congrArg Prod.snd (Option.some.inj h))
    · have h := it_n h c2
      refine lv_lconst (v := 0) hx hb dX7_candidate_23 (by decide) ?_
      refine lv_goto (tgt := 31) hx hb dX7_candidate_24 (by decide) ?_
      exact hR _ _ _ _ _ _ dX7_candidate_31 hp (congrArg Prod.fst (Option.some.inj h)) (congrArg Prod.snd (Option.some.inj h))
  unfold X7_candidate at h
  have hl := lv_sub (l' := [(0, .ref (a 0))]) hl [0] rfl
  refine lv_aload_n hx hb dX7_candidate_0 rfl (lv_at hl 0 rfl) ?_
  refine lv_aload_n hx hb dX7_candidate_1 rfl (lv_at hl 0 rfl) ?_
  obtain ⟨t1, ht1, h⟩ := bd_s h
  refine cl_Vi X eokM (c_X7_isPlain ht1) tw_19_10 mw_X7_isPlain (by decide) hp 0 rfl rfl rfl hl.1 rfl (Nat.le_of_ble_eq_true rfl) dX7_candidate_2 (fun H locs hp => ?_)
  refine lv_if_eq (tgt := 12) hx hb dX7_candidate_5 (by decide) (fun c2 => ?_) (fun c2 => ?_)
  · have h := it_p h c2
    refine lv_iconst (v := 1) hx hb dX7_candidate_12 (by decide) ?_
    exact J_13 (1 : Int32) t1.2 _ _ _ hp (lv_sub hl [0] rfl) h
  · have h := it_n h c2
    refine lv_iconst (v := 0) hx hb dX7_candidate_8 (by decide) ?_
    refine lv_goto (tgt := 13) hx hb dX7_candidate_9 (by decide) ?_
    exact J_13 (0 : Int32) t1.2 _ _ _ hp (lv_sub hl [0] rfl) h
def X7_check_71 (v1 : Int64) (u0 : Int32) (u1 : Int32) (σ : St) : Option (Int32 × St) :=
  bd (X7_bad σ) (fun t1 =>
  if (v1 &&& t1) = (0 : Int64) then
    some (((u1 + u0) + (0 : Int32)), σ)
  else
    some (((u1 + u0) + (4 : Int32)), σ))
def X7_check_50 (N : Nat) (v1 : Int64) (u0 : Int32) (σ : St) : Option (Int32 × St) :=
  bd (X7_successors N σ v1) (fun t1 =>
  if (t1 &&& (v1 ^^^ (-1 : Int64))) = (0 : Int64) then
    X7_check_71 v1 (0 : Int32) u0 σ
  else
    X7_check_71 v1 (2 : Int32) u0 σ)
def X7_check_13 (N : Nat) (u0 : Int32) (σ : St) : Option (Int32 × St) :=
  nm (si σ 0 u0) (fun (σ1 : St) =>
  if (σ1.1 0) ≤ 0 then
    bd (X7_asked N σ1) (fun t3 =>
    if ((t3.2.2.1 0) &&& (t3.1 ^^^ (-1 : Int64))) = (0 : Int64) then
      X7_check_50 N t3.1 (0 : Int32) t3.2
    else
      X7_check_50 N t3.1 (1 : Int32) t3.2)
  else
    some ((0 : Int32), σ1))
def X7_check (N : Nat) (σ : St) : Option (Int32 × St) :=
  bd (X7_isPlain N σ) (fun t1 =>
  if t1.1 = 0 then
    X7_check_13 N (1 : Int32) t1.2
  else
    X7_check_13 N (0 : Int32) t1.2)
set_option maxRecDepth 20000 in
set_option maxHeartbeats 4000000 in
theorem c_X7_check {l : Launch} {D : va_G} {a : Nat → Nat} {cA : Nat → ClassId} {σ : St} {N : Nat} {r : Int32} {σ' : St} (h : X7_check N σ = some (r, σ')) : MetI l yX7_check cX7_check 3 (some .int) 6 D (tyW cA) (wM a cA) EM [.ref (a 0)] σ r σ' := by
  refine mkI (by decide) (adrM a cA) (Or.inl rfl) (Nat.le_of_ble_eq_true rfl) ?_
  intro p e R s m args below meth c A Q ls X hR hp hl
  obtain ⟨hx, hb, -, hown, hts, -⟩ := id X
  have J_71 : ∀ (v1 : Int64) (u0 : Int32) (u1 : Int32) (σ : St) (H : Heap) (locs : List Loc) (ls : Array Slot), Pw D (wM a cA) A s.heap H locs σ → lv_has ls 3 [(0, .ref (a 0)), (1, .long v1)] → X7_check_71 v1 u0 u1 σ = some (r, σ') → W p l e R s m args below meth c H locs 0 0 Q (F0 m 71 ls [.int u0, .int u1]) := by
    intro v1 u0 u1 σ H locs ls hp hl h
    unfold X7_check_71 at h
    refine lv_iadd hx hb dX7_check_71 ?_
    refine lv_lload_n hx hb dX7_check_72 rfl (lv_at hl 1 rfl) ?_
    refine lv_aload_n hx hb dX7_check_73 rfl (lv_at hl 0 rfl) ?_
    obtain ⟨t1, ht1, h⟩ := bd_s h
    refine cl_Vl X eokM (c_X7_bad ht1) tw_26_18 mw_X7_bad (by decide) hp 0 rfl rfl rfl hl.1 rfl (Nat.le_of_ble_eq_true rfl) dX7_check_74 (fun H locs hp => ?_)
    refine lv_land hx hb dX7_check_77 ?_
    refine lv_lconst (v := 0) hx hb dX7_check_78 (by decide) ?_
    refine W.lcmp hx hb dX7_check_79 ?_
    refine lv_if_eq (tgt := 87) hx hb dX7_check_80 (by decide) (fun c2 => ?_) (fun c2 => ?_)
    · have h := it_p h (lcmp0.mp c2)
      refine lv_iconst (v := 0) hx hb dX7_check_87 (by decide) ?_
      refine lv_iadd hx hb dX7_check_88 ?_
      exact hR _ _ _ _ _ _ dX7_check_89 hp (congrArg Prod.fst (Option.some.inj h)) (congrArg Prod.snd (Option.some.inj h)) (fun q => by cases q)
    · have h := it_n h (fun q => c2 (lcmp0.mpr q))
      refine lv_iconst (v := 4) hx hb dX7_check_83 (by decide) ?_
      refine lv_goto (tgt := 88) hx hb dX7_check_84 (by decide) ?_
      refine lv_iadd hx hb dX7_check_88 ?_
      exact hR _ _ _ _ _ _ dX7_check_89 hp (congrArg Prod.fst (Option.some.inj h)) (congrArg Prod.snd (Option.some.inj h)) (fun q => by cases q)
  have J_50 : ∀ (v1 : Int64) (u0 : Int32) (σ : St) (H : Heap) (locs : List Loc) (ls : Array Slot), Pw D (wM a cA) A s.heap H locs σ → lv_has ls 3 [(0, .ref (a 0)), (1, .long v1)] → X7_check_50 N v1 u0 σ = some (r, σ') → W p l e R s m args below meth c H locs 0 0 Q (F0 m 50 ls [.int u0]) := by
    intro v1 u0 σ H locs ls hp hl h
    unfold X7_check_50 at h
    refine lv_aload_n hx hb dX7_check_50 rfl (lv_at hl 0 rfl) ?_
    refine lv_lload_n hx hb dX7_check_51 rfl (lv_at hl 1 rfl) ?_
    obtain ⟨t1, ht1, h⟩ := bd_s h
    refine cl_Vl X eokM (c_X7_successors ht1) tw_27_6 mw_X7_successors (by decide) hp 0 rfl rfl rfl hl.1 rfl (Nat.le_of_ble_eq_true rfl) dX7_check_52 (fun H locs hp => ?_)
    refine lv_lload_n hx hb dX7_check_55 rfl (lv_at hl 1 rfl) ?_
    refine lv_ldc2 hx hb hown (hts _ tw_7_9) dX7_check_56 ?_
    refine lv_lxor hx hb dX7_check_59 ?_
    refine lv_land hx hb dX7_check_60 ?_
    refine lv_lconst (v := 0) hx hb dX7_check_61 (by decide) ?_
    refine W.lcmp hx hb dX7_check_62 ?_
    refine lv_if_eq (tgt := 70) hx hb dX7_check_63 (by decide) (fun c2 => ?_) (fun c2 => ?_)
    · have h := it_p h (lcmp0.mp c2)
      refine lv_iconst (v := 0) hx hb dX7_check_70 (by decide) ?_
      exact J_71 v1 (0 : Int32) u0 σ _ _ _ hp (lv_sub hl [0, 1] rfl) h
    · have h := it_n h (fun q => c2 (lcmp0.mpr q))
      refine lv_iconst (v := 2) hx hb dX7_check_66 (by decide) ?_
      refine lv_goto (tgt := 71) hx hb dX7_check_67 (by decide) ?_
      exact J_71 v1 (2 : Int32) u0 σ _ _ _ hp (lv_sub hl [0, 1] rfl) h
  have J_13 : ∀ (u0 : Int32) (σ : St) (H : Heap) (locs : List Loc) (ls : Array Slot), Pw D (wM a cA) A s.heap H locs σ → lv_has ls 3 [(0, .ref (a 0))] → X7_check_13 N u0 σ = some (r, σ') → W p l e R s m args below meth c H locs 0 0 Q (F0 m 13 ls [.int u0, .ref (a 0)]) := by
    intro u0 σ H locs ls hp hl h
    unfold X7_check_13 at h
    refine pM_X7_thrown X hp tw_8_9 dX7_check_13 (fun H locs σ1 eσ1 hp => ?_)
    have h := nm_s h σ1 eσ1
    refine lv_aload_n hx hb dX7_check_16 rfl (lv_at hl 0 rfl) ?_
    refine gM_X7_thrown X hp tw_8_9 dX7_check_17 ?_
    refine lv_if_le (tgt := 25) hx hb dX7_check_20 (by decide) (fun c2 => ?_) (fun c2 => ?_)
    · have h := it_p h c2
      refine lv_aload_n hx hb dX7_check_25 rfl (lv_at hl 0 rfl) ?_
      obtain ⟨t3, ht3, h⟩ := bd_s h
      refine cl_Vl X eokM (c_X7_asked ht3) tw_31_20 mw_X7_asked (by decide) hp 0 rfl rfl rfl hl.1 rfl (Nat.le_of_ble_eq_true rfl) dX7_check_26 (fun H locs hp => ?_)
      refine lv_lstore_n (lv' := [(1, .long t3.1), (0, .ref (a 0))]) hx hb dX7_check_29 rfl hl (by decide) rfl (fun ls hl => ?_)
      refine lv_aload_n hx hb dX7_check_30 rfl (lv_at hl 1 rfl) ?_
      refine gM_X7_init X hp tw_6_17 dX7_check_31 ?_
      refine lv_lload_n hx hb dX7_check_34 rfl (lv_at hl 0 rfl) ?_
      refine lv_ldc2 hx hb hown (hts _ tw_7_9) dX7_check_35 ?_
      refine lv_lxor hx hb dX7_check_38 ?_
      refine lv_land hx hb dX7_check_39 ?_
      refine lv_lconst (v := 0) hx hb dX7_check_40 (by decide) ?_
      refine W.lcmp hx hb dX7_check_41 ?_
      refine lv_if_eq (tgt := 49) hx hb dX7_check_42 (by decide) (fun c4 => ?_) (fun c4 => ?_)
      · have h := it_p h (lcmp0.mp c4)
        refine lv_iconst (v := 0) hx hb dX7_check_49 (by decide) ?_
        exact J_50 t3.1 (0 : Int32) t3.2 _ _ _ hp (lv_sub hl [1, 0] rfl) h
      · have h := it_n h (fun q => c4 (lcmp0.mpr q))
        refine lv_iconst (v := 1) hx hb dX7_check_45 (by decide) ?_
        refine lv_goto (tgt := 50) hx hb dX7_check_46 (by decide) ?_
        exact J_50 t3.1 (1 : Int32) t3.2 _ _ _ hp (lv_sub hl [1, 0] rfl) h
    · have h := it_n h c2
      refine lv_iconst (v := 0) hx hb dX7_check_23 (by decide) ?_
      exact hR _ _ _ _ _ _ dX7_check_24 hp (congrArg Prod.fst (Option.some.inj h)) (congrArg Prod.snd (Option.some.inj h)) (fun q => by cases q)
  unfold X7_check at h
  have hl := lv_sub (l' := [(0, .ref (a 0))]) hl [0] rfl
  refine lv_aload_n hx hb dX7_check_0 rfl (lv_at hl 0 rfl) ?_
  refine lv_aload_n hx hb dX7_check_1 rfl (lv_at hl 0 rfl) ?_
  obtain ⟨t1, ht1, h⟩ := bd_s h
  refine cl_Vi X eokM (c_X7_isPlain ht1) tw_19_10 mw_X7_isPlain (by decide) hp 0 rfl rfl rfl hl.1 rfl (Nat.le_of_ble_eq_true rfl) dX7_check_2 (fun H locs hp => ?_)
  refine lv_if_eq (tgt := 12) hx hb dX7_check_5 (by decide) (fun c2 => ?_) (fun c2 => ?_)
  · have h := it_p h c2
    refine lv_iconst (v := 1) hx hb dX7_check_12 (by decide) ?_
    exact J_13 (1 : Int32) t1.2 _ _ _ hp (lv_sub hl [0] rfl) h
  · have h := it_n h c2
    refine lv_iconst (v := 0) hx hb dX7_check_8 (by decide) ?_
    refine lv_goto (tgt := 13) hx hb dX7_check_9 (by decide) ?_
    exact J_13 (0 : Int32) t1.2 _ _ _ hp (lv_sub hl [0] rfl) h
def X7_escapeNow_37b (N : Nat) (k37 : (Int32 → St → Option (Int32 × St))) (k58 : (Int32 → Int32 → Int32 → St → Option (Int32 × St))) (v1 : Int32) (v2 : Int64) (v4 : Int32) (v5 : Int32) (σ : St) : Option (Int32 × St) :=
  bd (X7_successorOf N σ v4 v5) (fun t1 =>
  bd (X7_has v2 t1) (fun t2 =>
  if t2 = 0 then
    k58 v1 v4 v5 σ
  else
    nm (v5 + (1 : Int32)) (fun (x4 : Int32) =>
    k37 x4 σ)))
def X7_escapeNow_37 (N : Nat) (k58 : (Int32 → Int32 → Int32 → St → Option (Int32 × St))) (v1 : Int32) (v2 : Int64) (v4 : Int32) : Nat → Int32 → St → Option (Int32 × St)
  | 0, _, _ => none
  | n + 1, v5, σ => X7_escapeNow_37b N (fun v5 σ => X7_escapeNow_37 N k58 v1 v2 v4 n v5 σ) k58 v1 v2 v4 v5 σ
def X7_escapeNow_58 (N : Nat) (v1 : Int32) (v4 : Int32) (v5 : Int32) (σ : St) : Option (Int32 × St) :=
  if v1 = 0 then
    some (v4, σ)
  else
    if v1 = (1 : Int32) then
      some (v5, σ)
    else
      bd (X7_successorOf N σ v4 v5) (fun t3 =>
      some (t3, σ))
def X7_escapeNow (N : Nat) (v1 : Int32) (σ : St) : Option (Int32 × St) :=
  bd (X7_asked N σ) (fun t1 =>
  bd (X7_all t1.2) (fun t2 =>
  bd (X7_before N t1.2 (t2 &&& (t1.1 ^^^ (-1 : Int64)))) (fun t3 =>
  bd (X7_least N (t1.1 &&& t3)) (fun t4 =>
  if t4 = (-1 : Int32) then
    some ((-1 : Int32), t1.2)
  else
    X7_escapeNow_37 N (fun v1 v4 v5 σ => X7_escapeNow_58 N v1 v4 v5 σ) v1 t1.1 t4 N (0 : Int32) t1.2))))
set_option maxRecDepth 20000 in
set_option maxHeartbeats 4000000 in
theorem c_X7_escapeNow {l : Launch} {D : va_G} {a : Nat → Nat} {cA : Nat → ClassId} {σ : St} {N : Nat} {v1 : Int32} {r : Int32} {σ' : St} (h : X7_escapeNow N v1 σ = some (r, σ')) : MetI l yX7_escapeNow cX7_escapeNow 6 (some .int) 6 D (tyW cA) (wM a cA) EM [.ref (a 0), .int v1] σ r σ' := by
  refine mkI (by decide) (adrM a cA) (Or.inl rfl) (Nat.le_of_ble_eq_true rfl) ?_
  intro p e R s m args below meth c A Q ls X hR hp hl
  obtain ⟨hx, hb, -, hown, hts, -⟩ := id X
  have J_37 : ∀ (v1 : Int32) (v2 : Int64) (v4 : Int32) (k58 : (Int32 → Int32 → Int32 → St → Option (Int32 × St))) (hk58 : ∀ (v1 : Int32) (v4 : Int32) (v5 : Int32) (σ : St) (H : Heap) (locs : List Loc) (ls : Array Slot), Pw D (wM a cA) A s.heap H locs σ → lv_has ls 6 [(0, .ref (a 0)), (1, .int v1), (4, .int v4), (5, .int v5)] → k58 v1 v4 v5 σ = some (r, σ') → W p l e R s m args below meth c H locs 0 0 Q (F0 m 58 ls [])) (n : Nat) (v5 : Int32) (σ : St) (H : Heap) (locs : List Loc) (ls : Array Slot), Pw D (wM a cA) A s.heap H locs σ → lv_has ls 6 [(0, .ref (a 0)), (1, .int v1), (2, .long v2), (4, .int v4), (5, .int v5)] → X7_escapeNow_37 N k58 v1 v2 v4 n v5 σ = some (r, σ') → W p l e R s m args below meth c H locs 0 0 Q (F0 m 37 ls []) := by
    intro v1 v2 v4 k58 hk58 n
    induction n with
    | zero => intro v5 σ H locs ls hp hl h; exact nn_s (show (none : Option (Int32 × St)) = some _ from h)
    | succ n ih =>
      intro v5 σ H locs ls hp hl h
      have h : X7_escapeNow_37b N (fun v5 σ => X7_escapeNow_37 N k58 v1 v2 v4 n v5 σ) k58 v1 v2 v4 v5 σ = some (r, σ') := h
      unfold X7_escapeNow_37b at h
      have hk37 := ih
      refine lv_lload_n hx hb dX7_escapeNow_37 rfl (lv_at hl 2 rfl) ?_
      refine lv_aload_n hx hb dX7_escapeNow_38 rfl (lv_at hl 0 rfl) ?_
      refine lv_iload hx hb dX7_escapeNow_39 (lv_at hl 3 rfl) ?_
      refine lv_iload hx hb dX7_escapeNow_41 (lv_at hl 4 rfl) ?_
      obtain ⟨t1, ht1, h⟩ := bd_s h
      refine cl_Vi X eokM (c_X7_successorOf ht1) tw_21_23 mw_X7_successorOf (by decide) hp 0 rfl rfl rfl hl.1 rfl (Nat.le_of_ble_eq_true rfl) dX7_escapeNow_43 (fun H locs hp => ?_)
      obtain ⟨t2, ht2, h⟩ := bd_s h
      refine cl_Si X eokM (c_X7_has (adrM a cA) eokM ht2) tw_18_3 mw_X7_has (by decide) hp hl.1 rfl (Nat.le_of_ble_eq_true rfl) dX7_escapeNow_46 (fun H locs hp => ?_)
      refine lv_if_eq (tgt := 58) hx hb dX7_escapeNow_49 (by decide) (fun c3 => ?_) (fun c3 => ?_)
      · have h := it_p h c3
        exact hk58 v1 v4 v5 σ _ _ _ hp (lv_sub hl [0, 1, 3, 4] rfl) h
      · have h := it_n h c3
        obtain ⟨x4, ex4⟩ : ∃ z : Int32, z = v5 + (1 : Int32) := ⟨_, rfl⟩
        have h := nm_s h x4 ex4
        refine lv_iinc (v := x4) (lv' := [(5, .int x4), (0, .ref (a 0)), (1, .int v1), (2, .long v2), (4, .int v4)]) hx hb dX7_escapeNow_52 hl (k := 4) rfl (by rw [ex4]; rfl) (by decide) rfl (fun ls hl => ?_)
        refine lv_goto (tgt := 37) hx hb dX7_escapeNow_55 (by decide) ?_
        exact hk37 x4 σ _ _ _ hp (lv_sub hl [1, 2, 3, 4, 0] rfl) h
  have J_58 : ∀ (v1 : Int32) (v4 : Int32) (v5 : Int32) (σ : St) (H : Heap) (locs : List Loc) (ls : Array Slot), Pw D (wM a cA) A s.heap H locs σ → lv_has ls 6 [(0, .ref (a 0)), (1, .int v1), (4, .int v4), (5, .int v5)] → X7_escapeNow_58 N v1 v4 v5 σ = some (r, σ') → W p l e R s m args below meth c H locs 0 0 Q (F0 m 58 ls []) := by
    intro v1 v4 v5 σ H locs ls hp hl h
    unfold X7_escapeNow_58 at h
    refine lv_iload_n hx hb dX7_escapeNow_58 rfl (lv_at hl 1 rfl) ?_
    refine lv_if_ne (tgt := 67) hx hb dX7_escapeNow_59 (by decide) (fun c1 => ?_) (fun c1 => ?_)
    · have h := it_n h c1
      refine lv_iload_n hx hb dX7_escapeNow_67 rfl (lv_at hl 1 rfl) ?_
      refine lv_iconst (v := 1) hx hb dX7_escapeNow_68 (by decide) ?_
      refine lv_icmp_ne (tgt := 77) hx hb dX7_escapeNow_69 (by decide) (fun c2 => ?_) (fun c2 => ?_)
      · have h := it_n h c2
        refine lv_aload_n hx hb dX7_escapeNow_77 rfl (lv_at hl 0 rfl) ?_
        refine lv_iload hx hb dX7_escapeNow_78 (lv_at hl 2 rfl) ?_
        refine lv_iload hx hb dX7_escapeNow_80 (lv_at hl 3 rfl) ?_
        obtain ⟨t3, ht3, h⟩ := bd_s h
        refine cl_Vi X eokM (c_X7_successorOf ht3) tw_21_23 mw_X7_successorOf (by decide) hp 0 rfl rfl rfl hl.1 rfl (Nat.le_of_ble_eq_true rfl) dX7_escapeNow_82 (fun H locs hp => ?_)
        exact hR _ _ _ _ _ _ dX7_escapeNow_85 hp (congrArg Prod.fst (Option.some.inj h)) (congrArg Prod.snd (Option.some.inj h)) (fun q => by cases q)
      · have h := it_p h c2
        refine lv_iload hx hb dX7_escapeNow_72 (lv_at hl 3 rfl) ?_
        refine lv_goto (tgt := 85) hx hb dX7_escapeNow_74 (by decide) ?_
        exact hR _ _ _ _ _ _ dX7_escapeNow_85 hp (congrArg Prod.fst (Option.some.inj h)) (congrArg Prod.snd (Option.some.inj h)) (fun q => by cases q)
    · have h := it_p h c1
      refine lv_iload hx hb dX7_escapeNow_62 (lv_at hl 2 rfl) ?_
      refine lv_goto (tgt := 85) hx hb dX7_escapeNow_64 (by decide) ?_
      exact hR _ _ _ _ _ _ dX7_escapeNow_85 hp (congrArg Prod.fst (Option.some.inj h)) (congrArg Prod.snd (Option.some.inj h)) (fun q => by cases q)
  unfold X7_escapeNow at h
  have hl := lv_sub (l' := [(0, .ref (a 0)), (1, .int v1)]) hl [0, 1] rfl
  refine lv_aload_n hx hb dX7_escapeNow_0 rfl (lv_at hl 0 rfl) ?_
  obtain ⟨t1, ht1, h⟩ := bd_s h
  refine cl_Vl X eokM (c_X7_asked ht1) tw_31_20 mw_X7_asked (by decide) hp 0 rfl rfl rfl hl.1 rfl (Nat.le_of_ble_eq_true rfl) dX7_escapeNow_1 (fun H locs hp => ?_)
  refine lv_lstore_n (lv' := [(2, .long t1.1), (0, .ref (a 0)), (1, .int v1)]) hx hb dX7_escapeNow_4 rfl hl (by decide) rfl (fun ls hl => ?_)
  refine lv_lload_n hx hb dX7_escapeNow_5 rfl (lv_at hl 0 rfl) ?_
  refine lv_aload_n hx hb dX7_escapeNow_6 rfl (lv_at hl 1 rfl) ?_
  refine lv_aload_n hx hb dX7_escapeNow_7 rfl (lv_at hl 1 rfl) ?_
  obtain ⟨t2, ht2, h⟩ := bd_s h
  refine cl_Vl X eokM (c_X7_all ht2) tw_7_5 mw_X7_all (by decide) hp 0 rfl rfl rfl hl.1 rfl (Nat.le_of_ble_eq_true rfl) dX7_escapeNow_8 (fun H locs hp => ?_)
  refine lv_lload_n hx hb dX7_escapeNow_11 rfl (lv_at hl 0 rfl) ?_
  refine lv_ldc2 hx hb hown (hts _ tw_7_9) dX7_escapeNow_12 ?_
  refine lv_lxor hx hb dX7_escapeNow_15 ?_
  refine lv_land hx hb dX7_escapeNow_16 ?_
  obtain ⟨t3, ht3, h⟩ := bd_s h
  refine cl_Vl X eokM (c_X7_before ht3) tw_27_2 mw_X7_before (by decide) hp 0 rfl rfl rfl hl.1 rfl (Nat.le_of_ble_eq_true rfl) dX7_escapeNow_17 (fun H locs hp => ?_)
  refine lv_land hx hb dX7_escapeNow_20 ?_
  obtain ⟨t4, ht4, h⟩ := bd_s h
  refine cl_Si X eokM (c_X7_least (adrM a cA) eokM ht4) tw_27_18 mw_X7_least (by decide) hp hl.1 rfl (Nat.le_of_ble_eq_true rfl) dX7_escapeNow_21 (fun H locs hp => ?_)
  refine lv_istore (lv' := [(4, .int t4), (2, .long t1.1), (0, .ref (a 0)), (1, .int v1)]) hx hb dX7_escapeNow_24 hl (by decide) rfl (fun ls hl => ?_)
  refine lv_iload hx hb dX7_escapeNow_26 (lv_at hl 0 rfl) ?_
  refine lv_iconst (v := -1) hx hb dX7_escapeNow_28 (by decide) ?_
  refine lv_icmp_ne (tgt := 34) hx hb dX7_escapeNow_29 (by decide) (fun c5 => ?_) (fun c5 => ?_)
  · have h := it_n h c5
    refine lv_iconst (v := 0) hx hb dX7_escapeNow_34 (by decide) ?_
    refine lv_istore (lv' := [(5, .int (0 : Int32)), (4, .int t4), (2, .long t1.1), (0, .ref (a 0)), (1, .int v1)]) hx hb dX7_escapeNow_35 hl (by decide) rfl (fun ls hl => ?_)
    exact J_37 v1 t1.1 t4 _ (fun v1 v4 v5 σ H locs ls hp hl h => J_58 v1 v4 v5 σ _ _ _ hp hl h) _ (0 : Int32) t1.2 _ _ _ hp (lv_sub hl [3, 4, 2, 1, 0] rfl) h
  · have h := it_p h c5
    refine lv_iconst (v := -1) hx hb dX7_escapeNow_32 (by decide) ?_
    exact hR _ _ _ _ _ _ dX7_escapeNow_33 hp (congrArg Prod.fst (Option.some.inj h)) (congrArg Prod.snd (Option.some.inj h)) (fun q => by cases q)
def X7_escape_26 (N : Nat) (v1 : Int32) (u0 : Int32) (σ : St) : Option (Int32 × St) :=
  nm (si σ 0 u0) (fun (σ1 : St) =>
  if (σ1.1 0) ≤ 0 then
    bd (X7_escapeNow N v1 σ1) (fun t3 =>
    some (t3.1, t3.2))
  else
    some ((0 : Int32), σ1))
def X7_escape (N : Nat) (v1 : Int32) (σ : St) : Option (Int32 × St) :=
  bd (X7_within v1 (0 : Int32) (2 : Int32)) (fun t1 =>
  if t1 = 0 then
    X7_escape_26 N v1 (1 : Int32) σ
  else
    bd (X7_isPlain N σ) (fun t3 =>
    if t3.1 = 0 then
      X7_escape_26 N v1 (2 : Int32) t3.2
    else
      X7_escape_26 N v1 (0 : Int32) t3.2))
set_option maxRecDepth 20000 in
set_option maxHeartbeats 4000000 in
theorem c_X7_escape {l : Launch} {D : va_G} {a : Nat → Nat} {cA : Nat → ClassId} {σ : St} {N : Nat} {v1 : Int32} {r : Int32} {σ' : St} (h : X7_escape N v1 σ = some (r, σ')) : MetI l yX7_escape cX7_escape 2 (some .int) 7 D (tyW cA) (wM a cA) EM [.ref (a 0), .int v1] σ r σ' := by
  refine mkI (by decide) (adrM a cA) (Or.inl rfl) (Nat.le_of_ble_eq_true rfl) ?_
  intro p e R s m args below meth c A Q ls X hR hp hl
  obtain ⟨hx, hb, -, hown, hts, -⟩ := id X
  have J_26 : ∀ (v1 : Int32) (u0 : Int32) (σ : St) (H : Heap) (locs : List Loc) (ls : Array Slot), Pw D (wM a cA) A s.heap H locs σ → lv_has ls 2 [(0, .ref (a 0)), (1, .int v1)] → X7_escape_26 N v1 u0 σ = some (r, σ') → W p l e R s m args below meth c H locs 0 0 Q (F0 m 26 ls [.int u0, .ref (a 0)]) := by
    intro v1 u0 σ H locs ls hp hl h
    unfold X7_escape_26 at h
    refine pM_X7_thrown X hp tw_8_9 dX7_escape_26 (fun H locs σ1 eσ1 hp => ?_)
    have h := nm_s h σ1 eσ1
    refine lv_aload_n hx hb dX7_escape_29 rfl (lv_at hl 0 rfl) ?_
    refine gM_X7_thrown X hp tw_8_9 dX7_escape_30 ?_
    refine lv_if_le (tgt := 40) hx hb dX7_escape_33 (by decide) (fun c2 => ?_) (fun c2 => ?_)
    · have h := it_p h c2
      refine lv_aload_n hx hb dX7_escape_40 rfl (lv_at hl 0 rfl) ?_
      refine lv_iload_n hx hb dX7_escape_41 rfl (lv_at hl 1 rfl) ?_
      obtain ⟨t3, ht3, h⟩ := bd_s h
      refine cl_Vi X eokM (c_X7_escapeNow ht3) tw_33_4 mw_X7_escapeNow (by decide) hp 0 rfl rfl rfl hl.1 rfl (Nat.le_of_ble_eq_true rfl) dX7_escape_42 (fun H locs hp => ?_)
      exact hR _ _ _ _ _ _ dX7_escape_45 hp (congrArg Prod.fst (Option.some.inj h)) (congrArg Prod.snd (Option.some.inj h)) (fun q => by cases q)
    · have h := it_n h c2
      refine lv_iconst (v := 0) hx hb dX7_escape_36 (by decide) ?_
      refine lv_goto (tgt := 45) hx hb dX7_escape_37 (by decide) ?_
      exact hR _ _ _ _ _ _ dX7_escape_45 hp (congrArg Prod.fst (Option.some.inj h)) (congrArg Prod.snd (Option.some.inj h)) (fun q => by cases q)
  unfold X7_escape at h
  have hl := lv_sub (l' := [(0, .ref (a 0)), (1, .int v1)]) hl [0, 1] rfl
  refine lv_aload_n hx hb dX7_escape_0 rfl (lv_at hl 0 rfl) ?_
  refine lv_iload_n hx hb dX7_escape_1 rfl (lv_at hl 1 rfl) ?_
  refine lv_iconst (v := 0) hx hb dX7_escape_2 (by decide) ?_
  refine lv_iconst (v := 2) hx hb dX7_escape_3 (by decide) ?_
  obtain ⟨t1, ht1, h⟩ := bd_s h
  refine cl_Si X eokM (c_X7_within (adrM a cA) eokM ht1) tw_8_10 mw_X7_within (by decide) hp hl.1 rfl (Nat.le_of_ble_eq_true rfl) dX7_escape_4 (fun H locs hp => ?_)
  refine lv_if_ne (tgt := 14) hx hb dX7_escape_7 (by decide) (fun c2 => ?_) (fun c2 => ?_)
  · have h := it_n h c2
    refine lv_aload_n hx hb dX7_escape_14 rfl (lv_at hl 0 rfl) ?_
    obtain ⟨t3, ht3, h⟩ := bd_s h
    refine cl_Vi X eokM (c_X7_isPlain ht3) tw_19_10 mw_X7_isPlain (by decide) hp 0 rfl rfl rfl hl.1 rfl (Nat.le_of_ble_eq_true rfl) dX7_escape_15 (fun H locs hp => ?_)
    refine lv_if_eq (tgt := 25) hx hb dX7_escape_18 (by decide) (fun c4 => ?_) (fun c4 => ?_)
    · have h := it_p h c4
      refine lv_iconst (v := 2) hx hb dX7_escape_25 (by decide) ?_
      exact J_26 v1 (2 : Int32) t3.2 _ _ _ hp (lv_sub hl [0, 1] rfl) h
    · have h := it_n h c4
      refine lv_iconst (v := 0) hx hb dX7_escape_21 (by decide) ?_
      refine lv_goto (tgt := 26) hx hb dX7_escape_22 (by decide) ?_
      exact J_26 v1 (0 : Int32) t3.2 _ _ _ hp (lv_sub hl [0, 1] rfl) h
  · have h := it_p h c2
    refine lv_iconst (v := 1) hx hb dX7_escape_10 (by decide) ?_
    refine lv_goto (tgt := 26) hx hb dX7_escape_11 (by decide) ?_
    exact J_26 v1 (1 : Int32) σ _ _ _ hp (lv_sub hl [0, 1] rfl) h
def X7_modalStep (N : Nat) (σ : St) (v1 : Int32) (v2 : Int64) (v4 : Int64) : Option (Int64) :=
  if v1 = (2 : Int32) then
    bd (X7_before N σ v4) (fun t1 =>
    some (v2 ||| t1))
  else if v1 = (3 : Int32) then
    bd (X7_allBefore N σ v4) (fun t2 =>
    some (v2 ||| t2))
  else if v1 = (4 : Int32) then
    bd (X7_before N σ v4) (fun t3 =>
    some (v2 &&& t3))
  else 
    bd (X7_allBefore N σ v4) (fun t4 =>
    some (v2 &&& t4))
set_option maxRecDepth 20000 in
set_option maxHeartbeats 4000000 in
theorem c_X7_modalStep {l : Launch} {D : va_G} {a : Nat → Nat} {cA : Nat → ClassId} {σ : St} {N : Nat} {v1 : Int32} {v2 : Int64} {v4 : Int64} {r : Int64} (h : X7_modalStep N σ v1 v2 v4 = some r) : MetL l yX7_modalStep cX7_modalStep 6 (some .long) 4 D (tyW cA) (wM a cA) EM [.ref (a 0), .int v1, .long v2, .long v4] σ r σ := by
  refine mkL (by decide) (adrM a cA) rfl (Nat.le_of_ble_eq_true rfl) ?_
  intro p e R s m args below meth c A Q ls X hR hp hl
  obtain ⟨hx, hb, -, hown, hts, -⟩ := id X
  unfold X7_modalStep at h
  have hl := lv_sub (l' := [(0, .ref (a 0)), (1, .int v1), (2, .long v2), (4, .long v4)]) hl [0, 1, 2, 3] rfl
  refine lv_iload_n hx hb dX7_modalStep_0 rfl (lv_at hl 1 rfl) ?_
  by_cases cs5 : v1 = (2 : Int32)
  · have h := it_p h cs5
    refine tsI (tgt := 28) (off := 27) (k := (2 : Int32)) hx hb dX7_modalStep_1 cs5 (by decide) (by decide) (by decide) (by decide) ?_
    refine lv_lload_n hx hb dX7_modalStep_28 rfl (lv_at hl 2 rfl) ?_
    refine lv_aload_n hx hb dX7_modalStep_29 rfl (lv_at hl 0 rfl) ?_
    refine lv_lload hx hb dX7_modalStep_30 (lv_at hl 3 rfl) ?_
    obtain ⟨t1, ht1, h⟩ := bd_s h
    refine cl_Vl X eokM (c_X7_before ht1) tw_27_2 mw_X7_before (by decide) hp 0 rfl rfl rfl hl.1 rfl (Nat.le_of_ble_eq_true rfl) dX7_modalStep_32 (fun H locs hp => ?_)
    refine lv_lor hx hb dX7_modalStep_35 ?_
    exact hR _ _ _ _ _ _ dX7_modalStep_36 hp (Option.some.inj h) rfl
  have h := it_n h cs5
  by_cases cs6 : v1 = (3 : Int32)
  · have h := it_p h cs6
    refine tsI (tgt := 37) (off := 36) (k := (3 : Int32)) hx hb dX7_modalStep_1 cs6 (by decide) (by decide) (by decide) (by decide) ?_
    refine lv_lload_n hx hb dX7_modalStep_37 rfl (lv_at hl 2 rfl) ?_
    refine lv_aload_n hx hb dX7_modalStep_38 rfl (lv_at hl 0 rfl) ?_
    refine lv_lload hx hb dX7_modalStep_39 (lv_at hl 3 rfl) ?_
    obtain ⟨t2, ht2, h⟩ := bd_s h
    refine cl_Vl X eokM (c_X7_allBefore ht2) tw_34_7 mw_X7_allBefore (by decide) hp 0 rfl rfl rfl hl.1 rfl (Nat.le_of_ble_eq_true rfl) dX7_modalStep_41 (fun H locs hp => ?_)
    refine lv_lor hx hb dX7_modalStep_44 ?_
    exact hR _ _ _ _ _ _ dX7_modalStep_45 hp (Option.some.inj h) rfl
  have h := it_n h cs6
  by_cases cs7 : v1 = (4 : Int32)
  · have h := it_p h cs7
    refine tsI (tgt := 46) (off := 45) (k := (4 : Int32)) hx hb dX7_modalStep_1 cs7 (by decide) (by decide) (by decide) (by decide) ?_
    refine lv_lload_n hx hb dX7_modalStep_46 rfl (lv_at hl 2 rfl) ?_
    refine lv_aload_n hx hb dX7_modalStep_47 rfl (lv_at hl 0 rfl) ?_
    refine lv_lload hx hb dX7_modalStep_48 (lv_at hl 3 rfl) ?_
    obtain ⟨t3, ht3, h⟩ := bd_s h
    refine cl_Vl X eokM (c_X7_before ht3) tw_27_2 mw_X7_before (by decide) hp 0 rfl rfl rfl hl.1 rfl (Nat.le_of_ble_eq_true rfl) dX7_modalStep_50 (fun H locs hp => ?_)
    refine lv_land hx hb dX7_modalStep_53 ?_
    exact hR _ _ _ _ _ _ dX7_modalStep_54 hp (Option.some.inj h) rfl
  have h := it_n h cs7
  have ncs5 : ¬ (v1).toInt = 2 := lv_neT cs5 (by decide)
  have ncs6 : ¬ (v1).toInt = 3 := lv_neT cs6 (by decide)
  have ncs7 : ¬ (v1).toInt = 4 := lv_neT cs7 (by decide)
  refine lv_tableOut (tgt := 55) hx hb dX7_modalStep_1 (by omega) (by decide) ?_
  refine lv_lload_n hx hb dX7_modalStep_55 rfl (lv_at hl 2 rfl) ?_
  refine lv_aload_n hx hb dX7_modalStep_56 rfl (lv_at hl 0 rfl) ?_
  refine lv_lload hx hb dX7_modalStep_57 (lv_at hl 3 rfl) ?_
  obtain ⟨t4, ht4, h⟩ := bd_s h
  refine cl_Vl X eokM (c_X7_allBefore ht4) tw_34_7 mw_X7_allBefore (by decide) hp 0 rfl rfl rfl hl.1 rfl (Nat.le_of_ble_eq_true rfl) dX7_modalStep_59 (fun H locs hp => ?_)
  refine lv_land hx hb dX7_modalStep_62 ?_
  exact hR _ _ _ _ _ _ dX7_modalStep_63 hp (Option.some.inj h) rfl
def X7_modalNow_41b (N : Nat) (k41 : (Int64 → Int64 → St → Option (Int64 × St))) (k66 : (Int64 → St → Option (Int64 × St))) (v1 : Int32) (v2 : Int64) (v4 : Int64) (v6 : Int64) (σ : St) : Option (Int64 × St) :=
  if v6 = v4 then
    k66 v4 σ
  else
    bd (X7_modalStep N σ v1 v2 v6) (fun t2 =>
    k41 v6 t2 σ)
def X7_modalNow_41 (N : Nat) (k66 : (Int64 → St → Option (Int64 × St))) (v1 : Int32) (v2 : Int64) : Nat → Int64 → Int64 → St → Option (Int64 × St)
  | 0, _, _, _ => none
  | n + 1, v4, v6, σ => X7_modalNow_41b N (fun v4 v6 σ => X7_modalNow_41 N k66 v1 v2 n v4 v6 σ) k66 v1 v2 v4 v6 σ
def X7_modalNow_66 (v4 : Int64) (σ : St) : Option (Int64 × St) :=
  some (v4, σ)
def X7_modalNow (N : Nat) (v1 : Int32) (σ : St) : Option (Int64 × St) :=
  bd (X7_asked N σ) (fun t1 =>
  if (2 : Int32) ≤ v1 then
    bd (X7_modalStep N t1.2 v1 t1.1 t1.1) (fun t3 =>
    X7_modalNow_41 N (fun v4 σ => X7_modalNow_66 v4 σ) v1 t1.1 N t1.1 t3 t1.2)
  else
    if v1 = 0 then
      bd (X7_before N t1.2 t1.1) (fun t6 =>
      some (t6, t1.2))
    else
      bd (X7_allBefore N t1.2 t1.1) (fun t5 =>
      some (t5, t1.2)))
set_option maxRecDepth 20000 in
set_option maxHeartbeats 4000000 in
theorem c_X7_modalNow {l : Launch} {D : va_G} {a : Nat → Nat} {cA : Nat → ClassId} {σ : St} {N : Nat} {v1 : Int32} {r : Int64} {σ' : St} (h : X7_modalNow N v1 σ = some (r, σ')) : MetL l yX7_modalNow cX7_modalNow 8 (some .long) 6 D (tyW cA) (wM a cA) EM [.ref (a 0), .int v1] σ r σ' := by
  refine mkL (by decide) (adrM a cA) rfl (Nat.le_of_ble_eq_true rfl) ?_
  intro p e R s m args below meth c A Q ls X hR hp hl
  obtain ⟨hx, hb, -, hown, hts, -⟩ := id X
  have J_41 : ∀ (v1 : Int32) (v2 : Int64) (k66 : (Int64 → St → Option (Int64 × St))) (hk66 : ∀ (v4 : Int64) (σ : St) (H : Heap) (locs : List Loc) (ls : Array Slot), Pw D (wM a cA) A s.heap H locs σ → lv_has ls 8 [(0, .ref (a 0)), (4, .long v4)] → k66 v4 σ = some (r, σ') → W p l e R s m args below meth c H locs 0 0 Q (F0 m 66 ls [])) (n : Nat) (v4 : Int64) (v6 : Int64) (σ : St) (H : Heap) (locs : List Loc) (ls : Array Slot), Pw D (wM a cA) A s.heap H locs σ → lv_has ls 8 [(0, .ref (a 0)), (1, .int v1), (2, .long v2), (4, .long v4), (6, .long v6)] → X7_modalNow_41 N k66 v1 v2 n v4 v6 σ = some (r, σ') → W p l e R s m args below meth c H locs 0 0 Q (F0 m 41 ls []) := by
    intro v1 v2 k66 hk66 n
    induction n with
    | zero => intro v4 v6 σ H locs ls hp hl h; exact nn_s (show (none : Option (Int64 × St)) = some _ from h)
    | succ n ih =>
      intro v4 v6 σ H locs ls hp hl h
      have h : X7_modalNow_41b N (fun v4 v6 σ => X7_modalNow_41 N k66 v1 v2 n v4 v6 σ) k66 v1 v2 v4 v6 σ = some (r, σ') := h
      unfold X7_modalNow_41b at h
      have hk41 := ih
      refine lv_lload hx hb dX7_modalNow_41 (lv_at hl 4 rfl) ?_
      refine lv_lload hx hb dX7_modalNow_43 (lv_at hl 3 rfl) ?_
      refine W.lcmp hx hb dX7_modalNow_45 ?_
      refine lv_if_eq (tgt := 66) hx hb dX7_modalNow_46 (by decide) (fun c1 => ?_) (fun c1 => ?_)
      · have h := it_p h (lcmp0.mp c1)
        exact hk66 v4 σ _ _ _ hp (lv_sub hl [0, 3] rfl) h
      · have h := it_n h (fun q => c1 (lcmp0.mpr q))
        refine lv_lload hx hb dX7_modalNow_49 (lv_at hl 4 rfl) ?_
        refine lv_lstore (lv' := [(4, .long v6), (0, .ref (a 0)), (1, .int v1), (2, .long v2), (6, .long v6)]) hx hb dX7_modalNow_51 hl (by decide) rfl (fun ls hl => ?_)
        refine lv_aload_n hx hb dX7_modalNow_53 rfl (lv_at hl 1 rfl) ?_
        refine lv_iload_n hx hb dX7_modalNow_54 rfl (lv_at hl 2 rfl) ?_
        refine lv_lload_n hx hb dX7_modalNow_55 rfl (lv_at hl 3 rfl) ?_
        refine lv_lload hx hb dX7_modalNow_56 (lv_at hl 0 rfl) ?_
        obtain ⟨t2, ht2, h⟩ := bd_s h
        refine cl_Vl X eokM (c_X7_modalStep ht2) tw_34_11 mw_X7_modalStep (by decide) hp 0 rfl rfl rfl hl.1 rfl (Nat.le_of_ble_eq_true rfl) dX7_modalNow_58 (fun H locs hp => ?_)
        refine lv_lstore (lv' := [(6, .long t2), (4, .long v6), (0, .ref (a 0)), (1, .int v1), (2, .long v2)]) hx hb dX7_modalNow_61 hl (by decide) rfl (fun ls hl => ?_)
        refine lv_goto (tgt := 41) hx hb dX7_modalNow_63 (by decide) ?_
        exact hk41 v6 t2 σ _ _ _ hp (lv_sub hl [2, 3, 4, 1, 0] rfl) h
  have J_66 : ∀ (v4 : Int64) (σ : St) (H : Heap) (locs : List Loc) (ls : Array Slot), Pw D (wM a cA) A s.heap H locs σ → lv_has ls 8 [(0, .ref (a 0)), (4, .long v4)] → X7_modalNow_66 v4 σ = some (r, σ') → W p l e R s m args below meth c H locs 0 0 Q (F0 m 66 ls []) := by
    intro v4 σ H locs ls hp hl h
    unfold X7_modalNow_66 at h
    refine lv_lload hx hb dX7_modalNow_66 (lv_at hl 1 rfl) ?_
    exact hR _ _ _ _ _ _ dX7_modalNow_68 hp (congrArg Prod.fst (Option.some.inj h)) (congrArg Prod.snd (Option.some.inj h))
  unfold X7_modalNow at h
  have hl := lv_sub (l' := [(0, .ref (a 0)), (1, .int v1)]) hl [0, 1] rfl
  refine lv_aload_n hx hb dX7_modalNow_0 rfl (lv_at hl 0 rfl) ?_
  obtain ⟨t1, ht1, h⟩ := bd_s h
  refine cl_Vl X eokM (c_X7_asked ht1) tw_31_20 mw_X7_asked (by decide) hp 0 rfl rfl rfl hl.1 rfl (Nat.le_of_ble_eq_true rfl) dX7_modalNow_1 (fun H locs hp => ?_)
  refine lv_lstore_n (lv' := [(2, .long t1.1), (0, .ref (a 0)), (1, .int v1)]) hx hb dX7_modalNow_4 rfl hl (by decide) rfl (fun ls hl => ?_)
  refine lv_iload_n hx hb dX7_modalNow_5 rfl (lv_at hl 2 rfl) ?_
  refine lv_iconst (v := 2) hx hb dX7_modalNow_6 (by decide) ?_
  refine lv_icmp_ge (tgt := 28) hx hb dX7_modalNow_7 (by decide) (fun c2 => ?_) (fun c2 => ?_)
  · have h := it_p h c2
    refine lv_lload_n hx hb dX7_modalNow_28 rfl (lv_at hl 0 rfl) ?_
    refine lv_lstore (lv' := [(4, .long t1.1), (2, .long t1.1), (0, .ref (a 0)), (1, .int v1)]) hx hb dX7_modalNow_29 hl (by decide) rfl (fun ls hl => ?_)
    refine lv_aload_n hx hb dX7_modalNow_31 rfl (lv_at hl 2 rfl) ?_
    refine lv_iload_n hx hb dX7_modalNow_32 rfl (lv_at hl 3 rfl) ?_
    refine lv_lload_n hx hb dX7_modalNow_33 rfl (lv_at hl 1 rfl) ?_
    refine lv_lload hx hb dX7_modalNow_34 (lv_at hl 0 rfl) ?_
    obtain ⟨t3, ht3, h⟩ := bd_s h
    refine cl_Vl X eokM (c_X7_modalStep ht3) tw_34_11 mw_X7_modalStep (by decide) hp 0 rfl rfl rfl hl.1 rfl (Nat.le_of_ble_eq_true rfl) dX7_modalNow_36 (fun H locs hp => ?_)
    refine lv_lstore (lv' := [(6, .long t3), (4, .long t1.1), (2, .long t1.1), (0, .ref (a 0)), (1, .int v1)]) hx hb dX7_modalNow_39 hl (by decide) rfl (fun ls hl => ?_)
    exact J_41 v1 t1.1 _ (fun v4 σ H locs ls hp hl h => J_66 v4 σ _ _ _ hp hl h) _ t1.1 t3 t1.2 _ _ _ hp (lv_sub hl [3, 4, 2, 1, 0] rfl) h
  · have h := it_n h c2
    refine lv_iload_n hx hb dX7_modalNow_10 rfl (lv_at hl 2 rfl) ?_
    refine lv_if_ne (tgt := 22) hx hb dX7_modalNow_11 (by decide) (fun c4 => ?_) (fun c4 => ?_)
    · have h := it_n h c4
      refine lv_aload_n hx hb dX7_modalNow_22 rfl (lv_at hl 1 rfl) ?_
      refine lv_lload_n hx hb dX7_modalNow_23 rfl (lv_at hl 0 rfl) ?_
      obtain ⟨t5, ht5, h⟩ := bd_s h
      refine cl_Vl X eokM (c_X7_allBefore ht5) tw_34_7 mw_X7_allBefore (by decide) hp 0 rfl rfl rfl hl.1 rfl (Nat.le_of_ble_eq_true rfl) dX7_modalNow_24 (fun H locs hp => ?_)
      exact hR _ _ _ _ _ _ dX7_modalNow_27 hp (congrArg Prod.fst (Option.some.inj h)) (congrArg Prod.snd (Option.some.inj h))
    · have h := it_p h c4
      refine lv_aload_n hx hb dX7_modalNow_14 rfl (lv_at hl 1 rfl) ?_
      refine lv_lload_n hx hb dX7_modalNow_15 rfl (lv_at hl 0 rfl) ?_
      obtain ⟨t6, ht6, h⟩ := bd_s h
      refine cl_Vl X eokM (c_X7_before ht6) tw_27_2 mw_X7_before (by decide) hp 0 rfl rfl rfl hl.1 rfl (Nat.le_of_ble_eq_true rfl) dX7_modalNow_16 (fun H locs hp => ?_)
      refine lv_goto (tgt := 27) hx hb dX7_modalNow_19 (by decide) ?_
      exact hR _ _ _ _ _ _ dX7_modalNow_27 hp (congrArg Prod.fst (Option.some.inj h)) (congrArg Prod.snd (Option.some.inj h))
