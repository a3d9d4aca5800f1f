/- X7_mix X7_mixStates X7_mixProof X7_digest -/
def X7_mix (v1 : Int64) (σ : St) : Option (St) :=
  nm (sj σ 2 (((31 : Int64) * (σ.2.1 2)) + v1)) (fun (σ1 : St) =>
  some σ1)
set_option maxRecDepth 20000 in
set_option maxHeartbeats 4000000 in
theorem c_X7_mix {l : Launch} {D : va_G} {a : Nat → Nat} {cA : Nat → ClassId} {σ : St} {v1 : Int64} {σ' : St} (h : X7_mix v1 σ = some σ') : MetV l yX7_mix cX7_mix 3 none 0 D (tyW cA) (wM a cA) EM [.ref (a 0), .long v1] σ σ' := by
  refine mkV (by decide) (adrM a cA) rfl (Nat.le_of_ble_eq_true rfl) ?_
  intro p e R s m args below meth c A Q ls X hR hp hl
  obtain ⟨hx, hb, -, hown, hts, -⟩ := id X
  unfold X7_mix at h
  have hl := lv_sub (l' := [(0, .ref (a 0)), (1, .long v1)]) hl [0, 1] rfl
  refine lv_aload_n hx hb dX7_mix_0 rfl (lv_at hl 0 rfl) ?_
  refine lv_ldc2 hx hb hown (hts _ tw_56_3) dX7_mix_1 ?_
  refine lv_aload_n hx hb dX7_mix_4 rfl (lv_at hl 0 rfl) ?_
  refine gM_X7_h X hp tw_55_22 dX7_mix_5 ?_
  refine lv_lmul hx hb dX7_mix_8 ?_
  refine lv_lload_n hx hb dX7_mix_9 rfl (lv_at hl 1 rfl) ?_
  refine lv_ladd hx hb dX7_mix_10 ?_
  refine pM_X7_h X hp tw_55_22 dX7_mix_11 (fun H locs σ1 eσ1 hp => ?_)
  have h := nm_s h σ1 eσ1
  exact hR _ _ _ _ _ dX7_mix_14 hp (Option.some.inj h)
def X7_mixStates_12b (N : Nat) (k12 : (Int32 → St → Option (St))) (k34 : (Int32 → St → Option (St))) (v1 : Int32) (v2 : Int32) (σ : St) : Option (St) :=
  if (5 : Int32) ≤ v2 then
    k34 v1 σ
  else
    bd (X7_stateNow N v1 v2 σ) (fun t2 =>
    bd (X7_mix (t2.1.toInt64) t2.2) (fun t3 =>
    nm (v2 + (1 : Int32)) (fun (x4 : Int32) =>
    k12 x4 t3)))
def X7_mixStates_12 (N : Nat) (k34 : (Int32 → St → Option (St))) (v1 : Int32) : Nat → Int32 → St → Option (St)
  | 0, _, _ => none
  | n + 1, v2, σ => X7_mixStates_12b N (fun v2 σ => X7_mixStates_12 N k34 v1 n v2 σ) k34 v1 v2 σ
def X7_mixStates_36b (N : Nat) (k36 : (Int32 → St → Option (St))) (k61 : (Int32 → St → Option (St))) (v1 : Int32) (v2 : Int32) (σ : St) : Option (St) :=
  bd (X7_values σ) (fun t1 =>
  if t1 ≤ v2 then
    k61 v1 σ
  else
    bd (X7_successorOf N σ v1 v2) (fun t3 =>
    bd (X7_mix (t3.toInt64) σ) (fun t4 =>
    nm (v2 + (1 : Int32)) (fun (x5 : Int32) =>
    k36 x5 t4))))
def X7_mixStates_36 (N : Nat) (k61 : (Int32 → St → Option (St))) (v1 : Int32) : Nat → Int32 → St → Option (St)
  | 0, _, _ => none
  | n + 1, v2, σ => X7_mixStates_36b N (fun v2 σ => X7_mixStates_36 N k61 v1 n v2 σ) k61 v1 v2 σ
def X7_mixStates_61 (k2 : (Int32 → St → Option (St))) (v1 : Int32) (σ : St) : Option (St) :=
  nm (v1 + (1 : Int32)) (fun (x1 : Int32) =>
  k2 x1 σ)
def X7_mixStates_34 (N : Nat) (k2 : (Int32 → St → Option (St))) (v1 : Int32) (σ : St) : Option (St) :=
  X7_mixStates_36 N (fun v1 σ => X7_mixStates_61 k2 v1 σ) v1 N (0 : Int32) σ
def X7_mixStates_2b (N : Nat) (k2 : (Int32 → St → Option (St))) (k67 : (St → Option (St))) (v1 : Int32) (σ : St) : Option (St) :=
  bd (X7_states σ) (fun t1 =>
  if t1 ≤ v1 then
    k67 σ
  else
    X7_mixStates_12 N (fun v1 σ => X7_mixStates_34 N k2 v1 σ) v1 N (0 : Int32) σ)
def X7_mixStates_2 (N : Nat) (k67 : (St → Option (St))) : Nat → Int32 → St → Option (St)
  | 0, _, _ => none
  | n + 1, v1, σ => X7_mixStates_2b N (fun v1 σ => X7_mixStates_2 N k67 n v1 σ) k67 v1 σ
def X7_mixStates_67 (σ : St) : Option (St) :=
  some σ
def X7_mixStates (N : Nat) (σ : St) : Option (St) :=
  X7_mixStates_2 N (fun σ => X7_mixStates_67 σ) N (0 : Int32) σ
set_option maxRecDepth 20000 in
set_option maxHeartbeats 4000000 in
theorem c_X7_mixStates {l : Launch} {D : va_G} {a : Nat → Nat} {cA : Nat → ClassId} {σ : St} {N : Nat} {σ' : St} (h : X7_mixStates N σ = some σ') : MetV l yX7_mixStates cX7_mixStates 3 none 6 D (tyW cA) (wM a cA) EM [.ref (a 0)] σ σ' := by
  refine mkV (by decide) (adrM a cA) rfl (Nat.le_of_ble_eq_true rfl) ?_
  intro p e R s m args below meth c A Q ls X hR hp hl
  obtain ⟨hx, hb, -, hown, hts, -⟩ := id X
  have J_12 : ∀ (v1 : Int32) (k34 : (Int32 → St → Option (St))) (hk34 : ∀ (v1 : Int32) (σ : St) (H : Heap) (locs : List Loc) (ls : Array Slot), Pw D (wM a cA) A s.heap H locs σ → lv_has ls 3 [(0, .ref (a 0)), (1, .int v1)] → k34 v1 σ = some σ' → W p l e R s m args below meth c H locs 0 0 Q (F0 m 34 ls [])) (n : Nat) (v2 : Int32) (σ : St) (H : Heap) (locs : List Loc) (ls : Array Slot), Pw D (wM a cA) A s.heap H locs σ → lv_has ls 3 [(0, .ref (a 0)), (1, .int v1), (2, .int v2)] → X7_mixStates_12 N k34 v1 n v2 σ = some σ' → W p l e R s m args below meth c H locs 0 0 Q (F0 m 12 ls []) := by
    intro v1 k34 hk34 n
    induction n with
    | zero => intro v2 σ H locs ls hp hl h; exact nn_s (show (none : Option (St)) = some _ from h)
    | succ n ih =>
      intro v2 σ H locs ls hp hl h
      have h : X7_mixStates_12b N (fun v2 σ => X7_mixStates_12 N k34 v1 n v2 σ) k34 v1 v2 σ = some σ' := h
      unfold X7_mixStates_12b at h
      have hk12 := ih
      refine lv_iload_n hx hb dX7_mixStates_12 rfl (lv_at hl 2 rfl) ?_
      refine lv_iconst (v := 5) hx hb dX7_mixStates_13 (by decide) ?_
      refine lv_icmp_ge (tgt := 34) hx hb dX7_mixStates_14 (by decide) (fun c1 => ?_) (fun c1 => ?_)
      · have h := it_p h c1
        exact hk34 v1 σ _ _ _ hp (lv_sub hl [0, 1] rfl) h
      · have h := it_n h c1
        refine lv_aload_n hx hb dX7_mixStates_17 rfl (lv_at hl 0 rfl) ?_
        refine lv_aload_n hx hb dX7_mixStates_18 rfl (lv_at hl 0 rfl) ?_
        refine lv_iload_n hx hb dX7_mixStates_19 rfl (lv_at hl 1 rfl) ?_
        refine lv_iload_n hx hb dX7_mixStates_20 rfl (lv_at hl 2 rfl) ?_
        obtain ⟨t2, ht2, h⟩ := bd_s h
        refine cl_Vi X eokM (c_X7_stateNow ht2) tw_26_10 mw_X7_stateNow (by decide) hp 0 rfl rfl rfl hl.1 rfl (Nat.le_of_ble_eq_true rfl) dX7_mixStates_21 (fun H locs hp => ?_)
        refine lv_i2l hx hb dX7_mixStates_24 rfl ?_
        obtain ⟨t3, ht3, h⟩ := bd_s h
        refine cl_Vv X eokM (c_X7_mix ht3) tw_55_23 mw_X7_mix (by decide) hp 0 rfl rfl rfl hl.1 rfl (Nat.le_of_ble_eq_true rfl) dX7_mixStates_25 (fun H locs hp => ?_)
        obtain ⟨x4, ex4⟩ : ∃ z : Int32, z = v2 + (1 : Int32) := ⟨_, rfl⟩
        have h := nm_s h x4 ex4
        refine lv_iinc (v := x4) (lv' := [(2, .int x4), (0, .ref (a 0)), (1, .int v1)]) hx hb dX7_mixStates_28 hl (k := 2) rfl (by rw [ex4]; rfl) (by decide) rfl (fun ls hl => ?_)
        refine lv_goto (tgt := 12) hx hb dX7_mixStates_31 (by decide) ?_
        exact hk12 x4 t3 _ _ _ hp (lv_sub hl [1, 2, 0] rfl) h
  have J_36 : ∀ (v1 : Int32) (k61 : (Int32 → St → Option (St))) (hk61 : ∀ (v1 : Int32) (σ : St) (H : Heap) (locs : List Loc) (ls : Array Slot), Pw D (wM a cA) A s.heap H locs σ → lv_has ls 3 [(0, .ref (a 0)), (1, .int v1)] → k61 v1 σ = some σ' → W p l e R s m args below meth c H locs 0 0 Q (F0 m 61 ls [])) (n : Nat) (v2 : Int32) (σ : St) (H : Heap) (locs : List Loc) (ls : Array Slot), Pw D (wM a cA) A s.heap H locs σ → lv_has ls 3 [(0, .ref (a 0)), (1, .int v1), (2, .int v2)] → X7_mixStates_36 N k61 v1 n v2 σ = some σ' → W p l e R s m args below meth c H locs 0 0 Q (F0 m 36 ls []) := by
    intro v1 k61 hk61 n
    induction n with
    | zero => intro v2 σ H locs ls hp hl h; exact nn_s (show (none : Option (St)) = some _ from h)
    | succ n ih =>
      intro v2 σ H locs ls hp hl h
      have h : X7_mixStates_36b N (fun v2 σ => X7_mixStates_36 N k61 v1 n v2 σ) k61 v1 v2 σ = some σ' := h
      unfold X7_mixStates_36b at h
      have hk36 := ih
      refine lv_iload_n hx hb dX7_mixStates_36 rfl (lv_at hl 2 rfl) ?_
      refine lv_aload_n hx hb dX7_mixStates_37 rfl (lv_at hl 0 rfl) ?_
      obtain ⟨t1, ht1, h⟩ := bd_s h
      refine cl_Vi X eokM (c_X7_values ht1) tw_17_20 mw_X7_values (by decide) hp 0 rfl rfl rfl hl.1 rfl (Nat.le_of_ble_eq_true rfl) dX7_mixStates_38 (fun H locs hp => ?_)
      refine lv_icmp_ge (tgt := 61) hx hb dX7_mixStates_41 (by decide) (fun c2 => ?_) (fun c2 => ?_)
      · have h := it_p h c2
        exact hk61 v1 σ _ _ _ hp (lv_sub hl [0, 1] rfl) h
      · have h := it_n h c2
        refine lv_aload_n hx hb dX7_mixStates_44 rfl (lv_at hl 0 rfl) ?_
        refine lv_aload_n hx hb dX7_mixStates_45 rfl (lv_at hl 0 rfl) ?_
        refine lv_iload_n hx hb dX7_mixStates_46 rfl (lv_at hl 1 rfl) ?_
        refine lv_iload_n hx hb dX7_mixStates_47 rfl (lv_at hl 2 rfl) ?_
        obtain ⟨t3, ht3, h⟩ := bd_s h
        refine cl_Vi X eokM (c_X7_successorOf ht3) tw_21_23 mw_X7_successorOf (by decide) hp 0 rfl rfl rfl hl.1 rfl (Nat.le_of_ble_eq_true rfl) dX7_mixStates_48 (fun H locs hp => ?_)
        refine lv_i2l hx hb dX7_mixStates_51 rfl ?_
        obtain ⟨t4, ht4, h⟩ := bd_s h
        refine cl_Vv X eokM (c_X7_mix ht4) tw_55_23 mw_X7_mix (by decide) hp 0 rfl rfl rfl hl.1 rfl (Nat.le_of_ble_eq_true rfl) dX7_mixStates_52 (fun H locs hp => ?_)
        obtain ⟨x5, ex5⟩ : ∃ z : Int32, z = v2 + (1 : Int32) := ⟨_, rfl⟩
        have h := nm_s h x5 ex5
        refine lv_iinc (v := x5) (lv' := [(2, .int x5), (0, .ref (a 0)), (1, .int v1)]) hx hb dX7_mixStates_55 hl (k := 2) rfl (by rw [ex5]; rfl) (by decide) rfl (fun ls hl => ?_)
        refine lv_goto (tgt := 36) hx hb dX7_mixStates_58 (by decide) ?_
        exact hk36 x5 t4 _ _ _ hp (lv_sub hl [1, 2, 0] rfl) h
  have J_61 : ∀ (v1 : Int32) (k2 : (Int32 → St → Option (St))) (hk2 : ∀ (v1 : Int32) (σ : St) (H : Heap) (locs : List Loc) (ls : Array Slot), Pw D (wM a cA) A s.heap H locs σ → lv_has ls 3 [(0, .ref (a 0)), (1, .int v1)] → k2 v1 σ = some σ' → W p l e R s m args below meth c H locs 0 0 Q (F0 m 2 ls [])) (σ : St) (H : Heap) (locs : List Loc) (ls : Array Slot), Pw D (wM a cA) A s.heap H locs σ → lv_has ls 3 [(0, .ref (a 0)), (1, .int v1)] → X7_mixStates_61 k2 v1 σ = some σ' → W p l e R s m args below meth c H locs 0 0 Q (F0 m 61 ls []) := by
    intro v1 k2 hk2 σ H locs ls hp hl h
    unfold X7_mixStates_61 at h
    obtain ⟨x1, ex1⟩ : ∃ z : Int32, z = v1 + (1 : Int32) := ⟨_, rfl⟩
    have h := nm_s h x1 ex1
    refine lv_iinc (v := x1) (lv' := [(1, .int x1), (0, .ref (a 0))]) hx hb dX7_mixStates_61 hl (k := 1) rfl (by rw [ex1]; rfl) (by decide) rfl (fun ls hl => ?_)
    refine lv_goto (tgt := 2) hx hb dX7_mixStates_64 (by decide) ?_
    exact hk2 x1 σ _ _ _ hp (lv_sub hl [1, 0] rfl) h
  have J_34 : ∀ (v1 : Int32) (k2 : (Int32 → St → Option (St))) (hk2 : ∀ (v1 : Int32) (σ : St) (H : Heap) (locs : List Loc) (ls : Array Slot), Pw D (wM a cA) A s.heap H locs σ → lv_has ls 3 [(0, .ref (a 0)), (1, .int v1)] → k2 v1 σ = some σ' → W p l e R s m args below meth c H locs 0 0 Q (F0 m 2 ls [])) (σ : St) (H : Heap) (locs : List Loc) (ls : Array Slot), Pw D (wM a cA) A s.heap H locs σ → lv_has ls 3 [(0, .ref (a 0)), (1, .int v1)] → X7_mixStates_34 N k2 v1 σ = some σ' → W p l e R s m args below meth c H locs 0 0 Q (F0 m 34 ls []) := by
    intro v1 k2 hk2 σ H locs ls hp hl h
    unfold X7_mixStates_34 at h
    refine lv_iconst (v := 0) hx hb dX7_mixStates_34 (by decide) ?_
    refine lv_istore_n (lv' := [(2, .int (0 : Int32)), (0, .ref (a 0)), (1, .int v1)]) hx hb dX7_mixStates_35 rfl hl (by decide) rfl (fun ls hl => ?_)
    exact J_36 v1 _ (fun v1 σ H locs ls hp hl h => J_61 v1 _ hk2 σ _ _ _ hp hl h) _ (0 : Int32) σ _ _ _ hp (lv_sub hl [1, 2, 0] rfl) h
  have J_2 : ∀  (k67 : (St → Option (St))) (hk67 : ∀ (σ : St) (H : Heap) (locs : List Loc) (ls : Array Slot), Pw D (wM a cA) A s.heap H locs σ → lv_has ls 3 [(0, .ref (a 0))] → k67 σ = some σ' → W p l e R s m args below meth c H locs 0 0 Q (F0 m 67 ls [])) (n : Nat) (v1 : Int32) (σ : St) (H : Heap) (locs : List Loc) (ls : Array Slot), Pw D (wM a cA) A s.heap H locs σ → lv_has ls 3 [(0, .ref (a 0)), (1, .int v1)] → X7_mixStates_2 N k67 n v1 σ = some σ' → W p l e R s m args below meth c H locs 0 0 Q (F0 m 2 ls []) := by
    intro k67 hk67 n
    induction n with
    | zero => intro v1 σ H locs ls hp hl h; exact nn_s (show (none : Option (St)) = some _ from h)
    | succ n ih =>
      intro v1 σ H locs ls hp hl h
      have h : X7_mixStates_2b N (fun v1 σ => X7_mixStates_2 N k67 n v1 σ) k67 v1 σ = some σ' := h
      unfold X7_mixStates_2b at h
      have hk2 := ih
      refine lv_iload_n hx hb dX7_mixStates_2 rfl (lv_at hl 1 rfl) ?_
      refine lv_aload_n hx hb dX7_mixStates_3 rfl (lv_at hl 0 rfl) ?_
      obtain ⟨t1, ht1, h⟩ := bd_s h
      refine cl_Vi X eokM (c_X7_states ht1) tw_7_1 mw_X7_states (by decide) hp 0 rfl rfl rfl hl.1 rfl (Nat.le_of_ble_eq_true rfl) dX7_mixStates_4 (fun H locs hp => ?_)
      refine lv_icmp_ge (tgt := 67) hx hb dX7_mixStates_7 (by decide) (fun c2 => ?_) (fun c2 => ?_)
      · have h := it_p h c2
        exact hk67 σ _ _ _ hp (lv_sub hl [0] rfl) h
      · have h := it_n h c2
        refine lv_iconst (v := 0) hx hb dX7_mixStates_10 (by decide) ?_
        refine lv_istore_n (lv' := [(2, .int (0 : Int32)), (0, .ref (a 0)), (1, .int v1)]) hx hb dX7_mixStates_11 rfl hl (by decide) rfl (fun ls hl => ?_)
        exact J_12 v1 _ (fun v1 σ H locs ls hp hl h => J_34 v1 _ hk2 σ _ _ _ hp hl h) _ (0 : Int32) σ _ _ _ hp (lv_sub hl [1, 2, 0] rfl) h
  have J_67 : ∀  (σ : St) (H : Heap) (locs : List Loc) (ls : Array Slot), Pw D (wM a cA) A s.heap H locs σ → lv_has ls 3 [(0, .ref (a 0))] → X7_mixStates_67 σ = some σ' → W p l e R s m args below meth c H locs 0 0 Q (F0 m 67 ls []) := by
    intro σ H locs ls hp hl h
    unfold X7_mixStates_67 at h
    exact hR _ _ _ _ _ dX7_mixStates_67 hp (Option.some.inj h)
  unfold X7_mixStates at h
  have hl := lv_sub (l' := [(0, .ref (a 0))]) hl [0] rfl
  refine lv_iconst (v := 0) hx hb dX7_mixStates_0 (by decide) ?_
  refine lv_istore_n (lv' := [(1, .int (0 : Int32)), (0, .ref (a 0))]) hx hb dX7_mixStates_1 rfl hl (by decide) rfl (fun ls hl => ?_)
  exact J_2 _ (fun σ H locs ls hp hl h => J_67 σ _ _ _ hp hl h) _ (0 : Int32) σ _ _ _ hp (lv_sub hl [1, 0] rfl) h
def X7_mixProof_28 (k2 : (Int32 → St → Option (St))) (v1 : Int32) (u0 : Int64) (σ : St) : Option (St) :=
  bd (X7_mix u0 σ) (fun t1 =>
  nm (v1 + (1 : Int32)) (fun (x2 : Int32) =>
  k2 x2 t1))
def X7_mixProof_2b (N : Nat) (k2 : (Int32 → St → Option (St))) (k37 : (St → Option (St))) (v1 : Int32) (σ : St) : Option (St) :=
  if (8 : Int32) ≤ v1 then
    k37 σ
  else
    if (σ.1 9) = 0 then
      X7_mixProof_28 k2 v1 (-1 : Int64) σ
    else
      bd (X7_proofNow N σ v1) (fun t3 =>
      X7_mixProof_28 k2 v1 (t3.toInt64) σ)
def X7_mixProof_2 (N : Nat) (k37 : (St → Option (St))) : Nat → Int32 → St → Option (St)
  | 0, _, _ => none
  | n + 1, v1, σ => X7_mixProof_2b N (fun v1 σ => X7_mixProof_2 N k37 n v1 σ) k37 v1 σ
def X7_mixProof_39b (N : Nat) (k39 : (Int32 → St → Option (St))) (k69 : (St → Option (St))) (v1 : Int32) (σ : St) : Option (St) :=
  if (σ.1 11) < v1 then
    k69 σ
  else
    if (σ.1 9) = 0 then
      k69 σ
    else
      bd (X7_frameOf N σ v1) (fun t3 =>
      bd (X7_mix t3 σ) (fun t4 =>
      nm (v1 + (1 : Int32)) (fun (x5 : Int32) =>
      k39 x5 t4)))
def X7_mixProof_39 (N : Nat) (k69 : (St → Option (St))) : Nat → Int32 → St → Option (St)
  | 0, _, _ => none
  | n + 1, v1, σ => X7_mixProof_39b N (fun v1 σ => X7_mixProof_39 N k69 n v1 σ) k69 v1 σ
def X7_mixProof_71b (k71 : (Int32 → St → Option (St))) (k125 : (St → Option (St))) (v1 : Int32) (σ : St) : Option (St) :=
  if (σ.1 12) ≤ v1 then
    k125 σ
  else
    if (σ.1 9) = 0 then
      k125 σ
    else
      gd (inb v1 1024) (
      bd (X7_mix ((σ.2.2.1 6 v1.toNatClampNeg).toInt64) σ) (fun t4 =>
      gd (inb v1 1024) (
      bd (X7_mix ((t4.2.2.1 7 v1.toNatClampNeg).toInt64) t4) (fun t6 =>
      gd (inb v1 1024) (
      bd (X7_mix ((t6.2.2.1 8 v1.toNatClampNeg).toInt64) t6) (fun t8 =>
      nm (v1 + (1 : Int32)) (fun (x9 : Int32) =>
      k71 x9 t8)))))))
def X7_mixProof_71 (k125 : (St → Option (St))) : Nat → Int32 → St → Option (St)
  | 0, _, _ => none
  | n + 1, v1, σ => X7_mixProof_71b (fun v1 σ => X7_mixProof_71 k125 n v1 σ) k125 v1 σ
def X7_mixProof_125 (σ : St) : Option (St) :=
  some σ
def X7_mixProof_69 (N : Nat) (σ : St) : Option (St) :=
  X7_mixProof_71 (fun σ => X7_mixProof_125 σ) N (0 : Int32) σ
def X7_mixProof_37 (N : Nat) (σ : St) : Option (St) :=
  X7_mixProof_39 N (fun σ => X7_mixProof_69 N σ) N (0 : Int32) σ
def X7_mixProof (N : Nat) (σ : St) : Option (St) :=
  X7_mixProof_2 N (fun σ => X7_mixProof_37 N σ) N (0 : Int32) σ
set_option maxRecDepth 20000 in
set_option maxHeartbeats 4000000 in
theorem c_X7_mixProof {l : Launch} {D : va_G} {a : Nat → Nat} {cA : Nat → ClassId} {σ : St} {N : Nat} {σ' : St} (h : X7_mixProof N σ = some σ') : MetV l yX7_mixProof cX7_mixProof 2 none 4 D (tyW cA) (wM a cA) EM [.ref (a 0)] σ σ' := by
  refine mkV (by decide) (adrM a cA) rfl (Nat.le_of_ble_eq_true rfl) ?_
  intro p e R s m args below meth c A Q ls X hR hp hl
  obtain ⟨hx, hb, -, hown, hts, -⟩ := id X
  have J_28 : ∀ (v1 : Int32) (u0 : Int64) (k2 : (Int32 → St → Option (St))) (hk2 : ∀ (v1 : Int32) (σ : St) (H : Heap) (locs : List Loc) (ls : Array Slot), Pw D (wM a cA) A s.heap H locs σ → lv_has ls 2 [(0, .ref (a 0)), (1, .int v1)] → k2 v1 σ = some σ' → W p l e R s m args below meth c H locs 0 0 Q (F0 m 2 ls [])) (σ : St) (H : Heap) (locs : List Loc) (ls : Array Slot), Pw D (wM a cA) A s.heap H locs σ → lv_has ls 2 [(0, .ref (a 0)), (1, .int v1)] → X7_mixProof_28 k2 v1 u0 σ = some σ' → W p l e R s m args below meth c H locs 0 0 Q (F0 m 28 ls [.long u0, .ref (a 0)]) := by
    intro v1 u0 k2 hk2 σ H locs ls hp hl h
    unfold X7_mixProof_28 at h
    obtain ⟨t1, ht1, h⟩ := bd_s h
    refine cl_Vv X eokM (c_X7_mix ht1) tw_55_23 mw_X7_mix (by decide) hp 0 rfl rfl rfl hl.1 rfl (Nat.le_of_ble_eq_true rfl) dX7_mixProof_28 (fun H locs hp => ?_)
    obtain ⟨x2, ex2⟩ : ∃ z : Int32, z = v1 + (1 : Int32) := ⟨_, rfl⟩
    have h := nm_s h x2 ex2
    refine lv_iinc (v := x2) (lv' := [(1, .int x2), (0, .ref (a 0))]) hx hb dX7_mixProof_31 hl (k := 1) rfl (by rw [ex2]; rfl) (by decide) rfl (fun ls hl => ?_)
    refine lv_goto (tgt := 2) hx hb dX7_mixProof_34 (by decide) ?_
    exact hk2 x2 t1 _ _ _ hp (lv_sub hl [1, 0] rfl) h
  have J_2 : ∀  (k37 : (St → Option (St))) (hk37 : ∀ (σ : St) (H : Heap) (locs : List Loc) (ls : Array Slot), Pw D (wM a cA) A s.heap H locs σ → lv_has ls 2 [(0, .ref (a 0))] → k37 σ = some σ' → W p l e R s m args below meth c H locs 0 0 Q (F0 m 37 ls [])) (n : Nat) (v1 : Int32) (σ : St) (H : Heap) (locs : List Loc) (ls : Array Slot), Pw D (wM a cA) A s.heap H locs σ → lv_has ls 2 [(0, .ref (a 0)), (1, .int v1)] → X7_mixProof_2 N k37 n v1 σ = some σ' → W p l e R s m args below meth c H locs 0 0 Q (F0 m 2 ls []) := by
    intro k37 hk37 n
    induction n with
    | zero => intro v1 σ H locs ls hp hl h; exact nn_s (show (none : Option (St)) = some _ from h)
    | succ n ih =>
      intro v1 σ H locs ls hp hl h
      have h : X7_mixProof_2b N (fun v1 σ => X7_mixProof_2 N k37 n v1 σ) k37 v1 σ = some σ' := h
      unfold X7_mixProof_2b at h
      have hk2 := ih
      refine lv_iload_n hx hb dX7_mixProof_2 rfl (lv_at hl 1 rfl) ?_
      refine lv_bipush (v := 8) hx hb dX7_mixProof_3 (by decide) ?_
      refine lv_icmp_ge (tgt := 37) hx hb dX7_mixProof_5 (by decide) (fun c1 => ?_) (fun c1 => ?_)
      · have h := it_p h c1
        exact hk37 σ _ _ _ hp (lv_sub hl [0] rfl) h
      · have h := it_n h c1
        refine lv_aload_n hx hb dX7_mixProof_8 rfl (lv_at hl 0 rfl) ?_
        refine lv_aload_n hx hb dX7_mixProof_9 rfl (lv_at hl 0 rfl) ?_
        refine gM_X7_isProof X hp tw_6_20 dX7_mixProof_10 ?_
        refine lv_if_eq (tgt := 25) hx hb dX7_mixProof_13 (by decide) (fun c2 => ?_) (fun c2 => ?_)
        · have h := it_p h c2
          refine lv_ldc2 hx hb hown (hts _ tw_7_9) dX7_mixProof_25 ?_
          exact J_28 v1 (-1 : Int64) _ hk2 σ _ _ _ hp (lv_sub hl [0, 1] rfl) h
        · have h := it_n h c2
          refine lv_aload_n hx hb dX7_mixProof_16 rfl (lv_at hl 0 rfl) ?_
          refine lv_iload_n hx hb dX7_mixProof_17 rfl (lv_at hl 1 rfl) ?_
          obtain ⟨t3, ht3, h⟩ := bd_s h
          refine cl_Vi X eokM (c_X7_proofNow ht3) tw_42_22 mw_X7_proofNow (by decide) hp 0 rfl rfl rfl hl.1 rfl (Nat.le_of_ble_eq_true rfl) dX7_mixProof_18 (fun H locs hp => ?_)
          refine lv_i2l hx hb dX7_mixProof_21 rfl ?_
          refine lv_goto (tgt := 28) hx hb dX7_mixProof_22 (by decide) ?_
          exact J_28 v1 (t3.toInt64) _ hk2 σ _ _ _ hp (lv_sub hl [0, 1] rfl) h
  have J_39 : ∀  (k69 : (St → Option (St))) (hk69 : ∀ (σ : St) (H : Heap) (locs : List Loc) (ls : Array Slot), Pw D (wM a cA) A s.heap H locs σ → lv_has ls 2 [(0, .ref (a 0))] → k69 σ = some σ' → W p l e R s m args below meth c H locs 0 0 Q (F0 m 69 ls [])) (n : Nat) (v1 : Int32) (σ : St) (H : Heap) (locs : List Loc) (ls : Array Slot), Pw D (wM a cA) A s.heap H locs σ → lv_has ls 2 [(0, .ref (a 0)), (1, .int v1)] → X7_mixProof_39 N k69 n v1 σ = some σ' → W p l e R s m args below meth c H locs 0 0 Q (F0 m 39 ls []) := by
    intro k69 hk69 n
    induction n with
    | zero => intro v1 σ H locs ls hp hl h; exact nn_s (show (none : Option (St)) = some _ from h)
    | succ n ih =>
      intro v1 σ H locs ls hp hl h
      have h : X7_mixProof_39b N (fun v1 σ => X7_mixProof_39 N k69 n v1 σ) k69 v1 σ = some σ' := h
      unfold X7_mixProof_39b at h
      have hk39 := ih
      refine lv_iload_n hx hb dX7_mixProof_39 rfl (lv_at hl 1 rfl) ?_
      refine lv_aload_n hx hb dX7_mixProof_40 rfl (lv_at hl 0 rfl) ?_
      refine gM_X7_k X hp tw_39_12 dX7_mixProof_41 ?_
      refine lv_icmp_gt (tgt := 69) hx hb dX7_mixProof_44 (by decide) (fun c1 => ?_) (fun c1 => ?_)
      · have h := it_p h c1
        exact hk69 σ _ _ _ hp (lv_sub hl [0] rfl) h
      · have h := it_n h c1
        refine lv_aload_n hx hb dX7_mixProof_47 rfl (lv_at hl 0 rfl) ?_
        refine gM_X7_isProof X hp tw_6_20 dX7_mixProof_48 ?_
        refine lv_if_eq (tgt := 69) hx hb dX7_mixProof_51 (by decide) (fun c2 => ?_) (fun c2 => ?_)
        · have h := it_p h c2
          exact hk69 σ _ _ _ hp (lv_sub hl [0] rfl) h
        · have h := it_n h c2
          refine lv_aload_n hx hb dX7_mixProof_54 rfl (lv_at hl 0 rfl) ?_
          refine lv_aload_n hx hb dX7_mixProof_55 rfl (lv_at hl 0 rfl) ?_
          refine lv_iload_n hx hb dX7_mixProof_56 rfl (lv_at hl 1 rfl) ?_
          obtain ⟨t3, ht3, h⟩ := bd_s h
          refine cl_Vl X eokM (c_X7_frameOf ht3) tw_40_3 mw_X7_frameOf (by decide) hp 0 rfl rfl rfl hl.1 rfl (Nat.le_of_ble_eq_true rfl) dX7_mixProof_57 (fun H locs hp => ?_)
          obtain ⟨t4, ht4, h⟩ := bd_s h
          refine cl_Vv X eokM (c_X7_mix ht4) tw_55_23 mw_X7_mix (by decide) hp 0 rfl rfl rfl hl.1 rfl (Nat.le_of_ble_eq_true rfl) dX7_mixProof_60 (fun H locs hp => ?_)
          obtain ⟨x5, ex5⟩ : ∃ z : Int32, z = v1 + (1 : Int32) := ⟨_, rfl⟩
          have h := nm_s h x5 ex5
          refine lv_iinc (v := x5) (lv' := [(1, .int x5), (0, .ref (a 0))]) hx hb dX7_mixProof_63 hl (k := 1) rfl (by rw [ex5]; rfl) (by decide) rfl (fun ls hl => ?_)
          refine lv_goto (tgt := 39) hx hb dX7_mixProof_66 (by decide) ?_
          exact hk39 x5 t4 _ _ _ hp (lv_sub hl [1, 0] rfl) h
  have J_71 : ∀  (k125 : (St → Option (St))) (hk125 : ∀ (σ : St) (H : Heap) (locs : List Loc) (ls : Array Slot), Pw D (wM a cA) A s.heap H locs σ → lv_has ls 2 [(0, .ref (a 0))] → k125 σ = some σ' → W p l e R s m args below meth c H locs 0 0 Q (F0 m 125 ls [])) (n : Nat) (v1 : Int32) (σ : St) (H : Heap) (locs : List Loc) (ls : Array Slot), Pw D (wM a cA) A s.heap H locs σ → lv_has ls 2 [(0, .ref (a 0)), (1, .int v1)] → X7_mixProof_71 k125 n v1 σ = some σ' → W p l e R s m args below meth c H locs 0 0 Q (F0 m 71 ls []) := by
    intro k125 hk125 n
    induction n with
    | zero => intro v1 σ H locs ls hp hl h; exact nn_s (show (none : Option (St)) = some _ from h)
    | succ n ih =>
      intro v1 σ H locs ls hp hl h
      have h : X7_mixProof_71b (fun v1 σ => X7_mixProof_71 k125 n v1 σ) k125 v1 σ = some σ' := h
      unfold X7_mixProof_71b at h
      have hk71 := ih
      refine lv_iload_n hx hb dX7_mixProof_71 rfl (lv_at hl 1 rfl) ?_
      refine lv_aload_n hx hb dX7_mixProof_72 rfl (lv_at hl 0 rfl) ?_
      refine gM_X7_cubes X hp tw_39_13 dX7_mixProof_73 ?_
      refine lv_icmp_ge (tgt := 125) hx hb dX7_mixProof_76 (by decide) (fun c1 => ?_) (fun c1 => ?_)
      · have h := it_p h c1
        exact hk125 σ _ _ _ hp (lv_sub hl [0] rfl) h
      · have h := it_n h c1
        refine lv_aload_n hx hb dX7_mixProof_79 rfl (lv_at hl 0 rfl) ?_
        refine gM_X7_isProof X hp tw_6_20 dX7_mixProof_80 ?_
        refine lv_if_eq (tgt := 125) hx hb dX7_mixProof_83 (by decide) (fun c2 => ?_) (fun c2 => ?_)
        · have h := it_p h c2
          exact hk125 σ _ _ _ hp (lv_sub hl [0] rfl) h
        · have h := it_n h c2
          refine lv_aload_n hx hb dX7_mixProof_86 rfl (lv_at hl 0 rfl) ?_
          refine lv_aload_n hx hb dX7_mixProof_87 rfl (lv_at hl 0 rfl) ?_
          refine gM_X7_maskOf X hp tw_6_2 dX7_mixProof_88 ?_
          refine lv_iload_n hx hb dX7_mixProof_91 rfl (lv_at hl 1 rfl) ?_
          obtain ⟨g3, h⟩ := gd_s h
          refine lM_X7_maskOf X hp g3 dX7_mixProof_92 ?_
          refine lv_i2l hx hb dX7_mixProof_93 rfl ?_
          obtain ⟨t4, ht4, h⟩ := bd_s h
          refine cl_Vv X eokM (c_X7_mix ht4) tw_55_23 mw_X7_mix (by decide) hp 0 rfl rfl rfl hl.1 rfl (Nat.le_of_ble_eq_true rfl) dX7_mixProof_94 (fun H locs hp => ?_)
          refine lv_aload_n hx hb dX7_mixProof_97 rfl (lv_at hl 0 rfl) ?_
          refine lv_aload_n hx hb dX7_mixProof_98 rfl (lv_at hl 0 rfl) ?_
          refine gM_X7_valueOf X hp tw_6_3 dX7_mixProof_99 ?_
          refine lv_iload_n hx hb dX7_mixProof_102 rfl (lv_at hl 1 rfl) ?_
          obtain ⟨g5, h⟩ := gd_s h
          refine lM_X7_valueOf X hp g5 dX7_mixProof_103 ?_
          refine lv_i2l hx hb dX7_mixProof_104 rfl ?_
          obtain ⟨t6, ht6, h⟩ := bd_s h
          refine cl_Vv X eokM (c_X7_mix ht6) tw_55_23 mw_X7_mix (by decide) hp 0 rfl rfl rfl hl.1 rfl (Nat.le_of_ble_eq_true rfl) dX7_mixProof_105 (fun H locs hp => ?_)
          refine lv_aload_n hx hb dX7_mixProof_108 rfl (lv_at hl 0 rfl) ?_
          refine lv_aload_n hx hb dX7_mixProof_109 rfl (lv_at hl 0 rfl) ?_
          refine gM_X7_levelOf X hp tw_6_4 dX7_mixProof_110 ?_
          refine lv_iload_n hx hb dX7_mixProof_113 rfl (lv_at hl 1 rfl) ?_
          obtain ⟨g7, h⟩ := gd_s h
          refine lM_X7_levelOf X hp g7 dX7_mixProof_114 ?_
          refine lv_i2l hx hb dX7_mixProof_115 rfl ?_
          obtain ⟨t8, ht8, h⟩ := bd_s h
          refine cl_Vv X eokM (c_X7_mix ht8) tw_55_23 mw_X7_mix (by decide) hp 0 rfl rfl rfl hl.1 rfl (Nat.le_of_ble_eq_true rfl) dX7_mixProof_116 (fun H locs hp => ?_)
          obtain ⟨x9, ex9⟩ : ∃ z : Int32, z = v1 + (1 : Int32) := ⟨_, rfl⟩
          have h := nm_s h x9 ex9
          refine lv_iinc (v := x9) (lv' := [(1, .int x9), (0, .ref (a 0))]) hx hb dX7_mixProof_119 hl (k := 1) rfl (by rw [ex9]; rfl) (by decide) rfl (fun ls hl => ?_)
          refine lv_goto (tgt := 71) hx hb dX7_mixProof_122 (by decide) ?_
          exact hk71 x9 t8 _ _ _ hp (lv_sub hl [1, 0] rfl) h
  have J_125 : ∀  (σ : St) (H : Heap) (locs : List Loc) (ls : Array Slot), Pw D (wM a cA) A s.heap H locs σ → lv_has ls 2 [(0, .ref (a 0))] → X7_mixProof_125 σ = some σ' → W p l e R s m args below meth c H locs 0 0 Q (F0 m 125 ls []) := by
    intro σ H locs ls hp hl h
    unfold X7_mixProof_125 at h
    exact hR _ _ _ _ _ dX7_mixProof_125 hp (Option.some.inj h)
  have J_69 : ∀  (σ : St) (H : Heap) (locs : List Loc) (ls : Array Slot), Pw D (wM a cA) A s.heap H locs σ → lv_has ls 2 [(0, .ref (a 0))] → X7_mixProof_69 N σ = some σ' → W p l e R s m args below meth c H locs 0 0 Q (F0 m 69 ls []) := by
    intro σ H locs ls hp hl h
    unfold X7_mixProof_69 at h
    refine lv_iconst (v := 0) hx hb dX7_mixProof_69 (by decide) ?_
    refine lv_istore_n (lv' := [(1, .int (0 : Int32)), (0, .ref (a 0))]) hx hb dX7_mixProof_70 rfl hl (by decide) rfl (fun ls hl => ?_)
    exact J_71 _ (fun σ H locs ls hp hl h => J_125 σ _ _ _ hp hl h) _ (0 : Int32) σ _ _ _ hp (lv_sub hl [1, 0] rfl) h
  have J_37 : ∀  (σ : St) (H : Heap) (locs : List Loc) (ls : Array Slot), Pw D (wM a cA) A s.heap H locs σ → lv_has ls 2 [(0, .ref (a 0))] → X7_mixProof_37 N σ = some σ' → W p l e R s m args below meth c H locs 0 0 Q (F0 m 37 ls []) := by
    intro σ H locs ls hp hl h
    unfold X7_mixProof_37 at h
    refine lv_iconst (v := 0) hx hb dX7_mixProof_37 (by decide) ?_
    refine lv_istore_n (lv' := [(1, .int (0 : Int32)), (0, .ref (a 0))]) hx hb dX7_mixProof_38 rfl hl (by decide) rfl (fun ls hl => ?_)
    exact J_39 _ (fun σ H locs ls hp hl h => J_69 σ _ _ _ hp hl h) _ (0 : Int32) σ _ _ _ hp (lv_sub hl [1, 0] rfl) h
  unfold X7_mixProof at h
  have hl := lv_sub (l' := [(0, .ref (a 0))]) hl [0] rfl
  refine lv_iconst (v := 0) hx hb dX7_mixProof_0 (by decide) ?_
  refine lv_istore_n (lv' := [(1, .int (0 : Int32)), (0, .ref (a 0))]) hx hb dX7_mixProof_1 rfl hl (by decide) rfl (fun ls hl => ?_)
  exact J_2 _ (fun σ H locs ls hp hl h => J_37 σ _ _ _ hp hl h) _ (0 : Int32) σ _ _ _ hp (lv_sub hl [1, 0] rfl) h
def X7_digest_14b (N : Nat) (k14 : (Int32 → St → Option (Int64 × St))) (k36 : (St → Option (Int64 × St))) (v1 : Int32) (σ : St) : Option (Int64 × St) :=
  if (10 : Int32) ≤ v1 then
    k36 σ
  else
    bd (X7_systemNow N v1 σ) (fun t2 =>
    bd (X7_mix (t2.1.toInt64) t2.2) (fun t3 =>
    nm (v1 + (1 : Int32)) (fun (x4 : Int32) =>
    k14 x4 t3)))
def X7_digest_14 (N : Nat) (k36 : (St → Option (Int64 × St))) : Nat → Int32 → St → Option (Int64 × St)
  | 0, _, _ => none
  | n + 1, v1, σ => X7_digest_14b N (fun v1 σ => X7_digest_14 N k36 n v1 σ) k36 v1 σ
def X7_digest_102b (k102 : (Int32 → St → Option (Int64 × St))) (k127 : (St → Option (Int64 × St))) (v1 : Int32) (σ : St) : Option (Int64 × St) :=
  if (σ.1 3) ≤ v1 then
    k127 σ
  else
    gd (inb v1 60) (
    bd (X7_mix ((σ.2.2.1 0 v1.toNatClampNeg).toInt64) σ) (fun t3 =>
    nm (v1 + (1 : Int32)) (fun (x4 : Int32) =>
    k102 x4 t3)))
def X7_digest_102 (k127 : (St → Option (Int64 × St))) : Nat → Int32 → St → Option (Int64 × St)
  | 0, _, _ => none
  | n + 1, v1, σ => X7_digest_102b (fun v1 σ => X7_digest_102 k127 n v1 σ) k127 v1 σ
def X7_digest_127 (σ : St) : Option (Int64 × St) :=
  some ((σ.2.1 2), σ)
def X7_digest_36 (N : Nat) (σ : St) : Option (Int64 × St) :=
  bd (X7_mixStates N σ) (fun t1 =>
  bd (X7_inductionNow N (0 : Int32) t1) (fun t2 =>
  bd (X7_mix (t2.1.toInt64) t2.2) (fun t3 =>
  bd (X7_inductionNow N (1 : Int32) t3) (fun t4 =>
  bd (X7_mix (t4.1.toInt64) t4.2) (fun t5 =>
  bd (X7_eliminationNow N (1 : Int32) t5) (fun t6 =>
  bd (X7_mix t6.1 t6.2) (fun t7 =>
  bd (X7_eliminationNow N (2 : Int32) t7) (fun t8 =>
  bd (X7_mix t8.1 t8.2) (fun t9 =>
  bd (X7_coneNow N t9) (fun t10 =>
  bd (X7_mix (t10.toInt64) t9) (fun t11 =>
  bd (X7_mixProof N t11) (fun t12 =>
  bd (X7_mix ((t12.1 3).toInt64) t12) (fun t13 =>
  X7_digest_102 (fun σ => X7_digest_127 σ) N (0 : Int32) t13)))))))))))))
def X7_digest (N : Nat) (σ : St) : Option (Int64 × St) :=
  nm (si σ 0 (0 : Int32)) (fun (σ1 : St) =>
  nm (sj σ1 2 (1877 : Int64)) (fun (σ2 : St) =>
  X7_digest_14 N (fun σ => X7_digest_36 N σ) N (0 : Int32) σ2))
set_option maxRecDepth 20000 in
set_option maxHeartbeats 4000000 in
theorem c_X7_digest {l : Launch} {D : va_G} {a : Nat → Nat} {cA : Nat → ClassId} {σ : St} {N : Nat} {r : Int64} {σ' : St} (h : X7_digest N σ = some (r, σ')) : MetL l yX7_digest cX7_digest 2 (some .long) 7 D (tyW cA) (wM a cA) EM [.ref (a 0)] σ r σ' := by
  refine mkL (by decide) (adrM a cA) rfl (Nat.le_of_ble_eq_true rfl) ?_
  intro p e R s m args below meth c A Q ls X hR hp hl
  obtain ⟨hx, hb, -, hown, hts, -⟩ := id X
  have J_14 : ∀  (k36 : (St → Option (Int64 × St))) (hk36 : ∀ (σ : St) (H : Heap) (locs : List Loc) (ls : Array Slot), Pw D (wM a cA) A s.heap H locs σ → lv_has ls 2 [(0, .ref (a 0))] → k36 σ = some (r, σ') → W p l e R s m args below meth c H locs 0 0 Q (F0 m 36 ls [])) (n : Nat) (v1 : Int32) (σ : St) (H : Heap) (locs : List Loc) (ls : Array Slot), Pw D (wM a cA) A s.heap H locs σ → lv_has ls 2 [(0, .ref (a 0)), (1, .int v1)] → X7_digest_14 N k36 n v1 σ = some (r, σ') → W p l e R s m args below meth c H locs 0 0 Q (F0 m 14 ls []) := by
    intro k36 hk36 n
    induction n with
    | zero => intro v1 σ H locs ls hp hl h; exact nn_s (show (none : Option (Int64 × St)) = some _ from h)
    | succ n ih =>
      intro v1 σ H locs ls hp hl h
      have h : X7_digest_14b N (fun v1 σ => X7_digest_14 N k36 n v1 σ) k36 v1 σ = some (r, σ') := h
      unfold X7_digest_14b at h
      have hk14 := ih
      refine lv_iload_n hx hb dX7_digest_14 rfl (lv_at hl 1 rfl) ?_
      refine lv_bipush (v := 10) hx hb dX7_digest_15 (by decide) ?_
      refine lv_icmp_ge (tgt := 36) hx hb dX7_digest_17 (by decide) (fun c1 => ?_) (fun c1 => ?_)
      · have h := it_p h c1
        exact hk36 σ _ _ _ hp (lv_sub hl [0] rfl) h
      · have h := it_n h c1
        refine lv_aload_n hx hb dX7_digest_20 rfl (lv_at hl 0 rfl) ?_
        refine lv_aload_n hx hb dX7_digest_21 rfl (lv_at hl 0 rfl) ?_
        refine lv_iload_n hx hb dX7_digest_22 rfl (lv_at hl 1 rfl) ?_
        obtain ⟨t2, ht2, h⟩ := bd_s h
        refine cl_Vi X eokM (c_X7_systemNow ht2) tw_28_19 mw_X7_systemNow (by decide) hp 0 rfl rfl rfl hl.1 rfl (Nat.le_of_ble_eq_true rfl) dX7_digest_23 (fun H locs hp => ?_)
        refine lv_i2l hx hb dX7_digest_26 rfl ?_
        obtain ⟨t3, ht3, h⟩ := bd_s h
        refine cl_Vv X eokM (c_X7_mix ht3) tw_55_23 mw_X7_mix (by decide) hp 0 rfl rfl rfl hl.1 rfl (Nat.le_of_ble_eq_true rfl) dX7_digest_27 (fun H locs hp => ?_)
        obtain ⟨x4, ex4⟩ : ∃ z : Int32, z = v1 + (1 : Int32) := ⟨_, rfl⟩
        have h := nm_s h x4 ex4
        refine lv_iinc (v := x4) (lv' := [(1, .int x4), (0, .ref (a 0))]) hx hb dX7_digest_30 hl (k := 1) rfl (by rw [ex4]; rfl) (by decide) rfl (fun ls hl => ?_)
        refine lv_goto (tgt := 14) hx hb dX7_digest_33 (by decide) ?_
        exact hk14 x4 t3 _ _ _ hp (lv_sub hl [1, 0] rfl) h
  have J_102 : ∀  (k127 : (St → Option (Int64 × St))) (hk127 : ∀ (σ : St) (H : Heap) (locs : List Loc) (ls : Array Slot), Pw D (wM a cA) A s.heap H locs σ → lv_has ls 2 [(0, .ref (a 0))] → k127 σ = some (r, σ') → W p l e R s m args below meth c H locs 0 0 Q (F0 m 127 ls [])) (n : Nat) (v1 : Int32) (σ : St) (H : Heap) (locs : List Loc) (ls : Array Slot), Pw D (wM a cA) A s.heap H locs σ → lv_has ls 2 [(0, .ref (a 0)), (1, .int v1)] → X7_digest_102 k127 n v1 σ = some (r, σ') → W p l e R s m args below meth c H locs 0 0 Q (F0 m 102 ls []) := by
    intro k127 hk127 n
    induction n with
    | zero => intro v1 σ H locs ls hp hl h; exact nn_s (show (none : Option (Int64 × St)) = some _ from h)
    | succ n ih =>
      intro v1 σ H locs ls hp hl h
      have h : X7_digest_102b (fun v1 σ => X7_digest_102 k127 n v1 σ) k127 v1 σ = some (r, σ') := h
      unfold X7_digest_102b at h
      have hk102 := ih
      refine lv_iload_n hx hb dX7_digest_102 rfl (lv_at hl 1 rfl) ?_
      refine lv_aload_n hx hb dX7_digest_103 rfl (lv_at hl 0 rfl) ?_
      refine gM_X7_length X hp tw_9_17 dX7_digest_104 ?_
      refine lv_icmp_ge (tgt := 127) hx hb dX7_digest_107 (by decide) (fun c1 => ?_) (fun c1 => ?_)
      · have h := it_p h c1
        exact hk127 σ _ _ _ hp (lv_sub hl [0] rfl) h
      · have h := it_n h c1
        refine lv_aload_n hx hb dX7_digest_110 rfl (lv_at hl 0 rfl) ?_
        refine lv_aload_n hx hb dX7_digest_111 rfl (lv_at hl 0 rfl) ?_
        refine gM_X7_text X hp tw_5_18 dX7_digest_112 ?_
        refine lv_iload_n hx hb dX7_digest_115 rfl (lv_at hl 1 rfl) ?_
        obtain ⟨g2, h⟩ := gd_s h
        refine lM_X7_text X hp g2 dX7_digest_116 ?_
        refine lv_i2l hx hb dX7_digest_117 rfl ?_
        obtain ⟨t3, ht3, h⟩ := bd_s h
        refine cl_Vv X eokM (c_X7_mix ht3) tw_55_23 mw_X7_mix (by decide) hp 0 rfl rfl rfl hl.1 rfl (Nat.le_of_ble_eq_true rfl) dX7_digest_118 (fun H locs hp => ?_)
        obtain ⟨x4, ex4⟩ : ∃ z : Int32, z = v1 + (1 : Int32) := ⟨_, rfl⟩
        have h := nm_s h x4 ex4
        refine lv_iinc (v := x4) (lv' := [(1, .int x4), (0, .ref (a 0))]) hx hb dX7_digest_121 hl (k := 1) rfl (by rw [ex4]; rfl) (by decide) rfl (fun ls hl => ?_)
        refine lv_goto (tgt := 102) hx hb dX7_digest_124 (by decide) ?_
        exact hk102 x4 t3 _ _ _ hp (lv_sub hl [1, 0] rfl) h
  have J_127 : ∀  (σ : St) (H : Heap) (locs : List Loc) (ls : Array Slot), Pw D (wM a cA) A s.heap H locs σ → lv_has ls 2 [(0, .ref (a 0))] → X7_digest_127 σ = some (r, σ') → W p l e R s m args below meth c H locs 0 0 Q (F0 m 127 ls []) := by
    intro σ H locs ls hp hl h
    unfold X7_digest_127 at h
    refine lv_aload_n hx hb dX7_digest_127 rfl (lv_at hl 0 rfl) ?_
    refine gM_X7_h X hp tw_55_22 dX7_digest_128 ?_
    exact hR _ _ _ _ _ _ dX7_digest_131 hp (congrArg Prod.fst (Option.some.inj h)) (congrArg Prod.snd (Option.some.inj h))
  have J_36 : ∀  (σ : St) (H : Heap) (locs : List Loc) (ls : Array Slot), Pw D (wM a cA) A s.heap H locs σ → lv_has ls 2 [(0, .ref (a 0))] → X7_digest_36 N σ = some (r, σ') → W p l e R s m args below meth c H locs 0 0 Q (F0 m 36 ls []) := by
    intro σ H locs ls hp hl h
    unfold X7_digest_36 at h
    refine lv_aload_n hx hb dX7_digest_36 rfl (lv_at hl 0 rfl) ?_
    obtain ⟨t1, ht1, h⟩ := bd_s h
    refine cl_Vv X eokM (c_X7_mixStates ht1) tw_56_4 mw_X7_mixStates (by decide) hp 0 rfl rfl rfl hl.1 rfl (Nat.le_of_ble_eq_true rfl) dX7_digest_37 (fun H locs hp => ?_)
    refine lv_aload_n hx hb dX7_digest_40 rfl (lv_at hl 0 rfl) ?_
    refine lv_aload_n hx hb dX7_digest_41 rfl (lv_at hl 0 rfl) ?_
    refine lv_iconst (v := 0) hx hb dX7_digest_42 (by decide) ?_
    obtain ⟨t2, ht2, h⟩ := bd_s h
    refine cl_Vi X eokM (c_X7_inductionNow ht2) tw_48_11 mw_X7_inductionNow (by decide) hp 0 rfl rfl rfl hl.1 rfl (Nat.le_of_ble_eq_true rfl) dX7_digest_43 (fun H locs hp => ?_)
    refine lv_i2l hx hb dX7_digest_46 rfl ?_
    obtain ⟨t3, ht3, h⟩ := bd_s h
    refine cl_Vv X eokM (c_X7_mix ht3) tw_55_23 mw_X7_mix (by decide) hp 0 rfl rfl rfl hl.1 rfl (Nat.le_of_ble_eq_true rfl) dX7_digest_47 (fun H locs hp => ?_)
    refine lv_aload_n hx hb dX7_digest_50 rfl (lv_at hl 0 rfl) ?_
    refine lv_aload_n hx hb dX7_digest_51 rfl (lv_at hl 0 rfl) ?_
    refine lv_iconst (v := 1) hx hb dX7_digest_52 (by decide) ?_
    obtain ⟨t4, ht4, h⟩ := bd_s h
    refine cl_Vi X eokM (c_X7_inductionNow ht4) tw_48_11 mw_X7_inductionNow (by decide) hp 0 rfl rfl rfl hl.1 rfl (Nat.le_of_ble_eq_true rfl) dX7_digest_53 (fun H locs hp => ?_)
    refine lv_i2l hx hb dX7_digest_56 rfl ?_
    obtain ⟨t5, ht5, h⟩ := bd_s h
    refine cl_Vv X eokM (c_X7_mix ht5) tw_55_23 mw_X7_mix (by decide) hp 0 rfl rfl rfl hl.1 rfl (Nat.le_of_ble_eq_true rfl) dX7_digest_57 (fun H locs hp => ?_)
    refine lv_aload_n hx hb dX7_digest_60 rfl (lv_at hl 0 rfl) ?_
    refine lv_aload_n hx hb dX7_digest_61 rfl (lv_at hl 0 rfl) ?_
    refine lv_iconst (v := 1) hx hb dX7_digest_62 (by decide) ?_
    obtain ⟨t6, ht6, h⟩ := bd_s h
    refine cl_Vl X eokM (c_X7_eliminationNow ht6) tw_50_22 mw_X7_eliminationNow (by decide) hp 0 rfl rfl rfl hl.1 rfl (Nat.le_of_ble_eq_true rfl) dX7_digest_63 (fun H locs hp => ?_)
    obtain ⟨t7, ht7, h⟩ := bd_s h
    refine cl_Vv X eokM (c_X7_mix ht7) tw_55_23 mw_X7_mix (by decide) hp 0 rfl rfl rfl hl.1 rfl (Nat.le_of_ble_eq_true rfl) dX7_digest_66 (fun H locs hp => ?_)
    refine lv_aload_n hx hb dX7_digest_69 rfl (lv_at hl 0 rfl) ?_
    refine lv_aload_n hx hb dX7_digest_70 rfl (lv_at hl 0 rfl) ?_
    refine lv_iconst (v := 2) hx hb dX7_digest_71 (by decide) ?_
    obtain ⟨t8, ht8, h⟩ := bd_s h
    refine cl_Vl X eokM (c_X7_eliminationNow ht8) tw_50_22 mw_X7_eliminationNow (by decide) hp 0 rfl rfl rfl hl.1 rfl (Nat.le_of_ble_eq_true rfl) dX7_digest_72 (fun H locs hp => ?_)
    obtain ⟨t9, ht9, h⟩ := bd_s h
    refine cl_Vv X eokM (c_X7_mix ht9) tw_55_23 mw_X7_mix (by decide) hp 0 rfl rfl rfl hl.1 rfl (Nat.le_of_ble_eq_true rfl) dX7_digest_75 (fun H locs hp => ?_)
    refine lv_aload_n hx hb dX7_digest_78 rfl (lv_at hl 0 rfl) ?_
    refine lv_aload_n hx hb dX7_digest_79 rfl (lv_at hl 0 rfl) ?_
    obtain ⟨t10, ht10, h⟩ := bd_s h
    refine cl_Vi X eokM (c_X7_coneNow ht10) tw_53_6 mw_X7_coneNow (by decide) hp 0 rfl rfl rfl hl.1 rfl (Nat.le_of_ble_eq_true rfl) dX7_digest_80 (fun H locs hp => ?_)
    refine lv_i2l hx hb dX7_digest_83 rfl ?_
    obtain ⟨t11, ht11, h⟩ := bd_s h
    refine cl_Vv X eokM (c_X7_mix ht11) tw_55_23 mw_X7_mix (by decide) hp 0 rfl rfl rfl hl.1 rfl (Nat.le_of_ble_eq_true rfl) dX7_digest_84 (fun H locs hp => ?_)
    refine lv_aload_n hx hb dX7_digest_87 rfl (lv_at hl 0 rfl) ?_
    obtain ⟨t12, ht12, h⟩ := bd_s h
    refine cl_Vv X eokM (c_X7_mixProof ht12) tw_56_8 mw_X7_mixProof (by decide) hp 0 rfl rfl rfl hl.1 rfl (Nat.le_of_ble_eq_true rfl) dX7_digest_88 (fun H locs hp => ?_)
    refine lv_aload_n hx hb dX7_digest_91 rfl (lv_at hl 0 rfl) ?_
    refine lv_aload_n hx hb dX7_digest_92 rfl (lv_at hl 0 rfl) ?_
    refine gM_X7_length X hp tw_9_17 dX7_digest_93 ?_
    refine lv_i2l hx hb dX7_digest_96 rfl ?_
    obtain ⟨t13, ht13, h⟩ := bd_s h
    refine cl_Vv X eokM (c_X7_mix ht13) tw_55_23 mw_X7_mix (by decide) hp 0 rfl rfl rfl hl.1 rfl (Nat.le_of_ble_eq_true rfl) dX7_digest_97 (fun H locs hp => ?_)
    refine lv_iconst (v := 0) hx hb dX7_digest_100 (by decide) ?_
    refine lv_istore_n (lv' := [(1, .int (0 : Int32)), (0, .ref (a 0))]) hx hb dX7_digest_101 rfl hl (by decide) rfl (fun ls hl => ?_)
    exact J_102 _ (fun σ H locs ls hp hl h => J_127 σ _ _ _ hp hl h) _ (0 : Int32) t13 _ _ _ hp (lv_sub hl [1, 0] rfl) h
  unfold X7_digest at h
  have hl := lv_sub (l' := [(0, .ref (a 0))]) hl [0] rfl
  refine lv_aload_n hx hb dX7_digest_0 rfl (lv_at hl 0 rfl) ?_
  refine lv_iconst (v := 0) hx hb dX7_digest_1 (by decide) ?_
  refine pM_X7_thrown X hp tw_8_9 dX7_digest_2 (fun H locs σ1 eσ1 hp => ?_)
  have h := nm_s h σ1 eσ1
  refine lv_aload_n hx hb dX7_digest_5 rfl (lv_at hl 0 rfl) ?_
  refine lv_ldc2 hx hb hown (hts _ tw_55_21) dX7_digest_6 ?_
  refine pM_X7_h X hp tw_55_22 dX7_digest_9 (fun H locs σ2 eσ2 hp => ?_)
  have h := nm_s h σ2 eσ2
  refine lv_iconst (v := 0) hx hb dX7_digest_12 (by decide) ?_
  refine lv_istore_n (lv' := [(1, .int (0 : Int32)), (0, .ref (a 0))]) hx hb dX7_digest_13 rfl hl (by decide) rfl (fun ls hl => ?_)
  exact J_14 _ (fun σ H locs ls hp hl h => J_36 σ _ _ _ hp hl h) _ (0 : Int32) σ2 _ _ _ hp (lv_sub hl [1, 0] rfl) h
