/- X7_eliminationNow X7_elimination X7_isSafe X7_isSafeWithFree X7_coneNow X7_leastCone X7_simulated X7_simulate -/
def X7_eliminationNow_2b (k2 : (Int32 → St → Option (Int64 × St))) (k22 : (Int32 → St → Option (Int64 × St))) (v1 : Int32) (v2 : Int32) (σ : St) : Option (Int64 × St) :=
  if (4096 : Int32) ≤ v2 then
    k22 v1 σ
  else
    gd (inb v2 4096) (
    nm (sa σ 12 v2.toNatClampNeg (0 : Int32)) (fun (σ3 : St) =>
    nm (v2 + (1 : Int32)) (fun (x4 : Int32) =>
    k2 x4 σ3)))
def X7_eliminationNow_2 (k22 : (Int32 → St → Option (Int64 × St))) (v1 : Int32) : Nat → Int32 → St → Option (Int64 × St)
  | 0, _, _ => none
  | n + 1, v2, σ => X7_eliminationNow_2b (fun v2 σ => X7_eliminationNow_2 k22 v1 n v2 σ) k22 v1 v2 σ
def X7_eliminationNow_34b (N : Nat) (k34 : (Int32 → St → Option (Int64 × St))) (k56 : (Int32 → St → Option (Int64 × St))) (v1 : Int32) (v2 : Int32) (σ : St) : Option (Int64 × St) :=
  if v2 = 0 then
    k56 v1 σ
  else
    bd (X7_outside N σ v1) (fun t2 =>
    bd (X7_successors N σ t2) (fun t3 =>
    bd (X7_discards N v1 t3 σ) (fun t4 =>
    k34 t4.1 t4.2)))
def X7_eliminationNow_34 (N : Nat) (k56 : (Int32 → St → Option (Int64 × St))) (v1 : Int32) : Nat → Int32 → St → Option (Int64 × St)
  | 0, _, _ => none
  | n + 1, v2, σ => X7_eliminationNow_34b N (fun v2 σ => X7_eliminationNow_34 N k56 v1 n v2 σ) k56 v1 v2 σ
def X7_eliminationNow_56 (N : Nat) (v1 : Int32) (σ : St) : Option (Int64 × St) :=
  bd (X7_outside N σ v1) (fun t1 =>
  some (t1, σ))
def X7_eliminationNow_22 (N : Nat) (v1 : Int32) (σ : St) : Option (Int64 × St) :=
  bd (X7_discards N v1 (σ.2.1 0) σ) (fun t1 =>
  X7_eliminationNow_34 N (fun v1 σ => X7_eliminationNow_56 N v1 σ) v1 N (1 : Int32) t1.2)
def X7_eliminationNow (N : Nat) (v1 : Int32) (σ : St) : Option (Int64 × St) :=
  X7_eliminationNow_2 (fun v1 σ => X7_eliminationNow_22 N v1 σ) v1 N (0 : Int32) σ
set_option maxRecDepth 20000 in
set_option maxHeartbeats 4000000 in
theorem c_X7_eliminationNow {l : Launch} {D : va_G} {a : Nat → Nat} {cA : Nat → ClassId} {σ : St} {N : Nat} {v1 : Int32} {r : Int64} {σ' : St} (h : X7_eliminationNow N v1 σ = some (r, σ')) : MetL l yX7_eliminationNow cX7_eliminationNow 3 (some .long) 3 D (tyW cA) (wM a cA) EM [.ref (a 0), .int v1] σ r σ' := by
  refine mkL (by decide) (adrM a cA) rfl (Nat.le_of_ble_eq_true rfl) ?_
  intro p e R s m args below meth c A Q ls X hR hp hl
  obtain ⟨hx, hb, -, hown, hts, -⟩ := id X
  have J_2 : ∀ (v1 : Int32) (k22 : (Int32 → St → Option (Int64 × St))) (hk22 : ∀ (v1 : Int32) (σ : St) (H : Heap) (locs : List Loc) (ls : Array Slot), Pw D (wM a cA) A s.heap H locs σ → lv_has ls 3 [(0, .ref (a 0)), (1, .int v1)] → k22 v1 σ = some (r, σ') → W p l e R s m args below meth c H locs 0 0 Q (F0 m 22 ls [])) (n : Nat) (v2 : Int32) (σ : St) (H : Heap) (locs : List Loc) (ls : Array Slot), Pw D (wM a cA) A s.heap H locs σ → lv_has ls 3 [(0, .ref (a 0)), (1, .int v1), (2, .int v2)] → X7_eliminationNow_2 k22 v1 n v2 σ = some (r, σ') → W p l e R s m args below meth c H locs 0 0 Q (F0 m 2 ls []) := by
    intro v1 k22 hk22 n
    induction n with
    | zero => intro v2 σ H locs ls hp hl h; exact nn_s (show (none : Option (Int64 × St)) = some _ from h)
    | succ n ih =>
      intro v2 σ H locs ls hp hl h
      have h : X7_eliminationNow_2b (fun v2 σ => X7_eliminationNow_2 k22 v1 n v2 σ) k22 v1 v2 σ = some (r, σ') := h
      unfold X7_eliminationNow_2b at h
      have hk2 := ih
      refine lv_iload_n hx hb dX7_eliminationNow_2 rfl (lv_at hl 2 rfl) ?_
      refine lv_sipush (v := 4096) hx hb dX7_eliminationNow_3 (by decide) ?_
      refine lv_icmp_ge (tgt := 22) hx hb dX7_eliminationNow_6 (by decide) (fun c1 => ?_) (fun c1 => ?_)
      · have h := it_p h c1
        exact hk22 v1 σ _ _ _ hp (lv_sub hl [0, 1] rfl) h
      · have h := it_n h c1
        refine lv_aload_n hx hb dX7_eliminationNow_9 rfl (lv_at hl 0 rfl) ?_
        refine gM_X7_isGone X hp tw_6_10 dX7_eliminationNow_10 ?_
        refine lv_iload_n hx hb dX7_eliminationNow_13 rfl (lv_at hl 2 rfl) ?_
        refine lv_iconst (v := 0) hx hb dX7_eliminationNow_14 (by decide) ?_
        obtain ⟨g2, h⟩ := gd_s h
        refine sM_X7_isGone X hp g2 (Or.inl rfl) dX7_eliminationNow_15 (fun H locs σ3 eσ3 hp => ?_)
        have h := nm_s h σ3 eσ3
        obtain ⟨x4, ex4⟩ : ∃ z : Int32, z = v2 + (1 : Int32) := ⟨_, rfl⟩
        have h := nm_s h x4 ex4
        refine lv_iinc (v := x4) (lv' := [(2, .int x4), (0, .ref (a 0)), (1, .int v1)]) hx hb dX7_eliminationNow_16 hl (k := 2) rfl (by rw [ex4]; rfl) (by decide) rfl (fun ls hl => ?_)
        refine lv_goto (tgt := 2) hx hb dX7_eliminationNow_19 (by decide) ?_
        exact hk2 x4 σ3 _ _ _ hp (lv_sub hl [1, 2, 0] rfl) h
  have J_34 : ∀ (v1 : Int32) (k56 : (Int32 → St → Option (Int64 × St))) (hk56 : ∀ (v1 : Int32) (σ : St) (H : Heap) (locs : List Loc) (ls : Array Slot), Pw D (wM a cA) A s.heap H locs σ → lv_has ls 3 [(0, .ref (a 0)), (1, .int v1)] → k56 v1 σ = some (r, σ') → W p l e R s m args below meth c H locs 0 0 Q (F0 m 56 ls [])) (n : Nat) (v2 : Int32) (σ : St) (H : Heap) (locs : List Loc) (ls : Array Slot), Pw D (wM a cA) A s.heap H locs σ → lv_has ls 3 [(0, .ref (a 0)), (1, .int v1), (2, .int v2)] → X7_eliminationNow_34 N k56 v1 n v2 σ = some (r, σ') → W p l e R s m args below meth c H locs 0 0 Q (F0 m 34 ls []) := by
    intro v1 k56 hk56 n
    induction n with
    | zero => intro v2 σ H locs ls hp hl h; exact nn_s (show (none : Option (Int64 × St)) = some _ from h)
    | succ n ih =>
      intro v2 σ H locs ls hp hl h
      have h : X7_eliminationNow_34b N (fun v2 σ => X7_eliminationNow_34 N k56 v1 n v2 σ) k56 v1 v2 σ = some (r, σ') := h
      unfold X7_eliminationNow_34b at h
      have hk34 := ih
      refine lv_iload_n hx hb dX7_eliminationNow_34 rfl (lv_at hl 2 rfl) ?_
      refine lv_if_eq (tgt := 56) hx hb dX7_eliminationNow_35 (by decide) (fun c1 => ?_) (fun c1 => ?_)
      · have h := it_p h c1
        exact hk56 v1 σ _ _ _ hp (lv_sub hl [0, 1] rfl) h
      · have h := it_n h c1
        refine lv_aload_n hx hb dX7_eliminationNow_38 rfl (lv_at hl 0 rfl) ?_
        refine lv_iload_n hx hb dX7_eliminationNow_39 rfl (lv_at hl 1 rfl) ?_
        refine lv_aload_n hx hb dX7_eliminationNow_40 rfl (lv_at hl 0 rfl) ?_
        refine lv_aload_n hx hb dX7_eliminationNow_41 rfl (lv_at hl 0 rfl) ?_
        refine lv_iload_n hx hb dX7_eliminationNow_42 rfl (lv_at hl 1 rfl) ?_
        obtain ⟨t2, ht2, h⟩ := bd_s h
        refine cl_Vl X eokM (c_X7_outside ht2) tw_51_13 mw_X7_outside (by decide) hp 0 rfl rfl rfl hl.1 rfl (Nat.le_of_ble_eq_true rfl) dX7_eliminationNow_43 (fun H locs hp => ?_)
        obtain ⟨t3, ht3, h⟩ := bd_s h
        refine cl_Vl X eokM (c_X7_successors ht3) tw_27_6 mw_X7_successors (by decide) hp 0 rfl rfl rfl hl.1 rfl (Nat.le_of_ble_eq_true rfl) dX7_eliminationNow_46 (fun H locs hp => ?_)
        obtain ⟨t4, ht4, h⟩ := bd_s h
        refine cl_Vi X eokM (c_X7_discards ht4) tw_51_2 mw_X7_discards (by decide) hp 0 rfl rfl rfl hl.1 rfl (Nat.le_of_ble_eq_true rfl) dX7_eliminationNow_49 (fun H locs hp => ?_)
        refine lv_istore_n (lv' := [(2, .int t4.1), (0, .ref (a 0)), (1, .int v1)]) hx hb dX7_eliminationNow_52 rfl hl (by decide) rfl (fun ls hl => ?_)
        refine lv_goto (tgt := 34) hx hb dX7_eliminationNow_53 (by decide) ?_
        exact hk34 t4.1 t4.2 _ _ _ hp (lv_sub hl [1, 2, 0] rfl) h
  have J_56 : ∀ (v1 : Int32) (σ : St) (H : Heap) (locs : List Loc) (ls : Array Slot), Pw D (wM a cA) A s.heap H locs σ → lv_has ls 3 [(0, .ref (a 0)), (1, .int v1)] → X7_eliminationNow_56 N v1 σ = some (r, σ') → W p l e R s m args below meth c H locs 0 0 Q (F0 m 56 ls []) := by
    intro v1 σ H locs ls hp hl h
    unfold X7_eliminationNow_56 at h
    refine lv_aload_n hx hb dX7_eliminationNow_56 rfl (lv_at hl 0 rfl) ?_
    refine lv_iload_n hx hb dX7_eliminationNow_57 rfl (lv_at hl 1 rfl) ?_
    obtain ⟨t1, ht1, h⟩ := bd_s h
    refine cl_Vl X eokM (c_X7_outside ht1) tw_51_13 mw_X7_outside (by decide) hp 0 rfl rfl rfl hl.1 rfl (Nat.le_of_ble_eq_true rfl) dX7_eliminationNow_58 (fun H locs hp => ?_)
    exact hR _ _ _ _ _ _ dX7_eliminationNow_61 hp (congrArg Prod.fst (Option.some.inj h)) (congrArg Prod.snd (Option.some.inj h))
  have J_22 : ∀ (v1 : Int32) (σ : St) (H : Heap) (locs : List Loc) (ls : Array Slot), Pw D (wM a cA) A s.heap H locs σ → lv_has ls 3 [(0, .ref (a 0)), (1, .int v1)] → X7_eliminationNow_22 N v1 σ = some (r, σ') → W p l e R s m args below meth c H locs 0 0 Q (F0 m 22 ls []) := by
    intro v1 σ H locs ls hp hl h
    unfold X7_eliminationNow_22 at h
    refine lv_aload_n hx hb dX7_eliminationNow_22 rfl (lv_at hl 0 rfl) ?_
    refine lv_iload_n hx hb dX7_eliminationNow_23 rfl (lv_at hl 1 rfl) ?_
    refine lv_aload_n hx hb dX7_eliminationNow_24 rfl (lv_at hl 0 rfl) ?_
    refine gM_X7_init X hp tw_6_17 dX7_eliminationNow_25 ?_
    obtain ⟨t1, ht1, h⟩ := bd_s h
    refine cl_Vi X eokM (c_X7_discards ht1) tw_51_2 mw_X7_discards (by decide) hp 0 rfl rfl rfl hl.1 rfl (Nat.le_of_ble_eq_true rfl) dX7_eliminationNow_28 (fun H locs hp => ?_)
    refine lv_pop hx hb dX7_eliminationNow_31 rfl ?_
    refine lv_iconst (v := 1) hx hb dX7_eliminationNow_32 (by decide) ?_
    refine lv_istore_n (lv' := [(2, .int (1 : Int32)), (0, .ref (a 0)), (1, .int v1)]) hx hb dX7_eliminationNow_33 rfl hl (by decide) rfl (fun ls hl => ?_)
    exact J_34 v1 _ (fun v1 σ H locs ls hp hl h => J_56 v1 σ _ _ _ hp hl h) _ (1 : Int32) t1.2 _ _ _ hp (lv_sub hl [1, 2, 0] rfl) h
  unfold X7_eliminationNow at h
  have hl := lv_sub (l' := [(0, .ref (a 0)), (1, .int v1)]) hl [0, 1] rfl
  refine lv_iconst (v := 0) hx hb dX7_eliminationNow_0 (by decide) ?_
  refine lv_istore_n (lv' := [(2, .int (0 : Int32)), (0, .ref (a 0)), (1, .int v1)]) hx hb dX7_eliminationNow_1 rfl hl (by decide) rfl (fun ls hl => ?_)
  exact J_2 v1 _ (fun v1 σ H locs ls hp hl h => J_22 v1 σ _ _ _ hp hl h) _ (0 : Int32) σ _ _ _ hp (lv_sub hl [1, 2, 0] rfl) h
def X7_elimination_15 (N : Nat) (v1 : Int32) (u0 : Int32) (σ : St) : Option (Int64 × St) :=
  nm (si σ 0 u0) (fun (σ1 : St) =>
  if (σ1.1 0) ≤ 0 then
    bd (X7_eliminationNow N v1 σ1) (fun t3 =>
    some (t3.1, t3.2))
  else
    some ((0 : Int64), σ1))
def X7_elimination (N : Nat) (v1 : Int32) (σ : St) : Option (Int64 × St) :=
  bd (X7_within v1 (1 : Int32) (3 : Int32)) (fun t1 =>
  if t1 = 0 then
    X7_elimination_15 N v1 (1 : Int32) σ
  else
    X7_elimination_15 N v1 (0 : Int32) σ)
set_option maxRecDepth 20000 in
set_option maxHeartbeats 4000000 in
theorem c_X7_elimination {l : Launch} {D : va_G} {a : Nat → Nat} {cA : Nat → ClassId} {σ : St} {N : Nat} {v1 : Int32} {r : Int64} {σ' : St} (h : X7_elimination N v1 σ = some (r, σ')) : MetL l yX7_elimination cX7_elimination 2 (some .long) 4 D (tyW cA) (wM a cA) EM [.ref (a 0), .int v1] σ r σ' := by
  refine mkL (by decide) (adrM a cA) rfl (Nat.le_of_ble_eq_true rfl) ?_
  intro p e R s m args below meth c A Q ls X hR hp hl
  obtain ⟨hx, hb, -, hown, hts, -⟩ := id X
  have J_15 : ∀ (v1 : Int32) (u0 : Int32) (σ : St) (H : Heap) (locs : List Loc) (ls : Array Slot), Pw D (wM a cA) A s.heap H locs σ → lv_has ls 2 [(0, .ref (a 0)), (1, .int v1)] → X7_elimination_15 N v1 u0 σ = some (r, σ') → W p l e R s m args below meth c H locs 0 0 Q (F0 m 15 ls [.int u0, .ref (a 0)]) := by
    intro v1 u0 σ H locs ls hp hl h
    unfold X7_elimination_15 at h
    refine pM_X7_thrown X hp tw_8_9 dX7_elimination_15 (fun H locs σ1 eσ1 hp => ?_)
    have h := nm_s h σ1 eσ1
    refine lv_aload_n hx hb dX7_elimination_18 rfl (lv_at hl 0 rfl) ?_
    refine gM_X7_thrown X hp tw_8_9 dX7_elimination_19 ?_
    refine lv_if_le (tgt := 29) hx hb dX7_elimination_22 (by decide) (fun c2 => ?_) (fun c2 => ?_)
    · have h := it_p h c2
      refine lv_aload_n hx hb dX7_elimination_29 rfl (lv_at hl 0 rfl) ?_
      refine lv_iload_n hx hb dX7_elimination_30 rfl (lv_at hl 1 rfl) ?_
      obtain ⟨t3, ht3, h⟩ := bd_s h
      refine cl_Vl X eokM (c_X7_eliminationNow ht3) tw_50_22 mw_X7_eliminationNow (by decide) hp 0 rfl rfl rfl hl.1 rfl (Nat.le_of_ble_eq_true rfl) dX7_elimination_31 (fun H locs hp => ?_)
      exact hR _ _ _ _ _ _ dX7_elimination_34 hp (congrArg Prod.fst (Option.some.inj h)) (congrArg Prod.snd (Option.some.inj h))
    · have h := it_n h c2
      refine lv_lconst (v := 0) hx hb dX7_elimination_25 (by decide) ?_
      refine lv_goto (tgt := 34) hx hb dX7_elimination_26 (by decide) ?_
      exact hR _ _ _ _ _ _ dX7_elimination_34 hp (congrArg Prod.fst (Option.some.inj h)) (congrArg Prod.snd (Option.some.inj h))
  unfold X7_elimination at h
  have hl := lv_sub (l' := [(0, .ref (a 0)), (1, .int v1)]) hl [0, 1] rfl
  refine lv_aload_n hx hb dX7_elimination_0 rfl (lv_at hl 0 rfl) ?_
  refine lv_iload_n hx hb dX7_elimination_1 rfl (lv_at hl 1 rfl) ?_
  refine lv_iconst (v := 1) hx hb dX7_elimination_2 (by decide) ?_
  refine lv_iconst (v := 3) hx hb dX7_elimination_3 (by decide) ?_
  obtain ⟨t1, ht1, h⟩ := bd_s h
  refine cl_Si X eokM (c_X7_within (adrM a cA) eokM ht1) tw_8_10 mw_X7_within (by decide) hp hl.1 rfl (Nat.le_of_ble_eq_true rfl) dX7_elimination_4 (fun H locs hp => ?_)
  refine lv_if_eq (tgt := 14) hx hb dX7_elimination_7 (by decide) (fun c2 => ?_) (fun c2 => ?_)
  · have h := it_p h c2
    refine lv_iconst (v := 1) hx hb dX7_elimination_14 (by decide) ?_
    exact J_15 v1 (1 : Int32) σ _ _ _ hp (lv_sub hl [0, 1] rfl) h
  · have h := it_n h c2
    refine lv_iconst (v := 0) hx hb dX7_elimination_10 (by decide) ?_
    refine lv_goto (tgt := 15) hx hb dX7_elimination_11 (by decide) ?_
    exact J_15 v1 (0 : Int32) σ _ _ _ hp (lv_sub hl [0, 1] rfl) h
def X7_isSafe_49b (N : Nat) (k49 : (Int64 → Int32 → Option (Int32))) (k94 : (Int64 → Int32 → Option (Int32))) (σ : St) (v2 : Int32) (v3 : Int64) (v5 : Int64) (v7 : Int64) (v9 : Int32) (v10 : Int32) : Option (Int32) :=
  bd (X7_values σ) (fun t1 =>
  if t1 ≤ v10 then
    k94 v7 v9
  else
    bd (X7_has v5 v9) (fun t3 =>
    if t3 = 0 then
      k94 v7 v9
    else
      bd (X7_successorOf N σ v9 v10) (fun t5 =>
      bd (X7_cubeSet N σ v2 (t5 &&& v2)) (fun t6 =>
      nm (v7 ||| t6) (fun (x7 : Int64) =>
      nm (v10 + (1 : Int32)) (fun (x8 : Int32) =>
      k49 x7 x8))))))
def X7_isSafe_49 (N : Nat) (k94 : (Int64 → Int32 → Option (Int32))) (σ : St) (v2 : Int32) (v3 : Int64) (v5 : Int64) (v9 : Int32) : Nat → Int64 → Int32 → Option (Int32)
  | 0, _, _ => none
  | n + 1, v7, v10 => X7_isSafe_49b N (fun v7 v10 => X7_isSafe_49 N k94 σ v2 v3 v5 v9 n v7 v10) k94 σ v2 v3 v5 v7 v9 v10
def X7_isSafe_94 (k37 : (Int64 → Int32 → Option (Int32))) (σ : St) (v2 : Int32) (v3 : Int64) (v5 : Int64) (v7 : Int64) (v9 : Int32) : Option (Int32) :=
  nm (v9 + (1 : Int32)) (fun (x1 : Int32) =>
  k37 v7 x1)
def X7_isSafe_37b (N : Nat) (k37 : (Int64 → Int32 → Option (Int32))) (k100 : (Int64 → Int64 → Option (Int32))) (σ : St) (v2 : Int32) (v3 : Int64) (v5 : Int64) (v7 : Int64) (v9 : Int32) : Option (Int32) :=
  bd (X7_states σ) (fun t1 =>
  if t1 ≤ v9 then
    k100 v3 v7
  else
    X7_isSafe_49 N (fun v7 v9 => X7_isSafe_94 k37 σ v2 v3 v5 v7 v9) σ v2 v3 v5 v9 N v7 (0 : Int32))
def X7_isSafe_37 (N : Nat) (k100 : (Int64 → Int64 → Option (Int32))) (σ : St) (v2 : Int32) (v3 : Int64) (v5 : Int64) : Nat → Int64 → Int32 → Option (Int32)
  | 0, _, _ => none
  | n + 1, v7, v9 => X7_isSafe_37b N (fun v7 v9 => X7_isSafe_37 N k100 σ v2 v3 v5 n v7 v9) k100 σ v2 v3 v5 v7 v9
def X7_isSafe_100 (k19 : (Int64 → Int64 → Option (Int32))) (σ : St) (v2 : Int32) (v3 : Int64) (v7 : Int64) : Option (Int32) :=
  nm (v7 &&& (v3 ^^^ (-1 : Int64))) (fun (x1 : Int64) =>
  k19 v3 x1)
def X7_isSafe_19b (N : Nat) (k19 : (Int64 → Int64 → Option (Int32))) (k113 : (Int64 → Option (Int32))) (σ : St) (v2 : Int32) (v3 : Int64) (v5 : Int64) : Option (Int32) :=
  if v5 = (0 : Int64) then
    k113 v3
  else
    nm (v3 ||| v5) (fun (x2 : Int64) =>
    X7_isSafe_37 N (fun v3 v7 => X7_isSafe_100 k19 σ v2 v3 v7) σ v2 x2 v5 N (0 : Int64) (0 : Int32))
def X7_isSafe_19 (N : Nat) (k113 : (Int64 → Option (Int32))) (σ : St) (v2 : Int32) : Nat → Int64 → Int64 → Option (Int32)
  | 0, _, _ => none
  | n + 1, v3, v5 => X7_isSafe_19b N (fun v3 v5 => X7_isSafe_19 N k113 σ v2 n v3 v5) k113 σ v2 v3 v5
def X7_isSafe_113 (σ : St) (v3 : Int64) : Option (Int32) :=
  bd (X7_bad σ) (fun t1 =>
  if (v3 &&& t1) = (0 : Int64) then
    some (1 : Int32)
  else
    some (0 : Int32))
def X7_isSafe (N : Nat) (σ : St) (v1 : Int32) : Option (Int32) :=
  bd (X7_states σ) (fun t1 =>
  nm ((t1 - (1 : Int32)) &&& (v1 ^^^ (-1 : Int32))) (fun (x2 : Int32) =>
  nm (σ.2.1 0) (fun (x3 : Int64) =>
  X7_isSafe_19 N (fun v3 => X7_isSafe_113 σ v3) σ x2 N (0 : Int64) x3)))
set_option maxRecDepth 20000 in
set_option maxHeartbeats 4000000 in
theorem c_X7_isSafe {l : Launch} {D : va_G} {a : Nat → Nat} {cA : Nat → ClassId} {σ : St} {N : Nat} {v1 : Int32} {r : Int32} (h : X7_isSafe N σ v1 = some r) : MetI l yX7_isSafe cX7_isSafe 11 (some .boolean) 3 D (tyW cA) (wM a cA) EM [.ref (a 0), .int v1] σ r σ := by
  refine mkI (by decide) (adrM a cA) (Or.inr rfl) (Nat.le_of_ble_eq_true rfl) ?_
  intro p e R s m args below meth c A Q ls X hR hp hl
  obtain ⟨hx, hb, -, hown, hts, -⟩ := id X
  have J_49 : ∀ (v2 : Int32) (v3 : Int64) (v5 : Int64) (v9 : Int32) (k94 : (Int64 → Int32 → Option (Int32))) (hk94 : ∀ (v7 : Int64) (v9 : Int32) (H : Heap) (locs : List Loc) (ls : Array Slot), Pw D (wM a cA) A s.heap H locs σ → lv_has ls 11 [(0, .ref (a 0)), (2, .int v2), (3, .long v3), (5, .long v5), (7, .long v7), (9, .int v9)] → k94 v7 v9 = some r → W p l e R s m args below meth c H locs 0 0 Q (F0 m 94 ls [])) (n : Nat) (v7 : Int64) (v10 : Int32) (H : Heap) (locs : List Loc) (ls : Array Slot), Pw D (wM a cA) A s.heap H locs σ → lv_has ls 11 [(0, .ref (a 0)), (2, .int v2), (3, .long v3), (5, .long v5), (7, .long v7), (9, .int v9), (10, .int v10)] → X7_isSafe_49 N k94 σ v2 v3 v5 v9 n v7 v10 = some r → W p l e R s m args below meth c H locs 0 0 Q (F0 m 49 ls []) := by
    intro v2 v3 v5 v9 k94 hk94 n
    induction n with
    | zero => intro v7 v10 H locs ls hp hl h; exact nn_s (show (none : Option (Int32)) = some _ from h)
    | succ n ih =>
      intro v7 v10 H locs ls hp hl h
      have h : X7_isSafe_49b N (fun v7 v10 => X7_isSafe_49 N k94 σ v2 v3 v5 v9 n v7 v10) k94 σ v2 v3 v5 v7 v9 v10 = some r := h
      unfold X7_isSafe_49b at h
      have hk49 := ih
      refine lv_iload hx hb dX7_isSafe_49 (lv_at hl 6 rfl) ?_
      refine lv_aload_n hx hb dX7_isSafe_51 rfl (lv_at hl 0 rfl) ?_
      obtain ⟨t1, ht1, h⟩ := bd_s h
      refine cl_Vi X eokM (c_X7_values ht1) tw_17_20 mw_X7_values (by decide) hp 0 rfl rfl rfl hl.1 rfl (Nat.le_of_ble_eq_true rfl) dX7_isSafe_52 (fun H locs hp => ?_)
      refine lv_icmp_ge (tgt := 94) hx hb dX7_isSafe_55 (by decide) (fun c2 => ?_) (fun c2 => ?_)
      · have h := it_p h c2
        exact hk94 v7 v9 _ _ _ hp (lv_sub hl [0, 1, 2, 3, 4, 5] rfl) h
      · have h := it_n h c2
        refine lv_lload hx hb dX7_isSafe_58 (lv_at hl 3 rfl) ?_
        refine lv_iload hx hb dX7_isSafe_60 (lv_at hl 5 rfl) ?_
        obtain ⟨t3, ht3, h⟩ := bd_s h
        refine cl_Si X eokM (c_X7_has (adrM a cA) eokM ht3) tw_18_3 mw_X7_has (by decide) hp hl.1 rfl (Nat.le_of_ble_eq_true rfl) dX7_isSafe_62 (fun H locs hp => ?_)
        refine lv_if_eq (tgt := 94) hx hb dX7_isSafe_65 (by decide) (fun c4 => ?_) (fun c4 => ?_)
        · have h := it_p h c4
          exact hk94 v7 v9 _ _ _ hp (lv_sub hl [0, 1, 2, 3, 4, 5] rfl) h
        · have h := it_n h c4
          refine lv_lload hx hb dX7_isSafe_68 (lv_at hl 4 rfl) ?_
          refine lv_aload_n hx hb dX7_isSafe_70 rfl (lv_at hl 0 rfl) ?_
          refine lv_iload_n hx hb dX7_isSafe_71 rfl (lv_at hl 1 rfl) ?_
          refine lv_aload_n hx hb dX7_isSafe_72 rfl (lv_at hl 0 rfl) ?_
          refine lv_iload hx hb dX7_isSafe_73 (lv_at hl 5 rfl) ?_
          refine lv_iload hx hb dX7_isSafe_75 (lv_at hl 6 rfl) ?_
          obtain ⟨t5, ht5, h⟩ := bd_s h
          refine cl_Vi X eokM (c_X7_successorOf ht5) tw_21_23 mw_X7_successorOf (by decide) hp 0 rfl rfl rfl hl.1 rfl (Nat.le_of_ble_eq_true rfl) dX7_isSafe_77 (fun H locs hp => ?_)
          refine lv_iload_n hx hb dX7_isSafe_80 rfl (lv_at hl 1 rfl) ?_
          refine lv_iand hx hb dX7_isSafe_81 ?_
          obtain ⟨t6, ht6, h⟩ := bd_s h
          refine cl_Vl X eokM (c_X7_cubeSet ht6) tw_40_11 mw_X7_cubeSet (by decide) hp 0 rfl rfl rfl hl.1 rfl (Nat.le_of_ble_eq_true rfl) dX7_isSafe_82 (fun H locs hp => ?_)
          refine lv_lor hx hb dX7_isSafe_85 ?_
          refine lv_topl (fun x7 ex7 => ?_)
          have h := nm_s h x7 ex7
          refine lv_lstore (lv' := [(7, .long x7), (0, .ref (a 0)), (2, .int v2), (3, .long v3), (5, .long v5), (9, .int v9), (10, .int v10)]) hx hb dX7_isSafe_86 hl (by decide) rfl (fun ls hl => ?_)
          obtain ⟨x8, ex8⟩ : ∃ z : Int32, z = v10 + (1 : Int32) := ⟨_, rfl⟩
          have h := nm_s h x8 ex8
          refine lv_iinc (v := x8) (lv' := [(10, .int x8), (7, .long x7), (0, .ref (a 0)), (2, .int v2), (3, .long v3), (5, .long v5), (9, .int v9)]) hx hb dX7_isSafe_88 hl (k := 6) rfl (by rw [ex8]; rfl) (by decide) rfl (fun ls hl => ?_)
          refine lv_goto (tgt := 49) hx hb dX7_isSafe_91 (by decide) ?_
          exact hk49 x7 x8 _ _ _ hp (lv_sub hl [2, 3, 4, 5, 1, 6, 0] rfl) h
  have J_94 : ∀ (v2 : Int32) (v3 : Int64) (v5 : Int64) (v7 : Int64) (v9 : Int32) (k37 : (Int64 → Int32 → Option (Int32))) (hk37 : ∀ (v7 : Int64) (v9 : Int32) (H : Heap) (locs : List Loc) (ls : Array Slot), Pw D (wM a cA) A s.heap H locs σ → lv_has ls 11 [(0, .ref (a 0)), (2, .int v2), (3, .long v3), (5, .long v5), (7, .long v7), (9, .int v9)] → k37 v7 v9 = some r → W p l e R s m args below meth c H locs 0 0 Q (F0 m 37 ls [])) (H : Heap) (locs : List Loc) (ls : Array Slot), Pw D (wM a cA) A s.heap H locs σ → lv_has ls 11 [(0, .ref (a 0)), (2, .int v2), (3, .long v3), (5, .long v5), (7, .long v7), (9, .int v9)] → X7_isSafe_94 k37 σ v2 v3 v5 v7 v9 = some r → W p l e R s m args below meth c H locs 0 0 Q (F0 m 94 ls []) := by
    intro v2 v3 v5 v7 v9 k37 hk37 H locs ls hp hl h
    unfold X7_isSafe_94 at h
    obtain ⟨x1, ex1⟩ : ∃ z : Int32, z = v9 + (1 : Int32) := ⟨_, rfl⟩
    have h := nm_s h x1 ex1
    refine lv_iinc (v := x1) (lv' := [(9, .int x1), (0, .ref (a 0)), (2, .int v2), (3, .long v3), (5, .long v5), (7, .long v7)]) hx hb dX7_isSafe_94 hl (k := 5) rfl (by rw [ex1]; rfl) (by decide) rfl (fun ls hl => ?_)
    refine lv_goto (tgt := 37) hx hb dX7_isSafe_97 (by decide) ?_
    exact hk37 v7 x1 _ _ _ hp (lv_sub hl [1, 2, 3, 4, 5, 0] rfl) h
  have J_37 : ∀ (v2 : Int32) (v3 : Int64) (v5 : Int64) (k100 : (Int64 → Int64 → Option (Int32))) (hk100 : ∀ (v3 : Int64) (v7 : Int64) (H : Heap) (locs : List Loc) (ls : Array Slot), Pw D (wM a cA) A s.heap H locs σ → lv_has ls 11 [(0, .ref (a 0)), (2, .int v2), (3, .long v3), (7, .long v7)] → k100 v3 v7 = some r → W p l e R s m args below meth c H locs 0 0 Q (F0 m 100 ls [])) (n : Nat) (v7 : Int64) (v9 : Int32) (H : Heap) (locs : List Loc) (ls : Array Slot), Pw D (wM a cA) A s.heap H locs σ → lv_has ls 11 [(0, .ref (a 0)), (2, .int v2), (3, .long v3), (5, .long v5), (7, .long v7), (9, .int v9)] → X7_isSafe_37 N k100 σ v2 v3 v5 n v7 v9 = some r → W p l e R s m args below meth c H locs 0 0 Q (F0 m 37 ls []) := by
    intro v2 v3 v5 k100 hk100 n
    induction n with
    | zero => intro v7 v9 H locs ls hp hl h; exact nn_s (show (none : Option (Int32)) = some _ from h)
    | succ n ih =>
      intro v7 v9 H locs ls hp hl h
      have h : X7_isSafe_37b N (fun v7 v9 => X7_isSafe_37 N k100 σ v2 v3 v5 n v7 v9) k100 σ v2 v3 v5 v7 v9 = some r := h
      unfold X7_isSafe_37b at h
      have hk37 := ih
      refine lv_iload hx hb dX7_isSafe_37 (lv_at hl 5 rfl) ?_
      refine lv_aload_n hx hb dX7_isSafe_39 rfl (lv_at hl 0 rfl) ?_
      obtain ⟨t1, ht1, h⟩ := bd_s h
      refine cl_Vi X eokM (c_X7_states ht1) tw_7_1 mw_X7_states (by decide) hp 0 rfl rfl rfl hl.1 rfl (Nat.le_of_ble_eq_true rfl) dX7_isSafe_40 (fun H locs hp => ?_)
      refine lv_icmp_ge (tgt := 100) hx hb dX7_isSafe_43 (by decide) (fun c2 => ?_) (fun c2 => ?_)
      · have h := it_p h c2
        exact hk100 v3 v7 _ _ _ hp (lv_sub hl [0, 1, 2, 4] rfl) h
      · have h := it_n h c2
        refine lv_iconst (v := 0) hx hb dX7_isSafe_46 (by decide) ?_
        refine lv_istore (lv' := [(10, .int (0 : Int32)), (0, .ref (a 0)), (2, .int v2), (3, .long v3), (5, .long v5), (7, .long v7), (9, .int v9)]) hx hb dX7_isSafe_47 hl (by decide) rfl (fun ls hl => ?_)
        exact J_49 v2 v3 v5 v9 _ (fun v7 v9 H locs ls hp hl h => J_94 v2 v3 v5 v7 v9 _ hk37 _ _ _ hp hl h) _ v7 (0 : Int32) _ _ _ hp (lv_sub hl [1, 2, 3, 4, 5, 6, 0] rfl) h
  have J_100 : ∀ (v2 : Int32) (v3 : Int64) (v7 : Int64) (k19 : (Int64 → Int64 → Option (Int32))) (hk19 : ∀ (v3 : Int64) (v5 : Int64) (H : Heap) (locs : List Loc) (ls : Array Slot), Pw D (wM a cA) A s.heap H locs σ → lv_has ls 11 [(0, .ref (a 0)), (2, .int v2), (3, .long v3), (5, .long v5)] → k19 v3 v5 = some r → W p l e R s m args below meth c H locs 0 0 Q (F0 m 19 ls [])) (H : Heap) (locs : List Loc) (ls : Array Slot), Pw D (wM a cA) A s.heap H locs σ → lv_has ls 11 [(0, .ref (a 0)), (2, .int v2), (3, .long v3), (7, .long v7)] → X7_isSafe_100 k19 σ v2 v3 v7 = some r → W p l e R s m args below meth c H locs 0 0 Q (F0 m 100 ls []) := by
    intro v2 v3 v7 k19 hk19 H locs ls hp hl h
    unfold X7_isSafe_100 at h
    refine lv_lload hx hb dX7_isSafe_100 (lv_at hl 3 rfl) ?_
    refine lv_lload_n hx hb dX7_isSafe_102 rfl (lv_at hl 2 rfl) ?_
    refine lv_ldc2 hx hb hown (hts _ tw_7_9) dX7_isSafe_103 ?_
    refine lv_lxor hx hb dX7_isSafe_106 ?_
    refine lv_land hx hb dX7_isSafe_107 ?_
    refine lv_topl (fun x1 ex1 => ?_)
    have h := nm_s h x1 ex1
    refine lv_lstore (lv' := [(5, .long x1), (0, .ref (a 0)), (2, .int v2), (3, .long v3), (7, .long v7)]) hx hb dX7_isSafe_108 hl (by decide) rfl (fun ls hl => ?_)
    refine lv_goto (tgt := 19) hx hb dX7_isSafe_110 (by decide) ?_
    exact hk19 v3 x1 _ _ _ hp (lv_sub hl [1, 2, 3, 0] rfl) h
  have J_19 : ∀ (v2 : Int32) (k113 : (Int64 → Option (Int32))) (hk113 : ∀ (v3 : Int64) (H : Heap) (locs : List Loc) (ls : Array Slot), Pw D (wM a cA) A s.heap H locs σ → lv_has ls 11 [(0, .ref (a 0)), (3, .long v3)] → k113 v3 = some r → W p l e R s m args below meth c H locs 0 0 Q (F0 m 113 ls [])) (n : Nat) (v3 : Int64) (v5 : Int64) (H : Heap) (locs : List Loc) (ls : Array Slot), Pw D (wM a cA) A s.heap H locs σ → lv_has ls 11 [(0, .ref (a 0)), (2, .int v2), (3, .long v3), (5, .long v5)] → X7_isSafe_19 N k113 σ v2 n v3 v5 = some r → W p l e R s m args below meth c H locs 0 0 Q (F0 m 19 ls []) := by
    intro v2 k113 hk113 n
    induction n with
    | zero => intro v3 v5 H locs ls hp hl h; exact nn_s (show (none : Option (Int32)) = some _ from h)
    | succ n ih =>
      intro v3 v5 H locs ls hp hl h
      have h : X7_isSafe_19b N (fun v3 v5 => X7_isSafe_19 N k113 σ v2 n v3 v5) k113 σ v2 v3 v5 = some r := h
      unfold X7_isSafe_19b at h
      have hk19 := ih
      refine lv_lload hx hb dX7_isSafe_19 (lv_at hl 3 rfl) ?_
      refine lv_lconst (v := 0) hx hb dX7_isSafe_21 (by decide) ?_
      refine W.lcmp hx hb dX7_isSafe_22 ?_
      refine lv_if_eq (tgt := 113) hx hb dX7_isSafe_23 (by decide) (fun c1 => ?_) (fun c1 => ?_)
      · have h := it_p h (lcmp0.mp c1)
        exact hk113 v3 _ _ _ hp (lv_sub hl [0, 2] rfl) h
      · have h := it_n h (fun q => c1 (lcmp0.mpr q))
        refine lv_lload_n hx hb dX7_isSafe_26 rfl (lv_at hl 2 rfl) ?_
        refine lv_lload hx hb dX7_isSafe_27 (lv_at hl 3 rfl) ?_
        refine lv_lor hx hb dX7_isSafe_29 ?_
        refine lv_topl (fun x2 ex2 => ?_)
        have h := nm_s h x2 ex2
        refine lv_lstore_n (lv' := [(3, .long x2), (0, .ref (a 0)), (2, .int v2), (5, .long v5)]) hx hb dX7_isSafe_30 rfl hl (by decide) rfl (fun ls hl => ?_)
        refine lv_lconst (v := 0) hx hb dX7_isSafe_31 (by decide) ?_
        refine lv_lstore (lv' := [(7, .long (0 : Int64)), (3, .long x2), (0, .ref (a 0)), (2, .int v2), (5, .long v5)]) hx hb dX7_isSafe_32 hl (by decide) rfl (fun ls hl => ?_)
        refine lv_iconst (v := 0) hx hb dX7_isSafe_34 (by decide) ?_
        refine lv_istore (lv' := [(9, .int (0 : Int32)), (7, .long (0 : Int64)), (3, .long x2), (0, .ref (a 0)), (2, .int v2), (5, .long v5)]) hx hb dX7_isSafe_35 hl (by decide) rfl (fun ls hl => ?_)
        exact J_37 v2 x2 v5 _ (fun v3 v7 H locs ls hp hl h => J_100 v2 v3 v7 _ hk19 _ _ _ hp hl h) _ (0 : Int64) (0 : Int32) _ _ _ hp (lv_sub hl [3, 4, 2, 5, 1, 0] rfl) h
  have J_113 : ∀ (v3 : Int64) (H : Heap) (locs : List Loc) (ls : Array Slot), Pw D (wM a cA) A s.heap H locs σ → lv_has ls 11 [(0, .ref (a 0)), (3, .long v3)] → X7_isSafe_113 σ v3 = some r → W p l e R s m args below meth c H locs 0 0 Q (F0 m 113 ls []) := by
    intro v3 H locs ls hp hl h
    unfold X7_isSafe_113 at h
    refine lv_lload_n hx hb dX7_isSafe_113 rfl (lv_at hl 1 rfl) ?_
    refine lv_aload_n hx hb dX7_isSafe_114 rfl (lv_at hl 0 rfl) ?_
    obtain ⟨t1, ht1, h⟩ := bd_s h
    refine cl_Vl X eokM (c_X7_bad ht1) tw_26_18 mw_X7_bad (by decide) hp 0 rfl rfl rfl hl.1 rfl (Nat.le_of_ble_eq_true rfl) dX7_isSafe_115 (fun H locs hp => ?_)
    refine lv_land hx hb dX7_isSafe_118 ?_
    refine lv_lconst (v := 0) hx hb dX7_isSafe_119 (by decide) ?_
    refine W.lcmp hx hb dX7_isSafe_120 ?_
    refine lv_if_ne (tgt := 128) hx hb dX7_isSafe_121 (by decide) (fun c2 => ?_) (fun c2 => ?_)
    · have h := it_n h (fun q => c2 (lcmp0.mpr q))
      refine lv_iconst (v := 0) hx hb dX7_isSafe_128 (by decide) ?_
      exact hR _ _ _ _ _ _ dX7_isSafe_129 hp (Option.some.inj h) rfl (fun _ => Or.inl rfl)
    · have h := it_p h (lcmp0.mp c2)
      refine lv_iconst (v := 1) hx hb dX7_isSafe_124 (by decide) ?_
      refine lv_goto (tgt := 129) hx hb dX7_isSafe_125 (by decide) ?_
      exact hR _ _ _ _ _ _ dX7_isSafe_129 hp (Option.some.inj h) rfl (fun _ => Or.inr rfl)
  unfold X7_isSafe at h
  have hl := lv_sub (l' := [(0, .ref (a 0)), (1, .int v1)]) hl [0, 1] rfl
  refine lv_aload_n hx hb dX7_isSafe_0 rfl (lv_at hl 0 rfl) ?_
  obtain ⟨t1, ht1, h⟩ := bd_s h
  refine cl_Vi X eokM (c_X7_states ht1) tw_7_1 mw_X7_states (by decide) hp 0 rfl rfl rfl hl.1 rfl (Nat.le_of_ble_eq_true rfl) dX7_isSafe_1 (fun H locs hp => ?_)
  refine lv_iconst (v := 1) hx hb dX7_isSafe_4 (by decide) ?_
  refine lv_isub hx hb dX7_isSafe_5 ?_
  refine lv_iload_n hx hb dX7_isSafe_6 rfl (lv_at hl 1 rfl) ?_
  refine lv_iconst (v := -1) hx hb dX7_isSafe_7 (by decide) ?_
  refine lv_ixor hx hb dX7_isSafe_8 ?_
  refine lv_iand hx hb dX7_isSafe_9 ?_
  refine lv_topi (fun x2 ex2 => ?_)
  have h := nm_s h x2 ex2
  refine lv_istore_n (lv' := [(2, .int x2), (0, .ref (a 0)), (1, .int v1)]) hx hb dX7_isSafe_10 rfl hl (by decide) rfl (fun ls hl => ?_)
  refine lv_lconst (v := 0) hx hb dX7_isSafe_11 (by decide) ?_
  refine lv_lstore_n (lv' := [(3, .long (0 : Int64)), (2, .int x2), (0, .ref (a 0)), (1, .int v1)]) hx hb dX7_isSafe_12 rfl hl (by decide) rfl (fun ls hl => ?_)
  refine lv_aload_n hx hb dX7_isSafe_13 rfl (lv_at hl 2 rfl) ?_
  refine gM_X7_init X hp tw_6_17 dX7_isSafe_14 ?_
  refine lv_topl (fun x3 ex3 => ?_)
  have h := nm_s h x3 ex3
  refine lv_lstore (lv' := [(5, .long x3), (3, .long (0 : Int64)), (2, .int x2), (0, .ref (a 0)), (1, .int v1)]) hx hb dX7_isSafe_17 hl (by decide) rfl (fun ls hl => ?_)
  exact J_19 x2 _ (fun v3 H locs ls hp hl h => J_113 v3 _ _ _ hp hl h) _ (0 : Int64) x3 _ _ _ hp (lv_sub hl [3, 2, 1, 0] rfl) h
def X7_isSafeWithFree_20 (N : Nat) (v1 : Int32) (u0 : Int32) (σ : St) : Option (Int32 × St) :=
  nm (si σ 0 u0) (fun (σ1 : St) =>
  if (σ1.1 0) = 0 then
    bd (X7_isSafe N σ1 v1) (fun t3 =>
    if t3 = 0 then
      some ((0 : Int32), σ1)
    else
      some ((1 : Int32), σ1))
  else
    some ((0 : Int32), σ1))
def X7_isSafeWithFree (N : Nat) (v1 : Int32) (σ : St) : Option (Int32 × St) :=
  bd (X7_states σ) (fun t1 =>
  bd (X7_within v1 (0 : Int32) (t1 - (1 : Int32))) (fun t2 =>
  if t2 = 0 then
    X7_isSafeWithFree_20 N v1 (1 : Int32) σ
  else
    X7_isSafeWithFree_20 N v1 (0 : Int32) σ))
set_option maxRecDepth 20000 in
set_option maxHeartbeats 4000000 in
theorem c_X7_isSafeWithFree {l : Launch} {D : va_G} {a : Nat → Nat} {cA : Nat → ClassId} {σ : St} {N : Nat} {v1 : Int32} {r : Int32} {σ' : St} (h : X7_isSafeWithFree N v1 σ = some (r, σ')) : MetI l yX7_isSafeWithFree cX7_isSafeWithFree 2 (some .boolean) 4 D (tyW cA) (wM a cA) EM [.ref (a 0), .int v1] σ r σ' := by
  refine mkI (by decide) (adrM a cA) (Or.inr rfl) (Nat.le_of_ble_eq_true rfl) ?_
  intro p e R s m args below meth c A Q ls X hR hp hl
  obtain ⟨hx, hb, -, hown, hts, -⟩ := id X
  have J_20 : ∀ (v1 : Int32) (u0 : Int32) (σ : St) (H : Heap) (locs : List Loc) (ls : Array Slot), Pw D (wM a cA) A s.heap H locs σ → lv_has ls 2 [(0, .ref (a 0)), (1, .int v1)] → X7_isSafeWithFree_20 N v1 u0 σ = some (r, σ') → W p l e R s m args below meth c H locs 0 0 Q (F0 m 20 ls [.int u0, .ref (a 0)]) := by
    intro v1 u0 σ H locs ls hp hl h
    unfold X7_isSafeWithFree_20 at h
    refine pM_X7_thrown X hp tw_8_9 dX7_isSafeWithFree_20 (fun H locs σ1 eσ1 hp => ?_)
    have h := nm_s h σ1 eσ1
    refine lv_aload_n hx hb dX7_isSafeWithFree_23 rfl (lv_at hl 0 rfl) ?_
    refine gM_X7_thrown X hp tw_8_9 dX7_isSafeWithFree_24 ?_
    refine lv_if_ne (tgt := 42) hx hb dX7_isSafeWithFree_27 (by decide) (fun c2 => ?_) (fun c2 => ?_)
    · have h := it_n h c2
      refine lv_iconst (v := 0) hx hb dX7_isSafeWithFree_42 (by decide) ?_
      exact hR _ _ _ _ _ _ dX7_isSafeWithFree_43 hp (congrArg Prod.fst (Option.some.inj h)) (congrArg Prod.snd (Option.some.inj h)) (fun _ => Or.inl rfl)
    · have h := it_p h c2
      refine lv_aload_n hx hb dX7_isSafeWithFree_30 rfl (lv_at hl 0 rfl) ?_
      refine lv_iload_n hx hb dX7_isSafeWithFree_31 rfl (lv_at hl 1 rfl) ?_
      obtain ⟨t3, ht3, h⟩ := bd_s h
      refine cl_Vi X eokM (c_X7_isSafe ht3) tw_52_13 mw_X7_isSafe (by decide) hp 0 rfl rfl rfl hl.1 rfl (Nat.le_of_ble_eq_true rfl) dX7_isSafeWithFree_32 (fun H locs hp => ?_)
      refine lv_if_eq (tgt := 42) hx hb dX7_isSafeWithFree_35 (by decide) (fun c4 => ?_) (fun c4 => ?_)
      · have h := it_p h c4
        refine lv_iconst (v := 0) hx hb dX7_isSafeWithFree_42 (by decide) ?_
        exact hR _ _ _ _ _ _ dX7_isSafeWithFree_43 hp (congrArg Prod.fst (Option.some.inj h)) (congrArg Prod.snd (Option.some.inj h)) (fun _ => Or.inl rfl)
      · have h := it_n h c4
        refine lv_iconst (v := 1) hx hb dX7_isSafeWithFree_38 (by decide) ?_
        refine lv_goto (tgt := 43) hx hb dX7_isSafeWithFree_39 (by decide) ?_
        exact hR _ _ _ _ _ _ dX7_isSafeWithFree_43 hp (congrArg Prod.fst (Option.some.inj h)) (congrArg Prod.snd (Option.some.inj h)) (fun _ => Or.inr rfl)
  unfold X7_isSafeWithFree at h
  have hl := lv_sub (l' := [(0, .ref (a 0)), (1, .int v1)]) hl [0, 1] rfl
  refine lv_aload_n hx hb dX7_isSafeWithFree_0 rfl (lv_at hl 0 rfl) ?_
  refine lv_iload_n hx hb dX7_isSafeWithFree_1 rfl (lv_at hl 1 rfl) ?_
  refine lv_iconst (v := 0) hx hb dX7_isSafeWithFree_2 (by decide) ?_
  refine lv_aload_n hx hb dX7_isSafeWithFree_3 rfl (lv_at hl 0 rfl) ?_
  obtain ⟨t1, ht1, h⟩ := bd_s h
  refine cl_Vi X eokM (c_X7_states ht1) tw_7_1 mw_X7_states (by decide) hp 0 rfl rfl rfl hl.1 rfl (Nat.le_of_ble_eq_true rfl) dX7_isSafeWithFree_4 (fun H locs hp => ?_)
  refine lv_iconst (v := 1) hx hb dX7_isSafeWithFree_7 (by decide) ?_
  refine lv_isub hx hb dX7_isSafeWithFree_8 ?_
  obtain ⟨t2, ht2, h⟩ := bd_s h
  refine cl_Si X eokM (c_X7_within (adrM a cA) eokM ht2) tw_8_10 mw_X7_within (by decide) hp hl.1 rfl (Nat.le_of_ble_eq_true rfl) dX7_isSafeWithFree_9 (fun H locs hp => ?_)
  refine lv_if_eq (tgt := 19) hx hb dX7_isSafeWithFree_12 (by decide) (fun c3 => ?_) (fun c3 => ?_)
  · have h := it_p h c3
    refine lv_iconst (v := 1) hx hb dX7_isSafeWithFree_19 (by decide) ?_
    exact J_20 v1 (1 : Int32) σ _ _ _ hp (lv_sub hl [0, 1] rfl) h
  · have h := it_n h c3
    refine lv_iconst (v := 0) hx hb dX7_isSafeWithFree_15 (by decide) ?_
    refine lv_goto (tgt := 20) hx hb dX7_isSafeWithFree_16 (by decide) ?_
    exact J_20 v1 (0 : Int32) σ _ _ _ hp (lv_sub hl [0, 1] rfl) h
def X7_coneNow_33 (N : Nat) (k4 : (Int32 → Int32 → Option (Int32))) (σ : St) (v1 : Int32) (v2 : Int32) (u0 : Int32) : Option (Int32) :=
  if u0 = 0 then
    nm (v2 + (1 : Int32)) (fun (x2 : Int32) =>
    k4 v1 x2)
  else
    bd (X7_states σ) (fun t3 =>
    bd (X7_isSafe N σ ((t3 - (1 : Int32)) &&& (v2 ^^^ (-1 : Int32)))) (fun t4 =>
    if t4 = 0 then
      nm (v2 + (1 : Int32)) (fun (x6 : Int32) =>
      k4 v1 x6)
    else
      nm (v2 + (1 : Int32)) (fun (x7 : Int32) =>
      k4 v2 x7)))
def X7_coneNow_4b (N : Nat) (k4 : (Int32 → Int32 → Option (Int32))) (k67 : (Int32 → Option (Int32))) (σ : St) (v1 : Int32) (v2 : Int32) : Option (Int32) :=
  bd (X7_states σ) (fun t1 =>
  if t1 ≤ v2 then
    k67 v1
  else
    if v1 = (-1 : Int32) then
      X7_coneNow_33 N k4 σ v1 v2 (1 : Int32)
    else
      bd (X7_ones N v2) (fun t4 =>
      bd (X7_ones N v1) (fun t5 =>
      if t5 ≤ t4 then
        X7_coneNow_33 N k4 σ v1 v2 (0 : Int32)
      else
        X7_coneNow_33 N k4 σ v1 v2 (1 : Int32))))
def X7_coneNow_4 (N : Nat) (k67 : (Int32 → Option (Int32))) (σ : St) : Nat → Int32 → Int32 → Option (Int32)
  | 0, _, _ => none
  | n + 1, v1, v2 => X7_coneNow_4b N (fun v1 v2 => X7_coneNow_4 N k67 σ n v1 v2) k67 σ v1 v2
def X7_coneNow_67 (σ : St) (v1 : Int32) : Option (Int32) :=
  some v1
def X7_coneNow (N : Nat) (σ : St) : Option (Int32) :=
  X7_coneNow_4 N (fun v1 => X7_coneNow_67 σ v1) σ N (-1 : Int32) (0 : Int32)
set_option maxRecDepth 20000 in
set_option maxHeartbeats 4000000 in
theorem c_X7_coneNow {l : Launch} {D : va_G} {a : Nat → Nat} {cA : Nat → ClassId} {σ : St} {N : Nat} {r : Int32} (h : X7_coneNow N σ = some r) : MetI l yX7_coneNow cX7_coneNow 4 (some .int) 4 D (tyW cA) (wM a cA) EM [.ref (a 0)] σ r σ := by
  refine mkI (by decide) (adrM a cA) (Or.inl rfl) (Nat.le_of_ble_eq_true rfl) ?_
  intro p e R s m args below meth c A Q ls X hR hp hl
  obtain ⟨hx, hb, -, hown, hts, -⟩ := id X
  have J_33 : ∀ (v1 : Int32) (v2 : Int32) (u0 : Int32) (k4 : (Int32 → Int32 → Option (Int32))) (hk4 : ∀ (v1 : Int32) (v2 : Int32) (H : Heap) (locs : List Loc) (ls : Array Slot), Pw D (wM a cA) A s.heap H locs σ → lv_has ls 4 [(0, .ref (a 0)), (1, .int v1), (2, .int v2)] → k4 v1 v2 = some r → W p l e R s m args below meth c H locs 0 0 Q (F0 m 4 ls [])) (H : Heap) (locs : List Loc) (ls : Array Slot), Pw D (wM a cA) A s.heap H locs σ → lv_has ls 4 [(0, .ref (a 0)), (1, .int v1), (2, .int v2)] → X7_coneNow_33 N k4 σ v1 v2 u0 = some r → W p l e R s m args below meth c H locs 0 0 Q (F0 m 33 ls [.int u0]) := by
    intro v1 v2 u0 k4 hk4 H locs ls hp hl h
    unfold X7_coneNow_33 at h
    refine lv_istore_n (lv' := [(3, .int u0), (0, .ref (a 0)), (1, .int v1), (2, .int v2)]) hx hb dX7_coneNow_33 rfl hl (by decide) rfl (fun ls hl => ?_)
    refine lv_iload_n hx hb dX7_coneNow_34 rfl (lv_at hl 0 rfl) ?_
    refine lv_if_eq (tgt := 59) hx hb dX7_coneNow_35 (by decide) (fun c1 => ?_) (fun c1 => ?_)
    · have h := it_p h c1
      refine lv_iload_n hx hb dX7_coneNow_59 rfl (lv_at hl 2 rfl) ?_
      refine lv_istore_n (lv' := [(1, .int v1), (3, .int u0), (0, .ref (a 0)), (2, .int v2)]) hx hb dX7_coneNow_60 rfl hl (by decide) rfl (fun ls hl => ?_)
      obtain ⟨x2, ex2⟩ : ∃ z : Int32, z = v2 + (1 : Int32) := ⟨_, rfl⟩
      have h := nm_s h x2 ex2
      refine lv_iinc (v := x2) (lv' := [(2, .int x2), (1, .int v1), (3, .int u0), (0, .ref (a 0))]) hx hb dX7_coneNow_61 hl (k := 3) rfl (by rw [ex2]; rfl) (by decide) rfl (fun ls hl => ?_)
      refine lv_goto (tgt := 4) hx hb dX7_coneNow_64 (by decide) ?_
      exact hk4 v1 x2 _ _ _ hp (lv_sub hl [3, 1, 0] rfl) h
    · have h := it_n h c1
      refine lv_aload_n hx hb dX7_coneNow_38 rfl (lv_at hl 1 rfl) ?_
      refine lv_aload_n hx hb dX7_coneNow_39 rfl (lv_at hl 1 rfl) ?_
      obtain ⟨t3, ht3, h⟩ := bd_s h
      refine cl_Vi X eokM (c_X7_states ht3) tw_7_1 mw_X7_states (by decide) hp 0 rfl rfl rfl hl.1 rfl (Nat.le_of_ble_eq_true rfl) dX7_coneNow_40 (fun H locs hp => ?_)
      refine lv_iconst (v := 1) hx hb dX7_coneNow_43 (by decide) ?_
      refine lv_isub hx hb dX7_coneNow_44 ?_
      refine lv_iload_n hx hb dX7_coneNow_45 rfl (lv_at hl 3 rfl) ?_
      refine lv_iconst (v := -1) hx hb dX7_coneNow_46 (by decide) ?_
      refine lv_ixor hx hb dX7_coneNow_47 ?_
      refine lv_iand hx hb dX7_coneNow_48 ?_
      obtain ⟨t4, ht4, h⟩ := bd_s h
      refine cl_Vi X eokM (c_X7_isSafe ht4) tw_52_13 mw_X7_isSafe (by decide) hp 0 rfl rfl rfl hl.1 rfl (Nat.le_of_ble_eq_true rfl) dX7_coneNow_49 (fun H locs hp => ?_)
      refine lv_if_eq (tgt := 59) hx hb dX7_coneNow_52 (by decide) (fun c5 => ?_) (fun c5 => ?_)
      · have h := it_p h c5
        refine lv_iload_n hx hb dX7_coneNow_59 rfl (lv_at hl 2 rfl) ?_
        refine lv_istore_n (lv' := [(1, .int v1), (3, .int u0), (0, .ref (a 0)), (2, .int v2)]) hx hb dX7_coneNow_60 rfl hl (by decide) rfl (fun ls hl => ?_)
        obtain ⟨x6, ex6⟩ : ∃ z : Int32, z = v2 + (1 : Int32) := ⟨_, rfl⟩
        have h := nm_s h x6 ex6
        refine lv_iinc (v := x6) (lv' := [(2, .int x6), (1, .int v1), (3, .int u0), (0, .ref (a 0))]) hx hb dX7_coneNow_61 hl (k := 3) rfl (by rw [ex6]; rfl) (by decide) rfl (fun ls hl => ?_)
        refine lv_goto (tgt := 4) hx hb dX7_coneNow_64 (by decide) ?_
        exact hk4 v1 x6 _ _ _ hp (lv_sub hl [3, 1, 0] rfl) h
      · have h := it_n h c5
        refine lv_iload_n hx hb dX7_coneNow_55 rfl (lv_at hl 3 rfl) ?_
        refine lv_goto (tgt := 60) hx hb dX7_coneNow_56 (by decide) ?_
        refine lv_istore_n (lv' := [(1, .int v2), (3, .int u0), (0, .ref (a 0)), (2, .int v2)]) hx hb dX7_coneNow_60 rfl hl (by decide) rfl (fun ls hl => ?_)
        obtain ⟨x7, ex7⟩ : ∃ z : Int32, z = v2 + (1 : Int32) := ⟨_, rfl⟩
        have h := nm_s h x7 ex7
        refine lv_iinc (v := x7) (lv' := [(2, .int x7), (1, .int v2), (3, .int u0), (0, .ref (a 0))]) hx hb dX7_coneNow_61 hl (k := 3) rfl (by rw [ex7]; rfl) (by decide) rfl (fun ls hl => ?_)
        refine lv_goto (tgt := 4) hx hb dX7_coneNow_64 (by decide) ?_
        exact hk4 v2 x7 _ _ _ hp (lv_sub hl [3, 1, 0] rfl) h
  have J_4 : ∀  (k67 : (Int32 → Option (Int32))) (hk67 : ∀ (v1 : Int32) (H : Heap) (locs : List Loc) (ls : Array Slot), Pw D (wM a cA) A s.heap H locs σ → lv_has ls 4 [(0, .ref (a 0)), (1, .int v1)] → k67 v1 = some r → W p l e R s m args below meth c H locs 0 0 Q (F0 m 67 ls [])) (n : Nat) (v1 : Int32) (v2 : Int32) (H : Heap) (locs : List Loc) (ls : Array Slot), Pw D (wM a cA) A s.heap H locs σ → lv_has ls 4 [(0, .ref (a 0)), (1, .int v1), (2, .int v2)] → X7_coneNow_4 N k67 σ n v1 v2 = some r → W p l e R s m args below meth c H locs 0 0 Q (F0 m 4 ls []) := by
    intro k67 hk67 n
    induction n with
    | zero => intro v1 v2 H locs ls hp hl h; exact nn_s (show (none : Option (Int32)) = some _ from h)
    | succ n ih =>
      intro v1 v2 H locs ls hp hl h
      have h : X7_coneNow_4b N (fun v1 v2 => X7_coneNow_4 N k67 σ n v1 v2) k67 σ v1 v2 = some r := h
      unfold X7_coneNow_4b at h
      have hk4 := ih
      refine lv_iload_n hx hb dX7_coneNow_4 rfl (lv_at hl 2 rfl) ?_
      refine lv_aload_n hx hb dX7_coneNow_5 rfl (lv_at hl 0 rfl) ?_
      obtain ⟨t1, ht1, h⟩ := bd_s h
      refine cl_Vi X eokM (c_X7_states ht1) tw_7_1 mw_X7_states (by decide) hp 0 rfl rfl rfl hl.1 rfl (Nat.le_of_ble_eq_true rfl) dX7_coneNow_6 (fun H locs hp => ?_)
      refine lv_icmp_ge (tgt := 67) hx hb dX7_coneNow_9 (by decide) (fun c2 => ?_) (fun c2 => ?_)
      · have h := it_p h c2
        exact hk67 v1 _ _ _ hp (lv_sub hl [0, 1] rfl) h
      · have h := it_n h c2
        refine lv_iload_n hx hb dX7_coneNow_12 rfl (lv_at hl 1 rfl) ?_
        refine lv_iconst (v := -1) hx hb dX7_coneNow_13 (by decide) ?_
        refine lv_icmp_eq (tgt := 28) hx hb dX7_coneNow_14 (by decide) (fun c3 => ?_) (fun c3 => ?_)
        · have h := it_p h c3
          refine lv_iconst (v := 1) hx hb dX7_coneNow_28 (by decide) ?_
          refine lv_goto (tgt := 33) hx hb dX7_coneNow_29 (by decide) ?_
          exact J_33 v1 v2 (1 : Int32) _ hk4 _ _ _ hp (lv_sub hl [0, 1, 2] rfl) h
        · have h := it_n h c3
          refine lv_iload_n hx hb dX7_coneNow_17 rfl (lv_at hl 2 rfl) ?_
          obtain ⟨t4, ht4, h⟩ := bd_s h
          refine cl_Si X eokM (c_X7_ones (adrM a cA) eokM ht4) tw_51_10 mw_X7_ones (by decide) hp hl.1 rfl (Nat.le_of_ble_eq_true rfl) dX7_coneNow_18 (fun H locs hp => ?_)
          refine lv_iload_n hx hb dX7_coneNow_21 rfl (lv_at hl 1 rfl) ?_
          obtain ⟨t5, ht5, h⟩ := bd_s h
          refine cl_Si X eokM (c_X7_ones (adrM a cA) eokM ht5) tw_51_10 mw_X7_ones (by decide) hp hl.1 rfl (Nat.le_of_ble_eq_true rfl) dX7_coneNow_22 (fun H locs hp => ?_)
          refine lv_icmp_ge (tgt := 32) hx hb dX7_coneNow_25 (by decide) (fun c6 => ?_) (fun c6 => ?_)
          · have h := it_p h c6
            refine lv_iconst (v := 0) hx hb dX7_coneNow_32 (by decide) ?_
            exact J_33 v1 v2 (0 : Int32) _ hk4 _ _ _ hp (lv_sub hl [0, 1, 2] rfl) h
          · have h := it_n h c6
            refine lv_iconst (v := 1) hx hb dX7_coneNow_28 (by decide) ?_
            refine lv_goto (tgt := 33) hx hb dX7_coneNow_29 (by decide) ?_
            exact J_33 v1 v2 (1 : Int32) _ hk4 _ _ _ hp (lv_sub hl [0, 1, 2] rfl) h
  have J_67 : ∀ (v1 : Int32) (H : Heap) (locs : List Loc) (ls : Array Slot), Pw D (wM a cA) A s.heap H locs σ → lv_has ls 4 [(0, .ref (a 0)), (1, .int v1)] → X7_coneNow_67 σ v1 = some r → W p l e R s m args below meth c H locs 0 0 Q (F0 m 67 ls []) := by
    intro v1 H locs ls hp hl h
    unfold X7_coneNow_67 at h
    refine lv_iload_n hx hb dX7_coneNow_67 rfl (lv_at hl 1 rfl) ?_
    exact hR _ _ _ _ _ _ dX7_coneNow_68 hp (Option.some.inj h) rfl (fun q => by cases q)
  unfold X7_coneNow at h
  have hl := lv_sub (l' := [(0, .ref (a 0))]) hl [0] rfl
  refine lv_iconst (v := -1) hx hb dX7_coneNow_0 (by decide) ?_
  refine lv_istore_n (lv' := [(1, .int (-1 : Int32)), (0, .ref (a 0))]) hx hb dX7_coneNow_1 rfl hl (by decide) rfl (fun ls hl => ?_)
  refine lv_iconst (v := 0) hx hb dX7_coneNow_2 (by decide) ?_
  refine lv_istore_n (lv' := [(2, .int (0 : Int32)), (1, .int (-1 : Int32)), (0, .ref (a 0))]) hx hb dX7_coneNow_3 rfl hl (by decide) rfl (fun ls hl => ?_)
  exact J_4 _ (fun v1 H locs ls hp hl h => J_67 v1 _ _ _ hp hl h) _ (-1 : Int32) (0 : Int32) _ _ _ hp (lv_sub hl [2, 1, 0] rfl) h
def X7_leastCone (N : Nat) (σ : St) : Option (Int32 × St) :=
  nm (si σ 0 (0 : Int32)) (fun (σ1 : St) =>
  bd (X7_coneNow N σ1) (fun t2 =>
  some (t2, σ1)))
set_option maxRecDepth 20000 in
set_option maxHeartbeats 4000000 in
theorem c_X7_leastCone {l : Launch} {D : va_G} {a : Nat → Nat} {cA : Nat → ClassId} {σ : St} {N : Nat} {r : Int32} {σ' : St} (h : X7_leastCone N σ = some (r, σ')) : MetI l yX7_leastCone cX7_leastCone 1 (some .int) 5 D (tyW cA) (wM a cA) EM [.ref (a 0)] σ r σ' := by
  refine mkI (by decide) (adrM a cA) (Or.inl rfl) (Nat.le_of_ble_eq_true rfl) ?_
  intro p e R s m args below meth c A Q ls X hR hp hl
  obtain ⟨hx, hb, -, hown, hts, -⟩ := id X
  unfold X7_leastCone at h
  have hl := lv_sub (l' := [(0, .ref (a 0))]) hl [0] rfl
  refine lv_aload_n hx hb dX7_leastCone_0 rfl (lv_at hl 0 rfl) ?_
  refine lv_iconst (v := 0) hx hb dX7_leastCone_1 (by decide) ?_
  refine pM_X7_thrown X hp tw_8_9 dX7_leastCone_2 (fun H locs σ1 eσ1 hp => ?_)
  have h := nm_s h σ1 eσ1
  refine lv_aload_n hx hb dX7_leastCone_5 rfl (lv_at hl 0 rfl) ?_
  obtain ⟨t2, ht2, h⟩ := bd_s h
  refine cl_Vi X eokM (c_X7_coneNow ht2) tw_53_6 mw_X7_coneNow (by decide) hp 0 rfl rfl rfl hl.1 rfl (Nat.le_of_ble_eq_true rfl) dX7_leastCone_6 (fun H locs hp => ?_)
  exact hR _ _ _ _ _ _ dX7_leastCone_9 hp (congrArg Prod.fst (Option.some.inj h)) (congrArg Prod.snd (Option.some.inj h)) (fun q => by cases q)
def X7_simulated_41b (N : Nat) (k41 : (Int64 → Int32 → Int64 → Int32 → Int32 → Option (Int32))) (k126 : (Int32 → Int32 → Int64 → Int32 → Option (Int32))) (σ : St) (v1 : Int32) (v3 : Int32) (v4 : Int64) (v6 : Int32) (v7 : Int64) (v9 : Int32) (v10 : Int32) : Option (Int32) :=
  if v1 < v10 then
    k126 v3 v6 v7 v9
  else
    nm ((((1103515245 : Int64) * v4) + (12345 : Int64)) - (((1103515245 : Int64) * v4) + (12345 : Int64)) / (2147483648 : Int64) * (2147483648 : Int64)) (fun (x2 : Int64) =>
    bd (X7_values σ) (fun t3 =>
    gd (¬ (t3.toInt64) = 0) (
    bd (X7_successorOf N σ v6 (((x2 / (65536 : Int64)) - (x2 / (65536 : Int64)) / (t3.toInt64) * (t3.toInt64)).toInt32)) (fun t5 =>
    nm (v7 ||| ((1 : Int64) <<< (t5.toInt64 &&& 63))) (fun (x6 : Int64) =>
    if v9 = (-1 : Int32) then
      bd (X7_has (σ.2.1 1) t5) (fun t9 =>
      if t9 = 0 then
        nm (v10 + (1 : Int32)) (fun (x12 : Int32) =>
        k41 x2 t5 x6 v10 x12)
      else
        nm (v10 + (1 : Int32)) (fun (x11 : Int32) =>
        k41 x2 t5 x6 v9 x11))
    else
      nm (v10 + (1 : Int32)) (fun (x8 : Int32) =>
      k41 x2 t5 x6 v9 x8))))))
def X7_simulated_41 (N : Nat) (k126 : (Int32 → Int32 → Int64 → Int32 → Option (Int32))) (σ : St) (v1 : Int32) (v3 : Int32) : Nat → Int64 → Int32 → Int64 → Int32 → Int32 → Option (Int32)
  | 0, _, _, _, _, _ => none
  | n + 1, v4, v6, v7, v9, v10 => X7_simulated_41b N (fun v4 v6 v7 v9 v10 => X7_simulated_41 N k126 σ v1 v3 n v4 v6 v7 v9 v10) k126 σ v1 v3 v4 v6 v7 v9 v10
def X7_simulated_126 (N : Nat) (σ : St) (v3 : Int32) (v6 : Int32) (v7 : Int64) (v9 : Int32) : Option (Int32) :=
  if v3 = 0 then
    some v6
  else
    if v3 = (1 : Int32) then
      bd (X7_size N v7) (fun t3 =>
      some t3)
    else
      some v9
def X7_simulated (N : Nat) (σ : St) (v1 : Int32) (v2 : Int32) (v3 : Int32) : Option (Int32) :=
  nm (v2.toInt64) (fun (x1 : Int64) =>
  bd (X7_least N (σ.2.1 0)) (fun t2 =>
  nm ((1 : Int64) <<< (t2.toInt64 &&& 63)) (fun (x3 : Int64) =>
  bd (X7_has (σ.2.1 1) t2) (fun t4 =>
  if t4 = 0 then
    X7_simulated_41 N (fun v3 v6 v7 v9 => X7_simulated_126 N σ v3 v6 v7 v9) σ v1 v3 N x1 t2 x3 (0 : Int32) (1 : Int32)
  else
    X7_simulated_41 N (fun v3 v6 v7 v9 => X7_simulated_126 N σ v3 v6 v7 v9) σ v1 v3 N x1 t2 x3 (-1 : Int32) (1 : Int32)))))
set_option maxRecDepth 20000 in
set_option maxHeartbeats 4000000 in
theorem c_X7_simulated {l : Launch} {D : va_G} {a : Nat → Nat} {cA : Nat → ClassId} {σ : St} {N : Nat} {v1 : Int32} {v2 : Int32} {v3 : Int32} {r : Int32} (h : X7_simulated N σ v1 v2 v3 = some r) : MetI l yX7_simulated cX7_simulated 11 (some .int) 2 D (tyW cA) (wM a cA) EM [.ref (a 0), .int v1, .int v2, .int v3] σ r σ := by
  refine mkI (by decide) (adrM a cA) (Or.inl rfl) (Nat.le_of_ble_eq_true rfl) ?_
  intro p e R s m args below meth c A Q ls X hR hp hl
  obtain ⟨hx, hb, -, hown, hts, -⟩ := id X
  have J_41 : ∀ (v1 : Int32) (v3 : Int32) (k126 : (Int32 → Int32 → Int64 → Int32 → Option (Int32))) (hk126 : ∀ (v3 : Int32) (v6 : Int32) (v7 : Int64) (v9 : Int32) (H : Heap) (locs : List Loc) (ls : Array Slot), Pw D (wM a cA) A s.heap H locs σ → lv_has ls 11 [(0, .ref (a 0)), (3, .int v3), (6, .int v6), (7, .long v7), (9, .int v9)] → k126 v3 v6 v7 v9 = some r → W p l e R s m args below meth c H locs 0 0 Q (F0 m 126 ls [])) (n : Nat) (v4 : Int64) (v6 : Int32) (v7 : Int64) (v9 : Int32) (v10 : Int32) (H : Heap) (locs : List Loc) (ls : Array Slot), Pw D (wM a cA) A s.heap H locs σ → lv_has ls 11 [(0, .ref (a 0)), (1, .int v1), (3, .int v3), (4, .long v4), (6, .int v6), (7, .long v7), (9, .int v9), (10, .int v10)] → X7_simulated_41 N k126 σ v1 v3 n v4 v6 v7 v9 v10 = some r → W p l e R s m args below meth c H locs 0 0 Q (F0 m 41 ls []) := by
    intro v1 v3 k126 hk126 n
    induction n with
    | zero => intro v4 v6 v7 v9 v10 H locs ls hp hl h; exact nn_s (show (none : Option (Int32)) = some _ from h)
    | succ n ih =>
      intro v4 v6 v7 v9 v10 H locs ls hp hl h
      have h : X7_simulated_41b N (fun v4 v6 v7 v9 v10 => X7_simulated_41 N k126 σ v1 v3 n v4 v6 v7 v9 v10) k126 σ v1 v3 v4 v6 v7 v9 v10 = some r := h
      unfold X7_simulated_41b at h
      have hk41 := ih
      refine lv_iload hx hb dX7_simulated_41 (lv_at hl 7 rfl) ?_
      refine lv_iload_n hx hb dX7_simulated_43 rfl (lv_at hl 1 rfl) ?_
      refine lv_icmp_gt (tgt := 126) hx hb dX7_simulated_44 (by decide) (fun c1 => ?_) (fun c1 => ?_)
      · have h := it_p h c1
        exact hk126 v3 v6 v7 v9 _ _ _ hp (lv_sub hl [0, 2, 4, 5, 6] rfl) h
      · have h := it_n h c1
        refine lv_ldc2 hx hb hown (hts _ tw_54_10) dX7_simulated_47 ?_
        refine lv_lload hx hb dX7_simulated_50 (lv_at hl 3 rfl) ?_
        refine lv_lmul hx hb dX7_simulated_52 ?_
        refine lv_ldc2 hx hb hown (hts _ tw_54_11) dX7_simulated_53 ?_
        refine lv_ladd hx hb dX7_simulated_56 ?_
        refine lv_ldc2 hx hb hown (hts _ tw_54_12) dX7_simulated_57 ?_
        refine lv_lrem hx hb dX7_simulated_60 (by decide) ?_
        refine lv_topl (fun x2 ex2 => ?_)
        have h := nm_s h x2 ex2
        refine lv_lstore (lv' := [(4, .long x2), (0, .ref (a 0)), (1, .int v1), (3, .int v3), (6, .int v6), (7, .long v7), (9, .int v9), (10, .int v10)]) hx hb dX7_simulated_61 hl (by decide) rfl (fun ls hl => ?_)
        refine lv_aload_n hx hb dX7_simulated_63 rfl (lv_at hl 1 rfl) ?_
        refine lv_iload hx hb dX7_simulated_64 (lv_at hl 4 rfl) ?_
        refine lv_lload hx hb dX7_simulated_66 (lv_at hl 0 rfl) ?_
        refine lv_ldc2 hx hb hown (hts _ tw_54_13) dX7_simulated_68 ?_
        refine lv_ldiv hx hb dX7_simulated_71 (by decide) ?_
        refine lv_aload_n hx hb dX7_simulated_72 rfl (lv_at hl 1 rfl) ?_
        obtain ⟨t3, ht3, h⟩ := bd_s h
        refine cl_Vi X eokM (c_X7_values ht3) tw_17_20 mw_X7_values (by decide) hp 0 rfl rfl rfl hl.1 rfl (Nat.le_of_ble_eq_true rfl) dX7_simulated_73 (fun H locs hp => ?_)
        refine lv_i2l hx hb dX7_simulated_76 rfl ?_
        obtain ⟨g4, h⟩ := gd_s h
        refine lv_lrem hx hb dX7_simulated_77 g4 ?_
        refine lv_l2i hx hb dX7_simulated_78 rfl ?_
        obtain ⟨t5, ht5, h⟩ := bd_s h
        refine cl_Vi X eokM (c_X7_successorOf ht5) tw_21_23 mw_X7_successorOf (by decide) hp 0 rfl rfl rfl hl.1 rfl (Nat.le_of_ble_eq_true rfl) dX7_simulated_79 (fun H locs hp => ?_)
        refine lv_istore (lv' := [(6, .int t5), (4, .long x2), (0, .ref (a 0)), (1, .int v1), (3, .int v3), (7, .long v7), (9, .int v9), (10, .int v10)]) hx hb dX7_simulated_82 hl (by decide) rfl (fun ls hl => ?_)
        refine lv_lload hx hb dX7_simulated_84 (lv_at hl 5 rfl) ?_
        refine lv_lconst (v := 1) hx hb dX7_simulated_86 (by decide) ?_
        refine lv_iload hx hb dX7_simulated_87 (lv_at hl 0 rfl) ?_
        refine lv_lshl hx hb dX7_simulated_89 rfl ?_
        refine lv_lor hx hb dX7_simulated_90 ?_
        refine lv_topl (fun x6 ex6 => ?_)
        have h := nm_s h x6 ex6
        refine lv_lstore (lv' := [(7, .long x6), (6, .int t5), (4, .long x2), (0, .ref (a 0)), (1, .int v1), (3, .int v3), (9, .int v9), (10, .int v10)]) hx hb dX7_simulated_91 hl (by decide) rfl (fun ls hl => ?_)
        refine lv_iload hx hb dX7_simulated_93 (lv_at hl 6 rfl) ?_
        refine lv_iconst (v := -1) hx hb dX7_simulated_95 (by decide) ?_
        refine lv_icmp_ne (tgt := 116) hx hb dX7_simulated_96 (by decide) (fun c7 => ?_) (fun c7 => ?_)
        · have h := it_n h c7
          refine lv_iload hx hb dX7_simulated_116 (lv_at hl 6 rfl) ?_
          refine lv_istore (lv' := [(9, .int v9), (7, .long x6), (6, .int t5), (4, .long x2), (0, .ref (a 0)), (1, .int v1), (3, .int v3), (10, .int v10)]) hx hb dX7_simulated_118 hl (by decide) rfl (fun ls hl => ?_)
          obtain ⟨x8, ex8⟩ : ∃ z : Int32, z = v10 + (1 : Int32) := ⟨_, rfl⟩
          have h := nm_s h x8 ex8
          refine lv_iinc (v := x8) (lv' := [(10, .int x8), (9, .int v9), (7, .long x6), (6, .int t5), (4, .long x2), (0, .ref (a 0)), (1, .int v1), (3, .int v3)]) hx hb dX7_simulated_120 hl (k := 7) rfl (by rw [ex8]; rfl) (by decide) rfl (fun ls hl => ?_)
          refine lv_goto (tgt := 41) hx hb dX7_simulated_123 (by decide) ?_
          exact hk41 x2 t5 x6 v9 x8 _ _ _ hp (lv_sub hl [5, 6, 7, 4, 3, 2, 1, 0] rfl) h
        · have h := it_p h c7
          refine lv_aload_n hx hb dX7_simulated_99 rfl (lv_at hl 3 rfl) ?_
          refine gM_X7_good X hp tw_6_18 dX7_simulated_100 ?_
          refine lv_iload hx hb dX7_simulated_103 (lv_at hl 1 rfl) ?_
          obtain ⟨t9, ht9, h⟩ := bd_s h
          refine cl_Si X eokM (c_X7_has (adrM a cA) eokM ht9) tw_18_3 mw_X7_has (by decide) hp hl.1 rfl (Nat.le_of_ble_eq_true rfl) dX7_simulated_105 (fun H locs hp => ?_)
          refine lv_if_ne (tgt := 116) hx hb dX7_simulated_108 (by decide) (fun c10 => ?_) (fun c10 => ?_)
          · have h := it_n h c10
            refine lv_iload hx hb dX7_simulated_116 (lv_at hl 6 rfl) ?_
            refine lv_istore (lv' := [(9, .int v9), (7, .long x6), (6, .int t5), (4, .long x2), (0, .ref (a 0)), (1, .int v1), (3, .int v3), (10, .int v10)]) hx hb dX7_simulated_118 hl (by decide) rfl (fun ls hl => ?_)
            obtain ⟨x11, ex11⟩ : ∃ z : Int32, z = v10 + (1 : Int32) := ⟨_, rfl⟩
            have h := nm_s h x11 ex11
            refine lv_iinc (v := x11) (lv' := [(10, .int x11), (9, .int v9), (7, .long x6), (6, .int t5), (4, .long x2), (0, .ref (a 0)), (1, .int v1), (3, .int v3)]) hx hb dX7_simulated_120 hl (k := 7) rfl (by rw [ex11]; rfl) (by decide) rfl (fun ls hl => ?_)
            refine lv_goto (tgt := 41) hx hb dX7_simulated_123 (by decide) ?_
            exact hk41 x2 t5 x6 v9 x11 _ _ _ hp (lv_sub hl [5, 6, 7, 4, 3, 2, 1, 0] rfl) h
          · have h := it_p h c10
            refine lv_iload hx hb dX7_simulated_111 (lv_at hl 7 rfl) ?_
            refine lv_goto (tgt := 118) hx hb dX7_simulated_113 (by decide) ?_
            refine lv_istore (lv' := [(9, .int v10), (7, .long x6), (6, .int t5), (4, .long x2), (0, .ref (a 0)), (1, .int v1), (3, .int v3), (10, .int v10)]) hx hb dX7_simulated_118 hl (by decide) rfl (fun ls hl => ?_)
            obtain ⟨x12, ex12⟩ : ∃ z : Int32, z = v10 + (1 : Int32) := ⟨_, rfl⟩
            have h := nm_s h x12 ex12
            refine lv_iinc (v := x12) (lv' := [(10, .int x12), (9, .int v10), (7, .long x6), (6, .int t5), (4, .long x2), (0, .ref (a 0)), (1, .int v1), (3, .int v3)]) hx hb dX7_simulated_120 hl (k := 7) rfl (by rw [ex12]; rfl) (by decide) rfl (fun ls hl => ?_)
            refine lv_goto (tgt := 41) hx hb dX7_simulated_123 (by decide) ?_
            exact hk41 x2 t5 x6 v10 x12 _ _ _ hp (lv_sub hl [5, 6, 7, 4, 3, 2, 1, 0] rfl) h
  have J_126 : ∀ (v3 : Int32) (v6 : Int32) (v7 : Int64) (v9 : Int32) (H : Heap) (locs : List Loc) (ls : Array Slot), Pw D (wM a cA) A s.heap H locs σ → lv_has ls 11 [(0, .ref (a 0)), (3, .int v3), (6, .int v6), (7, .long v7), (9, .int v9)] → X7_simulated_126 N σ v3 v6 v7 v9 = some r → W p l e R s m args below meth c H locs 0 0 Q (F0 m 126 ls []) := by
    intro v3 v6 v7 v9 H locs ls hp hl h
    unfold X7_simulated_126 at h
    refine lv_iload_n hx hb dX7_simulated_126 rfl (lv_at hl 1 rfl) ?_
    refine lv_if_ne (tgt := 135) hx hb dX7_simulated_127 (by decide) (fun c1 => ?_) (fun c1 => ?_)
    · have h := it_n h c1
      refine lv_iload_n hx hb dX7_simulated_135 rfl (lv_at hl 1 rfl) ?_
      refine lv_iconst (v := 1) hx hb dX7_simulated_136 (by decide) ?_
      refine lv_icmp_ne (tgt := 148) hx hb dX7_simulated_137 (by decide) (fun c2 => ?_) (fun c2 => ?_)
      · have h := it_n h c2
        refine lv_iload hx hb dX7_simulated_148 (lv_at hl 4 rfl) ?_
        exact hR _ _ _ _ _ _ dX7_simulated_150 hp (Option.some.inj h) rfl (fun q => by cases q)
      · have h := it_p h c2
        refine lv_lload hx hb dX7_simulated_140 (lv_at hl 3 rfl) ?_
        obtain ⟨t3, ht3, h⟩ := bd_s h
        refine cl_Si X eokM (c_X7_size (adrM a cA) eokM ht3) tw_18_0 mw_X7_size (by decide) hp hl.1 rfl (Nat.le_of_ble_eq_true rfl) dX7_simulated_142 (fun H locs hp => ?_)
        refine lv_goto (tgt := 150) hx hb dX7_simulated_145 (by decide) ?_
        exact hR _ _ _ _ _ _ dX7_simulated_150 hp (Option.some.inj h) rfl (fun q => by cases q)
    · have h := it_p h c1
      refine lv_iload hx hb dX7_simulated_130 (lv_at hl 2 rfl) ?_
      refine lv_goto (tgt := 150) hx hb dX7_simulated_132 (by decide) ?_
      exact hR _ _ _ _ _ _ dX7_simulated_150 hp (Option.some.inj h) rfl (fun q => by cases q)
  unfold X7_simulated at h
  have hl := lv_sub (l' := [(0, .ref (a 0)), (1, .int v1), (2, .int v2), (3, .int v3)]) hl [0, 1, 2, 3] rfl
  refine lv_iload_n hx hb dX7_simulated_0 rfl (lv_at hl 2 rfl) ?_
  refine lv_i2l hx hb dX7_simulated_1 rfl ?_
  refine lv_topl (fun x1 ex1 => ?_)
  have h := nm_s h x1 ex1
  refine lv_lstore (lv' := [(4, .long x1), (0, .ref (a 0)), (1, .int v1), (2, .int v2), (3, .int v3)]) hx hb dX7_simulated_2 hl (by decide) rfl (fun ls hl => ?_)
  refine lv_aload_n hx hb dX7_simulated_4 rfl (lv_at hl 1 rfl) ?_
  refine gM_X7_init X hp tw_6_17 dX7_simulated_5 ?_
  obtain ⟨t2, ht2, h⟩ := bd_s h
  refine cl_Si X eokM (c_X7_least (adrM a cA) eokM ht2) tw_27_18 mw_X7_least (by decide) hp hl.1 rfl (Nat.le_of_ble_eq_true rfl) dX7_simulated_8 (fun H locs hp => ?_)
  refine lv_istore (lv' := [(6, .int t2), (4, .long x1), (0, .ref (a 0)), (1, .int v1), (2, .int v2), (3, .int v3)]) hx hb dX7_simulated_11 hl (by decide) rfl (fun ls hl => ?_)
  refine lv_lconst (v := 1) hx hb dX7_simulated_13 (by decide) ?_
  refine lv_iload hx hb dX7_simulated_14 (lv_at hl 0 rfl) ?_
  refine lv_lshl hx hb dX7_simulated_16 rfl ?_
  refine lv_topl (fun x3 ex3 => ?_)
  have h := nm_s h x3 ex3
  refine lv_lstore (lv' := [(7, .long x3), (6, .int t2), (4, .long x1), (0, .ref (a 0)), (1, .int v1), (2, .int v2), (3, .int v3)]) hx hb dX7_simulated_17 hl (by decide) rfl (fun ls hl => ?_)
  refine lv_aload_n hx hb dX7_simulated_19 rfl (lv_at hl 3 rfl) ?_
  refine gM_X7_good X hp tw_6_18 dX7_simulated_20 ?_
  refine lv_iload hx hb dX7_simulated_23 (lv_at hl 1 rfl) ?_
  obtain ⟨t4, ht4, h⟩ := bd_s h
  refine cl_Si X eokM (c_X7_has (adrM a cA) eokM ht4) tw_18_3 mw_X7_has (by decide) hp hl.1 rfl (Nat.le_of_ble_eq_true rfl) dX7_simulated_25 (fun H locs hp => ?_)
  refine lv_if_eq (tgt := 35) hx hb dX7_simulated_28 (by decide) (fun c5 => ?_) (fun c5 => ?_)
  · have h := it_p h c5
    refine lv_iconst (v := 0) hx hb dX7_simulated_35 (by decide) ?_
    refine lv_istore (lv' := [(9, .int (0 : Int32)), (7, .long x3), (6, .int t2), (4, .long x1), (0, .ref (a 0)), (1, .int v1), (2, .int v2), (3, .int v3)]) hx hb dX7_simulated_36 hl (by decide) rfl (fun ls hl => ?_)
    refine lv_iconst (v := 1) hx hb dX7_simulated_38 (by decide) ?_
    refine lv_istore (lv' := [(10, .int (1 : Int32)), (9, .int (0 : Int32)), (7, .long x3), (6, .int t2), (4, .long x1), (0, .ref (a 0)), (1, .int v1), (2, .int v2), (3, .int v3)]) hx hb dX7_simulated_39 hl (by decide) rfl (fun ls hl => ?_)
    exact J_41 v1 v3 _ (fun v3 v6 v7 v9 H locs ls hp hl h => J_126 v3 v6 v7 v9 _ _ _ hp hl h) _ x1 t2 x3 (0 : Int32) (1 : Int32) _ _ _ hp (lv_sub hl [5, 6, 8, 4, 3, 2, 1, 0] rfl) h
  · have h := it_n h c5
    refine lv_iconst (v := -1) hx hb dX7_simulated_31 (by decide) ?_
    refine lv_goto (tgt := 36) hx hb dX7_simulated_32 (by decide) ?_
    refine lv_istore (lv' := [(9, .int (-1 : Int32)), (7, .long x3), (6, .int t2), (4, .long x1), (0, .ref (a 0)), (1, .int v1), (2, .int v2), (3, .int v3)]) hx hb dX7_simulated_36 hl (by decide) rfl (fun ls hl => ?_)
    refine lv_iconst (v := 1) hx hb dX7_simulated_38 (by decide) ?_
    refine lv_istore (lv' := [(10, .int (1 : Int32)), (9, .int (-1 : Int32)), (7, .long x3), (6, .int t2), (4, .long x1), (0, .ref (a 0)), (1, .int v1), (2, .int v2), (3, .int v3)]) hx hb dX7_simulated_39 hl (by decide) rfl (fun ls hl => ?_)
    exact J_41 v1 v3 _ (fun v3 v6 v7 v9 H locs ls hp hl h => J_126 v3 v6 v7 v9 _ _ _ hp hl h) _ x1 t2 x3 (-1 : Int32) (1 : Int32) _ _ _ hp (lv_sub hl [5, 6, 8, 4, 3, 2, 1, 0] rfl) h
def X7_simulate_42 (N : Nat) (v1 : Int32) (v2 : Int32) (v3 : Int32) (u0 : Int32) (σ : St) : Option (Int32 × St) :=
  nm (si σ 0 u0) (fun (σ1 : St) =>
  if (σ1.1 0) ≤ 0 then
    bd (X7_simulated N σ1 v1 v2 v3) (fun t3 =>
    some (t3, σ1))
  else
    some ((0 : Int32), σ1))
def X7_simulate (N : Nat) (v1 : Int32) (v2 : Int32) (v3 : Int32) (σ : St) : Option (Int32 × St) :=
  bd (X7_within v1 (0 : Int32) (100 : Int32)) (fun t1 =>
  if t1 = 0 then
    X7_simulate_42 N v1 v2 v3 (1 : Int32) σ
  else
    if v2 < 0 then
      X7_simulate_42 N v1 v2 v3 (1 : Int32) σ
    else
      bd (X7_within v3 (0 : Int32) (2 : Int32)) (fun t4 =>
      if t4 = 0 then
        X7_simulate_42 N v1 v2 v3 (1 : Int32) σ
      else
        if (σ.2.1 0) = (0 : Int64) then
          X7_simulate_42 N v1 v2 v3 (2 : Int32) σ
        else
          X7_simulate_42 N v1 v2 v3 (0 : Int32) σ))
set_option maxRecDepth 20000 in
set_option maxHeartbeats 4000000 in
theorem c_X7_simulate {l : Launch} {D : va_G} {a : Nat → Nat} {cA : Nat → ClassId} {σ : St} {N : Nat} {v1 : Int32} {v2 : Int32} {v3 : Int32} {r : Int32} {σ' : St} (h : X7_simulate N v1 v2 v3 σ = some (r, σ')) : MetI l yX7_simulate cX7_simulate 4 (some .int) 3 D (tyW cA) (wM a cA) EM [.ref (a 0), .int v1, .int v2, .int v3] σ r σ' := by
  refine mkI (by decide) (adrM a cA) (Or.inl rfl) (Nat.le_of_ble_eq_true rfl) ?_
  intro p e R s m args below meth c A Q ls X hR hp hl
  obtain ⟨hx, hb, -, hown, hts, -⟩ := id X
  have J_42 : ∀ (v1 : Int32) (v2 : Int32) (v3 : Int32) (u0 : Int32) (σ : St) (H : Heap) (locs : List Loc) (ls : Array Slot), Pw D (wM a cA) A s.heap H locs σ → lv_has ls 4 [(0, .ref (a 0)), (1, .int v1), (2, .int v2), (3, .int v3)] → X7_simulate_42 N v1 v2 v3 u0 σ = some (r, σ') → W p l e R s m args below meth c H locs 0 0 Q (F0 m 42 ls [.int u0, .ref (a 0)]) := by
    intro v1 v2 v3 u0 σ H locs ls hp hl h
    unfold X7_simulate_42 at h
    refine pM_X7_thrown X hp tw_8_9 dX7_simulate_42 (fun H locs σ1 eσ1 hp => ?_)
    have h := nm_s h σ1 eσ1
    refine lv_aload_n hx hb dX7_simulate_45 rfl (lv_at hl 0 rfl) ?_
    refine gM_X7_thrown X hp tw_8_9 dX7_simulate_46 ?_
    refine lv_if_le (tgt := 56) hx hb dX7_simulate_49 (by decide) (fun c2 => ?_) (fun c2 => ?_)
    · have h := it_p h c2
      refine lv_aload_n hx hb dX7_simulate_56 rfl (lv_at hl 0 rfl) ?_
      refine lv_iload_n hx hb dX7_simulate_57 rfl (lv_at hl 1 rfl) ?_
      refine lv_iload_n hx hb dX7_simulate_58 rfl (lv_at hl 2 rfl) ?_
      refine lv_iload_n hx hb dX7_simulate_59 rfl (lv_at hl 3 rfl) ?_
      obtain ⟨t3, ht3, h⟩ := bd_s h
      refine cl_Vi X eokM (c_X7_simulated ht3) tw_54_6 mw_X7_simulated (by decide) hp 0 rfl rfl rfl hl.1 rfl (Nat.le_of_ble_eq_true rfl) dX7_simulate_60 (fun H locs hp => ?_)
      exact hR _ _ _ _ _ _ dX7_simulate_63 hp (congrArg Prod.fst (Option.some.inj h)) (congrArg Prod.snd (Option.some.inj h)) (fun q => by cases q)
    · have h := it_n h c2
      refine lv_iconst (v := 0) hx hb dX7_simulate_52 (by decide) ?_
      refine lv_goto (tgt := 63) hx hb dX7_simulate_53 (by decide) ?_
      exact hR _ _ _ _ _ _ dX7_simulate_63 hp (congrArg Prod.fst (Option.some.inj h)) (congrArg Prod.snd (Option.some.inj h)) (fun q => by cases q)
  unfold X7_simulate at h
  have hl := lv_sub (l' := [(0, .ref (a 0)), (1, .int v1), (2, .int v2), (3, .int v3)]) hl [0, 1, 2, 3] rfl
  refine lv_aload_n hx hb dX7_simulate_0 rfl (lv_at hl 0 rfl) ?_
  refine lv_iload_n hx hb dX7_simulate_1 rfl (lv_at hl 1 rfl) ?_
  refine lv_iconst (v := 0) hx hb dX7_simulate_2 (by decide) ?_
  refine lv_bipush (v := 100) hx hb dX7_simulate_3 (by decide) ?_
  obtain ⟨t1, ht1, h⟩ := bd_s h
  refine cl_Si X eokM (c_X7_within (adrM a cA) eokM ht1) tw_8_10 mw_X7_within (by decide) hp hl.1 rfl (Nat.le_of_ble_eq_true rfl) dX7_simulate_5 (fun H locs hp => ?_)
  refine lv_if_eq (tgt := 24) hx hb dX7_simulate_8 (by decide) (fun c2 => ?_) (fun c2 => ?_)
  · have h := it_p h c2
    refine lv_iconst (v := 1) hx hb dX7_simulate_24 (by decide) ?_
    refine lv_goto (tgt := 42) hx hb dX7_simulate_25 (by decide) ?_
    exact J_42 v1 v2 v3 (1 : Int32) σ _ _ _ hp (lv_sub hl [0, 1, 2, 3] rfl) h
  · have h := it_n h c2
    refine lv_iload_n hx hb dX7_simulate_11 rfl (lv_at hl 2 rfl) ?_
    refine lv_if_lt (tgt := 24) hx hb dX7_simulate_12 (by decide) (fun c3 => ?_) (fun c3 => ?_)
    · have h := it_p h c3
      refine lv_iconst (v := 1) hx hb dX7_simulate_24 (by decide) ?_
      refine lv_goto (tgt := 42) hx hb dX7_simulate_25 (by decide) ?_
      exact J_42 v1 v2 v3 (1 : Int32) σ _ _ _ hp (lv_sub hl [0, 1, 2, 3] rfl) h
    · have h := it_n h c3
      refine lv_iload_n hx hb dX7_simulate_15 rfl (lv_at hl 3 rfl) ?_
      refine lv_iconst (v := 0) hx hb dX7_simulate_16 (by decide) ?_
      refine lv_iconst (v := 2) hx hb dX7_simulate_17 (by decide) ?_
      obtain ⟨t4, ht4, h⟩ := bd_s h
      refine cl_Si X eokM (c_X7_within (adrM a cA) eokM ht4) tw_8_10 mw_X7_within (by decide) hp hl.1 rfl (Nat.le_of_ble_eq_true rfl) dX7_simulate_18 (fun H locs hp => ?_)
      refine lv_if_ne (tgt := 28) hx hb dX7_simulate_21 (by decide) (fun c5 => ?_) (fun c5 => ?_)
      · have h := it_n h c5
        refine lv_aload_n hx hb dX7_simulate_28 rfl (lv_at hl 0 rfl) ?_
        refine gM_X7_init X hp tw_6_17 dX7_simulate_29 ?_
        refine lv_lconst (v := 0) hx hb dX7_simulate_32 (by decide) ?_
        refine W.lcmp hx hb dX7_simulate_33 ?_
        refine lv_if_ne (tgt := 41) hx hb dX7_simulate_34 (by decide) (fun c6 => ?_) (fun c6 => ?_)
        · have h := it_n h (fun q => c6 (lcmp0.mpr q))
          refine lv_iconst (v := 0) hx hb dX7_simulate_41 (by decide) ?_
          exact J_42 v1 v2 v3 (0 : Int32) σ _ _ _ hp (lv_sub hl [0, 1, 2, 3] rfl) h
        · have h := it_p h (lcmp0.mp c6)
          refine lv_iconst (v := 2) hx hb dX7_simulate_37 (by decide) ?_
          refine lv_goto (tgt := 42) hx hb dX7_simulate_38 (by decide) ?_
          exact J_42 v1 v2 v3 (2 : Int32) σ _ _ _ hp (lv_sub hl [0, 1, 2, 3] rfl) h
      · have h := it_p h c5
        refine lv_iconst (v := 1) hx hb dX7_simulate_24 (by decide) ?_
        refine lv_goto (tgt := 42) hx hb dX7_simulate_25 (by decide) ?_
        exact J_42 v1 v2 v3 (1 : Int32) σ _ _ _ hp (lv_sub hl [0, 1, 2, 3] rfl) h
