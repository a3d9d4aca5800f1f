/- X7_modal X7_cubeSet X7_cubeAt X7_frameOf X7_isBlocked X7_generalized X7_dropCubes X7_addCube X7_moveOn -/
def X7_modal_26 (N : Nat) (v1 : Int32) (u0 : Int32) (σ : St) : Option (Int64 × St) :=
  nm (si σ 0 u0) (fun (σ1 : St) =>
  if (σ1.1 0) ≤ 0 then
    bd (X7_modalNow N v1 σ1) (fun t3 =>
    some (t3.1, t3.2))
  else
    some ((0 : Int64), σ1))
def X7_modal (N : Nat) (v1 : Int32) (σ : St) : Option (Int64 × St) :=
  bd (X7_within v1 (0 : Int32) (5 : Int32)) (fun t1 =>
  if t1 = 0 then
    X7_modal_26 N v1 (1 : Int32) σ
  else
    bd (X7_isPlain N σ) (fun t3 =>
    if t3.1 = 0 then
      X7_modal_26 N v1 (2 : Int32) t3.2
    else
      X7_modal_26 N v1 (0 : Int32) t3.2))
set_option maxRecDepth 20000 in
set_option maxHeartbeats 4000000 in
theorem c_X7_modal {l : Launch} {D : va_G} {a : Nat → Nat} {cA : Nat → ClassId} {σ : St} {N : Nat} {v1 : Int32} {r : Int64} {σ' : St} (h : X7_modal N v1 σ = some (r, σ')) : MetL l yX7_modal cX7_modal 2 (some .long) 7 D (tyW cA) (wM a cA) EM [.ref (a 0), .int v1] σ r σ' := by
  refine mkL (by decide) (adrM a cA) rfl (Nat.le_of_ble_eq_true rfl) ?_
  intro p e R s m args below meth c A Q ls X hR hp hl
  obtain ⟨hx, hb, -, hown, hts, -⟩ := id X
  have J_26 : ∀ (v1 : Int32) (u0 : Int32) (σ : St) (H : Heap) (locs : List Loc) (ls : Array Slot), Pw D (wM a cA) A s.heap H locs σ → lv_has ls 2 [(0, .ref (a 0)), (1, .int v1)] → X7_modal_26 N v1 u0 σ = some (r, σ') → W p l e R s m args below meth c H locs 0 0 Q (F0 m 26 ls [.int u0, .ref (a 0)]) := by
    intro v1 u0 σ H locs ls hp hl h
    unfold X7_modal_26 at h
    refine pM_X7_thrown X hp tw_8_9 dX7_modal_26 (fun H locs σ1 eσ1 hp => ?_)
    have h := nm_s h σ1 eσ1
    refine lv_aload_n hx hb dX7_modal_29 rfl (lv_at hl 0 rfl) ?_
    refine gM_X7_thrown X hp tw_8_9 dX7_modal_30 ?_
    refine lv_if_le (tgt := 40) hx hb dX7_modal_33 (by decide) (fun c2 => ?_) (fun c2 => ?_)
    · have h := it_p h c2
      refine lv_aload_n hx hb dX7_modal_40 rfl (lv_at hl 0 rfl) ?_
      refine lv_iload_n hx hb dX7_modal_41 rfl (lv_at hl 1 rfl) ?_
      obtain ⟨t3, ht3, h⟩ := bd_s h
      refine cl_Vl X eokM (c_X7_modalNow ht3) tw_34_3 mw_X7_modalNow (by decide) hp 0 rfl rfl rfl hl.1 rfl (Nat.le_of_ble_eq_true rfl) dX7_modal_42 (fun H locs hp => ?_)
      exact hR _ _ _ _ _ _ dX7_modal_45 hp (congrArg Prod.fst (Option.some.inj h)) (congrArg Prod.snd (Option.some.inj h))
    · have h := it_n h c2
      refine lv_lconst (v := 0) hx hb dX7_modal_36 (by decide) ?_
      refine lv_goto (tgt := 45) hx hb dX7_modal_37 (by decide) ?_
      exact hR _ _ _ _ _ _ dX7_modal_45 hp (congrArg Prod.fst (Option.some.inj h)) (congrArg Prod.snd (Option.some.inj h))
  unfold X7_modal at h
  have hl := lv_sub (l' := [(0, .ref (a 0)), (1, .int v1)]) hl [0, 1] rfl
  refine lv_aload_n hx hb dX7_modal_0 rfl (lv_at hl 0 rfl) ?_
  refine lv_iload_n hx hb dX7_modal_1 rfl (lv_at hl 1 rfl) ?_
  refine lv_iconst (v := 0) hx hb dX7_modal_2 (by decide) ?_
  refine lv_iconst (v := 5) hx hb dX7_modal_3 (by decide) ?_
  obtain ⟨t1, ht1, h⟩ := bd_s h
  refine cl_Si X eokM (c_X7_within (adrM a cA) eokM ht1) tw_8_10 mw_X7_within (by decide) hp hl.1 rfl (Nat.le_of_ble_eq_true rfl) dX7_modal_4 (fun H locs hp => ?_)
  refine lv_if_ne (tgt := 14) hx hb dX7_modal_7 (by decide) (fun c2 => ?_) (fun c2 => ?_)
  · have h := it_n h c2
    refine lv_aload_n hx hb dX7_modal_14 rfl (lv_at hl 0 rfl) ?_
    obtain ⟨t3, ht3, h⟩ := bd_s h
    refine cl_Vi X eokM (c_X7_isPlain ht3) tw_19_10 mw_X7_isPlain (by decide) hp 0 rfl rfl rfl hl.1 rfl (Nat.le_of_ble_eq_true rfl) dX7_modal_15 (fun H locs hp => ?_)
    refine lv_if_eq (tgt := 25) hx hb dX7_modal_18 (by decide) (fun c4 => ?_) (fun c4 => ?_)
    · have h := it_p h c4
      refine lv_iconst (v := 2) hx hb dX7_modal_25 (by decide) ?_
      exact J_26 v1 (2 : Int32) t3.2 _ _ _ hp (lv_sub hl [0, 1] rfl) h
    · have h := it_n h c4
      refine lv_iconst (v := 0) hx hb dX7_modal_21 (by decide) ?_
      refine lv_goto (tgt := 26) hx hb dX7_modal_22 (by decide) ?_
      exact J_26 v1 (0 : Int32) t3.2 _ _ _ hp (lv_sub hl [0, 1] rfl) h
  · have h := it_p h c2
    refine lv_iconst (v := 1) hx hb dX7_modal_10 (by decide) ?_
    refine lv_goto (tgt := 26) hx hb dX7_modal_11 (by decide) ?_
    exact J_26 v1 (1 : Int32) σ _ _ _ hp (lv_sub hl [0, 1] rfl) h
def X7_cubeSet_5b (k5 : (Int64 → Int32 → Option (Int64))) (k39 : (Int64 → Option (Int64))) (σ : St) (v1 : Int32) (v2 : Int32) (v3 : Int64) (v5 : Int32) : Option (Int64) :=
  bd (X7_states σ) (fun t1 =>
  if t1 ≤ v5 then
    k39 v3
  else
    if (v5 &&& v1) = v2 then
      nm (v3 ||| ((1 : Int64) <<< (v5.toInt64 &&& 63))) (fun (x6 : Int64) =>
      nm (v5 + (1 : Int32)) (fun (x7 : Int32) =>
      k5 x6 x7))
    else
      nm (v3 ||| (0 : Int64)) (fun (x4 : Int64) =>
      nm (v5 + (1 : Int32)) (fun (x5 : Int32) =>
      k5 x4 x5)))
def X7_cubeSet_5 (k39 : (Int64 → Option (Int64))) (σ : St) (v1 : Int32) (v2 : Int32) : Nat → Int64 → Int32 → Option (Int64)
  | 0, _, _ => none
  | n + 1, v3, v5 => X7_cubeSet_5b (fun v3 v5 => X7_cubeSet_5 k39 σ v1 v2 n v3 v5) k39 σ v1 v2 v3 v5
def X7_cubeSet_39 (σ : St) (v3 : Int64) : Option (Int64) :=
  some v3
def X7_cubeSet (N : Nat) (σ : St) (v1 : Int32) (v2 : Int32) : Option (Int64) :=
  X7_cubeSet_5 (fun v3 => X7_cubeSet_39 σ v3) σ v1 v2 N (0 : Int64) (0 : Int32)
set_option maxRecDepth 20000 in
set_option maxHeartbeats 4000000 in
theorem c_X7_cubeSet {l : Launch} {D : va_G} {a : Nat → Nat} {cA : Nat → ClassId} {σ : St} {N : Nat} {v1 : Int32} {v2 : Int32} {r : Int64} (h : X7_cubeSet N σ v1 v2 = some r) : MetL l yX7_cubeSet cX7_cubeSet 6 (some .long) 1 D (tyW cA) (wM a cA) EM [.ref (a 0), .int v1, .int v2] σ r σ := by
  refine mkL (by decide) (adrM a cA) rfl (Nat.le_of_ble_eq_true rfl) ?_
  intro p e R s m args below meth c A Q ls X hR hp hl
  obtain ⟨hx, hb, -, hown, hts, -⟩ := id X
  have J_5 : ∀ (v1 : Int32) (v2 : Int32) (k39 : (Int64 → Option (Int64))) (hk39 : ∀ (v3 : Int64) (H : Heap) (locs : List Loc) (ls : Array Slot), Pw D (wM a cA) A s.heap H locs σ → lv_has ls 6 [(0, .ref (a 0)), (3, .long v3)] → k39 v3 = some r → W p l e R s m args below meth c H locs 0 0 Q (F0 m 39 ls [])) (n : Nat) (v3 : Int64) (v5 : Int32) (H : Heap) (locs : List Loc) (ls : Array Slot), Pw D (wM a cA) A s.heap H locs σ → lv_has ls 6 [(0, .ref (a 0)), (1, .int v1), (2, .int v2), (3, .long v3), (5, .int v5)] → X7_cubeSet_5 k39 σ v1 v2 n v3 v5 = some r → W p l e R s m args below meth c H locs 0 0 Q (F0 m 5 ls []) := by
    intro v1 v2 k39 hk39 n
    induction n with
    | zero => intro v3 v5 H locs ls hp hl h; exact nn_s (show (none : Option (Int64)) = some _ from h)
    | succ n ih =>
      intro v3 v5 H locs ls hp hl h
      have h : X7_cubeSet_5b (fun v3 v5 => X7_cubeSet_5 k39 σ v1 v2 n v3 v5) k39 σ v1 v2 v3 v5 = some r := h
      unfold X7_cubeSet_5b at h
      have hk5 := ih
      refine lv_iload hx hb dX7_cubeSet_5 (lv_at hl 4 rfl) ?_
      refine lv_aload_n hx hb dX7_cubeSet_7 rfl (lv_at hl 0 rfl) ?_
      obtain ⟨t1, ht1, h⟩ := bd_s h
      refine cl_Vi X eokM (c_X7_states ht1) tw_7_1 mw_X7_states (by decide) hp 0 rfl rfl rfl hl.1 rfl (Nat.le_of_ble_eq_true rfl) dX7_cubeSet_8 (fun H locs hp => ?_)
      refine lv_icmp_ge (tgt := 39) hx hb dX7_cubeSet_11 (by decide) (fun c2 => ?_) (fun c2 => ?_)
      · have h := it_p h c2
        exact hk39 v3 _ _ _ hp (lv_sub hl [0, 3] rfl) h
      · have h := it_n h c2
        refine lv_lload_n hx hb dX7_cubeSet_14 rfl (lv_at hl 3 rfl) ?_
        refine lv_iload hx hb dX7_cubeSet_15 (lv_at hl 4 rfl) ?_
        refine lv_iload_n hx hb dX7_cubeSet_17 rfl (lv_at hl 1 rfl) ?_
        refine lv_iand hx hb dX7_cubeSet_18 ?_
        refine lv_iload_n hx hb dX7_cubeSet_19 rfl (lv_at hl 2 rfl) ?_
        refine lv_icmp_ne (tgt := 30) hx hb dX7_cubeSet_20 (by decide) (fun c3 => ?_) (fun c3 => ?_)
        · have h := it_n h c3
          refine lv_lconst (v := 0) hx hb dX7_cubeSet_30 (by decide) ?_
          refine lv_lor hx hb dX7_cubeSet_31 ?_
          refine lv_topl (fun x4 ex4 => ?_)
          have h := nm_s h x4 ex4
          refine lv_lstore_n (lv' := [(3, .long x4), (0, .ref (a 0)), (1, .int v1), (2, .int v2), (5, .int v5)]) hx hb dX7_cubeSet_32 rfl hl (by decide) rfl (fun ls hl => ?_)
          obtain ⟨x5, ex5⟩ : ∃ z : Int32, z = v5 + (1 : Int32) := ⟨_, rfl⟩
          have h := nm_s h x5 ex5
          refine lv_iinc (v := x5) (lv' := [(5, .int x5), (3, .long x4), (0, .ref (a 0)), (1, .int v1), (2, .int v2)]) hx hb dX7_cubeSet_33 hl (k := 4) rfl (by rw [ex5]; rfl) (by decide) rfl (fun ls hl => ?_)
          refine lv_goto (tgt := 5) hx hb dX7_cubeSet_36 (by decide) ?_
          exact hk5 x4 x5 _ _ _ hp (lv_sub hl [2, 3, 4, 1, 0] rfl) h
        · have h := it_p h c3
          refine lv_lconst (v := 1) hx hb dX7_cubeSet_23 (by decide) ?_
          refine lv_iload hx hb dX7_cubeSet_24 (lv_at hl 4 rfl) ?_
          refine lv_lshl hx hb dX7_cubeSet_26 rfl ?_
          refine lv_goto (tgt := 31) hx hb dX7_cubeSet_27 (by decide) ?_
          refine lv_lor hx hb dX7_cubeSet_31 ?_
          refine lv_topl (fun x6 ex6 => ?_)
          have h := nm_s h x6 ex6
          refine lv_lstore_n (lv' := [(3, .long x6), (0, .ref (a 0)), (1, .int v1), (2, .int v2), (5, .int v5)]) hx hb dX7_cubeSet_32 rfl hl (by decide) rfl (fun ls hl => ?_)
          obtain ⟨x7, ex7⟩ : ∃ z : Int32, z = v5 + (1 : Int32) := ⟨_, rfl⟩
          have h := nm_s h x7 ex7
          refine lv_iinc (v := x7) (lv' := [(5, .int x7), (3, .long x6), (0, .ref (a 0)), (1, .int v1), (2, .int v2)]) hx hb dX7_cubeSet_33 hl (k := 4) rfl (by rw [ex7]; rfl) (by decide) rfl (fun ls hl => ?_)
          refine lv_goto (tgt := 5) hx hb dX7_cubeSet_36 (by decide) ?_
          exact hk5 x6 x7 _ _ _ hp (lv_sub hl [2, 3, 4, 1, 0] rfl) h
  have J_39 : ∀ (v3 : Int64) (H : Heap) (locs : List Loc) (ls : Array Slot), Pw D (wM a cA) A s.heap H locs σ → lv_has ls 6 [(0, .ref (a 0)), (3, .long v3)] → X7_cubeSet_39 σ v3 = some r → W p l e R s m args below meth c H locs 0 0 Q (F0 m 39 ls []) := by
    intro v3 H locs ls hp hl h
    unfold X7_cubeSet_39 at h
    refine lv_lload_n hx hb dX7_cubeSet_39 rfl (lv_at hl 1 rfl) ?_
    exact hR _ _ _ _ _ _ dX7_cubeSet_40 hp (Option.some.inj h) rfl
  unfold X7_cubeSet at h
  have hl := lv_sub (l' := [(0, .ref (a 0)), (1, .int v1), (2, .int v2)]) hl [0, 1, 2] rfl
  refine lv_lconst (v := 0) hx hb dX7_cubeSet_0 (by decide) ?_
  refine lv_lstore_n (lv' := [(3, .long (0 : Int64)), (0, .ref (a 0)), (1, .int v1), (2, .int v2)]) hx hb dX7_cubeSet_1 rfl hl (by decide) rfl (fun ls hl => ?_)
  refine lv_iconst (v := 0) hx hb dX7_cubeSet_2 (by decide) ?_
  refine lv_istore (lv' := [(5, .int (0 : Int32)), (3, .long (0 : Int64)), (0, .ref (a 0)), (1, .int v1), (2, .int v2)]) hx hb dX7_cubeSet_3 hl (by decide) rfl (fun ls hl => ?_)
  exact J_5 v1 v2 _ (fun v3 H locs ls hp hl h => J_39 v3 _ _ _ hp hl h) _ (0 : Int64) (0 : Int32) _ _ _ hp (lv_sub hl [2, 3, 4, 1, 0] rfl) h
def X7_cubeAt (N : Nat) (σ : St) (v1 : Int32) : Option (Int64) :=
  gd (inb v1 1024) (
  gd (inb v1 1024) (
  bd (X7_cubeSet N σ (σ.2.2.1 6 v1.toNatClampNeg) (σ.2.2.1 7 v1.toNatClampNeg)) (fun t3 =>
  some t3)))
set_option maxRecDepth 20000 in
set_option maxHeartbeats 4000000 in
theorem c_X7_cubeAt {l : Launch} {D : va_G} {a : Nat → Nat} {cA : Nat → ClassId} {σ : St} {N : Nat} {v1 : Int32} {r : Int64} (h : X7_cubeAt N σ v1 = some r) : MetL l yX7_cubeAt cX7_cubeAt 2 (some .long) 2 D (tyW cA) (wM a cA) EM [.ref (a 0), .int v1] σ r σ := by
  refine mkL (by decide) (adrM a cA) rfl (Nat.le_of_ble_eq_true rfl) ?_
  intro p e R s m args below meth c A Q ls X hR hp hl
  obtain ⟨hx, hb, -, hown, hts, -⟩ := id X
  unfold X7_cubeAt at h
  have hl := lv_sub (l' := [(0, .ref (a 0)), (1, .int v1)]) hl [0, 1] rfl
  refine lv_aload_n hx hb dX7_cubeAt_0 rfl (lv_at hl 0 rfl) ?_
  refine lv_aload_n hx hb dX7_cubeAt_1 rfl (lv_at hl 0 rfl) ?_
  refine gM_X7_maskOf X hp tw_6_2 dX7_cubeAt_2 ?_
  refine lv_iload_n hx hb dX7_cubeAt_5 rfl (lv_at hl 1 rfl) ?_
  obtain ⟨g1, h⟩ := gd_s h
  refine lM_X7_maskOf X hp g1 dX7_cubeAt_6 ?_
  refine lv_aload_n hx hb dX7_cubeAt_7 rfl (lv_at hl 0 rfl) ?_
  refine gM_X7_valueOf X hp tw_6_3 dX7_cubeAt_8 ?_
  refine lv_iload_n hx hb dX7_cubeAt_11 rfl (lv_at hl 1 rfl) ?_
  obtain ⟨g2, h⟩ := gd_s h
  refine lM_X7_valueOf X hp g2 dX7_cubeAt_12 ?_
  obtain ⟨t3, ht3, h⟩ := bd_s h
  refine cl_Vl X eokM (c_X7_cubeSet ht3) tw_40_11 mw_X7_cubeSet (by decide) hp 0 rfl rfl rfl hl.1 rfl (Nat.le_of_ble_eq_true rfl) dX7_cubeAt_13 (fun H locs hp => ?_)
  exact hR _ _ _ _ _ _ dX7_cubeAt_16 hp (Option.some.inj h) rfl
def X7_frameOf_17b (N : Nat) (k17 : (Int64 → Int32 → Option (Int64))) (k62 : (Int64 → Option (Int64))) (σ : St) (v1 : Int32) (v2 : Int64) (v4 : Int32) : Option (Int64) :=
  if (σ.1 12) ≤ v4 then
    k62 v2
  else
    gd (inb v4 1024) (
    if (σ.2.2.1 8 v4.toNatClampNeg) < v1 then
      nm (v2 &&& (-1 : Int64)) (fun (x4 : Int64) =>
      nm (v4 + (1 : Int32)) (fun (x5 : Int32) =>
      k17 x4 x5))
    else
      bd (X7_cubeAt N σ v4) (fun t6 =>
      nm (v2 &&& (t6 ^^^ (-1 : Int64))) (fun (x7 : Int64) =>
      nm (v4 + (1 : Int32)) (fun (x8 : Int32) =>
      k17 x7 x8))))
def X7_frameOf_17 (N : Nat) (k62 : (Int64 → Option (Int64))) (σ : St) (v1 : Int32) : Nat → Int64 → Int32 → Option (Int64)
  | 0, _, _ => none
  | n + 1, v2, v4 => X7_frameOf_17b N (fun v2 v4 => X7_frameOf_17 N k62 σ v1 n v2 v4) k62 σ v1 v2 v4
def X7_frameOf_62 (σ : St) (v2 : Int64) : Option (Int64) :=
  some v2
def X7_frameOf (N : Nat) (σ : St) (v1 : Int32) : Option (Int64) :=
  if v1 = 0 then
    some (σ.2.1 0)
  else
    bd (X7_all σ) (fun t2 =>
    X7_frameOf_17 N (fun v2 => X7_frameOf_62 σ v2) σ v1 N t2 (0 : Int32))
set_option maxRecDepth 20000 in
set_option maxHeartbeats 4000000 in
theorem c_X7_frameOf {l : Launch} {D : va_G} {a : Nat → Nat} {cA : Nat → ClassId} {σ : St} {N : Nat} {v1 : Int32} {r : Int64} (h : X7_frameOf N σ v1 = some r) : MetL l yX7_frameOf cX7_frameOf 5 (some .long) 3 D (tyW cA) (wM a cA) EM [.ref (a 0), .int v1] σ r σ := by
  refine mkL (by decide) (adrM a cA) rfl (Nat.le_of_ble_eq_true rfl) ?_
  intro p e R s m args below meth c A Q ls X hR hp hl
  obtain ⟨hx, hb, -, hown, hts, -⟩ := id X
  have J_17 : ∀ (v1 : Int32) (k62 : (Int64 → Option (Int64))) (hk62 : ∀ (v2 : Int64) (H : Heap) (locs : List Loc) (ls : Array Slot), Pw D (wM a cA) A s.heap H locs σ → lv_has ls 5 [(0, .ref (a 0)), (2, .long v2)] → k62 v2 = some r → W p l e R s m args below meth c H locs 0 0 Q (F0 m 62 ls [])) (n : Nat) (v2 : Int64) (v4 : Int32) (H : Heap) (locs : List Loc) (ls : Array Slot), Pw D (wM a cA) A s.heap H locs σ → lv_has ls 5 [(0, .ref (a 0)), (1, .int v1), (2, .long v2), (4, .int v4)] → X7_frameOf_17 N k62 σ v1 n v2 v4 = some r → W p l e R s m args below meth c H locs 0 0 Q (F0 m 17 ls []) := by
    intro v1 k62 hk62 n
    induction n with
    | zero => intro v2 v4 H locs ls hp hl h; exact nn_s (show (none : Option (Int64)) = some _ from h)
    | succ n ih =>
      intro v2 v4 H locs ls hp hl h
      have h : X7_frameOf_17b N (fun v2 v4 => X7_frameOf_17 N k62 σ v1 n v2 v4) k62 σ v1 v2 v4 = some r := h
      unfold X7_frameOf_17b at h
      have hk17 := ih
      refine lv_iload hx hb dX7_frameOf_17 (lv_at hl 3 rfl) ?_
      refine lv_aload_n hx hb dX7_frameOf_19 rfl (lv_at hl 0 rfl) ?_
      refine gM_X7_cubes X hp tw_39_13 dX7_frameOf_20 ?_
      refine lv_icmp_ge (tgt := 62) hx hb dX7_frameOf_23 (by decide) (fun c1 => ?_) (fun c1 => ?_)
      · have h := it_p h c1
        exact hk62 v2 _ _ _ hp (lv_sub hl [0, 2] rfl) h
      · have h := it_n h c1
        refine lv_lload_n hx hb dX7_frameOf_26 rfl (lv_at hl 2 rfl) ?_
        refine lv_aload_n hx hb dX7_frameOf_27 rfl (lv_at hl 0 rfl) ?_
        refine gM_X7_levelOf X hp tw_6_4 dX7_frameOf_28 ?_
        refine lv_iload hx hb dX7_frameOf_31 (lv_at hl 3 rfl) ?_
        obtain ⟨g2, h⟩ := gd_s h
        refine lM_X7_levelOf X hp g2 dX7_frameOf_33 ?_
        refine lv_iload_n hx hb dX7_frameOf_34 rfl (lv_at hl 1 rfl) ?_
        refine lv_icmp_lt (tgt := 51) hx hb dX7_frameOf_35 (by decide) (fun c3 => ?_) (fun c3 => ?_)
        · have h := it_p h c3
          refine lv_ldc2 hx hb hown (hts _ tw_7_9) dX7_frameOf_51 ?_
          refine lv_land hx hb dX7_frameOf_54 ?_
          refine lv_topl (fun x4 ex4 => ?_)
          have h := nm_s h x4 ex4
          refine lv_lstore_n (lv' := [(2, .long x4), (0, .ref (a 0)), (1, .int v1), (4, .int v4)]) hx hb dX7_frameOf_55 rfl hl (by decide) rfl (fun ls hl => ?_)
          obtain ⟨x5, ex5⟩ : ∃ z : Int32, z = v4 + (1 : Int32) := ⟨_, rfl⟩
          have h := nm_s h x5 ex5
          refine lv_iinc (v := x5) (lv' := [(4, .int x5), (2, .long x4), (0, .ref (a 0)), (1, .int v1)]) hx hb dX7_frameOf_56 hl (k := 3) rfl (by rw [ex5]; rfl) (by decide) rfl (fun ls hl => ?_)
          refine lv_goto (tgt := 17) hx hb dX7_frameOf_59 (by decide) ?_
          exact hk17 x4 x5 _ _ _ hp (lv_sub hl [2, 3, 1, 0] rfl) h
        · have h := it_n h c3
          refine lv_aload_n hx hb dX7_frameOf_38 rfl (lv_at hl 0 rfl) ?_
          refine lv_iload hx hb dX7_frameOf_39 (lv_at hl 3 rfl) ?_
          obtain ⟨t6, ht6, h⟩ := bd_s h
          refine cl_Vl X eokM (c_X7_cubeAt ht6) tw_40_7 mw_X7_cubeAt (by decide) hp 0 rfl rfl rfl hl.1 rfl (Nat.le_of_ble_eq_true rfl) dX7_frameOf_41 (fun H locs hp => ?_)
          refine lv_ldc2 hx hb hown (hts _ tw_7_9) dX7_frameOf_44 ?_
          refine lv_lxor hx hb dX7_frameOf_47 ?_
          refine lv_goto (tgt := 54) hx hb dX7_frameOf_48 (by decide) ?_
          refine lv_land hx hb dX7_frameOf_54 ?_
          refine lv_topl (fun x7 ex7 => ?_)
          have h := nm_s h x7 ex7
          refine lv_lstore_n (lv' := [(2, .long x7), (0, .ref (a 0)), (1, .int v1), (4, .int v4)]) hx hb dX7_frameOf_55 rfl hl (by decide) rfl (fun ls hl => ?_)
          obtain ⟨x8, ex8⟩ : ∃ z : Int32, z = v4 + (1 : Int32) := ⟨_, rfl⟩
          have h := nm_s h x8 ex8
          refine lv_iinc (v := x8) (lv' := [(4, .int x8), (2, .long x7), (0, .ref (a 0)), (1, .int v1)]) hx hb dX7_frameOf_56 hl (k := 3) rfl (by rw [ex8]; rfl) (by decide) rfl (fun ls hl => ?_)
          refine lv_goto (tgt := 17) hx hb dX7_frameOf_59 (by decide) ?_
          exact hk17 x7 x8 _ _ _ hp (lv_sub hl [2, 3, 1, 0] rfl) h
  have J_62 : ∀ (v2 : Int64) (H : Heap) (locs : List Loc) (ls : Array Slot), Pw D (wM a cA) A s.heap H locs σ → lv_has ls 5 [(0, .ref (a 0)), (2, .long v2)] → X7_frameOf_62 σ v2 = some r → W p l e R s m args below meth c H locs 0 0 Q (F0 m 62 ls []) := by
    intro v2 H locs ls hp hl h
    unfold X7_frameOf_62 at h
    refine lv_lload_n hx hb dX7_frameOf_62 rfl (lv_at hl 1 rfl) ?_
    exact hR _ _ _ _ _ _ dX7_frameOf_63 hp (Option.some.inj h) rfl
  unfold X7_frameOf at h
  have hl := lv_sub (l' := [(0, .ref (a 0)), (1, .int v1)]) hl [0, 1] rfl
  refine lv_iload_n hx hb dX7_frameOf_0 rfl (lv_at hl 1 rfl) ?_
  refine lv_if_ne (tgt := 9) hx hb dX7_frameOf_1 (by decide) (fun c1 => ?_) (fun c1 => ?_)
  · have h := it_n h c1
    refine lv_aload_n hx hb dX7_frameOf_9 rfl (lv_at hl 0 rfl) ?_
    obtain ⟨t2, ht2, h⟩ := bd_s h
    refine cl_Vl X eokM (c_X7_all ht2) tw_7_5 mw_X7_all (by decide) hp 0 rfl rfl rfl hl.1 rfl (Nat.le_of_ble_eq_true rfl) dX7_frameOf_10 (fun H locs hp => ?_)
    refine lv_lstore_n (lv' := [(2, .long t2), (0, .ref (a 0)), (1, .int v1)]) hx hb dX7_frameOf_13 rfl hl (by decide) rfl (fun ls hl => ?_)
    refine lv_iconst (v := 0) hx hb dX7_frameOf_14 (by decide) ?_
    refine lv_istore (lv' := [(4, .int (0 : Int32)), (2, .long t2), (0, .ref (a 0)), (1, .int v1)]) hx hb dX7_frameOf_15 hl (by decide) rfl (fun ls hl => ?_)
    exact J_17 v1 _ (fun v2 H locs ls hp hl h => J_62 v2 _ _ _ hp hl h) _ t2 (0 : Int32) _ _ _ hp (lv_sub hl [2, 3, 1, 0] rfl) h
  · have h := it_p h c1
    refine lv_aload_n hx hb dX7_frameOf_4 rfl (lv_at hl 0 rfl) ?_
    refine gM_X7_init X hp tw_6_17 dX7_frameOf_5 ?_
    exact hR _ _ _ _ _ _ dX7_frameOf_8 hp (Option.some.inj h) rfl
def X7_isBlocked (N : Nat) (σ : St) (v1 : Int64) (v3 : Int32) : Option (Int32) :=
  bd (X7_before N σ v1) (fun t1 =>
  bd (X7_frameOf N σ v3) (fun t2 =>
  if ((t1 &&& t2) &&& (v1 ^^^ (-1 : Int64))) = (0 : Int64) then
    some (1 : Int32)
  else
    some (0 : Int32)))
set_option maxRecDepth 20000 in
set_option maxHeartbeats 4000000 in
theorem c_X7_isBlocked {l : Launch} {D : va_G} {a : Nat → Nat} {cA : Nat → ClassId} {σ : St} {N : Nat} {v1 : Int64} {v3 : Int32} {r : Int32} (h : X7_isBlocked N σ v1 v3 = some r) : MetI l yX7_isBlocked cX7_isBlocked 4 (some .boolean) 4 D (tyW cA) (wM a cA) EM [.ref (a 0), .long v1, .int v3] σ r σ := by
  refine mkI (by decide) (adrM a cA) (Or.inr rfl) (Nat.le_of_ble_eq_true rfl) ?_
  intro p e R s m args below meth c A Q ls X hR hp hl
  obtain ⟨hx, hb, -, hown, hts, -⟩ := id X
  unfold X7_isBlocked at h
  have hl := lv_sub (l' := [(0, .ref (a 0)), (1, .long v1), (3, .int v3)]) hl [0, 1, 2] rfl
  refine lv_aload_n hx hb dX7_isBlocked_0 rfl (lv_at hl 0 rfl) ?_
  refine lv_lload_n hx hb dX7_isBlocked_1 rfl (lv_at hl 1 rfl) ?_
  obtain ⟨t1, ht1, h⟩ := bd_s h
  refine cl_Vl X eokM (c_X7_before ht1) tw_27_2 mw_X7_before (by decide) hp 0 rfl rfl rfl hl.1 rfl (Nat.le_of_ble_eq_true rfl) dX7_isBlocked_2 (fun H locs hp => ?_)
  refine lv_aload_n hx hb dX7_isBlocked_5 rfl (lv_at hl 0 rfl) ?_
  refine lv_iload_n hx hb dX7_isBlocked_6 rfl (lv_at hl 2 rfl) ?_
  obtain ⟨t2, ht2, h⟩ := bd_s h
  refine cl_Vl X eokM (c_X7_frameOf ht2) tw_40_3 mw_X7_frameOf (by decide) hp 0 rfl rfl rfl hl.1 rfl (Nat.le_of_ble_eq_true rfl) dX7_isBlocked_7 (fun H locs hp => ?_)
  refine lv_land hx hb dX7_isBlocked_10 ?_
  refine lv_lload_n hx hb dX7_isBlocked_11 rfl (lv_at hl 1 rfl) ?_
  refine lv_ldc2 hx hb hown (hts _ tw_7_9) dX7_isBlocked_12 ?_
  refine lv_lxor hx hb dX7_isBlocked_15 ?_
  refine lv_land hx hb dX7_isBlocked_16 ?_
  refine lv_lconst (v := 0) hx hb dX7_isBlocked_17 (by decide) ?_
  refine W.lcmp hx hb dX7_isBlocked_18 ?_
  refine lv_if_ne (tgt := 26) hx hb dX7_isBlocked_19 (by decide) (fun c3 => ?_) (fun c3 => ?_)
  · have h := it_n h (fun q => c3 (lcmp0.mpr q))
    refine lv_iconst (v := 0) hx hb dX7_isBlocked_26 (by decide) ?_
    exact hR _ _ _ _ _ _ dX7_isBlocked_27 hp (Option.some.inj h) rfl (fun _ => Or.inl rfl)
  · have h := it_p h (lcmp0.mp c3)
    refine lv_iconst (v := 1) hx hb dX7_isBlocked_22 (by decide) ?_
    refine lv_goto (tgt := 27) hx hb dX7_isBlocked_23 (by decide) ?_
    exact hR _ _ _ _ _ _ dX7_isBlocked_27 hp (Option.some.inj h) rfl (fun _ => Or.inr rfl)
def X7_generalized_10b (N : Nat) (k10 : (Int32 → Int32 → St → Option (Int32 × St))) (k84 : (Int32 → St → Option (Int32 × St))) (v1 : Int32) (v2 : Int32) (v3 : Int32) (v4 : Int32) (σ : St) : Option (Int32 × St) :=
  if (σ.1 1) ≤ v4 then
    k84 v3 σ
  else
    nm (v3 &&& (((1 : Int32) <<< (v4 &&& 31)) ^^^ (-1 : Int32))) (fun (x2 : Int32) =>
    bd (X7_cubeSet N σ x2 (v1 &&& x2)) (fun t3 =>
    if (t3 &&& (σ.2.1 0)) = (0 : Int64) then
      bd (X7_isBlocked N σ t3 (v2 - (1 : Int32))) (fun t6 =>
      if t6 = 0 then
        nm (v4 + (1 : Int32)) (fun (x8 : Int32) =>
        k10 v3 x8 σ)
      else
        nm (si σ 15 ((σ.1 15) + (1 : Int32))) (fun (σ9 : St) =>
        nm (v4 + (1 : Int32)) (fun (x10 : Int32) =>
        k10 x2 x10 σ9)))
    else
      nm (v4 + (1 : Int32)) (fun (x5 : Int32) =>
      k10 v3 x5 σ)))
def X7_generalized_10 (N : Nat) (k84 : (Int32 → St → Option (Int32 × St))) (v1 : Int32) (v2 : Int32) : Nat → Int32 → Int32 → St → Option (Int32 × St)
  | 0, _, _, _ => none
  | n + 1, v3, v4, σ => X7_generalized_10b N (fun v3 v4 σ => X7_generalized_10 N k84 v1 v2 n v3 v4 σ) k84 v1 v2 v3 v4 σ
def X7_generalized_84 (v3 : Int32) (σ : St) : Option (Int32 × St) :=
  some (v3, σ)
def X7_generalized (N : Nat) (v1 : Int32) (v2 : Int32) (σ : St) : Option (Int32 × St) :=
  bd (X7_states σ) (fun t1 =>
  nm (t1 - (1 : Int32)) (fun (x2 : Int32) =>
  X7_generalized_10 N (fun v3 σ => X7_generalized_84 v3 σ) v1 v2 N x2 (0 : Int32) σ))
set_option maxRecDepth 20000 in
set_option maxHeartbeats 4000000 in
theorem c_X7_generalized {l : Launch} {D : va_G} {a : Nat → Nat} {cA : Nat → ClassId} {σ : St} {N : Nat} {v1 : Int32} {v2 : Int32} {r : Int32} {σ' : St} (h : X7_generalized N v1 v2 σ = some (r, σ')) : MetI l yX7_generalized cX7_generalized 8 (some .int) 5 D (tyW cA) (wM a cA) EM [.ref (a 0), .int v1, .int v2] σ r σ' := by
  refine mkI (by decide) (adrM a cA) (Or.inl rfl) (Nat.le_of_ble_eq_true rfl) ?_
  intro p e R s m args below meth c A Q ls X hR hp hl
  obtain ⟨hx, hb, -, hown, hts, -⟩ := id X
  have J_10 : ∀ (v1 : Int32) (v2 : Int32) (k84 : (Int32 → St → Option (Int32 × St))) (hk84 : ∀ (v3 : Int32) (σ : St) (H : Heap) (locs : List Loc) (ls : Array Slot), Pw D (wM a cA) A s.heap H locs σ → lv_has ls 8 [(0, .ref (a 0)), (3, .int v3)] → k84 v3 σ = some (r, σ') → W p l e R s m args below meth c H locs 0 0 Q (F0 m 84 ls [])) (n : Nat) (v3 : Int32) (v4 : Int32) (σ : St) (H : Heap) (locs : List Loc) (ls : Array Slot), Pw D (wM a cA) A s.heap H locs σ → lv_has ls 8 [(0, .ref (a 0)), (1, .int v1), (2, .int v2), (3, .int v3), (4, .int v4)] → X7_generalized_10 N k84 v1 v2 n v3 v4 σ = some (r, σ') → W p l e R s m args below meth c H locs 0 0 Q (F0 m 10 ls []) := by
    intro v1 v2 k84 hk84 n
    induction n with
    | zero => intro v3 v4 σ H locs ls hp hl h; exact nn_s (show (none : Option (Int32 × St)) = some _ from h)
    | succ n ih =>
      intro v3 v4 σ H locs ls hp hl h
      have h : X7_generalized_10b N (fun v3 v4 σ => X7_generalized_10 N k84 v1 v2 n v3 v4 σ) k84 v1 v2 v3 v4 σ = some (r, σ') := h
      unfold X7_generalized_10b at h
      have hk10 := ih
      refine lv_iload hx hb dX7_generalized_10 (lv_at hl 4 rfl) ?_
      refine lv_aload_n hx hb dX7_generalized_12 rfl (lv_at hl 0 rfl) ?_
      refine gM_X7_bits X hp tw_6_15 dX7_generalized_13 ?_
      refine lv_icmp_ge (tgt := 84) hx hb dX7_generalized_16 (by decide) (fun c1 => ?_) (fun c1 => ?_)
      · have h := it_p h c1
        exact hk84 v3 σ _ _ _ hp (lv_sub hl [0, 3] rfl) h
      · have h := it_n h c1
        refine lv_iload_n hx hb dX7_generalized_19 rfl (lv_at hl 3 rfl) ?_
        refine lv_iconst (v := 1) hx hb dX7_generalized_20 (by decide) ?_
        refine lv_iload hx hb dX7_generalized_21 (lv_at hl 4 rfl) ?_
        refine lv_ishl hx hb dX7_generalized_23 ?_
        refine lv_iconst (v := -1) hx hb dX7_generalized_24 (by decide) ?_
        refine lv_ixor hx hb dX7_generalized_25 ?_
        refine lv_iand hx hb dX7_generalized_26 ?_
        refine lv_topi (fun x2 ex2 => ?_)
        have h := nm_s h x2 ex2
        refine lv_istore (lv' := [(5, .int x2), (0, .ref (a 0)), (1, .int v1), (2, .int v2), (3, .int v3), (4, .int v4)]) hx hb dX7_generalized_27 hl (by decide) rfl (fun ls hl => ?_)
        refine lv_aload_n hx hb dX7_generalized_29 rfl (lv_at hl 1 rfl) ?_
        refine lv_iload hx hb dX7_generalized_30 (lv_at hl 0 rfl) ?_
        refine lv_iload_n hx hb dX7_generalized_32 rfl (lv_at hl 2 rfl) ?_
        refine lv_iload hx hb dX7_generalized_33 (lv_at hl 0 rfl) ?_
        refine lv_iand hx hb dX7_generalized_35 ?_
        obtain ⟨t3, ht3, h⟩ := bd_s h
        refine cl_Vl X eokM (c_X7_cubeSet ht3) tw_40_11 mw_X7_cubeSet (by decide) hp 0 rfl rfl rfl hl.1 rfl (Nat.le_of_ble_eq_true rfl) dX7_generalized_36 (fun H locs hp => ?_)
        refine lv_lstore (lv' := [(6, .long t3), (5, .int x2), (0, .ref (a 0)), (1, .int v1), (2, .int v2), (3, .int v3), (4, .int v4)]) hx hb dX7_generalized_39 hl (by decide) rfl (fun ls hl => ?_)
        refine lv_lload hx hb dX7_generalized_41 (lv_at hl 0 rfl) ?_
        refine lv_aload_n hx hb dX7_generalized_43 rfl (lv_at hl 2 rfl) ?_
        refine gM_X7_init X hp tw_6_17 dX7_generalized_44 ?_
        refine lv_land hx hb dX7_generalized_47 ?_
        refine lv_lconst (v := 0) hx hb dX7_generalized_48 (by decide) ?_
        refine W.lcmp hx hb dX7_generalized_49 ?_
        refine lv_if_ne (tgt := 78) hx hb dX7_generalized_50 (by decide) (fun c4 => ?_) (fun c4 => ?_)
        · have h := it_n h (fun q => c4 (lcmp0.mpr q))
          obtain ⟨x5, ex5⟩ : ∃ z : Int32, z = v4 + (1 : Int32) := ⟨_, rfl⟩
          have h := nm_s h x5 ex5
          refine lv_iinc (v := x5) (lv' := [(4, .int x5), (6, .long t3), (5, .int x2), (0, .ref (a 0)), (1, .int v1), (2, .int v2), (3, .int v3)]) hx hb dX7_generalized_78 hl (k := 6) rfl (by rw [ex5]; rfl) (by decide) rfl (fun ls hl => ?_)
          refine lv_goto (tgt := 10) hx hb dX7_generalized_81 (by decide) ?_
          exact hk10 v3 x5 σ _ _ _ hp (lv_sub hl [3, 4, 5, 6, 0] rfl) h
        · have h := it_p h (lcmp0.mp c4)
          refine lv_aload_n hx hb dX7_generalized_53 rfl (lv_at hl 2 rfl) ?_
          refine lv_lload hx hb dX7_generalized_54 (lv_at hl 0 rfl) ?_
          refine lv_iload_n hx hb dX7_generalized_56 rfl (lv_at hl 4 rfl) ?_
          refine lv_iconst (v := 1) hx hb dX7_generalized_57 (by decide) ?_
          refine lv_isub hx hb dX7_generalized_58 ?_
          obtain ⟨t6, ht6, h⟩ := bd_s h
          refine cl_Vi X eokM (c_X7_isBlocked ht6) tw_41_11 mw_X7_isBlocked (by decide) hp 0 rfl rfl rfl hl.1 rfl (Nat.le_of_ble_eq_true rfl) dX7_generalized_59 (fun H locs hp => ?_)
          refine lv_if_eq (tgt := 78) hx hb dX7_generalized_62 (by decide) (fun c7 => ?_) (fun c7 => ?_)
          · have h := it_p h c7
            obtain ⟨x8, ex8⟩ : ∃ z : Int32, z = v4 + (1 : Int32) := ⟨_, rfl⟩
            have h := nm_s h x8 ex8
            refine lv_iinc (v := x8) (lv' := [(4, .int x8), (6, .long t3), (5, .int x2), (0, .ref (a 0)), (1, .int v1), (2, .int v2), (3, .int v3)]) hx hb dX7_generalized_78 hl (k := 6) rfl (by rw [ex8]; rfl) (by decide) rfl (fun ls hl => ?_)
            refine lv_goto (tgt := 10) hx hb dX7_generalized_81 (by decide) ?_
            exact hk10 v3 x8 σ _ _ _ hp (lv_sub hl [3, 4, 5, 6, 0] rfl) h
          · have h := it_n h c7
            refine lv_iload hx hb dX7_generalized_65 (lv_at hl 1 rfl) ?_
            refine lv_istore_n (lv' := [(3, .int x2), (6, .long t3), (5, .int x2), (0, .ref (a 0)), (1, .int v1), (2, .int v2), (4, .int v4)]) hx hb dX7_generalized_67 rfl hl (by decide) rfl (fun ls hl => ?_)
            refine lv_aload_n hx hb dX7_generalized_68 rfl (lv_at hl 3 rfl) ?_
            refine lv_dup hx hb dX7_generalized_69 rfl ?_
            refine gM_X7_leftOut X hp tw_39_16 dX7_generalized_70 ?_
            refine lv_iconst (v := 1) hx hb dX7_generalized_73 (by decide) ?_
            refine lv_iadd hx hb dX7_generalized_74 ?_
            refine pM_X7_leftOut X hp tw_39_16 dX7_generalized_75 (fun H locs σ9 eσ9 hp => ?_)
            have h := nm_s h σ9 eσ9
            obtain ⟨x10, ex10⟩ : ∃ z : Int32, z = v4 + (1 : Int32) := ⟨_, rfl⟩
            have h := nm_s h x10 ex10
            refine lv_iinc (v := x10) (lv' := [(4, .int x10), (3, .int x2), (6, .long t3), (5, .int x2), (0, .ref (a 0)), (1, .int v1), (2, .int v2)]) hx hb dX7_generalized_78 hl (k := 6) rfl (by rw [ex10]; rfl) (by decide) rfl (fun ls hl => ?_)
            refine lv_goto (tgt := 10) hx hb dX7_generalized_81 (by decide) ?_
            exact hk10 x2 x10 σ9 _ _ _ hp (lv_sub hl [4, 5, 6, 1, 0] rfl) h
  have J_84 : ∀ (v3 : Int32) (σ : St) (H : Heap) (locs : List Loc) (ls : Array Slot), Pw D (wM a cA) A s.heap H locs σ → lv_has ls 8 [(0, .ref (a 0)), (3, .int v3)] → X7_generalized_84 v3 σ = some (r, σ') → W p l e R s m args below meth c H locs 0 0 Q (F0 m 84 ls []) := by
    intro v3 σ H locs ls hp hl h
    unfold X7_generalized_84 at h
    refine lv_iload_n hx hb dX7_generalized_84 rfl (lv_at hl 1 rfl) ?_
    exact hR _ _ _ _ _ _ dX7_generalized_85 hp (congrArg Prod.fst (Option.some.inj h)) (congrArg Prod.snd (Option.some.inj h)) (fun q => by cases q)
  unfold X7_generalized at h
  have hl := lv_sub (l' := [(0, .ref (a 0)), (1, .int v1), (2, .int v2)]) hl [0, 1, 2] rfl
  refine lv_aload_n hx hb dX7_generalized_0 rfl (lv_at hl 0 rfl) ?_
  obtain ⟨t1, ht1, h⟩ := bd_s h
  refine cl_Vi X eokM (c_X7_states ht1) tw_7_1 mw_X7_states (by decide) hp 0 rfl rfl rfl hl.1 rfl (Nat.le_of_ble_eq_true rfl) dX7_generalized_1 (fun H locs hp => ?_)
  refine lv_iconst (v := 1) hx hb dX7_generalized_4 (by decide) ?_
  refine lv_isub hx hb dX7_generalized_5 ?_
  refine lv_topi (fun x2 ex2 => ?_)
  have h := nm_s h x2 ex2
  refine lv_istore_n (lv' := [(3, .int x2), (0, .ref (a 0)), (1, .int v1), (2, .int v2)]) hx hb dX7_generalized_6 rfl hl (by decide) rfl (fun ls hl => ?_)
  refine lv_iconst (v := 0) hx hb dX7_generalized_7 (by decide) ?_
  refine lv_istore (lv' := [(4, .int (0 : Int32)), (3, .int x2), (0, .ref (a 0)), (1, .int v1), (2, .int v2)]) hx hb dX7_generalized_8 hl (by decide) rfl (fun ls hl => ?_)
  exact J_10 v1 v2 _ (fun v3 σ H locs ls hp hl h => J_84 v3 σ _ _ _ hp hl h) _ x2 (0 : Int32) σ _ _ _ hp (lv_sub hl [2, 3, 4, 1, 0] rfl) h
def X7_dropCubes_48 (k6 : (Int32 → Int32 → St → Option (St))) (v1 : Int64) (v3 : Int32) (v4 : Int32) (v5 : Int32) (u0 : Int32) (σ : St) : Option (St) :=
  if u0 = 0 then
    gd (inb v5 1024) (
    gd (inb v4 1024) (
    nm (sa σ 6 v4.toNatClampNeg (σ.2.2.1 6 v5.toNatClampNeg)) (fun (σ5 : St) =>
    gd (inb v5 1024) (
    gd (inb v4 1024) (
    nm (sa σ5 7 v4.toNatClampNeg (σ5.2.2.1 7 v5.toNatClampNeg)) (fun (σ8 : St) =>
    gd (inb v5 1024) (
    gd (inb v4 1024) (
    nm (sa σ8 8 v4.toNatClampNeg (σ8.2.2.1 8 v5.toNatClampNeg)) (fun (σ11 : St) =>
    nm (v4 + (1 : Int32)) (fun (x12 : Int32) =>
    nm (v5 + (1 : Int32)) (fun (x13 : Int32) =>
    k6 x12 x13 σ11)))))))))))
  else
    nm (v5 + (1 : Int32)) (fun (x2 : Int32) =>
    k6 v4 x2 σ)
def X7_dropCubes_6b (N : Nat) (k6 : (Int32 → Int32 → St → Option (St))) (k106 : (Int32 → St → Option (St))) (v1 : Int64) (v3 : Int32) (v4 : Int32) (v5 : Int32) (σ : St) : Option (St) :=
  if (σ.1 12) ≤ v5 then
    k106 v4 σ
  else
    gd (inb v5 1024) (
    if v3 < (σ.2.2.1 8 v5.toNatClampNeg) then
      X7_dropCubes_48 k6 v1 v3 v4 v5 (0 : Int32) σ
    else
      bd (X7_cubeAt N σ v5) (fun t4 =>
      if (t4 &&& (v1 ^^^ (-1 : Int64))) = (0 : Int64) then
        X7_dropCubes_48 k6 v1 v3 v4 v5 (1 : Int32) σ
      else
        X7_dropCubes_48 k6 v1 v3 v4 v5 (0 : Int32) σ))
def X7_dropCubes_6 (N : Nat) (k106 : (Int32 → St → Option (St))) (v1 : Int64) (v3 : Int32) : Nat → Int32 → Int32 → St → Option (St)
  | 0, _, _, _ => none
  | n + 1, v4, v5, σ => X7_dropCubes_6b N (fun v4 v5 σ => X7_dropCubes_6 N k106 v1 v3 n v4 v5 σ) k106 v1 v3 v4 v5 σ
def X7_dropCubes_106 (v4 : Int32) (σ : St) : Option (St) :=
  nm (si σ 12 v4) (fun (σ1 : St) =>
  some σ1)
def X7_dropCubes (N : Nat) (v1 : Int64) (v3 : Int32) (σ : St) : Option (St) :=
  X7_dropCubes_6 N (fun v4 σ => X7_dropCubes_106 v4 σ) v1 v3 N (0 : Int32) (0 : Int32) σ
set_option maxRecDepth 20000 in
set_option maxHeartbeats 4000000 in
theorem c_X7_dropCubes {l : Launch} {D : va_G} {a : Nat → Nat} {cA : Nat → ClassId} {σ : St} {N : Nat} {v1 : Int64} {v3 : Int32} {σ' : St} (h : X7_dropCubes N v1 v3 σ = some σ') : MetV l yX7_dropCubes cX7_dropCubes 7 none 3 D (tyW cA) (wM a cA) EM [.ref (a 0), .long v1, .int v3] σ σ' := by
  refine mkV (by decide) (adrM a cA) rfl (Nat.le_of_ble_eq_true rfl) ?_
  intro p e R s m args below meth c A Q ls X hR hp hl
  obtain ⟨hx, hb, -, hown, hts, -⟩ := id X
  have J_48 : ∀ (v1 : Int64) (v3 : Int32) (v4 : Int32) (v5 : Int32) (u0 : Int32) (k6 : (Int32 → Int32 → St → Option (St))) (hk6 : ∀ (v4 : Int32) (v5 : Int32) (σ : St) (H : Heap) (locs : List Loc) (ls : Array Slot), Pw D (wM a cA) A s.heap H locs σ → lv_has ls 7 [(0, .ref (a 0)), (1, .long v1), (3, .int v3), (4, .int v4), (5, .int v5)] → k6 v4 v5 σ = some σ' → W p l e R s m args below meth c H locs 0 0 Q (F0 m 6 ls [])) (σ : St) (H : Heap) (locs : List Loc) (ls : Array Slot), Pw D (wM a cA) A s.heap H locs σ → lv_has ls 7 [(0, .ref (a 0)), (1, .long v1), (3, .int v3), (4, .int v4), (5, .int v5)] → X7_dropCubes_48 k6 v1 v3 v4 v5 u0 σ = some σ' → W p l e R s m args below meth c H locs 0 0 Q (F0 m 48 ls [.int u0]) := by
    intro v1 v3 v4 v5 u0 k6 hk6 σ H locs ls hp hl h
    unfold X7_dropCubes_48 at h
    refine lv_istore (lv' := [(6, .int u0), (0, .ref (a 0)), (1, .long v1), (3, .int v3), (4, .int v4), (5, .int v5)]) hx hb dX7_dropCubes_48 hl (by decide) rfl (fun ls hl => ?_)
    refine lv_iload hx hb dX7_dropCubes_50 (lv_at hl 0 rfl) ?_
    refine lv_if_ne (tgt := 100) hx hb dX7_dropCubes_52 (by decide) (fun c1 => ?_) (fun c1 => ?_)
    · have h := it_n h c1
      obtain ⟨x2, ex2⟩ : ∃ z : Int32, z = v5 + (1 : Int32) := ⟨_, rfl⟩
      have h := nm_s h x2 ex2
      refine lv_iinc (v := x2) (lv' := [(5, .int x2), (6, .int u0), (0, .ref (a 0)), (1, .long v1), (3, .int v3), (4, .int v4)]) hx hb dX7_dropCubes_100 hl (k := 5) rfl (by rw [ex2]; rfl) (by decide) rfl (fun ls hl => ?_)
      refine lv_goto (tgt := 6) hx hb dX7_dropCubes_103 (by decide) ?_
      exact hk6 v4 x2 σ _ _ _ hp (lv_sub hl [2, 3, 4, 5, 0] rfl) h
    · have h := it_p h c1
      refine lv_aload_n hx hb dX7_dropCubes_55 rfl (lv_at hl 1 rfl) ?_
      refine gM_X7_maskOf X hp tw_6_2 dX7_dropCubes_56 ?_
      refine lv_iload hx hb dX7_dropCubes_59 (lv_at hl 4 rfl) ?_
      refine lv_aload_n hx hb dX7_dropCubes_61 rfl (lv_at hl 1 rfl) ?_
      refine gM_X7_maskOf X hp tw_6_2 dX7_dropCubes_62 ?_
      refine lv_iload hx hb dX7_dropCubes_65 (lv_at hl 5 rfl) ?_
      obtain ⟨g3, h⟩ := gd_s h
      refine lM_X7_maskOf X hp g3 dX7_dropCubes_67 ?_
      obtain ⟨g4, h⟩ := gd_s h
      refine sM_X7_maskOf X hp g4 dX7_dropCubes_68 (fun H locs σ5 eσ5 hp => ?_)
      have h := nm_s h σ5 eσ5
      refine lv_aload_n hx hb dX7_dropCubes_69 rfl (lv_at hl 1 rfl) ?_
      refine gM_X7_valueOf X hp tw_6_3 dX7_dropCubes_70 ?_
      refine lv_iload hx hb dX7_dropCubes_73 (lv_at hl 4 rfl) ?_
      refine lv_aload_n hx hb dX7_dropCubes_75 rfl (lv_at hl 1 rfl) ?_
      refine gM_X7_valueOf X hp tw_6_3 dX7_dropCubes_76 ?_
      refine lv_iload hx hb dX7_dropCubes_79 (lv_at hl 5 rfl) ?_
      obtain ⟨g6, h⟩ := gd_s h
      refine lM_X7_valueOf X hp g6 dX7_dropCubes_81 ?_
      obtain ⟨g7, h⟩ := gd_s h
      refine sM_X7_valueOf X hp g7 dX7_dropCubes_82 (fun H locs σ8 eσ8 hp => ?_)
      have h := nm_s h σ8 eσ8
      refine lv_aload_n hx hb dX7_dropCubes_83 rfl (lv_at hl 1 rfl) ?_
      refine gM_X7_levelOf X hp tw_6_4 dX7_dropCubes_84 ?_
      refine lv_iload hx hb dX7_dropCubes_87 (lv_at hl 4 rfl) ?_
      refine lv_aload_n hx hb dX7_dropCubes_89 rfl (lv_at hl 1 rfl) ?_
      refine gM_X7_levelOf X hp tw_6_4 dX7_dropCubes_90 ?_
      refine lv_iload hx hb dX7_dropCubes_93 (lv_at hl 5 rfl) ?_
      obtain ⟨g9, h⟩ := gd_s h
      refine lM_X7_levelOf X hp g9 dX7_dropCubes_95 ?_
      obtain ⟨g10, h⟩ := gd_s h
      refine sM_X7_levelOf X hp g10 dX7_dropCubes_96 (fun H locs σ11 eσ11 hp => ?_)
      have h := nm_s h σ11 eσ11
      obtain ⟨x12, ex12⟩ : ∃ z : Int32, z = v4 + (1 : Int32) := ⟨_, rfl⟩
      have h := nm_s h x12 ex12
      refine lv_iinc (v := x12) (lv' := [(4, .int x12), (6, .int u0), (0, .ref (a 0)), (1, .long v1), (3, .int v3), (5, .int v5)]) hx hb dX7_dropCubes_97 hl (k := 4) rfl (by rw [ex12]; rfl) (by decide) rfl (fun ls hl => ?_)
      obtain ⟨x13, ex13⟩ : ∃ z : Int32, z = v5 + (1 : Int32) := ⟨_, rfl⟩
      have h := nm_s h x13 ex13
      refine lv_iinc (v := x13) (lv' := [(5, .int x13), (4, .int x12), (6, .int u0), (0, .ref (a 0)), (1, .long v1), (3, .int v3)]) hx hb dX7_dropCubes_100 hl (k := 5) rfl (by rw [ex13]; rfl) (by decide) rfl (fun ls hl => ?_)
      refine lv_goto (tgt := 6) hx hb dX7_dropCubes_103 (by decide) ?_
      exact hk6 x12 x13 σ11 _ _ _ hp (lv_sub hl [3, 4, 5, 1, 0] rfl) h
  have J_6 : ∀ (v1 : Int64) (v3 : Int32) (k106 : (Int32 → St → Option (St))) (hk106 : ∀ (v4 : Int32) (σ : St) (H : Heap) (locs : List Loc) (ls : Array Slot), Pw D (wM a cA) A s.heap H locs σ → lv_has ls 7 [(0, .ref (a 0)), (4, .int v4)] → k106 v4 σ = some σ' → W p l e R s m args below meth c H locs 0 0 Q (F0 m 106 ls [])) (n : Nat) (v4 : Int32) (v5 : Int32) (σ : St) (H : Heap) (locs : List Loc) (ls : Array Slot), Pw D (wM a cA) A s.heap H locs σ → lv_has ls 7 [(0, .ref (a 0)), (1, .long v1), (3, .int v3), (4, .int v4), (5, .int v5)] → X7_dropCubes_6 N k106 v1 v3 n v4 v5 σ = some σ' → W p l e R s m args below meth c H locs 0 0 Q (F0 m 6 ls []) := by
    intro v1 v3 k106 hk106 n
    induction n with
    | zero => intro v4 v5 σ H locs ls hp hl h; exact nn_s (show (none : Option (St)) = some _ from h)
    | succ n ih =>
      intro v4 v5 σ H locs ls hp hl h
      have h : X7_dropCubes_6b N (fun v4 v5 σ => X7_dropCubes_6 N k106 v1 v3 n v4 v5 σ) k106 v1 v3 v4 v5 σ = some σ' := h
      unfold X7_dropCubes_6b at h
      have hk6 := ih
      refine lv_iload hx hb dX7_dropCubes_6 (lv_at hl 4 rfl) ?_
      refine lv_aload_n hx hb dX7_dropCubes_8 rfl (lv_at hl 0 rfl) ?_
      refine gM_X7_cubes X hp tw_39_13 dX7_dropCubes_9 ?_
      refine lv_icmp_ge (tgt := 106) hx hb dX7_dropCubes_12 (by decide) (fun c1 => ?_) (fun c1 => ?_)
      · have h := it_p h c1
        exact hk106 v4 σ _ _ _ hp (lv_sub hl [0, 3] rfl) h
      · have h := it_n h c1
        refine lv_aload_n hx hb dX7_dropCubes_15 rfl (lv_at hl 0 rfl) ?_
        refine gM_X7_levelOf X hp tw_6_4 dX7_dropCubes_16 ?_
        refine lv_iload hx hb dX7_dropCubes_19 (lv_at hl 4 rfl) ?_
        obtain ⟨g2, h⟩ := gd_s h
        refine lM_X7_levelOf X hp g2 dX7_dropCubes_21 ?_
        refine lv_iload_n hx hb dX7_dropCubes_22 rfl (lv_at hl 2 rfl) ?_
        refine lv_icmp_gt (tgt := 47) hx hb dX7_dropCubes_23 (by decide) (fun c3 => ?_) (fun c3 => ?_)
        · have h := it_p h c3
          refine lv_iconst (v := 0) hx hb dX7_dropCubes_47 (by decide) ?_
          exact J_48 v1 v3 v4 v5 (0 : Int32) _ hk6 σ _ _ _ hp (lv_sub hl [0, 1, 2, 3, 4] rfl) h
        · have h := it_n h c3
          refine lv_aload_n hx hb dX7_dropCubes_26 rfl (lv_at hl 0 rfl) ?_
          refine lv_iload hx hb dX7_dropCubes_27 (lv_at hl 4 rfl) ?_
          obtain ⟨t4, ht4, h⟩ := bd_s h
          refine cl_Vl X eokM (c_X7_cubeAt ht4) tw_40_7 mw_X7_cubeAt (by decide) hp 0 rfl rfl rfl hl.1 rfl (Nat.le_of_ble_eq_true rfl) dX7_dropCubes_29 (fun H locs hp => ?_)
          refine lv_lload_n hx hb dX7_dropCubes_32 rfl (lv_at hl 1 rfl) ?_
          refine lv_ldc2 hx hb hown (hts _ tw_7_9) dX7_dropCubes_33 ?_
          refine lv_lxor hx hb dX7_dropCubes_36 ?_
          refine lv_land hx hb dX7_dropCubes_37 ?_
          refine lv_lconst (v := 0) hx hb dX7_dropCubes_38 (by decide) ?_
          refine W.lcmp hx hb dX7_dropCubes_39 ?_
          refine lv_if_ne (tgt := 47) hx hb dX7_dropCubes_40 (by decide) (fun c5 => ?_) (fun c5 => ?_)
          · have h := it_n h (fun q => c5 (lcmp0.mpr q))
            refine lv_iconst (v := 0) hx hb dX7_dropCubes_47 (by decide) ?_
            exact J_48 v1 v3 v4 v5 (0 : Int32) _ hk6 σ _ _ _ hp (lv_sub hl [0, 1, 2, 3, 4] rfl) h
          · have h := it_p h (lcmp0.mp c5)
            refine lv_iconst (v := 1) hx hb dX7_dropCubes_43 (by decide) ?_
            refine lv_goto (tgt := 48) hx hb dX7_dropCubes_44 (by decide) ?_
            exact J_48 v1 v3 v4 v5 (1 : Int32) _ hk6 σ _ _ _ hp (lv_sub hl [0, 1, 2, 3, 4] rfl) h
  have J_106 : ∀ (v4 : Int32) (σ : St) (H : Heap) (locs : List Loc) (ls : Array Slot), Pw D (wM a cA) A s.heap H locs σ → lv_has ls 7 [(0, .ref (a 0)), (4, .int v4)] → X7_dropCubes_106 v4 σ = some σ' → W p l e R s m args below meth c H locs 0 0 Q (F0 m 106 ls []) := by
    intro v4 σ H locs ls hp hl h
    unfold X7_dropCubes_106 at h
    refine lv_aload_n hx hb dX7_dropCubes_106 rfl (lv_at hl 0 rfl) ?_
    refine lv_iload hx hb dX7_dropCubes_107 (lv_at hl 1 rfl) ?_
    refine pM_X7_cubes X hp tw_39_13 dX7_dropCubes_109 (fun H locs σ1 eσ1 hp => ?_)
    have h := nm_s h σ1 eσ1
    exact hR _ _ _ _ _ dX7_dropCubes_112 hp (Option.some.inj h)
  unfold X7_dropCubes at h
  have hl := lv_sub (l' := [(0, .ref (a 0)), (1, .long v1), (3, .int v3)]) hl [0, 1, 2] rfl
  refine lv_iconst (v := 0) hx hb dX7_dropCubes_0 (by decide) ?_
  refine lv_istore (lv' := [(4, .int (0 : Int32)), (0, .ref (a 0)), (1, .long v1), (3, .int v3)]) hx hb dX7_dropCubes_1 hl (by decide) rfl (fun ls hl => ?_)
  refine lv_iconst (v := 0) hx hb dX7_dropCubes_3 (by decide) ?_
  refine lv_istore (lv' := [(5, .int (0 : Int32)), (4, .int (0 : Int32)), (0, .ref (a 0)), (1, .long v1), (3, .int v3)]) hx hb dX7_dropCubes_4 hl (by decide) rfl (fun ls hl => ?_)
  exact J_6 v1 v3 _ (fun v4 σ H locs ls hp hl h => J_106 v4 σ _ _ _ hp hl h) _ (0 : Int32) (0 : Int32) σ _ _ _ hp (lv_sub hl [2, 3, 4, 1, 0] rfl) h
def X7_addCube_20b (N : Nat) (k20 : (Int32 → St → Option (St))) (k46 : (Int32 → Int32 → Int64 → Int32 → St → Option (St))) (v1 : Int32) (v3 : Int32) (v4 : Int64) (v6 : Int32) (σ : St) : Option (St) :=
  if (σ.1 11) ≤ v6 then
    k46 v1 v3 v4 v6 σ
  else
    bd (X7_isBlocked N σ v4 v6) (fun t2 =>
    if t2 = 0 then
      k46 v1 v3 v4 v6 σ
    else
      nm (v6 + (1 : Int32)) (fun (x4 : Int32) =>
      k20 x4 σ))
def X7_addCube_20 (N : Nat) (k46 : (Int32 → Int32 → Int64 → Int32 → St → Option (St))) (v1 : Int32) (v3 : Int32) (v4 : Int64) : Nat → Int32 → St → Option (St)
  | 0, _, _ => none
  | n + 1, v6, σ => X7_addCube_20b N (fun v6 σ => X7_addCube_20 N k46 v1 v3 v4 n v6 σ) k46 v1 v3 v4 v6 σ
def X7_addCube_46 (N : Nat) (v1 : Int32) (v3 : Int32) (v4 : Int64) (v6 : Int32) (σ : St) : Option (St) :=
  bd (X7_dropCubes N v4 v6 σ) (fun t1 =>
  gd (inb (t1.1 12) 1024) (
  nm (sa t1 6 (t1.1 12).toNatClampNeg v3) (fun (σ3 : St) =>
  gd (inb (σ3.1 12) 1024) (
  nm (sa σ3 7 (σ3.1 12).toNatClampNeg (v1 &&& v3)) (fun (σ5 : St) =>
  gd (inb (σ5.1 12) 1024) (
  nm (sa σ5 8 (σ5.1 12).toNatClampNeg v6) (fun (σ7 : St) =>
  nm (si σ7 12 ((σ7.1 12) + (1 : Int32))) (fun (σ8 : St) =>
  nm (si σ8 14 ((σ8.1 14) + (1 : Int32))) (fun (σ9 : St) =>
  some σ9)))))))))
def X7_addCube (N : Nat) (v1 : Int32) (v2 : Int32) (σ : St) : Option (St) :=
  bd (X7_generalized N v1 v2 σ) (fun t1 =>
  bd (X7_cubeSet N t1.2 t1.1 (v1 &&& t1.1)) (fun t2 =>
  X7_addCube_20 N (fun v1 v3 v4 v6 σ => X7_addCube_46 N v1 v3 v4 v6 σ) v1 t1.1 t2 N v2 t1.2))
set_option maxRecDepth 20000 in
set_option maxHeartbeats 4000000 in
theorem c_X7_addCube {l : Launch} {D : va_G} {a : Nat → Nat} {cA : Nat → ClassId} {σ : St} {N : Nat} {v1 : Int32} {v2 : Int32} {σ' : St} (h : X7_addCube N v1 v2 σ = some σ') : MetV l yX7_addCube cX7_addCube 7 none 6 D (tyW cA) (wM a cA) EM [.ref (a 0), .int v1, .int v2] σ σ' := by
  refine mkV (by decide) (adrM a cA) rfl (Nat.le_of_ble_eq_true rfl) ?_
  intro p e R s m args below meth c A Q ls X hR hp hl
  obtain ⟨hx, hb, -, hown, hts, -⟩ := id X
  have J_20 : ∀ (v1 : Int32) (v3 : Int32) (v4 : Int64) (k46 : (Int32 → Int32 → Int64 → Int32 → St → Option (St))) (hk46 : ∀ (v1 : Int32) (v3 : Int32) (v4 : Int64) (v6 : Int32) (σ : St) (H : Heap) (locs : List Loc) (ls : Array Slot), Pw D (wM a cA) A s.heap H locs σ → lv_has ls 7 [(0, .ref (a 0)), (1, .int v1), (3, .int v3), (4, .long v4), (6, .int v6)] → k46 v1 v3 v4 v6 σ = some σ' → W p l e R s m args below meth c H locs 0 0 Q (F0 m 46 ls [])) (n : Nat) (v6 : Int32) (σ : St) (H : Heap) (locs : List Loc) (ls : Array Slot), Pw D (wM a cA) A s.heap H locs σ → lv_has ls 7 [(0, .ref (a 0)), (1, .int v1), (3, .int v3), (4, .long v4), (6, .int v6)] → X7_addCube_20 N k46 v1 v3 v4 n v6 σ = some σ' → W p l e R s m args below meth c H locs 0 0 Q (F0 m 20 ls []) := by
    intro v1 v3 v4 k46 hk46 n
    induction n with
    | zero => intro v6 σ H locs ls hp hl h; exact nn_s (show (none : Option (St)) = some _ from h)
    | succ n ih =>
      intro v6 σ H locs ls hp hl h
      have h : X7_addCube_20b N (fun v6 σ => X7_addCube_20 N k46 v1 v3 v4 n v6 σ) k46 v1 v3 v4 v6 σ = some σ' := h
      unfold X7_addCube_20b at h
      have hk20 := ih
      refine lv_iload hx hb dX7_addCube_20 (lv_at hl 4 rfl) ?_
      refine lv_aload_n hx hb dX7_addCube_22 rfl (lv_at hl 0 rfl) ?_
      refine gM_X7_k X hp tw_39_12 dX7_addCube_23 ?_
      refine lv_icmp_ge (tgt := 46) hx hb dX7_addCube_26 (by decide) (fun c1 => ?_) (fun c1 => ?_)
      · have h := it_p h c1
        exact hk46 v1 v3 v4 v6 σ _ _ _ hp (lv_sub hl [0, 1, 2, 3, 4] rfl) h
      · have h := it_n h c1
        refine lv_aload_n hx hb dX7_addCube_29 rfl (lv_at hl 0 rfl) ?_
        refine lv_lload hx hb dX7_addCube_30 (lv_at hl 3 rfl) ?_
        refine lv_iload hx hb dX7_addCube_32 (lv_at hl 4 rfl) ?_
        obtain ⟨t2, ht2, h⟩ := bd_s h
        refine cl_Vi X eokM (c_X7_isBlocked ht2) tw_41_11 mw_X7_isBlocked (by decide) hp 0 rfl rfl rfl hl.1 rfl (Nat.le_of_ble_eq_true rfl) dX7_addCube_34 (fun H locs hp => ?_)
        refine lv_if_eq (tgt := 46) hx hb dX7_addCube_37 (by decide) (fun c3 => ?_) (fun c3 => ?_)
        · have h := it_p h c3
          exact hk46 v1 v3 v4 v6 σ _ _ _ hp (lv_sub hl [0, 1, 2, 3, 4] rfl) h
        · have h := it_n h c3
          obtain ⟨x4, ex4⟩ : ∃ z : Int32, z = v6 + (1 : Int32) := ⟨_, rfl⟩
          have h := nm_s h x4 ex4
          refine lv_iinc (v := x4) (lv' := [(6, .int x4), (0, .ref (a 0)), (1, .int v1), (3, .int v3), (4, .long v4)]) hx hb dX7_addCube_40 hl (k := 4) rfl (by rw [ex4]; rfl) (by decide) rfl (fun ls hl => ?_)
          refine lv_goto (tgt := 20) hx hb dX7_addCube_43 (by decide) ?_
          exact hk20 x4 σ _ _ _ hp (lv_sub hl [1, 2, 3, 4, 0] rfl) h
  have J_46 : ∀ (v1 : Int32) (v3 : Int32) (v4 : Int64) (v6 : Int32) (σ : St) (H : Heap) (locs : List Loc) (ls : Array Slot), Pw D (wM a cA) A s.heap H locs σ → lv_has ls 7 [(0, .ref (a 0)), (1, .int v1), (3, .int v3), (4, .long v4), (6, .int v6)] → X7_addCube_46 N v1 v3 v4 v6 σ = some σ' → W p l e R s m args below meth c H locs 0 0 Q (F0 m 46 ls []) := by
    intro v1 v3 v4 v6 σ H locs ls hp hl h
    unfold X7_addCube_46 at h
    refine lv_aload_n hx hb dX7_addCube_46 rfl (lv_at hl 0 rfl) ?_
    refine lv_lload hx hb dX7_addCube_47 (lv_at hl 3 rfl) ?_
    refine lv_iload hx hb dX7_addCube_49 (lv_at hl 4 rfl) ?_
    obtain ⟨t1, ht1, h⟩ := bd_s h
    refine cl_Vv X eokM (c_X7_dropCubes ht1) tw_41_15 mw_X7_dropCubes (by decide) hp 0 rfl rfl rfl hl.1 rfl (Nat.le_of_ble_eq_true rfl) dX7_addCube_51 (fun H locs hp => ?_)
    refine lv_aload_n hx hb dX7_addCube_54 rfl (lv_at hl 0 rfl) ?_
    refine gM_X7_maskOf X hp tw_6_2 dX7_addCube_55 ?_
    refine lv_aload_n hx hb dX7_addCube_58 rfl (lv_at hl 0 rfl) ?_
    refine gM_X7_cubes X hp tw_39_13 dX7_addCube_59 ?_
    refine lv_iload_n hx hb dX7_addCube_62 rfl (lv_at hl 2 rfl) ?_
    obtain ⟨g2, h⟩ := gd_s h
    refine sM_X7_maskOf X hp g2 dX7_addCube_63 (fun H locs σ3 eσ3 hp => ?_)
    have h := nm_s h σ3 eσ3
    refine lv_aload_n hx hb dX7_addCube_64 rfl (lv_at hl 0 rfl) ?_
    refine gM_X7_valueOf X hp tw_6_3 dX7_addCube_65 ?_
    refine lv_aload_n hx hb dX7_addCube_68 rfl (lv_at hl 0 rfl) ?_
    refine gM_X7_cubes X hp tw_39_13 dX7_addCube_69 ?_
    refine lv_iload_n hx hb dX7_addCube_72 rfl (lv_at hl 1 rfl) ?_
    refine lv_iload_n hx hb dX7_addCube_73 rfl (lv_at hl 2 rfl) ?_
    refine lv_iand hx hb dX7_addCube_74 ?_
    obtain ⟨g4, h⟩ := gd_s h
    refine sM_X7_valueOf X hp g4 dX7_addCube_75 (fun H locs σ5 eσ5 hp => ?_)
    have h := nm_s h σ5 eσ5
    refine lv_aload_n hx hb dX7_addCube_76 rfl (lv_at hl 0 rfl) ?_
    refine gM_X7_levelOf X hp tw_6_4 dX7_addCube_77 ?_
    refine lv_aload_n hx hb dX7_addCube_80 rfl (lv_at hl 0 rfl) ?_
    refine gM_X7_cubes X hp tw_39_13 dX7_addCube_81 ?_
    refine lv_iload hx hb dX7_addCube_84 (lv_at hl 4 rfl) ?_
    obtain ⟨g6, h⟩ := gd_s h
    refine sM_X7_levelOf X hp g6 dX7_addCube_86 (fun H locs σ7 eσ7 hp => ?_)
    have h := nm_s h σ7 eσ7
    refine lv_aload_n hx hb dX7_addCube_87 rfl (lv_at hl 0 rfl) ?_
    refine lv_dup hx hb dX7_addCube_88 rfl ?_
    refine gM_X7_cubes X hp tw_39_13 dX7_addCube_89 ?_
    refine lv_iconst (v := 1) hx hb dX7_addCube_92 (by decide) ?_
    refine lv_iadd hx hb dX7_addCube_93 ?_
    refine pM_X7_cubes X hp tw_39_13 dX7_addCube_94 (fun H locs σ8 eσ8 hp => ?_)
    have h := nm_s h σ8 eσ8
    refine lv_aload_n hx hb dX7_addCube_97 rfl (lv_at hl 0 rfl) ?_
    refine lv_dup hx hb dX7_addCube_98 rfl ?_
    refine gM_X7_added X hp tw_39_15 dX7_addCube_99 ?_
    refine lv_iconst (v := 1) hx hb dX7_addCube_102 (by decide) ?_
    refine lv_iadd hx hb dX7_addCube_103 ?_
    refine pM_X7_added X hp tw_39_15 dX7_addCube_104 (fun H locs σ9 eσ9 hp => ?_)
    have h := nm_s h σ9 eσ9
    exact hR _ _ _ _ _ dX7_addCube_107 hp (Option.some.inj h)
  unfold X7_addCube at h
  have hl := lv_sub (l' := [(0, .ref (a 0)), (1, .int v1), (2, .int v2)]) hl [0, 1, 2] rfl
  refine lv_aload_n hx hb dX7_addCube_0 rfl (lv_at hl 0 rfl) ?_
  refine lv_iload_n hx hb dX7_addCube_1 rfl (lv_at hl 1 rfl) ?_
  refine lv_iload_n hx hb dX7_addCube_2 rfl (lv_at hl 2 rfl) ?_
  obtain ⟨t1, ht1, h⟩ := bd_s h
  refine cl_Vi X eokM (c_X7_generalized ht1) tw_41_7 mw_X7_generalized (by decide) hp 0 rfl rfl rfl hl.1 rfl (Nat.le_of_ble_eq_true rfl) dX7_addCube_3 (fun H locs hp => ?_)
  refine lv_istore_n (lv' := [(3, .int t1.1), (0, .ref (a 0)), (1, .int v1), (2, .int v2)]) hx hb dX7_addCube_6 rfl hl (by decide) rfl (fun ls hl => ?_)
  refine lv_aload_n hx hb dX7_addCube_7 rfl (lv_at hl 1 rfl) ?_
  refine lv_iload_n hx hb dX7_addCube_8 rfl (lv_at hl 0 rfl) ?_
  refine lv_iload_n hx hb dX7_addCube_9 rfl (lv_at hl 2 rfl) ?_
  refine lv_iload_n hx hb dX7_addCube_10 rfl (lv_at hl 0 rfl) ?_
  refine lv_iand hx hb dX7_addCube_11 ?_
  obtain ⟨t2, ht2, h⟩ := bd_s h
  refine cl_Vl X eokM (c_X7_cubeSet ht2) tw_40_11 mw_X7_cubeSet (by decide) hp 0 rfl rfl rfl hl.1 rfl (Nat.le_of_ble_eq_true rfl) dX7_addCube_12 (fun H locs hp => ?_)
  refine lv_lstore (lv' := [(4, .long t2), (3, .int t1.1), (0, .ref (a 0)), (1, .int v1), (2, .int v2)]) hx hb dX7_addCube_15 hl (by decide) rfl (fun ls hl => ?_)
  refine lv_iload_n hx hb dX7_addCube_17 rfl (lv_at hl 4 rfl) ?_
  refine lv_istore (lv' := [(6, .int v2), (4, .long t2), (3, .int t1.1), (0, .ref (a 0)), (1, .int v1), (2, .int v2)]) hx hb dX7_addCube_18 hl (by decide) rfl (fun ls hl => ?_)
  exact J_20 v1 t1.1 t2 _ (fun v1 v3 v4 v6 σ H locs ls hp hl h => J_46 v1 v3 v4 v6 σ _ _ _ hp hl h) _ v2 t1.2 _ _ _ hp (lv_sub hl [3, 4, 2, 1, 0] rfl) h
def X7_moveOn_40 (u0 : Int64) (u1 : Int64) (u2 : Int32) (σ : St) : Option (St) :=
  gd (inb u2 128) (
  nm (sb σ 3 u2.toNatClampNeg (u1 ||| u0)) (fun (σ2 : St) =>
  some σ2))
def X7_moveOn (v1 : Int32) (v2 : Int32) (σ : St) : Option (St) :=
  gd (inb v2 128) (
  gd (inb v2 128) (
  nm (sb σ 3 v2.toNatClampNeg ((σ.2.2.2 3 v2.toNatClampNeg) &&& (((1 : Int64) <<< (v1.toInt64 &&& 63)) ^^^ (-1 : Int64)))) (fun (σ3 : St) =>
  gd (inb (v2 + (1 : Int32)) 128) (
  if (σ3.1 11) ≤ v2 then
    X7_moveOn_40 (0 : Int64) (σ3.2.2.2 3 (v2 + (1 : Int32)).toNatClampNeg) (v2 + (1 : Int32)) σ3
  else
    X7_moveOn_40 ((1 : Int64) <<< (v1.toInt64 &&& 63)) (σ3.2.2.2 3 (v2 + (1 : Int32)).toNatClampNeg) (v2 + (1 : Int32)) σ3))))
set_option maxRecDepth 20000 in
set_option maxHeartbeats 4000000 in
theorem c_X7_moveOn {l : Launch} {D : va_G} {a : Nat → Nat} {cA : Nat → ClassId} {σ : St} {v1 : Int32} {v2 : Int32} {σ' : St} (h : X7_moveOn v1 v2 σ = some σ') : MetV l yX7_moveOn cX7_moveOn 3 none 0 D (tyW cA) (wM a cA) EM [.ref (a 0), .int v1, .int v2] σ σ' := by
  refine mkV (by decide) (adrM a cA) rfl (Nat.le_of_ble_eq_true rfl) ?_
  intro p e R s m args below meth c A Q ls X hR hp hl
  obtain ⟨hx, hb, -, hown, hts, -⟩ := id X
  have J_40 : ∀ (u0 : Int64) (u1 : Int64) (u2 : Int32) (σ : St) (H : Heap) (locs : List Loc) (ls : Array Slot), Pw D (wM a cA) A s.heap H locs σ → lv_has ls 3 [(0, .ref (a 0))] → X7_moveOn_40 u0 u1 u2 σ = some σ' → W p l e R s m args below meth c H locs 0 0 Q (F0 m 40 ls [.long u0, .long u1, .int u2, .ref (a 13)]) := by
    intro u0 u1 u2 σ H locs ls hp hl h
    unfold X7_moveOn_40 at h
    refine lv_lor hx hb dX7_moveOn_40 ?_
    obtain ⟨g1, h⟩ := gd_s h
    refine sM_X7_obliged X hp g1 dX7_moveOn_41 (fun H locs σ2 eσ2 hp => ?_)
    have h := nm_s h σ2 eσ2
    exact hR _ _ _ _ _ dX7_moveOn_42 hp (Option.some.inj h)
  unfold X7_moveOn at h
  have hl := lv_sub (l' := [(0, .ref (a 0)), (1, .int v1), (2, .int v2)]) hl [0, 1, 2] rfl
  refine lv_aload_n hx hb dX7_moveOn_0 rfl (lv_at hl 0 rfl) ?_
  refine gM_X7_obliged X hp tw_6_5 dX7_moveOn_1 ?_
  refine lv_iload_n hx hb dX7_moveOn_4 rfl (lv_at hl 2 rfl) ?_
  refine lv_dup2_11 hx hb dX7_moveOn_5 rfl rfl ?_
  obtain ⟨g1, h⟩ := gd_s h
  refine lM_X7_obliged X hp g1 dX7_moveOn_6 ?_
  refine lv_lconst (v := 1) hx hb dX7_moveOn_7 (by decide) ?_
  refine lv_iload_n hx hb dX7_moveOn_8 rfl (lv_at hl 1 rfl) ?_
  refine lv_lshl hx hb dX7_moveOn_9 rfl ?_
  refine lv_ldc2 hx hb hown (hts _ tw_7_9) dX7_moveOn_10 ?_
  refine lv_lxor hx hb dX7_moveOn_13 ?_
  refine lv_land hx hb dX7_moveOn_14 ?_
  obtain ⟨g2, h⟩ := gd_s h
  refine sM_X7_obliged X hp g2 dX7_moveOn_15 (fun H locs σ3 eσ3 hp => ?_)
  have h := nm_s h σ3 eσ3
  refine lv_aload_n hx hb dX7_moveOn_16 rfl (lv_at hl 0 rfl) ?_
  refine gM_X7_obliged X hp tw_6_5 dX7_moveOn_17 ?_
  refine lv_iload_n hx hb dX7_moveOn_20 rfl (lv_at hl 2 rfl) ?_
  refine lv_iconst (v := 1) hx hb dX7_moveOn_21 (by decide) ?_
  refine lv_iadd hx hb dX7_moveOn_22 ?_
  refine lv_dup2_11 hx hb dX7_moveOn_23 rfl rfl ?_
  obtain ⟨g4, h⟩ := gd_s h
  refine lM_X7_obliged X hp g4 dX7_moveOn_24 ?_
  refine lv_iload_n hx hb dX7_moveOn_25 rfl (lv_at hl 2 rfl) ?_
  refine lv_aload_n hx hb dX7_moveOn_26 rfl (lv_at hl 0 rfl) ?_
  refine gM_X7_k X hp tw_39_12 dX7_moveOn_27 ?_
  refine lv_icmp_ge (tgt := 39) hx hb dX7_moveOn_30 (by decide) (fun c5 => ?_) (fun c5 => ?_)
  · have h := it_p h c5
    refine lv_lconst (v := 0) hx hb dX7_moveOn_39 (by decide) ?_
    exact J_40 (0 : Int64) (σ3.2.2.2 3 (v2 + (1 : Int32)).toNatClampNeg) (v2 + (1 : Int32)) σ3 _ _ _ hp (lv_sub hl [0] rfl) h
  · have h := it_n h c5
    refine lv_lconst (v := 1) hx hb dX7_moveOn_33 (by decide) ?_
    refine lv_iload_n hx hb dX7_moveOn_34 rfl (lv_at hl 1 rfl) ?_
    refine lv_lshl hx hb dX7_moveOn_35 rfl ?_
    refine lv_goto (tgt := 40) hx hb dX7_moveOn_36 (by decide) ?_
    exact J_40 ((1 : Int64) <<< (v1.toInt64 &&& 63)) (σ3.2.2.2 3 (v2 + (1 : Int32)).toNatClampNeg) (v2 + (1 : Int32)) σ3 _ _ _ hp (lv_sub hl [0] rfl) h
