/- X7_setProperty X7_undo X7_successorOf X7_successor X7_successors X7_before X7_allBefore X7_bad X7_layFar X7_areAlike -/
def X7_setProperty_30 (N : Nat) (σ : St) : Option (Int32 × St) :=
  if (σ.1 0) ≤ 0 then
    bd (X7_size N (σ.2.1 1)) (fun t2 =>
    some (t2, σ))
  else
    some ((0 : Int32), σ)
def X7_setProperty_13 (N : Nat) (u0 : Int32) (σ : St) : Option (Int32 × St) :=
  nm (si σ 0 u0) (fun (σ1 : St) =>
  if (σ1.1 0) = 0 then
    bd (X7_become N (7 : Int32) σ1) (fun t3 =>
    X7_setProperty_30 N t3.2)
  else
    X7_setProperty_30 N σ1)
def X7_setProperty (N : Nat) (σ : St) : Option (Int32 × St) :=
  bd (X7_isPlain N σ) (fun t1 =>
  if t1.1 = 0 then
    X7_setProperty_13 N (1 : Int32) t1.2
  else
    X7_setProperty_13 N (0 : Int32) t1.2)
set_option maxRecDepth 20000 in
set_option maxHeartbeats 4000000 in
theorem c_X7_setProperty {l : Launch} {D : va_G} {a : Nat → Nat} {cA : Nat → ClassId} {σ : St} {N : Nat} {r : Int32} {σ' : St} (h : X7_setProperty N σ = some (r, σ')) : MetI l yX7_setProperty cX7_setProperty 1 (some .int) 6 D (tyW cA) (wM a cA) EM [.ref (a 0)] σ r σ' := by
  refine mkI (by decide) (adrM a cA) (Or.inl rfl) (Nat.le_of_ble_eq_true rfl) ?_
  intro p e R s m args below meth c A Q ls X hR hp hl
  obtain ⟨hx, hb, -, hown, hts, -⟩ := id X
  have J_30 : ∀  (σ : St) (H : Heap) (locs : List Loc) (ls : Array Slot), Pw D (wM a cA) A s.heap H locs σ → lv_has ls 1 [(0, .ref (a 0))] → X7_setProperty_30 N σ = some (r, σ') → W p l e R s m args below meth c H locs 0 0 Q (F0 m 30 ls []) := by
    intro σ H locs ls hp hl h
    unfold X7_setProperty_30 at h
    refine lv_aload_n hx hb dX7_setProperty_30 rfl (lv_at hl 0 rfl) ?_
    refine gM_X7_thrown X hp tw_8_9 dX7_setProperty_31 ?_
    refine lv_if_le (tgt := 41) hx hb dX7_setProperty_34 (by decide) (fun c1 => ?_) (fun c1 => ?_)
    · have h := it_p h c1
      refine lv_aload_n hx hb dX7_setProperty_41 rfl (lv_at hl 0 rfl) ?_
      refine gM_X7_good X hp tw_6_18 dX7_setProperty_42 ?_
      obtain ⟨t2, ht2, h⟩ := bd_s h
      refine cl_Si X eokM (c_X7_size (adrM a cA) eokM ht2) tw_18_0 mw_X7_size (by decide) hp hl.1 rfl (Nat.le_of_ble_eq_true rfl) dX7_setProperty_45 (fun H locs hp => ?_)
      exact hR _ _ _ _ _ _ dX7_setProperty_48 hp (congrArg Prod.fst (Option.some.inj h)) (congrArg Prod.snd (Option.some.inj h)) (fun q => by cases q)
    · have h := it_n h c1
      refine lv_iconst (v := 0) hx hb dX7_setProperty_37 (by decide) ?_
      refine lv_goto (tgt := 48) hx hb dX7_setProperty_38 (by decide) ?_
      exact hR _ _ _ _ _ _ dX7_setProperty_48 hp (congrArg Prod.fst (Option.some.inj h)) (congrArg Prod.snd (Option.some.inj h)) (fun q => by cases q)
  have J_13 : ∀ (u0 : Int32) (σ : St) (H : Heap) (locs : List Loc) (ls : Array Slot), Pw D (wM a cA) A s.heap H locs σ → lv_has ls 1 [(0, .ref (a 0))] → X7_setProperty_13 N u0 σ = some (r, σ') → W p l e R s m args below meth c H locs 0 0 Q (F0 m 13 ls [.int u0, .ref (a 0)]) := by
    intro u0 σ H locs ls hp hl h
    unfold X7_setProperty_13 at h
    refine pM_X7_thrown X hp tw_8_9 dX7_setProperty_13 (fun H locs σ1 eσ1 hp => ?_)
    have h := nm_s h σ1 eσ1
    refine lv_aload_n hx hb dX7_setProperty_16 rfl (lv_at hl 0 rfl) ?_
    refine gM_X7_thrown X hp tw_8_9 dX7_setProperty_17 ?_
    refine lv_if_ne (tgt := 30) hx hb dX7_setProperty_20 (by decide) (fun c2 => ?_) (fun c2 => ?_)
    · have h := it_n h c2
      exact J_30 σ1 _ _ _ hp (lv_sub hl [0] rfl) h
    · have h := it_p h c2
      refine lv_aload_n hx hb dX7_setProperty_23 rfl (lv_at hl 0 rfl) ?_
      refine lv_bipush (v := 7) hx hb dX7_setProperty_24 (by decide) ?_
      obtain ⟨t3, ht3, h⟩ := bd_s h
      refine cl_Vi X eokM (c_X7_become ht3) tw_16_0 mw_X7_become (by decide) hp 0 rfl rfl rfl hl.1 rfl (Nat.le_of_ble_eq_true rfl) dX7_setProperty_26 (fun H locs hp => ?_)
      refine lv_pop hx hb dX7_setProperty_29 rfl ?_
      exact J_30 t3.2 _ _ _ hp (lv_sub hl [0] rfl) h
  unfold X7_setProperty at h
  have hl := lv_sub (l' := [(0, .ref (a 0))]) hl [0] rfl
  refine lv_aload_n hx hb dX7_setProperty_0 rfl (lv_at hl 0 rfl) ?_
  refine lv_aload_n hx hb dX7_setProperty_1 rfl (lv_at hl 0 rfl) ?_
  obtain ⟨t1, ht1, h⟩ := bd_s h
  refine cl_Vi X eokM (c_X7_isPlain ht1) tw_19_10 mw_X7_isPlain (by decide) hp 0 rfl rfl rfl hl.1 rfl (Nat.le_of_ble_eq_true rfl) dX7_setProperty_2 (fun H locs hp => ?_)
  refine lv_if_eq (tgt := 12) hx hb dX7_setProperty_5 (by decide) (fun c2 => ?_) (fun c2 => ?_)
  · have h := it_p h c2
    refine lv_iconst (v := 1) hx hb dX7_setProperty_12 (by decide) ?_
    exact J_13 (1 : Int32) t1.2 _ _ _ hp (lv_sub hl [0] rfl) h
  · have h := it_n h c2
    refine lv_iconst (v := 0) hx hb dX7_setProperty_8 (by decide) ?_
    refine lv_goto (tgt := 13) hx hb dX7_setProperty_9 (by decide) ?_
    exact J_13 (0 : Int32) t1.2 _ _ _ hp (lv_sub hl [0] rfl) h
def X7_undo_37b (k37 : (Int32 → St → Option (Int32 × St))) (k75 : (St → Option (Int32 × St))) (v1 : Int32) (σ : St) : Option (Int32 × St) :=
  if (4 : Int32) ≤ v1 then
    k75 σ
  else
    gd (inb (σ.1 4) 10) (
    gd (inb (((4 : Int32) * (σ.1 4)) + v1) 40) (
    bd (X7_put (σ.2.2.1 1 (σ.1 4).toNatClampNeg) v1 (σ.2.2.2 1 (((4 : Int32) * (σ.1 4)) + v1).toNatClampNeg) σ) (fun t4 =>
    nm (v1 + (1 : Int32)) (fun (x5 : Int32) =>
    k37 x5 t4))))
def X7_undo_37 (k75 : (St → Option (Int32 × St))) : Nat → Int32 → St → Option (Int32 × St)
  | 0, _, _ => none
  | n + 1, v1, σ => X7_undo_37b (fun v1 σ => X7_undo_37 k75 n v1 σ) k75 v1 σ
def X7_undo_75 (σ : St) : Option (Int32 × St) :=
  nm (si σ 9 (0 : Int32)) (fun (σ1 : St) =>
  some ((σ1.1 4), σ1))
def X7_undo_13 (N : Nat) (u0 : Int32) (σ : St) : Option (Int32 × St) :=
  nm (si σ 0 u0) (fun (σ1 : St) =>
  if (σ1.1 0) ≤ 0 then
    nm (si σ1 4 ((σ1.1 4) - (1 : Int32))) (fun (σ3 : St) =>
    X7_undo_37 (fun σ => X7_undo_75 σ) N (0 : Int32) σ3)
  else
    some ((0 : Int32), σ1))
def X7_undo (N : Nat) (σ : St) : Option (Int32 × St) :=
  if (σ.1 4) ≤ 0 then
    X7_undo_13 N (1 : Int32) σ
  else
    X7_undo_13 N (0 : Int32) σ
set_option maxRecDepth 20000 in
set_option maxHeartbeats 4000000 in
theorem c_X7_undo {l : Launch} {D : va_G} {a : Nat → Nat} {cA : Nat → ClassId} {σ : St} {N : Nat} {r : Int32} {σ' : St} (h : X7_undo N σ = some (r, σ')) : MetI l yX7_undo cX7_undo 2 (some .int) 1 D (tyW cA) (wM a cA) EM [.ref (a 0)] σ r σ' := by
  refine mkI (by decide) (adrM a cA) (Or.inl rfl) (Nat.le_of_ble_eq_true rfl) ?_
  intro p e R s m args below meth c A Q ls X hR hp hl
  obtain ⟨hx, hb, -, hown, hts, -⟩ := id X
  have J_37 : ∀  (k75 : (St → Option (Int32 × St))) (hk75 : ∀ (σ : St) (H : Heap) (locs : List Loc) (ls : Array Slot), Pw D (wM a cA) A s.heap H locs σ → lv_has ls 2 [(0, .ref (a 0))] → k75 σ = some (r, σ') → W p l e R s m args below meth c H locs 0 0 Q (F0 m 75 ls [])) (n : Nat) (v1 : Int32) (σ : St) (H : Heap) (locs : List Loc) (ls : Array Slot), Pw D (wM a cA) A s.heap H locs σ → lv_has ls 2 [(0, .ref (a 0)), (1, .int v1)] → X7_undo_37 k75 n v1 σ = some (r, σ') → W p l e R s m args below meth c H locs 0 0 Q (F0 m 37 ls []) := by
    intro k75 hk75 n
    induction n with
    | zero => intro v1 σ H locs ls hp hl h; exact nn_s (show (none : Option (Int32 × St)) = some _ from h)
    | succ n ih =>
      intro v1 σ H locs ls hp hl h
      have h : X7_undo_37b (fun v1 σ => X7_undo_37 k75 n v1 σ) k75 v1 σ = some (r, σ') := h
      unfold X7_undo_37b at h
      have hk37 := ih
      refine lv_iload_n hx hb dX7_undo_37 rfl (lv_at hl 1 rfl) ?_
      refine lv_iconst (v := 4) hx hb dX7_undo_38 (by decide) ?_
      refine lv_icmp_ge (tgt := 75) hx hb dX7_undo_39 (by decide) (fun c1 => ?_) (fun c1 => ?_)
      · have h := it_p h c1
        exact hk75 σ _ _ _ hp (lv_sub hl [0] rfl) h
      · have h := it_n h c1
        refine lv_aload_n hx hb dX7_undo_42 rfl (lv_at hl 0 rfl) ?_
        refine lv_aload_n hx hb dX7_undo_43 rfl (lv_at hl 0 rfl) ?_
        refine gM_X7_keptOf X hp tw_5_19 dX7_undo_44 ?_
        refine lv_aload_n hx hb dX7_undo_47 rfl (lv_at hl 0 rfl) ?_
        refine gM_X7_kept X hp tw_6_19 dX7_undo_48 ?_
        obtain ⟨g2, h⟩ := gd_s h
        refine lM_X7_keptOf X hp g2 dX7_undo_51 ?_
        refine lv_iload_n hx hb dX7_undo_52 rfl (lv_at hl 1 rfl) ?_
        refine lv_aload_n hx hb dX7_undo_53 rfl (lv_at hl 0 rfl) ?_
        refine gM_X7_keptWas X hp tw_5_20 dX7_undo_54 ?_
        refine lv_iconst (v := 4) hx hb dX7_undo_57 (by decide) ?_
        refine lv_aload_n hx hb dX7_undo_58 rfl (lv_at hl 0 rfl) ?_
        refine gM_X7_kept X hp tw_6_19 dX7_undo_59 ?_
        refine lv_imul hx hb dX7_undo_62 ?_
        refine lv_iload_n hx hb dX7_undo_63 rfl (lv_at hl 1 rfl) ?_
        refine lv_iadd hx hb dX7_undo_64 ?_
        obtain ⟨g3, h⟩ := gd_s h
        refine lM_X7_keptWas X hp g3 dX7_undo_65 ?_
        obtain ⟨t4, ht4, h⟩ := bd_s h
        refine cl_Vv X eokM (c_X7_put ht4) tw_18_6 mw_X7_put (by decide) hp 0 rfl rfl rfl hl.1 rfl (Nat.le_of_ble_eq_true rfl) dX7_undo_66 (fun H locs hp => ?_)
        obtain ⟨x5, ex5⟩ : ∃ z : Int32, z = v1 + (1 : Int32) := ⟨_, rfl⟩
        have h := nm_s h x5 ex5
        refine lv_iinc (v := x5) (lv' := [(1, .int x5), (0, .ref (a 0))]) hx hb dX7_undo_69 hl (k := 1) rfl (by rw [ex5]; rfl) (by decide) rfl (fun ls hl => ?_)
        refine lv_goto (tgt := 37) hx hb dX7_undo_72 (by decide) ?_
        exact hk37 x5 t4 _ _ _ hp (lv_sub hl [1, 0] rfl) h
  have J_75 : ∀  (σ : St) (H : Heap) (locs : List Loc) (ls : Array Slot), Pw D (wM a cA) A s.heap H locs σ → lv_has ls 2 [(0, .ref (a 0))] → X7_undo_75 σ = some (r, σ') → W p l e R s m args below meth c H locs 0 0 Q (F0 m 75 ls []) := by
    intro σ H locs ls hp hl h
    unfold X7_undo_75 at h
    refine lv_aload_n hx hb dX7_undo_75 rfl (lv_at hl 0 rfl) ?_
    refine lv_iconst (v := 0) hx hb dX7_undo_76 (by decide) ?_
    refine pM_X7_isProof X hp tw_6_20 (Or.inl rfl) dX7_undo_77 (fun H locs σ1 eσ1 hp => ?_)
    have h := nm_s h σ1 eσ1
    refine lv_aload_n hx hb dX7_undo_80 rfl (lv_at hl 0 rfl) ?_
    refine gM_X7_kept X hp tw_6_19 dX7_undo_81 ?_
    exact hR _ _ _ _ _ _ dX7_undo_84 hp (congrArg Prod.fst (Option.some.inj h)) (congrArg Prod.snd (Option.some.inj h)) (fun q => by cases q)
  have J_13 : ∀ (u0 : Int32) (σ : St) (H : Heap) (locs : List Loc) (ls : Array Slot), Pw D (wM a cA) A s.heap H locs σ → lv_has ls 2 [(0, .ref (a 0))] → X7_undo_13 N u0 σ = some (r, σ') → W p l e R s m args below meth c H locs 0 0 Q (F0 m 13 ls [.int u0, .ref (a 0)]) := by
    intro u0 σ H locs ls hp hl h
    unfold X7_undo_13 at h
    refine pM_X7_thrown X hp tw_8_9 dX7_undo_13 (fun H locs σ1 eσ1 hp => ?_)
    have h := nm_s h σ1 eσ1
    refine lv_aload_n hx hb dX7_undo_16 rfl (lv_at hl 0 rfl) ?_
    refine gM_X7_thrown X hp tw_8_9 dX7_undo_17 ?_
    refine lv_if_le (tgt := 25) hx hb dX7_undo_20 (by decide) (fun c2 => ?_) (fun c2 => ?_)
    · have h := it_p h c2
      refine lv_aload_n hx hb dX7_undo_25 rfl (lv_at hl 0 rfl) ?_
      refine lv_dup hx hb dX7_undo_26 rfl ?_
      refine gM_X7_kept X hp tw_6_19 dX7_undo_27 ?_
      refine lv_iconst (v := 1) hx hb dX7_undo_30 (by decide) ?_
      refine lv_isub hx hb dX7_undo_31 ?_
      refine pM_X7_kept X hp tw_6_19 dX7_undo_32 (fun H locs σ3 eσ3 hp => ?_)
      have h := nm_s h σ3 eσ3
      refine lv_iconst (v := 0) hx hb dX7_undo_35 (by decide) ?_
      refine lv_istore_n (lv' := [(1, .int (0 : Int32)), (0, .ref (a 0))]) hx hb dX7_undo_36 rfl hl (by decide) rfl (fun ls hl => ?_)
      exact J_37 _ (fun σ H locs ls hp hl h => J_75 σ _ _ _ hp hl h) _ (0 : Int32) σ3 _ _ _ hp (lv_sub hl [1, 0] rfl) h
    · have h := it_n h c2
      refine lv_iconst (v := 0) hx hb dX7_undo_23 (by decide) ?_
      exact hR _ _ _ _ _ _ dX7_undo_24 hp (congrArg Prod.fst (Option.some.inj h)) (congrArg Prod.snd (Option.some.inj h)) (fun q => by cases q)
  unfold X7_undo at h
  have hl := lv_sub (l' := [(0, .ref (a 0))]) hl [0] rfl
  refine lv_aload_n hx hb dX7_undo_0 rfl (lv_at hl 0 rfl) ?_
  refine lv_aload_n hx hb dX7_undo_1 rfl (lv_at hl 0 rfl) ?_
  refine gM_X7_kept X hp tw_6_19 dX7_undo_2 ?_
  refine lv_if_le (tgt := 12) hx hb dX7_undo_5 (by decide) (fun c1 => ?_) (fun c1 => ?_)
  · have h := it_p h c1
    refine lv_iconst (v := 1) hx hb dX7_undo_12 (by decide) ?_
    exact J_13 (1 : Int32) σ _ _ _ hp (lv_sub hl [0] rfl) h
  · have h := it_n h c1
    refine lv_iconst (v := 0) hx hb dX7_undo_8 (by decide) ?_
    refine lv_goto (tgt := 13) hx hb dX7_undo_9 (by decide) ?_
    exact J_13 (0 : Int32) σ _ _ _ hp (lv_sub hl [0] rfl) h
def X7_successorOf_5b (k5 : (Int32 → Int32 → Option (Int32))) (k49 : (Int32 → Option (Int32))) (σ : St) (v1 : Int32) (v2 : Int32) (v3 : Int32) (v4 : Int32) : Option (Int32) :=
  if (σ.1 1) ≤ v4 then
    k49 v3
  else
    gd (inb (((4 : Int32) * v4) + v2) 24) (
    bd (X7_has (σ.2.2.2 0 (((4 : Int32) * v4) + v2).toNatClampNeg) v1) (fun t3 =>
    if t3 = 0 then
      nm (v3 ||| (0 : Int32)) (fun (x5 : Int32) =>
      nm (v4 + (1 : Int32)) (fun (x6 : Int32) =>
      k5 x5 x6))
    else
      nm (v3 ||| ((1 : Int32) <<< (v4 &&& 31))) (fun (x7 : Int32) =>
      nm (v4 + (1 : Int32)) (fun (x8 : Int32) =>
      k5 x7 x8))))
def X7_successorOf_5 (k49 : (Int32 → Option (Int32))) (σ : St) (v1 : Int32) (v2 : Int32) : Nat → Int32 → Int32 → Option (Int32)
  | 0, _, _ => none
  | n + 1, v3, v4 => X7_successorOf_5b (fun v3 v4 => X7_successorOf_5 k49 σ v1 v2 n v3 v4) k49 σ v1 v2 v3 v4
def X7_successorOf_49 (σ : St) (v3 : Int32) : Option (Int32) :=
  some v3
def X7_successorOf (N : Nat) (σ : St) (v1 : Int32) (v2 : Int32) : Option (Int32) :=
  X7_successorOf_5 (fun v3 => X7_successorOf_49 σ v3) σ v1 v2 N (0 : Int32) (0 : Int32)
set_option maxRecDepth 20000 in
set_option maxHeartbeats 4000000 in
theorem c_X7_successorOf {l : Launch} {D : va_G} {a : Nat → Nat} {cA : Nat → ClassId} {σ : St} {N : Nat} {v1 : Int32} {v2 : Int32} {r : Int32} (h : X7_successorOf N σ v1 v2 = some r) : MetI l yX7_successorOf cX7_successorOf 5 (some .int) 1 D (tyW cA) (wM a cA) EM [.ref (a 0), .int v1, .int v2] σ r σ := by
  refine mkI (by decide) (adrM a cA) (Or.inl rfl) (Nat.le_of_ble_eq_true rfl) ?_
  intro p e R s m args below meth c A Q ls X hR hp hl
  obtain ⟨hx, hb, -, hown, hts, -⟩ := id X
  have J_5 : ∀ (v1 : Int32) (v2 : Int32) (k49 : (Int32 → Option (Int32))) (hk49 : ∀ (v3 : Int32) (H : Heap) (locs : List Loc) (ls : Array Slot), Pw D (wM a cA) A s.heap H locs σ → lv_has ls 5 [(0, .ref (a 0)), (3, .int v3)] → k49 v3 = some r → W p l e R s m args below meth c H locs 0 0 Q (F0 m 49 ls [])) (n : Nat) (v3 : Int32) (v4 : Int32) (H : Heap) (locs : List Loc) (ls : Array Slot), Pw D (wM a cA) A s.heap H locs σ → lv_has ls 5 [(0, .ref (a 0)), (1, .int v1), (2, .int v2), (3, .int v3), (4, .int v4)] → X7_successorOf_5 k49 σ v1 v2 n v3 v4 = some r → W p l e R s m args below meth c H locs 0 0 Q (F0 m 5 ls []) := by
    intro v1 v2 k49 hk49 n
    induction n with
    | zero => intro v3 v4 H locs ls hp hl h; exact nn_s (show (none : Option (Int32)) = some _ from h)
    | succ n ih =>
      intro v3 v4 H locs ls hp hl h
      have h : X7_successorOf_5b (fun v3 v4 => X7_successorOf_5 k49 σ v1 v2 n v3 v4) k49 σ v1 v2 v3 v4 = some r := h
      unfold X7_successorOf_5b at h
      have hk5 := ih
      refine lv_iload hx hb dX7_successorOf_5 (lv_at hl 4 rfl) ?_
      refine lv_aload_n hx hb dX7_successorOf_7 rfl (lv_at hl 0 rfl) ?_
      refine gM_X7_bits X hp tw_6_15 dX7_successorOf_8 ?_
      refine lv_icmp_ge (tgt := 49) hx hb dX7_successorOf_11 (by decide) (fun c1 => ?_) (fun c1 => ?_)
      · have h := it_p h c1
        exact hk49 v3 _ _ _ hp (lv_sub hl [0, 3] rfl) h
      · have h := it_n h c1
        refine lv_iload_n hx hb dX7_successorOf_14 rfl (lv_at hl 3 rfl) ?_
        refine lv_aload_n hx hb dX7_successorOf_15 rfl (lv_at hl 0 rfl) ?_
        refine gM_X7_next X hp tw_5_17 dX7_successorOf_16 ?_
        refine lv_iconst (v := 4) hx hb dX7_successorOf_19 (by decide) ?_
        refine lv_iload hx hb dX7_successorOf_20 (lv_at hl 4 rfl) ?_
        refine lv_imul hx hb dX7_successorOf_22 ?_
        refine lv_iload_n hx hb dX7_successorOf_23 rfl (lv_at hl 2 rfl) ?_
        refine lv_iadd hx hb dX7_successorOf_24 ?_
        obtain ⟨g2, h⟩ := gd_s h
        refine lM_X7_next X hp g2 dX7_successorOf_25 ?_
        refine lv_iload_n hx hb dX7_successorOf_26 rfl (lv_at hl 1 rfl) ?_
        obtain ⟨t3, ht3, h⟩ := bd_s h
        refine cl_Si X eokM (c_X7_has (adrM a cA) eokM ht3) tw_18_3 mw_X7_has (by decide) hp hl.1 rfl (Nat.le_of_ble_eq_true rfl) dX7_successorOf_27 (fun H locs hp => ?_)
        refine lv_if_eq (tgt := 40) hx hb dX7_successorOf_30 (by decide) (fun c4 => ?_) (fun c4 => ?_)
        · have h := it_p h c4
          refine lv_iconst (v := 0) hx hb dX7_successorOf_40 (by decide) ?_
          refine lv_ior hx hb dX7_successorOf_41 ?_
          refine lv_topi (fun x5 ex5 => ?_)
          have h := nm_s h x5 ex5
          refine lv_istore_n (lv' := [(3, .int x5), (0, .ref (a 0)), (1, .int v1), (2, .int v2), (4, .int v4)]) hx hb dX7_successorOf_42 rfl hl (by decide) rfl (fun ls hl => ?_)
          obtain ⟨x6, ex6⟩ : ∃ z : Int32, z = v4 + (1 : Int32) := ⟨_, rfl⟩
          have h := nm_s h x6 ex6
          refine lv_iinc (v := x6) (lv' := [(4, .int x6), (3, .int x5), (0, .ref (a 0)), (1, .int v1), (2, .int v2)]) hx hb dX7_successorOf_43 hl (k := 4) rfl (by rw [ex6]; rfl) (by decide) rfl (fun ls hl => ?_)
          refine lv_goto (tgt := 5) hx hb dX7_successorOf_46 (by decide) ?_
          exact hk5 x5 x6 _ _ _ hp (lv_sub hl [2, 3, 4, 1, 0] rfl) h
        · have h := it_n h c4
          refine lv_iconst (v := 1) hx hb dX7_successorOf_33 (by decide) ?_
          refine lv_iload hx hb dX7_successorOf_34 (lv_at hl 4 rfl) ?_
          refine lv_ishl hx hb dX7_successorOf_36 ?_
          refine lv_goto (tgt := 41) hx hb dX7_successorOf_37 (by decide) ?_
          refine lv_ior hx hb dX7_successorOf_41 ?_
          refine lv_topi (fun x7 ex7 => ?_)
          have h := nm_s h x7 ex7
          refine lv_istore_n (lv' := [(3, .int x7), (0, .ref (a 0)), (1, .int v1), (2, .int v2), (4, .int v4)]) hx hb dX7_successorOf_42 rfl hl (by decide) rfl (fun ls hl => ?_)
          obtain ⟨x8, ex8⟩ : ∃ z : Int32, z = v4 + (1 : Int32) := ⟨_, rfl⟩
          have h := nm_s h x8 ex8
          refine lv_iinc (v := x8) (lv' := [(4, .int x8), (3, .int x7), (0, .ref (a 0)), (1, .int v1), (2, .int v2)]) hx hb dX7_successorOf_43 hl (k := 4) rfl (by rw [ex8]; rfl) (by decide) rfl (fun ls hl => ?_)
          refine lv_goto (tgt := 5) hx hb dX7_successorOf_46 (by decide) ?_
          exact hk5 x7 x8 _ _ _ hp (lv_sub hl [2, 3, 4, 1, 0] rfl) h
  have J_49 : ∀ (v3 : Int32) (H : Heap) (locs : List Loc) (ls : Array Slot), Pw D (wM a cA) A s.heap H locs σ → lv_has ls 5 [(0, .ref (a 0)), (3, .int v3)] → X7_successorOf_49 σ v3 = some r → W p l e R s m args below meth c H locs 0 0 Q (F0 m 49 ls []) := by
    intro v3 H locs ls hp hl h
    unfold X7_successorOf_49 at h
    refine lv_iload_n hx hb dX7_successorOf_49 rfl (lv_at hl 1 rfl) ?_
    exact hR _ _ _ _ _ _ dX7_successorOf_50 hp (Option.some.inj h) rfl (fun q => by cases q)
  unfold X7_successorOf at h
  have hl := lv_sub (l' := [(0, .ref (a 0)), (1, .int v1), (2, .int v2)]) hl [0, 1, 2] rfl
  refine lv_iconst (v := 0) hx hb dX7_successorOf_0 (by decide) ?_
  refine lv_istore_n (lv' := [(3, .int (0 : Int32)), (0, .ref (a 0)), (1, .int v1), (2, .int v2)]) hx hb dX7_successorOf_1 rfl hl (by decide) rfl (fun ls hl => ?_)
  refine lv_iconst (v := 0) hx hb dX7_successorOf_2 (by decide) ?_
  refine lv_istore (lv' := [(4, .int (0 : Int32)), (3, .int (0 : Int32)), (0, .ref (a 0)), (1, .int v1), (2, .int v2)]) hx hb dX7_successorOf_3 hl (by decide) rfl (fun ls hl => ?_)
  exact J_5 v1 v2 _ (fun v3 H locs ls hp hl h => J_49 v3 _ _ _ hp hl h) _ (0 : Int32) (0 : Int32) _ _ _ hp (lv_sub hl [2, 3, 4, 1, 0] rfl) h
def X7_successor_38 (N : Nat) (v1 : Int32) (v2 : Int32) (u0 : Int32) (σ : St) : Option (Int32 × St) :=
  nm (si σ 0 u0) (fun (σ1 : St) =>
  if (σ1.1 0) ≤ 0 then
    bd (X7_successorOf N σ1 v1 v2) (fun t3 =>
    some (t3, σ1))
  else
    some ((0 : Int32), σ1))
def X7_successor (N : Nat) (v1 : Int32) (v2 : Int32) (σ : St) : Option (Int32 × St) :=
  bd (X7_states σ) (fun t1 =>
  bd (X7_within v1 (0 : Int32) (t1 - (1 : Int32))) (fun t2 =>
  if t2 = 0 then
    X7_successor_38 N v1 v2 (1 : Int32) σ
  else
    bd (X7_values σ) (fun t4 =>
    bd (X7_within v2 (0 : Int32) (t4 - (1 : Int32))) (fun t5 =>
    if t5 = 0 then
      X7_successor_38 N v1 v2 (2 : Int32) σ
    else
      X7_successor_38 N v1 v2 (0 : Int32) σ))))
set_option maxRecDepth 20000 in
set_option maxHeartbeats 4000000 in
theorem c_X7_successor {l : Launch} {D : va_G} {a : Nat → Nat} {cA : Nat → ClassId} {σ : St} {N : Nat} {v1 : Int32} {v2 : Int32} {r : Int32} {σ' : St} (h : X7_successor N v1 v2 σ = some (r, σ')) : MetI l yX7_successor cX7_successor 3 (some .int) 2 D (tyW cA) (wM a cA) EM [.ref (a 0), .int v1, .int v2] σ r σ' := by
  refine mkI (by decide) (adrM a cA) (Or.inl rfl) (Nat.le_of_ble_eq_true rfl) ?_
  intro p e R s m args below meth c A Q ls X hR hp hl
  obtain ⟨hx, hb, -, hown, hts, -⟩ := id X
  have J_38 : ∀ (v1 : Int32) (v2 : Int32) (u0 : Int32) (σ : St) (H : Heap) (locs : List Loc) (ls : Array Slot), Pw D (wM a cA) A s.heap H locs σ → lv_has ls 3 [(0, .ref (a 0)), (1, .int v1), (2, .int v2)] → X7_successor_38 N v1 v2 u0 σ = some (r, σ') → W p l e R s m args below meth c H locs 0 0 Q (F0 m 38 ls [.int u0, .ref (a 0)]) := by
    intro v1 v2 u0 σ H locs ls hp hl h
    unfold X7_successor_38 at h
    refine pM_X7_thrown X hp tw_8_9 dX7_successor_38 (fun H locs σ1 eσ1 hp => ?_)
    have h := nm_s h σ1 eσ1
    refine lv_aload_n hx hb dX7_successor_41 rfl (lv_at hl 0 rfl) ?_
    refine gM_X7_thrown X hp tw_8_9 dX7_successor_42 ?_
    refine lv_if_le (tgt := 52) hx hb dX7_successor_45 (by decide) (fun c2 => ?_) (fun c2 => ?_)
    · have h := it_p h c2
      refine lv_aload_n hx hb dX7_successor_52 rfl (lv_at hl 0 rfl) ?_
      refine lv_iload_n hx hb dX7_successor_53 rfl (lv_at hl 1 rfl) ?_
      refine lv_iload_n hx hb dX7_successor_54 rfl (lv_at hl 2 rfl) ?_
      obtain ⟨t3, ht3, h⟩ := bd_s h
      refine cl_Vi X eokM (c_X7_successorOf ht3) tw_21_23 mw_X7_successorOf (by decide) hp 0 rfl rfl rfl hl.1 rfl (Nat.le_of_ble_eq_true rfl) dX7_successor_55 (fun H locs hp => ?_)
      exact hR _ _ _ _ _ _ dX7_successor_58 hp (congrArg Prod.fst (Option.some.inj h)) (congrArg Prod.snd (Option.some.inj h)) (fun q => by cases q)
    · have h := it_n h c2
      refine lv_iconst (v := 0) hx hb dX7_successor_48 (by decide) ?_
      refine lv_goto (tgt := 58) hx hb dX7_successor_49 (by decide) ?_
      exact hR _ _ _ _ _ _ dX7_successor_58 hp (congrArg Prod.fst (Option.some.inj h)) (congrArg Prod.snd (Option.some.inj h)) (fun q => by cases q)
  unfold X7_successor at h
  have hl := lv_sub (l' := [(0, .ref (a 0)), (1, .int v1), (2, .int v2)]) hl [0, 1, 2] rfl
  refine lv_aload_n hx hb dX7_successor_0 rfl (lv_at hl 0 rfl) ?_
  refine lv_iload_n hx hb dX7_successor_1 rfl (lv_at hl 1 rfl) ?_
  refine lv_iconst (v := 0) hx hb dX7_successor_2 (by decide) ?_
  refine lv_aload_n hx hb dX7_successor_3 rfl (lv_at hl 0 rfl) ?_
  obtain ⟨t1, ht1, h⟩ := bd_s h
  refine cl_Vi X eokM (c_X7_states ht1) tw_7_1 mw_X7_states (by decide) hp 0 rfl rfl rfl hl.1 rfl (Nat.le_of_ble_eq_true rfl) dX7_successor_4 (fun H locs hp => ?_)
  refine lv_iconst (v := 1) hx hb dX7_successor_7 (by decide) ?_
  refine lv_isub hx hb dX7_successor_8 ?_
  obtain ⟨t2, ht2, h⟩ := bd_s h
  refine cl_Si X eokM (c_X7_within (adrM a cA) eokM ht2) tw_8_10 mw_X7_within (by decide) hp hl.1 rfl (Nat.le_of_ble_eq_true rfl) dX7_successor_9 (fun H locs hp => ?_)
  refine lv_if_ne (tgt := 19) hx hb dX7_successor_12 (by decide) (fun c3 => ?_) (fun c3 => ?_)
  · have h := it_n h c3
    refine lv_iload_n hx hb dX7_successor_19 rfl (lv_at hl 2 rfl) ?_
    refine lv_iconst (v := 0) hx hb dX7_successor_20 (by decide) ?_
    refine lv_aload_n hx hb dX7_successor_21 rfl (lv_at hl 0 rfl) ?_
    obtain ⟨t4, ht4, h⟩ := bd_s h
    refine cl_Vi X eokM (c_X7_values ht4) tw_17_20 mw_X7_values (by decide) hp 0 rfl rfl rfl hl.1 rfl (Nat.le_of_ble_eq_true rfl) dX7_successor_22 (fun H locs hp => ?_)
    refine lv_iconst (v := 1) hx hb dX7_successor_25 (by decide) ?_
    refine lv_isub hx hb dX7_successor_26 ?_
    obtain ⟨t5, ht5, h⟩ := bd_s h
    refine cl_Si X eokM (c_X7_within (adrM a cA) eokM ht5) tw_8_10 mw_X7_within (by decide) hp hl.1 rfl (Nat.le_of_ble_eq_true rfl) dX7_successor_27 (fun H locs hp => ?_)
    refine lv_if_eq (tgt := 37) hx hb dX7_successor_30 (by decide) (fun c6 => ?_) (fun c6 => ?_)
    · have h := it_p h c6
      refine lv_iconst (v := 2) hx hb dX7_successor_37 (by decide) ?_
      exact J_38 v1 v2 (2 : Int32) σ _ _ _ hp (lv_sub hl [0, 1, 2] rfl) h
    · have h := it_n h c6
      refine lv_iconst (v := 0) hx hb dX7_successor_33 (by decide) ?_
      refine lv_goto (tgt := 38) hx hb dX7_successor_34 (by decide) ?_
      exact J_38 v1 v2 (0 : Int32) σ _ _ _ hp (lv_sub hl [0, 1, 2] rfl) h
  · have h := it_p h c3
    refine lv_iconst (v := 1) hx hb dX7_successor_15 (by decide) ?_
    refine lv_goto (tgt := 38) hx hb dX7_successor_16 (by decide) ?_
    exact J_38 v1 v2 (1 : Int32) σ _ _ _ hp (lv_sub hl [0, 1, 2] rfl) h
def X7_successors_17b (N : Nat) (k17 : (Int64 → Int32 → Option (Int64))) (k54 : (Int64 → Int32 → Option (Int64))) (σ : St) (v1 : Int64) (v3 : Int64) (v5 : Int32) (v6 : Int32) : Option (Int64) :=
  bd (X7_values σ) (fun t1 =>
  if t1 ≤ v6 then
    k54 v3 v5
  else
    bd (X7_has v1 v5) (fun t3 =>
    if t3 = 0 then
      k54 v3 v5
    else
      bd (X7_successorOf N σ v5 v6) (fun t5 =>
      nm (v3 ||| ((1 : Int64) <<< (t5.toInt64 &&& 63))) (fun (x6 : Int64) =>
      nm (v6 + (1 : Int32)) (fun (x7 : Int32) =>
      k17 x6 x7)))))
def X7_successors_17 (N : Nat) (k54 : (Int64 → Int32 → Option (Int64))) (σ : St) (v1 : Int64) (v5 : Int32) : Nat → Int64 → Int32 → Option (Int64)
  | 0, _, _ => none
  | n + 1, v3, v6 => X7_successors_17b N (fun v3 v6 => X7_successors_17 N k54 σ v1 v5 n v3 v6) k54 σ v1 v3 v5 v6
def X7_successors_54 (k5 : (Int64 → Int32 → Option (Int64))) (σ : St) (v1 : Int64) (v3 : Int64) (v5 : Int32) : Option (Int64) :=
  nm (v5 + (1 : Int32)) (fun (x1 : Int32) =>
  k5 v3 x1)
def X7_successors_5b (N : Nat) (k5 : (Int64 → Int32 → Option (Int64))) (k60 : (Int64 → Option (Int64))) (σ : St) (v1 : Int64) (v3 : Int64) (v5 : Int32) : Option (Int64) :=
  bd (X7_states σ) (fun t1 =>
  if t1 ≤ v5 then
    k60 v3
  else
    X7_successors_17 N (fun v3 v5 => X7_successors_54 k5 σ v1 v3 v5) σ v1 v5 N v3 (0 : Int32))
def X7_successors_5 (N : Nat) (k60 : (Int64 → Option (Int64))) (σ : St) (v1 : Int64) : Nat → Int64 → Int32 → Option (Int64)
  | 0, _, _ => none
  | n + 1, v3, v5 => X7_successors_5b N (fun v3 v5 => X7_successors_5 N k60 σ v1 n v3 v5) k60 σ v1 v3 v5
def X7_successors_60 (σ : St) (v3 : Int64) : Option (Int64) :=
  some v3
def X7_successors (N : Nat) (σ : St) (v1 : Int64) : Option (Int64) :=
  X7_successors_5 N (fun v3 => X7_successors_60 σ v3) σ v1 N (0 : Int64) (0 : Int32)
set_option maxRecDepth 20000 in
set_option maxHeartbeats 4000000 in
theorem c_X7_successors {l : Launch} {D : va_G} {a : Nat → Nat} {cA : Nat → ClassId} {σ : St} {N : Nat} {v1 : Int64} {r : Int64} (h : X7_successors N σ v1 = some r) : MetL l yX7_successors cX7_successors 7 (some .long) 2 D (tyW cA) (wM a cA) EM [.ref (a 0), .long v1] σ r σ := by
  refine mkL (by decide) (adrM a cA) rfl (Nat.le_of_ble_eq_true rfl) ?_
  intro p e R s m args below meth c A Q ls X hR hp hl
  obtain ⟨hx, hb, -, hown, hts, -⟩ := id X
  have J_17 : ∀ (v1 : Int64) (v5 : Int32) (k54 : (Int64 → Int32 → Option (Int64))) (hk54 : ∀ (v3 : Int64) (v5 : Int32) (H : Heap) (locs : List Loc) (ls : Array Slot), Pw D (wM a cA) A s.heap H locs σ → lv_has ls 7 [(0, .ref (a 0)), (1, .long v1), (3, .long v3), (5, .int v5)] → k54 v3 v5 = some r → W p l e R s m args below meth c H locs 0 0 Q (F0 m 54 ls [])) (n : Nat) (v3 : Int64) (v6 : Int32) (H : Heap) (locs : List Loc) (ls : Array Slot), Pw D (wM a cA) A s.heap H locs σ → lv_has ls 7 [(0, .ref (a 0)), (1, .long v1), (3, .long v3), (5, .int v5), (6, .int v6)] → X7_successors_17 N k54 σ v1 v5 n v3 v6 = some r → W p l e R s m args below meth c H locs 0 0 Q (F0 m 17 ls []) := by
    intro v1 v5 k54 hk54 n
    induction n with
    | zero => intro v3 v6 H locs ls hp hl h; exact nn_s (show (none : Option (Int64)) = some _ from h)
    | succ n ih =>
      intro v3 v6 H locs ls hp hl h
      have h : X7_successors_17b N (fun v3 v6 => X7_successors_17 N k54 σ v1 v5 n v3 v6) k54 σ v1 v3 v5 v6 = some r := h
      unfold X7_successors_17b at h
      have hk17 := ih
      refine lv_iload hx hb dX7_successors_17 (lv_at hl 4 rfl) ?_
      refine lv_aload_n hx hb dX7_successors_19 rfl (lv_at hl 0 rfl) ?_
      obtain ⟨t1, ht1, h⟩ := bd_s h
      refine cl_Vi X eokM (c_X7_values ht1) tw_17_20 mw_X7_values (by decide) hp 0 rfl rfl rfl hl.1 rfl (Nat.le_of_ble_eq_true rfl) dX7_successors_20 (fun H locs hp => ?_)
      refine lv_icmp_ge (tgt := 54) hx hb dX7_successors_23 (by decide) (fun c2 => ?_) (fun c2 => ?_)
      · have h := it_p h c2
        exact hk54 v3 v5 _ _ _ hp (lv_sub hl [0, 1, 2, 3] rfl) h
      · have h := it_n h c2
        refine lv_lload_n hx hb dX7_successors_26 rfl (lv_at hl 1 rfl) ?_
        refine lv_iload hx hb dX7_successors_27 (lv_at hl 3 rfl) ?_
        obtain ⟨t3, ht3, h⟩ := bd_s h
        refine cl_Si X eokM (c_X7_has (adrM a cA) eokM ht3) tw_18_3 mw_X7_has (by decide) hp hl.1 rfl (Nat.le_of_ble_eq_true rfl) dX7_successors_29 (fun H locs hp => ?_)
        refine lv_if_eq (tgt := 54) hx hb dX7_successors_32 (by decide) (fun c4 => ?_) (fun c4 => ?_)
        · have h := it_p h c4
          exact hk54 v3 v5 _ _ _ hp (lv_sub hl [0, 1, 2, 3] rfl) h
        · have h := it_n h c4
          refine lv_lload_n hx hb dX7_successors_35 rfl (lv_at hl 2 rfl) ?_
          refine lv_lconst (v := 1) hx hb dX7_successors_36 (by decide) ?_
          refine lv_aload_n hx hb dX7_successors_37 rfl (lv_at hl 0 rfl) ?_
          refine lv_iload hx hb dX7_successors_38 (lv_at hl 3 rfl) ?_
          refine lv_iload hx hb dX7_successors_40 (lv_at hl 4 rfl) ?_
          obtain ⟨t5, ht5, h⟩ := bd_s h
          refine cl_Vi X eokM (c_X7_successorOf ht5) tw_21_23 mw_X7_successorOf (by decide) hp 0 rfl rfl rfl hl.1 rfl (Nat.le_of_ble_eq_true rfl) dX7_successors_42 (fun H locs hp => ?_)
          refine lv_lshl hx hb dX7_successors_45 rfl ?_
          refine lv_lor hx hb dX7_successors_46 ?_
          refine lv_topl (fun x6 ex6 => ?_)
          have h := nm_s h x6 ex6
          refine lv_lstore_n (lv' := [(3, .long x6), (0, .ref (a 0)), (1, .long v1), (5, .int v5), (6, .int v6)]) hx hb dX7_successors_47 rfl hl (by decide) rfl (fun ls hl => ?_)
          obtain ⟨x7, ex7⟩ : ∃ z : Int32, z = v6 + (1 : Int32) := ⟨_, rfl⟩
          have h := nm_s h x7 ex7
          refine lv_iinc (v := x7) (lv' := [(6, .int x7), (3, .long x6), (0, .ref (a 0)), (1, .long v1), (5, .int v5)]) hx hb dX7_successors_48 hl (k := 4) rfl (by rw [ex7]; rfl) (by decide) rfl (fun ls hl => ?_)
          refine lv_goto (tgt := 17) hx hb dX7_successors_51 (by decide) ?_
          exact hk17 x6 x7 _ _ _ hp (lv_sub hl [2, 3, 1, 4, 0] rfl) h
  have J_54 : ∀ (v1 : Int64) (v3 : Int64) (v5 : Int32) (k5 : (Int64 → Int32 → Option (Int64))) (hk5 : ∀ (v3 : Int64) (v5 : Int32) (H : Heap) (locs : List Loc) (ls : Array Slot), Pw D (wM a cA) A s.heap H locs σ → lv_has ls 7 [(0, .ref (a 0)), (1, .long v1), (3, .long v3), (5, .int v5)] → k5 v3 v5 = some r → W p l e R s m args below meth c H locs 0 0 Q (F0 m 5 ls [])) (H : Heap) (locs : List Loc) (ls : Array Slot), Pw D (wM a cA) A s.heap H locs σ → lv_has ls 7 [(0, .ref (a 0)), (1, .long v1), (3, .long v3), (5, .int v5)] → X7_successors_54 k5 σ v1 v3 v5 = some r → W p l e R s m args below meth c H locs 0 0 Q (F0 m 54 ls []) := by
    intro v1 v3 v5 k5 hk5 H locs ls hp hl h
    unfold X7_successors_54 at h
    obtain ⟨x1, ex1⟩ : ∃ z : Int32, z = v5 + (1 : Int32) := ⟨_, rfl⟩
    have h := nm_s h x1 ex1
    refine lv_iinc (v := x1) (lv' := [(5, .int x1), (0, .ref (a 0)), (1, .long v1), (3, .long v3)]) hx hb dX7_successors_54 hl (k := 3) rfl (by rw [ex1]; rfl) (by decide) rfl (fun ls hl => ?_)
    refine lv_goto (tgt := 5) hx hb dX7_successors_57 (by decide) ?_
    exact hk5 v3 x1 _ _ _ hp (lv_sub hl [1, 2, 3, 0] rfl) h
  have J_5 : ∀ (v1 : Int64) (k60 : (Int64 → Option (Int64))) (hk60 : ∀ (v3 : Int64) (H : Heap) (locs : List Loc) (ls : Array Slot), Pw D (wM a cA) A s.heap H locs σ → lv_has ls 7 [(0, .ref (a 0)), (3, .long v3)] → k60 v3 = some r → W p l e R s m args below meth c H locs 0 0 Q (F0 m 60 ls [])) (n : Nat) (v3 : Int64) (v5 : Int32) (H : Heap) (locs : List Loc) (ls : Array Slot), Pw D (wM a cA) A s.heap H locs σ → lv_has ls 7 [(0, .ref (a 0)), (1, .long v1), (3, .long v3), (5, .int v5)] → X7_successors_5 N k60 σ v1 n v3 v5 = some r → W p l e R s m args below meth c H locs 0 0 Q (F0 m 5 ls []) := by
    intro v1 k60 hk60 n
    induction n with
    | zero => intro v3 v5 H locs ls hp hl h; exact nn_s (show (none : Option (Int64)) = some _ from h)
    | succ n ih =>
      intro v3 v5 H locs ls hp hl h
      have h : X7_successors_5b N (fun v3 v5 => X7_successors_5 N k60 σ v1 n v3 v5) k60 σ v1 v3 v5 = some r := h
      unfold X7_successors_5b at h
      have hk5 := ih
      refine lv_iload hx hb dX7_successors_5 (lv_at hl 3 rfl) ?_
      refine lv_aload_n hx hb dX7_successors_7 rfl (lv_at hl 0 rfl) ?_
      obtain ⟨t1, ht1, h⟩ := bd_s h
      refine cl_Vi X eokM (c_X7_states ht1) tw_7_1 mw_X7_states (by decide) hp 0 rfl rfl rfl hl.1 rfl (Nat.le_of_ble_eq_true rfl) dX7_successors_8 (fun H locs hp => ?_)
      refine lv_icmp_ge (tgt := 60) hx hb dX7_successors_11 (by decide) (fun c2 => ?_) (fun c2 => ?_)
      · have h := it_p h c2
        exact hk60 v3 _ _ _ hp (lv_sub hl [0, 2] rfl) h
      · have h := it_n h c2
        refine lv_iconst (v := 0) hx hb dX7_successors_14 (by decide) ?_
        refine lv_istore (lv' := [(6, .int (0 : Int32)), (0, .ref (a 0)), (1, .long v1), (3, .long v3), (5, .int v5)]) hx hb dX7_successors_15 hl (by decide) rfl (fun ls hl => ?_)
        exact J_17 v1 v5 _ (fun v3 v5 H locs ls hp hl h => J_54 v1 v3 v5 _ hk5 _ _ _ hp hl h) _ v3 (0 : Int32) _ _ _ hp (lv_sub hl [1, 2, 3, 4, 0] rfl) h
  have J_60 : ∀ (v3 : Int64) (H : Heap) (locs : List Loc) (ls : Array Slot), Pw D (wM a cA) A s.heap H locs σ → lv_has ls 7 [(0, .ref (a 0)), (3, .long v3)] → X7_successors_60 σ v3 = some r → W p l e R s m args below meth c H locs 0 0 Q (F0 m 60 ls []) := by
    intro v3 H locs ls hp hl h
    unfold X7_successors_60 at h
    refine lv_lload_n hx hb dX7_successors_60 rfl (lv_at hl 1 rfl) ?_
    exact hR _ _ _ _ _ _ dX7_successors_61 hp (Option.some.inj h) rfl
  unfold X7_successors at h
  have hl := lv_sub (l' := [(0, .ref (a 0)), (1, .long v1)]) hl [0, 1] rfl
  refine lv_lconst (v := 0) hx hb dX7_successors_0 (by decide) ?_
  refine lv_lstore_n (lv' := [(3, .long (0 : Int64)), (0, .ref (a 0)), (1, .long v1)]) hx hb dX7_successors_1 rfl hl (by decide) rfl (fun ls hl => ?_)
  refine lv_iconst (v := 0) hx hb dX7_successors_2 (by decide) ?_
  refine lv_istore (lv' := [(5, .int (0 : Int32)), (3, .long (0 : Int64)), (0, .ref (a 0)), (1, .long v1)]) hx hb dX7_successors_3 hl (by decide) rfl (fun ls hl => ?_)
  exact J_5 v1 _ (fun v3 H locs ls hp hl h => J_60 v3 _ _ _ hp hl h) _ (0 : Int64) (0 : Int32) _ _ _ hp (lv_sub hl [2, 3, 1, 0] rfl) h
def X7_before_17b (N : Nat) (k17 : (Int64 → Int32 → Option (Int64))) (k58 : (Int64 → Int32 → Option (Int64))) (σ : St) (v1 : Int64) (v3 : Int64) (v5 : Int32) (v6 : Int32) : Option (Int64) :=
  bd (X7_values σ) (fun t1 =>
  if t1 ≤ v6 then
    k58 v3 v5
  else
    bd (X7_successorOf N σ v5 v6) (fun t3 =>
    bd (X7_has v1 t3) (fun t4 =>
    if t4 = 0 then
      nm (v3 ||| (0 : Int64)) (fun (x6 : Int64) =>
      nm (v6 + (1 : Int32)) (fun (x7 : Int32) =>
      k17 x6 x7))
    else
      nm (v3 ||| ((1 : Int64) <<< (v5.toInt64 &&& 63))) (fun (x8 : Int64) =>
      nm (v6 + (1 : Int32)) (fun (x9 : Int32) =>
      k17 x8 x9)))))
def X7_before_17 (N : Nat) (k58 : (Int64 → Int32 → Option (Int64))) (σ : St) (v1 : Int64) (v5 : Int32) : Nat → Int64 → Int32 → Option (Int64)
  | 0, _, _ => none
  | n + 1, v3, v6 => X7_before_17b N (fun v3 v6 => X7_before_17 N k58 σ v1 v5 n v3 v6) k58 σ v1 v3 v5 v6
def X7_before_58 (k5 : (Int64 → Int32 → Option (Int64))) (σ : St) (v1 : Int64) (v3 : Int64) (v5 : Int32) : Option (Int64) :=
  nm (v5 + (1 : Int32)) (fun (x1 : Int32) =>
  k5 v3 x1)
def X7_before_5b (N : Nat) (k5 : (Int64 → Int32 → Option (Int64))) (k64 : (Int64 → Option (Int64))) (σ : St) (v1 : Int64) (v3 : Int64) (v5 : Int32) : Option (Int64) :=
  bd (X7_states σ) (fun t1 =>
  if t1 ≤ v5 then
    k64 v3
  else
    X7_before_17 N (fun v3 v5 => X7_before_58 k5 σ v1 v3 v5) σ v1 v5 N v3 (0 : Int32))
def X7_before_5 (N : Nat) (k64 : (Int64 → Option (Int64))) (σ : St) (v1 : Int64) : Nat → Int64 → Int32 → Option (Int64)
  | 0, _, _ => none
  | n + 1, v3, v5 => X7_before_5b N (fun v3 v5 => X7_before_5 N k64 σ v1 n v3 v5) k64 σ v1 v3 v5
def X7_before_64 (σ : St) (v3 : Int64) : Option (Int64) :=
  some v3
def X7_before (N : Nat) (σ : St) (v1 : Int64) : Option (Int64) :=
  X7_before_5 N (fun v3 => X7_before_64 σ v3) σ v1 N (0 : Int64) (0 : Int32)
set_option maxRecDepth 20000 in
set_option maxHeartbeats 4000000 in
theorem c_X7_before {l : Launch} {D : va_G} {a : Nat → Nat} {cA : Nat → ClassId} {σ : St} {N : Nat} {v1 : Int64} {r : Int64} (h : X7_before N σ v1 = some r) : MetL l yX7_before cX7_before 7 (some .long) 2 D (tyW cA) (wM a cA) EM [.ref (a 0), .long v1] σ r σ := by
  refine mkL (by decide) (adrM a cA) rfl (Nat.le_of_ble_eq_true rfl) ?_
  intro p e R s m args below meth c A Q ls X hR hp hl
  obtain ⟨hx, hb, -, hown, hts, -⟩ := id X
  have J_17 : ∀ (v1 : Int64) (v5 : Int32) (k58 : (Int64 → Int32 → Option (Int64))) (hk58 : ∀ (v3 : Int64) (v5 : Int32) (H : Heap) (locs : List Loc) (ls : Array Slot), Pw D (wM a cA) A s.heap H locs σ → lv_has ls 7 [(0, .ref (a 0)), (1, .long v1), (3, .long v3), (5, .int v5)] → k58 v3 v5 = some r → W p l e R s m args below meth c H locs 0 0 Q (F0 m 58 ls [])) (n : Nat) (v3 : Int64) (v6 : Int32) (H : Heap) (locs : List Loc) (ls : Array Slot), Pw D (wM a cA) A s.heap H locs σ → lv_has ls 7 [(0, .ref (a 0)), (1, .long v1), (3, .long v3), (5, .int v5), (6, .int v6)] → X7_before_17 N k58 σ v1 v5 n v3 v6 = some r → W p l e R s m args below meth c H locs 0 0 Q (F0 m 17 ls []) := by
    intro v1 v5 k58 hk58 n
    induction n with
    | zero => intro v3 v6 H locs ls hp hl h; exact nn_s (show (none : Option (Int64)) = some _ from h)
    | succ n ih =>
      intro v3 v6 H locs ls hp hl h
      have h : X7_before_17b N (fun v3 v6 => X7_before_17 N k58 σ v1 v5 n v3 v6) k58 σ v1 v3 v5 v6 = some r := h
      unfold X7_before_17b at h
      have hk17 := ih
      refine lv_iload hx hb dX7_before_17 (lv_at hl 4 rfl) ?_
      refine lv_aload_n hx hb dX7_before_19 rfl (lv_at hl 0 rfl) ?_
      obtain ⟨t1, ht1, h⟩ := bd_s h
      refine cl_Vi X eokM (c_X7_values ht1) tw_17_20 mw_X7_values (by decide) hp 0 rfl rfl rfl hl.1 rfl (Nat.le_of_ble_eq_true rfl) dX7_before_20 (fun H locs hp => ?_)
      refine lv_icmp_ge (tgt := 58) hx hb dX7_before_23 (by decide) (fun c2 => ?_) (fun c2 => ?_)
      · have h := it_p h c2
        exact hk58 v3 v5 _ _ _ hp (lv_sub hl [0, 1, 2, 3] rfl) h
      · have h := it_n h c2
        refine lv_lload_n hx hb dX7_before_26 rfl (lv_at hl 2 rfl) ?_
        refine lv_lload_n hx hb dX7_before_27 rfl (lv_at hl 1 rfl) ?_
        refine lv_aload_n hx hb dX7_before_28 rfl (lv_at hl 0 rfl) ?_
        refine lv_iload hx hb dX7_before_29 (lv_at hl 3 rfl) ?_
        refine lv_iload hx hb dX7_before_31 (lv_at hl 4 rfl) ?_
        obtain ⟨t3, ht3, h⟩ := bd_s h
        refine cl_Vi X eokM (c_X7_successorOf ht3) tw_21_23 mw_X7_successorOf (by decide) hp 0 rfl rfl rfl hl.1 rfl (Nat.le_of_ble_eq_true rfl) dX7_before_33 (fun H locs hp => ?_)
        obtain ⟨t4, ht4, h⟩ := bd_s h
        refine cl_Si X eokM (c_X7_has (adrM a cA) eokM ht4) tw_18_3 mw_X7_has (by decide) hp hl.1 rfl (Nat.le_of_ble_eq_true rfl) dX7_before_36 (fun H locs hp => ?_)
        refine lv_if_eq (tgt := 49) hx hb dX7_before_39 (by decide) (fun c5 => ?_) (fun c5 => ?_)
        · have h := it_p h c5
          refine lv_lconst (v := 0) hx hb dX7_before_49 (by decide) ?_
          refine lv_lor hx hb dX7_before_50 ?_
          refine lv_topl (fun x6 ex6 => ?_)
          have h := nm_s h x6 ex6
          refine lv_lstore_n (lv' := [(3, .long x6), (0, .ref (a 0)), (1, .long v1), (5, .int v5), (6, .int v6)]) hx hb dX7_before_51 rfl hl (by decide) rfl (fun ls hl => ?_)
          obtain ⟨x7, ex7⟩ : ∃ z : Int32, z = v6 + (1 : Int32) := ⟨_, rfl⟩
          have h := nm_s h x7 ex7
          refine lv_iinc (v := x7) (lv' := [(6, .int x7), (3, .long x6), (0, .ref (a 0)), (1, .long v1), (5, .int v5)]) hx hb dX7_before_52 hl (k := 4) rfl (by rw [ex7]; rfl) (by decide) rfl (fun ls hl => ?_)
          refine lv_goto (tgt := 17) hx hb dX7_before_55 (by decide) ?_
          exact hk17 x6 x7 _ _ _ hp (lv_sub hl [2, 3, 1, 4, 0] rfl) h
        · have h := it_n h c5
          refine lv_lconst (v := 1) hx hb dX7_before_42 (by decide) ?_
          refine lv_iload hx hb dX7_before_43 (lv_at hl 3 rfl) ?_
          refine lv_lshl hx hb dX7_before_45 rfl ?_
          refine lv_goto (tgt := 50) hx hb dX7_before_46 (by decide) ?_
          refine lv_lor hx hb dX7_before_50 ?_
          refine lv_topl (fun x8 ex8 => ?_)
          have h := nm_s h x8 ex8
          refine lv_lstore_n (lv' := [(3, .long x8), (0, .ref (a 0)), (1, .long v1), (5, .int v5), (6, .int v6)]) hx hb dX7_before_51 rfl hl (by decide) rfl (fun ls hl => ?_)
          obtain ⟨x9, ex9⟩ : ∃ z : Int32, z = v6 + (1 : Int32) := ⟨_, rfl⟩
          have h := nm_s h x9 ex9
          refine lv_iinc (v := x9) (lv' := [(6, .int x9), (3, .long x8), (0, .ref (a 0)), (1, .long v1), (5, .int v5)]) hx hb dX7_before_52 hl (k := 4) rfl (by rw [ex9]; rfl) (by decide) rfl (fun ls hl => ?_)
          refine lv_goto (tgt := 17) hx hb dX7_before_55 (by decide) ?_
          exact hk17 x8 x9 _ _ _ hp (lv_sub hl [2, 3, 1, 4, 0] rfl) h
  have J_58 : ∀ (v1 : Int64) (v3 : Int64) (v5 : Int32) (k5 : (Int64 → Int32 → Option (Int64))) (hk5 : ∀ (v3 : Int64) (v5 : Int32) (H : Heap) (locs : List Loc) (ls : Array Slot), Pw D (wM a cA) A s.heap H locs σ → lv_has ls 7 [(0, .ref (a 0)), (1, .long v1), (3, .long v3), (5, .int v5)] → k5 v3 v5 = some r → W p l e R s m args below meth c H locs 0 0 Q (F0 m 5 ls [])) (H : Heap) (locs : List Loc) (ls : Array Slot), Pw D (wM a cA) A s.heap H locs σ → lv_has ls 7 [(0, .ref (a 0)), (1, .long v1), (3, .long v3), (5, .int v5)] → X7_before_58 k5 σ v1 v3 v5 = some r → W p l e R s m args below meth c H locs 0 0 Q (F0 m 58 ls []) := by
    intro v1 v3 v5 k5 hk5 H locs ls hp hl h
    unfold X7_before_58 at h
    obtain ⟨x1, ex1⟩ : ∃ z : Int32, z = v5 + (1 : Int32) := ⟨_, rfl⟩
    have h := nm_s h x1 ex1
    refine lv_iinc (v := x1) (lv' := [(5, .int x1), (0, .ref (a 0)), (1, .long v1), (3, .long v3)]) hx hb dX7_before_58 hl (k := 3) rfl (by rw [ex1]; rfl) (by decide) rfl (fun ls hl => ?_)
    refine lv_goto (tgt := 5) hx hb dX7_before_61 (by decide) ?_
    exact hk5 v3 x1 _ _ _ hp (lv_sub hl [1, 2, 3, 0] rfl) h
  have J_5 : ∀ (v1 : Int64) (k64 : (Int64 → Option (Int64))) (hk64 : ∀ (v3 : Int64) (H : Heap) (locs : List Loc) (ls : Array Slot), Pw D (wM a cA) A s.heap H locs σ → lv_has ls 7 [(0, .ref (a 0)), (3, .long v3)] → k64 v3 = some r → W p l e R s m args below meth c H locs 0 0 Q (F0 m 64 ls [])) (n : Nat) (v3 : Int64) (v5 : Int32) (H : Heap) (locs : List Loc) (ls : Array Slot), Pw D (wM a cA) A s.heap H locs σ → lv_has ls 7 [(0, .ref (a 0)), (1, .long v1), (3, .long v3), (5, .int v5)] → X7_before_5 N k64 σ v1 n v3 v5 = some r → W p l e R s m args below meth c H locs 0 0 Q (F0 m 5 ls []) := by
    intro v1 k64 hk64 n
    induction n with
    | zero => intro v3 v5 H locs ls hp hl h; exact nn_s (show (none : Option (Int64)) = some _ from h)
    | succ n ih =>
      intro v3 v5 H locs ls hp hl h
      have h : X7_before_5b N (fun v3 v5 => X7_before_5 N k64 σ v1 n v3 v5) k64 σ v1 v3 v5 = some r := h
      unfold X7_before_5b at h
      have hk5 := ih
      refine lv_iload hx hb dX7_before_5 (lv_at hl 3 rfl) ?_
      refine lv_aload_n hx hb dX7_before_7 rfl (lv_at hl 0 rfl) ?_
      obtain ⟨t1, ht1, h⟩ := bd_s h
      refine cl_Vi X eokM (c_X7_states ht1) tw_7_1 mw_X7_states (by decide) hp 0 rfl rfl rfl hl.1 rfl (Nat.le_of_ble_eq_true rfl) dX7_before_8 (fun H locs hp => ?_)
      refine lv_icmp_ge (tgt := 64) hx hb dX7_before_11 (by decide) (fun c2 => ?_) (fun c2 => ?_)
      · have h := it_p h c2
        exact hk64 v3 _ _ _ hp (lv_sub hl [0, 2] rfl) h
      · have h := it_n h c2
        refine lv_iconst (v := 0) hx hb dX7_before_14 (by decide) ?_
        refine lv_istore (lv' := [(6, .int (0 : Int32)), (0, .ref (a 0)), (1, .long v1), (3, .long v3), (5, .int v5)]) hx hb dX7_before_15 hl (by decide) rfl (fun ls hl => ?_)
        exact J_17 v1 v5 _ (fun v3 v5 H locs ls hp hl h => J_58 v1 v3 v5 _ hk5 _ _ _ hp hl h) _ v3 (0 : Int32) _ _ _ hp (lv_sub hl [1, 2, 3, 4, 0] rfl) h
  have J_64 : ∀ (v3 : Int64) (H : Heap) (locs : List Loc) (ls : Array Slot), Pw D (wM a cA) A s.heap H locs σ → lv_has ls 7 [(0, .ref (a 0)), (3, .long v3)] → X7_before_64 σ v3 = some r → W p l e R s m args below meth c H locs 0 0 Q (F0 m 64 ls []) := by
    intro v3 H locs ls hp hl h
    unfold X7_before_64 at h
    refine lv_lload_n hx hb dX7_before_64 rfl (lv_at hl 1 rfl) ?_
    exact hR _ _ _ _ _ _ dX7_before_65 hp (Option.some.inj h) rfl
  unfold X7_before at h
  have hl := lv_sub (l' := [(0, .ref (a 0)), (1, .long v1)]) hl [0, 1] rfl
  refine lv_lconst (v := 0) hx hb dX7_before_0 (by decide) ?_
  refine lv_lstore_n (lv' := [(3, .long (0 : Int64)), (0, .ref (a 0)), (1, .long v1)]) hx hb dX7_before_1 rfl hl (by decide) rfl (fun ls hl => ?_)
  refine lv_iconst (v := 0) hx hb dX7_before_2 (by decide) ?_
  refine lv_istore (lv' := [(5, .int (0 : Int32)), (3, .long (0 : Int64)), (0, .ref (a 0)), (1, .long v1)]) hx hb dX7_before_3 hl (by decide) rfl (fun ls hl => ?_)
  exact J_5 v1 _ (fun v3 H locs ls hp hl h => J_64 v3 _ _ _ hp hl h) _ (0 : Int64) (0 : Int32) _ _ _ hp (lv_sub hl [2, 3, 1, 0] rfl) h
def X7_allBefore (N : Nat) (σ : St) (v1 : Int64) : Option (Int64) :=
  bd (X7_all σ) (fun t1 =>
  bd (X7_all σ) (fun t2 =>
  bd (X7_before N σ (t2 &&& (v1 ^^^ (-1 : Int64)))) (fun t3 =>
  some (t1 &&& (t3 ^^^ (-1 : Int64))))))
set_option maxRecDepth 20000 in
set_option maxHeartbeats 4000000 in
theorem c_X7_allBefore {l : Launch} {D : va_G} {a : Nat → Nat} {cA : Nat → ClassId} {σ : St} {N : Nat} {v1 : Int64} {r : Int64} (h : X7_allBefore N σ v1 = some r) : MetL l yX7_allBefore cX7_allBefore 3 (some .long) 3 D (tyW cA) (wM a cA) EM [.ref (a 0), .long v1] σ r σ := by
  refine mkL (by decide) (adrM a cA) rfl (Nat.le_of_ble_eq_true rfl) ?_
  intro p e R s m args below meth c A Q ls X hR hp hl
  obtain ⟨hx, hb, -, hown, hts, -⟩ := id X
  unfold X7_allBefore at h
  have hl := lv_sub (l' := [(0, .ref (a 0)), (1, .long v1)]) hl [0, 1] rfl
  refine lv_aload_n hx hb dX7_allBefore_0 rfl (lv_at hl 0 rfl) ?_
  obtain ⟨t1, ht1, h⟩ := bd_s h
  refine cl_Vl X eokM (c_X7_all ht1) tw_7_5 mw_X7_all (by decide) hp 0 rfl rfl rfl hl.1 rfl (Nat.le_of_ble_eq_true rfl) dX7_allBefore_1 (fun H locs hp => ?_)
  refine lv_aload_n hx hb dX7_allBefore_4 rfl (lv_at hl 0 rfl) ?_
  refine lv_aload_n hx hb dX7_allBefore_5 rfl (lv_at hl 0 rfl) ?_
  obtain ⟨t2, ht2, h⟩ := bd_s h
  refine cl_Vl X eokM (c_X7_all ht2) tw_7_5 mw_X7_all (by decide) hp 0 rfl rfl rfl hl.1 rfl (Nat.le_of_ble_eq_true rfl) dX7_allBefore_6 (fun H locs hp => ?_)
  refine lv_lload_n hx hb dX7_allBefore_9 rfl (lv_at hl 1 rfl) ?_
  refine lv_ldc2 hx hb hown (hts _ tw_7_9) dX7_allBefore_10 ?_
  refine lv_lxor hx hb dX7_allBefore_13 ?_
  refine lv_land hx hb dX7_allBefore_14 ?_
  obtain ⟨t3, ht3, h⟩ := bd_s h
  refine cl_Vl X eokM (c_X7_before ht3) tw_27_2 mw_X7_before (by decide) hp 0 rfl rfl rfl hl.1 rfl (Nat.le_of_ble_eq_true rfl) dX7_allBefore_15 (fun H locs hp => ?_)
  refine lv_ldc2 hx hb hown (hts _ tw_7_9) dX7_allBefore_18 ?_
  refine lv_lxor hx hb dX7_allBefore_21 ?_
  refine lv_land hx hb dX7_allBefore_22 ?_
  exact hR _ _ _ _ _ _ dX7_allBefore_23 hp (Option.some.inj h) rfl
def X7_bad (σ : St) : Option (Int64) :=
  bd (X7_all σ) (fun t1 =>
  some (t1 &&& ((σ.2.1 1) ^^^ (-1 : Int64))))
set_option maxRecDepth 20000 in
set_option maxHeartbeats 4000000 in
theorem c_X7_bad {l : Launch} {D : va_G} {a : Nat → Nat} {cA : Nat → ClassId} {σ : St} {r : Int64} (h : X7_bad σ = some r) : MetL l yX7_bad cX7_bad 1 (some .long) 2 D (tyW cA) (wM a cA) EM [.ref (a 0)] σ r σ := by
  refine mkL (by decide) (adrM a cA) rfl (Nat.le_of_ble_eq_true rfl) ?_
  intro p e R s m args below meth c A Q ls X hR hp hl
  obtain ⟨hx, hb, -, hown, hts, -⟩ := id X
  unfold X7_bad at h
  have hl := lv_sub (l' := [(0, .ref (a 0))]) hl [0] rfl
  refine lv_aload_n hx hb dX7_bad_0 rfl (lv_at hl 0 rfl) ?_
  obtain ⟨t1, ht1, h⟩ := bd_s h
  refine cl_Vl X eokM (c_X7_all ht1) tw_7_5 mw_X7_all (by decide) hp 0 rfl rfl rfl hl.1 rfl (Nat.le_of_ble_eq_true rfl) dX7_bad_1 (fun H locs hp => ?_)
  refine lv_aload_n hx hb dX7_bad_4 rfl (lv_at hl 0 rfl) ?_
  refine gM_X7_good X hp tw_6_18 dX7_bad_5 ?_
  refine lv_ldc2 hx hb hown (hts _ tw_7_9) dX7_bad_8 ?_
  refine lv_lxor hx hb dX7_bad_11 ?_
  refine lv_land hx hb dX7_bad_12 ?_
  exact hR _ _ _ _ _ _ dX7_bad_13 hp (Option.some.inj h) rfl
def X7_layFar_3b (k3 : (Int32 → St → Option (St))) (k24 : (Int64 → Int32 → St → Option (St))) (v1 : Int64) (v3 : Int32) (v4 : Int32) (σ : St) : Option (St) :=
  if (64 : Int32) ≤ v4 then
    k24 v1 v3 σ
  else
    gd (inb v4 64) (
    nm (sa σ 3 v4.toNatClampNeg (-1 : Int32)) (fun (σ3 : St) =>
    nm (v4 + (1 : Int32)) (fun (x4 : Int32) =>
    k3 x4 σ3)))
def X7_layFar_3 (k24 : (Int64 → Int32 → St → Option (St))) (v1 : Int64) (v3 : Int32) : Nat → Int32 → St → Option (St)
  | 0, _, _ => none
  | n + 1, v4, σ => X7_layFar_3b (fun v4 σ => X7_layFar_3 k24 v1 v3 n v4 σ) k24 v1 v3 v4 σ
def X7_layFar_80 (k43 : (Int32 → St → Option (St))) (v3 : Int32) (v4 : Int64) (v6 : Int64) (v8 : Int32) (v9 : Int32) (u0 : Int32) (u1 : Int32) (σ : St) : Option (St) :=
  gd (inb u1 64) (
  nm (sa σ 3 u1.toNatClampNeg u0) (fun (σ2 : St) =>
  nm (v9 + (1 : Int32)) (fun (x3 : Int32) =>
  k43 x3 σ2)))
def X7_layFar_43b (k43 : (Int32 → St → Option (St))) (k87 : (Int64 → Int64 → Int32 → St → Option (St))) (v3 : Int32) (v4 : Int64) (v6 : Int64) (v8 : Int32) (v9 : Int32) (σ : St) : Option (St) :=
  bd (X7_states σ) (fun t1 =>
  if t1 ≤ v9 then
    k87 v4 v6 v8 σ
  else
    bd (X7_has v6 v9) (fun t3 =>
    if t3 = 0 then
      gd (inb v9 64) (
      X7_layFar_80 k43 v3 v4 v6 v8 v9 (σ.2.2.1 3 v9.toNatClampNeg) v9 σ)
    else
      X7_layFar_80 k43 v3 v4 v6 v8 v9 v8 v9 σ))
def X7_layFar_43 (k87 : (Int64 → Int64 → Int32 → St → Option (St))) (v3 : Int32) (v4 : Int64) (v6 : Int64) (v8 : Int32) : Nat → Int32 → St → Option (St)
  | 0, _, _ => none
  | n + 1, v9, σ => X7_layFar_43b (fun v9 σ => X7_layFar_43 k87 v3 v4 v6 v8 n v9 σ) k87 v3 v4 v6 v8 v9 σ
def X7_layFar_87 (N : Nat) (k33 : (Int64 → Int64 → Int32 → St → Option (St))) (v3 : Int32) (v4 : Int64) (v6 : Int64) (v8 : Int32) (σ : St) : Option (St) :=
  nm (v4 ||| v6) (fun (x1 : Int64) =>
  if v3 = 0 then
    bd (X7_successors N σ v6) (fun t3 =>
    nm (t3 &&& (x1 ^^^ (-1 : Int64))) (fun (x4 : Int64) =>
    nm (v8 + (1 : Int32)) (fun (x5 : Int32) =>
    k33 x1 x4 x5 σ)))
  else
    bd (X7_before N σ v6) (fun t6 =>
    nm (t6 &&& (x1 ^^^ (-1 : Int64))) (fun (x7 : Int64) =>
    nm (v8 + (1 : Int32)) (fun (x8 : Int32) =>
    k33 x1 x7 x8 σ))))
def X7_layFar_33b (N : Nat) (k33 : (Int64 → Int64 → Int32 → St → Option (St))) (k128 : (St → Option (St))) (v3 : Int32) (v4 : Int64) (v6 : Int64) (v8 : Int32) (σ : St) : Option (St) :=
  if v6 = (0 : Int64) then
    k128 σ
  else
    X7_layFar_43 (fun v4 v6 v8 σ => X7_layFar_87 N k33 v3 v4 v6 v8 σ) v3 v4 v6 v8 N (0 : Int32) σ
def X7_layFar_33 (N : Nat) (k128 : (St → Option (St))) (v3 : Int32) : Nat → Int64 → Int64 → Int32 → St → Option (St)
  | 0, _, _, _, _ => none
  | n + 1, v4, v6, v8, σ => X7_layFar_33b N (fun v4 v6 v8 σ => X7_layFar_33 N k128 v3 n v4 v6 v8 σ) k128 v3 v4 v6 v8 σ
def X7_layFar_128 (σ : St) : Option (St) :=
  some σ
def X7_layFar_24 (N : Nat) (v1 : Int64) (v3 : Int32) (σ : St) : Option (St) :=
  X7_layFar_33 N (fun σ => X7_layFar_128 σ) v3 N (0 : Int64) v1 (0 : Int32) σ
def X7_layFar (N : Nat) (v1 : Int64) (v3 : Int32) (σ : St) : Option (St) :=
  X7_layFar_3 (fun v1 v3 σ => X7_layFar_24 N v1 v3 σ) v1 v3 N (0 : Int32) σ
set_option maxRecDepth 20000 in
set_option maxHeartbeats 4000000 in
theorem c_X7_layFar {l : Launch} {D : va_G} {a : Nat → Nat} {cA : Nat → ClassId} {σ : St} {N : Nat} {v1 : Int64} {v3 : Int32} {σ' : St} (h : X7_layFar N v1 v3 σ = some σ') : MetV l yX7_layFar cX7_layFar 10 none 3 D (tyW cA) (wM a cA) EM [.ref (a 0), .long v1, .int v3] σ σ' := by
  refine mkV (by decide) (adrM a cA) rfl (Nat.le_of_ble_eq_true rfl) ?_
  intro p e R s m args below meth c A Q ls X hR hp hl
  obtain ⟨hx, hb, -, hown, hts, -⟩ := id X
  have J_3 : ∀ (v1 : Int64) (v3 : Int32) (k24 : (Int64 → Int32 → St → Option (St))) (hk24 : ∀ (v1 : Int64) (v3 : Int32) (σ : St) (H : Heap) (locs : List Loc) (ls : Array Slot), Pw D (wM a cA) A s.heap H locs σ → lv_has ls 10 [(0, .ref (a 0)), (1, .long v1), (3, .int v3)] → k24 v1 v3 σ = some σ' → W p l e R s m args below meth c H locs 0 0 Q (F0 m 24 ls [])) (n : Nat) (v4 : Int32) (σ : St) (H : Heap) (locs : List Loc) (ls : Array Slot), Pw D (wM a cA) A s.heap H locs σ → lv_has ls 10 [(0, .ref (a 0)), (1, .long v1), (3, .int v3), (4, .int v4)] → X7_layFar_3 k24 v1 v3 n v4 σ = some σ' → W p l e R s m args below meth c H locs 0 0 Q (F0 m 3 ls []) := by
    intro v1 v3 k24 hk24 n
    induction n with
    | zero => intro v4 σ H locs ls hp hl h; exact nn_s (show (none : Option (St)) = some _ from h)
    | succ n ih =>
      intro v4 σ H locs ls hp hl h
      have h : X7_layFar_3b (fun v4 σ => X7_layFar_3 k24 v1 v3 n v4 σ) k24 v1 v3 v4 σ = some σ' := h
      unfold X7_layFar_3b at h
      have hk3 := ih
      refine lv_iload hx hb dX7_layFar_3 (lv_at hl 3 rfl) ?_
      refine lv_bipush (v := 64) hx hb dX7_layFar_5 (by decide) ?_
      refine lv_icmp_ge (tgt := 24) hx hb dX7_layFar_7 (by decide) (fun c1 => ?_) (fun c1 => ?_)
      · have h := it_p h c1
        exact hk24 v1 v3 σ _ _ _ hp (lv_sub hl [0, 1, 2] rfl) h
      · have h := it_n h c1
        refine lv_aload_n hx hb dX7_layFar_10 rfl (lv_at hl 0 rfl) ?_
        refine gM_X7_far X hp tw_5_23 dX7_layFar_11 ?_
        refine lv_iload hx hb dX7_layFar_14 (lv_at hl 3 rfl) ?_
        refine lv_iconst (v := -1) hx hb dX7_layFar_16 (by decide) ?_
        obtain ⟨g2, h⟩ := gd_s h
        refine sM_X7_far X hp g2 dX7_layFar_17 (fun H locs σ3 eσ3 hp => ?_)
        have h := nm_s h σ3 eσ3
        obtain ⟨x4, ex4⟩ : ∃ z : Int32, z = v4 + (1 : Int32) := ⟨_, rfl⟩
        have h := nm_s h x4 ex4
        refine lv_iinc (v := x4) (lv' := [(4, .int x4), (0, .ref (a 0)), (1, .long v1), (3, .int v3)]) hx hb dX7_layFar_18 hl (k := 3) rfl (by rw [ex4]; rfl) (by decide) rfl (fun ls hl => ?_)
        refine lv_goto (tgt := 3) hx hb dX7_layFar_21 (by decide) ?_
        exact hk3 x4 σ3 _ _ _ hp (lv_sub hl [1, 2, 3, 0] rfl) h
  have J_80 : ∀ (v3 : Int32) (v4 : Int64) (v6 : Int64) (v8 : Int32) (v9 : Int32) (u0 : Int32) (u1 : Int32) (k43 : (Int32 → St → Option (St))) (hk43 : ∀ (v9 : Int32) (σ : St) (H : Heap) (locs : List Loc) (ls : Array Slot), Pw D (wM a cA) A s.heap H locs σ → lv_has ls 10 [(0, .ref (a 0)), (3, .int v3), (4, .long v4), (6, .long v6), (8, .int v8), (9, .int v9)] → k43 v9 σ = some σ' → W p l e R s m args below meth c H locs 0 0 Q (F0 m 43 ls [])) (σ : St) (H : Heap) (locs : List Loc) (ls : Array Slot), Pw D (wM a cA) A s.heap H locs σ → lv_has ls 10 [(0, .ref (a 0)), (3, .int v3), (4, .long v4), (6, .long v6), (8, .int v8), (9, .int v9)] → X7_layFar_80 k43 v3 v4 v6 v8 v9 u0 u1 σ = some σ' → W p l e R s m args below meth c H locs 0 0 Q (F0 m 80 ls [.int u0, .int u1, .ref (a 7)]) := by
    intro v3 v4 v6 v8 v9 u0 u1 k43 hk43 σ H locs ls hp hl h
    unfold X7_layFar_80 at h
    obtain ⟨g1, h⟩ := gd_s h
    refine sM_X7_far X hp g1 dX7_layFar_80 (fun H locs σ2 eσ2 hp => ?_)
    have h := nm_s h σ2 eσ2
    obtain ⟨x3, ex3⟩ : ∃ z : Int32, z = v9 + (1 : Int32) := ⟨_, rfl⟩
    have h := nm_s h x3 ex3
    refine lv_iinc (v := x3) (lv' := [(9, .int x3), (0, .ref (a 0)), (3, .int v3), (4, .long v4), (6, .long v6), (8, .int v8)]) hx hb dX7_layFar_81 hl (k := 5) rfl (by rw [ex3]; rfl) (by decide) rfl (fun ls hl => ?_)
    refine lv_goto (tgt := 43) hx hb dX7_layFar_84 (by decide) ?_
    exact hk43 x3 σ2 _ _ _ hp (lv_sub hl [1, 2, 3, 4, 5, 0] rfl) h
  have J_43 : ∀ (v3 : Int32) (v4 : Int64) (v6 : Int64) (v8 : Int32) (k87 : (Int64 → Int64 → Int32 → St → Option (St))) (hk87 : ∀ (v4 : Int64) (v6 : Int64) (v8 : Int32) (σ : St) (H : Heap) (locs : List Loc) (ls : Array Slot), Pw D (wM a cA) A s.heap H locs σ → lv_has ls 10 [(0, .ref (a 0)), (3, .int v3), (4, .long v4), (6, .long v6), (8, .int v8)] → k87 v4 v6 v8 σ = some σ' → W p l e R s m args below meth c H locs 0 0 Q (F0 m 87 ls [])) (n : Nat) (v9 : Int32) (σ : St) (H : Heap) (locs : List Loc) (ls : Array Slot), Pw D (wM a cA) A s.heap H locs σ → lv_has ls 10 [(0, .ref (a 0)), (3, .int v3), (4, .long v4), (6, .long v6), (8, .int v8), (9, .int v9)] → X7_layFar_43 k87 v3 v4 v6 v8 n v9 σ = some σ' → W p l e R s m args below meth c H locs 0 0 Q (F0 m 43 ls []) := by
    intro v3 v4 v6 v8 k87 hk87 n
    induction n with
    | zero => intro v9 σ H locs ls hp hl h; exact nn_s (show (none : Option (St)) = some _ from h)
    | succ n ih =>
      intro v9 σ H locs ls hp hl h
      have h : X7_layFar_43b (fun v9 σ => X7_layFar_43 k87 v3 v4 v6 v8 n v9 σ) k87 v3 v4 v6 v8 v9 σ = some σ' := h
      unfold X7_layFar_43b at h
      have hk43 := ih
      refine lv_iload hx hb dX7_layFar_43 (lv_at hl 5 rfl) ?_
      refine lv_aload_n hx hb dX7_layFar_45 rfl (lv_at hl 0 rfl) ?_
      obtain ⟨t1, ht1, h⟩ := bd_s h
      refine cl_Vi X eokM (c_X7_states ht1) tw_7_1 mw_X7_states (by decide) hp 0 rfl rfl rfl hl.1 rfl (Nat.le_of_ble_eq_true rfl) dX7_layFar_46 (fun H locs hp => ?_)
      refine lv_icmp_ge (tgt := 87) hx hb dX7_layFar_49 (by decide) (fun c2 => ?_) (fun c2 => ?_)
      · have h := it_p h c2
        exact hk87 v4 v6 v8 σ _ _ _ hp (lv_sub hl [0, 1, 2, 3, 4] rfl) h
      · have h := it_n h c2
        refine lv_aload_n hx hb dX7_layFar_52 rfl (lv_at hl 0 rfl) ?_
        refine gM_X7_far X hp tw_5_23 dX7_layFar_53 ?_
        refine lv_iload hx hb dX7_layFar_56 (lv_at hl 5 rfl) ?_
        refine lv_lload hx hb dX7_layFar_58 (lv_at hl 3 rfl) ?_
        refine lv_iload hx hb dX7_layFar_60 (lv_at hl 5 rfl) ?_
        obtain ⟨t3, ht3, h⟩ := bd_s h
        refine cl_Si X eokM (c_X7_has (adrM a cA) eokM ht3) tw_18_3 mw_X7_has (by decide) hp hl.1 rfl (Nat.le_of_ble_eq_true rfl) dX7_layFar_62 (fun H locs hp => ?_)
        refine lv_if_eq (tgt := 73) hx hb dX7_layFar_65 (by decide) (fun c4 => ?_) (fun c4 => ?_)
        · have h := it_p h c4
          refine lv_aload_n hx hb dX7_layFar_73 rfl (lv_at hl 0 rfl) ?_
          refine gM_X7_far X hp tw_5_23 dX7_layFar_74 ?_
          refine lv_iload hx hb dX7_layFar_77 (lv_at hl 5 rfl) ?_
          obtain ⟨g5, h⟩ := gd_s h
          refine lM_X7_far X hp g5 dX7_layFar_79 ?_
          exact J_80 v3 v4 v6 v8 v9 (σ.2.2.1 3 v9.toNatClampNeg) v9 _ hk43 σ _ _ _ hp (lv_sub hl [0, 1, 2, 3, 4, 5] rfl) h
        · have h := it_n h c4
          refine lv_iload hx hb dX7_layFar_68 (lv_at hl 4 rfl) ?_
          refine lv_goto (tgt := 80) hx hb dX7_layFar_70 (by decide) ?_
          exact J_80 v3 v4 v6 v8 v9 v8 v9 _ hk43 σ _ _ _ hp (lv_sub hl [0, 1, 2, 3, 4, 5] rfl) h
  have J_87 : ∀ (v3 : Int32) (v4 : Int64) (v6 : Int64) (v8 : Int32) (k33 : (Int64 → Int64 → Int32 → St → Option (St))) (hk33 : ∀ (v4 : Int64) (v6 : Int64) (v8 : Int32) (σ : St) (H : Heap) (locs : List Loc) (ls : Array Slot), Pw D (wM a cA) A s.heap H locs σ → lv_has ls 10 [(0, .ref (a 0)), (3, .int v3), (4, .long v4), (6, .long v6), (8, .int v8)] → k33 v4 v6 v8 σ = some σ' → W p l e R s m args below meth c H locs 0 0 Q (F0 m 33 ls [])) (σ : St) (H : Heap) (locs : List Loc) (ls : Array Slot), Pw D (wM a cA) A s.heap H locs σ → lv_has ls 10 [(0, .ref (a 0)), (3, .int v3), (4, .long v4), (6, .long v6), (8, .int v8)] → X7_layFar_87 N k33 v3 v4 v6 v8 σ = some σ' → W p l e R s m args below meth c H locs 0 0 Q (F0 m 87 ls []) := by
    intro v3 v4 v6 v8 k33 hk33 σ H locs ls hp hl h
    unfold X7_layFar_87 at h
    refine lv_lload hx hb dX7_layFar_87 (lv_at hl 2 rfl) ?_
    refine lv_lload hx hb dX7_layFar_89 (lv_at hl 3 rfl) ?_
    refine lv_lor hx hb dX7_layFar_91 ?_
    refine lv_topl (fun x1 ex1 => ?_)
    have h := nm_s h x1 ex1
    refine lv_lstore (lv' := [(4, .long x1), (0, .ref (a 0)), (3, .int v3), (6, .long v6), (8, .int v8)]) hx hb dX7_layFar_92 hl (by decide) rfl (fun ls hl => ?_)
    refine lv_iload_n hx hb dX7_layFar_94 rfl (lv_at hl 2 rfl) ?_
    refine lv_if_eq (tgt := 107) hx hb dX7_layFar_95 (by decide) (fun c2 => ?_) (fun c2 => ?_)
    · have h := it_p h c2
      refine lv_aload_n hx hb dX7_layFar_107 rfl (lv_at hl 1 rfl) ?_
      refine lv_lload hx hb dX7_layFar_108 (lv_at hl 3 rfl) ?_
      obtain ⟨t3, ht3, h⟩ := bd_s h
      refine cl_Vl X eokM (c_X7_successors ht3) tw_27_6 mw_X7_successors (by decide) hp 0 rfl rfl rfl hl.1 rfl (Nat.le_of_ble_eq_true rfl) dX7_layFar_110 (fun H locs hp => ?_)
      refine lv_lload hx hb dX7_layFar_113 (lv_at hl 0 rfl) ?_
      refine lv_ldc2 hx hb hown (hts _ tw_7_9) dX7_layFar_115 ?_
      refine lv_lxor hx hb dX7_layFar_118 ?_
      refine lv_land hx hb dX7_layFar_119 ?_
      refine lv_topl (fun x4 ex4 => ?_)
      have h := nm_s h x4 ex4
      refine lv_lstore (lv' := [(6, .long x4), (4, .long x1), (0, .ref (a 0)), (3, .int v3), (8, .int v8)]) hx hb dX7_layFar_120 hl (by decide) rfl (fun ls hl => ?_)
      obtain ⟨x5, ex5⟩ : ∃ z : Int32, z = v8 + (1 : Int32) := ⟨_, rfl⟩
      have h := nm_s h x5 ex5
      refine lv_iinc (v := x5) (lv' := [(8, .int x5), (6, .long x4), (4, .long x1), (0, .ref (a 0)), (3, .int v3)]) hx hb dX7_layFar_122 hl (k := 4) rfl (by rw [ex5]; rfl) (by decide) rfl (fun ls hl => ?_)
      refine lv_goto (tgt := 33) hx hb dX7_layFar_125 (by decide) ?_
      exact hk33 x1 x4 x5 σ _ _ _ hp (lv_sub hl [3, 4, 2, 1, 0] rfl) h
    · have h := it_n h c2
      refine lv_aload_n hx hb dX7_layFar_98 rfl (lv_at hl 1 rfl) ?_
      refine lv_lload hx hb dX7_layFar_99 (lv_at hl 3 rfl) ?_
      obtain ⟨t6, ht6, h⟩ := bd_s h
      refine cl_Vl X eokM (c_X7_before ht6) tw_27_2 mw_X7_before (by decide) hp 0 rfl rfl rfl hl.1 rfl (Nat.le_of_ble_eq_true rfl) dX7_layFar_101 (fun H locs hp => ?_)
      refine lv_goto (tgt := 113) hx hb dX7_layFar_104 (by decide) ?_
      refine lv_lload hx hb dX7_layFar_113 (lv_at hl 0 rfl) ?_
      refine lv_ldc2 hx hb hown (hts _ tw_7_9) dX7_layFar_115 ?_
      refine lv_lxor hx hb dX7_layFar_118 ?_
      refine lv_land hx hb dX7_layFar_119 ?_
      refine lv_topl (fun x7 ex7 => ?_)
      have h := nm_s h x7 ex7
      refine lv_lstore (lv' := [(6, .long x7), (4, .long x1), (0, .ref (a 0)), (3, .int v3), (8, .int v8)]) hx hb dX7_layFar_120 hl (by decide) rfl (fun ls hl => ?_)
      obtain ⟨x8, ex8⟩ : ∃ z : Int32, z = v8 + (1 : Int32) := ⟨_, rfl⟩
      have h := nm_s h x8 ex8
      refine lv_iinc (v := x8) (lv' := [(8, .int x8), (6, .long x7), (4, .long x1), (0, .ref (a 0)), (3, .int v3)]) hx hb dX7_layFar_122 hl (k := 4) rfl (by rw [ex8]; rfl) (by decide) rfl (fun ls hl => ?_)
      refine lv_goto (tgt := 33) hx hb dX7_layFar_125 (by decide) ?_
      exact hk33 x1 x7 x8 σ _ _ _ hp (lv_sub hl [3, 4, 2, 1, 0] rfl) h
  have J_33 : ∀ (v3 : Int32) (k128 : (St → Option (St))) (hk128 : ∀ (σ : St) (H : Heap) (locs : List Loc) (ls : Array Slot), Pw D (wM a cA) A s.heap H locs σ → lv_has ls 10 [(0, .ref (a 0))] → k128 σ = some σ' → W p l e R s m args below meth c H locs 0 0 Q (F0 m 128 ls [])) (n : Nat) (v4 : Int64) (v6 : Int64) (v8 : Int32) (σ : St) (H : Heap) (locs : List Loc) (ls : Array Slot), Pw D (wM a cA) A s.heap H locs σ → lv_has ls 10 [(0, .ref (a 0)), (3, .int v3), (4, .long v4), (6, .long v6), (8, .int v8)] → X7_layFar_33 N k128 v3 n v4 v6 v8 σ = some σ' → W p l e R s m args below meth c H locs 0 0 Q (F0 m 33 ls []) := by
    intro v3 k128 hk128 n
    induction n with
    | zero => intro v4 v6 v8 σ H locs ls hp hl h; exact nn_s (show (none : Option (St)) = some _ from h)
    | succ n ih =>
      intro v4 v6 v8 σ H locs ls hp hl h
      have h : X7_layFar_33b N (fun v4 v6 v8 σ => X7_layFar_33 N k128 v3 n v4 v6 v8 σ) k128 v3 v4 v6 v8 σ = some σ' := h
      unfold X7_layFar_33b at h
      have hk33 := ih
      refine lv_lload hx hb dX7_layFar_33 (lv_at hl 3 rfl) ?_
      refine lv_lconst (v := 0) hx hb dX7_layFar_35 (by decide) ?_
      refine W.lcmp hx hb dX7_layFar_36 ?_
      refine lv_if_eq (tgt := 128) hx hb dX7_layFar_37 (by decide) (fun c1 => ?_) (fun c1 => ?_)
      · have h := it_p h (lcmp0.mp c1)
        exact hk128 σ _ _ _ hp (lv_sub hl [0] rfl) h
      · have h := it_n h (fun q => c1 (lcmp0.mpr q))
        refine lv_iconst (v := 0) hx hb dX7_layFar_40 (by decide) ?_
        refine lv_istore (lv' := [(9, .int (0 : Int32)), (0, .ref (a 0)), (3, .int v3), (4, .long v4), (6, .long v6), (8, .int v8)]) hx hb dX7_layFar_41 hl (by decide) rfl (fun ls hl => ?_)
        exact J_43 v3 v4 v6 v8 _ (fun v4 v6 v8 σ H locs ls hp hl h => J_87 v3 v4 v6 v8 _ hk33 σ _ _ _ hp hl h) _ (0 : Int32) σ _ _ _ hp (lv_sub hl [1, 2, 3, 4, 5, 0] rfl) h
  have J_128 : ∀  (σ : St) (H : Heap) (locs : List Loc) (ls : Array Slot), Pw D (wM a cA) A s.heap H locs σ → lv_has ls 10 [(0, .ref (a 0))] → X7_layFar_128 σ = some σ' → W p l e R s m args below meth c H locs 0 0 Q (F0 m 128 ls []) := by
    intro σ H locs ls hp hl h
    unfold X7_layFar_128 at h
    exact hR _ _ _ _ _ dX7_layFar_128 hp (Option.some.inj h)
  have J_24 : ∀ (v1 : Int64) (v3 : Int32) (σ : St) (H : Heap) (locs : List Loc) (ls : Array Slot), Pw D (wM a cA) A s.heap H locs σ → lv_has ls 10 [(0, .ref (a 0)), (1, .long v1), (3, .int v3)] → X7_layFar_24 N v1 v3 σ = some σ' → W p l e R s m args below meth c H locs 0 0 Q (F0 m 24 ls []) := by
    intro v1 v3 σ H locs ls hp hl h
    unfold X7_layFar_24 at h
    refine lv_lconst (v := 0) hx hb dX7_layFar_24 (by decide) ?_
    refine lv_lstore (lv' := [(4, .long (0 : Int64)), (0, .ref (a 0)), (1, .long v1), (3, .int v3)]) hx hb dX7_layFar_25 hl (by decide) rfl (fun ls hl => ?_)
    refine lv_lload_n hx hb dX7_layFar_27 rfl (lv_at hl 2 rfl) ?_
    refine lv_lstore (lv' := [(6, .long v1), (4, .long (0 : Int64)), (0, .ref (a 0)), (1, .long v1), (3, .int v3)]) hx hb dX7_layFar_28 hl (by decide) rfl (fun ls hl => ?_)
    refine lv_iconst (v := 0) hx hb dX7_layFar_30 (by decide) ?_
    refine lv_istore (lv' := [(8, .int (0 : Int32)), (6, .long v1), (4, .long (0 : Int64)), (0, .ref (a 0)), (1, .long v1), (3, .int v3)]) hx hb dX7_layFar_31 hl (by decide) rfl (fun ls hl => ?_)
    exact J_33 v3 _ (fun σ H locs ls hp hl h => J_128 σ _ _ _ hp hl h) _ (0 : Int64) v1 (0 : Int32) σ _ _ _ hp (lv_sub hl [3, 5, 2, 1, 0] rfl) h
  unfold X7_layFar at h
  have hl := lv_sub (l' := [(0, .ref (a 0)), (1, .long v1), (3, .int v3)]) hl [0, 1, 2] rfl
  refine lv_iconst (v := 0) hx hb dX7_layFar_0 (by decide) ?_
  refine lv_istore (lv' := [(4, .int (0 : Int32)), (0, .ref (a 0)), (1, .long v1), (3, .int v3)]) hx hb dX7_layFar_1 hl (by decide) rfl (fun ls hl => ?_)
  exact J_3 v1 v3 _ (fun v1 v3 σ H locs ls hp hl h => J_24 v1 v3 σ _ _ _ hp hl h) _ (0 : Int32) σ _ _ _ hp (lv_sub hl [1, 2, 3, 0] rfl) h
def X7_areAlike_24b (N : Nat) (k24 : (Int32 → Int32 → Option (Int32))) (k76 : (Int32 → Option (Int32))) (σ : St) (v1 : Int32) (v2 : Int32) (v3 : Int32) (v4 : Int32) : Option (Int32) :=
  bd (X7_values σ) (fun t1 =>
  if t1 ≤ v4 then
    k76 v3
  else
    if v3 = 0 then
      nm (v4 + (1 : Int32)) (fun (x4 : Int32) =>
      k24 (0 : Int32) x4)
    else
      bd (X7_successorOf N σ v1 v4) (fun t5 =>
      gd (inb t5 64) (
      bd (X7_successorOf N σ v2 v4) (fun t7 =>
      gd (inb t7 64) (
      if (σ.2.2.1 4 t5.toNatClampNeg) = (σ.2.2.1 4 t7.toNatClampNeg) then
        nm (v4 + (1 : Int32)) (fun (x11 : Int32) =>
        k24 (1 : Int32) x11)
      else
        nm (v4 + (1 : Int32)) (fun (x10 : Int32) =>
        k24 (0 : Int32) x10))))))
def X7_areAlike_24 (N : Nat) (k76 : (Int32 → Option (Int32))) (σ : St) (v1 : Int32) (v2 : Int32) : Nat → Int32 → Int32 → Option (Int32)
  | 0, _, _ => none
  | n + 1, v3, v4 => X7_areAlike_24b N (fun v3 v4 => X7_areAlike_24 N k76 σ v1 v2 n v3 v4) k76 σ v1 v2 v3 v4
def X7_areAlike_76 (σ : St) (v3 : Int32) : Option (Int32) :=
  gd (isb v3) (
  some v3)
def X7_areAlike (N : Nat) (σ : St) (v1 : Int32) (v2 : Int32) : Option (Int32) :=
  gd (inb v1 64) (
  gd (inb v2 64) (
  if (σ.2.2.1 4 v1.toNatClampNeg) = (σ.2.2.1 4 v2.toNatClampNeg) then
    X7_areAlike_24 N (fun v3 => X7_areAlike_76 σ v3) σ v1 v2 N (1 : Int32) (0 : Int32)
  else
    X7_areAlike_24 N (fun v3 => X7_areAlike_76 σ v3) σ v1 v2 N (0 : Int32) (0 : Int32)))
set_option maxRecDepth 20000 in
set_option maxHeartbeats 4000000 in
theorem c_X7_areAlike {l : Launch} {D : va_G} {a : Nat → Nat} {cA : Nat → ClassId} {σ : St} {N : Nat} {v1 : Int32} {v2 : Int32} {r : Int32} (h : X7_areAlike N σ v1 v2 = some r) : MetI l yX7_areAlike cX7_areAlike 5 (some .boolean) 2 D (tyW cA) (wM a cA) EM [.ref (a 0), .int v1, .int v2] σ r σ := by
  refine mkI (by decide) (adrM a cA) (Or.inr rfl) (Nat.le_of_ble_eq_true rfl) ?_
  intro p e R s m args below meth c A Q ls X hR hp hl
  obtain ⟨hx, hb, -, hown, hts, -⟩ := id X
  have J_24 : ∀ (v1 : Int32) (v2 : Int32) (k76 : (Int32 → Option (Int32))) (hk76 : ∀ (v3 : Int32) (H : Heap) (locs : List Loc) (ls : Array Slot), Pw D (wM a cA) A s.heap H locs σ → lv_has ls 5 [(0, .ref (a 0)), (3, .int v3)] → k76 v3 = some r → W p l e R s m args below meth c H locs 0 0 Q (F0 m 76 ls [])) (n : Nat) (v3 : Int32) (v4 : Int32) (H : Heap) (locs : List Loc) (ls : Array Slot), Pw D (wM a cA) A s.heap H locs σ → lv_has ls 5 [(0, .ref (a 0)), (1, .int v1), (2, .int v2), (3, .int v3), (4, .int v4)] → X7_areAlike_24 N k76 σ v1 v2 n v3 v4 = some r → W p l e R s m args below meth c H locs 0 0 Q (F0 m 24 ls []) := by
    intro v1 v2 k76 hk76 n
    induction n with
    | zero => intro v3 v4 H locs ls hp hl h; exact nn_s (show (none : Option (Int32)) = some _ from h)
    | succ n ih =>
      intro v3 v4 H locs ls hp hl h
      have h : X7_areAlike_24b N (fun v3 v4 => X7_areAlike_24 N k76 σ v1 v2 n v3 v4) k76 σ v1 v2 v3 v4 = some r := h
      unfold X7_areAlike_24b at h
      have hk24 := ih
      refine lv_iload hx hb dX7_areAlike_24 (lv_at hl 4 rfl) ?_
      refine lv_aload_n hx hb dX7_areAlike_26 rfl (lv_at hl 0 rfl) ?_
      obtain ⟨t1, ht1, h⟩ := bd_s h
      refine cl_Vi X eokM (c_X7_values ht1) tw_17_20 mw_X7_values (by decide) hp 0 rfl rfl rfl hl.1 rfl (Nat.le_of_ble_eq_true rfl) dX7_areAlike_27 (fun H locs hp => ?_)
      refine lv_icmp_ge (tgt := 76) hx hb dX7_areAlike_30 (by decide) (fun c2 => ?_) (fun c2 => ?_)
      · have h := it_p h c2
        exact hk76 v3 _ _ _ hp (lv_sub hl [0, 3] rfl) h
      · have h := it_n h c2
        refine lv_iload_n hx hb dX7_areAlike_33 rfl (lv_at hl 3 rfl) ?_
        refine lv_if_eq (tgt := 68) hx hb dX7_areAlike_34 (by decide) (fun c3 => ?_) (fun c3 => ?_)
        · have h := it_p h c3
          refine lv_iconst (v := 0) hx hb dX7_areAlike_68 (by decide) ?_
          refine lv_istore_n (lv' := [(3, .int (0 : Int32)), (0, .ref (a 0)), (1, .int v1), (2, .int v2), (4, .int v4)]) hx hb dX7_areAlike_69 rfl hl (by decide) rfl (fun ls hl => ?_)
          obtain ⟨x4, ex4⟩ : ∃ z : Int32, z = v4 + (1 : Int32) := ⟨_, rfl⟩
          have h := nm_s h x4 ex4
          refine lv_iinc (v := x4) (lv' := [(4, .int x4), (3, .int (0 : Int32)), (0, .ref (a 0)), (1, .int v1), (2, .int v2)]) hx hb dX7_areAlike_70 hl (k := 4) rfl (by rw [ex4]; rfl) (by decide) rfl (fun ls hl => ?_)
          refine lv_goto (tgt := 24) hx hb dX7_areAlike_73 (by decide) ?_
          exact hk24 (0 : Int32) x4 _ _ _ hp (lv_sub hl [2, 3, 4, 1, 0] rfl) h
        · have h := it_n h c3
          refine lv_aload_n hx hb dX7_areAlike_37 rfl (lv_at hl 0 rfl) ?_
          refine gM_X7_classOf X hp tw_6_0 dX7_areAlike_38 ?_
          refine lv_aload_n hx hb dX7_areAlike_41 rfl (lv_at hl 0 rfl) ?_
          refine lv_iload_n hx hb dX7_areAlike_42 rfl (lv_at hl 1 rfl) ?_
          refine lv_iload hx hb dX7_areAlike_43 (lv_at hl 4 rfl) ?_
          obtain ⟨t5, ht5, h⟩ := bd_s h
          refine cl_Vi X eokM (c_X7_successorOf ht5) tw_21_23 mw_X7_successorOf (by decide) hp 0 rfl rfl rfl hl.1 rfl (Nat.le_of_ble_eq_true rfl) dX7_areAlike_45 (fun H locs hp => ?_)
          obtain ⟨g6, h⟩ := gd_s h
          refine lM_X7_classOf X hp g6 dX7_areAlike_48 ?_
          refine lv_aload_n hx hb dX7_areAlike_49 rfl (lv_at hl 0 rfl) ?_
          refine gM_X7_classOf X hp tw_6_0 dX7_areAlike_50 ?_
          refine lv_aload_n hx hb dX7_areAlike_53 rfl (lv_at hl 0 rfl) ?_
          refine lv_iload_n hx hb dX7_areAlike_54 rfl (lv_at hl 2 rfl) ?_
          refine lv_iload hx hb dX7_areAlike_55 (lv_at hl 4 rfl) ?_
          obtain ⟨t7, ht7, h⟩ := bd_s h
          refine cl_Vi X eokM (c_X7_successorOf ht7) tw_21_23 mw_X7_successorOf (by decide) hp 0 rfl rfl rfl hl.1 rfl (Nat.le_of_ble_eq_true rfl) dX7_areAlike_57 (fun H locs hp => ?_)
          obtain ⟨g8, h⟩ := gd_s h
          refine lM_X7_classOf X hp g8 dX7_areAlike_60 ?_
          refine lv_icmp_ne (tgt := 68) hx hb dX7_areAlike_61 (by decide) (fun c9 => ?_) (fun c9 => ?_)
          · have h := it_n h c9
            refine lv_iconst (v := 0) hx hb dX7_areAlike_68 (by decide) ?_
            refine lv_istore_n (lv' := [(3, .int (0 : Int32)), (0, .ref (a 0)), (1, .int v1), (2, .int v2), (4, .int v4)]) hx hb dX7_areAlike_69 rfl hl (by decide) rfl (fun ls hl => ?_)
            obtain ⟨x10, ex10⟩ : ∃ z : Int32, z = v4 + (1 : Int32) := ⟨_, rfl⟩
            have h := nm_s h x10 ex10
            refine lv_iinc (v := x10) (lv' := [(4, .int x10), (3, .int (0 : Int32)), (0, .ref (a 0)), (1, .int v1), (2, .int v2)]) hx hb dX7_areAlike_70 hl (k := 4) rfl (by rw [ex10]; rfl) (by decide) rfl (fun ls hl => ?_)
            refine lv_goto (tgt := 24) hx hb dX7_areAlike_73 (by decide) ?_
            exact hk24 (0 : Int32) x10 _ _ _ hp (lv_sub hl [2, 3, 4, 1, 0] rfl) h
          · have h := it_p h c9
            refine lv_iconst (v := 1) hx hb dX7_areAlike_64 (by decide) ?_
            refine lv_goto (tgt := 69) hx hb dX7_areAlike_65 (by decide) ?_
            refine lv_istore_n (lv' := [(3, .int (1 : Int32)), (0, .ref (a 0)), (1, .int v1), (2, .int v2), (4, .int v4)]) hx hb dX7_areAlike_69 rfl hl (by decide) rfl (fun ls hl => ?_)
            obtain ⟨x11, ex11⟩ : ∃ z : Int32, z = v4 + (1 : Int32) := ⟨_, rfl⟩
            have h := nm_s h x11 ex11
            refine lv_iinc (v := x11) (lv' := [(4, .int x11), (3, .int (1 : Int32)), (0, .ref (a 0)), (1, .int v1), (2, .int v2)]) hx hb dX7_areAlike_70 hl (k := 4) rfl (by rw [ex11]; rfl) (by decide) rfl (fun ls hl => ?_)
            refine lv_goto (tgt := 24) hx hb dX7_areAlike_73 (by decide) ?_
            exact hk24 (1 : Int32) x11 _ _ _ hp (lv_sub hl [2, 3, 4, 1, 0] rfl) h
  have J_76 : ∀ (v3 : Int32) (H : Heap) (locs : List Loc) (ls : Array Slot), Pw D (wM a cA) A s.heap H locs σ → lv_has ls 5 [(0, .ref (a 0)), (3, .int v3)] → X7_areAlike_76 σ v3 = some r → W p l e R s m args below meth c H locs 0 0 Q (F0 m 76 ls []) := by
    intro v3 H locs ls hp hl h
    unfold X7_areAlike_76 at h
    refine lv_iload_n hx hb dX7_areAlike_76 rfl (lv_at hl 1 rfl) ?_
    obtain ⟨g1, h⟩ := gd_s h
    exact hR _ _ _ _ _ _ dX7_areAlike_77 hp (Option.some.inj h) rfl (fun _ => g1)
  unfold X7_areAlike at h
  have hl := lv_sub (l' := [(0, .ref (a 0)), (1, .int v1), (2, .int v2)]) hl [0, 1, 2] rfl
  refine lv_aload_n hx hb dX7_areAlike_0 rfl (lv_at hl 0 rfl) ?_
  refine gM_X7_classOf X hp tw_6_0 dX7_areAlike_1 ?_
  refine lv_iload_n hx hb dX7_areAlike_4 rfl (lv_at hl 1 rfl) ?_
  obtain ⟨g1, h⟩ := gd_s h
  refine lM_X7_classOf X hp g1 dX7_areAlike_5 ?_
  refine lv_aload_n hx hb dX7_areAlike_6 rfl (lv_at hl 0 rfl) ?_
  refine gM_X7_classOf X hp tw_6_0 dX7_areAlike_7 ?_
  refine lv_iload_n hx hb dX7_areAlike_10 rfl (lv_at hl 2 rfl) ?_
  obtain ⟨g2, h⟩ := gd_s h
  refine lM_X7_classOf X hp g2 dX7_areAlike_11 ?_
  refine lv_icmp_ne (tgt := 19) hx hb dX7_areAlike_12 (by decide) (fun c3 => ?_) (fun c3 => ?_)
  · have h := it_n h c3
    refine lv_iconst (v := 0) hx hb dX7_areAlike_19 (by decide) ?_
    refine lv_istore_n (lv' := [(3, .int (0 : Int32)), (0, .ref (a 0)), (1, .int v1), (2, .int v2)]) hx hb dX7_areAlike_20 rfl hl (by decide) rfl (fun ls hl => ?_)
    refine lv_iconst (v := 0) hx hb dX7_areAlike_21 (by decide) ?_
    refine lv_istore (lv' := [(4, .int (0 : Int32)), (3, .int (0 : Int32)), (0, .ref (a 0)), (1, .int v1), (2, .int v2)]) hx hb dX7_areAlike_22 hl (by decide) rfl (fun ls hl => ?_)
    exact J_24 v1 v2 _ (fun v3 H locs ls hp hl h => J_76 v3 _ _ _ hp hl h) _ (0 : Int32) (0 : Int32) _ _ _ hp (lv_sub hl [2, 3, 4, 1, 0] rfl) h
  · have h := it_p h c3
    refine lv_iconst (v := 1) hx hb dX7_areAlike_15 (by decide) ?_
    refine lv_goto (tgt := 20) hx hb dX7_areAlike_16 (by decide) ?_
    refine lv_istore_n (lv' := [(3, .int (1 : Int32)), (0, .ref (a 0)), (1, .int v1), (2, .int v2)]) hx hb dX7_areAlike_20 rfl hl (by decide) rfl (fun ls hl => ?_)
    refine lv_iconst (v := 0) hx hb dX7_areAlike_21 (by decide) ?_
    refine lv_istore (lv' := [(4, .int (0 : Int32)), (3, .int (1 : Int32)), (0, .ref (a 0)), (1, .int v1), (2, .int v2)]) hx hb dX7_areAlike_22 hl (by decide) rfl (fun ls hl => ?_)
    exact J_24 v1 v2 _ (fun v3 H locs ls hp hl h => J_76 v3 _ _ _ hp hl h) _ (1 : Int32) (0 : Int32) _ _ _ hp (lv_sub hl [2, 3, 4, 1, 0] rfl) h
