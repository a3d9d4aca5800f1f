/- X7_handle X7_lowestLevel X7_blocks X7_cubesAt X7_spreads X7_carryOut X7_prove -/
def X7_handle (N : Nat) (v1 : Int32) (v2 : Int32) (σ : St) : Option (Int32 × St) :=
  nm (si σ 13 ((σ.1 13) + (1 : Int32))) (fun (σ1 : St) =>
  bd (X7_has (σ1.2.1 0) v1) (fun t2 =>
  if t2 = 0 then
    bd (X7_frameOf N σ1 v2) (fun t4 =>
    bd (X7_has t4 v1) (fun t5 =>
    if t5 = 0 then
      bd (X7_moveOn v1 v2 σ1) (fun t16 =>
      some ((0 : Int32), t16))
    else
      bd (X7_before N σ1 ((1 : Int64) <<< (v1.toInt64 &&& 63))) (fun t7 =>
      bd (X7_frameOf N σ1 (v2 - (1 : Int32))) (fun t8 =>
      bd (X7_least N ((t7 &&& t8) &&& (((1 : Int64) <<< (v1.toInt64 &&& 63)) ^^^ (-1 : Int64)))) (fun t9 =>
      if t9 = (-1 : Int32) then
        bd (X7_addCube N v1 v2 σ1) (fun t11 =>
        bd (X7_moveOn v1 v2 t11) (fun t12 =>
        some ((0 : Int32), t12)))
      else
        gd (inb (v2 - (1 : Int32)) 128) (
        gd (inb (v2 - (1 : Int32)) 128) (
        nm (sb σ1 3 (v2 - (1 : Int32)).toNatClampNeg ((σ1.2.2.2 3 (v2 - (1 : Int32)).toNatClampNeg) ||| ((1 : Int64) <<< (t9.toInt64 &&& 63)))) (fun (σ15 : St) =>
        some ((0 : Int32), σ15)))))))))
  else
    some ((1 : Int32), σ1)))
set_option maxRecDepth 20000 in
set_option maxHeartbeats 4000000 in
theorem c_X7_handle {l : Launch} {D : va_G} {a : Nat → Nat} {cA : Nat → ClassId} {σ : St} {N : Nat} {v1 : Int32} {v2 : Int32} {r : Int32} {σ' : St} (h : X7_handle N v1 v2 σ = some (r, σ')) : MetI l yX7_handle cX7_handle 4 (some .boolean) 7 D (tyW cA) (wM a cA) EM [.ref (a 0), .int v1, .int v2] σ r σ' := by
  refine mkI (by decide) (adrM a cA) (Or.inr rfl) (Nat.le_of_ble_eq_true rfl) ?_
  intro p e R s m args below meth c A Q ls X hR hp hl
  obtain ⟨hx, hb, -, hown, hts, -⟩ := id X
  unfold X7_handle at h
  have hl := lv_sub (l' := [(0, .ref (a 0)), (1, .int v1), (2, .int v2)]) hl [0, 1, 2] rfl
  refine lv_aload_n hx hb dX7_handle_0 rfl (lv_at hl 0 rfl) ?_
  refine lv_dup hx hb dX7_handle_1 rfl ?_
  refine gM_X7_handled X hp tw_39_14 dX7_handle_2 ?_
  refine lv_iconst (v := 1) hx hb dX7_handle_5 (by decide) ?_
  refine lv_iadd hx hb dX7_handle_6 ?_
  refine pM_X7_handled X hp tw_39_14 dX7_handle_7 (fun H locs σ1 eσ1 hp => ?_)
  have h := nm_s h σ1 eσ1
  refine lv_aload_n hx hb dX7_handle_10 rfl (lv_at hl 0 rfl) ?_
  refine gM_X7_init X hp tw_6_17 dX7_handle_11 ?_
  refine lv_iload_n hx hb dX7_handle_14 rfl (lv_at hl 1 rfl) ?_
  obtain ⟨t2, ht2, h⟩ := bd_s h
  refine cl_Si X eokM (c_X7_has (adrM a cA) eokM ht2) tw_18_3 mw_X7_has (by decide) hp hl.1 rfl (Nat.le_of_ble_eq_true rfl) dX7_handle_15 (fun H locs hp => ?_)
  refine lv_if_eq (tgt := 23) hx hb dX7_handle_18 (by decide) (fun c3 => ?_) (fun c3 => ?_)
  · have h := it_p h c3
    refine lv_aload_n hx hb dX7_handle_23 rfl (lv_at hl 0 rfl) ?_
    refine lv_iload_n hx hb dX7_handle_24 rfl (lv_at hl 2 rfl) ?_
    obtain ⟨t4, ht4, h⟩ := bd_s h
    refine cl_Vl X eokM (c_X7_frameOf ht4) tw_40_3 mw_X7_frameOf (by decide) hp 0 rfl rfl rfl hl.1 rfl (Nat.le_of_ble_eq_true rfl) dX7_handle_25 (fun H locs hp => ?_)
    refine lv_iload_n hx hb dX7_handle_28 rfl (lv_at hl 1 rfl) ?_
    obtain ⟨t5, ht5, h⟩ := bd_s h
    refine cl_Si X eokM (c_X7_has (adrM a cA) eokM ht5) tw_18_3 mw_X7_has (by decide) hp hl.1 rfl (Nat.le_of_ble_eq_true rfl) dX7_handle_29 (fun H locs hp => ?_)
    refine lv_if_ne (tgt := 43) hx hb dX7_handle_32 (by decide) (fun c6 => ?_) (fun c6 => ?_)
    · have h := it_n h c6
      refine lv_aload_n hx hb dX7_handle_43 rfl (lv_at hl 0 rfl) ?_
      refine lv_lconst (v := 1) hx hb dX7_handle_44 (by decide) ?_
      refine lv_iload_n hx hb dX7_handle_45 rfl (lv_at hl 1 rfl) ?_
      refine lv_lshl hx hb dX7_handle_46 rfl ?_
      obtain ⟨t7, ht7, h⟩ := bd_s h
      refine cl_Vl X eokM (c_X7_before ht7) tw_27_2 mw_X7_before (by decide) hp 0 rfl rfl rfl hl.1 rfl (Nat.le_of_ble_eq_true rfl) dX7_handle_47 (fun H locs hp => ?_)
      refine lv_aload_n hx hb dX7_handle_50 rfl (lv_at hl 0 rfl) ?_
      refine lv_iload_n hx hb dX7_handle_51 rfl (lv_at hl 2 rfl) ?_
      refine lv_iconst (v := 1) hx hb dX7_handle_52 (by decide) ?_
      refine lv_isub hx hb dX7_handle_53 ?_
      obtain ⟨t8, ht8, h⟩ := bd_s h
      refine cl_Vl X eokM (c_X7_frameOf ht8) tw_40_3 mw_X7_frameOf (by decide) hp 0 rfl rfl rfl hl.1 rfl (Nat.le_of_ble_eq_true rfl) dX7_handle_54 (fun H locs hp => ?_)
      refine lv_land hx hb dX7_handle_57 ?_
      refine lv_lconst (v := 1) hx hb dX7_handle_58 (by decide) ?_
      refine lv_iload_n hx hb dX7_handle_59 rfl (lv_at hl 1 rfl) ?_
      refine lv_lshl hx hb dX7_handle_60 rfl ?_
      refine lv_ldc2 hx hb hown (hts _ tw_7_9) dX7_handle_61 ?_
      refine lv_lxor hx hb dX7_handle_64 ?_
      refine lv_land hx hb dX7_handle_65 ?_
      obtain ⟨t9, ht9, h⟩ := bd_s h
      refine cl_Si X eokM (c_X7_least (adrM a cA) eokM ht9) tw_27_18 mw_X7_least (by decide) hp hl.1 rfl (Nat.le_of_ble_eq_true rfl) dX7_handle_66 (fun H locs hp => ?_)
      refine lv_istore_n (lv' := [(3, .int t9), (0, .ref (a 0)), (1, .int v1), (2, .int v2)]) hx hb dX7_handle_69 rfl hl (by decide) rfl (fun ls hl => ?_)
      refine lv_iload_n hx hb dX7_handle_70 rfl (lv_at hl 0 rfl) ?_
      refine lv_iconst (v := -1) hx hb dX7_handle_71 (by decide) ?_
      refine lv_icmp_eq (tgt := 91) hx hb dX7_handle_72 (by decide) (fun c10 => ?_) (fun c10 => ?_)
      · have h := it_p h c10
        refine lv_aload_n hx hb dX7_handle_91 rfl (lv_at hl 1 rfl) ?_
        refine lv_iload_n hx hb dX7_handle_92 rfl (lv_at hl 2 rfl) ?_
        refine lv_iload_n hx hb dX7_handle_93 rfl (lv_at hl 3 rfl) ?_
        obtain ⟨t11, ht11, h⟩ := bd_s h
        refine cl_Vv X eokM (c_X7_addCube ht11) tw_41_3 mw_X7_addCube (by decide) hp 0 rfl rfl rfl hl.1 rfl (Nat.le_of_ble_eq_true rfl) dX7_handle_94 (fun H locs hp => ?_)
        refine lv_aload_n hx hb dX7_handle_97 rfl (lv_at hl 1 rfl) ?_
        refine lv_iload_n hx hb dX7_handle_98 rfl (lv_at hl 2 rfl) ?_
        refine lv_iload_n hx hb dX7_handle_99 rfl (lv_at hl 3 rfl) ?_
        obtain ⟨t12, ht12, h⟩ := bd_s h
        refine cl_Vv X eokM (c_X7_moveOn ht12) tw_40_23 mw_X7_moveOn (by decide) hp 0 rfl rfl rfl hl.1 rfl (Nat.le_of_ble_eq_true rfl) dX7_handle_100 (fun H locs hp => ?_)
        refine lv_iconst (v := 0) hx hb dX7_handle_103 (by decide) ?_
        exact hR _ _ _ _ _ _ dX7_handle_104 hp (congrArg Prod.fst (Option.some.inj h)) (congrArg Prod.snd (Option.some.inj h)) (fun _ => Or.inl rfl)
      · have h := it_n h c10
        refine lv_aload_n hx hb dX7_handle_75 rfl (lv_at hl 1 rfl) ?_
        refine gM_X7_obliged X hp tw_6_5 dX7_handle_76 ?_
        refine lv_iload_n hx hb dX7_handle_79 rfl (lv_at hl 3 rfl) ?_
        refine lv_iconst (v := 1) hx hb dX7_handle_80 (by decide) ?_
        refine lv_isub hx hb dX7_handle_81 ?_
        refine lv_dup2_11 hx hb dX7_handle_82 rfl rfl ?_
        obtain ⟨g13, h⟩ := gd_s h
        refine lM_X7_obliged X hp g13 dX7_handle_83 ?_
        refine lv_lconst (v := 1) hx hb dX7_handle_84 (by decide) ?_
        refine lv_iload_n hx hb dX7_handle_85 rfl (lv_at hl 0 rfl) ?_
        refine lv_lshl hx hb dX7_handle_86 rfl ?_
        refine lv_lor hx hb dX7_handle_87 ?_
        obtain ⟨g14, h⟩ := gd_s h
        refine sM_X7_obliged X hp g14 dX7_handle_88 (fun H locs σ15 eσ15 hp => ?_)
        have h := nm_s h σ15 eσ15
        refine lv_iconst (v := 0) hx hb dX7_handle_89 (by decide) ?_
        exact hR _ _ _ _ _ _ dX7_handle_90 hp (congrArg Prod.fst (Option.some.inj h)) (congrArg Prod.snd (Option.some.inj h)) (fun _ => Or.inl rfl)
    · have h := it_p h c6
      refine lv_aload_n hx hb dX7_handle_35 rfl (lv_at hl 0 rfl) ?_
      refine lv_iload_n hx hb dX7_handle_36 rfl (lv_at hl 1 rfl) ?_
      refine lv_iload_n hx hb dX7_handle_37 rfl (lv_at hl 2 rfl) ?_
      obtain ⟨t16, ht16, h⟩ := bd_s h
      refine cl_Vv X eokM (c_X7_moveOn ht16) tw_40_23 mw_X7_moveOn (by decide) hp 0 rfl rfl rfl hl.1 rfl (Nat.le_of_ble_eq_true rfl) dX7_handle_38 (fun H locs hp => ?_)
      refine lv_iconst (v := 0) hx hb dX7_handle_41 (by decide) ?_
      exact hR _ _ _ _ _ _ dX7_handle_42 hp (congrArg Prod.fst (Option.some.inj h)) (congrArg Prod.snd (Option.some.inj h)) (fun _ => Or.inl rfl)
  · have h := it_n h c3
    refine lv_iconst (v := 1) hx hb dX7_handle_21 (by decide) ?_
    exact hR _ _ _ _ _ _ dX7_handle_22 hp (congrArg Prod.fst (Option.some.inj h)) (congrArg Prod.snd (Option.some.inj h)) (fun _ => Or.inr rfl)
def X7_lowestLevel_2b (k2 : (Int32 → Option (Int32))) (k27 : (Int32 → Option (Int32))) (σ : St) (v1 : Int32) : Option (Int32) :=
  if (σ.1 11) < v1 then
    k27 v1
  else
    gd (inb v1 128) (
    if (σ.2.2.2 3 v1.toNatClampNeg) = (0 : Int64) then
      nm (v1 + (1 : Int32)) (fun (x4 : Int32) =>
      k2 x4)
    else
      k27 v1)
def X7_lowestLevel_2 (k27 : (Int32 → Option (Int32))) (σ : St) : Nat → Int32 → Option (Int32)
  | 0, _ => none
  | n + 1, v1 => X7_lowestLevel_2b (fun v1 => X7_lowestLevel_2 k27 σ n v1) k27 σ v1
def X7_lowestLevel_27 (σ : St) (v1 : Int32) : Option (Int32) :=
  if (σ.1 11) < v1 then
    some (-1 : Int32)
  else
    some v1
def X7_lowestLevel (N : Nat) (σ : St) : Option (Int32) :=
  X7_lowestLevel_2 (fun v1 => X7_lowestLevel_27 σ v1) σ N (0 : Int32)
set_option maxRecDepth 20000 in
set_option maxHeartbeats 4000000 in
theorem c_X7_lowestLevel {l : Launch} {D : va_G} {a : Nat → Nat} {cA : Nat → ClassId} {σ : St} {N : Nat} {r : Int32} (h : X7_lowestLevel N σ = some r) : MetI l yX7_lowestLevel cX7_lowestLevel 2 (some .int) 0 D (tyW cA) (wM a cA) EM [.ref (a 0)] σ r σ := by
  refine mkI (by decide) (adrM a cA) (Or.inl rfl) (Nat.le_of_ble_eq_true rfl) ?_
  intro p e R s m args below meth c A Q ls X hR hp hl
  obtain ⟨hx, hb, -, hown, hts, -⟩ := id X
  have J_2 : ∀  (k27 : (Int32 → Option (Int32))) (hk27 : ∀ (v1 : Int32) (H : Heap) (locs : List Loc) (ls : Array Slot), Pw D (wM a cA) A s.heap H locs σ → lv_has ls 2 [(0, .ref (a 0)), (1, .int v1)] → k27 v1 = some r → W p l e R s m args below meth c H locs 0 0 Q (F0 m 27 ls [])) (n : Nat) (v1 : Int32) (H : Heap) (locs : List Loc) (ls : Array Slot), Pw D (wM a cA) A s.heap H locs σ → lv_has ls 2 [(0, .ref (a 0)), (1, .int v1)] → X7_lowestLevel_2 k27 σ n v1 = some r → W p l e R s m args below meth c H locs 0 0 Q (F0 m 2 ls []) := by
    intro k27 hk27 n
    induction n with
    | zero => intro v1 H locs ls hp hl h; exact nn_s (show (none : Option (Int32)) = some _ from h)
    | succ n ih =>
      intro v1 H locs ls hp hl h
      have h : X7_lowestLevel_2b (fun v1 => X7_lowestLevel_2 k27 σ n v1) k27 σ v1 = some r := h
      unfold X7_lowestLevel_2b at h
      have hk2 := ih
      refine lv_iload_n hx hb dX7_lowestLevel_2 rfl (lv_at hl 1 rfl) ?_
      refine lv_aload_n hx hb dX7_lowestLevel_3 rfl (lv_at hl 0 rfl) ?_
      refine gM_X7_k X hp tw_39_12 dX7_lowestLevel_4 ?_
      refine lv_icmp_gt (tgt := 27) hx hb dX7_lowestLevel_7 (by decide) (fun c1 => ?_) (fun c1 => ?_)
      · have h := it_p h c1
        exact hk27 v1 _ _ _ hp (lv_sub hl [0, 1] rfl) h
      · have h := it_n h c1
        refine lv_aload_n hx hb dX7_lowestLevel_10 rfl (lv_at hl 0 rfl) ?_
        refine gM_X7_obliged X hp tw_6_5 dX7_lowestLevel_11 ?_
        refine lv_iload_n hx hb dX7_lowestLevel_14 rfl (lv_at hl 1 rfl) ?_
        obtain ⟨g2, h⟩ := gd_s h
        refine lM_X7_obliged X hp g2 dX7_lowestLevel_15 ?_
        refine lv_lconst (v := 0) hx hb dX7_lowestLevel_16 (by decide) ?_
        refine W.lcmp hx hb dX7_lowestLevel_17 ?_
        refine lv_if_ne (tgt := 27) hx hb dX7_lowestLevel_18 (by decide) (fun c3 => ?_) (fun c3 => ?_)
        · have h := it_n h (fun q => c3 (lcmp0.mpr q))
          exact hk27 v1 _ _ _ hp (lv_sub hl [0, 1] rfl) h
        · have h := it_p h (lcmp0.mp c3)
          obtain ⟨x4, ex4⟩ : ∃ z : Int32, z = v1 + (1 : Int32) := ⟨_, rfl⟩
          have h := nm_s h x4 ex4
          refine lv_iinc (v := x4) (lv' := [(1, .int x4), (0, .ref (a 0))]) hx hb dX7_lowestLevel_21 hl (k := 1) rfl (by rw [ex4]; rfl) (by decide) rfl (fun ls hl => ?_)
          refine lv_goto (tgt := 2) hx hb dX7_lowestLevel_24 (by decide) ?_
          exact hk2 x4 _ _ _ hp (lv_sub hl [1, 0] rfl) h
  have J_27 : ∀ (v1 : Int32) (H : Heap) (locs : List Loc) (ls : Array Slot), Pw D (wM a cA) A s.heap H locs σ → lv_has ls 2 [(0, .ref (a 0)), (1, .int v1)] → X7_lowestLevel_27 σ v1 = some r → W p l e R s m args below meth c H locs 0 0 Q (F0 m 27 ls []) := by
    intro v1 H locs ls hp hl h
    unfold X7_lowestLevel_27 at h
    refine lv_iload_n hx hb dX7_lowestLevel_27 rfl (lv_at hl 1 rfl) ?_
    refine lv_aload_n hx hb dX7_lowestLevel_28 rfl (lv_at hl 0 rfl) ?_
    refine gM_X7_k X hp tw_39_12 dX7_lowestLevel_29 ?_
    refine lv_icmp_gt (tgt := 39) hx hb dX7_lowestLevel_32 (by decide) (fun c1 => ?_) (fun c1 => ?_)
    · have h := it_p h c1
      refine lv_iconst (v := -1) hx hb dX7_lowestLevel_39 (by decide) ?_
      exact hR _ _ _ _ _ _ dX7_lowestLevel_40 hp (Option.some.inj h) rfl (fun q => by cases q)
    · have h := it_n h c1
      refine lv_iload_n hx hb dX7_lowestLevel_35 rfl (lv_at hl 1 rfl) ?_
      refine lv_goto (tgt := 40) hx hb dX7_lowestLevel_36 (by decide) ?_
      exact hR _ _ _ _ _ _ dX7_lowestLevel_40 hp (Option.some.inj h) rfl (fun q => by cases q)
  unfold X7_lowestLevel at h
  have hl := lv_sub (l' := [(0, .ref (a 0))]) hl [0] rfl
  refine lv_iconst (v := 0) hx hb dX7_lowestLevel_0 (by decide) ?_
  refine lv_istore_n (lv' := [(1, .int (0 : Int32)), (0, .ref (a 0))]) hx hb dX7_lowestLevel_1 rfl hl (by decide) rfl (fun ls hl => ?_)
  exact J_2 _ (fun v1 H locs ls hp hl h => J_27 v1 _ _ _ hp hl h) _ (0 : Int32) _ _ _ hp (lv_sub hl [1, 0] rfl) h
def X7_blocks_59b (N : Nat) (k59 : (Int32 → Int32 → St → Option (Int32 × St))) (k91 : (Int32 → St → Option (Int32 × St))) (v1 : Int32) (v2 : Int32) (σ : St) : Option (Int32 × St) :=
  if v2 = (-1 : Int32) then
    k91 v1 σ
  else
    if v1 = 0 then
      gd (inb v2 128) (
      bd (X7_least N (σ.2.2.2 3 v2.toNatClampNeg)) (fun t4 =>
      bd (X7_handle N t4 v2 σ) (fun t5 =>
      bd (X7_lowestLevel N t5.2) (fun t6 =>
      k59 t5.1 t6 t5.2))))
    else
      k91 v1 σ
def X7_blocks_59 (N : Nat) (k91 : (Int32 → St → Option (Int32 × St))) : Nat → Int32 → Int32 → St → Option (Int32 × St)
  | 0, _, _, _ => none
  | n + 1, v1, v2, σ => X7_blocks_59b N (fun v1 v2 σ => X7_blocks_59 N k91 n v1 v2 σ) k91 v1 v2 σ
def X7_blocks_91 (k2 : (Int32 → St → Option (Int32 × St))) (v1 : Int32) (σ : St) : Option (Int32 × St) :=
  k2 v1 σ
def X7_blocks_2b (N : Nat) (k2 : (Int32 → St → Option (Int32 × St))) (k94 : (Int32 → St → Option (Int32 × St))) (v1 : Int32) (σ : St) : Option (Int32 × St) :=
  if v1 = 0 then
    bd (X7_frameOf N σ (σ.1 11)) (fun t2 =>
    bd (X7_bad σ) (fun t3 =>
    if (t2 &&& t3) = (0 : Int64) then
      k94 v1 σ
    else
      gd (inb (σ.1 11) 128) (
      bd (X7_frameOf N σ (σ.1 11)) (fun t6 =>
      bd (X7_bad σ) (fun t7 =>
      bd (X7_least N (t6 &&& t7)) (fun t8 =>
      gd (inb (σ.1 11) 128) (
      nm (sb σ 3 (σ.1 11).toNatClampNeg ((σ.2.2.2 3 (σ.1 11).toNatClampNeg) ||| ((1 : Int64) <<< (t8.toInt64 &&& 63)))) (fun (σ10 : St) =>
      bd (X7_lowestLevel N σ10) (fun t11 =>
      X7_blocks_59 N (fun v1 σ => X7_blocks_91 k2 v1 σ) N v1 t11 σ10)))))))))
  else
    k94 v1 σ
def X7_blocks_2 (N : Nat) (k94 : (Int32 → St → Option (Int32 × St))) : Nat → Int32 → St → Option (Int32 × St)
  | 0, _, _ => none
  | n + 1, v1, σ => X7_blocks_2b N (fun v1 σ => X7_blocks_2 N k94 n v1 σ) k94 v1 σ
def X7_blocks_94 (v1 : Int32) (σ : St) : Option (Int32 × St) :=
  gd (isb v1) (
  some (v1, σ))
def X7_blocks (N : Nat) (σ : St) : Option (Int32 × St) :=
  X7_blocks_2 N (fun v1 σ => X7_blocks_94 v1 σ) N (0 : Int32) σ
set_option maxRecDepth 20000 in
set_option maxHeartbeats 4000000 in
theorem c_X7_blocks {l : Launch} {D : va_G} {a : Nat → Nat} {cA : Nat → ClassId} {σ : St} {N : Nat} {r : Int32} {σ' : St} (h : X7_blocks N σ = some (r, σ')) : MetI l yX7_blocks cX7_blocks 3 (some .boolean) 8 D (tyW cA) (wM a cA) EM [.ref (a 0)] σ r σ' := by
  refine mkI (by decide) (adrM a cA) (Or.inr rfl) (Nat.le_of_ble_eq_true rfl) ?_
  intro p e R s m args below meth c A Q ls X hR hp hl
  obtain ⟨hx, hb, -, hown, hts, -⟩ := id X
  have J_59 : ∀  (k91 : (Int32 → St → Option (Int32 × St))) (hk91 : ∀ (v1 : Int32) (σ : St) (H : Heap) (locs : List Loc) (ls : Array Slot), Pw D (wM a cA) A s.heap H locs σ → lv_has ls 3 [(0, .ref (a 0)), (1, .int v1)] → k91 v1 σ = some (r, σ') → W p l e R s m args below meth c H locs 0 0 Q (F0 m 91 ls [])) (n : Nat) (v1 : Int32) (v2 : Int32) (σ : St) (H : Heap) (locs : List Loc) (ls : Array Slot), Pw D (wM a cA) A s.heap H locs σ → lv_has ls 3 [(0, .ref (a 0)), (1, .int v1), (2, .int v2)] → X7_blocks_59 N k91 n v1 v2 σ = some (r, σ') → W p l e R s m args below meth c H locs 0 0 Q (F0 m 59 ls []) := by
    intro k91 hk91 n
    induction n with
    | zero => intro v1 v2 σ H locs ls hp hl h; exact nn_s (show (none : Option (Int32 × St)) = some _ from h)
    | succ n ih =>
      intro v1 v2 σ H locs ls hp hl h
      have h : X7_blocks_59b N (fun v1 v2 σ => X7_blocks_59 N k91 n v1 v2 σ) k91 v1 v2 σ = some (r, σ') := h
      unfold X7_blocks_59b at h
      have hk59 := ih
      refine lv_iload_n hx hb dX7_blocks_59 rfl (lv_at hl 2 rfl) ?_
      refine lv_iconst (v := -1) hx hb dX7_blocks_60 (by decide) ?_
      refine lv_icmp_eq (tgt := 91) hx hb dX7_blocks_61 (by decide) (fun c1 => ?_) (fun c1 => ?_)
      · have h := it_p h c1
        exact hk91 v1 σ _ _ _ hp (lv_sub hl [0, 1] rfl) h
      · have h := it_n h c1
        refine lv_iload_n hx hb dX7_blocks_64 rfl (lv_at hl 1 rfl) ?_
        refine lv_if_ne (tgt := 91) hx hb dX7_blocks_65 (by decide) (fun c2 => ?_) (fun c2 => ?_)
        · have h := it_n h c2
          exact hk91 v1 σ _ _ _ hp (lv_sub hl [0, 1] rfl) h
        · have h := it_p h c2
          refine lv_aload_n hx hb dX7_blocks_68 rfl (lv_at hl 0 rfl) ?_
          refine lv_aload_n hx hb dX7_blocks_69 rfl (lv_at hl 0 rfl) ?_
          refine gM_X7_obliged X hp tw_6_5 dX7_blocks_70 ?_
          refine lv_iload_n hx hb dX7_blocks_73 rfl (lv_at hl 2 rfl) ?_
          obtain ⟨g3, h⟩ := gd_s h
          refine lM_X7_obliged X hp g3 dX7_blocks_74 ?_
          obtain ⟨t4, ht4, h⟩ := bd_s h
          refine cl_Si X eokM (c_X7_least (adrM a cA) eokM ht4) tw_27_18 mw_X7_least (by decide) hp hl.1 rfl (Nat.le_of_ble_eq_true rfl) dX7_blocks_75 (fun H locs hp => ?_)
          refine lv_iload_n hx hb dX7_blocks_78 rfl (lv_at hl 2 rfl) ?_
          obtain ⟨t5, ht5, h⟩ := bd_s h
          refine cl_Vi X eokM (c_X7_handle ht5) tw_40_19 mw_X7_handle (by decide) hp 0 rfl rfl rfl hl.1 rfl (Nat.le_of_ble_eq_true rfl) dX7_blocks_79 (fun H locs hp => ?_)
          refine lv_istore_n (lv' := [(1, .int t5.1), (0, .ref (a 0)), (2, .int v2)]) hx hb dX7_blocks_82 rfl hl (by decide) rfl (fun ls hl => ?_)
          refine lv_aload_n hx hb dX7_blocks_83 rfl (lv_at hl 1 rfl) ?_
          obtain ⟨t6, ht6, h⟩ := bd_s h
          refine cl_Vi X eokM (c_X7_lowestLevel ht6) tw_40_15 mw_X7_lowestLevel (by decide) hp 0 rfl rfl rfl hl.1 rfl (Nat.le_of_ble_eq_true rfl) dX7_blocks_84 (fun H locs hp => ?_)
          refine lv_istore_n (lv' := [(2, .int t6), (1, .int t5.1), (0, .ref (a 0))]) hx hb dX7_blocks_87 rfl hl (by decide) rfl (fun ls hl => ?_)
          refine lv_goto (tgt := 59) hx hb dX7_blocks_88 (by decide) ?_
          exact hk59 t5.1 t6 t5.2 _ _ _ hp (lv_sub hl [2, 1, 0] rfl) h
  have J_91 : ∀ (v1 : Int32) (k2 : (Int32 → St → Option (Int32 × St))) (hk2 : ∀ (v1 : Int32) (σ : St) (H : Heap) (locs : List Loc) (ls : Array Slot), Pw D (wM a cA) A s.heap H locs σ → lv_has ls 3 [(0, .ref (a 0)), (1, .int v1)] → k2 v1 σ = some (r, σ') → W p l e R s m args below meth c H locs 0 0 Q (F0 m 2 ls [])) (σ : St) (H : Heap) (locs : List Loc) (ls : Array Slot), Pw D (wM a cA) A s.heap H locs σ → lv_has ls 3 [(0, .ref (a 0)), (1, .int v1)] → X7_blocks_91 k2 v1 σ = some (r, σ') → W p l e R s m args below meth c H locs 0 0 Q (F0 m 91 ls []) := by
    intro v1 k2 hk2 σ H locs ls hp hl h
    unfold X7_blocks_91 at h
    refine lv_goto (tgt := 2) hx hb dX7_blocks_91 (by decide) ?_
    exact hk2 v1 σ _ _ _ hp (lv_sub hl [0, 1] rfl) h
  have J_2 : ∀  (k94 : (Int32 → St → Option (Int32 × St))) (hk94 : ∀ (v1 : Int32) (σ : St) (H : Heap) (locs : List Loc) (ls : Array Slot), Pw D (wM a cA) A s.heap H locs σ → lv_has ls 3 [(0, .ref (a 0)), (1, .int v1)] → k94 v1 σ = some (r, σ') → W p l e R s m args below meth c H locs 0 0 Q (F0 m 94 ls [])) (n : Nat) (v1 : Int32) (σ : St) (H : Heap) (locs : List Loc) (ls : Array Slot), Pw D (wM a cA) A s.heap H locs σ → lv_has ls 3 [(0, .ref (a 0)), (1, .int v1)] → X7_blocks_2 N k94 n v1 σ = some (r, σ') → W p l e R s m args below meth c H locs 0 0 Q (F0 m 2 ls []) := by
    intro k94 hk94 n
    induction n with
    | zero => intro v1 σ H locs ls hp hl h; exact nn_s (show (none : Option (Int32 × St)) = some _ from h)
    | succ n ih =>
      intro v1 σ H locs ls hp hl h
      have h : X7_blocks_2b N (fun v1 σ => X7_blocks_2 N k94 n v1 σ) k94 v1 σ = some (r, σ') := h
      unfold X7_blocks_2b at h
      have hk2 := ih
      refine lv_iload_n hx hb dX7_blocks_2 rfl (lv_at hl 1 rfl) ?_
      refine lv_if_ne (tgt := 94) hx hb dX7_blocks_3 (by decide) (fun c1 => ?_) (fun c1 => ?_)
      · have h := it_n h c1
        exact hk94 v1 σ _ _ _ hp (lv_sub hl [0, 1] rfl) h
      · have h := it_p h c1
        refine lv_aload_n hx hb dX7_blocks_6 rfl (lv_at hl 0 rfl) ?_
        refine lv_aload_n hx hb dX7_blocks_7 rfl (lv_at hl 0 rfl) ?_
        refine gM_X7_k X hp tw_39_12 dX7_blocks_8 ?_
        obtain ⟨t2, ht2, h⟩ := bd_s h
        refine cl_Vl X eokM (c_X7_frameOf ht2) tw_40_3 mw_X7_frameOf (by decide) hp 0 rfl rfl rfl hl.1 rfl (Nat.le_of_ble_eq_true rfl) dX7_blocks_11 (fun H locs hp => ?_)
        refine lv_aload_n hx hb dX7_blocks_14 rfl (lv_at hl 0 rfl) ?_
        obtain ⟨t3, ht3, h⟩ := bd_s h
        refine cl_Vl X eokM (c_X7_bad ht3) tw_26_18 mw_X7_bad (by decide) hp 0 rfl rfl rfl hl.1 rfl (Nat.le_of_ble_eq_true rfl) dX7_blocks_15 (fun H locs hp => ?_)
        refine lv_land hx hb dX7_blocks_18 ?_
        refine lv_lconst (v := 0) hx hb dX7_blocks_19 (by decide) ?_
        refine W.lcmp hx hb dX7_blocks_20 ?_
        refine lv_if_eq (tgt := 94) hx hb dX7_blocks_21 (by decide) (fun c4 => ?_) (fun c4 => ?_)
        · have h := it_p h (lcmp0.mp c4)
          exact hk94 v1 σ _ _ _ hp (lv_sub hl [0, 1] rfl) h
        · have h := it_n h (fun q => c4 (lcmp0.mpr q))
          refine lv_aload_n hx hb dX7_blocks_24 rfl (lv_at hl 0 rfl) ?_
          refine gM_X7_obliged X hp tw_6_5 dX7_blocks_25 ?_
          refine lv_aload_n hx hb dX7_blocks_28 rfl (lv_at hl 0 rfl) ?_
          refine gM_X7_k X hp tw_39_12 dX7_blocks_29 ?_
          refine lv_dup2_11 hx hb dX7_blocks_32 rfl rfl ?_
          obtain ⟨g5, h⟩ := gd_s h
          refine lM_X7_obliged X hp g5 dX7_blocks_33 ?_
          refine lv_lconst (v := 1) hx hb dX7_blocks_34 (by decide) ?_
          refine lv_aload_n hx hb dX7_blocks_35 rfl (lv_at hl 0 rfl) ?_
          refine lv_aload_n hx hb dX7_blocks_36 rfl (lv_at hl 0 rfl) ?_
          refine gM_X7_k X hp tw_39_12 dX7_blocks_37 ?_
          obtain ⟨t6, ht6, h⟩ := bd_s h
          refine cl_Vl X eokM (c_X7_frameOf ht6) tw_40_3 mw_X7_frameOf (by decide) hp 0 rfl rfl rfl hl.1 rfl (Nat.le_of_ble_eq_true rfl) dX7_blocks_40 (fun H locs hp => ?_)
          refine lv_aload_n hx hb dX7_blocks_43 rfl (lv_at hl 0 rfl) ?_
          obtain ⟨t7, ht7, h⟩ := bd_s h
          refine cl_Vl X eokM (c_X7_bad ht7) tw_26_18 mw_X7_bad (by decide) hp 0 rfl rfl rfl hl.1 rfl (Nat.le_of_ble_eq_true rfl) dX7_blocks_44 (fun H locs hp => ?_)
          refine lv_land hx hb dX7_blocks_47 ?_
          obtain ⟨t8, ht8, h⟩ := bd_s h
          refine cl_Si X eokM (c_X7_least (adrM a cA) eokM ht8) tw_27_18 mw_X7_least (by decide) hp hl.1 rfl (Nat.le_of_ble_eq_true rfl) dX7_blocks_48 (fun H locs hp => ?_)
          refine lv_lshl hx hb dX7_blocks_51 rfl ?_
          refine lv_lor hx hb dX7_blocks_52 ?_
          obtain ⟨g9, h⟩ := gd_s h
          refine sM_X7_obliged X hp g9 dX7_blocks_53 (fun H locs σ10 eσ10 hp => ?_)
          have h := nm_s h σ10 eσ10
          refine lv_aload_n hx hb dX7_blocks_54 rfl (lv_at hl 0 rfl) ?_
          obtain ⟨t11, ht11, h⟩ := bd_s h
          refine cl_Vi X eokM (c_X7_lowestLevel ht11) tw_40_15 mw_X7_lowestLevel (by decide) hp 0 rfl rfl rfl hl.1 rfl (Nat.le_of_ble_eq_true rfl) dX7_blocks_55 (fun H locs hp => ?_)
          refine lv_istore_n (lv' := [(2, .int t11), (0, .ref (a 0)), (1, .int v1)]) hx hb dX7_blocks_58 rfl hl (by decide) rfl (fun ls hl => ?_)
          exact J_59 _ (fun v1 σ H locs ls hp hl h => J_91 v1 _ hk2 σ _ _ _ hp hl h) _ v1 t11 σ10 _ _ _ hp (lv_sub hl [1, 2, 0] rfl) h
  have J_94 : ∀ (v1 : Int32) (σ : St) (H : Heap) (locs : List Loc) (ls : Array Slot), Pw D (wM a cA) A s.heap H locs σ → lv_has ls 3 [(0, .ref (a 0)), (1, .int v1)] → X7_blocks_94 v1 σ = some (r, σ') → W p l e R s m args below meth c H locs 0 0 Q (F0 m 94 ls []) := by
    intro v1 σ H locs ls hp hl h
    unfold X7_blocks_94 at h
    refine lv_iload_n hx hb dX7_blocks_94 rfl (lv_at hl 1 rfl) ?_
    obtain ⟨g1, h⟩ := gd_s h
    exact hR _ _ _ _ _ _ dX7_blocks_95 hp (congrArg Prod.fst (Option.some.inj h)) (congrArg Prod.snd (Option.some.inj h)) (fun _ => g1)
  unfold X7_blocks at h
  have hl := lv_sub (l' := [(0, .ref (a 0))]) hl [0] rfl
  refine lv_iconst (v := 0) hx hb dX7_blocks_0 (by decide) ?_
  refine lv_istore_n (lv' := [(1, .int (0 : Int32)), (0, .ref (a 0))]) hx hb dX7_blocks_1 rfl hl (by decide) rfl (fun ls hl => ?_)
  exact J_2 _ (fun v1 σ H locs ls hp hl h => J_94 v1 σ _ _ _ hp hl h) _ (0 : Int32) σ _ _ _ hp (lv_sub hl [1, 0] rfl) h
def X7_cubesAt_4b (k4 : (Int32 → Int32 → Option (Int32))) (k36 : (Int32 → Option (Int32))) (σ : St) (v1 : Int32) (v2 : Int32) (v3 : Int32) : Option (Int32) :=
  if (σ.1 12) ≤ v3 then
    k36 v2
  else
    gd (inb v3 1024) (
    if (σ.2.2.1 8 v3.toNatClampNeg) = v1 then
      nm (v2 + (1 : Int32)) (fun (x6 : Int32) =>
      nm (v3 + (1 : Int32)) (fun (x7 : Int32) =>
      k4 x6 x7))
    else
      nm (v2 + (0 : Int32)) (fun (x4 : Int32) =>
      nm (v3 + (1 : Int32)) (fun (x5 : Int32) =>
      k4 x4 x5)))
def X7_cubesAt_4 (k36 : (Int32 → Option (Int32))) (σ : St) (v1 : Int32) : Nat → Int32 → Int32 → Option (Int32)
  | 0, _, _ => none
  | n + 1, v2, v3 => X7_cubesAt_4b (fun v2 v3 => X7_cubesAt_4 k36 σ v1 n v2 v3) k36 σ v1 v2 v3
def X7_cubesAt_36 (σ : St) (v2 : Int32) : Option (Int32) :=
  some v2
def X7_cubesAt (N : Nat) (σ : St) (v1 : Int32) : Option (Int32) :=
  X7_cubesAt_4 (fun v2 => X7_cubesAt_36 σ v2) σ v1 N (0 : Int32) (0 : Int32)
set_option maxRecDepth 20000 in
set_option maxHeartbeats 4000000 in
theorem c_X7_cubesAt {l : Launch} {D : va_G} {a : Nat → Nat} {cA : Nat → ClassId} {σ : St} {N : Nat} {v1 : Int32} {r : Int32} (h : X7_cubesAt N σ v1 = some r) : MetI l yX7_cubesAt cX7_cubesAt 4 (some .int) 0 D (tyW cA) (wM a cA) EM [.ref (a 0), .int v1] σ r σ := by
  refine mkI (by decide) (adrM a cA) (Or.inl rfl) (Nat.le_of_ble_eq_true rfl) ?_
  intro p e R s m args below meth c A Q ls X hR hp hl
  obtain ⟨hx, hb, -, hown, hts, -⟩ := id X
  have J_4 : ∀ (v1 : Int32) (k36 : (Int32 → Option (Int32))) (hk36 : ∀ (v2 : Int32) (H : Heap) (locs : List Loc) (ls : Array Slot), Pw D (wM a cA) A s.heap H locs σ → lv_has ls 4 [(0, .ref (a 0)), (2, .int v2)] → k36 v2 = some r → W p l e R s m args below meth c H locs 0 0 Q (F0 m 36 ls [])) (n : Nat) (v2 : Int32) (v3 : Int32) (H : Heap) (locs : List Loc) (ls : Array Slot), Pw D (wM a cA) A s.heap H locs σ → lv_has ls 4 [(0, .ref (a 0)), (1, .int v1), (2, .int v2), (3, .int v3)] → X7_cubesAt_4 k36 σ v1 n v2 v3 = some r → W p l e R s m args below meth c H locs 0 0 Q (F0 m 4 ls []) := by
    intro v1 k36 hk36 n
    induction n with
    | zero => intro v2 v3 H locs ls hp hl h; exact nn_s (show (none : Option (Int32)) = some _ from h)
    | succ n ih =>
      intro v2 v3 H locs ls hp hl h
      have h : X7_cubesAt_4b (fun v2 v3 => X7_cubesAt_4 k36 σ v1 n v2 v3) k36 σ v1 v2 v3 = some r := h
      unfold X7_cubesAt_4b at h
      have hk4 := ih
      refine lv_iload_n hx hb dX7_cubesAt_4 rfl (lv_at hl 3 rfl) ?_
      refine lv_aload_n hx hb dX7_cubesAt_5 rfl (lv_at hl 0 rfl) ?_
      refine gM_X7_cubes X hp tw_39_13 dX7_cubesAt_6 ?_
      refine lv_icmp_ge (tgt := 36) hx hb dX7_cubesAt_9 (by decide) (fun c1 => ?_) (fun c1 => ?_)
      · have h := it_p h c1
        exact hk36 v2 _ _ _ hp (lv_sub hl [0, 2] rfl) h
      · have h := it_n h c1
        refine lv_iload_n hx hb dX7_cubesAt_12 rfl (lv_at hl 2 rfl) ?_
        refine lv_aload_n hx hb dX7_cubesAt_13 rfl (lv_at hl 0 rfl) ?_
        refine gM_X7_levelOf X hp tw_6_4 dX7_cubesAt_14 ?_
        refine lv_iload_n hx hb dX7_cubesAt_17 rfl (lv_at hl 3 rfl) ?_
        obtain ⟨g2, h⟩ := gd_s h
        refine lM_X7_levelOf X hp g2 dX7_cubesAt_18 ?_
        refine lv_iload_n hx hb dX7_cubesAt_19 rfl (lv_at hl 1 rfl) ?_
        refine lv_icmp_ne (tgt := 27) hx hb dX7_cubesAt_20 (by decide) (fun c3 => ?_) (fun c3 => ?_)
        · have h := it_n h c3
          refine lv_iconst (v := 0) hx hb dX7_cubesAt_27 (by decide) ?_
          refine lv_iadd hx hb dX7_cubesAt_28 ?_
          refine lv_topi (fun x4 ex4 => ?_)
          have h := nm_s h x4 ex4
          refine lv_istore_n (lv' := [(2, .int x4), (0, .ref (a 0)), (1, .int v1), (3, .int v3)]) hx hb dX7_cubesAt_29 rfl hl (by decide) rfl (fun ls hl => ?_)
          obtain ⟨x5, ex5⟩ : ∃ z : Int32, z = v3 + (1 : Int32) := ⟨_, rfl⟩
          have h := nm_s h x5 ex5
          refine lv_iinc (v := x5) (lv' := [(3, .int x5), (2, .int x4), (0, .ref (a 0)), (1, .int v1)]) hx hb dX7_cubesAt_30 hl (k := 3) rfl (by rw [ex5]; rfl) (by decide) rfl (fun ls hl => ?_)
          refine lv_goto (tgt := 4) hx hb dX7_cubesAt_33 (by decide) ?_
          exact hk4 x4 x5 _ _ _ hp (lv_sub hl [2, 3, 1, 0] rfl) h
        · have h := it_p h c3
          refine lv_iconst (v := 1) hx hb dX7_cubesAt_23 (by decide) ?_
          refine lv_goto (tgt := 28) hx hb dX7_cubesAt_24 (by decide) ?_
          refine lv_iadd hx hb dX7_cubesAt_28 ?_
          refine lv_topi (fun x6 ex6 => ?_)
          have h := nm_s h x6 ex6
          refine lv_istore_n (lv' := [(2, .int x6), (0, .ref (a 0)), (1, .int v1), (3, .int v3)]) hx hb dX7_cubesAt_29 rfl hl (by decide) rfl (fun ls hl => ?_)
          obtain ⟨x7, ex7⟩ : ∃ z : Int32, z = v3 + (1 : Int32) := ⟨_, rfl⟩
          have h := nm_s h x7 ex7
          refine lv_iinc (v := x7) (lv' := [(3, .int x7), (2, .int x6), (0, .ref (a 0)), (1, .int v1)]) hx hb dX7_cubesAt_30 hl (k := 3) rfl (by rw [ex7]; rfl) (by decide) rfl (fun ls hl => ?_)
          refine lv_goto (tgt := 4) hx hb dX7_cubesAt_33 (by decide) ?_
          exact hk4 x6 x7 _ _ _ hp (lv_sub hl [2, 3, 1, 0] rfl) h
  have J_36 : ∀ (v2 : Int32) (H : Heap) (locs : List Loc) (ls : Array Slot), Pw D (wM a cA) A s.heap H locs σ → lv_has ls 4 [(0, .ref (a 0)), (2, .int v2)] → X7_cubesAt_36 σ v2 = some r → W p l e R s m args below meth c H locs 0 0 Q (F0 m 36 ls []) := by
    intro v2 H locs ls hp hl h
    unfold X7_cubesAt_36 at h
    refine lv_iload_n hx hb dX7_cubesAt_36 rfl (lv_at hl 1 rfl) ?_
    exact hR _ _ _ _ _ _ dX7_cubesAt_37 hp (Option.some.inj h) rfl (fun q => by cases q)
  unfold X7_cubesAt at h
  have hl := lv_sub (l' := [(0, .ref (a 0)), (1, .int v1)]) hl [0, 1] rfl
  refine lv_iconst (v := 0) hx hb dX7_cubesAt_0 (by decide) ?_
  refine lv_istore_n (lv' := [(2, .int (0 : Int32)), (0, .ref (a 0)), (1, .int v1)]) hx hb dX7_cubesAt_1 rfl hl (by decide) rfl (fun ls hl => ?_)
  refine lv_iconst (v := 0) hx hb dX7_cubesAt_2 (by decide) ?_
  refine lv_istore_n (lv' := [(3, .int (0 : Int32)), (2, .int (0 : Int32)), (0, .ref (a 0)), (1, .int v1)]) hx hb dX7_cubesAt_3 rfl hl (by decide) rfl (fun ls hl => ?_)
  exact J_4 v1 _ (fun v2 H locs ls hp hl h => J_36 v2 _ _ _ hp hl h) _ (0 : Int32) (0 : Int32) _ _ _ hp (lv_sub hl [2, 3, 1, 0] rfl) h
def X7_spreads_98 (k22 : (Int32 → St → Option (Int32 × St))) (v1 : Int32) (v2 : Int32) (u0 : Int32) (u1 : Int32) (σ : St) : Option (Int32 × St) :=
  nm (si σ 16 (u1 + u0)) (fun (σ1 : St) =>
  nm (v2 + (1 : Int32)) (fun (x2 : Int32) =>
  k22 x2 σ1))
def X7_spreads_82 (k22 : (Int32 → St → Option (Int32 × St))) (v1 : Int32) (v2 : Int32) (v3 : Int32) (u0 : Int32) (u1 : Int32) (u2 : Int32) (σ : St) : Option (Int32 × St) :=
  gd (inb u2 1024) (
  nm (sa σ 8 u2.toNatClampNeg (u1 + u0)) (fun (σ2 : St) =>
  if v3 = 0 then
    X7_spreads_98 k22 v1 v2 (0 : Int32) (σ2.1 16) σ2
  else
    X7_spreads_98 k22 v1 v2 (1 : Int32) (σ2.1 16) σ2))
def X7_spreads_65 (k22 : (Int32 → St → Option (Int32 × St))) (v1 : Int32) (v2 : Int32) (u0 : Int32) (σ : St) : Option (Int32 × St) :=
  gd (inb v2 1024) (
  if u0 = 0 then
    X7_spreads_82 k22 v1 v2 u0 (0 : Int32) (σ.2.2.1 8 v2.toNatClampNeg) v2 σ
  else
    X7_spreads_82 k22 v1 v2 u0 (1 : Int32) (σ.2.2.1 8 v2.toNatClampNeg) v2 σ)
def X7_spreads_22b (N : Nat) (k22 : (Int32 → St → Option (Int32 × St))) (k108 : (Int32 → St → Option (Int32 × St))) (v1 : Int32) (v2 : Int32) (σ : St) : Option (Int32 × St) :=
  if (σ.1 12) ≤ v2 then
    k108 v1 σ
  else
    gd (inb v2 1024) (
    if (σ.2.2.1 8 v2.toNatClampNeg) = v1 then
      bd (X7_cubeAt N σ v2) (fun t4 =>
      bd (X7_before N σ t4) (fun t5 =>
      bd (X7_frameOf N σ v1) (fun t6 =>
      if (t5 &&& t6) = (0 : Int64) then
        X7_spreads_65 k22 v1 v2 (1 : Int32) σ
      else
        X7_spreads_65 k22 v1 v2 (0 : Int32) σ)))
    else
      X7_spreads_65 k22 v1 v2 (0 : Int32) σ)
def X7_spreads_22 (N : Nat) (k108 : (Int32 → St → Option (Int32 × St))) (v1 : Int32) : Nat → Int32 → St → Option (Int32 × St)
  | 0, _, _ => none
  | n + 1, v2, σ => X7_spreads_22b N (fun v2 σ => X7_spreads_22 N k108 v1 n v2 σ) k108 v1 v2 σ
def X7_spreads_108 (N : Nat) (k12 : (Int32 → St → Option (Int32 × St))) (k116 : (Int32 → St → Option (Int32 × St))) (v1 : Int32) (σ : St) : Option (Int32 × St) :=
  bd (X7_cubesAt N σ v1) (fun t1 =>
  if t1 = 0 then
    k116 v1 σ
  else
    nm (v1 + (1 : Int32)) (fun (x3 : Int32) =>
    k12 x3 σ))
def X7_spreads_12b (N : Nat) (k12 : (Int32 → St → Option (Int32 × St))) (k116 : (Int32 → St → Option (Int32 × St))) (k129 : (St → Option (Int32 × St))) (v1 : Int32) (σ : St) : Option (Int32 × St) :=
  if (σ.1 11) ≤ v1 then
    k129 σ
  else
    X7_spreads_22 N (fun v1 σ => X7_spreads_108 N k12 k116 v1 σ) v1 N (0 : Int32) σ
def X7_spreads_12 (N : Nat) (k116 : (Int32 → St → Option (Int32 × St))) (k129 : (St → Option (Int32 × St))) : Nat → Int32 → St → Option (Int32 × St)
  | 0, _, _ => none
  | n + 1, v1, σ => X7_spreads_12b N (fun v1 σ => X7_spreads_12 N k116 k129 n v1 σ) k116 k129 v1 σ
def X7_spreads_129 (σ : St) : Option (Int32 × St) :=
  some ((0 : Int32), σ)
def X7_spreads_116 (v1 : Int32) (σ : St) : Option (Int32 × St) :=
  nm (si σ 17 v1) (fun (σ1 : St) =>
  some ((1 : Int32), σ1))
def X7_spreads (N : Nat) (σ : St) : Option (Int32 × St) :=
  nm (si σ 11 ((σ.1 11) + (1 : Int32))) (fun (σ1 : St) =>
  X7_spreads_12 N (fun v1 σ => X7_spreads_116 v1 σ) (fun σ => X7_spreads_129 σ) N (1 : Int32) σ1)
set_option maxRecDepth 20000 in
set_option maxHeartbeats 4000000 in
theorem c_X7_spreads {l : Launch} {D : va_G} {a : Nat → Nat} {cA : Nat → ClassId} {σ : St} {N : Nat} {r : Int32} {σ' : St} (h : X7_spreads N σ = some (r, σ')) : MetI l yX7_spreads cX7_spreads 4 (some .boolean) 4 D (tyW cA) (wM a cA) EM [.ref (a 0)] σ r σ' := by
  refine mkI (by decide) (adrM a cA) (Or.inr rfl) (Nat.le_of_ble_eq_true rfl) ?_
  intro p e R s m args below meth c A Q ls X hR hp hl
  obtain ⟨hx, hb, -, hown, hts, -⟩ := id X
  have J_98 : ∀ (v1 : Int32) (v2 : Int32) (u0 : Int32) (u1 : Int32) (k22 : (Int32 → St → Option (Int32 × St))) (hk22 : ∀ (v2 : Int32) (σ : St) (H : Heap) (locs : List Loc) (ls : Array Slot), Pw D (wM a cA) A s.heap H locs σ → lv_has ls 4 [(0, .ref (a 0)), (1, .int v1), (2, .int v2)] → k22 v2 σ = some (r, σ') → W p l e R s m args below meth c H locs 0 0 Q (F0 m 22 ls [])) (σ : St) (H : Heap) (locs : List Loc) (ls : Array Slot), Pw D (wM a cA) A s.heap H locs σ → lv_has ls 4 [(0, .ref (a 0)), (1, .int v1), (2, .int v2)] → X7_spreads_98 k22 v1 v2 u0 u1 σ = some (r, σ') → W p l e R s m args below meth c H locs 0 0 Q (F0 m 98 ls [.int u0, .int u1, .ref (a 0)]) := by
    intro v1 v2 u0 u1 k22 hk22 σ H locs ls hp hl h
    unfold X7_spreads_98 at h
    refine lv_iadd hx hb dX7_spreads_98 ?_
    refine pM_X7_raised X hp tw_39_17 dX7_spreads_99 (fun H locs σ1 eσ1 hp => ?_)
    have h := nm_s h σ1 eσ1
    obtain ⟨x2, ex2⟩ : ∃ z : Int32, z = v2 + (1 : Int32) := ⟨_, rfl⟩
    have h := nm_s h x2 ex2
    refine lv_iinc (v := x2) (lv' := [(2, .int x2), (0, .ref (a 0)), (1, .int v1)]) hx hb dX7_spreads_102 hl (k := 2) rfl (by rw [ex2]; rfl) (by decide) rfl (fun ls hl => ?_)
    refine lv_goto (tgt := 22) hx hb dX7_spreads_105 (by decide) ?_
    exact hk22 x2 σ1 _ _ _ hp (lv_sub hl [1, 2, 0] rfl) h
  have J_82 : ∀ (v1 : Int32) (v2 : Int32) (v3 : Int32) (u0 : Int32) (u1 : Int32) (u2 : Int32) (k22 : (Int32 → St → Option (Int32 × St))) (hk22 : ∀ (v2 : Int32) (σ : St) (H : Heap) (locs : List Loc) (ls : Array Slot), Pw D (wM a cA) A s.heap H locs σ → lv_has ls 4 [(0, .ref (a 0)), (1, .int v1), (2, .int v2)] → k22 v2 σ = some (r, σ') → W p l e R s m args below meth c H locs 0 0 Q (F0 m 22 ls [])) (σ : St) (H : Heap) (locs : List Loc) (ls : Array Slot), Pw D (wM a cA) A s.heap H locs σ → lv_has ls 4 [(0, .ref (a 0)), (1, .int v1), (2, .int v2), (3, .int v3)] → X7_spreads_82 k22 v1 v2 v3 u0 u1 u2 σ = some (r, σ') → W p l e R s m args below meth c H locs 0 0 Q (F0 m 82 ls [.int u0, .int u1, .int u2, .ref (a 12)]) := by
    intro v1 v2 v3 u0 u1 u2 k22 hk22 σ H locs ls hp hl h
    unfold X7_spreads_82 at h
    refine lv_iadd hx hb dX7_spreads_82 ?_
    obtain ⟨g1, h⟩ := gd_s h
    refine sM_X7_levelOf X hp g1 dX7_spreads_83 (fun H locs σ2 eσ2 hp => ?_)
    have h := nm_s h σ2 eσ2
    refine lv_aload_n hx hb dX7_spreads_84 rfl (lv_at hl 0 rfl) ?_
    refine lv_dup hx hb dX7_spreads_85 rfl ?_
    refine gM_X7_raised X hp tw_39_17 dX7_spreads_86 ?_
    refine lv_iload_n hx hb dX7_spreads_89 rfl (lv_at hl 3 rfl) ?_
    refine lv_if_eq (tgt := 97) hx hb dX7_spreads_90 (by decide) (fun c3 => ?_) (fun c3 => ?_)
    · have h := it_p h c3
      refine lv_iconst (v := 0) hx hb dX7_spreads_97 (by decide) ?_
      exact J_98 v1 v2 (0 : Int32) (σ2.1 16) _ hk22 σ2 _ _ _ hp (lv_sub hl [0, 1, 2] rfl) h
    · have h := it_n h c3
      refine lv_iconst (v := 1) hx hb dX7_spreads_93 (by decide) ?_
      refine lv_goto (tgt := 98) hx hb dX7_spreads_94 (by decide) ?_
      exact J_98 v1 v2 (1 : Int32) (σ2.1 16) _ hk22 σ2 _ _ _ hp (lv_sub hl [0, 1, 2] rfl) h
  have J_65 : ∀ (v1 : Int32) (v2 : Int32) (u0 : Int32) (k22 : (Int32 → St → Option (Int32 × St))) (hk22 : ∀ (v2 : Int32) (σ : St) (H : Heap) (locs : List Loc) (ls : Array Slot), Pw D (wM a cA) A s.heap H locs σ → lv_has ls 4 [(0, .ref (a 0)), (1, .int v1), (2, .int v2)] → k22 v2 σ = some (r, σ') → W p l e R s m args below meth c H locs 0 0 Q (F0 m 22 ls [])) (σ : St) (H : Heap) (locs : List Loc) (ls : Array Slot), Pw D (wM a cA) A s.heap H locs σ → lv_has ls 4 [(0, .ref (a 0)), (1, .int v1), (2, .int v2)] → X7_spreads_65 k22 v1 v2 u0 σ = some (r, σ') → W p l e R s m args below meth c H locs 0 0 Q (F0 m 65 ls [.int u0]) := by
    intro v1 v2 u0 k22 hk22 σ H locs ls hp hl h
    unfold X7_spreads_65 at h
    refine lv_istore_n (lv' := [(3, .int u0), (0, .ref (a 0)), (1, .int v1), (2, .int v2)]) hx hb dX7_spreads_65 rfl hl (by decide) rfl (fun ls hl => ?_)
    refine lv_aload_n hx hb dX7_spreads_66 rfl (lv_at hl 1 rfl) ?_
    refine gM_X7_levelOf X hp tw_6_4 dX7_spreads_67 ?_
    refine lv_iload_n hx hb dX7_spreads_70 rfl (lv_at hl 3 rfl) ?_
    refine lv_dup2_11 hx hb dX7_spreads_71 rfl rfl ?_
    obtain ⟨g1, h⟩ := gd_s h
    refine lM_X7_levelOf X hp g1 dX7_spreads_72 ?_
    refine lv_iload_n hx hb dX7_spreads_73 rfl (lv_at hl 0 rfl) ?_
    refine lv_if_eq (tgt := 81) hx hb dX7_spreads_74 (by decide) (fun c2 => ?_) (fun c2 => ?_)
    · have h := it_p h c2
      refine lv_iconst (v := 0) hx hb dX7_spreads_81 (by decide) ?_
      exact J_82 v1 v2 u0 (0 : Int32) (σ.2.2.1 8 v2.toNatClampNeg) v2 _ hk22 σ _ _ _ hp (lv_sub hl [1, 2, 3, 0] rfl) h
    · have h := it_n h c2
      refine lv_iconst (v := 1) hx hb dX7_spreads_77 (by decide) ?_
      refine lv_goto (tgt := 82) hx hb dX7_spreads_78 (by decide) ?_
      exact J_82 v1 v2 u0 (1 : Int32) (σ.2.2.1 8 v2.toNatClampNeg) v2 _ hk22 σ _ _ _ hp (lv_sub hl [1, 2, 3, 0] rfl) h
  have J_22 : ∀ (v1 : Int32) (k108 : (Int32 → St → Option (Int32 × St))) (hk108 : ∀ (v1 : Int32) (σ : St) (H : Heap) (locs : List Loc) (ls : Array Slot), Pw D (wM a cA) A s.heap H locs σ → lv_has ls 4 [(0, .ref (a 0)), (1, .int v1)] → k108 v1 σ = some (r, σ') → W p l e R s m args below meth c H locs 0 0 Q (F0 m 108 ls [])) (n : Nat) (v2 : Int32) (σ : St) (H : Heap) (locs : List Loc) (ls : Array Slot), Pw D (wM a cA) A s.heap H locs σ → lv_has ls 4 [(0, .ref (a 0)), (1, .int v1), (2, .int v2)] → X7_spreads_22 N k108 v1 n v2 σ = some (r, σ') → W p l e R s m args below meth c H locs 0 0 Q (F0 m 22 ls []) := by
    intro v1 k108 hk108 n
    induction n with
    | zero => intro v2 σ H locs ls hp hl h; exact nn_s (show (none : Option (Int32 × St)) = some _ from h)
    | succ n ih =>
      intro v2 σ H locs ls hp hl h
      have h : X7_spreads_22b N (fun v2 σ => X7_spreads_22 N k108 v1 n v2 σ) k108 v1 v2 σ = some (r, σ') := h
      unfold X7_spreads_22b at h
      have hk22 := ih
      refine lv_iload_n hx hb dX7_spreads_22 rfl (lv_at hl 2 rfl) ?_
      refine lv_aload_n hx hb dX7_spreads_23 rfl (lv_at hl 0 rfl) ?_
      refine gM_X7_cubes X hp tw_39_13 dX7_spreads_24 ?_
      refine lv_icmp_ge (tgt := 108) hx hb dX7_spreads_27 (by decide) (fun c1 => ?_) (fun c1 => ?_)
      · have h := it_p h c1
        exact hk108 v1 σ _ _ _ hp (lv_sub hl [0, 1] rfl) h
      · have h := it_n h c1
        refine lv_aload_n hx hb dX7_spreads_30 rfl (lv_at hl 0 rfl) ?_
        refine gM_X7_levelOf X hp tw_6_4 dX7_spreads_31 ?_
        refine lv_iload_n hx hb dX7_spreads_34 rfl (lv_at hl 2 rfl) ?_
        obtain ⟨g2, h⟩ := gd_s h
        refine lM_X7_levelOf X hp g2 dX7_spreads_35 ?_
        refine lv_iload_n hx hb dX7_spreads_36 rfl (lv_at hl 1 rfl) ?_
        refine lv_icmp_ne (tgt := 64) hx hb dX7_spreads_37 (by decide) (fun c3 => ?_) (fun c3 => ?_)
        · have h := it_n h c3
          refine lv_iconst (v := 0) hx hb dX7_spreads_64 (by decide) ?_
          exact J_65 v1 v2 (0 : Int32) _ hk22 σ _ _ _ hp (lv_sub hl [0, 1, 2] rfl) h
        · have h := it_p h c3
          refine lv_aload_n hx hb dX7_spreads_40 rfl (lv_at hl 0 rfl) ?_
          refine lv_aload_n hx hb dX7_spreads_41 rfl (lv_at hl 0 rfl) ?_
          refine lv_iload_n hx hb dX7_spreads_42 rfl (lv_at hl 2 rfl) ?_
          obtain ⟨t4, ht4, h⟩ := bd_s h
          refine cl_Vl X eokM (c_X7_cubeAt ht4) tw_40_7 mw_X7_cubeAt (by decide) hp 0 rfl rfl rfl hl.1 rfl (Nat.le_of_ble_eq_true rfl) dX7_spreads_43 (fun H locs hp => ?_)
          obtain ⟨t5, ht5, h⟩ := bd_s h
          refine cl_Vl X eokM (c_X7_before ht5) tw_27_2 mw_X7_before (by decide) hp 0 rfl rfl rfl hl.1 rfl (Nat.le_of_ble_eq_true rfl) dX7_spreads_46 (fun H locs hp => ?_)
          refine lv_aload_n hx hb dX7_spreads_49 rfl (lv_at hl 0 rfl) ?_
          refine lv_iload_n hx hb dX7_spreads_50 rfl (lv_at hl 1 rfl) ?_
          obtain ⟨t6, ht6, h⟩ := bd_s h
          refine cl_Vl X eokM (c_X7_frameOf ht6) tw_40_3 mw_X7_frameOf (by decide) hp 0 rfl rfl rfl hl.1 rfl (Nat.le_of_ble_eq_true rfl) dX7_spreads_51 (fun H locs hp => ?_)
          refine lv_land hx hb dX7_spreads_54 ?_
          refine lv_lconst (v := 0) hx hb dX7_spreads_55 (by decide) ?_
          refine W.lcmp hx hb dX7_spreads_56 ?_
          refine lv_if_ne (tgt := 64) hx hb dX7_spreads_57 (by decide) (fun c7 => ?_) (fun c7 => ?_)
          · have h := it_n h (fun q => c7 (lcmp0.mpr q))
            refine lv_iconst (v := 0) hx hb dX7_spreads_64 (by decide) ?_
            exact J_65 v1 v2 (0 : Int32) _ hk22 σ _ _ _ hp (lv_sub hl [0, 1, 2] rfl) h
          · have h := it_p h (lcmp0.mp c7)
            refine lv_iconst (v := 1) hx hb dX7_spreads_60 (by decide) ?_
            refine lv_goto (tgt := 65) hx hb dX7_spreads_61 (by decide) ?_
            exact J_65 v1 v2 (1 : Int32) _ hk22 σ _ _ _ hp (lv_sub hl [0, 1, 2] rfl) h
  have J_108 : ∀ (v1 : Int32) (k12 : (Int32 → St → Option (Int32 × St))) (hk12 : ∀ (v1 : Int32) (σ : St) (H : Heap) (locs : List Loc) (ls : Array Slot), Pw D (wM a cA) A s.heap H locs σ → lv_has ls 4 [(0, .ref (a 0)), (1, .int v1)] → k12 v1 σ = some (r, σ') → W p l e R s m args below meth c H locs 0 0 Q (F0 m 12 ls [])) (k116 : (Int32 → St → Option (Int32 × St))) (hk116 : ∀ (v1 : Int32) (σ : St) (H : Heap) (locs : List Loc) (ls : Array Slot), Pw D (wM a cA) A s.heap H locs σ → lv_has ls 4 [(0, .ref (a 0)), (1, .int v1)] → k116 v1 σ = some (r, σ') → W p l e R s m args below meth c H locs 0 0 Q (F0 m 116 ls [])) (σ : St) (H : Heap) (locs : List Loc) (ls : Array Slot), Pw D (wM a cA) A s.heap H locs σ → lv_has ls 4 [(0, .ref (a 0)), (1, .int v1)] → X7_spreads_108 N k12 k116 v1 σ = some (r, σ') → W p l e R s m args below meth c H locs 0 0 Q (F0 m 108 ls []) := by
    intro v1 k12 hk12 k116 hk116 σ H locs ls hp hl h
    unfold X7_spreads_108 at h
    refine lv_aload_n hx hb dX7_spreads_108 rfl (lv_at hl 0 rfl) ?_
    refine lv_iload_n hx hb dX7_spreads_109 rfl (lv_at hl 1 rfl) ?_
    obtain ⟨t1, ht1, h⟩ := bd_s h
    refine cl_Vi X eokM (c_X7_cubesAt ht1) tw_41_23 mw_X7_cubesAt (by decide) hp 0 rfl rfl rfl hl.1 rfl (Nat.le_of_ble_eq_true rfl) dX7_spreads_110 (fun H locs hp => ?_)
    refine lv_if_ne (tgt := 123) hx hb dX7_spreads_113 (by decide) (fun c2 => ?_) (fun c2 => ?_)
    · have h := it_n h c2
      obtain ⟨x3, ex3⟩ : ∃ z : Int32, z = v1 + (1 : Int32) := ⟨_, rfl⟩
      have h := nm_s h x3 ex3
      refine lv_iinc (v := x3) (lv' := [(1, .int x3), (0, .ref (a 0))]) hx hb dX7_spreads_123 hl (k := 1) rfl (by rw [ex3]; rfl) (by decide) rfl (fun ls hl => ?_)
      refine lv_goto (tgt := 12) hx hb dX7_spreads_126 (by decide) ?_
      exact hk12 x3 σ _ _ _ hp (lv_sub hl [1, 0] rfl) h
    · have h := it_p h c2
      exact hk116 v1 σ _ _ _ hp (lv_sub hl [0, 1] rfl) h
  have J_12 : ∀  (k116 : (Int32 → St → Option (Int32 × St))) (hk116 : ∀ (v1 : Int32) (σ : St) (H : Heap) (locs : List Loc) (ls : Array Slot), Pw D (wM a cA) A s.heap H locs σ → lv_has ls 4 [(0, .ref (a 0)), (1, .int v1)] → k116 v1 σ = some (r, σ') → W p l e R s m args below meth c H locs 0 0 Q (F0 m 116 ls [])) (k129 : (St → Option (Int32 × St))) (hk129 : ∀ (σ : St) (H : Heap) (locs : List Loc) (ls : Array Slot), Pw D (wM a cA) A s.heap H locs σ → lv_has ls 4 [(0, .ref (a 0))] → k129 σ = some (r, σ') → W p l e R s m args below meth c H locs 0 0 Q (F0 m 129 ls [])) (n : Nat) (v1 : Int32) (σ : St) (H : Heap) (locs : List Loc) (ls : Array Slot), Pw D (wM a cA) A s.heap H locs σ → lv_has ls 4 [(0, .ref (a 0)), (1, .int v1)] → X7_spreads_12 N k116 k129 n v1 σ = some (r, σ') → W p l e R s m args below meth c H locs 0 0 Q (F0 m 12 ls []) := by
    intro k116 hk116 k129 hk129 n
    induction n with
    | zero => intro v1 σ H locs ls hp hl h; exact nn_s (show (none : Option (Int32 × St)) = some _ from h)
    | succ n ih =>
      intro v1 σ H locs ls hp hl h
      have h : X7_spreads_12b N (fun v1 σ => X7_spreads_12 N k116 k129 n v1 σ) k116 k129 v1 σ = some (r, σ') := h
      unfold X7_spreads_12b at h
      have hk12 := ih
      refine lv_iload_n hx hb dX7_spreads_12 rfl (lv_at hl 1 rfl) ?_
      refine lv_aload_n hx hb dX7_spreads_13 rfl (lv_at hl 0 rfl) ?_
      refine gM_X7_k X hp tw_39_12 dX7_spreads_14 ?_
      refine lv_icmp_ge (tgt := 129) hx hb dX7_spreads_17 (by decide) (fun c1 => ?_) (fun c1 => ?_)
      · have h := it_p h c1
        exact hk129 σ _ _ _ hp (lv_sub hl [0] rfl) h
      · have h := it_n h c1
        refine lv_iconst (v := 0) hx hb dX7_spreads_20 (by decide) ?_
        refine lv_istore_n (lv' := [(2, .int (0 : Int32)), (0, .ref (a 0)), (1, .int v1)]) hx hb dX7_spreads_21 rfl hl (by decide) rfl (fun ls hl => ?_)
        exact J_22 v1 _ (fun v1 σ H locs ls hp hl h => J_108 v1 _ hk12 _ hk116 σ _ _ _ hp hl h) _ (0 : Int32) σ _ _ _ hp (lv_sub hl [1, 2, 0] rfl) h
  have J_129 : ∀  (σ : St) (H : Heap) (locs : List Loc) (ls : Array Slot), Pw D (wM a cA) A s.heap H locs σ → lv_has ls 4 [(0, .ref (a 0))] → X7_spreads_129 σ = some (r, σ') → W p l e R s m args below meth c H locs 0 0 Q (F0 m 129 ls []) := by
    intro σ H locs ls hp hl h
    unfold X7_spreads_129 at h
    refine lv_iconst (v := 0) hx hb dX7_spreads_129 (by decide) ?_
    exact hR _ _ _ _ _ _ dX7_spreads_130 hp (congrArg Prod.fst (Option.some.inj h)) (congrArg Prod.snd (Option.some.inj h)) (fun _ => Or.inl rfl)
  have J_116 : ∀ (v1 : Int32) (σ : St) (H : Heap) (locs : List Loc) (ls : Array Slot), Pw D (wM a cA) A s.heap H locs σ → lv_has ls 4 [(0, .ref (a 0)), (1, .int v1)] → X7_spreads_116 v1 σ = some (r, σ') → W p l e R s m args below meth c H locs 0 0 Q (F0 m 116 ls []) := by
    intro v1 σ H locs ls hp hl h
    unfold X7_spreads_116 at h
    refine lv_aload_n hx hb dX7_spreads_116 rfl (lv_at hl 0 rfl) ?_
    refine lv_iload_n hx hb dX7_spreads_117 rfl (lv_at hl 1 rfl) ?_
    refine pM_X7_ended X hp tw_39_18 dX7_spreads_118 (fun H locs σ1 eσ1 hp => ?_)
    have h := nm_s h σ1 eσ1
    refine lv_iconst (v := 1) hx hb dX7_spreads_121 (by decide) ?_
    exact hR _ _ _ _ _ _ dX7_spreads_122 hp (congrArg Prod.fst (Option.some.inj h)) (congrArg Prod.snd (Option.some.inj h)) (fun _ => Or.inr rfl)
  unfold X7_spreads at h
  have hl := lv_sub (l' := [(0, .ref (a 0))]) hl [0] rfl
  refine lv_aload_n hx hb dX7_spreads_0 rfl (lv_at hl 0 rfl) ?_
  refine lv_dup hx hb dX7_spreads_1 rfl ?_
  refine gM_X7_k X hp tw_39_12 dX7_spreads_2 ?_
  refine lv_iconst (v := 1) hx hb dX7_spreads_5 (by decide) ?_
  refine lv_iadd hx hb dX7_spreads_6 ?_
  refine pM_X7_k X hp tw_39_12 dX7_spreads_7 (fun H locs σ1 eσ1 hp => ?_)
  have h := nm_s h σ1 eσ1
  refine lv_iconst (v := 1) hx hb dX7_spreads_10 (by decide) ?_
  refine lv_istore_n (lv' := [(1, .int (1 : Int32)), (0, .ref (a 0))]) hx hb dX7_spreads_11 rfl hl (by decide) rfl (fun ls hl => ?_)
  exact J_12 _ (fun v1 σ H locs ls hp hl h => J_116 v1 σ _ _ _ hp hl h) _ (fun σ H locs ls hp hl h => J_129 σ _ _ _ hp hl h) _ (1 : Int32) σ1 _ _ _ hp (lv_sub hl [1, 0] rfl) h
def X7_carryOut_21 (N : Nat) (k2 : (Int32 → St → Option (St))) (v2 : Int32) (u0 : Int32) (σ : St) : Option (St) :=
  nm (si σ 10 u0) (fun (σ1 : St) =>
  if v2 = 0 then
    bd (X7_spreads N σ1) (fun t3 =>
    if t3.1 = 0 then
      k2 (0 : Int32) t3.2
    else
      k2 (1 : Int32) t3.2)
  else
    k2 (1 : Int32) σ1)
def X7_carryOut_2b (N : Nat) (k2 : (Int32 → St → Option (St))) (k44 : (St → Option (St))) (v1 : Int32) (σ : St) : Option (St) :=
  if v1 = 0 then
    bd (X7_blocks N σ) (fun t2 =>
    if t2.1 = 0 then
      X7_carryOut_21 N k2 t2.1 (0 : Int32) t2.2
    else
      X7_carryOut_21 N k2 t2.1 (1 : Int32) t2.2)
  else
    k44 σ
def X7_carryOut_2 (N : Nat) (k44 : (St → Option (St))) : Nat → Int32 → St → Option (St)
  | 0, _, _ => none
  | n + 1, v1, σ => X7_carryOut_2b N (fun v1 σ => X7_carryOut_2 N k44 n v1 σ) k44 v1 σ
def X7_carryOut_44 (σ : St) : Option (St) :=
  some σ
def X7_carryOut (N : Nat) (σ : St) : Option (St) :=
  X7_carryOut_2 N (fun σ => X7_carryOut_44 σ) N (0 : Int32) σ
set_option maxRecDepth 20000 in
set_option maxHeartbeats 4000000 in
theorem c_X7_carryOut {l : Launch} {D : va_G} {a : Nat → Nat} {cA : Nat → ClassId} {σ : St} {N : Nat} {σ' : St} (h : X7_carryOut N σ = some σ') : MetV l yX7_carryOut cX7_carryOut 3 none 9 D (tyW cA) (wM a cA) EM [.ref (a 0)] σ σ' := by
  refine mkV (by decide) (adrM a cA) rfl (Nat.le_of_ble_eq_true rfl) ?_
  intro p e R s m args below meth c A Q ls X hR hp hl
  obtain ⟨hx, hb, -, hown, hts, -⟩ := id X
  have J_21 : ∀ (v2 : Int32) (u0 : Int32) (k2 : (Int32 → St → Option (St))) (hk2 : ∀ (v1 : Int32) (σ : St) (H : Heap) (locs : List Loc) (ls : Array Slot), Pw D (wM a cA) A s.heap H locs σ → lv_has ls 3 [(0, .ref (a 0)), (1, .int v1)] → k2 v1 σ = some σ' → W p l e R s m args below meth c H locs 0 0 Q (F0 m 2 ls [])) (σ : St) (H : Heap) (locs : List Loc) (ls : Array Slot), Pw D (wM a cA) A s.heap H locs σ → lv_has ls 3 [(0, .ref (a 0)), (2, .int v2)] → X7_carryOut_21 N k2 v2 u0 σ = some σ' → W p l e R s m args below meth c H locs 0 0 Q (F0 m 21 ls [.int u0, .ref (a 0)]) := by
    intro v2 u0 k2 hk2 σ H locs ls hp hl h
    unfold X7_carryOut_21 at h
    refine pM_X7_verdict X hp tw_39_11 dX7_carryOut_21 (fun H locs σ1 eσ1 hp => ?_)
    have h := nm_s h σ1 eσ1
    refine lv_iload_n hx hb dX7_carryOut_24 rfl (lv_at hl 1 rfl) ?_
    refine lv_if_ne (tgt := 35) hx hb dX7_carryOut_25 (by decide) (fun c2 => ?_) (fun c2 => ?_)
    · have h := it_n h c2
      refine lv_iconst (v := 1) hx hb dX7_carryOut_35 (by decide) ?_
      refine lv_goto (tgt := 40) hx hb dX7_carryOut_36 (by decide) ?_
      refine lv_istore_n (lv' := [(1, .int (1 : Int32)), (0, .ref (a 0)), (2, .int v2)]) hx hb dX7_carryOut_40 rfl hl (by decide) rfl (fun ls hl => ?_)
      refine lv_goto (tgt := 2) hx hb dX7_carryOut_41 (by decide) ?_
      exact hk2 (1 : Int32) σ1 _ _ _ hp (lv_sub hl [1, 0] rfl) h
    · have h := it_p h c2
      refine lv_aload_n hx hb dX7_carryOut_28 rfl (lv_at hl 0 rfl) ?_
      obtain ⟨t3, ht3, h⟩ := bd_s h
      refine cl_Vi X eokM (c_X7_spreads ht3) tw_41_19 mw_X7_spreads (by decide) hp 0 rfl rfl rfl hl.1 rfl (Nat.le_of_ble_eq_true rfl) dX7_carryOut_29 (fun H locs hp => ?_)
      refine lv_if_eq (tgt := 39) hx hb dX7_carryOut_32 (by decide) (fun c4 => ?_) (fun c4 => ?_)
      · have h := it_p h c4
        refine lv_iconst (v := 0) hx hb dX7_carryOut_39 (by decide) ?_
        refine lv_istore_n (lv' := [(1, .int (0 : Int32)), (0, .ref (a 0)), (2, .int v2)]) hx hb dX7_carryOut_40 rfl hl (by decide) rfl (fun ls hl => ?_)
        refine lv_goto (tgt := 2) hx hb dX7_carryOut_41 (by decide) ?_
        exact hk2 (0 : Int32) t3.2 _ _ _ hp (lv_sub hl [1, 0] rfl) h
      · have h := it_n h c4
        refine lv_iconst (v := 1) hx hb dX7_carryOut_35 (by decide) ?_
        refine lv_goto (tgt := 40) hx hb dX7_carryOut_36 (by decide) ?_
        refine lv_istore_n (lv' := [(1, .int (1 : Int32)), (0, .ref (a 0)), (2, .int v2)]) hx hb dX7_carryOut_40 rfl hl (by decide) rfl (fun ls hl => ?_)
        refine lv_goto (tgt := 2) hx hb dX7_carryOut_41 (by decide) ?_
        exact hk2 (1 : Int32) t3.2 _ _ _ hp (lv_sub hl [1, 0] rfl) h
  have J_2 : ∀  (k44 : (St → Option (St))) (hk44 : ∀ (σ : St) (H : Heap) (locs : List Loc) (ls : Array Slot), Pw D (wM a cA) A s.heap H locs σ → lv_has ls 3 [(0, .ref (a 0))] → k44 σ = some σ' → W p l e R s m args below meth c H locs 0 0 Q (F0 m 44 ls [])) (n : Nat) (v1 : Int32) (σ : St) (H : Heap) (locs : List Loc) (ls : Array Slot), Pw D (wM a cA) A s.heap H locs σ → lv_has ls 3 [(0, .ref (a 0)), (1, .int v1)] → X7_carryOut_2 N k44 n v1 σ = some σ' → W p l e R s m args below meth c H locs 0 0 Q (F0 m 2 ls []) := by
    intro k44 hk44 n
    induction n with
    | zero => intro v1 σ H locs ls hp hl h; exact nn_s (show (none : Option (St)) = some _ from h)
    | succ n ih =>
      intro v1 σ H locs ls hp hl h
      have h : X7_carryOut_2b N (fun v1 σ => X7_carryOut_2 N k44 n v1 σ) k44 v1 σ = some σ' := h
      unfold X7_carryOut_2b at h
      have hk2 := ih
      refine lv_iload_n hx hb dX7_carryOut_2 rfl (lv_at hl 1 rfl) ?_
      refine lv_if_ne (tgt := 44) hx hb dX7_carryOut_3 (by decide) (fun c1 => ?_) (fun c1 => ?_)
      · have h := it_n h c1
        exact hk44 σ _ _ _ hp (lv_sub hl [0] rfl) h
      · have h := it_p h c1
        refine lv_aload_n hx hb dX7_carryOut_6 rfl (lv_at hl 0 rfl) ?_
        obtain ⟨t2, ht2, h⟩ := bd_s h
        refine cl_Vi X eokM (c_X7_blocks ht2) tw_39_23 mw_X7_blocks (by decide) hp 0 rfl rfl rfl hl.1 rfl (Nat.le_of_ble_eq_true rfl) dX7_carryOut_7 (fun H locs hp => ?_)
        refine lv_istore_n (lv' := [(2, .int t2.1), (0, .ref (a 0)), (1, .int v1)]) hx hb dX7_carryOut_10 rfl hl (by decide) rfl (fun ls hl => ?_)
        refine lv_aload_n hx hb dX7_carryOut_11 rfl (lv_at hl 1 rfl) ?_
        refine lv_iload_n hx hb dX7_carryOut_12 rfl (lv_at hl 0 rfl) ?_
        refine lv_if_eq (tgt := 20) hx hb dX7_carryOut_13 (by decide) (fun c3 => ?_) (fun c3 => ?_)
        · have h := it_p h c3
          refine lv_iconst (v := 0) hx hb dX7_carryOut_20 (by decide) ?_
          exact J_21 t2.1 (0 : Int32) _ hk2 t2.2 _ _ _ hp (lv_sub hl [1, 0] rfl) h
        · have h := it_n h c3
          refine lv_iconst (v := 1) hx hb dX7_carryOut_16 (by decide) ?_
          refine lv_goto (tgt := 21) hx hb dX7_carryOut_17 (by decide) ?_
          exact J_21 t2.1 (1 : Int32) _ hk2 t2.2 _ _ _ hp (lv_sub hl [1, 0] rfl) h
  have J_44 : ∀  (σ : St) (H : Heap) (locs : List Loc) (ls : Array Slot), Pw D (wM a cA) A s.heap H locs σ → lv_has ls 3 [(0, .ref (a 0))] → X7_carryOut_44 σ = some σ' → W p l e R s m args below meth c H locs 0 0 Q (F0 m 44 ls []) := by
    intro σ H locs ls hp hl h
    unfold X7_carryOut_44 at h
    exact hR _ _ _ _ _ dX7_carryOut_44 hp (Option.some.inj h)
  unfold X7_carryOut at h
  have hl := lv_sub (l' := [(0, .ref (a 0))]) hl [0] rfl
  refine lv_iconst (v := 0) hx hb dX7_carryOut_0 (by decide) ?_
  refine lv_istore_n (lv' := [(1, .int (0 : Int32)), (0, .ref (a 0))]) hx hb dX7_carryOut_1 rfl hl (by decide) rfl (fun ls hl => ?_)
  exact J_2 _ (fun σ H locs ls hp hl h => J_44 σ _ _ _ hp hl h) _ (0 : Int32) σ _ _ _ hp (lv_sub hl [1, 0] rfl) h
def X7_prove_52b (k52 : (Int32 → St → Option (Int32 × St))) (k72 : (St → Option (Int32 × St))) (v1 : Int32) (σ : St) : Option (Int32 × St) :=
  if (128 : Int32) ≤ v1 then
    k72 σ
  else
    gd (inb v1 128) (
    nm (sb σ 3 v1.toNatClampNeg (0 : Int64)) (fun (σ3 : St) =>
    nm (v1 + (1 : Int32)) (fun (x4 : Int32) =>
    k52 x4 σ3)))
def X7_prove_52 (k72 : (St → Option (Int32 × St))) : Nat → Int32 → St → Option (Int32 × St)
  | 0, _, _ => none
  | n + 1, v1, σ => X7_prove_52b (fun v1 σ => X7_prove_52 k72 n v1 σ) k72 v1 σ
def X7_prove_72 (N : Nat) (σ : St) : Option (Int32 × St) :=
  bd (X7_bad σ) (fun t1 =>
  if ((σ.2.1 0) &&& t1) = (0 : Int64) then
    nm (si σ 11 (1 : Int32)) (fun (σ3 : St) =>
    bd (X7_carryOut N σ3) (fun t4 =>
    some ((t4.1 10), t4)))
  else
    some ((σ.1 10), σ))
def X7_prove (N : Nat) (σ : St) : Option (Int32 × St) :=
  nm (si σ 0 (0 : Int32)) (fun (σ1 : St) =>
  nm (si σ1 9 (1 : Int32)) (fun (σ2 : St) =>
  nm (si σ2 10 (1 : Int32)) (fun (σ3 : St) =>
  nm (si σ3 11 (0 : Int32)) (fun (σ4 : St) =>
  nm (si σ4 12 (0 : Int32)) (fun (σ5 : St) =>
  nm (si σ5 13 (0 : Int32)) (fun (σ6 : St) =>
  nm (si σ6 14 (0 : Int32)) (fun (σ7 : St) =>
  nm (si σ7 15 (0 : Int32)) (fun (σ8 : St) =>
  nm (si σ8 16 (0 : Int32)) (fun (σ9 : St) =>
  nm (si σ9 17 (0 : Int32)) (fun (σ10 : St) =>
  X7_prove_52 (fun σ => X7_prove_72 N σ) N (0 : Int32) σ10))))))))))
set_option maxRecDepth 20000 in
set_option maxHeartbeats 4000000 in
theorem c_X7_prove {l : Launch} {D : va_G} {a : Nat → Nat} {cA : Nat → ClassId} {σ : St} {N : Nat} {r : Int32} {σ' : St} (h : X7_prove N σ = some (r, σ')) : MetI l yX7_prove cX7_prove 2 (some .int) 10 D (tyW cA) (wM a cA) EM [.ref (a 0)] σ r σ' := by
  refine mkI (by decide) (adrM a cA) (Or.inl rfl) (Nat.le_of_ble_eq_true rfl) ?_
  intro p e R s m args below meth c A Q ls X hR hp hl
  obtain ⟨hx, hb, -, hown, hts, -⟩ := id X
  have J_52 : ∀  (k72 : (St → Option (Int32 × St))) (hk72 : ∀ (σ : St) (H : Heap) (locs : List Loc) (ls : Array Slot), Pw D (wM a cA) A s.heap H locs σ → lv_has ls 2 [(0, .ref (a 0))] → k72 σ = some (r, σ') → W p l e R s m args below meth c H locs 0 0 Q (F0 m 72 ls [])) (n : Nat) (v1 : Int32) (σ : St) (H : Heap) (locs : List Loc) (ls : Array Slot), Pw D (wM a cA) A s.heap H locs σ → lv_has ls 2 [(0, .ref (a 0)), (1, .int v1)] → X7_prove_52 k72 n v1 σ = some (r, σ') → W p l e R s m args below meth c H locs 0 0 Q (F0 m 52 ls []) := by
    intro k72 hk72 n
    induction n with
    | zero => intro v1 σ H locs ls hp hl h; exact nn_s (show (none : Option (Int32 × St)) = some _ from h)
    | succ n ih =>
      intro v1 σ H locs ls hp hl h
      have h : X7_prove_52b (fun v1 σ => X7_prove_52 k72 n v1 σ) k72 v1 σ = some (r, σ') := h
      unfold X7_prove_52b at h
      have hk52 := ih
      refine lv_iload_n hx hb dX7_prove_52 rfl (lv_at hl 1 rfl) ?_
      refine lv_sipush (v := 128) hx hb dX7_prove_53 (by decide) ?_
      refine lv_icmp_ge (tgt := 72) hx hb dX7_prove_56 (by decide) (fun c1 => ?_) (fun c1 => ?_)
      · have h := it_p h c1
        exact hk72 σ _ _ _ hp (lv_sub hl [0] rfl) h
      · have h := it_n h c1
        refine lv_aload_n hx hb dX7_prove_59 rfl (lv_at hl 0 rfl) ?_
        refine gM_X7_obliged X hp tw_6_5 dX7_prove_60 ?_
        refine lv_iload_n hx hb dX7_prove_63 rfl (lv_at hl 1 rfl) ?_
        refine lv_lconst (v := 0) hx hb dX7_prove_64 (by decide) ?_
        obtain ⟨g2, h⟩ := gd_s h
        refine sM_X7_obliged X hp g2 dX7_prove_65 (fun H locs σ3 eσ3 hp => ?_)
        have h := nm_s h σ3 eσ3
        obtain ⟨x4, ex4⟩ : ∃ z : Int32, z = v1 + (1 : Int32) := ⟨_, rfl⟩
        have h := nm_s h x4 ex4
        refine lv_iinc (v := x4) (lv' := [(1, .int x4), (0, .ref (a 0))]) hx hb dX7_prove_66 hl (k := 1) rfl (by rw [ex4]; rfl) (by decide) rfl (fun ls hl => ?_)
        refine lv_goto (tgt := 52) hx hb dX7_prove_69 (by decide) ?_
        exact hk52 x4 σ3 _ _ _ hp (lv_sub hl [1, 0] rfl) h
  have J_72 : ∀  (σ : St) (H : Heap) (locs : List Loc) (ls : Array Slot), Pw D (wM a cA) A s.heap H locs σ → lv_has ls 2 [(0, .ref (a 0))] → X7_prove_72 N σ = some (r, σ') → W p l e R s m args below meth c H locs 0 0 Q (F0 m 72 ls []) := by
    intro σ H locs ls hp hl h
    unfold X7_prove_72 at h
    refine lv_aload_n hx hb dX7_prove_72 rfl (lv_at hl 0 rfl) ?_
    refine gM_X7_init X hp tw_6_17 dX7_prove_73 ?_
    refine lv_aload_n hx hb dX7_prove_76 rfl (lv_at hl 0 rfl) ?_
    obtain ⟨t1, ht1, h⟩ := bd_s h
    refine cl_Vl X eokM (c_X7_bad ht1) tw_26_18 mw_X7_bad (by decide) hp 0 rfl rfl rfl hl.1 rfl (Nat.le_of_ble_eq_true rfl) dX7_prove_77 (fun H locs hp => ?_)
    refine lv_land hx hb dX7_prove_80 ?_
    refine lv_lconst (v := 0) hx hb dX7_prove_81 (by decide) ?_
    refine W.lcmp hx hb dX7_prove_82 ?_
    refine lv_if_ne (tgt := 95) hx hb dX7_prove_83 (by decide) (fun c2 => ?_) (fun c2 => ?_)
    · have h := it_n h (fun q => c2 (lcmp0.mpr q))
      refine lv_aload_n hx hb dX7_prove_95 rfl (lv_at hl 0 rfl) ?_
      refine gM_X7_verdict X hp tw_39_11 dX7_prove_96 ?_
      exact hR _ _ _ _ _ _ dX7_prove_99 hp (congrArg Prod.fst (Option.some.inj h)) (congrArg Prod.snd (Option.some.inj h)) (fun q => by cases q)
    · have h := it_p h (lcmp0.mp c2)
      refine lv_aload_n hx hb dX7_prove_86 rfl (lv_at hl 0 rfl) ?_
      refine lv_iconst (v := 1) hx hb dX7_prove_87 (by decide) ?_
      refine pM_X7_k X hp tw_39_12 dX7_prove_88 (fun H locs σ3 eσ3 hp => ?_)
      have h := nm_s h σ3 eσ3
      refine lv_aload_n hx hb dX7_prove_91 rfl (lv_at hl 0 rfl) ?_
      obtain ⟨t4, ht4, h⟩ := bd_s h
      refine cl_Vv X eokM (c_X7_carryOut ht4) tw_39_19 mw_X7_carryOut (by decide) hp 0 rfl rfl rfl hl.1 rfl (Nat.le_of_ble_eq_true rfl) dX7_prove_92 (fun H locs hp => ?_)
      refine lv_aload_n hx hb dX7_prove_95 rfl (lv_at hl 0 rfl) ?_
      refine gM_X7_verdict X hp tw_39_11 dX7_prove_96 ?_
      exact hR _ _ _ _ _ _ dX7_prove_99 hp (congrArg Prod.fst (Option.some.inj h)) (congrArg Prod.snd (Option.some.inj h)) (fun q => by cases q)
  unfold X7_prove at h
  have hl := lv_sub (l' := [(0, .ref (a 0))]) hl [0] rfl
  refine lv_aload_n hx hb dX7_prove_0 rfl (lv_at hl 0 rfl) ?_
  refine lv_iconst (v := 0) hx hb dX7_prove_1 (by decide) ?_
  refine pM_X7_thrown X hp tw_8_9 dX7_prove_2 (fun H locs σ1 eσ1 hp => ?_)
  have h := nm_s h σ1 eσ1
  refine lv_aload_n hx hb dX7_prove_5 rfl (lv_at hl 0 rfl) ?_
  refine lv_iconst (v := 1) hx hb dX7_prove_6 (by decide) ?_
  refine pM_X7_isProof X hp tw_6_20 (Or.inr rfl) dX7_prove_7 (fun H locs σ2 eσ2 hp => ?_)
  have h := nm_s h σ2 eσ2
  refine lv_aload_n hx hb dX7_prove_10 rfl (lv_at hl 0 rfl) ?_
  refine lv_iconst (v := 1) hx hb dX7_prove_11 (by decide) ?_
  refine pM_X7_verdict X hp tw_39_11 dX7_prove_12 (fun H locs σ3 eσ3 hp => ?_)
  have h := nm_s h σ3 eσ3
  refine lv_aload_n hx hb dX7_prove_15 rfl (lv_at hl 0 rfl) ?_
  refine lv_iconst (v := 0) hx hb dX7_prove_16 (by decide) ?_
  refine pM_X7_k X hp tw_39_12 dX7_prove_17 (fun H locs σ4 eσ4 hp => ?_)
  have h := nm_s h σ4 eσ4
  refine lv_aload_n hx hb dX7_prove_20 rfl (lv_at hl 0 rfl) ?_
  refine lv_iconst (v := 0) hx hb dX7_prove_21 (by decide) ?_
  refine pM_X7_cubes X hp tw_39_13 dX7_prove_22 (fun H locs σ5 eσ5 hp => ?_)
  have h := nm_s h σ5 eσ5
  refine lv_aload_n hx hb dX7_prove_25 rfl (lv_at hl 0 rfl) ?_
  refine lv_iconst (v := 0) hx hb dX7_prove_26 (by decide) ?_
  refine pM_X7_handled X hp tw_39_14 dX7_prove_27 (fun H locs σ6 eσ6 hp => ?_)
  have h := nm_s h σ6 eσ6
  refine lv_aload_n hx hb dX7_prove_30 rfl (lv_at hl 0 rfl) ?_
  refine lv_iconst (v := 0) hx hb dX7_prove_31 (by decide) ?_
  refine pM_X7_added X hp tw_39_15 dX7_prove_32 (fun H locs σ7 eσ7 hp => ?_)
  have h := nm_s h σ7 eσ7
  refine lv_aload_n hx hb dX7_prove_35 rfl (lv_at hl 0 rfl) ?_
  refine lv_iconst (v := 0) hx hb dX7_prove_36 (by decide) ?_
  refine pM_X7_leftOut X hp tw_39_16 dX7_prove_37 (fun H locs σ8 eσ8 hp => ?_)
  have h := nm_s h σ8 eσ8
  refine lv_aload_n hx hb dX7_prove_40 rfl (lv_at hl 0 rfl) ?_
  refine lv_iconst (v := 0) hx hb dX7_prove_41 (by decide) ?_
  refine pM_X7_raised X hp tw_39_17 dX7_prove_42 (fun H locs σ9 eσ9 hp => ?_)
  have h := nm_s h σ9 eσ9
  refine lv_aload_n hx hb dX7_prove_45 rfl (lv_at hl 0 rfl) ?_
  refine lv_iconst (v := 0) hx hb dX7_prove_46 (by decide) ?_
  refine pM_X7_ended X hp tw_39_18 dX7_prove_47 (fun H locs σ10 eσ10 hp => ?_)
  have h := nm_s h σ10 eσ10
  refine lv_iconst (v := 0) hx hb dX7_prove_50 (by decide) ?_
  refine lv_istore_n (lv' := [(1, .int (0 : Int32)), (0, .ref (a 0))]) hx hb dX7_prove_51 rfl hl (by decide) rfl (fun ls hl => ?_)
  exact J_52 _ (fun σ H locs ls hp hl h => J_72 σ _ _ _ hp hl h) _ (0 : Int32) σ10 _ _ _ hp (lv_sub hl [1, 0] rfl) h
