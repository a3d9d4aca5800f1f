/- X4_generalize X1_removeCovered X1_put X4_addCube X4_handle -/
def X4_generalize_63 (N : Nat) (k13 : (Int32 → Int32 → St → Option (Int32 × St))) (v1 : Int32) (v2 : Int32) (v3 : Int32) (v4 : Int32) (v5 : Int32) (u0 : Int32) (σ : St) : Option (Int32 × St) :=
  if u0 = 0 then
    nm (v4 + (1 : Int32)) (fun (x2 : Int32) =>
    k13 v3 x2 σ)
  else
    bd (X4_isBlocked N σ v5 v1 (v2 - (1 : Int32))) (fun t3 =>
    if t3 = 0 then
      nm (v4 + (1 : Int32)) (fun (x5 : Int32) =>
      k13 v3 x5 σ)
    else
      nm (si σ 19 ((σ.1 19) + (1 : Int32))) (fun (σ6 : St) =>
      nm (v4 + (1 : Int32)) (fun (x7 : Int32) =>
      k13 v5 x7 σ6)))
def X4_generalize_13b (N : Nat) (k13 : (Int32 → Int32 → St → Option (Int32 × St))) (k102 : (Int32 → St → Option (Int32 × St))) (v1 : Int32) (v2 : Int32) (v3 : Int32) (v4 : Int32) (σ : St) : Option (Int32 × St) :=
  if (σ.1 5) ≤ v4 then
    k102 v3 σ
  else
    nm (v3 &&& (((1 : Int32) <<< (v4 &&& 31)) ^^^ (-1 : Int32))) (fun (x2 : Int32) =>
    bd (X0_statesInCube N σ x2 v1) (fun t3 =>
    bd (X0_initial σ) (fun t4 =>
    if (t3 &&& t4) = (0 : Int64) then
      X4_generalize_63 N k13 v1 v2 v3 v4 x2 (1 : Int32) σ
    else
      X4_generalize_63 N k13 v1 v2 v3 v4 x2 (0 : Int32) σ)))
def X4_generalize_13 (N : Nat) (k102 : (Int32 → St → Option (Int32 × St))) (v1 : Int32) (v2 : Int32) : Nat → Int32 → Int32 → St → Option (Int32 × St)
  | 0, _, _, _ => none
  | n + 1, v3, v4, σ => X4_generalize_13b N (fun v3 v4 σ => X4_generalize_13 N k102 v1 v2 n v3 v4 σ) k102 v1 v2 v3 v4 σ
def X4_generalize_102 (v3 : Int32) (σ : St) : Option (Int32 × St) :=
  some (v3, σ)
def X4_generalize (N : Nat) (v1 : Int32) (v2 : Int32) (σ : St) : Option (Int32 × St) :=
  nm ((σ.1 7) - (1 : Int32)) (fun (x1 : Int32) =>
  X4_generalize_13 N (fun v3 σ => X4_generalize_102 v3 σ) v1 v2 N x1 (0 : Int32) σ)
set_option maxRecDepth 20000 in
set_option maxHeartbeats 4000000 in
theorem c_X4_generalize {l : Launch} {D : va_G} {a : Nat → Nat} {cA : Nat → ClassId} {t : Nat} {F : (Nat → Prop) → State → Prop} (hF : EOK F) {σ : St} {N : Nat} {v1 : Int32} {v2 : Int32} {r : Int32} {σ' : St} (h : X4_generalize N v1 v2 σ = some (r, σ')) : MetI l yX4_generalize cX4_generalize 7 (some .int) 2 D (tyW cA) (wS a cA) (ES t F) [.ref (a 4), .int v1, .int v2] σ r σ' := by
  refine mkI (by decide) (adrS a cA) (Or.inl rfl) (Nat.le_of_ble_eq_true rfl) ?_
  intro p e R s m args below meth c A Q ls X hR hp hl
  obtain ⟨hx, hb, -, hown, hts, -⟩ := id X
  have J_63 : ∀ (v1 : Int32) (v2 : Int32) (v3 : Int32) (v4 : Int32) (v5 : Int32) (u0 : Int32) (k13 : (Int32 → Int32 → St → Option (Int32 × St))) (hk13 : ∀ (v3 : Int32) (v4 : Int32) (σ : St) (H : Heap) (locs : List Loc) (ls : Array Slot), Pw D (wS a cA) A s.heap H locs σ → lv_has ls 7 [(0, .ref (a 4)), (1, .int v1), (2, .int v2), (3, .int v3), (4, .int v4)] → k13 v3 v4 σ = some (r, σ') → W p l e R s m args below meth c H locs 0 0 Q (F0 m 13 ls [])) (σ : St) (H : Heap) (locs : List Loc) (ls : Array Slot), Pw D (wS a cA) A s.heap H locs σ → lv_has ls 7 [(0, .ref (a 4)), (1, .int v1), (2, .int v2), (3, .int v3), (4, .int v4), (5, .int v5)] → X4_generalize_63 N k13 v1 v2 v3 v4 v5 u0 σ = some (r, σ') → W p l e R s m args below meth c H locs 0 0 Q (F0 m 63 ls [.int u0]) := by
    intro v1 v2 v3 v4 v5 u0 k13 hk13 σ H locs ls hp hl h
    unfold X4_generalize_63 at h
    refine lv_istore (lv' := [(6, .int u0), (0, .ref (a 4)), (1, .int v1), (2, .int v2), (3, .int v3), (4, .int v4), (5, .int v5)]) hx hb dX4_generalize_63 hl (by decide) rfl (fun ls hl => ?_)
    refine lv_iload hx hb dX4_generalize_65 (lv_at hl 0 rfl) ?_
    refine lv_if_eq (tgt := 96) hx hb dX4_generalize_67 (by decide) (fun c1 => ?_) (fun c1 => ?_)
    · have h := it_p h c1
      obtain ⟨x2, ex2⟩ : ∃ z : Int32, z = v4 + (1 : Int32) := ⟨_, rfl⟩
      have h := nm_s h x2 ex2
      refine lv_iinc (v := x2) (lv' := [(4, .int x2), (6, .int u0), (0, .ref (a 4)), (1, .int v1), (2, .int v2), (3, .int v3), (5, .int v5)]) hx hb dX4_generalize_96 hl (k := 5) rfl (by rw [ex2]; rfl) (by decide) rfl (fun ls hl => ?_)
      refine lv_goto (tgt := 13) hx hb dX4_generalize_99 (by decide) ?_
      exact hk13 v3 x2 σ _ _ _ hp (lv_sub hl [2, 3, 4, 5, 0] rfl) h
    · have h := it_n h c1
      refine lv_aload_n hx hb dX4_generalize_70 rfl (lv_at hl 1 rfl) ?_
      refine lv_iload hx hb dX4_generalize_71 (lv_at hl 6 rfl) ?_
      refine lv_iload_n hx hb dX4_generalize_73 rfl (lv_at hl 2 rfl) ?_
      refine lv_iload_n hx hb dX4_generalize_74 rfl (lv_at hl 3 rfl) ?_
      refine lv_iconst (v := 1) hx hb dX4_generalize_75 (by decide) ?_
      refine lv_isub hx hb dX4_generalize_76 ?_
      obtain ⟨t3, ht3, h⟩ := bd_s h
      refine cl_Vi X (eokS hF) (c_X4_isBlocked hF ht3) tw_37_17 mw_X4_isBlocked (by decide) hp 4 rfl rfl rfl hl.1 rfl (Nat.le_of_ble_eq_true rfl) dX4_generalize_77 (fun H locs hp => ?_)
      refine lv_if_eq (tgt := 96) hx hb dX4_generalize_80 (by decide) (fun c4 => ?_) (fun c4 => ?_)
      · have h := it_p h c4
        obtain ⟨x5, ex5⟩ : ∃ z : Int32, z = v4 + (1 : Int32) := ⟨_, rfl⟩
        have h := nm_s h x5 ex5
        refine lv_iinc (v := x5) (lv' := [(4, .int x5), (6, .int u0), (0, .ref (a 4)), (1, .int v1), (2, .int v2), (3, .int v3), (5, .int v5)]) hx hb dX4_generalize_96 hl (k := 5) rfl (by rw [ex5]; rfl) (by decide) rfl (fun ls hl => ?_)
        refine lv_goto (tgt := 13) hx hb dX4_generalize_99 (by decide) ?_
        exact hk13 v3 x5 σ _ _ _ hp (lv_sub hl [2, 3, 4, 5, 0] rfl) h
      · have h := it_n h c4
        refine lv_iload hx hb dX4_generalize_83 (lv_at hl 6 rfl) ?_
        refine lv_istore_n (lv' := [(3, .int v5), (6, .int u0), (0, .ref (a 4)), (1, .int v1), (2, .int v2), (4, .int v4), (5, .int v5)]) hx hb dX4_generalize_85 rfl hl (by decide) rfl (fun ls hl => ?_)
        refine lv_aload_n hx hb dX4_generalize_86 rfl (lv_at hl 2 rfl) ?_
        refine lv_dup hx hb dX4_generalize_87 rfl ?_
        refine gS_X4_leftOut X hp tw_35_10 dX4_generalize_88 ?_
        refine lv_iconst (v := 1) hx hb dX4_generalize_91 (by decide) ?_
        refine lv_iadd hx hb dX4_generalize_92 ?_
        refine pS_X4_leftOut X hp tw_35_10 dX4_generalize_93 (fun H locs σ6 eσ6 hp => ?_)
        have h := nm_s h σ6 eσ6
        obtain ⟨x7, ex7⟩ : ∃ z : Int32, z = v4 + (1 : Int32) := ⟨_, rfl⟩
        have h := nm_s h x7 ex7
        refine lv_iinc (v := x7) (lv' := [(4, .int x7), (3, .int v5), (6, .int u0), (0, .ref (a 4)), (1, .int v1), (2, .int v2), (5, .int v5)]) hx hb dX4_generalize_96 hl (k := 5) rfl (by rw [ex7]; rfl) (by decide) rfl (fun ls hl => ?_)
        refine lv_goto (tgt := 13) hx hb dX4_generalize_99 (by decide) ?_
        exact hk13 v5 x7 σ6 _ _ _ hp (lv_sub hl [3, 4, 5, 1, 0] rfl) h
  have J_13 : ∀ (v1 : Int32) (v2 : Int32) (k102 : (Int32 → St → Option (Int32 × St))) (hk102 : ∀ (v3 : Int32) (σ : St) (H : Heap) (locs : List Loc) (ls : Array Slot), Pw D (wS a cA) A s.heap H locs σ → lv_has ls 7 [(0, .ref (a 4)), (3, .int v3)] → k102 v3 σ = some (r, σ') → W p l e R s m args below meth c H locs 0 0 Q (F0 m 102 ls [])) (n : Nat) (v3 : Int32) (v4 : Int32) (σ : St) (H : Heap) (locs : List Loc) (ls : Array Slot), Pw D (wS a cA) A s.heap H locs σ → lv_has ls 7 [(0, .ref (a 4)), (1, .int v1), (2, .int v2), (3, .int v3), (4, .int v4)] → X4_generalize_13 N k102 v1 v2 n v3 v4 σ = some (r, σ') → W p l e R s m args below meth c H locs 0 0 Q (F0 m 13 ls []) := by
    intro v1 v2 k102 hk102 n
    induction n with
    | zero => intro v3 v4 σ H locs ls hp hl h; exact nn_s (show (none : Option (Int32 × St)) = some _ from h)
    | succ n ih =>
      intro v3 v4 σ H locs ls hp hl h
      have h : X4_generalize_13b N (fun v3 v4 σ => X4_generalize_13 N k102 v1 v2 n v3 v4 σ) k102 v1 v2 v3 v4 σ = some (r, σ') := h
      unfold X4_generalize_13b at h
      have hk13 := ih
      refine lv_iload hx hb dX4_generalize_13 (lv_at hl 4 rfl) ?_
      refine lv_aload_n hx hb dX4_generalize_15 rfl (lv_at hl 0 rfl) ?_
      refine gS_X4_circuit X hp tw_4_12 dX4_generalize_16 ?_
      refine gS_X0_bits X hp tw_37_12 dX4_generalize_19 ?_
      refine lv_icmp_ge (tgt := 102) hx hb dX4_generalize_22 (by decide) (fun c1 => ?_) (fun c1 => ?_)
      · have h := it_p h c1
        exact hk102 v3 σ _ _ _ hp (lv_sub hl [0, 3] rfl) h
      · have h := it_n h c1
        refine lv_iload_n hx hb dX4_generalize_25 rfl (lv_at hl 3 rfl) ?_
        refine lv_iconst (v := 1) hx hb dX4_generalize_26 (by decide) ?_
        refine lv_iload hx hb dX4_generalize_27 (lv_at hl 4 rfl) ?_
        refine lv_ishl hx hb dX4_generalize_29 ?_
        refine lv_iconst (v := -1) hx hb dX4_generalize_30 (by decide) ?_
        refine lv_ixor hx hb dX4_generalize_31 ?_
        refine lv_iand hx hb dX4_generalize_32 ?_
        refine lv_topi (fun x2 ex2 => ?_)
        have h := nm_s h x2 ex2
        refine lv_istore (lv' := [(5, .int x2), (0, .ref (a 4)), (1, .int v1), (2, .int v2), (3, .int v3), (4, .int v4)]) hx hb dX4_generalize_33 hl (by decide) rfl (fun ls hl => ?_)
        refine lv_aload_n hx hb dX4_generalize_35 rfl (lv_at hl 1 rfl) ?_
        refine gS_X4_circuit X hp tw_4_12 dX4_generalize_36 ?_
        refine lv_iload hx hb dX4_generalize_39 (lv_at hl 0 rfl) ?_
        refine lv_iload_n hx hb dX4_generalize_41 rfl (lv_at hl 2 rfl) ?_
        obtain ⟨t3, ht3, h⟩ := bd_s h
        refine cl_Vl X (eokS hF) (c_X0_statesInCube hF ht3) tw_37_13 mw_X0_statesInCube (by decide) hp 2 rfl rfl rfl hl.1 rfl (Nat.le_of_ble_eq_true rfl) dX4_generalize_42 (fun H locs hp => ?_)
        refine lv_aload_n hx hb dX4_generalize_45 rfl (lv_at hl 1 rfl) ?_
        refine gS_X4_circuit X hp tw_4_12 dX4_generalize_46 ?_
        obtain ⟨t4, ht4, h⟩ := bd_s h
        refine cl_Vl X (eokS hF) (c_X0_initial hF ht4) tw_35_14 mw_X0_initial (by decide) hp 2 rfl rfl rfl hl.1 rfl (Nat.le_of_ble_eq_true rfl) dX4_generalize_49 (fun H locs hp => ?_)
        refine lv_land hx hb dX4_generalize_52 ?_
        refine lv_lconst (v := 0) hx hb dX4_generalize_53 (by decide) ?_
        refine W.lcmp hx hb dX4_generalize_54 ?_
        refine lv_if_ne (tgt := 62) hx hb dX4_generalize_55 (by decide) (fun c5 => ?_) (fun c5 => ?_)
        · have h := it_n h (fun q => c5 (lcmp0.mpr q))
          refine lv_iconst (v := 0) hx hb dX4_generalize_62 (by decide) ?_
          exact J_63 v1 v2 v3 v4 x2 (0 : Int32) _ hk13 σ _ _ _ hp (lv_sub hl [1, 2, 3, 4, 5, 0] rfl) h
        · have h := it_p h (lcmp0.mp c5)
          refine lv_iconst (v := 1) hx hb dX4_generalize_58 (by decide) ?_
          refine lv_goto (tgt := 63) hx hb dX4_generalize_59 (by decide) ?_
          exact J_63 v1 v2 v3 v4 x2 (1 : Int32) _ hk13 σ _ _ _ hp (lv_sub hl [1, 2, 3, 4, 5, 0] rfl) h
  have J_102 : ∀ (v3 : Int32) (σ : St) (H : Heap) (locs : List Loc) (ls : Array Slot), Pw D (wS a cA) A s.heap H locs σ → lv_has ls 7 [(0, .ref (a 4)), (3, .int v3)] → X4_generalize_102 v3 σ = some (r, σ') → W p l e R s m args below meth c H locs 0 0 Q (F0 m 102 ls []) := by
    intro v3 σ H locs ls hp hl h
    unfold X4_generalize_102 at h
    refine lv_iload_n hx hb dX4_generalize_102 rfl (lv_at hl 1 rfl) ?_
    exact hR _ _ _ _ _ _ dX4_generalize_103 hp (congrArg Prod.fst (Option.some.inj h)) (congrArg Prod.snd (Option.some.inj h)) (fun q => by cases q)
  unfold X4_generalize at h
  have hl := lv_sub (l' := [(0, .ref (a 4)), (1, .int v1), (2, .int v2)]) hl [0, 1, 2] rfl
  refine lv_aload_n hx hb dX4_generalize_0 rfl (lv_at hl 0 rfl) ?_
  refine gS_X4_circuit X hp tw_4_12 dX4_generalize_1 ?_
  refine gS_X0_states X hp tw_36_22 dX4_generalize_4 ?_
  refine lv_iconst (v := 1) hx hb dX4_generalize_7 (by decide) ?_
  refine lv_isub hx hb dX4_generalize_8 ?_
  refine lv_topi (fun x1 ex1 => ?_)
  have h := nm_s h x1 ex1
  refine lv_istore_n (lv' := [(3, .int x1), (0, .ref (a 4)), (1, .int v1), (2, .int v2)]) hx hb dX4_generalize_9 rfl hl (by decide) rfl (fun ls hl => ?_)
  refine lv_iconst (v := 0) hx hb dX4_generalize_10 (by decide) ?_
  refine lv_istore (lv' := [(4, .int (0 : Int32)), (3, .int x1), (0, .ref (a 4)), (1, .int v1), (2, .int v2)]) hx hb dX4_generalize_11 hl (by decide) rfl (fun ls hl => ?_)
  exact J_13 v1 v2 _ (fun v3 σ H locs ls hp hl h => J_102 v3 σ _ _ _ hp hl h) _ x1 (0 : Int32) σ _ _ _ hp (lv_sub hl [2, 3, 4, 1, 0] rfl) h
def X1_removeCovered_57 (k6 : (Int32 → Int32 → St → Option (St))) (v1 : Int64) (v3 : Int32) (v4 : Int32) (v5 : Int32) (u0 : Int32) (σ : St) : Option (St) :=
  if u0 = 0 then
    if v5 < v4 then
      nm (v5 + (1 : Int32)) (fun (x4 : Int32) =>
      k6 v4 x4 σ)
    else
      gd (inb v5 729) (
      gd (inb v4 729) (
      nm (sa σ 9 v4.toNatClampNeg (σ.2.2.1 9 v5.toNatClampNeg)) (fun (σ7 : St) =>
      gd (inb v5 729) (
      gd (inb v4 729) (
      nm (sa σ7 10 v4.toNatClampNeg (σ7.2.2.1 10 v5.toNatClampNeg)) (fun (σ10 : St) =>
      gd (inb v5 729) (
      gd (inb v4 729) (
      nm (sa σ10 11 v4.toNatClampNeg (σ10.2.2.1 11 v5.toNatClampNeg)) (fun (σ13 : St) =>
      gd (inb v5 729) (
      gd (inb v4 729) (
      nm (sb σ13 9 v4.toNatClampNeg (σ13.2.2.2 9 v5.toNatClampNeg)) (fun (σ16 : St) =>
      nm (v4 + (1 : Int32)) (fun (x17 : Int32) =>
      nm (v5 + (1 : Int32)) (fun (x18 : Int32) =>
      k6 x17 x18 σ16))))))))))))))
  else
    nm (v5 + (1 : Int32)) (fun (x2 : Int32) =>
    k6 v4 x2 σ)
def X1_removeCovered_6b (k6 : (Int32 → Int32 → St → Option (St))) (k136 : (Int32 → St → Option (St))) (v1 : Int64) (v3 : Int32) (v4 : Int32) (v5 : Int32) (σ : St) : Option (St) :=
  if (σ.1 23) ≤ v5 then
    k136 v4 σ
  else
    if (729 : Int32) ≤ v5 then
      k136 v4 σ
    else
      gd (inb v5 729) (
      if v3 < (σ.2.2.1 11 v5.toNatClampNeg) then
        X1_removeCovered_57 k6 v1 v3 v4 v5 (0 : Int32) σ
      else
        gd (inb v5 729) (
        if ((σ.2.2.2 9 v5.toNatClampNeg) &&& (v1 ^^^ (-1 : Int64))) = (0 : Int64) then
          X1_removeCovered_57 k6 v1 v3 v4 v5 (1 : Int32) σ
        else
          X1_removeCovered_57 k6 v1 v3 v4 v5 (0 : Int32) σ))
def X1_removeCovered_6 (k136 : (Int32 → St → Option (St))) (v1 : Int64) (v3 : Int32) : Nat → Int32 → Int32 → St → Option (St)
  | 0, _, _, _ => none
  | n + 1, v4, v5, σ => X1_removeCovered_6b (fun v4 v5 σ => X1_removeCovered_6 k136 v1 v3 n v4 v5 σ) k136 v1 v3 v4 v5 σ
def X1_removeCovered_136 (v4 : Int32) (σ : St) : Option (St) :=
  nm (si σ 23 v4) (fun (σ1 : St) =>
  some σ1)
def X1_removeCovered (N : Nat) (v1 : Int64) (v3 : Int32) (σ : St) : Option (St) :=
  X1_removeCovered_6 (fun v4 σ => X1_removeCovered_136 v4 σ) v1 v3 N (0 : Int32) (0 : Int32) σ
set_option maxRecDepth 20000 in
set_option maxHeartbeats 4000000 in
theorem c_X1_removeCovered {l : Launch} {D : va_G} {a : Nat → Nat} {cA : Nat → ClassId} {t : Nat} {F : (Nat → Prop) → State → Prop} (hF : EOK F) {σ : St} {N : Nat} {v1 : Int64} {v3 : Int32} {σ' : St} (h : X1_removeCovered N v1 v3 σ = some σ') : MetV l yX1_removeCovered cX1_removeCovered 7 none 0 D (tyW cA) (wS a cA) (ES t F) [.ref (a 6), .long v1, .int v3] σ σ' := by
  refine mkV (by decide) (adrS a cA) rfl (Nat.le_of_ble_eq_true rfl) ?_
  intro p e R s m args below meth c A Q ls X hR hp hl
  obtain ⟨hx, hb, -, hown, hts, -⟩ := id X
  have J_57 : ∀ (v1 : Int64) (v3 : Int32) (v4 : Int32) (v5 : Int32) (u0 : Int32) (k6 : (Int32 → Int32 → St → Option (St))) (hk6 : ∀ (v4 : Int32) (v5 : Int32) (σ : St) (H : Heap) (locs : List Loc) (ls : Array Slot), Pw D (wS a cA) A s.heap H locs σ → lv_has ls 7 [(0, .ref (a 6)), (1, .long v1), (3, .int v3), (4, .int v4), (5, .int v5)] → k6 v4 v5 σ = some σ' → W p l e R s m args below meth c H locs 0 0 Q (F0 m 6 ls [])) (σ : St) (H : Heap) (locs : List Loc) (ls : Array Slot), Pw D (wS a cA) A s.heap H locs σ → lv_has ls 7 [(0, .ref (a 6)), (1, .long v1), (3, .int v3), (4, .int v4), (5, .int v5)] → X1_removeCovered_57 k6 v1 v3 v4 v5 u0 σ = some σ' → W p l e R s m args below meth c H locs 0 0 Q (F0 m 57 ls [.int u0]) := by
    intro v1 v3 v4 v5 u0 k6 hk6 σ H locs ls hp hl h
    unfold X1_removeCovered_57 at h
    refine lv_istore (lv' := [(6, .int u0), (0, .ref (a 6)), (1, .long v1), (3, .int v3), (4, .int v4), (5, .int v5)]) hx hb dX1_removeCovered_57 hl (by decide) rfl (fun ls hl => ?_)
    refine lv_iload hx hb dX1_removeCovered_59 (lv_at hl 0 rfl) ?_
    refine lv_if_ne (tgt := 130) hx hb dX1_removeCovered_61 (by decide) (fun c1 => ?_) (fun c1 => ?_)
    · have h := it_n h c1
      obtain ⟨x2, ex2⟩ : ∃ z : Int32, z = v5 + (1 : Int32) := ⟨_, rfl⟩
      have h := nm_s h x2 ex2
      refine lv_iinc (v := x2) (lv' := [(5, .int x2), (6, .int u0), (0, .ref (a 6)), (1, .long v1), (3, .int v3), (4, .int v4)]) hx hb dX1_removeCovered_130 hl (k := 5) rfl (by rw [ex2]; rfl) (by decide) rfl (fun ls hl => ?_)
      refine lv_goto (tgt := 6) hx hb dX1_removeCovered_133 (by decide) ?_
      exact hk6 v4 x2 σ _ _ _ hp (lv_sub hl [2, 3, 4, 5, 0] rfl) h
    · have h := it_p h c1
      refine lv_iload hx hb dX1_removeCovered_64 (lv_at hl 4 rfl) ?_
      refine lv_iload hx hb dX1_removeCovered_66 (lv_at hl 5 rfl) ?_
      refine lv_icmp_gt (tgt := 130) hx hb dX1_removeCovered_68 (by decide) (fun c3 => ?_) (fun c3 => ?_)
      · have h := it_p h c3
        obtain ⟨x4, ex4⟩ : ∃ z : Int32, z = v5 + (1 : Int32) := ⟨_, rfl⟩
        have h := nm_s h x4 ex4
        refine lv_iinc (v := x4) (lv' := [(5, .int x4), (6, .int u0), (0, .ref (a 6)), (1, .long v1), (3, .int v3), (4, .int v4)]) hx hb dX1_removeCovered_130 hl (k := 5) rfl (by rw [ex4]; rfl) (by decide) rfl (fun ls hl => ?_)
        refine lv_goto (tgt := 6) hx hb dX1_removeCovered_133 (by decide) ?_
        exact hk6 v4 x4 σ _ _ _ hp (lv_sub hl [2, 3, 4, 5, 0] rfl) h
      · have h := it_n h c3
        refine lv_aload_n hx hb dX1_removeCovered_71 rfl (lv_at hl 1 rfl) ?_
        refine gS_X1_masks X hp tw_5_1 dX1_removeCovered_72 ?_
        refine lv_iload hx hb dX1_removeCovered_75 (lv_at hl 4 rfl) ?_
        refine lv_aload_n hx hb dX1_removeCovered_77 rfl (lv_at hl 1 rfl) ?_
        refine gS_X1_masks X hp tw_5_1 dX1_removeCovered_78 ?_
        refine lv_iload hx hb dX1_removeCovered_81 (lv_at hl 5 rfl) ?_
        obtain ⟨g5, h⟩ := gd_s h
        refine lS_X1_masks X hp g5 dX1_removeCovered_83 ?_
        obtain ⟨g6, h⟩ := gd_s h
        refine sS_X1_masks X hp g6 dX1_removeCovered_84 (fun H locs σ7 eσ7 hp => ?_)
        have h := nm_s h σ7 eσ7
        refine lv_aload_n hx hb dX1_removeCovered_85 rfl (lv_at hl 1 rfl) ?_
        refine gS_X1_values X hp tw_5_2 dX1_removeCovered_86 ?_
        refine lv_iload hx hb dX1_removeCovered_89 (lv_at hl 4 rfl) ?_
        refine lv_aload_n hx hb dX1_removeCovered_91 rfl (lv_at hl 1 rfl) ?_
        refine gS_X1_values X hp tw_5_2 dX1_removeCovered_92 ?_
        refine lv_iload hx hb dX1_removeCovered_95 (lv_at hl 5 rfl) ?_
        obtain ⟨g8, h⟩ := gd_s h
        refine lS_X1_values X hp g8 dX1_removeCovered_97 ?_
        obtain ⟨g9, h⟩ := gd_s h
        refine sS_X1_values X hp g9 dX1_removeCovered_98 (fun H locs σ10 eσ10 hp => ?_)
        have h := nm_s h σ10 eσ10
        refine lv_aload_n hx hb dX1_removeCovered_99 rfl (lv_at hl 1 rfl) ?_
        refine gS_X1_levels X hp tw_5_3 dX1_removeCovered_100 ?_
        refine lv_iload hx hb dX1_removeCovered_103 (lv_at hl 4 rfl) ?_
        refine lv_aload_n hx hb dX1_removeCovered_105 rfl (lv_at hl 1 rfl) ?_
        refine gS_X1_levels X hp tw_5_3 dX1_removeCovered_106 ?_
        refine lv_iload hx hb dX1_removeCovered_109 (lv_at hl 5 rfl) ?_
        obtain ⟨g11, h⟩ := gd_s h
        refine lS_X1_levels X hp g11 dX1_removeCovered_111 ?_
        obtain ⟨g12, h⟩ := gd_s h
        refine sS_X1_levels X hp g12 dX1_removeCovered_112 (fun H locs σ13 eσ13 hp => ?_)
        have h := nm_s h σ13 eσ13
        refine lv_aload_n hx hb dX1_removeCovered_113 rfl (lv_at hl 1 rfl) ?_
        refine gS_X1_sets X hp tw_5_4 dX1_removeCovered_114 ?_
        refine lv_iload hx hb dX1_removeCovered_117 (lv_at hl 4 rfl) ?_
        refine lv_aload_n hx hb dX1_removeCovered_119 rfl (lv_at hl 1 rfl) ?_
        refine gS_X1_sets X hp tw_5_4 dX1_removeCovered_120 ?_
        refine lv_iload hx hb dX1_removeCovered_123 (lv_at hl 5 rfl) ?_
        obtain ⟨g14, h⟩ := gd_s h
        refine lS_X1_sets X hp g14 dX1_removeCovered_125 ?_
        obtain ⟨g15, h⟩ := gd_s h
        refine sS_X1_sets X hp g15 dX1_removeCovered_126 (fun H locs σ16 eσ16 hp => ?_)
        have h := nm_s h σ16 eσ16
        obtain ⟨x17, ex17⟩ : ∃ z : Int32, z = v4 + (1 : Int32) := ⟨_, rfl⟩
        have h := nm_s h x17 ex17
        refine lv_iinc (v := x17) (lv' := [(4, .int x17), (6, .int u0), (0, .ref (a 6)), (1, .long v1), (3, .int v3), (5, .int v5)]) hx hb dX1_removeCovered_127 hl (k := 4) rfl (by rw [ex17]; rfl) (by decide) rfl (fun ls hl => ?_)
        obtain ⟨x18, ex18⟩ : ∃ z : Int32, z = v5 + (1 : Int32) := ⟨_, rfl⟩
        have h := nm_s h x18 ex18
        refine lv_iinc (v := x18) (lv' := [(5, .int x18), (4, .int x17), (6, .int u0), (0, .ref (a 6)), (1, .long v1), (3, .int v3)]) hx hb dX1_removeCovered_130 hl (k := 5) rfl (by rw [ex18]; rfl) (by decide) rfl (fun ls hl => ?_)
        refine lv_goto (tgt := 6) hx hb dX1_removeCovered_133 (by decide) ?_
        exact hk6 x17 x18 σ16 _ _ _ hp (lv_sub hl [3, 4, 5, 1, 0] rfl) h
  have J_6 : ∀ (v1 : Int64) (v3 : Int32) (k136 : (Int32 → St → Option (St))) (hk136 : ∀ (v4 : Int32) (σ : St) (H : Heap) (locs : List Loc) (ls : Array Slot), Pw D (wS a cA) A s.heap H locs σ → lv_has ls 7 [(0, .ref (a 6)), (4, .int v4)] → k136 v4 σ = some σ' → W p l e R s m args below meth c H locs 0 0 Q (F0 m 136 ls [])) (n : Nat) (v4 : Int32) (v5 : Int32) (σ : St) (H : Heap) (locs : List Loc) (ls : Array Slot), Pw D (wS a cA) A s.heap H locs σ → lv_has ls 7 [(0, .ref (a 6)), (1, .long v1), (3, .int v3), (4, .int v4), (5, .int v5)] → X1_removeCovered_6 k136 v1 v3 n v4 v5 σ = some σ' → W p l e R s m args below meth c H locs 0 0 Q (F0 m 6 ls []) := by
    intro v1 v3 k136 hk136 n
    induction n with
    | zero => intro v4 v5 σ H locs ls hp hl h; exact nn_s (show (none : Option (St)) = some _ from h)
    | succ n ih =>
      intro v4 v5 σ H locs ls hp hl h
      have h : X1_removeCovered_6b (fun v4 v5 σ => X1_removeCovered_6 k136 v1 v3 n v4 v5 σ) k136 v1 v3 v4 v5 σ = some σ' := h
      unfold X1_removeCovered_6b at h
      have hk6 := ih
      refine lv_iload hx hb dX1_removeCovered_6 (lv_at hl 4 rfl) ?_
      refine lv_aload_n hx hb dX1_removeCovered_8 rfl (lv_at hl 0 rfl) ?_
      refine gS_X1_count X hp tw_38_5 dX1_removeCovered_9 ?_
      refine lv_icmp_ge (tgt := 136) hx hb dX1_removeCovered_12 (by decide) (fun c1 => ?_) (fun c1 => ?_)
      · have h := it_p h c1
        exact hk136 v4 σ _ _ _ hp (lv_sub hl [0, 3] rfl) h
      · have h := it_n h c1
        refine lv_iload hx hb dX1_removeCovered_15 (lv_at hl 4 rfl) ?_
        refine lv_sipush (v := 729) hx hb dX1_removeCovered_17 (by decide) ?_
        refine lv_icmp_ge (tgt := 136) hx hb dX1_removeCovered_20 (by decide) (fun c2 => ?_) (fun c2 => ?_)
        · have h := it_p h c2
          exact hk136 v4 σ _ _ _ hp (lv_sub hl [0, 3] rfl) h
        · have h := it_n h c2
          refine lv_aload_n hx hb dX1_removeCovered_23 rfl (lv_at hl 0 rfl) ?_
          refine gS_X1_levels X hp tw_5_3 dX1_removeCovered_24 ?_
          refine lv_iload hx hb dX1_removeCovered_27 (lv_at hl 4 rfl) ?_
          obtain ⟨g3, h⟩ := gd_s h
          refine lS_X1_levels X hp g3 dX1_removeCovered_29 ?_
          refine lv_iload_n hx hb dX1_removeCovered_30 rfl (lv_at hl 2 rfl) ?_
          refine lv_icmp_gt (tgt := 56) hx hb dX1_removeCovered_31 (by decide) (fun c4 => ?_) (fun c4 => ?_)
          · have h := it_p h c4
            refine lv_iconst (v := 0) hx hb dX1_removeCovered_56 (by decide) ?_
            exact J_57 v1 v3 v4 v5 (0 : Int32) _ hk6 σ _ _ _ hp (lv_sub hl [0, 1, 2, 3, 4] rfl) h
          · have h := it_n h c4
            refine lv_aload_n hx hb dX1_removeCovered_34 rfl (lv_at hl 0 rfl) ?_
            refine gS_X1_sets X hp tw_5_4 dX1_removeCovered_35 ?_
            refine lv_iload hx hb dX1_removeCovered_38 (lv_at hl 4 rfl) ?_
            obtain ⟨g5, h⟩ := gd_s h
            refine lS_X1_sets X hp g5 dX1_removeCovered_40 ?_
            refine lv_lload_n hx hb dX1_removeCovered_41 rfl (lv_at hl 1 rfl) ?_
            refine lv_ldc2 hx hb hown (hts _ tw_38_6) dX1_removeCovered_42 ?_
            refine lv_lxor hx hb dX1_removeCovered_45 ?_
            refine lv_land hx hb dX1_removeCovered_46 ?_
            refine lv_lconst (v := 0) hx hb dX1_removeCovered_47 (by decide) ?_
            refine W.lcmp hx hb dX1_removeCovered_48 ?_
            refine lv_if_ne (tgt := 56) hx hb dX1_removeCovered_49 (by decide) (fun c6 => ?_) (fun c6 => ?_)
            · have h := it_n h (fun q => c6 (lcmp0.mpr q))
              refine lv_iconst (v := 0) hx hb dX1_removeCovered_56 (by decide) ?_
              exact J_57 v1 v3 v4 v5 (0 : Int32) _ hk6 σ _ _ _ hp (lv_sub hl [0, 1, 2, 3, 4] rfl) h
            · have h := it_p h (lcmp0.mp c6)
              refine lv_iconst (v := 1) hx hb dX1_removeCovered_52 (by decide) ?_
              refine lv_goto (tgt := 57) hx hb dX1_removeCovered_53 (by decide) ?_
              exact J_57 v1 v3 v4 v5 (1 : Int32) _ hk6 σ _ _ _ hp (lv_sub hl [0, 1, 2, 3, 4] rfl) h
  have J_136 : ∀ (v4 : Int32) (σ : St) (H : Heap) (locs : List Loc) (ls : Array Slot), Pw D (wS a cA) A s.heap H locs σ → lv_has ls 7 [(0, .ref (a 6)), (4, .int v4)] → X1_removeCovered_136 v4 σ = some σ' → W p l e R s m args below meth c H locs 0 0 Q (F0 m 136 ls []) := by
    intro v4 σ H locs ls hp hl h
    unfold X1_removeCovered_136 at h
    refine lv_aload_n hx hb dX1_removeCovered_136 rfl (lv_at hl 0 rfl) ?_
    refine lv_iload hx hb dX1_removeCovered_137 (lv_at hl 1 rfl) ?_
    refine pS_X1_count X hp tw_38_5 dX1_removeCovered_139 (fun H locs σ1 eσ1 hp => ?_)
    have h := nm_s h σ1 eσ1
    exact hR _ _ _ _ _ dX1_removeCovered_142 hp (Option.some.inj h)
  unfold X1_removeCovered at h
  have hl := lv_sub (l' := [(0, .ref (a 6)), (1, .long v1), (3, .int v3)]) hl [0, 1, 2] rfl
  refine lv_iconst (v := 0) hx hb dX1_removeCovered_0 (by decide) ?_
  refine lv_istore (lv' := [(4, .int (0 : Int32)), (0, .ref (a 6)), (1, .long v1), (3, .int v3)]) hx hb dX1_removeCovered_1 hl (by decide) rfl (fun ls hl => ?_)
  refine lv_iconst (v := 0) hx hb dX1_removeCovered_3 (by decide) ?_
  refine lv_istore (lv' := [(5, .int (0 : Int32)), (4, .int (0 : Int32)), (0, .ref (a 6)), (1, .long v1), (3, .int v3)]) hx hb dX1_removeCovered_4 hl (by decide) rfl (fun ls hl => ?_)
  exact J_6 v1 v3 _ (fun v4 σ H locs ls hp hl h => J_136 v4 σ _ _ _ hp hl h) _ (0 : Int32) (0 : Int32) σ _ _ _ hp (lv_sub hl [2, 3, 4, 1, 0] rfl) h
def X1_put (v1 : Int32) (v2 : Int32) (v3 : Int32) (v4 : Int64) (σ : St) : Option (St) :=
  if (σ.1 23) < 0 then
    some σ
  else
    if (729 : Int32) ≤ (σ.1 23) then
      some σ
    else
      gd (inb (σ.1 23) 729) (
      nm (sa σ 9 (σ.1 23).toNatClampNeg v1) (fun (σ4 : St) =>
      gd (inb (σ4.1 23) 729) (
      nm (sa σ4 10 (σ4.1 23).toNatClampNeg v2) (fun (σ6 : St) =>
      gd (inb (σ6.1 23) 729) (
      nm (sa σ6 11 (σ6.1 23).toNatClampNeg v3) (fun (σ8 : St) =>
      gd (inb (σ8.1 23) 729) (
      nm (sb σ8 9 (σ8.1 23).toNatClampNeg v4) (fun (σ10 : St) =>
      nm (si σ10 23 ((σ10.1 23) + (1 : Int32))) (fun (σ11 : St) =>
      some σ11)))))))))
set_option maxRecDepth 20000 in
set_option maxHeartbeats 4000000 in
theorem c_X1_put {l : Launch} {D : va_G} {a : Nat → Nat} {cA : Nat → ClassId} {t : Nat} {F : (Nat → Prop) → State → Prop} (hF : EOK F) {σ : St} {v1 : Int32} {v2 : Int32} {v3 : Int32} {v4 : Int64} {σ' : St} (h : X1_put v1 v2 v3 v4 σ = some σ') : MetV l yX1_put cX1_put 6 none 0 D (tyW cA) (wS a cA) (ES t F) [.ref (a 6), .int v1, .int v2, .int v3, .long v4] σ σ' := by
  refine mkV (by decide) (adrS a cA) rfl (Nat.le_of_ble_eq_true rfl) ?_
  intro p e R s m args below meth c A Q ls X hR hp hl
  obtain ⟨hx, hb, -, hown, hts, -⟩ := id X
  unfold X1_put at h
  have hl := lv_sub (l' := [(0, .ref (a 6)), (1, .int v1), (2, .int v2), (3, .int v3), (4, .long v4)]) hl [0, 1, 2, 3, 4] rfl
  refine lv_aload_n hx hb dX1_put_0 rfl (lv_at hl 0 rfl) ?_
  refine gS_X1_count X hp tw_38_5 dX1_put_1 ?_
  refine lv_if_lt (tgt := 68) hx hb dX1_put_4 (by decide) (fun c1 => ?_) (fun c1 => ?_)
  · have h := it_p h c1
    exact hR _ _ _ _ _ dX1_put_68 hp (Option.some.inj h)
  · have h := it_n h c1
    refine lv_aload_n hx hb dX1_put_7 rfl (lv_at hl 0 rfl) ?_
    refine gS_X1_count X hp tw_38_5 dX1_put_8 ?_
    refine lv_sipush (v := 729) hx hb dX1_put_11 (by decide) ?_
    refine lv_icmp_ge (tgt := 68) hx hb dX1_put_14 (by decide) (fun c2 => ?_) (fun c2 => ?_)
    · have h := it_p h c2
      exact hR _ _ _ _ _ dX1_put_68 hp (Option.some.inj h)
    · have h := it_n h c2
      refine lv_aload_n hx hb dX1_put_17 rfl (lv_at hl 0 rfl) ?_
      refine gS_X1_masks X hp tw_5_1 dX1_put_18 ?_
      refine lv_aload_n hx hb dX1_put_21 rfl (lv_at hl 0 rfl) ?_
      refine gS_X1_count X hp tw_38_5 dX1_put_22 ?_
      refine lv_iload_n hx hb dX1_put_25 rfl (lv_at hl 1 rfl) ?_
      obtain ⟨g3, h⟩ := gd_s h
      refine sS_X1_masks X hp g3 dX1_put_26 (fun H locs σ4 eσ4 hp => ?_)
      have h := nm_s h σ4 eσ4
      refine lv_aload_n hx hb dX1_put_27 rfl (lv_at hl 0 rfl) ?_
      refine gS_X1_values X hp tw_5_2 dX1_put_28 ?_
      refine lv_aload_n hx hb dX1_put_31 rfl (lv_at hl 0 rfl) ?_
      refine gS_X1_count X hp tw_38_5 dX1_put_32 ?_
      refine lv_iload_n hx hb dX1_put_35 rfl (lv_at hl 2 rfl) ?_
      obtain ⟨g5, h⟩ := gd_s h
      refine sS_X1_values X hp g5 dX1_put_36 (fun H locs σ6 eσ6 hp => ?_)
      have h := nm_s h σ6 eσ6
      refine lv_aload_n hx hb dX1_put_37 rfl (lv_at hl 0 rfl) ?_
      refine gS_X1_levels X hp tw_5_3 dX1_put_38 ?_
      refine lv_aload_n hx hb dX1_put_41 rfl (lv_at hl 0 rfl) ?_
      refine gS_X1_count X hp tw_38_5 dX1_put_42 ?_
      refine lv_iload_n hx hb dX1_put_45 rfl (lv_at hl 3 rfl) ?_
      obtain ⟨g7, h⟩ := gd_s h
      refine sS_X1_levels X hp g7 dX1_put_46 (fun H locs σ8 eσ8 hp => ?_)
      have h := nm_s h σ8 eσ8
      refine lv_aload_n hx hb dX1_put_47 rfl (lv_at hl 0 rfl) ?_
      refine gS_X1_sets X hp tw_5_4 dX1_put_48 ?_
      refine lv_aload_n hx hb dX1_put_51 rfl (lv_at hl 0 rfl) ?_
      refine gS_X1_count X hp tw_38_5 dX1_put_52 ?_
      refine lv_lload hx hb dX1_put_55 (lv_at hl 4 rfl) ?_
      obtain ⟨g9, h⟩ := gd_s h
      refine sS_X1_sets X hp g9 dX1_put_57 (fun H locs σ10 eσ10 hp => ?_)
      have h := nm_s h σ10 eσ10
      refine lv_aload_n hx hb dX1_put_58 rfl (lv_at hl 0 rfl) ?_
      refine lv_dup hx hb dX1_put_59 rfl ?_
      refine gS_X1_count X hp tw_38_5 dX1_put_60 ?_
      refine lv_iconst (v := 1) hx hb dX1_put_63 (by decide) ?_
      refine lv_iadd hx hb dX1_put_64 ?_
      refine pS_X1_count X hp tw_38_5 dX1_put_65 (fun H locs σ11 eσ11 hp => ?_)
      have h := nm_s h σ11 eσ11
      exact hR _ _ _ _ _ dX1_put_68 hp (Option.some.inj h)
def X4_addCube_6b (N : Nat) (k6 : (Int32 → Int32 → St → Option (St))) (k42 : (Int32 → Int32 → Int32 → St → Option (St))) (v1 : Int32) (v2 : Int32) (v4 : Int32) (v5 : Int32) (σ : St) : Option (St) :=
  if (70 : Int32) ≤ v5 then
    k42 v1 v2 v4 σ
  else
    if (σ.1 16) ≤ v4 then
      k42 v1 v2 v4 σ
    else
      bd (X4_isBlocked N σ v1 v2 v4) (fun t3 =>
      if t3 = 0 then
        k42 v1 v2 v4 σ
      else
        nm (v4 + (1 : Int32)) (fun (x5 : Int32) =>
        nm (v5 + (1 : Int32)) (fun (x6 : Int32) =>
        k6 x5 x6 σ)))
def X4_addCube_6 (N : Nat) (k42 : (Int32 → Int32 → Int32 → St → Option (St))) (v1 : Int32) (v2 : Int32) : Nat → Int32 → Int32 → St → Option (St)
  | 0, _, _, _ => none
  | n + 1, v4, v5, σ => X4_addCube_6b N (fun v4 v5 σ => X4_addCube_6 N k42 v1 v2 n v4 v5 σ) k42 v1 v2 v4 v5 σ
def X4_addCube_92b (k92 : (Int32 → St → Option (St))) (k128 : (St → Option (St))) (v4 : Int32) (v5 : Int64) (v7 : Int32) (σ : St) : Option (St) :=
  if v4 < v7 then
    k128 σ
  else
    if (70 : Int32) ≤ v7 then
      k128 σ
    else
      gd (inb v7 70) (
      gd (inb v7 70) (
      nm (sb σ 5 v7.toNatClampNeg ((σ.2.2.2 5 v7.toNatClampNeg) &&& (v5 ^^^ (-1 : Int64)))) (fun (σ5 : St) =>
      nm (v7 + (1 : Int32)) (fun (x6 : Int32) =>
      k92 x6 σ5))))
def X4_addCube_92 (k128 : (St → Option (St))) (v4 : Int32) (v5 : Int64) : Nat → Int32 → St → Option (St)
  | 0, _, _ => none
  | n + 1, v7, σ => X4_addCube_92b (fun v7 σ => X4_addCube_92 k128 v4 v5 n v7 σ) k128 v4 v5 v7 σ
def X4_addCube_128 (σ : St) : Option (St) :=
  some σ
def X4_addCube_42 (N : Nat) (v1 : Int32) (v2 : Int32) (v4 : Int32) (σ : St) : Option (St) :=
  bd (X0_statesInCube N σ v1 v2) (fun t1 =>
  bd (X1_removeCovered N t1 v4 σ) (fun t2 =>
  bd (X1_put v1 (v2 &&& v1) v4 t1 t2) (fun t3 =>
  nm (si t3 18 ((t3.1 18) + (1 : Int32))) (fun (σ4 : St) =>
  X4_addCube_92 (fun σ => X4_addCube_128 σ) v4 t1 N (1 : Int32) σ4))))
def X4_addCube (N : Nat) (v1 : Int32) (v2 : Int32) (v3 : Int32) (σ : St) : Option (St) :=
  X4_addCube_6 N (fun v1 v2 v4 σ => X4_addCube_42 N v1 v2 v4 σ) v1 v2 N v3 (0 : Int32) σ
set_option maxRecDepth 20000 in
set_option maxHeartbeats 4000000 in
theorem c_X4_addCube {l : Launch} {D : va_G} {a : Nat → Nat} {cA : Nat → ClassId} {t : Nat} {F : (Nat → Prop) → State → Prop} (hF : EOK F) {σ : St} {N : Nat} {v1 : Int32} {v2 : Int32} {v3 : Int32} {σ' : St} (h : X4_addCube N v1 v2 v3 σ = some σ') : MetV l yX4_addCube cX4_addCube 8 none 2 D (tyW cA) (wS a cA) (ES t F) [.ref (a 4), .int v1, .int v2, .int v3] σ σ' := by
  refine mkV (by decide) (adrS a cA) rfl (Nat.le_of_ble_eq_true rfl) ?_
  intro p e R s m args below meth c A Q ls X hR hp hl
  obtain ⟨hx, hb, -, hown, hts, -⟩ := id X
  have J_6 : ∀ (v1 : Int32) (v2 : Int32) (k42 : (Int32 → Int32 → Int32 → St → Option (St))) (hk42 : ∀ (v1 : Int32) (v2 : Int32) (v4 : Int32) (σ : St) (H : Heap) (locs : List Loc) (ls : Array Slot), Pw D (wS a cA) A s.heap H locs σ → lv_has ls 8 [(0, .ref (a 4)), (1, .int v1), (2, .int v2), (4, .int v4)] → k42 v1 v2 v4 σ = some σ' → W p l e R s m args below meth c H locs 0 0 Q (F0 m 42 ls [])) (n : Nat) (v4 : Int32) (v5 : Int32) (σ : St) (H : Heap) (locs : List Loc) (ls : Array Slot), Pw D (wS a cA) A s.heap H locs σ → lv_has ls 8 [(0, .ref (a 4)), (1, .int v1), (2, .int v2), (4, .int v4), (5, .int v5)] → X4_addCube_6 N k42 v1 v2 n v4 v5 σ = some σ' → W p l e R s m args below meth c H locs 0 0 Q (F0 m 6 ls []) := by
    intro v1 v2 k42 hk42 n
    induction n with
    | zero => intro v4 v5 σ H locs ls hp hl h; exact nn_s (show (none : Option (St)) = some _ from h)
    | succ n ih =>
      intro v4 v5 σ H locs ls hp hl h
      have h : X4_addCube_6b N (fun v4 v5 σ => X4_addCube_6 N k42 v1 v2 n v4 v5 σ) k42 v1 v2 v4 v5 σ = some σ' := h
      unfold X4_addCube_6b at h
      have hk6 := ih
      refine lv_iload hx hb dX4_addCube_6 (lv_at hl 4 rfl) ?_
      refine lv_bipush (v := 70) hx hb dX4_addCube_8 (by decide) ?_
      refine lv_icmp_ge (tgt := 42) hx hb dX4_addCube_10 (by decide) (fun c1 => ?_) (fun c1 => ?_)
      · have h := it_p h c1
        exact hk42 v1 v2 v4 σ _ _ _ hp (lv_sub hl [0, 1, 2, 3] rfl) h
      · have h := it_n h c1
        refine lv_iload hx hb dX4_addCube_13 (lv_at hl 3 rfl) ?_
        refine lv_aload_n hx hb dX4_addCube_15 rfl (lv_at hl 0 rfl) ?_
        refine gS_X4_top X hp tw_35_7 dX4_addCube_16 ?_
        refine lv_icmp_ge (tgt := 42) hx hb dX4_addCube_19 (by decide) (fun c2 => ?_) (fun c2 => ?_)
        · have h := it_p h c2
          exact hk42 v1 v2 v4 σ _ _ _ hp (lv_sub hl [0, 1, 2, 3] rfl) h
        · have h := it_n h c2
          refine lv_aload_n hx hb dX4_addCube_22 rfl (lv_at hl 0 rfl) ?_
          refine lv_iload_n hx hb dX4_addCube_23 rfl (lv_at hl 1 rfl) ?_
          refine lv_iload_n hx hb dX4_addCube_24 rfl (lv_at hl 2 rfl) ?_
          refine lv_iload hx hb dX4_addCube_25 (lv_at hl 3 rfl) ?_
          obtain ⟨t3, ht3, h⟩ := bd_s h
          refine cl_Vi X (eokS hF) (c_X4_isBlocked hF ht3) tw_37_17 mw_X4_isBlocked (by decide) hp 4 rfl rfl rfl hl.1 rfl (Nat.le_of_ble_eq_true rfl) dX4_addCube_27 (fun H locs hp => ?_)
          refine lv_if_eq (tgt := 42) hx hb dX4_addCube_30 (by decide) (fun c4 => ?_) (fun c4 => ?_)
          · have h := it_p h c4
            exact hk42 v1 v2 v4 σ _ _ _ hp (lv_sub hl [0, 1, 2, 3] rfl) h
          · have h := it_n h c4
            obtain ⟨x5, ex5⟩ : ∃ z : Int32, z = v4 + (1 : Int32) := ⟨_, rfl⟩
            have h := nm_s h x5 ex5
            refine lv_iinc (v := x5) (lv' := [(4, .int x5), (0, .ref (a 4)), (1, .int v1), (2, .int v2), (5, .int v5)]) hx hb dX4_addCube_33 hl (k := 3) rfl (by rw [ex5]; rfl) (by decide) rfl (fun ls hl => ?_)
            obtain ⟨x6, ex6⟩ : ∃ z : Int32, z = v5 + (1 : Int32) := ⟨_, rfl⟩
            have h := nm_s h x6 ex6
            refine lv_iinc (v := x6) (lv' := [(5, .int x6), (4, .int x5), (0, .ref (a 4)), (1, .int v1), (2, .int v2)]) hx hb dX4_addCube_36 hl (k := 4) rfl (by rw [ex6]; rfl) (by decide) rfl (fun ls hl => ?_)
            refine lv_goto (tgt := 6) hx hb dX4_addCube_39 (by decide) ?_
            exact hk6 x5 x6 σ _ _ _ hp (lv_sub hl [2, 3, 4, 1, 0] rfl) h
  have J_92 : ∀ (v4 : Int32) (v5 : Int64) (k128 : (St → Option (St))) (hk128 : ∀ (σ : St) (H : Heap) (locs : List Loc) (ls : Array Slot), Pw D (wS a cA) A s.heap H locs σ → lv_has ls 8 [(0, .ref (a 4))] → k128 σ = some σ' → W p l e R s m args below meth c H locs 0 0 Q (F0 m 128 ls [])) (n : Nat) (v7 : Int32) (σ : St) (H : Heap) (locs : List Loc) (ls : Array Slot), Pw D (wS a cA) A s.heap H locs σ → lv_has ls 8 [(0, .ref (a 4)), (4, .int v4), (5, .long v5), (7, .int v7)] → X4_addCube_92 k128 v4 v5 n v7 σ = some σ' → W p l e R s m args below meth c H locs 0 0 Q (F0 m 92 ls []) := by
    intro v4 v5 k128 hk128 n
    induction n with
    | zero => intro v7 σ H locs ls hp hl h; exact nn_s (show (none : Option (St)) = some _ from h)
    | succ n ih =>
      intro v7 σ H locs ls hp hl h
      have h : X4_addCube_92b (fun v7 σ => X4_addCube_92 k128 v4 v5 n v7 σ) k128 v4 v5 v7 σ = some σ' := h
      unfold X4_addCube_92b at h
      have hk92 := ih
      refine lv_iload hx hb dX4_addCube_92 (lv_at hl 3 rfl) ?_
      refine lv_iload hx hb dX4_addCube_94 (lv_at hl 1 rfl) ?_
      refine lv_icmp_gt (tgt := 128) hx hb dX4_addCube_96 (by decide) (fun c1 => ?_) (fun c1 => ?_)
      · have h := it_p h c1
        exact hk128 σ _ _ _ hp (lv_sub hl [0] rfl) h
      · have h := it_n h c1
        refine lv_iload hx hb dX4_addCube_99 (lv_at hl 3 rfl) ?_
        refine lv_bipush (v := 70) hx hb dX4_addCube_101 (by decide) ?_
        refine lv_icmp_ge (tgt := 128) hx hb dX4_addCube_103 (by decide) (fun c2 => ?_) (fun c2 => ?_)
        · have h := it_p h c2
          exact hk128 σ _ _ _ hp (lv_sub hl [0] rfl) h
        · have h := it_n h c2
          refine lv_aload_n hx hb dX4_addCube_106 rfl (lv_at hl 0 rfl) ?_
          refine gS_X4_frames X hp tw_4_17 dX4_addCube_107 ?_
          refine lv_iload hx hb dX4_addCube_110 (lv_at hl 3 rfl) ?_
          refine lv_dup2_11 hx hb dX4_addCube_112 rfl rfl ?_
          obtain ⟨g3, h⟩ := gd_s h
          refine lS_X4_frames X hp g3 dX4_addCube_113 ?_
          refine lv_lload hx hb dX4_addCube_114 (lv_at hl 2 rfl) ?_
          refine lv_ldc2 hx hb hown (hts _ tw_36_23) dX4_addCube_116 ?_
          refine lv_lxor hx hb dX4_addCube_119 ?_
          refine lv_land hx hb dX4_addCube_120 ?_
          obtain ⟨g4, h⟩ := gd_s h
          refine sS_X4_frames X hp g4 dX4_addCube_121 (fun H locs σ5 eσ5 hp => ?_)
          have h := nm_s h σ5 eσ5
          obtain ⟨x6, ex6⟩ : ∃ z : Int32, z = v7 + (1 : Int32) := ⟨_, rfl⟩
          have h := nm_s h x6 ex6
          refine lv_iinc (v := x6) (lv' := [(7, .int x6), (0, .ref (a 4)), (4, .int v4), (5, .long v5)]) hx hb dX4_addCube_122 hl (k := 3) rfl (by rw [ex6]; rfl) (by decide) rfl (fun ls hl => ?_)
          refine lv_goto (tgt := 92) hx hb dX4_addCube_125 (by decide) ?_
          exact hk92 x6 σ5 _ _ _ hp (lv_sub hl [1, 2, 3, 0] rfl) h
  have J_128 : ∀  (σ : St) (H : Heap) (locs : List Loc) (ls : Array Slot), Pw D (wS a cA) A s.heap H locs σ → lv_has ls 8 [(0, .ref (a 4))] → X4_addCube_128 σ = some σ' → W p l e R s m args below meth c H locs 0 0 Q (F0 m 128 ls []) := by
    intro σ H locs ls hp hl h
    unfold X4_addCube_128 at h
    exact hR _ _ _ _ _ dX4_addCube_128 hp (Option.some.inj h)
  have J_42 : ∀ (v1 : Int32) (v2 : Int32) (v4 : Int32) (σ : St) (H : Heap) (locs : List Loc) (ls : Array Slot), Pw D (wS a cA) A s.heap H locs σ → lv_has ls 8 [(0, .ref (a 4)), (1, .int v1), (2, .int v2), (4, .int v4)] → X4_addCube_42 N v1 v2 v4 σ = some σ' → W p l e R s m args below meth c H locs 0 0 Q (F0 m 42 ls []) := by
    intro v1 v2 v4 σ H locs ls hp hl h
    unfold X4_addCube_42 at h
    refine lv_aload_n hx hb dX4_addCube_42 rfl (lv_at hl 0 rfl) ?_
    refine gS_X4_circuit X hp tw_4_12 dX4_addCube_43 ?_
    refine lv_iload_n hx hb dX4_addCube_46 rfl (lv_at hl 1 rfl) ?_
    refine lv_iload_n hx hb dX4_addCube_47 rfl (lv_at hl 2 rfl) ?_
    obtain ⟨t1, ht1, h⟩ := bd_s h
    refine cl_Vl X (eokS hF) (c_X0_statesInCube hF ht1) tw_37_13 mw_X0_statesInCube (by decide) hp 2 rfl rfl rfl hl.1 rfl (Nat.le_of_ble_eq_true rfl) dX4_addCube_48 (fun H locs hp => ?_)
    refine lv_lstore (lv' := [(5, .long t1), (0, .ref (a 4)), (1, .int v1), (2, .int v2), (4, .int v4)]) hx hb dX4_addCube_51 hl (by decide) rfl (fun ls hl => ?_)
    refine lv_aload_n hx hb dX4_addCube_53 rfl (lv_at hl 1 rfl) ?_
    refine gS_X4_cubes X hp tw_4_16 dX4_addCube_54 ?_
    refine lv_lload hx hb dX4_addCube_57 (lv_at hl 0 rfl) ?_
    refine lv_iload hx hb dX4_addCube_59 (lv_at hl 4 rfl) ?_
    obtain ⟨t2, ht2, h⟩ := bd_s h
    refine cl_Vv X (eokS hF) (c_X1_removeCovered hF ht2) tw_38_1 mw_X1_removeCovered (by decide) hp 6 rfl rfl rfl hl.1 rfl (Nat.le_of_ble_eq_true rfl) dX4_addCube_61 (fun H locs hp => ?_)
    refine lv_aload_n hx hb dX4_addCube_64 rfl (lv_at hl 1 rfl) ?_
    refine gS_X4_cubes X hp tw_4_16 dX4_addCube_65 ?_
    refine lv_iload_n hx hb dX4_addCube_68 rfl (lv_at hl 2 rfl) ?_
    refine lv_iload_n hx hb dX4_addCube_69 rfl (lv_at hl 3 rfl) ?_
    refine lv_iload_n hx hb dX4_addCube_70 rfl (lv_at hl 2 rfl) ?_
    refine lv_iand hx hb dX4_addCube_71 ?_
    refine lv_iload hx hb dX4_addCube_72 (lv_at hl 4 rfl) ?_
    refine lv_lload hx hb dX4_addCube_74 (lv_at hl 0 rfl) ?_
    obtain ⟨t3, ht3, h⟩ := bd_s h
    refine cl_Vv X (eokS hF) (c_X1_put hF ht3) tw_38_7 mw_X1_put (by decide) hp 6 rfl rfl rfl hl.1 rfl (Nat.le_of_ble_eq_true rfl) dX4_addCube_76 (fun H locs hp => ?_)
    refine lv_aload_n hx hb dX4_addCube_79 rfl (lv_at hl 1 rfl) ?_
    refine lv_dup hx hb dX4_addCube_80 rfl ?_
    refine gS_X4_added X hp tw_35_9 dX4_addCube_81 ?_
    refine lv_iconst (v := 1) hx hb dX4_addCube_84 (by decide) ?_
    refine lv_iadd hx hb dX4_addCube_85 ?_
    refine pS_X4_added X hp tw_35_9 dX4_addCube_86 (fun H locs σ4 eσ4 hp => ?_)
    have h := nm_s h σ4 eσ4
    refine lv_iconst (v := 1) hx hb dX4_addCube_89 (by decide) ?_
    refine lv_istore (lv' := [(7, .int (1 : Int32)), (5, .long t1), (0, .ref (a 4)), (1, .int v1), (2, .int v2), (4, .int v4)]) hx hb dX4_addCube_90 hl (by decide) rfl (fun ls hl => ?_)
    exact J_92 v4 t1 _ (fun σ H locs ls hp hl h => J_128 σ _ _ _ hp hl h) _ (1 : Int32) σ4 _ _ _ hp (lv_sub hl [2, 5, 1, 0] rfl) h
  unfold X4_addCube at h
  have hl := lv_sub (l' := [(0, .ref (a 4)), (1, .int v1), (2, .int v2), (3, .int v3)]) hl [0, 1, 2, 3] rfl
  refine lv_iload_n hx hb dX4_addCube_0 rfl (lv_at hl 3 rfl) ?_
  refine lv_istore (lv' := [(4, .int v3), (0, .ref (a 4)), (1, .int v1), (2, .int v2), (3, .int v3)]) hx hb dX4_addCube_1 hl (by decide) rfl (fun ls hl => ?_)
  refine lv_iconst (v := 0) hx hb dX4_addCube_3 (by decide) ?_
  refine lv_istore (lv' := [(5, .int (0 : Int32)), (4, .int v3), (0, .ref (a 4)), (1, .int v1), (2, .int v2), (3, .int v3)]) hx hb dX4_addCube_4 hl (by decide) rfl (fun ls hl => ?_)
  exact J_6 v1 v2 _ (fun v1 v2 v4 σ H locs ls hp hl h => J_42 v1 v2 v4 σ _ _ _ hp hl h) _ v3 (0 : Int32) σ _ _ _ hp (lv_sub hl [2, 3, 4, 1, 0] rfl) h
def X4_handle (N : Nat) (v1 : Int32) (v2 : Int32) (σ : St) : Option (Int32 × St) :=
  nm (si σ 17 ((σ.1 17) + (1 : Int32))) (fun (σ1 : St) =>
  bd (X0_initial σ1) (fun t2 =>
  bd (X6_contains t2 v1) (fun t3 =>
  if t3 = 0 then
    bd (X4_frameAt σ1 v2) (fun t5 =>
    bd (X6_contains t5 v1) (fun t6 =>
    if t6 = 0 then
      bd (X4_moveUp v1 v2 σ1) (fun t18 =>
      some ((0 : Int32), t18))
    else
      nm ((σ1.1 7) - (1 : Int32)) (fun (x8 : Int32) =>
      bd (X0_predecessorsOfCube N σ1 x8 v1) (fun t9 =>
      bd (X4_frameAt σ1 (v2 - (1 : Int32))) (fun t10 =>
      nm ((t9 &&& t10) &&& (((1 : Int64) <<< (v1.toInt64 &&& 63)) ^^^ (-1 : Int64))) (fun (x11 : Int64) =>
      if x11 = (0 : Int64) then
        bd (X4_generalize N v1 v2 σ1) (fun t13 =>
        bd (X4_addCube N t13.1 v1 v2 t13.2) (fun t14 =>
        bd (X4_moveUp v1 v2 t14) (fun t15 =>
        some ((0 : Int32), t15))))
      else
        bd (X6_leastOf x11) (fun t16 =>
        bd (X4_oblige t16 (v2 - (1 : Int32)) σ1) (fun t17 =>
        some ((0 : Int32), t17)))))))))
  else
    some ((1 : Int32), σ1))))
set_option maxRecDepth 20000 in
set_option maxHeartbeats 4000000 in
theorem c_X4_handle {l : Launch} {D : va_G} {a : Nat → Nat} {cA : Nat → ClassId} {t : Nat} {F : (Nat → Prop) → State → Prop} (hF : EOK F) {σ : St} {N : Nat} {v1 : Int32} {v2 : Int32} {r : Int32} {σ' : St} (h : X4_handle N v1 v2 σ = some (r, σ')) : MetI l yX4_handle cX4_handle 6 (some .boolean) 3 D (tyW cA) (wS a cA) (ES t F) [.ref (a 4), .int v1, .int v2] σ r σ' := by
  refine mkI (by decide) (adrS a cA) (Or.inr rfl) (Nat.le_of_ble_eq_true rfl) ?_
  intro p e R s m args below meth c A Q ls X hR hp hl
  obtain ⟨hx, hb, -, hown, hts, -⟩ := id X
  unfold X4_handle at h
  have hl := lv_sub (l' := [(0, .ref (a 4)), (1, .int v1), (2, .int v2)]) hl [0, 1, 2] rfl
  refine lv_aload_n hx hb dX4_handle_0 rfl (lv_at hl 0 rfl) ?_
  refine lv_dup hx hb dX4_handle_1 rfl ?_
  refine gS_X4_handled X hp tw_35_8 dX4_handle_2 ?_
  refine lv_iconst (v := 1) hx hb dX4_handle_5 (by decide) ?_
  refine lv_iadd hx hb dX4_handle_6 ?_
  refine pS_X4_handled X hp tw_35_8 dX4_handle_7 (fun H locs σ1 eσ1 hp => ?_)
  have h := nm_s h σ1 eσ1
  refine lv_aload_n hx hb dX4_handle_10 rfl (lv_at hl 0 rfl) ?_
  refine gS_X4_circuit X hp tw_4_12 dX4_handle_11 ?_
  obtain ⟨t2, ht2, h⟩ := bd_s h
  refine cl_Vl X (eokS hF) (c_X0_initial hF ht2) tw_35_14 mw_X0_initial (by decide) hp 2 rfl rfl rfl hl.1 rfl (Nat.le_of_ble_eq_true rfl) dX4_handle_14 (fun H locs hp => ?_)
  refine lv_iload_n hx hb dX4_handle_17 rfl (lv_at hl 1 rfl) ?_
  obtain ⟨t3, ht3, h⟩ := bd_s h
  refine cl_Ni X (eokS hF) (c_X6_contains (adrS a cA) (eokS hF) ht3) (nwS X (List.mem_of_getElem? (i := 4) rfl)) mw_X6_contains (by decide) hp hl.1 rfl (Nat.le_of_ble_eq_true rfl) dX4_handle_18 (fun H locs hp => ?_)
  refine lv_if_eq (tgt := 26) hx hb dX4_handle_21 (by decide) (fun c4 => ?_) (fun c4 => ?_)
  · have h := it_p h c4
    refine lv_aload_n hx hb dX4_handle_26 rfl (lv_at hl 0 rfl) ?_
    refine lv_iload_n hx hb dX4_handle_27 rfl (lv_at hl 2 rfl) ?_
    obtain ⟨t5, ht5, h⟩ := bd_s h
    refine cl_Vl X (eokS hF) (c_X4_frameAt hF ht5) tw_36_6 mw_X4_frameAt (by decide) hp 4 rfl rfl rfl hl.1 rfl (Nat.le_of_ble_eq_true rfl) dX4_handle_28 (fun H locs hp => ?_)
    refine lv_iload_n hx hb dX4_handle_31 rfl (lv_at hl 1 rfl) ?_
    obtain ⟨t6, ht6, h⟩ := bd_s h
    refine cl_Ni X (eokS hF) (c_X6_contains (adrS a cA) (eokS hF) ht6) (nwS X (List.mem_of_getElem? (i := 4) rfl)) mw_X6_contains (by decide) hp hl.1 rfl (Nat.le_of_ble_eq_true rfl) dX4_handle_32 (fun H locs hp => ?_)
    refine lv_if_ne (tgt := 46) hx hb dX4_handle_35 (by decide) (fun c7 => ?_) (fun c7 => ?_)
    · have h := it_n h c7
      refine lv_aload_n hx hb dX4_handle_46 rfl (lv_at hl 0 rfl) ?_
      refine gS_X4_circuit X hp tw_4_12 dX4_handle_47 ?_
      refine gS_X0_states X hp tw_36_22 dX4_handle_50 ?_
      refine lv_iconst (v := 1) hx hb dX4_handle_53 (by decide) ?_
      refine lv_isub hx hb dX4_handle_54 ?_
      refine lv_topi (fun x8 ex8 => ?_)
      have h := nm_s h x8 ex8
      refine lv_istore_n (lv' := [(3, .int x8), (0, .ref (a 4)), (1, .int v1), (2, .int v2)]) hx hb dX4_handle_55 rfl hl (by decide) rfl (fun ls hl => ?_)
      refine lv_aload_n hx hb dX4_handle_56 rfl (lv_at hl 1 rfl) ?_
      refine gS_X4_circuit X hp tw_4_12 dX4_handle_57 ?_
      refine lv_iload_n hx hb dX4_handle_60 rfl (lv_at hl 0 rfl) ?_
      refine lv_iload_n hx hb dX4_handle_61 rfl (lv_at hl 2 rfl) ?_
      obtain ⟨t9, ht9, h⟩ := bd_s h
      refine cl_Vl X (eokS hF) (c_X0_predecessorsOfCube hF ht9) tw_37_4 mw_X0_predecessorsOfCube (by decide) hp 2 rfl rfl rfl hl.1 rfl (Nat.le_of_ble_eq_true rfl) dX4_handle_62 (fun H locs hp => ?_)
      refine lv_aload_n hx hb dX4_handle_65 rfl (lv_at hl 1 rfl) ?_
      refine lv_iload_n hx hb dX4_handle_66 rfl (lv_at hl 3 rfl) ?_
      refine lv_iconst (v := 1) hx hb dX4_handle_67 (by decide) ?_
      refine lv_isub hx hb dX4_handle_68 ?_
      obtain ⟨t10, ht10, h⟩ := bd_s h
      refine cl_Vl X (eokS hF) (c_X4_frameAt hF ht10) tw_36_6 mw_X4_frameAt (by decide) hp 4 rfl rfl rfl hl.1 rfl (Nat.le_of_ble_eq_true rfl) dX4_handle_69 (fun H locs hp => ?_)
      refine lv_land hx hb dX4_handle_72 ?_
      refine lv_lconst (v := 1) hx hb dX4_handle_73 (by decide) ?_
      refine lv_iload_n hx hb dX4_handle_74 rfl (lv_at hl 2 rfl) ?_
      refine lv_lshl hx hb dX4_handle_75 rfl ?_
      refine lv_ldc2 hx hb hown (hts _ tw_36_23) dX4_handle_76 ?_
      refine lv_lxor hx hb dX4_handle_79 ?_
      refine lv_land hx hb dX4_handle_80 ?_
      refine lv_topl (fun x11 ex11 => ?_)
      have h := nm_s h x11 ex11
      refine lv_lstore (lv' := [(4, .long x11), (3, .int x8), (0, .ref (a 4)), (1, .int v1), (2, .int v2)]) hx hb dX4_handle_81 hl (by decide) rfl (fun ls hl => ?_)
      refine lv_lload hx hb dX4_handle_83 (lv_at hl 0 rfl) ?_
      refine lv_lconst (v := 0) hx hb dX4_handle_85 (by decide) ?_
      refine W.lcmp hx hb dX4_handle_86 ?_
      refine lv_if_eq (tgt := 104) hx hb dX4_handle_87 (by decide) (fun c12 => ?_) (fun c12 => ?_)
      · have h := it_p h (lcmp0.mp c12)
        refine lv_aload_n hx hb dX4_handle_104 rfl (lv_at hl 2 rfl) ?_
        refine lv_aload_n hx hb dX4_handle_105 rfl (lv_at hl 2 rfl) ?_
        refine lv_iload_n hx hb dX4_handle_106 rfl (lv_at hl 3 rfl) ?_
        refine lv_iload_n hx hb dX4_handle_107 rfl (lv_at hl 4 rfl) ?_
        obtain ⟨t13, ht13, h⟩ := bd_s h
        refine cl_Vi X (eokS hF) (c_X4_generalize hF ht13) tw_37_8 mw_X4_generalize (by decide) hp 4 rfl rfl rfl hl.1 rfl (Nat.le_of_ble_eq_true rfl) dX4_handle_108 (fun H locs hp => ?_)
        refine lv_iload_n hx hb dX4_handle_111 rfl (lv_at hl 3 rfl) ?_
        refine lv_iload_n hx hb dX4_handle_112 rfl (lv_at hl 4 rfl) ?_
        obtain ⟨t14, ht14, h⟩ := bd_s h
        refine cl_Vv X (eokS hF) (c_X4_addCube hF ht14) tw_37_21 mw_X4_addCube (by decide) hp 4 rfl rfl rfl hl.1 rfl (Nat.le_of_ble_eq_true rfl) dX4_handle_113 (fun H locs hp => ?_)
        refine lv_aload_n hx hb dX4_handle_116 rfl (lv_at hl 2 rfl) ?_
        refine lv_iload_n hx hb dX4_handle_117 rfl (lv_at hl 3 rfl) ?_
        refine lv_iload_n hx hb dX4_handle_118 rfl (lv_at hl 4 rfl) ?_
        obtain ⟨t15, ht15, h⟩ := bd_s h
        refine cl_Vv X (eokS hF) (c_X4_moveUp hF ht15) tw_37_0 mw_X4_moveUp (by decide) hp 4 rfl rfl rfl hl.1 rfl (Nat.le_of_ble_eq_true rfl) dX4_handle_119 (fun H locs hp => ?_)
        refine lv_iconst (v := 0) hx hb dX4_handle_122 (by decide) ?_
        exact hR _ _ _ _ _ _ dX4_handle_123 hp (congrArg Prod.fst (Option.some.inj h)) (congrArg Prod.snd (Option.some.inj h)) (fun _ => Or.inl rfl)
      · have h := it_n h (fun q => c12 (lcmp0.mpr q))
        refine lv_aload_n hx hb dX4_handle_90 rfl (lv_at hl 2 rfl) ?_
        refine lv_lload hx hb dX4_handle_91 (lv_at hl 0 rfl) ?_
        obtain ⟨t16, ht16, h⟩ := bd_s h
        refine cl_Ni X (eokS hF) (c_X6_leastOf (adrS a cA) (eokS hF) ht16) (nwS X (List.mem_of_getElem? (i := 3) rfl)) mw_X6_leastOf (by decide) hp hl.1 rfl (Nat.le_of_ble_eq_true rfl) dX4_handle_93 (fun H locs hp => ?_)
        refine lv_iload_n hx hb dX4_handle_96 rfl (lv_at hl 4 rfl) ?_
        refine lv_iconst (v := 1) hx hb dX4_handle_97 (by decide) ?_
        refine lv_isub hx hb dX4_handle_98 ?_
        obtain ⟨t17, ht17, h⟩ := bd_s h
        refine cl_Vv X (eokS hF) (c_X4_oblige hF ht17) tw_36_10 mw_X4_oblige (by decide) hp 4 rfl rfl rfl hl.1 rfl (Nat.le_of_ble_eq_true rfl) dX4_handle_99 (fun H locs hp => ?_)
        refine lv_iconst (v := 0) hx hb dX4_handle_102 (by decide) ?_
        exact hR _ _ _ _ _ _ dX4_handle_103 hp (congrArg Prod.fst (Option.some.inj h)) (congrArg Prod.snd (Option.some.inj h)) (fun _ => Or.inl rfl)
    · have h := it_p h c7
      refine lv_aload_n hx hb dX4_handle_38 rfl (lv_at hl 0 rfl) ?_
      refine lv_iload_n hx hb dX4_handle_39 rfl (lv_at hl 1 rfl) ?_
      refine lv_iload_n hx hb dX4_handle_40 rfl (lv_at hl 2 rfl) ?_
      obtain ⟨t18, ht18, h⟩ := bd_s h
      refine cl_Vv X (eokS hF) (c_X4_moveUp hF ht18) tw_37_0 mw_X4_moveUp (by decide) hp 4 rfl rfl rfl hl.1 rfl (Nat.le_of_ble_eq_true rfl) dX4_handle_41 (fun H locs hp => ?_)
      refine lv_iconst (v := 0) hx hb dX4_handle_44 (by decide) ?_
      exact hR _ _ _ _ _ _ dX4_handle_45 hp (congrArg Prod.fst (Option.some.inj h)) (congrArg Prod.snd (Option.some.inj h)) (fun _ => Or.inl rfl)
  · have h := it_n h c4
    refine lv_iconst (v := 1) hx hb dX4_handle_24 (by decide) ?_
    exact hR _ _ _ _ _ _ dX4_handle_25 hp (congrArg Prod.fst (Option.some.inj h)) (congrArg Prod.snd (Option.some.inj h)) (fun _ => Or.inr rfl)
