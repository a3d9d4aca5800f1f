/- X0_putTable X0_fillRow X0_restart X6_forgetResults X6_begin X3_isFull X3_put X6_append X6_clearBuffer X3_codeAt X3_isInputName X3_isOperand X3_takesOperand X3_takesOperator X3_read -/
def X0_putTable (v1 : Int32) (v2 : Int32) (v3 : Int64) (σ : St) : Option (St) :=
  nm ((v1 * (4 : Int32)) + v2) (fun (x1 : Int32) =>
  if x1 < 0 then
    some σ
  else
    if (32 : Int32) ≤ x1 then
      some σ
    else
      gd (inb x1 32) (
      nm (sb σ 1 x1.toNatClampNeg v3) (fun (σ5 : St) =>
      some σ5)))
set_option maxRecDepth 20000 in
set_option maxHeartbeats 4000000 in
theorem c_X0_putTable {l : Launch} {D : va_G} {a : Nat → Nat} {cA : Nat → ClassId} {t : Nat} {F : (Nat → Prop) → State → Prop} (hF : EOK F) {σ : St} {v1 : Int32} {v2 : Int32} {v3 : Int64} {σ' : St} (h : X0_putTable v1 v2 v3 σ = some σ') : MetV l yX0_putTable cX0_putTable 6 none 0 D (tyW cA) (wS a cA) (ES t F) [.ref (a 2), .int v1, .int v2, .long v3] σ σ' := by
  refine mkV (by decide) (adrS a cA) rfl (Nat.le_of_ble_eq_true rfl) ?_
  intro p e R s m args below meth c A Q ls X hR hp hl
  obtain ⟨hx, hb, -, hown, hts, -⟩ := id X
  unfold X0_putTable at h
  have hl := lv_sub (l' := [(0, .ref (a 2)), (1, .int v1), (2, .int v2), (3, .long v3)]) hl [0, 1, 2, 3] rfl
  refine lv_iload_n hx hb dX0_putTable_0 rfl (lv_at hl 1 rfl) ?_
  refine lv_iconst (v := 4) hx hb dX0_putTable_1 (by decide) ?_
  refine lv_imul hx hb dX0_putTable_2 ?_
  refine lv_iload_n hx hb dX0_putTable_3 rfl (lv_at hl 2 rfl) ?_
  refine lv_iadd hx hb dX0_putTable_4 ?_
  refine lv_topi (fun x1 ex1 => ?_)
  have h := nm_s h x1 ex1
  refine lv_istore (lv' := [(5, .int x1), (0, .ref (a 2)), (1, .int v1), (2, .int v2), (3, .long v3)]) hx hb dX0_putTable_5 hl (by decide) rfl (fun ls hl => ?_)
  refine lv_iload hx hb dX0_putTable_7 (lv_at hl 0 rfl) ?_
  refine lv_if_lt (tgt := 30) hx hb dX0_putTable_9 (by decide) (fun c2 => ?_) (fun c2 => ?_)
  · have h := it_p h c2
    exact hR _ _ _ _ _ dX0_putTable_30 hp (Option.some.inj h)
  · have h := it_n h c2
    refine lv_iload hx hb dX0_putTable_12 (lv_at hl 0 rfl) ?_
    refine lv_aload_n hx hb dX0_putTable_14 rfl (lv_at hl 1 rfl) ?_
    refine gS_X0_tables X hp tw_2_21 dX0_putTable_15 ?_
    refine nS_X0_tables X hp dX0_putTable_18 ?_
    refine lv_icmp_ge (tgt := 30) hx hb dX0_putTable_19 (by decide) (fun c3 => ?_) (fun c3 => ?_)
    · have h := it_p h c3
      exact hR _ _ _ _ _ dX0_putTable_30 hp (Option.some.inj h)
    · have h := it_n h c3
      refine lv_aload_n hx hb dX0_putTable_22 rfl (lv_at hl 1 rfl) ?_
      refine gS_X0_tables X hp tw_2_21 dX0_putTable_23 ?_
      refine lv_iload hx hb dX0_putTable_26 (lv_at hl 0 rfl) ?_
      refine lv_lload_n hx hb dX0_putTable_28 rfl (lv_at hl 4 rfl) ?_
      obtain ⟨g4, h⟩ := gd_s h
      refine sS_X0_tables X hp g4 dX0_putTable_29 (fun H locs σ5 eσ5 hp => ?_)
      have h := nm_s h σ5 eσ5
      exact hR _ _ _ _ _ dX0_putTable_30 hp (Option.some.inj h)
def X0_fillRow_3b (k3 : (Int32 → St → Option (St))) (k23 : (St → Option (St))) (v1 : Int32) (v2 : Int64) (v4 : Int32) (σ : St) : Option (St) :=
  if (4 : Int32) ≤ v4 then
    k23 σ
  else
    bd (X0_putTable v1 v4 v2 σ) (fun t2 =>
    nm (v4 + (1 : Int32)) (fun (x3 : Int32) =>
    k3 x3 t2))
def X0_fillRow_3 (k23 : (St → Option (St))) (v1 : Int32) (v2 : Int64) : Nat → Int32 → St → Option (St)
  | 0, _, _ => none
  | n + 1, v4, σ => X0_fillRow_3b (fun v4 σ => X0_fillRow_3 k23 v1 v2 n v4 σ) k23 v1 v2 v4 σ
def X0_fillRow_23 (σ : St) : Option (St) :=
  some σ
def X0_fillRow (N : Nat) (v1 : Int32) (v2 : Int64) (σ : St) : Option (St) :=
  X0_fillRow_3 (fun σ => X0_fillRow_23 σ) v1 v2 N (0 : Int32) σ
set_option maxRecDepth 20000 in
set_option maxHeartbeats 4000000 in
theorem c_X0_fillRow {l : Launch} {D : va_G} {a : Nat → Nat} {cA : Nat → ClassId} {t : Nat} {F : (Nat → Prop) → State → Prop} (hF : EOK F) {σ : St} {N : Nat} {v1 : Int32} {v2 : Int64} {σ' : St} (h : X0_fillRow N v1 v2 σ = some σ') : MetV l yX0_fillRow cX0_fillRow 5 none 1 D (tyW cA) (wS a cA) (ES t F) [.ref (a 2), .int v1, .long v2] σ σ' := by
  refine mkV (by decide) (adrS a cA) rfl (Nat.le_of_ble_eq_true rfl) ?_
  intro p e R s m args below meth c A Q ls X hR hp hl
  obtain ⟨hx, hb, -, hown, hts, -⟩ := id X
  have J_3 : ∀ (v1 : Int32) (v2 : Int64) (k23 : (St → Option (St))) (hk23 : ∀ (σ : St) (H : Heap) (locs : List Loc) (ls : Array Slot), Pw D (wS a cA) A s.heap H locs σ → lv_has ls 5 [(0, .ref (a 2))] → k23 σ = some σ' → W p l e R s m args below meth c H locs 0 0 Q (F0 m 23 ls [])) (n : Nat) (v4 : Int32) (σ : St) (H : Heap) (locs : List Loc) (ls : Array Slot), Pw D (wS a cA) A s.heap H locs σ → lv_has ls 5 [(0, .ref (a 2)), (1, .int v1), (2, .long v2), (4, .int v4)] → X0_fillRow_3 k23 v1 v2 n v4 σ = some σ' → W p l e R s m args below meth c H locs 0 0 Q (F0 m 3 ls []) := by
    intro v1 v2 k23 hk23 n
    induction n with
    | zero => intro v4 σ H locs ls hp hl h; exact nn_s (show (none : Option (St)) = some _ from h)
    | succ n ih =>
      intro v4 σ H locs ls hp hl h
      have h : X0_fillRow_3b (fun v4 σ => X0_fillRow_3 k23 v1 v2 n v4 σ) k23 v1 v2 v4 σ = some σ' := h
      unfold X0_fillRow_3b at h
      have hk3 := ih
      refine lv_iload hx hb dX0_fillRow_3 (lv_at hl 3 rfl) ?_
      refine lv_iconst (v := 4) hx hb dX0_fillRow_5 (by decide) ?_
      refine lv_icmp_ge (tgt := 23) hx hb dX0_fillRow_6 (by decide) (fun c1 => ?_) (fun c1 => ?_)
      · have h := it_p h c1
        exact hk23 σ _ _ _ hp (lv_sub hl [0] rfl) h
      · have h := it_n h c1
        refine lv_aload_n hx hb dX0_fillRow_9 rfl (lv_at hl 0 rfl) ?_
        refine lv_iload_n hx hb dX0_fillRow_10 rfl (lv_at hl 1 rfl) ?_
        refine lv_iload hx hb dX0_fillRow_11 (lv_at hl 3 rfl) ?_
        refine lv_lload_n hx hb dX0_fillRow_13 rfl (lv_at hl 2 rfl) ?_
        obtain ⟨t2, ht2, h⟩ := bd_s h
        refine cl_Vv X (eokS hF) (c_X0_putTable hF ht2) tw_3_16 mw_X0_putTable (by decide) hp 2 rfl rfl rfl hl.1 rfl (Nat.le_of_ble_eq_true rfl) dX0_fillRow_14 (fun H locs hp => ?_)
        obtain ⟨x3, ex3⟩ : ∃ z : Int32, z = v4 + (1 : Int32) := ⟨_, rfl⟩
        have h := nm_s h x3 ex3
        refine lv_iinc (v := x3) (lv' := [(4, .int x3), (0, .ref (a 2)), (1, .int v1), (2, .long v2)]) hx hb dX0_fillRow_17 hl (k := 3) rfl (by rw [ex3]; rfl) (by decide) rfl (fun ls hl => ?_)
        refine lv_goto (tgt := 3) hx hb dX0_fillRow_20 (by decide) ?_
        exact hk3 x3 t2 _ _ _ hp (lv_sub hl [1, 2, 3, 0] rfl) h
  have J_23 : ∀  (σ : St) (H : Heap) (locs : List Loc) (ls : Array Slot), Pw D (wS a cA) A s.heap H locs σ → lv_has ls 5 [(0, .ref (a 2))] → X0_fillRow_23 σ = some σ' → W p l e R s m args below meth c H locs 0 0 Q (F0 m 23 ls []) := by
    intro σ H locs ls hp hl h
    unfold X0_fillRow_23 at h
    exact hR _ _ _ _ _ dX0_fillRow_23 hp (Option.some.inj h)
  unfold X0_fillRow at h
  have hl := lv_sub (l' := [(0, .ref (a 2)), (1, .int v1), (2, .long v2)]) hl [0, 1, 2] rfl
  refine lv_iconst (v := 0) hx hb dX0_fillRow_0 (by decide) ?_
  refine lv_istore (lv' := [(4, .int (0 : Int32)), (0, .ref (a 2)), (1, .int v1), (2, .long v2)]) hx hb dX0_fillRow_1 hl (by decide) rfl (fun ls hl => ?_)
  exact J_3 v1 v2 _ (fun σ H locs ls hp hl h => J_23 σ _ _ _ hp hl h) _ (0 : Int32) σ _ _ _ hp (lv_sub hl [1, 2, 3, 0] rfl) h
def X0_restart_63b (N : Nat) (k63 : (Int32 → St → Option (St))) (k90 : (St → Option (St))) (v3 : Int32) (σ : St) : Option (St) :=
  if (6 : Int32) ≤ v3 then
    k90 σ
  else
    gd (inb v3 6) (
    bd (X0_fillRow N v3 ((swb v3.toNatClampNeg) &&& (σ.2.1 0)) σ) (fun t3 =>
    nm (v3 + (1 : Int32)) (fun (x4 : Int32) =>
    k63 x4 t3)))
def X0_restart_63 (N : Nat) (k90 : (St → Option (St))) : Nat → Int32 → St → Option (St)
  | 0, _, _ => none
  | n + 1, v3, σ => X0_restart_63b N (fun v3 σ => X0_restart_63 N k90 n v3 σ) k90 v3 σ
def X0_restart_90 (N : Nat) (σ : St) : Option (St) :=
  bd (X0_fillRow N (6 : Int32) (1 : Int64) σ) (fun t1 =>
  bd (X0_fillRow N (7 : Int32) (t1.2.1 0) t1) (fun t2 =>
  some t2))
def X0_restart_48 (N : Nat) (u0 : Int64) (σ : St) : Option (St) :=
  nm (sj σ 0 u0) (fun (σ1 : St) =>
  nm (si σ1 9 (0 : Int32)) (fun (σ2 : St) =>
  nm (si σ2 10 (0 : Int32)) (fun (σ3 : St) =>
  X0_restart_63 N (fun σ => X0_restart_90 N σ) N (0 : Int32) σ3)))
def X0_restart (N : Nat) (v1 : Int32) (v2 : Int32) (σ : St) : Option (St) :=
  nm (si σ 5 v1) (fun (σ1 : St) =>
  nm (si σ1 6 v2) (fun (σ2 : St) =>
  nm (si σ2 7 ((1 : Int32) <<< (v1 &&& 31))) (fun (σ3 : St) =>
  nm (si σ3 8 ((1 : Int32) <<< (v2 &&& 31))) (fun (σ4 : St) =>
  if (σ4.1 7) < (64 : Int32) then
    X0_restart_48 N (((1 : Int64) <<< ((σ4.1 7).toInt64 &&& 63)) - (1 : Int64)) σ4
  else
    X0_restart_48 N (-1 : Int64) σ4))))
set_option maxRecDepth 20000 in
set_option maxHeartbeats 4000000 in
theorem c_X0_restart {l : Launch} {D : va_G} {a : Nat → Nat} {cA : Nat → ClassId} {t : Nat} {F : (Nat → Prop) → State → Prop} (hF : EOK F) {σ : St} {N : Nat} {v1 : Int32} {v2 : Int32} {σ' : St} (h : X0_restart N v1 v2 σ = some σ') : MetV l yX0_restart cX0_restart 4 none 2 D (tyW cA) (wS a cA) (ES t F) [.ref (a 2), .int v1, .int v2] σ σ' := by
  refine mkV (by decide) (adrS a cA) rfl (Nat.le_of_ble_eq_true rfl) ?_
  intro p e R s m args below meth c A Q ls X hR hp hl
  obtain ⟨hx, hb, -, hown, hts, -⟩ := id X
  have J_63 : ∀  (k90 : (St → Option (St))) (hk90 : ∀ (σ : St) (H : Heap) (locs : List Loc) (ls : Array Slot), Pw D (wS a cA) A s.heap H locs σ → lv_has ls 4 [(0, .ref (a 2))] → k90 σ = some σ' → W p l e R s m args below meth c H locs 0 0 Q (F0 m 90 ls [])) (n : Nat) (v3 : Int32) (σ : St) (H : Heap) (locs : List Loc) (ls : Array Slot), Pw D (wS a cA) A s.heap H locs σ → lv_has ls 4 [(0, .ref (a 2)), (3, .int v3)] → X0_restart_63 N k90 n v3 σ = some σ' → W p l e R s m args below meth c H locs 0 0 Q (F0 m 63 ls []) := by
    intro k90 hk90 n
    induction n with
    | zero => intro v3 σ H locs ls hp hl h; exact nn_s (show (none : Option (St)) = some _ from h)
    | succ n ih =>
      intro v3 σ H locs ls hp hl h
      have h : X0_restart_63b N (fun v3 σ => X0_restart_63 N k90 n v3 σ) k90 v3 σ = some σ' := h
      unfold X0_restart_63b at h
      have hk63 := ih
      refine lv_iload_n hx hb dX0_restart_63 rfl (lv_at hl 1 rfl) ?_
      refine lv_bipush (v := 6) hx hb dX0_restart_64 (by decide) ?_
      refine lv_icmp_ge (tgt := 90) hx hb dX0_restart_66 (by decide) (fun c1 => ?_) (fun c1 => ?_)
      · have h := it_p h c1
        exact hk90 σ _ _ _ hp (lv_sub hl [0] rfl) h
      · have h := it_n h c1
        refine lv_aload_n hx hb dX0_restart_69 rfl (lv_at hl 0 rfl) ?_
        refine lv_iload_n hx hb dX0_restart_70 rfl (lv_at hl 1 rfl) ?_
        refine gsS X hp (List.mem_of_getElem? (i := 0) rfl) dX0_restart_71 ?_
        refine lv_iload_n hx hb dX0_restart_74 rfl (lv_at hl 1 rfl) ?_
        obtain ⟨g2, h⟩ := gd_s h
        refine lsS X hp g2 dX0_restart_75 ?_
        refine lv_aload_n hx hb dX0_restart_76 rfl (lv_at hl 0 rfl) ?_
        refine gS_X0_all X hp tw_3_9 dX0_restart_77 ?_
        refine lv_land hx hb dX0_restart_80 ?_
        obtain ⟨t3, ht3, h⟩ := bd_s h
        refine cl_Vv X (eokS hF) (c_X0_fillRow hF ht3) tw_3_12 mw_X0_fillRow (by decide) hp 2 rfl rfl rfl hl.1 rfl (Nat.le_of_ble_eq_true rfl) dX0_restart_81 (fun H locs hp => ?_)
        obtain ⟨x4, ex4⟩ : ∃ z : Int32, z = v3 + (1 : Int32) := ⟨_, rfl⟩
        have h := nm_s h x4 ex4
        refine lv_iinc (v := x4) (lv' := [(3, .int x4), (0, .ref (a 2))]) hx hb dX0_restart_84 hl (k := 1) rfl (by rw [ex4]; rfl) (by decide) rfl (fun ls hl => ?_)
        refine lv_goto (tgt := 63) hx hb dX0_restart_87 (by decide) ?_
        exact hk63 x4 t3 _ _ _ hp (lv_sub hl [1, 0] rfl) h
  have J_90 : ∀  (σ : St) (H : Heap) (locs : List Loc) (ls : Array Slot), Pw D (wS a cA) A s.heap H locs σ → lv_has ls 4 [(0, .ref (a 2))] → X0_restart_90 N σ = some σ' → W p l e R s m args below meth c H locs 0 0 Q (F0 m 90 ls []) := by
    intro σ H locs ls hp hl h
    unfold X0_restart_90 at h
    refine lv_aload_n hx hb dX0_restart_90 rfl (lv_at hl 0 rfl) ?_
    refine lv_bipush (v := 6) hx hb dX0_restart_91 (by decide) ?_
    refine lv_lconst (v := 1) hx hb dX0_restart_93 (by decide) ?_
    obtain ⟨t1, ht1, h⟩ := bd_s h
    refine cl_Vv X (eokS hF) (c_X0_fillRow hF ht1) tw_3_12 mw_X0_fillRow (by decide) hp 2 rfl rfl rfl hl.1 rfl (Nat.le_of_ble_eq_true rfl) dX0_restart_94 (fun H locs hp => ?_)
    refine lv_aload_n hx hb dX0_restart_97 rfl (lv_at hl 0 rfl) ?_
    refine lv_bipush (v := 7) hx hb dX0_restart_98 (by decide) ?_
    refine lv_aload_n hx hb dX0_restart_100 rfl (lv_at hl 0 rfl) ?_
    refine gS_X0_all X hp tw_3_9 dX0_restart_101 ?_
    obtain ⟨t2, ht2, h⟩ := bd_s h
    refine cl_Vv X (eokS hF) (c_X0_fillRow hF ht2) tw_3_12 mw_X0_fillRow (by decide) hp 2 rfl rfl rfl hl.1 rfl (Nat.le_of_ble_eq_true rfl) dX0_restart_104 (fun H locs hp => ?_)
    exact hR _ _ _ _ _ dX0_restart_107 hp (Option.some.inj h)
  have J_48 : ∀ (u0 : Int64) (σ : St) (H : Heap) (locs : List Loc) (ls : Array Slot), Pw D (wS a cA) A s.heap H locs σ → lv_has ls 4 [(0, .ref (a 2))] → X0_restart_48 N u0 σ = some σ' → W p l e R s m args below meth c H locs 0 0 Q (F0 m 48 ls [.long u0, .ref (a 2)]) := by
    intro u0 σ H locs ls hp hl h
    unfold X0_restart_48 at h
    refine pS_X0_all X hp tw_3_9 dX0_restart_48 (fun H locs σ1 eσ1 hp => ?_)
    have h := nm_s h σ1 eσ1
    refine lv_aload_n hx hb dX0_restart_51 rfl (lv_at hl 0 rfl) ?_
    refine lv_iconst (v := 0) hx hb dX0_restart_52 (by decide) ?_
    refine pS_X0_oldestKept X hp tw_3_10 dX0_restart_53 (fun H locs σ2 eσ2 hp => ?_)
    have h := nm_s h σ2 eσ2
    refine lv_aload_n hx hb dX0_restart_56 rfl (lv_at hl 0 rfl) ?_
    refine lv_iconst (v := 0) hx hb dX0_restart_57 (by decide) ?_
    refine pS_X0_keptCount X hp tw_3_11 dX0_restart_58 (fun H locs σ3 eσ3 hp => ?_)
    have h := nm_s h σ3 eσ3
    refine lv_iconst (v := 0) hx hb dX0_restart_61 (by decide) ?_
    refine lv_istore_n (lv' := [(3, .int (0 : Int32)), (0, .ref (a 2))]) hx hb dX0_restart_62 rfl hl (by decide) rfl (fun ls hl => ?_)
    exact J_63 _ (fun σ H locs ls hp hl h => J_90 σ _ _ _ hp hl h) _ (0 : Int32) σ3 _ _ _ hp (lv_sub hl [1, 0] rfl) h
  unfold X0_restart at h
  have hl := lv_sub (l' := [(0, .ref (a 2)), (1, .int v1), (2, .int v2)]) hl [0, 1, 2] rfl
  refine lv_aload_n hx hb dX0_restart_0 rfl (lv_at hl 0 rfl) ?_
  refine lv_iload_n hx hb dX0_restart_1 rfl (lv_at hl 1 rfl) ?_
  refine pS_X0_bits X hp tw_3_4 dX0_restart_2 (fun H locs σ1 eσ1 hp => ?_)
  have h := nm_s h σ1 eσ1
  refine lv_aload_n hx hb dX0_restart_5 rfl (lv_at hl 0 rfl) ?_
  refine lv_iload_n hx hb dX0_restart_6 rfl (lv_at hl 2 rfl) ?_
  refine pS_X0_inputs X hp tw_3_5 dX0_restart_7 (fun H locs σ2 eσ2 hp => ?_)
  have h := nm_s h σ2 eσ2
  refine lv_aload_n hx hb dX0_restart_10 rfl (lv_at hl 0 rfl) ?_
  refine lv_iconst (v := 1) hx hb dX0_restart_11 (by decide) ?_
  refine lv_iload_n hx hb dX0_restart_12 rfl (lv_at hl 1 rfl) ?_
  refine lv_ishl hx hb dX0_restart_13 ?_
  refine pS_X0_states X hp tw_3_6 dX0_restart_14 (fun H locs σ3 eσ3 hp => ?_)
  have h := nm_s h σ3 eσ3
  refine lv_aload_n hx hb dX0_restart_17 rfl (lv_at hl 0 rfl) ?_
  refine lv_iconst (v := 1) hx hb dX0_restart_18 (by decide) ?_
  refine lv_iload_n hx hb dX0_restart_19 rfl (lv_at hl 2 rfl) ?_
  refine lv_ishl hx hb dX0_restart_20 ?_
  refine pS_X0_inputValues X hp tw_3_7 dX0_restart_21 (fun H locs σ4 eσ4 hp => ?_)
  have h := nm_s h σ4 eσ4
  refine lv_aload_n hx hb dX0_restart_24 rfl (lv_at hl 0 rfl) ?_
  refine lv_aload_n hx hb dX0_restart_25 rfl (lv_at hl 0 rfl) ?_
  refine gS_X0_states X hp tw_3_6 dX0_restart_26 ?_
  refine lv_bipush (v := 64) hx hb dX0_restart_29 (by decide) ?_
  refine lv_icmp_lt (tgt := 40) hx hb dX0_restart_31 (by decide) (fun c5 => ?_) (fun c5 => ?_)
  · have h := it_p h c5
    refine lv_lconst (v := 1) hx hb dX0_restart_40 (by decide) ?_
    refine lv_aload_n hx hb dX0_restart_41 rfl (lv_at hl 0 rfl) ?_
    refine gS_X0_states X hp tw_3_6 dX0_restart_42 ?_
    refine lv_lshl hx hb dX0_restart_45 rfl ?_
    refine lv_lconst (v := 1) hx hb dX0_restart_46 (by decide) ?_
    refine lv_lsub hx hb dX0_restart_47 ?_
    exact J_48 (((1 : Int64) <<< ((σ4.1 7).toInt64 &&& 63)) - (1 : Int64)) σ4 _ _ _ hp (lv_sub hl [0] rfl) h
  · have h := it_n h c5
    refine lv_ldc2 hx hb hown (hts _ tw_3_8) dX0_restart_34 ?_
    refine lv_goto (tgt := 48) hx hb dX0_restart_37 (by decide) ?_
    exact J_48 (-1 : Int64) σ4 _ _ _ hp (lv_sub hl [0] rfl) h
def X6_forgetResults (σ : St) : Option (St) :=
  nm (si σ 13 (0 : Int32)) (fun (σ1 : St) =>
  nm (si σ1 14 (0 : Int32)) (fun (σ2 : St) =>
  some σ2))
set_option maxRecDepth 20000 in
set_option maxHeartbeats 4000000 in
theorem c_X6_forgetResults {l : Launch} {D : va_G} {a : Nat → Nat} {cA : Nat → ClassId} {t : Nat} {F : (Nat → Prop) → State → Prop} (hF : EOK F) {σ : St} {σ' : St} (h : X6_forgetResults σ = some σ') : MetV l yX6_forgetResults cX6_forgetResults 1 none 0 D (tyW cA) (wS a cA) (ES t F) [.ref (a 0)] σ σ' := by
  refine mkV (by decide) (adrS a cA) rfl (Nat.le_of_ble_eq_true rfl) ?_
  intro p e R s m args below meth c A Q ls X hR hp hl
  obtain ⟨hx, hb, -, hown, hts, -⟩ := id X
  unfold X6_forgetResults at h
  have hl := lv_sub (l' := [(0, .ref (a 0))]) hl [0] rfl
  refine lv_aload_n hx hb dX6_forgetResults_0 rfl (lv_at hl 0 rfl) ?_
  refine gS_X6_exploration X hp tw_2_0 dX6_forgetResults_1 ?_
  refine lv_iconst (v := 0) hx hb dX6_forgetResults_4 (by decide) ?_
  refine pS_X2_isFresh X hp tw_8_3 (Or.inl rfl) dX6_forgetResults_5 (fun H locs σ1 eσ1 hp => ?_)
  have h := nm_s h σ1 eσ1
  refine lv_aload_n hx hb dX6_forgetResults_8 rfl (lv_at hl 0 rfl) ?_
  refine gS_X6_frameProof X hp tw_2_4 dX6_forgetResults_9 ?_
  refine lv_iconst (v := 0) hx hb dX6_forgetResults_12 (by decide) ?_
  refine pS_X4_exists X hp tw_8_4 (Or.inl rfl) dX6_forgetResults_13 (fun H locs σ2 eσ2 hp => ?_)
  have h := nm_s h σ2 eσ2
  exact hR _ _ _ _ _ dX6_forgetResults_16 hp (Option.some.inj h)
def X6_begin_20 (σ : St) : Option (Int32 × St) :=
  none
def X6_begin (N : Nat) (v1 : Int32) (v2 : Int32) (σ : St) : Option (Int32 × St) :=
  if v1 < (1 : Int32) then
    X6_begin_20 σ
  else
    if (6 : Int32) < v1 then
      X6_begin_20 σ
    else
      if v2 < 0 then
        X6_begin_20 σ
      else
        if v2 ≤ (2 : Int32) then
          bd (X0_restart N v1 v2 σ) (fun t5 =>
          bd (X6_forgetResults t5) (fun t6 =>
          some ((t6.1 7), t6)))
        else
          X6_begin_20 σ
set_option maxRecDepth 20000 in
set_option maxHeartbeats 4000000 in
theorem c_X6_begin {l : Launch} {D : va_G} {a : Nat → Nat} {cA : Nat → ClassId} {t : Nat} {F : (Nat → Prop) → State → Prop} (hF : EOK F) {σ : St} {N : Nat} {v1 : Int32} {v2 : Int32} {r : Int32} {σ' : St} (h : X6_begin N v1 v2 σ = some (r, σ')) : MetI l yX6_begin cX6_begin 3 (some .int) 3 D (tyW cA) (wS a cA) (ES t F) [.ref (a 0), .int v1, .int v2] σ r σ' := by
  refine mkI (by decide) (adrS a cA) (Or.inl rfl) (Nat.le_of_ble_eq_true rfl) ?_
  intro p e R s m args below meth c A Q ls X hR hp hl
  obtain ⟨hx, hb, -, hown, hts, -⟩ := id X
  have J_20 : ∀  (σ : St) (H : Heap) (locs : List Loc) (ls : Array Slot), Pw D (wS a cA) A s.heap H locs σ → lv_has ls 3 [(0, .ref (a 0))] → X6_begin_20 σ = some (r, σ') → W p l e R s m args below meth c H locs 0 0 Q (F0 m 20 ls []) := by
    intro σ H locs ls hp hl h
    unfold X6_begin_20 at h
    exact nn_s h
  unfold X6_begin at h
  have hl := lv_sub (l' := [(0, .ref (a 0)), (1, .int v1), (2, .int v2)]) hl [0, 1, 2] rfl
  refine lv_iload_n hx hb dX6_begin_0 rfl (lv_at hl 1 rfl) ?_
  refine lv_iconst (v := 1) hx hb dX6_begin_1 (by decide) ?_
  refine lv_icmp_lt (tgt := 20) hx hb dX6_begin_2 (by decide) (fun c1 => ?_) (fun c1 => ?_)
  · have h := it_p h c1
    exact J_20 σ _ _ _ hp (lv_sub hl [0] rfl) h
  · have h := it_n h c1
    refine lv_iload_n hx hb dX6_begin_5 rfl (lv_at hl 1 rfl) ?_
    refine lv_bipush (v := 6) hx hb dX6_begin_6 (by decide) ?_
    refine lv_icmp_gt (tgt := 20) hx hb dX6_begin_8 (by decide) (fun c2 => ?_) (fun c2 => ?_)
    · have h := it_p h c2
      exact J_20 σ _ _ _ hp (lv_sub hl [0] rfl) h
    · have h := it_n h c2
      refine lv_iload_n hx hb dX6_begin_11 rfl (lv_at hl 2 rfl) ?_
      refine lv_if_lt (tgt := 20) hx hb dX6_begin_12 (by decide) (fun c3 => ?_) (fun c3 => ?_)
      · have h := it_p h c3
        exact J_20 σ _ _ _ hp (lv_sub hl [0] rfl) h
      · have h := it_n h c3
        refine lv_iload_n hx hb dX6_begin_15 rfl (lv_at hl 2 rfl) ?_
        refine lv_iconst (v := 2) hx hb dX6_begin_16 (by decide) ?_
        refine lv_icmp_le (tgt := 30) hx hb dX6_begin_17 (by decide) (fun c4 => ?_) (fun c4 => ?_)
        · have h := it_p h c4
          refine lv_aload_n hx hb dX6_begin_30 rfl (lv_at hl 0 rfl) ?_
          refine gS_X6_circuit X hp tw_1_20 dX6_begin_31 ?_
          refine lv_iload_n hx hb dX6_begin_34 rfl (lv_at hl 1 rfl) ?_
          refine lv_iload_n hx hb dX6_begin_35 rfl (lv_at hl 2 rfl) ?_
          obtain ⟨t5, ht5, h⟩ := bd_s h
          refine cl_Vv X (eokS hF) (c_X0_restart hF ht5) tw_7_22 mw_X0_restart (by decide) hp 2 rfl rfl rfl hl.1 rfl (Nat.le_of_ble_eq_true rfl) dX6_begin_36 (fun H locs hp => ?_)
          refine lv_aload_n hx hb dX6_begin_39 rfl (lv_at hl 0 rfl) ?_
          obtain ⟨t6, ht6, h⟩ := bd_s h
          refine cl_Vv X (eokS hF) (c_X6_forgetResults hF ht6) tw_7_23 mw_X6_forgetResults (by decide) hp 0 rfl rfl rfl hl.1 rfl (Nat.le_of_ble_eq_true rfl) dX6_begin_40 (fun H locs hp => ?_)
          refine lv_aload_n hx hb dX6_begin_43 rfl (lv_at hl 0 rfl) ?_
          refine gS_X6_circuit X hp tw_1_20 dX6_begin_44 ?_
          refine gS_X0_states X hp tw_7_21 dX6_begin_47 ?_
          exact hR _ _ _ _ _ _ dX6_begin_50 hp (congrArg Prod.fst (Option.some.inj h)) (congrArg Prod.snd (Option.some.inj h)) (fun q => by cases q)
        · have h := it_n h c4
          exact J_20 σ _ _ _ hp (lv_sub hl [0] rfl) h
def X3_isFull (σ : St) : Option (Int32) :=
  if (σ.1 0) < (60 : Int32) then
    some (0 : Int32)
  else
    some (1 : Int32)
set_option maxRecDepth 20000 in
set_option maxHeartbeats 4000000 in
theorem c_X3_isFull {l : Launch} {D : va_G} {a : Nat → Nat} {cA : Nat → ClassId} {t : Nat} {F : (Nat → Prop) → State → Prop} (hF : EOK F) {σ : St} {r : Int32} (h : X3_isFull σ = some r) : MetI l yX3_isFull cX3_isFull 1 (some .boolean) 0 D (tyW cA) (wS a cA) (ES t F) [.ref (a 1)] σ r σ := by
  refine mkI (by decide) (adrS a cA) (Or.inr rfl) (Nat.le_of_ble_eq_true rfl) ?_
  intro p e R s m args below meth c A Q ls X hR hp hl
  obtain ⟨hx, hb, -, hown, hts, -⟩ := id X
  unfold X3_isFull at h
  have hl := lv_sub (l' := [(0, .ref (a 1))]) hl [0] rfl
  refine lv_aload_n hx hb dX3_isFull_0 rfl (lv_at hl 0 rfl) ?_
  refine gS_X3_length X hp tw_9_8 dX3_isFull_1 ?_
  refine lv_bipush (v := 60) hx hb dX3_isFull_4 (by decide) ?_
  refine lv_icmp_lt (tgt := 13) hx hb dX3_isFull_6 (by decide) (fun c1 => ?_) (fun c1 => ?_)
  · have h := it_p h c1
    refine lv_iconst (v := 0) hx hb dX3_isFull_13 (by decide) ?_
    exact hR _ _ _ _ _ _ dX3_isFull_14 hp (Option.some.inj h) rfl (fun _ => Or.inl rfl)
  · have h := it_n h c1
    refine lv_iconst (v := 1) hx hb dX3_isFull_9 (by decide) ?_
    refine lv_goto (tgt := 14) hx hb dX3_isFull_10 (by decide) ?_
    exact hR _ _ _ _ _ _ dX3_isFull_14 hp (Option.some.inj h) rfl (fun _ => Or.inr rfl)
def X3_put (v1 : Int32) (σ : St) : Option (St) :=
  if (σ.1 0) < 0 then
    some σ
  else
    if (60 : Int32) ≤ (σ.1 0) then
      some σ
    else
      gd (inb (σ.1 0) 60) (
      nm (sa σ 0 (σ.1 0).toNatClampNeg v1) (fun (σ4 : St) =>
      nm (si σ4 0 ((σ4.1 0) + (1 : Int32))) (fun (σ5 : St) =>
      some σ5)))
set_option maxRecDepth 20000 in
set_option maxHeartbeats 4000000 in
theorem c_X3_put {l : Launch} {D : va_G} {a : Nat → Nat} {cA : Nat → ClassId} {t : Nat} {F : (Nat → Prop) → State → Prop} (hF : EOK F) {σ : St} {v1 : Int32} {σ' : St} (h : X3_put v1 σ = some σ') : MetV l yX3_put cX3_put 2 none 0 D (tyW cA) (wS a cA) (ES t F) [.ref (a 1), .int v1] σ σ' := by
  refine mkV (by decide) (adrS a cA) rfl (Nat.le_of_ble_eq_true rfl) ?_
  intro p e R s m args below meth c A Q ls X hR hp hl
  obtain ⟨hx, hb, -, hown, hts, -⟩ := id X
  unfold X3_put at h
  have hl := lv_sub (l' := [(0, .ref (a 1)), (1, .int v1)]) hl [0, 1] rfl
  refine lv_aload_n hx hb dX3_put_0 rfl (lv_at hl 0 rfl) ?_
  refine gS_X3_length X hp tw_9_8 dX3_put_1 ?_
  refine lv_if_lt (tgt := 36) hx hb dX3_put_4 (by decide) (fun c1 => ?_) (fun c1 => ?_)
  · have h := it_p h c1
    exact hR _ _ _ _ _ dX3_put_36 hp (Option.some.inj h)
  · have h := it_n h c1
    refine lv_aload_n hx hb dX3_put_7 rfl (lv_at hl 0 rfl) ?_
    refine gS_X3_length X hp tw_9_8 dX3_put_8 ?_
    refine lv_bipush (v := 60) hx hb dX3_put_11 (by decide) ?_
    refine lv_icmp_ge (tgt := 36) hx hb dX3_put_13 (by decide) (fun c2 => ?_) (fun c2 => ?_)
    · have h := it_p h c2
      exact hR _ _ _ _ _ dX3_put_36 hp (Option.some.inj h)
    · have h := it_n h c2
      refine lv_aload_n hx hb dX3_put_16 rfl (lv_at hl 0 rfl) ?_
      refine gS_X3_codes X hp tw_2_14 dX3_put_17 ?_
      refine lv_aload_n hx hb dX3_put_20 rfl (lv_at hl 0 rfl) ?_
      refine gS_X3_length X hp tw_9_8 dX3_put_21 ?_
      refine lv_iload_n hx hb dX3_put_24 rfl (lv_at hl 1 rfl) ?_
      obtain ⟨g3, h⟩ := gd_s h
      refine sS_X3_codes X hp g3 dX3_put_25 (fun H locs σ4 eσ4 hp => ?_)
      have h := nm_s h σ4 eσ4
      refine lv_aload_n hx hb dX3_put_26 rfl (lv_at hl 0 rfl) ?_
      refine lv_dup hx hb dX3_put_27 rfl ?_
      refine gS_X3_length X hp tw_9_8 dX3_put_28 ?_
      refine lv_iconst (v := 1) hx hb dX3_put_31 (by decide) ?_
      refine lv_iadd hx hb dX3_put_32 ?_
      refine pS_X3_length X hp tw_9_8 dX3_put_33 (fun H locs σ5 eσ5 hp => ?_)
      have h := nm_s h σ5 eσ5
      exact hR _ _ _ _ _ dX3_put_36 hp (Option.some.inj h)
def X6_append_12 (σ : St) : Option (Int32 × St) :=
  none
def X6_append (v1 : Int32) (σ : St) : Option (Int32 × St) :=
  if v1 < (33 : Int32) then
    X6_append_12 σ
  else
    if v1 ≤ (126 : Int32) then
      bd (X3_isFull σ) (fun t3 =>
      if t3 = 0 then
        bd (X3_put v1 σ) (fun t5 =>
        some ((t5.1 0), t5))
      else
        none)
    else
      X6_append_12 σ
set_option maxRecDepth 20000 in
set_option maxHeartbeats 4000000 in
theorem c_X6_append {l : Launch} {D : va_G} {a : Nat → Nat} {cA : Nat → ClassId} {t : Nat} {F : (Nat → Prop) → State → Prop} (hF : EOK F) {σ : St} {v1 : Int32} {r : Int32} {σ' : St} (h : X6_append v1 σ = some (r, σ')) : MetI l yX6_append cX6_append 2 (some .int) 1 D (tyW cA) (wS a cA) (ES t F) [.ref (a 0), .int v1] σ r σ' := by
  refine mkI (by decide) (adrS a cA) (Or.inl rfl) (Nat.le_of_ble_eq_true rfl) ?_
  intro p e R s m args below meth c A Q ls X hR hp hl
  obtain ⟨hx, hb, -, hown, hts, -⟩ := id X
  have J_12 : ∀  (σ : St) (H : Heap) (locs : List Loc) (ls : Array Slot), Pw D (wS a cA) A s.heap H locs σ → lv_has ls 2 [(0, .ref (a 0))] → X6_append_12 σ = some (r, σ') → W p l e R s m args below meth c H locs 0 0 Q (F0 m 12 ls []) := by
    intro σ H locs ls hp hl h
    unfold X6_append_12 at h
    exact nn_s h
  unfold X6_append at h
  have hl := lv_sub (l' := [(0, .ref (a 0)), (1, .int v1)]) hl [0, 1] rfl
  refine lv_iload_n hx hb dX6_append_0 rfl (lv_at hl 1 rfl) ?_
  refine lv_bipush (v := 33) hx hb dX6_append_1 (by decide) ?_
  refine lv_icmp_lt (tgt := 12) hx hb dX6_append_3 (by decide) (fun c1 => ?_) (fun c1 => ?_)
  · have h := it_p h c1
    exact J_12 σ _ _ _ hp (lv_sub hl [0] rfl) h
  · have h := it_n h c1
    refine lv_iload_n hx hb dX6_append_6 rfl (lv_at hl 1 rfl) ?_
    refine lv_bipush (v := 126) hx hb dX6_append_7 (by decide) ?_
    refine lv_icmp_le (tgt := 22) hx hb dX6_append_9 (by decide) (fun c2 => ?_) (fun c2 => ?_)
    · have h := it_p h c2
      refine lv_aload_n hx hb dX6_append_22 rfl (lv_at hl 0 rfl) ?_
      refine gS_X6_buffer X hp tw_1_16 dX6_append_23 ?_
      obtain ⟨t3, ht3, h⟩ := bd_s h
      refine cl_Vi X (eokS hF) (c_X3_isFull hF ht3) tw_9_4 mw_X3_isFull (by decide) hp 1 rfl rfl rfl hl.1 rfl (Nat.le_of_ble_eq_true rfl) dX6_append_26 (fun H locs hp => ?_)
      refine lv_if_eq (tgt := 42) hx hb dX6_append_29 (by decide) (fun c4 => ?_) (fun c4 => ?_)
      · have h := it_p h c4
        refine lv_aload_n hx hb dX6_append_42 rfl (lv_at hl 0 rfl) ?_
        refine gS_X6_buffer X hp tw_1_16 dX6_append_43 ?_
        refine lv_iload_n hx hb dX6_append_46 rfl (lv_at hl 1 rfl) ?_
        obtain ⟨t5, ht5, h⟩ := bd_s h
        refine cl_Vv X (eokS hF) (c_X3_put hF ht5) tw_9_9 mw_X3_put (by decide) hp 1 rfl rfl rfl hl.1 rfl (Nat.le_of_ble_eq_true rfl) dX6_append_47 (fun H locs hp => ?_)
        refine lv_aload_n hx hb dX6_append_50 rfl (lv_at hl 0 rfl) ?_
        refine gS_X6_buffer X hp tw_1_16 dX6_append_51 ?_
        refine gS_X3_length X hp tw_9_3 dX6_append_54 ?_
        exact hR _ _ _ _ _ _ dX6_append_57 hp (congrArg Prod.fst (Option.some.inj h)) (congrArg Prod.snd (Option.some.inj h)) (fun q => by cases q)
      · have h := it_n h c4
        exact nn_s h
    · have h := it_n h c2
      exact J_12 σ _ _ _ hp (lv_sub hl [0] rfl) h
def X6_clearBuffer (σ : St) : Option (Int32 × St) :=
  nm (σ.1 0) (fun (x1 : Int32) =>
  nm (si σ 0 (0 : Int32)) (fun (σ2 : St) =>
  some (x1, σ2)))
set_option maxRecDepth 20000 in
set_option maxHeartbeats 4000000 in
theorem c_X6_clearBuffer {l : Launch} {D : va_G} {a : Nat → Nat} {cA : Nat → ClassId} {t : Nat} {F : (Nat → Prop) → State → Prop} (hF : EOK F) {σ : St} {r : Int32} {σ' : St} (h : X6_clearBuffer σ = some (r, σ')) : MetI l yX6_clearBuffer cX6_clearBuffer 2 (some .int) 0 D (tyW cA) (wS a cA) (ES t F) [.ref (a 0)] σ r σ' := by
  refine mkI (by decide) (adrS a cA) (Or.inl rfl) (Nat.le_of_ble_eq_true rfl) ?_
  intro p e R s m args below meth c A Q ls X hR hp hl
  obtain ⟨hx, hb, -, hown, hts, -⟩ := id X
  unfold X6_clearBuffer at h
  have hl := lv_sub (l' := [(0, .ref (a 0))]) hl [0] rfl
  refine lv_aload_n hx hb dX6_clearBuffer_0 rfl (lv_at hl 0 rfl) ?_
  refine gS_X6_buffer X hp tw_1_16 dX6_clearBuffer_1 ?_
  refine gS_X3_length X hp tw_9_3 dX6_clearBuffer_4 ?_
  refine lv_topi (fun x1 ex1 => ?_)
  have h := nm_s h x1 ex1
  refine lv_istore_n (lv' := [(1, .int x1), (0, .ref (a 0))]) hx hb dX6_clearBuffer_7 rfl hl (by decide) rfl (fun ls hl => ?_)
  refine lv_aload_n hx hb dX6_clearBuffer_8 rfl (lv_at hl 1 rfl) ?_
  refine gS_X6_buffer X hp tw_1_16 dX6_clearBuffer_9 ?_
  refine lv_iconst (v := 0) hx hb dX6_clearBuffer_12 (by decide) ?_
  refine pS_X3_length X hp tw_9_3 dX6_clearBuffer_13 (fun H locs σ2 eσ2 hp => ?_)
  have h := nm_s h σ2 eσ2
  refine lv_iload_n hx hb dX6_clearBuffer_16 rfl (lv_at hl 0 rfl) ?_
  exact hR _ _ _ _ _ _ dX6_clearBuffer_17 hp (congrArg Prod.fst (Option.some.inj h)) (congrArg Prod.snd (Option.some.inj h)) (fun q => by cases q)
def X3_codeAt (σ : St) (v1 : Int32) : Option (Int32) :=
  if v1 < 0 then
    some (0 : Int32)
  else
    if (60 : Int32) ≤ v1 then
      some (0 : Int32)
    else
      gd (inb v1 60) (
      some (σ.2.2.1 0 v1.toNatClampNeg))
set_option maxRecDepth 20000 in
set_option maxHeartbeats 4000000 in
theorem c_X3_codeAt {l : Launch} {D : va_G} {a : Nat → Nat} {cA : Nat → ClassId} {t : Nat} {F : (Nat → Prop) → State → Prop} (hF : EOK F) {σ : St} {v1 : Int32} {r : Int32} (h : X3_codeAt σ v1 = some r) : MetI l yX3_codeAt cX3_codeAt 2 (some .int) 0 D (tyW cA) (wS a cA) (ES t F) [.ref (a 1), .int v1] σ r σ := by
  refine mkI (by decide) (adrS a cA) (Or.inl rfl) (Nat.le_of_ble_eq_true rfl) ?_
  intro p e R s m args below meth c A Q ls X hR hp hl
  obtain ⟨hx, hb, -, hown, hts, -⟩ := id X
  unfold X3_codeAt at h
  have hl := lv_sub (l' := [(0, .ref (a 1)), (1, .int v1)]) hl [0, 1] rfl
  refine lv_iload_n hx hb dX3_codeAt_0 rfl (lv_at hl 1 rfl) ?_
  refine lv_if_lt (tgt := 19) hx hb dX3_codeAt_1 (by decide) (fun c1 => ?_) (fun c1 => ?_)
  · have h := it_p h c1
    refine lv_iconst (v := 0) hx hb dX3_codeAt_19 (by decide) ?_
    exact hR _ _ _ _ _ _ dX3_codeAt_20 hp (Option.some.inj h) rfl (fun q => by cases q)
  · have h := it_n h c1
    refine lv_iload_n hx hb dX3_codeAt_4 rfl (lv_at hl 1 rfl) ?_
    refine lv_bipush (v := 60) hx hb dX3_codeAt_5 (by decide) ?_
    refine lv_icmp_ge (tgt := 19) hx hb dX3_codeAt_7 (by decide) (fun c2 => ?_) (fun c2 => ?_)
    · have h := it_p h c2
      refine lv_iconst (v := 0) hx hb dX3_codeAt_19 (by decide) ?_
      exact hR _ _ _ _ _ _ dX3_codeAt_20 hp (Option.some.inj h) rfl (fun q => by cases q)
    · have h := it_n h c2
      refine lv_aload_n hx hb dX3_codeAt_10 rfl (lv_at hl 0 rfl) ?_
      refine gS_X3_codes X hp tw_2_14 dX3_codeAt_11 ?_
      refine lv_iload_n hx hb dX3_codeAt_14 rfl (lv_at hl 1 rfl) ?_
      obtain ⟨g3, h⟩ := gd_s h
      refine lS_X3_codes X hp g3 dX3_codeAt_15 ?_
      refine lv_goto (tgt := 20) hx hb dX3_codeAt_16 (by decide) ?_
      exact hR _ _ _ _ _ _ dX3_codeAt_20 hp (Option.some.inj h) rfl (fun q => by cases q)
def X3_isInputName (v0 : Int32) (v1 : Int32) : Option (Int32) :=
  if v0 < (120 : Int32) then
    some (0 : Int32)
  else
    if ((120 : Int32) + v1) ≤ v0 then
      some (0 : Int32)
    else
      some (1 : Int32)
set_option maxRecDepth 20000 in
set_option maxHeartbeats 4000000 in
theorem c_X3_isInputName {l : Launch} {D : va_G} {tys : List (ClassId × FieldType)} {w : St → va_W} {E : (Nat → Prop) → State → Prop} (hw : Adr w) (hE : EOK E) {σ : St} {v0 : Int32} {v1 : Int32} {r : Int32} (h : X3_isInputName v0 v1 = some r) : MetI l yX3_isInputName cX3_isInputName 2 (some .boolean) 0 D tys w E [.int v0, .int v1] σ r σ := by
  refine mkI (by decide) hw (Or.inr rfl) (Nat.le_of_ble_eq_true rfl) ?_
  intro p e R s m args below meth c A Q ls X hR hp hl
  obtain ⟨hx, hb, -, hown, hts, -⟩ := id X
  unfold X3_isInputName at h
  have hl := lv_sub (l' := [(0, .int v0), (1, .int v1)]) hl [0, 1] rfl
  refine lv_iload_n hx hb dX3_isInputName_0 rfl (lv_at hl 0 rfl) ?_
  refine lv_bipush (v := 120) hx hb dX3_isInputName_1 (by decide) ?_
  refine lv_icmp_lt (tgt := 18) hx hb dX3_isInputName_3 (by decide) (fun c1 => ?_) (fun c1 => ?_)
  · have h := it_p h c1
    refine lv_iconst (v := 0) hx hb dX3_isInputName_18 (by decide) ?_
    exact hR _ _ _ _ _ _ dX3_isInputName_19 hp (Option.some.inj h) rfl (fun _ => Or.inl rfl)
  · have h := it_n h c1
    refine lv_iload_n hx hb dX3_isInputName_6 rfl (lv_at hl 0 rfl) ?_
    refine lv_bipush (v := 120) hx hb dX3_isInputName_7 (by decide) ?_
    refine lv_iload_n hx hb dX3_isInputName_9 rfl (lv_at hl 1 rfl) ?_
    refine lv_iadd hx hb dX3_isInputName_10 ?_
    refine lv_icmp_ge (tgt := 18) hx hb dX3_isInputName_11 (by decide) (fun c2 => ?_) (fun c2 => ?_)
    · have h := it_p h c2
      refine lv_iconst (v := 0) hx hb dX3_isInputName_18 (by decide) ?_
      exact hR _ _ _ _ _ _ dX3_isInputName_19 hp (Option.some.inj h) rfl (fun _ => Or.inl rfl)
    · have h := it_n h c2
      refine lv_iconst (v := 1) hx hb dX3_isInputName_14 (by decide) ?_
      refine lv_goto (tgt := 19) hx hb dX3_isInputName_15 (by decide) ?_
      exact hR _ _ _ _ _ _ dX3_isInputName_19 hp (Option.some.inj h) rfl (fun _ => Or.inr rfl)
def X3_isOperand_26 (v0 : Int32) (v2 : Int32) : Option (Int32) :=
  bd (X3_isInputName v0 v2) (fun t1 =>
  if t1 = 0 then
    some (0 : Int32)
  else
    some (1 : Int32))
def X3_isOperand (v0 : Int32) (v1 : Int32) (v2 : Int32) : Option (Int32) :=
  if v0 = (48 : Int32) then
    some (1 : Int32)
  else
    if v0 = (49 : Int32) then
      some (1 : Int32)
    else
      if v0 < (97 : Int32) then
        X3_isOperand_26 v0 v2
      else
        if v0 < ((97 : Int32) + v1) then
          some (1 : Int32)
        else
          X3_isOperand_26 v0 v2
set_option maxRecDepth 20000 in
set_option maxHeartbeats 4000000 in
theorem c_X3_isOperand {l : Launch} {D : va_G} {tys : List (ClassId × FieldType)} {w : St → va_W} {E : (Nat → Prop) → State → Prop} (hw : Adr w) (hE : EOK E) {σ : St} {v0 : Int32} {v1 : Int32} {v2 : Int32} {r : Int32} (h : X3_isOperand v0 v1 v2 = some r) : MetI l yX3_isOperand cX3_isOperand 3 (some .boolean) 1 D tys w E [.int v0, .int v1, .int v2] σ r σ := by
  refine mkI (by decide) hw (Or.inr rfl) (Nat.le_of_ble_eq_true rfl) ?_
  intro p e R s m args below meth c A Q ls X hR hp hl
  obtain ⟨hx, hb, -, hown, hts, -⟩ := id X
  have J_26 : ∀ (v0 : Int32) (v2 : Int32) (H : Heap) (locs : List Loc) (ls : Array Slot), Pw D w A s.heap H locs σ → lv_has ls 3 [(0, .int v0), (2, .int v2)] → X3_isOperand_26 v0 v2 = some r → W p l e R s m args below meth c H locs 0 0 Q (F0 m 26 ls []) := by
    intro v0 v2 H locs ls hp hl h
    unfold X3_isOperand_26 at h
    refine lv_iload_n hx hb dX3_isOperand_26 rfl (lv_at hl 0 rfl) ?_
    refine lv_iload_n hx hb dX3_isOperand_27 rfl (lv_at hl 1 rfl) ?_
    obtain ⟨t1, ht1, h⟩ := bd_s h
    refine cl_Si X hE (c_X3_isInputName hw hE ht1) tw_11_1 mw_X3_isInputName (by decide) hp hl.1 rfl (Nat.le_of_ble_eq_true rfl) dX3_isOperand_28 (fun H locs hp => ?_)
    refine lv_if_eq (tgt := 38) hx hb dX3_isOperand_31 (by decide) (fun c2 => ?_) (fun c2 => ?_)
    · have h := it_p h c2
      refine lv_iconst (v := 0) hx hb dX3_isOperand_38 (by decide) ?_
      exact hR _ _ _ _ _ _ dX3_isOperand_39 hp (Option.some.inj h) rfl (fun _ => Or.inl rfl)
    · have h := it_n h c2
      refine lv_iconst (v := 1) hx hb dX3_isOperand_34 (by decide) ?_
      refine lv_goto (tgt := 39) hx hb dX3_isOperand_35 (by decide) ?_
      exact hR _ _ _ _ _ _ dX3_isOperand_39 hp (Option.some.inj h) rfl (fun _ => Or.inr rfl)
  unfold X3_isOperand at h
  have hl := lv_sub (l' := [(0, .int v0), (1, .int v1), (2, .int v2)]) hl [0, 1, 2] rfl
  refine lv_iload_n hx hb dX3_isOperand_0 rfl (lv_at hl 0 rfl) ?_
  refine lv_bipush (v := 48) hx hb dX3_isOperand_1 (by decide) ?_
  refine lv_icmp_eq (tgt := 34) hx hb dX3_isOperand_3 (by decide) (fun c1 => ?_) (fun c1 => ?_)
  · have h := it_p h c1
    refine lv_iconst (v := 1) hx hb dX3_isOperand_34 (by decide) ?_
    refine lv_goto (tgt := 39) hx hb dX3_isOperand_35 (by decide) ?_
    exact hR _ _ _ _ _ _ dX3_isOperand_39 hp (Option.some.inj h) rfl (fun _ => Or.inr rfl)
  · have h := it_n h c1
    refine lv_iload_n hx hb dX3_isOperand_6 rfl (lv_at hl 0 rfl) ?_
    refine lv_bipush (v := 49) hx hb dX3_isOperand_7 (by decide) ?_
    refine lv_icmp_eq (tgt := 34) hx hb dX3_isOperand_9 (by decide) (fun c2 => ?_) (fun c2 => ?_)
    · have h := it_p h c2
      refine lv_iconst (v := 1) hx hb dX3_isOperand_34 (by decide) ?_
      refine lv_goto (tgt := 39) hx hb dX3_isOperand_35 (by decide) ?_
      exact hR _ _ _ _ _ _ dX3_isOperand_39 hp (Option.some.inj h) rfl (fun _ => Or.inr rfl)
    · have h := it_n h c2
      refine lv_iload_n hx hb dX3_isOperand_12 rfl (lv_at hl 0 rfl) ?_
      refine lv_bipush (v := 97) hx hb dX3_isOperand_13 (by decide) ?_
      refine lv_icmp_lt (tgt := 26) hx hb dX3_isOperand_15 (by decide) (fun c3 => ?_) (fun c3 => ?_)
      · have h := it_p h c3
        exact J_26 v0 v2 _ _ _ hp (lv_sub hl [0, 2] rfl) h
      · have h := it_n h c3
        refine lv_iload_n hx hb dX3_isOperand_18 rfl (lv_at hl 0 rfl) ?_
        refine lv_bipush (v := 97) hx hb dX3_isOperand_19 (by decide) ?_
        refine lv_iload_n hx hb dX3_isOperand_21 rfl (lv_at hl 1 rfl) ?_
        refine lv_iadd hx hb dX3_isOperand_22 ?_
        refine lv_icmp_lt (tgt := 34) hx hb dX3_isOperand_23 (by decide) (fun c4 => ?_) (fun c4 => ?_)
        · have h := it_p h c4
          refine lv_iconst (v := 1) hx hb dX3_isOperand_34 (by decide) ?_
          refine lv_goto (tgt := 39) hx hb dX3_isOperand_35 (by decide) ?_
          exact hR _ _ _ _ _ _ dX3_isOperand_39 hp (Option.some.inj h) rfl (fun _ => Or.inr rfl)
        · have h := it_n h c4
          exact J_26 v0 v2 _ _ _ hp (lv_sub hl [0, 2] rfl) h
def X3_takesOperand (v1 : Int32) (v2 : Int32) (v3 : Int32) (σ : St) : Option (Int32 × St) :=
  if v1 = (40 : Int32) then
    nm (si σ 4 ((σ.1 4) + (1 : Int32))) (fun (σ6 : St) =>
    some ((1 : Int32), σ6))
  else
    if v1 = (33 : Int32) then
      some ((1 : Int32), σ)
    else
      nm (si σ 3 (0 : Int32)) (fun (σ3 : St) =>
      bd (X3_isOperand v1 v2 v3) (fun t4 =>
      gd (isb t4) (
      some (t4, σ3))))
set_option maxRecDepth 20000 in
set_option maxHeartbeats 4000000 in
theorem c_X3_takesOperand {l : Launch} {D : va_G} {a : Nat → Nat} {cA : Nat → ClassId} {t : Nat} {F : (Nat → Prop) → State → Prop} (hF : EOK F) {σ : St} {v1 : Int32} {v2 : Int32} {v3 : Int32} {r : Int32} {σ' : St} (h : X3_takesOperand v1 v2 v3 σ = some (r, σ')) : MetI l yX3_takesOperand cX3_takesOperand 4 (some .boolean) 2 D (tyW cA) (wS a cA) (ES t F) [.ref (a 1), .int v1, .int v2, .int v3] σ r σ' := by
  refine mkI (by decide) (adrS a cA) (Or.inr rfl) (Nat.le_of_ble_eq_true rfl) ?_
  intro p e R s m args below meth c A Q ls X hR hp hl
  obtain ⟨hx, hb, -, hown, hts, -⟩ := id X
  unfold X3_takesOperand at h
  have hl := lv_sub (l' := [(0, .ref (a 1)), (1, .int v1), (2, .int v2), (3, .int v3)]) hl [0, 1, 2, 3] rfl
  refine lv_iload_n hx hb dX3_takesOperand_0 rfl (lv_at hl 1 rfl) ?_
  refine lv_bipush (v := 40) hx hb dX3_takesOperand_1 (by decide) ?_
  refine lv_icmp_ne (tgt := 18) hx hb dX3_takesOperand_3 (by decide) (fun c1 => ?_) (fun c1 => ?_)
  · have h := it_n h c1
    refine lv_iload_n hx hb dX3_takesOperand_18 rfl (lv_at hl 1 rfl) ?_
    refine lv_bipush (v := 33) hx hb dX3_takesOperand_19 (by decide) ?_
    refine lv_icmp_ne (tgt := 26) hx hb dX3_takesOperand_21 (by decide) (fun c2 => ?_) (fun c2 => ?_)
    · have h := it_n h c2
      refine lv_aload_n hx hb dX3_takesOperand_26 rfl (lv_at hl 0 rfl) ?_
      refine lv_iconst (v := 0) hx hb dX3_takesOperand_27 (by decide) ?_
      refine pS_X3_wantsOperand X hp tw_10_12 (Or.inl rfl) dX3_takesOperand_28 (fun H locs σ3 eσ3 hp => ?_)
      have h := nm_s h σ3 eσ3
      refine lv_iload_n hx hb dX3_takesOperand_31 rfl (lv_at hl 1 rfl) ?_
      refine lv_iload_n hx hb dX3_takesOperand_32 rfl (lv_at hl 2 rfl) ?_
      refine lv_iload_n hx hb dX3_takesOperand_33 rfl (lv_at hl 3 rfl) ?_
      obtain ⟨t4, ht4, h⟩ := bd_s h
      refine cl_Si X (eokS hF) (c_X3_isOperand (adrS a cA) (eokS hF) ht4) tw_10_22 mw_X3_isOperand (by decide) hp hl.1 rfl (Nat.le_of_ble_eq_true rfl) dX3_takesOperand_34 (fun H locs hp => ?_)
      obtain ⟨g5, h⟩ := gd_s h
      exact hR _ _ _ _ _ _ dX3_takesOperand_37 hp (congrArg Prod.fst (Option.some.inj h)) (congrArg Prod.snd (Option.some.inj h)) (fun _ => g5)
    · have h := it_p h c2
      refine lv_iconst (v := 1) hx hb dX3_takesOperand_24 (by decide) ?_
      exact hR _ _ _ _ _ _ dX3_takesOperand_25 hp (congrArg Prod.fst (Option.some.inj h)) (congrArg Prod.snd (Option.some.inj h)) (fun _ => Or.inr rfl)
  · have h := it_p h c1
    refine lv_aload_n hx hb dX3_takesOperand_6 rfl (lv_at hl 0 rfl) ?_
    refine lv_dup hx hb dX3_takesOperand_7 rfl ?_
    refine gS_X3_openCount X hp tw_10_13 dX3_takesOperand_8 ?_
    refine lv_iconst (v := 1) hx hb dX3_takesOperand_11 (by decide) ?_
    refine lv_iadd hx hb dX3_takesOperand_12 ?_
    refine pS_X3_openCount X hp tw_10_13 dX3_takesOperand_13 (fun H locs σ6 eσ6 hp => ?_)
    have h := nm_s h σ6 eσ6
    refine lv_iconst (v := 1) hx hb dX3_takesOperand_16 (by decide) ?_
    exact hR _ _ _ _ _ _ dX3_takesOperand_17 hp (congrArg Prod.fst (Option.some.inj h)) (congrArg Prod.snd (Option.some.inj h)) (fun _ => Or.inr rfl)
def X3_takesOperator (v1 : Int32) (σ : St) : Option (Int32 × St) :=
  if v1 = (41 : Int32) then
    nm (si σ 4 ((σ.1 4) - (1 : Int32))) (fun (σ6 : St) =>
    if (σ6.1 4) < 0 then
      some ((0 : Int32), σ6)
    else
      some ((1 : Int32), σ6))
  else
    nm (si σ 3 (1 : Int32)) (fun (σ2 : St) =>
    if v1 = (124 : Int32) then
      some ((1 : Int32), σ2)
    else
      if v1 = (94 : Int32) then
        some ((1 : Int32), σ2)
      else
        if v1 = (38 : Int32) then
          some ((1 : Int32), σ2)
        else
          some ((0 : Int32), σ2))
set_option maxRecDepth 20000 in
set_option maxHeartbeats 4000000 in
theorem c_X3_takesOperator {l : Launch} {D : va_G} {a : Nat → Nat} {cA : Nat → ClassId} {t : Nat} {F : (Nat → Prop) → State → Prop} (hF : EOK F) {σ : St} {v1 : Int32} {r : Int32} {σ' : St} (h : X3_takesOperator v1 σ = some (r, σ')) : MetI l yX3_takesOperator cX3_takesOperator 2 (some .boolean) 0 D (tyW cA) (wS a cA) (ES t F) [.ref (a 1), .int v1] σ r σ' := by
  refine mkI (by decide) (adrS a cA) (Or.inr rfl) (Nat.le_of_ble_eq_true rfl) ?_
  intro p e R s m args below meth c A Q ls X hR hp hl
  obtain ⟨hx, hb, -, hown, hts, -⟩ := id X
  unfold X3_takesOperator at h
  have hl := lv_sub (l' := [(0, .ref (a 1)), (1, .int v1)]) hl [0, 1] rfl
  refine lv_iload_n hx hb dX3_takesOperator_0 rfl (lv_at hl 1 rfl) ?_
  refine lv_bipush (v := 41) hx hb dX3_takesOperator_1 (by decide) ?_
  refine lv_icmp_ne (tgt := 29) hx hb dX3_takesOperator_3 (by decide) (fun c1 => ?_) (fun c1 => ?_)
  · have h := it_n h c1
    refine lv_aload_n hx hb dX3_takesOperator_29 rfl (lv_at hl 0 rfl) ?_
    refine lv_iconst (v := 1) hx hb dX3_takesOperator_30 (by decide) ?_
    refine pS_X3_wantsOperand X hp tw_10_12 (Or.inr rfl) dX3_takesOperator_31 (fun H locs σ2 eσ2 hp => ?_)
    have h := nm_s h σ2 eσ2
    refine lv_iload_n hx hb dX3_takesOperator_34 rfl (lv_at hl 1 rfl) ?_
    refine lv_bipush (v := 124) hx hb dX3_takesOperator_35 (by decide) ?_
    refine lv_icmp_eq (tgt := 52) hx hb dX3_takesOperator_37 (by decide) (fun c3 => ?_) (fun c3 => ?_)
    · have h := it_p h c3
      refine lv_iconst (v := 1) hx hb dX3_takesOperator_52 (by decide) ?_
      refine lv_goto (tgt := 57) hx hb dX3_takesOperator_53 (by decide) ?_
      exact hR _ _ _ _ _ _ dX3_takesOperator_57 hp (congrArg Prod.fst (Option.some.inj h)) (congrArg Prod.snd (Option.some.inj h)) (fun _ => Or.inr rfl)
    · have h := it_n h c3
      refine lv_iload_n hx hb dX3_takesOperator_40 rfl (lv_at hl 1 rfl) ?_
      refine lv_bipush (v := 94) hx hb dX3_takesOperator_41 (by decide) ?_
      refine lv_icmp_eq (tgt := 52) hx hb dX3_takesOperator_43 (by decide) (fun c4 => ?_) (fun c4 => ?_)
      · have h := it_p h c4
        refine lv_iconst (v := 1) hx hb dX3_takesOperator_52 (by decide) ?_
        refine lv_goto (tgt := 57) hx hb dX3_takesOperator_53 (by decide) ?_
        exact hR _ _ _ _ _ _ dX3_takesOperator_57 hp (congrArg Prod.fst (Option.some.inj h)) (congrArg Prod.snd (Option.some.inj h)) (fun _ => Or.inr rfl)
      · have h := it_n h c4
        refine lv_iload_n hx hb dX3_takesOperator_46 rfl (lv_at hl 1 rfl) ?_
        refine lv_bipush (v := 38) hx hb dX3_takesOperator_47 (by decide) ?_
        refine lv_icmp_ne (tgt := 56) hx hb dX3_takesOperator_49 (by decide) (fun c5 => ?_) (fun c5 => ?_)
        · have h := it_n h c5
          refine lv_iconst (v := 0) hx hb dX3_takesOperator_56 (by decide) ?_
          exact hR _ _ _ _ _ _ dX3_takesOperator_57 hp (congrArg Prod.fst (Option.some.inj h)) (congrArg Prod.snd (Option.some.inj h)) (fun _ => Or.inl rfl)
        · have h := it_p h c5
          refine lv_iconst (v := 1) hx hb dX3_takesOperator_52 (by decide) ?_
          refine lv_goto (tgt := 57) hx hb dX3_takesOperator_53 (by decide) ?_
          exact hR _ _ _ _ _ _ dX3_takesOperator_57 hp (congrArg Prod.fst (Option.some.inj h)) (congrArg Prod.snd (Option.some.inj h)) (fun _ => Or.inr rfl)
  · have h := it_p h c1
    refine lv_aload_n hx hb dX3_takesOperator_6 rfl (lv_at hl 0 rfl) ?_
    refine lv_dup hx hb dX3_takesOperator_7 rfl ?_
    refine gS_X3_openCount X hp tw_10_13 dX3_takesOperator_8 ?_
    refine lv_iconst (v := 1) hx hb dX3_takesOperator_11 (by decide) ?_
    refine lv_isub hx hb dX3_takesOperator_12 ?_
    refine pS_X3_openCount X hp tw_10_13 dX3_takesOperator_13 (fun H locs σ6 eσ6 hp => ?_)
    have h := nm_s h σ6 eσ6
    refine lv_aload_n hx hb dX3_takesOperator_16 rfl (lv_at hl 0 rfl) ?_
    refine gS_X3_openCount X hp tw_10_13 dX3_takesOperator_17 ?_
    refine lv_if_lt (tgt := 27) hx hb dX3_takesOperator_20 (by decide) (fun c7 => ?_) (fun c7 => ?_)
    · have h := it_p h c7
      refine lv_iconst (v := 0) hx hb dX3_takesOperator_27 (by decide) ?_
      exact hR _ _ _ _ _ _ dX3_takesOperator_28 hp (congrArg Prod.fst (Option.some.inj h)) (congrArg Prod.snd (Option.some.inj h)) (fun _ => Or.inl rfl)
    · have h := it_n h c7
      refine lv_iconst (v := 1) hx hb dX3_takesOperator_23 (by decide) ?_
      refine lv_goto (tgt := 28) hx hb dX3_takesOperator_24 (by decide) ?_
      exact hR _ _ _ _ _ _ dX3_takesOperator_28 hp (congrArg Prod.fst (Option.some.inj h)) (congrArg Prod.snd (Option.some.inj h)) (fun _ => Or.inr rfl)
def X3_read_12b (k12 : (Int32 → St → Option (Int32 × St))) (k58 : (Int32 → St → Option (Int32 × St))) (k66 : (St → Option (Int32 × St))) (v1 : Int32) (v2 : Int32) (v3 : Int32) (σ : St) : Option (Int32 × St) :=
  if (σ.1 0) ≤ v3 then
    k66 σ
  else
    bd (X3_codeAt σ v3) (fun t2 =>
    if (σ.1 3) = 0 then
      bd (X3_takesOperator t2 σ) (fun t4 =>
      if t4.1 = 0 then
        k58 v3 t4.2
      else
        nm (v3 + (1 : Int32)) (fun (x6 : Int32) =>
        k12 x6 t4.2))
    else
      bd (X3_takesOperand t2 v1 v2 σ) (fun t7 =>
      if t7.1 = 0 then
        k58 v3 t7.2
      else
        nm (v3 + (1 : Int32)) (fun (x9 : Int32) =>
        k12 x9 t7.2)))
def X3_read_12 (k58 : (Int32 → St → Option (Int32 × St))) (k66 : (St → Option (Int32 × St))) (v1 : Int32) (v2 : Int32) : Nat → Int32 → St → Option (Int32 × St)
  | 0, _, _ => none
  | n + 1, v3, σ => X3_read_12b (fun v3 σ => X3_read_12 k58 k66 v1 v2 n v3 σ) k58 k66 v1 v2 v3 σ
def X3_read_58 (v3 : Int32) (σ : St) : Option (Int32 × St) :=
  some (v3, σ)
def X3_read_66 (σ : St) : Option (Int32 × St) :=
  some ((σ.1 0), σ)
def X3_read (N : Nat) (v1 : Int32) (v2 : Int32) (σ : St) : Option (Int32 × St) :=
  nm (si σ 3 (1 : Int32)) (fun (σ1 : St) =>
  nm (si σ1 4 (0 : Int32)) (fun (σ2 : St) =>
  X3_read_12 (fun v3 σ => X3_read_58 v3 σ) (fun σ => X3_read_66 σ) v1 v2 N (0 : Int32) σ2))
set_option maxRecDepth 20000 in
set_option maxHeartbeats 4000000 in
theorem c_X3_read {l : Launch} {D : va_G} {a : Nat → Nat} {cA : Nat → ClassId} {t : Nat} {F : (Nat → Prop) → State → Prop} (hF : EOK F) {σ : St} {N : Nat} {v1 : Int32} {v2 : Int32} {r : Int32} {σ' : St} (h : X3_read N v1 v2 σ = some (r, σ')) : MetI l yX3_read cX3_read 6 (some .int) 3 D (tyW cA) (wS a cA) (ES t F) [.ref (a 1), .int v1, .int v2] σ r σ' := by
  refine mkI (by decide) (adrS a cA) (Or.inl rfl) (Nat.le_of_ble_eq_true rfl) ?_
  intro p e R s m args below meth c A Q ls X hR hp hl
  obtain ⟨hx, hb, -, hown, hts, -⟩ := id X
  have J_12 : ∀ (v1 : Int32) (v2 : Int32) (k58 : (Int32 → St → Option (Int32 × St))) (hk58 : ∀ (v3 : Int32) (σ : St) (H : Heap) (locs : List Loc) (ls : Array Slot), Pw D (wS a cA) A s.heap H locs σ → lv_has ls 6 [(0, .ref (a 1)), (3, .int v3)] → k58 v3 σ = some (r, σ') → W p l e R s m args below meth c H locs 0 0 Q (F0 m 58 ls [])) (k66 : (St → Option (Int32 × St))) (hk66 : ∀ (σ : St) (H : Heap) (locs : List Loc) (ls : Array Slot), Pw D (wS a cA) A s.heap H locs σ → lv_has ls 6 [(0, .ref (a 1))] → k66 σ = some (r, σ') → W p l e R s m args below meth c H locs 0 0 Q (F0 m 66 ls [])) (n : Nat) (v3 : Int32) (σ : St) (H : Heap) (locs : List Loc) (ls : Array Slot), Pw D (wS a cA) A s.heap H locs σ → lv_has ls 6 [(0, .ref (a 1)), (1, .int v1), (2, .int v2), (3, .int v3)] → X3_read_12 k58 k66 v1 v2 n v3 σ = some (r, σ') → W p l e R s m args below meth c H locs 0 0 Q (F0 m 12 ls []) := by
    intro v1 v2 k58 hk58 k66 hk66 n
    induction n with
    | zero => intro v3 σ H locs ls hp hl h; exact nn_s (show (none : Option (Int32 × St)) = some _ from h)
    | succ n ih =>
      intro v3 σ H locs ls hp hl h
      have h : X3_read_12b (fun v3 σ => X3_read_12 k58 k66 v1 v2 n v3 σ) k58 k66 v1 v2 v3 σ = some (r, σ') := h
      unfold X3_read_12b at h
      have hk12 := ih
      refine lv_iload_n hx hb dX3_read_12 rfl (lv_at hl 3 rfl) ?_
      refine lv_aload_n hx hb dX3_read_13 rfl (lv_at hl 0 rfl) ?_
      refine gS_X3_length X hp tw_9_8 dX3_read_14 ?_
      refine lv_icmp_ge (tgt := 66) hx hb dX3_read_17 (by decide) (fun c1 => ?_) (fun c1 => ?_)
      · have h := it_p h c1
        exact hk66 σ _ _ _ hp (lv_sub hl [0] rfl) h
      · have h := it_n h c1
        refine lv_aload_n hx hb dX3_read_20 rfl (lv_at hl 0 rfl) ?_
        refine lv_iload_n hx hb dX3_read_21 rfl (lv_at hl 3 rfl) ?_
        obtain ⟨t2, ht2, h⟩ := bd_s h
        refine cl_Vi X (eokS hF) (c_X3_codeAt hF ht2) tw_10_14 mw_X3_codeAt (by decide) hp 1 rfl rfl rfl hl.1 rfl (Nat.le_of_ble_eq_true rfl) dX3_read_22 (fun H locs hp => ?_)
        refine lv_istore (lv' := [(4, .int t2), (0, .ref (a 1)), (1, .int v1), (2, .int v2), (3, .int v3)]) hx hb dX3_read_25 hl (by decide) rfl (fun ls hl => ?_)
        refine lv_aload_n hx hb dX3_read_27 rfl (lv_at hl 1 rfl) ?_
        refine gS_X3_wantsOperand X hp tw_10_12 dX3_read_28 ?_
        refine lv_if_eq (tgt := 45) hx hb dX3_read_31 (by decide) (fun c3 => ?_) (fun c3 => ?_)
        · have h := it_p h c3
          refine lv_aload_n hx hb dX3_read_45 rfl (lv_at hl 1 rfl) ?_
          refine lv_iload hx hb dX3_read_46 (lv_at hl 0 rfl) ?_
          obtain ⟨t4, ht4, h⟩ := bd_s h
          refine cl_Vi X (eokS hF) (c_X3_takesOperator hF ht4) tw_11_4 mw_X3_takesOperator (by decide) hp 1 rfl rfl rfl hl.1 rfl (Nat.le_of_ble_eq_true rfl) dX3_read_48 (fun H locs hp => ?_)
          refine lv_istore (lv' := [(5, .int t4.1), (4, .int t2), (0, .ref (a 1)), (1, .int v1), (2, .int v2), (3, .int v3)]) hx hb dX3_read_51 hl (by decide) rfl (fun ls hl => ?_)
          refine lv_iload hx hb dX3_read_53 (lv_at hl 0 rfl) ?_
          refine lv_if_ne (tgt := 60) hx hb dX3_read_55 (by decide) (fun c5 => ?_) (fun c5 => ?_)
          · have h := it_n h c5
            obtain ⟨x6, ex6⟩ : ∃ z : Int32, z = v3 + (1 : Int32) := ⟨_, rfl⟩
            have h := nm_s h x6 ex6
            refine lv_iinc (v := x6) (lv' := [(3, .int x6), (5, .int t4.1), (4, .int t2), (0, .ref (a 1)), (1, .int v1), (2, .int v2)]) hx hb dX3_read_60 hl (k := 5) rfl (by rw [ex6]; rfl) (by decide) rfl (fun ls hl => ?_)
            refine lv_goto (tgt := 12) hx hb dX3_read_63 (by decide) ?_
            exact hk12 x6 t4.2 _ _ _ hp (lv_sub hl [3, 4, 5, 0] rfl) h
          · have h := it_p h c5
            exact hk58 v3 t4.2 _ _ _ hp (lv_sub hl [2, 5] rfl) h
        · have h := it_n h c3
          refine lv_aload_n hx hb dX3_read_34 rfl (lv_at hl 1 rfl) ?_
          refine lv_iload hx hb dX3_read_35 (lv_at hl 0 rfl) ?_
          refine lv_iload_n hx hb dX3_read_37 rfl (lv_at hl 2 rfl) ?_
          refine lv_iload_n hx hb dX3_read_38 rfl (lv_at hl 3 rfl) ?_
          obtain ⟨t7, ht7, h⟩ := bd_s h
          refine cl_Vi X (eokS hF) (c_X3_takesOperand hF ht7) tw_10_18 mw_X3_takesOperand (by decide) hp 1 rfl rfl rfl hl.1 rfl (Nat.le_of_ble_eq_true rfl) dX3_read_39 (fun H locs hp => ?_)
          refine lv_goto (tgt := 51) hx hb dX3_read_42 (by decide) ?_
          refine lv_istore (lv' := [(5, .int t7.1), (4, .int t2), (0, .ref (a 1)), (1, .int v1), (2, .int v2), (3, .int v3)]) hx hb dX3_read_51 hl (by decide) rfl (fun ls hl => ?_)
          refine lv_iload hx hb dX3_read_53 (lv_at hl 0 rfl) ?_
          refine lv_if_ne (tgt := 60) hx hb dX3_read_55 (by decide) (fun c8 => ?_) (fun c8 => ?_)
          · have h := it_n h c8
            obtain ⟨x9, ex9⟩ : ∃ z : Int32, z = v3 + (1 : Int32) := ⟨_, rfl⟩
            have h := nm_s h x9 ex9
            refine lv_iinc (v := x9) (lv' := [(3, .int x9), (5, .int t7.1), (4, .int t2), (0, .ref (a 1)), (1, .int v1), (2, .int v2)]) hx hb dX3_read_60 hl (k := 5) rfl (by rw [ex9]; rfl) (by decide) rfl (fun ls hl => ?_)
            refine lv_goto (tgt := 12) hx hb dX3_read_63 (by decide) ?_
            exact hk12 x9 t7.2 _ _ _ hp (lv_sub hl [3, 4, 5, 0] rfl) h
          · have h := it_p h c8
            exact hk58 v3 t7.2 _ _ _ hp (lv_sub hl [2, 5] rfl) h
  have J_58 : ∀ (v3 : Int32) (σ : St) (H : Heap) (locs : List Loc) (ls : Array Slot), Pw D (wS a cA) A s.heap H locs σ → lv_has ls 6 [(0, .ref (a 1)), (3, .int v3)] → X3_read_58 v3 σ = some (r, σ') → W p l e R s m args below meth c H locs 0 0 Q (F0 m 58 ls []) := by
    intro v3 σ H locs ls hp hl h
    unfold X3_read_58 at h
    refine lv_iload_n hx hb dX3_read_58 rfl (lv_at hl 1 rfl) ?_
    exact hR _ _ _ _ _ _ dX3_read_59 hp (congrArg Prod.fst (Option.some.inj h)) (congrArg Prod.snd (Option.some.inj h)) (fun q => by cases q)
  have J_66 : ∀  (σ : St) (H : Heap) (locs : List Loc) (ls : Array Slot), Pw D (wS a cA) A s.heap H locs σ → lv_has ls 6 [(0, .ref (a 1))] → X3_read_66 σ = some (r, σ') → W p l e R s m args below meth c H locs 0 0 Q (F0 m 66 ls []) := by
    intro σ H locs ls hp hl h
    unfold X3_read_66 at h
    refine lv_aload_n hx hb dX3_read_66 rfl (lv_at hl 0 rfl) ?_
    refine gS_X3_length X hp tw_9_8 dX3_read_67 ?_
    exact hR _ _ _ _ _ _ dX3_read_70 hp (congrArg Prod.fst (Option.some.inj h)) (congrArg Prod.snd (Option.some.inj h)) (fun q => by cases q)
  unfold X3_read at h
  have hl := lv_sub (l' := [(0, .ref (a 1)), (1, .int v1), (2, .int v2)]) hl [0, 1, 2] rfl
  refine lv_aload_n hx hb dX3_read_0 rfl (lv_at hl 0 rfl) ?_
  refine lv_iconst (v := 1) hx hb dX3_read_1 (by decide) ?_
  refine pS_X3_wantsOperand X hp tw_10_12 (Or.inr rfl) dX3_read_2 (fun H locs σ1 eσ1 hp => ?_)
  have h := nm_s h σ1 eσ1
  refine lv_aload_n hx hb dX3_read_5 rfl (lv_at hl 0 rfl) ?_
  refine lv_iconst (v := 0) hx hb dX3_read_6 (by decide) ?_
  refine pS_X3_openCount X hp tw_10_13 dX3_read_7 (fun H locs σ2 eσ2 hp => ?_)
  have h := nm_s h σ2 eσ2
  refine lv_iconst (v := 0) hx hb dX3_read_10 (by decide) ?_
  refine lv_istore_n (lv' := [(3, .int (0 : Int32)), (0, .ref (a 1)), (1, .int v1), (2, .int v2)]) hx hb dX3_read_11 rfl hl (by decide) rfl (fun ls hl => ?_)
  exact J_12 v1 v2 _ (fun v3 σ H locs ls hp hl h => J_58 v3 σ _ _ _ hp hl h) _ (fun σ H locs ls hp hl h => J_66 σ _ _ _ hp hl h) _ (0 : Int32) σ2 _ _ _ hp (lv_sub hl [1, 2, 3, 0] rfl) h
