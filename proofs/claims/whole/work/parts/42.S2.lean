/- X6_firstError X3_isFormula X0_table X0_keepRow X3_pushSign X3_strengthOf X3_topSign X3_popSign X3_popValue X3_pushValue X3_applySigns X3_applyNots X3_operandValue -/
def X6_firstError (N : Nat) (σ : St) : Option (Int32 × St) :=
  bd (X3_read N (σ.1 5) (σ.1 6) σ) (fun t1 =>
  some (t1.1, t1.2))
set_option maxRecDepth 20000 in
set_option maxHeartbeats 4000000 in
theorem c_X6_firstError {l : Launch} {D : va_G} {a : Nat → Nat} {cA : Nat → ClassId} {t : Nat} {F : (Nat → Prop) → State → Prop} (hF : EOK F) {σ : St} {N : Nat} {r : Int32} {σ' : St} (h : X6_firstError N σ = some (r, σ')) : MetI l yX6_firstError cX6_firstError 1 (some .int) 4 D (tyW cA) (wS a cA) (ES t F) [.ref (a 0)] σ r σ' := by
  refine mkI (by decide) (adrS a cA) (Or.inl rfl) (Nat.le_of_ble_eq_true rfl) ?_
  intro p e R s m args below meth c A Q ls X hR hp hl
  obtain ⟨hx, hb, -, hown, hts, -⟩ := id X
  unfold X6_firstError at h
  have hl := lv_sub (l' := [(0, .ref (a 0))]) hl [0] rfl
  refine lv_aload_n hx hb dX6_firstError_0 rfl (lv_at hl 0 rfl) ?_
  refine gS_X6_buffer X hp tw_1_16 dX6_firstError_1 ?_
  refine lv_aload_n hx hb dX6_firstError_4 rfl (lv_at hl 0 rfl) ?_
  refine gS_X6_circuit X hp tw_1_20 dX6_firstError_5 ?_
  refine gS_X0_bits X hp tw_10_6 dX6_firstError_8 ?_
  refine lv_aload_n hx hb dX6_firstError_11 rfl (lv_at hl 0 rfl) ?_
  refine gS_X6_circuit X hp tw_1_20 dX6_firstError_12 ?_
  refine gS_X0_inputs X hp tw_10_7 dX6_firstError_15 ?_
  obtain ⟨t1, ht1, h⟩ := bd_s h
  refine cl_Vi X (eokS hF) (c_X3_read hF ht1) tw_10_8 mw_X3_read (by decide) hp 1 rfl rfl rfl hl.1 rfl (Nat.le_of_ble_eq_true rfl) dX6_firstError_18 (fun H locs hp => ?_)
  exact hR _ _ _ _ _ _ dX6_firstError_21 hp (congrArg Prod.fst (Option.some.inj h)) (congrArg Prod.snd (Option.some.inj h)) (fun q => by cases q)
def X3_isFormula (N : Nat) (v1 : Int32) (v2 : Int32) (σ : St) : Option (Int32 × St) :=
  bd (X3_read N v1 v2 σ) (fun t1 =>
  if t1.1 = (t1.2.1 0) then
    if (t1.2.1 3) = 0 then
      if (t1.2.1 4) = 0 then
        some ((1 : Int32), t1.2)
      else
        some ((0 : Int32), t1.2)
    else
      some ((0 : Int32), t1.2)
  else
    some ((0 : Int32), t1.2))
set_option maxRecDepth 20000 in
set_option maxHeartbeats 4000000 in
theorem c_X3_isFormula {l : Launch} {D : va_G} {a : Nat → Nat} {cA : Nat → ClassId} {t : Nat} {F : (Nat → Prop) → State → Prop} (hF : EOK F) {σ : St} {N : Nat} {v1 : Int32} {v2 : Int32} {r : Int32} {σ' : St} (h : X3_isFormula N v1 v2 σ = some (r, σ')) : MetI l yX3_isFormula cX3_isFormula 3 (some .boolean) 4 D (tyW cA) (wS a cA) (ES t F) [.ref (a 1), .int v1, .int v2] σ r σ' := by
  refine mkI (by decide) (adrS a cA) (Or.inr rfl) (Nat.le_of_ble_eq_true rfl) ?_
  intro p e R s m args below meth c A Q ls X hR hp hl
  obtain ⟨hx, hb, -, hown, hts, -⟩ := id X
  unfold X3_isFormula at h
  have hl := lv_sub (l' := [(0, .ref (a 1)), (1, .int v1), (2, .int v2)]) hl [0, 1, 2] rfl
  refine lv_aload_n hx hb dX3_isFormula_0 rfl (lv_at hl 0 rfl) ?_
  refine lv_iload_n hx hb dX3_isFormula_1 rfl (lv_at hl 1 rfl) ?_
  refine lv_iload_n hx hb dX3_isFormula_2 rfl (lv_at hl 2 rfl) ?_
  obtain ⟨t1, ht1, h⟩ := bd_s h
  refine cl_Vi X (eokS hF) (c_X3_read hF ht1) tw_12_23 mw_X3_read (by decide) hp 1 rfl rfl rfl hl.1 rfl (Nat.le_of_ble_eq_true rfl) dX3_isFormula_3 (fun H locs hp => ?_)
  refine lv_aload_n hx hb dX3_isFormula_6 rfl (lv_at hl 0 rfl) ?_
  refine gS_X3_length X hp tw_9_8 dX3_isFormula_7 ?_
  refine lv_icmp_ne (tgt := 31) hx hb dX3_isFormula_10 (by decide) (fun c2 => ?_) (fun c2 => ?_)
  · have h := it_n h c2
    refine lv_iconst (v := 0) hx hb dX3_isFormula_31 (by decide) ?_
    exact hR _ _ _ _ _ _ dX3_isFormula_32 hp (congrArg Prod.fst (Option.some.inj h)) (congrArg Prod.snd (Option.some.inj h)) (fun _ => Or.inl rfl)
  · have h := it_p h c2
    refine lv_aload_n hx hb dX3_isFormula_13 rfl (lv_at hl 0 rfl) ?_
    refine gS_X3_wantsOperand X hp tw_10_12 dX3_isFormula_14 ?_
    refine lv_if_ne (tgt := 31) hx hb dX3_isFormula_17 (by decide) (fun c3 => ?_) (fun c3 => ?_)
    · have h := it_n h c3
      refine lv_iconst (v := 0) hx hb dX3_isFormula_31 (by decide) ?_
      exact hR _ _ _ _ _ _ dX3_isFormula_32 hp (congrArg Prod.fst (Option.some.inj h)) (congrArg Prod.snd (Option.some.inj h)) (fun _ => Or.inl rfl)
    · have h := it_p h c3
      refine lv_aload_n hx hb dX3_isFormula_20 rfl (lv_at hl 0 rfl) ?_
      refine gS_X3_openCount X hp tw_10_13 dX3_isFormula_21 ?_
      refine lv_if_ne (tgt := 31) hx hb dX3_isFormula_24 (by decide) (fun c4 => ?_) (fun c4 => ?_)
      · have h := it_n h c4
        refine lv_iconst (v := 0) hx hb dX3_isFormula_31 (by decide) ?_
        exact hR _ _ _ _ _ _ dX3_isFormula_32 hp (congrArg Prod.fst (Option.some.inj h)) (congrArg Prod.snd (Option.some.inj h)) (fun _ => Or.inl rfl)
      · have h := it_p h c4
        refine lv_iconst (v := 1) hx hb dX3_isFormula_27 (by decide) ?_
        refine lv_goto (tgt := 32) hx hb dX3_isFormula_28 (by decide) ?_
        exact hR _ _ _ _ _ _ dX3_isFormula_32 hp (congrArg Prod.fst (Option.some.inj h)) (congrArg Prod.snd (Option.some.inj h)) (fun _ => Or.inr rfl)
def X0_table (σ : St) (v1 : Int32) (v2 : Int32) : Option (Int64) :=
  nm ((v1 * (4 : Int32)) + v2) (fun (x1 : Int32) =>
  if x1 < 0 then
    some (0 : Int64)
  else
    if (32 : Int32) ≤ x1 then
      some (0 : Int64)
    else
      gd (inb x1 32) (
      some (σ.2.2.2 1 x1.toNatClampNeg)))
set_option maxRecDepth 20000 in
set_option maxHeartbeats 4000000 in
theorem c_X0_table {l : Launch} {D : va_G} {a : Nat → Nat} {cA : Nat → ClassId} {t : Nat} {F : (Nat → Prop) → State → Prop} (hF : EOK F) {σ : St} {v1 : Int32} {v2 : Int32} {r : Int64} (h : X0_table σ v1 v2 = some r) : MetL l yX0_table cX0_table 4 (some .long) 0 D (tyW cA) (wS a cA) (ES t F) [.ref (a 2), .int v1, .int v2] σ r σ := by
  refine mkL (by decide) (adrS a cA) rfl (Nat.le_of_ble_eq_true rfl) ?_
  intro p e R s m args below meth c A Q ls X hR hp hl
  obtain ⟨hx, hb, -, hown, hts, -⟩ := id X
  unfold X0_table at h
  have hl := lv_sub (l' := [(0, .ref (a 2)), (1, .int v1), (2, .int v2)]) hl [0, 1, 2] rfl
  refine lv_iload_n hx hb dX0_table_0 rfl (lv_at hl 1 rfl) ?_
  refine lv_iconst (v := 4) hx hb dX0_table_1 (by decide) ?_
  refine lv_imul hx hb dX0_table_2 ?_
  refine lv_iload_n hx hb dX0_table_3 rfl (lv_at hl 2 rfl) ?_
  refine lv_iadd hx hb dX0_table_4 ?_
  refine lv_topi (fun x1 ex1 => ?_)
  have h := nm_s h x1 ex1
  refine lv_istore_n (lv' := [(3, .int x1), (0, .ref (a 2)), (1, .int v1), (2, .int v2)]) hx hb dX0_table_5 rfl hl (by decide) rfl (fun ls hl => ?_)
  refine lv_iload_n hx hb dX0_table_6 rfl (lv_at hl 0 rfl) ?_
  refine lv_if_lt (tgt := 28) hx hb dX0_table_7 (by decide) (fun c2 => ?_) (fun c2 => ?_)
  · have h := it_p h c2
    refine lv_lconst (v := 0) hx hb dX0_table_28 (by decide) ?_
    exact hR _ _ _ _ _ _ dX0_table_29 hp (Option.some.inj h) rfl
  · have h := it_n h c2
    refine lv_iload_n hx hb dX0_table_10 rfl (lv_at hl 0 rfl) ?_
    refine lv_aload_n hx hb dX0_table_11 rfl (lv_at hl 1 rfl) ?_
    refine gS_X0_tables X hp tw_2_21 dX0_table_12 ?_
    refine nS_X0_tables X hp dX0_table_15 ?_
    refine lv_icmp_ge (tgt := 28) hx hb dX0_table_16 (by decide) (fun c3 => ?_) (fun c3 => ?_)
    · have h := it_p h c3
      refine lv_lconst (v := 0) hx hb dX0_table_28 (by decide) ?_
      exact hR _ _ _ _ _ _ dX0_table_29 hp (Option.some.inj h) rfl
    · have h := it_n h c3
      refine lv_aload_n hx hb dX0_table_19 rfl (lv_at hl 1 rfl) ?_
      refine gS_X0_tables X hp tw_2_21 dX0_table_20 ?_
      refine lv_iload_n hx hb dX0_table_23 rfl (lv_at hl 0 rfl) ?_
      obtain ⟨g4, h⟩ := gd_s h
      refine lS_X0_tables X hp g4 dX0_table_24 ?_
      refine lv_goto (tgt := 29) hx hb dX0_table_25 (by decide) ?_
      exact hR _ _ _ _ _ _ dX0_table_29 hp (Option.some.inj h) rfl
def X0_keepRow_59b (k59 : (Int32 → St → Option (St))) (k86 : (St → Option (St))) (v1 : Int32) (v2 : Int32) (v3 : Int32) (σ : St) : Option (St) :=
  if (4 : Int32) ≤ v3 then
    k86 σ
  else
    bd (X0_table σ v1 v3) (fun t2 =>
    gd (inb ((v2 * (4 : Int32)) + v3) 40) (
    nm (sb σ 2 ((v2 * (4 : Int32)) + v3).toNatClampNeg t2) (fun (σ4 : St) =>
    nm (v3 + (1 : Int32)) (fun (x5 : Int32) =>
    k59 x5 σ4))))
def X0_keepRow_59 (k86 : (St → Option (St))) (v1 : Int32) (v2 : Int32) : Nat → Int32 → St → Option (St)
  | 0, _, _ => none
  | n + 1, v3, σ => X0_keepRow_59b (fun v3 σ => X0_keepRow_59 k86 v1 v2 n v3 σ) k86 v1 v2 v3 σ
def X0_keepRow_86 (σ : St) : Option (St) :=
  nm (si σ 10 ((σ.1 10) + (1 : Int32))) (fun (σ1 : St) =>
  some σ1)
def X0_keepRow_32 (N : Nat) (v1 : Int32) (σ : St) : Option (St) :=
  nm (((σ.1 9) + (σ.1 10)) - ((σ.1 9) + (σ.1 10)) / (10 : Int32) * (10 : Int32)) (fun (x1 : Int32) =>
  if 0 ≤ x1 then
    gd (inb x1 10) (
    nm (sa σ 2 x1.toNatClampNeg v1) (fun (σ4 : St) =>
    X0_keepRow_59 (fun σ => X0_keepRow_86 σ) v1 x1 N (0 : Int32) σ4))
  else
    some σ)
def X0_keepRow (N : Nat) (v1 : Int32) (σ : St) : Option (St) :=
  if (σ.1 10) = (10 : Int32) then
    nm (si σ 9 (((σ.1 9) + (1 : Int32)) - ((σ.1 9) + (1 : Int32)) / (10 : Int32) * (10 : Int32))) (fun (σ2 : St) =>
    nm (si σ2 10 ((σ2.1 10) - (1 : Int32))) (fun (σ3 : St) =>
    X0_keepRow_32 N v1 σ3))
  else
    X0_keepRow_32 N v1 σ
set_option maxRecDepth 20000 in
set_option maxHeartbeats 4000000 in
theorem c_X0_keepRow {l : Launch} {D : va_G} {a : Nat → Nat} {cA : Nat → ClassId} {t : Nat} {F : (Nat → Prop) → State → Prop} (hF : EOK F) {σ : St} {N : Nat} {v1 : Int32} {σ' : St} (h : X0_keepRow N v1 σ = some σ') : MetV l yX0_keepRow cX0_keepRow 4 none 1 D (tyW cA) (wS a cA) (ES t F) [.ref (a 2), .int v1] σ σ' := by
  refine mkV (by decide) (adrS a cA) rfl (Nat.le_of_ble_eq_true rfl) ?_
  intro p e R s m args below meth c A Q ls X hR hp hl
  obtain ⟨hx, hb, -, hown, hts, -⟩ := id X
  have J_59 : ∀ (v1 : Int32) (v2 : Int32) (k86 : (St → Option (St))) (hk86 : ∀ (σ : St) (H : Heap) (locs : List Loc) (ls : Array Slot), Pw D (wS a cA) A s.heap H locs σ → lv_has ls 4 [(0, .ref (a 2))] → k86 σ = some σ' → W p l e R s m args below meth c H locs 0 0 Q (F0 m 86 ls [])) (n : Nat) (v3 : Int32) (σ : St) (H : Heap) (locs : List Loc) (ls : Array Slot), Pw D (wS a cA) A s.heap H locs σ → lv_has ls 4 [(0, .ref (a 2)), (1, .int v1), (2, .int v2), (3, .int v3)] → X0_keepRow_59 k86 v1 v2 n v3 σ = some σ' → W p l e R s m args below meth c H locs 0 0 Q (F0 m 59 ls []) := by
    intro v1 v2 k86 hk86 n
    induction n with
    | zero => intro v3 σ H locs ls hp hl h; exact nn_s (show (none : Option (St)) = some _ from h)
    | succ n ih =>
      intro v3 σ H locs ls hp hl h
      have h : X0_keepRow_59b (fun v3 σ => X0_keepRow_59 k86 v1 v2 n v3 σ) k86 v1 v2 v3 σ = some σ' := h
      unfold X0_keepRow_59b at h
      have hk59 := ih
      refine lv_iload_n hx hb dX0_keepRow_59 rfl (lv_at hl 3 rfl) ?_
      refine lv_iconst (v := 4) hx hb dX0_keepRow_60 (by decide) ?_
      refine lv_icmp_ge (tgt := 86) hx hb dX0_keepRow_61 (by decide) (fun c1 => ?_) (fun c1 => ?_)
      · have h := it_p h c1
        exact hk86 σ _ _ _ hp (lv_sub hl [0] rfl) h
      · have h := it_n h c1
        refine lv_aload_n hx hb dX0_keepRow_64 rfl (lv_at hl 0 rfl) ?_
        refine gS_X0_keptTables X hp tw_2_22 dX0_keepRow_65 ?_
        refine lv_iload_n hx hb dX0_keepRow_68 rfl (lv_at hl 2 rfl) ?_
        refine lv_iconst (v := 4) hx hb dX0_keepRow_69 (by decide) ?_
        refine lv_imul hx hb dX0_keepRow_70 ?_
        refine lv_iload_n hx hb dX0_keepRow_71 rfl (lv_at hl 3 rfl) ?_
        refine lv_iadd hx hb dX0_keepRow_72 ?_
        refine lv_aload_n hx hb dX0_keepRow_73 rfl (lv_at hl 0 rfl) ?_
        refine lv_iload_n hx hb dX0_keepRow_74 rfl (lv_at hl 1 rfl) ?_
        refine lv_iload_n hx hb dX0_keepRow_75 rfl (lv_at hl 3 rfl) ?_
        obtain ⟨t2, ht2, h⟩ := bd_s h
        refine cl_Vl X (eokS hF) (c_X0_table hF ht2) tw_13_12 mw_X0_table (by decide) hp 2 rfl rfl rfl hl.1 rfl (Nat.le_of_ble_eq_true rfl) dX0_keepRow_76 (fun H locs hp => ?_)
        obtain ⟨g3, h⟩ := gd_s h
        refine sS_X0_keptTables X hp g3 dX0_keepRow_79 (fun H locs σ4 eσ4 hp => ?_)
        have h := nm_s h σ4 eσ4
        obtain ⟨x5, ex5⟩ : ∃ z : Int32, z = v3 + (1 : Int32) := ⟨_, rfl⟩
        have h := nm_s h x5 ex5
        refine lv_iinc (v := x5) (lv' := [(3, .int x5), (0, .ref (a 2)), (1, .int v1), (2, .int v2)]) hx hb dX0_keepRow_80 hl (k := 3) rfl (by rw [ex5]; rfl) (by decide) rfl (fun ls hl => ?_)
        refine lv_goto (tgt := 59) hx hb dX0_keepRow_83 (by decide) ?_
        exact hk59 x5 σ4 _ _ _ hp (lv_sub hl [1, 2, 3, 0] rfl) h
  have J_86 : ∀  (σ : St) (H : Heap) (locs : List Loc) (ls : Array Slot), Pw D (wS a cA) A s.heap H locs σ → lv_has ls 4 [(0, .ref (a 2))] → X0_keepRow_86 σ = some σ' → W p l e R s m args below meth c H locs 0 0 Q (F0 m 86 ls []) := by
    intro σ H locs ls hp hl h
    unfold X0_keepRow_86 at h
    refine lv_aload_n hx hb dX0_keepRow_86 rfl (lv_at hl 0 rfl) ?_
    refine lv_dup hx hb dX0_keepRow_87 rfl ?_
    refine gS_X0_keptCount X hp tw_3_11 dX0_keepRow_88 ?_
    refine lv_iconst (v := 1) hx hb dX0_keepRow_91 (by decide) ?_
    refine lv_iadd hx hb dX0_keepRow_92 ?_
    refine pS_X0_keptCount X hp tw_3_11 dX0_keepRow_93 (fun H locs σ1 eσ1 hp => ?_)
    have h := nm_s h σ1 eσ1
    exact hR _ _ _ _ _ dX0_keepRow_96 hp (Option.some.inj h)
  have J_32 : ∀ (v1 : Int32) (σ : St) (H : Heap) (locs : List Loc) (ls : Array Slot), Pw D (wS a cA) A s.heap H locs σ → lv_has ls 4 [(0, .ref (a 2)), (1, .int v1)] → X0_keepRow_32 N v1 σ = some σ' → W p l e R s m args below meth c H locs 0 0 Q (F0 m 32 ls []) := by
    intro v1 σ H locs ls hp hl h
    unfold X0_keepRow_32 at h
    refine lv_aload_n hx hb dX0_keepRow_32 rfl (lv_at hl 0 rfl) ?_
    refine gS_X0_oldestKept X hp tw_3_10 dX0_keepRow_33 ?_
    refine lv_aload_n hx hb dX0_keepRow_36 rfl (lv_at hl 0 rfl) ?_
    refine gS_X0_keptCount X hp tw_3_11 dX0_keepRow_37 ?_
    refine lv_iadd hx hb dX0_keepRow_40 ?_
    refine lv_bipush (v := 10) hx hb dX0_keepRow_41 (by decide) ?_
    refine lv_irem hx hb dX0_keepRow_43 (by decide) ?_
    refine lv_topi (fun x1 ex1 => ?_)
    have h := nm_s h x1 ex1
    refine lv_istore_n (lv' := [(2, .int x1), (0, .ref (a 2)), (1, .int v1)]) hx hb dX0_keepRow_44 rfl hl (by decide) rfl (fun ls hl => ?_)
    refine lv_iload_n hx hb dX0_keepRow_45 rfl (lv_at hl 0 rfl) ?_
    refine lv_if_ge (tgt := 50) hx hb dX0_keepRow_46 (by decide) (fun c2 => ?_) (fun c2 => ?_)
    · have h := it_p h c2
      refine lv_aload_n hx hb dX0_keepRow_50 rfl (lv_at hl 1 rfl) ?_
      refine gS_X0_keptRows X hp tw_2_23 dX0_keepRow_51 ?_
      refine lv_iload_n hx hb dX0_keepRow_54 rfl (lv_at hl 0 rfl) ?_
      refine lv_iload_n hx hb dX0_keepRow_55 rfl (lv_at hl 2 rfl) ?_
      obtain ⟨g3, h⟩ := gd_s h
      refine sS_X0_keptRows X hp g3 dX0_keepRow_56 (fun H locs σ4 eσ4 hp => ?_)
      have h := nm_s h σ4 eσ4
      refine lv_iconst (v := 0) hx hb dX0_keepRow_57 (by decide) ?_
      refine lv_istore_n (lv' := [(3, .int (0 : Int32)), (2, .int x1), (0, .ref (a 2)), (1, .int v1)]) hx hb dX0_keepRow_58 rfl hl (by decide) rfl (fun ls hl => ?_)
      exact J_59 v1 x1 _ (fun σ H locs ls hp hl h => J_86 σ _ _ _ hp hl h) _ (0 : Int32) σ4 _ _ _ hp (lv_sub hl [2, 3, 1, 0] rfl) h
    · have h := it_n h c2
      exact hR _ _ _ _ _ dX0_keepRow_49 hp (Option.some.inj h)
  unfold X0_keepRow at h
  have hl := lv_sub (l' := [(0, .ref (a 2)), (1, .int v1)]) hl [0, 1] rfl
  refine lv_aload_n hx hb dX0_keepRow_0 rfl (lv_at hl 0 rfl) ?_
  refine gS_X0_keptCount X hp tw_3_11 dX0_keepRow_1 ?_
  refine lv_bipush (v := 10) hx hb dX0_keepRow_4 (by decide) ?_
  refine lv_icmp_ne (tgt := 32) hx hb dX0_keepRow_6 (by decide) (fun c1 => ?_) (fun c1 => ?_)
  · have h := it_n h c1
    exact J_32 v1 σ _ _ _ hp (lv_sub hl [0, 1] rfl) h
  · have h := it_p h c1
    refine lv_aload_n hx hb dX0_keepRow_9 rfl (lv_at hl 0 rfl) ?_
    refine lv_aload_n hx hb dX0_keepRow_10 rfl (lv_at hl 0 rfl) ?_
    refine gS_X0_oldestKept X hp tw_3_10 dX0_keepRow_11 ?_
    refine lv_iconst (v := 1) hx hb dX0_keepRow_14 (by decide) ?_
    refine lv_iadd hx hb dX0_keepRow_15 ?_
    refine lv_bipush (v := 10) hx hb dX0_keepRow_16 (by decide) ?_
    refine lv_irem hx hb dX0_keepRow_18 (by decide) ?_
    refine pS_X0_oldestKept X hp tw_3_10 dX0_keepRow_19 (fun H locs σ2 eσ2 hp => ?_)
    have h := nm_s h σ2 eσ2
    refine lv_aload_n hx hb dX0_keepRow_22 rfl (lv_at hl 0 rfl) ?_
    refine lv_dup hx hb dX0_keepRow_23 rfl ?_
    refine gS_X0_keptCount X hp tw_3_11 dX0_keepRow_24 ?_
    refine lv_iconst (v := 1) hx hb dX0_keepRow_27 (by decide) ?_
    refine lv_isub hx hb dX0_keepRow_28 ?_
    refine pS_X0_keptCount X hp tw_3_11 dX0_keepRow_29 (fun H locs σ3 eσ3 hp => ?_)
    have h := nm_s h σ3 eσ3
    exact J_32 v1 σ3 _ _ _ hp (lv_sub hl [0, 1] rfl) h
def X3_pushSign (v1 : Int32) (σ : St) : Option (St) :=
  if (σ.1 1) < 0 then
    some σ
  else
    if (60 : Int32) ≤ (σ.1 1) then
      some σ
    else
      gd (inb (σ.1 1) 60) (
      nm (sa σ 1 (σ.1 1).toNatClampNeg v1) (fun (σ4 : St) =>
      nm (si σ4 1 ((σ4.1 1) + (1 : Int32))) (fun (σ5 : St) =>
      some σ5)))
set_option maxRecDepth 20000 in
set_option maxHeartbeats 4000000 in
theorem c_X3_pushSign {l : Launch} {D : va_G} {a : Nat → Nat} {cA : Nat → ClassId} {t : Nat} {F : (Nat → Prop) → State → Prop} (hF : EOK F) {σ : St} {v1 : Int32} {σ' : St} (h : X3_pushSign v1 σ = some σ') : MetV l yX3_pushSign cX3_pushSign 2 none 0 D (tyW cA) (wS a cA) (ES t F) [.ref (a 1), .int v1] σ σ' := by
  refine mkV (by decide) (adrS a cA) rfl (Nat.le_of_ble_eq_true rfl) ?_
  intro p e R s m args below meth c A Q ls X hR hp hl
  obtain ⟨hx, hb, -, hown, hts, -⟩ := id X
  unfold X3_pushSign at h
  have hl := lv_sub (l' := [(0, .ref (a 1)), (1, .int v1)]) hl [0, 1] rfl
  refine lv_aload_n hx hb dX3_pushSign_0 rfl (lv_at hl 0 rfl) ?_
  refine gS_X3_signCount X hp tw_13_20 dX3_pushSign_1 ?_
  refine lv_if_lt (tgt := 36) hx hb dX3_pushSign_4 (by decide) (fun c1 => ?_) (fun c1 => ?_)
  · have h := it_p h c1
    exact hR _ _ _ _ _ dX3_pushSign_36 hp (Option.some.inj h)
  · have h := it_n h c1
    refine lv_aload_n hx hb dX3_pushSign_7 rfl (lv_at hl 0 rfl) ?_
    refine gS_X3_signCount X hp tw_13_20 dX3_pushSign_8 ?_
    refine lv_bipush (v := 60) hx hb dX3_pushSign_11 (by decide) ?_
    refine lv_icmp_ge (tgt := 36) hx hb dX3_pushSign_13 (by decide) (fun c2 => ?_) (fun c2 => ?_)
    · have h := it_p h c2
      exact hR _ _ _ _ _ dX3_pushSign_36 hp (Option.some.inj h)
    · have h := it_n h c2
      refine lv_aload_n hx hb dX3_pushSign_16 rfl (lv_at hl 0 rfl) ?_
      refine gS_X3_signs X hp tw_2_15 dX3_pushSign_17 ?_
      refine lv_aload_n hx hb dX3_pushSign_20 rfl (lv_at hl 0 rfl) ?_
      refine gS_X3_signCount X hp tw_13_20 dX3_pushSign_21 ?_
      refine lv_iload_n hx hb dX3_pushSign_24 rfl (lv_at hl 1 rfl) ?_
      obtain ⟨g3, h⟩ := gd_s h
      refine sS_X3_signs X hp g3 dX3_pushSign_25 (fun H locs σ4 eσ4 hp => ?_)
      have h := nm_s h σ4 eσ4
      refine lv_aload_n hx hb dX3_pushSign_26 rfl (lv_at hl 0 rfl) ?_
      refine lv_dup hx hb dX3_pushSign_27 rfl ?_
      refine gS_X3_signCount X hp tw_13_20 dX3_pushSign_28 ?_
      refine lv_iconst (v := 1) hx hb dX3_pushSign_31 (by decide) ?_
      refine lv_iadd hx hb dX3_pushSign_32 ?_
      refine pS_X3_signCount X hp tw_13_20 dX3_pushSign_33 (fun H locs σ5 eσ5 hp => ?_)
      have h := nm_s h σ5 eσ5
      exact hR _ _ _ _ _ dX3_pushSign_36 hp (Option.some.inj h)
def X3_strengthOf (v0 : Int32) : Option (Int32) :=
  if v0 = (38 : Int32) then
    some (3 : Int32)
  else if v0 = (94 : Int32) then
    some (2 : Int32)
  else if v0 = (124 : Int32) then
    some (1 : Int32)
  else 
    some (0 : Int32)
set_option maxRecDepth 20000 in
set_option maxHeartbeats 4000000 in
theorem c_X3_strengthOf {l : Launch} {D : va_G} {tys : List (ClassId × FieldType)} {w : St → va_W} {E : (Nat → Prop) → State → Prop} (hw : Adr w) (hE : EOK E) {σ : St} {v0 : Int32} {r : Int32} (h : X3_strengthOf v0 = some r) : MetI l yX3_strengthOf cX3_strengthOf 1 (some .int) 0 D tys w E [.int v0] σ r σ := by
  refine mkI (by decide) hw (Or.inl rfl) (Nat.le_of_ble_eq_true rfl) ?_
  intro p e R s m args below meth c A Q ls X hR hp hl
  obtain ⟨hx, hb, -, hown, hts, -⟩ := id X
  unfold X3_strengthOf at h
  have hl := lv_sub (l' := [(0, .int v0)]) hl [0] rfl
  refine lv_iload_n hx hb dX3_strengthOf_0 rfl (lv_at hl 0 rfl) ?_
  by_cases cs1 : v0 = (38 : Int32)
  · have h := it_p h cs1
    refine lsI (tgt := 40) (off := 39) (k := (38 : Int32)) hx hb dX3_strengthOf_1 cs1 (by decide) (by decide) (by decide) ?_
    refine lv_iconst (v := 3) hx hb dX3_strengthOf_40 (by decide) ?_
    exact hR _ _ _ _ _ _ dX3_strengthOf_41 hp (Option.some.inj h) rfl (fun q => by cases q)
  have h := it_n h cs1
  by_cases cs2 : v0 = (94 : Int32)
  · have h := it_p h cs2
    refine lsI (tgt := 38) (off := 37) (k := (94 : Int32)) hx hb dX3_strengthOf_1 cs2 (by decide) (by decide) (by decide) ?_
    refine lv_iconst (v := 2) hx hb dX3_strengthOf_38 (by decide) ?_
    exact hR _ _ _ _ _ _ dX3_strengthOf_39 hp (Option.some.inj h) rfl (fun q => by cases q)
  have h := it_n h cs2
  by_cases cs3 : v0 = (124 : Int32)
  · have h := it_p h cs3
    refine lsI (tgt := 36) (off := 35) (k := (124 : Int32)) hx hb dX3_strengthOf_1 cs3 (by decide) (by decide) (by decide) ?_
    refine lv_iconst (v := 1) hx hb dX3_strengthOf_36 (by decide) ?_
    exact hR _ _ _ _ _ _ dX3_strengthOf_37 hp (Option.some.inj h) rfl (fun q => by cases q)
  have h := it_n h cs3
  refine lv_lookup (tgt := 42) (off := 41) hx hb dX3_strengthOf_1 (by decide) (by show Op.lookupswitch.offset [(38, 39), (94, 37), (124, 35)] 41 (v0).toInt = _; rw [lv_osw cs1 (by decide), lv_osw cs2 (by decide), lv_osw cs3 (by decide)]; rfl) (by decide) ?_
  refine lv_iconst (v := 0) hx hb dX3_strengthOf_42 (by decide) ?_
  exact hR _ _ _ _ _ _ dX3_strengthOf_43 hp (Option.some.inj h) rfl (fun q => by cases q)
def X3_topSign (σ : St) : Option (Int32) :=
  if (σ.1 1) ≤ 0 then
    some (0 : Int32)
  else
    if (60 : Int32) < (σ.1 1) then
      some (0 : Int32)
    else
      gd (inb ((σ.1 1) - (1 : Int32)) 60) (
      some (σ.2.2.1 1 ((σ.1 1) - (1 : Int32)).toNatClampNeg))
set_option maxRecDepth 20000 in
set_option maxHeartbeats 4000000 in
theorem c_X3_topSign {l : Launch} {D : va_G} {a : Nat → Nat} {cA : Nat → ClassId} {t : Nat} {F : (Nat → Prop) → State → Prop} (hF : EOK F) {σ : St} {r : Int32} (h : X3_topSign σ = some r) : MetI l yX3_topSign cX3_topSign 1 (some .int) 0 D (tyW cA) (wS a cA) (ES t F) [.ref (a 1)] σ r σ := by
  refine mkI (by decide) (adrS a cA) (Or.inl rfl) (Nat.le_of_ble_eq_true rfl) ?_
  intro p e R s m args below meth c A Q ls X hR hp hl
  obtain ⟨hx, hb, -, hown, hts, -⟩ := id X
  unfold X3_topSign at h
  have hl := lv_sub (l' := [(0, .ref (a 1))]) hl [0] rfl
  refine lv_aload_n hx hb dX3_topSign_0 rfl (lv_at hl 0 rfl) ?_
  refine gS_X3_signCount X hp tw_13_20 dX3_topSign_1 ?_
  refine lv_if_le (tgt := 30) hx hb dX3_topSign_4 (by decide) (fun c1 => ?_) (fun c1 => ?_)
  · have h := it_p h c1
    refine lv_iconst (v := 0) hx hb dX3_topSign_30 (by decide) ?_
    exact hR _ _ _ _ _ _ dX3_topSign_31 hp (Option.some.inj h) rfl (fun q => by cases q)
  · have h := it_n h c1
    refine lv_aload_n hx hb dX3_topSign_7 rfl (lv_at hl 0 rfl) ?_
    refine gS_X3_signCount X hp tw_13_20 dX3_topSign_8 ?_
    refine lv_bipush (v := 60) hx hb dX3_topSign_11 (by decide) ?_
    refine lv_icmp_gt (tgt := 30) hx hb dX3_topSign_13 (by decide) (fun c2 => ?_) (fun c2 => ?_)
    · have h := it_p h c2
      refine lv_iconst (v := 0) hx hb dX3_topSign_30 (by decide) ?_
      exact hR _ _ _ _ _ _ dX3_topSign_31 hp (Option.some.inj h) rfl (fun q => by cases q)
    · have h := it_n h c2
      refine lv_aload_n hx hb dX3_topSign_16 rfl (lv_at hl 0 rfl) ?_
      refine gS_X3_signs X hp tw_2_15 dX3_topSign_17 ?_
      refine lv_aload_n hx hb dX3_topSign_20 rfl (lv_at hl 0 rfl) ?_
      refine gS_X3_signCount X hp tw_13_20 dX3_topSign_21 ?_
      refine lv_iconst (v := 1) hx hb dX3_topSign_24 (by decide) ?_
      refine lv_isub hx hb dX3_topSign_25 ?_
      obtain ⟨g3, h⟩ := gd_s h
      refine lS_X3_signs X hp g3 dX3_topSign_26 ?_
      refine lv_goto (tgt := 31) hx hb dX3_topSign_27 (by decide) ?_
      exact hR _ _ _ _ _ _ dX3_topSign_31 hp (Option.some.inj h) rfl (fun q => by cases q)
def X3_popSign (σ : St) : Option (Int32 × St) :=
  bd (X3_topSign σ) (fun t1 =>
  if (σ.1 1) ≤ 0 then
    some (t1, σ)
  else
    nm (si σ 1 ((σ.1 1) - (1 : Int32))) (fun (σ3 : St) =>
    some (t1, σ3)))
set_option maxRecDepth 20000 in
set_option maxHeartbeats 4000000 in
theorem c_X3_popSign {l : Launch} {D : va_G} {a : Nat → Nat} {cA : Nat → ClassId} {t : Nat} {F : (Nat → Prop) → State → Prop} (hF : EOK F) {σ : St} {r : Int32} {σ' : St} (h : X3_popSign σ = some (r, σ')) : MetI l yX3_popSign cX3_popSign 2 (some .int) 1 D (tyW cA) (wS a cA) (ES t F) [.ref (a 1)] σ r σ' := by
  refine mkI (by decide) (adrS a cA) (Or.inl rfl) (Nat.le_of_ble_eq_true rfl) ?_
  intro p e R s m args below meth c A Q ls X hR hp hl
  obtain ⟨hx, hb, -, hown, hts, -⟩ := id X
  unfold X3_popSign at h
  have hl := lv_sub (l' := [(0, .ref (a 1))]) hl [0] rfl
  refine lv_aload_n hx hb dX3_popSign_0 rfl (lv_at hl 0 rfl) ?_
  obtain ⟨t1, ht1, h⟩ := bd_s h
  refine cl_Vi X (eokS hF) (c_X3_topSign hF ht1) tw_14_9 mw_X3_topSign (by decide) hp 1 rfl rfl rfl hl.1 rfl (Nat.le_of_ble_eq_true rfl) dX3_popSign_1 (fun H locs hp => ?_)
  refine lv_istore_n (lv' := [(1, .int t1), (0, .ref (a 1))]) hx hb dX3_popSign_4 rfl hl (by decide) rfl (fun ls hl => ?_)
  refine lv_aload_n hx hb dX3_popSign_5 rfl (lv_at hl 1 rfl) ?_
  refine gS_X3_signCount X hp tw_13_20 dX3_popSign_6 ?_
  refine lv_if_le (tgt := 22) hx hb dX3_popSign_9 (by decide) (fun c2 => ?_) (fun c2 => ?_)
  · have h := it_p h c2
    refine lv_iload_n hx hb dX3_popSign_22 rfl (lv_at hl 0 rfl) ?_
    exact hR _ _ _ _ _ _ dX3_popSign_23 hp (congrArg Prod.fst (Option.some.inj h)) (congrArg Prod.snd (Option.some.inj h)) (fun q => by cases q)
  · have h := it_n h c2
    refine lv_aload_n hx hb dX3_popSign_12 rfl (lv_at hl 1 rfl) ?_
    refine lv_dup hx hb dX3_popSign_13 rfl ?_
    refine gS_X3_signCount X hp tw_13_20 dX3_popSign_14 ?_
    refine lv_iconst (v := 1) hx hb dX3_popSign_17 (by decide) ?_
    refine lv_isub hx hb dX3_popSign_18 ?_
    refine pS_X3_signCount X hp tw_13_20 dX3_popSign_19 (fun H locs σ3 eσ3 hp => ?_)
    have h := nm_s h σ3 eσ3
    refine lv_iload_n hx hb dX3_popSign_22 rfl (lv_at hl 0 rfl) ?_
    exact hR _ _ _ _ _ _ dX3_popSign_23 hp (congrArg Prod.fst (Option.some.inj h)) (congrArg Prod.snd (Option.some.inj h)) (fun q => by cases q)
def X3_popValue (σ : St) : Option (Int64 × St) :=
  if (σ.1 2) ≤ 0 then
    some ((0 : Int64), σ)
  else
    if (σ.1 2) ≤ (60 : Int32) then
      nm (si σ 2 ((σ.1 2) - (1 : Int32))) (fun (σ3 : St) =>
      gd (inb (σ3.1 2) 60) (
      some ((σ3.2.2.2 0 (σ3.1 2).toNatClampNeg), σ3)))
    else
      some ((0 : Int64), σ)
set_option maxRecDepth 20000 in
set_option maxHeartbeats 4000000 in
theorem c_X3_popValue {l : Launch} {D : va_G} {a : Nat → Nat} {cA : Nat → ClassId} {t : Nat} {F : (Nat → Prop) → State → Prop} (hF : EOK F) {σ : St} {r : Int64} {σ' : St} (h : X3_popValue σ = some (r, σ')) : MetL l yX3_popValue cX3_popValue 1 (some .long) 0 D (tyW cA) (wS a cA) (ES t F) [.ref (a 1)] σ r σ' := by
  refine mkL (by decide) (adrS a cA) rfl (Nat.le_of_ble_eq_true rfl) ?_
  intro p e R s m args below meth c A Q ls X hR hp hl
  obtain ⟨hx, hb, -, hown, hts, -⟩ := id X
  unfold X3_popValue at h
  have hl := lv_sub (l' := [(0, .ref (a 1))]) hl [0] rfl
  refine lv_aload_n hx hb dX3_popValue_0 rfl (lv_at hl 0 rfl) ?_
  refine gS_X3_valueCount X hp tw_13_21 dX3_popValue_1 ?_
  refine lv_if_le (tgt := 16) hx hb dX3_popValue_4 (by decide) (fun c1 => ?_) (fun c1 => ?_)
  · have h := it_p h c1
    refine lv_lconst (v := 0) hx hb dX3_popValue_16 (by decide) ?_
    exact hR _ _ _ _ _ _ dX3_popValue_17 hp (congrArg Prod.fst (Option.some.inj h)) (congrArg Prod.snd (Option.some.inj h))
  · have h := it_n h c1
    refine lv_aload_n hx hb dX3_popValue_7 rfl (lv_at hl 0 rfl) ?_
    refine gS_X3_valueCount X hp tw_13_21 dX3_popValue_8 ?_
    refine lv_bipush (v := 60) hx hb dX3_popValue_11 (by decide) ?_
    refine lv_icmp_le (tgt := 18) hx hb dX3_popValue_13 (by decide) (fun c2 => ?_) (fun c2 => ?_)
    · have h := it_p h c2
      refine lv_aload_n hx hb dX3_popValue_18 rfl (lv_at hl 0 rfl) ?_
      refine lv_dup hx hb dX3_popValue_19 rfl ?_
      refine gS_X3_valueCount X hp tw_13_21 dX3_popValue_20 ?_
      refine lv_iconst (v := 1) hx hb dX3_popValue_23 (by decide) ?_
      refine lv_isub hx hb dX3_popValue_24 ?_
      refine pS_X3_valueCount X hp tw_13_21 dX3_popValue_25 (fun H locs σ3 eσ3 hp => ?_)
      have h := nm_s h σ3 eσ3
      refine lv_aload_n hx hb dX3_popValue_28 rfl (lv_at hl 0 rfl) ?_
      refine gS_X3_values X hp tw_2_16 dX3_popValue_29 ?_
      refine lv_aload_n hx hb dX3_popValue_32 rfl (lv_at hl 0 rfl) ?_
      refine gS_X3_valueCount X hp tw_13_21 dX3_popValue_33 ?_
      obtain ⟨g4, h⟩ := gd_s h
      refine lS_X3_values X hp g4 dX3_popValue_36 ?_
      exact hR _ _ _ _ _ _ dX3_popValue_37 hp (congrArg Prod.fst (Option.some.inj h)) (congrArg Prod.snd (Option.some.inj h))
    · have h := it_n h c2
      refine lv_lconst (v := 0) hx hb dX3_popValue_16 (by decide) ?_
      exact hR _ _ _ _ _ _ dX3_popValue_17 hp (congrArg Prod.fst (Option.some.inj h)) (congrArg Prod.snd (Option.some.inj h))
def X3_pushValue (v1 : Int64) (σ : St) : Option (St) :=
  if (σ.1 2) < 0 then
    some σ
  else
    if (60 : Int32) ≤ (σ.1 2) then
      some σ
    else
      gd (inb (σ.1 2) 60) (
      nm (sb σ 0 (σ.1 2).toNatClampNeg v1) (fun (σ4 : St) =>
      nm (si σ4 2 ((σ4.1 2) + (1 : Int32))) (fun (σ5 : St) =>
      some σ5)))
set_option maxRecDepth 20000 in
set_option maxHeartbeats 4000000 in
theorem c_X3_pushValue {l : Launch} {D : va_G} {a : Nat → Nat} {cA : Nat → ClassId} {t : Nat} {F : (Nat → Prop) → State → Prop} (hF : EOK F) {σ : St} {v1 : Int64} {σ' : St} (h : X3_pushValue v1 σ = some σ') : MetV l yX3_pushValue cX3_pushValue 3 none 0 D (tyW cA) (wS a cA) (ES t F) [.ref (a 1), .long v1] σ σ' := by
  refine mkV (by decide) (adrS a cA) rfl (Nat.le_of_ble_eq_true rfl) ?_
  intro p e R s m args below meth c A Q ls X hR hp hl
  obtain ⟨hx, hb, -, hown, hts, -⟩ := id X
  unfold X3_pushValue at h
  have hl := lv_sub (l' := [(0, .ref (a 1)), (1, .long v1)]) hl [0, 1] rfl
  refine lv_aload_n hx hb dX3_pushValue_0 rfl (lv_at hl 0 rfl) ?_
  refine gS_X3_valueCount X hp tw_13_21 dX3_pushValue_1 ?_
  refine lv_if_lt (tgt := 36) hx hb dX3_pushValue_4 (by decide) (fun c1 => ?_) (fun c1 => ?_)
  · have h := it_p h c1
    exact hR _ _ _ _ _ dX3_pushValue_36 hp (Option.some.inj h)
  · have h := it_n h c1
    refine lv_aload_n hx hb dX3_pushValue_7 rfl (lv_at hl 0 rfl) ?_
    refine gS_X3_valueCount X hp tw_13_21 dX3_pushValue_8 ?_
    refine lv_bipush (v := 60) hx hb dX3_pushValue_11 (by decide) ?_
    refine lv_icmp_ge (tgt := 36) hx hb dX3_pushValue_13 (by decide) (fun c2 => ?_) (fun c2 => ?_)
    · have h := it_p h c2
      exact hR _ _ _ _ _ dX3_pushValue_36 hp (Option.some.inj h)
    · have h := it_n h c2
      refine lv_aload_n hx hb dX3_pushValue_16 rfl (lv_at hl 0 rfl) ?_
      refine gS_X3_values X hp tw_2_16 dX3_pushValue_17 ?_
      refine lv_aload_n hx hb dX3_pushValue_20 rfl (lv_at hl 0 rfl) ?_
      refine gS_X3_valueCount X hp tw_13_21 dX3_pushValue_21 ?_
      refine lv_lload_n hx hb dX3_pushValue_24 rfl (lv_at hl 1 rfl) ?_
      obtain ⟨g3, h⟩ := gd_s h
      refine sS_X3_values X hp g3 dX3_pushValue_25 (fun H locs σ4 eσ4 hp => ?_)
      have h := nm_s h σ4 eσ4
      refine lv_aload_n hx hb dX3_pushValue_26 rfl (lv_at hl 0 rfl) ?_
      refine lv_dup hx hb dX3_pushValue_27 rfl ?_
      refine gS_X3_valueCount X hp tw_13_21 dX3_pushValue_28 ?_
      refine lv_iconst (v := 1) hx hb dX3_pushValue_31 (by decide) ?_
      refine lv_iadd hx hb dX3_pushValue_32 ?_
      refine pS_X3_valueCount X hp tw_13_21 dX3_pushValue_33 (fun H locs σ5 eσ5 hp => ?_)
      have h := nm_s h σ5 eσ5
      exact hR _ _ _ _ _ dX3_pushValue_36 hp (Option.some.inj h)
def X3_applySigns_2b (k2 : (Int32 → St → Option (St))) (k87 : (St → Option (St))) (v1 : Int32) (v2 : Int32) (σ : St) : Option (St) :=
  if (60 : Int32) ≤ v2 then
    k87 σ
  else
    bd (X3_topSign σ) (fun t2 =>
    bd (X3_strengthOf t2) (fun t3 =>
    if t3 < v1 then
      k87 σ
    else
      bd (X3_popSign σ) (fun t5 =>
      bd (X3_popValue t5.2) (fun t6 =>
      bd (X3_popValue t6.2) (fun t7 =>
      if t5.1 = (38 : Int32) then
        bd (X3_pushValue (t7.1 &&& t6.1) t7.2) (fun t14 =>
        nm (v2 + (1 : Int32)) (fun (x15 : Int32) =>
        k2 x15 t14))
      else
        if t5.1 = (94 : Int32) then
          bd (X3_pushValue (t7.1 ^^^ t6.1) t7.2) (fun t12 =>
          nm (v2 + (1 : Int32)) (fun (x13 : Int32) =>
          k2 x13 t12))
        else
          bd (X3_pushValue (t7.1 ||| t6.1) t7.2) (fun t10 =>
          nm (v2 + (1 : Int32)) (fun (x11 : Int32) =>
          k2 x11 t10)))))))
def X3_applySigns_2 (k87 : (St → Option (St))) (v1 : Int32) : Nat → Int32 → St → Option (St)
  | 0, _, _ => none
  | n + 1, v2, σ => X3_applySigns_2b (fun v2 σ => X3_applySigns_2 k87 v1 n v2 σ) k87 v1 v2 σ
def X3_applySigns_87 (σ : St) : Option (St) :=
  some σ
def X3_applySigns (N : Nat) (v1 : Int32) (σ : St) : Option (St) :=
  X3_applySigns_2 (fun σ => X3_applySigns_87 σ) v1 N (0 : Int32) σ
set_option maxRecDepth 20000 in
set_option maxHeartbeats 4000000 in
theorem c_X3_applySigns {l : Launch} {D : va_G} {a : Nat → Nat} {cA : Nat → ClassId} {t : Nat} {F : (Nat → Prop) → State → Prop} (hF : EOK F) {σ : St} {N : Nat} {v1 : Int32} {σ' : St} (h : X3_applySigns N v1 σ = some σ') : MetV l yX3_applySigns cX3_applySigns 8 none 2 D (tyW cA) (wS a cA) (ES t F) [.ref (a 1), .int v1] σ σ' := by
  refine mkV (by decide) (adrS a cA) rfl (Nat.le_of_ble_eq_true rfl) ?_
  intro p e R s m args below meth c A Q ls X hR hp hl
  obtain ⟨hx, hb, -, hown, hts, -⟩ := id X
  have J_2 : ∀ (v1 : Int32) (k87 : (St → Option (St))) (hk87 : ∀ (σ : St) (H : Heap) (locs : List Loc) (ls : Array Slot), Pw D (wS a cA) A s.heap H locs σ → lv_has ls 8 [(0, .ref (a 1))] → k87 σ = some σ' → W p l e R s m args below meth c H locs 0 0 Q (F0 m 87 ls [])) (n : Nat) (v2 : Int32) (σ : St) (H : Heap) (locs : List Loc) (ls : Array Slot), Pw D (wS a cA) A s.heap H locs σ → lv_has ls 8 [(0, .ref (a 1)), (1, .int v1), (2, .int v2)] → X3_applySigns_2 k87 v1 n v2 σ = some σ' → W p l e R s m args below meth c H locs 0 0 Q (F0 m 2 ls []) := by
    intro v1 k87 hk87 n
    induction n with
    | zero => intro v2 σ H locs ls hp hl h; exact nn_s (show (none : Option (St)) = some _ from h)
    | succ n ih =>
      intro v2 σ H locs ls hp hl h
      have h : X3_applySigns_2b (fun v2 σ => X3_applySigns_2 k87 v1 n v2 σ) k87 v1 v2 σ = some σ' := h
      unfold X3_applySigns_2b at h
      have hk2 := ih
      refine lv_iload_n hx hb dX3_applySigns_2 rfl (lv_at hl 2 rfl) ?_
      refine lv_bipush (v := 60) hx hb dX3_applySigns_3 (by decide) ?_
      refine lv_icmp_ge (tgt := 87) hx hb dX3_applySigns_5 (by decide) (fun c1 => ?_) (fun c1 => ?_)
      · have h := it_p h c1
        exact hk87 σ _ _ _ hp (lv_sub hl [0] rfl) h
      · have h := it_n h c1
        refine lv_aload_n hx hb dX3_applySigns_8 rfl (lv_at hl 0 rfl) ?_
        obtain ⟨t2, ht2, h⟩ := bd_s h
        refine cl_Vi X (eokS hF) (c_X3_topSign hF ht2) tw_14_9 mw_X3_topSign (by decide) hp 1 rfl rfl rfl hl.1 rfl (Nat.le_of_ble_eq_true rfl) dX3_applySigns_9 (fun H locs hp => ?_)
        obtain ⟨t3, ht3, h⟩ := bd_s h
        refine cl_Si X (eokS hF) (c_X3_strengthOf (adrS a cA) (eokS hF) ht3) tw_14_2 mw_X3_strengthOf (by decide) hp hl.1 rfl (Nat.le_of_ble_eq_true rfl) dX3_applySigns_12 (fun H locs hp => ?_)
        refine lv_iload_n hx hb dX3_applySigns_15 rfl (lv_at hl 1 rfl) ?_
        refine lv_icmp_lt (tgt := 87) hx hb dX3_applySigns_16 (by decide) (fun c4 => ?_) (fun c4 => ?_)
        · have h := it_p h c4
          exact hk87 σ _ _ _ hp (lv_sub hl [0] rfl) h
        · have h := it_n h c4
          refine lv_aload_n hx hb dX3_applySigns_19 rfl (lv_at hl 0 rfl) ?_
          obtain ⟨t5, ht5, h⟩ := bd_s h
          refine cl_Vi X (eokS hF) (c_X3_popSign hF ht5) tw_14_13 mw_X3_popSign (by decide) hp 1 rfl rfl rfl hl.1 rfl (Nat.le_of_ble_eq_true rfl) dX3_applySigns_20 (fun H locs hp => ?_)
          refine lv_istore_n (lv' := [(3, .int t5.1), (0, .ref (a 1)), (1, .int v1), (2, .int v2)]) hx hb dX3_applySigns_23 rfl hl (by decide) rfl (fun ls hl => ?_)
          refine lv_aload_n hx hb dX3_applySigns_24 rfl (lv_at hl 1 rfl) ?_
          obtain ⟨t6, ht6, h⟩ := bd_s h
          refine cl_Vl X (eokS hF) (c_X3_popValue hF ht6) tw_14_17 mw_X3_popValue (by decide) hp 1 rfl rfl rfl hl.1 rfl (Nat.le_of_ble_eq_true rfl) dX3_applySigns_25 (fun H locs hp => ?_)
          refine lv_lstore (lv' := [(4, .long t6.1), (3, .int t5.1), (0, .ref (a 1)), (1, .int v1), (2, .int v2)]) hx hb dX3_applySigns_28 hl (by decide) rfl (fun ls hl => ?_)
          refine lv_aload_n hx hb dX3_applySigns_30 rfl (lv_at hl 2 rfl) ?_
          obtain ⟨t7, ht7, h⟩ := bd_s h
          refine cl_Vl X (eokS hF) (c_X3_popValue hF ht7) tw_14_17 mw_X3_popValue (by decide) hp 1 rfl rfl rfl hl.1 rfl (Nat.le_of_ble_eq_true rfl) dX3_applySigns_31 (fun H locs hp => ?_)
          refine lv_lstore (lv' := [(6, .long t7.1), (4, .long t6.1), (3, .int t5.1), (0, .ref (a 1)), (1, .int v1), (2, .int v2)]) hx hb dX3_applySigns_34 hl (by decide) rfl (fun ls hl => ?_)
          refine lv_iload_n hx hb dX3_applySigns_36 rfl (lv_at hl 2 rfl) ?_
          refine lv_bipush (v := 38) hx hb dX3_applySigns_37 (by decide) ?_
          refine lv_icmp_ne (tgt := 54) hx hb dX3_applySigns_39 (by decide) (fun c8 => ?_) (fun c8 => ?_)
          · have h := it_n h c8
            refine lv_iload_n hx hb dX3_applySigns_54 rfl (lv_at hl 2 rfl) ?_
            refine lv_bipush (v := 94) hx hb dX3_applySigns_55 (by decide) ?_
            refine lv_icmp_ne (tgt := 72) hx hb dX3_applySigns_57 (by decide) (fun c9 => ?_) (fun c9 => ?_)
            · have h := it_n h c9
              refine lv_aload_n hx hb dX3_applySigns_72 rfl (lv_at hl 3 rfl) ?_
              refine lv_lload hx hb dX3_applySigns_73 (lv_at hl 0 rfl) ?_
              refine lv_lload hx hb dX3_applySigns_75 (lv_at hl 1 rfl) ?_
              refine lv_lor hx hb dX3_applySigns_77 ?_
              obtain ⟨t10, ht10, h⟩ := bd_s h
              refine cl_Vv X (eokS hF) (c_X3_pushValue hF ht10) tw_14_21 mw_X3_pushValue (by decide) hp 1 rfl rfl rfl hl.1 rfl (Nat.le_of_ble_eq_true rfl) dX3_applySigns_78 (fun H locs hp => ?_)
              obtain ⟨x11, ex11⟩ : ∃ z : Int32, z = v2 + (1 : Int32) := ⟨_, rfl⟩
              have h := nm_s h x11 ex11
              refine lv_iinc (v := x11) (lv' := [(2, .int x11), (6, .long t7.1), (4, .long t6.1), (3, .int t5.1), (0, .ref (a 1)), (1, .int v1)]) hx hb dX3_applySigns_81 hl (k := 5) rfl (by rw [ex11]; rfl) (by decide) rfl (fun ls hl => ?_)
              refine lv_goto (tgt := 2) hx hb dX3_applySigns_84 (by decide) ?_
              exact hk2 x11 t10 _ _ _ hp (lv_sub hl [4, 5, 0] rfl) h
            · have h := it_p h c9
              refine lv_aload_n hx hb dX3_applySigns_60 rfl (lv_at hl 3 rfl) ?_
              refine lv_lload hx hb dX3_applySigns_61 (lv_at hl 0 rfl) ?_
              refine lv_lload hx hb dX3_applySigns_63 (lv_at hl 1 rfl) ?_
              refine lv_lxor hx hb dX3_applySigns_65 ?_
              obtain ⟨t12, ht12, h⟩ := bd_s h
              refine cl_Vv X (eokS hF) (c_X3_pushValue hF ht12) tw_14_21 mw_X3_pushValue (by decide) hp 1 rfl rfl rfl hl.1 rfl (Nat.le_of_ble_eq_true rfl) dX3_applySigns_66 (fun H locs hp => ?_)
              refine lv_goto (tgt := 81) hx hb dX3_applySigns_69 (by decide) ?_
              obtain ⟨x13, ex13⟩ : ∃ z : Int32, z = v2 + (1 : Int32) := ⟨_, rfl⟩
              have h := nm_s h x13 ex13
              refine lv_iinc (v := x13) (lv' := [(2, .int x13), (6, .long t7.1), (4, .long t6.1), (3, .int t5.1), (0, .ref (a 1)), (1, .int v1)]) hx hb dX3_applySigns_81 hl (k := 5) rfl (by rw [ex13]; rfl) (by decide) rfl (fun ls hl => ?_)
              refine lv_goto (tgt := 2) hx hb dX3_applySigns_84 (by decide) ?_
              exact hk2 x13 t12 _ _ _ hp (lv_sub hl [4, 5, 0] rfl) h
          · have h := it_p h c8
            refine lv_aload_n hx hb dX3_applySigns_42 rfl (lv_at hl 3 rfl) ?_
            refine lv_lload hx hb dX3_applySigns_43 (lv_at hl 0 rfl) ?_
            refine lv_lload hx hb dX3_applySigns_45 (lv_at hl 1 rfl) ?_
            refine lv_land hx hb dX3_applySigns_47 ?_
            obtain ⟨t14, ht14, h⟩ := bd_s h
            refine cl_Vv X (eokS hF) (c_X3_pushValue hF ht14) tw_14_21 mw_X3_pushValue (by decide) hp 1 rfl rfl rfl hl.1 rfl (Nat.le_of_ble_eq_true rfl) dX3_applySigns_48 (fun H locs hp => ?_)
            refine lv_goto (tgt := 81) hx hb dX3_applySigns_51 (by decide) ?_
            obtain ⟨x15, ex15⟩ : ∃ z : Int32, z = v2 + (1 : Int32) := ⟨_, rfl⟩
            have h := nm_s h x15 ex15
            refine lv_iinc (v := x15) (lv' := [(2, .int x15), (6, .long t7.1), (4, .long t6.1), (3, .int t5.1), (0, .ref (a 1)), (1, .int v1)]) hx hb dX3_applySigns_81 hl (k := 5) rfl (by rw [ex15]; rfl) (by decide) rfl (fun ls hl => ?_)
            refine lv_goto (tgt := 2) hx hb dX3_applySigns_84 (by decide) ?_
            exact hk2 x15 t14 _ _ _ hp (lv_sub hl [4, 5, 0] rfl) h
  have J_87 : ∀  (σ : St) (H : Heap) (locs : List Loc) (ls : Array Slot), Pw D (wS a cA) A s.heap H locs σ → lv_has ls 8 [(0, .ref (a 1))] → X3_applySigns_87 σ = some σ' → W p l e R s m args below meth c H locs 0 0 Q (F0 m 87 ls []) := by
    intro σ H locs ls hp hl h
    unfold X3_applySigns_87 at h
    exact hR _ _ _ _ _ dX3_applySigns_87 hp (Option.some.inj h)
  unfold X3_applySigns at h
  have hl := lv_sub (l' := [(0, .ref (a 1)), (1, .int v1)]) hl [0, 1] rfl
  refine lv_iconst (v := 0) hx hb dX3_applySigns_0 (by decide) ?_
  refine lv_istore_n (lv' := [(2, .int (0 : Int32)), (0, .ref (a 1)), (1, .int v1)]) hx hb dX3_applySigns_1 rfl hl (by decide) rfl (fun ls hl => ?_)
  exact J_2 v1 _ (fun σ H locs ls hp hl h => J_87 σ _ _ _ hp hl h) _ (0 : Int32) σ _ _ _ hp (lv_sub hl [1, 2, 0] rfl) h
def X3_applyNots_2b (k2 : (Int32 → St → Option (St))) (k40 : (St → Option (St))) (v1 : Int32) (σ : St) : Option (St) :=
  if (60 : Int32) ≤ v1 then
    k40 σ
  else
    bd (X3_topSign σ) (fun t2 =>
    if t2 = (33 : Int32) then
      bd (X3_popSign σ) (fun t4 =>
      bd (X3_popValue t4.2) (fun t5 =>
      bd (X3_pushValue (t5.1 ^^^ (-1 : Int64)) t5.2) (fun t6 =>
      nm (v1 + (1 : Int32)) (fun (x7 : Int32) =>
      k2 x7 t6))))
    else
      k40 σ)
def X3_applyNots_2 (k40 : (St → Option (St))) : Nat → Int32 → St → Option (St)
  | 0, _, _ => none
  | n + 1, v1, σ => X3_applyNots_2b (fun v1 σ => X3_applyNots_2 k40 n v1 σ) k40 v1 σ
def X3_applyNots_40 (σ : St) : Option (St) :=
  some σ
def X3_applyNots (N : Nat) (σ : St) : Option (St) :=
  X3_applyNots_2 (fun σ => X3_applyNots_40 σ) N (0 : Int32) σ
set_option maxRecDepth 20000 in
set_option maxHeartbeats 4000000 in
theorem c_X3_applyNots {l : Launch} {D : va_G} {a : Nat → Nat} {cA : Nat → ClassId} {t : Nat} {F : (Nat → Prop) → State → Prop} (hF : EOK F) {σ : St} {N : Nat} {σ' : St} (h : X3_applyNots N σ = some σ') : MetV l yX3_applyNots cX3_applyNots 2 none 2 D (tyW cA) (wS a cA) (ES t F) [.ref (a 1)] σ σ' := by
  refine mkV (by decide) (adrS a cA) rfl (Nat.le_of_ble_eq_true rfl) ?_
  intro p e R s m args below meth c A Q ls X hR hp hl
  obtain ⟨hx, hb, -, hown, hts, -⟩ := id X
  have J_2 : ∀  (k40 : (St → Option (St))) (hk40 : ∀ (σ : St) (H : Heap) (locs : List Loc) (ls : Array Slot), Pw D (wS a cA) A s.heap H locs σ → lv_has ls 2 [(0, .ref (a 1))] → k40 σ = some σ' → W p l e R s m args below meth c H locs 0 0 Q (F0 m 40 ls [])) (n : Nat) (v1 : Int32) (σ : St) (H : Heap) (locs : List Loc) (ls : Array Slot), Pw D (wS a cA) A s.heap H locs σ → lv_has ls 2 [(0, .ref (a 1)), (1, .int v1)] → X3_applyNots_2 k40 n v1 σ = some σ' → W p l e R s m args below meth c H locs 0 0 Q (F0 m 2 ls []) := by
    intro k40 hk40 n
    induction n with
    | zero => intro v1 σ H locs ls hp hl h; exact nn_s (show (none : Option (St)) = some _ from h)
    | succ n ih =>
      intro v1 σ H locs ls hp hl h
      have h : X3_applyNots_2b (fun v1 σ => X3_applyNots_2 k40 n v1 σ) k40 v1 σ = some σ' := h
      unfold X3_applyNots_2b at h
      have hk2 := ih
      refine lv_iload_n hx hb dX3_applyNots_2 rfl (lv_at hl 1 rfl) ?_
      refine lv_bipush (v := 60) hx hb dX3_applyNots_3 (by decide) ?_
      refine lv_icmp_ge (tgt := 40) hx hb dX3_applyNots_5 (by decide) (fun c1 => ?_) (fun c1 => ?_)
      · have h := it_p h c1
        exact hk40 σ _ _ _ hp (lv_sub hl [0] rfl) h
      · have h := it_n h c1
        refine lv_aload_n hx hb dX3_applyNots_8 rfl (lv_at hl 0 rfl) ?_
        obtain ⟨t2, ht2, h⟩ := bd_s h
        refine cl_Vi X (eokS hF) (c_X3_topSign hF ht2) tw_14_9 mw_X3_topSign (by decide) hp 1 rfl rfl rfl hl.1 rfl (Nat.le_of_ble_eq_true rfl) dX3_applyNots_9 (fun H locs hp => ?_)
        refine lv_bipush (v := 33) hx hb dX3_applyNots_12 (by decide) ?_
        refine lv_icmp_ne (tgt := 40) hx hb dX3_applyNots_14 (by decide) (fun c3 => ?_) (fun c3 => ?_)
        · have h := it_n h c3
          exact hk40 σ _ _ _ hp (lv_sub hl [0] rfl) h
        · have h := it_p h c3
          refine lv_aload_n hx hb dX3_applyNots_17 rfl (lv_at hl 0 rfl) ?_
          obtain ⟨t4, ht4, h⟩ := bd_s h
          refine cl_Vi X (eokS hF) (c_X3_popSign hF ht4) tw_14_13 mw_X3_popSign (by decide) hp 1 rfl rfl rfl hl.1 rfl (Nat.le_of_ble_eq_true rfl) dX3_applyNots_18 (fun H locs hp => ?_)
          refine lv_pop hx hb dX3_applyNots_21 rfl ?_
          refine lv_aload_n hx hb dX3_applyNots_22 rfl (lv_at hl 0 rfl) ?_
          refine lv_aload_n hx hb dX3_applyNots_23 rfl (lv_at hl 0 rfl) ?_
          obtain ⟨t5, ht5, h⟩ := bd_s h
          refine cl_Vl X (eokS hF) (c_X3_popValue hF ht5) tw_14_17 mw_X3_popValue (by decide) hp 1 rfl rfl rfl hl.1 rfl (Nat.le_of_ble_eq_true rfl) dX3_applyNots_24 (fun H locs hp => ?_)
          refine lv_ldc2 hx hb hown (hts _ tw_15_5) dX3_applyNots_27 ?_
          refine lv_lxor hx hb dX3_applyNots_30 ?_
          obtain ⟨t6, ht6, h⟩ := bd_s h
          refine cl_Vv X (eokS hF) (c_X3_pushValue hF ht6) tw_14_21 mw_X3_pushValue (by decide) hp 1 rfl rfl rfl hl.1 rfl (Nat.le_of_ble_eq_true rfl) dX3_applyNots_31 (fun H locs hp => ?_)
          obtain ⟨x7, ex7⟩ : ∃ z : Int32, z = v1 + (1 : Int32) := ⟨_, rfl⟩
          have h := nm_s h x7 ex7
          refine lv_iinc (v := x7) (lv' := [(1, .int x7), (0, .ref (a 1))]) hx hb dX3_applyNots_34 hl (k := 1) rfl (by rw [ex7]; rfl) (by decide) rfl (fun ls hl => ?_)
          refine lv_goto (tgt := 2) hx hb dX3_applyNots_37 (by decide) ?_
          exact hk2 x7 t6 _ _ _ hp (lv_sub hl [1, 0] rfl) h
  have J_40 : ∀  (σ : St) (H : Heap) (locs : List Loc) (ls : Array Slot), Pw D (wS a cA) A s.heap H locs σ → lv_has ls 2 [(0, .ref (a 1))] → X3_applyNots_40 σ = some σ' → W p l e R s m args below meth c H locs 0 0 Q (F0 m 40 ls []) := by
    intro σ H locs ls hp hl h
    unfold X3_applyNots_40 at h
    exact hR _ _ _ _ _ dX3_applyNots_40 hp (Option.some.inj h)
  unfold X3_applyNots at h
  have hl := lv_sub (l' := [(0, .ref (a 1))]) hl [0] rfl
  refine lv_iconst (v := 0) hx hb dX3_applyNots_0 (by decide) ?_
  refine lv_istore_n (lv' := [(1, .int (0 : Int32)), (0, .ref (a 1))]) hx hb dX3_applyNots_1 rfl hl (by decide) rfl (fun ls hl => ?_)
  exact J_2 _ (fun σ H locs ls hp hl h => J_40 σ _ _ _ hp hl h) _ (0 : Int32) σ _ _ _ hp (lv_sub hl [1, 0] rfl) h
def X3_operandValue_26 (σ : St) (v0 : Int32) (v1 : Int32) : Option (Int64) :=
  bd (X3_isInputName v0 (2 : Int32)) (fun t1 =>
  if t1 = 0 then
    if v0 = (49 : Int32) then
      some (-1 : Int64)
    else
      some (0 : Int64)
  else
    if ((v1 >>> ((v0 - (120 : Int32)) &&& 31)) &&& (1 : Int32)) = 0 then
      some (0 : Int64)
    else
      some (-1 : Int64))
def X3_operandValue (σ : St) (v0 : Int32) (v1 : Int32) : Option (Int64) :=
  if v0 < (97 : Int32) then
    X3_operandValue_26 σ v0 v1
  else
    if ((97 : Int32) + (6 : Int32)) ≤ v0 then
      X3_operandValue_26 σ v0 v1
    else
      gd (inb (v0 - (97 : Int32)) 6) (
      some (swb (v0 - (97 : Int32)).toNatClampNeg))
set_option maxRecDepth 20000 in
set_option maxHeartbeats 4000000 in
theorem c_X3_operandValue {l : Launch} {D : va_G} {a : Nat → Nat} {cA : Nat → ClassId} {t : Nat} {F : (Nat → Prop) → State → Prop} (hF : EOK F) {σ : St} {v0 : Int32} {v1 : Int32} {r : Int64} (h : X3_operandValue σ v0 v1 = some r) : MetL l yX3_operandValue cX3_operandValue 2 (some .long) 1 D (tyW cA) (wS a cA) (ES t F) [.int v0, .int v1] σ r σ := by
  refine mkL (by decide) (adrS a cA) rfl (Nat.le_of_ble_eq_true rfl) ?_
  intro p e R s m args below meth c A Q ls X hR hp hl
  obtain ⟨hx, hb, -, hown, hts, -⟩ := id X
  have J_26 : ∀ (v0 : Int32) (v1 : Int32) (H : Heap) (locs : List Loc) (ls : Array Slot), Pw D (wS a cA) A s.heap H locs σ → lv_has ls 2 [(0, .int v0), (1, .int v1)] → X3_operandValue_26 σ v0 v1 = some r → W p l e R s m args below meth c H locs 0 0 Q (F0 m 26 ls []) := by
    intro v0 v1 H locs ls hp hl h
    unfold X3_operandValue_26 at h
    refine lv_iload_n hx hb dX3_operandValue_26 rfl (lv_at hl 0 rfl) ?_
    refine lv_iconst (v := 2) hx hb dX3_operandValue_27 (by decide) ?_
    obtain ⟨t1, ht1, h⟩ := bd_s h
    refine cl_Si X (eokS hF) (c_X3_isInputName (adrS a cA) (eokS hF) ht1) tw_11_1 mw_X3_isInputName (by decide) hp hl.1 rfl (Nat.le_of_ble_eq_true rfl) dX3_operandValue_28 (fun H locs hp => ?_)
    refine lv_if_eq (tgt := 53) hx hb dX3_operandValue_31 (by decide) (fun c2 => ?_) (fun c2 => ?_)
    · have h := it_p h c2
      refine lv_iload_n hx hb dX3_operandValue_53 rfl (lv_at hl 0 rfl) ?_
      refine lv_bipush (v := 49) hx hb dX3_operandValue_54 (by decide) ?_
      refine lv_icmp_ne (tgt := 65) hx hb dX3_operandValue_56 (by decide) (fun c3 => ?_) (fun c3 => ?_)
      · have h := it_n h c3
        refine lv_lconst (v := 0) hx hb dX3_operandValue_65 (by decide) ?_
        exact hR _ _ _ _ _ _ dX3_operandValue_66 hp (Option.some.inj h) rfl
      · have h := it_p h c3
        refine lv_ldc2 hx hb hown (hts _ tw_15_5) dX3_operandValue_59 ?_
        refine lv_goto (tgt := 66) hx hb dX3_operandValue_62 (by decide) ?_
        exact hR _ _ _ _ _ _ dX3_operandValue_66 hp (Option.some.inj h) rfl
    · have h := it_n h c2
      refine lv_iload_n hx hb dX3_operandValue_34 rfl (lv_at hl 1 rfl) ?_
      refine lv_iload_n hx hb dX3_operandValue_35 rfl (lv_at hl 0 rfl) ?_
      refine lv_bipush (v := 120) hx hb dX3_operandValue_36 (by decide) ?_
      refine lv_isub hx hb dX3_operandValue_38 ?_
      refine lv_ishr hx hb dX3_operandValue_39 ?_
      refine lv_iconst (v := 1) hx hb dX3_operandValue_40 (by decide) ?_
      refine lv_iand hx hb dX3_operandValue_41 ?_
      refine lv_if_eq (tgt := 51) hx hb dX3_operandValue_42 (by decide) (fun c4 => ?_) (fun c4 => ?_)
      · have h := it_p h c4
        refine lv_lconst (v := 0) hx hb dX3_operandValue_51 (by decide) ?_
        exact hR _ _ _ _ _ _ dX3_operandValue_52 hp (Option.some.inj h) rfl
      · have h := it_n h c4
        refine lv_ldc2 hx hb hown (hts _ tw_15_5) dX3_operandValue_45 ?_
        refine lv_goto (tgt := 52) hx hb dX3_operandValue_48 (by decide) ?_
        exact hR _ _ _ _ _ _ dX3_operandValue_52 hp (Option.some.inj h) rfl
  unfold X3_operandValue at h
  have hl := lv_sub (l' := [(0, .int v0), (1, .int v1)]) hl [0, 1] rfl
  refine lv_iload_n hx hb dX3_operandValue_0 rfl (lv_at hl 0 rfl) ?_
  refine lv_bipush (v := 97) hx hb dX3_operandValue_1 (by decide) ?_
  refine lv_icmp_lt (tgt := 26) hx hb dX3_operandValue_3 (by decide) (fun c1 => ?_) (fun c1 => ?_)
  · have h := it_p h c1
    exact J_26 v0 v1 _ _ _ hp (lv_sub hl [0, 1] rfl) h
  · have h := it_n h c1
    refine lv_iload_n hx hb dX3_operandValue_6 rfl (lv_at hl 0 rfl) ?_
    refine lv_bipush (v := 97) hx hb dX3_operandValue_7 (by decide) ?_
    refine gsS X hp (List.mem_of_getElem? (i := 2) rfl) dX3_operandValue_9 ?_
    refine nsS X hp dX3_operandValue_12 ?_
    refine lv_iadd hx hb dX3_operandValue_13 ?_
    refine lv_icmp_ge (tgt := 26) hx hb dX3_operandValue_14 (by decide) (fun c2 => ?_) (fun c2 => ?_)
    · have h := it_p h c2
      exact J_26 v0 v1 _ _ _ hp (lv_sub hl [0, 1] rfl) h
    · have h := it_n h c2
      refine gsS X hp (List.mem_of_getElem? (i := 2) rfl) dX3_operandValue_17 ?_
      refine lv_iload_n hx hb dX3_operandValue_20 rfl (lv_at hl 0 rfl) ?_
      refine lv_bipush (v := 97) hx hb dX3_operandValue_21 (by decide) ?_
      refine lv_isub hx hb dX3_operandValue_23 ?_
      obtain ⟨g3, h⟩ := gd_s h
      refine lsS X hp g3 dX3_operandValue_24 ?_
      exact hR _ _ _ _ _ _ dX3_operandValue_25 hp (Option.some.inj h) rfl
