/- X3_valueFor J13_bitCount_95d88 X0_replaceRow_a1 X6_takeFormula X6_setNext X3_hasInputName X6_requireStateFormula X0_initial X6_setInit X0_good X6_setProperty X0_restoreLatest -/
def X3_valueFor_38 (k12 : (Int32 → St → Option (Int64 × St))) (v1 : Int32) (v2 : Int32) (v3 : Int32) (σ : St) : Option (Int64 × St) :=
  bd (X3_pushSign v3 σ) (fun t1 =>
  nm (v2 + (1 : Int32)) (fun (x2 : Int32) =>
  k12 x2 t1))
def X3_valueFor_12b (N : Nat) (k12 : (Int32 → St → Option (Int64 × St))) (k115 : (St → Option (Int64 × St))) (v1 : Int32) (v2 : Int32) (σ : St) : Option (Int64 × St) :=
  if (σ.1 0) ≤ v2 then
    k115 σ
  else
    bd (X3_codeAt σ v2) (fun t2 =>
    if t2 = (40 : Int32) then
      X3_valueFor_38 k12 v1 v2 t2 σ
    else
      if t2 = (33 : Int32) then
        X3_valueFor_38 k12 v1 v2 t2 σ
      else
        if t2 = (41 : Int32) then
          bd (X3_strengthOf (124 : Int32)) (fun t16 =>
          bd (X3_applySigns N t16 σ) (fun t17 =>
          bd (X3_popSign t17) (fun t18 =>
          bd (X3_applyNots N t18.2) (fun t19 =>
          nm (v2 + (1 : Int32)) (fun (x20 : Int32) =>
          k12 x20 t19)))))
        else
          bd (X3_strengthOf t2) (fun t6 =>
          if t6 ≤ 0 then
            bd (X3_operandValue σ t2 v1) (fun t8 =>
            bd (X3_pushValue t8 σ) (fun t9 =>
            bd (X3_applyNots N t9) (fun t10 =>
            nm (v2 + (1 : Int32)) (fun (x11 : Int32) =>
            k12 x11 t10))))
          else
            bd (X3_strengthOf t2) (fun t12 =>
            bd (X3_applySigns N t12 σ) (fun t13 =>
            bd (X3_pushSign t2 t13) (fun t14 =>
            nm (v2 + (1 : Int32)) (fun (x15 : Int32) =>
            k12 x15 t14))))))
def X3_valueFor_12 (N : Nat) (k115 : (St → Option (Int64 × St))) (v1 : Int32) : Nat → Int32 → St → Option (Int64 × St)
  | 0, _, _ => none
  | n + 1, v2, σ => X3_valueFor_12b N (fun v2 σ => X3_valueFor_12 N k115 v1 n v2 σ) k115 v1 v2 σ
def X3_valueFor_115 (N : Nat) (σ : St) : Option (Int64 × St) :=
  bd (X3_strengthOf (124 : Int32)) (fun t1 =>
  bd (X3_applySigns N t1 σ) (fun t2 =>
  bd (X3_popValue t2) (fun t3 =>
  some (t3.1, t3.2))))
def X3_valueFor (N : Nat) (v1 : Int32) (σ : St) : Option (Int64 × St) :=
  nm (si σ 1 (0 : Int32)) (fun (σ1 : St) =>
  nm (si σ1 2 (0 : Int32)) (fun (σ2 : St) =>
  X3_valueFor_12 N (fun σ => X3_valueFor_115 N σ) v1 N (0 : Int32) σ2))
set_option maxRecDepth 20000 in
set_option maxHeartbeats 4000000 in
theorem c_X3_valueFor {l : Launch} {D : va_G} {a : Nat → Nat} {cA : Nat → ClassId} {t : Nat} {F : (Nat → Prop) → State → Prop} (hF : EOK F) {σ : St} {N : Nat} {v1 : Int32} {r : Int64} {σ' : St} (h : X3_valueFor N v1 σ = some (r, σ')) : MetL l yX3_valueFor cX3_valueFor 4 (some .long) 3 D (tyW cA) (wS a cA) (ES t F) [.ref (a 1), .int v1] σ r σ' := by
  refine mkL (by decide) (adrS a cA) rfl (Nat.le_of_ble_eq_true rfl) ?_
  intro p e R s m args below meth c A Q ls X hR hp hl
  obtain ⟨hx, hb, -, hown, hts, -⟩ := id X
  have J_38 : ∀ (v1 : Int32) (v2 : Int32) (v3 : Int32) (k12 : (Int32 → St → Option (Int64 × St))) (hk12 : ∀ (v2 : Int32) (σ : St) (H : Heap) (locs : List Loc) (ls : Array Slot), Pw D (wS a cA) A s.heap H locs σ → lv_has ls 4 [(0, .ref (a 1)), (1, .int v1), (2, .int v2)] → k12 v2 σ = some (r, σ') → W p l e R s m args below meth c H locs 0 0 Q (F0 m 12 ls [])) (σ : St) (H : Heap) (locs : List Loc) (ls : Array Slot), Pw D (wS a cA) A s.heap H locs σ → lv_has ls 4 [(0, .ref (a 1)), (1, .int v1), (2, .int v2), (3, .int v3)] → X3_valueFor_38 k12 v1 v2 v3 σ = some (r, σ') → W p l e R s m args below meth c H locs 0 0 Q (F0 m 38 ls []) := by
    intro v1 v2 v3 k12 hk12 σ H locs ls hp hl h
    unfold X3_valueFor_38 at h
    refine lv_aload_n hx hb dX3_valueFor_38 rfl (lv_at hl 0 rfl) ?_
    refine lv_iload_n hx hb dX3_valueFor_39 rfl (lv_at hl 3 rfl) ?_
    obtain ⟨t1, ht1, h⟩ := bd_s h
    refine cl_Vv X (eokS hF) (c_X3_pushSign hF ht1) tw_13_22 mw_X3_pushSign (by decide) hp 1 rfl rfl rfl hl.1 rfl (Nat.le_of_ble_eq_true rfl) dX3_valueFor_40 (fun H locs hp => ?_)
    refine lv_goto (tgt := 109) hx hb dX3_valueFor_43 (by decide) ?_
    obtain ⟨x2, ex2⟩ : ∃ z : Int32, z = v2 + (1 : Int32) := ⟨_, rfl⟩
    have h := nm_s h x2 ex2
    refine lv_iinc (v := x2) (lv' := [(2, .int x2), (0, .ref (a 1)), (1, .int v1), (3, .int v3)]) hx hb dX3_valueFor_109 hl (k := 2) rfl (by rw [ex2]; rfl) (by decide) rfl (fun ls hl => ?_)
    refine lv_goto (tgt := 12) hx hb dX3_valueFor_112 (by decide) ?_
    exact hk12 x2 t1 _ _ _ hp (lv_sub hl [1, 2, 0] rfl) h
  have J_12 : ∀ (v1 : Int32) (k115 : (St → Option (Int64 × St))) (hk115 : ∀ (σ : St) (H : Heap) (locs : List Loc) (ls : Array Slot), Pw D (wS a cA) A s.heap H locs σ → lv_has ls 4 [(0, .ref (a 1))] → k115 σ = some (r, σ') → W p l e R s m args below meth c H locs 0 0 Q (F0 m 115 ls [])) (n : Nat) (v2 : Int32) (σ : St) (H : Heap) (locs : List Loc) (ls : Array Slot), Pw D (wS a cA) A s.heap H locs σ → lv_has ls 4 [(0, .ref (a 1)), (1, .int v1), (2, .int v2)] → X3_valueFor_12 N k115 v1 n v2 σ = some (r, σ') → W p l e R s m args below meth c H locs 0 0 Q (F0 m 12 ls []) := by
    intro v1 k115 hk115 n
    induction n with
    | zero => intro v2 σ H locs ls hp hl h; exact nn_s (show (none : Option (Int64 × St)) = some _ from h)
    | succ n ih =>
      intro v2 σ H locs ls hp hl h
      have h : X3_valueFor_12b N (fun v2 σ => X3_valueFor_12 N k115 v1 n v2 σ) k115 v1 v2 σ = some (r, σ') := h
      unfold X3_valueFor_12b at h
      have hk12 := ih
      refine lv_iload_n hx hb dX3_valueFor_12 rfl (lv_at hl 2 rfl) ?_
      refine lv_aload_n hx hb dX3_valueFor_13 rfl (lv_at hl 0 rfl) ?_
      refine gS_X3_length X hp tw_9_8 dX3_valueFor_14 ?_
      refine lv_icmp_ge (tgt := 115) hx hb dX3_valueFor_17 (by decide) (fun c1 => ?_) (fun c1 => ?_)
      · have h := it_p h c1
        exact hk115 σ _ _ _ hp (lv_sub hl [0] rfl) h
      · have h := it_n h c1
        refine lv_aload_n hx hb dX3_valueFor_20 rfl (lv_at hl 0 rfl) ?_
        refine lv_iload_n hx hb dX3_valueFor_21 rfl (lv_at hl 2 rfl) ?_
        obtain ⟨t2, ht2, h⟩ := bd_s h
        refine cl_Vi X (eokS hF) (c_X3_codeAt hF ht2) tw_10_14 mw_X3_codeAt (by decide) hp 1 rfl rfl rfl hl.1 rfl (Nat.le_of_ble_eq_true rfl) dX3_valueFor_22 (fun H locs hp => ?_)
        refine lv_istore_n (lv' := [(3, .int t2), (0, .ref (a 1)), (1, .int v1), (2, .int v2)]) hx hb dX3_valueFor_25 rfl hl (by decide) rfl (fun ls hl => ?_)
        refine lv_iload_n hx hb dX3_valueFor_26 rfl (lv_at hl 0 rfl) ?_
        refine lv_bipush (v := 40) hx hb dX3_valueFor_27 (by decide) ?_
        refine lv_icmp_eq (tgt := 38) hx hb dX3_valueFor_29 (by decide) (fun c3 => ?_) (fun c3 => ?_)
        · have h := it_p h c3
          exact J_38 v1 v2 t2 _ hk12 σ _ _ _ hp (lv_sub hl [1, 2, 3, 0] rfl) h
        · have h := it_n h c3
          refine lv_iload_n hx hb dX3_valueFor_32 rfl (lv_at hl 0 rfl) ?_
          refine lv_bipush (v := 33) hx hb dX3_valueFor_33 (by decide) ?_
          refine lv_icmp_ne (tgt := 46) hx hb dX3_valueFor_35 (by decide) (fun c4 => ?_) (fun c4 => ?_)
          · have h := it_n h c4
            refine lv_iload_n hx hb dX3_valueFor_46 rfl (lv_at hl 0 rfl) ?_
            refine lv_bipush (v := 41) hx hb dX3_valueFor_47 (by decide) ?_
            refine lv_icmp_ne (tgt := 73) hx hb dX3_valueFor_49 (by decide) (fun c5 => ?_) (fun c5 => ?_)
            · have h := it_n h c5
              refine lv_iload_n hx hb dX3_valueFor_73 rfl (lv_at hl 0 rfl) ?_
              obtain ⟨t6, ht6, h⟩ := bd_s h
              refine cl_Si X (eokS hF) (c_X3_strengthOf (adrS a cA) (eokS hF) ht6) tw_14_2 mw_X3_strengthOf (by decide) hp hl.1 rfl (Nat.le_of_ble_eq_true rfl) dX3_valueFor_74 (fun H locs hp => ?_)
              refine lv_if_le (tgt := 96) hx hb dX3_valueFor_77 (by decide) (fun c7 => ?_) (fun c7 => ?_)
              · have h := it_p h c7
                refine lv_aload_n hx hb dX3_valueFor_96 rfl (lv_at hl 1 rfl) ?_
                refine lv_iload_n hx hb dX3_valueFor_97 rfl (lv_at hl 0 rfl) ?_
                refine lv_iload_n hx hb dX3_valueFor_98 rfl (lv_at hl 2 rfl) ?_
                obtain ⟨t8, ht8, h⟩ := bd_s h
                refine cl_Sl X (eokS hF) (c_X3_operandValue hF ht8) tw_15_6 mw_X3_operandValue (by decide) hp hl.1 rfl (Nat.le_of_ble_eq_true rfl) dX3_valueFor_99 (fun H locs hp => ?_)
                obtain ⟨t9, ht9, h⟩ := bd_s h
                refine cl_Vv X (eokS hF) (c_X3_pushValue hF ht9) tw_14_21 mw_X3_pushValue (by decide) hp 1 rfl rfl rfl hl.1 rfl (Nat.le_of_ble_eq_true rfl) dX3_valueFor_102 (fun H locs hp => ?_)
                refine lv_aload_n hx hb dX3_valueFor_105 rfl (lv_at hl 1 rfl) ?_
                obtain ⟨t10, ht10, h⟩ := bd_s h
                refine cl_Vv X (eokS hF) (c_X3_applyNots hF ht10) tw_15_1 mw_X3_applyNots (by decide) hp 1 rfl rfl rfl hl.1 rfl (Nat.le_of_ble_eq_true rfl) dX3_valueFor_106 (fun H locs hp => ?_)
                obtain ⟨x11, ex11⟩ : ∃ z : Int32, z = v2 + (1 : Int32) := ⟨_, rfl⟩
                have h := nm_s h x11 ex11
                refine lv_iinc (v := x11) (lv' := [(2, .int x11), (3, .int t2), (0, .ref (a 1)), (1, .int v1)]) hx hb dX3_valueFor_109 hl (k := 3) rfl (by rw [ex11]; rfl) (by decide) rfl (fun ls hl => ?_)
                refine lv_goto (tgt := 12) hx hb dX3_valueFor_112 (by decide) ?_
                exact hk12 x11 t10 _ _ _ hp (lv_sub hl [2, 3, 0] rfl) h
              · have h := it_n h c7
                refine lv_aload_n hx hb dX3_valueFor_80 rfl (lv_at hl 1 rfl) ?_
                refine lv_iload_n hx hb dX3_valueFor_81 rfl (lv_at hl 0 rfl) ?_
                obtain ⟨t12, ht12, h⟩ := bd_s h
                refine cl_Si X (eokS hF) (c_X3_strengthOf (adrS a cA) (eokS hF) ht12) tw_14_2 mw_X3_strengthOf (by decide) hp hl.1 rfl (Nat.le_of_ble_eq_true rfl) dX3_valueFor_82 (fun H locs hp => ?_)
                obtain ⟨t13, ht13, h⟩ := bd_s h
                refine cl_Vv X (eokS hF) (c_X3_applySigns hF ht13) tw_14_5 mw_X3_applySigns (by decide) hp 1 rfl rfl rfl hl.1 rfl (Nat.le_of_ble_eq_true rfl) dX3_valueFor_85 (fun H locs hp => ?_)
                refine lv_aload_n hx hb dX3_valueFor_88 rfl (lv_at hl 1 rfl) ?_
                refine lv_iload_n hx hb dX3_valueFor_89 rfl (lv_at hl 0 rfl) ?_
                obtain ⟨t14, ht14, h⟩ := bd_s h
                refine cl_Vv X (eokS hF) (c_X3_pushSign hF ht14) tw_13_22 mw_X3_pushSign (by decide) hp 1 rfl rfl rfl hl.1 rfl (Nat.le_of_ble_eq_true rfl) dX3_valueFor_90 (fun H locs hp => ?_)
                refine lv_goto (tgt := 109) hx hb dX3_valueFor_93 (by decide) ?_
                obtain ⟨x15, ex15⟩ : ∃ z : Int32, z = v2 + (1 : Int32) := ⟨_, rfl⟩
                have h := nm_s h x15 ex15
                refine lv_iinc (v := x15) (lv' := [(2, .int x15), (3, .int t2), (0, .ref (a 1)), (1, .int v1)]) hx hb dX3_valueFor_109 hl (k := 3) rfl (by rw [ex15]; rfl) (by decide) rfl (fun ls hl => ?_)
                refine lv_goto (tgt := 12) hx hb dX3_valueFor_112 (by decide) ?_
                exact hk12 x15 t14 _ _ _ hp (lv_sub hl [2, 3, 0] rfl) h
            · have h := it_p h c5
              refine lv_aload_n hx hb dX3_valueFor_52 rfl (lv_at hl 1 rfl) ?_
              refine lv_bipush (v := 124) hx hb dX3_valueFor_53 (by decide) ?_
              obtain ⟨t16, ht16, h⟩ := bd_s h
              refine cl_Si X (eokS hF) (c_X3_strengthOf (adrS a cA) (eokS hF) ht16) tw_14_2 mw_X3_strengthOf (by decide) hp hl.1 rfl (Nat.le_of_ble_eq_true rfl) dX3_valueFor_55 (fun H locs hp => ?_)
              obtain ⟨t17, ht17, h⟩ := bd_s h
              refine cl_Vv X (eokS hF) (c_X3_applySigns hF ht17) tw_14_5 mw_X3_applySigns (by decide) hp 1 rfl rfl rfl hl.1 rfl (Nat.le_of_ble_eq_true rfl) dX3_valueFor_58 (fun H locs hp => ?_)
              refine lv_aload_n hx hb dX3_valueFor_61 rfl (lv_at hl 1 rfl) ?_
              obtain ⟨t18, ht18, h⟩ := bd_s h
              refine cl_Vi X (eokS hF) (c_X3_popSign hF ht18) tw_14_13 mw_X3_popSign (by decide) hp 1 rfl rfl rfl hl.1 rfl (Nat.le_of_ble_eq_true rfl) dX3_valueFor_62 (fun H locs hp => ?_)
              refine lv_pop hx hb dX3_valueFor_65 rfl ?_
              refine lv_aload_n hx hb dX3_valueFor_66 rfl (lv_at hl 1 rfl) ?_
              obtain ⟨t19, ht19, h⟩ := bd_s h
              refine cl_Vv X (eokS hF) (c_X3_applyNots hF ht19) tw_15_1 mw_X3_applyNots (by decide) hp 1 rfl rfl rfl hl.1 rfl (Nat.le_of_ble_eq_true rfl) dX3_valueFor_67 (fun H locs hp => ?_)
              refine lv_goto (tgt := 109) hx hb dX3_valueFor_70 (by decide) ?_
              obtain ⟨x20, ex20⟩ : ∃ z : Int32, z = v2 + (1 : Int32) := ⟨_, rfl⟩
              have h := nm_s h x20 ex20
              refine lv_iinc (v := x20) (lv' := [(2, .int x20), (3, .int t2), (0, .ref (a 1)), (1, .int v1)]) hx hb dX3_valueFor_109 hl (k := 3) rfl (by rw [ex20]; rfl) (by decide) rfl (fun ls hl => ?_)
              refine lv_goto (tgt := 12) hx hb dX3_valueFor_112 (by decide) ?_
              exact hk12 x20 t19 _ _ _ hp (lv_sub hl [2, 3, 0] rfl) h
          · have h := it_p h c4
            exact J_38 v1 v2 t2 _ hk12 σ _ _ _ hp (lv_sub hl [1, 2, 3, 0] rfl) h
  have J_115 : ∀  (σ : St) (H : Heap) (locs : List Loc) (ls : Array Slot), Pw D (wS a cA) A s.heap H locs σ → lv_has ls 4 [(0, .ref (a 1))] → X3_valueFor_115 N σ = some (r, σ') → W p l e R s m args below meth c H locs 0 0 Q (F0 m 115 ls []) := by
    intro σ H locs ls hp hl h
    unfold X3_valueFor_115 at h
    refine lv_aload_n hx hb dX3_valueFor_115 rfl (lv_at hl 0 rfl) ?_
    refine lv_bipush (v := 124) hx hb dX3_valueFor_116 (by decide) ?_
    obtain ⟨t1, ht1, h⟩ := bd_s h
    refine cl_Si X (eokS hF) (c_X3_strengthOf (adrS a cA) (eokS hF) ht1) tw_14_2 mw_X3_strengthOf (by decide) hp hl.1 rfl (Nat.le_of_ble_eq_true rfl) dX3_valueFor_118 (fun H locs hp => ?_)
    obtain ⟨t2, ht2, h⟩ := bd_s h
    refine cl_Vv X (eokS hF) (c_X3_applySigns hF ht2) tw_14_5 mw_X3_applySigns (by decide) hp 1 rfl rfl rfl hl.1 rfl (Nat.le_of_ble_eq_true rfl) dX3_valueFor_121 (fun H locs hp => ?_)
    refine lv_aload_n hx hb dX3_valueFor_124 rfl (lv_at hl 0 rfl) ?_
    obtain ⟨t3, ht3, h⟩ := bd_s h
    refine cl_Vl X (eokS hF) (c_X3_popValue hF ht3) tw_14_17 mw_X3_popValue (by decide) hp 1 rfl rfl rfl hl.1 rfl (Nat.le_of_ble_eq_true rfl) dX3_valueFor_125 (fun H locs hp => ?_)
    exact hR _ _ _ _ _ _ dX3_valueFor_128 hp (congrArg Prod.fst (Option.some.inj h)) (congrArg Prod.snd (Option.some.inj h))
  unfold X3_valueFor at h
  have hl := lv_sub (l' := [(0, .ref (a 1)), (1, .int v1)]) hl [0, 1] rfl
  refine lv_aload_n hx hb dX3_valueFor_0 rfl (lv_at hl 0 rfl) ?_
  refine lv_iconst (v := 0) hx hb dX3_valueFor_1 (by decide) ?_
  refine pS_X3_signCount X hp tw_13_20 dX3_valueFor_2 (fun H locs σ1 eσ1 hp => ?_)
  have h := nm_s h σ1 eσ1
  refine lv_aload_n hx hb dX3_valueFor_5 rfl (lv_at hl 0 rfl) ?_
  refine lv_iconst (v := 0) hx hb dX3_valueFor_6 (by decide) ?_
  refine pS_X3_valueCount X hp tw_13_21 dX3_valueFor_7 (fun H locs σ2 eσ2 hp => ?_)
  have h := nm_s h σ2 eσ2
  refine lv_iconst (v := 0) hx hb dX3_valueFor_10 (by decide) ?_
  refine lv_istore_n (lv' := [(2, .int (0 : Int32)), (0, .ref (a 1)), (1, .int v1)]) hx hb dX3_valueFor_11 rfl hl (by decide) rfl (fun ls hl => ?_)
  exact J_12 v1 _ (fun σ H locs ls hp hl h => J_115 σ _ _ _ hp hl h) _ (0 : Int32) σ2 _ _ _ hp (lv_sub hl [1, 2, 0] rfl) h
def J13_bitCount_95d88 (v0 : Int64) : Option (Int32) :=
  nm (v0 - (((v0.toUInt64 >>> ((1 : Int32).toInt64.toUInt64 &&& Int64.toUInt64 63)).toInt64) &&& (6148914691236517205 : Int64))) (fun (x1 : Int64) =>
  nm ((x1 &&& (3689348814741910323 : Int64)) + (((x1.toUInt64 >>> ((2 : Int32).toInt64.toUInt64 &&& Int64.toUInt64 63)).toInt64) &&& (3689348814741910323 : Int64))) (fun (x2 : Int64) =>
  nm ((x2 + ((x2.toUInt64 >>> ((4 : Int32).toInt64.toUInt64 &&& Int64.toUInt64 63)).toInt64)) &&& (1085102592571150095 : Int64)) (fun (x3 : Int64) =>
  nm (x3 + ((x3.toUInt64 >>> ((8 : Int32).toInt64.toUInt64 &&& Int64.toUInt64 63)).toInt64)) (fun (x4 : Int64) =>
  nm (x4 + ((x4.toUInt64 >>> ((16 : Int32).toInt64.toUInt64 &&& Int64.toUInt64 63)).toInt64)) (fun (x5 : Int64) =>
  nm (x5 + ((x5.toUInt64 >>> ((32 : Int32).toInt64.toUInt64 &&& Int64.toUInt64 63)).toInt64)) (fun (x6 : Int64) =>
  some ((x6.toInt32) &&& (127 : Int32))))))))
set_option maxRecDepth 20000 in
set_option maxHeartbeats 4000000 in
theorem c_J13_bitCount_95d88 {l : Launch} {D : va_G} {tys : List (ClassId × FieldType)} {w : St → va_W} {E : (Nat → Prop) → State → Prop} (hw : Adr w) (hE : EOK E) {σ : St} {v0 : Int64} {r : Int32} (h : J13_bitCount_95d88 v0 = some r) : MetI l yJ13_bitCount_95d88 cJ13_bitCount_95d88 2 (some .int) 0 D tys w E [.long v0] σ r σ := by
  refine mkI (by decide) hw (Or.inl rfl) (Nat.le_of_ble_eq_true rfl) ?_
  intro p e R s m args below meth c A Q ls X hR hp hl
  obtain ⟨hx, hb, -, hown, hts, -⟩ := id X
  unfold J13_bitCount_95d88 at h
  have hl := lv_sub (l' := [(0, .long v0)]) hl [0] rfl
  refine lv_lload_n hx hb dJ13_bitCount_95d88_0 rfl (lv_at hl 0 rfl) ?_
  refine lv_lload_n hx hb dJ13_bitCount_95d88_1 rfl (lv_at hl 0 rfl) ?_
  refine lv_iconst (v := 1) hx hb dJ13_bitCount_95d88_2 (by decide) ?_
  refine lv_lushr hx hb dJ13_bitCount_95d88_3 rfl ?_
  refine lv_ldc2 hx hb hown (hts _ tw_15_13) dJ13_bitCount_95d88_4 ?_
  refine lv_land hx hb dJ13_bitCount_95d88_7 ?_
  refine lv_lsub hx hb dJ13_bitCount_95d88_8 ?_
  refine lv_topl (fun x1 ex1 => ?_)
  have h := nm_s h x1 ex1
  refine lv_lstore_n (lv' := [(0, .long x1)]) hx hb dJ13_bitCount_95d88_9 rfl hl (by decide) rfl (fun ls hl => ?_)
  refine lv_lload_n hx hb dJ13_bitCount_95d88_10 rfl (lv_at hl 0 rfl) ?_
  refine lv_ldc2 hx hb hown (hts _ tw_15_14) dJ13_bitCount_95d88_11 ?_
  refine lv_land hx hb dJ13_bitCount_95d88_14 ?_
  refine lv_lload_n hx hb dJ13_bitCount_95d88_15 rfl (lv_at hl 0 rfl) ?_
  refine lv_iconst (v := 2) hx hb dJ13_bitCount_95d88_16 (by decide) ?_
  refine lv_lushr hx hb dJ13_bitCount_95d88_17 rfl ?_
  refine lv_ldc2 hx hb hown (hts _ tw_15_14) dJ13_bitCount_95d88_18 ?_
  refine lv_land hx hb dJ13_bitCount_95d88_21 ?_
  refine lv_ladd hx hb dJ13_bitCount_95d88_22 ?_
  refine lv_topl (fun x2 ex2 => ?_)
  have h := nm_s h x2 ex2
  refine lv_lstore_n (lv' := [(0, .long x2)]) hx hb dJ13_bitCount_95d88_23 rfl hl (by decide) rfl (fun ls hl => ?_)
  refine lv_lload_n hx hb dJ13_bitCount_95d88_24 rfl (lv_at hl 0 rfl) ?_
  refine lv_lload_n hx hb dJ13_bitCount_95d88_25 rfl (lv_at hl 0 rfl) ?_
  refine lv_iconst (v := 4) hx hb dJ13_bitCount_95d88_26 (by decide) ?_
  refine lv_lushr hx hb dJ13_bitCount_95d88_27 rfl ?_
  refine lv_ladd hx hb dJ13_bitCount_95d88_28 ?_
  refine lv_ldc2 hx hb hown (hts _ tw_15_15) dJ13_bitCount_95d88_29 ?_
  refine lv_land hx hb dJ13_bitCount_95d88_32 ?_
  refine lv_topl (fun x3 ex3 => ?_)
  have h := nm_s h x3 ex3
  refine lv_lstore_n (lv' := [(0, .long x3)]) hx hb dJ13_bitCount_95d88_33 rfl hl (by decide) rfl (fun ls hl => ?_)
  refine lv_lload_n hx hb dJ13_bitCount_95d88_34 rfl (lv_at hl 0 rfl) ?_
  refine lv_lload_n hx hb dJ13_bitCount_95d88_35 rfl (lv_at hl 0 rfl) ?_
  refine lv_bipush (v := 8) hx hb dJ13_bitCount_95d88_36 (by decide) ?_
  refine lv_lushr hx hb dJ13_bitCount_95d88_38 rfl ?_
  refine lv_ladd hx hb dJ13_bitCount_95d88_39 ?_
  refine lv_topl (fun x4 ex4 => ?_)
  have h := nm_s h x4 ex4
  refine lv_lstore_n (lv' := [(0, .long x4)]) hx hb dJ13_bitCount_95d88_40 rfl hl (by decide) rfl (fun ls hl => ?_)
  refine lv_lload_n hx hb dJ13_bitCount_95d88_41 rfl (lv_at hl 0 rfl) ?_
  refine lv_lload_n hx hb dJ13_bitCount_95d88_42 rfl (lv_at hl 0 rfl) ?_
  refine lv_bipush (v := 16) hx hb dJ13_bitCount_95d88_43 (by decide) ?_
  refine lv_lushr hx hb dJ13_bitCount_95d88_45 rfl ?_
  refine lv_ladd hx hb dJ13_bitCount_95d88_46 ?_
  refine lv_topl (fun x5 ex5 => ?_)
  have h := nm_s h x5 ex5
  refine lv_lstore_n (lv' := [(0, .long x5)]) hx hb dJ13_bitCount_95d88_47 rfl hl (by decide) rfl (fun ls hl => ?_)
  refine lv_lload_n hx hb dJ13_bitCount_95d88_48 rfl (lv_at hl 0 rfl) ?_
  refine lv_lload_n hx hb dJ13_bitCount_95d88_49 rfl (lv_at hl 0 rfl) ?_
  refine lv_bipush (v := 32) hx hb dJ13_bitCount_95d88_50 (by decide) ?_
  refine lv_lushr hx hb dJ13_bitCount_95d88_52 rfl ?_
  refine lv_ladd hx hb dJ13_bitCount_95d88_53 ?_
  refine lv_topl (fun x6 ex6 => ?_)
  have h := nm_s h x6 ex6
  refine lv_lstore_n (lv' := [(0, .long x6)]) hx hb dJ13_bitCount_95d88_54 rfl hl (by decide) rfl (fun ls hl => ?_)
  refine lv_lload_n hx hb dJ13_bitCount_95d88_55 rfl (lv_at hl 0 rfl) ?_
  refine lv_l2i hx hb dJ13_bitCount_95d88_56 rfl ?_
  refine lv_bipush (v := 127) hx hb dJ13_bitCount_95d88_57 (by decide) ?_
  refine lv_iand hx hb dJ13_bitCount_95d88_59 ?_
  exact hR _ _ _ _ _ _ dJ13_bitCount_95d88_60 hp (Option.some.inj h) rfl (fun q => by cases q)
def X0_replaceRow_a1_10b (N : Nat) (k10 : (Int32 → Int32 → St → Option (Int32 × St))) (k63 : (Int32 → St → Option (Int32 × St))) (v1 : Int32) (v3 : Int32) (v4 : Int32) (σ : St) : Option (Int32 × St) :=
  if (σ.1 8) ≤ v4 then
    k63 v3 σ
  else
    bd (X3_valueFor N v4 σ) (fun t2 =>
    nm (t2.1 &&& (t2.2.2.1 0)) (fun (x3 : Int64) =>
    bd (X0_table t2.2 v1 v4) (fun t4 =>
    bd (J13_bitCount_95d88 (x3 ^^^ t4)) (fun t5 =>
    nm (v3 + t5) (fun (x6 : Int32) =>
    bd (X0_putTable v1 v4 x3 t2.2) (fun t7 =>
    nm (v4 + (1 : Int32)) (fun (x8 : Int32) =>
    k10 x6 x8 t7)))))))
def X0_replaceRow_a1_10 (N : Nat) (k63 : (Int32 → St → Option (Int32 × St))) (v1 : Int32) : Nat → Int32 → Int32 → St → Option (Int32 × St)
  | 0, _, _, _ => none
  | n + 1, v3, v4, σ => X0_replaceRow_a1_10b N (fun v3 v4 σ => X0_replaceRow_a1_10 N k63 v1 n v3 v4 σ) k63 v1 v3 v4 σ
def X0_replaceRow_a1_63 (v3 : Int32) (σ : St) : Option (Int32 × St) :=
  some (v3, σ)
def X0_replaceRow_a1 (N : Nat) (v1 : Int32) (σ : St) : Option (Int32 × St) :=
  bd (X0_keepRow N v1 σ) (fun t1 =>
  X0_replaceRow_a1_10 N (fun v3 σ => X0_replaceRow_a1_63 v3 σ) v1 N (0 : Int32) (0 : Int32) t1)
set_option maxRecDepth 20000 in
set_option maxHeartbeats 4000000 in
theorem c_X0_replaceRow_a1 {l : Launch} {D : va_G} {a : Nat → Nat} {cA : Nat → ClassId} {t : Nat} {F : (Nat → Prop) → State → Prop} (hF : EOK F) {σ : St} {N : Nat} {v1 : Int32} {r : Int32} {σ' : St} (h : X0_replaceRow_a1 N v1 σ = some (r, σ')) : MetI l yX0_replaceRow cX0_replaceRow 7 (some .int) 4 D (tyW cA) (wS a cA) (ES t F) [.ref (a 2), .int v1, .ref (a 1)] σ r σ' := by
  refine mkI (by decide) (adrS a cA) (Or.inl rfl) (Nat.le_of_ble_eq_true rfl) ?_
  intro p e R s m args below meth c A Q ls X hR hp hl
  obtain ⟨hx, hb, -, hown, hts, -⟩ := id X
  have J_10 : ∀ (v1 : Int32) (k63 : (Int32 → St → Option (Int32 × St))) (hk63 : ∀ (v3 : Int32) (σ : St) (H : Heap) (locs : List Loc) (ls : Array Slot), Pw D (wS a cA) A s.heap H locs σ → lv_has ls 7 [(0, .ref (a 2)), (3, .int v3)] → k63 v3 σ = some (r, σ') → W p l e R s m args below meth c H locs 0 0 Q (F0 m 63 ls [])) (n : Nat) (v3 : Int32) (v4 : Int32) (σ : St) (H : Heap) (locs : List Loc) (ls : Array Slot), Pw D (wS a cA) A s.heap H locs σ → lv_has ls 7 [(0, .ref (a 2)), (1, .int v1), (2, .ref (a 1)), (3, .int v3), (4, .int v4)] → X0_replaceRow_a1_10 N k63 v1 n v3 v4 σ = some (r, σ') → W p l e R s m args below meth c H locs 0 0 Q (F0 m 10 ls []) := by
    intro v1 k63 hk63 n
    induction n with
    | zero => intro v3 v4 σ H locs ls hp hl h; exact nn_s (show (none : Option (Int32 × St)) = some _ from h)
    | succ n ih =>
      intro v3 v4 σ H locs ls hp hl h
      have h : X0_replaceRow_a1_10b N (fun v3 v4 σ => X0_replaceRow_a1_10 N k63 v1 n v3 v4 σ) k63 v1 v3 v4 σ = some (r, σ') := h
      unfold X0_replaceRow_a1_10b at h
      have hk10 := ih
      refine lv_iload hx hb dX0_replaceRow_10 (lv_at hl 4 rfl) ?_
      refine lv_aload_n hx hb dX0_replaceRow_12 rfl (lv_at hl 0 rfl) ?_
      refine gS_X0_inputValues X hp tw_3_7 dX0_replaceRow_13 ?_
      refine lv_icmp_ge (tgt := 63) hx hb dX0_replaceRow_16 (by decide) (fun c1 => ?_) (fun c1 => ?_)
      · have h := it_p h c1
        exact hk63 v3 σ _ _ _ hp (lv_sub hl [0, 3] rfl) h
      · have h := it_n h c1
        refine lv_aload_n hx hb dX0_replaceRow_19 rfl (lv_at hl 2 rfl) ?_
        refine lv_iload hx hb dX0_replaceRow_20 (lv_at hl 4 rfl) ?_
        obtain ⟨t2, ht2, h⟩ := bd_s h
        refine cl_Vl X (eokS hF) (c_X3_valueFor hF ht2) tw_13_16 mw_X3_valueFor (by decide) hp 1 rfl rfl rfl hl.1 rfl (Nat.le_of_ble_eq_true rfl) dX0_replaceRow_22 (fun H locs hp => ?_)
        refine lv_aload_n hx hb dX0_replaceRow_25 rfl (lv_at hl 0 rfl) ?_
        refine gS_X0_all X hp tw_3_9 dX0_replaceRow_26 ?_
        refine lv_land hx hb dX0_replaceRow_29 ?_
        refine lv_topl (fun x3 ex3 => ?_)
        have h := nm_s h x3 ex3
        refine lv_lstore (lv' := [(5, .long x3), (0, .ref (a 2)), (1, .int v1), (2, .ref (a 1)), (3, .int v3), (4, .int v4)]) hx hb dX0_replaceRow_30 hl (by decide) rfl (fun ls hl => ?_)
        refine lv_iload_n hx hb dX0_replaceRow_32 rfl (lv_at hl 4 rfl) ?_
        refine lv_lload hx hb dX0_replaceRow_33 (lv_at hl 0 rfl) ?_
        refine lv_aload_n hx hb dX0_replaceRow_35 rfl (lv_at hl 1 rfl) ?_
        refine lv_iload_n hx hb dX0_replaceRow_36 rfl (lv_at hl 2 rfl) ?_
        refine lv_iload hx hb dX0_replaceRow_37 (lv_at hl 5 rfl) ?_
        obtain ⟨t4, ht4, h⟩ := bd_s h
        refine cl_Vl X (eokS hF) (c_X0_table hF ht4) tw_13_12 mw_X0_table (by decide) hp 2 rfl rfl rfl hl.1 rfl (Nat.le_of_ble_eq_true rfl) dX0_replaceRow_39 (fun H locs hp => ?_)
        refine lv_lxor hx hb dX0_replaceRow_42 ?_
        obtain ⟨t5, ht5, h⟩ := bd_s h
        refine cl_Si X (eokS hF) (c_J13_bitCount_95d88 (adrS a cA) (eokS hF) ht5) tw_15_9 mw_J13_bitCount_95d88 (by decide) hp hl.1 rfl (Nat.le_of_ble_eq_true rfl) dX0_replaceRow_43 (fun H locs hp => ?_)
        refine lv_iadd hx hb dX0_replaceRow_46 ?_
        refine lv_topi (fun x6 ex6 => ?_)
        have h := nm_s h x6 ex6
        refine lv_istore_n (lv' := [(3, .int x6), (5, .long x3), (0, .ref (a 2)), (1, .int v1), (2, .ref (a 1)), (4, .int v4)]) hx hb dX0_replaceRow_47 rfl hl (by decide) rfl (fun ls hl => ?_)
        refine lv_aload_n hx hb dX0_replaceRow_48 rfl (lv_at hl 2 rfl) ?_
        refine lv_iload_n hx hb dX0_replaceRow_49 rfl (lv_at hl 3 rfl) ?_
        refine lv_iload hx hb dX0_replaceRow_50 (lv_at hl 5 rfl) ?_
        refine lv_lload hx hb dX0_replaceRow_52 (lv_at hl 1 rfl) ?_
        obtain ⟨t7, ht7, h⟩ := bd_s h
        refine cl_Vv X (eokS hF) (c_X0_putTable hF ht7) tw_3_16 mw_X0_putTable (by decide) hp 2 rfl rfl rfl hl.1 rfl (Nat.le_of_ble_eq_true rfl) dX0_replaceRow_54 (fun H locs hp => ?_)
        obtain ⟨x8, ex8⟩ : ∃ z : Int32, z = v4 + (1 : Int32) := ⟨_, rfl⟩
        have h := nm_s h x8 ex8
        refine lv_iinc (v := x8) (lv' := [(4, .int x8), (3, .int x6), (5, .long x3), (0, .ref (a 2)), (1, .int v1), (2, .ref (a 1))]) hx hb dX0_replaceRow_57 hl (k := 5) rfl (by rw [ex8]; rfl) (by decide) rfl (fun ls hl => ?_)
        refine lv_goto (tgt := 10) hx hb dX0_replaceRow_60 (by decide) ?_
        exact hk10 x6 x8 t7 _ _ _ hp (lv_sub hl [3, 4, 5, 1, 0] rfl) h
  have J_63 : ∀ (v3 : Int32) (σ : St) (H : Heap) (locs : List Loc) (ls : Array Slot), Pw D (wS a cA) A s.heap H locs σ → lv_has ls 7 [(0, .ref (a 2)), (3, .int v3)] → X0_replaceRow_a1_63 v3 σ = some (r, σ') → W p l e R s m args below meth c H locs 0 0 Q (F0 m 63 ls []) := by
    intro v3 σ H locs ls hp hl h
    unfold X0_replaceRow_a1_63 at h
    refine lv_iload_n hx hb dX0_replaceRow_63 rfl (lv_at hl 1 rfl) ?_
    exact hR _ _ _ _ _ _ dX0_replaceRow_64 hp (congrArg Prod.fst (Option.some.inj h)) (congrArg Prod.snd (Option.some.inj h)) (fun q => by cases q)
  unfold X0_replaceRow_a1 at h
  have hl := lv_sub (l' := [(0, .ref (a 2)), (1, .int v1), (2, .ref (a 1))]) hl [0, 1, 2] rfl
  refine lv_aload_n hx hb dX0_replaceRow_0 rfl (lv_at hl 0 rfl) ?_
  refine lv_iload_n hx hb dX0_replaceRow_1 rfl (lv_at hl 1 rfl) ?_
  obtain ⟨t1, ht1, h⟩ := bd_s h
  refine cl_Vv X (eokS hF) (c_X0_keepRow hF ht1) tw_13_8 mw_X0_keepRow (by decide) hp 2 rfl rfl rfl hl.1 rfl (Nat.le_of_ble_eq_true rfl) dX0_replaceRow_2 (fun H locs hp => ?_)
  refine lv_iconst (v := 0) hx hb dX0_replaceRow_5 (by decide) ?_
  refine lv_istore_n (lv' := [(3, .int (0 : Int32)), (0, .ref (a 2)), (1, .int v1), (2, .ref (a 1))]) hx hb dX0_replaceRow_6 rfl hl (by decide) rfl (fun ls hl => ?_)
  refine lv_iconst (v := 0) hx hb dX0_replaceRow_7 (by decide) ?_
  refine lv_istore (lv' := [(4, .int (0 : Int32)), (3, .int (0 : Int32)), (0, .ref (a 2)), (1, .int v1), (2, .ref (a 1))]) hx hb dX0_replaceRow_8 hl (by decide) rfl (fun ls hl => ?_)
  exact J_10 v1 _ (fun v3 σ H locs ls hp hl h => J_63 v3 σ _ _ _ hp hl h) _ (0 : Int32) (0 : Int32) t1 _ _ _ hp (lv_sub hl [2, 3, 4, 1, 0] rfl) h
def X6_takeFormula (N : Nat) (v1 : Int32) (σ : St) : Option (Int32 × St) :=
  bd (X0_replaceRow_a1 N v1 σ) (fun t1 =>
  nm (si t1.2 0 (0 : Int32)) (fun (σ2 : St) =>
  bd (X6_forgetResults σ2) (fun t3 =>
  some (t1.1, t3))))
set_option maxRecDepth 20000 in
set_option maxHeartbeats 4000000 in
theorem c_X6_takeFormula {l : Launch} {D : va_G} {a : Nat → Nat} {cA : Nat → ClassId} {t : Nat} {F : (Nat → Prop) → State → Prop} (hF : EOK F) {σ : St} {N : Nat} {v1 : Int32} {r : Int32} {σ' : St} (h : X6_takeFormula N v1 σ = some (r, σ')) : MetI l yX6_takeFormula cX6_takeFormula 3 (some .int) 5 D (tyW cA) (wS a cA) (ES t F) [.ref (a 0), .int v1] σ r σ' := by
  refine mkI (by decide) (adrS a cA) (Or.inl rfl) (Nat.le_of_ble_eq_true rfl) ?_
  intro p e R s m args below meth c A Q ls X hR hp hl
  obtain ⟨hx, hb, -, hown, hts, -⟩ := id X
  unfold X6_takeFormula at h
  have hl := lv_sub (l' := [(0, .ref (a 0)), (1, .int v1)]) hl [0, 1] rfl
  refine lv_aload_n hx hb dX6_takeFormula_0 rfl (lv_at hl 0 rfl) ?_
  refine gS_X6_circuit X hp tw_1_20 dX6_takeFormula_1 ?_
  refine lv_iload_n hx hb dX6_takeFormula_4 rfl (lv_at hl 1 rfl) ?_
  refine lv_aload_n hx hb dX6_takeFormula_5 rfl (lv_at hl 0 rfl) ?_
  refine gS_X6_buffer X hp tw_1_16 dX6_takeFormula_6 ?_
  obtain ⟨t1, ht1, h⟩ := bd_s h
  refine cl_Vi X (eokS hF) (c_X0_replaceRow_a1 hF ht1) tw_13_4 mw_X0_replaceRow (by decide) hp 2 rfl rfl rfl hl.1 rfl (Nat.le_of_ble_eq_true rfl) dX6_takeFormula_9 (fun H locs hp => ?_)
  refine lv_istore_n (lv' := [(2, .int t1.1), (0, .ref (a 0)), (1, .int v1)]) hx hb dX6_takeFormula_12 rfl hl (by decide) rfl (fun ls hl => ?_)
  refine lv_aload_n hx hb dX6_takeFormula_13 rfl (lv_at hl 1 rfl) ?_
  refine gS_X6_buffer X hp tw_1_16 dX6_takeFormula_14 ?_
  refine lv_iconst (v := 0) hx hb dX6_takeFormula_17 (by decide) ?_
  refine pS_X3_length X hp tw_9_3 dX6_takeFormula_18 (fun H locs σ2 eσ2 hp => ?_)
  have h := nm_s h σ2 eσ2
  refine lv_aload_n hx hb dX6_takeFormula_21 rfl (lv_at hl 1 rfl) ?_
  obtain ⟨t3, ht3, h⟩ := bd_s h
  refine cl_Vv X (eokS hF) (c_X6_forgetResults hF ht3) tw_7_23 mw_X6_forgetResults (by decide) hp 0 rfl rfl rfl hl.1 rfl (Nat.le_of_ble_eq_true rfl) dX6_takeFormula_22 (fun H locs hp => ?_)
  refine lv_iload_n hx hb dX6_takeFormula_25 rfl (lv_at hl 0 rfl) ?_
  exact hR _ _ _ _ _ _ dX6_takeFormula_26 hp (congrArg Prod.fst (Option.some.inj h)) (congrArg Prod.snd (Option.some.inj h)) (fun q => by cases q)
def X6_setNext_15 (σ : St) : Option (Int32 × St) :=
  none
def X6_setNext (N : Nat) (v1 : Int32) (σ : St) : Option (Int32 × St) :=
  if v1 < 0 then
    X6_setNext_15 σ
  else
    if v1 < (σ.1 5) then
      bd (X3_isFormula N (σ.1 5) (σ.1 6) σ) (fun t3 =>
      if t3.1 = 0 then
        none
      else
        bd (X6_takeFormula N v1 t3.2) (fun t5 =>
        some (t5.1, t5.2)))
    else
      X6_setNext_15 σ
set_option maxRecDepth 20000 in
set_option maxHeartbeats 4000000 in
theorem c_X6_setNext {l : Launch} {D : va_G} {a : Nat → Nat} {cA : Nat → ClassId} {t : Nat} {F : (Nat → Prop) → State → Prop} (hF : EOK F) {σ : St} {N : Nat} {v1 : Int32} {r : Int32} {σ' : St} (h : X6_setNext N v1 σ = some (r, σ')) : MetI l yX6_setNext cX6_setNext 2 (some .int) 6 D (tyW cA) (wS a cA) (ES t F) [.ref (a 0), .int v1] σ r σ' := by
  refine mkI (by decide) (adrS a cA) (Or.inl rfl) (Nat.le_of_ble_eq_true rfl) ?_
  intro p e R s m args below meth c A Q ls X hR hp hl
  obtain ⟨hx, hb, -, hown, hts, -⟩ := id X
  have J_15 : ∀  (σ : St) (H : Heap) (locs : List Loc) (ls : Array Slot), Pw D (wS a cA) A s.heap H locs σ → lv_has ls 2 [(0, .ref (a 0))] → X6_setNext_15 σ = some (r, σ') → W p l e R s m args below meth c H locs 0 0 Q (F0 m 15 ls []) := by
    intro σ H locs ls hp hl h
    unfold X6_setNext_15 at h
    exact nn_s h
  unfold X6_setNext at h
  have hl := lv_sub (l' := [(0, .ref (a 0)), (1, .int v1)]) hl [0, 1] rfl
  refine lv_iload_n hx hb dX6_setNext_0 rfl (lv_at hl 1 rfl) ?_
  refine lv_if_lt (tgt := 15) hx hb dX6_setNext_1 (by decide) (fun c1 => ?_) (fun c1 => ?_)
  · have h := it_p h c1
    exact J_15 σ _ _ _ hp (lv_sub hl [0] rfl) h
  · have h := it_n h c1
    refine lv_iload_n hx hb dX6_setNext_4 rfl (lv_at hl 1 rfl) ?_
    refine lv_aload_n hx hb dX6_setNext_5 rfl (lv_at hl 0 rfl) ?_
    refine gS_X6_circuit X hp tw_1_20 dX6_setNext_6 ?_
    refine gS_X0_bits X hp tw_10_6 dX6_setNext_9 ?_
    refine lv_icmp_lt (tgt := 25) hx hb dX6_setNext_12 (by decide) (fun c2 => ?_) (fun c2 => ?_)
    · have h := it_p h c2
      refine lv_aload_n hx hb dX6_setNext_25 rfl (lv_at hl 0 rfl) ?_
      refine gS_X6_buffer X hp tw_1_16 dX6_setNext_26 ?_
      refine lv_aload_n hx hb dX6_setNext_29 rfl (lv_at hl 0 rfl) ?_
      refine gS_X6_circuit X hp tw_1_20 dX6_setNext_30 ?_
      refine gS_X0_bits X hp tw_10_6 dX6_setNext_33 ?_
      refine lv_aload_n hx hb dX6_setNext_36 rfl (lv_at hl 0 rfl) ?_
      refine gS_X6_circuit X hp tw_1_20 dX6_setNext_37 ?_
      refine gS_X0_inputs X hp tw_10_7 dX6_setNext_40 ?_
      obtain ⟨t3, ht3, h⟩ := bd_s h
      refine cl_Vi X (eokS hF) (c_X3_isFormula hF ht3) tw_12_19 mw_X3_isFormula (by decide) hp 1 rfl rfl rfl hl.1 rfl (Nat.le_of_ble_eq_true rfl) dX6_setNext_43 (fun H locs hp => ?_)
      refine lv_if_ne (tgt := 59) hx hb dX6_setNext_46 (by decide) (fun c4 => ?_) (fun c4 => ?_)
      · have h := it_n h c4
        refine lv_aload_n hx hb dX6_setNext_59 rfl (lv_at hl 0 rfl) ?_
        refine lv_iload_n hx hb dX6_setNext_60 rfl (lv_at hl 1 rfl) ?_
        obtain ⟨t5, ht5, h⟩ := bd_s h
        refine cl_Vi X (eokS hF) (c_X6_takeFormula hF ht5) tw_13_0 mw_X6_takeFormula (by decide) hp 0 rfl rfl rfl hl.1 rfl (Nat.le_of_ble_eq_true rfl) dX6_setNext_61 (fun H locs hp => ?_)
        exact hR _ _ _ _ _ _ dX6_setNext_64 hp (congrArg Prod.fst (Option.some.inj h)) (congrArg Prod.snd (Option.some.inj h)) (fun q => by cases q)
      · have h := it_p h c4
        exact nn_s h
    · have h := it_n h c2
      exact J_15 σ _ _ _ hp (lv_sub hl [0] rfl) h
def X3_hasInputName_2b (k2 : (Int32 → Option (Int32))) (k22 : (Option (Int32))) (k30 : (Option (Int32))) (σ : St) (v1 : Int32) : Option (Int32) :=
  if (σ.1 0) ≤ v1 then
    k30
  else
    bd (X3_codeAt σ v1) (fun t2 =>
    bd (X3_isInputName t2 (2 : Int32)) (fun t3 =>
    if t3 = 0 then
      nm (v1 + (1 : Int32)) (fun (x5 : Int32) =>
      k2 x5)
    else
      k22))
def X3_hasInputName_2 (k22 : (Option (Int32))) (k30 : (Option (Int32))) (σ : St) : Nat → Int32 → Option (Int32)
  | 0, _ => none
  | n + 1, v1 => X3_hasInputName_2b (fun v1 => X3_hasInputName_2 k22 k30 σ n v1) k22 k30 σ v1
def X3_hasInputName_22 (σ : St) : Option (Int32) :=
  some (1 : Int32)
def X3_hasInputName_30 (σ : St) : Option (Int32) :=
  some (0 : Int32)
def X3_hasInputName (N : Nat) (σ : St) : Option (Int32) :=
  X3_hasInputName_2 (X3_hasInputName_22 σ) (X3_hasInputName_30 σ) σ N (0 : Int32)
set_option maxRecDepth 20000 in
set_option maxHeartbeats 4000000 in
theorem c_X3_hasInputName {l : Launch} {D : va_G} {a : Nat → Nat} {cA : Nat → ClassId} {t : Nat} {F : (Nat → Prop) → State → Prop} (hF : EOK F) {σ : St} {N : Nat} {r : Int32} (h : X3_hasInputName N σ = some r) : MetI l yX3_hasInputName cX3_hasInputName 2 (some .boolean) 1 D (tyW cA) (wS a cA) (ES t F) [.ref (a 1)] σ r σ := by
  refine mkI (by decide) (adrS a cA) (Or.inr rfl) (Nat.le_of_ble_eq_true rfl) ?_
  intro p e R s m args below meth c A Q ls X hR hp hl
  obtain ⟨hx, hb, -, hown, hts, -⟩ := id X
  have J_2 : ∀  (k22 : (Option (Int32))) (hk22 : ∀ (H : Heap) (locs : List Loc) (ls : Array Slot), Pw D (wS a cA) A s.heap H locs σ → lv_has ls 2 [(0, .ref (a 1))] → k22 = some r → W p l e R s m args below meth c H locs 0 0 Q (F0 m 22 ls [])) (k30 : (Option (Int32))) (hk30 : ∀ (H : Heap) (locs : List Loc) (ls : Array Slot), Pw D (wS a cA) A s.heap H locs σ → lv_has ls 2 [(0, .ref (a 1))] → k30 = some r → W p l e R s m args below meth c H locs 0 0 Q (F0 m 30 ls [])) (n : Nat) (v1 : Int32) (H : Heap) (locs : List Loc) (ls : Array Slot), Pw D (wS a cA) A s.heap H locs σ → lv_has ls 2 [(0, .ref (a 1)), (1, .int v1)] → X3_hasInputName_2 k22 k30 σ n v1 = some r → W p l e R s m args below meth c H locs 0 0 Q (F0 m 2 ls []) := by
    intro k22 hk22 k30 hk30 n
    induction n with
    | zero => intro v1 H locs ls hp hl h; exact nn_s (show (none : Option (Int32)) = some _ from h)
    | succ n ih =>
      intro v1 H locs ls hp hl h
      have h : X3_hasInputName_2b (fun v1 => X3_hasInputName_2 k22 k30 σ n v1) k22 k30 σ v1 = some r := h
      unfold X3_hasInputName_2b at h
      have hk2 := ih
      refine lv_iload_n hx hb dX3_hasInputName_2 rfl (lv_at hl 1 rfl) ?_
      refine lv_aload_n hx hb dX3_hasInputName_3 rfl (lv_at hl 0 rfl) ?_
      refine gS_X3_length X hp tw_9_8 dX3_hasInputName_4 ?_
      refine lv_icmp_ge (tgt := 30) hx hb dX3_hasInputName_7 (by decide) (fun c1 => ?_) (fun c1 => ?_)
      · have h := it_p h c1
        exact hk30 _ _ _ hp (lv_sub hl [0] rfl) h
      · have h := it_n h c1
        refine lv_aload_n hx hb dX3_hasInputName_10 rfl (lv_at hl 0 rfl) ?_
        refine lv_iload_n hx hb dX3_hasInputName_11 rfl (lv_at hl 1 rfl) ?_
        obtain ⟨t2, ht2, h⟩ := bd_s h
        refine cl_Vi X (eokS hF) (c_X3_codeAt hF ht2) tw_10_14 mw_X3_codeAt (by decide) hp 1 rfl rfl rfl hl.1 rfl (Nat.le_of_ble_eq_true rfl) dX3_hasInputName_12 (fun H locs hp => ?_)
        refine lv_iconst (v := 2) hx hb dX3_hasInputName_15 (by decide) ?_
        obtain ⟨t3, ht3, h⟩ := bd_s h
        refine cl_Si X (eokS hF) (c_X3_isInputName (adrS a cA) (eokS hF) ht3) tw_11_1 mw_X3_isInputName (by decide) hp hl.1 rfl (Nat.le_of_ble_eq_true rfl) dX3_hasInputName_16 (fun H locs hp => ?_)
        refine lv_if_eq (tgt := 24) hx hb dX3_hasInputName_19 (by decide) (fun c4 => ?_) (fun c4 => ?_)
        · have h := it_p h c4
          obtain ⟨x5, ex5⟩ : ∃ z : Int32, z = v1 + (1 : Int32) := ⟨_, rfl⟩
          have h := nm_s h x5 ex5
          refine lv_iinc (v := x5) (lv' := [(1, .int x5), (0, .ref (a 1))]) hx hb dX3_hasInputName_24 hl (k := 1) rfl (by rw [ex5]; rfl) (by decide) rfl (fun ls hl => ?_)
          refine lv_goto (tgt := 2) hx hb dX3_hasInputName_27 (by decide) ?_
          exact hk2 x5 _ _ _ hp (lv_sub hl [1, 0] rfl) h
        · have h := it_n h c4
          exact hk22 _ _ _ hp (lv_sub hl [0] rfl) h
  have J_22 : ∀  (H : Heap) (locs : List Loc) (ls : Array Slot), Pw D (wS a cA) A s.heap H locs σ → lv_has ls 2 [(0, .ref (a 1))] → X3_hasInputName_22 σ = some r → W p l e R s m args below meth c H locs 0 0 Q (F0 m 22 ls []) := by
    intro H locs ls hp hl h
    unfold X3_hasInputName_22 at h
    refine lv_iconst (v := 1) hx hb dX3_hasInputName_22 (by decide) ?_
    exact hR _ _ _ _ _ _ dX3_hasInputName_23 hp (Option.some.inj h) rfl (fun _ => Or.inr rfl)
  have J_30 : ∀  (H : Heap) (locs : List Loc) (ls : Array Slot), Pw D (wS a cA) A s.heap H locs σ → lv_has ls 2 [(0, .ref (a 1))] → X3_hasInputName_30 σ = some r → W p l e R s m args below meth c H locs 0 0 Q (F0 m 30 ls []) := by
    intro H locs ls hp hl h
    unfold X3_hasInputName_30 at h
    refine lv_iconst (v := 0) hx hb dX3_hasInputName_30 (by decide) ?_
    exact hR _ _ _ _ _ _ dX3_hasInputName_31 hp (Option.some.inj h) rfl (fun _ => Or.inl rfl)
  unfold X3_hasInputName at h
  have hl := lv_sub (l' := [(0, .ref (a 1))]) hl [0] rfl
  refine lv_iconst (v := 0) hx hb dX3_hasInputName_0 (by decide) ?_
  refine lv_istore_n (lv' := [(1, .int (0 : Int32)), (0, .ref (a 1))]) hx hb dX3_hasInputName_1 rfl hl (by decide) rfl (fun ls hl => ?_)
  exact J_2 _ (fun H locs ls hp hl h => J_22 _ _ _ hp hl h) _ (fun H locs ls hp hl h => J_30 _ _ _ hp hl h) _ (0 : Int32) _ _ _ hp (lv_sub hl [1, 0] rfl) h
def X6_requireStateFormula_34 (σ : St) : Option (St) :=
  none
def X6_requireStateFormula (N : Nat) (σ : St) : Option (St) :=
  bd (X3_isFormula N (σ.1 5) (σ.1 6) σ) (fun t1 =>
  if t1.1 = 0 then
    X6_requireStateFormula_34 t1.2
  else
    bd (X3_hasInputName N t1.2) (fun t3 =>
    if t3 = 0 then
      some t1.2
    else
      X6_requireStateFormula_34 t1.2))
set_option maxRecDepth 20000 in
set_option maxHeartbeats 4000000 in
theorem c_X6_requireStateFormula {l : Launch} {D : va_G} {a : Nat → Nat} {cA : Nat → ClassId} {t : Nat} {F : (Nat → Prop) → State → Prop} (hF : EOK F) {σ : St} {N : Nat} {σ' : St} (h : X6_requireStateFormula N σ = some σ') : MetV l yX6_requireStateFormula cX6_requireStateFormula 1 none 5 D (tyW cA) (wS a cA) (ES t F) [.ref (a 0)] σ σ' := by
  refine mkV (by decide) (adrS a cA) rfl (Nat.le_of_ble_eq_true rfl) ?_
  intro p e R s m args below meth c A Q ls X hR hp hl
  obtain ⟨hx, hb, -, hown, hts, -⟩ := id X
  have J_34 : ∀  (σ : St) (H : Heap) (locs : List Loc) (ls : Array Slot), Pw D (wS a cA) A s.heap H locs σ → lv_has ls 1 [(0, .ref (a 0))] → X6_requireStateFormula_34 σ = some σ' → W p l e R s m args below meth c H locs 0 0 Q (F0 m 34 ls []) := by
    intro σ H locs ls hp hl h
    unfold X6_requireStateFormula_34 at h
    exact nn_s h
  unfold X6_requireStateFormula at h
  have hl := lv_sub (l' := [(0, .ref (a 0))]) hl [0] rfl
  refine lv_aload_n hx hb dX6_requireStateFormula_0 rfl (lv_at hl 0 rfl) ?_
  refine gS_X6_buffer X hp tw_1_16 dX6_requireStateFormula_1 ?_
  refine lv_aload_n hx hb dX6_requireStateFormula_4 rfl (lv_at hl 0 rfl) ?_
  refine gS_X6_circuit X hp tw_1_20 dX6_requireStateFormula_5 ?_
  refine gS_X0_bits X hp tw_10_6 dX6_requireStateFormula_8 ?_
  refine lv_aload_n hx hb dX6_requireStateFormula_11 rfl (lv_at hl 0 rfl) ?_
  refine gS_X6_circuit X hp tw_1_20 dX6_requireStateFormula_12 ?_
  refine gS_X0_inputs X hp tw_10_7 dX6_requireStateFormula_15 ?_
  obtain ⟨t1, ht1, h⟩ := bd_s h
  refine cl_Vi X (eokS hF) (c_X3_isFormula hF ht1) tw_12_19 mw_X3_isFormula (by decide) hp 1 rfl rfl rfl hl.1 rfl (Nat.le_of_ble_eq_true rfl) dX6_requireStateFormula_18 (fun H locs hp => ?_)
  refine lv_if_eq (tgt := 34) hx hb dX6_requireStateFormula_21 (by decide) (fun c2 => ?_) (fun c2 => ?_)
  · have h := it_p h c2
    exact J_34 t1.2 _ _ _ hp (lv_sub hl [0] rfl) h
  · have h := it_n h c2
    refine lv_aload_n hx hb dX6_requireStateFormula_24 rfl (lv_at hl 0 rfl) ?_
    refine gS_X6_buffer X hp tw_1_16 dX6_requireStateFormula_25 ?_
    obtain ⟨t3, ht3, h⟩ := bd_s h
    refine cl_Vi X (eokS hF) (c_X3_hasInputName hF ht3) tw_18_21 mw_X3_hasInputName (by decide) hp 1 rfl rfl rfl hl.1 rfl (Nat.le_of_ble_eq_true rfl) dX6_requireStateFormula_28 (fun H locs hp => ?_)
    refine lv_if_eq (tgt := 45) hx hb dX6_requireStateFormula_31 (by decide) (fun c4 => ?_) (fun c4 => ?_)
    · have h := it_p h c4
      exact hR _ _ _ _ _ dX6_requireStateFormula_45 hp (Option.some.inj h)
    · have h := it_n h c4
      exact J_34 t1.2 _ _ _ hp (lv_sub hl [0] rfl) h
def X0_initial (σ : St) : Option (Int64) :=
  bd (X0_table σ (6 : Int32) (0 : Int32)) (fun t1 =>
  some t1)
set_option maxRecDepth 20000 in
set_option maxHeartbeats 4000000 in
theorem c_X0_initial {l : Launch} {D : va_G} {a : Nat → Nat} {cA : Nat → ClassId} {t : Nat} {F : (Nat → Prop) → State → Prop} (hF : EOK F) {σ : St} {r : Int64} (h : X0_initial σ = some r) : MetL l yX0_initial cX0_initial 1 (some .long) 1 D (tyW cA) (wS a cA) (ES t F) [.ref (a 2)] σ r σ := by
  refine mkL (by decide) (adrS a cA) rfl (Nat.le_of_ble_eq_true rfl) ?_
  intro p e R s m args below meth c A Q ls X hR hp hl
  obtain ⟨hx, hb, -, hown, hts, -⟩ := id X
  unfold X0_initial at h
  have hl := lv_sub (l' := [(0, .ref (a 2))]) hl [0] rfl
  refine lv_aload_n hx hb dX0_initial_0 rfl (lv_at hl 0 rfl) ?_
  refine lv_bipush (v := 6) hx hb dX0_initial_1 (by decide) ?_
  refine lv_iconst (v := 0) hx hb dX0_initial_3 (by decide) ?_
  obtain ⟨t1, ht1, h⟩ := bd_s h
  refine cl_Vl X (eokS hF) (c_X0_table hF ht1) tw_13_12 mw_X0_table (by decide) hp 2 rfl rfl rfl hl.1 rfl (Nat.le_of_ble_eq_true rfl) dX0_initial_4 (fun H locs hp => ?_)
  exact hR _ _ _ _ _ _ dX0_initial_7 hp (Option.some.inj h) rfl
def X6_setInit (N : Nat) (σ : St) : Option (Int32 × St) :=
  bd (X6_requireStateFormula N σ) (fun t1 =>
  bd (X6_takeFormula N (6 : Int32) t1) (fun t2 =>
  bd (X0_initial t2.2) (fun t3 =>
  bd (J13_bitCount_95d88 t3) (fun t4 =>
  some (t4, t2.2)))))
set_option maxRecDepth 20000 in
set_option maxHeartbeats 4000000 in
theorem c_X6_setInit {l : Launch} {D : va_G} {a : Nat → Nat} {cA : Nat → ClassId} {t : Nat} {F : (Nat → Prop) → State → Prop} (hF : EOK F) {σ : St} {N : Nat} {r : Int32} {σ' : St} (h : X6_setInit N σ = some (r, σ')) : MetI l yX6_setInit cX6_setInit 1 (some .int) 6 D (tyW cA) (wS a cA) (ES t F) [.ref (a 0)] σ r σ' := by
  refine mkI (by decide) (adrS a cA) (Or.inl rfl) (Nat.le_of_ble_eq_true rfl) ?_
  intro p e R s m args below meth c A Q ls X hR hp hl
  obtain ⟨hx, hb, -, hown, hts, -⟩ := id X
  unfold X6_setInit at h
  have hl := lv_sub (l' := [(0, .ref (a 0))]) hl [0] rfl
  refine lv_aload_n hx hb dX6_setInit_0 rfl (lv_at hl 0 rfl) ?_
  obtain ⟨t1, ht1, h⟩ := bd_s h
  refine cl_Vv X (eokS hF) (c_X6_requireStateFormula hF ht1) tw_18_17 mw_X6_requireStateFormula (by decide) hp 0 rfl rfl rfl hl.1 rfl (Nat.le_of_ble_eq_true rfl) dX6_setInit_1 (fun H locs hp => ?_)
  refine lv_aload_n hx hb dX6_setInit_4 rfl (lv_at hl 0 rfl) ?_
  refine lv_bipush (v := 6) hx hb dX6_setInit_5 (by decide) ?_
  obtain ⟨t2, ht2, h⟩ := bd_s h
  refine cl_Vi X (eokS hF) (c_X6_takeFormula hF ht2) tw_13_0 mw_X6_takeFormula (by decide) hp 0 rfl rfl rfl hl.1 rfl (Nat.le_of_ble_eq_true rfl) dX6_setInit_7 (fun H locs hp => ?_)
  refine lv_pop hx hb dX6_setInit_10 rfl ?_
  refine lv_aload_n hx hb dX6_setInit_11 rfl (lv_at hl 0 rfl) ?_
  refine gS_X6_circuit X hp tw_1_20 dX6_setInit_12 ?_
  obtain ⟨t3, ht3, h⟩ := bd_s h
  refine cl_Vl X (eokS hF) (c_X0_initial hF ht3) tw_19_1 mw_X0_initial (by decide) hp 2 rfl rfl rfl hl.1 rfl (Nat.le_of_ble_eq_true rfl) dX6_setInit_15 (fun H locs hp => ?_)
  obtain ⟨t4, ht4, h⟩ := bd_s h
  refine cl_Si X (eokS hF) (c_J13_bitCount_95d88 (adrS a cA) (eokS hF) ht4) tw_19_5 mw_J13_bitCount_95d88 (by decide) hp hl.1 rfl (Nat.le_of_ble_eq_true rfl) dX6_setInit_18 (fun H locs hp => ?_)
  exact hR _ _ _ _ _ _ dX6_setInit_21 hp (congrArg Prod.fst (Option.some.inj h)) (congrArg Prod.snd (Option.some.inj h)) (fun q => by cases q)
def X0_good (σ : St) : Option (Int64) :=
  bd (X0_table σ (7 : Int32) (0 : Int32)) (fun t1 =>
  some t1)
set_option maxRecDepth 20000 in
set_option maxHeartbeats 4000000 in
theorem c_X0_good {l : Launch} {D : va_G} {a : Nat → Nat} {cA : Nat → ClassId} {t : Nat} {F : (Nat → Prop) → State → Prop} (hF : EOK F) {σ : St} {r : Int64} (h : X0_good σ = some r) : MetL l yX0_good cX0_good 1 (some .long) 1 D (tyW cA) (wS a cA) (ES t F) [.ref (a 2)] σ r σ := by
  refine mkL (by decide) (adrS a cA) rfl (Nat.le_of_ble_eq_true rfl) ?_
  intro p e R s m args below meth c A Q ls X hR hp hl
  obtain ⟨hx, hb, -, hown, hts, -⟩ := id X
  unfold X0_good at h
  have hl := lv_sub (l' := [(0, .ref (a 2))]) hl [0] rfl
  refine lv_aload_n hx hb dX0_good_0 rfl (lv_at hl 0 rfl) ?_
  refine lv_bipush (v := 7) hx hb dX0_good_1 (by decide) ?_
  refine lv_iconst (v := 0) hx hb dX0_good_3 (by decide) ?_
  obtain ⟨t1, ht1, h⟩ := bd_s h
  refine cl_Vl X (eokS hF) (c_X0_table hF ht1) tw_13_12 mw_X0_table (by decide) hp 2 rfl rfl rfl hl.1 rfl (Nat.le_of_ble_eq_true rfl) dX0_good_4 (fun H locs hp => ?_)
  exact hR _ _ _ _ _ _ dX0_good_7 hp (Option.some.inj h) rfl
def X6_setProperty (N : Nat) (σ : St) : Option (Int32 × St) :=
  bd (X6_requireStateFormula N σ) (fun t1 =>
  bd (X6_takeFormula N (7 : Int32) t1) (fun t2 =>
  bd (X0_good t2.2) (fun t3 =>
  bd (J13_bitCount_95d88 t3) (fun t4 =>
  some (t4, t2.2)))))
set_option maxRecDepth 20000 in
set_option maxHeartbeats 4000000 in
theorem c_X6_setProperty {l : Launch} {D : va_G} {a : Nat → Nat} {cA : Nat → ClassId} {t : Nat} {F : (Nat → Prop) → State → Prop} (hF : EOK F) {σ : St} {N : Nat} {r : Int32} {σ' : St} (h : X6_setProperty N σ = some (r, σ')) : MetI l yX6_setProperty cX6_setProperty 1 (some .int) 6 D (tyW cA) (wS a cA) (ES t F) [.ref (a 0)] σ r σ' := by
  refine mkI (by decide) (adrS a cA) (Or.inl rfl) (Nat.le_of_ble_eq_true rfl) ?_
  intro p e R s m args below meth c A Q ls X hR hp hl
  obtain ⟨hx, hb, -, hown, hts, -⟩ := id X
  unfold X6_setProperty at h
  have hl := lv_sub (l' := [(0, .ref (a 0))]) hl [0] rfl
  refine lv_aload_n hx hb dX6_setProperty_0 rfl (lv_at hl 0 rfl) ?_
  obtain ⟨t1, ht1, h⟩ := bd_s h
  refine cl_Vv X (eokS hF) (c_X6_requireStateFormula hF ht1) tw_18_17 mw_X6_requireStateFormula (by decide) hp 0 rfl rfl rfl hl.1 rfl (Nat.le_of_ble_eq_true rfl) dX6_setProperty_1 (fun H locs hp => ?_)
  refine lv_aload_n hx hb dX6_setProperty_4 rfl (lv_at hl 0 rfl) ?_
  refine lv_bipush (v := 7) hx hb dX6_setProperty_5 (by decide) ?_
  obtain ⟨t2, ht2, h⟩ := bd_s h
  refine cl_Vi X (eokS hF) (c_X6_takeFormula hF ht2) tw_13_0 mw_X6_takeFormula (by decide) hp 0 rfl rfl rfl hl.1 rfl (Nat.le_of_ble_eq_true rfl) dX6_setProperty_7 (fun H locs hp => ?_)
  refine lv_pop hx hb dX6_setProperty_10 rfl ?_
  refine lv_aload_n hx hb dX6_setProperty_11 rfl (lv_at hl 0 rfl) ?_
  refine gS_X6_circuit X hp tw_1_20 dX6_setProperty_12 ?_
  obtain ⟨t3, ht3, h⟩ := bd_s h
  refine cl_Vl X (eokS hF) (c_X0_good hF ht3) tw_20_1 mw_X0_good (by decide) hp 2 rfl rfl rfl hl.1 rfl (Nat.le_of_ble_eq_true rfl) dX6_setProperty_15 (fun H locs hp => ?_)
  obtain ⟨t4, ht4, h⟩ := bd_s h
  refine cl_Si X (eokS hF) (c_J13_bitCount_95d88 (adrS a cA) (eokS hF) ht4) tw_19_5 mw_J13_bitCount_95d88 (by decide) hp hl.1 rfl (Nat.le_of_ble_eq_true rfl) dX6_setProperty_18 (fun H locs hp => ?_)
  exact hR _ _ _ _ _ _ dX6_setProperty_21 hp (congrArg Prod.fst (Option.some.inj h)) (congrArg Prod.snd (Option.some.inj h)) (fun q => by cases q)
def X0_restoreLatest_29b (k29 : (Int32 → St → Option (St))) (k61 : (St → Option (St))) (v1 : Int32) (v2 : Int32) (σ : St) : Option (St) :=
  if (4 : Int32) ≤ v2 then
    k61 σ
  else
    gd (inb v1 10) (
    gd (inb ((v1 * (4 : Int32)) + v2) 40) (
    bd (X0_putTable (σ.2.2.1 2 v1.toNatClampNeg) v2 (σ.2.2.2 2 ((v1 * (4 : Int32)) + v2).toNatClampNeg) σ) (fun t4 =>
    nm (v2 + (1 : Int32)) (fun (x5 : Int32) =>
    k29 x5 t4))))
def X0_restoreLatest_29 (k61 : (St → Option (St))) (v1 : Int32) : Nat → Int32 → St → Option (St)
  | 0, _, _ => none
  | n + 1, v2, σ => X0_restoreLatest_29b (fun v2 σ => X0_restoreLatest_29 k61 v1 n v2 σ) k61 v1 v2 σ
def X0_restoreLatest_61 (σ : St) : Option (St) :=
  nm (si σ 10 ((σ.1 10) - (1 : Int32))) (fun (σ1 : St) =>
  some σ1)
def X0_restoreLatest (N : Nat) (σ : St) : Option (St) :=
  nm ((((σ.1 9) + (σ.1 10)) - (1 : Int32)) - (((σ.1 9) + (σ.1 10)) - (1 : Int32)) / (10 : Int32) * (10 : Int32)) (fun (x1 : Int32) =>
  if x1 < 0 then
    some σ
  else
    if 0 < (σ.1 10) then
      X0_restoreLatest_29 (fun σ => X0_restoreLatest_61 σ) x1 N (0 : Int32) σ
    else
      some σ)
set_option maxRecDepth 20000 in
set_option maxHeartbeats 4000000 in
theorem c_X0_restoreLatest {l : Launch} {D : va_G} {a : Nat → Nat} {cA : Nat → ClassId} {t : Nat} {F : (Nat → Prop) → State → Prop} (hF : EOK F) {σ : St} {N : Nat} {σ' : St} (h : X0_restoreLatest N σ = some σ') : MetV l yX0_restoreLatest cX0_restoreLatest 3 none 1 D (tyW cA) (wS a cA) (ES t F) [.ref (a 2)] σ σ' := by
  refine mkV (by decide) (adrS a cA) rfl (Nat.le_of_ble_eq_true rfl) ?_
  intro p e R s m args below meth c A Q ls X hR hp hl
  obtain ⟨hx, hb, -, hown, hts, -⟩ := id X
  have J_29 : ∀ (v1 : Int32) (k61 : (St → Option (St))) (hk61 : ∀ (σ : St) (H : Heap) (locs : List Loc) (ls : Array Slot), Pw D (wS a cA) A s.heap H locs σ → lv_has ls 3 [(0, .ref (a 2))] → k61 σ = some σ' → W p l e R s m args below meth c H locs 0 0 Q (F0 m 61 ls [])) (n : Nat) (v2 : Int32) (σ : St) (H : Heap) (locs : List Loc) (ls : Array Slot), Pw D (wS a cA) A s.heap H locs σ → lv_has ls 3 [(0, .ref (a 2)), (1, .int v1), (2, .int v2)] → X0_restoreLatest_29 k61 v1 n v2 σ = some σ' → W p l e R s m args below meth c H locs 0 0 Q (F0 m 29 ls []) := by
    intro v1 k61 hk61 n
    induction n with
    | zero => intro v2 σ H locs ls hp hl h; exact nn_s (show (none : Option (St)) = some _ from h)
    | succ n ih =>
      intro v2 σ H locs ls hp hl h
      have h : X0_restoreLatest_29b (fun v2 σ => X0_restoreLatest_29 k61 v1 n v2 σ) k61 v1 v2 σ = some σ' := h
      unfold X0_restoreLatest_29b at h
      have hk29 := ih
      refine lv_iload_n hx hb dX0_restoreLatest_29 rfl (lv_at hl 2 rfl) ?_
      refine lv_iconst (v := 4) hx hb dX0_restoreLatest_30 (by decide) ?_
      refine lv_icmp_ge (tgt := 61) hx hb dX0_restoreLatest_31 (by decide) (fun c1 => ?_) (fun c1 => ?_)
      · have h := it_p h c1
        exact hk61 σ _ _ _ hp (lv_sub hl [0] rfl) h
      · have h := it_n h c1
        refine lv_aload_n hx hb dX0_restoreLatest_34 rfl (lv_at hl 0 rfl) ?_
        refine lv_aload_n hx hb dX0_restoreLatest_35 rfl (lv_at hl 0 rfl) ?_
        refine gS_X0_keptRows X hp tw_2_23 dX0_restoreLatest_36 ?_
        refine lv_iload_n hx hb dX0_restoreLatest_39 rfl (lv_at hl 1 rfl) ?_
        obtain ⟨g2, h⟩ := gd_s h
        refine lS_X0_keptRows X hp g2 dX0_restoreLatest_40 ?_
        refine lv_iload_n hx hb dX0_restoreLatest_41 rfl (lv_at hl 2 rfl) ?_
        refine lv_aload_n hx hb dX0_restoreLatest_42 rfl (lv_at hl 0 rfl) ?_
        refine gS_X0_keptTables X hp tw_2_22 dX0_restoreLatest_43 ?_
        refine lv_iload_n hx hb dX0_restoreLatest_46 rfl (lv_at hl 1 rfl) ?_
        refine lv_iconst (v := 4) hx hb dX0_restoreLatest_47 (by decide) ?_
        refine lv_imul hx hb dX0_restoreLatest_48 ?_
        refine lv_iload_n hx hb dX0_restoreLatest_49 rfl (lv_at hl 2 rfl) ?_
        refine lv_iadd hx hb dX0_restoreLatest_50 ?_
        obtain ⟨g3, h⟩ := gd_s h
        refine lS_X0_keptTables X hp g3 dX0_restoreLatest_51 ?_
        obtain ⟨t4, ht4, h⟩ := bd_s h
        refine cl_Vv X (eokS hF) (c_X0_putTable hF ht4) tw_3_16 mw_X0_putTable (by decide) hp 2 rfl rfl rfl hl.1 rfl (Nat.le_of_ble_eq_true rfl) dX0_restoreLatest_52 (fun H locs hp => ?_)
        obtain ⟨x5, ex5⟩ : ∃ z : Int32, z = v2 + (1 : Int32) := ⟨_, rfl⟩
        have h := nm_s h x5 ex5
        refine lv_iinc (v := x5) (lv' := [(2, .int x5), (0, .ref (a 2)), (1, .int v1)]) hx hb dX0_restoreLatest_55 hl (k := 2) rfl (by rw [ex5]; rfl) (by decide) rfl (fun ls hl => ?_)
        refine lv_goto (tgt := 29) hx hb dX0_restoreLatest_58 (by decide) ?_
        exact hk29 x5 t4 _ _ _ hp (lv_sub hl [1, 2, 0] rfl) h
  have J_61 : ∀  (σ : St) (H : Heap) (locs : List Loc) (ls : Array Slot), Pw D (wS a cA) A s.heap H locs σ → lv_has ls 3 [(0, .ref (a 2))] → X0_restoreLatest_61 σ = some σ' → W p l e R s m args below meth c H locs 0 0 Q (F0 m 61 ls []) := by
    intro σ H locs ls hp hl h
    unfold X0_restoreLatest_61 at h
    refine lv_aload_n hx hb dX0_restoreLatest_61 rfl (lv_at hl 0 rfl) ?_
    refine lv_dup hx hb dX0_restoreLatest_62 rfl ?_
    refine gS_X0_keptCount X hp tw_3_11 dX0_restoreLatest_63 ?_
    refine lv_iconst (v := 1) hx hb dX0_restoreLatest_66 (by decide) ?_
    refine lv_isub hx hb dX0_restoreLatest_67 ?_
    refine pS_X0_keptCount X hp tw_3_11 dX0_restoreLatest_68 (fun H locs σ1 eσ1 hp => ?_)
    have h := nm_s h σ1 eσ1
    exact hR _ _ _ _ _ dX0_restoreLatest_71 hp (Option.some.inj h)
  unfold X0_restoreLatest at h
  have hl := lv_sub (l' := [(0, .ref (a 2))]) hl [0] rfl
  refine lv_aload_n hx hb dX0_restoreLatest_0 rfl (lv_at hl 0 rfl) ?_
  refine gS_X0_oldestKept X hp tw_3_10 dX0_restoreLatest_1 ?_
  refine lv_aload_n hx hb dX0_restoreLatest_4 rfl (lv_at hl 0 rfl) ?_
  refine gS_X0_keptCount X hp tw_3_11 dX0_restoreLatest_5 ?_
  refine lv_iadd hx hb dX0_restoreLatest_8 ?_
  refine lv_iconst (v := 1) hx hb dX0_restoreLatest_9 (by decide) ?_
  refine lv_isub hx hb dX0_restoreLatest_10 ?_
  refine lv_bipush (v := 10) hx hb dX0_restoreLatest_11 (by decide) ?_
  refine lv_irem hx hb dX0_restoreLatest_13 (by decide) ?_
  refine lv_topi (fun x1 ex1 => ?_)
  have h := nm_s h x1 ex1
  refine lv_istore_n (lv' := [(1, .int x1), (0, .ref (a 2))]) hx hb dX0_restoreLatest_14 rfl hl (by decide) rfl (fun ls hl => ?_)
  refine lv_iload_n hx hb dX0_restoreLatest_15 rfl (lv_at hl 0 rfl) ?_
  refine lv_if_lt (tgt := 26) hx hb dX0_restoreLatest_16 (by decide) (fun c2 => ?_) (fun c2 => ?_)
  · have h := it_p h c2
    exact hR _ _ _ _ _ dX0_restoreLatest_26 hp (Option.some.inj h)
  · have h := it_n h c2
    refine lv_aload_n hx hb dX0_restoreLatest_19 rfl (lv_at hl 1 rfl) ?_
    refine gS_X0_keptCount X hp tw_3_11 dX0_restoreLatest_20 ?_
    refine lv_if_gt (tgt := 27) hx hb dX0_restoreLatest_23 (by decide) (fun c3 => ?_) (fun c3 => ?_)
    · have h := it_p h c3
      refine lv_iconst (v := 0) hx hb dX0_restoreLatest_27 (by decide) ?_
      refine lv_istore_n (lv' := [(2, .int (0 : Int32)), (1, .int x1), (0, .ref (a 2))]) hx hb dX0_restoreLatest_28 rfl hl (by decide) rfl (fun ls hl => ?_)
      exact J_29 x1 _ (fun σ H locs ls hp hl h => J_61 σ _ _ _ hp hl h) _ (0 : Int32) σ _ _ _ hp (lv_sub hl [2, 1, 0] rfl) h
    · have h := it_n h c3
      exact hR _ _ _ _ _ dX0_restoreLatest_26 hp (Option.some.inj h)
