/- X7_doSigns X7_pushSign X7_evaluate X7_was X7_put X7_keep X7_become X7_setNext X7_setInit -/
def X7_doSigns_0b (N : Nat) (k0 : (St → Option (St))) (k32 : (St → Option (St))) (v1 : Int32) (σ : St) : Option (St) :=
  if (σ.1 8) ≤ 0 then
    k32 σ
  else
    gd (inb ((σ.1 8) - (1 : Int32)) 64) (
    bd (X7_binds (σ.2.2.1 2 ((σ.1 8) - (1 : Int32)).toNatClampNeg)) (fun t3 =>
    if t3 < v1 then
      k32 σ
    else
      bd (X7_doSign N σ) (fun t5 =>
      k0 t5)))
def X7_doSigns_0 (N : Nat) (k32 : (St → Option (St))) (v1 : Int32) : Nat → St → Option (St)
  | 0, _ => none
  | n + 1, σ => X7_doSigns_0b N (fun σ => X7_doSigns_0 N k32 v1 n σ) k32 v1 σ
def X7_doSigns_32 (σ : St) : Option (St) :=
  some σ
def X7_doSigns (N : Nat) (v1 : Int32) (σ : St) : Option (St) := X7_doSigns_0 N (fun σ => X7_doSigns_32 σ) v1 N σ
set_option maxRecDepth 20000 in
set_option maxHeartbeats 4000000 in
theorem c_X7_doSigns {l : Launch} {D : va_G} {a : Nat → Nat} {cA : Nat → ClassId} {σ : St} {N : Nat} {v1 : Int32} {σ' : St} (h : X7_doSigns N v1 σ = some σ') : MetV l yX7_doSigns cX7_doSigns 2 none 3 D (tyW cA) (wM a cA) EM [.ref (a 0), .int v1] σ σ' := by
  refine mkV (by decide) (adrM a cA) rfl (Nat.le_of_ble_eq_true rfl) ?_
  intro p e R s m args below meth c A Q ls X hR hp hl
  obtain ⟨hx, hb, -, hown, hts, -⟩ := id X
  have J_0 : ∀ (v1 : Int32) (k32 : (St → Option (St))) (hk32 : ∀ (σ : St) (H : Heap) (locs : List Loc) (ls : Array Slot), Pw D (wM a cA) A s.heap H locs σ → lv_has ls 2 [(0, .ref (a 0))] → k32 σ = some σ' → W p l e R s m args below meth c H locs 0 0 Q (F0 m 32 ls [])) (n : Nat) (σ : St) (H : Heap) (locs : List Loc) (ls : Array Slot), Pw D (wM a cA) A s.heap H locs σ → lv_has ls 2 [(0, .ref (a 0)), (1, .int v1)] → X7_doSigns_0 N k32 v1 n σ = some σ' → W p l e R s m args below meth c H locs 0 0 Q (F0 m 0 ls []) := by
    intro v1 k32 hk32 n
    induction n with
    | zero => intro σ H locs ls hp hl h; exact nn_s (show (none : Option (St)) = some _ from h)
    | succ n ih =>
      intro σ H locs ls hp hl h
      have h : X7_doSigns_0b N (fun σ => X7_doSigns_0 N k32 v1 n σ) k32 v1 σ = some σ' := h
      unfold X7_doSigns_0b at h
      have hk0 := ih
      refine lv_aload_n hx hb dX7_doSigns_0 rfl (lv_at hl 0 rfl) ?_
      refine gM_X7_signMany X hp tw_16_9 dX7_doSigns_1 ?_
      refine lv_if_le (tgt := 32) hx hb dX7_doSigns_4 (by decide) (fun c1 => ?_) (fun c1 => ?_)
      · have h := it_p h c1
        exact hk32 σ _ _ _ hp (lv_sub hl [0] rfl) h
      · have h := it_n h c1
        refine lv_aload_n hx hb dX7_doSigns_7 rfl (lv_at hl 0 rfl) ?_
        refine gM_X7_signs X hp tw_5_22 dX7_doSigns_8 ?_
        refine lv_aload_n hx hb dX7_doSigns_11 rfl (lv_at hl 0 rfl) ?_
        refine gM_X7_signMany X hp tw_16_9 dX7_doSigns_12 ?_
        refine lv_iconst (v := 1) hx hb dX7_doSigns_15 (by decide) ?_
        refine lv_isub hx hb dX7_doSigns_16 ?_
        obtain ⟨g2, h⟩ := gd_s h
        refine lM_X7_signs X hp g2 dX7_doSigns_17 ?_
        obtain ⟨t3, ht3, h⟩ := bd_s h
        refine cl_Si X eokM (c_X7_binds (adrM a cA) eokM ht3) tw_16_18 mw_X7_binds (by decide) hp hl.1 rfl (Nat.le_of_ble_eq_true rfl) dX7_doSigns_18 (fun H locs hp => ?_)
        refine lv_iload_n hx hb dX7_doSigns_21 rfl (lv_at hl 1 rfl) ?_
        refine lv_icmp_lt (tgt := 32) hx hb dX7_doSigns_22 (by decide) (fun c4 => ?_) (fun c4 => ?_)
        · have h := it_p h c4
          exact hk32 σ _ _ _ hp (lv_sub hl [0] rfl) h
        · have h := it_n h c4
          refine lv_aload_n hx hb dX7_doSigns_25 rfl (lv_at hl 0 rfl) ?_
          obtain ⟨t5, ht5, h⟩ := bd_s h
          refine cl_Vv X eokM (c_X7_doSign ht5) tw_16_21 mw_X7_doSign (by decide) hp 0 rfl rfl rfl hl.1 rfl (Nat.le_of_ble_eq_true rfl) dX7_doSigns_26 (fun H locs hp => ?_)
          refine lv_goto (tgt := 0) hx hb dX7_doSigns_29 (by decide) ?_
          exact hk0 t5 _ _ _ hp (lv_sub hl [0, 1] rfl) h
  have J_32 : ∀  (σ : St) (H : Heap) (locs : List Loc) (ls : Array Slot), Pw D (wM a cA) A s.heap H locs σ → lv_has ls 2 [(0, .ref (a 0))] → X7_doSigns_32 σ = some σ' → W p l e R s m args below meth c H locs 0 0 Q (F0 m 32 ls []) := by
    intro σ H locs ls hp hl h
    unfold X7_doSigns_32 at h
    exact hR _ _ _ _ _ dX7_doSigns_32 hp (Option.some.inj h)
  unfold X7_doSigns at h
  exact J_0 v1 _ (fun σ H locs ls hp hl h => J_32 σ _ _ _ hp hl h) _ σ _ _ _ hp (lv_sub hl [0, 1] rfl) h
def X7_pushSign (v1 : Int32) (σ : St) : Option (St) :=
  gd (inb (σ.1 8) 64) (
  nm (sa σ 2 (σ.1 8).toNatClampNeg v1) (fun (σ2 : St) =>
  nm (si σ2 8 ((σ2.1 8) + (1 : Int32))) (fun (σ3 : St) =>
  some σ3)))
set_option maxRecDepth 20000 in
set_option maxHeartbeats 4000000 in
theorem c_X7_pushSign {l : Launch} {D : va_G} {a : Nat → Nat} {cA : Nat → ClassId} {σ : St} {v1 : Int32} {σ' : St} (h : X7_pushSign v1 σ = some σ') : MetV l yX7_pushSign cX7_pushSign 2 none 0 D (tyW cA) (wM a cA) EM [.ref (a 0), .int v1] σ σ' := by
  refine mkV (by decide) (adrM a cA) rfl (Nat.le_of_ble_eq_true rfl) ?_
  intro p e R s m args below meth c A Q ls X hR hp hl
  obtain ⟨hx, hb, -, hown, hts, -⟩ := id X
  unfold X7_pushSign at h
  have hl := lv_sub (l' := [(0, .ref (a 0)), (1, .int v1)]) hl [0, 1] rfl
  refine lv_aload_n hx hb dX7_pushSign_0 rfl (lv_at hl 0 rfl) ?_
  refine gM_X7_signs X hp tw_5_22 dX7_pushSign_1 ?_
  refine lv_aload_n hx hb dX7_pushSign_4 rfl (lv_at hl 0 rfl) ?_
  refine gM_X7_signMany X hp tw_16_9 dX7_pushSign_5 ?_
  refine lv_iload_n hx hb dX7_pushSign_8 rfl (lv_at hl 1 rfl) ?_
  obtain ⟨g1, h⟩ := gd_s h
  refine sM_X7_signs X hp g1 dX7_pushSign_9 (fun H locs σ2 eσ2 hp => ?_)
  have h := nm_s h σ2 eσ2
  refine lv_aload_n hx hb dX7_pushSign_10 rfl (lv_at hl 0 rfl) ?_
  refine lv_dup hx hb dX7_pushSign_11 rfl ?_
  refine gM_X7_signMany X hp tw_16_9 dX7_pushSign_12 ?_
  refine lv_iconst (v := 1) hx hb dX7_pushSign_15 (by decide) ?_
  refine lv_iadd hx hb dX7_pushSign_16 ?_
  refine pM_X7_signMany X hp tw_16_9 dX7_pushSign_17 (fun H locs σ3 eσ3 hp => ?_)
  have h := nm_s h σ3 eσ3
  exact hR _ _ _ _ _ dX7_pushSign_20 hp (Option.some.inj h)
def X7_evaluate_39 (k12 : (Int32 → St → Option (St))) (v1 : Int32) (v2 : Int32) (σ : St) : Option (St) :=
  bd (X7_pushSign v2 σ) (fun t1 =>
  nm (v1 + (1 : Int32)) (fun (x2 : Int32) =>
  k12 x2 t1))
def X7_evaluate_12b (N : Nat) (k12 : (Int32 → St → Option (St))) (k115 : (St → Option (St))) (v1 : Int32) (σ : St) : Option (St) :=
  if (σ.1 3) ≤ v1 then
    k115 σ
  else
    gd (inb v1 60) (
    nm (σ.2.2.1 0 v1.toNatClampNeg) (fun (x3 : Int32) =>
    if x3 = (40 : Int32) then
      X7_evaluate_39 k12 v1 x3 σ
    else
      if x3 = (33 : Int32) then
        X7_evaluate_39 k12 v1 x3 σ
      else
        if x3 = (41 : Int32) then
          bd (X7_doSigns N (1 : Int32) σ) (fun t16 =>
          nm (si t16 8 ((t16.1 8) - (1 : Int32))) (fun (σ17 : St) =>
          bd (X7_doSigns N (4 : Int32) σ17) (fun t18 =>
          nm (v1 + (1 : Int32)) (fun (x19 : Int32) =>
          k12 x19 t18))))
        else
          bd (X7_isSign x3) (fun t7 =>
          if t7 = 0 then
            bd (X7_pushOperand N x3 σ) (fun t9 =>
            bd (X7_doSigns N (4 : Int32) t9) (fun t10 =>
            nm (v1 + (1 : Int32)) (fun (x11 : Int32) =>
            k12 x11 t10)))
          else
            bd (X7_binds x3) (fun t12 =>
            bd (X7_doSigns N t12 σ) (fun t13 =>
            bd (X7_pushSign x3 t13) (fun t14 =>
            nm (v1 + (1 : Int32)) (fun (x15 : Int32) =>
            k12 x15 t14)))))))
def X7_evaluate_12 (N : Nat) (k115 : (St → Option (St))) : Nat → Int32 → St → Option (St)
  | 0, _, _ => none
  | n + 1, v1, σ => X7_evaluate_12b N (fun v1 σ => X7_evaluate_12 N k115 n v1 σ) k115 v1 σ
def X7_evaluate_115 (N : Nat) (σ : St) : Option (St) :=
  bd (X7_doSigns N (1 : Int32) σ) (fun t1 =>
  some t1)
def X7_evaluate (N : Nat) (σ : St) : Option (St) :=
  nm (si σ 7 (0 : Int32)) (fun (σ1 : St) =>
  nm (si σ1 8 (0 : Int32)) (fun (σ2 : St) =>
  X7_evaluate_12 N (fun σ => X7_evaluate_115 N σ) N (0 : Int32) σ2))
set_option maxRecDepth 20000 in
set_option maxHeartbeats 4000000 in
theorem c_X7_evaluate {l : Launch} {D : va_G} {a : Nat → Nat} {cA : Nat → ClassId} {σ : St} {N : Nat} {σ' : St} (h : X7_evaluate N σ = some σ') : MetV l yX7_evaluate cX7_evaluate 3 none 4 D (tyW cA) (wM a cA) EM [.ref (a 0)] σ σ' := by
  refine mkV (by decide) (adrM a cA) rfl (Nat.le_of_ble_eq_true rfl) ?_
  intro p e R s m args below meth c A Q ls X hR hp hl
  obtain ⟨hx, hb, -, hown, hts, -⟩ := id X
  have J_39 : ∀ (v1 : Int32) (v2 : Int32) (k12 : (Int32 → St → Option (St))) (hk12 : ∀ (v1 : Int32) (σ : St) (H : Heap) (locs : List Loc) (ls : Array Slot), Pw D (wM a cA) A s.heap H locs σ → lv_has ls 3 [(0, .ref (a 0)), (1, .int v1)] → k12 v1 σ = some σ' → W p l e R s m args below meth c H locs 0 0 Q (F0 m 12 ls [])) (σ : St) (H : Heap) (locs : List Loc) (ls : Array Slot), Pw D (wM a cA) A s.heap H locs σ → lv_has ls 3 [(0, .ref (a 0)), (1, .int v1), (2, .int v2)] → X7_evaluate_39 k12 v1 v2 σ = some σ' → W p l e R s m args below meth c H locs 0 0 Q (F0 m 39 ls []) := by
    intro v1 v2 k12 hk12 σ H locs ls hp hl h
    unfold X7_evaluate_39 at h
    refine lv_aload_n hx hb dX7_evaluate_39 rfl (lv_at hl 0 rfl) ?_
    refine lv_iload_n hx hb dX7_evaluate_40 rfl (lv_at hl 2 rfl) ?_
    obtain ⟨t1, ht1, h⟩ := bd_s h
    refine cl_Vv X eokM (c_X7_pushSign ht1) tw_16_10 mw_X7_pushSign (by decide) hp 0 rfl rfl rfl hl.1 rfl (Nat.le_of_ble_eq_true rfl) dX7_evaluate_41 (fun H locs hp => ?_)
    refine lv_goto (tgt := 109) hx hb dX7_evaluate_44 (by decide) ?_
    obtain ⟨x2, ex2⟩ : ∃ z : Int32, z = v1 + (1 : Int32) := ⟨_, rfl⟩
    have h := nm_s h x2 ex2
    refine lv_iinc (v := x2) (lv' := [(1, .int x2), (0, .ref (a 0)), (2, .int v2)]) hx hb dX7_evaluate_109 hl (k := 1) rfl (by rw [ex2]; rfl) (by decide) rfl (fun ls hl => ?_)
    refine lv_goto (tgt := 12) hx hb dX7_evaluate_112 (by decide) ?_
    exact hk12 x2 t1 _ _ _ hp (lv_sub hl [1, 0] rfl) h
  have J_12 : ∀  (k115 : (St → Option (St))) (hk115 : ∀ (σ : St) (H : Heap) (locs : List Loc) (ls : Array Slot), Pw D (wM a cA) A s.heap H locs σ → lv_has ls 3 [(0, .ref (a 0))] → k115 σ = some σ' → W p l e R s m args below meth c H locs 0 0 Q (F0 m 115 ls [])) (n : Nat) (v1 : Int32) (σ : St) (H : Heap) (locs : List Loc) (ls : Array Slot), Pw D (wM a cA) A s.heap H locs σ → lv_has ls 3 [(0, .ref (a 0)), (1, .int v1)] → X7_evaluate_12 N k115 n v1 σ = some σ' → W p l e R s m args below meth c H locs 0 0 Q (F0 m 12 ls []) := by
    intro k115 hk115 n
    induction n with
    | zero => intro v1 σ H locs ls hp hl h; exact nn_s (show (none : Option (St)) = some _ from h)
    | succ n ih =>
      intro v1 σ H locs ls hp hl h
      have h : X7_evaluate_12b N (fun v1 σ => X7_evaluate_12 N k115 n v1 σ) k115 v1 σ = some σ' := h
      unfold X7_evaluate_12b at h
      have hk12 := ih
      refine lv_iload_n hx hb dX7_evaluate_12 rfl (lv_at hl 1 rfl) ?_
      refine lv_aload_n hx hb dX7_evaluate_13 rfl (lv_at hl 0 rfl) ?_
      refine gM_X7_length X hp tw_9_17 dX7_evaluate_14 ?_
      refine lv_icmp_ge (tgt := 115) hx hb dX7_evaluate_17 (by decide) (fun c1 => ?_) (fun c1 => ?_)
      · have h := it_p h c1
        exact hk115 σ _ _ _ hp (lv_sub hl [0] rfl) h
      · have h := it_n h c1
        refine lv_aload_n hx hb dX7_evaluate_20 rfl (lv_at hl 0 rfl) ?_
        refine gM_X7_text X hp tw_5_18 dX7_evaluate_21 ?_
        refine lv_iload_n hx hb dX7_evaluate_24 rfl (lv_at hl 1 rfl) ?_
        obtain ⟨g2, h⟩ := gd_s h
        refine lM_X7_text X hp g2 dX7_evaluate_25 ?_
        refine lv_topi (fun x3 ex3 => ?_)
        have h := nm_s h x3 ex3
        refine lv_istore_n (lv' := [(2, .int x3), (0, .ref (a 0)), (1, .int v1)]) hx hb dX7_evaluate_26 rfl hl (by decide) rfl (fun ls hl => ?_)
        refine lv_iload_n hx hb dX7_evaluate_27 rfl (lv_at hl 0 rfl) ?_
        refine lv_bipush (v := 40) hx hb dX7_evaluate_28 (by decide) ?_
        refine lv_icmp_eq (tgt := 39) hx hb dX7_evaluate_30 (by decide) (fun c4 => ?_) (fun c4 => ?_)
        · have h := it_p h c4
          exact J_39 v1 x3 _ hk12 σ _ _ _ hp (lv_sub hl [1, 2, 0] rfl) h
        · have h := it_n h c4
          refine lv_iload_n hx hb dX7_evaluate_33 rfl (lv_at hl 0 rfl) ?_
          refine lv_bipush (v := 33) hx hb dX7_evaluate_34 (by decide) ?_
          refine lv_icmp_ne (tgt := 47) hx hb dX7_evaluate_36 (by decide) (fun c5 => ?_) (fun c5 => ?_)
          · have h := it_n h c5
            refine lv_iload_n hx hb dX7_evaluate_47 rfl (lv_at hl 0 rfl) ?_
            refine lv_bipush (v := 41) hx hb dX7_evaluate_48 (by decide) ?_
            refine lv_icmp_ne (tgt := 76) hx hb dX7_evaluate_50 (by decide) (fun c6 => ?_) (fun c6 => ?_)
            · have h := it_n h c6
              refine lv_iload_n hx hb dX7_evaluate_76 rfl (lv_at hl 0 rfl) ?_
              obtain ⟨t7, ht7, h⟩ := bd_s h
              refine cl_Si X eokM (c_X7_isSign (adrM a cA) eokM ht7) tw_11_22 mw_X7_isSign (by decide) hp hl.1 rfl (Nat.le_of_ble_eq_true rfl) dX7_evaluate_77 (fun H locs hp => ?_)
              refine lv_if_eq (tgt := 99) hx hb dX7_evaluate_80 (by decide) (fun c8 => ?_) (fun c8 => ?_)
              · have h := it_p h c8
                refine lv_aload_n hx hb dX7_evaluate_99 rfl (lv_at hl 1 rfl) ?_
                refine lv_iload_n hx hb dX7_evaluate_100 rfl (lv_at hl 0 rfl) ?_
                obtain ⟨t9, ht9, h⟩ := bd_s h
                refine cl_Vv X eokM (c_X7_pushOperand ht9) tw_17_4 mw_X7_pushOperand (by decide) hp 0 rfl rfl rfl hl.1 rfl (Nat.le_of_ble_eq_true rfl) dX7_evaluate_101 (fun H locs hp => ?_)
                refine lv_aload_n hx hb dX7_evaluate_104 rfl (lv_at hl 1 rfl) ?_
                refine lv_iconst (v := 4) hx hb dX7_evaluate_105 (by decide) ?_
                obtain ⟨t10, ht10, h⟩ := bd_s h
                refine cl_Vv X eokM (c_X7_doSigns ht10) tw_16_14 mw_X7_doSigns (by decide) hp 0 rfl rfl rfl hl.1 rfl (Nat.le_of_ble_eq_true rfl) dX7_evaluate_106 (fun H locs hp => ?_)
                obtain ⟨x11, ex11⟩ : ∃ z : Int32, z = v1 + (1 : Int32) := ⟨_, rfl⟩
                have h := nm_s h x11 ex11
                refine lv_iinc (v := x11) (lv' := [(1, .int x11), (2, .int x3), (0, .ref (a 0))]) hx hb dX7_evaluate_109 hl (k := 2) rfl (by rw [ex11]; rfl) (by decide) rfl (fun ls hl => ?_)
                refine lv_goto (tgt := 12) hx hb dX7_evaluate_112 (by decide) ?_
                exact hk12 x11 t10 _ _ _ hp (lv_sub hl [2, 0] rfl) h
              · have h := it_n h c8
                refine lv_aload_n hx hb dX7_evaluate_83 rfl (lv_at hl 1 rfl) ?_
                refine lv_iload_n hx hb dX7_evaluate_84 rfl (lv_at hl 0 rfl) ?_
                obtain ⟨t12, ht12, h⟩ := bd_s h
                refine cl_Si X eokM (c_X7_binds (adrM a cA) eokM ht12) tw_16_18 mw_X7_binds (by decide) hp hl.1 rfl (Nat.le_of_ble_eq_true rfl) dX7_evaluate_85 (fun H locs hp => ?_)
                obtain ⟨t13, ht13, h⟩ := bd_s h
                refine cl_Vv X eokM (c_X7_doSigns ht13) tw_16_14 mw_X7_doSigns (by decide) hp 0 rfl rfl rfl hl.1 rfl (Nat.le_of_ble_eq_true rfl) dX7_evaluate_88 (fun H locs hp => ?_)
                refine lv_aload_n hx hb dX7_evaluate_91 rfl (lv_at hl 1 rfl) ?_
                refine lv_iload_n hx hb dX7_evaluate_92 rfl (lv_at hl 0 rfl) ?_
                obtain ⟨t14, ht14, h⟩ := bd_s h
                refine cl_Vv X eokM (c_X7_pushSign ht14) tw_16_10 mw_X7_pushSign (by decide) hp 0 rfl rfl rfl hl.1 rfl (Nat.le_of_ble_eq_true rfl) dX7_evaluate_93 (fun H locs hp => ?_)
                refine lv_goto (tgt := 109) hx hb dX7_evaluate_96 (by decide) ?_
                obtain ⟨x15, ex15⟩ : ∃ z : Int32, z = v1 + (1 : Int32) := ⟨_, rfl⟩
                have h := nm_s h x15 ex15
                refine lv_iinc (v := x15) (lv' := [(1, .int x15), (2, .int x3), (0, .ref (a 0))]) hx hb dX7_evaluate_109 hl (k := 2) rfl (by rw [ex15]; rfl) (by decide) rfl (fun ls hl => ?_)
                refine lv_goto (tgt := 12) hx hb dX7_evaluate_112 (by decide) ?_
                exact hk12 x15 t14 _ _ _ hp (lv_sub hl [2, 0] rfl) h
            · have h := it_p h c6
              refine lv_aload_n hx hb dX7_evaluate_53 rfl (lv_at hl 1 rfl) ?_
              refine lv_iconst (v := 1) hx hb dX7_evaluate_54 (by decide) ?_
              obtain ⟨t16, ht16, h⟩ := bd_s h
              refine cl_Vv X eokM (c_X7_doSigns ht16) tw_16_14 mw_X7_doSigns (by decide) hp 0 rfl rfl rfl hl.1 rfl (Nat.le_of_ble_eq_true rfl) dX7_evaluate_55 (fun H locs hp => ?_)
              refine lv_aload_n hx hb dX7_evaluate_58 rfl (lv_at hl 1 rfl) ?_
              refine lv_dup hx hb dX7_evaluate_59 rfl ?_
              refine gM_X7_signMany X hp tw_16_9 dX7_evaluate_60 ?_
              refine lv_iconst (v := 1) hx hb dX7_evaluate_63 (by decide) ?_
              refine lv_isub hx hb dX7_evaluate_64 ?_
              refine pM_X7_signMany X hp tw_16_9 dX7_evaluate_65 (fun H locs σ17 eσ17 hp => ?_)
              have h := nm_s h σ17 eσ17
              refine lv_aload_n hx hb dX7_evaluate_68 rfl (lv_at hl 1 rfl) ?_
              refine lv_iconst (v := 4) hx hb dX7_evaluate_69 (by decide) ?_
              obtain ⟨t18, ht18, h⟩ := bd_s h
              refine cl_Vv X eokM (c_X7_doSigns ht18) tw_16_14 mw_X7_doSigns (by decide) hp 0 rfl rfl rfl hl.1 rfl (Nat.le_of_ble_eq_true rfl) dX7_evaluate_70 (fun H locs hp => ?_)
              refine lv_goto (tgt := 109) hx hb dX7_evaluate_73 (by decide) ?_
              obtain ⟨x19, ex19⟩ : ∃ z : Int32, z = v1 + (1 : Int32) := ⟨_, rfl⟩
              have h := nm_s h x19 ex19
              refine lv_iinc (v := x19) (lv' := [(1, .int x19), (2, .int x3), (0, .ref (a 0))]) hx hb dX7_evaluate_109 hl (k := 2) rfl (by rw [ex19]; rfl) (by decide) rfl (fun ls hl => ?_)
              refine lv_goto (tgt := 12) hx hb dX7_evaluate_112 (by decide) ?_
              exact hk12 x19 t18 _ _ _ hp (lv_sub hl [2, 0] rfl) h
          · have h := it_p h c5
            exact J_39 v1 x3 _ hk12 σ _ _ _ hp (lv_sub hl [1, 2, 0] rfl) h
  have J_115 : ∀  (σ : St) (H : Heap) (locs : List Loc) (ls : Array Slot), Pw D (wM a cA) A s.heap H locs σ → lv_has ls 3 [(0, .ref (a 0))] → X7_evaluate_115 N σ = some σ' → W p l e R s m args below meth c H locs 0 0 Q (F0 m 115 ls []) := by
    intro σ H locs ls hp hl h
    unfold X7_evaluate_115 at h
    refine lv_aload_n hx hb dX7_evaluate_115 rfl (lv_at hl 0 rfl) ?_
    refine lv_iconst (v := 1) hx hb dX7_evaluate_116 (by decide) ?_
    obtain ⟨t1, ht1, h⟩ := bd_s h
    refine cl_Vv X eokM (c_X7_doSigns ht1) tw_16_14 mw_X7_doSigns (by decide) hp 0 rfl rfl rfl hl.1 rfl (Nat.le_of_ble_eq_true rfl) dX7_evaluate_117 (fun H locs hp => ?_)
    exact hR _ _ _ _ _ dX7_evaluate_120 hp (Option.some.inj h)
  unfold X7_evaluate at h
  have hl := lv_sub (l' := [(0, .ref (a 0))]) hl [0] rfl
  refine lv_aload_n hx hb dX7_evaluate_0 rfl (lv_at hl 0 rfl) ?_
  refine lv_iconst (v := 0) hx hb dX7_evaluate_1 (by decide) ?_
  refine pM_X7_operandMany X hp tw_16_8 dX7_evaluate_2 (fun H locs σ1 eσ1 hp => ?_)
  have h := nm_s h σ1 eσ1
  refine lv_aload_n hx hb dX7_evaluate_5 rfl (lv_at hl 0 rfl) ?_
  refine lv_iconst (v := 0) hx hb dX7_evaluate_6 (by decide) ?_
  refine pM_X7_signMany X hp tw_16_9 dX7_evaluate_7 (fun H locs σ2 eσ2 hp => ?_)
  have h := nm_s h σ2 eσ2
  refine lv_iconst (v := 0) hx hb dX7_evaluate_10 (by decide) ?_
  refine lv_istore_n (lv' := [(1, .int (0 : Int32)), (0, .ref (a 0))]) hx hb dX7_evaluate_11 rfl hl (by decide) rfl (fun ls hl => ?_)
  exact J_12 _ (fun σ H locs ls hp hl h => J_115 σ _ _ _ hp hl h) _ (0 : Int32) σ2 _ _ _ hp (lv_sub hl [1, 0] rfl) h
def X7_was (σ : St) (v1 : Int32) (v2 : Int32) : Option (Int64) :=
  if v1 = (6 : Int32) then
    some (σ.2.1 0)
  else
    if v1 = (7 : Int32) then
      some (σ.2.1 1)
    else
      gd (inb (((4 : Int32) * v1) + v2) 24) (
      some (σ.2.2.2 0 (((4 : Int32) * v1) + v2).toNatClampNeg))
set_option maxRecDepth 20000 in
set_option maxHeartbeats 4000000 in
theorem c_X7_was {l : Launch} {D : va_G} {a : Nat → Nat} {cA : Nat → ClassId} {σ : St} {v1 : Int32} {v2 : Int32} {r : Int64} (h : X7_was σ v1 v2 = some r) : MetL l yX7_was cX7_was 3 (some .long) 0 D (tyW cA) (wM a cA) EM [.ref (a 0), .int v1, .int v2] σ r σ := by
  refine mkL (by decide) (adrM a cA) rfl (Nat.le_of_ble_eq_true rfl) ?_
  intro p e R s m args below meth c A Q ls X hR hp hl
  obtain ⟨hx, hb, -, hown, hts, -⟩ := id X
  unfold X7_was at h
  have hl := lv_sub (l' := [(0, .ref (a 0)), (1, .int v1), (2, .int v2)]) hl [0, 1, 2] rfl
  refine lv_iload_n hx hb dX7_was_0 rfl (lv_at hl 1 rfl) ?_
  refine lv_bipush (v := 6) hx hb dX7_was_1 (by decide) ?_
  refine lv_icmp_ne (tgt := 13) hx hb dX7_was_3 (by decide) (fun c1 => ?_) (fun c1 => ?_)
  · have h := it_n h c1
    refine lv_iload_n hx hb dX7_was_13 rfl (lv_at hl 1 rfl) ?_
    refine lv_bipush (v := 7) hx hb dX7_was_14 (by decide) ?_
    refine lv_icmp_ne (tgt := 26) hx hb dX7_was_16 (by decide) (fun c2 => ?_) (fun c2 => ?_)
    · have h := it_n h c2
      refine lv_aload_n hx hb dX7_was_26 rfl (lv_at hl 0 rfl) ?_
      refine gM_X7_next X hp tw_5_17 dX7_was_27 ?_
      refine lv_iconst (v := 4) hx hb dX7_was_30 (by decide) ?_
      refine lv_iload_n hx hb dX7_was_31 rfl (lv_at hl 1 rfl) ?_
      refine lv_imul hx hb dX7_was_32 ?_
      refine lv_iload_n hx hb dX7_was_33 rfl (lv_at hl 2 rfl) ?_
      refine lv_iadd hx hb dX7_was_34 ?_
      obtain ⟨g3, h⟩ := gd_s h
      refine lM_X7_next X hp g3 dX7_was_35 ?_
      exact hR _ _ _ _ _ _ dX7_was_36 hp (Option.some.inj h) rfl
    · have h := it_p h c2
      refine lv_aload_n hx hb dX7_was_19 rfl (lv_at hl 0 rfl) ?_
      refine gM_X7_good X hp tw_6_18 dX7_was_20 ?_
      refine lv_goto (tgt := 36) hx hb dX7_was_23 (by decide) ?_
      exact hR _ _ _ _ _ _ dX7_was_36 hp (Option.some.inj h) rfl
  · have h := it_p h c1
    refine lv_aload_n hx hb dX7_was_6 rfl (lv_at hl 0 rfl) ?_
    refine gM_X7_init X hp tw_6_17 dX7_was_7 ?_
    refine lv_goto (tgt := 36) hx hb dX7_was_10 (by decide) ?_
    exact hR _ _ _ _ _ _ dX7_was_36 hp (Option.some.inj h) rfl
def X7_put (v1 : Int32) (v2 : Int32) (v3 : Int64) (σ : St) : Option (St) :=
  if (6 : Int32) ≤ v1 then
    if v1 = (6 : Int32) then
      nm (sj σ 0 v3) (fun (σ4 : St) =>
      some σ4)
    else
      nm (sj σ 1 v3) (fun (σ3 : St) =>
      some σ3)
  else
    gd (inb (((4 : Int32) * v1) + v2) 24) (
    nm (sb σ 0 (((4 : Int32) * v1) + v2).toNatClampNeg v3) (fun (σ6 : St) =>
    some σ6))
set_option maxRecDepth 20000 in
set_option maxHeartbeats 4000000 in
theorem c_X7_put {l : Launch} {D : va_G} {a : Nat → Nat} {cA : Nat → ClassId} {σ : St} {v1 : Int32} {v2 : Int32} {v3 : Int64} {σ' : St} (h : X7_put v1 v2 v3 σ = some σ') : MetV l yX7_put cX7_put 5 none 0 D (tyW cA) (wM a cA) EM [.ref (a 0), .int v1, .int v2, .long v3] σ σ' := by
  refine mkV (by decide) (adrM a cA) rfl (Nat.le_of_ble_eq_true rfl) ?_
  intro p e R s m args below meth c A Q ls X hR hp hl
  obtain ⟨hx, hb, -, hown, hts, -⟩ := id X
  unfold X7_put at h
  have hl := lv_sub (l' := [(0, .ref (a 0)), (1, .int v1), (2, .int v2), (3, .long v3)]) hl [0, 1, 2, 3] rfl
  refine lv_iload_n hx hb dX7_put_0 rfl (lv_at hl 1 rfl) ?_
  refine lv_bipush (v := 6) hx hb dX7_put_1 (by decide) ?_
  refine lv_icmp_ge (tgt := 20) hx hb dX7_put_3 (by decide) (fun c1 => ?_) (fun c1 => ?_)
  · have h := it_p h c1
    refine lv_iload_n hx hb dX7_put_20 rfl (lv_at hl 1 rfl) ?_
    refine lv_bipush (v := 6) hx hb dX7_put_21 (by decide) ?_
    refine lv_icmp_ne (tgt := 34) hx hb dX7_put_23 (by decide) (fun c2 => ?_) (fun c2 => ?_)
    · have h := it_n h c2
      refine lv_aload_n hx hb dX7_put_34 rfl (lv_at hl 0 rfl) ?_
      refine lv_lload_n hx hb dX7_put_35 rfl (lv_at hl 3 rfl) ?_
      refine pM_X7_good X hp tw_6_18 dX7_put_36 (fun H locs σ3 eσ3 hp => ?_)
      have h := nm_s h σ3 eσ3
      exact hR _ _ _ _ _ dX7_put_39 hp (Option.some.inj h)
    · have h := it_p h c2
      refine lv_aload_n hx hb dX7_put_26 rfl (lv_at hl 0 rfl) ?_
      refine lv_lload_n hx hb dX7_put_27 rfl (lv_at hl 3 rfl) ?_
      refine pM_X7_init X hp tw_6_17 dX7_put_28 (fun H locs σ4 eσ4 hp => ?_)
      have h := nm_s h σ4 eσ4
      refine lv_goto (tgt := 39) hx hb dX7_put_31 (by decide) ?_
      exact hR _ _ _ _ _ dX7_put_39 hp (Option.some.inj h)
  · have h := it_n h c1
    refine lv_aload_n hx hb dX7_put_6 rfl (lv_at hl 0 rfl) ?_
    refine gM_X7_next X hp tw_5_17 dX7_put_7 ?_
    refine lv_iconst (v := 4) hx hb dX7_put_10 (by decide) ?_
    refine lv_iload_n hx hb dX7_put_11 rfl (lv_at hl 1 rfl) ?_
    refine lv_imul hx hb dX7_put_12 ?_
    refine lv_iload_n hx hb dX7_put_13 rfl (lv_at hl 2 rfl) ?_
    refine lv_iadd hx hb dX7_put_14 ?_
    refine lv_lload_n hx hb dX7_put_15 rfl (lv_at hl 3 rfl) ?_
    obtain ⟨g5, h⟩ := gd_s h
    refine sM_X7_next X hp g5 dX7_put_16 (fun H locs σ6 eσ6 hp => ?_)
    have h := nm_s h σ6 eσ6
    refine lv_goto (tgt := 39) hx hb dX7_put_17 (by decide) ?_
    exact hR _ _ _ _ _ dX7_put_39 hp (Option.some.inj h)
def X7_keep_87b (k87 : (Int32 → St → Option (St))) (k117 : (St → Option (St))) (v1 : Int32) (v2 : Int32) (σ : St) : Option (St) :=
  if (4 : Int32) ≤ v2 then
    k117 σ
  else
    bd (X7_was σ v1 v2) (fun t2 =>
    gd (inb (((4 : Int32) * (σ.1 4)) + v2) 40) (
    nm (sb σ 1 (((4 : Int32) * (σ.1 4)) + v2).toNatClampNeg t2) (fun (σ4 : St) =>
    nm (v2 + (1 : Int32)) (fun (x5 : Int32) =>
    k87 x5 σ4))))
def X7_keep_87 (k117 : (St → Option (St))) (v1 : Int32) : Nat → Int32 → St → Option (St)
  | 0, _, _ => none
  | n + 1, v2, σ => X7_keep_87b (fun v2 σ => X7_keep_87 k117 v1 n v2 σ) k117 v1 v2 σ
def X7_keep_117 (σ : St) : Option (St) :=
  nm (si σ 4 ((σ.1 4) + (1 : Int32))) (fun (σ1 : St) =>
  nm (si σ1 9 (0 : Int32)) (fun (σ2 : St) =>
  some σ2))
def X7_keep_75 (N : Nat) (v1 : Int32) (σ : St) : Option (St) :=
  gd (inb (σ.1 4) 10) (
  nm (sa σ 1 (σ.1 4).toNatClampNeg v1) (fun (σ2 : St) =>
  X7_keep_87 (fun σ => X7_keep_117 σ) v1 N (0 : Int32) σ2))
def X7_keep_11b (k11 : (Int32 → St → Option (St))) (k37 : (Int32 → St → Option (St))) (v1 : Int32) (v2 : Int32) (σ : St) : Option (St) :=
  if (10 : Int32) ≤ v2 then
    k37 v1 σ
  else
    gd (inb v2 10) (
    gd (inb (v2 - (1 : Int32)) 10) (
    nm (sa σ 1 (v2 - (1 : Int32)).toNatClampNeg (σ.2.2.1 1 v2.toNatClampNeg)) (fun (σ4 : St) =>
    nm (v2 + (1 : Int32)) (fun (x5 : Int32) =>
    k11 x5 σ4))))
def X7_keep_11 (k37 : (Int32 → St → Option (St))) (v1 : Int32) : Nat → Int32 → St → Option (St)
  | 0, _, _ => none
  | n + 1, v2, σ => X7_keep_11b (fun v2 σ => X7_keep_11 k37 v1 n v2 σ) k37 v1 v2 σ
def X7_keep_39b (k39 : (Int32 → St → Option (St))) (k65 : (Int32 → St → Option (St))) (v1 : Int32) (v2 : Int32) (σ : St) : Option (St) :=
  if (40 : Int32) ≤ v2 then
    k65 v1 σ
  else
    gd (inb v2 40) (
    gd (inb (v2 - (4 : Int32)) 40) (
    nm (sb σ 1 (v2 - (4 : Int32)).toNatClampNeg (σ.2.2.2 1 v2.toNatClampNeg)) (fun (σ4 : St) =>
    nm (v2 + (1 : Int32)) (fun (x5 : Int32) =>
    k39 x5 σ4))))
def X7_keep_39 (k65 : (Int32 → St → Option (St))) (v1 : Int32) : Nat → Int32 → St → Option (St)
  | 0, _, _ => none
  | n + 1, v2, σ => X7_keep_39b (fun v2 σ => X7_keep_39 k65 v1 n v2 σ) k65 v1 v2 σ
def X7_keep_65 (N : Nat) (v1 : Int32) (σ : St) : Option (St) :=
  nm (si σ 4 ((σ.1 4) - (1 : Int32))) (fun (σ1 : St) =>
  X7_keep_75 N v1 σ1)
def X7_keep_37 (N : Nat) (v1 : Int32) (σ : St) : Option (St) :=
  X7_keep_39 (fun v1 σ => X7_keep_65 N v1 σ) v1 N (4 : Int32) σ
def X7_keep (N : Nat) (v1 : Int32) (σ : St) : Option (St) :=
  if (σ.1 4) = (10 : Int32) then
    X7_keep_11 (fun v1 σ => X7_keep_37 N v1 σ) v1 N (1 : Int32) σ
  else
    X7_keep_75 N v1 σ
set_option maxRecDepth 20000 in
set_option maxHeartbeats 4000000 in
theorem c_X7_keep {l : Launch} {D : va_G} {a : Nat → Nat} {cA : Nat → ClassId} {σ : St} {N : Nat} {v1 : Int32} {σ' : St} (h : X7_keep N v1 σ = some σ') : MetV l yX7_keep cX7_keep 3 none 1 D (tyW cA) (wM a cA) EM [.ref (a 0), .int v1] σ σ' := by
  refine mkV (by decide) (adrM a cA) rfl (Nat.le_of_ble_eq_true rfl) ?_
  intro p e R s m args below meth c A Q ls X hR hp hl
  obtain ⟨hx, hb, -, hown, hts, -⟩ := id X
  have J_87 : ∀ (v1 : Int32) (k117 : (St → Option (St))) (hk117 : ∀ (σ : St) (H : Heap) (locs : List Loc) (ls : Array Slot), Pw D (wM a cA) A s.heap H locs σ → lv_has ls 3 [(0, .ref (a 0))] → k117 σ = some σ' → W p l e R s m args below meth c H locs 0 0 Q (F0 m 117 ls [])) (n : Nat) (v2 : Int32) (σ : St) (H : Heap) (locs : List Loc) (ls : Array Slot), Pw D (wM a cA) A s.heap H locs σ → lv_has ls 3 [(0, .ref (a 0)), (1, .int v1), (2, .int v2)] → X7_keep_87 k117 v1 n v2 σ = some σ' → W p l e R s m args below meth c H locs 0 0 Q (F0 m 87 ls []) := by
    intro v1 k117 hk117 n
    induction n with
    | zero => intro v2 σ H locs ls hp hl h; exact nn_s (show (none : Option (St)) = some _ from h)
    | succ n ih =>
      intro v2 σ H locs ls hp hl h
      have h : X7_keep_87b (fun v2 σ => X7_keep_87 k117 v1 n v2 σ) k117 v1 v2 σ = some σ' := h
      unfold X7_keep_87b at h
      have hk87 := ih
      refine lv_iload_n hx hb dX7_keep_87 rfl (lv_at hl 2 rfl) ?_
      refine lv_iconst (v := 4) hx hb dX7_keep_88 (by decide) ?_
      refine lv_icmp_ge (tgt := 117) hx hb dX7_keep_89 (by decide) (fun c1 => ?_) (fun c1 => ?_)
      · have h := it_p h c1
        exact hk117 σ _ _ _ hp (lv_sub hl [0] rfl) h
      · have h := it_n h c1
        refine lv_aload_n hx hb dX7_keep_92 rfl (lv_at hl 0 rfl) ?_
        refine gM_X7_keptWas X hp tw_5_20 dX7_keep_93 ?_
        refine lv_iconst (v := 4) hx hb dX7_keep_96 (by decide) ?_
        refine lv_aload_n hx hb dX7_keep_97 rfl (lv_at hl 0 rfl) ?_
        refine gM_X7_kept X hp tw_6_19 dX7_keep_98 ?_
        refine lv_imul hx hb dX7_keep_101 ?_
        refine lv_iload_n hx hb dX7_keep_102 rfl (lv_at hl 2 rfl) ?_
        refine lv_iadd hx hb dX7_keep_103 ?_
        refine lv_aload_n hx hb dX7_keep_104 rfl (lv_at hl 0 rfl) ?_
        refine lv_iload_n hx hb dX7_keep_105 rfl (lv_at hl 1 rfl) ?_
        refine lv_iload_n hx hb dX7_keep_106 rfl (lv_at hl 2 rfl) ?_
        obtain ⟨t2, ht2, h⟩ := bd_s h
        refine cl_Vl X eokM (c_X7_was ht2) tw_17_16 mw_X7_was (by decide) hp 0 rfl rfl rfl hl.1 rfl (Nat.le_of_ble_eq_true rfl) dX7_keep_107 (fun H locs hp => ?_)
        obtain ⟨g3, h⟩ := gd_s h
        refine sM_X7_keptWas X hp g3 dX7_keep_110 (fun H locs σ4 eσ4 hp => ?_)
        have h := nm_s h σ4 eσ4
        obtain ⟨x5, ex5⟩ : ∃ z : Int32, z = v2 + (1 : Int32) := ⟨_, rfl⟩
        have h := nm_s h x5 ex5
        refine lv_iinc (v := x5) (lv' := [(2, .int x5), (0, .ref (a 0)), (1, .int v1)]) hx hb dX7_keep_111 hl (k := 2) rfl (by rw [ex5]; rfl) (by decide) rfl (fun ls hl => ?_)
        refine lv_goto (tgt := 87) hx hb dX7_keep_114 (by decide) ?_
        exact hk87 x5 σ4 _ _ _ hp (lv_sub hl [1, 2, 0] rfl) h
  have J_117 : ∀  (σ : St) (H : Heap) (locs : List Loc) (ls : Array Slot), Pw D (wM a cA) A s.heap H locs σ → lv_has ls 3 [(0, .ref (a 0))] → X7_keep_117 σ = some σ' → W p l e R s m args below meth c H locs 0 0 Q (F0 m 117 ls []) := by
    intro σ H locs ls hp hl h
    unfold X7_keep_117 at h
    refine lv_aload_n hx hb dX7_keep_117 rfl (lv_at hl 0 rfl) ?_
    refine lv_dup hx hb dX7_keep_118 rfl ?_
    refine gM_X7_kept X hp tw_6_19 dX7_keep_119 ?_
    refine lv_iconst (v := 1) hx hb dX7_keep_122 (by decide) ?_
    refine lv_iadd hx hb dX7_keep_123 ?_
    refine pM_X7_kept X hp tw_6_19 dX7_keep_124 (fun H locs σ1 eσ1 hp => ?_)
    have h := nm_s h σ1 eσ1
    refine lv_aload_n hx hb dX7_keep_127 rfl (lv_at hl 0 rfl) ?_
    refine lv_iconst (v := 0) hx hb dX7_keep_128 (by decide) ?_
    refine pM_X7_isProof X hp tw_6_20 (Or.inl rfl) dX7_keep_129 (fun H locs σ2 eσ2 hp => ?_)
    have h := nm_s h σ2 eσ2
    exact hR _ _ _ _ _ dX7_keep_132 hp (Option.some.inj h)
  have J_75 : ∀ (v1 : Int32) (σ : St) (H : Heap) (locs : List Loc) (ls : Array Slot), Pw D (wM a cA) A s.heap H locs σ → lv_has ls 3 [(0, .ref (a 0)), (1, .int v1)] → X7_keep_75 N v1 σ = some σ' → W p l e R s m args below meth c H locs 0 0 Q (F0 m 75 ls []) := by
    intro v1 σ H locs ls hp hl h
    unfold X7_keep_75 at h
    refine lv_aload_n hx hb dX7_keep_75 rfl (lv_at hl 0 rfl) ?_
    refine gM_X7_keptOf X hp tw_5_19 dX7_keep_76 ?_
    refine lv_aload_n hx hb dX7_keep_79 rfl (lv_at hl 0 rfl) ?_
    refine gM_X7_kept X hp tw_6_19 dX7_keep_80 ?_
    refine lv_iload_n hx hb dX7_keep_83 rfl (lv_at hl 1 rfl) ?_
    obtain ⟨g1, h⟩ := gd_s h
    refine sM_X7_keptOf X hp g1 dX7_keep_84 (fun H locs σ2 eσ2 hp => ?_)
    have h := nm_s h σ2 eσ2
    refine lv_iconst (v := 0) hx hb dX7_keep_85 (by decide) ?_
    refine lv_istore_n (lv' := [(2, .int (0 : Int32)), (0, .ref (a 0)), (1, .int v1)]) hx hb dX7_keep_86 rfl hl (by decide) rfl (fun ls hl => ?_)
    exact J_87 v1 _ (fun σ H locs ls hp hl h => J_117 σ _ _ _ hp hl h) _ (0 : Int32) σ2 _ _ _ hp (lv_sub hl [1, 2, 0] rfl) h
  have J_11 : ∀ (v1 : Int32) (k37 : (Int32 → St → Option (St))) (hk37 : ∀ (v1 : Int32) (σ : St) (H : Heap) (locs : List Loc) (ls : Array Slot), Pw D (wM a cA) A s.heap H locs σ → lv_has ls 3 [(0, .ref (a 0)), (1, .int v1)] → k37 v1 σ = some σ' → W p l e R s m args below meth c H locs 0 0 Q (F0 m 37 ls [])) (n : Nat) (v2 : Int32) (σ : St) (H : Heap) (locs : List Loc) (ls : Array Slot), Pw D (wM a cA) A s.heap H locs σ → lv_has ls 3 [(0, .ref (a 0)), (1, .int v1), (2, .int v2)] → X7_keep_11 k37 v1 n v2 σ = some σ' → W p l e R s m args below meth c H locs 0 0 Q (F0 m 11 ls []) := by
    intro v1 k37 hk37 n
    induction n with
    | zero => intro v2 σ H locs ls hp hl h; exact nn_s (show (none : Option (St)) = some _ from h)
    | succ n ih =>
      intro v2 σ H locs ls hp hl h
      have h : X7_keep_11b (fun v2 σ => X7_keep_11 k37 v1 n v2 σ) k37 v1 v2 σ = some σ' := h
      unfold X7_keep_11b at h
      have hk11 := ih
      refine lv_iload_n hx hb dX7_keep_11 rfl (lv_at hl 2 rfl) ?_
      refine lv_bipush (v := 10) hx hb dX7_keep_12 (by decide) ?_
      refine lv_icmp_ge (tgt := 37) hx hb dX7_keep_14 (by decide) (fun c1 => ?_) (fun c1 => ?_)
      · have h := it_p h c1
        exact hk37 v1 σ _ _ _ hp (lv_sub hl [0, 1] rfl) h
      · have h := it_n h c1
        refine lv_aload_n hx hb dX7_keep_17 rfl (lv_at hl 0 rfl) ?_
        refine gM_X7_keptOf X hp tw_5_19 dX7_keep_18 ?_
        refine lv_iload_n hx hb dX7_keep_21 rfl (lv_at hl 2 rfl) ?_
        refine lv_iconst (v := 1) hx hb dX7_keep_22 (by decide) ?_
        refine lv_isub hx hb dX7_keep_23 ?_
        refine lv_aload_n hx hb dX7_keep_24 rfl (lv_at hl 0 rfl) ?_
        refine gM_X7_keptOf X hp tw_5_19 dX7_keep_25 ?_
        refine lv_iload_n hx hb dX7_keep_28 rfl (lv_at hl 2 rfl) ?_
        obtain ⟨g2, h⟩ := gd_s h
        refine lM_X7_keptOf X hp g2 dX7_keep_29 ?_
        obtain ⟨g3, h⟩ := gd_s h
        refine sM_X7_keptOf X hp g3 dX7_keep_30 (fun H locs σ4 eσ4 hp => ?_)
        have h := nm_s h σ4 eσ4
        obtain ⟨x5, ex5⟩ : ∃ z : Int32, z = v2 + (1 : Int32) := ⟨_, rfl⟩
        have h := nm_s h x5 ex5
        refine lv_iinc (v := x5) (lv' := [(2, .int x5), (0, .ref (a 0)), (1, .int v1)]) hx hb dX7_keep_31 hl (k := 2) rfl (by rw [ex5]; rfl) (by decide) rfl (fun ls hl => ?_)
        refine lv_goto (tgt := 11) hx hb dX7_keep_34 (by decide) ?_
        exact hk11 x5 σ4 _ _ _ hp (lv_sub hl [1, 2, 0] rfl) h
  have J_39 : ∀ (v1 : Int32) (k65 : (Int32 → St → Option (St))) (hk65 : ∀ (v1 : Int32) (σ : St) (H : Heap) (locs : List Loc) (ls : Array Slot), Pw D (wM a cA) A s.heap H locs σ → lv_has ls 3 [(0, .ref (a 0)), (1, .int v1)] → k65 v1 σ = some σ' → W p l e R s m args below meth c H locs 0 0 Q (F0 m 65 ls [])) (n : Nat) (v2 : Int32) (σ : St) (H : Heap) (locs : List Loc) (ls : Array Slot), Pw D (wM a cA) A s.heap H locs σ → lv_has ls 3 [(0, .ref (a 0)), (1, .int v1), (2, .int v2)] → X7_keep_39 k65 v1 n v2 σ = some σ' → W p l e R s m args below meth c H locs 0 0 Q (F0 m 39 ls []) := by
    intro v1 k65 hk65 n
    induction n with
    | zero => intro v2 σ H locs ls hp hl h; exact nn_s (show (none : Option (St)) = some _ from h)
    | succ n ih =>
      intro v2 σ H locs ls hp hl h
      have h : X7_keep_39b (fun v2 σ => X7_keep_39 k65 v1 n v2 σ) k65 v1 v2 σ = some σ' := h
      unfold X7_keep_39b at h
      have hk39 := ih
      refine lv_iload_n hx hb dX7_keep_39 rfl (lv_at hl 2 rfl) ?_
      refine lv_bipush (v := 40) hx hb dX7_keep_40 (by decide) ?_
      refine lv_icmp_ge (tgt := 65) hx hb dX7_keep_42 (by decide) (fun c1 => ?_) (fun c1 => ?_)
      · have h := it_p h c1
        exact hk65 v1 σ _ _ _ hp (lv_sub hl [0, 1] rfl) h
      · have h := it_n h c1
        refine lv_aload_n hx hb dX7_keep_45 rfl (lv_at hl 0 rfl) ?_
        refine gM_X7_keptWas X hp tw_5_20 dX7_keep_46 ?_
        refine lv_iload_n hx hb dX7_keep_49 rfl (lv_at hl 2 rfl) ?_
        refine lv_iconst (v := 4) hx hb dX7_keep_50 (by decide) ?_
        refine lv_isub hx hb dX7_keep_51 ?_
        refine lv_aload_n hx hb dX7_keep_52 rfl (lv_at hl 0 rfl) ?_
        refine gM_X7_keptWas X hp tw_5_20 dX7_keep_53 ?_
        refine lv_iload_n hx hb dX7_keep_56 rfl (lv_at hl 2 rfl) ?_
        obtain ⟨g2, h⟩ := gd_s h
        refine lM_X7_keptWas X hp g2 dX7_keep_57 ?_
        obtain ⟨g3, h⟩ := gd_s h
        refine sM_X7_keptWas X hp g3 dX7_keep_58 (fun H locs σ4 eσ4 hp => ?_)
        have h := nm_s h σ4 eσ4
        obtain ⟨x5, ex5⟩ : ∃ z : Int32, z = v2 + (1 : Int32) := ⟨_, rfl⟩
        have h := nm_s h x5 ex5
        refine lv_iinc (v := x5) (lv' := [(2, .int x5), (0, .ref (a 0)), (1, .int v1)]) hx hb dX7_keep_59 hl (k := 2) rfl (by rw [ex5]; rfl) (by decide) rfl (fun ls hl => ?_)
        refine lv_goto (tgt := 39) hx hb dX7_keep_62 (by decide) ?_
        exact hk39 x5 σ4 _ _ _ hp (lv_sub hl [1, 2, 0] rfl) h
  have J_65 : ∀ (v1 : Int32) (σ : St) (H : Heap) (locs : List Loc) (ls : Array Slot), Pw D (wM a cA) A s.heap H locs σ → lv_has ls 3 [(0, .ref (a 0)), (1, .int v1)] → X7_keep_65 N v1 σ = some σ' → W p l e R s m args below meth c H locs 0 0 Q (F0 m 65 ls []) := by
    intro v1 σ H locs ls hp hl h
    unfold X7_keep_65 at h
    refine lv_aload_n hx hb dX7_keep_65 rfl (lv_at hl 0 rfl) ?_
    refine lv_dup hx hb dX7_keep_66 rfl ?_
    refine gM_X7_kept X hp tw_6_19 dX7_keep_67 ?_
    refine lv_iconst (v := 1) hx hb dX7_keep_70 (by decide) ?_
    refine lv_isub hx hb dX7_keep_71 ?_
    refine pM_X7_kept X hp tw_6_19 dX7_keep_72 (fun H locs σ1 eσ1 hp => ?_)
    have h := nm_s h σ1 eσ1
    exact J_75 v1 σ1 _ _ _ hp (lv_sub hl [0, 1] rfl) h
  have J_37 : ∀ (v1 : Int32) (σ : St) (H : Heap) (locs : List Loc) (ls : Array Slot), Pw D (wM a cA) A s.heap H locs σ → lv_has ls 3 [(0, .ref (a 0)), (1, .int v1)] → X7_keep_37 N v1 σ = some σ' → W p l e R s m args below meth c H locs 0 0 Q (F0 m 37 ls []) := by
    intro v1 σ H locs ls hp hl h
    unfold X7_keep_37 at h
    refine lv_iconst (v := 4) hx hb dX7_keep_37 (by decide) ?_
    refine lv_istore_n (lv' := [(2, .int (4 : Int32)), (0, .ref (a 0)), (1, .int v1)]) hx hb dX7_keep_38 rfl hl (by decide) rfl (fun ls hl => ?_)
    exact J_39 v1 _ (fun v1 σ H locs ls hp hl h => J_65 v1 σ _ _ _ hp hl h) _ (4 : Int32) σ _ _ _ hp (lv_sub hl [1, 2, 0] rfl) h
  unfold X7_keep at h
  have hl := lv_sub (l' := [(0, .ref (a 0)), (1, .int v1)]) hl [0, 1] rfl
  refine lv_aload_n hx hb dX7_keep_0 rfl (lv_at hl 0 rfl) ?_
  refine gM_X7_kept X hp tw_6_19 dX7_keep_1 ?_
  refine lv_bipush (v := 10) hx hb dX7_keep_4 (by decide) ?_
  refine lv_icmp_ne (tgt := 75) hx hb dX7_keep_6 (by decide) (fun c1 => ?_) (fun c1 => ?_)
  · have h := it_n h c1
    exact J_75 v1 σ _ _ _ hp (lv_sub hl [0, 1] rfl) h
  · have h := it_p h c1
    refine lv_iconst (v := 1) hx hb dX7_keep_9 (by decide) ?_
    refine lv_istore_n (lv' := [(2, .int (1 : Int32)), (0, .ref (a 0)), (1, .int v1)]) hx hb dX7_keep_10 rfl hl (by decide) rfl (fun ls hl => ?_)
    exact J_11 v1 _ (fun v1 σ H locs ls hp hl h => J_37 v1 σ _ _ _ hp hl h) _ (1 : Int32) σ _ _ _ hp (lv_sub hl [1, 2, 0] rfl) h
def X7_become_47 (k13 : (Int32 → Int32 → St → Option (Int32 × St))) (v1 : Int32) (v3 : Int32) (u0 : Int32) (u1 : Int32) (σ : St) : Option (Int32 × St) :=
  nm (u1 + u0) (fun (x1 : Int32) =>
  gd (inb v3 256) (
  bd (X7_put v1 v3 (σ.2.2.2 2 v3.toNatClampNeg) σ) (fun t3 =>
  nm (v3 + (1 : Int32)) (fun (x4 : Int32) =>
  k13 x1 x4 t3))))
def X7_become_13b (N : Nat) (k13 : (Int32 → Int32 → St → Option (Int32 × St))) (k67 : (Int32 → St → Option (Int32 × St))) (v1 : Int32) (v2 : Int32) (v3 : Int32) (σ : St) : Option (Int32 × St) :=
  if (4 : Int32) ≤ v3 then
    k67 v2 σ
  else
    bd (X7_values σ) (fun t2 =>
    if t2 ≤ v3 then
      X7_become_47 k13 v1 v3 (0 : Int32) v2 σ
    else
      bd (X7_was σ v1 v3) (fun t4 =>
      gd (inb v3 256) (
      bd (X7_size N (t4 ^^^ (σ.2.2.2 2 v3.toNatClampNeg))) (fun t6 =>
      X7_become_47 k13 v1 v3 t6 v2 σ))))
def X7_become_13 (N : Nat) (k67 : (Int32 → St → Option (Int32 × St))) (v1 : Int32) : Nat → Int32 → Int32 → St → Option (Int32 × St)
  | 0, _, _, _ => none
  | n + 1, v2, v3, σ => X7_become_13b N (fun v2 v3 σ => X7_become_13 N k67 v1 n v2 v3 σ) k67 v1 v2 v3 σ
def X7_become_67 (v2 : Int32) (σ : St) : Option (Int32 × St) :=
  nm (si σ 3 (0 : Int32)) (fun (σ1 : St) =>
  some (v2, σ1))
def X7_become (N : Nat) (v1 : Int32) (σ : St) : Option (Int32 × St) :=
  bd (X7_evaluate N σ) (fun t1 =>
  bd (X7_keep N v1 t1) (fun t2 =>
  X7_become_13 N (fun v2 σ => X7_become_67 v2 σ) v1 N (0 : Int32) (0 : Int32) t2))
set_option maxRecDepth 20000 in
set_option maxHeartbeats 4000000 in
theorem c_X7_become {l : Launch} {D : va_G} {a : Nat → Nat} {cA : Nat → ClassId} {σ : St} {N : Nat} {v1 : Int32} {r : Int32} {σ' : St} (h : X7_become N v1 σ = some (r, σ')) : MetI l yX7_become cX7_become 4 (some .int) 5 D (tyW cA) (wM a cA) EM [.ref (a 0), .int v1] σ r σ' := by
  refine mkI (by decide) (adrM a cA) (Or.inl rfl) (Nat.le_of_ble_eq_true rfl) ?_
  intro p e R s m args below meth c A Q ls X hR hp hl
  obtain ⟨hx, hb, -, hown, hts, -⟩ := id X
  have J_47 : ∀ (v1 : Int32) (v3 : Int32) (u0 : Int32) (u1 : Int32) (k13 : (Int32 → Int32 → St → Option (Int32 × St))) (hk13 : ∀ (v2 : Int32) (v3 : Int32) (σ : St) (H : Heap) (locs : List Loc) (ls : Array Slot), Pw D (wM a cA) A s.heap H locs σ → lv_has ls 4 [(0, .ref (a 0)), (1, .int v1), (2, .int v2), (3, .int v3)] → k13 v2 v3 σ = some (r, σ') → W p l e R s m args below meth c H locs 0 0 Q (F0 m 13 ls [])) (σ : St) (H : Heap) (locs : List Loc) (ls : Array Slot), Pw D (wM a cA) A s.heap H locs σ → lv_has ls 4 [(0, .ref (a 0)), (1, .int v1), (3, .int v3)] → X7_become_47 k13 v1 v3 u0 u1 σ = some (r, σ') → W p l e R s m args below meth c H locs 0 0 Q (F0 m 47 ls [.int u0, .int u1]) := by
    intro v1 v3 u0 u1 k13 hk13 σ H locs ls hp hl h
    unfold X7_become_47 at h
    refine lv_iadd hx hb dX7_become_47 ?_
    refine lv_topi (fun x1 ex1 => ?_)
    have h := nm_s h x1 ex1
    refine lv_istore_n (lv' := [(2, .int x1), (0, .ref (a 0)), (1, .int v1), (3, .int v3)]) hx hb dX7_become_48 rfl hl (by decide) rfl (fun ls hl => ?_)
    refine lv_aload_n hx hb dX7_become_49 rfl (lv_at hl 1 rfl) ?_
    refine lv_iload_n hx hb dX7_become_50 rfl (lv_at hl 2 rfl) ?_
    refine lv_iload_n hx hb dX7_become_51 rfl (lv_at hl 3 rfl) ?_
    refine lv_aload_n hx hb dX7_become_52 rfl (lv_at hl 1 rfl) ?_
    refine gM_X7_operands X hp tw_5_21 dX7_become_53 ?_
    refine lv_iload_n hx hb dX7_become_56 rfl (lv_at hl 3 rfl) ?_
    obtain ⟨g2, h⟩ := gd_s h
    refine lM_X7_operands X hp g2 dX7_become_57 ?_
    obtain ⟨t3, ht3, h⟩ := bd_s h
    refine cl_Vv X eokM (c_X7_put ht3) tw_18_6 mw_X7_put (by decide) hp 0 rfl rfl rfl hl.1 rfl (Nat.le_of_ble_eq_true rfl) dX7_become_58 (fun H locs hp => ?_)
    obtain ⟨x4, ex4⟩ : ∃ z : Int32, z = v3 + (1 : Int32) := ⟨_, rfl⟩
    have h := nm_s h x4 ex4
    refine lv_iinc (v := x4) (lv' := [(3, .int x4), (2, .int x1), (0, .ref (a 0)), (1, .int v1)]) hx hb dX7_become_61 hl (k := 3) rfl (by rw [ex4]; rfl) (by decide) rfl (fun ls hl => ?_)
    refine lv_goto (tgt := 13) hx hb dX7_become_64 (by decide) ?_
    exact hk13 x1 x4 t3 _ _ _ hp (lv_sub hl [2, 3, 1, 0] rfl) h
  have J_13 : ∀ (v1 : Int32) (k67 : (Int32 → St → Option (Int32 × St))) (hk67 : ∀ (v2 : Int32) (σ : St) (H : Heap) (locs : List Loc) (ls : Array Slot), Pw D (wM a cA) A s.heap H locs σ → lv_has ls 4 [(0, .ref (a 0)), (2, .int v2)] → k67 v2 σ = some (r, σ') → W p l e R s m args below meth c H locs 0 0 Q (F0 m 67 ls [])) (n : Nat) (v2 : Int32) (v3 : Int32) (σ : St) (H : Heap) (locs : List Loc) (ls : Array Slot), Pw D (wM a cA) A s.heap H locs σ → lv_has ls 4 [(0, .ref (a 0)), (1, .int v1), (2, .int v2), (3, .int v3)] → X7_become_13 N k67 v1 n v2 v3 σ = some (r, σ') → W p l e R s m args below meth c H locs 0 0 Q (F0 m 13 ls []) := by
    intro v1 k67 hk67 n
    induction n with
    | zero => intro v2 v3 σ H locs ls hp hl h; exact nn_s (show (none : Option (Int32 × St)) = some _ from h)
    | succ n ih =>
      intro v2 v3 σ H locs ls hp hl h
      have h : X7_become_13b N (fun v2 v3 σ => X7_become_13 N k67 v1 n v2 v3 σ) k67 v1 v2 v3 σ = some (r, σ') := h
      unfold X7_become_13b at h
      have hk13 := ih
      refine lv_iload_n hx hb dX7_become_13 rfl (lv_at hl 3 rfl) ?_
      refine lv_iconst (v := 4) hx hb dX7_become_14 (by decide) ?_
      refine lv_icmp_ge (tgt := 67) hx hb dX7_become_15 (by decide) (fun c1 => ?_) (fun c1 => ?_)
      · have h := it_p h c1
        exact hk67 v2 σ _ _ _ hp (lv_sub hl [0, 2] rfl) h
      · have h := it_n h c1
        refine lv_iload_n hx hb dX7_become_18 rfl (lv_at hl 2 rfl) ?_
        refine lv_iload_n hx hb dX7_become_19 rfl (lv_at hl 3 rfl) ?_
        refine lv_aload_n hx hb dX7_become_20 rfl (lv_at hl 0 rfl) ?_
        obtain ⟨t2, ht2, h⟩ := bd_s h
        refine cl_Vi X eokM (c_X7_values ht2) tw_17_20 mw_X7_values (by decide) hp 0 rfl rfl rfl hl.1 rfl (Nat.le_of_ble_eq_true rfl) dX7_become_21 (fun H locs hp => ?_)
        refine lv_icmp_ge (tgt := 46) hx hb dX7_become_24 (by decide) (fun c3 => ?_) (fun c3 => ?_)
        · have h := it_p h c3
          refine lv_iconst (v := 0) hx hb dX7_become_46 (by decide) ?_
          exact J_47 v1 v3 (0 : Int32) v2 _ hk13 σ _ _ _ hp (lv_sub hl [0, 1, 3] rfl) h
        · have h := it_n h c3
          refine lv_aload_n hx hb dX7_become_27 rfl (lv_at hl 0 rfl) ?_
          refine lv_iload_n hx hb dX7_become_28 rfl (lv_at hl 1 rfl) ?_
          refine lv_iload_n hx hb dX7_become_29 rfl (lv_at hl 3 rfl) ?_
          obtain ⟨t4, ht4, h⟩ := bd_s h
          refine cl_Vl X eokM (c_X7_was ht4) tw_17_16 mw_X7_was (by decide) hp 0 rfl rfl rfl hl.1 rfl (Nat.le_of_ble_eq_true rfl) dX7_become_30 (fun H locs hp => ?_)
          refine lv_aload_n hx hb dX7_become_33 rfl (lv_at hl 0 rfl) ?_
          refine gM_X7_operands X hp tw_5_21 dX7_become_34 ?_
          refine lv_iload_n hx hb dX7_become_37 rfl (lv_at hl 3 rfl) ?_
          obtain ⟨g5, h⟩ := gd_s h
          refine lM_X7_operands X hp g5 dX7_become_38 ?_
          refine lv_lxor hx hb dX7_become_39 ?_
          obtain ⟨t6, ht6, h⟩ := bd_s h
          refine cl_Si X eokM (c_X7_size (adrM a cA) eokM ht6) tw_18_0 mw_X7_size (by decide) hp hl.1 rfl (Nat.le_of_ble_eq_true rfl) dX7_become_40 (fun H locs hp => ?_)
          refine lv_goto (tgt := 47) hx hb dX7_become_43 (by decide) ?_
          exact J_47 v1 v3 t6 v2 _ hk13 σ _ _ _ hp (lv_sub hl [0, 1, 3] rfl) h
  have J_67 : ∀ (v2 : Int32) (σ : St) (H : Heap) (locs : List Loc) (ls : Array Slot), Pw D (wM a cA) A s.heap H locs σ → lv_has ls 4 [(0, .ref (a 0)), (2, .int v2)] → X7_become_67 v2 σ = some (r, σ') → W p l e R s m args below meth c H locs 0 0 Q (F0 m 67 ls []) := by
    intro v2 σ H locs ls hp hl h
    unfold X7_become_67 at h
    refine lv_aload_n hx hb dX7_become_67 rfl (lv_at hl 0 rfl) ?_
    refine lv_iconst (v := 0) hx hb dX7_become_68 (by decide) ?_
    refine pM_X7_length X hp tw_9_17 dX7_become_69 (fun H locs σ1 eσ1 hp => ?_)
    have h := nm_s h σ1 eσ1
    refine lv_iload_n hx hb dX7_become_72 rfl (lv_at hl 1 rfl) ?_
    exact hR _ _ _ _ _ _ dX7_become_73 hp (congrArg Prod.fst (Option.some.inj h)) (congrArg Prod.snd (Option.some.inj h)) (fun q => by cases q)
  unfold X7_become at h
  have hl := lv_sub (l' := [(0, .ref (a 0)), (1, .int v1)]) hl [0, 1] rfl
  refine lv_aload_n hx hb dX7_become_0 rfl (lv_at hl 0 rfl) ?_
  obtain ⟨t1, ht1, h⟩ := bd_s h
  refine cl_Vv X eokM (c_X7_evaluate ht1) tw_16_4 mw_X7_evaluate (by decide) hp 0 rfl rfl rfl hl.1 rfl (Nat.le_of_ble_eq_true rfl) dX7_become_1 (fun H locs hp => ?_)
  refine lv_aload_n hx hb dX7_become_4 rfl (lv_at hl 0 rfl) ?_
  refine lv_iload_n hx hb dX7_become_5 rfl (lv_at hl 1 rfl) ?_
  obtain ⟨t2, ht2, h⟩ := bd_s h
  refine cl_Vv X eokM (c_X7_keep ht2) tw_17_12 mw_X7_keep (by decide) hp 0 rfl rfl rfl hl.1 rfl (Nat.le_of_ble_eq_true rfl) dX7_become_6 (fun H locs hp => ?_)
  refine lv_iconst (v := 0) hx hb dX7_become_9 (by decide) ?_
  refine lv_istore_n (lv' := [(2, .int (0 : Int32)), (0, .ref (a 0)), (1, .int v1)]) hx hb dX7_become_10 rfl hl (by decide) rfl (fun ls hl => ?_)
  refine lv_iconst (v := 0) hx hb dX7_become_11 (by decide) ?_
  refine lv_istore_n (lv' := [(3, .int (0 : Int32)), (2, .int (0 : Int32)), (0, .ref (a 0)), (1, .int v1)]) hx hb dX7_become_12 rfl hl (by decide) rfl (fun ls hl => ?_)
  exact J_13 v1 _ (fun v2 σ H locs ls hp hl h => J_67 v2 σ _ _ _ hp hl h) _ (0 : Int32) (0 : Int32) t2 _ _ _ hp (lv_sub hl [2, 3, 1, 0] rfl) h
def X7_setNext_31 (N : Nat) (v1 : Int32) (u0 : Int32) (σ : St) : Option (Int32 × St) :=
  nm (si σ 0 u0) (fun (σ1 : St) =>
  if (σ1.1 0) ≤ 0 then
    bd (X7_become N v1 σ1) (fun t3 =>
    some (t3.1, t3.2))
  else
    some ((0 : Int32), σ1))
def X7_setNext (N : Nat) (v1 : Int32) (σ : St) : Option (Int32 × St) :=
  bd (X7_within v1 (0 : Int32) ((σ.1 1) - (1 : Int32))) (fun t1 =>
  if t1 = 0 then
    X7_setNext_31 N v1 (1 : Int32) σ
  else
    bd (X7_isFormula N σ) (fun t3 =>
    if t3.1 = 0 then
      X7_setNext_31 N v1 (2 : Int32) t3.2
    else
      X7_setNext_31 N v1 (0 : Int32) t3.2))
set_option maxRecDepth 20000 in
set_option maxHeartbeats 4000000 in
theorem c_X7_setNext {l : Launch} {D : va_G} {a : Nat → Nat} {cA : Nat → ClassId} {σ : St} {N : Nat} {v1 : Int32} {r : Int32} {σ' : St} (h : X7_setNext N v1 σ = some (r, σ')) : MetI l yX7_setNext cX7_setNext 2 (some .int) 6 D (tyW cA) (wM a cA) EM [.ref (a 0), .int v1] σ r σ' := by
  refine mkI (by decide) (adrM a cA) (Or.inl rfl) (Nat.le_of_ble_eq_true rfl) ?_
  intro p e R s m args below meth c A Q ls X hR hp hl
  obtain ⟨hx, hb, -, hown, hts, -⟩ := id X
  have J_31 : ∀ (v1 : Int32) (u0 : Int32) (σ : St) (H : Heap) (locs : List Loc) (ls : Array Slot), Pw D (wM a cA) A s.heap H locs σ → lv_has ls 2 [(0, .ref (a 0)), (1, .int v1)] → X7_setNext_31 N v1 u0 σ = some (r, σ') → W p l e R s m args below meth c H locs 0 0 Q (F0 m 31 ls [.int u0, .ref (a 0)]) := by
    intro v1 u0 σ H locs ls hp hl h
    unfold X7_setNext_31 at h
    refine pM_X7_thrown X hp tw_8_9 dX7_setNext_31 (fun H locs σ1 eσ1 hp => ?_)
    have h := nm_s h σ1 eσ1
    refine lv_aload_n hx hb dX7_setNext_34 rfl (lv_at hl 0 rfl) ?_
    refine gM_X7_thrown X hp tw_8_9 dX7_setNext_35 ?_
    refine lv_if_le (tgt := 45) hx hb dX7_setNext_38 (by decide) (fun c2 => ?_) (fun c2 => ?_)
    · have h := it_p h c2
      refine lv_aload_n hx hb dX7_setNext_45 rfl (lv_at hl 0 rfl) ?_
      refine lv_iload_n hx hb dX7_setNext_46 rfl (lv_at hl 1 rfl) ?_
      obtain ⟨t3, ht3, h⟩ := bd_s h
      refine cl_Vi X eokM (c_X7_become ht3) tw_16_0 mw_X7_become (by decide) hp 0 rfl rfl rfl hl.1 rfl (Nat.le_of_ble_eq_true rfl) dX7_setNext_47 (fun H locs hp => ?_)
      exact hR _ _ _ _ _ _ dX7_setNext_50 hp (congrArg Prod.fst (Option.some.inj h)) (congrArg Prod.snd (Option.some.inj h)) (fun q => by cases q)
    · have h := it_n h c2
      refine lv_iconst (v := 0) hx hb dX7_setNext_41 (by decide) ?_
      refine lv_goto (tgt := 50) hx hb dX7_setNext_42 (by decide) ?_
      exact hR _ _ _ _ _ _ dX7_setNext_50 hp (congrArg Prod.fst (Option.some.inj h)) (congrArg Prod.snd (Option.some.inj h)) (fun q => by cases q)
  unfold X7_setNext at h
  have hl := lv_sub (l' := [(0, .ref (a 0)), (1, .int v1)]) hl [0, 1] rfl
  refine lv_aload_n hx hb dX7_setNext_0 rfl (lv_at hl 0 rfl) ?_
  refine lv_iload_n hx hb dX7_setNext_1 rfl (lv_at hl 1 rfl) ?_
  refine lv_iconst (v := 0) hx hb dX7_setNext_2 (by decide) ?_
  refine lv_aload_n hx hb dX7_setNext_3 rfl (lv_at hl 0 rfl) ?_
  refine gM_X7_bits X hp tw_6_15 dX7_setNext_4 ?_
  refine lv_iconst (v := 1) hx hb dX7_setNext_7 (by decide) ?_
  refine lv_isub hx hb dX7_setNext_8 ?_
  obtain ⟨t1, ht1, h⟩ := bd_s h
  refine cl_Si X eokM (c_X7_within (adrM a cA) eokM ht1) tw_8_10 mw_X7_within (by decide) hp hl.1 rfl (Nat.le_of_ble_eq_true rfl) dX7_setNext_9 (fun H locs hp => ?_)
  refine lv_if_ne (tgt := 19) hx hb dX7_setNext_12 (by decide) (fun c2 => ?_) (fun c2 => ?_)
  · have h := it_n h c2
    refine lv_aload_n hx hb dX7_setNext_19 rfl (lv_at hl 0 rfl) ?_
    obtain ⟨t3, ht3, h⟩ := bd_s h
    refine cl_Vi X eokM (c_X7_isFormula ht3) tw_15_20 mw_X7_isFormula (by decide) hp 0 rfl rfl rfl hl.1 rfl (Nat.le_of_ble_eq_true rfl) dX7_setNext_20 (fun H locs hp => ?_)
    refine lv_if_eq (tgt := 30) hx hb dX7_setNext_23 (by decide) (fun c4 => ?_) (fun c4 => ?_)
    · have h := it_p h c4
      refine lv_iconst (v := 2) hx hb dX7_setNext_30 (by decide) ?_
      exact J_31 v1 (2 : Int32) t3.2 _ _ _ hp (lv_sub hl [0, 1] rfl) h
    · have h := it_n h c4
      refine lv_iconst (v := 0) hx hb dX7_setNext_26 (by decide) ?_
      refine lv_goto (tgt := 31) hx hb dX7_setNext_27 (by decide) ?_
      exact J_31 v1 (0 : Int32) t3.2 _ _ _ hp (lv_sub hl [0, 1] rfl) h
  · have h := it_p h c2
    refine lv_iconst (v := 1) hx hb dX7_setNext_15 (by decide) ?_
    refine lv_goto (tgt := 31) hx hb dX7_setNext_16 (by decide) ?_
    exact J_31 v1 (1 : Int32) σ _ _ _ hp (lv_sub hl [0, 1] rfl) h
def X7_setInit_30 (N : Nat) (σ : St) : Option (Int32 × St) :=
  if (σ.1 0) ≤ 0 then
    bd (X7_size N (σ.2.1 0)) (fun t2 =>
    some (t2, σ))
  else
    some ((0 : Int32), σ)
def X7_setInit_13 (N : Nat) (u0 : Int32) (σ : St) : Option (Int32 × St) :=
  nm (si σ 0 u0) (fun (σ1 : St) =>
  if (σ1.1 0) = 0 then
    bd (X7_become N (6 : Int32) σ1) (fun t3 =>
    X7_setInit_30 N t3.2)
  else
    X7_setInit_30 N σ1)
def X7_setInit (N : Nat) (σ : St) : Option (Int32 × St) :=
  bd (X7_isPlain N σ) (fun t1 =>
  if t1.1 = 0 then
    X7_setInit_13 N (1 : Int32) t1.2
  else
    X7_setInit_13 N (0 : Int32) t1.2)
set_option maxRecDepth 20000 in
set_option maxHeartbeats 4000000 in
theorem c_X7_setInit {l : Launch} {D : va_G} {a : Nat → Nat} {cA : Nat → ClassId} {σ : St} {N : Nat} {r : Int32} {σ' : St} (h : X7_setInit N σ = some (r, σ')) : MetI l yX7_setInit cX7_setInit 1 (some .int) 6 D (tyW cA) (wM a cA) EM [.ref (a 0)] σ r σ' := by
  refine mkI (by decide) (adrM a cA) (Or.inl rfl) (Nat.le_of_ble_eq_true rfl) ?_
  intro p e R s m args below meth c A Q ls X hR hp hl
  obtain ⟨hx, hb, -, hown, hts, -⟩ := id X
  have J_30 : ∀  (σ : St) (H : Heap) (locs : List Loc) (ls : Array Slot), Pw D (wM a cA) A s.heap H locs σ → lv_has ls 1 [(0, .ref (a 0))] → X7_setInit_30 N σ = some (r, σ') → W p l e R s m args below meth c H locs 0 0 Q (F0 m 30 ls []) := by
    intro σ H locs ls hp hl h
    unfold X7_setInit_30 at h
    refine lv_aload_n hx hb dX7_setInit_30 rfl (lv_at hl 0 rfl) ?_
    refine gM_X7_thrown X hp tw_8_9 dX7_setInit_31 ?_
    refine lv_if_le (tgt := 41) hx hb dX7_setInit_34 (by decide) (fun c1 => ?_) (fun c1 => ?_)
    · have h := it_p h c1
      refine lv_aload_n hx hb dX7_setInit_41 rfl (lv_at hl 0 rfl) ?_
      refine gM_X7_init X hp tw_6_17 dX7_setInit_42 ?_
      obtain ⟨t2, ht2, h⟩ := bd_s h
      refine cl_Si X eokM (c_X7_size (adrM a cA) eokM ht2) tw_18_0 mw_X7_size (by decide) hp hl.1 rfl (Nat.le_of_ble_eq_true rfl) dX7_setInit_45 (fun H locs hp => ?_)
      exact hR _ _ _ _ _ _ dX7_setInit_48 hp (congrArg Prod.fst (Option.some.inj h)) (congrArg Prod.snd (Option.some.inj h)) (fun q => by cases q)
    · have h := it_n h c1
      refine lv_iconst (v := 0) hx hb dX7_setInit_37 (by decide) ?_
      refine lv_goto (tgt := 48) hx hb dX7_setInit_38 (by decide) ?_
      exact hR _ _ _ _ _ _ dX7_setInit_48 hp (congrArg Prod.fst (Option.some.inj h)) (congrArg Prod.snd (Option.some.inj h)) (fun q => by cases q)
  have J_13 : ∀ (u0 : Int32) (σ : St) (H : Heap) (locs : List Loc) (ls : Array Slot), Pw D (wM a cA) A s.heap H locs σ → lv_has ls 1 [(0, .ref (a 0))] → X7_setInit_13 N u0 σ = some (r, σ') → W p l e R s m args below meth c H locs 0 0 Q (F0 m 13 ls [.int u0, .ref (a 0)]) := by
    intro u0 σ H locs ls hp hl h
    unfold X7_setInit_13 at h
    refine pM_X7_thrown X hp tw_8_9 dX7_setInit_13 (fun H locs σ1 eσ1 hp => ?_)
    have h := nm_s h σ1 eσ1
    refine lv_aload_n hx hb dX7_setInit_16 rfl (lv_at hl 0 rfl) ?_
    refine gM_X7_thrown X hp tw_8_9 dX7_setInit_17 ?_
    refine lv_if_ne (tgt := 30) hx hb dX7_setInit_20 (by decide) (fun c2 => ?_) (fun c2 => ?_)
    · have h := it_n h c2
      exact J_30 σ1 _ _ _ hp (lv_sub hl [0] rfl) h
    · have h := it_p h c2
      refine lv_aload_n hx hb dX7_setInit_23 rfl (lv_at hl 0 rfl) ?_
      refine lv_bipush (v := 6) hx hb dX7_setInit_24 (by decide) ?_
      obtain ⟨t3, ht3, h⟩ := bd_s h
      refine cl_Vi X eokM (c_X7_become ht3) tw_16_0 mw_X7_become (by decide) hp 0 rfl rfl rfl hl.1 rfl (Nat.le_of_ble_eq_true rfl) dX7_setInit_26 (fun H locs hp => ?_)
      refine lv_pop hx hb dX7_setInit_29 rfl ?_
      exact J_30 t3.2 _ _ _ hp (lv_sub hl [0] rfl) h
  unfold X7_setInit at h
  have hl := lv_sub (l' := [(0, .ref (a 0))]) hl [0] rfl
  refine lv_aload_n hx hb dX7_setInit_0 rfl (lv_at hl 0 rfl) ?_
  refine lv_aload_n hx hb dX7_setInit_1 rfl (lv_at hl 0 rfl) ?_
  obtain ⟨t1, ht1, h⟩ := bd_s h
  refine cl_Vi X eokM (c_X7_isPlain ht1) tw_19_10 mw_X7_isPlain (by decide) hp 0 rfl rfl rfl hl.1 rfl (Nat.le_of_ble_eq_true rfl) dX7_setInit_2 (fun H locs hp => ?_)
  refine lv_if_eq (tgt := 12) hx hb dX7_setInit_5 (by decide) (fun c2 => ?_) (fun c2 => ?_)
  · have h := it_p h c2
    refine lv_iconst (v := 1) hx hb dX7_setInit_12 (by decide) ?_
    exact J_13 (1 : Int32) t1.2 _ _ _ hp (lv_sub hl [0] rfl) h
  · have h := it_n h c2
    refine lv_iconst (v := 0) hx hb dX7_setInit_8 (by decide) ?_
    refine lv_goto (tgt := 13) hx hb dX7_setInit_9 (by decide) ?_
    exact J_13 (0 : Int32) t1.2 _ _ _ hp (lv_sub hl [0] rfl) h
