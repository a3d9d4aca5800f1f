/- X7_read X7_firstError X7_isFormula X7_hasInputs X7_isPlain X7_binds X7_nameSet X7_pushOperand X7_joined X7_doSign -/
def X7_read_79 (k14 : (Int32 → Int32 → St → Option (Int32 × St))) (v1 : Int32) (u0 : Int32) (σ : St) : Option (Int32 × St) :=
  if u0 = 0 then
    nm (v1 + (0 : Int32)) (fun (x2 : Int32) =>
    k14 x2 u0 σ)
  else
    nm (v1 + (1 : Int32)) (fun (x3 : Int32) =>
    k14 x3 u0 σ)
def X7_read_56 (k14 : (Int32 → Int32 → St → Option (Int32 × St))) (v1 : Int32) (u0 : Int32) (σ : St) : Option (Int32 × St) :=
  gd (inb v1 60) (
  bd (X7_takes (σ.2.2.1 0 v1.toNatClampNeg) σ) (fun t2 =>
  if t2.1 = 0 then
    if u0 = 0 then
      X7_read_79 k14 v1 (0 : Int32) t2.2
    else
      X7_read_79 k14 v1 (1 : Int32) t2.2
  else
    X7_read_79 k14 v1 (1 : Int32) t2.2))
def X7_read_14b (k14 : (Int32 → Int32 → St → Option (Int32 × St))) (k95 : (Int32 → St → Option (Int32 × St))) (v1 : Int32) (v2 : Int32) (σ : St) : Option (Int32 × St) :=
  if (σ.1 3) ≤ v1 then
    k95 v1 σ
  else
    if v2 = 0 then
      k95 v1 σ
    else
      if (σ.1 6) = 0 then
        X7_read_56 k14 v1 (0 : Int32) σ
      else
        gd (inb v1 60) (
        if (σ.2.2.1 0 v1.toNatClampNeg) = (41 : Int32) then
          if (σ.1 5) ≤ 0 then
            X7_read_56 k14 v1 (0 : Int32) σ
          else
            X7_read_56 k14 v1 (1 : Int32) σ
        else
          X7_read_56 k14 v1 (0 : Int32) σ)
def X7_read_14 (k95 : (Int32 → St → Option (Int32 × St))) : Nat → Int32 → Int32 → St → Option (Int32 × St)
  | 0, _, _, _ => none
  | n + 1, v1, v2, σ => X7_read_14b (fun v1 v2 σ => X7_read_14 k95 n v1 v2 σ) k95 v1 v2 σ
def X7_read_95 (v1 : Int32) (σ : St) : Option (Int32 × St) :=
  some (v1, σ)
def X7_read (N : Nat) (σ : St) : Option (Int32 × St) :=
  nm (si σ 5 (0 : Int32)) (fun (σ1 : St) =>
  nm (si σ1 6 (0 : Int32)) (fun (σ2 : St) =>
  X7_read_14 (fun v1 σ => X7_read_95 v1 σ) N (0 : Int32) (1 : Int32) σ2))
set_option maxRecDepth 20000 in
set_option maxHeartbeats 4000000 in
theorem c_X7_read {l : Launch} {D : va_G} {a : Nat → Nat} {cA : Nat → ClassId} {σ : St} {N : Nat} {r : Int32} {σ' : St} (h : X7_read N σ = some (r, σ')) : MetI l yX7_read cX7_read 4 (some .int) 3 D (tyW cA) (wM a cA) EM [.ref (a 0)] σ r σ' := by
  refine mkI (by decide) (adrM a cA) (Or.inl rfl) (Nat.le_of_ble_eq_true rfl) ?_
  intro p e R s m args below meth c A Q ls X hR hp hl
  obtain ⟨hx, hb, -, hown, hts, -⟩ := id X
  have J_79 : ∀ (v1 : Int32) (u0 : Int32) (k14 : (Int32 → Int32 → St → Option (Int32 × St))) (hk14 : ∀ (v1 : Int32) (v2 : Int32) (σ : St) (H : Heap) (locs : List Loc) (ls : Array Slot), Pw D (wM a cA) A s.heap H locs σ → lv_has ls 4 [(0, .ref (a 0)), (1, .int v1), (2, .int v2)] → k14 v1 v2 σ = some (r, σ') → W p l e R s m args below meth c H locs 0 0 Q (F0 m 14 ls [])) (σ : St) (H : Heap) (locs : List Loc) (ls : Array Slot), Pw D (wM a cA) A s.heap H locs σ → lv_has ls 4 [(0, .ref (a 0)), (1, .int v1)] → X7_read_79 k14 v1 u0 σ = some (r, σ') → W p l e R s m args below meth c H locs 0 0 Q (F0 m 79 ls [.int u0]) := by
    intro v1 u0 k14 hk14 σ H locs ls hp hl h
    unfold X7_read_79 at h
    refine lv_istore_n (lv' := [(2, .int u0), (0, .ref (a 0)), (1, .int v1)]) hx hb dX7_read_79 rfl hl (by decide) rfl (fun ls hl => ?_)
    refine lv_iload_n hx hb dX7_read_80 rfl (lv_at hl 2 rfl) ?_
    refine lv_iload_n hx hb dX7_read_81 rfl (lv_at hl 0 rfl) ?_
    refine lv_if_eq (tgt := 89) hx hb dX7_read_82 (by decide) (fun c1 => ?_) (fun c1 => ?_)
    · have h := it_p h c1
      refine lv_iconst (v := 0) hx hb dX7_read_89 (by decide) ?_
      refine lv_iadd hx hb dX7_read_90 ?_
      refine lv_topi (fun x2 ex2 => ?_)
      have h := nm_s h x2 ex2
      refine lv_istore_n (lv' := [(1, .int x2), (2, .int u0), (0, .ref (a 0))]) hx hb dX7_read_91 rfl hl (by decide) rfl (fun ls hl => ?_)
      refine lv_goto (tgt := 14) hx hb dX7_read_92 (by decide) ?_
      exact hk14 x2 u0 σ _ _ _ hp (lv_sub hl [2, 0, 1] rfl) h
    · have h := it_n h c1
      refine lv_iconst (v := 1) hx hb dX7_read_85 (by decide) ?_
      refine lv_goto (tgt := 90) hx hb dX7_read_86 (by decide) ?_
      refine lv_iadd hx hb dX7_read_90 ?_
      refine lv_topi (fun x3 ex3 => ?_)
      have h := nm_s h x3 ex3
      refine lv_istore_n (lv' := [(1, .int x3), (2, .int u0), (0, .ref (a 0))]) hx hb dX7_read_91 rfl hl (by decide) rfl (fun ls hl => ?_)
      refine lv_goto (tgt := 14) hx hb dX7_read_92 (by decide) ?_
      exact hk14 x3 u0 σ _ _ _ hp (lv_sub hl [2, 0, 1] rfl) h
  have J_56 : ∀ (v1 : Int32) (u0 : Int32) (k14 : (Int32 → Int32 → St → Option (Int32 × St))) (hk14 : ∀ (v1 : Int32) (v2 : Int32) (σ : St) (H : Heap) (locs : List Loc) (ls : Array Slot), Pw D (wM a cA) A s.heap H locs σ → lv_has ls 4 [(0, .ref (a 0)), (1, .int v1), (2, .int v2)] → k14 v1 v2 σ = some (r, σ') → W p l e R s m args below meth c H locs 0 0 Q (F0 m 14 ls [])) (σ : St) (H : Heap) (locs : List Loc) (ls : Array Slot), Pw D (wM a cA) A s.heap H locs σ → lv_has ls 4 [(0, .ref (a 0)), (1, .int v1)] → X7_read_56 k14 v1 u0 σ = some (r, σ') → W p l e R s m args below meth c H locs 0 0 Q (F0 m 56 ls [.int u0]) := by
    intro v1 u0 k14 hk14 σ H locs ls hp hl h
    unfold X7_read_56 at h
    refine lv_istore_n (lv' := [(3, .int u0), (0, .ref (a 0)), (1, .int v1)]) hx hb dX7_read_56 rfl hl (by decide) rfl (fun ls hl => ?_)
    refine lv_aload_n hx hb dX7_read_57 rfl (lv_at hl 1 rfl) ?_
    refine lv_aload_n hx hb dX7_read_58 rfl (lv_at hl 1 rfl) ?_
    refine gM_X7_text X hp tw_5_18 dX7_read_59 ?_
    refine lv_iload_n hx hb dX7_read_62 rfl (lv_at hl 2 rfl) ?_
    obtain ⟨g1, h⟩ := gd_s h
    refine lM_X7_text X hp g1 dX7_read_63 ?_
    obtain ⟨t2, ht2, h⟩ := bd_s h
    refine cl_Vi X eokM (c_X7_takes ht2) tw_11_18 mw_X7_takes (by decide) hp 0 rfl rfl rfl hl.1 rfl (Nat.le_of_ble_eq_true rfl) dX7_read_64 (fun H locs hp => ?_)
    refine lv_if_ne (tgt := 74) hx hb dX7_read_67 (by decide) (fun c3 => ?_) (fun c3 => ?_)
    · have h := it_n h c3
      refine lv_iconst (v := 1) hx hb dX7_read_74 (by decide) ?_
      refine lv_goto (tgt := 79) hx hb dX7_read_75 (by decide) ?_
      exact J_79 v1 (1 : Int32) _ hk14 t2.2 _ _ _ hp (lv_sub hl [1, 2] rfl) h
    · have h := it_p h c3
      refine lv_iload_n hx hb dX7_read_70 rfl (lv_at hl 0 rfl) ?_
      refine lv_if_eq (tgt := 78) hx hb dX7_read_71 (by decide) (fun c4 => ?_) (fun c4 => ?_)
      · have h := it_p h c4
        refine lv_iconst (v := 0) hx hb dX7_read_78 (by decide) ?_
        exact J_79 v1 (0 : Int32) _ hk14 t2.2 _ _ _ hp (lv_sub hl [1, 2] rfl) h
      · have h := it_n h c4
        refine lv_iconst (v := 1) hx hb dX7_read_74 (by decide) ?_
        refine lv_goto (tgt := 79) hx hb dX7_read_75 (by decide) ?_
        exact J_79 v1 (1 : Int32) _ hk14 t2.2 _ _ _ hp (lv_sub hl [1, 2] rfl) h
  have J_14 : ∀  (k95 : (Int32 → St → Option (Int32 × St))) (hk95 : ∀ (v1 : Int32) (σ : St) (H : Heap) (locs : List Loc) (ls : Array Slot), Pw D (wM a cA) A s.heap H locs σ → lv_has ls 4 [(0, .ref (a 0)), (1, .int v1)] → k95 v1 σ = some (r, σ') → W p l e R s m args below meth c H locs 0 0 Q (F0 m 95 ls [])) (n : Nat) (v1 : Int32) (v2 : Int32) (σ : St) (H : Heap) (locs : List Loc) (ls : Array Slot), Pw D (wM a cA) A s.heap H locs σ → lv_has ls 4 [(0, .ref (a 0)), (1, .int v1), (2, .int v2)] → X7_read_14 k95 n v1 v2 σ = some (r, σ') → W p l e R s m args below meth c H locs 0 0 Q (F0 m 14 ls []) := by
    intro k95 hk95 n
    induction n with
    | zero => intro v1 v2 σ H locs ls hp hl h; exact nn_s (show (none : Option (Int32 × St)) = some _ from h)
    | succ n ih =>
      intro v1 v2 σ H locs ls hp hl h
      have h : X7_read_14b (fun v1 v2 σ => X7_read_14 k95 n v1 v2 σ) k95 v1 v2 σ = some (r, σ') := h
      unfold X7_read_14b at h
      have hk14 := ih
      refine lv_iload_n hx hb dX7_read_14 rfl (lv_at hl 1 rfl) ?_
      refine lv_aload_n hx hb dX7_read_15 rfl (lv_at hl 0 rfl) ?_
      refine gM_X7_length X hp tw_9_17 dX7_read_16 ?_
      refine lv_icmp_ge (tgt := 95) hx hb dX7_read_19 (by decide) (fun c1 => ?_) (fun c1 => ?_)
      · have h := it_p h c1
        exact hk95 v1 σ _ _ _ hp (lv_sub hl [0, 1] rfl) h
      · have h := it_n h c1
        refine lv_iload_n hx hb dX7_read_22 rfl (lv_at hl 2 rfl) ?_
        refine lv_if_eq (tgt := 95) hx hb dX7_read_23 (by decide) (fun c2 => ?_) (fun c2 => ?_)
        · have h := it_p h c2
          exact hk95 v1 σ _ _ _ hp (lv_sub hl [0, 1] rfl) h
        · have h := it_n h c2
          refine lv_aload_n hx hb dX7_read_26 rfl (lv_at hl 0 rfl) ?_
          refine gM_X7_isOver X hp tw_11_17 dX7_read_27 ?_
          refine lv_if_eq (tgt := 55) hx hb dX7_read_30 (by decide) (fun c3 => ?_) (fun c3 => ?_)
          · have h := it_p h c3
            refine lv_iconst (v := 0) hx hb dX7_read_55 (by decide) ?_
            exact J_56 v1 (0 : Int32) _ hk14 σ _ _ _ hp (lv_sub hl [0, 1] rfl) h
          · have h := it_n h c3
            refine lv_aload_n hx hb dX7_read_33 rfl (lv_at hl 0 rfl) ?_
            refine gM_X7_text X hp tw_5_18 dX7_read_34 ?_
            refine lv_iload_n hx hb dX7_read_37 rfl (lv_at hl 1 rfl) ?_
            obtain ⟨g4, h⟩ := gd_s h
            refine lM_X7_text X hp g4 dX7_read_38 ?_
            refine lv_bipush (v := 41) hx hb dX7_read_39 (by decide) ?_
            refine lv_icmp_ne (tgt := 55) hx hb dX7_read_41 (by decide) (fun c5 => ?_) (fun c5 => ?_)
            · have h := it_n h c5
              refine lv_iconst (v := 0) hx hb dX7_read_55 (by decide) ?_
              exact J_56 v1 (0 : Int32) _ hk14 σ _ _ _ hp (lv_sub hl [0, 1] rfl) h
            · have h := it_p h c5
              refine lv_aload_n hx hb dX7_read_44 rfl (lv_at hl 0 rfl) ?_
              refine gM_X7_opens X hp tw_11_16 dX7_read_45 ?_
              refine lv_if_le (tgt := 55) hx hb dX7_read_48 (by decide) (fun c6 => ?_) (fun c6 => ?_)
              · have h := it_p h c6
                refine lv_iconst (v := 0) hx hb dX7_read_55 (by decide) ?_
                exact J_56 v1 (0 : Int32) _ hk14 σ _ _ _ hp (lv_sub hl [0, 1] rfl) h
              · have h := it_n h c6
                refine lv_iconst (v := 1) hx hb dX7_read_51 (by decide) ?_
                refine lv_goto (tgt := 56) hx hb dX7_read_52 (by decide) ?_
                exact J_56 v1 (1 : Int32) _ hk14 σ _ _ _ hp (lv_sub hl [0, 1] rfl) h
  have J_95 : ∀ (v1 : Int32) (σ : St) (H : Heap) (locs : List Loc) (ls : Array Slot), Pw D (wM a cA) A s.heap H locs σ → lv_has ls 4 [(0, .ref (a 0)), (1, .int v1)] → X7_read_95 v1 σ = some (r, σ') → W p l e R s m args below meth c H locs 0 0 Q (F0 m 95 ls []) := by
    intro v1 σ H locs ls hp hl h
    unfold X7_read_95 at h
    refine lv_iload_n hx hb dX7_read_95 rfl (lv_at hl 1 rfl) ?_
    exact hR _ _ _ _ _ _ dX7_read_96 hp (congrArg Prod.fst (Option.some.inj h)) (congrArg Prod.snd (Option.some.inj h)) (fun q => by cases q)
  unfold X7_read at h
  have hl := lv_sub (l' := [(0, .ref (a 0))]) hl [0] rfl
  refine lv_aload_n hx hb dX7_read_0 rfl (lv_at hl 0 rfl) ?_
  refine lv_iconst (v := 0) hx hb dX7_read_1 (by decide) ?_
  refine pM_X7_opens X hp tw_11_16 dX7_read_2 (fun H locs σ1 eσ1 hp => ?_)
  have h := nm_s h σ1 eσ1
  refine lv_aload_n hx hb dX7_read_5 rfl (lv_at hl 0 rfl) ?_
  refine lv_iconst (v := 0) hx hb dX7_read_6 (by decide) ?_
  refine pM_X7_isOver X hp tw_11_17 (Or.inl rfl) dX7_read_7 (fun H locs σ2 eσ2 hp => ?_)
  have h := nm_s h σ2 eσ2
  refine lv_iconst (v := 0) hx hb dX7_read_10 (by decide) ?_
  refine lv_istore_n (lv' := [(1, .int (0 : Int32)), (0, .ref (a 0))]) hx hb dX7_read_11 rfl hl (by decide) rfl (fun ls hl => ?_)
  refine lv_iconst (v := 1) hx hb dX7_read_12 (by decide) ?_
  refine lv_istore_n (lv' := [(2, .int (1 : Int32)), (1, .int (0 : Int32)), (0, .ref (a 0))]) hx hb dX7_read_13 rfl hl (by decide) rfl (fun ls hl => ?_)
  exact J_14 _ (fun v1 σ H locs ls hp hl h => J_95 v1 σ _ _ _ hp hl h) _ (0 : Int32) (1 : Int32) σ2 _ _ _ hp (lv_sub hl [2, 1, 0] rfl) h
def X7_firstError (N : Nat) (σ : St) : Option (Int32 × St) :=
  nm (si σ 0 (0 : Int32)) (fun (σ1 : St) =>
  bd (X7_read N σ1) (fun t2 =>
  some (t2.1, t2.2)))
set_option maxRecDepth 20000 in
set_option maxHeartbeats 4000000 in
theorem c_X7_firstError {l : Launch} {D : va_G} {a : Nat → Nat} {cA : Nat → ClassId} {σ : St} {N : Nat} {r : Int32} {σ' : St} (h : X7_firstError N σ = some (r, σ')) : MetI l yX7_firstError cX7_firstError 1 (some .int) 4 D (tyW cA) (wM a cA) EM [.ref (a 0)] σ r σ' := by
  refine mkI (by decide) (adrM a cA) (Or.inl rfl) (Nat.le_of_ble_eq_true rfl) ?_
  intro p e R s m args below meth c A Q ls X hR hp hl
  obtain ⟨hx, hb, -, hown, hts, -⟩ := id X
  unfold X7_firstError at h
  have hl := lv_sub (l' := [(0, .ref (a 0))]) hl [0] rfl
  refine lv_aload_n hx hb dX7_firstError_0 rfl (lv_at hl 0 rfl) ?_
  refine lv_iconst (v := 0) hx hb dX7_firstError_1 (by decide) ?_
  refine pM_X7_thrown X hp tw_8_9 dX7_firstError_2 (fun H locs σ1 eσ1 hp => ?_)
  have h := nm_s h σ1 eσ1
  refine lv_aload_n hx hb dX7_firstError_5 rfl (lv_at hl 0 rfl) ?_
  obtain ⟨t2, ht2, h⟩ := bd_s h
  refine cl_Vi X eokM (c_X7_read ht2) tw_11_12 mw_X7_read (by decide) hp 0 rfl rfl rfl hl.1 rfl (Nat.le_of_ble_eq_true rfl) dX7_firstError_6 (fun H locs hp => ?_)
  exact hR _ _ _ _ _ _ dX7_firstError_9 hp (congrArg Prod.fst (Option.some.inj h)) (congrArg Prod.snd (Option.some.inj h)) (fun q => by cases q)
def X7_isFormula (N : Nat) (σ : St) : Option (Int32 × St) :=
  bd (X7_read N σ) (fun t1 =>
  if t1.1 = (t1.2.1 3) then
    if (t1.2.1 6) = 0 then
      some ((0 : Int32), t1.2)
    else
      if (t1.2.1 5) = 0 then
        some ((1 : Int32), t1.2)
      else
        some ((0 : Int32), t1.2)
  else
    some ((0 : Int32), t1.2))
set_option maxRecDepth 20000 in
set_option maxHeartbeats 4000000 in
theorem c_X7_isFormula {l : Launch} {D : va_G} {a : Nat → Nat} {cA : Nat → ClassId} {σ : St} {N : Nat} {r : Int32} {σ' : St} (h : X7_isFormula N σ = some (r, σ')) : MetI l yX7_isFormula cX7_isFormula 1 (some .boolean) 4 D (tyW cA) (wM a cA) EM [.ref (a 0)] σ r σ' := by
  refine mkI (by decide) (adrM a cA) (Or.inr rfl) (Nat.le_of_ble_eq_true rfl) ?_
  intro p e R s m args below meth c A Q ls X hR hp hl
  obtain ⟨hx, hb, -, hown, hts, -⟩ := id X
  unfold X7_isFormula at h
  have hl := lv_sub (l' := [(0, .ref (a 0))]) hl [0] rfl
  refine lv_aload_n hx hb dX7_isFormula_0 rfl (lv_at hl 0 rfl) ?_
  obtain ⟨t1, ht1, h⟩ := bd_s h
  refine cl_Vi X eokM (c_X7_read ht1) tw_11_12 mw_X7_read (by decide) hp 0 rfl rfl rfl hl.1 rfl (Nat.le_of_ble_eq_true rfl) dX7_isFormula_1 (fun H locs hp => ?_)
  refine lv_aload_n hx hb dX7_isFormula_4 rfl (lv_at hl 0 rfl) ?_
  refine gM_X7_length X hp tw_9_17 dX7_isFormula_5 ?_
  refine lv_icmp_ne (tgt := 29) hx hb dX7_isFormula_8 (by decide) (fun c2 => ?_) (fun c2 => ?_)
  · have h := it_n h c2
    refine lv_iconst (v := 0) hx hb dX7_isFormula_29 (by decide) ?_
    exact hR _ _ _ _ _ _ dX7_isFormula_30 hp (congrArg Prod.fst (Option.some.inj h)) (congrArg Prod.snd (Option.some.inj h)) (fun _ => Or.inl rfl)
  · have h := it_p h c2
    refine lv_aload_n hx hb dX7_isFormula_11 rfl (lv_at hl 0 rfl) ?_
    refine gM_X7_isOver X hp tw_11_17 dX7_isFormula_12 ?_
    refine lv_if_eq (tgt := 29) hx hb dX7_isFormula_15 (by decide) (fun c3 => ?_) (fun c3 => ?_)
    · have h := it_p h c3
      refine lv_iconst (v := 0) hx hb dX7_isFormula_29 (by decide) ?_
      exact hR _ _ _ _ _ _ dX7_isFormula_30 hp (congrArg Prod.fst (Option.some.inj h)) (congrArg Prod.snd (Option.some.inj h)) (fun _ => Or.inl rfl)
    · have h := it_n h c3
      refine lv_aload_n hx hb dX7_isFormula_18 rfl (lv_at hl 0 rfl) ?_
      refine gM_X7_opens X hp tw_11_16 dX7_isFormula_19 ?_
      refine lv_if_ne (tgt := 29) hx hb dX7_isFormula_22 (by decide) (fun c4 => ?_) (fun c4 => ?_)
      · have h := it_n h c4
        refine lv_iconst (v := 0) hx hb dX7_isFormula_29 (by decide) ?_
        exact hR _ _ _ _ _ _ dX7_isFormula_30 hp (congrArg Prod.fst (Option.some.inj h)) (congrArg Prod.snd (Option.some.inj h)) (fun _ => Or.inl rfl)
      · have h := it_p h c4
        refine lv_iconst (v := 1) hx hb dX7_isFormula_25 (by decide) ?_
        refine lv_goto (tgt := 30) hx hb dX7_isFormula_26 (by decide) ?_
        exact hR _ _ _ _ _ _ dX7_isFormula_30 hp (congrArg Prod.fst (Option.some.inj h)) (congrArg Prod.snd (Option.some.inj h)) (fun _ => Or.inr rfl)
def X7_hasInputs_4b (k4 : (Int32 → Int32 → Option (Int32))) (k50 : (Int32 → Option (Int32))) (σ : St) (v1 : Int32) (v2 : Int32) : Option (Int32) :=
  if (σ.1 3) ≤ v2 then
    k50 v1
  else
    if v1 = 0 then
      gd (inb v2 60) (
      if (σ.2.2.1 0 v2.toNatClampNeg) = (120 : Int32) then
        nm (v2 + (1 : Int32)) (fun (x6 : Int32) =>
        k4 (1 : Int32) x6)
      else
        gd (inb v2 60) (
        if (σ.2.2.1 0 v2.toNatClampNeg) = (121 : Int32) then
          nm (v2 + (1 : Int32)) (fun (x10 : Int32) =>
          k4 (1 : Int32) x10)
        else
          nm (v2 + (1 : Int32)) (fun (x9 : Int32) =>
          k4 (0 : Int32) x9)))
    else
      nm (v2 + (1 : Int32)) (fun (x3 : Int32) =>
      k4 (1 : Int32) x3)
def X7_hasInputs_4 (k50 : (Int32 → Option (Int32))) (σ : St) : Nat → Int32 → Int32 → Option (Int32)
  | 0, _, _ => none
  | n + 1, v1, v2 => X7_hasInputs_4b (fun v1 v2 => X7_hasInputs_4 k50 σ n v1 v2) k50 σ v1 v2
def X7_hasInputs_50 (σ : St) (v1 : Int32) : Option (Int32) :=
  gd (isb v1) (
  some v1)
def X7_hasInputs (N : Nat) (σ : St) : Option (Int32) :=
  X7_hasInputs_4 (fun v1 => X7_hasInputs_50 σ v1) σ N (0 : Int32) (0 : Int32)
set_option maxRecDepth 20000 in
set_option maxHeartbeats 4000000 in
theorem c_X7_hasInputs {l : Launch} {D : va_G} {a : Nat → Nat} {cA : Nat → ClassId} {σ : St} {N : Nat} {r : Int32} (h : X7_hasInputs N σ = some r) : MetI l yX7_hasInputs cX7_hasInputs 3 (some .boolean) 0 D (tyW cA) (wM a cA) EM [.ref (a 0)] σ r σ := by
  refine mkI (by decide) (adrM a cA) (Or.inr rfl) (Nat.le_of_ble_eq_true rfl) ?_
  intro p e R s m args below meth c A Q ls X hR hp hl
  obtain ⟨hx, hb, -, hown, hts, -⟩ := id X
  have J_4 : ∀  (k50 : (Int32 → Option (Int32))) (hk50 : ∀ (v1 : Int32) (H : Heap) (locs : List Loc) (ls : Array Slot), Pw D (wM a cA) A s.heap H locs σ → lv_has ls 3 [(0, .ref (a 0)), (1, .int v1)] → k50 v1 = some r → W p l e R s m args below meth c H locs 0 0 Q (F0 m 50 ls [])) (n : Nat) (v1 : Int32) (v2 : Int32) (H : Heap) (locs : List Loc) (ls : Array Slot), Pw D (wM a cA) A s.heap H locs σ → lv_has ls 3 [(0, .ref (a 0)), (1, .int v1), (2, .int v2)] → X7_hasInputs_4 k50 σ n v1 v2 = some r → W p l e R s m args below meth c H locs 0 0 Q (F0 m 4 ls []) := by
    intro k50 hk50 n
    induction n with
    | zero => intro v1 v2 H locs ls hp hl h; exact nn_s (show (none : Option (Int32)) = some _ from h)
    | succ n ih =>
      intro v1 v2 H locs ls hp hl h
      have h : X7_hasInputs_4b (fun v1 v2 => X7_hasInputs_4 k50 σ n v1 v2) k50 σ v1 v2 = some r := h
      unfold X7_hasInputs_4b at h
      have hk4 := ih
      refine lv_iload_n hx hb dX7_hasInputs_4 rfl (lv_at hl 2 rfl) ?_
      refine lv_aload_n hx hb dX7_hasInputs_5 rfl (lv_at hl 0 rfl) ?_
      refine gM_X7_length X hp tw_9_17 dX7_hasInputs_6 ?_
      refine lv_icmp_ge (tgt := 50) hx hb dX7_hasInputs_9 (by decide) (fun c1 => ?_) (fun c1 => ?_)
      · have h := it_p h c1
        exact hk50 v1 _ _ _ hp (lv_sub hl [0, 1] rfl) h
      · have h := it_n h c1
        refine lv_iload_n hx hb dX7_hasInputs_12 rfl (lv_at hl 1 rfl) ?_
        refine lv_if_ne (tgt := 38) hx hb dX7_hasInputs_13 (by decide) (fun c2 => ?_) (fun c2 => ?_)
        · have h := it_n h c2
          refine lv_iconst (v := 1) hx hb dX7_hasInputs_38 (by decide) ?_
          refine lv_goto (tgt := 43) hx hb dX7_hasInputs_39 (by decide) ?_
          refine lv_istore_n (lv' := [(1, .int (1 : Int32)), (0, .ref (a 0)), (2, .int v2)]) hx hb dX7_hasInputs_43 rfl hl (by decide) rfl (fun ls hl => ?_)
          obtain ⟨x3, ex3⟩ : ∃ z : Int32, z = v2 + (1 : Int32) := ⟨_, rfl⟩
          have h := nm_s h x3 ex3
          refine lv_iinc (v := x3) (lv' := [(2, .int x3), (1, .int (1 : Int32)), (0, .ref (a 0))]) hx hb dX7_hasInputs_44 hl (k := 2) rfl (by rw [ex3]; rfl) (by decide) rfl (fun ls hl => ?_)
          refine lv_goto (tgt := 4) hx hb dX7_hasInputs_47 (by decide) ?_
          exact hk4 (1 : Int32) x3 _ _ _ hp (lv_sub hl [2, 1, 0] rfl) h
        · have h := it_p h c2
          refine lv_aload_n hx hb dX7_hasInputs_16 rfl (lv_at hl 0 rfl) ?_
          refine gM_X7_text X hp tw_5_18 dX7_hasInputs_17 ?_
          refine lv_iload_n hx hb dX7_hasInputs_20 rfl (lv_at hl 2 rfl) ?_
          obtain ⟨g4, h⟩ := gd_s h
          refine lM_X7_text X hp g4 dX7_hasInputs_21 ?_
          refine lv_bipush (v := 120) hx hb dX7_hasInputs_22 (by decide) ?_
          refine lv_icmp_eq (tgt := 38) hx hb dX7_hasInputs_24 (by decide) (fun c5 => ?_) (fun c5 => ?_)
          · have h := it_p h c5
            refine lv_iconst (v := 1) hx hb dX7_hasInputs_38 (by decide) ?_
            refine lv_goto (tgt := 43) hx hb dX7_hasInputs_39 (by decide) ?_
            refine lv_istore_n (lv' := [(1, .int (1 : Int32)), (0, .ref (a 0)), (2, .int v2)]) hx hb dX7_hasInputs_43 rfl hl (by decide) rfl (fun ls hl => ?_)
            obtain ⟨x6, ex6⟩ : ∃ z : Int32, z = v2 + (1 : Int32) := ⟨_, rfl⟩
            have h := nm_s h x6 ex6
            refine lv_iinc (v := x6) (lv' := [(2, .int x6), (1, .int (1 : Int32)), (0, .ref (a 0))]) hx hb dX7_hasInputs_44 hl (k := 2) rfl (by rw [ex6]; rfl) (by decide) rfl (fun ls hl => ?_)
            refine lv_goto (tgt := 4) hx hb dX7_hasInputs_47 (by decide) ?_
            exact hk4 (1 : Int32) x6 _ _ _ hp (lv_sub hl [2, 1, 0] rfl) h
          · have h := it_n h c5
            refine lv_aload_n hx hb dX7_hasInputs_27 rfl (lv_at hl 0 rfl) ?_
            refine gM_X7_text X hp tw_5_18 dX7_hasInputs_28 ?_
            refine lv_iload_n hx hb dX7_hasInputs_31 rfl (lv_at hl 2 rfl) ?_
            obtain ⟨g7, h⟩ := gd_s h
            refine lM_X7_text X hp g7 dX7_hasInputs_32 ?_
            refine lv_bipush (v := 121) hx hb dX7_hasInputs_33 (by decide) ?_
            refine lv_icmp_ne (tgt := 42) hx hb dX7_hasInputs_35 (by decide) (fun c8 => ?_) (fun c8 => ?_)
            · have h := it_n h c8
              refine lv_iconst (v := 0) hx hb dX7_hasInputs_42 (by decide) ?_
              refine lv_istore_n (lv' := [(1, .int (0 : Int32)), (0, .ref (a 0)), (2, .int v2)]) hx hb dX7_hasInputs_43 rfl hl (by decide) rfl (fun ls hl => ?_)
              obtain ⟨x9, ex9⟩ : ∃ z : Int32, z = v2 + (1 : Int32) := ⟨_, rfl⟩
              have h := nm_s h x9 ex9
              refine lv_iinc (v := x9) (lv' := [(2, .int x9), (1, .int (0 : Int32)), (0, .ref (a 0))]) hx hb dX7_hasInputs_44 hl (k := 2) rfl (by rw [ex9]; rfl) (by decide) rfl (fun ls hl => ?_)
              refine lv_goto (tgt := 4) hx hb dX7_hasInputs_47 (by decide) ?_
              exact hk4 (0 : Int32) x9 _ _ _ hp (lv_sub hl [2, 1, 0] rfl) h
            · have h := it_p h c8
              refine lv_iconst (v := 1) hx hb dX7_hasInputs_38 (by decide) ?_
              refine lv_goto (tgt := 43) hx hb dX7_hasInputs_39 (by decide) ?_
              refine lv_istore_n (lv' := [(1, .int (1 : Int32)), (0, .ref (a 0)), (2, .int v2)]) hx hb dX7_hasInputs_43 rfl hl (by decide) rfl (fun ls hl => ?_)
              obtain ⟨x10, ex10⟩ : ∃ z : Int32, z = v2 + (1 : Int32) := ⟨_, rfl⟩
              have h := nm_s h x10 ex10
              refine lv_iinc (v := x10) (lv' := [(2, .int x10), (1, .int (1 : Int32)), (0, .ref (a 0))]) hx hb dX7_hasInputs_44 hl (k := 2) rfl (by rw [ex10]; rfl) (by decide) rfl (fun ls hl => ?_)
              refine lv_goto (tgt := 4) hx hb dX7_hasInputs_47 (by decide) ?_
              exact hk4 (1 : Int32) x10 _ _ _ hp (lv_sub hl [2, 1, 0] rfl) h
  have J_50 : ∀ (v1 : Int32) (H : Heap) (locs : List Loc) (ls : Array Slot), Pw D (wM a cA) A s.heap H locs σ → lv_has ls 3 [(0, .ref (a 0)), (1, .int v1)] → X7_hasInputs_50 σ v1 = some r → W p l e R s m args below meth c H locs 0 0 Q (F0 m 50 ls []) := by
    intro v1 H locs ls hp hl h
    unfold X7_hasInputs_50 at h
    refine lv_iload_n hx hb dX7_hasInputs_50 rfl (lv_at hl 1 rfl) ?_
    obtain ⟨g1, h⟩ := gd_s h
    exact hR _ _ _ _ _ _ dX7_hasInputs_51 hp (Option.some.inj h) rfl (fun _ => g1)
  unfold X7_hasInputs at h
  have hl := lv_sub (l' := [(0, .ref (a 0))]) hl [0] rfl
  refine lv_iconst (v := 0) hx hb dX7_hasInputs_0 (by decide) ?_
  refine lv_istore_n (lv' := [(1, .int (0 : Int32)), (0, .ref (a 0))]) hx hb dX7_hasInputs_1 rfl hl (by decide) rfl (fun ls hl => ?_)
  refine lv_iconst (v := 0) hx hb dX7_hasInputs_2 (by decide) ?_
  refine lv_istore_n (lv' := [(2, .int (0 : Int32)), (1, .int (0 : Int32)), (0, .ref (a 0))]) hx hb dX7_hasInputs_3 rfl hl (by decide) rfl (fun ls hl => ?_)
  exact J_4 _ (fun v1 H locs ls hp hl h => J_50 v1 _ _ _ hp hl h) _ (0 : Int32) (0 : Int32) _ _ _ hp (lv_sub hl [2, 1, 0] rfl) h
def X7_isPlain (N : Nat) (σ : St) : Option (Int32 × St) :=
  bd (X7_isFormula N σ) (fun t1 =>
  if t1.1 = 0 then
    some ((0 : Int32), t1.2)
  else
    bd (X7_hasInputs N t1.2) (fun t3 =>
    if t3 = 0 then
      some ((1 : Int32), t1.2)
    else
      some ((0 : Int32), t1.2)))
set_option maxRecDepth 20000 in
set_option maxHeartbeats 4000000 in
theorem c_X7_isPlain {l : Launch} {D : va_G} {a : Nat → Nat} {cA : Nat → ClassId} {σ : St} {N : Nat} {r : Int32} {σ' : St} (h : X7_isPlain N σ = some (r, σ')) : MetI l yX7_isPlain cX7_isPlain 1 (some .boolean) 5 D (tyW cA) (wM a cA) EM [.ref (a 0)] σ r σ' := by
  refine mkI (by decide) (adrM a cA) (Or.inr rfl) (Nat.le_of_ble_eq_true rfl) ?_
  intro p e R s m args below meth c A Q ls X hR hp hl
  obtain ⟨hx, hb, -, hown, hts, -⟩ := id X
  unfold X7_isPlain at h
  have hl := lv_sub (l' := [(0, .ref (a 0))]) hl [0] rfl
  refine lv_aload_n hx hb dX7_isPlain_0 rfl (lv_at hl 0 rfl) ?_
  obtain ⟨t1, ht1, h⟩ := bd_s h
  refine cl_Vi X eokM (c_X7_isFormula ht1) tw_15_20 mw_X7_isFormula (by decide) hp 0 rfl rfl rfl hl.1 rfl (Nat.le_of_ble_eq_true rfl) dX7_isPlain_1 (fun H locs hp => ?_)
  refine lv_if_eq (tgt := 18) hx hb dX7_isPlain_4 (by decide) (fun c2 => ?_) (fun c2 => ?_)
  · have h := it_p h c2
    refine lv_iconst (v := 0) hx hb dX7_isPlain_18 (by decide) ?_
    exact hR _ _ _ _ _ _ dX7_isPlain_19 hp (congrArg Prod.fst (Option.some.inj h)) (congrArg Prod.snd (Option.some.inj h)) (fun _ => Or.inl rfl)
  · have h := it_n h c2
    refine lv_aload_n hx hb dX7_isPlain_7 rfl (lv_at hl 0 rfl) ?_
    obtain ⟨t3, ht3, h⟩ := bd_s h
    refine cl_Vi X eokM (c_X7_hasInputs ht3) tw_19_14 mw_X7_hasInputs (by decide) hp 0 rfl rfl rfl hl.1 rfl (Nat.le_of_ble_eq_true rfl) dX7_isPlain_8 (fun H locs hp => ?_)
    refine lv_if_ne (tgt := 18) hx hb dX7_isPlain_11 (by decide) (fun c4 => ?_) (fun c4 => ?_)
    · have h := it_n h c4
      refine lv_iconst (v := 0) hx hb dX7_isPlain_18 (by decide) ?_
      exact hR _ _ _ _ _ _ dX7_isPlain_19 hp (congrArg Prod.fst (Option.some.inj h)) (congrArg Prod.snd (Option.some.inj h)) (fun _ => Or.inl rfl)
    · have h := it_p h c4
      refine lv_iconst (v := 1) hx hb dX7_isPlain_14 (by decide) ?_
      refine lv_goto (tgt := 19) hx hb dX7_isPlain_15 (by decide) ?_
      exact hR _ _ _ _ _ _ dX7_isPlain_19 hp (congrArg Prod.fst (Option.some.inj h)) (congrArg Prod.snd (Option.some.inj h)) (fun _ => Or.inr rfl)
def X7_binds (v0 : Int32) : Option (Int32) :=
  if v0 = (33 : Int32) then
    some (4 : Int32)
  else if v0 = (38 : Int32) then
    some (3 : Int32)
  else if v0 = (94 : Int32) then
    some (2 : Int32)
  else if v0 = (124 : Int32) then
    some (1 : Int32)
  else 
    some (0 : Int32)
set_option maxRecDepth 20000 in
set_option maxHeartbeats 4000000 in
theorem c_X7_binds {l : Launch} {D : va_G} {tys : List (ClassId × FieldType)} {w : St → va_W} {E : (Nat → Prop) → State → Prop} (hw : Adr w) (hE : EOK E) {σ : St} {v0 : Int32} {r : Int32} (h : X7_binds v0 = some r) : MetI l yX7_binds cX7_binds 1 (some .int) 0 D tys w E [.int v0] σ r σ := by
  refine mkI (by decide) hw (Or.inl rfl) (Nat.le_of_ble_eq_true rfl) ?_
  intro p e R s m args below meth c A Q ls X hR hp hl
  obtain ⟨hx, hb, -, hown, hts, -⟩ := id X
  unfold X7_binds at h
  have hl := lv_sub (l' := [(0, .int v0)]) hl [0] rfl
  refine lv_iload_n hx hb dX7_binds_0 rfl (lv_at hl 0 rfl) ?_
  by_cases cs1 : v0 = (33 : Int32)
  · have h := it_p h cs1
    refine lsI (tgt := 44) (off := 43) (k := (33 : Int32)) hx hb dX7_binds_1 cs1 (by decide) (by decide) (by decide) ?_
    refine lv_iconst (v := 4) hx hb dX7_binds_44 (by decide) ?_
    exact hR _ _ _ _ _ _ dX7_binds_45 hp (Option.some.inj h) rfl (fun q => by cases q)
  have h := it_n h cs1
  by_cases cs2 : v0 = (38 : Int32)
  · have h := it_p h cs2
    refine lsI (tgt := 46) (off := 45) (k := (38 : Int32)) hx hb dX7_binds_1 cs2 (by decide) (by decide) (by decide) ?_
    refine lv_iconst (v := 3) hx hb dX7_binds_46 (by decide) ?_
    exact hR _ _ _ _ _ _ dX7_binds_47 hp (Option.some.inj h) rfl (fun q => by cases q)
  have h := it_n h cs2
  by_cases cs3 : v0 = (94 : Int32)
  · have h := it_p h cs3
    refine lsI (tgt := 48) (off := 47) (k := (94 : Int32)) hx hb dX7_binds_1 cs3 (by decide) (by decide) (by decide) ?_
    refine lv_iconst (v := 2) hx hb dX7_binds_48 (by decide) ?_
    exact hR _ _ _ _ _ _ dX7_binds_49 hp (Option.some.inj h) rfl (fun q => by cases q)
  have h := it_n h cs3
  by_cases cs4 : v0 = (124 : Int32)
  · have h := it_p h cs4
    refine lsI (tgt := 50) (off := 49) (k := (124 : Int32)) hx hb dX7_binds_1 cs4 (by decide) (by decide) (by decide) ?_
    refine lv_iconst (v := 1) hx hb dX7_binds_50 (by decide) ?_
    exact hR _ _ _ _ _ _ dX7_binds_51 hp (Option.some.inj h) rfl (fun q => by cases q)
  have h := it_n h cs4
  refine lv_lookup (tgt := 52) (off := 51) hx hb dX7_binds_1 (by decide) (by show Op.lookupswitch.offset [(33, 43), (38, 45), (94, 47), (124, 49)] 51 (v0).toInt = _; rw [lv_osw cs1 (by decide), lv_osw cs2 (by decide), lv_osw cs3 (by decide), lv_osw cs4 (by decide)]; rfl) (by decide) ?_
  refine lv_iconst (v := 0) hx hb dX7_binds_52 (by decide) ?_
  exact hR _ _ _ _ _ _ dX7_binds_53 hp (Option.some.inj h) rfl (fun q => by cases q)
def X7_nameSet_12 (σ : St) (v1 : Int32) : Option (Int64) :=
  if v1 = (49 : Int32) then
    bd (X7_all σ) (fun t2 =>
    some t2)
  else
    some (0 : Int64)
def X7_nameSet_39 (σ : St) (v1 : Int32) (v2 : Int32) : Option (Int64) :=
  if ((v2 >>> ((v1 - (120 : Int32)) &&& 31)) &&& (1 : Int32)) = (1 : Int32) then
    bd (X7_all σ) (fun t2 =>
    some t2)
  else
    some (0 : Int64)
def X7_nameSet (N : Nat) (σ : St) (v1 : Int32) (v2 : Int32) : Option (Int64) :=
  if v1 = (48 : Int32) then
    X7_nameSet_12 σ v1
  else
    if v1 = (49 : Int32) then
      X7_nameSet_12 σ v1
    else
      if v1 = (120 : Int32) then
        X7_nameSet_39 σ v1 v2
      else
        if v1 = (121 : Int32) then
          X7_nameSet_39 σ v1 v2
        else
          bd (X7_bitSet N σ (v1 - (97 : Int32))) (fun t5 =>
          some t5)
set_option maxRecDepth 20000 in
set_option maxHeartbeats 4000000 in
theorem c_X7_nameSet {l : Launch} {D : va_G} {a : Nat → Nat} {cA : Nat → ClassId} {σ : St} {N : Nat} {v1 : Int32} {v2 : Int32} {r : Int64} (h : X7_nameSet N σ v1 v2 = some r) : MetL l yX7_nameSet cX7_nameSet 3 (some .long) 2 D (tyW cA) (wM a cA) EM [.ref (a 0), .int v1, .int v2] σ r σ := by
  refine mkL (by decide) (adrM a cA) rfl (Nat.le_of_ble_eq_true rfl) ?_
  intro p e R s m args below meth c A Q ls X hR hp hl
  obtain ⟨hx, hb, -, hown, hts, -⟩ := id X
  have J_12 : ∀ (v1 : Int32) (H : Heap) (locs : List Loc) (ls : Array Slot), Pw D (wM a cA) A s.heap H locs σ → lv_has ls 3 [(0, .ref (a 0)), (1, .int v1)] → X7_nameSet_12 σ v1 = some r → W p l e R s m args below meth c H locs 0 0 Q (F0 m 12 ls []) := by
    intro v1 H locs ls hp hl h
    unfold X7_nameSet_12 at h
    refine lv_iload_n hx hb dX7_nameSet_12 rfl (lv_at hl 1 rfl) ?_
    refine lv_bipush (v := 49) hx hb dX7_nameSet_13 (by decide) ?_
    refine lv_icmp_ne (tgt := 25) hx hb dX7_nameSet_15 (by decide) (fun c1 => ?_) (fun c1 => ?_)
    · have h := it_n h c1
      refine lv_lconst (v := 0) hx hb dX7_nameSet_25 (by decide) ?_
      exact hR _ _ _ _ _ _ dX7_nameSet_26 hp (Option.some.inj h) rfl
    · have h := it_p h c1
      refine lv_aload_n hx hb dX7_nameSet_18 rfl (lv_at hl 0 rfl) ?_
      obtain ⟨t2, ht2, h⟩ := bd_s h
      refine cl_Vl X eokM (c_X7_all ht2) tw_7_5 mw_X7_all (by decide) hp 0 rfl rfl rfl hl.1 rfl (Nat.le_of_ble_eq_true rfl) dX7_nameSet_19 (fun H locs hp => ?_)
      refine lv_goto (tgt := 26) hx hb dX7_nameSet_22 (by decide) ?_
      exact hR _ _ _ _ _ _ dX7_nameSet_26 hp (Option.some.inj h) rfl
  have J_39 : ∀ (v1 : Int32) (v2 : Int32) (H : Heap) (locs : List Loc) (ls : Array Slot), Pw D (wM a cA) A s.heap H locs σ → lv_has ls 3 [(0, .ref (a 0)), (1, .int v1), (2, .int v2)] → X7_nameSet_39 σ v1 v2 = some r → W p l e R s m args below meth c H locs 0 0 Q (F0 m 39 ls []) := by
    intro v1 v2 H locs ls hp hl h
    unfold X7_nameSet_39 at h
    refine lv_iload_n hx hb dX7_nameSet_39 rfl (lv_at hl 2 rfl) ?_
    refine lv_iload_n hx hb dX7_nameSet_40 rfl (lv_at hl 1 rfl) ?_
    refine lv_bipush (v := 120) hx hb dX7_nameSet_41 (by decide) ?_
    refine lv_isub hx hb dX7_nameSet_43 ?_
    refine lv_ishr hx hb dX7_nameSet_44 ?_
    refine lv_iconst (v := 1) hx hb dX7_nameSet_45 (by decide) ?_
    refine lv_iand hx hb dX7_nameSet_46 ?_
    refine lv_iconst (v := 1) hx hb dX7_nameSet_47 (by decide) ?_
    refine lv_icmp_ne (tgt := 58) hx hb dX7_nameSet_48 (by decide) (fun c1 => ?_) (fun c1 => ?_)
    · have h := it_n h c1
      refine lv_lconst (v := 0) hx hb dX7_nameSet_58 (by decide) ?_
      exact hR _ _ _ _ _ _ dX7_nameSet_59 hp (Option.some.inj h) rfl
    · have h := it_p h c1
      refine lv_aload_n hx hb dX7_nameSet_51 rfl (lv_at hl 0 rfl) ?_
      obtain ⟨t2, ht2, h⟩ := bd_s h
      refine cl_Vl X eokM (c_X7_all ht2) tw_7_5 mw_X7_all (by decide) hp 0 rfl rfl rfl hl.1 rfl (Nat.le_of_ble_eq_true rfl) dX7_nameSet_52 (fun H locs hp => ?_)
      refine lv_goto (tgt := 59) hx hb dX7_nameSet_55 (by decide) ?_
      exact hR _ _ _ _ _ _ dX7_nameSet_59 hp (Option.some.inj h) rfl
  unfold X7_nameSet at h
  have hl := lv_sub (l' := [(0, .ref (a 0)), (1, .int v1), (2, .int v2)]) hl [0, 1, 2] rfl
  refine lv_iload_n hx hb dX7_nameSet_0 rfl (lv_at hl 1 rfl) ?_
  refine lv_bipush (v := 48) hx hb dX7_nameSet_1 (by decide) ?_
  refine lv_icmp_eq (tgt := 12) hx hb dX7_nameSet_3 (by decide) (fun c1 => ?_) (fun c1 => ?_)
  · have h := it_p h c1
    exact J_12 v1 _ _ _ hp (lv_sub hl [0, 1] rfl) h
  · have h := it_n h c1
    refine lv_iload_n hx hb dX7_nameSet_6 rfl (lv_at hl 1 rfl) ?_
    refine lv_bipush (v := 49) hx hb dX7_nameSet_7 (by decide) ?_
    refine lv_icmp_ne (tgt := 27) hx hb dX7_nameSet_9 (by decide) (fun c2 => ?_) (fun c2 => ?_)
    · have h := it_n h c2
      refine lv_iload_n hx hb dX7_nameSet_27 rfl (lv_at hl 1 rfl) ?_
      refine lv_bipush (v := 120) hx hb dX7_nameSet_28 (by decide) ?_
      refine lv_icmp_eq (tgt := 39) hx hb dX7_nameSet_30 (by decide) (fun c3 => ?_) (fun c3 => ?_)
      · have h := it_p h c3
        exact J_39 v1 v2 _ _ _ hp (lv_sub hl [0, 1, 2] rfl) h
      · have h := it_n h c3
        refine lv_iload_n hx hb dX7_nameSet_33 rfl (lv_at hl 1 rfl) ?_
        refine lv_bipush (v := 121) hx hb dX7_nameSet_34 (by decide) ?_
        refine lv_icmp_ne (tgt := 60) hx hb dX7_nameSet_36 (by decide) (fun c4 => ?_) (fun c4 => ?_)
        · have h := it_n h c4
          refine lv_aload_n hx hb dX7_nameSet_60 rfl (lv_at hl 0 rfl) ?_
          refine lv_iload_n hx hb dX7_nameSet_61 rfl (lv_at hl 1 rfl) ?_
          refine lv_bipush (v := 97) hx hb dX7_nameSet_62 (by decide) ?_
          refine lv_isub hx hb dX7_nameSet_64 ?_
          obtain ⟨t5, ht5, h⟩ := bd_s h
          refine cl_Vl X eokM (c_X7_bitSet ht5) tw_6_21 mw_X7_bitSet (by decide) hp 0 rfl rfl rfl hl.1 rfl (Nat.le_of_ble_eq_true rfl) dX7_nameSet_65 (fun H locs hp => ?_)
          exact hR _ _ _ _ _ _ dX7_nameSet_68 hp (Option.some.inj h) rfl
        · have h := it_p h c4
          exact J_39 v1 v2 _ _ _ hp (lv_sub hl [0, 1, 2] rfl) h
    · have h := it_p h c2
      exact J_12 v1 _ _ _ hp (lv_sub hl [0, 1] rfl) h
def X7_pushOperand_2b (N : Nat) (k2 : (Int32 → St → Option (St))) (k32 : (St → Option (St))) (v1 : Int32) (v2 : Int32) (σ : St) : Option (St) :=
  if (4 : Int32) ≤ v2 then
    k32 σ
  else
    bd (X7_nameSet N σ v1 v2) (fun t2 =>
    gd (inb (((4 : Int32) * (σ.1 7)) + v2) 256) (
    nm (sb σ 2 (((4 : Int32) * (σ.1 7)) + v2).toNatClampNeg t2) (fun (σ4 : St) =>
    nm (v2 + (1 : Int32)) (fun (x5 : Int32) =>
    k2 x5 σ4))))
def X7_pushOperand_2 (N : Nat) (k32 : (St → Option (St))) (v1 : Int32) : Nat → Int32 → St → Option (St)
  | 0, _, _ => none
  | n + 1, v2, σ => X7_pushOperand_2b N (fun v2 σ => X7_pushOperand_2 N k32 v1 n v2 σ) k32 v1 v2 σ
def X7_pushOperand_32 (σ : St) : Option (St) :=
  nm (si σ 7 ((σ.1 7) + (1 : Int32))) (fun (σ1 : St) =>
  some σ1)
def X7_pushOperand (N : Nat) (v1 : Int32) (σ : St) : Option (St) :=
  X7_pushOperand_2 N (fun σ => X7_pushOperand_32 σ) v1 N (0 : Int32) σ
set_option maxRecDepth 20000 in
set_option maxHeartbeats 4000000 in
theorem c_X7_pushOperand {l : Launch} {D : va_G} {a : Nat → Nat} {cA : Nat → ClassId} {σ : St} {N : Nat} {v1 : Int32} {σ' : St} (h : X7_pushOperand N v1 σ = some σ') : MetV l yX7_pushOperand cX7_pushOperand 3 none 3 D (tyW cA) (wM a cA) EM [.ref (a 0), .int v1] σ σ' := by
  refine mkV (by decide) (adrM a cA) rfl (Nat.le_of_ble_eq_true rfl) ?_
  intro p e R s m args below meth c A Q ls X hR hp hl
  obtain ⟨hx, hb, -, hown, hts, -⟩ := id X
  have J_2 : ∀ (v1 : Int32) (k32 : (St → Option (St))) (hk32 : ∀ (σ : St) (H : Heap) (locs : List Loc) (ls : Array Slot), Pw D (wM a cA) A s.heap H locs σ → lv_has ls 3 [(0, .ref (a 0))] → k32 σ = some σ' → W p l e R s m args below meth c H locs 0 0 Q (F0 m 32 ls [])) (n : Nat) (v2 : Int32) (σ : St) (H : Heap) (locs : List Loc) (ls : Array Slot), Pw D (wM a cA) A s.heap H locs σ → lv_has ls 3 [(0, .ref (a 0)), (1, .int v1), (2, .int v2)] → X7_pushOperand_2 N k32 v1 n v2 σ = some σ' → W p l e R s m args below meth c H locs 0 0 Q (F0 m 2 ls []) := by
    intro v1 k32 hk32 n
    induction n with
    | zero => intro v2 σ H locs ls hp hl h; exact nn_s (show (none : Option (St)) = some _ from h)
    | succ n ih =>
      intro v2 σ H locs ls hp hl h
      have h : X7_pushOperand_2b N (fun v2 σ => X7_pushOperand_2 N k32 v1 n v2 σ) k32 v1 v2 σ = some σ' := h
      unfold X7_pushOperand_2b at h
      have hk2 := ih
      refine lv_iload_n hx hb dX7_pushOperand_2 rfl (lv_at hl 2 rfl) ?_
      refine lv_iconst (v := 4) hx hb dX7_pushOperand_3 (by decide) ?_
      refine lv_icmp_ge (tgt := 32) hx hb dX7_pushOperand_4 (by decide) (fun c1 => ?_) (fun c1 => ?_)
      · have h := it_p h c1
        exact hk32 σ _ _ _ hp (lv_sub hl [0] rfl) h
      · have h := it_n h c1
        refine lv_aload_n hx hb dX7_pushOperand_7 rfl (lv_at hl 0 rfl) ?_
        refine gM_X7_operands X hp tw_5_21 dX7_pushOperand_8 ?_
        refine lv_iconst (v := 4) hx hb dX7_pushOperand_11 (by decide) ?_
        refine lv_aload_n hx hb dX7_pushOperand_12 rfl (lv_at hl 0 rfl) ?_
        refine gM_X7_operandMany X hp tw_16_8 dX7_pushOperand_13 ?_
        refine lv_imul hx hb dX7_pushOperand_16 ?_
        refine lv_iload_n hx hb dX7_pushOperand_17 rfl (lv_at hl 2 rfl) ?_
        refine lv_iadd hx hb dX7_pushOperand_18 ?_
        refine lv_aload_n hx hb dX7_pushOperand_19 rfl (lv_at hl 0 rfl) ?_
        refine lv_iload_n hx hb dX7_pushOperand_20 rfl (lv_at hl 1 rfl) ?_
        refine lv_iload_n hx hb dX7_pushOperand_21 rfl (lv_at hl 2 rfl) ?_
        obtain ⟨t2, ht2, h⟩ := bd_s h
        refine cl_Vl X eokM (c_X7_nameSet ht2) tw_17_8 mw_X7_nameSet (by decide) hp 0 rfl rfl rfl hl.1 rfl (Nat.le_of_ble_eq_true rfl) dX7_pushOperand_22 (fun H locs hp => ?_)
        obtain ⟨g3, h⟩ := gd_s h
        refine sM_X7_operands X hp g3 dX7_pushOperand_25 (fun H locs σ4 eσ4 hp => ?_)
        have h := nm_s h σ4 eσ4
        obtain ⟨x5, ex5⟩ : ∃ z : Int32, z = v2 + (1 : Int32) := ⟨_, rfl⟩
        have h := nm_s h x5 ex5
        refine lv_iinc (v := x5) (lv' := [(2, .int x5), (0, .ref (a 0)), (1, .int v1)]) hx hb dX7_pushOperand_26 hl (k := 2) rfl (by rw [ex5]; rfl) (by decide) rfl (fun ls hl => ?_)
        refine lv_goto (tgt := 2) hx hb dX7_pushOperand_29 (by decide) ?_
        exact hk2 x5 σ4 _ _ _ hp (lv_sub hl [1, 2, 0] rfl) h
  have J_32 : ∀  (σ : St) (H : Heap) (locs : List Loc) (ls : Array Slot), Pw D (wM a cA) A s.heap H locs σ → lv_has ls 3 [(0, .ref (a 0))] → X7_pushOperand_32 σ = some σ' → W p l e R s m args below meth c H locs 0 0 Q (F0 m 32 ls []) := by
    intro σ H locs ls hp hl h
    unfold X7_pushOperand_32 at h
    refine lv_aload_n hx hb dX7_pushOperand_32 rfl (lv_at hl 0 rfl) ?_
    refine lv_dup hx hb dX7_pushOperand_33 rfl ?_
    refine gM_X7_operandMany X hp tw_16_8 dX7_pushOperand_34 ?_
    refine lv_iconst (v := 1) hx hb dX7_pushOperand_37 (by decide) ?_
    refine lv_iadd hx hb dX7_pushOperand_38 ?_
    refine pM_X7_operandMany X hp tw_16_8 dX7_pushOperand_39 (fun H locs σ1 eσ1 hp => ?_)
    have h := nm_s h σ1 eσ1
    exact hR _ _ _ _ _ dX7_pushOperand_42 hp (Option.some.inj h)
  unfold X7_pushOperand at h
  have hl := lv_sub (l' := [(0, .ref (a 0)), (1, .int v1)]) hl [0, 1] rfl
  refine lv_iconst (v := 0) hx hb dX7_pushOperand_0 (by decide) ?_
  refine lv_istore_n (lv' := [(2, .int (0 : Int32)), (0, .ref (a 0)), (1, .int v1)]) hx hb dX7_pushOperand_1 rfl hl (by decide) rfl (fun ls hl => ?_)
  exact J_2 v1 _ (fun σ H locs ls hp hl h => J_32 σ _ _ _ hp hl h) _ (0 : Int32) σ _ _ _ hp (lv_sub hl [1, 2, 0] rfl) h
def X7_joined (v0 : Int32) (v1 : Int64) (v3 : Int64) : Option (Int64) :=
  if v0 = (38 : Int32) then
    some (v1 &&& v3)
  else
    if v0 = (94 : Int32) then
      some (v1 ^^^ v3)
    else
      some (v1 ||| v3)
set_option maxRecDepth 20000 in
set_option maxHeartbeats 4000000 in
theorem c_X7_joined {l : Launch} {D : va_G} {tys : List (ClassId × FieldType)} {w : St → va_W} {E : (Nat → Prop) → State → Prop} (hw : Adr w) (hE : EOK E) {σ : St} {v0 : Int32} {v1 : Int64} {v3 : Int64} {r : Int64} (h : X7_joined v0 v1 v3 = some r) : MetL l yX7_joined cX7_joined 5 (some .long) 0 D tys w E [.int v0, .long v1, .long v3] σ r σ := by
  refine mkL (by decide) hw rfl (Nat.le_of_ble_eq_true rfl) ?_
  intro p e R s m args below meth c A Q ls X hR hp hl
  obtain ⟨hx, hb, -, hown, hts, -⟩ := id X
  unfold X7_joined at h
  have hl := lv_sub (l' := [(0, .int v0), (1, .long v1), (3, .long v3)]) hl [0, 1, 2] rfl
  refine lv_iload_n hx hb dX7_joined_0 rfl (lv_at hl 0 rfl) ?_
  refine lv_bipush (v := 38) hx hb dX7_joined_1 (by decide) ?_
  refine lv_icmp_ne (tgt := 12) hx hb dX7_joined_3 (by decide) (fun c1 => ?_) (fun c1 => ?_)
  · have h := it_n h c1
    refine lv_iload_n hx hb dX7_joined_12 rfl (lv_at hl 0 rfl) ?_
    refine lv_bipush (v := 94) hx hb dX7_joined_13 (by decide) ?_
    refine lv_icmp_ne (tgt := 24) hx hb dX7_joined_15 (by decide) (fun c2 => ?_) (fun c2 => ?_)
    · have h := it_n h c2
      refine lv_lload_n hx hb dX7_joined_24 rfl (lv_at hl 1 rfl) ?_
      refine lv_lload_n hx hb dX7_joined_25 rfl (lv_at hl 2 rfl) ?_
      refine lv_lor hx hb dX7_joined_26 ?_
      exact hR _ _ _ _ _ _ dX7_joined_27 hp (Option.some.inj h) rfl
    · have h := it_p h c2
      refine lv_lload_n hx hb dX7_joined_18 rfl (lv_at hl 1 rfl) ?_
      refine lv_lload_n hx hb dX7_joined_19 rfl (lv_at hl 2 rfl) ?_
      refine lv_lxor hx hb dX7_joined_20 ?_
      refine lv_goto (tgt := 27) hx hb dX7_joined_21 (by decide) ?_
      exact hR _ _ _ _ _ _ dX7_joined_27 hp (Option.some.inj h) rfl
  · have h := it_p h c1
    refine lv_lload_n hx hb dX7_joined_6 rfl (lv_at hl 1 rfl) ?_
    refine lv_lload_n hx hb dX7_joined_7 rfl (lv_at hl 2 rfl) ?_
    refine lv_land hx hb dX7_joined_8 ?_
    refine lv_goto (tgt := 27) hx hb dX7_joined_9 (by decide) ?_
    exact hR _ _ _ _ _ _ dX7_joined_27 hp (Option.some.inj h) rfl
def X7_doSign_22b (k22 : (Int32 → St → Option (St))) (k78 : (Int32 → St → Option (St))) (v1 : Int32) (v2 : Int32) (σ : St) : Option (St) :=
  if (4 : Int32) ≤ v2 then
    k78 v1 σ
  else
    if v1 = (33 : Int32) then
      bd (X7_all σ) (fun t3 =>
      gd (inb ((((4 : Int32) * (σ.1 7)) - (4 : Int32)) + v2) 256) (
      gd (inb ((((4 : Int32) * (σ.1 7)) - (4 : Int32)) + v2) 256) (
      nm (sb σ 2 ((((4 : Int32) * (σ.1 7)) - (4 : Int32)) + v2).toNatClampNeg (t3 &&& ((σ.2.2.2 2 ((((4 : Int32) * (σ.1 7)) - (4 : Int32)) + v2).toNatClampNeg) ^^^ (-1 : Int64)))) (fun (σ6 : St) =>
      nm (v2 + (1 : Int32)) (fun (x7 : Int32) =>
      k22 x7 σ6)))))
    else
      k78 v1 σ
def X7_doSign_22 (k78 : (Int32 → St → Option (St))) (v1 : Int32) : Nat → Int32 → St → Option (St)
  | 0, _, _ => none
  | n + 1, v2, σ => X7_doSign_22b (fun v2 σ => X7_doSign_22 k78 v1 n v2 σ) k78 v1 v2 σ
def X7_doSign_80b (k80 : (Int32 → St → Option (St))) (k148 : (Int32 → St → Option (St))) (v1 : Int32) (v2 : Int32) (σ : St) : Option (St) :=
  if (4 : Int32) ≤ v2 then
    k148 v1 σ
  else
    if v1 = (33 : Int32) then
      k148 v1 σ
    else
      gd (inb ((((4 : Int32) * (σ.1 7)) - (8 : Int32)) + v2) 256) (
      gd (inb ((((4 : Int32) * (σ.1 7)) - (4 : Int32)) + v2) 256) (
      bd (X7_joined v1 (σ.2.2.2 2 ((((4 : Int32) * (σ.1 7)) - (8 : Int32)) + v2).toNatClampNeg) (σ.2.2.2 2 ((((4 : Int32) * (σ.1 7)) - (4 : Int32)) + v2).toNatClampNeg)) (fun t5 =>
      gd (inb ((((4 : Int32) * (σ.1 7)) - (8 : Int32)) + v2) 256) (
      nm (sb σ 2 ((((4 : Int32) * (σ.1 7)) - (8 : Int32)) + v2).toNatClampNeg t5) (fun (σ7 : St) =>
      nm (v2 + (1 : Int32)) (fun (x8 : Int32) =>
      k80 x8 σ7))))))
def X7_doSign_80 (k148 : (Int32 → St → Option (St))) (v1 : Int32) : Nat → Int32 → St → Option (St)
  | 0, _, _ => none
  | n + 1, v2, σ => X7_doSign_80b (fun v2 σ => X7_doSign_80 k148 v1 n v2 σ) k148 v1 v2 σ
def X7_doSign_164 (u0 : Int32) (u1 : Int32) (σ : St) : Option (St) :=
  nm (si σ 7 (u1 - u0)) (fun (σ1 : St) =>
  some σ1)
def X7_doSign_148 (v1 : Int32) (σ : St) : Option (St) :=
  if v1 = (33 : Int32) then
    X7_doSign_164 (0 : Int32) (σ.1 7) σ
  else
    X7_doSign_164 (1 : Int32) (σ.1 7) σ
def X7_doSign_78 (N : Nat) (v1 : Int32) (σ : St) : Option (St) :=
  X7_doSign_80 (fun v1 σ => X7_doSign_148 v1 σ) v1 N (0 : Int32) σ
def X7_doSign (N : Nat) (σ : St) : Option (St) :=
  nm (si σ 8 ((σ.1 8) - (1 : Int32))) (fun (σ1 : St) =>
  gd (inb (σ1.1 8) 64) (
  nm (σ1.2.2.1 2 (σ1.1 8).toNatClampNeg) (fun (x3 : Int32) =>
  X7_doSign_22 (fun v1 σ => X7_doSign_78 N v1 σ) x3 N (0 : Int32) σ1)))
set_option maxRecDepth 20000 in
set_option maxHeartbeats 4000000 in
theorem c_X7_doSign {l : Launch} {D : va_G} {a : Nat → Nat} {cA : Nat → ClassId} {σ : St} {N : Nat} {σ' : St} (h : X7_doSign N σ = some σ') : MetV l yX7_doSign cX7_doSign 3 none 2 D (tyW cA) (wM a cA) EM [.ref (a 0)] σ σ' := by
  refine mkV (by decide) (adrM a cA) rfl (Nat.le_of_ble_eq_true rfl) ?_
  intro p e R s m args below meth c A Q ls X hR hp hl
  obtain ⟨hx, hb, -, hown, hts, -⟩ := id X
  have J_22 : ∀ (v1 : Int32) (k78 : (Int32 → St → Option (St))) (hk78 : ∀ (v1 : Int32) (σ : St) (H : Heap) (locs : List Loc) (ls : Array Slot), Pw D (wM a cA) A s.heap H locs σ → lv_has ls 3 [(0, .ref (a 0)), (1, .int v1)] → k78 v1 σ = some σ' → W p l e R s m args below meth c H locs 0 0 Q (F0 m 78 ls [])) (n : Nat) (v2 : Int32) (σ : St) (H : Heap) (locs : List Loc) (ls : Array Slot), Pw D (wM a cA) A s.heap H locs σ → lv_has ls 3 [(0, .ref (a 0)), (1, .int v1), (2, .int v2)] → X7_doSign_22 k78 v1 n v2 σ = some σ' → W p l e R s m args below meth c H locs 0 0 Q (F0 m 22 ls []) := by
    intro v1 k78 hk78 n
    induction n with
    | zero => intro v2 σ H locs ls hp hl h; exact nn_s (show (none : Option (St)) = some _ from h)
    | succ n ih =>
      intro v2 σ H locs ls hp hl h
      have h : X7_doSign_22b (fun v2 σ => X7_doSign_22 k78 v1 n v2 σ) k78 v1 v2 σ = some σ' := h
      unfold X7_doSign_22b at h
      have hk22 := ih
      refine lv_iload_n hx hb dX7_doSign_22 rfl (lv_at hl 2 rfl) ?_
      refine lv_iconst (v := 4) hx hb dX7_doSign_23 (by decide) ?_
      refine lv_icmp_ge (tgt := 78) hx hb dX7_doSign_24 (by decide) (fun c1 => ?_) (fun c1 => ?_)
      · have h := it_p h c1
        exact hk78 v1 σ _ _ _ hp (lv_sub hl [0, 1] rfl) h
      · have h := it_n h c1
        refine lv_iload_n hx hb dX7_doSign_27 rfl (lv_at hl 1 rfl) ?_
        refine lv_bipush (v := 33) hx hb dX7_doSign_28 (by decide) ?_
        refine lv_icmp_ne (tgt := 78) hx hb dX7_doSign_30 (by decide) (fun c2 => ?_) (fun c2 => ?_)
        · have h := it_n h c2
          exact hk78 v1 σ _ _ _ hp (lv_sub hl [0, 1] rfl) h
        · have h := it_p h c2
          refine lv_aload_n hx hb dX7_doSign_33 rfl (lv_at hl 0 rfl) ?_
          refine gM_X7_operands X hp tw_5_21 dX7_doSign_34 ?_
          refine lv_iconst (v := 4) hx hb dX7_doSign_37 (by decide) ?_
          refine lv_aload_n hx hb dX7_doSign_38 rfl (lv_at hl 0 rfl) ?_
          refine gM_X7_operandMany X hp tw_16_8 dX7_doSign_39 ?_
          refine lv_imul hx hb dX7_doSign_42 ?_
          refine lv_iconst (v := 4) hx hb dX7_doSign_43 (by decide) ?_
          refine lv_isub hx hb dX7_doSign_44 ?_
          refine lv_iload_n hx hb dX7_doSign_45 rfl (lv_at hl 2 rfl) ?_
          refine lv_iadd hx hb dX7_doSign_46 ?_
          refine lv_aload_n hx hb dX7_doSign_47 rfl (lv_at hl 0 rfl) ?_
          obtain ⟨t3, ht3, h⟩ := bd_s h
          refine cl_Vl X eokM (c_X7_all ht3) tw_7_5 mw_X7_all (by decide) hp 0 rfl rfl rfl hl.1 rfl (Nat.le_of_ble_eq_true rfl) dX7_doSign_48 (fun H locs hp => ?_)
          refine lv_aload_n hx hb dX7_doSign_51 rfl (lv_at hl 0 rfl) ?_
          refine gM_X7_operands X hp tw_5_21 dX7_doSign_52 ?_
          refine lv_iconst (v := 4) hx hb dX7_doSign_55 (by decide) ?_
          refine lv_aload_n hx hb dX7_doSign_56 rfl (lv_at hl 0 rfl) ?_
          refine gM_X7_operandMany X hp tw_16_8 dX7_doSign_57 ?_
          refine lv_imul hx hb dX7_doSign_60 ?_
          refine lv_iconst (v := 4) hx hb dX7_doSign_61 (by decide) ?_
          refine lv_isub hx hb dX7_doSign_62 ?_
          refine lv_iload_n hx hb dX7_doSign_63 rfl (lv_at hl 2 rfl) ?_
          refine lv_iadd hx hb dX7_doSign_64 ?_
          obtain ⟨g4, h⟩ := gd_s h
          refine lM_X7_operands X hp g4 dX7_doSign_65 ?_
          refine lv_ldc2 hx hb hown (hts _ tw_7_9) dX7_doSign_66 ?_
          refine lv_lxor hx hb dX7_doSign_69 ?_
          refine lv_land hx hb dX7_doSign_70 ?_
          obtain ⟨g5, h⟩ := gd_s h
          refine sM_X7_operands X hp g5 dX7_doSign_71 (fun H locs σ6 eσ6 hp => ?_)
          have h := nm_s h σ6 eσ6
          obtain ⟨x7, ex7⟩ : ∃ z : Int32, z = v2 + (1 : Int32) := ⟨_, rfl⟩
          have h := nm_s h x7 ex7
          refine lv_iinc (v := x7) (lv' := [(2, .int x7), (0, .ref (a 0)), (1, .int v1)]) hx hb dX7_doSign_72 hl (k := 2) rfl (by rw [ex7]; rfl) (by decide) rfl (fun ls hl => ?_)
          refine lv_goto (tgt := 22) hx hb dX7_doSign_75 (by decide) ?_
          exact hk22 x7 σ6 _ _ _ hp (lv_sub hl [1, 2, 0] rfl) h
  have J_80 : ∀ (v1 : Int32) (k148 : (Int32 → St → Option (St))) (hk148 : ∀ (v1 : Int32) (σ : St) (H : Heap) (locs : List Loc) (ls : Array Slot), Pw D (wM a cA) A s.heap H locs σ → lv_has ls 3 [(0, .ref (a 0)), (1, .int v1)] → k148 v1 σ = some σ' → W p l e R s m args below meth c H locs 0 0 Q (F0 m 148 ls [])) (n : Nat) (v2 : Int32) (σ : St) (H : Heap) (locs : List Loc) (ls : Array Slot), Pw D (wM a cA) A s.heap H locs σ → lv_has ls 3 [(0, .ref (a 0)), (1, .int v1), (2, .int v2)] → X7_doSign_80 k148 v1 n v2 σ = some σ' → W p l e R s m args below meth c H locs 0 0 Q (F0 m 80 ls []) := by
    intro v1 k148 hk148 n
    induction n with
    | zero => intro v2 σ H locs ls hp hl h; exact nn_s (show (none : Option (St)) = some _ from h)
    | succ n ih =>
      intro v2 σ H locs ls hp hl h
      have h : X7_doSign_80b (fun v2 σ => X7_doSign_80 k148 v1 n v2 σ) k148 v1 v2 σ = some σ' := h
      unfold X7_doSign_80b at h
      have hk80 := ih
      refine lv_iload_n hx hb dX7_doSign_80 rfl (lv_at hl 2 rfl) ?_
      refine lv_iconst (v := 4) hx hb dX7_doSign_81 (by decide) ?_
      refine lv_icmp_ge (tgt := 148) hx hb dX7_doSign_82 (by decide) (fun c1 => ?_) (fun c1 => ?_)
      · have h := it_p h c1
        exact hk148 v1 σ _ _ _ hp (lv_sub hl [0, 1] rfl) h
      · have h := it_n h c1
        refine lv_iload_n hx hb dX7_doSign_85 rfl (lv_at hl 1 rfl) ?_
        refine lv_bipush (v := 33) hx hb dX7_doSign_86 (by decide) ?_
        refine lv_icmp_eq (tgt := 148) hx hb dX7_doSign_88 (by decide) (fun c2 => ?_) (fun c2 => ?_)
        · have h := it_p h c2
          exact hk148 v1 σ _ _ _ hp (lv_sub hl [0, 1] rfl) h
        · have h := it_n h c2
          refine lv_aload_n hx hb dX7_doSign_91 rfl (lv_at hl 0 rfl) ?_
          refine gM_X7_operands X hp tw_5_21 dX7_doSign_92 ?_
          refine lv_iconst (v := 4) hx hb dX7_doSign_95 (by decide) ?_
          refine lv_aload_n hx hb dX7_doSign_96 rfl (lv_at hl 0 rfl) ?_
          refine gM_X7_operandMany X hp tw_16_8 dX7_doSign_97 ?_
          refine lv_imul hx hb dX7_doSign_100 ?_
          refine lv_bipush (v := 8) hx hb dX7_doSign_101 (by decide) ?_
          refine lv_isub hx hb dX7_doSign_103 ?_
          refine lv_iload_n hx hb dX7_doSign_104 rfl (lv_at hl 2 rfl) ?_
          refine lv_iadd hx hb dX7_doSign_105 ?_
          refine lv_iload_n hx hb dX7_doSign_106 rfl (lv_at hl 1 rfl) ?_
          refine lv_aload_n hx hb dX7_doSign_107 rfl (lv_at hl 0 rfl) ?_
          refine gM_X7_operands X hp tw_5_21 dX7_doSign_108 ?_
          refine lv_iconst (v := 4) hx hb dX7_doSign_111 (by decide) ?_
          refine lv_aload_n hx hb dX7_doSign_112 rfl (lv_at hl 0 rfl) ?_
          refine gM_X7_operandMany X hp tw_16_8 dX7_doSign_113 ?_
          refine lv_imul hx hb dX7_doSign_116 ?_
          refine lv_bipush (v := 8) hx hb dX7_doSign_117 (by decide) ?_
          refine lv_isub hx hb dX7_doSign_119 ?_
          refine lv_iload_n hx hb dX7_doSign_120 rfl (lv_at hl 2 rfl) ?_
          refine lv_iadd hx hb dX7_doSign_121 ?_
          obtain ⟨g3, h⟩ := gd_s h
          refine lM_X7_operands X hp g3 dX7_doSign_122 ?_
          refine lv_aload_n hx hb dX7_doSign_123 rfl (lv_at hl 0 rfl) ?_
          refine gM_X7_operands X hp tw_5_21 dX7_doSign_124 ?_
          refine lv_iconst (v := 4) hx hb dX7_doSign_127 (by decide) ?_
          refine lv_aload_n hx hb dX7_doSign_128 rfl (lv_at hl 0 rfl) ?_
          refine gM_X7_operandMany X hp tw_16_8 dX7_doSign_129 ?_
          refine lv_imul hx hb dX7_doSign_132 ?_
          refine lv_iconst (v := 4) hx hb dX7_doSign_133 (by decide) ?_
          refine lv_isub hx hb dX7_doSign_134 ?_
          refine lv_iload_n hx hb dX7_doSign_135 rfl (lv_at hl 2 rfl) ?_
          refine lv_iadd hx hb dX7_doSign_136 ?_
          obtain ⟨g4, h⟩ := gd_s h
          refine lM_X7_operands X hp g4 dX7_doSign_137 ?_
          obtain ⟨t5, ht5, h⟩ := bd_s h
          refine cl_Sl X eokM (c_X7_joined (adrM a cA) eokM ht5) tw_17_1 mw_X7_joined (by decide) hp hl.1 rfl (Nat.le_of_ble_eq_true rfl) dX7_doSign_138 (fun H locs hp => ?_)
          obtain ⟨g6, h⟩ := gd_s h
          refine sM_X7_operands X hp g6 dX7_doSign_141 (fun H locs σ7 eσ7 hp => ?_)
          have h := nm_s h σ7 eσ7
          obtain ⟨x8, ex8⟩ : ∃ z : Int32, z = v2 + (1 : Int32) := ⟨_, rfl⟩
          have h := nm_s h x8 ex8
          refine lv_iinc (v := x8) (lv' := [(2, .int x8), (0, .ref (a 0)), (1, .int v1)]) hx hb dX7_doSign_142 hl (k := 2) rfl (by rw [ex8]; rfl) (by decide) rfl (fun ls hl => ?_)
          refine lv_goto (tgt := 80) hx hb dX7_doSign_145 (by decide) ?_
          exact hk80 x8 σ7 _ _ _ hp (lv_sub hl [1, 2, 0] rfl) h
  have J_164 : ∀ (u0 : Int32) (u1 : Int32) (σ : St) (H : Heap) (locs : List Loc) (ls : Array Slot), Pw D (wM a cA) A s.heap H locs σ → lv_has ls 3 [(0, .ref (a 0))] → X7_doSign_164 u0 u1 σ = some σ' → W p l e R s m args below meth c H locs 0 0 Q (F0 m 164 ls [.int u0, .int u1, .ref (a 0)]) := by
    intro u0 u1 σ H locs ls hp hl h
    unfold X7_doSign_164 at h
    refine lv_isub hx hb dX7_doSign_164 ?_
    refine pM_X7_operandMany X hp tw_16_8 dX7_doSign_165 (fun H locs σ1 eσ1 hp => ?_)
    have h := nm_s h σ1 eσ1
    exact hR _ _ _ _ _ dX7_doSign_168 hp (Option.some.inj h)
  have J_148 : ∀ (v1 : Int32) (σ : St) (H : Heap) (locs : List Loc) (ls : Array Slot), Pw D (wM a cA) A s.heap H locs σ → lv_has ls 3 [(0, .ref (a 0)), (1, .int v1)] → X7_doSign_148 v1 σ = some σ' → W p l e R s m args below meth c H locs 0 0 Q (F0 m 148 ls []) := by
    intro v1 σ H locs ls hp hl h
    unfold X7_doSign_148 at h
    refine lv_aload_n hx hb dX7_doSign_148 rfl (lv_at hl 0 rfl) ?_
    refine lv_dup hx hb dX7_doSign_149 rfl ?_
    refine gM_X7_operandMany X hp tw_16_8 dX7_doSign_150 ?_
    refine lv_iload_n hx hb dX7_doSign_153 rfl (lv_at hl 1 rfl) ?_
    refine lv_bipush (v := 33) hx hb dX7_doSign_154 (by decide) ?_
    refine lv_icmp_ne (tgt := 163) hx hb dX7_doSign_156 (by decide) (fun c1 => ?_) (fun c1 => ?_)
    · have h := it_n h c1
      refine lv_iconst (v := 1) hx hb dX7_doSign_163 (by decide) ?_
      exact J_164 (1 : Int32) (σ.1 7) σ _ _ _ hp (lv_sub hl [0] rfl) h
    · have h := it_p h c1
      refine lv_iconst (v := 0) hx hb dX7_doSign_159 (by decide) ?_
      refine lv_goto (tgt := 164) hx hb dX7_doSign_160 (by decide) ?_
      exact J_164 (0 : Int32) (σ.1 7) σ _ _ _ hp (lv_sub hl [0] rfl) h
  have J_78 : ∀ (v1 : Int32) (σ : St) (H : Heap) (locs : List Loc) (ls : Array Slot), Pw D (wM a cA) A s.heap H locs σ → lv_has ls 3 [(0, .ref (a 0)), (1, .int v1)] → X7_doSign_78 N v1 σ = some σ' → W p l e R s m args below meth c H locs 0 0 Q (F0 m 78 ls []) := by
    intro v1 σ H locs ls hp hl h
    unfold X7_doSign_78 at h
    refine lv_iconst (v := 0) hx hb dX7_doSign_78 (by decide) ?_
    refine lv_istore_n (lv' := [(2, .int (0 : Int32)), (0, .ref (a 0)), (1, .int v1)]) hx hb dX7_doSign_79 rfl hl (by decide) rfl (fun ls hl => ?_)
    exact J_80 v1 _ (fun v1 σ H locs ls hp hl h => J_148 v1 σ _ _ _ hp hl h) _ (0 : Int32) σ _ _ _ hp (lv_sub hl [1, 2, 0] rfl) h
  unfold X7_doSign at h
  have hl := lv_sub (l' := [(0, .ref (a 0))]) hl [0] rfl
  refine lv_aload_n hx hb dX7_doSign_0 rfl (lv_at hl 0 rfl) ?_
  refine lv_dup hx hb dX7_doSign_1 rfl ?_
  refine gM_X7_signMany X hp tw_16_9 dX7_doSign_2 ?_
  refine lv_iconst (v := 1) hx hb dX7_doSign_5 (by decide) ?_
  refine lv_isub hx hb dX7_doSign_6 ?_
  refine pM_X7_signMany X hp tw_16_9 dX7_doSign_7 (fun H locs σ1 eσ1 hp => ?_)
  have h := nm_s h σ1 eσ1
  refine lv_aload_n hx hb dX7_doSign_10 rfl (lv_at hl 0 rfl) ?_
  refine gM_X7_signs X hp tw_5_22 dX7_doSign_11 ?_
  refine lv_aload_n hx hb dX7_doSign_14 rfl (lv_at hl 0 rfl) ?_
  refine gM_X7_signMany X hp tw_16_9 dX7_doSign_15 ?_
  obtain ⟨g2, h⟩ := gd_s h
  refine lM_X7_signs X hp g2 dX7_doSign_18 ?_
  refine lv_topi (fun x3 ex3 => ?_)
  have h := nm_s h x3 ex3
  refine lv_istore_n (lv' := [(1, .int x3), (0, .ref (a 0))]) hx hb dX7_doSign_19 rfl hl (by decide) rfl (fun ls hl => ?_)
  refine lv_iconst (v := 0) hx hb dX7_doSign_20 (by decide) ?_
  refine lv_istore_n (lv' := [(2, .int (0 : Int32)), (1, .int x3), (0, .ref (a 0))]) hx hb dX7_doSign_21 rfl hl (by decide) rfl (fun ls hl => ?_)
  exact J_22 x3 _ (fun v1 σ H locs ls hp hl h => J_78 v1 σ _ _ _ hp hl h) _ (0 : Int32) σ1 _ _ _ hp (lv_sub hl [2, 1, 0] rfl) h
