/- X6_requireState X6_requireStateFormula X6_requireProof X6_requireSafeProof X6_begin X6_append X6_setNext X6_setInit X6_setProperty X6_undo X6_successor X6_state X6_system X6_shortest X6_candidate X6_check X6_escape X6_modal X6_proof X6_frame X6_cube X6_certificate X6_shrunken X6_elimination X6_isSafeWithFree X6_simulate -/
def X6_requireState_t_15 (σ : St) : Option (Nat × St) :=
  some (3, σ)
def X6_requireState_t (v1 : Int32) (σ : St) : Option (Nat × St) :=
  if v1 < 0 then
    X6_requireState_t_15 σ
  else
    if v1 < (σ.1 7) then
      none
    else
      X6_requireState_t_15 σ
set_option maxRecDepth 20000 in
set_option maxHeartbeats 4000000 in
theorem c_X6_requireState_t {l : Launch} (hl0 : l.stackTraces = false) {D : va_G} {a : Nat → Nat} {cA : Nat → ClassId} {t : Nat} {σ : St} {v1 : Int32} {k : Nat} {σ' : St} (h : X6_requireState_t v1 σ = some (k, σ')) : MetX l yX6_requireState cX6_requireState 2 none 6 D (tyW cA) (wS a cA) (ES t FX) [.ref (a 0), .int v1] σ k σ' := by
  refine mkX hl0 (by decide) rfl (by decide) (Nat.le_of_ble_eq_true rfl) ?_
  intro p e R s m args below meth c A Q ls X hRc hT hTW hO hp hl
  obtain ⟨hx, hb, -, hown, hts, -⟩ := id X
  have hF : EOK FX := eokX
  have J_15 : ∀  (σ : St) (H : Heap) (locs : List Loc) (ls : Array Slot), Pw D (wS a cA) A s.heap H locs σ → lv_has ls 2 [(0, .ref (a 0))] → X6_requireState_t_15 σ = some (k, σ') → W p l e R s m args below meth c H locs 0 0 Q (F0 m 15 ls []) := by
    intro σ H locs ls hp hl h
    unfold X6_requireState_t_15 at h
    exact hTW 3 _ _ _ _ _ _ 331 "there is no such state" (Or.inr (Or.inr rfl)) hl.1 (List.mem_of_getElem? (i := 21) rfl) dX6_requireState_15 dX6_requireState_18 dX6_requireState_19 dX6_requireState_22 dX6_requireState_25 (Nat.le_of_ble_eq_true rfl) hp (congrArg Prod.fst (Option.some.inj h)) (congrArg Prod.snd (Option.some.inj h))
  unfold X6_requireState_t at h
  have hl := lv_sub (l' := [(0, .ref (a 0)), (1, .int v1)]) hl [0, 1] rfl
  refine lv_iload_n hx hb dX6_requireState_0 rfl (lv_at hl 1 rfl) ?_
  refine lv_if_lt (tgt := 15) hx hb dX6_requireState_1 (by decide) (fun c1 => ?_) (fun c1 => ?_)
  · have h := it_p h c1
    exact J_15 σ _ _ _ hp (lv_sub hl [0] rfl) h
  · have h := it_n h c1
    refine lv_iload_n hx hb dX6_requireState_4 rfl (lv_at hl 1 rfl) ?_
    refine lv_aload_n hx hb dX6_requireState_5 rfl (lv_at hl 0 rfl) ?_
    refine gS_X6_circuit X hp tw_1_20 dX6_requireState_6 ?_
    refine gS_X0_states X hp tw_7_21 dX6_requireState_9 ?_
    refine lv_icmp_lt (tgt := 26) hx hb dX6_requireState_12 (by decide) (fun c2 => ?_) (fun c2 => ?_)
    · have h := it_p h c2
      exact nn_s h
    · have h := it_n h c2
      exact J_15 σ _ _ _ hp (lv_sub hl [0] rfl) h
def X6_requireStateFormula_t_34 (N : Nat) (σ : St) : Option (Nat × St) :=
  some (2, σ)
def X6_requireStateFormula_t (N : Nat) (σ : St) : Option (Nat × St) :=
  bd (X3_isFormula N (σ.1 5) (σ.1 6) σ) (fun t1 =>
  if t1.1 = 0 then
    X6_requireStateFormula_t_34 N t1.2
  else
    bd (X3_hasInputName N t1.2) (fun t3 =>
    if t3 = 0 then
      none
    else
      X6_requireStateFormula_t_34 N t1.2))
set_option maxRecDepth 20000 in
set_option maxHeartbeats 4000000 in
theorem c_X6_requireStateFormula_t {l : Launch} (hl0 : l.stackTraces = false) {D : va_G} {a : Nat → Nat} {cA : Nat → ClassId} {t : Nat} {σ : St} {N : Nat} {k : Nat} {σ' : St} (h : X6_requireStateFormula_t N σ = some (k, σ')) : MetX l yX6_requireStateFormula cX6_requireStateFormula 1 none 6 D (tyW cA) (wS a cA) (ES t FX) [.ref (a 0)] σ k σ' := by
  refine mkX hl0 (by decide) rfl (by decide) (Nat.le_of_ble_eq_true rfl) ?_
  intro p e R s m args below meth c A Q ls X hRc hT hTW hO hp hl
  obtain ⟨hx, hb, -, hown, hts, -⟩ := id X
  have hF : EOK FX := eokX
  have J_34 : ∀  (σ : St) (H : Heap) (locs : List Loc) (ls : Array Slot), Pw D (wS a cA) A s.heap H locs σ → lv_has ls 1 [(0, .ref (a 0))] → X6_requireStateFormula_t_34 N σ = some (k, σ') → W p l e R s m args below meth c H locs 0 0 Q (F0 m 34 ls []) := by
    intro σ H locs ls hp hl h
    unfold X6_requireStateFormula_t_34 at h
    exact hTW 2 _ _ _ _ _ _ 336 "the buffer is not a formula without inputs" (Or.inr (Or.inl rfl)) hl.1 (List.mem_of_getElem? (i := 22) rfl) dX6_requireStateFormula_34 dX6_requireStateFormula_37 dX6_requireStateFormula_38 dX6_requireStateFormula_41 dX6_requireStateFormula_44 (Nat.le_of_ble_eq_true rfl) hp (congrArg Prod.fst (Option.some.inj h)) (congrArg Prod.snd (Option.some.inj h))
  unfold X6_requireStateFormula_t at h
  have hl := lv_sub (l' := [(0, .ref (a 0))]) hl [0] rfl
  refine lv_aload_n hx hb dX6_requireStateFormula_0 rfl (lv_at hl 0 rfl) ?_
  refine gS_X6_buffer X hp tw_1_16 dX6_requireStateFormula_1 ?_
  refine lv_aload_n hx hb dX6_requireStateFormula_4 rfl (lv_at hl 0 rfl) ?_
  refine gS_X6_circuit X hp tw_1_20 dX6_requireStateFormula_5 ?_
  refine gS_X0_bits X hp tw_10_6 dX6_requireStateFormula_8 ?_
  refine lv_aload_n hx hb dX6_requireStateFormula_11 rfl (lv_at hl 0 rfl) ?_
  refine gS_X6_circuit X hp tw_1_20 dX6_requireStateFormula_12 ?_
  refine gS_X0_inputs X hp tw_10_7 dX6_requireStateFormula_15 ?_
  obtain ⟨t1, ht1, h⟩ := bd_s h
  refine cl_Vi X (eokS hF) (c_X3_isFormula hF ht1) tw_12_19 mw_X3_isFormula (by decide) hp 1 rfl rfl rfl hl.1 rfl (Nat.le_of_ble_eq_true rfl) dX6_requireStateFormula_18 (fun H locs hp => ?_)
  refine lv_if_eq (tgt := 34) hx hb dX6_requireStateFormula_21 (by decide) (fun c2 => ?_) (fun c2 => ?_)
  · have h := it_p h c2
    exact J_34 t1.2 _ _ _ hp (lv_sub hl [0] rfl) h
  · have h := it_n h c2
    refine lv_aload_n hx hb dX6_requireStateFormula_24 rfl (lv_at hl 0 rfl) ?_
    refine gS_X6_buffer X hp tw_1_16 dX6_requireStateFormula_25 ?_
    obtain ⟨t3, ht3, h⟩ := bd_s h
    refine cl_Vi X (eokS hF) (c_X3_hasInputName hF ht3) tw_18_21 mw_X3_hasInputName (by decide) hp 1 rfl rfl rfl hl.1 rfl (Nat.le_of_ble_eq_true rfl) dX6_requireStateFormula_28 (fun H locs hp => ?_)
    refine lv_if_eq (tgt := 45) hx hb dX6_requireStateFormula_31 (by decide) (fun c4 => ?_) (fun c4 => ?_)
    · have h := it_p h c4
      exact nn_s h
    · have h := it_n h c4
      exact J_34 t1.2 _ _ _ hp (lv_sub hl [0] rfl) h
def X6_requireProof_t (σ : St) : Option (Nat × St) :=
  if (σ.1 14) = 0 then
    some (2, σ)
  else
    none
set_option maxRecDepth 20000 in
set_option maxHeartbeats 4000000 in
theorem c_X6_requireProof_t {l : Launch} (hl0 : l.stackTraces = false) {D : va_G} {a : Nat → Nat} {cA : Nat → ClassId} {t : Nat} {σ : St} {k : Nat} {σ' : St} (h : X6_requireProof_t σ = some (k, σ')) : MetX l yX6_requireProof cX6_requireProof 1 none 6 D (tyW cA) (wS a cA) (ES t FX) [.ref (a 0)] σ k σ' := by
  refine mkX hl0 (by decide) rfl (by decide) (Nat.le_of_ble_eq_true rfl) ?_
  intro p e R s m args below meth c A Q ls X hRc hT hTW hO hp hl
  obtain ⟨hx, hb, -, hown, hts, -⟩ := id X
  have hF : EOK FX := eokX
  unfold X6_requireProof_t at h
  have hl := lv_sub (l' := [(0, .ref (a 0))]) hl [0] rfl
  refine lv_aload_n hx hb dX6_requireProof_0 rfl (lv_at hl 0 rfl) ?_
  refine gS_X6_frameProof X hp tw_2_4 dX6_requireProof_1 ?_
  refine gS_X4_exists X hp tw_8_4 dX6_requireProof_4 ?_
  refine lv_if_ne (tgt := 21) hx hb dX6_requireProof_7 (by decide) (fun c1 => ?_) (fun c1 => ?_)
  · have h := it_n h c1
    exact nn_s h
  · have h := it_p h c1
    exact hTW 2 _ _ _ _ _ _ 338 "there is no proof" (Or.inr (Or.inl rfl)) hl.1 (List.mem_of_getElem? (i := 23) rfl) dX6_requireProof_10 dX6_requireProof_13 dX6_requireProof_14 dX6_requireProof_17 dX6_requireProof_20 (Nat.le_of_ble_eq_true rfl) hp (congrArg Prod.fst (Option.some.inj h)) (congrArg Prod.snd (Option.some.inj h))
def X6_requireSafeProof_t_20 (σ : St) : Option (Nat × St) :=
  some (2, σ)
def X6_requireSafeProof_t (σ : St) : Option (Nat × St) :=
  if (σ.1 14) = 0 then
    X6_requireSafeProof_t_20 σ
  else
    if (σ.1 15) = 0 then
      none
    else
      X6_requireSafeProof_t_20 σ
set_option maxRecDepth 20000 in
set_option maxHeartbeats 4000000 in
theorem c_X6_requireSafeProof_t {l : Launch} (hl0 : l.stackTraces = false) {D : va_G} {a : Nat → Nat} {cA : Nat → ClassId} {t : Nat} {σ : St} {k : Nat} {σ' : St} (h : X6_requireSafeProof_t σ = some (k, σ')) : MetX l yX6_requireSafeProof cX6_requireSafeProof 1 none 6 D (tyW cA) (wS a cA) (ES t FX) [.ref (a 0)] σ k σ' := by
  refine mkX hl0 (by decide) rfl (by decide) (Nat.le_of_ble_eq_true rfl) ?_
  intro p e R s m args below meth c A Q ls X hRc hT hTW hO hp hl
  obtain ⟨hx, hb, -, hown, hts, -⟩ := id X
  have hF : EOK FX := eokX
  have J_20 : ∀  (σ : St) (H : Heap) (locs : List Loc) (ls : Array Slot), Pw D (wS a cA) A s.heap H locs σ → lv_has ls 1 [(0, .ref (a 0))] → X6_requireSafeProof_t_20 σ = some (k, σ') → W p l e R s m args below meth c H locs 0 0 Q (F0 m 20 ls []) := by
    intro σ H locs ls hp hl h
    unfold X6_requireSafeProof_t_20 at h
    exact hTW 2 _ _ _ _ _ _ 340 "there is no proof of safety" (Or.inr (Or.inl rfl)) hl.1 (List.mem_of_getElem? (i := 24) rfl) dX6_requireSafeProof_20 dX6_requireSafeProof_23 dX6_requireSafeProof_24 dX6_requireSafeProof_27 dX6_requireSafeProof_30 (Nat.le_of_ble_eq_true rfl) hp (congrArg Prod.fst (Option.some.inj h)) (congrArg Prod.snd (Option.some.inj h))
  unfold X6_requireSafeProof_t at h
  have hl := lv_sub (l' := [(0, .ref (a 0))]) hl [0] rfl
  refine lv_aload_n hx hb dX6_requireSafeProof_0 rfl (lv_at hl 0 rfl) ?_
  refine gS_X6_frameProof X hp tw_2_4 dX6_requireSafeProof_1 ?_
  refine gS_X4_exists X hp tw_8_4 dX6_requireSafeProof_4 ?_
  refine lv_if_eq (tgt := 20) hx hb dX6_requireSafeProof_7 (by decide) (fun c1 => ?_) (fun c1 => ?_)
  · have h := it_p h c1
    exact J_20 σ _ _ _ hp (lv_sub hl [0] rfl) h
  · have h := it_n h c1
    refine lv_aload_n hx hb dX6_requireSafeProof_10 rfl (lv_at hl 0 rfl) ?_
    refine gS_X6_frameProof X hp tw_2_4 dX6_requireSafeProof_11 ?_
    refine gS_X4_verdict X hp tw_34_19 dX6_requireSafeProof_14 ?_
    refine lv_if_eq (tgt := 31) hx hb dX6_requireSafeProof_17 (by decide) (fun c2 => ?_) (fun c2 => ?_)
    · have h := it_p h c2
      exact nn_s h
    · have h := it_n h c2
      exact J_20 σ _ _ _ hp (lv_sub hl [0] rfl) h
def X6_begin_t_20 (σ : St) : Option (Nat × St) :=
  some (1, σ)
def X6_begin_t (v1 : Int32) (v2 : Int32) (σ : St) : Option (Nat × St) :=
  if v1 < (1 : Int32) then
    X6_begin_t_20 σ
  else
    if (6 : Int32) < v1 then
      X6_begin_t_20 σ
    else
      if v2 < 0 then
        X6_begin_t_20 σ
      else
        if v2 ≤ (2 : Int32) then
          none
        else
          X6_begin_t_20 σ
set_option maxRecDepth 20000 in
set_option maxHeartbeats 4000000 in
theorem c_X6_begin_t {l : Launch} (hl0 : l.stackTraces = false) {D : va_G} {a : Nat → Nat} {cA : Nat → ClassId} {t : Nat} {σ : St} {v1 : Int32} {v2 : Int32} {k : Nat} {σ' : St} (h : X6_begin_t v1 v2 σ = some (k, σ')) : MetX l yX6_begin cX6_begin 3 (some .int) 6 D (tyW cA) (wS a cA) (ES t FX) [.ref (a 0), .int v1, .int v2] σ k σ' := by
  refine mkX hl0 (by decide) rfl (by decide) (Nat.le_of_ble_eq_true rfl) ?_
  intro p e R s m args below meth c A Q ls X hRc hT hTW hO hp hl
  obtain ⟨hx, hb, -, hown, hts, -⟩ := id X
  have hF : EOK FX := eokX
  have J_20 : ∀  (σ : St) (H : Heap) (locs : List Loc) (ls : Array Slot), Pw D (wS a cA) A s.heap H locs σ → lv_has ls 3 [(0, .ref (a 0))] → X6_begin_t_20 σ = some (k, σ') → W p l e R s m args below meth c H locs 0 0 Q (F0 m 20 ls []) := by
    intro σ H locs ls hp hl h
    unfold X6_begin_t_20 at h
    exact hT 1 _ _ _ _ _ _ 50 "bits must be 1 to 6 and inputs 0 to 2" (Or.inl rfl) hl.1 (List.mem_of_getElem? (i := 0) rfl) dX6_begin_20 dX6_begin_23 dX6_begin_24 dX6_begin_26 dX6_begin_29 (Nat.le_of_ble_eq_true rfl) hp (congrArg Prod.fst (Option.some.inj h)) (congrArg Prod.snd (Option.some.inj h))
  unfold X6_begin_t at h
  have hl := lv_sub (l' := [(0, .ref (a 0)), (1, .int v1), (2, .int v2)]) hl [0, 1, 2] rfl
  refine lv_iload_n hx hb dX6_begin_0 rfl (lv_at hl 1 rfl) ?_
  refine lv_iconst (v := 1) hx hb dX6_begin_1 (by decide) ?_
  refine lv_icmp_lt (tgt := 20) hx hb dX6_begin_2 (by decide) (fun c1 => ?_) (fun c1 => ?_)
  · have h := it_p h c1
    exact J_20 σ _ _ _ hp (lv_sub hl [0] rfl) h
  · have h := it_n h c1
    refine lv_iload_n hx hb dX6_begin_5 rfl (lv_at hl 1 rfl) ?_
    refine lv_bipush (v := 6) hx hb dX6_begin_6 (by decide) ?_
    refine lv_icmp_gt (tgt := 20) hx hb dX6_begin_8 (by decide) (fun c2 => ?_) (fun c2 => ?_)
    · have h := it_p h c2
      exact J_20 σ _ _ _ hp (lv_sub hl [0] rfl) h
    · have h := it_n h c2
      refine lv_iload_n hx hb dX6_begin_11 rfl (lv_at hl 2 rfl) ?_
      refine lv_if_lt (tgt := 20) hx hb dX6_begin_12 (by decide) (fun c3 => ?_) (fun c3 => ?_)
      · have h := it_p h c3
        exact J_20 σ _ _ _ hp (lv_sub hl [0] rfl) h
      · have h := it_n h c3
        refine lv_iload_n hx hb dX6_begin_15 rfl (lv_at hl 2 rfl) ?_
        refine lv_iconst (v := 2) hx hb dX6_begin_16 (by decide) ?_
        refine lv_icmp_le (tgt := 30) hx hb dX6_begin_17 (by decide) (fun c4 => ?_) (fun c4 => ?_)
        · have h := it_p h c4
          exact nn_s h
        · have h := it_n h c4
          exact J_20 σ _ _ _ hp (lv_sub hl [0] rfl) h
def X6_append_t_12 (σ : St) : Option (Nat × St) :=
  some (1, σ)
def X6_append_t (v1 : Int32) (σ : St) : Option (Nat × St) :=
  if v1 < (33 : Int32) then
    X6_append_t_12 σ
  else
    if v1 ≤ (126 : Int32) then
      bd (X3_isFull σ) (fun t3 =>
      if t3 = 0 then
        none
      else
        some (2, σ))
    else
      X6_append_t_12 σ
set_option maxRecDepth 20000 in
set_option maxHeartbeats 4000000 in
theorem c_X6_append_t {l : Launch} (hl0 : l.stackTraces = false) {D : va_G} {a : Nat → Nat} {cA : Nat → ClassId} {t : Nat} {σ : St} {v1 : Int32} {k : Nat} {σ' : St} (h : X6_append_t v1 σ = some (k, σ')) : MetX l yX6_append cX6_append 2 (some .int) 6 D (tyW cA) (wS a cA) (ES t FX) [.ref (a 0), .int v1] σ k σ' := by
  refine mkX hl0 (by decide) rfl (by decide) (Nat.le_of_ble_eq_true rfl) ?_
  intro p e R s m args below meth c A Q ls X hRc hT hTW hO hp hl
  obtain ⟨hx, hb, -, hown, hts, -⟩ := id X
  have hF : EOK FX := eokX
  have J_12 : ∀  (σ : St) (H : Heap) (locs : List Loc) (ls : Array Slot), Pw D (wS a cA) A s.heap H locs σ → lv_has ls 2 [(0, .ref (a 0))] → X6_append_t_12 σ = some (k, σ') → W p l e R s m args below meth c H locs 0 0 Q (F0 m 12 ls []) := by
    intro σ H locs ls hp hl h
    unfold X6_append_t_12 at h
    exact hT 1 _ _ _ _ _ _ 66 "the code must be 33 to 126" (Or.inl rfl) hl.1 (List.mem_of_getElem? (i := 1) rfl) dX6_append_12 dX6_append_15 dX6_append_16 dX6_append_18 dX6_append_21 (Nat.le_of_ble_eq_true rfl) hp (congrArg Prod.fst (Option.some.inj h)) (congrArg Prod.snd (Option.some.inj h))
  unfold X6_append_t at h
  have hl := lv_sub (l' := [(0, .ref (a 0)), (1, .int v1)]) hl [0, 1] rfl
  refine lv_iload_n hx hb dX6_append_0 rfl (lv_at hl 1 rfl) ?_
  refine lv_bipush (v := 33) hx hb dX6_append_1 (by decide) ?_
  refine lv_icmp_lt (tgt := 12) hx hb dX6_append_3 (by decide) (fun c1 => ?_) (fun c1 => ?_)
  · have h := it_p h c1
    exact J_12 σ _ _ _ hp (lv_sub hl [0] rfl) h
  · have h := it_n h c1
    refine lv_iload_n hx hb dX6_append_6 rfl (lv_at hl 1 rfl) ?_
    refine lv_bipush (v := 126) hx hb dX6_append_7 (by decide) ?_
    refine lv_icmp_le (tgt := 22) hx hb dX6_append_9 (by decide) (fun c2 => ?_) (fun c2 => ?_)
    · have h := it_p h c2
      refine lv_aload_n hx hb dX6_append_22 rfl (lv_at hl 0 rfl) ?_
      refine gS_X6_buffer X hp tw_1_16 dX6_append_23 ?_
      obtain ⟨t3, ht3, h⟩ := bd_s h
      refine cl_Vi X (eokS hF) (c_X3_isFull hF ht3) tw_9_4 mw_X3_isFull (by decide) hp 1 rfl rfl rfl hl.1 rfl (Nat.le_of_ble_eq_true rfl) dX6_append_26 (fun H locs hp => ?_)
      refine lv_if_eq (tgt := 42) hx hb dX6_append_29 (by decide) (fun c4 => ?_) (fun c4 => ?_)
      · have h := it_p h c4
        exact nn_s h
      · have h := it_n h c4
        exact hT 2 _ _ _ _ _ _ 74 "the buffer is full" (Or.inr (Or.inl rfl)) hl.1 (List.mem_of_getElem? (i := 2) rfl) dX6_append_32 dX6_append_35 dX6_append_36 dX6_append_38 dX6_append_41 (Nat.le_of_ble_eq_true rfl) hp (congrArg Prod.fst (Option.some.inj h)) (congrArg Prod.snd (Option.some.inj h))
    · have h := it_n h c2
      exact J_12 σ _ _ _ hp (lv_sub hl [0] rfl) h
def X6_setNext_t_15 (N : Nat) (σ : St) : Option (Nat × St) :=
  some (3, σ)
def X6_setNext_t (N : Nat) (v1 : Int32) (σ : St) : Option (Nat × St) :=
  if v1 < 0 then
    X6_setNext_t_15 N σ
  else
    if v1 < (σ.1 5) then
      bd (X3_isFormula N (σ.1 5) (σ.1 6) σ) (fun t3 =>
      if t3.1 = 0 then
        some (2, t3.2)
      else
        none)
    else
      X6_setNext_t_15 N σ
set_option maxRecDepth 20000 in
set_option maxHeartbeats 4000000 in
theorem c_X6_setNext_t {l : Launch} (hl0 : l.stackTraces = false) {D : va_G} {a : Nat → Nat} {cA : Nat → ClassId} {t : Nat} {σ : St} {N : Nat} {v1 : Int32} {k : Nat} {σ' : St} (h : X6_setNext_t N v1 σ = some (k, σ')) : MetX l yX6_setNext cX6_setNext 2 (some .int) 6 D (tyW cA) (wS a cA) (ES t FX) [.ref (a 0), .int v1] σ k σ' := by
  refine mkX hl0 (by decide) rfl (by decide) (Nat.le_of_ble_eq_true rfl) ?_
  intro p e R s m args below meth c A Q ls X hRc hT hTW hO hp hl
  obtain ⟨hx, hb, -, hown, hts, -⟩ := id X
  have hF : EOK FX := eokX
  have J_15 : ∀  (σ : St) (H : Heap) (locs : List Loc) (ls : Array Slot), Pw D (wS a cA) A s.heap H locs σ → lv_has ls 2 [(0, .ref (a 0))] → X6_setNext_t_15 N σ = some (k, σ') → W p l e R s m args below meth c H locs 0 0 Q (F0 m 15 ls []) := by
    intro σ H locs ls hp hl h
    unfold X6_setNext_t_15 at h
    exact hT 3 _ _ _ _ _ _ 96 "there is no such bit" (Or.inr (Or.inr rfl)) hl.1 (List.mem_of_getElem? (i := 3) rfl) dX6_setNext_15 dX6_setNext_18 dX6_setNext_19 dX6_setNext_21 dX6_setNext_24 (Nat.le_of_ble_eq_true rfl) hp (congrArg Prod.fst (Option.some.inj h)) (congrArg Prod.snd (Option.some.inj h))
  unfold X6_setNext_t at h
  have hl := lv_sub (l' := [(0, .ref (a 0)), (1, .int v1)]) hl [0, 1] rfl
  refine lv_iload_n hx hb dX6_setNext_0 rfl (lv_at hl 1 rfl) ?_
  refine lv_if_lt (tgt := 15) hx hb dX6_setNext_1 (by decide) (fun c1 => ?_) (fun c1 => ?_)
  · have h := it_p h c1
    exact J_15 σ _ _ _ hp (lv_sub hl [0] rfl) h
  · have h := it_n h c1
    refine lv_iload_n hx hb dX6_setNext_4 rfl (lv_at hl 1 rfl) ?_
    refine lv_aload_n hx hb dX6_setNext_5 rfl (lv_at hl 0 rfl) ?_
    refine gS_X6_circuit X hp tw_1_20 dX6_setNext_6 ?_
    refine gS_X0_bits X hp tw_10_6 dX6_setNext_9 ?_
    refine lv_icmp_lt (tgt := 25) hx hb dX6_setNext_12 (by decide) (fun c2 => ?_) (fun c2 => ?_)
    · have h := it_p h c2
      refine lv_aload_n hx hb dX6_setNext_25 rfl (lv_at hl 0 rfl) ?_
      refine gS_X6_buffer X hp tw_1_16 dX6_setNext_26 ?_
      refine lv_aload_n hx hb dX6_setNext_29 rfl (lv_at hl 0 rfl) ?_
      refine gS_X6_circuit X hp tw_1_20 dX6_setNext_30 ?_
      refine gS_X0_bits X hp tw_10_6 dX6_setNext_33 ?_
      refine lv_aload_n hx hb dX6_setNext_36 rfl (lv_at hl 0 rfl) ?_
      refine gS_X6_circuit X hp tw_1_20 dX6_setNext_37 ?_
      refine gS_X0_inputs X hp tw_10_7 dX6_setNext_40 ?_
      obtain ⟨t3, ht3, h⟩ := bd_s h
      refine cl_Vi X (eokS hF) (c_X3_isFormula hF ht3) tw_12_19 mw_X3_isFormula (by decide) hp 1 rfl rfl rfl hl.1 rfl (Nat.le_of_ble_eq_true rfl) dX6_setNext_43 (fun H locs hp => ?_)
      refine lv_if_ne (tgt := 59) hx hb dX6_setNext_46 (by decide) (fun c4 => ?_) (fun c4 => ?_)
      · have h := it_n h c4
        exact nn_s h
      · have h := it_p h c4
        exact hT 2 _ _ _ _ _ _ 103 "the buffer is not a formula" (Or.inr (Or.inl rfl)) hl.1 (List.mem_of_getElem? (i := 4) rfl) dX6_setNext_49 dX6_setNext_52 dX6_setNext_53 dX6_setNext_55 dX6_setNext_58 (Nat.le_of_ble_eq_true rfl) hp (congrArg Prod.fst (Option.some.inj h)) (congrArg Prod.snd (Option.some.inj h))
    · have h := it_n h c2
      exact J_15 σ _ _ _ hp (lv_sub hl [0] rfl) h
def X6_setInit_t (N : Nat) (σ : St) : Option (Nat × St) :=
  tb (X6_requireStateFormula_t N σ) (X6_requireStateFormula N σ) (fun t1 =>
  none)
set_option maxRecDepth 20000 in
set_option maxHeartbeats 4000000 in
theorem c_X6_setInit_t {l : Launch} (hl0 : l.stackTraces = false) {D : va_G} {a : Nat → Nat} {cA : Nat → ClassId} {t : Nat} {σ : St} {N : Nat} {k : Nat} {σ' : St} (h : X6_setInit_t N σ = some (k, σ')) : MetX l yX6_setInit cX6_setInit 1 (some .int) 7 D (tyW cA) (wS a cA) (ES t FX) [.ref (a 0)] σ k σ' := by
  refine mkX hl0 (by decide) rfl (by decide) (Nat.le_of_ble_eq_true rfl) ?_
  intro p e R s m args below meth c A Q ls X hRc hT hTW hO hp hl
  obtain ⟨hx, hb, -, hown, hts, -⟩ := id X
  have hF : EOK FX := eokX
  unfold X6_setInit_t at h
  have hl := lv_sub (l' := [(0, .ref (a 0))]) hl [0] rfl
  refine lv_aload_n hx hb dX6_setInit_0 rfl (lv_at hl 0 rfl) ?_
  rcases tb_s h with hq | ⟨t1, ht1, h⟩
  · exact cl_Xv X hRc (eokS hF) (c_X6_requireStateFormula_t hl0 hq) tw_18_17 mw_X6_requireStateFormula (by decide) hp 0 rfl rfl rfl hl.1 rfl (Nat.le_of_ble_eq_true rfl) dX6_setInit_1 (fun H locs q ex ce hp e1 h1 h2 h3 => hO _ _ _ _ _ q ex ce _ hp e1 rfl h1 h2 h3)
  refine cl_Vv X (eokS hF) (c_X6_requireStateFormula hF ht1) tw_18_17 mw_X6_requireStateFormula (by decide) hp 0 rfl rfl rfl hl.1 rfl (Nat.le_of_ble_eq_true rfl) dX6_setInit_1 (fun H locs hp => ?_)
  exact nn_s h
def X6_setProperty_t (N : Nat) (σ : St) : Option (Nat × St) :=
  tb (X6_requireStateFormula_t N σ) (X6_requireStateFormula N σ) (fun t1 =>
  none)
set_option maxRecDepth 20000 in
set_option maxHeartbeats 4000000 in
theorem c_X6_setProperty_t {l : Launch} (hl0 : l.stackTraces = false) {D : va_G} {a : Nat → Nat} {cA : Nat → ClassId} {t : Nat} {σ : St} {N : Nat} {k : Nat} {σ' : St} (h : X6_setProperty_t N σ = some (k, σ')) : MetX l yX6_setProperty cX6_setProperty 1 (some .int) 7 D (tyW cA) (wS a cA) (ES t FX) [.ref (a 0)] σ k σ' := by
  refine mkX hl0 (by decide) rfl (by decide) (Nat.le_of_ble_eq_true rfl) ?_
  intro p e R s m args below meth c A Q ls X hRc hT hTW hO hp hl
  obtain ⟨hx, hb, -, hown, hts, -⟩ := id X
  have hF : EOK FX := eokX
  unfold X6_setProperty_t at h
  have hl := lv_sub (l' := [(0, .ref (a 0))]) hl [0] rfl
  refine lv_aload_n hx hb dX6_setProperty_0 rfl (lv_at hl 0 rfl) ?_
  rcases tb_s h with hq | ⟨t1, ht1, h⟩
  · exact cl_Xv X hRc (eokS hF) (c_X6_requireStateFormula_t hl0 hq) tw_18_17 mw_X6_requireStateFormula (by decide) hp 0 rfl rfl rfl hl.1 rfl (Nat.le_of_ble_eq_true rfl) dX6_setProperty_1 (fun H locs q ex ce hp e1 h1 h2 h3 => hO _ _ _ _ _ q ex ce _ hp e1 rfl h1 h2 h3)
  refine cl_Vv X (eokS hF) (c_X6_requireStateFormula hF ht1) tw_18_17 mw_X6_requireStateFormula (by decide) hp 0 rfl rfl rfl hl.1 rfl (Nat.le_of_ble_eq_true rfl) dX6_setProperty_1 (fun H locs hp => ?_)
  exact nn_s h
def X6_undo_t (σ : St) : Option (Nat × St) :=
  if (σ.1 10) = 0 then
    some (2, σ)
  else
    none
set_option maxRecDepth 20000 in
set_option maxHeartbeats 4000000 in
theorem c_X6_undo_t {l : Launch} (hl0 : l.stackTraces = false) {D : va_G} {a : Nat → Nat} {cA : Nat → ClassId} {t : Nat} {σ : St} {k : Nat} {σ' : St} (h : X6_undo_t σ = some (k, σ')) : MetX l yX6_undo cX6_undo 1 (some .int) 6 D (tyW cA) (wS a cA) (ES t FX) [.ref (a 0)] σ k σ' := by
  refine mkX hl0 (by decide) rfl (by decide) (Nat.le_of_ble_eq_true rfl) ?_
  intro p e R s m args below meth c A Q ls X hRc hT hTW hO hp hl
  obtain ⟨hx, hb, -, hown, hts, -⟩ := id X
  have hF : EOK FX := eokX
  unfold X6_undo_t at h
  have hl := lv_sub (l' := [(0, .ref (a 0))]) hl [0] rfl
  refine lv_aload_n hx hb dX6_undo_0 rfl (lv_at hl 0 rfl) ?_
  refine gS_X6_circuit X hp tw_1_20 dX6_undo_1 ?_
  refine gS_X0_keptCount X hp tw_20_16 dX6_undo_4 ?_
  refine lv_if_ne (tgt := 20) hx hb dX6_undo_7 (by decide) (fun c1 => ?_) (fun c1 => ?_)
  · have h := it_n h c1
    exact nn_s h
  · have h := it_p h c1
    exact hT 2 _ _ _ _ _ _ 128 "there is nothing to undo" (Or.inr (Or.inl rfl)) hl.1 (List.mem_of_getElem? (i := 5) rfl) dX6_undo_10 dX6_undo_13 dX6_undo_14 dX6_undo_16 dX6_undo_19 (Nat.le_of_ble_eq_true rfl) hp (congrArg Prod.fst (Option.some.inj h)) (congrArg Prod.snd (Option.some.inj h))
def X6_successor_t_20 (σ : St) : Option (Nat × St) :=
  some (1, σ)
def X6_successor_t (v1 : Int32) (v2 : Int32) (σ : St) : Option (Nat × St) :=
  tb (X6_requireState_t v1 σ) (X6_requireState v1 σ) (fun t1 =>
  if v2 < 0 then
    X6_successor_t_20 t1
  else
    if v2 < (t1.1 8) then
      none
    else
      X6_successor_t_20 t1)
set_option maxRecDepth 20000 in
set_option maxHeartbeats 4000000 in
theorem c_X6_successor_t {l : Launch} (hl0 : l.stackTraces = false) {D : va_G} {a : Nat → Nat} {cA : Nat → ClassId} {t : Nat} {σ : St} {v1 : Int32} {v2 : Int32} {k : Nat} {σ' : St} (h : X6_successor_t v1 v2 σ = some (k, σ')) : MetX l yX6_successor cX6_successor 3 (some .int) 7 D (tyW cA) (wS a cA) (ES t FX) [.ref (a 0), .int v1, .int v2] σ k σ' := by
  refine mkX hl0 (by decide) rfl (by decide) (Nat.le_of_ble_eq_true rfl) ?_
  intro p e R s m args below meth c A Q ls X hRc hT hTW hO hp hl
  obtain ⟨hx, hb, -, hown, hts, -⟩ := id X
  have hF : EOK FX := eokX
  have J_20 : ∀  (σ : St) (H : Heap) (locs : List Loc) (ls : Array Slot), Pw D (wS a cA) A s.heap H locs σ → lv_has ls 3 [(0, .ref (a 0))] → X6_successor_t_20 σ = some (k, σ') → W p l e R s m args below meth c H locs 0 0 Q (F0 m 20 ls []) := by
    intro σ H locs ls hp hl h
    unfold X6_successor_t_20 at h
    exact hT 1 _ _ _ _ _ _ 139 "there is no such input value" (Or.inl rfl) hl.1 (List.mem_of_getElem? (i := 6) rfl) dX6_successor_20 dX6_successor_23 dX6_successor_24 dX6_successor_26 dX6_successor_29 (Nat.le_of_ble_eq_true rfl) hp (congrArg Prod.fst (Option.some.inj h)) (congrArg Prod.snd (Option.some.inj h))
  unfold X6_successor_t at h
  have hl := lv_sub (l' := [(0, .ref (a 0)), (1, .int v1), (2, .int v2)]) hl [0, 1, 2] rfl
  refine lv_aload_n hx hb dX6_successor_0 rfl (lv_at hl 0 rfl) ?_
  refine lv_iload_n hx hb dX6_successor_1 rfl (lv_at hl 1 rfl) ?_
  rcases tb_s h with hq | ⟨t1, ht1, h⟩
  · exact cl_Xv X hRc (eokS hF) (c_X6_requireState_t hl0 hq) tw_21_9 mw_X6_requireState (by decide) hp 0 rfl rfl rfl hl.1 rfl (Nat.le_of_ble_eq_true rfl) dX6_successor_2 (fun H locs q ex ce hp e1 h1 h2 h3 => hO _ _ _ _ _ q ex ce _ hp e1 rfl h1 h2 h3)
  refine cl_Vv X (eokS hF) (c_X6_requireState hF ht1) tw_21_9 mw_X6_requireState (by decide) hp 0 rfl rfl rfl hl.1 rfl (Nat.le_of_ble_eq_true rfl) dX6_successor_2 (fun H locs hp => ?_)
  refine lv_iload_n hx hb dX6_successor_5 rfl (lv_at hl 2 rfl) ?_
  refine lv_if_lt (tgt := 20) hx hb dX6_successor_6 (by decide) (fun c2 => ?_) (fun c2 => ?_)
  · have h := it_p h c2
    exact J_20 t1 _ _ _ hp (lv_sub hl [0] rfl) h
  · have h := it_n h c2
    refine lv_iload_n hx hb dX6_successor_9 rfl (lv_at hl 2 rfl) ?_
    refine lv_aload_n hx hb dX6_successor_10 rfl (lv_at hl 0 rfl) ?_
    refine gS_X6_circuit X hp tw_1_20 dX6_successor_11 ?_
    refine gS_X0_inputValues X hp tw_21_8 dX6_successor_14 ?_
    refine lv_icmp_lt (tgt := 30) hx hb dX6_successor_17 (by decide) (fun c3 => ?_) (fun c3 => ?_)
    · have h := it_p h c3
      exact nn_s h
    · have h := it_n h c3
      exact J_20 t1 _ _ _ hp (lv_sub hl [0] rfl) h
def X6_state_t_14 (σ : St) : Option (Nat × St) :=
  some (1, σ)
def X6_state_t (v1 : Int32) (v2 : Int32) (σ : St) : Option (Nat × St) :=
  tb (X6_requireState_t v1 σ) (X6_requireState v1 σ) (fun t1 =>
  if v2 < 0 then
    X6_state_t_14 t1
  else
    if v2 < (5 : Int32) then
      none
    else
      X6_state_t_14 t1)
set_option maxRecDepth 20000 in
set_option maxHeartbeats 4000000 in
theorem c_X6_state_t {l : Launch} (hl0 : l.stackTraces = false) {D : va_G} {a : Nat → Nat} {cA : Nat → ClassId} {t : Nat} {σ : St} {v1 : Int32} {v2 : Int32} {k : Nat} {σ' : St} (h : X6_state_t v1 v2 σ = some (k, σ')) : MetX l yX6_state cX6_state 3 (some .int) 7 D (tyW cA) (wS a cA) (ES t FX) [.ref (a 0), .int v1, .int v2] σ k σ' := by
  refine mkX hl0 (by decide) rfl (by decide) (Nat.le_of_ble_eq_true rfl) ?_
  intro p e R s m args below meth c A Q ls X hRc hT hTW hO hp hl
  obtain ⟨hx, hb, -, hown, hts, -⟩ := id X
  have hF : EOK FX := eokX
  have J_14 : ∀  (σ : St) (H : Heap) (locs : List Loc) (ls : Array Slot), Pw D (wS a cA) A s.heap H locs σ → lv_has ls 3 [(0, .ref (a 0))] → X6_state_t_14 σ = some (k, σ') → W p l e R s m args below meth c H locs 0 0 Q (F0 m 14 ls []) := by
    intro σ H locs ls hp hl h
    unfold X6_state_t_14 at h
    exact hT 1 _ _ _ _ _ _ 144 "what must be 0 to 4" (Or.inl rfl) hl.1 (List.mem_of_getElem? (i := 7) rfl) dX6_state_14 dX6_state_17 dX6_state_18 dX6_state_20 dX6_state_23 (Nat.le_of_ble_eq_true rfl) hp (congrArg Prod.fst (Option.some.inj h)) (congrArg Prod.snd (Option.some.inj h))
  unfold X6_state_t at h
  have hl := lv_sub (l' := [(0, .ref (a 0)), (1, .int v1), (2, .int v2)]) hl [0, 1, 2] rfl
  refine lv_aload_n hx hb dX6_state_0 rfl (lv_at hl 0 rfl) ?_
  refine lv_iload_n hx hb dX6_state_1 rfl (lv_at hl 1 rfl) ?_
  rcases tb_s h with hq | ⟨t1, ht1, h⟩
  · exact cl_Xv X hRc (eokS hF) (c_X6_requireState_t hl0 hq) tw_21_9 mw_X6_requireState (by decide) hp 0 rfl rfl rfl hl.1 rfl (Nat.le_of_ble_eq_true rfl) dX6_state_2 (fun H locs q ex ce hp e1 h1 h2 h3 => hO _ _ _ _ _ q ex ce _ hp e1 rfl h1 h2 h3)
  refine cl_Vv X (eokS hF) (c_X6_requireState hF ht1) tw_21_9 mw_X6_requireState (by decide) hp 0 rfl rfl rfl hl.1 rfl (Nat.le_of_ble_eq_true rfl) dX6_state_2 (fun H locs hp => ?_)
  refine lv_iload_n hx hb dX6_state_5 rfl (lv_at hl 2 rfl) ?_
  refine lv_if_lt (tgt := 14) hx hb dX6_state_6 (by decide) (fun c2 => ?_) (fun c2 => ?_)
  · have h := it_p h c2
    exact J_14 t1 _ _ _ hp (lv_sub hl [0] rfl) h
  · have h := it_n h c2
    refine lv_iload_n hx hb dX6_state_9 rfl (lv_at hl 2 rfl) ?_
    refine lv_iconst (v := 5) hx hb dX6_state_10 (by decide) ?_
    refine lv_icmp_lt (tgt := 24) hx hb dX6_state_11 (by decide) (fun c3 => ?_) (fun c3 => ?_)
    · have h := it_p h c3
      exact nn_s h
    · have h := it_n h c3
      exact J_14 t1 _ _ _ hp (lv_sub hl [0] rfl) h
def X6_system_t_10 (σ : St) : Option (Nat × St) :=
  some (1, σ)
def X6_system_t (v1 : Int32) (σ : St) : Option (Nat × St) :=
  if v1 < 0 then
    X6_system_t_10 σ
  else
    if v1 < (10 : Int32) then
      none
    else
      X6_system_t_10 σ
set_option maxRecDepth 20000 in
set_option maxHeartbeats 4000000 in
theorem c_X6_system_t {l : Launch} (hl0 : l.stackTraces = false) {D : va_G} {a : Nat → Nat} {cA : Nat → ClassId} {t : Nat} {σ : St} {v1 : Int32} {k : Nat} {σ' : St} (h : X6_system_t v1 σ = some (k, σ')) : MetX l yX6_system cX6_system 2 (some .int) 6 D (tyW cA) (wS a cA) (ES t FX) [.ref (a 0), .int v1] σ k σ' := by
  refine mkX hl0 (by decide) rfl (by decide) (Nat.le_of_ble_eq_true rfl) ?_
  intro p e R s m args below meth c A Q ls X hRc hT hTW hO hp hl
  obtain ⟨hx, hb, -, hown, hts, -⟩ := id X
  have hF : EOK FX := eokX
  have J_10 : ∀  (σ : St) (H : Heap) (locs : List Loc) (ls : Array Slot), Pw D (wS a cA) A s.heap H locs σ → lv_has ls 2 [(0, .ref (a 0))] → X6_system_t_10 σ = some (k, σ') → W p l e R s m args below meth c H locs 0 0 Q (F0 m 10 ls []) := by
    intro σ H locs ls hp hl h
    unfold X6_system_t_10 at h
    exact hT 1 _ _ _ _ _ _ 162 "what must be 0 to 9" (Or.inl rfl) hl.1 (List.mem_of_getElem? (i := 8) rfl) dX6_system_10 dX6_system_13 dX6_system_14 dX6_system_16 dX6_system_19 (Nat.le_of_ble_eq_true rfl) hp (congrArg Prod.fst (Option.some.inj h)) (congrArg Prod.snd (Option.some.inj h))
  unfold X6_system_t at h
  have hl := lv_sub (l' := [(0, .ref (a 0)), (1, .int v1)]) hl [0, 1] rfl
  refine lv_iload_n hx hb dX6_system_0 rfl (lv_at hl 1 rfl) ?_
  refine lv_if_lt (tgt := 10) hx hb dX6_system_1 (by decide) (fun c1 => ?_) (fun c1 => ?_)
  · have h := it_p h c1
    exact J_10 σ _ _ _ hp (lv_sub hl [0] rfl) h
  · have h := it_n h c1
    refine lv_iload_n hx hb dX6_system_4 rfl (lv_at hl 1 rfl) ?_
    refine lv_bipush (v := 10) hx hb dX6_system_5 (by decide) ?_
    refine lv_icmp_lt (tgt := 20) hx hb dX6_system_7 (by decide) (fun c2 => ?_) (fun c2 => ?_)
    · have h := it_p h c2
      exact nn_s h
    · have h := it_n h c2
      exact J_10 σ _ _ _ hp (lv_sub hl [0] rfl) h
def X6_shortest_t_39 (N : Nat) (σ : St) : Option (Nat × St) :=
  some (3, σ)
def X6_shortest_t_58 (N : Nat) (σ : St) : Option (Nat × St) :=
  some (1, σ)
def X6_shortest_t (N : Nat) (v1 : Int32) (v2 : Int32) (σ : St) : Option (Nat × St) :=
  bd (X2_refresh N σ) (fun t1 =>
  nm (t1.1 12) (fun (x2 : Int32) =>
  if x2 = (-1 : Int32) then
    some (2, t1)
  else
    if v1 < 0 then
      X6_shortest_t_39 N t1
    else
      if v1 ≤ x2 then
        if v2 < 0 then
          X6_shortest_t_58 N t1
        else
          if v2 ≤ (1 : Int32) then
            none
          else
            X6_shortest_t_58 N t1
      else
        X6_shortest_t_39 N t1))
set_option maxRecDepth 20000 in
set_option maxHeartbeats 4000000 in
theorem c_X6_shortest_t {l : Launch} (hl0 : l.stackTraces = false) {D : va_G} {a : Nat → Nat} {cA : Nat → ClassId} {t : Nat} {σ : St} {N : Nat} {v1 : Int32} {v2 : Int32} {k : Nat} {σ' : St} (h : X6_shortest_t N v1 v2 σ = some (k, σ')) : MetX l yX6_shortest cX6_shortest 5 (some .int) 6 D (tyW cA) (wS a cA) (ES t FX) [.ref (a 0), .int v1, .int v2] σ k σ' := by
  refine mkX hl0 (by decide) rfl (by decide) (Nat.le_of_ble_eq_true rfl) ?_
  intro p e R s m args below meth c A Q ls X hRc hT hTW hO hp hl
  obtain ⟨hx, hb, -, hown, hts, -⟩ := id X
  have hF : EOK FX := eokX
  have J_39 : ∀  (σ : St) (H : Heap) (locs : List Loc) (ls : Array Slot), Pw D (wS a cA) A s.heap H locs σ → lv_has ls 5 [(0, .ref (a 0))] → X6_shortest_t_39 N σ = some (k, σ') → W p l e R s m args below meth c H locs 0 0 Q (F0 m 39 ls []) := by
    intro σ H locs ls hp hl h
    unfold X6_shortest_t_39 at h
    exact hT 3 _ _ _ _ _ _ 180 "the run has no such index" (Or.inr (Or.inr rfl)) hl.1 (List.mem_of_getElem? (i := 10) rfl) dX6_shortest_39 dX6_shortest_42 dX6_shortest_43 dX6_shortest_45 dX6_shortest_48 (Nat.le_of_ble_eq_true rfl) hp (congrArg Prod.fst (Option.some.inj h)) (congrArg Prod.snd (Option.some.inj h))
  have J_58 : ∀  (σ : St) (H : Heap) (locs : List Loc) (ls : Array Slot), Pw D (wS a cA) A s.heap H locs σ → lv_has ls 5 [(0, .ref (a 0))] → X6_shortest_t_58 N σ = some (k, σ') → W p l e R s m args below meth c H locs 0 0 Q (F0 m 58 ls []) := by
    intro σ H locs ls hp hl h
    unfold X6_shortest_t_58 at h
    exact hT 1 _ _ _ _ _ _ 182 "what must be 0 or 1" (Or.inl rfl) hl.1 (List.mem_of_getElem? (i := 11) rfl) dX6_shortest_58 dX6_shortest_61 dX6_shortest_62 dX6_shortest_64 dX6_shortest_67 (Nat.le_of_ble_eq_true rfl) hp (congrArg Prod.fst (Option.some.inj h)) (congrArg Prod.snd (Option.some.inj h))
  unfold X6_shortest_t at h
  have hl := lv_sub (l' := [(0, .ref (a 0)), (1, .int v1), (2, .int v2)]) hl [0, 1, 2] rfl
  refine lv_aload_n hx hb dX6_shortest_0 rfl (lv_at hl 0 rfl) ?_
  refine gS_X6_exploration X hp tw_2_0 dX6_shortest_1 ?_
  obtain ⟨t1, ht1, h⟩ := bd_s h
  refine cl_Vv X (eokS hF) (c_X2_refresh hF ht1) tw_22_10 mw_X2_refresh (by decide) hp 3 rfl rfl rfl hl.1 rfl (Nat.le_of_ble_eq_true rfl) dX6_shortest_4 (fun H locs hp => ?_)
  refine lv_aload_n hx hb dX6_shortest_7 rfl (lv_at hl 0 rfl) ?_
  refine gS_X6_exploration X hp tw_2_0 dX6_shortest_8 ?_
  refine gS_X2_runLength X hp tw_28_10 dX6_shortest_11 ?_
  refine lv_topi (fun x2 ex2 => ?_)
  have h := nm_s h x2 ex2
  refine lv_istore_n (lv' := [(3, .int x2), (0, .ref (a 0)), (1, .int v1), (2, .int v2)]) hx hb dX6_shortest_14 rfl hl (by decide) rfl (fun ls hl => ?_)
  refine lv_iload_n hx hb dX6_shortest_15 rfl (lv_at hl 0 rfl) ?_
  refine lv_iconst (v := -1) hx hb dX6_shortest_16 (by decide) ?_
  refine lv_icmp_ne (tgt := 30) hx hb dX6_shortest_17 (by decide) (fun c3 => ?_) (fun c3 => ?_)
  · have h := it_n h c3
    refine lv_iload_n hx hb dX6_shortest_30 rfl (lv_at hl 2 rfl) ?_
    refine lv_if_lt (tgt := 39) hx hb dX6_shortest_31 (by decide) (fun c4 => ?_) (fun c4 => ?_)
    · have h := it_p h c4
      exact J_39 t1 _ _ _ hp (lv_sub hl [1] rfl) h
    · have h := it_n h c4
      refine lv_iload_n hx hb dX6_shortest_34 rfl (lv_at hl 2 rfl) ?_
      refine lv_iload_n hx hb dX6_shortest_35 rfl (lv_at hl 0 rfl) ?_
      refine lv_icmp_le (tgt := 49) hx hb dX6_shortest_36 (by decide) (fun c5 => ?_) (fun c5 => ?_)
      · have h := it_p h c5
        refine lv_iload_n hx hb dX6_shortest_49 rfl (lv_at hl 3 rfl) ?_
        refine lv_if_lt (tgt := 58) hx hb dX6_shortest_50 (by decide) (fun c6 => ?_) (fun c6 => ?_)
        · have h := it_p h c6
          exact J_58 t1 _ _ _ hp (lv_sub hl [1] rfl) h
        · have h := it_n h c6
          refine lv_iload_n hx hb dX6_shortest_53 rfl (lv_at hl 3 rfl) ?_
          refine lv_iconst (v := 1) hx hb dX6_shortest_54 (by decide) ?_
          refine lv_icmp_le (tgt := 68) hx hb dX6_shortest_55 (by decide) (fun c7 => ?_) (fun c7 => ?_)
          · have h := it_p h c7
            exact nn_s h
          · have h := it_n h c7
            exact J_58 t1 _ _ _ hp (lv_sub hl [1] rfl) h
      · have h := it_n h c5
        exact J_39 t1 _ _ _ hp (lv_sub hl [1] rfl) h
  · have h := it_p h c3
    exact hT 2 _ _ _ _ _ _ 178 "no bad state is reachable" (Or.inr (Or.inl rfl)) hl.1 (List.mem_of_getElem? (i := 9) rfl) dX6_shortest_20 dX6_shortest_23 dX6_shortest_24 dX6_shortest_26 dX6_shortest_29 (Nat.le_of_ble_eq_true rfl) hp (congrArg Prod.fst (Option.some.inj h)) (congrArg Prod.snd (Option.some.inj h))
def X6_candidate_t (N : Nat) (σ : St) : Option (Nat × St) :=
  tb (X6_requireStateFormula_t N σ) (X6_requireStateFormula N σ) (fun t1 =>
  none)
set_option maxRecDepth 20000 in
set_option maxHeartbeats 4000000 in
theorem c_X6_candidate_t {l : Launch} (hl0 : l.stackTraces = false) {D : va_G} {a : Nat → Nat} {cA : Nat → ClassId} {t : Nat} {σ : St} {N : Nat} {k : Nat} {σ' : St} (h : X6_candidate_t N σ = some (k, σ')) : MetX l yX6_candidate cX6_candidate 1 (some .long) 7 D (tyW cA) (wS a cA) (ES t FX) [.ref (a 0)] σ k σ' := by
  refine mkX hl0 (by decide) rfl (by decide) (Nat.le_of_ble_eq_true rfl) ?_
  intro p e R s m args below meth c A Q ls X hRc hT hTW hO hp hl
  obtain ⟨hx, hb, -, hown, hts, -⟩ := id X
  have hF : EOK FX := eokX
  unfold X6_candidate_t at h
  have hl := lv_sub (l' := [(0, .ref (a 0))]) hl [0] rfl
  refine lv_aload_n hx hb dX6_candidate_0 rfl (lv_at hl 0 rfl) ?_
  rcases tb_s h with hq | ⟨t1, ht1, h⟩
  · exact cl_Xv X hRc (eokS hF) (c_X6_requireStateFormula_t hl0 hq) tw_18_17 mw_X6_requireStateFormula (by decide) hp 0 rfl rfl rfl hl.1 rfl (Nat.le_of_ble_eq_true rfl) dX6_candidate_1 (fun H locs q ex ce hp e1 h1 h2 h3 => hO _ _ _ _ _ q ex ce _ hp e1 rfl h1 h2 h3)
  refine cl_Vv X (eokS hF) (c_X6_requireStateFormula hF ht1) tw_18_17 mw_X6_requireStateFormula (by decide) hp 0 rfl rfl rfl hl.1 rfl (Nat.le_of_ble_eq_true rfl) dX6_candidate_1 (fun H locs hp => ?_)
  exact nn_s h
def X6_check_t (N : Nat) (σ : St) : Option (Nat × St) :=
  tb (X6_requireStateFormula_t N σ) (X6_requireStateFormula N σ) (fun t1 =>
  none)
set_option maxRecDepth 20000 in
set_option maxHeartbeats 4000000 in
theorem c_X6_check_t {l : Launch} (hl0 : l.stackTraces = false) {D : va_G} {a : Nat → Nat} {cA : Nat → ClassId} {t : Nat} {σ : St} {N : Nat} {k : Nat} {σ' : St} (h : X6_check_t N σ = some (k, σ')) : MetX l yX6_check cX6_check 4 (some .int) 7 D (tyW cA) (wS a cA) (ES t FX) [.ref (a 0)] σ k σ' := by
  refine mkX hl0 (by decide) rfl (by decide) (Nat.le_of_ble_eq_true rfl) ?_
  intro p e R s m args below meth c A Q ls X hRc hT hTW hO hp hl
  obtain ⟨hx, hb, -, hown, hts, -⟩ := id X
  have hF : EOK FX := eokX
  unfold X6_check_t at h
  have hl := lv_sub (l' := [(0, .ref (a 0))]) hl [0] rfl
  refine lv_aload_n hx hb dX6_check_0 rfl (lv_at hl 0 rfl) ?_
  rcases tb_s h with hq | ⟨t1, ht1, h⟩
  · exact cl_Xv X hRc (eokS hF) (c_X6_requireStateFormula_t hl0 hq) tw_18_17 mw_X6_requireStateFormula (by decide) hp 0 rfl rfl rfl hl.1 rfl (Nat.le_of_ble_eq_true rfl) dX6_check_1 (fun H locs q ex ce hp e1 h1 h2 h3 => hO _ _ _ _ _ q ex ce _ hp e1 rfl h1 h2 h3)
  refine cl_Vv X (eokS hF) (c_X6_requireStateFormula hF ht1) tw_18_17 mw_X6_requireStateFormula (by decide) hp 0 rfl rfl rfl hl.1 rfl (Nat.le_of_ble_eq_true rfl) dX6_check_1 (fun H locs hp => ?_)
  exact nn_s h
def X6_escape_t_9 (N : Nat) (σ : St) : Option (Nat × St) :=
  some (1, σ)
def X6_escape_t (N : Nat) (v1 : Int32) (σ : St) : Option (Nat × St) :=
  if v1 < 0 then
    X6_escape_t_9 N σ
  else
    if v1 ≤ (2 : Int32) then
      tb (X6_requireStateFormula_t N σ) (X6_requireStateFormula N σ) (fun t3 =>
      none)
    else
      X6_escape_t_9 N σ
set_option maxRecDepth 20000 in
set_option maxHeartbeats 4000000 in
theorem c_X6_escape_t {l : Launch} (hl0 : l.stackTraces = false) {D : va_G} {a : Nat → Nat} {cA : Nat → ClassId} {t : Nat} {σ : St} {N : Nat} {v1 : Int32} {k : Nat} {σ' : St} (h : X6_escape_t N v1 σ = some (k, σ')) : MetX l yX6_escape cX6_escape 6 (some .int) 7 D (tyW cA) (wS a cA) (ES t FX) [.ref (a 0), .int v1] σ k σ' := by
  refine mkX hl0 (by decide) rfl (by decide) (Nat.le_of_ble_eq_true rfl) ?_
  intro p e R s m args below meth c A Q ls X hRc hT hTW hO hp hl
  obtain ⟨hx, hb, -, hown, hts, -⟩ := id X
  have hF : EOK FX := eokX
  have J_9 : ∀  (σ : St) (H : Heap) (locs : List Loc) (ls : Array Slot), Pw D (wS a cA) A s.heap H locs σ → lv_has ls 6 [(0, .ref (a 0))] → X6_escape_t_9 N σ = some (k, σ') → W p l e R s m args below meth c H locs 0 0 Q (F0 m 9 ls []) := by
    intro σ H locs ls hp hl h
    unfold X6_escape_t_9 at h
    exact hT 1 _ _ _ _ _ _ 202 "what must be 0 to 2" (Or.inl rfl) hl.1 (List.mem_of_getElem? (i := 12) rfl) dX6_escape_9 dX6_escape_12 dX6_escape_13 dX6_escape_15 dX6_escape_18 (Nat.le_of_ble_eq_true rfl) hp (congrArg Prod.fst (Option.some.inj h)) (congrArg Prod.snd (Option.some.inj h))
  unfold X6_escape_t at h
  have hl := lv_sub (l' := [(0, .ref (a 0)), (1, .int v1)]) hl [0, 1] rfl
  refine lv_iload_n hx hb dX6_escape_0 rfl (lv_at hl 1 rfl) ?_
  refine lv_if_lt (tgt := 9) hx hb dX6_escape_1 (by decide) (fun c1 => ?_) (fun c1 => ?_)
  · have h := it_p h c1
    exact J_9 σ _ _ _ hp (lv_sub hl [0] rfl) h
  · have h := it_n h c1
    refine lv_iload_n hx hb dX6_escape_4 rfl (lv_at hl 1 rfl) ?_
    refine lv_iconst (v := 2) hx hb dX6_escape_5 (by decide) ?_
    refine lv_icmp_le (tgt := 19) hx hb dX6_escape_6 (by decide) (fun c2 => ?_) (fun c2 => ?_)
    · have h := it_p h c2
      refine lv_aload_n hx hb dX6_escape_19 rfl (lv_at hl 0 rfl) ?_
      rcases tb_s h with hq | ⟨t3, ht3, h⟩
      · exact cl_Xv X hRc (eokS hF) (c_X6_requireStateFormula_t hl0 hq) tw_18_17 mw_X6_requireStateFormula (by decide) hp 0 rfl rfl rfl hl.1 rfl (Nat.le_of_ble_eq_true rfl) dX6_escape_20 (fun H locs q ex ce hp e1 h1 h2 h3 => hO _ _ _ _ _ q ex ce _ hp e1 rfl h1 h2 h3)
      refine cl_Vv X (eokS hF) (c_X6_requireStateFormula hF ht3) tw_18_17 mw_X6_requireStateFormula (by decide) hp 0 rfl rfl rfl hl.1 rfl (Nat.le_of_ble_eq_true rfl) dX6_escape_20 (fun H locs hp => ?_)
      exact nn_s h
    · have h := it_n h c2
      exact J_9 σ _ _ _ hp (lv_sub hl [0] rfl) h
def X6_modal_t_9 (N : Nat) (σ : St) : Option (Nat × St) :=
  some (1, σ)
def X6_modal_t (N : Nat) (v1 : Int32) (σ : St) : Option (Nat × St) :=
  if v1 < 0 then
    X6_modal_t_9 N σ
  else
    if v1 ≤ (5 : Int32) then
      tb (X6_requireStateFormula_t N σ) (X6_requireStateFormula N σ) (fun t3 =>
      none)
    else
      X6_modal_t_9 N σ
set_option maxRecDepth 20000 in
set_option maxHeartbeats 4000000 in
theorem c_X6_modal_t {l : Launch} (hl0 : l.stackTraces = false) {D : va_G} {a : Nat → Nat} {cA : Nat → ClassId} {t : Nat} {σ : St} {N : Nat} {v1 : Int32} {k : Nat} {σ' : St} (h : X6_modal_t N v1 σ = some (k, σ')) : MetX l yX6_modal cX6_modal 6 (some .long) 7 D (tyW cA) (wS a cA) (ES t FX) [.ref (a 0), .int v1] σ k σ' := by
  refine mkX hl0 (by decide) rfl (by decide) (Nat.le_of_ble_eq_true rfl) ?_
  intro p e R s m args below meth c A Q ls X hRc hT hTW hO hp hl
  obtain ⟨hx, hb, -, hown, hts, -⟩ := id X
  have hF : EOK FX := eokX
  have J_9 : ∀  (σ : St) (H : Heap) (locs : List Loc) (ls : Array Slot), Pw D (wS a cA) A s.heap H locs σ → lv_has ls 6 [(0, .ref (a 0))] → X6_modal_t_9 N σ = some (k, σ') → W p l e R s m args below meth c H locs 0 0 Q (F0 m 9 ls []) := by
    intro σ H locs ls hp hl h
    unfold X6_modal_t_9 at h
    exact hT 1 _ _ _ _ _ _ 217 "kind must be 0 to 5" (Or.inl rfl) hl.1 (List.mem_of_getElem? (i := 13) rfl) dX6_modal_9 dX6_modal_12 dX6_modal_13 dX6_modal_15 dX6_modal_18 (Nat.le_of_ble_eq_true rfl) hp (congrArg Prod.fst (Option.some.inj h)) (congrArg Prod.snd (Option.some.inj h))
  unfold X6_modal_t at h
  have hl := lv_sub (l' := [(0, .ref (a 0)), (1, .int v1)]) hl [0, 1] rfl
  refine lv_iload_n hx hb dX6_modal_0 rfl (lv_at hl 1 rfl) ?_
  refine lv_if_lt (tgt := 9) hx hb dX6_modal_1 (by decide) (fun c1 => ?_) (fun c1 => ?_)
  · have h := it_p h c1
    exact J_9 σ _ _ _ hp (lv_sub hl [0] rfl) h
  · have h := it_n h c1
    refine lv_iload_n hx hb dX6_modal_4 rfl (lv_at hl 1 rfl) ?_
    refine lv_iconst (v := 5) hx hb dX6_modal_5 (by decide) ?_
    refine lv_icmp_le (tgt := 19) hx hb dX6_modal_6 (by decide) (fun c2 => ?_) (fun c2 => ?_)
    · have h := it_p h c2
      refine lv_aload_n hx hb dX6_modal_19 rfl (lv_at hl 0 rfl) ?_
      rcases tb_s h with hq | ⟨t3, ht3, h⟩
      · exact cl_Xv X hRc (eokS hF) (c_X6_requireStateFormula_t hl0 hq) tw_18_17 mw_X6_requireStateFormula (by decide) hp 0 rfl rfl rfl hl.1 rfl (Nat.le_of_ble_eq_true rfl) dX6_modal_20 (fun H locs q ex ce hp e1 h1 h2 h3 => hO _ _ _ _ _ q ex ce _ hp e1 rfl h1 h2 h3)
      refine cl_Vv X (eokS hF) (c_X6_requireStateFormula hF ht3) tw_18_17 mw_X6_requireStateFormula (by decide) hp 0 rfl rfl rfl hl.1 rfl (Nat.le_of_ble_eq_true rfl) dX6_modal_20 (fun H locs hp => ?_)
      exact nn_s h
    · have h := it_n h c2
      exact J_9 σ _ _ _ hp (lv_sub hl [0] rfl) h
def X6_proof_t_10 (σ : St) : Option (Nat × St) :=
  some (1, σ)
def X6_proof_t (σ : St) (v1 : Int32) : Option (Nat × St) :=
  if v1 < 0 then
    X6_proof_t_10 σ
  else
    if v1 < (8 : Int32) then
      none
    else
      X6_proof_t_10 σ
set_option maxRecDepth 20000 in
set_option maxHeartbeats 4000000 in
theorem c_X6_proof_t {l : Launch} (hl0 : l.stackTraces = false) {D : va_G} {a : Nat → Nat} {cA : Nat → ClassId} {t : Nat} {σ : St} {v1 : Int32} {k : Nat} {σ' : St} (h : X6_proof_t σ v1 = some (k, σ')) : MetX l yX6_proof cX6_proof 2 (some .int) 6 D (tyW cA) (wS a cA) (ES t FX) [.ref (a 0), .int v1] σ k σ' := by
  refine mkX hl0 (by decide) rfl (by decide) (Nat.le_of_ble_eq_true rfl) ?_
  intro p e R s m args below meth c A Q ls X hRc hT hTW hO hp hl
  obtain ⟨hx, hb, -, hown, hts, -⟩ := id X
  have hF : EOK FX := eokX
  have J_10 : ∀  (H : Heap) (locs : List Loc) (ls : Array Slot), Pw D (wS a cA) A s.heap H locs σ → lv_has ls 2 [(0, .ref (a 0))] → X6_proof_t_10 σ = some (k, σ') → W p l e R s m args below meth c H locs 0 0 Q (F0 m 10 ls []) := by
    intro H locs ls hp hl h
    unfold X6_proof_t_10 at h
    exact hT 1 _ _ _ _ _ _ 231 "what must be 0 to 7" (Or.inl rfl) hl.1 (List.mem_of_getElem? (i := 14) rfl) dX6_proof_10 dX6_proof_13 dX6_proof_14 dX6_proof_16 dX6_proof_19 (Nat.le_of_ble_eq_true rfl) hp (congrArg Prod.fst (Option.some.inj h)) (congrArg Prod.snd (Option.some.inj h))
  unfold X6_proof_t at h
  have hl := lv_sub (l' := [(0, .ref (a 0)), (1, .int v1)]) hl [0, 1] rfl
  refine lv_iload_n hx hb dX6_proof_0 rfl (lv_at hl 1 rfl) ?_
  refine lv_if_lt (tgt := 10) hx hb dX6_proof_1 (by decide) (fun c1 => ?_) (fun c1 => ?_)
  · have h := it_p h c1
    exact J_10 _ _ _ hp (lv_sub hl [0] rfl) h
  · have h := it_n h c1
    refine lv_iload_n hx hb dX6_proof_4 rfl (lv_at hl 1 rfl) ?_
    refine lv_bipush (v := 8) hx hb dX6_proof_5 (by decide) ?_
    refine lv_icmp_lt (tgt := 20) hx hb dX6_proof_7 (by decide) (fun c2 => ?_) (fun c2 => ?_)
    · have h := it_p h c2
      exact nn_s h
    · have h := it_n h c2
      exact J_10 _ _ _ hp (lv_sub hl [0] rfl) h
def X6_frame_t_19 (σ : St) : Option (Nat × St) :=
  some (3, σ)
def X6_frame_t (v1 : Int32) (σ : St) : Option (Nat × St) :=
  tb (X6_requireProof_t σ) (X6_requireProof σ) (fun t1 =>
  if v1 < 0 then
    X6_frame_t_19 t1
  else
    if v1 ≤ (t1.1 16) then
      none
    else
      X6_frame_t_19 t1)
set_option maxRecDepth 20000 in
set_option maxHeartbeats 4000000 in
theorem c_X6_frame_t {l : Launch} (hl0 : l.stackTraces = false) {D : va_G} {a : Nat → Nat} {cA : Nat → ClassId} {t : Nat} {σ : St} {v1 : Int32} {k : Nat} {σ' : St} (h : X6_frame_t v1 σ = some (k, σ')) : MetX l yX6_frame cX6_frame 2 (some .long) 7 D (tyW cA) (wS a cA) (ES t FX) [.ref (a 0), .int v1] σ k σ' := by
  refine mkX hl0 (by decide) rfl (by decide) (Nat.le_of_ble_eq_true rfl) ?_
  intro p e R s m args below meth c A Q ls X hRc hT hTW hO hp hl
  obtain ⟨hx, hb, -, hown, hts, -⟩ := id X
  have hF : EOK FX := eokX
  have J_19 : ∀  (σ : St) (H : Heap) (locs : List Loc) (ls : Array Slot), Pw D (wS a cA) A s.heap H locs σ → lv_has ls 2 [(0, .ref (a 0))] → X6_frame_t_19 σ = some (k, σ') → W p l e R s m args below meth c H locs 0 0 Q (F0 m 19 ls []) := by
    intro σ H locs ls hp hl h
    unfold X6_frame_t_19 at h
    exact hT 3 _ _ _ _ _ _ 246 "there is no such frame" (Or.inr (Or.inr rfl)) hl.1 (List.mem_of_getElem? (i := 15) rfl) dX6_frame_19 dX6_frame_22 dX6_frame_23 dX6_frame_25 dX6_frame_28 (Nat.le_of_ble_eq_true rfl) hp (congrArg Prod.fst (Option.some.inj h)) (congrArg Prod.snd (Option.some.inj h))
  unfold X6_frame_t at h
  have hl := lv_sub (l' := [(0, .ref (a 0)), (1, .int v1)]) hl [0, 1] rfl
  refine lv_aload_n hx hb dX6_frame_0 rfl (lv_at hl 0 rfl) ?_
  rcases tb_s h with hq | ⟨t1, ht1, h⟩
  · exact cl_Xv X hRc (eokS hF) (c_X6_requireProof_t hl0 hq) tw_43_18 mw_X6_requireProof (by decide) hp 0 rfl rfl rfl hl.1 rfl (Nat.le_of_ble_eq_true rfl) dX6_frame_1 (fun H locs q ex ce hp e1 h1 h2 h3 => hO _ _ _ _ _ q ex ce _ hp e1 rfl h1 h2 h3)
  refine cl_Vv X (eokS hF) (c_X6_requireProof hF ht1) tw_43_18 mw_X6_requireProof (by decide) hp 0 rfl rfl rfl hl.1 rfl (Nat.le_of_ble_eq_true rfl) dX6_frame_1 (fun H locs hp => ?_)
  refine lv_iload_n hx hb dX6_frame_4 rfl (lv_at hl 1 rfl) ?_
  refine lv_if_lt (tgt := 19) hx hb dX6_frame_5 (by decide) (fun c2 => ?_) (fun c2 => ?_)
  · have h := it_p h c2
    exact J_19 t1 _ _ _ hp (lv_sub hl [0] rfl) h
  · have h := it_n h c2
    refine lv_iload_n hx hb dX6_frame_8 rfl (lv_at hl 1 rfl) ?_
    refine lv_aload_n hx hb dX6_frame_9 rfl (lv_at hl 0 rfl) ?_
    refine gS_X6_frameProof X hp tw_2_4 dX6_frame_10 ?_
    refine gS_X4_top X hp tw_43_17 dX6_frame_13 ?_
    refine lv_icmp_le (tgt := 29) hx hb dX6_frame_16 (by decide) (fun c3 => ?_) (fun c3 => ?_)
    · have h := it_p h c3
      exact nn_s h
    · have h := it_n h c3
      exact J_19 t1 _ _ _ hp (lv_sub hl [0] rfl) h
def X6_cube_t_22 (σ : St) : Option (Nat × St) :=
  some (3, σ)
def X6_cube_t_42 (σ : St) : Option (Nat × St) :=
  some (1, σ)
def X6_cube_t (v1 : Int32) (v2 : Int32) (σ : St) : Option (Nat × St) :=
  tb (X6_requireProof_t σ) (X6_requireProof σ) (fun t1 =>
  if v1 < 0 then
    X6_cube_t_22 t1
  else
    if v1 < (t1.1 23) then
      if v2 < 0 then
        X6_cube_t_42 t1
      else
        if v2 ≤ (2 : Int32) then
          none
        else
          X6_cube_t_42 t1
    else
      X6_cube_t_22 t1)
set_option maxRecDepth 20000 in
set_option maxHeartbeats 4000000 in
theorem c_X6_cube_t {l : Launch} (hl0 : l.stackTraces = false) {D : va_G} {a : Nat → Nat} {cA : Nat → ClassId} {t : Nat} {σ : St} {v1 : Int32} {v2 : Int32} {k : Nat} {σ' : St} (h : X6_cube_t v1 v2 σ = some (k, σ')) : MetX l yX6_cube cX6_cube 3 (some .int) 7 D (tyW cA) (wS a cA) (ES t FX) [.ref (a 0), .int v1, .int v2] σ k σ' := by
  refine mkX hl0 (by decide) rfl (by decide) (Nat.le_of_ble_eq_true rfl) ?_
  intro p e R s m args below meth c A Q ls X hRc hT hTW hO hp hl
  obtain ⟨hx, hb, -, hown, hts, -⟩ := id X
  have hF : EOK FX := eokX
  have J_22 : ∀  (σ : St) (H : Heap) (locs : List Loc) (ls : Array Slot), Pw D (wS a cA) A s.heap H locs σ → lv_has ls 3 [(0, .ref (a 0))] → X6_cube_t_22 σ = some (k, σ') → W p l e R s m args below meth c H locs 0 0 Q (F0 m 22 ls []) := by
    intro σ H locs ls hp hl h
    unfold X6_cube_t_22 at h
    exact hTW 3 _ _ _ _ _ _ 261 "there is no such cube" (Or.inr (Or.inr rfl)) hl.1 (List.mem_of_getElem? (i := 16) rfl) dX6_cube_22 dX6_cube_25 dX6_cube_26 dX6_cube_29 dX6_cube_32 (Nat.le_of_ble_eq_true rfl) hp (congrArg Prod.fst (Option.some.inj h)) (congrArg Prod.snd (Option.some.inj h))
  have J_42 : ∀  (σ : St) (H : Heap) (locs : List Loc) (ls : Array Slot), Pw D (wS a cA) A s.heap H locs σ → lv_has ls 3 [(0, .ref (a 0))] → X6_cube_t_42 σ = some (k, σ') → W p l e R s m args below meth c H locs 0 0 Q (F0 m 42 ls []) := by
    intro σ H locs ls hp hl h
    unfold X6_cube_t_42 at h
    exact hT 1 _ _ _ _ _ _ 202 "what must be 0 to 2" (Or.inl rfl) hl.1 (List.mem_of_getElem? (i := 12) rfl) dX6_cube_42 dX6_cube_45 dX6_cube_46 dX6_cube_48 dX6_cube_51 (Nat.le_of_ble_eq_true rfl) hp (congrArg Prod.fst (Option.some.inj h)) (congrArg Prod.snd (Option.some.inj h))
  unfold X6_cube_t at h
  have hl := lv_sub (l' := [(0, .ref (a 0)), (1, .int v1), (2, .int v2)]) hl [0, 1, 2] rfl
  refine lv_aload_n hx hb dX6_cube_0 rfl (lv_at hl 0 rfl) ?_
  rcases tb_s h with hq | ⟨t1, ht1, h⟩
  · exact cl_Xv X hRc (eokS hF) (c_X6_requireProof_t hl0 hq) tw_43_18 mw_X6_requireProof (by decide) hp 0 rfl rfl rfl hl.1 rfl (Nat.le_of_ble_eq_true rfl) dX6_cube_1 (fun H locs q ex ce hp e1 h1 h2 h3 => hO _ _ _ _ _ q ex ce _ hp e1 rfl h1 h2 h3)
  refine cl_Vv X (eokS hF) (c_X6_requireProof hF ht1) tw_43_18 mw_X6_requireProof (by decide) hp 0 rfl rfl rfl hl.1 rfl (Nat.le_of_ble_eq_true rfl) dX6_cube_1 (fun H locs hp => ?_)
  refine lv_iload_n hx hb dX6_cube_4 rfl (lv_at hl 1 rfl) ?_
  refine lv_if_lt (tgt := 22) hx hb dX6_cube_5 (by decide) (fun c2 => ?_) (fun c2 => ?_)
  · have h := it_p h c2
    exact J_22 t1 _ _ _ hp (lv_sub hl [0] rfl) h
  · have h := it_n h c2
    refine lv_iload_n hx hb dX6_cube_8 rfl (lv_at hl 1 rfl) ?_
    refine lv_aload_n hx hb dX6_cube_9 rfl (lv_at hl 0 rfl) ?_
    refine gS_X6_frameProof X hp tw_2_4 dX6_cube_10 ?_
    refine gS_X4_cubes X hp tw_44_10 dX6_cube_13 ?_
    refine gS_X1_count X hp tw_44_11 dX6_cube_16 ?_
    refine lv_icmp_lt (tgt := 33) hx hb dX6_cube_19 (by decide) (fun c3 => ?_) (fun c3 => ?_)
    · have h := it_p h c3
      refine lv_iload_n hx hb dX6_cube_33 rfl (lv_at hl 2 rfl) ?_
      refine lv_if_lt (tgt := 42) hx hb dX6_cube_34 (by decide) (fun c4 => ?_) (fun c4 => ?_)
      · have h := it_p h c4
        exact J_42 t1 _ _ _ hp (lv_sub hl [0] rfl) h
      · have h := it_n h c4
        refine lv_iload_n hx hb dX6_cube_37 rfl (lv_at hl 2 rfl) ?_
        refine lv_iconst (v := 2) hx hb dX6_cube_38 (by decide) ?_
        refine lv_icmp_le (tgt := 52) hx hb dX6_cube_39 (by decide) (fun c5 => ?_) (fun c5 => ?_)
        · have h := it_p h c5
          exact nn_s h
        · have h := it_n h c5
          exact J_42 t1 _ _ _ hp (lv_sub hl [0] rfl) h
    · have h := it_n h c3
      exact J_22 t1 _ _ _ hp (lv_sub hl [0] rfl) h
def X6_certificate_t (σ : St) : Option (Nat × St) :=
  tb (X6_requireSafeProof_t σ) (X6_requireSafeProof σ) (fun t1 =>
  none)
set_option maxRecDepth 20000 in
set_option maxHeartbeats 4000000 in
theorem c_X6_certificate_t {l : Launch} (hl0 : l.stackTraces = false) {D : va_G} {a : Nat → Nat} {cA : Nat → ClassId} {t : Nat} {σ : St} {k : Nat} {σ' : St} (h : X6_certificate_t σ = some (k, σ')) : MetX l yX6_certificate cX6_certificate 1 (some .long) 7 D (tyW cA) (wS a cA) (ES t FX) [.ref (a 0)] σ k σ' := by
  refine mkX hl0 (by decide) rfl (by decide) (Nat.le_of_ble_eq_true rfl) ?_
  intro p e R s m args below meth c A Q ls X hRc hT hTW hO hp hl
  obtain ⟨hx, hb, -, hown, hts, -⟩ := id X
  have hF : EOK FX := eokX
  unfold X6_certificate_t at h
  have hl := lv_sub (l' := [(0, .ref (a 0))]) hl [0] rfl
  refine lv_aload_n hx hb dX6_certificate_0 rfl (lv_at hl 0 rfl) ?_
  rcases tb_s h with hq | ⟨t1, ht1, h⟩
  · exact cl_Xv X hRc (eokS hF) (c_X6_requireSafeProof_t hl0 hq) tw_45_3 mw_X6_requireSafeProof (by decide) hp 0 rfl rfl rfl hl.1 rfl (Nat.le_of_ble_eq_true rfl) dX6_certificate_1 (fun H locs q ex ce hp e1 h1 h2 h3 => hO _ _ _ _ _ q ex ce _ hp e1 rfl h1 h2 h3)
  refine cl_Vv X (eokS hF) (c_X6_requireSafeProof hF ht1) tw_45_3 mw_X6_requireSafeProof (by decide) hp 0 rfl rfl rfl hl.1 rfl (Nat.le_of_ble_eq_true rfl) dX6_certificate_1 (fun H locs hp => ?_)
  exact nn_s h
def X6_shrunken_t (σ : St) : Option (Nat × St) :=
  tb (X6_requireSafeProof_t σ) (X6_requireSafeProof σ) (fun t1 =>
  none)
set_option maxRecDepth 20000 in
set_option maxHeartbeats 4000000 in
theorem c_X6_shrunken_t {l : Launch} (hl0 : l.stackTraces = false) {D : va_G} {a : Nat → Nat} {cA : Nat → ClassId} {t : Nat} {σ : St} {k : Nat} {σ' : St} (h : X6_shrunken_t σ = some (k, σ')) : MetX l yX6_shrunken cX6_shrunken 1 (some .int) 7 D (tyW cA) (wS a cA) (ES t FX) [.ref (a 0)] σ k σ' := by
  refine mkX hl0 (by decide) rfl (by decide) (Nat.le_of_ble_eq_true rfl) ?_
  intro p e R s m args below meth c A Q ls X hRc hT hTW hO hp hl
  obtain ⟨hx, hb, -, hown, hts, -⟩ := id X
  have hF : EOK FX := eokX
  unfold X6_shrunken_t at h
  have hl := lv_sub (l' := [(0, .ref (a 0))]) hl [0] rfl
  refine lv_aload_n hx hb dX6_shrunken_0 rfl (lv_at hl 0 rfl) ?_
  rcases tb_s h with hq | ⟨t1, ht1, h⟩
  · exact cl_Xv X hRc (eokS hF) (c_X6_requireSafeProof_t hl0 hq) tw_45_3 mw_X6_requireSafeProof (by decide) hp 0 rfl rfl rfl hl.1 rfl (Nat.le_of_ble_eq_true rfl) dX6_shrunken_1 (fun H locs q ex ce hp e1 h1 h2 h3 => hO _ _ _ _ _ q ex ce _ hp e1 rfl h1 h2 h3)
  refine cl_Vv X (eokS hF) (c_X6_requireSafeProof hF ht1) tw_45_3 mw_X6_requireSafeProof (by decide) hp 0 rfl rfl rfl hl.1 rfl (Nat.le_of_ble_eq_true rfl) dX6_shrunken_1 (fun H locs hp => ?_)
  exact nn_s h
def X6_elimination_t_10 (σ : St) : Option (Nat × St) :=
  some (1, σ)
def X6_elimination_t (v1 : Int32) (σ : St) : Option (Nat × St) :=
  if v1 < (1 : Int32) then
    X6_elimination_t_10 σ
  else
    if v1 ≤ (3 : Int32) then
      none
    else
      X6_elimination_t_10 σ
set_option maxRecDepth 20000 in
set_option maxHeartbeats 4000000 in
theorem c_X6_elimination_t {l : Launch} (hl0 : l.stackTraces = false) {D : va_G} {a : Nat → Nat} {cA : Nat → ClassId} {t : Nat} {σ : St} {v1 : Int32} {k : Nat} {σ' : St} (h : X6_elimination_t v1 σ = some (k, σ')) : MetX l yX6_elimination cX6_elimination 2 (some .long) 6 D (tyW cA) (wS a cA) (ES t FX) [.ref (a 0), .int v1] σ k σ' := by
  refine mkX hl0 (by decide) rfl (by decide) (Nat.le_of_ble_eq_true rfl) ?_
  intro p e R s m args below meth c A Q ls X hRc hT hTW hO hp hl
  obtain ⟨hx, hb, -, hown, hts, -⟩ := id X
  have hF : EOK FX := eokX
  have J_10 : ∀  (σ : St) (H : Heap) (locs : List Loc) (ls : Array Slot), Pw D (wS a cA) A s.heap H locs σ → lv_has ls 2 [(0, .ref (a 0))] → X6_elimination_t_10 σ = some (k, σ') → W p l e R s m args below meth c H locs 0 0 Q (F0 m 10 ls []) := by
    intro σ H locs ls hp hl h
    unfold X6_elimination_t_10 at h
    exact hTW 1 _ _ _ _ _ _ 279 "width must be 1 to 3" (Or.inl rfl) hl.1 (List.mem_of_getElem? (i := 17) rfl) dX6_elimination_10 dX6_elimination_13 dX6_elimination_14 dX6_elimination_17 dX6_elimination_20 (Nat.le_of_ble_eq_true rfl) hp (congrArg Prod.fst (Option.some.inj h)) (congrArg Prod.snd (Option.some.inj h))
  unfold X6_elimination_t at h
  have hl := lv_sub (l' := [(0, .ref (a 0)), (1, .int v1)]) hl [0, 1] rfl
  refine lv_iload_n hx hb dX6_elimination_0 rfl (lv_at hl 1 rfl) ?_
  refine lv_iconst (v := 1) hx hb dX6_elimination_1 (by decide) ?_
  refine lv_icmp_lt (tgt := 10) hx hb dX6_elimination_2 (by decide) (fun c1 => ?_) (fun c1 => ?_)
  · have h := it_p h c1
    exact J_10 σ _ _ _ hp (lv_sub hl [0] rfl) h
  · have h := it_n h c1
    refine lv_iload_n hx hb dX6_elimination_5 rfl (lv_at hl 1 rfl) ?_
    refine lv_iconst (v := 3) hx hb dX6_elimination_6 (by decide) ?_
    refine lv_icmp_le (tgt := 21) hx hb dX6_elimination_7 (by decide) (fun c2 => ?_) (fun c2 => ?_)
    · have h := it_p h c2
      exact nn_s h
    · have h := it_n h c2
      exact J_10 σ _ _ _ hp (lv_sub hl [0] rfl) h
def X6_isSafeWithFree_t_15 (σ : St) : Option (Nat × St) :=
  some (1, σ)
def X6_isSafeWithFree_t (v1 : Int32) (σ : St) : Option (Nat × St) :=
  if v1 < 0 then
    X6_isSafeWithFree_t_15 σ
  else
    if v1 < (σ.1 7) then
      none
    else
      X6_isSafeWithFree_t_15 σ
set_option maxRecDepth 20000 in
set_option maxHeartbeats 4000000 in
theorem c_X6_isSafeWithFree_t {l : Launch} (hl0 : l.stackTraces = false) {D : va_G} {a : Nat → Nat} {cA : Nat → ClassId} {t : Nat} {σ : St} {v1 : Int32} {k : Nat} {σ' : St} (h : X6_isSafeWithFree_t v1 σ = some (k, σ')) : MetX l yX6_isSafeWithFree cX6_isSafeWithFree 2 (some .boolean) 6 D (tyW cA) (wS a cA) (ES t FX) [.ref (a 0), .int v1] σ k σ' := by
  refine mkX hl0 (by decide) rfl (by decide) (Nat.le_of_ble_eq_true rfl) ?_
  intro p e R s m args below meth c A Q ls X hRc hT hTW hO hp hl
  obtain ⟨hx, hb, -, hown, hts, -⟩ := id X
  have hF : EOK FX := eokX
  have J_15 : ∀  (σ : St) (H : Heap) (locs : List Loc) (ls : Array Slot), Pw D (wS a cA) A s.heap H locs σ → lv_has ls 2 [(0, .ref (a 0))] → X6_isSafeWithFree_t_15 σ = some (k, σ') → W p l e R s m args below meth c H locs 0 0 Q (F0 m 15 ls []) := by
    intro σ H locs ls hp hl h
    unfold X6_isSafeWithFree_t_15 at h
    exact hTW 1 _ _ _ _ _ _ 284 "there is no such set of bits" (Or.inl rfl) hl.1 (List.mem_of_getElem? (i := 18) rfl) dX6_isSafeWithFree_15 dX6_isSafeWithFree_18 dX6_isSafeWithFree_19 dX6_isSafeWithFree_22 dX6_isSafeWithFree_25 (Nat.le_of_ble_eq_true rfl) hp (congrArg Prod.fst (Option.some.inj h)) (congrArg Prod.snd (Option.some.inj h))
  unfold X6_isSafeWithFree_t at h
  have hl := lv_sub (l' := [(0, .ref (a 0)), (1, .int v1)]) hl [0, 1] rfl
  refine lv_iload_n hx hb dX6_isSafeWithFree_0 rfl (lv_at hl 1 rfl) ?_
  refine lv_if_lt (tgt := 15) hx hb dX6_isSafeWithFree_1 (by decide) (fun c1 => ?_) (fun c1 => ?_)
  · have h := it_p h c1
    exact J_15 σ _ _ _ hp (lv_sub hl [0] rfl) h
  · have h := it_n h c1
    refine lv_iload_n hx hb dX6_isSafeWithFree_4 rfl (lv_at hl 1 rfl) ?_
    refine lv_aload_n hx hb dX6_isSafeWithFree_5 rfl (lv_at hl 0 rfl) ?_
    refine gS_X6_circuit X hp tw_1_20 dX6_isSafeWithFree_6 ?_
    refine gS_X0_states X hp tw_7_21 dX6_isSafeWithFree_9 ?_
    refine lv_icmp_lt (tgt := 26) hx hb dX6_isSafeWithFree_12 (by decide) (fun c2 => ?_) (fun c2 => ?_)
    · have h := it_p h c2
      exact nn_s h
    · have h := it_n h c2
      exact J_15 σ _ _ _ hp (lv_sub hl [0] rfl) h
def X6_simulate_t_23 (σ : St) : Option (Nat × St) :=
  some (1, σ)
def X6_simulate_t (σ : St) (v1 : Int32) (v2 : Int32) (v3 : Int32) : Option (Nat × St) :=
  if v1 < 0 then
    X6_simulate_t_23 σ
  else
    if (100 : Int32) < v1 then
      X6_simulate_t_23 σ
    else
      if v2 < 0 then
        X6_simulate_t_23 σ
      else
        if v3 < 0 then
          X6_simulate_t_23 σ
        else
          if v3 ≤ (2 : Int32) then
            bd (X0_initial σ) (fun t6 =>
            bd (X6_leastOf t6) (fun t7 =>
            if t7 = (-1 : Int32) then
              some (2, σ)
            else
              none))
          else
            X6_simulate_t_23 σ
set_option maxRecDepth 20000 in
set_option maxHeartbeats 4000000 in
theorem c_X6_simulate_t {l : Launch} (hl0 : l.stackTraces = false) {D : va_G} {a : Nat → Nat} {cA : Nat → ClassId} {t : Nat} {σ : St} {v1 : Int32} {v2 : Int32} {v3 : Int32} {k : Nat} {σ' : St} (h : X6_simulate_t σ v1 v2 v3 = some (k, σ')) : MetX l yX6_simulate cX6_simulate 5 (some .int) 6 D (tyW cA) (wS a cA) (ES t FX) [.ref (a 0), .int v1, .int v2, .int v3] σ k σ' := by
  refine mkX hl0 (by decide) rfl (by decide) (Nat.le_of_ble_eq_true rfl) ?_
  intro p e R s m args below meth c A Q ls X hRc hT hTW hO hp hl
  obtain ⟨hx, hb, -, hown, hts, -⟩ := id X
  have hF : EOK FX := eokX
  have J_23 : ∀  (H : Heap) (locs : List Loc) (ls : Array Slot), Pw D (wS a cA) A s.heap H locs σ → lv_has ls 5 [(0, .ref (a 0))] → X6_simulate_t_23 σ = some (k, σ') → W p l e R s m args below meth c H locs 0 0 Q (F0 m 23 ls []) := by
    intro H locs ls hp hl h
    unfold X6_simulate_t_23 at h
    exact hTW 1 _ _ _ _ _ _ 293 "steps must be 0 to 100, seed 0 or more, what 0 to 2" (Or.inl rfl) hl.1 (List.mem_of_getElem? (i := 19) rfl) dX6_simulate_23 dX6_simulate_26 dX6_simulate_27 dX6_simulate_30 dX6_simulate_33 (Nat.le_of_ble_eq_true rfl) hp (congrArg Prod.fst (Option.some.inj h)) (congrArg Prod.snd (Option.some.inj h))
  unfold X6_simulate_t at h
  have hl := lv_sub (l' := [(0, .ref (a 0)), (1, .int v1), (2, .int v2), (3, .int v3)]) hl [0, 1, 2, 3] rfl
  refine lv_iload_n hx hb dX6_simulate_0 rfl (lv_at hl 1 rfl) ?_
  refine lv_if_lt (tgt := 23) hx hb dX6_simulate_1 (by decide) (fun c1 => ?_) (fun c1 => ?_)
  · have h := it_p h c1
    exact J_23 _ _ _ hp (lv_sub hl [0] rfl) h
  · have h := it_n h c1
    refine lv_iload_n hx hb dX6_simulate_4 rfl (lv_at hl 1 rfl) ?_
    refine lv_bipush (v := 100) hx hb dX6_simulate_5 (by decide) ?_
    refine lv_icmp_gt (tgt := 23) hx hb dX6_simulate_7 (by decide) (fun c2 => ?_) (fun c2 => ?_)
    · have h := it_p h c2
      exact J_23 _ _ _ hp (lv_sub hl [0] rfl) h
    · have h := it_n h c2
      refine lv_iload_n hx hb dX6_simulate_10 rfl (lv_at hl 2 rfl) ?_
      refine lv_if_lt (tgt := 23) hx hb dX6_simulate_11 (by decide) (fun c3 => ?_) (fun c3 => ?_)
      · have h := it_p h c3
        exact J_23 _ _ _ hp (lv_sub hl [0] rfl) h
      · have h := it_n h c3
        refine lv_iload_n hx hb dX6_simulate_14 rfl (lv_at hl 3 rfl) ?_
        refine lv_if_lt (tgt := 23) hx hb dX6_simulate_15 (by decide) (fun c4 => ?_) (fun c4 => ?_)
        · have h := it_p h c4
          exact J_23 _ _ _ hp (lv_sub hl [0] rfl) h
        · have h := it_n h c4
          refine lv_iload_n hx hb dX6_simulate_18 rfl (lv_at hl 3 rfl) ?_
          refine lv_iconst (v := 2) hx hb dX6_simulate_19 (by decide) ?_
          refine lv_icmp_le (tgt := 34) hx hb dX6_simulate_20 (by decide) (fun c5 => ?_) (fun c5 => ?_)
          · have h := it_p h c5
            refine lv_aload_n hx hb dX6_simulate_34 rfl (lv_at hl 0 rfl) ?_
            refine gS_X6_circuit X hp tw_1_20 dX6_simulate_35 ?_
            obtain ⟨t6, ht6, h⟩ := bd_s h
            refine cl_Vl X (eokS hF) (c_X0_initial hF ht6) tw_19_1 mw_X0_initial (by decide) hp 2 rfl rfl rfl hl.1 rfl (Nat.le_of_ble_eq_true rfl) dX6_simulate_38 (fun H locs hp => ?_)
            obtain ⟨t7, ht7, h⟩ := bd_s h
            refine cl_Si X (eokS hF) (c_X6_leastOf (adrS a cA) (eokS hF) ht7) tw_32_22 mw_X6_leastOf (by decide) hp hl.1 rfl (Nat.le_of_ble_eq_true rfl) dX6_simulate_41 (fun H locs hp => ?_)
            refine lv_istore (lv' := [(4, .int t7), (0, .ref (a 0)), (1, .int v1), (2, .int v2), (3, .int v3)]) hx hb dX6_simulate_44 hl (by decide) rfl (fun ls hl => ?_)
            refine lv_iload hx hb dX6_simulate_46 (lv_at hl 0 rfl) ?_
            refine lv_iconst (v := -1) hx hb dX6_simulate_48 (by decide) ?_
            refine lv_icmp_ne (tgt := 63) hx hb dX6_simulate_49 (by decide) (fun c8 => ?_) (fun c8 => ?_)
            · have h := it_n h c8
              exact nn_s h
            · have h := it_p h c8
              exact hTW 2 _ _ _ _ _ _ 295 "there is no initial state" (Or.inr (Or.inl rfl)) hl.1 (List.mem_of_getElem? (i := 20) rfl) dX6_simulate_52 dX6_simulate_55 dX6_simulate_56 dX6_simulate_59 dX6_simulate_62 (Nat.le_of_ble_eq_true rfl) hp (congrArg Prod.fst (Option.some.inj h)) (congrArg Prod.snd (Option.some.inj h))
          · have h := it_n h c5
            exact J_23 _ _ _ hp (lv_sub hl [0] rfl) h
