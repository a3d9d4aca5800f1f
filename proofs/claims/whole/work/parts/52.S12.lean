/- X5_hasSimpleSequence X5_leastInduction X6_induction J6_bitCount_0f7a4 X5_collectClausesOf X5_collectClauses X5_statesWithoutClause X5_discardClauses X5_eliminate -/
def X5_hasSimpleSequence_2b (N : Nat) (k2 : (Int32 → Option (Int32))) (k37 : (Option (Int32))) (k45 : (Option (Int32))) (σ : St) (v1 : Int32) (v2 : Int32) : Option (Int32) :=
  if (σ.1 7) ≤ v2 then
    k45
  else
    bd (X5_startsAt σ v1) (fun t2 =>
    bd (X6_contains t2 v2) (fun t3 =>
    if t3 = 0 then
      nm (v2 + (1 : Int32)) (fun (x5 : Int32) =>
      k2 x5)
    else
      bd (X5_goesOnSimply N σ 8 v2 v1 ((1 : Int64) <<< (v2.toInt64 &&& 63))) (fun t6 =>
      if t6 = 0 then
        nm (v2 + (1 : Int32)) (fun (x8 : Int32) =>
        k2 x8)
      else
        k37)))
def X5_hasSimpleSequence_2 (N : Nat) (k37 : (Option (Int32))) (k45 : (Option (Int32))) (σ : St) (v1 : Int32) : Nat → Int32 → Option (Int32)
  | 0, _ => none
  | n + 1, v2 => X5_hasSimpleSequence_2b N (fun v2 => X5_hasSimpleSequence_2 N k37 k45 σ v1 n v2) k37 k45 σ v1 v2
def X5_hasSimpleSequence_45 (σ : St) : Option (Int32) :=
  some (0 : Int32)
def X5_hasSimpleSequence_37 (σ : St) : Option (Int32) :=
  some (1 : Int32)
def X5_hasSimpleSequence (N : Nat) (σ : St) (v1 : Int32) : Option (Int32) :=
  X5_hasSimpleSequence_2 N (X5_hasSimpleSequence_37 σ) (X5_hasSimpleSequence_45 σ) σ v1 N (0 : Int32)
set_option maxRecDepth 20000 in
set_option maxHeartbeats 4000000 in
theorem c_X5_hasSimpleSequence {l : Launch} {D : va_G} {a : Nat → Nat} {cA : Nat → ClassId} {t : Nat} {F : (Nat → Prop) → State → Prop} (hF : EOK F) {σ : St} {N : Nat} {v1 : Int32} {r : Int32} (h : X5_hasSimpleSequence N σ v1 = some r) : MetI l yX5_hasSimpleSequence cX5_hasSimpleSequence 3 (some .boolean) 10 D (tyW cA) (wS a cA) (ES t F) [.ref (a 5), .int v1] σ r σ := by
  refine mkI (by decide) (adrS a cA) (Or.inr rfl) (Nat.le_of_ble_eq_true rfl) ?_
  intro p e R s m args below meth c A Q ls X hR hp hl
  obtain ⟨hx, hb, -, hown, hts, -⟩ := id X
  have J_2 : ∀ (v1 : Int32) (k37 : (Option (Int32))) (hk37 : ∀ (H : Heap) (locs : List Loc) (ls : Array Slot), Pw D (wS a cA) A s.heap H locs σ → lv_has ls 3 [(0, .ref (a 5))] → k37 = some r → W p l e R s m args below meth c H locs 0 0 Q (F0 m 37 ls [])) (k45 : (Option (Int32))) (hk45 : ∀ (H : Heap) (locs : List Loc) (ls : Array Slot), Pw D (wS a cA) A s.heap H locs σ → lv_has ls 3 [(0, .ref (a 5))] → k45 = some r → W p l e R s m args below meth c H locs 0 0 Q (F0 m 45 ls [])) (n : Nat) (v2 : Int32) (H : Heap) (locs : List Loc) (ls : Array Slot), Pw D (wS a cA) A s.heap H locs σ → lv_has ls 3 [(0, .ref (a 5)), (1, .int v1), (2, .int v2)] → X5_hasSimpleSequence_2 N k37 k45 σ v1 n v2 = some r → W p l e R s m args below meth c H locs 0 0 Q (F0 m 2 ls []) := by
    intro v1 k37 hk37 k45 hk45 n
    induction n with
    | zero => intro v2 H locs ls hp hl h; exact nn_s (show (none : Option (Int32)) = some _ from h)
    | succ n ih =>
      intro v2 H locs ls hp hl h
      have h : X5_hasSimpleSequence_2b N (fun v2 => X5_hasSimpleSequence_2 N k37 k45 σ v1 n v2) k37 k45 σ v1 v2 = some r := h
      unfold X5_hasSimpleSequence_2b at h
      have hk2 := ih
      refine lv_iload_n hx hb dX5_hasSimpleSequence_2 rfl (lv_at hl 2 rfl) ?_
      refine lv_aload_n hx hb dX5_hasSimpleSequence_3 rfl (lv_at hl 0 rfl) ?_
      refine gS_X5_circuit X hp tw_5_9 dX5_hasSimpleSequence_4 ?_
      refine gS_X0_states X hp tw_47_19 dX5_hasSimpleSequence_7 ?_
      refine lv_icmp_ge (tgt := 45) hx hb dX5_hasSimpleSequence_10 (by decide) (fun c1 => ?_) (fun c1 => ?_)
      · have h := it_p h c1
        exact hk45 _ _ _ hp (lv_sub hl [0] rfl) h
      · have h := it_n h c1
        refine lv_aload_n hx hb dX5_hasSimpleSequence_13 rfl (lv_at hl 0 rfl) ?_
        refine lv_iload_n hx hb dX5_hasSimpleSequence_14 rfl (lv_at hl 1 rfl) ?_
        obtain ⟨t2, ht2, h⟩ := bd_s h
        refine cl_Vl X (eokS hF) (c_X5_startsAt hF ht2) tw_47_20 mw_X5_startsAt (by decide) hp 5 rfl rfl rfl hl.1 rfl (Nat.le_of_ble_eq_true rfl) dX5_hasSimpleSequence_15 (fun H locs hp => ?_)
        refine lv_iload_n hx hb dX5_hasSimpleSequence_18 rfl (lv_at hl 2 rfl) ?_
        obtain ⟨t3, ht3, h⟩ := bd_s h
        refine cl_Ni X (eokS hF) (c_X6_contains (adrS a cA) (eokS hF) ht3) (nwS X (List.mem_of_getElem? (i := 8) rfl)) mw_X6_contains (by decide) hp hl.1 rfl (Nat.le_of_ble_eq_true rfl) dX5_hasSimpleSequence_19 (fun H locs hp => ?_)
        refine lv_if_eq (tgt := 39) hx hb dX5_hasSimpleSequence_22 (by decide) (fun c4 => ?_) (fun c4 => ?_)
        · have h := it_p h c4
          obtain ⟨x5, ex5⟩ : ∃ z : Int32, z = v2 + (1 : Int32) := ⟨_, rfl⟩
          have h := nm_s h x5 ex5
          refine lv_iinc (v := x5) (lv' := [(2, .int x5), (0, .ref (a 5)), (1, .int v1)]) hx hb dX5_hasSimpleSequence_39 hl (k := 2) rfl (by rw [ex5]; rfl) (by decide) rfl (fun ls hl => ?_)
          refine lv_goto (tgt := 2) hx hb dX5_hasSimpleSequence_42 (by decide) ?_
          exact hk2 x5 _ _ _ hp (lv_sub hl [1, 2, 0] rfl) h
        · have h := it_n h c4
          refine lv_aload_n hx hb dX5_hasSimpleSequence_25 rfl (lv_at hl 0 rfl) ?_
          refine lv_iload_n hx hb dX5_hasSimpleSequence_26 rfl (lv_at hl 2 rfl) ?_
          refine lv_iload_n hx hb dX5_hasSimpleSequence_27 rfl (lv_at hl 1 rfl) ?_
          refine lv_lconst (v := 1) hx hb dX5_hasSimpleSequence_28 (by decide) ?_
          refine lv_iload_n hx hb dX5_hasSimpleSequence_29 rfl (lv_at hl 2 rfl) ?_
          refine lv_lshl hx hb dX5_hasSimpleSequence_30 rfl ?_
          obtain ⟨t6, ht6, h⟩ := bd_s h
          refine cl_Vi X (eokS hF) (c_X5_goesOnSimply hF ht6) tw_48_0 mw_X5_goesOnSimply (by decide) hp 5 rfl rfl rfl hl.1 rfl (Nat.le_of_ble_eq_true rfl) dX5_hasSimpleSequence_31 (fun H locs hp => ?_)
          refine lv_if_eq (tgt := 39) hx hb dX5_hasSimpleSequence_34 (by decide) (fun c7 => ?_) (fun c7 => ?_)
          · have h := it_p h c7
            obtain ⟨x8, ex8⟩ : ∃ z : Int32, z = v2 + (1 : Int32) := ⟨_, rfl⟩
            have h := nm_s h x8 ex8
            refine lv_iinc (v := x8) (lv' := [(2, .int x8), (0, .ref (a 5)), (1, .int v1)]) hx hb dX5_hasSimpleSequence_39 hl (k := 2) rfl (by rw [ex8]; rfl) (by decide) rfl (fun ls hl => ?_)
            refine lv_goto (tgt := 2) hx hb dX5_hasSimpleSequence_42 (by decide) ?_
            exact hk2 x8 _ _ _ hp (lv_sub hl [1, 2, 0] rfl) h
          · have h := it_n h c7
            exact hk37 _ _ _ hp (lv_sub hl [0] rfl) h
  have J_45 : ∀  (H : Heap) (locs : List Loc) (ls : Array Slot), Pw D (wS a cA) A s.heap H locs σ → lv_has ls 3 [(0, .ref (a 5))] → X5_hasSimpleSequence_45 σ = some r → W p l e R s m args below meth c H locs 0 0 Q (F0 m 45 ls []) := by
    intro H locs ls hp hl h
    unfold X5_hasSimpleSequence_45 at h
    refine lv_iconst (v := 0) hx hb dX5_hasSimpleSequence_45 (by decide) ?_
    exact hR _ _ _ _ _ _ dX5_hasSimpleSequence_46 hp (Option.some.inj h) rfl (fun _ => Or.inl rfl)
  have J_37 : ∀  (H : Heap) (locs : List Loc) (ls : Array Slot), Pw D (wS a cA) A s.heap H locs σ → lv_has ls 3 [(0, .ref (a 5))] → X5_hasSimpleSequence_37 σ = some r → W p l e R s m args below meth c H locs 0 0 Q (F0 m 37 ls []) := by
    intro H locs ls hp hl h
    unfold X5_hasSimpleSequence_37 at h
    refine lv_iconst (v := 1) hx hb dX5_hasSimpleSequence_37 (by decide) ?_
    exact hR _ _ _ _ _ _ dX5_hasSimpleSequence_38 hp (Option.some.inj h) rfl (fun _ => Or.inr rfl)
  unfold X5_hasSimpleSequence at h
  have hl := lv_sub (l' := [(0, .ref (a 5)), (1, .int v1)]) hl [0, 1] rfl
  refine lv_iconst (v := 0) hx hb dX5_hasSimpleSequence_0 (by decide) ?_
  refine lv_istore_n (lv' := [(2, .int (0 : Int32)), (0, .ref (a 5)), (1, .int v1)]) hx hb dX5_hasSimpleSequence_1 rfl hl (by decide) rfl (fun ls hl => ?_)
  exact J_2 v1 _ (fun H locs ls hp hl h => J_37 _ _ _ hp hl h) _ (fun H locs ls hp hl h => J_45 _ _ _ hp hl h) _ (0 : Int32) _ _ _ hp (lv_sub hl [1, 2, 0] rfl) h
def X5_leastInduction_70 (N : Nat) (k10 : (Int32 → St → Option (Int32 × St))) (k94 : (Int32 → St → Option (Int32 × St))) (v1 : Int32) (v2 : Int32) (v3 : Int32) (u0 : Int64) (u1 : Int32) (σ : St) : Option (Int32 × St) :=
  gd (inb u1 7) (
  nm (sb σ 7 u1.toNatClampNeg u0) (fun (σ2 : St) =>
  gd (inb v3 7) (
  if (σ2.2.2.2 7 v3.toNatClampNeg) = (0 : Int64) then
    k94 v3 σ2
  else
    if v1 = 0 then
      nm (v3 + (1 : Int32)) (fun (x6 : Int32) =>
      k10 x6 σ2)
    else
      bd (X5_hasSimpleSequence N σ2 v3) (fun t7 =>
      if t7 = 0 then
        k94 v3 σ2
      else
        nm (v3 + (1 : Int32)) (fun (x9 : Int32) =>
        k10 x9 σ2)))))
def X5_leastInduction_28 (N : Nat) (k10 : (Int32 → St → Option (Int32 × St))) (k94 : (Int32 → St → Option (Int32 × St))) (v1 : Int32) (v2 : Int32) (v3 : Int32) (σ : St) : Option (Int32 × St) :=
  if v3 = 0 then
    bd (X0_bad σ) (fun t5 =>
    X5_leastInduction_70 N k10 k94 v1 v2 v3 t5 v3 σ)
  else
    bd (X0_good σ) (fun t2 =>
    gd (inb (v3 - (1 : Int32)) 7) (
    bd (X2_predecessorsOf N σ (σ.2.2.2 7 (v3 - (1 : Int32)).toNatClampNeg)) (fun t4 =>
    X5_leastInduction_70 N k10 k94 v1 v2 v3 (t2 &&& t4) v3 σ)))
def X5_leastInduction_10b (N : Nat) (k10 : (Int32 → St → Option (Int32 × St))) (k26 : (St → Option (Int32 × St))) (k94 : (Int32 → St → Option (Int32 × St))) (k102 : (St → Option (Int32 × St))) (v1 : Int32) (v2 : Int32) (v3 : Int32) (σ : St) : Option (Int32 × St) :=
  if (6 : Int32) < v3 then
    k102 σ
  else
    if v2 = (-1 : Int32) then
      X5_leastInduction_28 N k10 k94 v1 v2 v3 σ
    else
      if v3 ≤ v2 then
        X5_leastInduction_28 N k10 k94 v1 v2 v3 σ
      else
        k26 σ
def X5_leastInduction_10 (N : Nat) (k26 : (St → Option (Int32 × St))) (k94 : (Int32 → St → Option (Int32 × St))) (k102 : (St → Option (Int32 × St))) (v1 : Int32) (v2 : Int32) : Nat → Int32 → St → Option (Int32 × St)
  | 0, _, _ => none
  | n + 1, v3, σ => X5_leastInduction_10b N (fun v3 σ => X5_leastInduction_10 N k26 k94 k102 v1 v2 n v3 σ) k26 k94 k102 v1 v2 v3 σ
def X5_leastInduction_26 (σ : St) : Option (Int32 × St) :=
  some ((-1 : Int32), σ)
def X5_leastInduction_102 (σ : St) : Option (Int32 × St) :=
  some ((-1 : Int32), σ)
def X5_leastInduction_94 (v3 : Int32) (σ : St) : Option (Int32 × St) :=
  some (v3, σ)
def X5_leastInduction (N : Nat) (v1 : Int32) (σ : St) : Option (Int32 × St) :=
  nm (σ.1 12) (fun (x1 : Int32) =>
  X5_leastInduction_10 N (fun σ => X5_leastInduction_26 σ) (fun v3 σ => X5_leastInduction_94 v3 σ) (fun σ => X5_leastInduction_102 σ) v1 x1 N (0 : Int32) σ)
set_option maxRecDepth 20000 in
set_option maxHeartbeats 4000000 in
theorem c_X5_leastInduction {l : Launch} {D : va_G} {a : Nat → Nat} {cA : Nat → ClassId} {t : Nat} {F : (Nat → Prop) → State → Prop} (hF : EOK F) {σ : St} {N : Nat} {v1 : Int32} {r : Int32} {σ' : St} (h : X5_leastInduction N v1 σ = some (r, σ')) : MetI l yX5_leastInduction cX5_leastInduction 4 (some .int) 11 D (tyW cA) (wS a cA) (ES t F) [.ref (a 5), .int v1] σ r σ' := by
  refine mkI (by decide) (adrS a cA) (Or.inl rfl) (Nat.le_of_ble_eq_true rfl) ?_
  intro p e R s m args below meth c A Q ls X hR hp hl
  obtain ⟨hx, hb, -, hown, hts, -⟩ := id X
  have J_70 : ∀ (v1 : Int32) (v2 : Int32) (v3 : Int32) (u0 : Int64) (u1 : Int32) (k10 : (Int32 → St → Option (Int32 × St))) (hk10 : ∀ (v3 : Int32) (σ : St) (H : Heap) (locs : List Loc) (ls : Array Slot), Pw D (wS a cA) A s.heap H locs σ → lv_has ls 4 [(0, .ref (a 5)), (1, .int v1), (2, .int v2), (3, .int v3)] → k10 v3 σ = some (r, σ') → W p l e R s m args below meth c H locs 0 0 Q (F0 m 10 ls [])) (k94 : (Int32 → St → Option (Int32 × St))) (hk94 : ∀ (v3 : Int32) (σ : St) (H : Heap) (locs : List Loc) (ls : Array Slot), Pw D (wS a cA) A s.heap H locs σ → lv_has ls 4 [(0, .ref (a 5)), (3, .int v3)] → k94 v3 σ = some (r, σ') → W p l e R s m args below meth c H locs 0 0 Q (F0 m 94 ls [])) (σ : St) (H : Heap) (locs : List Loc) (ls : Array Slot), Pw D (wS a cA) A s.heap H locs σ → lv_has ls 4 [(0, .ref (a 5)), (1, .int v1), (2, .int v2), (3, .int v3)] → X5_leastInduction_70 N k10 k94 v1 v2 v3 u0 u1 σ = some (r, σ') → W p l e R s m args below meth c H locs 0 0 Q (F0 m 70 ls [.long u0, .int u1, .ref (a 23)]) := by
    intro v1 v2 v3 u0 u1 k10 hk10 k94 hk94 σ H locs ls hp hl h
    unfold X5_leastInduction_70 at h
    obtain ⟨g1, h⟩ := gd_s h
    refine sS_X5_starts X hp g1 dX5_leastInduction_70 (fun H locs σ2 eσ2 hp => ?_)
    have h := nm_s h σ2 eσ2
    refine lv_aload_n hx hb dX5_leastInduction_71 rfl (lv_at hl 0 rfl) ?_
    refine gS_X5_starts X hp tw_5_11 dX5_leastInduction_72 ?_
    refine lv_iload_n hx hb dX5_leastInduction_75 rfl (lv_at hl 3 rfl) ?_
    obtain ⟨g3, h⟩ := gd_s h
    refine lS_X5_starts X hp g3 dX5_leastInduction_76 ?_
    refine lv_lconst (v := 0) hx hb dX5_leastInduction_77 (by decide) ?_
    refine W.lcmp hx hb dX5_leastInduction_78 ?_
    refine lv_if_eq (tgt := 94) hx hb dX5_leastInduction_79 (by decide) (fun c4 => ?_) (fun c4 => ?_)
    · have h := it_p h (lcmp0.mp c4)
      exact hk94 v3 σ2 _ _ _ hp (lv_sub hl [0, 3] rfl) h
    · have h := it_n h (fun q => c4 (lcmp0.mpr q))
      refine lv_iload_n hx hb dX5_leastInduction_82 rfl (lv_at hl 1 rfl) ?_
      refine lv_if_eq (tgt := 96) hx hb dX5_leastInduction_83 (by decide) (fun c5 => ?_) (fun c5 => ?_)
      · have h := it_p h c5
        obtain ⟨x6, ex6⟩ : ∃ z : Int32, z = v3 + (1 : Int32) := ⟨_, rfl⟩
        have h := nm_s h x6 ex6
        refine lv_iinc (v := x6) (lv' := [(3, .int x6), (0, .ref (a 5)), (1, .int v1), (2, .int v2)]) hx hb dX5_leastInduction_96 hl (k := 3) rfl (by rw [ex6]; rfl) (by decide) rfl (fun ls hl => ?_)
        refine lv_goto (tgt := 10) hx hb dX5_leastInduction_99 (by decide) ?_
        exact hk10 x6 σ2 _ _ _ hp (lv_sub hl [1, 2, 3, 0] rfl) h
      · have h := it_n h c5
        refine lv_aload_n hx hb dX5_leastInduction_86 rfl (lv_at hl 0 rfl) ?_
        refine lv_iload_n hx hb dX5_leastInduction_87 rfl (lv_at hl 3 rfl) ?_
        obtain ⟨t7, ht7, h⟩ := bd_s h
        refine cl_Vi X (eokS hF) (c_X5_hasSimpleSequence hF ht7) tw_47_15 mw_X5_hasSimpleSequence (by decide) hp 5 rfl rfl rfl hl.1 rfl (Nat.le_of_ble_eq_true rfl) dX5_leastInduction_88 (fun H locs hp => ?_)
        refine lv_if_ne (tgt := 96) hx hb dX5_leastInduction_91 (by decide) (fun c8 => ?_) (fun c8 => ?_)
        · have h := it_n h c8
          obtain ⟨x9, ex9⟩ : ∃ z : Int32, z = v3 + (1 : Int32) := ⟨_, rfl⟩
          have h := nm_s h x9 ex9
          refine lv_iinc (v := x9) (lv' := [(3, .int x9), (0, .ref (a 5)), (1, .int v1), (2, .int v2)]) hx hb dX5_leastInduction_96 hl (k := 3) rfl (by rw [ex9]; rfl) (by decide) rfl (fun ls hl => ?_)
          refine lv_goto (tgt := 10) hx hb dX5_leastInduction_99 (by decide) ?_
          exact hk10 x9 σ2 _ _ _ hp (lv_sub hl [1, 2, 3, 0] rfl) h
        · have h := it_p h c8
          exact hk94 v3 σ2 _ _ _ hp (lv_sub hl [0, 3] rfl) h
  have J_28 : ∀ (v1 : Int32) (v2 : Int32) (v3 : Int32) (k10 : (Int32 → St → Option (Int32 × St))) (hk10 : ∀ (v3 : Int32) (σ : St) (H : Heap) (locs : List Loc) (ls : Array Slot), Pw D (wS a cA) A s.heap H locs σ → lv_has ls 4 [(0, .ref (a 5)), (1, .int v1), (2, .int v2), (3, .int v3)] → k10 v3 σ = some (r, σ') → W p l e R s m args below meth c H locs 0 0 Q (F0 m 10 ls [])) (k94 : (Int32 → St → Option (Int32 × St))) (hk94 : ∀ (v3 : Int32) (σ : St) (H : Heap) (locs : List Loc) (ls : Array Slot), Pw D (wS a cA) A s.heap H locs σ → lv_has ls 4 [(0, .ref (a 5)), (3, .int v3)] → k94 v3 σ = some (r, σ') → W p l e R s m args below meth c H locs 0 0 Q (F0 m 94 ls [])) (σ : St) (H : Heap) (locs : List Loc) (ls : Array Slot), Pw D (wS a cA) A s.heap H locs σ → lv_has ls 4 [(0, .ref (a 5)), (1, .int v1), (2, .int v2), (3, .int v3)] → X5_leastInduction_28 N k10 k94 v1 v2 v3 σ = some (r, σ') → W p l e R s m args below meth c H locs 0 0 Q (F0 m 28 ls []) := by
    intro v1 v2 v3 k10 hk10 k94 hk94 σ H locs ls hp hl h
    unfold X5_leastInduction_28 at h
    refine lv_aload_n hx hb dX5_leastInduction_28 rfl (lv_at hl 0 rfl) ?_
    refine gS_X5_starts X hp tw_5_11 dX5_leastInduction_29 ?_
    refine lv_iload_n hx hb dX5_leastInduction_32 rfl (lv_at hl 3 rfl) ?_
    refine lv_iload_n hx hb dX5_leastInduction_33 rfl (lv_at hl 3 rfl) ?_
    refine lv_if_ne (tgt := 47) hx hb dX5_leastInduction_34 (by decide) (fun c1 => ?_) (fun c1 => ?_)
    · have h := it_n h c1
      refine lv_aload_n hx hb dX5_leastInduction_47 rfl (lv_at hl 0 rfl) ?_
      refine gS_X5_circuit X hp tw_5_9 dX5_leastInduction_48 ?_
      obtain ⟨t2, ht2, h⟩ := bd_s h
      refine cl_Vl X (eokS hF) (c_X0_good hF ht2) tw_47_13 mw_X0_good (by decide) hp 2 rfl rfl rfl hl.1 rfl (Nat.le_of_ble_eq_true rfl) dX5_leastInduction_51 (fun H locs hp => ?_)
      refine lv_aload_n hx hb dX5_leastInduction_54 rfl (lv_at hl 0 rfl) ?_
      refine gS_X5_exploration X hp tw_5_10 dX5_leastInduction_55 ?_
      refine lv_aload_n hx hb dX5_leastInduction_58 rfl (lv_at hl 0 rfl) ?_
      refine gS_X5_starts X hp tw_5_11 dX5_leastInduction_59 ?_
      refine lv_iload_n hx hb dX5_leastInduction_62 rfl (lv_at hl 3 rfl) ?_
      refine lv_iconst (v := 1) hx hb dX5_leastInduction_63 (by decide) ?_
      refine lv_isub hx hb dX5_leastInduction_64 ?_
      obtain ⟨g3, h⟩ := gd_s h
      refine lS_X5_starts X hp g3 dX5_leastInduction_65 ?_
      obtain ⟨t4, ht4, h⟩ := bd_s h
      refine cl_Vl X (eokS hF) (c_X2_predecessorsOf hF ht4) tw_47_14 mw_X2_predecessorsOf (by decide) hp 3 rfl rfl rfl hl.1 rfl (Nat.le_of_ble_eq_true rfl) dX5_leastInduction_66 (fun H locs hp => ?_)
      refine lv_land hx hb dX5_leastInduction_69 ?_
      exact J_70 v1 v2 v3 (t2 &&& t4) v3 _ hk10 _ hk94 σ _ _ _ hp (lv_sub hl [0, 1, 2, 3] rfl) h
    · have h := it_p h c1
      refine lv_aload_n hx hb dX5_leastInduction_37 rfl (lv_at hl 0 rfl) ?_
      refine gS_X5_circuit X hp tw_5_9 dX5_leastInduction_38 ?_
      obtain ⟨t5, ht5, h⟩ := bd_s h
      refine cl_Vl X (eokS hF) (c_X0_bad hF ht5) tw_47_12 mw_X0_bad (by decide) hp 2 rfl rfl rfl hl.1 rfl (Nat.le_of_ble_eq_true rfl) dX5_leastInduction_41 (fun H locs hp => ?_)
      refine lv_goto (tgt := 70) hx hb dX5_leastInduction_44 (by decide) ?_
      exact J_70 v1 v2 v3 t5 v3 _ hk10 _ hk94 σ _ _ _ hp (lv_sub hl [0, 1, 2, 3] rfl) h
  have J_10 : ∀ (v1 : Int32) (v2 : Int32) (k26 : (St → Option (Int32 × St))) (hk26 : ∀ (σ : St) (H : Heap) (locs : List Loc) (ls : Array Slot), Pw D (wS a cA) A s.heap H locs σ → lv_has ls 4 [(0, .ref (a 5))] → k26 σ = some (r, σ') → W p l e R s m args below meth c H locs 0 0 Q (F0 m 26 ls [])) (k94 : (Int32 → St → Option (Int32 × St))) (hk94 : ∀ (v3 : Int32) (σ : St) (H : Heap) (locs : List Loc) (ls : Array Slot), Pw D (wS a cA) A s.heap H locs σ → lv_has ls 4 [(0, .ref (a 5)), (3, .int v3)] → k94 v3 σ = some (r, σ') → W p l e R s m args below meth c H locs 0 0 Q (F0 m 94 ls [])) (k102 : (St → Option (Int32 × St))) (hk102 : ∀ (σ : St) (H : Heap) (locs : List Loc) (ls : Array Slot), Pw D (wS a cA) A s.heap H locs σ → lv_has ls 4 [(0, .ref (a 5))] → k102 σ = some (r, σ') → W p l e R s m args below meth c H locs 0 0 Q (F0 m 102 ls [])) (n : Nat) (v3 : Int32) (σ : St) (H : Heap) (locs : List Loc) (ls : Array Slot), Pw D (wS a cA) A s.heap H locs σ → lv_has ls 4 [(0, .ref (a 5)), (1, .int v1), (2, .int v2), (3, .int v3)] → X5_leastInduction_10 N k26 k94 k102 v1 v2 n v3 σ = some (r, σ') → W p l e R s m args below meth c H locs 0 0 Q (F0 m 10 ls []) := by
    intro v1 v2 k26 hk26 k94 hk94 k102 hk102 n
    induction n with
    | zero => intro v3 σ H locs ls hp hl h; exact nn_s (show (none : Option (Int32 × St)) = some _ from h)
    | succ n ih =>
      intro v3 σ H locs ls hp hl h
      have h : X5_leastInduction_10b N (fun v3 σ => X5_leastInduction_10 N k26 k94 k102 v1 v2 n v3 σ) k26 k94 k102 v1 v2 v3 σ = some (r, σ') := h
      unfold X5_leastInduction_10b at h
      have hk10 := ih
      refine lv_iload_n hx hb dX5_leastInduction_10 rfl (lv_at hl 3 rfl) ?_
      refine lv_bipush (v := 6) hx hb dX5_leastInduction_11 (by decide) ?_
      refine lv_icmp_gt (tgt := 102) hx hb dX5_leastInduction_13 (by decide) (fun c1 => ?_) (fun c1 => ?_)
      · have h := it_p h c1
        exact hk102 σ _ _ _ hp (lv_sub hl [0] rfl) h
      · have h := it_n h c1
        refine lv_iload_n hx hb dX5_leastInduction_16 rfl (lv_at hl 2 rfl) ?_
        refine lv_iconst (v := -1) hx hb dX5_leastInduction_17 (by decide) ?_
        refine lv_icmp_eq (tgt := 28) hx hb dX5_leastInduction_18 (by decide) (fun c2 => ?_) (fun c2 => ?_)
        · have h := it_p h c2
          exact J_28 v1 v2 v3 _ hk10 _ hk94 σ _ _ _ hp (lv_sub hl [0, 1, 2, 3] rfl) h
        · have h := it_n h c2
          refine lv_iload_n hx hb dX5_leastInduction_21 rfl (lv_at hl 2 rfl) ?_
          refine lv_iload_n hx hb dX5_leastInduction_22 rfl (lv_at hl 3 rfl) ?_
          refine lv_icmp_ge (tgt := 28) hx hb dX5_leastInduction_23 (by decide) (fun c3 => ?_) (fun c3 => ?_)
          · have h := it_p h c3
            exact J_28 v1 v2 v3 _ hk10 _ hk94 σ _ _ _ hp (lv_sub hl [0, 1, 2, 3] rfl) h
          · have h := it_n h c3
            exact hk26 σ _ _ _ hp (lv_sub hl [0] rfl) h
  have J_26 : ∀  (σ : St) (H : Heap) (locs : List Loc) (ls : Array Slot), Pw D (wS a cA) A s.heap H locs σ → lv_has ls 4 [(0, .ref (a 5))] → X5_leastInduction_26 σ = some (r, σ') → W p l e R s m args below meth c H locs 0 0 Q (F0 m 26 ls []) := by
    intro σ H locs ls hp hl h
    unfold X5_leastInduction_26 at h
    refine lv_iconst (v := -1) hx hb dX5_leastInduction_26 (by decide) ?_
    exact hR _ _ _ _ _ _ dX5_leastInduction_27 hp (congrArg Prod.fst (Option.some.inj h)) (congrArg Prod.snd (Option.some.inj h)) (fun q => by cases q)
  have J_102 : ∀  (σ : St) (H : Heap) (locs : List Loc) (ls : Array Slot), Pw D (wS a cA) A s.heap H locs σ → lv_has ls 4 [(0, .ref (a 5))] → X5_leastInduction_102 σ = some (r, σ') → W p l e R s m args below meth c H locs 0 0 Q (F0 m 102 ls []) := by
    intro σ H locs ls hp hl h
    unfold X5_leastInduction_102 at h
    refine lv_iconst (v := -1) hx hb dX5_leastInduction_102 (by decide) ?_
    exact hR _ _ _ _ _ _ dX5_leastInduction_103 hp (congrArg Prod.fst (Option.some.inj h)) (congrArg Prod.snd (Option.some.inj h)) (fun q => by cases q)
  have J_94 : ∀ (v3 : Int32) (σ : St) (H : Heap) (locs : List Loc) (ls : Array Slot), Pw D (wS a cA) A s.heap H locs σ → lv_has ls 4 [(0, .ref (a 5)), (3, .int v3)] → X5_leastInduction_94 v3 σ = some (r, σ') → W p l e R s m args below meth c H locs 0 0 Q (F0 m 94 ls []) := by
    intro v3 σ H locs ls hp hl h
    unfold X5_leastInduction_94 at h
    refine lv_iload_n hx hb dX5_leastInduction_94 rfl (lv_at hl 1 rfl) ?_
    exact hR _ _ _ _ _ _ dX5_leastInduction_95 hp (congrArg Prod.fst (Option.some.inj h)) (congrArg Prod.snd (Option.some.inj h)) (fun q => by cases q)
  unfold X5_leastInduction at h
  have hl := lv_sub (l' := [(0, .ref (a 5)), (1, .int v1)]) hl [0, 1] rfl
  refine lv_aload_n hx hb dX5_leastInduction_0 rfl (lv_at hl 0 rfl) ?_
  refine gS_X5_exploration X hp tw_5_10 dX5_leastInduction_1 ?_
  refine gS_X2_runLength X hp tw_47_11 dX5_leastInduction_4 ?_
  refine lv_topi (fun x1 ex1 => ?_)
  have h := nm_s h x1 ex1
  refine lv_istore_n (lv' := [(2, .int x1), (0, .ref (a 5)), (1, .int v1)]) hx hb dX5_leastInduction_7 rfl hl (by decide) rfl (fun ls hl => ?_)
  refine lv_iconst (v := 0) hx hb dX5_leastInduction_8 (by decide) ?_
  refine lv_istore_n (lv' := [(3, .int (0 : Int32)), (2, .int x1), (0, .ref (a 5)), (1, .int v1)]) hx hb dX5_leastInduction_9 rfl hl (by decide) rfl (fun ls hl => ?_)
  exact J_10 v1 x1 _ (fun σ H locs ls hp hl h => J_26 σ _ _ _ hp hl h) _ (fun v3 σ H locs ls hp hl h => J_94 v3 σ _ _ _ hp hl h) _ (fun σ H locs ls hp hl h => J_102 σ _ _ _ hp hl h) _ (0 : Int32) σ _ _ _ hp (lv_sub hl [2, 3, 1, 0] rfl) h
def X6_induction (N : Nat) (v1 : Int32) (σ : St) : Option (Int32 × St) :=
  bd (X2_refresh N σ) (fun t1 =>
  bd (X5_leastInduction N v1 t1) (fun t2 =>
  some (t2.1, t2.2)))
set_option maxRecDepth 20000 in
set_option maxHeartbeats 4000000 in
theorem c_X6_induction {l : Launch} {D : va_G} {a : Nat → Nat} {cA : Nat → ClassId} {t : Nat} {F : (Nat → Prop) → State → Prop} (hF : EOK F) {σ : St} {N : Nat} {v1 : Int32} {r : Int32} {σ' : St} (h : X6_induction N v1 σ = some (r, σ')) : MetI l yX6_induction cX6_induction 2 (some .int) 12 D (tyW cA) (wS a cA) (ES t F) [.ref (a 0), .int v1] σ r σ' := by
  refine mkI (by decide) (adrS a cA) (Or.inl rfl) (Nat.le_of_ble_eq_true rfl) ?_
  intro p e R s m args below meth c A Q ls X hR hp hl
  obtain ⟨hx, hb, -, hown, hts, -⟩ := id X
  unfold X6_induction at h
  have hl := lv_sub (l' := [(0, .ref (a 0)), (1, .int v1)]) hl [0, 1] rfl
  refine lv_aload_n hx hb dX6_induction_0 rfl (lv_at hl 0 rfl) ?_
  refine gS_X6_exploration X hp tw_2_0 dX6_induction_1 ?_
  obtain ⟨t1, ht1, h⟩ := bd_s h
  refine cl_Vv X (eokS hF) (c_X2_refresh hF ht1) tw_22_10 mw_X2_refresh (by decide) hp 3 rfl rfl rfl hl.1 rfl (Nat.le_of_ble_eq_true rfl) dX6_induction_4 (fun H locs hp => ?_)
  refine lv_aload_n hx hb dX6_induction_7 rfl (lv_at hl 0 rfl) ?_
  refine gS_X6_otherProofs X hp tw_2_8 dX6_induction_8 ?_
  refine lv_iload_n hx hb dX6_induction_11 rfl (lv_at hl 1 rfl) ?_
  obtain ⟨t2, ht2, h⟩ := bd_s h
  refine cl_Vi X (eokS hF) (c_X5_leastInduction hF ht2) tw_47_7 mw_X5_leastInduction (by decide) hp 5 rfl rfl rfl hl.1 rfl (Nat.le_of_ble_eq_true rfl) dX6_induction_12 (fun H locs hp => ?_)
  exact hR _ _ _ _ _ _ dX6_induction_15 hp (congrArg Prod.fst (Option.some.inj h)) (congrArg Prod.snd (Option.some.inj h)) (fun q => by cases q)
def J6_bitCount_0f7a4 (v0 : Int32) : Option (Int32) :=
  nm (v0 - (((v0.toUInt32 >>> ((1 : Int32).toUInt32 &&& Int32.toUInt32 31)).toInt32) &&& (1431655765 : Int32))) (fun (x1 : Int32) =>
  nm ((x1 &&& (858993459 : Int32)) + (((x1.toUInt32 >>> ((2 : Int32).toUInt32 &&& Int32.toUInt32 31)).toInt32) &&& (858993459 : Int32))) (fun (x2 : Int32) =>
  nm ((x2 + ((x2.toUInt32 >>> ((4 : Int32).toUInt32 &&& Int32.toUInt32 31)).toInt32)) &&& (252645135 : Int32)) (fun (x3 : Int32) =>
  nm (x3 + ((x3.toUInt32 >>> ((8 : Int32).toUInt32 &&& Int32.toUInt32 31)).toInt32)) (fun (x4 : Int32) =>
  nm (x4 + ((x4.toUInt32 >>> ((16 : Int32).toUInt32 &&& Int32.toUInt32 31)).toInt32)) (fun (x5 : Int32) =>
  some (x5 &&& (63 : Int32)))))))
set_option maxRecDepth 20000 in
set_option maxHeartbeats 4000000 in
theorem c_J6_bitCount_0f7a4 {l : Launch} {D : va_G} {tys : List (ClassId × FieldType)} {w : St → va_W} {E : (Nat → Prop) → State → Prop} (hw : Adr w) (hE : EOK E) {σ : St} {v0 : Int32} {r : Int32} (h : J6_bitCount_0f7a4 v0 = some r) : MetI l yJ6_bitCount_0f7a4 cJ6_bitCount_0f7a4 1 (some .int) 0 D tys w E [.int v0] σ r σ := by
  refine mkI (by decide) hw (Or.inl rfl) (Nat.le_of_ble_eq_true rfl) ?_
  intro p e R s m args below meth c A Q ls X hR hp hl
  obtain ⟨hx, hb, -, hown, hts, -⟩ := id X
  unfold J6_bitCount_0f7a4 at h
  have hl := lv_sub (l' := [(0, .int v0)]) hl [0] rfl
  refine lv_iload_n hx hb dJ6_bitCount_0f7a4_0 rfl (lv_at hl 0 rfl) ?_
  refine lv_iload_n hx hb dJ6_bitCount_0f7a4_1 rfl (lv_at hl 0 rfl) ?_
  refine lv_iconst (v := 1) hx hb dJ6_bitCount_0f7a4_2 (by decide) ?_
  refine lv_iushr hx hb dJ6_bitCount_0f7a4_3 rfl ?_
  refine lv_ldcw hx hb hown (hts _ tw_49_23) dJ6_bitCount_0f7a4_4 ?_
  refine lv_iand hx hb dJ6_bitCount_0f7a4_7 ?_
  refine lv_isub hx hb dJ6_bitCount_0f7a4_8 ?_
  refine lv_topi (fun x1 ex1 => ?_)
  have h := nm_s h x1 ex1
  refine lv_istore_n (lv' := [(0, .int x1)]) hx hb dJ6_bitCount_0f7a4_9 rfl hl (by decide) rfl (fun ls hl => ?_)
  refine lv_iload_n hx hb dJ6_bitCount_0f7a4_10 rfl (lv_at hl 0 rfl) ?_
  refine lv_ldcw hx hb hown (hts _ tw_50_0) dJ6_bitCount_0f7a4_11 ?_
  refine lv_iand hx hb dJ6_bitCount_0f7a4_14 ?_
  refine lv_iload_n hx hb dJ6_bitCount_0f7a4_15 rfl (lv_at hl 0 rfl) ?_
  refine lv_iconst (v := 2) hx hb dJ6_bitCount_0f7a4_16 (by decide) ?_
  refine lv_iushr hx hb dJ6_bitCount_0f7a4_17 rfl ?_
  refine lv_ldcw hx hb hown (hts _ tw_50_0) dJ6_bitCount_0f7a4_18 ?_
  refine lv_iand hx hb dJ6_bitCount_0f7a4_21 ?_
  refine lv_iadd hx hb dJ6_bitCount_0f7a4_22 ?_
  refine lv_topi (fun x2 ex2 => ?_)
  have h := nm_s h x2 ex2
  refine lv_istore_n (lv' := [(0, .int x2)]) hx hb dJ6_bitCount_0f7a4_23 rfl hl (by decide) rfl (fun ls hl => ?_)
  refine lv_iload_n hx hb dJ6_bitCount_0f7a4_24 rfl (lv_at hl 0 rfl) ?_
  refine lv_iload_n hx hb dJ6_bitCount_0f7a4_25 rfl (lv_at hl 0 rfl) ?_
  refine lv_iconst (v := 4) hx hb dJ6_bitCount_0f7a4_26 (by decide) ?_
  refine lv_iushr hx hb dJ6_bitCount_0f7a4_27 rfl ?_
  refine lv_iadd hx hb dJ6_bitCount_0f7a4_28 ?_
  refine lv_ldcw hx hb hown (hts _ tw_50_1) dJ6_bitCount_0f7a4_29 ?_
  refine lv_iand hx hb dJ6_bitCount_0f7a4_32 ?_
  refine lv_topi (fun x3 ex3 => ?_)
  have h := nm_s h x3 ex3
  refine lv_istore_n (lv' := [(0, .int x3)]) hx hb dJ6_bitCount_0f7a4_33 rfl hl (by decide) rfl (fun ls hl => ?_)
  refine lv_iload_n hx hb dJ6_bitCount_0f7a4_34 rfl (lv_at hl 0 rfl) ?_
  refine lv_iload_n hx hb dJ6_bitCount_0f7a4_35 rfl (lv_at hl 0 rfl) ?_
  refine lv_bipush (v := 8) hx hb dJ6_bitCount_0f7a4_36 (by decide) ?_
  refine lv_iushr hx hb dJ6_bitCount_0f7a4_38 rfl ?_
  refine lv_iadd hx hb dJ6_bitCount_0f7a4_39 ?_
  refine lv_topi (fun x4 ex4 => ?_)
  have h := nm_s h x4 ex4
  refine lv_istore_n (lv' := [(0, .int x4)]) hx hb dJ6_bitCount_0f7a4_40 rfl hl (by decide) rfl (fun ls hl => ?_)
  refine lv_iload_n hx hb dJ6_bitCount_0f7a4_41 rfl (lv_at hl 0 rfl) ?_
  refine lv_iload_n hx hb dJ6_bitCount_0f7a4_42 rfl (lv_at hl 0 rfl) ?_
  refine lv_bipush (v := 16) hx hb dJ6_bitCount_0f7a4_43 (by decide) ?_
  refine lv_iushr hx hb dJ6_bitCount_0f7a4_45 rfl ?_
  refine lv_iadd hx hb dJ6_bitCount_0f7a4_46 ?_
  refine lv_topi (fun x5 ex5 => ?_)
  have h := nm_s h x5 ex5
  refine lv_istore_n (lv' := [(0, .int x5)]) hx hb dJ6_bitCount_0f7a4_47 rfl hl (by decide) rfl (fun ls hl => ?_)
  refine lv_iload_n hx hb dJ6_bitCount_0f7a4_48 rfl (lv_at hl 0 rfl) ?_
  refine lv_bipush (v := 63) hx hb dJ6_bitCount_0f7a4_49 (by decide) ?_
  refine lv_iand hx hb dJ6_bitCount_0f7a4_51 ?_
  exact hR _ _ _ _ _ _ dJ6_bitCount_0f7a4_52 hp (Option.some.inj h) rfl (fun q => by cases q)
def X5_collectClausesOf_44 (k2 : (Int32 → St → Option (St))) (v1 : Int32) (v2 : Int32) (v3 : Int64) (u0 : Int32) (σ : St) : Option (St) :=
  if u0 = 0 then
    nm (v2 + (1 : Int32)) (fun (x2 : Int32) =>
    k2 x2 σ)
  else
    if (σ.1 22) < 0 then
      nm (v2 + (1 : Int32)) (fun (x4 : Int32) =>
      k2 x4 σ)
    else
      if (232 : Int32) ≤ (σ.1 22) then
        nm (v2 + (1 : Int32)) (fun (x6 : Int32) =>
        k2 x6 σ)
      else
        gd (inb (σ.1 22) 232) (
        nm (sb σ 8 (σ.1 22).toNatClampNeg v3) (fun (σ8 : St) =>
        nm (si σ8 22 ((σ8.1 22) + (1 : Int32))) (fun (σ9 : St) =>
        nm (v2 + (1 : Int32)) (fun (x10 : Int32) =>
        k2 x10 σ9))))
def X5_collectClausesOf_2b (N : Nat) (k2 : (Int32 → St → Option (St))) (k94 : (St → Option (St))) (v1 : Int32) (v2 : Int32) (σ : St) : Option (St) :=
  if v1 < v2 then
    k94 σ
  else
    bd (X0_statesInCube N σ v1 v2) (fun t2 =>
    if (v2 &&& (v1 ^^^ (-1 : Int32))) = 0 then
      bd (X0_initial σ) (fun t4 =>
      if (t2 &&& t4) = (0 : Int64) then
        X5_collectClausesOf_44 k2 v1 v2 t2 (1 : Int32) σ
      else
        X5_collectClausesOf_44 k2 v1 v2 t2 (0 : Int32) σ)
    else
      X5_collectClausesOf_44 k2 v1 v2 t2 (0 : Int32) σ)
def X5_collectClausesOf_2 (N : Nat) (k94 : (St → Option (St))) (v1 : Int32) : Nat → Int32 → St → Option (St)
  | 0, _, _ => none
  | n + 1, v2, σ => X5_collectClausesOf_2b N (fun v2 σ => X5_collectClausesOf_2 N k94 v1 n v2 σ) k94 v1 v2 σ
def X5_collectClausesOf_94 (σ : St) : Option (St) :=
  some σ
def X5_collectClausesOf (N : Nat) (v1 : Int32) (σ : St) : Option (St) :=
  X5_collectClausesOf_2 N (fun σ => X5_collectClausesOf_94 σ) v1 N (0 : Int32) σ
set_option maxRecDepth 20000 in
set_option maxHeartbeats 4000000 in
theorem c_X5_collectClausesOf {l : Launch} {D : va_G} {a : Nat → Nat} {cA : Nat → ClassId} {t : Nat} {F : (Nat → Prop) → State → Prop} (hF : EOK F) {σ : St} {N : Nat} {v1 : Int32} {σ' : St} (h : X5_collectClausesOf N v1 σ = some σ') : MetV l yX5_collectClausesOf cX5_collectClausesOf 6 none 2 D (tyW cA) (wS a cA) (ES t F) [.ref (a 5), .int v1] σ σ' := by
  refine mkV (by decide) (adrS a cA) rfl (Nat.le_of_ble_eq_true rfl) ?_
  intro p e R s m args below meth c A Q ls X hR hp hl
  obtain ⟨hx, hb, -, hown, hts, -⟩ := id X
  have J_44 : ∀ (v1 : Int32) (v2 : Int32) (v3 : Int64) (u0 : Int32) (k2 : (Int32 → St → Option (St))) (hk2 : ∀ (v2 : Int32) (σ : St) (H : Heap) (locs : List Loc) (ls : Array Slot), Pw D (wS a cA) A s.heap H locs σ → lv_has ls 6 [(0, .ref (a 5)), (1, .int v1), (2, .int v2)] → k2 v2 σ = some σ' → W p l e R s m args below meth c H locs 0 0 Q (F0 m 2 ls [])) (σ : St) (H : Heap) (locs : List Loc) (ls : Array Slot), Pw D (wS a cA) A s.heap H locs σ → lv_has ls 6 [(0, .ref (a 5)), (1, .int v1), (2, .int v2), (3, .long v3)] → X5_collectClausesOf_44 k2 v1 v2 v3 u0 σ = some σ' → W p l e R s m args below meth c H locs 0 0 Q (F0 m 44 ls [.int u0]) := by
    intro v1 v2 v3 u0 k2 hk2 σ H locs ls hp hl h
    unfold X5_collectClausesOf_44 at h
    refine lv_istore (lv' := [(5, .int u0), (0, .ref (a 5)), (1, .int v1), (2, .int v2), (3, .long v3)]) hx hb dX5_collectClausesOf_44 hl (by decide) rfl (fun ls hl => ?_)
    refine lv_iload hx hb dX5_collectClausesOf_46 (lv_at hl 0 rfl) ?_
    refine lv_if_eq (tgt := 88) hx hb dX5_collectClausesOf_48 (by decide) (fun c1 => ?_) (fun c1 => ?_)
    · have h := it_p h c1
      obtain ⟨x2, ex2⟩ : ∃ z : Int32, z = v2 + (1 : Int32) := ⟨_, rfl⟩
      have h := nm_s h x2 ex2
      refine lv_iinc (v := x2) (lv' := [(2, .int x2), (5, .int u0), (0, .ref (a 5)), (1, .int v1), (3, .long v3)]) hx hb dX5_collectClausesOf_88 hl (k := 3) rfl (by rw [ex2]; rfl) (by decide) rfl (fun ls hl => ?_)
      refine lv_goto (tgt := 2) hx hb dX5_collectClausesOf_91 (by decide) ?_
      exact hk2 x2 σ _ _ _ hp (lv_sub hl [2, 3, 0] rfl) h
    · have h := it_n h c1
      refine lv_aload_n hx hb dX5_collectClausesOf_51 rfl (lv_at hl 1 rfl) ?_
      refine gS_X5_clauseCount X hp tw_49_18 dX5_collectClausesOf_52 ?_
      refine lv_if_lt (tgt := 88) hx hb dX5_collectClausesOf_55 (by decide) (fun c3 => ?_) (fun c3 => ?_)
      · have h := it_p h c3
        obtain ⟨x4, ex4⟩ : ∃ z : Int32, z = v2 + (1 : Int32) := ⟨_, rfl⟩
        have h := nm_s h x4 ex4
        refine lv_iinc (v := x4) (lv' := [(2, .int x4), (5, .int u0), (0, .ref (a 5)), (1, .int v1), (3, .long v3)]) hx hb dX5_collectClausesOf_88 hl (k := 3) rfl (by rw [ex4]; rfl) (by decide) rfl (fun ls hl => ?_)
        refine lv_goto (tgt := 2) hx hb dX5_collectClausesOf_91 (by decide) ?_
        exact hk2 x4 σ _ _ _ hp (lv_sub hl [2, 3, 0] rfl) h
      · have h := it_n h c3
        refine lv_aload_n hx hb dX5_collectClausesOf_58 rfl (lv_at hl 1 rfl) ?_
        refine gS_X5_clauseCount X hp tw_49_18 dX5_collectClausesOf_59 ?_
        refine lv_sipush (v := 232) hx hb dX5_collectClausesOf_62 (by decide) ?_
        refine lv_icmp_ge (tgt := 88) hx hb dX5_collectClausesOf_65 (by decide) (fun c5 => ?_) (fun c5 => ?_)
        · have h := it_p h c5
          obtain ⟨x6, ex6⟩ : ∃ z : Int32, z = v2 + (1 : Int32) := ⟨_, rfl⟩
          have h := nm_s h x6 ex6
          refine lv_iinc (v := x6) (lv' := [(2, .int x6), (5, .int u0), (0, .ref (a 5)), (1, .int v1), (3, .long v3)]) hx hb dX5_collectClausesOf_88 hl (k := 3) rfl (by rw [ex6]; rfl) (by decide) rfl (fun ls hl => ?_)
          refine lv_goto (tgt := 2) hx hb dX5_collectClausesOf_91 (by decide) ?_
          exact hk2 x6 σ _ _ _ hp (lv_sub hl [2, 3, 0] rfl) h
        · have h := it_n h c5
          refine lv_aload_n hx hb dX5_collectClausesOf_68 rfl (lv_at hl 1 rfl) ?_
          refine gS_X5_clauses X hp tw_5_12 dX5_collectClausesOf_69 ?_
          refine lv_aload_n hx hb dX5_collectClausesOf_72 rfl (lv_at hl 1 rfl) ?_
          refine gS_X5_clauseCount X hp tw_49_18 dX5_collectClausesOf_73 ?_
          refine lv_lload_n hx hb dX5_collectClausesOf_76 rfl (lv_at hl 4 rfl) ?_
          obtain ⟨g7, h⟩ := gd_s h
          refine sS_X5_clauses X hp g7 dX5_collectClausesOf_77 (fun H locs σ8 eσ8 hp => ?_)
          have h := nm_s h σ8 eσ8
          refine lv_aload_n hx hb dX5_collectClausesOf_78 rfl (lv_at hl 1 rfl) ?_
          refine lv_dup hx hb dX5_collectClausesOf_79 rfl ?_
          refine gS_X5_clauseCount X hp tw_49_18 dX5_collectClausesOf_80 ?_
          refine lv_iconst (v := 1) hx hb dX5_collectClausesOf_83 (by decide) ?_
          refine lv_iadd hx hb dX5_collectClausesOf_84 ?_
          refine pS_X5_clauseCount X hp tw_49_18 dX5_collectClausesOf_85 (fun H locs σ9 eσ9 hp => ?_)
          have h := nm_s h σ9 eσ9
          obtain ⟨x10, ex10⟩ : ∃ z : Int32, z = v2 + (1 : Int32) := ⟨_, rfl⟩
          have h := nm_s h x10 ex10
          refine lv_iinc (v := x10) (lv' := [(2, .int x10), (5, .int u0), (0, .ref (a 5)), (1, .int v1), (3, .long v3)]) hx hb dX5_collectClausesOf_88 hl (k := 3) rfl (by rw [ex10]; rfl) (by decide) rfl (fun ls hl => ?_)
          refine lv_goto (tgt := 2) hx hb dX5_collectClausesOf_91 (by decide) ?_
          exact hk2 x10 σ9 _ _ _ hp (lv_sub hl [2, 3, 0] rfl) h
  have J_2 : ∀ (v1 : Int32) (k94 : (St → Option (St))) (hk94 : ∀ (σ : St) (H : Heap) (locs : List Loc) (ls : Array Slot), Pw D (wS a cA) A s.heap H locs σ → lv_has ls 6 [(0, .ref (a 5))] → k94 σ = some σ' → W p l e R s m args below meth c H locs 0 0 Q (F0 m 94 ls [])) (n : Nat) (v2 : Int32) (σ : St) (H : Heap) (locs : List Loc) (ls : Array Slot), Pw D (wS a cA) A s.heap H locs σ → lv_has ls 6 [(0, .ref (a 5)), (1, .int v1), (2, .int v2)] → X5_collectClausesOf_2 N k94 v1 n v2 σ = some σ' → W p l e R s m args below meth c H locs 0 0 Q (F0 m 2 ls []) := by
    intro v1 k94 hk94 n
    induction n with
    | zero => intro v2 σ H locs ls hp hl h; exact nn_s (show (none : Option (St)) = some _ from h)
    | succ n ih =>
      intro v2 σ H locs ls hp hl h
      have h : X5_collectClausesOf_2b N (fun v2 σ => X5_collectClausesOf_2 N k94 v1 n v2 σ) k94 v1 v2 σ = some σ' := h
      unfold X5_collectClausesOf_2b at h
      have hk2 := ih
      refine lv_iload_n hx hb dX5_collectClausesOf_2 rfl (lv_at hl 2 rfl) ?_
      refine lv_iload_n hx hb dX5_collectClausesOf_3 rfl (lv_at hl 1 rfl) ?_
      refine lv_icmp_gt (tgt := 94) hx hb dX5_collectClausesOf_4 (by decide) (fun c1 => ?_) (fun c1 => ?_)
      · have h := it_p h c1
        exact hk94 σ _ _ _ hp (lv_sub hl [0] rfl) h
      · have h := it_n h c1
        refine lv_aload_n hx hb dX5_collectClausesOf_7 rfl (lv_at hl 0 rfl) ?_
        refine gS_X5_circuit X hp tw_5_9 dX5_collectClausesOf_8 ?_
        refine lv_iload_n hx hb dX5_collectClausesOf_11 rfl (lv_at hl 1 rfl) ?_
        refine lv_iload_n hx hb dX5_collectClausesOf_12 rfl (lv_at hl 2 rfl) ?_
        obtain ⟨t2, ht2, h⟩ := bd_s h
        refine cl_Vl X (eokS hF) (c_X0_statesInCube hF ht2) tw_50_6 mw_X0_statesInCube (by decide) hp 2 rfl rfl rfl hl.1 rfl (Nat.le_of_ble_eq_true rfl) dX5_collectClausesOf_13 (fun H locs hp => ?_)
        refine lv_lstore_n (lv' := [(3, .long t2), (0, .ref (a 5)), (1, .int v1), (2, .int v2)]) hx hb dX5_collectClausesOf_16 rfl hl (by decide) rfl (fun ls hl => ?_)
        refine lv_iload_n hx hb dX5_collectClausesOf_17 rfl (lv_at hl 3 rfl) ?_
        refine lv_iload_n hx hb dX5_collectClausesOf_18 rfl (lv_at hl 2 rfl) ?_
        refine lv_iconst (v := -1) hx hb dX5_collectClausesOf_19 (by decide) ?_
        refine lv_ixor hx hb dX5_collectClausesOf_20 ?_
        refine lv_iand hx hb dX5_collectClausesOf_21 ?_
        refine lv_if_ne (tgt := 43) hx hb dX5_collectClausesOf_22 (by decide) (fun c3 => ?_) (fun c3 => ?_)
        · have h := it_n h c3
          refine lv_iconst (v := 0) hx hb dX5_collectClausesOf_43 (by decide) ?_
          exact J_44 v1 v2 t2 (0 : Int32) _ hk2 σ _ _ _ hp (lv_sub hl [1, 2, 3, 0] rfl) h
        · have h := it_p h c3
          refine lv_lload_n hx hb dX5_collectClausesOf_25 rfl (lv_at hl 0 rfl) ?_
          refine lv_aload_n hx hb dX5_collectClausesOf_26 rfl (lv_at hl 1 rfl) ?_
          refine gS_X5_circuit X hp tw_5_9 dX5_collectClausesOf_27 ?_
          obtain ⟨t4, ht4, h⟩ := bd_s h
          refine cl_Vl X (eokS hF) (c_X0_initial hF ht4) tw_50_7 mw_X0_initial (by decide) hp 2 rfl rfl rfl hl.1 rfl (Nat.le_of_ble_eq_true rfl) dX5_collectClausesOf_30 (fun H locs hp => ?_)
          refine lv_land hx hb dX5_collectClausesOf_33 ?_
          refine lv_lconst (v := 0) hx hb dX5_collectClausesOf_34 (by decide) ?_
          refine W.lcmp hx hb dX5_collectClausesOf_35 ?_
          refine lv_if_ne (tgt := 43) hx hb dX5_collectClausesOf_36 (by decide) (fun c5 => ?_) (fun c5 => ?_)
          · have h := it_n h (fun q => c5 (lcmp0.mpr q))
            refine lv_iconst (v := 0) hx hb dX5_collectClausesOf_43 (by decide) ?_
            exact J_44 v1 v2 t2 (0 : Int32) _ hk2 σ _ _ _ hp (lv_sub hl [1, 2, 3, 0] rfl) h
          · have h := it_p h (lcmp0.mp c5)
            refine lv_iconst (v := 1) hx hb dX5_collectClausesOf_39 (by decide) ?_
            refine lv_goto (tgt := 44) hx hb dX5_collectClausesOf_40 (by decide) ?_
            exact J_44 v1 v2 t2 (1 : Int32) _ hk2 σ _ _ _ hp (lv_sub hl [1, 2, 3, 0] rfl) h
  have J_94 : ∀  (σ : St) (H : Heap) (locs : List Loc) (ls : Array Slot), Pw D (wS a cA) A s.heap H locs σ → lv_has ls 6 [(0, .ref (a 5))] → X5_collectClausesOf_94 σ = some σ' → W p l e R s m args below meth c H locs 0 0 Q (F0 m 94 ls []) := by
    intro σ H locs ls hp hl h
    unfold X5_collectClausesOf_94 at h
    exact hR _ _ _ _ _ dX5_collectClausesOf_94 hp (Option.some.inj h)
  unfold X5_collectClausesOf at h
  have hl := lv_sub (l' := [(0, .ref (a 5)), (1, .int v1)]) hl [0, 1] rfl
  refine lv_iconst (v := 0) hx hb dX5_collectClausesOf_0 (by decide) ?_
  refine lv_istore_n (lv' := [(2, .int (0 : Int32)), (0, .ref (a 5)), (1, .int v1)]) hx hb dX5_collectClausesOf_1 rfl hl (by decide) rfl (fun ls hl => ?_)
  exact J_2 v1 _ (fun σ H locs ls hp hl h => J_94 σ _ _ _ hp hl h) _ (0 : Int32) σ _ _ _ hp (lv_sub hl [1, 2, 0] rfl) h
def X5_collectClauses_7b (N : Nat) (k7 : (Int32 → St → Option (St))) (k37 : (St → Option (St))) (v1 : Int32) (v2 : Int32) (σ : St) : Option (St) :=
  if (σ.1 7) ≤ v2 then
    k37 σ
  else
    bd (J6_bitCount_0f7a4 v2) (fun t2 =>
    if v1 < t2 then
      nm (v2 + (1 : Int32)) (fun (x4 : Int32) =>
      k7 x4 σ)
    else
      bd (X5_collectClausesOf N v2 σ) (fun t5 =>
      nm (v2 + (1 : Int32)) (fun (x6 : Int32) =>
      k7 x6 t5)))
def X5_collectClauses_7 (N : Nat) (k37 : (St → Option (St))) (v1 : Int32) : Nat → Int32 → St → Option (St)
  | 0, _, _ => none
  | n + 1, v2, σ => X5_collectClauses_7b N (fun v2 σ => X5_collectClauses_7 N k37 v1 n v2 σ) k37 v1 v2 σ
def X5_collectClauses_37 (σ : St) : Option (St) :=
  some σ
def X5_collectClauses (N : Nat) (v1 : Int32) (σ : St) : Option (St) :=
  nm (si σ 22 (0 : Int32)) (fun (σ1 : St) =>
  X5_collectClauses_7 N (fun σ => X5_collectClauses_37 σ) v1 N (1 : Int32) σ1)
set_option maxRecDepth 20000 in
set_option maxHeartbeats 4000000 in
theorem c_X5_collectClauses {l : Launch} {D : va_G} {a : Nat → Nat} {cA : Nat → ClassId} {t : Nat} {F : (Nat → Prop) → State → Prop} (hF : EOK F) {σ : St} {N : Nat} {v1 : Int32} {σ' : St} (h : X5_collectClauses N v1 σ = some σ') : MetV l yX5_collectClauses cX5_collectClauses 3 none 3 D (tyW cA) (wS a cA) (ES t F) [.ref (a 5), .int v1] σ σ' := by
  refine mkV (by decide) (adrS a cA) rfl (Nat.le_of_ble_eq_true rfl) ?_
  intro p e R s m args below meth c A Q ls X hR hp hl
  obtain ⟨hx, hb, -, hown, hts, -⟩ := id X
  have J_7 : ∀ (v1 : Int32) (k37 : (St → Option (St))) (hk37 : ∀ (σ : St) (H : Heap) (locs : List Loc) (ls : Array Slot), Pw D (wS a cA) A s.heap H locs σ → lv_has ls 3 [(0, .ref (a 5))] → k37 σ = some σ' → W p l e R s m args below meth c H locs 0 0 Q (F0 m 37 ls [])) (n : Nat) (v2 : Int32) (σ : St) (H : Heap) (locs : List Loc) (ls : Array Slot), Pw D (wS a cA) A s.heap H locs σ → lv_has ls 3 [(0, .ref (a 5)), (1, .int v1), (2, .int v2)] → X5_collectClauses_7 N k37 v1 n v2 σ = some σ' → W p l e R s m args below meth c H locs 0 0 Q (F0 m 7 ls []) := by
    intro v1 k37 hk37 n
    induction n with
    | zero => intro v2 σ H locs ls hp hl h; exact nn_s (show (none : Option (St)) = some _ from h)
    | succ n ih =>
      intro v2 σ H locs ls hp hl h
      have h : X5_collectClauses_7b N (fun v2 σ => X5_collectClauses_7 N k37 v1 n v2 σ) k37 v1 v2 σ = some σ' := h
      unfold X5_collectClauses_7b at h
      have hk7 := ih
      refine lv_iload_n hx hb dX5_collectClauses_7 rfl (lv_at hl 2 rfl) ?_
      refine lv_aload_n hx hb dX5_collectClauses_8 rfl (lv_at hl 0 rfl) ?_
      refine gS_X5_circuit X hp tw_5_9 dX5_collectClauses_9 ?_
      refine gS_X0_states X hp tw_47_19 dX5_collectClauses_12 ?_
      refine lv_icmp_ge (tgt := 37) hx hb dX5_collectClauses_15 (by decide) (fun c1 => ?_) (fun c1 => ?_)
      · have h := it_p h c1
        exact hk37 σ _ _ _ hp (lv_sub hl [0] rfl) h
      · have h := it_n h c1
        refine lv_iload_n hx hb dX5_collectClauses_18 rfl (lv_at hl 2 rfl) ?_
        obtain ⟨t2, ht2, h⟩ := bd_s h
        refine cl_Si X (eokS hF) (c_J6_bitCount_0f7a4 (adrS a cA) (eokS hF) ht2) tw_49_19 mw_J6_bitCount_0f7a4 (by decide) hp hl.1 rfl (Nat.le_of_ble_eq_true rfl) dX5_collectClauses_19 (fun H locs hp => ?_)
        refine lv_iload_n hx hb dX5_collectClauses_22 rfl (lv_at hl 1 rfl) ?_
        refine lv_icmp_gt (tgt := 31) hx hb dX5_collectClauses_23 (by decide) (fun c3 => ?_) (fun c3 => ?_)
        · have h := it_p h c3
          obtain ⟨x4, ex4⟩ : ∃ z : Int32, z = v2 + (1 : Int32) := ⟨_, rfl⟩
          have h := nm_s h x4 ex4
          refine lv_iinc (v := x4) (lv' := [(2, .int x4), (0, .ref (a 5)), (1, .int v1)]) hx hb dX5_collectClauses_31 hl (k := 2) rfl (by rw [ex4]; rfl) (by decide) rfl (fun ls hl => ?_)
          refine lv_goto (tgt := 7) hx hb dX5_collectClauses_34 (by decide) ?_
          exact hk7 x4 σ _ _ _ hp (lv_sub hl [1, 2, 0] rfl) h
        · have h := it_n h c3
          refine lv_aload_n hx hb dX5_collectClauses_26 rfl (lv_at hl 0 rfl) ?_
          refine lv_iload_n hx hb dX5_collectClauses_27 rfl (lv_at hl 2 rfl) ?_
          obtain ⟨t5, ht5, h⟩ := bd_s h
          refine cl_Vv X (eokS hF) (c_X5_collectClausesOf hF ht5) tw_50_2 mw_X5_collectClausesOf (by decide) hp 5 rfl rfl rfl hl.1 rfl (Nat.le_of_ble_eq_true rfl) dX5_collectClauses_28 (fun H locs hp => ?_)
          obtain ⟨x6, ex6⟩ : ∃ z : Int32, z = v2 + (1 : Int32) := ⟨_, rfl⟩
          have h := nm_s h x6 ex6
          refine lv_iinc (v := x6) (lv' := [(2, .int x6), (0, .ref (a 5)), (1, .int v1)]) hx hb dX5_collectClauses_31 hl (k := 2) rfl (by rw [ex6]; rfl) (by decide) rfl (fun ls hl => ?_)
          refine lv_goto (tgt := 7) hx hb dX5_collectClauses_34 (by decide) ?_
          exact hk7 x6 t5 _ _ _ hp (lv_sub hl [1, 2, 0] rfl) h
  have J_37 : ∀  (σ : St) (H : Heap) (locs : List Loc) (ls : Array Slot), Pw D (wS a cA) A s.heap H locs σ → lv_has ls 3 [(0, .ref (a 5))] → X5_collectClauses_37 σ = some σ' → W p l e R s m args below meth c H locs 0 0 Q (F0 m 37 ls []) := by
    intro σ H locs ls hp hl h
    unfold X5_collectClauses_37 at h
    exact hR _ _ _ _ _ dX5_collectClauses_37 hp (Option.some.inj h)
  unfold X5_collectClauses at h
  have hl := lv_sub (l' := [(0, .ref (a 5)), (1, .int v1)]) hl [0, 1] rfl
  refine lv_aload_n hx hb dX5_collectClauses_0 rfl (lv_at hl 0 rfl) ?_
  refine lv_iconst (v := 0) hx hb dX5_collectClauses_1 (by decide) ?_
  refine pS_X5_clauseCount X hp tw_49_18 dX5_collectClauses_2 (fun H locs σ1 eσ1 hp => ?_)
  have h := nm_s h σ1 eσ1
  refine lv_iconst (v := 1) hx hb dX5_collectClauses_5 (by decide) ?_
  refine lv_istore_n (lv' := [(2, .int (1 : Int32)), (0, .ref (a 5)), (1, .int v1)]) hx hb dX5_collectClauses_6 rfl hl (by decide) rfl (fun ls hl => ?_)
  exact J_7 v1 _ (fun σ H locs ls hp hl h => J_37 σ _ _ _ hp hl h) _ (1 : Int32) σ1 _ _ _ hp (lv_sub hl [1, 2, 0] rfl) h
def X5_statesWithoutClause_4b (k4 : (Int64 → Int32 → Option (Int64))) (k34 : (Int64 → Option (Int64))) (σ : St) (v1 : Int64) (v3 : Int32) : Option (Int64) :=
  if (σ.1 22) ≤ v3 then
    k34 v1
  else
    if (232 : Int32) ≤ v3 then
      k34 v1
    else
      gd (inb v3 232) (
      nm (v1 ||| (σ.2.2.2 8 v3.toNatClampNeg)) (fun (x4 : Int64) =>
      nm (v3 + (1 : Int32)) (fun (x5 : Int32) =>
      k4 x4 x5)))
def X5_statesWithoutClause_4 (k34 : (Int64 → Option (Int64))) (σ : St) : Nat → Int64 → Int32 → Option (Int64)
  | 0, _, _ => none
  | n + 1, v1, v3 => X5_statesWithoutClause_4b (fun v1 v3 => X5_statesWithoutClause_4 k34 σ n v1 v3) k34 σ v1 v3
def X5_statesWithoutClause_34 (σ : St) (v1 : Int64) : Option (Int64) :=
  some ((σ.2.1 0) &&& (v1 ^^^ (-1 : Int64)))
def X5_statesWithoutClause (N : Nat) (σ : St) : Option (Int64) :=
  X5_statesWithoutClause_4 (fun v1 => X5_statesWithoutClause_34 σ v1) σ N (0 : Int64) (0 : Int32)
set_option maxRecDepth 20000 in
set_option maxHeartbeats 4000000 in
theorem c_X5_statesWithoutClause {l : Launch} {D : va_G} {a : Nat → Nat} {cA : Nat → ClassId} {t : Nat} {F : (Nat → Prop) → State → Prop} (hF : EOK F) {σ : St} {N : Nat} {r : Int64} (h : X5_statesWithoutClause N σ = some r) : MetL l yX5_statesWithoutClause cX5_statesWithoutClause 4 (some .long) 0 D (tyW cA) (wS a cA) (ES t F) [.ref (a 5)] σ r σ := by
  refine mkL (by decide) (adrS a cA) rfl (Nat.le_of_ble_eq_true rfl) ?_
  intro p e R s m args below meth c A Q ls X hR hp hl
  obtain ⟨hx, hb, -, hown, hts, -⟩ := id X
  have J_4 : ∀  (k34 : (Int64 → Option (Int64))) (hk34 : ∀ (v1 : Int64) (H : Heap) (locs : List Loc) (ls : Array Slot), Pw D (wS a cA) A s.heap H locs σ → lv_has ls 4 [(0, .ref (a 5)), (1, .long v1)] → k34 v1 = some r → W p l e R s m args below meth c H locs 0 0 Q (F0 m 34 ls [])) (n : Nat) (v1 : Int64) (v3 : Int32) (H : Heap) (locs : List Loc) (ls : Array Slot), Pw D (wS a cA) A s.heap H locs σ → lv_has ls 4 [(0, .ref (a 5)), (1, .long v1), (3, .int v3)] → X5_statesWithoutClause_4 k34 σ n v1 v3 = some r → W p l e R s m args below meth c H locs 0 0 Q (F0 m 4 ls []) := by
    intro k34 hk34 n
    induction n with
    | zero => intro v1 v3 H locs ls hp hl h; exact nn_s (show (none : Option (Int64)) = some _ from h)
    | succ n ih =>
      intro v1 v3 H locs ls hp hl h
      have h : X5_statesWithoutClause_4b (fun v1 v3 => X5_statesWithoutClause_4 k34 σ n v1 v3) k34 σ v1 v3 = some r := h
      unfold X5_statesWithoutClause_4b at h
      have hk4 := ih
      refine lv_iload_n hx hb dX5_statesWithoutClause_4 rfl (lv_at hl 2 rfl) ?_
      refine lv_aload_n hx hb dX5_statesWithoutClause_5 rfl (lv_at hl 0 rfl) ?_
      refine gS_X5_clauseCount X hp tw_49_18 dX5_statesWithoutClause_6 ?_
      refine lv_icmp_ge (tgt := 34) hx hb dX5_statesWithoutClause_9 (by decide) (fun c1 => ?_) (fun c1 => ?_)
      · have h := it_p h c1
        exact hk34 v1 _ _ _ hp (lv_sub hl [0, 1] rfl) h
      · have h := it_n h c1
        refine lv_iload_n hx hb dX5_statesWithoutClause_12 rfl (lv_at hl 2 rfl) ?_
        refine lv_sipush (v := 232) hx hb dX5_statesWithoutClause_13 (by decide) ?_
        refine lv_icmp_ge (tgt := 34) hx hb dX5_statesWithoutClause_16 (by decide) (fun c2 => ?_) (fun c2 => ?_)
        · have h := it_p h c2
          exact hk34 v1 _ _ _ hp (lv_sub hl [0, 1] rfl) h
        · have h := it_n h c2
          refine lv_lload_n hx hb dX5_statesWithoutClause_19 rfl (lv_at hl 1 rfl) ?_
          refine lv_aload_n hx hb dX5_statesWithoutClause_20 rfl (lv_at hl 0 rfl) ?_
          refine gS_X5_clauses X hp tw_5_12 dX5_statesWithoutClause_21 ?_
          refine lv_iload_n hx hb dX5_statesWithoutClause_24 rfl (lv_at hl 2 rfl) ?_
          obtain ⟨g3, h⟩ := gd_s h
          refine lS_X5_clauses X hp g3 dX5_statesWithoutClause_25 ?_
          refine lv_lor hx hb dX5_statesWithoutClause_26 ?_
          refine lv_topl (fun x4 ex4 => ?_)
          have h := nm_s h x4 ex4
          refine lv_lstore_n (lv' := [(1, .long x4), (0, .ref (a 5)), (3, .int v3)]) hx hb dX5_statesWithoutClause_27 rfl hl (by decide) rfl (fun ls hl => ?_)
          obtain ⟨x5, ex5⟩ : ∃ z : Int32, z = v3 + (1 : Int32) := ⟨_, rfl⟩
          have h := nm_s h x5 ex5
          refine lv_iinc (v := x5) (lv' := [(3, .int x5), (1, .long x4), (0, .ref (a 5))]) hx hb dX5_statesWithoutClause_28 hl (k := 2) rfl (by rw [ex5]; rfl) (by decide) rfl (fun ls hl => ?_)
          refine lv_goto (tgt := 4) hx hb dX5_statesWithoutClause_31 (by decide) ?_
          exact hk4 x4 x5 _ _ _ hp (lv_sub hl [2, 1, 0] rfl) h
  have J_34 : ∀ (v1 : Int64) (H : Heap) (locs : List Loc) (ls : Array Slot), Pw D (wS a cA) A s.heap H locs σ → lv_has ls 4 [(0, .ref (a 5)), (1, .long v1)] → X5_statesWithoutClause_34 σ v1 = some r → W p l e R s m args below meth c H locs 0 0 Q (F0 m 34 ls []) := by
    intro v1 H locs ls hp hl h
    unfold X5_statesWithoutClause_34 at h
    refine lv_aload_n hx hb dX5_statesWithoutClause_34 rfl (lv_at hl 0 rfl) ?_
    refine gS_X5_circuit X hp tw_5_9 dX5_statesWithoutClause_35 ?_
    refine gS_X0_all X hp tw_50_12 dX5_statesWithoutClause_38 ?_
    refine lv_lload_n hx hb dX5_statesWithoutClause_41 rfl (lv_at hl 1 rfl) ?_
    refine lv_ldc2 hx hb hown (hts _ tw_48_4) dX5_statesWithoutClause_42 ?_
    refine lv_lxor hx hb dX5_statesWithoutClause_45 ?_
    refine lv_land hx hb dX5_statesWithoutClause_46 ?_
    exact hR _ _ _ _ _ _ dX5_statesWithoutClause_47 hp (Option.some.inj h) rfl
  unfold X5_statesWithoutClause at h
  have hl := lv_sub (l' := [(0, .ref (a 5))]) hl [0] rfl
  refine lv_lconst (v := 0) hx hb dX5_statesWithoutClause_0 (by decide) ?_
  refine lv_lstore_n (lv' := [(1, .long (0 : Int64)), (0, .ref (a 5))]) hx hb dX5_statesWithoutClause_1 rfl hl (by decide) rfl (fun ls hl => ?_)
  refine lv_iconst (v := 0) hx hb dX5_statesWithoutClause_2 (by decide) ?_
  refine lv_istore_n (lv' := [(3, .int (0 : Int32)), (1, .long (0 : Int64)), (0, .ref (a 5))]) hx hb dX5_statesWithoutClause_3 rfl hl (by decide) rfl (fun ls hl => ?_)
  exact J_4 _ (fun v1 H locs ls hp hl h => J_34 v1 _ _ _ hp hl h) _ (0 : Int64) (0 : Int32) _ _ _ hp (lv_sub hl [2, 1, 0] rfl) h
def X5_discardClauses_5b (k5 : (Int32 → Int32 → St → Option (Int32 × St))) (k64 : (Int32 → St → Option (Int32 × St))) (v1 : Int64) (v3 : Int32) (v4 : Int32) (σ : St) : Option (Int32 × St) :=
  if (σ.1 22) ≤ v4 then
    k64 v3 σ
  else
    if (232 : Int32) ≤ v4 then
      k64 v3 σ
    else
      gd (inb v4 232) (
      if ((σ.2.2.2 8 v4.toNatClampNeg) &&& v1) = (0 : Int64) then
        if v4 < v3 then
          nm (v4 + (1 : Int32)) (fun (x7 : Int32) =>
          k5 v3 x7 σ)
        else
          gd (inb v4 232) (
          gd (inb v3 232) (
          nm (sb σ 8 v3.toNatClampNeg (σ.2.2.2 8 v4.toNatClampNeg)) (fun (σ10 : St) =>
          nm (v3 + (1 : Int32)) (fun (x11 : Int32) =>
          nm (v4 + (1 : Int32)) (fun (x12 : Int32) =>
          k5 x11 x12 σ10)))))
      else
        nm (v4 + (1 : Int32)) (fun (x5 : Int32) =>
        k5 v3 x5 σ))
def X5_discardClauses_5 (k64 : (Int32 → St → Option (Int32 × St))) (v1 : Int64) : Nat → Int32 → Int32 → St → Option (Int32 × St)
  | 0, _, _, _ => none
  | n + 1, v3, v4, σ => X5_discardClauses_5b (fun v3 v4 σ => X5_discardClauses_5 k64 v1 n v3 v4 σ) k64 v1 v3 v4 σ
def X5_discardClauses_77 (v3 : Int32) (u0 : Int32) (σ : St) : Option (Int32 × St) :=
  nm (si σ 22 v3) (fun (σ1 : St) =>
  gd (isb u0) (
  some (u0, σ1)))
def X5_discardClauses_64 (v3 : Int32) (σ : St) : Option (Int32 × St) :=
  if (σ.1 22) ≤ v3 then
    X5_discardClauses_77 v3 (0 : Int32) σ
  else
    X5_discardClauses_77 v3 (1 : Int32) σ
def X5_discardClauses (N : Nat) (v1 : Int64) (σ : St) : Option (Int32 × St) :=
  X5_discardClauses_5 (fun v3 σ => X5_discardClauses_64 v3 σ) v1 N (0 : Int32) (0 : Int32) σ
set_option maxRecDepth 20000 in
set_option maxHeartbeats 4000000 in
theorem c_X5_discardClauses {l : Launch} {D : va_G} {a : Nat → Nat} {cA : Nat → ClassId} {t : Nat} {F : (Nat → Prop) → State → Prop} (hF : EOK F) {σ : St} {N : Nat} {v1 : Int64} {r : Int32} {σ' : St} (h : X5_discardClauses N v1 σ = some (r, σ')) : MetI l yX5_discardClauses cX5_discardClauses 5 (some .boolean) 0 D (tyW cA) (wS a cA) (ES t F) [.ref (a 5), .long v1] σ r σ' := by
  refine mkI (by decide) (adrS a cA) (Or.inr rfl) (Nat.le_of_ble_eq_true rfl) ?_
  intro p e R s m args below meth c A Q ls X hR hp hl
  obtain ⟨hx, hb, -, hown, hts, -⟩ := id X
  have J_5 : ∀ (v1 : Int64) (k64 : (Int32 → St → Option (Int32 × St))) (hk64 : ∀ (v3 : Int32) (σ : St) (H : Heap) (locs : List Loc) (ls : Array Slot), Pw D (wS a cA) A s.heap H locs σ → lv_has ls 5 [(0, .ref (a 5)), (3, .int v3)] → k64 v3 σ = some (r, σ') → W p l e R s m args below meth c H locs 0 0 Q (F0 m 64 ls [])) (n : Nat) (v3 : Int32) (v4 : Int32) (σ : St) (H : Heap) (locs : List Loc) (ls : Array Slot), Pw D (wS a cA) A s.heap H locs σ → lv_has ls 5 [(0, .ref (a 5)), (1, .long v1), (3, .int v3), (4, .int v4)] → X5_discardClauses_5 k64 v1 n v3 v4 σ = some (r, σ') → W p l e R s m args below meth c H locs 0 0 Q (F0 m 5 ls []) := by
    intro v1 k64 hk64 n
    induction n with
    | zero => intro v3 v4 σ H locs ls hp hl h; exact nn_s (show (none : Option (Int32 × St)) = some _ from h)
    | succ n ih =>
      intro v3 v4 σ H locs ls hp hl h
      have h : X5_discardClauses_5b (fun v3 v4 σ => X5_discardClauses_5 k64 v1 n v3 v4 σ) k64 v1 v3 v4 σ = some (r, σ') := h
      unfold X5_discardClauses_5b at h
      have hk5 := ih
      refine lv_iload hx hb dX5_discardClauses_5 (lv_at hl 3 rfl) ?_
      refine lv_aload_n hx hb dX5_discardClauses_7 rfl (lv_at hl 0 rfl) ?_
      refine gS_X5_clauseCount X hp tw_49_18 dX5_discardClauses_8 ?_
      refine lv_icmp_ge (tgt := 64) hx hb dX5_discardClauses_11 (by decide) (fun c1 => ?_) (fun c1 => ?_)
      · have h := it_p h c1
        exact hk64 v3 σ _ _ _ hp (lv_sub hl [0, 2] rfl) h
      · have h := it_n h c1
        refine lv_iload hx hb dX5_discardClauses_14 (lv_at hl 3 rfl) ?_
        refine lv_sipush (v := 232) hx hb dX5_discardClauses_16 (by decide) ?_
        refine lv_icmp_ge (tgt := 64) hx hb dX5_discardClauses_19 (by decide) (fun c2 => ?_) (fun c2 => ?_)
        · have h := it_p h c2
          exact hk64 v3 σ _ _ _ hp (lv_sub hl [0, 2] rfl) h
        · have h := it_n h c2
          refine lv_aload_n hx hb dX5_discardClauses_22 rfl (lv_at hl 0 rfl) ?_
          refine gS_X5_clauses X hp tw_5_12 dX5_discardClauses_23 ?_
          refine lv_iload hx hb dX5_discardClauses_26 (lv_at hl 3 rfl) ?_
          obtain ⟨g3, h⟩ := gd_s h
          refine lS_X5_clauses X hp g3 dX5_discardClauses_28 ?_
          refine lv_lload_n hx hb dX5_discardClauses_29 rfl (lv_at hl 1 rfl) ?_
          refine lv_land hx hb dX5_discardClauses_30 ?_
          refine lv_lconst (v := 0) hx hb dX5_discardClauses_31 (by decide) ?_
          refine W.lcmp hx hb dX5_discardClauses_32 ?_
          refine lv_if_ne (tgt := 58) hx hb dX5_discardClauses_33 (by decide) (fun c4 => ?_) (fun c4 => ?_)
          · have h := it_n h (fun q => c4 (lcmp0.mpr q))
            obtain ⟨x5, ex5⟩ : ∃ z : Int32, z = v4 + (1 : Int32) := ⟨_, rfl⟩
            have h := nm_s h x5 ex5
            refine lv_iinc (v := x5) (lv' := [(4, .int x5), (0, .ref (a 5)), (1, .long v1), (3, .int v3)]) hx hb dX5_discardClauses_58 hl (k := 3) rfl (by rw [ex5]; rfl) (by decide) rfl (fun ls hl => ?_)
            refine lv_goto (tgt := 5) hx hb dX5_discardClauses_61 (by decide) ?_
            exact hk5 v3 x5 σ _ _ _ hp (lv_sub hl [1, 2, 3, 0] rfl) h
          · have h := it_p h (lcmp0.mp c4)
            refine lv_iload_n hx hb dX5_discardClauses_36 rfl (lv_at hl 2 rfl) ?_
            refine lv_iload hx hb dX5_discardClauses_37 (lv_at hl 3 rfl) ?_
            refine lv_icmp_gt (tgt := 58) hx hb dX5_discardClauses_39 (by decide) (fun c6 => ?_) (fun c6 => ?_)
            · have h := it_p h c6
              obtain ⟨x7, ex7⟩ : ∃ z : Int32, z = v4 + (1 : Int32) := ⟨_, rfl⟩
              have h := nm_s h x7 ex7
              refine lv_iinc (v := x7) (lv' := [(4, .int x7), (0, .ref (a 5)), (1, .long v1), (3, .int v3)]) hx hb dX5_discardClauses_58 hl (k := 3) rfl (by rw [ex7]; rfl) (by decide) rfl (fun ls hl => ?_)
              refine lv_goto (tgt := 5) hx hb dX5_discardClauses_61 (by decide) ?_
              exact hk5 v3 x7 σ _ _ _ hp (lv_sub hl [1, 2, 3, 0] rfl) h
            · have h := it_n h c6
              refine lv_aload_n hx hb dX5_discardClauses_42 rfl (lv_at hl 0 rfl) ?_
              refine gS_X5_clauses X hp tw_5_12 dX5_discardClauses_43 ?_
              refine lv_iload_n hx hb dX5_discardClauses_46 rfl (lv_at hl 2 rfl) ?_
              refine lv_aload_n hx hb dX5_discardClauses_47 rfl (lv_at hl 0 rfl) ?_
              refine gS_X5_clauses X hp tw_5_12 dX5_discardClauses_48 ?_
              refine lv_iload hx hb dX5_discardClauses_51 (lv_at hl 3 rfl) ?_
              obtain ⟨g8, h⟩ := gd_s h
              refine lS_X5_clauses X hp g8 dX5_discardClauses_53 ?_
              obtain ⟨g9, h⟩ := gd_s h
              refine sS_X5_clauses X hp g9 dX5_discardClauses_54 (fun H locs σ10 eσ10 hp => ?_)
              have h := nm_s h σ10 eσ10
              obtain ⟨x11, ex11⟩ : ∃ z : Int32, z = v3 + (1 : Int32) := ⟨_, rfl⟩
              have h := nm_s h x11 ex11
              refine lv_iinc (v := x11) (lv' := [(3, .int x11), (0, .ref (a 5)), (1, .long v1), (4, .int v4)]) hx hb dX5_discardClauses_55 hl (k := 2) rfl (by rw [ex11]; rfl) (by decide) rfl (fun ls hl => ?_)
              obtain ⟨x12, ex12⟩ : ∃ z : Int32, z = v4 + (1 : Int32) := ⟨_, rfl⟩
              have h := nm_s h x12 ex12
              refine lv_iinc (v := x12) (lv' := [(4, .int x12), (3, .int x11), (0, .ref (a 5)), (1, .long v1)]) hx hb dX5_discardClauses_58 hl (k := 3) rfl (by rw [ex12]; rfl) (by decide) rfl (fun ls hl => ?_)
              refine lv_goto (tgt := 5) hx hb dX5_discardClauses_61 (by decide) ?_
              exact hk5 x11 x12 σ10 _ _ _ hp (lv_sub hl [2, 3, 1, 0] rfl) h
  have J_77 : ∀ (v3 : Int32) (u0 : Int32) (σ : St) (H : Heap) (locs : List Loc) (ls : Array Slot), Pw D (wS a cA) A s.heap H locs σ → lv_has ls 5 [(0, .ref (a 5)), (3, .int v3)] → X5_discardClauses_77 v3 u0 σ = some (r, σ') → W p l e R s m args below meth c H locs 0 0 Q (F0 m 77 ls [.int u0]) := by
    intro v3 u0 σ H locs ls hp hl h
    unfold X5_discardClauses_77 at h
    refine lv_istore (lv' := [(4, .int u0), (0, .ref (a 5)), (3, .int v3)]) hx hb dX5_discardClauses_77 hl (by decide) rfl (fun ls hl => ?_)
    refine lv_aload_n hx hb dX5_discardClauses_79 rfl (lv_at hl 1 rfl) ?_
    refine lv_iload_n hx hb dX5_discardClauses_80 rfl (lv_at hl 2 rfl) ?_
    refine pS_X5_clauseCount X hp tw_49_18 dX5_discardClauses_81 (fun H locs σ1 eσ1 hp => ?_)
    have h := nm_s h σ1 eσ1
    refine lv_iload hx hb dX5_discardClauses_84 (lv_at hl 0 rfl) ?_
    obtain ⟨g2, h⟩ := gd_s h
    exact hR _ _ _ _ _ _ dX5_discardClauses_86 hp (congrArg Prod.fst (Option.some.inj h)) (congrArg Prod.snd (Option.some.inj h)) (fun _ => g2)
  have J_64 : ∀ (v3 : Int32) (σ : St) (H : Heap) (locs : List Loc) (ls : Array Slot), Pw D (wS a cA) A s.heap H locs σ → lv_has ls 5 [(0, .ref (a 5)), (3, .int v3)] → X5_discardClauses_64 v3 σ = some (r, σ') → W p l e R s m args below meth c H locs 0 0 Q (F0 m 64 ls []) := by
    intro v3 σ H locs ls hp hl h
    unfold X5_discardClauses_64 at h
    refine lv_iload_n hx hb dX5_discardClauses_64 rfl (lv_at hl 1 rfl) ?_
    refine lv_aload_n hx hb dX5_discardClauses_65 rfl (lv_at hl 0 rfl) ?_
    refine gS_X5_clauseCount X hp tw_49_18 dX5_discardClauses_66 ?_
    refine lv_icmp_ge (tgt := 76) hx hb dX5_discardClauses_69 (by decide) (fun c1 => ?_) (fun c1 => ?_)
    · have h := it_p h c1
      refine lv_iconst (v := 0) hx hb dX5_discardClauses_76 (by decide) ?_
      exact J_77 v3 (0 : Int32) σ _ _ _ hp (lv_sub hl [0, 1] rfl) h
    · have h := it_n h c1
      refine lv_iconst (v := 1) hx hb dX5_discardClauses_72 (by decide) ?_
      refine lv_goto (tgt := 77) hx hb dX5_discardClauses_73 (by decide) ?_
      exact J_77 v3 (1 : Int32) σ _ _ _ hp (lv_sub hl [0, 1] rfl) h
  unfold X5_discardClauses at h
  have hl := lv_sub (l' := [(0, .ref (a 5)), (1, .long v1)]) hl [0, 1] rfl
  refine lv_iconst (v := 0) hx hb dX5_discardClauses_0 (by decide) ?_
  refine lv_istore_n (lv' := [(3, .int (0 : Int32)), (0, .ref (a 5)), (1, .long v1)]) hx hb dX5_discardClauses_1 rfl hl (by decide) rfl (fun ls hl => ?_)
  refine lv_iconst (v := 0) hx hb dX5_discardClauses_2 (by decide) ?_
  refine lv_istore (lv' := [(4, .int (0 : Int32)), (3, .int (0 : Int32)), (0, .ref (a 5)), (1, .long v1)]) hx hb dX5_discardClauses_3 hl (by decide) rfl (fun ls hl => ?_)
  exact J_5 v1 _ (fun v3 σ H locs ls hp hl h => J_64 v3 σ _ _ _ hp hl h) _ (0 : Int32) (0 : Int32) σ _ _ _ hp (lv_sub hl [2, 3, 1, 0] rfl) h
def X5_eliminate_13b (N : Nat) (k13 : (Int64 → Int32 → St → Option (Int64 × St))) (k36 : (Int64 → St → Option (Int64 × St))) (k49 : (Int64 → St → Option (Int64 × St))) (v2 : Int64) (v4 : Int32) (σ : St) : Option (Int64 × St) :=
  if (232 : Int32) < v4 then
    k49 v2 σ
  else
    bd (X2_successorsOf N σ v2) (fun t2 =>
    bd (X5_discardClauses N t2 σ) (fun t3 =>
    if t3.1 = 0 then
      k36 v2 t3.2
    else
      bd (X5_statesWithoutClause N t3.2) (fun t5 =>
      nm (v4 + (1 : Int32)) (fun (x6 : Int32) =>
      k13 t5 x6 t3.2))))
def X5_eliminate_13 (N : Nat) (k36 : (Int64 → St → Option (Int64 × St))) (k49 : (Int64 → St → Option (Int64 × St))) : Nat → Int64 → Int32 → St → Option (Int64 × St)
  | 0, _, _, _ => none
  | n + 1, v2, v4, σ => X5_eliminate_13b N (fun v2 v4 σ => X5_eliminate_13 N k36 k49 n v2 v4 σ) k36 k49 v2 v4 σ
def X5_eliminate_49 (v2 : Int64) (σ : St) : Option (Int64 × St) :=
  some (v2, σ)
def X5_eliminate_36 (v2 : Int64) (σ : St) : Option (Int64 × St) :=
  some (v2, σ)
def X5_eliminate (N : Nat) (v1 : Int32) (σ : St) : Option (Int64 × St) :=
  bd (X5_collectClauses N v1 σ) (fun t1 =>
  bd (X5_statesWithoutClause N t1) (fun t2 =>
  X5_eliminate_13 N (fun v2 σ => X5_eliminate_36 v2 σ) (fun v2 σ => X5_eliminate_49 v2 σ) N t2 (0 : Int32) t1))
set_option maxRecDepth 20000 in
set_option maxHeartbeats 4000000 in
theorem c_X5_eliminate {l : Launch} {D : va_G} {a : Nat → Nat} {cA : Nat → ClassId} {t : Nat} {F : (Nat → Prop) → State → Prop} (hF : EOK F) {σ : St} {N : Nat} {v1 : Int32} {r : Int64} {σ' : St} (h : X5_eliminate N v1 σ = some (r, σ')) : MetL l yX5_eliminate cX5_eliminate 5 (some .long) 4 D (tyW cA) (wS a cA) (ES t F) [.ref (a 5), .int v1] σ r σ' := by
  refine mkL (by decide) (adrS a cA) rfl (Nat.le_of_ble_eq_true rfl) ?_
  intro p e R s m args below meth c A Q ls X hR hp hl
  obtain ⟨hx, hb, -, hown, hts, -⟩ := id X
  have J_13 : ∀  (k36 : (Int64 → St → Option (Int64 × St))) (hk36 : ∀ (v2 : Int64) (σ : St) (H : Heap) (locs : List Loc) (ls : Array Slot), Pw D (wS a cA) A s.heap H locs σ → lv_has ls 5 [(0, .ref (a 5)), (2, .long v2)] → k36 v2 σ = some (r, σ') → W p l e R s m args below meth c H locs 0 0 Q (F0 m 36 ls [])) (k49 : (Int64 → St → Option (Int64 × St))) (hk49 : ∀ (v2 : Int64) (σ : St) (H : Heap) (locs : List Loc) (ls : Array Slot), Pw D (wS a cA) A s.heap H locs σ → lv_has ls 5 [(0, .ref (a 5)), (2, .long v2)] → k49 v2 σ = some (r, σ') → W p l e R s m args below meth c H locs 0 0 Q (F0 m 49 ls [])) (n : Nat) (v2 : Int64) (v4 : Int32) (σ : St) (H : Heap) (locs : List Loc) (ls : Array Slot), Pw D (wS a cA) A s.heap H locs σ → lv_has ls 5 [(0, .ref (a 5)), (2, .long v2), (4, .int v4)] → X5_eliminate_13 N k36 k49 n v2 v4 σ = some (r, σ') → W p l e R s m args below meth c H locs 0 0 Q (F0 m 13 ls []) := by
    intro k36 hk36 k49 hk49 n
    induction n with
    | zero => intro v2 v4 σ H locs ls hp hl h; exact nn_s (show (none : Option (Int64 × St)) = some _ from h)
    | succ n ih =>
      intro v2 v4 σ H locs ls hp hl h
      have h : X5_eliminate_13b N (fun v2 v4 σ => X5_eliminate_13 N k36 k49 n v2 v4 σ) k36 k49 v2 v4 σ = some (r, σ') := h
      unfold X5_eliminate_13b at h
      have hk13 := ih
      refine lv_iload hx hb dX5_eliminate_13 (lv_at hl 2 rfl) ?_
      refine lv_sipush (v := 232) hx hb dX5_eliminate_15 (by decide) ?_
      refine lv_icmp_gt (tgt := 49) hx hb dX5_eliminate_18 (by decide) (fun c1 => ?_) (fun c1 => ?_)
      · have h := it_p h c1
        exact hk49 v2 σ _ _ _ hp (lv_sub hl [0, 1] rfl) h
      · have h := it_n h c1
        refine lv_aload_n hx hb dX5_eliminate_21 rfl (lv_at hl 0 rfl) ?_
        refine lv_aload_n hx hb dX5_eliminate_22 rfl (lv_at hl 0 rfl) ?_
        refine gS_X5_exploration X hp tw_5_10 dX5_eliminate_23 ?_
        refine lv_lload_n hx hb dX5_eliminate_26 rfl (lv_at hl 1 rfl) ?_
        obtain ⟨t2, ht2, h⟩ := bd_s h
        refine cl_Vl X (eokS hF) (c_X2_successorsOf hF ht2) tw_50_13 mw_X2_successorsOf (by decide) hp 3 rfl rfl rfl hl.1 rfl (Nat.le_of_ble_eq_true rfl) dX5_eliminate_27 (fun H locs hp => ?_)
        obtain ⟨t3, ht3, h⟩ := bd_s h
        refine cl_Vi X (eokS hF) (c_X5_discardClauses hF ht3) tw_50_14 mw_X5_discardClauses (by decide) hp 5 rfl rfl rfl hl.1 rfl (Nat.le_of_ble_eq_true rfl) dX5_eliminate_30 (fun H locs hp => ?_)
        refine lv_if_ne (tgt := 38) hx hb dX5_eliminate_33 (by decide) (fun c4 => ?_) (fun c4 => ?_)
        · have h := it_n h c4
          refine lv_aload_n hx hb dX5_eliminate_38 rfl (lv_at hl 0 rfl) ?_
          obtain ⟨t5, ht5, h⟩ := bd_s h
          refine cl_Vl X (eokS hF) (c_X5_statesWithoutClause hF ht5) tw_50_8 mw_X5_statesWithoutClause (by decide) hp 5 rfl rfl rfl hl.1 rfl (Nat.le_of_ble_eq_true rfl) dX5_eliminate_39 (fun H locs hp => ?_)
          refine lv_lstore_n (lv' := [(2, .long t5), (0, .ref (a 5)), (4, .int v4)]) hx hb dX5_eliminate_42 rfl hl (by decide) rfl (fun ls hl => ?_)
          obtain ⟨x6, ex6⟩ : ∃ z : Int32, z = v4 + (1 : Int32) := ⟨_, rfl⟩
          have h := nm_s h x6 ex6
          refine lv_iinc (v := x6) (lv' := [(4, .int x6), (2, .long t5), (0, .ref (a 5))]) hx hb dX5_eliminate_43 hl (k := 2) rfl (by rw [ex6]; rfl) (by decide) rfl (fun ls hl => ?_)
          refine lv_goto (tgt := 13) hx hb dX5_eliminate_46 (by decide) ?_
          exact hk13 t5 x6 t3.2 _ _ _ hp (lv_sub hl [2, 1, 0] rfl) h
        · have h := it_p h c4
          exact hk36 v2 t3.2 _ _ _ hp (lv_sub hl [0, 1] rfl) h
  have J_49 : ∀ (v2 : Int64) (σ : St) (H : Heap) (locs : List Loc) (ls : Array Slot), Pw D (wS a cA) A s.heap H locs σ → lv_has ls 5 [(0, .ref (a 5)), (2, .long v2)] → X5_eliminate_49 v2 σ = some (r, σ') → W p l e R s m args below meth c H locs 0 0 Q (F0 m 49 ls []) := by
    intro v2 σ H locs ls hp hl h
    unfold X5_eliminate_49 at h
    refine lv_lload_n hx hb dX5_eliminate_49 rfl (lv_at hl 1 rfl) ?_
    exact hR _ _ _ _ _ _ dX5_eliminate_50 hp (congrArg Prod.fst (Option.some.inj h)) (congrArg Prod.snd (Option.some.inj h))
  have J_36 : ∀ (v2 : Int64) (σ : St) (H : Heap) (locs : List Loc) (ls : Array Slot), Pw D (wS a cA) A s.heap H locs σ → lv_has ls 5 [(0, .ref (a 5)), (2, .long v2)] → X5_eliminate_36 v2 σ = some (r, σ') → W p l e R s m args below meth c H locs 0 0 Q (F0 m 36 ls []) := by
    intro v2 σ H locs ls hp hl h
    unfold X5_eliminate_36 at h
    refine lv_lload_n hx hb dX5_eliminate_36 rfl (lv_at hl 1 rfl) ?_
    exact hR _ _ _ _ _ _ dX5_eliminate_37 hp (congrArg Prod.fst (Option.some.inj h)) (congrArg Prod.snd (Option.some.inj h))
  unfold X5_eliminate at h
  have hl := lv_sub (l' := [(0, .ref (a 5)), (1, .int v1)]) hl [0, 1] rfl
  refine lv_aload_n hx hb dX5_eliminate_0 rfl (lv_at hl 0 rfl) ?_
  refine lv_iload_n hx hb dX5_eliminate_1 rfl (lv_at hl 1 rfl) ?_
  obtain ⟨t1, ht1, h⟩ := bd_s h
  refine cl_Vv X (eokS hF) (c_X5_collectClauses hF ht1) tw_49_14 mw_X5_collectClauses (by decide) hp 5 rfl rfl rfl hl.1 rfl (Nat.le_of_ble_eq_true rfl) dX5_eliminate_2 (fun H locs hp => ?_)
  refine lv_aload_n hx hb dX5_eliminate_5 rfl (lv_at hl 0 rfl) ?_
  obtain ⟨t2, ht2, h⟩ := bd_s h
  refine cl_Vl X (eokS hF) (c_X5_statesWithoutClause hF ht2) tw_50_8 mw_X5_statesWithoutClause (by decide) hp 5 rfl rfl rfl hl.1 rfl (Nat.le_of_ble_eq_true rfl) dX5_eliminate_6 (fun H locs hp => ?_)
  refine lv_lstore_n (lv' := [(2, .long t2), (0, .ref (a 5)), (1, .int v1)]) hx hb dX5_eliminate_9 rfl hl (by decide) rfl (fun ls hl => ?_)
  refine lv_iconst (v := 0) hx hb dX5_eliminate_10 (by decide) ?_
  refine lv_istore (lv' := [(4, .int (0 : Int32)), (2, .long t2), (0, .ref (a 5)), (1, .int v1)]) hx hb dX5_eliminate_11 hl (by decide) rfl (fun ls hl => ?_)
  exact J_13 _ (fun v2 σ H locs ls hp hl h => J_36 v2 σ _ _ _ hp hl h) _ (fun v2 σ H locs ls hp hl h => J_49 v2 σ _ _ _ hp hl h) _ t2 (0 : Int32) t1 _ _ _ hp (lv_sub hl [2, 1, 0] rfl) h
