/- J7_fill_d0a16_a20 J7_fill_d0a16_a21 X4_forgetLast X4_openFrame X4_lowestObliged X4_frameAt X4_oblige X4_obligedAt X4_moveUp X0_predecessorsOfCube X0_statesInCube X4_isBlocked -/
def J7_fill_d0a16_a20_6b (k6 : (Int32 → St → Option (St))) (k22 : (St → Option (St))) (v1 : Int64) (v3 : Int32) (v4 : Int32) (σ : St) : Option (St) :=
  if v4 ≤ v3 then
    k22 σ
  else
    gd (inb v3 70) (
    nm (sb σ 5 v3.toNatClampNeg v1) (fun (σ3 : St) =>
    nm (v3 + (1 : Int32)) (fun (x4 : Int32) =>
    k6 x4 σ3)))
def J7_fill_d0a16_a20_6 (k22 : (St → Option (St))) (v1 : Int64) (v4 : Int32) : Nat → Int32 → St → Option (St)
  | 0, _, _ => none
  | n + 1, v3, σ => J7_fill_d0a16_a20_6b (fun v3 σ => J7_fill_d0a16_a20_6 k22 v1 v4 n v3 σ) k22 v1 v3 v4 σ
def J7_fill_d0a16_a20_22 (σ : St) : Option (St) :=
  some σ
def J7_fill_d0a16_a20 (N : Nat) (v1 : Int64) (σ : St) : Option (St) :=
  J7_fill_d0a16_a20_6 (fun σ => J7_fill_d0a16_a20_22 σ) v1 (70 : Int32) N (0 : Int32) σ
set_option maxRecDepth 20000 in
set_option maxHeartbeats 4000000 in
theorem c_J7_fill_d0a16_a20 {l : Launch} {D : va_G} {a : Nat → Nat} {cA : Nat → ClassId} {t : Nat} {F : (Nat → Prop) → State → Prop} (hF : EOK F) {σ : St} {N : Nat} {v1 : Int64} {σ' : St} (h : J7_fill_d0a16_a20 N v1 σ = some σ') : MetV l yJ7_fill_d0a16 cJ7_fill_d0a16 5 none 0 D (tyW cA) (wS a cA) (ES t F) [.ref (a 20), .long v1] σ σ' := by
  refine mkV (by decide) (adrS a cA) rfl (Nat.le_of_ble_eq_true rfl) ?_
  intro p e R s m args below meth c A Q ls X hR hp hl
  obtain ⟨hx, hb, -, hown, hts, -⟩ := id X
  have J_6 : ∀ (v1 : Int64) (v4 : Int32) (k22 : (St → Option (St))) (hk22 : ∀ (σ : St) (H : Heap) (locs : List Loc) (ls : Array Slot), Pw D (wS a cA) A s.heap H locs σ → lv_has ls 5 [] → k22 σ = some σ' → W p l e R s m args below meth c H locs 0 0 Q (F0 m 22 ls [])) (n : Nat) (v3 : Int32) (σ : St) (H : Heap) (locs : List Loc) (ls : Array Slot), Pw D (wS a cA) A s.heap H locs σ → lv_has ls 5 [(0, .ref (a 20)), (1, .long v1), (3, .int v3), (4, .int v4)] → J7_fill_d0a16_a20_6 k22 v1 v4 n v3 σ = some σ' → W p l e R s m args below meth c H locs 0 0 Q (F0 m 6 ls []) := by
    intro v1 v4 k22 hk22 n
    induction n with
    | zero => intro v3 σ H locs ls hp hl h; exact nn_s (show (none : Option (St)) = some _ from h)
    | succ n ih =>
      intro v3 σ H locs ls hp hl h
      have h : J7_fill_d0a16_a20_6b (fun v3 σ => J7_fill_d0a16_a20_6 k22 v1 v4 n v3 σ) k22 v1 v3 v4 σ = some σ' := h
      unfold J7_fill_d0a16_a20_6b at h
      have hk6 := ih
      refine lv_iload_n hx hb dJ7_fill_d0a16_6 rfl (lv_at hl 2 rfl) ?_
      refine lv_iload hx hb dJ7_fill_d0a16_7 (lv_at hl 3 rfl) ?_
      refine lv_icmp_ge (tgt := 22) hx hb dJ7_fill_d0a16_9 (by decide) (fun c1 => ?_) (fun c1 => ?_)
      · have h := it_p h c1
        exact hk22 σ _ _ _ hp (lv_sub hl [] rfl) h
      · have h := it_n h c1
        refine lv_aload_n hx hb dJ7_fill_d0a16_12 rfl (lv_at hl 0 rfl) ?_
        refine lv_iload_n hx hb dJ7_fill_d0a16_13 rfl (lv_at hl 2 rfl) ?_
        refine lv_lload_n hx hb dJ7_fill_d0a16_14 rfl (lv_at hl 1 rfl) ?_
        obtain ⟨g2, h⟩ := gd_s h
        refine sS_X4_frames X hp g2 dJ7_fill_d0a16_15 (fun H locs σ3 eσ3 hp => ?_)
        have h := nm_s h σ3 eσ3
        obtain ⟨x4, ex4⟩ : ∃ z : Int32, z = v3 + (1 : Int32) := ⟨_, rfl⟩
        have h := nm_s h x4 ex4
        refine lv_iinc (v := x4) (lv' := [(3, .int x4), (0, .ref (a 20)), (1, .long v1), (4, .int v4)]) hx hb dJ7_fill_d0a16_16 hl (k := 2) rfl (by rw [ex4]; rfl) (by decide) rfl (fun ls hl => ?_)
        refine lv_goto (tgt := 6) hx hb dJ7_fill_d0a16_19 (by decide) ?_
        exact hk6 x4 σ3 _ _ _ hp (lv_sub hl [1, 2, 0, 3] rfl) h
  have J_22 : ∀  (σ : St) (H : Heap) (locs : List Loc) (ls : Array Slot), Pw D (wS a cA) A s.heap H locs σ → lv_has ls 5 [] → J7_fill_d0a16_a20_22 σ = some σ' → W p l e R s m args below meth c H locs 0 0 Q (F0 m 22 ls []) := by
    intro σ H locs ls hp hl h
    unfold J7_fill_d0a16_a20_22 at h
    exact hR _ _ _ _ _ dJ7_fill_d0a16_22 hp (Option.some.inj h)
  unfold J7_fill_d0a16_a20 at h
  have hl := lv_sub (l' := [(0, .ref (a 20)), (1, .long v1)]) hl [0, 1] rfl
  refine lv_iconst (v := 0) hx hb dJ7_fill_d0a16_0 (by decide) ?_
  refine lv_istore_n (lv' := [(3, .int (0 : Int32)), (0, .ref (a 20)), (1, .long v1)]) hx hb dJ7_fill_d0a16_1 rfl hl (by decide) rfl (fun ls hl => ?_)
  refine lv_aload_n hx hb dJ7_fill_d0a16_2 rfl (lv_at hl 1 rfl) ?_
  refine nS_X4_frames X hp dJ7_fill_d0a16_3 ?_
  refine lv_istore (lv' := [(4, .int (70 : Int32)), (3, .int (0 : Int32)), (0, .ref (a 20)), (1, .long v1)]) hx hb dJ7_fill_d0a16_4 hl (by decide) rfl (fun ls hl => ?_)
  exact J_6 v1 (70 : Int32) _ (fun σ H locs ls hp hl h => J_22 σ _ _ _ hp hl h) _ (0 : Int32) σ _ _ _ hp (lv_sub hl [2, 3, 1, 0] rfl) h
def J7_fill_d0a16_a21_6b (k6 : (Int32 → St → Option (St))) (k22 : (St → Option (St))) (v1 : Int64) (v3 : Int32) (v4 : Int32) (σ : St) : Option (St) :=
  if v4 ≤ v3 then
    k22 σ
  else
    gd (inb v3 70) (
    nm (sb σ 6 v3.toNatClampNeg v1) (fun (σ3 : St) =>
    nm (v3 + (1 : Int32)) (fun (x4 : Int32) =>
    k6 x4 σ3)))
def J7_fill_d0a16_a21_6 (k22 : (St → Option (St))) (v1 : Int64) (v4 : Int32) : Nat → Int32 → St → Option (St)
  | 0, _, _ => none
  | n + 1, v3, σ => J7_fill_d0a16_a21_6b (fun v3 σ => J7_fill_d0a16_a21_6 k22 v1 v4 n v3 σ) k22 v1 v3 v4 σ
def J7_fill_d0a16_a21_22 (σ : St) : Option (St) :=
  some σ
def J7_fill_d0a16_a21 (N : Nat) (v1 : Int64) (σ : St) : Option (St) :=
  J7_fill_d0a16_a21_6 (fun σ => J7_fill_d0a16_a21_22 σ) v1 (70 : Int32) N (0 : Int32) σ
set_option maxRecDepth 20000 in
set_option maxHeartbeats 4000000 in
theorem c_J7_fill_d0a16_a21 {l : Launch} {D : va_G} {a : Nat → Nat} {cA : Nat → ClassId} {t : Nat} {F : (Nat → Prop) → State → Prop} (hF : EOK F) {σ : St} {N : Nat} {v1 : Int64} {σ' : St} (h : J7_fill_d0a16_a21 N v1 σ = some σ') : MetV l yJ7_fill_d0a16 cJ7_fill_d0a16 5 none 0 D (tyW cA) (wS a cA) (ES t F) [.ref (a 21), .long v1] σ σ' := by
  refine mkV (by decide) (adrS a cA) rfl (Nat.le_of_ble_eq_true rfl) ?_
  intro p e R s m args below meth c A Q ls X hR hp hl
  obtain ⟨hx, hb, -, hown, hts, -⟩ := id X
  have J_6 : ∀ (v1 : Int64) (v4 : Int32) (k22 : (St → Option (St))) (hk22 : ∀ (σ : St) (H : Heap) (locs : List Loc) (ls : Array Slot), Pw D (wS a cA) A s.heap H locs σ → lv_has ls 5 [] → k22 σ = some σ' → W p l e R s m args below meth c H locs 0 0 Q (F0 m 22 ls [])) (n : Nat) (v3 : Int32) (σ : St) (H : Heap) (locs : List Loc) (ls : Array Slot), Pw D (wS a cA) A s.heap H locs σ → lv_has ls 5 [(0, .ref (a 21)), (1, .long v1), (3, .int v3), (4, .int v4)] → J7_fill_d0a16_a21_6 k22 v1 v4 n v3 σ = some σ' → W p l e R s m args below meth c H locs 0 0 Q (F0 m 6 ls []) := by
    intro v1 v4 k22 hk22 n
    induction n with
    | zero => intro v3 σ H locs ls hp hl h; exact nn_s (show (none : Option (St)) = some _ from h)
    | succ n ih =>
      intro v3 σ H locs ls hp hl h
      have h : J7_fill_d0a16_a21_6b (fun v3 σ => J7_fill_d0a16_a21_6 k22 v1 v4 n v3 σ) k22 v1 v3 v4 σ = some σ' := h
      unfold J7_fill_d0a16_a21_6b at h
      have hk6 := ih
      refine lv_iload_n hx hb dJ7_fill_d0a16_6 rfl (lv_at hl 2 rfl) ?_
      refine lv_iload hx hb dJ7_fill_d0a16_7 (lv_at hl 3 rfl) ?_
      refine lv_icmp_ge (tgt := 22) hx hb dJ7_fill_d0a16_9 (by decide) (fun c1 => ?_) (fun c1 => ?_)
      · have h := it_p h c1
        exact hk22 σ _ _ _ hp (lv_sub hl [] rfl) h
      · have h := it_n h c1
        refine lv_aload_n hx hb dJ7_fill_d0a16_12 rfl (lv_at hl 0 rfl) ?_
        refine lv_iload_n hx hb dJ7_fill_d0a16_13 rfl (lv_at hl 2 rfl) ?_
        refine lv_lload_n hx hb dJ7_fill_d0a16_14 rfl (lv_at hl 1 rfl) ?_
        obtain ⟨g2, h⟩ := gd_s h
        refine sS_X4_obligations X hp g2 dJ7_fill_d0a16_15 (fun H locs σ3 eσ3 hp => ?_)
        have h := nm_s h σ3 eσ3
        obtain ⟨x4, ex4⟩ : ∃ z : Int32, z = v3 + (1 : Int32) := ⟨_, rfl⟩
        have h := nm_s h x4 ex4
        refine lv_iinc (v := x4) (lv' := [(3, .int x4), (0, .ref (a 21)), (1, .long v1), (4, .int v4)]) hx hb dJ7_fill_d0a16_16 hl (k := 2) rfl (by rw [ex4]; rfl) (by decide) rfl (fun ls hl => ?_)
        refine lv_goto (tgt := 6) hx hb dJ7_fill_d0a16_19 (by decide) ?_
        exact hk6 x4 σ3 _ _ _ hp (lv_sub hl [1, 2, 0, 3] rfl) h
  have J_22 : ∀  (σ : St) (H : Heap) (locs : List Loc) (ls : Array Slot), Pw D (wS a cA) A s.heap H locs σ → lv_has ls 5 [] → J7_fill_d0a16_a21_22 σ = some σ' → W p l e R s m args below meth c H locs 0 0 Q (F0 m 22 ls []) := by
    intro σ H locs ls hp hl h
    unfold J7_fill_d0a16_a21_22 at h
    exact hR _ _ _ _ _ dJ7_fill_d0a16_22 hp (Option.some.inj h)
  unfold J7_fill_d0a16_a21 at h
  have hl := lv_sub (l' := [(0, .ref (a 21)), (1, .long v1)]) hl [0, 1] rfl
  refine lv_iconst (v := 0) hx hb dJ7_fill_d0a16_0 (by decide) ?_
  refine lv_istore_n (lv' := [(3, .int (0 : Int32)), (0, .ref (a 21)), (1, .long v1)]) hx hb dJ7_fill_d0a16_1 rfl hl (by decide) rfl (fun ls hl => ?_)
  refine lv_aload_n hx hb dJ7_fill_d0a16_2 rfl (lv_at hl 1 rfl) ?_
  refine nS_X4_obligations X hp dJ7_fill_d0a16_3 ?_
  refine lv_istore (lv' := [(4, .int (70 : Int32)), (3, .int (0 : Int32)), (0, .ref (a 21)), (1, .long v1)]) hx hb dJ7_fill_d0a16_4 hl (by decide) rfl (fun ls hl => ?_)
  exact J_6 v1 (70 : Int32) _ (fun σ H locs ls hp hl h => J_22 σ _ _ _ hp hl h) _ (0 : Int32) σ _ _ _ hp (lv_sub hl [2, 3, 1, 0] rfl) h
def X4_forgetLast (N : Nat) (σ : St) : Option (St) :=
  nm (si σ 23 (0 : Int32)) (fun (σ1 : St) =>
  bd (J7_fill_d0a16_a20 N (0 : Int64) σ1) (fun t2 =>
  bd (J7_fill_d0a16_a21 N (0 : Int64) t2) (fun t3 =>
  bd (X0_initial t3) (fun t4 =>
  gd (inb (0 : Int32) 70) (
  nm (sb t3 5 (0 : Int32).toNatClampNeg t4) (fun (σ6 : St) =>
  nm (si σ6 15 (0 : Int32)) (fun (σ7 : St) =>
  nm (si σ7 16 (0 : Int32)) (fun (σ8 : St) =>
  nm (si σ8 17 (0 : Int32)) (fun (σ9 : St) =>
  nm (si σ9 18 (0 : Int32)) (fun (σ10 : St) =>
  nm (si σ10 19 (0 : Int32)) (fun (σ11 : St) =>
  nm (si σ11 20 (0 : Int32)) (fun (σ12 : St) =>
  nm (si σ12 21 (0 : Int32)) (fun (σ13 : St) =>
  some σ13)))))))))))))
set_option maxRecDepth 20000 in
set_option maxHeartbeats 4000000 in
theorem c_X4_forgetLast {l : Launch} {D : va_G} {a : Nat → Nat} {cA : Nat → ClassId} {t : Nat} {F : (Nat → Prop) → State → Prop} (hF : EOK F) {σ : St} {N : Nat} {σ' : St} (h : X4_forgetLast N σ = some σ') : MetV l yX4_forgetLast cX4_forgetLast 1 none 2 D (tyW cA) (wS a cA) (ES t F) [.ref (a 4)] σ σ' := by
  refine mkV (by decide) (adrS a cA) rfl (Nat.le_of_ble_eq_true rfl) ?_
  intro p e R s m args below meth c A Q ls X hR hp hl
  obtain ⟨hx, hb, -, hown, hts, -⟩ := id X
  unfold X4_forgetLast at h
  have hl := lv_sub (l' := [(0, .ref (a 4))]) hl [0] rfl
  refine lv_aload_n hx hb dX4_forgetLast_0 rfl (lv_at hl 0 rfl) ?_
  refine gS_X4_cubes X hp tw_4_16 dX4_forgetLast_1 ?_
  refine lv_iconst (v := 0) hx hb dX4_forgetLast_4 (by decide) ?_
  refine pS_X1_count X hp tw_35_6 dX4_forgetLast_5 (fun H locs σ1 eσ1 hp => ?_)
  have h := nm_s h σ1 eσ1
  refine lv_aload_n hx hb dX4_forgetLast_8 rfl (lv_at hl 0 rfl) ?_
  refine gS_X4_frames X hp tw_4_17 dX4_forgetLast_9 ?_
  refine lv_lconst (v := 0) hx hb dX4_forgetLast_12 (by decide) ?_
  obtain ⟨t2, ht2, h⟩ := bd_s h
  refine cl_Sv X (eokS hF) (c_J7_fill_d0a16_a20 hF ht2) tw_35_13 mw_J7_fill_d0a16 (by decide) hp hl.1 rfl (Nat.le_of_ble_eq_true rfl) dX4_forgetLast_13 (fun H locs hp => ?_)
  refine lv_aload_n hx hb dX4_forgetLast_16 rfl (lv_at hl 0 rfl) ?_
  refine gS_X4_obligations X hp tw_4_18 dX4_forgetLast_17 ?_
  refine lv_lconst (v := 0) hx hb dX4_forgetLast_20 (by decide) ?_
  obtain ⟨t3, ht3, h⟩ := bd_s h
  refine cl_Sv X (eokS hF) (c_J7_fill_d0a16_a21 hF ht3) tw_35_13 mw_J7_fill_d0a16 (by decide) hp hl.1 rfl (Nat.le_of_ble_eq_true rfl) dX4_forgetLast_21 (fun H locs hp => ?_)
  refine lv_aload_n hx hb dX4_forgetLast_24 rfl (lv_at hl 0 rfl) ?_
  refine gS_X4_frames X hp tw_4_17 dX4_forgetLast_25 ?_
  refine lv_iconst (v := 0) hx hb dX4_forgetLast_28 (by decide) ?_
  refine lv_aload_n hx hb dX4_forgetLast_29 rfl (lv_at hl 0 rfl) ?_
  refine gS_X4_circuit X hp tw_4_12 dX4_forgetLast_30 ?_
  obtain ⟨t4, ht4, h⟩ := bd_s h
  refine cl_Vl X (eokS hF) (c_X0_initial hF ht4) tw_35_14 mw_X0_initial (by decide) hp 2 rfl rfl rfl hl.1 rfl (Nat.le_of_ble_eq_true rfl) dX4_forgetLast_33 (fun H locs hp => ?_)
  obtain ⟨g5, h⟩ := gd_s h
  refine sS_X4_frames X hp g5 dX4_forgetLast_36 (fun H locs σ6 eσ6 hp => ?_)
  have h := nm_s h σ6 eσ6
  refine lv_aload_n hx hb dX4_forgetLast_37 rfl (lv_at hl 0 rfl) ?_
  refine lv_iconst (v := 0) hx hb dX4_forgetLast_38 (by decide) ?_
  refine pS_X4_verdict X hp tw_35_1 dX4_forgetLast_39 (fun H locs σ7 eσ7 hp => ?_)
  have h := nm_s h σ7 eσ7
  refine lv_aload_n hx hb dX4_forgetLast_42 rfl (lv_at hl 0 rfl) ?_
  refine lv_iconst (v := 0) hx hb dX4_forgetLast_43 (by decide) ?_
  refine pS_X4_top X hp tw_35_7 dX4_forgetLast_44 (fun H locs σ8 eσ8 hp => ?_)
  have h := nm_s h σ8 eσ8
  refine lv_aload_n hx hb dX4_forgetLast_47 rfl (lv_at hl 0 rfl) ?_
  refine lv_iconst (v := 0) hx hb dX4_forgetLast_48 (by decide) ?_
  refine pS_X4_handled X hp tw_35_8 dX4_forgetLast_49 (fun H locs σ9 eσ9 hp => ?_)
  have h := nm_s h σ9 eσ9
  refine lv_aload_n hx hb dX4_forgetLast_52 rfl (lv_at hl 0 rfl) ?_
  refine lv_iconst (v := 0) hx hb dX4_forgetLast_53 (by decide) ?_
  refine pS_X4_added X hp tw_35_9 dX4_forgetLast_54 (fun H locs σ10 eσ10 hp => ?_)
  have h := nm_s h σ10 eσ10
  refine lv_aload_n hx hb dX4_forgetLast_57 rfl (lv_at hl 0 rfl) ?_
  refine lv_iconst (v := 0) hx hb dX4_forgetLast_58 (by decide) ?_
  refine pS_X4_leftOut X hp tw_35_10 dX4_forgetLast_59 (fun H locs σ11 eσ11 hp => ?_)
  have h := nm_s h σ11 eσ11
  refine lv_aload_n hx hb dX4_forgetLast_62 rfl (lv_at hl 0 rfl) ?_
  refine lv_iconst (v := 0) hx hb dX4_forgetLast_63 (by decide) ?_
  refine pS_X4_raised X hp tw_35_11 dX4_forgetLast_64 (fun H locs σ12 eσ12 hp => ?_)
  have h := nm_s h σ12 eσ12
  refine lv_aload_n hx hb dX4_forgetLast_67 rfl (lv_at hl 0 rfl) ?_
  refine lv_iconst (v := 0) hx hb dX4_forgetLast_68 (by decide) ?_
  refine pS_X4_certificateBase X hp tw_35_12 dX4_forgetLast_69 (fun H locs σ13 eσ13 hp => ?_)
  have h := nm_s h σ13 eσ13
  exact hR _ _ _ _ _ dX4_forgetLast_72 hp (Option.some.inj h)
def X4_openFrame (σ : St) : Option (St) :=
  if (σ.1 16) < 0 then
    some σ
  else
    if (70 : Int32) ≤ ((σ.1 16) + (1 : Int32)) then
      some σ
    else
      nm (si σ 16 ((σ.1 16) + (1 : Int32))) (fun (σ3 : St) =>
      gd (inb (σ3.1 16) 70) (
      nm (sb σ3 5 (σ3.1 16).toNatClampNeg (σ3.2.1 0)) (fun (σ5 : St) =>
      some σ5)))
set_option maxRecDepth 20000 in
set_option maxHeartbeats 4000000 in
theorem c_X4_openFrame {l : Launch} {D : va_G} {a : Nat → Nat} {cA : Nat → ClassId} {t : Nat} {F : (Nat → Prop) → State → Prop} (hF : EOK F) {σ : St} {σ' : St} (h : X4_openFrame σ = some σ') : MetV l yX4_openFrame cX4_openFrame 1 none 0 D (tyW cA) (wS a cA) (ES t F) [.ref (a 4)] σ σ' := by
  refine mkV (by decide) (adrS a cA) rfl (Nat.le_of_ble_eq_true rfl) ?_
  intro p e R s m args below meth c A Q ls X hR hp hl
  obtain ⟨hx, hb, -, hown, hts, -⟩ := id X
  unfold X4_openFrame at h
  have hl := lv_sub (l' := [(0, .ref (a 4))]) hl [0] rfl
  refine lv_aload_n hx hb dX4_openFrame_0 rfl (lv_at hl 0 rfl) ?_
  refine gS_X4_top X hp tw_35_7 dX4_openFrame_1 ?_
  refine lv_if_lt (tgt := 44) hx hb dX4_openFrame_4 (by decide) (fun c1 => ?_) (fun c1 => ?_)
  · have h := it_p h c1
    exact hR _ _ _ _ _ dX4_openFrame_44 hp (Option.some.inj h)
  · have h := it_n h c1
    refine lv_aload_n hx hb dX4_openFrame_7 rfl (lv_at hl 0 rfl) ?_
    refine gS_X4_top X hp tw_35_7 dX4_openFrame_8 ?_
    refine lv_iconst (v := 1) hx hb dX4_openFrame_11 (by decide) ?_
    refine lv_iadd hx hb dX4_openFrame_12 ?_
    refine lv_bipush (v := 70) hx hb dX4_openFrame_13 (by decide) ?_
    refine lv_icmp_ge (tgt := 44) hx hb dX4_openFrame_15 (by decide) (fun c2 => ?_) (fun c2 => ?_)
    · have h := it_p h c2
      exact hR _ _ _ _ _ dX4_openFrame_44 hp (Option.some.inj h)
    · have h := it_n h c2
      refine lv_aload_n hx hb dX4_openFrame_18 rfl (lv_at hl 0 rfl) ?_
      refine lv_dup hx hb dX4_openFrame_19 rfl ?_
      refine gS_X4_top X hp tw_35_7 dX4_openFrame_20 ?_
      refine lv_iconst (v := 1) hx hb dX4_openFrame_23 (by decide) ?_
      refine lv_iadd hx hb dX4_openFrame_24 ?_
      refine pS_X4_top X hp tw_35_7 dX4_openFrame_25 (fun H locs σ3 eσ3 hp => ?_)
      have h := nm_s h σ3 eσ3
      refine lv_aload_n hx hb dX4_openFrame_28 rfl (lv_at hl 0 rfl) ?_
      refine gS_X4_frames X hp tw_4_17 dX4_openFrame_29 ?_
      refine lv_aload_n hx hb dX4_openFrame_32 rfl (lv_at hl 0 rfl) ?_
      refine gS_X4_top X hp tw_35_7 dX4_openFrame_33 ?_
      refine lv_aload_n hx hb dX4_openFrame_36 rfl (lv_at hl 0 rfl) ?_
      refine gS_X4_circuit X hp tw_4_12 dX4_openFrame_37 ?_
      refine gS_X0_all X hp tw_35_20 dX4_openFrame_40 ?_
      obtain ⟨g4, h⟩ := gd_s h
      refine sS_X4_frames X hp g4 dX4_openFrame_43 (fun H locs σ5 eσ5 hp => ?_)
      have h := nm_s h σ5 eσ5
      exact hR _ _ _ _ _ dX4_openFrame_44 hp (Option.some.inj h)
def X4_lowestObliged_2b (k2 : (Int32 → Option (Int32))) (k27 : (Int32 → Option (Int32))) (k35 : (Option (Int32))) (σ : St) (v1 : Int32) : Option (Int32) :=
  if (σ.1 16) < v1 then
    k35
  else
    if (70 : Int32) ≤ v1 then
      k35
    else
      gd (inb v1 70) (
      if (σ.2.2.2 6 v1.toNatClampNeg) = (0 : Int64) then
        nm (v1 + (1 : Int32)) (fun (x5 : Int32) =>
        k2 x5)
      else
        k27 v1)
def X4_lowestObliged_2 (k27 : (Int32 → Option (Int32))) (k35 : (Option (Int32))) (σ : St) : Nat → Int32 → Option (Int32)
  | 0, _ => none
  | n + 1, v1 => X4_lowestObliged_2b (fun v1 => X4_lowestObliged_2 k27 k35 σ n v1) k27 k35 σ v1
def X4_lowestObliged_35 (σ : St) : Option (Int32) :=
  some (-1 : Int32)
def X4_lowestObliged_27 (σ : St) (v1 : Int32) : Option (Int32) :=
  some v1
def X4_lowestObliged (N : Nat) (σ : St) : Option (Int32) :=
  X4_lowestObliged_2 (fun v1 => X4_lowestObliged_27 σ v1) (X4_lowestObliged_35 σ) σ N (0 : Int32)
set_option maxRecDepth 20000 in
set_option maxHeartbeats 4000000 in
theorem c_X4_lowestObliged {l : Launch} {D : va_G} {a : Nat → Nat} {cA : Nat → ClassId} {t : Nat} {F : (Nat → Prop) → State → Prop} (hF : EOK F) {σ : St} {N : Nat} {r : Int32} (h : X4_lowestObliged N σ = some r) : MetI l yX4_lowestObliged cX4_lowestObliged 2 (some .int) 0 D (tyW cA) (wS a cA) (ES t F) [.ref (a 4)] σ r σ := by
  refine mkI (by decide) (adrS a cA) (Or.inl rfl) (Nat.le_of_ble_eq_true rfl) ?_
  intro p e R s m args below meth c A Q ls X hR hp hl
  obtain ⟨hx, hb, -, hown, hts, -⟩ := id X
  have J_2 : ∀  (k27 : (Int32 → Option (Int32))) (hk27 : ∀ (v1 : Int32) (H : Heap) (locs : List Loc) (ls : Array Slot), Pw D (wS a cA) A s.heap H locs σ → lv_has ls 2 [(0, .ref (a 4)), (1, .int v1)] → k27 v1 = some r → W p l e R s m args below meth c H locs 0 0 Q (F0 m 27 ls [])) (k35 : (Option (Int32))) (hk35 : ∀ (H : Heap) (locs : List Loc) (ls : Array Slot), Pw D (wS a cA) A s.heap H locs σ → lv_has ls 2 [(0, .ref (a 4))] → k35 = some r → W p l e R s m args below meth c H locs 0 0 Q (F0 m 35 ls [])) (n : Nat) (v1 : Int32) (H : Heap) (locs : List Loc) (ls : Array Slot), Pw D (wS a cA) A s.heap H locs σ → lv_has ls 2 [(0, .ref (a 4)), (1, .int v1)] → X4_lowestObliged_2 k27 k35 σ n v1 = some r → W p l e R s m args below meth c H locs 0 0 Q (F0 m 2 ls []) := by
    intro k27 hk27 k35 hk35 n
    induction n with
    | zero => intro v1 H locs ls hp hl h; exact nn_s (show (none : Option (Int32)) = some _ from h)
    | succ n ih =>
      intro v1 H locs ls hp hl h
      have h : X4_lowestObliged_2b (fun v1 => X4_lowestObliged_2 k27 k35 σ n v1) k27 k35 σ v1 = some r := h
      unfold X4_lowestObliged_2b at h
      have hk2 := ih
      refine lv_iload_n hx hb dX4_lowestObliged_2 rfl (lv_at hl 1 rfl) ?_
      refine lv_aload_n hx hb dX4_lowestObliged_3 rfl (lv_at hl 0 rfl) ?_
      refine gS_X4_top X hp tw_35_7 dX4_lowestObliged_4 ?_
      refine lv_icmp_gt (tgt := 35) hx hb dX4_lowestObliged_7 (by decide) (fun c1 => ?_) (fun c1 => ?_)
      · have h := it_p h c1
        exact hk35 _ _ _ hp (lv_sub hl [0] rfl) h
      · have h := it_n h c1
        refine lv_iload_n hx hb dX4_lowestObliged_10 rfl (lv_at hl 1 rfl) ?_
        refine lv_bipush (v := 70) hx hb dX4_lowestObliged_11 (by decide) ?_
        refine lv_icmp_ge (tgt := 35) hx hb dX4_lowestObliged_13 (by decide) (fun c2 => ?_) (fun c2 => ?_)
        · have h := it_p h c2
          exact hk35 _ _ _ hp (lv_sub hl [0] rfl) h
        · have h := it_n h c2
          refine lv_aload_n hx hb dX4_lowestObliged_16 rfl (lv_at hl 0 rfl) ?_
          refine gS_X4_obligations X hp tw_4_18 dX4_lowestObliged_17 ?_
          refine lv_iload_n hx hb dX4_lowestObliged_20 rfl (lv_at hl 1 rfl) ?_
          obtain ⟨g3, h⟩ := gd_s h
          refine lS_X4_obligations X hp g3 dX4_lowestObliged_21 ?_
          refine lv_lconst (v := 0) hx hb dX4_lowestObliged_22 (by decide) ?_
          refine W.lcmp hx hb dX4_lowestObliged_23 ?_
          refine lv_if_eq (tgt := 29) hx hb dX4_lowestObliged_24 (by decide) (fun c4 => ?_) (fun c4 => ?_)
          · have h := it_p h (lcmp0.mp c4)
            obtain ⟨x5, ex5⟩ : ∃ z : Int32, z = v1 + (1 : Int32) := ⟨_, rfl⟩
            have h := nm_s h x5 ex5
            refine lv_iinc (v := x5) (lv' := [(1, .int x5), (0, .ref (a 4))]) hx hb dX4_lowestObliged_29 hl (k := 1) rfl (by rw [ex5]; rfl) (by decide) rfl (fun ls hl => ?_)
            refine lv_goto (tgt := 2) hx hb dX4_lowestObliged_32 (by decide) ?_
            exact hk2 x5 _ _ _ hp (lv_sub hl [1, 0] rfl) h
          · have h := it_n h (fun q => c4 (lcmp0.mpr q))
            exact hk27 v1 _ _ _ hp (lv_sub hl [0, 1] rfl) h
  have J_35 : ∀  (H : Heap) (locs : List Loc) (ls : Array Slot), Pw D (wS a cA) A s.heap H locs σ → lv_has ls 2 [(0, .ref (a 4))] → X4_lowestObliged_35 σ = some r → W p l e R s m args below meth c H locs 0 0 Q (F0 m 35 ls []) := by
    intro H locs ls hp hl h
    unfold X4_lowestObliged_35 at h
    refine lv_iconst (v := -1) hx hb dX4_lowestObliged_35 (by decide) ?_
    exact hR _ _ _ _ _ _ dX4_lowestObliged_36 hp (Option.some.inj h) rfl (fun q => by cases q)
  have J_27 : ∀ (v1 : Int32) (H : Heap) (locs : List Loc) (ls : Array Slot), Pw D (wS a cA) A s.heap H locs σ → lv_has ls 2 [(0, .ref (a 4)), (1, .int v1)] → X4_lowestObliged_27 σ v1 = some r → W p l e R s m args below meth c H locs 0 0 Q (F0 m 27 ls []) := by
    intro v1 H locs ls hp hl h
    unfold X4_lowestObliged_27 at h
    refine lv_iload_n hx hb dX4_lowestObliged_27 rfl (lv_at hl 1 rfl) ?_
    exact hR _ _ _ _ _ _ dX4_lowestObliged_28 hp (Option.some.inj h) rfl (fun q => by cases q)
  unfold X4_lowestObliged at h
  have hl := lv_sub (l' := [(0, .ref (a 4))]) hl [0] rfl
  refine lv_iconst (v := 0) hx hb dX4_lowestObliged_0 (by decide) ?_
  refine lv_istore_n (lv' := [(1, .int (0 : Int32)), (0, .ref (a 4))]) hx hb dX4_lowestObliged_1 rfl hl (by decide) rfl (fun ls hl => ?_)
  exact J_2 _ (fun v1 H locs ls hp hl h => J_27 v1 _ _ _ hp hl h) _ (fun H locs ls hp hl h => J_35 _ _ _ hp hl h) _ (0 : Int32) _ _ _ hp (lv_sub hl [1, 0] rfl) h
def X4_frameAt (σ : St) (v1 : Int32) : Option (Int64) :=
  if v1 < 0 then
    some (0 : Int64)
  else
    if (70 : Int32) ≤ v1 then
      some (0 : Int64)
    else
      gd (inb v1 70) (
      some (σ.2.2.2 5 v1.toNatClampNeg))
set_option maxRecDepth 20000 in
set_option maxHeartbeats 4000000 in
theorem c_X4_frameAt {l : Launch} {D : va_G} {a : Nat → Nat} {cA : Nat → ClassId} {t : Nat} {F : (Nat → Prop) → State → Prop} (hF : EOK F) {σ : St} {v1 : Int32} {r : Int64} (h : X4_frameAt σ v1 = some r) : MetL l yX4_frameAt cX4_frameAt 2 (some .long) 0 D (tyW cA) (wS a cA) (ES t F) [.ref (a 4), .int v1] σ r σ := by
  refine mkL (by decide) (adrS a cA) rfl (Nat.le_of_ble_eq_true rfl) ?_
  intro p e R s m args below meth c A Q ls X hR hp hl
  obtain ⟨hx, hb, -, hown, hts, -⟩ := id X
  unfold X4_frameAt at h
  have hl := lv_sub (l' := [(0, .ref (a 4)), (1, .int v1)]) hl [0, 1] rfl
  refine lv_iload_n hx hb dX4_frameAt_0 rfl (lv_at hl 1 rfl) ?_
  refine lv_if_lt (tgt := 19) hx hb dX4_frameAt_1 (by decide) (fun c1 => ?_) (fun c1 => ?_)
  · have h := it_p h c1
    refine lv_lconst (v := 0) hx hb dX4_frameAt_19 (by decide) ?_
    exact hR _ _ _ _ _ _ dX4_frameAt_20 hp (Option.some.inj h) rfl
  · have h := it_n h c1
    refine lv_iload_n hx hb dX4_frameAt_4 rfl (lv_at hl 1 rfl) ?_
    refine lv_bipush (v := 70) hx hb dX4_frameAt_5 (by decide) ?_
    refine lv_icmp_ge (tgt := 19) hx hb dX4_frameAt_7 (by decide) (fun c2 => ?_) (fun c2 => ?_)
    · have h := it_p h c2
      refine lv_lconst (v := 0) hx hb dX4_frameAt_19 (by decide) ?_
      exact hR _ _ _ _ _ _ dX4_frameAt_20 hp (Option.some.inj h) rfl
    · have h := it_n h c2
      refine lv_aload_n hx hb dX4_frameAt_10 rfl (lv_at hl 0 rfl) ?_
      refine gS_X4_frames X hp tw_4_17 dX4_frameAt_11 ?_
      refine lv_iload_n hx hb dX4_frameAt_14 rfl (lv_at hl 1 rfl) ?_
      obtain ⟨g3, h⟩ := gd_s h
      refine lS_X4_frames X hp g3 dX4_frameAt_15 ?_
      refine lv_goto (tgt := 20) hx hb dX4_frameAt_16 (by decide) ?_
      exact hR _ _ _ _ _ _ dX4_frameAt_20 hp (Option.some.inj h) rfl
def X4_oblige (v1 : Int32) (v2 : Int32) (σ : St) : Option (St) :=
  if v2 < 0 then
    some σ
  else
    if (70 : Int32) ≤ v2 then
      some σ
    else
      gd (inb v2 70) (
      gd (inb v2 70) (
      nm (sb σ 6 v2.toNatClampNeg ((σ.2.2.2 6 v2.toNatClampNeg) ||| ((1 : Int64) <<< (v1.toInt64 &&& 63)))) (fun (σ5 : St) =>
      some σ5)))
set_option maxRecDepth 20000 in
set_option maxHeartbeats 4000000 in
theorem c_X4_oblige {l : Launch} {D : va_G} {a : Nat → Nat} {cA : Nat → ClassId} {t : Nat} {F : (Nat → Prop) → State → Prop} (hF : EOK F) {σ : St} {v1 : Int32} {v2 : Int32} {σ' : St} (h : X4_oblige v1 v2 σ = some σ') : MetV l yX4_oblige cX4_oblige 3 none 0 D (tyW cA) (wS a cA) (ES t F) [.ref (a 4), .int v1, .int v2] σ σ' := by
  refine mkV (by decide) (adrS a cA) rfl (Nat.le_of_ble_eq_true rfl) ?_
  intro p e R s m args below meth c A Q ls X hR hp hl
  obtain ⟨hx, hb, -, hown, hts, -⟩ := id X
  unfold X4_oblige at h
  have hl := lv_sub (l' := [(0, .ref (a 4)), (1, .int v1), (2, .int v2)]) hl [0, 1, 2] rfl
  refine lv_iload_n hx hb dX4_oblige_0 rfl (lv_at hl 2 rfl) ?_
  refine lv_if_lt (tgt := 22) hx hb dX4_oblige_1 (by decide) (fun c1 => ?_) (fun c1 => ?_)
  · have h := it_p h c1
    exact hR _ _ _ _ _ dX4_oblige_22 hp (Option.some.inj h)
  · have h := it_n h c1
    refine lv_iload_n hx hb dX4_oblige_4 rfl (lv_at hl 2 rfl) ?_
    refine lv_bipush (v := 70) hx hb dX4_oblige_5 (by decide) ?_
    refine lv_icmp_ge (tgt := 22) hx hb dX4_oblige_7 (by decide) (fun c2 => ?_) (fun c2 => ?_)
    · have h := it_p h c2
      exact hR _ _ _ _ _ dX4_oblige_22 hp (Option.some.inj h)
    · have h := it_n h c2
      refine lv_aload_n hx hb dX4_oblige_10 rfl (lv_at hl 0 rfl) ?_
      refine gS_X4_obligations X hp tw_4_18 dX4_oblige_11 ?_
      refine lv_iload_n hx hb dX4_oblige_14 rfl (lv_at hl 2 rfl) ?_
      refine lv_dup2_11 hx hb dX4_oblige_15 rfl rfl ?_
      obtain ⟨g3, h⟩ := gd_s h
      refine lS_X4_obligations X hp g3 dX4_oblige_16 ?_
      refine lv_lconst (v := 1) hx hb dX4_oblige_17 (by decide) ?_
      refine lv_iload_n hx hb dX4_oblige_18 rfl (lv_at hl 1 rfl) ?_
      refine lv_lshl hx hb dX4_oblige_19 rfl ?_
      refine lv_lor hx hb dX4_oblige_20 ?_
      obtain ⟨g4, h⟩ := gd_s h
      refine sS_X4_obligations X hp g4 dX4_oblige_21 (fun H locs σ5 eσ5 hp => ?_)
      have h := nm_s h σ5 eσ5
      exact hR _ _ _ _ _ dX4_oblige_22 hp (Option.some.inj h)
def X4_obligedAt (σ : St) (v1 : Int32) : Option (Int64) :=
  if v1 < 0 then
    some (0 : Int64)
  else
    if (70 : Int32) ≤ v1 then
      some (0 : Int64)
    else
      gd (inb v1 70) (
      some (σ.2.2.2 6 v1.toNatClampNeg))
set_option maxRecDepth 20000 in
set_option maxHeartbeats 4000000 in
theorem c_X4_obligedAt {l : Launch} {D : va_G} {a : Nat → Nat} {cA : Nat → ClassId} {t : Nat} {F : (Nat → Prop) → State → Prop} (hF : EOK F) {σ : St} {v1 : Int32} {r : Int64} (h : X4_obligedAt σ v1 = some r) : MetL l yX4_obligedAt cX4_obligedAt 2 (some .long) 0 D (tyW cA) (wS a cA) (ES t F) [.ref (a 4), .int v1] σ r σ := by
  refine mkL (by decide) (adrS a cA) rfl (Nat.le_of_ble_eq_true rfl) ?_
  intro p e R s m args below meth c A Q ls X hR hp hl
  obtain ⟨hx, hb, -, hown, hts, -⟩ := id X
  unfold X4_obligedAt at h
  have hl := lv_sub (l' := [(0, .ref (a 4)), (1, .int v1)]) hl [0, 1] rfl
  refine lv_iload_n hx hb dX4_obligedAt_0 rfl (lv_at hl 1 rfl) ?_
  refine lv_if_lt (tgt := 19) hx hb dX4_obligedAt_1 (by decide) (fun c1 => ?_) (fun c1 => ?_)
  · have h := it_p h c1
    refine lv_lconst (v := 0) hx hb dX4_obligedAt_19 (by decide) ?_
    exact hR _ _ _ _ _ _ dX4_obligedAt_20 hp (Option.some.inj h) rfl
  · have h := it_n h c1
    refine lv_iload_n hx hb dX4_obligedAt_4 rfl (lv_at hl 1 rfl) ?_
    refine lv_bipush (v := 70) hx hb dX4_obligedAt_5 (by decide) ?_
    refine lv_icmp_ge (tgt := 19) hx hb dX4_obligedAt_7 (by decide) (fun c2 => ?_) (fun c2 => ?_)
    · have h := it_p h c2
      refine lv_lconst (v := 0) hx hb dX4_obligedAt_19 (by decide) ?_
      exact hR _ _ _ _ _ _ dX4_obligedAt_20 hp (Option.some.inj h) rfl
    · have h := it_n h c2
      refine lv_aload_n hx hb dX4_obligedAt_10 rfl (lv_at hl 0 rfl) ?_
      refine gS_X4_obligations X hp tw_4_18 dX4_obligedAt_11 ?_
      refine lv_iload_n hx hb dX4_obligedAt_14 rfl (lv_at hl 1 rfl) ?_
      obtain ⟨g3, h⟩ := gd_s h
      refine lS_X4_obligations X hp g3 dX4_obligedAt_15 ?_
      refine lv_goto (tgt := 20) hx hb dX4_obligedAt_16 (by decide) ?_
      exact hR _ _ _ _ _ _ dX4_obligedAt_20 hp (Option.some.inj h) rfl
def X4_moveUp_26 (v1 : Int32) (v2 : Int32) (σ : St) : Option (St) :=
  if (σ.1 16) ≤ v2 then
    some σ
  else
    bd (X4_oblige v1 (v2 + (1 : Int32)) σ) (fun t2 =>
    some t2)
def X4_moveUp (v1 : Int32) (v2 : Int32) (σ : St) : Option (St) :=
  if v2 < 0 then
    X4_moveUp_26 v1 v2 σ
  else
    if (70 : Int32) ≤ v2 then
      X4_moveUp_26 v1 v2 σ
    else
      gd (inb v2 70) (
      gd (inb v2 70) (
      nm (sb σ 6 v2.toNatClampNeg ((σ.2.2.2 6 v2.toNatClampNeg) &&& (((1 : Int64) <<< (v1.toInt64 &&& 63)) ^^^ (-1 : Int64)))) (fun (σ5 : St) =>
      X4_moveUp_26 v1 v2 σ5)))
set_option maxRecDepth 20000 in
set_option maxHeartbeats 4000000 in
theorem c_X4_moveUp {l : Launch} {D : va_G} {a : Nat → Nat} {cA : Nat → ClassId} {t : Nat} {F : (Nat → Prop) → State → Prop} (hF : EOK F) {σ : St} {v1 : Int32} {v2 : Int32} {σ' : St} (h : X4_moveUp v1 v2 σ = some σ') : MetV l yX4_moveUp cX4_moveUp 3 none 1 D (tyW cA) (wS a cA) (ES t F) [.ref (a 4), .int v1, .int v2] σ σ' := by
  refine mkV (by decide) (adrS a cA) rfl (Nat.le_of_ble_eq_true rfl) ?_
  intro p e R s m args below meth c A Q ls X hR hp hl
  obtain ⟨hx, hb, -, hown, hts, -⟩ := id X
  have J_26 : ∀ (v1 : Int32) (v2 : Int32) (σ : St) (H : Heap) (locs : List Loc) (ls : Array Slot), Pw D (wS a cA) A s.heap H locs σ → lv_has ls 3 [(0, .ref (a 4)), (1, .int v1), (2, .int v2)] → X4_moveUp_26 v1 v2 σ = some σ' → W p l e R s m args below meth c H locs 0 0 Q (F0 m 26 ls []) := by
    intro v1 v2 σ H locs ls hp hl h
    unfold X4_moveUp_26 at h
    refine lv_iload_n hx hb dX4_moveUp_26 rfl (lv_at hl 2 rfl) ?_
    refine lv_aload_n hx hb dX4_moveUp_27 rfl (lv_at hl 0 rfl) ?_
    refine gS_X4_top X hp tw_35_7 dX4_moveUp_28 ?_
    refine lv_icmp_ge (tgt := 42) hx hb dX4_moveUp_31 (by decide) (fun c1 => ?_) (fun c1 => ?_)
    · have h := it_p h c1
      exact hR _ _ _ _ _ dX4_moveUp_42 hp (Option.some.inj h)
    · have h := it_n h c1
      refine lv_aload_n hx hb dX4_moveUp_34 rfl (lv_at hl 0 rfl) ?_
      refine lv_iload_n hx hb dX4_moveUp_35 rfl (lv_at hl 1 rfl) ?_
      refine lv_iload_n hx hb dX4_moveUp_36 rfl (lv_at hl 2 rfl) ?_
      refine lv_iconst (v := 1) hx hb dX4_moveUp_37 (by decide) ?_
      refine lv_iadd hx hb dX4_moveUp_38 ?_
      obtain ⟨t2, ht2, h⟩ := bd_s h
      refine cl_Vv X (eokS hF) (c_X4_oblige hF ht2) tw_36_10 mw_X4_oblige (by decide) hp 4 rfl rfl rfl hl.1 rfl (Nat.le_of_ble_eq_true rfl) dX4_moveUp_39 (fun H locs hp => ?_)
      exact hR _ _ _ _ _ dX4_moveUp_42 hp (Option.some.inj h)
  unfold X4_moveUp at h
  have hl := lv_sub (l' := [(0, .ref (a 4)), (1, .int v1), (2, .int v2)]) hl [0, 1, 2] rfl
  refine lv_iload_n hx hb dX4_moveUp_0 rfl (lv_at hl 2 rfl) ?_
  refine lv_if_lt (tgt := 26) hx hb dX4_moveUp_1 (by decide) (fun c1 => ?_) (fun c1 => ?_)
  · have h := it_p h c1
    exact J_26 v1 v2 σ _ _ _ hp (lv_sub hl [0, 1, 2] rfl) h
  · have h := it_n h c1
    refine lv_iload_n hx hb dX4_moveUp_4 rfl (lv_at hl 2 rfl) ?_
    refine lv_bipush (v := 70) hx hb dX4_moveUp_5 (by decide) ?_
    refine lv_icmp_ge (tgt := 26) hx hb dX4_moveUp_7 (by decide) (fun c2 => ?_) (fun c2 => ?_)
    · have h := it_p h c2
      exact J_26 v1 v2 σ _ _ _ hp (lv_sub hl [0, 1, 2] rfl) h
    · have h := it_n h c2
      refine lv_aload_n hx hb dX4_moveUp_10 rfl (lv_at hl 0 rfl) ?_
      refine gS_X4_obligations X hp tw_4_18 dX4_moveUp_11 ?_
      refine lv_iload_n hx hb dX4_moveUp_14 rfl (lv_at hl 2 rfl) ?_
      refine lv_dup2_11 hx hb dX4_moveUp_15 rfl rfl ?_
      obtain ⟨g3, h⟩ := gd_s h
      refine lS_X4_obligations X hp g3 dX4_moveUp_16 ?_
      refine lv_lconst (v := 1) hx hb dX4_moveUp_17 (by decide) ?_
      refine lv_iload_n hx hb dX4_moveUp_18 rfl (lv_at hl 1 rfl) ?_
      refine lv_lshl hx hb dX4_moveUp_19 rfl ?_
      refine lv_ldc2 hx hb hown (hts _ tw_36_23) dX4_moveUp_20 ?_
      refine lv_lxor hx hb dX4_moveUp_23 ?_
      refine lv_land hx hb dX4_moveUp_24 ?_
      obtain ⟨g4, h⟩ := gd_s h
      refine sS_X4_obligations X hp g4 dX4_moveUp_25 (fun H locs σ5 eσ5 hp => ?_)
      have h := nm_s h σ5 eσ5
      exact J_26 v1 v2 σ5 _ _ _ hp (lv_sub hl [0, 1, 2] rfl) h
def X0_predecessorsOfCube_29b (k29 : (Int64 → Int32 → Option (Int64))) (k99 : (Int64 → Int32 → Int64 → Option (Int64))) (σ : St) (v1 : Int32) (v2 : Int32) (v3 : Int64) (v5 : Int32) (v6 : Int64) (v8 : Int32) : Option (Int64) :=
  if (σ.1 5) ≤ v8 then
    k99 v3 v5 v6
  else
    if (6 : Int32) ≤ v8 then
      k99 v3 v5 v6
    else
      if ((v1 >>> (v8 &&& 31)) &&& (1 : Int32)) = 0 then
        nm (v8 + (1 : Int32)) (fun (x4 : Int32) =>
        k29 v6 x4)
      else
        gd (inb ((v8 * (4 : Int32)) + v5) 32) (
        nm (σ.2.2.2 1 ((v8 * (4 : Int32)) + v5).toNatClampNeg) (fun (x6 : Int64) =>
        if ((v2 >>> (v8 &&& 31)) &&& (1 : Int32)) = 0 then
          nm (v6 &&& (x6 ^^^ (-1 : Int64))) (fun (x8 : Int64) =>
          nm (v8 + (1 : Int32)) (fun (x9 : Int32) =>
          k29 x8 x9))
        else
          nm (v6 &&& x6) (fun (x10 : Int64) =>
          nm (v8 + (1 : Int32)) (fun (x11 : Int32) =>
          k29 x10 x11))))
def X0_predecessorsOfCube_29 (k99 : (Int64 → Int32 → Int64 → Option (Int64))) (σ : St) (v1 : Int32) (v2 : Int32) (v3 : Int64) (v5 : Int32) : Nat → Int64 → Int32 → Option (Int64)
  | 0, _, _ => none
  | n + 1, v6, v8 => X0_predecessorsOfCube_29b (fun v6 v8 => X0_predecessorsOfCube_29 k99 σ v1 v2 v3 v5 n v6 v8) k99 σ v1 v2 v3 v5 v6 v8
def X0_predecessorsOfCube_99 (k5 : (Int64 → Int32 → Option (Int64))) (σ : St) (v1 : Int32) (v2 : Int32) (v3 : Int64) (v5 : Int32) (v6 : Int64) : Option (Int64) :=
  nm (v3 ||| v6) (fun (x1 : Int64) =>
  nm (v5 + (1 : Int32)) (fun (x2 : Int32) =>
  k5 x1 x2))
def X0_predecessorsOfCube_5b (N : Nat) (k5 : (Int64 → Int32 → Option (Int64))) (k110 : (Int64 → Option (Int64))) (σ : St) (v1 : Int32) (v2 : Int32) (v3 : Int64) (v5 : Int32) : Option (Int64) :=
  if (σ.1 8) ≤ v5 then
    k110 v3
  else
    if (4 : Int32) ≤ v5 then
      k110 v3
    else
      nm (σ.2.1 0) (fun (x3 : Int64) =>
      X0_predecessorsOfCube_29 (fun v3 v5 v6 => X0_predecessorsOfCube_99 k5 σ v1 v2 v3 v5 v6) σ v1 v2 v3 v5 N x3 (0 : Int32))
def X0_predecessorsOfCube_5 (N : Nat) (k110 : (Int64 → Option (Int64))) (σ : St) (v1 : Int32) (v2 : Int32) : Nat → Int64 → Int32 → Option (Int64)
  | 0, _, _ => none
  | n + 1, v3, v5 => X0_predecessorsOfCube_5b N (fun v3 v5 => X0_predecessorsOfCube_5 N k110 σ v1 v2 n v3 v5) k110 σ v1 v2 v3 v5
def X0_predecessorsOfCube_110 (σ : St) (v3 : Int64) : Option (Int64) :=
  some v3
def X0_predecessorsOfCube (N : Nat) (σ : St) (v1 : Int32) (v2 : Int32) : Option (Int64) :=
  X0_predecessorsOfCube_5 N (fun v3 => X0_predecessorsOfCube_110 σ v3) σ v1 v2 N (0 : Int64) (0 : Int32)
set_option maxRecDepth 20000 in
set_option maxHeartbeats 4000000 in
theorem c_X0_predecessorsOfCube {l : Launch} {D : va_G} {a : Nat → Nat} {cA : Nat → ClassId} {t : Nat} {F : (Nat → Prop) → State → Prop} (hF : EOK F) {σ : St} {N : Nat} {v1 : Int32} {v2 : Int32} {r : Int64} (h : X0_predecessorsOfCube N σ v1 v2 = some r) : MetL l yX0_predecessorsOfCube cX0_predecessorsOfCube 11 (some .long) 0 D (tyW cA) (wS a cA) (ES t F) [.ref (a 2), .int v1, .int v2] σ r σ := by
  refine mkL (by decide) (adrS a cA) rfl (Nat.le_of_ble_eq_true rfl) ?_
  intro p e R s m args below meth c A Q ls X hR hp hl
  obtain ⟨hx, hb, -, hown, hts, -⟩ := id X
  have J_29 : ∀ (v1 : Int32) (v2 : Int32) (v3 : Int64) (v5 : Int32) (k99 : (Int64 → Int32 → Int64 → Option (Int64))) (hk99 : ∀ (v3 : Int64) (v5 : Int32) (v6 : Int64) (H : Heap) (locs : List Loc) (ls : Array Slot), Pw D (wS a cA) A s.heap H locs σ → lv_has ls 11 [(0, .ref (a 2)), (1, .int v1), (2, .int v2), (3, .long v3), (5, .int v5), (6, .long v6)] → k99 v3 v5 v6 = some r → W p l e R s m args below meth c H locs 0 0 Q (F0 m 99 ls [])) (n : Nat) (v6 : Int64) (v8 : Int32) (H : Heap) (locs : List Loc) (ls : Array Slot), Pw D (wS a cA) A s.heap H locs σ → lv_has ls 11 [(0, .ref (a 2)), (1, .int v1), (2, .int v2), (3, .long v3), (5, .int v5), (6, .long v6), (8, .int v8)] → X0_predecessorsOfCube_29 k99 σ v1 v2 v3 v5 n v6 v8 = some r → W p l e R s m args below meth c H locs 0 0 Q (F0 m 29 ls []) := by
    intro v1 v2 v3 v5 k99 hk99 n
    induction n with
    | zero => intro v6 v8 H locs ls hp hl h; exact nn_s (show (none : Option (Int64)) = some _ from h)
    | succ n ih =>
      intro v6 v8 H locs ls hp hl h
      have h : X0_predecessorsOfCube_29b (fun v6 v8 => X0_predecessorsOfCube_29 k99 σ v1 v2 v3 v5 n v6 v8) k99 σ v1 v2 v3 v5 v6 v8 = some r := h
      unfold X0_predecessorsOfCube_29b at h
      have hk29 := ih
      refine lv_iload hx hb dX0_predecessorsOfCube_29 (lv_at hl 6 rfl) ?_
      refine lv_aload_n hx hb dX0_predecessorsOfCube_31 rfl (lv_at hl 0 rfl) ?_
      refine gS_X0_bits X hp tw_3_4 dX0_predecessorsOfCube_32 ?_
      refine lv_icmp_ge (tgt := 99) hx hb dX0_predecessorsOfCube_35 (by decide) (fun c1 => ?_) (fun c1 => ?_)
      · have h := it_p h c1
        exact hk99 v3 v5 v6 _ _ _ hp (lv_sub hl [0, 1, 2, 3, 4, 5] rfl) h
      · have h := it_n h c1
        refine lv_iload hx hb dX0_predecessorsOfCube_38 (lv_at hl 6 rfl) ?_
        refine lv_bipush (v := 6) hx hb dX0_predecessorsOfCube_40 (by decide) ?_
        refine lv_icmp_ge (tgt := 99) hx hb dX0_predecessorsOfCube_42 (by decide) (fun c2 => ?_) (fun c2 => ?_)
        · have h := it_p h c2
          exact hk99 v3 v5 v6 _ _ _ hp (lv_sub hl [0, 1, 2, 3, 4, 5] rfl) h
        · have h := it_n h c2
          refine lv_iload_n hx hb dX0_predecessorsOfCube_45 rfl (lv_at hl 1 rfl) ?_
          refine lv_iload hx hb dX0_predecessorsOfCube_46 (lv_at hl 6 rfl) ?_
          refine lv_ishr hx hb dX0_predecessorsOfCube_48 ?_
          refine lv_iconst (v := 1) hx hb dX0_predecessorsOfCube_49 (by decide) ?_
          refine lv_iand hx hb dX0_predecessorsOfCube_50 ?_
          refine lv_if_eq (tgt := 93) hx hb dX0_predecessorsOfCube_51 (by decide) (fun c3 => ?_) (fun c3 => ?_)
          · have h := it_p h c3
            obtain ⟨x4, ex4⟩ : ∃ z : Int32, z = v8 + (1 : Int32) := ⟨_, rfl⟩
            have h := nm_s h x4 ex4
            refine lv_iinc (v := x4) (lv' := [(8, .int x4), (0, .ref (a 2)), (1, .int v1), (2, .int v2), (3, .long v3), (5, .int v5), (6, .long v6)]) hx hb dX0_predecessorsOfCube_93 hl (k := 6) rfl (by rw [ex4]; rfl) (by decide) rfl (fun ls hl => ?_)
            refine lv_goto (tgt := 29) hx hb dX0_predecessorsOfCube_96 (by decide) ?_
            exact hk29 v6 x4 _ _ _ hp (lv_sub hl [1, 2, 3, 4, 5, 6, 0] rfl) h
          · have h := it_n h c3
            refine lv_aload_n hx hb dX0_predecessorsOfCube_54 rfl (lv_at hl 0 rfl) ?_
            refine gS_X0_tables X hp tw_2_21 dX0_predecessorsOfCube_55 ?_
            refine lv_iload hx hb dX0_predecessorsOfCube_58 (lv_at hl 6 rfl) ?_
            refine lv_iconst (v := 4) hx hb dX0_predecessorsOfCube_60 (by decide) ?_
            refine lv_imul hx hb dX0_predecessorsOfCube_61 ?_
            refine lv_iload hx hb dX0_predecessorsOfCube_62 (lv_at hl 4 rfl) ?_
            refine lv_iadd hx hb dX0_predecessorsOfCube_64 ?_
            obtain ⟨g5, h⟩ := gd_s h
            refine lS_X0_tables X hp g5 dX0_predecessorsOfCube_65 ?_
            refine lv_topl (fun x6 ex6 => ?_)
            have h := nm_s h x6 ex6
            refine lv_lstore (lv' := [(9, .long x6), (0, .ref (a 2)), (1, .int v1), (2, .int v2), (3, .long v3), (5, .int v5), (6, .long v6), (8, .int v8)]) hx hb dX0_predecessorsOfCube_66 hl (by decide) rfl (fun ls hl => ?_)
            refine lv_lload hx hb dX0_predecessorsOfCube_68 (lv_at hl 6 rfl) ?_
            refine lv_iload_n hx hb dX0_predecessorsOfCube_70 rfl (lv_at hl 3 rfl) ?_
            refine lv_iload hx hb dX0_predecessorsOfCube_71 (lv_at hl 7 rfl) ?_
            refine lv_ishr hx hb dX0_predecessorsOfCube_73 ?_
            refine lv_iconst (v := 1) hx hb dX0_predecessorsOfCube_74 (by decide) ?_
            refine lv_iand hx hb dX0_predecessorsOfCube_75 ?_
            refine lv_if_eq (tgt := 84) hx hb dX0_predecessorsOfCube_76 (by decide) (fun c7 => ?_) (fun c7 => ?_)
            · have h := it_p h c7
              refine lv_lload hx hb dX0_predecessorsOfCube_84 (lv_at hl 0 rfl) ?_
              refine lv_ldc2 hx hb hown (hts _ tw_3_8) dX0_predecessorsOfCube_86 ?_
              refine lv_lxor hx hb dX0_predecessorsOfCube_89 ?_
              refine lv_land hx hb dX0_predecessorsOfCube_90 ?_
              refine lv_topl (fun x8 ex8 => ?_)
              have h := nm_s h x8 ex8
              refine lv_lstore (lv' := [(6, .long x8), (9, .long x6), (0, .ref (a 2)), (1, .int v1), (2, .int v2), (3, .long v3), (5, .int v5), (8, .int v8)]) hx hb dX0_predecessorsOfCube_91 hl (by decide) rfl (fun ls hl => ?_)
              obtain ⟨x9, ex9⟩ : ∃ z : Int32, z = v8 + (1 : Int32) := ⟨_, rfl⟩
              have h := nm_s h x9 ex9
              refine lv_iinc (v := x9) (lv' := [(8, .int x9), (6, .long x8), (9, .long x6), (0, .ref (a 2)), (1, .int v1), (2, .int v2), (3, .long v3), (5, .int v5)]) hx hb dX0_predecessorsOfCube_93 hl (k := 7) rfl (by rw [ex9]; rfl) (by decide) rfl (fun ls hl => ?_)
              refine lv_goto (tgt := 29) hx hb dX0_predecessorsOfCube_96 (by decide) ?_
              exact hk29 x8 x9 _ _ _ hp (lv_sub hl [3, 4, 5, 6, 7, 1, 0] rfl) h
            · have h := it_n h c7
              refine lv_lload hx hb dX0_predecessorsOfCube_79 (lv_at hl 0 rfl) ?_
              refine lv_goto (tgt := 90) hx hb dX0_predecessorsOfCube_81 (by decide) ?_
              refine lv_land hx hb dX0_predecessorsOfCube_90 ?_
              refine lv_topl (fun x10 ex10 => ?_)
              have h := nm_s h x10 ex10
              refine lv_lstore (lv' := [(6, .long x10), (9, .long x6), (0, .ref (a 2)), (1, .int v1), (2, .int v2), (3, .long v3), (5, .int v5), (8, .int v8)]) hx hb dX0_predecessorsOfCube_91 hl (by decide) rfl (fun ls hl => ?_)
              obtain ⟨x11, ex11⟩ : ∃ z : Int32, z = v8 + (1 : Int32) := ⟨_, rfl⟩
              have h := nm_s h x11 ex11
              refine lv_iinc (v := x11) (lv' := [(8, .int x11), (6, .long x10), (9, .long x6), (0, .ref (a 2)), (1, .int v1), (2, .int v2), (3, .long v3), (5, .int v5)]) hx hb dX0_predecessorsOfCube_93 hl (k := 7) rfl (by rw [ex11]; rfl) (by decide) rfl (fun ls hl => ?_)
              refine lv_goto (tgt := 29) hx hb dX0_predecessorsOfCube_96 (by decide) ?_
              exact hk29 x10 x11 _ _ _ hp (lv_sub hl [3, 4, 5, 6, 7, 1, 0] rfl) h
  have J_99 : ∀ (v1 : Int32) (v2 : Int32) (v3 : Int64) (v5 : Int32) (v6 : Int64) (k5 : (Int64 → Int32 → Option (Int64))) (hk5 : ∀ (v3 : Int64) (v5 : Int32) (H : Heap) (locs : List Loc) (ls : Array Slot), Pw D (wS a cA) A s.heap H locs σ → lv_has ls 11 [(0, .ref (a 2)), (1, .int v1), (2, .int v2), (3, .long v3), (5, .int v5)] → k5 v3 v5 = some r → W p l e R s m args below meth c H locs 0 0 Q (F0 m 5 ls [])) (H : Heap) (locs : List Loc) (ls : Array Slot), Pw D (wS a cA) A s.heap H locs σ → lv_has ls 11 [(0, .ref (a 2)), (1, .int v1), (2, .int v2), (3, .long v3), (5, .int v5), (6, .long v6)] → X0_predecessorsOfCube_99 k5 σ v1 v2 v3 v5 v6 = some r → W p l e R s m args below meth c H locs 0 0 Q (F0 m 99 ls []) := by
    intro v1 v2 v3 v5 v6 k5 hk5 H locs ls hp hl h
    unfold X0_predecessorsOfCube_99 at h
    refine lv_lload_n hx hb dX0_predecessorsOfCube_99 rfl (lv_at hl 3 rfl) ?_
    refine lv_lload hx hb dX0_predecessorsOfCube_100 (lv_at hl 5 rfl) ?_
    refine lv_lor hx hb dX0_predecessorsOfCube_102 ?_
    refine lv_topl (fun x1 ex1 => ?_)
    have h := nm_s h x1 ex1
    refine lv_lstore_n (lv' := [(3, .long x1), (0, .ref (a 2)), (1, .int v1), (2, .int v2), (5, .int v5), (6, .long v6)]) hx hb dX0_predecessorsOfCube_103 rfl hl (by decide) rfl (fun ls hl => ?_)
    obtain ⟨x2, ex2⟩ : ∃ z : Int32, z = v5 + (1 : Int32) := ⟨_, rfl⟩
    have h := nm_s h x2 ex2
    refine lv_iinc (v := x2) (lv' := [(5, .int x2), (3, .long x1), (0, .ref (a 2)), (1, .int v1), (2, .int v2), (6, .long v6)]) hx hb dX0_predecessorsOfCube_104 hl (k := 4) rfl (by rw [ex2]; rfl) (by decide) rfl (fun ls hl => ?_)
    refine lv_goto (tgt := 5) hx hb dX0_predecessorsOfCube_107 (by decide) ?_
    exact hk5 x1 x2 _ _ _ hp (lv_sub hl [2, 3, 4, 1, 0] rfl) h
  have J_5 : ∀ (v1 : Int32) (v2 : Int32) (k110 : (Int64 → Option (Int64))) (hk110 : ∀ (v3 : Int64) (H : Heap) (locs : List Loc) (ls : Array Slot), Pw D (wS a cA) A s.heap H locs σ → lv_has ls 11 [(0, .ref (a 2)), (3, .long v3)] → k110 v3 = some r → W p l e R s m args below meth c H locs 0 0 Q (F0 m 110 ls [])) (n : Nat) (v3 : Int64) (v5 : Int32) (H : Heap) (locs : List Loc) (ls : Array Slot), Pw D (wS a cA) A s.heap H locs σ → lv_has ls 11 [(0, .ref (a 2)), (1, .int v1), (2, .int v2), (3, .long v3), (5, .int v5)] → X0_predecessorsOfCube_5 N k110 σ v1 v2 n v3 v5 = some r → W p l e R s m args below meth c H locs 0 0 Q (F0 m 5 ls []) := by
    intro v1 v2 k110 hk110 n
    induction n with
    | zero => intro v3 v5 H locs ls hp hl h; exact nn_s (show (none : Option (Int64)) = some _ from h)
    | succ n ih =>
      intro v3 v5 H locs ls hp hl h
      have h : X0_predecessorsOfCube_5b N (fun v3 v5 => X0_predecessorsOfCube_5 N k110 σ v1 v2 n v3 v5) k110 σ v1 v2 v3 v5 = some r := h
      unfold X0_predecessorsOfCube_5b at h
      have hk5 := ih
      refine lv_iload hx hb dX0_predecessorsOfCube_5 (lv_at hl 4 rfl) ?_
      refine lv_aload_n hx hb dX0_predecessorsOfCube_7 rfl (lv_at hl 0 rfl) ?_
      refine gS_X0_inputValues X hp tw_3_7 dX0_predecessorsOfCube_8 ?_
      refine lv_icmp_ge (tgt := 110) hx hb dX0_predecessorsOfCube_11 (by decide) (fun c1 => ?_) (fun c1 => ?_)
      · have h := it_p h c1
        exact hk110 v3 _ _ _ hp (lv_sub hl [0, 3] rfl) h
      · have h := it_n h c1
        refine lv_iload hx hb dX0_predecessorsOfCube_14 (lv_at hl 4 rfl) ?_
        refine lv_iconst (v := 4) hx hb dX0_predecessorsOfCube_16 (by decide) ?_
        refine lv_icmp_ge (tgt := 110) hx hb dX0_predecessorsOfCube_17 (by decide) (fun c2 => ?_) (fun c2 => ?_)
        · have h := it_p h c2
          exact hk110 v3 _ _ _ hp (lv_sub hl [0, 3] rfl) h
        · have h := it_n h c2
          refine lv_aload_n hx hb dX0_predecessorsOfCube_20 rfl (lv_at hl 0 rfl) ?_
          refine gS_X0_all X hp tw_3_9 dX0_predecessorsOfCube_21 ?_
          refine lv_topl (fun x3 ex3 => ?_)
          have h := nm_s h x3 ex3
          refine lv_lstore (lv' := [(6, .long x3), (0, .ref (a 2)), (1, .int v1), (2, .int v2), (3, .long v3), (5, .int v5)]) hx hb dX0_predecessorsOfCube_24 hl (by decide) rfl (fun ls hl => ?_)
          refine lv_iconst (v := 0) hx hb dX0_predecessorsOfCube_26 (by decide) ?_
          refine lv_istore (lv' := [(8, .int (0 : Int32)), (6, .long x3), (0, .ref (a 2)), (1, .int v1), (2, .int v2), (3, .long v3), (5, .int v5)]) hx hb dX0_predecessorsOfCube_27 hl (by decide) rfl (fun ls hl => ?_)
          exact J_29 v1 v2 v3 v5 _ (fun v3 v5 v6 H locs ls hp hl h => J_99 v1 v2 v3 v5 v6 _ hk5 _ _ _ hp hl h) _ x3 (0 : Int32) _ _ _ hp (lv_sub hl [2, 3, 4, 5, 6, 1, 0] rfl) h
  have J_110 : ∀ (v3 : Int64) (H : Heap) (locs : List Loc) (ls : Array Slot), Pw D (wS a cA) A s.heap H locs σ → lv_has ls 11 [(0, .ref (a 2)), (3, .long v3)] → X0_predecessorsOfCube_110 σ v3 = some r → W p l e R s m args below meth c H locs 0 0 Q (F0 m 110 ls []) := by
    intro v3 H locs ls hp hl h
    unfold X0_predecessorsOfCube_110 at h
    refine lv_lload_n hx hb dX0_predecessorsOfCube_110 rfl (lv_at hl 1 rfl) ?_
    exact hR _ _ _ _ _ _ dX0_predecessorsOfCube_111 hp (Option.some.inj h) rfl
  unfold X0_predecessorsOfCube at h
  have hl := lv_sub (l' := [(0, .ref (a 2)), (1, .int v1), (2, .int v2)]) hl [0, 1, 2] rfl
  refine lv_lconst (v := 0) hx hb dX0_predecessorsOfCube_0 (by decide) ?_
  refine lv_lstore_n (lv' := [(3, .long (0 : Int64)), (0, .ref (a 2)), (1, .int v1), (2, .int v2)]) hx hb dX0_predecessorsOfCube_1 rfl hl (by decide) rfl (fun ls hl => ?_)
  refine lv_iconst (v := 0) hx hb dX0_predecessorsOfCube_2 (by decide) ?_
  refine lv_istore (lv' := [(5, .int (0 : Int32)), (3, .long (0 : Int64)), (0, .ref (a 2)), (1, .int v1), (2, .int v2)]) hx hb dX0_predecessorsOfCube_3 hl (by decide) rfl (fun ls hl => ?_)
  exact J_5 v1 v2 _ (fun v3 H locs ls hp hl h => J_110 v3 _ _ _ hp hl h) _ (0 : Int64) (0 : Int32) _ _ _ hp (lv_sub hl [2, 3, 4, 1, 0] rfl) h
def X0_statesInCube_8b (k8 : (Int64 → Int32 → Option (Int64))) (k61 : (Int64 → Option (Int64))) (σ : St) (v1 : Int32) (v2 : Int32) (v3 : Int64) (v5 : Int32) : Option (Int64) :=
  if (6 : Int32) ≤ v5 then
    k61 v3
  else
    if ((v1 >>> (v5 &&& 31)) &&& (1 : Int32)) = 0 then
      nm (v5 + (1 : Int32)) (fun (x3 : Int32) =>
      k8 v3 x3)
    else
      if ((v2 >>> (v5 &&& 31)) &&& (1 : Int32)) = 0 then
        gd (inb v5 6) (
        nm (v3 &&& ((swb v5.toNatClampNeg) ^^^ (-1 : Int64))) (fun (x6 : Int64) =>
        nm (v5 + (1 : Int32)) (fun (x7 : Int32) =>
        k8 x6 x7)))
      else
        gd (inb v5 6) (
        nm (v3 &&& (swb v5.toNatClampNeg)) (fun (x9 : Int64) =>
        nm (v5 + (1 : Int32)) (fun (x10 : Int32) =>
        k8 x9 x10)))
def X0_statesInCube_8 (k61 : (Int64 → Option (Int64))) (σ : St) (v1 : Int32) (v2 : Int32) : Nat → Int64 → Int32 → Option (Int64)
  | 0, _, _ => none
  | n + 1, v3, v5 => X0_statesInCube_8b (fun v3 v5 => X0_statesInCube_8 k61 σ v1 v2 n v3 v5) k61 σ v1 v2 v3 v5
def X0_statesInCube_61 (σ : St) (v3 : Int64) : Option (Int64) :=
  some v3
def X0_statesInCube (N : Nat) (σ : St) (v1 : Int32) (v2 : Int32) : Option (Int64) :=
  nm (σ.2.1 0) (fun (x1 : Int64) =>
  X0_statesInCube_8 (fun v3 => X0_statesInCube_61 σ v3) σ v1 v2 N x1 (0 : Int32))
set_option maxRecDepth 20000 in
set_option maxHeartbeats 4000000 in
theorem c_X0_statesInCube {l : Launch} {D : va_G} {a : Nat → Nat} {cA : Nat → ClassId} {t : Nat} {F : (Nat → Prop) → State → Prop} (hF : EOK F) {σ : St} {N : Nat} {v1 : Int32} {v2 : Int32} {r : Int64} (h : X0_statesInCube N σ v1 v2 = some r) : MetL l yX0_statesInCube cX0_statesInCube 6 (some .long) 0 D (tyW cA) (wS a cA) (ES t F) [.ref (a 2), .int v1, .int v2] σ r σ := by
  refine mkL (by decide) (adrS a cA) rfl (Nat.le_of_ble_eq_true rfl) ?_
  intro p e R s m args below meth c A Q ls X hR hp hl
  obtain ⟨hx, hb, -, hown, hts, -⟩ := id X
  have J_8 : ∀ (v1 : Int32) (v2 : Int32) (k61 : (Int64 → Option (Int64))) (hk61 : ∀ (v3 : Int64) (H : Heap) (locs : List Loc) (ls : Array Slot), Pw D (wS a cA) A s.heap H locs σ → lv_has ls 6 [(0, .ref (a 2)), (3, .long v3)] → k61 v3 = some r → W p l e R s m args below meth c H locs 0 0 Q (F0 m 61 ls [])) (n : Nat) (v3 : Int64) (v5 : Int32) (H : Heap) (locs : List Loc) (ls : Array Slot), Pw D (wS a cA) A s.heap H locs σ → lv_has ls 6 [(0, .ref (a 2)), (1, .int v1), (2, .int v2), (3, .long v3), (5, .int v5)] → X0_statesInCube_8 k61 σ v1 v2 n v3 v5 = some r → W p l e R s m args below meth c H locs 0 0 Q (F0 m 8 ls []) := by
    intro v1 v2 k61 hk61 n
    induction n with
    | zero => intro v3 v5 H locs ls hp hl h; exact nn_s (show (none : Option (Int64)) = some _ from h)
    | succ n ih =>
      intro v3 v5 H locs ls hp hl h
      have h : X0_statesInCube_8b (fun v3 v5 => X0_statesInCube_8 k61 σ v1 v2 n v3 v5) k61 σ v1 v2 v3 v5 = some r := h
      unfold X0_statesInCube_8b at h
      have hk8 := ih
      refine lv_iload hx hb dX0_statesInCube_8 (lv_at hl 4 rfl) ?_
      refine lv_bipush (v := 6) hx hb dX0_statesInCube_10 (by decide) ?_
      refine lv_icmp_ge (tgt := 61) hx hb dX0_statesInCube_12 (by decide) (fun c1 => ?_) (fun c1 => ?_)
      · have h := it_p h c1
        exact hk61 v3 _ _ _ hp (lv_sub hl [0, 3] rfl) h
      · have h := it_n h c1
        refine lv_iload_n hx hb dX0_statesInCube_15 rfl (lv_at hl 1 rfl) ?_
        refine lv_iload hx hb dX0_statesInCube_16 (lv_at hl 4 rfl) ?_
        refine lv_ishr hx hb dX0_statesInCube_18 ?_
        refine lv_iconst (v := 1) hx hb dX0_statesInCube_19 (by decide) ?_
        refine lv_iand hx hb dX0_statesInCube_20 ?_
        refine lv_if_eq (tgt := 55) hx hb dX0_statesInCube_21 (by decide) (fun c2 => ?_) (fun c2 => ?_)
        · have h := it_p h c2
          obtain ⟨x3, ex3⟩ : ∃ z : Int32, z = v5 + (1 : Int32) := ⟨_, rfl⟩
          have h := nm_s h x3 ex3
          refine lv_iinc (v := x3) (lv' := [(5, .int x3), (0, .ref (a 2)), (1, .int v1), (2, .int v2), (3, .long v3)]) hx hb dX0_statesInCube_55 hl (k := 4) rfl (by rw [ex3]; rfl) (by decide) rfl (fun ls hl => ?_)
          refine lv_goto (tgt := 8) hx hb dX0_statesInCube_58 (by decide) ?_
          exact hk8 v3 x3 _ _ _ hp (lv_sub hl [1, 2, 3, 4, 0] rfl) h
        · have h := it_n h c2
          refine lv_lload_n hx hb dX0_statesInCube_24 rfl (lv_at hl 3 rfl) ?_
          refine lv_iload_n hx hb dX0_statesInCube_25 rfl (lv_at hl 2 rfl) ?_
          refine lv_iload hx hb dX0_statesInCube_26 (lv_at hl 4 rfl) ?_
          refine lv_ishr hx hb dX0_statesInCube_28 ?_
          refine lv_iconst (v := 1) hx hb dX0_statesInCube_29 (by decide) ?_
          refine lv_iand hx hb dX0_statesInCube_30 ?_
          refine lv_if_eq (tgt := 43) hx hb dX0_statesInCube_31 (by decide) (fun c4 => ?_) (fun c4 => ?_)
          · have h := it_p h c4
            refine gsS X hp (List.mem_of_getElem? (i := 0) rfl) dX0_statesInCube_43 ?_
            refine lv_iload hx hb dX0_statesInCube_46 (lv_at hl 4 rfl) ?_
            obtain ⟨g5, h⟩ := gd_s h
            refine lsS X hp g5 dX0_statesInCube_48 ?_
            refine lv_ldc2 hx hb hown (hts _ tw_3_8) dX0_statesInCube_49 ?_
            refine lv_lxor hx hb dX0_statesInCube_52 ?_
            refine lv_land hx hb dX0_statesInCube_53 ?_
            refine lv_topl (fun x6 ex6 => ?_)
            have h := nm_s h x6 ex6
            refine lv_lstore_n (lv' := [(3, .long x6), (0, .ref (a 2)), (1, .int v1), (2, .int v2), (5, .int v5)]) hx hb dX0_statesInCube_54 rfl hl (by decide) rfl (fun ls hl => ?_)
            obtain ⟨x7, ex7⟩ : ∃ z : Int32, z = v5 + (1 : Int32) := ⟨_, rfl⟩
            have h := nm_s h x7 ex7
            refine lv_iinc (v := x7) (lv' := [(5, .int x7), (3, .long x6), (0, .ref (a 2)), (1, .int v1), (2, .int v2)]) hx hb dX0_statesInCube_55 hl (k := 4) rfl (by rw [ex7]; rfl) (by decide) rfl (fun ls hl => ?_)
            refine lv_goto (tgt := 8) hx hb dX0_statesInCube_58 (by decide) ?_
            exact hk8 x6 x7 _ _ _ hp (lv_sub hl [2, 3, 4, 1, 0] rfl) h
          · have h := it_n h c4
            refine gsS X hp (List.mem_of_getElem? (i := 0) rfl) dX0_statesInCube_34 ?_
            refine lv_iload hx hb dX0_statesInCube_37 (lv_at hl 4 rfl) ?_
            obtain ⟨g8, h⟩ := gd_s h
            refine lsS X hp g8 dX0_statesInCube_39 ?_
            refine lv_goto (tgt := 53) hx hb dX0_statesInCube_40 (by decide) ?_
            refine lv_land hx hb dX0_statesInCube_53 ?_
            refine lv_topl (fun x9 ex9 => ?_)
            have h := nm_s h x9 ex9
            refine lv_lstore_n (lv' := [(3, .long x9), (0, .ref (a 2)), (1, .int v1), (2, .int v2), (5, .int v5)]) hx hb dX0_statesInCube_54 rfl hl (by decide) rfl (fun ls hl => ?_)
            obtain ⟨x10, ex10⟩ : ∃ z : Int32, z = v5 + (1 : Int32) := ⟨_, rfl⟩
            have h := nm_s h x10 ex10
            refine lv_iinc (v := x10) (lv' := [(5, .int x10), (3, .long x9), (0, .ref (a 2)), (1, .int v1), (2, .int v2)]) hx hb dX0_statesInCube_55 hl (k := 4) rfl (by rw [ex10]; rfl) (by decide) rfl (fun ls hl => ?_)
            refine lv_goto (tgt := 8) hx hb dX0_statesInCube_58 (by decide) ?_
            exact hk8 x9 x10 _ _ _ hp (lv_sub hl [2, 3, 4, 1, 0] rfl) h
  have J_61 : ∀ (v3 : Int64) (H : Heap) (locs : List Loc) (ls : Array Slot), Pw D (wS a cA) A s.heap H locs σ → lv_has ls 6 [(0, .ref (a 2)), (3, .long v3)] → X0_statesInCube_61 σ v3 = some r → W p l e R s m args below meth c H locs 0 0 Q (F0 m 61 ls []) := by
    intro v3 H locs ls hp hl h
    unfold X0_statesInCube_61 at h
    refine lv_lload_n hx hb dX0_statesInCube_61 rfl (lv_at hl 1 rfl) ?_
    exact hR _ _ _ _ _ _ dX0_statesInCube_62 hp (Option.some.inj h) rfl
  unfold X0_statesInCube at h
  have hl := lv_sub (l' := [(0, .ref (a 2)), (1, .int v1), (2, .int v2)]) hl [0, 1, 2] rfl
  refine lv_aload_n hx hb dX0_statesInCube_0 rfl (lv_at hl 0 rfl) ?_
  refine gS_X0_all X hp tw_3_9 dX0_statesInCube_1 ?_
  refine lv_topl (fun x1 ex1 => ?_)
  have h := nm_s h x1 ex1
  refine lv_lstore_n (lv' := [(3, .long x1), (0, .ref (a 2)), (1, .int v1), (2, .int v2)]) hx hb dX0_statesInCube_4 rfl hl (by decide) rfl (fun ls hl => ?_)
  refine lv_iconst (v := 0) hx hb dX0_statesInCube_5 (by decide) ?_
  refine lv_istore (lv' := [(5, .int (0 : Int32)), (3, .long x1), (0, .ref (a 2)), (1, .int v1), (2, .int v2)]) hx hb dX0_statesInCube_6 hl (by decide) rfl (fun ls hl => ?_)
  exact J_8 v1 v2 _ (fun v3 H locs ls hp hl h => J_61 v3 _ _ _ hp hl h) _ x1 (0 : Int32) _ _ _ hp (lv_sub hl [2, 3, 4, 1, 0] rfl) h
def X4_isBlocked (N : Nat) (σ : St) (v1 : Int32) (v2 : Int32) (v3 : Int32) : Option (Int32) :=
  bd (X4_frameAt σ v3) (fun t1 =>
  bd (X0_statesInCube N σ v1 v2) (fun t2 =>
  nm (t1 &&& (t2 ^^^ (-1 : Int64))) (fun (x3 : Int64) =>
  bd (X0_predecessorsOfCube N σ v1 v2) (fun t4 =>
  if (x3 &&& t4) = (0 : Int64) then
    some (1 : Int32)
  else
    some (0 : Int32)))))
set_option maxRecDepth 20000 in
set_option maxHeartbeats 4000000 in
theorem c_X4_isBlocked {l : Launch} {D : va_G} {a : Nat → Nat} {cA : Nat → ClassId} {t : Nat} {F : (Nat → Prop) → State → Prop} (hF : EOK F) {σ : St} {N : Nat} {v1 : Int32} {v2 : Int32} {v3 : Int32} {r : Int32} (h : X4_isBlocked N σ v1 v2 v3 = some r) : MetI l yX4_isBlocked cX4_isBlocked 6 (some .boolean) 1 D (tyW cA) (wS a cA) (ES t F) [.ref (a 4), .int v1, .int v2, .int v3] σ r σ := by
  refine mkI (by decide) (adrS a cA) (Or.inr rfl) (Nat.le_of_ble_eq_true rfl) ?_
  intro p e R s m args below meth c A Q ls X hR hp hl
  obtain ⟨hx, hb, -, hown, hts, -⟩ := id X
  unfold X4_isBlocked at h
  have hl := lv_sub (l' := [(0, .ref (a 4)), (1, .int v1), (2, .int v2), (3, .int v3)]) hl [0, 1, 2, 3] rfl
  refine lv_aload_n hx hb dX4_isBlocked_0 rfl (lv_at hl 0 rfl) ?_
  refine lv_iload_n hx hb dX4_isBlocked_1 rfl (lv_at hl 3 rfl) ?_
  obtain ⟨t1, ht1, h⟩ := bd_s h
  refine cl_Vl X (eokS hF) (c_X4_frameAt hF ht1) tw_36_6 mw_X4_frameAt (by decide) hp 4 rfl rfl rfl hl.1 rfl (Nat.le_of_ble_eq_true rfl) dX4_isBlocked_2 (fun H locs hp => ?_)
  refine lv_aload_n hx hb dX4_isBlocked_5 rfl (lv_at hl 0 rfl) ?_
  refine gS_X4_circuit X hp tw_4_12 dX4_isBlocked_6 ?_
  refine lv_iload_n hx hb dX4_isBlocked_9 rfl (lv_at hl 1 rfl) ?_
  refine lv_iload_n hx hb dX4_isBlocked_10 rfl (lv_at hl 2 rfl) ?_
  obtain ⟨t2, ht2, h⟩ := bd_s h
  refine cl_Vl X (eokS hF) (c_X0_statesInCube hF ht2) tw_37_13 mw_X0_statesInCube (by decide) hp 2 rfl rfl rfl hl.1 rfl (Nat.le_of_ble_eq_true rfl) dX4_isBlocked_11 (fun H locs hp => ?_)
  refine lv_ldc2 hx hb hown (hts _ tw_36_23) dX4_isBlocked_14 ?_
  refine lv_lxor hx hb dX4_isBlocked_17 ?_
  refine lv_land hx hb dX4_isBlocked_18 ?_
  refine lv_topl (fun x3 ex3 => ?_)
  have h := nm_s h x3 ex3
  refine lv_lstore (lv' := [(4, .long x3), (0, .ref (a 4)), (1, .int v1), (2, .int v2), (3, .int v3)]) hx hb dX4_isBlocked_19 hl (by decide) rfl (fun ls hl => ?_)
  refine lv_lload hx hb dX4_isBlocked_21 (lv_at hl 0 rfl) ?_
  refine lv_aload_n hx hb dX4_isBlocked_23 rfl (lv_at hl 1 rfl) ?_
  refine gS_X4_circuit X hp tw_4_12 dX4_isBlocked_24 ?_
  refine lv_iload_n hx hb dX4_isBlocked_27 rfl (lv_at hl 2 rfl) ?_
  refine lv_iload_n hx hb dX4_isBlocked_28 rfl (lv_at hl 3 rfl) ?_
  obtain ⟨t4, ht4, h⟩ := bd_s h
  refine cl_Vl X (eokS hF) (c_X0_predecessorsOfCube hF ht4) tw_37_4 mw_X0_predecessorsOfCube (by decide) hp 2 rfl rfl rfl hl.1 rfl (Nat.le_of_ble_eq_true rfl) dX4_isBlocked_29 (fun H locs hp => ?_)
  refine lv_land hx hb dX4_isBlocked_32 ?_
  refine lv_lconst (v := 0) hx hb dX4_isBlocked_33 (by decide) ?_
  refine W.lcmp hx hb dX4_isBlocked_34 ?_
  refine lv_if_ne (tgt := 42) hx hb dX4_isBlocked_35 (by decide) (fun c5 => ?_) (fun c5 => ?_)
  · have h := it_n h (fun q => c5 (lcmp0.mpr q))
    refine lv_iconst (v := 0) hx hb dX4_isBlocked_42 (by decide) ?_
    exact hR _ _ _ _ _ _ dX4_isBlocked_43 hp (Option.some.inj h) rfl (fun _ => Or.inl rfl)
  · have h := it_p h (lcmp0.mp c5)
    refine lv_iconst (v := 1) hx hb dX4_isBlocked_38 (by decide) ?_
    refine lv_goto (tgt := 43) hx hb dX4_isBlocked_39 (by decide) ?_
    exact hR _ _ _ _ _ _ dX4_isBlocked_43 hp (Option.some.inj h) rfl (fun _ => Or.inr rfl)
