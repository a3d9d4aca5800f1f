/- X6_mixed X6_hashOfProof X6_hashOfBuffer X6_digest -/
def X6_mixed (v0 : Int64) (v2 : Int64) : Option (Int64) :=
  some (((31 : Int64) * v0) + v2)
set_option maxRecDepth 20000 in
set_option maxHeartbeats 4000000 in
theorem c_X6_mixed {l : Launch} {D : va_G} {tys : List (ClassId × FieldType)} {w : St → va_W} {E : (Nat → Prop) → State → Prop} (hw : Adr w) (hE : EOK E) {σ : St} {v0 : Int64} {v2 : Int64} {r : Int64} (h : X6_mixed v0 v2 = some r) : MetL l yX6_mixed cX6_mixed 4 (some .long) 0 D tys w E [.long v0, .long v2] σ r σ := by
  refine mkL (by decide) hw rfl (Nat.le_of_ble_eq_true rfl) ?_
  intro p e R s m args below meth c A Q ls X hR hp hl
  obtain ⟨hx, hb, -, hown, hts, -⟩ := id X
  unfold X6_mixed at h
  have hl := lv_sub (l' := [(0, .long v0), (2, .long v2)]) hl [0, 1] rfl
  refine lv_ldc2 hx hb hown (hts _ tw_54_23) dX6_mixed_0 ?_
  refine lv_lload_n hx hb dX6_mixed_3 rfl (lv_at hl 0 rfl) ?_
  refine lv_lmul hx hb dX6_mixed_4 ?_
  refine lv_lload_n hx hb dX6_mixed_5 rfl (lv_at hl 1 rfl) ?_
  refine lv_ladd hx hb dX6_mixed_6 ?_
  exact hR _ _ _ _ _ _ dX6_mixed_7 hp (Option.some.inj h) rfl
def X6_hashOfProof_5b (N : Nat) (k5 : (Int64 → Int32 → St → Option (Int64 × St))) (k30 : (Int64 → St → Option (Int64 × St))) (v3 : Int64) (v5 : Int32) (σ : St) : Option (Int64 × St) :=
  if (8 : Int32) ≤ v5 then
    k30 v3 σ
  else
    bd (X6_proof N σ v5) (fun t2 =>
    bd (X6_mixed v3 (t2.toInt64)) (fun t3 =>
    nm (v5 + (1 : Int32)) (fun (x4 : Int32) =>
    k5 t3 x4 σ)))
def X6_hashOfProof_5 (N : Nat) (k30 : (Int64 → St → Option (Int64 × St))) : Nat → Int64 → Int32 → St → Option (Int64 × St)
  | 0, _, _, _ => none
  | n + 1, v3, v5, σ => X6_hashOfProof_5b N (fun v3 v5 σ => X6_hashOfProof_5 N k30 n v3 v5 σ) k30 v3 v5 σ
def X6_hashOfProof_45b (k45 : (Int64 → Int32 → St → Option (Int64 × St))) (k74 : (Int64 → St → Option (Int64 × St))) (v3 : Int64) (v5 : Int32) (σ : St) : Option (Int64 × St) :=
  if (σ.1 16) < v5 then
    k74 v3 σ
  else
    bd (X6_frame v5 σ) (fun t2 =>
    bd (X6_mixed v3 t2.1) (fun t3 =>
    nm (v5 + (1 : Int32)) (fun (x4 : Int32) =>
    k45 t3 x4 t2.2)))
def X6_hashOfProof_45 (k74 : (Int64 → St → Option (Int64 × St))) : Nat → Int64 → Int32 → St → Option (Int64 × St)
  | 0, _, _, _ => none
  | n + 1, v3, v5, σ => X6_hashOfProof_45b (fun v3 v5 σ => X6_hashOfProof_45 k74 n v3 v5 σ) k74 v3 v5 σ
def X6_hashOfProof_95b (k95 : (Int64 → Int32 → St → Option (Int64 × St))) (k121 : (Int64 → Int32 → St → Option (Int64 × St))) (v3 : Int64) (v5 : Int32) (v6 : Int32) (σ : St) : Option (Int64 × St) :=
  if (3 : Int32) ≤ v6 then
    k121 v3 v5 σ
  else
    bd (X6_cube v5 v6 σ) (fun t2 =>
    bd (X6_mixed v3 (t2.1.toInt64)) (fun t3 =>
    nm (v6 + (1 : Int32)) (fun (x4 : Int32) =>
    k95 t3 x4 t2.2)))
def X6_hashOfProof_95 (k121 : (Int64 → Int32 → St → Option (Int64 × St))) (v5 : Int32) : Nat → Int64 → Int32 → St → Option (Int64 × St)
  | 0, _, _, _ => none
  | n + 1, v3, v6, σ => X6_hashOfProof_95b (fun v3 v6 σ => X6_hashOfProof_95 k121 v5 n v3 v6 σ) k121 v3 v5 v6 σ
def X6_hashOfProof_121 (k77 : (Int64 → Int32 → St → Option (Int64 × St))) (v3 : Int64) (v5 : Int32) (σ : St) : Option (Int64 × St) :=
  nm (v5 + (1 : Int32)) (fun (x1 : Int32) =>
  k77 v3 x1 σ)
def X6_hashOfProof_77b (N : Nat) (k77 : (Int64 → Int32 → St → Option (Int64 × St))) (k127 : (Int64 → St → Option (Int64 × St))) (v3 : Int64) (v5 : Int32) (σ : St) : Option (Int64 × St) :=
  if (σ.1 23) ≤ v5 then
    k127 v3 σ
  else
    X6_hashOfProof_95 (fun v3 v5 σ => X6_hashOfProof_121 k77 v3 v5 σ) v5 N v3 (0 : Int32) σ
def X6_hashOfProof_77 (N : Nat) (k127 : (Int64 → St → Option (Int64 × St))) : Nat → Int64 → Int32 → St → Option (Int64 × St)
  | 0, _, _, _ => none
  | n + 1, v3, v5, σ => X6_hashOfProof_77b N (fun v3 v5 σ => X6_hashOfProof_77 N k127 n v3 v5 σ) k127 v3 v5 σ
def X6_hashOfProof_127 (v3 : Int64) (σ : St) : Option (Int64 × St) :=
  some (v3, σ)
def X6_hashOfProof_74 (N : Nat) (v3 : Int64) (σ : St) : Option (Int64 × St) :=
  X6_hashOfProof_77 N (fun v3 σ => X6_hashOfProof_127 v3 σ) N v3 (0 : Int32) σ
def X6_hashOfProof_30 (N : Nat) (v3 : Int64) (σ : St) : Option (Int64 × St) :=
  if (σ.1 14) = 0 then
    some (v3, σ)
  else
    X6_hashOfProof_45 (fun v3 σ => X6_hashOfProof_74 N v3 σ) N v3 (0 : Int32) σ
def X6_hashOfProof (N : Nat) (v1 : Int64) (σ : St) : Option (Int64 × St) :=
  X6_hashOfProof_5 N (fun v3 σ => X6_hashOfProof_30 N v3 σ) N v1 (0 : Int32) σ
set_option maxRecDepth 20000 in
set_option maxHeartbeats 4000000 in
theorem c_X6_hashOfProof {l : Launch} {D : va_G} {a : Nat → Nat} {cA : Nat → ClassId} {t : Nat} {F : (Nat → Prop) → State → Prop} (hF : EOK F) {σ : St} {N : Nat} {v1 : Int64} {r : Int64} {σ' : St} (h : X6_hashOfProof N v1 σ = some (r, σ')) : MetL l yX6_hashOfProof cX6_hashOfProof 7 (some .long) 3 D (tyW cA) (wS a cA) (ES t F) [.ref (a 0), .long v1] σ r σ' := by
  refine mkL (by decide) (adrS a cA) rfl (Nat.le_of_ble_eq_true rfl) ?_
  intro p e R s m args below meth c A Q ls X hR hp hl
  obtain ⟨hx, hb, -, hown, hts, -⟩ := id X
  have J_5 : ∀  (k30 : (Int64 → St → Option (Int64 × St))) (hk30 : ∀ (v3 : Int64) (σ : St) (H : Heap) (locs : List Loc) (ls : Array Slot), Pw D (wS a cA) A s.heap H locs σ → lv_has ls 7 [(0, .ref (a 0)), (3, .long v3)] → k30 v3 σ = some (r, σ') → W p l e R s m args below meth c H locs 0 0 Q (F0 m 30 ls [])) (n : Nat) (v3 : Int64) (v5 : Int32) (σ : St) (H : Heap) (locs : List Loc) (ls : Array Slot), Pw D (wS a cA) A s.heap H locs σ → lv_has ls 7 [(0, .ref (a 0)), (3, .long v3), (5, .int v5)] → X6_hashOfProof_5 N k30 n v3 v5 σ = some (r, σ') → W p l e R s m args below meth c H locs 0 0 Q (F0 m 5 ls []) := by
    intro k30 hk30 n
    induction n with
    | zero => intro v3 v5 σ H locs ls hp hl h; exact nn_s (show (none : Option (Int64 × St)) = some _ from h)
    | succ n ih =>
      intro v3 v5 σ H locs ls hp hl h
      have h : X6_hashOfProof_5b N (fun v3 v5 σ => X6_hashOfProof_5 N k30 n v3 v5 σ) k30 v3 v5 σ = some (r, σ') := h
      unfold X6_hashOfProof_5b at h
      have hk5 := ih
      refine lv_iload hx hb dX6_hashOfProof_5 (lv_at hl 2 rfl) ?_
      refine lv_bipush (v := 8) hx hb dX6_hashOfProof_7 (by decide) ?_
      refine lv_icmp_ge (tgt := 30) hx hb dX6_hashOfProof_9 (by decide) (fun c1 => ?_) (fun c1 => ?_)
      · have h := it_p h c1
        exact hk30 v3 σ _ _ _ hp (lv_sub hl [0, 1] rfl) h
      · have h := it_n h c1
        refine lv_lload_n hx hb dX6_hashOfProof_12 rfl (lv_at hl 1 rfl) ?_
        refine lv_aload_n hx hb dX6_hashOfProof_13 rfl (lv_at hl 0 rfl) ?_
        refine lv_iload hx hb dX6_hashOfProof_14 (lv_at hl 2 rfl) ?_
        obtain ⟨t2, ht2, h⟩ := bd_s h
        refine cl_Vi X (eokS hF) (c_X6_proof hF ht2) tw_55_9 mw_X6_proof (by decide) hp 0 rfl rfl rfl hl.1 rfl (Nat.le_of_ble_eq_true rfl) dX6_hashOfProof_16 (fun H locs hp => ?_)
        refine lv_i2l hx hb dX6_hashOfProof_19 rfl ?_
        obtain ⟨t3, ht3, h⟩ := bd_s h
        refine cl_Sl X (eokS hF) (c_X6_mixed (adrS a cA) (eokS hF) ht3) tw_54_20 mw_X6_mixed (by decide) hp hl.1 rfl (Nat.le_of_ble_eq_true rfl) dX6_hashOfProof_20 (fun H locs hp => ?_)
        refine lv_lstore_n (lv' := [(3, .long t3), (0, .ref (a 0)), (5, .int v5)]) hx hb dX6_hashOfProof_23 rfl hl (by decide) rfl (fun ls hl => ?_)
        obtain ⟨x4, ex4⟩ : ∃ z : Int32, z = v5 + (1 : Int32) := ⟨_, rfl⟩
        have h := nm_s h x4 ex4
        refine lv_iinc (v := x4) (lv' := [(5, .int x4), (3, .long t3), (0, .ref (a 0))]) hx hb dX6_hashOfProof_24 hl (k := 2) rfl (by rw [ex4]; rfl) (by decide) rfl (fun ls hl => ?_)
        refine lv_goto (tgt := 5) hx hb dX6_hashOfProof_27 (by decide) ?_
        exact hk5 t3 x4 σ _ _ _ hp (lv_sub hl [2, 1, 0] rfl) h
  have J_45 : ∀  (k74 : (Int64 → St → Option (Int64 × St))) (hk74 : ∀ (v3 : Int64) (σ : St) (H : Heap) (locs : List Loc) (ls : Array Slot), Pw D (wS a cA) A s.heap H locs σ → lv_has ls 7 [(0, .ref (a 0)), (3, .long v3)] → k74 v3 σ = some (r, σ') → W p l e R s m args below meth c H locs 0 0 Q (F0 m 74 ls [])) (n : Nat) (v3 : Int64) (v5 : Int32) (σ : St) (H : Heap) (locs : List Loc) (ls : Array Slot), Pw D (wS a cA) A s.heap H locs σ → lv_has ls 7 [(0, .ref (a 0)), (3, .long v3), (5, .int v5)] → X6_hashOfProof_45 k74 n v3 v5 σ = some (r, σ') → W p l e R s m args below meth c H locs 0 0 Q (F0 m 45 ls []) := by
    intro k74 hk74 n
    induction n with
    | zero => intro v3 v5 σ H locs ls hp hl h; exact nn_s (show (none : Option (Int64 × St)) = some _ from h)
    | succ n ih =>
      intro v3 v5 σ H locs ls hp hl h
      have h : X6_hashOfProof_45b (fun v3 v5 σ => X6_hashOfProof_45 k74 n v3 v5 σ) k74 v3 v5 σ = some (r, σ') := h
      unfold X6_hashOfProof_45b at h
      have hk45 := ih
      refine lv_iload hx hb dX6_hashOfProof_45 (lv_at hl 2 rfl) ?_
      refine lv_aload_n hx hb dX6_hashOfProof_47 rfl (lv_at hl 0 rfl) ?_
      refine gS_X6_frameProof X hp tw_2_4 dX6_hashOfProof_48 ?_
      refine gS_X4_top X hp tw_43_17 dX6_hashOfProof_51 ?_
      refine lv_icmp_gt (tgt := 74) hx hb dX6_hashOfProof_54 (by decide) (fun c1 => ?_) (fun c1 => ?_)
      · have h := it_p h c1
        exact hk74 v3 σ _ _ _ hp (lv_sub hl [0, 1] rfl) h
      · have h := it_n h c1
        refine lv_lload_n hx hb dX6_hashOfProof_57 rfl (lv_at hl 1 rfl) ?_
        refine lv_aload_n hx hb dX6_hashOfProof_58 rfl (lv_at hl 0 rfl) ?_
        refine lv_iload hx hb dX6_hashOfProof_59 (lv_at hl 2 rfl) ?_
        obtain ⟨t2, ht2, h⟩ := bd_s h
        refine cl_Vl X (eokS hF) (c_X6_frame hF ht2) tw_55_10 mw_X6_frame (by decide) hp 0 rfl rfl rfl hl.1 rfl (Nat.le_of_ble_eq_true rfl) dX6_hashOfProof_61 (fun H locs hp => ?_)
        obtain ⟨t3, ht3, h⟩ := bd_s h
        refine cl_Sl X (eokS hF) (c_X6_mixed (adrS a cA) (eokS hF) ht3) tw_54_20 mw_X6_mixed (by decide) hp hl.1 rfl (Nat.le_of_ble_eq_true rfl) dX6_hashOfProof_64 (fun H locs hp => ?_)
        refine lv_lstore_n (lv' := [(3, .long t3), (0, .ref (a 0)), (5, .int v5)]) hx hb dX6_hashOfProof_67 rfl hl (by decide) rfl (fun ls hl => ?_)
        obtain ⟨x4, ex4⟩ : ∃ z : Int32, z = v5 + (1 : Int32) := ⟨_, rfl⟩
        have h := nm_s h x4 ex4
        refine lv_iinc (v := x4) (lv' := [(5, .int x4), (3, .long t3), (0, .ref (a 0))]) hx hb dX6_hashOfProof_68 hl (k := 2) rfl (by rw [ex4]; rfl) (by decide) rfl (fun ls hl => ?_)
        refine lv_goto (tgt := 45) hx hb dX6_hashOfProof_71 (by decide) ?_
        exact hk45 t3 x4 t2.2 _ _ _ hp (lv_sub hl [2, 1, 0] rfl) h
  have J_95 : ∀ (v5 : Int32) (k121 : (Int64 → Int32 → St → Option (Int64 × St))) (hk121 : ∀ (v3 : Int64) (v5 : Int32) (σ : St) (H : Heap) (locs : List Loc) (ls : Array Slot), Pw D (wS a cA) A s.heap H locs σ → lv_has ls 7 [(0, .ref (a 0)), (3, .long v3), (5, .int v5)] → k121 v3 v5 σ = some (r, σ') → W p l e R s m args below meth c H locs 0 0 Q (F0 m 121 ls [])) (n : Nat) (v3 : Int64) (v6 : Int32) (σ : St) (H : Heap) (locs : List Loc) (ls : Array Slot), Pw D (wS a cA) A s.heap H locs σ → lv_has ls 7 [(0, .ref (a 0)), (3, .long v3), (5, .int v5), (6, .int v6)] → X6_hashOfProof_95 k121 v5 n v3 v6 σ = some (r, σ') → W p l e R s m args below meth c H locs 0 0 Q (F0 m 95 ls []) := by
    intro v5 k121 hk121 n
    induction n with
    | zero => intro v3 v6 σ H locs ls hp hl h; exact nn_s (show (none : Option (Int64 × St)) = some _ from h)
    | succ n ih =>
      intro v3 v6 σ H locs ls hp hl h
      have h : X6_hashOfProof_95b (fun v3 v6 σ => X6_hashOfProof_95 k121 v5 n v3 v6 σ) k121 v3 v5 v6 σ = some (r, σ') := h
      unfold X6_hashOfProof_95b at h
      have hk95 := ih
      refine lv_iload hx hb dX6_hashOfProof_95 (lv_at hl 3 rfl) ?_
      refine lv_iconst (v := 3) hx hb dX6_hashOfProof_97 (by decide) ?_
      refine lv_icmp_ge (tgt := 121) hx hb dX6_hashOfProof_98 (by decide) (fun c1 => ?_) (fun c1 => ?_)
      · have h := it_p h c1
        exact hk121 v3 v5 σ _ _ _ hp (lv_sub hl [0, 1, 2] rfl) h
      · have h := it_n h c1
        refine lv_lload_n hx hb dX6_hashOfProof_101 rfl (lv_at hl 1 rfl) ?_
        refine lv_aload_n hx hb dX6_hashOfProof_102 rfl (lv_at hl 0 rfl) ?_
        refine lv_iload hx hb dX6_hashOfProof_103 (lv_at hl 2 rfl) ?_
        refine lv_iload hx hb dX6_hashOfProof_105 (lv_at hl 3 rfl) ?_
        obtain ⟨t2, ht2, h⟩ := bd_s h
        refine cl_Vi X (eokS hF) (c_X6_cube hF ht2) tw_55_11 mw_X6_cube (by decide) hp 0 rfl rfl rfl hl.1 rfl (Nat.le_of_ble_eq_true rfl) dX6_hashOfProof_107 (fun H locs hp => ?_)
        refine lv_i2l hx hb dX6_hashOfProof_110 rfl ?_
        obtain ⟨t3, ht3, h⟩ := bd_s h
        refine cl_Sl X (eokS hF) (c_X6_mixed (adrS a cA) (eokS hF) ht3) tw_54_20 mw_X6_mixed (by decide) hp hl.1 rfl (Nat.le_of_ble_eq_true rfl) dX6_hashOfProof_111 (fun H locs hp => ?_)
        refine lv_lstore_n (lv' := [(3, .long t3), (0, .ref (a 0)), (5, .int v5), (6, .int v6)]) hx hb dX6_hashOfProof_114 rfl hl (by decide) rfl (fun ls hl => ?_)
        obtain ⟨x4, ex4⟩ : ∃ z : Int32, z = v6 + (1 : Int32) := ⟨_, rfl⟩
        have h := nm_s h x4 ex4
        refine lv_iinc (v := x4) (lv' := [(6, .int x4), (3, .long t3), (0, .ref (a 0)), (5, .int v5)]) hx hb dX6_hashOfProof_115 hl (k := 3) rfl (by rw [ex4]; rfl) (by decide) rfl (fun ls hl => ?_)
        refine lv_goto (tgt := 95) hx hb dX6_hashOfProof_118 (by decide) ?_
        exact hk95 t3 x4 t2.2 _ _ _ hp (lv_sub hl [2, 1, 3, 0] rfl) h
  have J_121 : ∀ (v3 : Int64) (v5 : Int32) (k77 : (Int64 → Int32 → St → Option (Int64 × St))) (hk77 : ∀ (v3 : Int64) (v5 : Int32) (σ : St) (H : Heap) (locs : List Loc) (ls : Array Slot), Pw D (wS a cA) A s.heap H locs σ → lv_has ls 7 [(0, .ref (a 0)), (3, .long v3), (5, .int v5)] → k77 v3 v5 σ = some (r, σ') → W p l e R s m args below meth c H locs 0 0 Q (F0 m 77 ls [])) (σ : St) (H : Heap) (locs : List Loc) (ls : Array Slot), Pw D (wS a cA) A s.heap H locs σ → lv_has ls 7 [(0, .ref (a 0)), (3, .long v3), (5, .int v5)] → X6_hashOfProof_121 k77 v3 v5 σ = some (r, σ') → W p l e R s m args below meth c H locs 0 0 Q (F0 m 121 ls []) := by
    intro v3 v5 k77 hk77 σ H locs ls hp hl h
    unfold X6_hashOfProof_121 at h
    obtain ⟨x1, ex1⟩ : ∃ z : Int32, z = v5 + (1 : Int32) := ⟨_, rfl⟩
    have h := nm_s h x1 ex1
    refine lv_iinc (v := x1) (lv' := [(5, .int x1), (0, .ref (a 0)), (3, .long v3)]) hx hb dX6_hashOfProof_121 hl (k := 2) rfl (by rw [ex1]; rfl) (by decide) rfl (fun ls hl => ?_)
    refine lv_goto (tgt := 77) hx hb dX6_hashOfProof_124 (by decide) ?_
    exact hk77 v3 x1 σ _ _ _ hp (lv_sub hl [1, 2, 0] rfl) h
  have J_77 : ∀  (k127 : (Int64 → St → Option (Int64 × St))) (hk127 : ∀ (v3 : Int64) (σ : St) (H : Heap) (locs : List Loc) (ls : Array Slot), Pw D (wS a cA) A s.heap H locs σ → lv_has ls 7 [(0, .ref (a 0)), (3, .long v3)] → k127 v3 σ = some (r, σ') → W p l e R s m args below meth c H locs 0 0 Q (F0 m 127 ls [])) (n : Nat) (v3 : Int64) (v5 : Int32) (σ : St) (H : Heap) (locs : List Loc) (ls : Array Slot), Pw D (wS a cA) A s.heap H locs σ → lv_has ls 7 [(0, .ref (a 0)), (3, .long v3), (5, .int v5)] → X6_hashOfProof_77 N k127 n v3 v5 σ = some (r, σ') → W p l e R s m args below meth c H locs 0 0 Q (F0 m 77 ls []) := by
    intro k127 hk127 n
    induction n with
    | zero => intro v3 v5 σ H locs ls hp hl h; exact nn_s (show (none : Option (Int64 × St)) = some _ from h)
    | succ n ih =>
      intro v3 v5 σ H locs ls hp hl h
      have h : X6_hashOfProof_77b N (fun v3 v5 σ => X6_hashOfProof_77 N k127 n v3 v5 σ) k127 v3 v5 σ = some (r, σ') := h
      unfold X6_hashOfProof_77b at h
      have hk77 := ih
      refine lv_iload hx hb dX6_hashOfProof_77 (lv_at hl 2 rfl) ?_
      refine lv_aload_n hx hb dX6_hashOfProof_79 rfl (lv_at hl 0 rfl) ?_
      refine gS_X6_frameProof X hp tw_2_4 dX6_hashOfProof_80 ?_
      refine gS_X4_cubes X hp tw_44_10 dX6_hashOfProof_83 ?_
      refine gS_X1_count X hp tw_44_11 dX6_hashOfProof_86 ?_
      refine lv_icmp_ge (tgt := 127) hx hb dX6_hashOfProof_89 (by decide) (fun c1 => ?_) (fun c1 => ?_)
      · have h := it_p h c1
        exact hk127 v3 σ _ _ _ hp (lv_sub hl [0, 1] rfl) h
      · have h := it_n h c1
        refine lv_iconst (v := 0) hx hb dX6_hashOfProof_92 (by decide) ?_
        refine lv_istore (lv' := [(6, .int (0 : Int32)), (0, .ref (a 0)), (3, .long v3), (5, .int v5)]) hx hb dX6_hashOfProof_93 hl (by decide) rfl (fun ls hl => ?_)
        exact J_95 v5 _ (fun v3 v5 σ H locs ls hp hl h => J_121 v3 v5 _ hk77 σ _ _ _ hp hl h) _ v3 (0 : Int32) σ _ _ _ hp (lv_sub hl [1, 2, 3, 0] rfl) h
  have J_127 : ∀ (v3 : Int64) (σ : St) (H : Heap) (locs : List Loc) (ls : Array Slot), Pw D (wS a cA) A s.heap H locs σ → lv_has ls 7 [(0, .ref (a 0)), (3, .long v3)] → X6_hashOfProof_127 v3 σ = some (r, σ') → W p l e R s m args below meth c H locs 0 0 Q (F0 m 127 ls []) := by
    intro v3 σ H locs ls hp hl h
    unfold X6_hashOfProof_127 at h
    refine lv_lload_n hx hb dX6_hashOfProof_127 rfl (lv_at hl 1 rfl) ?_
    exact hR _ _ _ _ _ _ dX6_hashOfProof_128 hp (congrArg Prod.fst (Option.some.inj h)) (congrArg Prod.snd (Option.some.inj h))
  have J_74 : ∀ (v3 : Int64) (σ : St) (H : Heap) (locs : List Loc) (ls : Array Slot), Pw D (wS a cA) A s.heap H locs σ → lv_has ls 7 [(0, .ref (a 0)), (3, .long v3)] → X6_hashOfProof_74 N v3 σ = some (r, σ') → W p l e R s m args below meth c H locs 0 0 Q (F0 m 74 ls []) := by
    intro v3 σ H locs ls hp hl h
    unfold X6_hashOfProof_74 at h
    refine lv_iconst (v := 0) hx hb dX6_hashOfProof_74 (by decide) ?_
    refine lv_istore (lv' := [(5, .int (0 : Int32)), (0, .ref (a 0)), (3, .long v3)]) hx hb dX6_hashOfProof_75 hl (by decide) rfl (fun ls hl => ?_)
    exact J_77 _ (fun v3 σ H locs ls hp hl h => J_127 v3 σ _ _ _ hp hl h) _ v3 (0 : Int32) σ _ _ _ hp (lv_sub hl [1, 2, 0] rfl) h
  have J_30 : ∀ (v3 : Int64) (σ : St) (H : Heap) (locs : List Loc) (ls : Array Slot), Pw D (wS a cA) A s.heap H locs σ → lv_has ls 7 [(0, .ref (a 0)), (3, .long v3)] → X6_hashOfProof_30 N v3 σ = some (r, σ') → W p l e R s m args below meth c H locs 0 0 Q (F0 m 30 ls []) := by
    intro v3 σ H locs ls hp hl h
    unfold X6_hashOfProof_30 at h
    refine lv_aload_n hx hb dX6_hashOfProof_30 rfl (lv_at hl 0 rfl) ?_
    refine gS_X6_frameProof X hp tw_2_4 dX6_hashOfProof_31 ?_
    refine gS_X4_exists X hp tw_8_4 dX6_hashOfProof_34 ?_
    refine lv_if_ne (tgt := 42) hx hb dX6_hashOfProof_37 (by decide) (fun c1 => ?_) (fun c1 => ?_)
    · have h := it_n h c1
      refine lv_iconst (v := 0) hx hb dX6_hashOfProof_42 (by decide) ?_
      refine lv_istore (lv' := [(5, .int (0 : Int32)), (0, .ref (a 0)), (3, .long v3)]) hx hb dX6_hashOfProof_43 hl (by decide) rfl (fun ls hl => ?_)
      exact J_45 _ (fun v3 σ H locs ls hp hl h => J_74 v3 σ _ _ _ hp hl h) _ v3 (0 : Int32) σ _ _ _ hp (lv_sub hl [1, 2, 0] rfl) h
    · have h := it_p h c1
      refine lv_lload_n hx hb dX6_hashOfProof_40 rfl (lv_at hl 1 rfl) ?_
      exact hR _ _ _ _ _ _ dX6_hashOfProof_41 hp (congrArg Prod.fst (Option.some.inj h)) (congrArg Prod.snd (Option.some.inj h))
  unfold X6_hashOfProof at h
  have hl := lv_sub (l' := [(0, .ref (a 0)), (1, .long v1)]) hl [0, 1] rfl
  refine lv_lload_n hx hb dX6_hashOfProof_0 rfl (lv_at hl 1 rfl) ?_
  refine lv_lstore_n (lv' := [(3, .long v1), (0, .ref (a 0)), (1, .long v1)]) hx hb dX6_hashOfProof_1 rfl hl (by decide) rfl (fun ls hl => ?_)
  refine lv_iconst (v := 0) hx hb dX6_hashOfProof_2 (by decide) ?_
  refine lv_istore (lv' := [(5, .int (0 : Int32)), (3, .long v1), (0, .ref (a 0)), (1, .long v1)]) hx hb dX6_hashOfProof_3 hl (by decide) rfl (fun ls hl => ?_)
  exact J_5 _ (fun v3 σ H locs ls hp hl h => J_30 v3 σ _ _ _ hp hl h) _ v1 (0 : Int32) σ _ _ _ hp (lv_sub hl [2, 1, 0] rfl) h
def X6_hashOfBuffer_16b (k16 : (Int64 → Int32 → Option (Int64))) (k49 : (Int64 → Option (Int64))) (σ : St) (v3 : Int64) (v5 : Int32) : Option (Int64) :=
  if (σ.1 0) ≤ v5 then
    k49 v3
  else
    bd (X3_codeAt σ v5) (fun t2 =>
    bd (X6_mixed v3 (t2.toInt64)) (fun t3 =>
    nm (v5 + (1 : Int32)) (fun (x4 : Int32) =>
    k16 t3 x4)))
def X6_hashOfBuffer_16 (k49 : (Int64 → Option (Int64))) (σ : St) : Nat → Int64 → Int32 → Option (Int64)
  | 0, _, _ => none
  | n + 1, v3, v5 => X6_hashOfBuffer_16b (fun v3 v5 => X6_hashOfBuffer_16 k49 σ n v3 v5) k49 σ v3 v5
def X6_hashOfBuffer_49 (σ : St) (v3 : Int64) : Option (Int64) :=
  some v3
def X6_hashOfBuffer (N : Nat) (σ : St) (v1 : Int64) : Option (Int64) :=
  bd (X6_mixed v1 ((σ.1 0).toInt64)) (fun t1 =>
  X6_hashOfBuffer_16 (fun v3 => X6_hashOfBuffer_49 σ v3) σ N t1 (0 : Int32))
set_option maxRecDepth 20000 in
set_option maxHeartbeats 4000000 in
theorem c_X6_hashOfBuffer {l : Launch} {D : va_G} {a : Nat → Nat} {cA : Nat → ClassId} {t : Nat} {F : (Nat → Prop) → State → Prop} (hF : EOK F) {σ : St} {N : Nat} {v1 : Int64} {r : Int64} (h : X6_hashOfBuffer N σ v1 = some r) : MetL l yX6_hashOfBuffer cX6_hashOfBuffer 6 (some .long) 1 D (tyW cA) (wS a cA) (ES t F) [.ref (a 0), .long v1] σ r σ := by
  refine mkL (by decide) (adrS a cA) rfl (Nat.le_of_ble_eq_true rfl) ?_
  intro p e R s m args below meth c A Q ls X hR hp hl
  obtain ⟨hx, hb, -, hown, hts, -⟩ := id X
  have J_16 : ∀  (k49 : (Int64 → Option (Int64))) (hk49 : ∀ (v3 : Int64) (H : Heap) (locs : List Loc) (ls : Array Slot), Pw D (wS a cA) A s.heap H locs σ → lv_has ls 6 [(0, .ref (a 0)), (3, .long v3)] → k49 v3 = some r → W p l e R s m args below meth c H locs 0 0 Q (F0 m 49 ls [])) (n : Nat) (v3 : Int64) (v5 : Int32) (H : Heap) (locs : List Loc) (ls : Array Slot), Pw D (wS a cA) A s.heap H locs σ → lv_has ls 6 [(0, .ref (a 0)), (3, .long v3), (5, .int v5)] → X6_hashOfBuffer_16 k49 σ n v3 v5 = some r → W p l e R s m args below meth c H locs 0 0 Q (F0 m 16 ls []) := by
    intro k49 hk49 n
    induction n with
    | zero => intro v3 v5 H locs ls hp hl h; exact nn_s (show (none : Option (Int64)) = some _ from h)
    | succ n ih =>
      intro v3 v5 H locs ls hp hl h
      have h : X6_hashOfBuffer_16b (fun v3 v5 => X6_hashOfBuffer_16 k49 σ n v3 v5) k49 σ v3 v5 = some r := h
      unfold X6_hashOfBuffer_16b at h
      have hk16 := ih
      refine lv_iload hx hb dX6_hashOfBuffer_16 (lv_at hl 2 rfl) ?_
      refine lv_aload_n hx hb dX6_hashOfBuffer_18 rfl (lv_at hl 0 rfl) ?_
      refine gS_X6_buffer X hp tw_1_16 dX6_hashOfBuffer_19 ?_
      refine gS_X3_length X hp tw_9_3 dX6_hashOfBuffer_22 ?_
      refine lv_icmp_ge (tgt := 49) hx hb dX6_hashOfBuffer_25 (by decide) (fun c1 => ?_) (fun c1 => ?_)
      · have h := it_p h c1
        exact hk49 v3 _ _ _ hp (lv_sub hl [0, 1] rfl) h
      · have h := it_n h c1
        refine lv_lload_n hx hb dX6_hashOfBuffer_28 rfl (lv_at hl 1 rfl) ?_
        refine lv_aload_n hx hb dX6_hashOfBuffer_29 rfl (lv_at hl 0 rfl) ?_
        refine gS_X6_buffer X hp tw_1_16 dX6_hashOfBuffer_30 ?_
        refine lv_iload hx hb dX6_hashOfBuffer_33 (lv_at hl 2 rfl) ?_
        obtain ⟨t2, ht2, h⟩ := bd_s h
        refine cl_Vi X (eokS hF) (c_X3_codeAt hF ht2) tw_55_16 mw_X3_codeAt (by decide) hp 1 rfl rfl rfl hl.1 rfl (Nat.le_of_ble_eq_true rfl) dX6_hashOfBuffer_35 (fun H locs hp => ?_)
        refine lv_i2l hx hb dX6_hashOfBuffer_38 rfl ?_
        obtain ⟨t3, ht3, h⟩ := bd_s h
        refine cl_Sl X (eokS hF) (c_X6_mixed (adrS a cA) (eokS hF) ht3) tw_54_20 mw_X6_mixed (by decide) hp hl.1 rfl (Nat.le_of_ble_eq_true rfl) dX6_hashOfBuffer_39 (fun H locs hp => ?_)
        refine lv_lstore_n (lv' := [(3, .long t3), (0, .ref (a 0)), (5, .int v5)]) hx hb dX6_hashOfBuffer_42 rfl hl (by decide) rfl (fun ls hl => ?_)
        obtain ⟨x4, ex4⟩ : ∃ z : Int32, z = v5 + (1 : Int32) := ⟨_, rfl⟩
        have h := nm_s h x4 ex4
        refine lv_iinc (v := x4) (lv' := [(5, .int x4), (3, .long t3), (0, .ref (a 0))]) hx hb dX6_hashOfBuffer_43 hl (k := 2) rfl (by rw [ex4]; rfl) (by decide) rfl (fun ls hl => ?_)
        refine lv_goto (tgt := 16) hx hb dX6_hashOfBuffer_46 (by decide) ?_
        exact hk16 t3 x4 _ _ _ hp (lv_sub hl [2, 1, 0] rfl) h
  have J_49 : ∀ (v3 : Int64) (H : Heap) (locs : List Loc) (ls : Array Slot), Pw D (wS a cA) A s.heap H locs σ → lv_has ls 6 [(0, .ref (a 0)), (3, .long v3)] → X6_hashOfBuffer_49 σ v3 = some r → W p l e R s m args below meth c H locs 0 0 Q (F0 m 49 ls []) := by
    intro v3 H locs ls hp hl h
    unfold X6_hashOfBuffer_49 at h
    refine lv_lload_n hx hb dX6_hashOfBuffer_49 rfl (lv_at hl 1 rfl) ?_
    exact hR _ _ _ _ _ _ dX6_hashOfBuffer_50 hp (Option.some.inj h) rfl
  unfold X6_hashOfBuffer at h
  have hl := lv_sub (l' := [(0, .ref (a 0)), (1, .long v1)]) hl [0, 1] rfl
  refine lv_lload_n hx hb dX6_hashOfBuffer_0 rfl (lv_at hl 1 rfl) ?_
  refine lv_aload_n hx hb dX6_hashOfBuffer_1 rfl (lv_at hl 0 rfl) ?_
  refine gS_X6_buffer X hp tw_1_16 dX6_hashOfBuffer_2 ?_
  refine gS_X3_length X hp tw_9_3 dX6_hashOfBuffer_5 ?_
  refine lv_i2l hx hb dX6_hashOfBuffer_8 rfl ?_
  obtain ⟨t1, ht1, h⟩ := bd_s h
  refine cl_Sl X (eokS hF) (c_X6_mixed (adrS a cA) (eokS hF) ht1) tw_54_20 mw_X6_mixed (by decide) hp hl.1 rfl (Nat.le_of_ble_eq_true rfl) dX6_hashOfBuffer_9 (fun H locs hp => ?_)
  refine lv_lstore_n (lv' := [(3, .long t1), (0, .ref (a 0)), (1, .long v1)]) hx hb dX6_hashOfBuffer_12 rfl hl (by decide) rfl (fun ls hl => ?_)
  refine lv_iconst (v := 0) hx hb dX6_hashOfBuffer_13 (by decide) ?_
  refine lv_istore (lv' := [(5, .int (0 : Int32)), (3, .long t1), (0, .ref (a 0)), (1, .long v1)]) hx hb dX6_hashOfBuffer_14 hl (by decide) rfl (fun ls hl => ?_)
  exact J_16 _ (fun v3 H locs ls hp hl h => J_49 v3 _ _ _ hp hl h) _ t1 (0 : Int32) _ _ _ hp (lv_sub hl [2, 1, 0] rfl) h
def X6_digest_6b (N : Nat) (k6 : (Int64 → Int32 → St → Option (Int64 × St))) (k29 : (Int64 → St → Option (Int64 × St))) (v1 : Int64) (v3 : Int32) (σ : St) : Option (Int64 × St) :=
  if (10 : Int32) ≤ v3 then
    k29 v1 σ
  else
    bd (X6_system N v3 σ) (fun t2 =>
    bd (X6_mixed v1 (t2.1.toInt64)) (fun t3 =>
    nm (v3 + (1 : Int32)) (fun (x4 : Int32) =>
    k6 t3 x4 t2.2)))
def X6_digest_6 (N : Nat) (k29 : (Int64 → St → Option (Int64 × St))) : Nat → Int64 → Int32 → St → Option (Int64 × St)
  | 0, _, _, _ => none
  | n + 1, v1, v3, σ => X6_digest_6b N (fun v1 v3 σ => X6_digest_6 N k29 n v1 v3 σ) k29 v1 v3 σ
def X6_digest_45b (N : Nat) (k45 : (Int64 → Int32 → St → Option (Int64 × St))) (k70 : (Int64 → Int32 → St → Option (Int64 × St))) (v1 : Int64) (v3 : Int32) (v4 : Int32) (σ : St) : Option (Int64 × St) :=
  if (5 : Int32) ≤ v4 then
    k70 v1 v3 σ
  else
    bd (X6_state N v3 v4 σ) (fun t2 =>
    bd (X6_mixed v1 (t2.1.toInt64)) (fun t3 =>
    nm (v4 + (1 : Int32)) (fun (x4 : Int32) =>
    k45 t3 x4 t2.2)))
def X6_digest_45 (N : Nat) (k70 : (Int64 → Int32 → St → Option (Int64 × St))) (v3 : Int32) : Nat → Int64 → Int32 → St → Option (Int64 × St)
  | 0, _, _, _ => none
  | n + 1, v1, v4, σ => X6_digest_45b N (fun v1 v4 σ => X6_digest_45 N k70 v3 n v1 v4 σ) k70 v1 v3 v4 σ
def X6_digest_73b (N : Nat) (k73 : (Int64 → Int32 → St → Option (Int64 × St))) (k104 : (Int64 → Int32 → St → Option (Int64 × St))) (v1 : Int64) (v3 : Int32) (v4 : Int32) (σ : St) : Option (Int64 × St) :=
  if (σ.1 8) ≤ v4 then
    k104 v1 v3 σ
  else
    bd (X6_successor N v3 v4 σ) (fun t2 =>
    bd (X6_mixed v1 (t2.1.toInt64)) (fun t3 =>
    nm (v4 + (1 : Int32)) (fun (x4 : Int32) =>
    k73 t3 x4 t2.2)))
def X6_digest_73 (N : Nat) (k104 : (Int64 → Int32 → St → Option (Int64 × St))) (v3 : Int32) : Nat → Int64 → Int32 → St → Option (Int64 × St)
  | 0, _, _, _ => none
  | n + 1, v1, v4, σ => X6_digest_73b N (fun v1 v4 σ => X6_digest_73 N k104 v3 n v1 v4 σ) k104 v1 v3 v4 σ
def X6_digest_104 (k31 : (Int64 → Int32 → St → Option (Int64 × St))) (v1 : Int64) (v3 : Int32) (σ : St) : Option (Int64 × St) :=
  nm (v3 + (1 : Int32)) (fun (x1 : Int32) =>
  k31 v1 x1 σ)
def X6_digest_70 (N : Nat) (k31 : (Int64 → Int32 → St → Option (Int64 × St))) (v1 : Int64) (v3 : Int32) (σ : St) : Option (Int64 × St) :=
  X6_digest_73 N (fun v1 v3 σ => X6_digest_104 k31 v1 v3 σ) v3 N v1 (0 : Int32) σ
def X6_digest_31b (N : Nat) (k31 : (Int64 → Int32 → St → Option (Int64 × St))) (k110 : (Int64 → St → Option (Int64 × St))) (v1 : Int64) (v3 : Int32) (σ : St) : Option (Int64 × St) :=
  if (σ.1 7) ≤ v3 then
    k110 v1 σ
  else
    X6_digest_45 N (fun v1 v3 σ => X6_digest_70 N k31 v1 v3 σ) v3 N v1 (0 : Int32) σ
def X6_digest_31 (N : Nat) (k110 : (Int64 → St → Option (Int64 × St))) : Nat → Int64 → Int32 → St → Option (Int64 × St)
  | 0, _, _, _ => none
  | n + 1, v1, v3, σ => X6_digest_31b N (fun v1 v3 σ => X6_digest_31 N k110 n v1 v3 σ) k110 v1 v3 σ
def X6_digest_110 (N : Nat) (v1 : Int64) (σ : St) : Option (Int64 × St) :=
  bd (X6_induction N (0 : Int32) σ) (fun t1 =>
  bd (X6_mixed v1 (t1.1.toInt64)) (fun t2 =>
  bd (X6_induction N (1 : Int32) t1.2) (fun t3 =>
  bd (X6_mixed t2 (t3.1.toInt64)) (fun t4 =>
  bd (X6_elimination N (1 : Int32) t3.2) (fun t5 =>
  bd (X6_mixed t4 t5.1) (fun t6 =>
  bd (X6_elimination N (2 : Int32) t5.2) (fun t7 =>
  bd (X6_mixed t6 t7.1) (fun t8 =>
  bd (X6_leastCone N t7.2) (fun t9 =>
  bd (X6_mixed t8 (t9.1.toInt64)) (fun t10 =>
  bd (X6_hashOfProof N t10 t9.2) (fun t11 =>
  bd (X6_hashOfBuffer N t11.2 t11.1) (fun t12 =>
  some (t12, t11.2)))))))))))))
def X6_digest_29 (N : Nat) (v1 : Int64) (σ : St) : Option (Int64 × St) :=
  X6_digest_31 N (fun v1 σ => X6_digest_110 N v1 σ) N v1 (0 : Int32) σ
def X6_digest (N : Nat) (σ : St) : Option (Int64 × St) :=
  X6_digest_6 N (fun v1 σ => X6_digest_29 N v1 σ) N (1877 : Int64) (0 : Int32) σ
set_option maxRecDepth 20000 in
set_option maxHeartbeats 4000000 in
theorem c_X6_digest {l : Launch} {D : va_G} {a : Nat → Nat} {cA : Nat → ClassId} {t : Nat} {F : (Nat → Prop) → State → Prop} (hF : EOK F) {σ : St} {N : Nat} {r : Int64} {σ' : St} (h : X6_digest N σ = some (r, σ')) : MetL l yX6_digest cX6_digest 5 (some .long) 13 D (tyW cA) (wS a cA) (ES t F) [.ref (a 0)] σ r σ' := by
  refine mkL (by decide) (adrS a cA) rfl (Nat.le_of_ble_eq_true rfl) ?_
  intro p e R s m args below meth c A Q ls X hR hp hl
  obtain ⟨hx, hb, -, hown, hts, -⟩ := id X
  have J_6 : ∀  (k29 : (Int64 → St → Option (Int64 × St))) (hk29 : ∀ (v1 : Int64) (σ : St) (H : Heap) (locs : List Loc) (ls : Array Slot), Pw D (wS a cA) A s.heap H locs σ → lv_has ls 5 [(0, .ref (a 0)), (1, .long v1)] → k29 v1 σ = some (r, σ') → W p l e R s m args below meth c H locs 0 0 Q (F0 m 29 ls [])) (n : Nat) (v1 : Int64) (v3 : Int32) (σ : St) (H : Heap) (locs : List Loc) (ls : Array Slot), Pw D (wS a cA) A s.heap H locs σ → lv_has ls 5 [(0, .ref (a 0)), (1, .long v1), (3, .int v3)] → X6_digest_6 N k29 n v1 v3 σ = some (r, σ') → W p l e R s m args below meth c H locs 0 0 Q (F0 m 6 ls []) := by
    intro k29 hk29 n
    induction n with
    | zero => intro v1 v3 σ H locs ls hp hl h; exact nn_s (show (none : Option (Int64 × St)) = some _ from h)
    | succ n ih =>
      intro v1 v3 σ H locs ls hp hl h
      have h : X6_digest_6b N (fun v1 v3 σ => X6_digest_6 N k29 n v1 v3 σ) k29 v1 v3 σ = some (r, σ') := h
      unfold X6_digest_6b at h
      have hk6 := ih
      refine lv_iload_n hx hb dX6_digest_6 rfl (lv_at hl 2 rfl) ?_
      refine lv_bipush (v := 10) hx hb dX6_digest_7 (by decide) ?_
      refine lv_icmp_ge (tgt := 29) hx hb dX6_digest_9 (by decide) (fun c1 => ?_) (fun c1 => ?_)
      · have h := it_p h c1
        exact hk29 v1 σ _ _ _ hp (lv_sub hl [0, 1] rfl) h
      · have h := it_n h c1
        refine lv_lload_n hx hb dX6_digest_12 rfl (lv_at hl 1 rfl) ?_
        refine lv_aload_n hx hb dX6_digest_13 rfl (lv_at hl 0 rfl) ?_
        refine lv_iload_n hx hb dX6_digest_14 rfl (lv_at hl 2 rfl) ?_
        obtain ⟨t2, ht2, h⟩ := bd_s h
        refine cl_Vi X (eokS hF) (c_X6_system hF ht2) tw_54_19 mw_X6_system (by decide) hp 0 rfl rfl rfl hl.1 rfl (Nat.le_of_ble_eq_true rfl) dX6_digest_15 (fun H locs hp => ?_)
        refine lv_i2l hx hb dX6_digest_18 rfl ?_
        obtain ⟨t3, ht3, h⟩ := bd_s h
        refine cl_Sl X (eokS hF) (c_X6_mixed (adrS a cA) (eokS hF) ht3) tw_54_20 mw_X6_mixed (by decide) hp hl.1 rfl (Nat.le_of_ble_eq_true rfl) dX6_digest_19 (fun H locs hp => ?_)
        refine lv_lstore_n (lv' := [(1, .long t3), (0, .ref (a 0)), (3, .int v3)]) hx hb dX6_digest_22 rfl hl (by decide) rfl (fun ls hl => ?_)
        obtain ⟨x4, ex4⟩ : ∃ z : Int32, z = v3 + (1 : Int32) := ⟨_, rfl⟩
        have h := nm_s h x4 ex4
        refine lv_iinc (v := x4) (lv' := [(3, .int x4), (1, .long t3), (0, .ref (a 0))]) hx hb dX6_digest_23 hl (k := 2) rfl (by rw [ex4]; rfl) (by decide) rfl (fun ls hl => ?_)
        refine lv_goto (tgt := 6) hx hb dX6_digest_26 (by decide) ?_
        exact hk6 t3 x4 t2.2 _ _ _ hp (lv_sub hl [2, 1, 0] rfl) h
  have J_45 : ∀ (v3 : Int32) (k70 : (Int64 → Int32 → St → Option (Int64 × St))) (hk70 : ∀ (v1 : Int64) (v3 : Int32) (σ : St) (H : Heap) (locs : List Loc) (ls : Array Slot), Pw D (wS a cA) A s.heap H locs σ → lv_has ls 5 [(0, .ref (a 0)), (1, .long v1), (3, .int v3)] → k70 v1 v3 σ = some (r, σ') → W p l e R s m args below meth c H locs 0 0 Q (F0 m 70 ls [])) (n : Nat) (v1 : Int64) (v4 : Int32) (σ : St) (H : Heap) (locs : List Loc) (ls : Array Slot), Pw D (wS a cA) A s.heap H locs σ → lv_has ls 5 [(0, .ref (a 0)), (1, .long v1), (3, .int v3), (4, .int v4)] → X6_digest_45 N k70 v3 n v1 v4 σ = some (r, σ') → W p l e R s m args below meth c H locs 0 0 Q (F0 m 45 ls []) := by
    intro v3 k70 hk70 n
    induction n with
    | zero => intro v1 v4 σ H locs ls hp hl h; exact nn_s (show (none : Option (Int64 × St)) = some _ from h)
    | succ n ih =>
      intro v1 v4 σ H locs ls hp hl h
      have h : X6_digest_45b N (fun v1 v4 σ => X6_digest_45 N k70 v3 n v1 v4 σ) k70 v1 v3 v4 σ = some (r, σ') := h
      unfold X6_digest_45b at h
      have hk45 := ih
      refine lv_iload hx hb dX6_digest_45 (lv_at hl 3 rfl) ?_
      refine lv_iconst (v := 5) hx hb dX6_digest_47 (by decide) ?_
      refine lv_icmp_ge (tgt := 70) hx hb dX6_digest_48 (by decide) (fun c1 => ?_) (fun c1 => ?_)
      · have h := it_p h c1
        exact hk70 v1 v3 σ _ _ _ hp (lv_sub hl [0, 1, 2] rfl) h
      · have h := it_n h c1
        refine lv_lload_n hx hb dX6_digest_51 rfl (lv_at hl 1 rfl) ?_
        refine lv_aload_n hx hb dX6_digest_52 rfl (lv_at hl 0 rfl) ?_
        refine lv_iload_n hx hb dX6_digest_53 rfl (lv_at hl 2 rfl) ?_
        refine lv_iload hx hb dX6_digest_54 (lv_at hl 3 rfl) ?_
        obtain ⟨t2, ht2, h⟩ := bd_s h
        refine cl_Vi X (eokS hF) (c_X6_state hF ht2) tw_55_0 mw_X6_state (by decide) hp 0 rfl rfl rfl hl.1 rfl (Nat.le_of_ble_eq_true rfl) dX6_digest_56 (fun H locs hp => ?_)
        refine lv_i2l hx hb dX6_digest_59 rfl ?_
        obtain ⟨t3, ht3, h⟩ := bd_s h
        refine cl_Sl X (eokS hF) (c_X6_mixed (adrS a cA) (eokS hF) ht3) tw_54_20 mw_X6_mixed (by decide) hp hl.1 rfl (Nat.le_of_ble_eq_true rfl) dX6_digest_60 (fun H locs hp => ?_)
        refine lv_lstore_n (lv' := [(1, .long t3), (0, .ref (a 0)), (3, .int v3), (4, .int v4)]) hx hb dX6_digest_63 rfl hl (by decide) rfl (fun ls hl => ?_)
        obtain ⟨x4, ex4⟩ : ∃ z : Int32, z = v4 + (1 : Int32) := ⟨_, rfl⟩
        have h := nm_s h x4 ex4
        refine lv_iinc (v := x4) (lv' := [(4, .int x4), (1, .long t3), (0, .ref (a 0)), (3, .int v3)]) hx hb dX6_digest_64 hl (k := 3) rfl (by rw [ex4]; rfl) (by decide) rfl (fun ls hl => ?_)
        refine lv_goto (tgt := 45) hx hb dX6_digest_67 (by decide) ?_
        exact hk45 t3 x4 t2.2 _ _ _ hp (lv_sub hl [2, 1, 3, 0] rfl) h
  have J_73 : ∀ (v3 : Int32) (k104 : (Int64 → Int32 → St → Option (Int64 × St))) (hk104 : ∀ (v1 : Int64) (v3 : Int32) (σ : St) (H : Heap) (locs : List Loc) (ls : Array Slot), Pw D (wS a cA) A s.heap H locs σ → lv_has ls 5 [(0, .ref (a 0)), (1, .long v1), (3, .int v3)] → k104 v1 v3 σ = some (r, σ') → W p l e R s m args below meth c H locs 0 0 Q (F0 m 104 ls [])) (n : Nat) (v1 : Int64) (v4 : Int32) (σ : St) (H : Heap) (locs : List Loc) (ls : Array Slot), Pw D (wS a cA) A s.heap H locs σ → lv_has ls 5 [(0, .ref (a 0)), (1, .long v1), (3, .int v3), (4, .int v4)] → X6_digest_73 N k104 v3 n v1 v4 σ = some (r, σ') → W p l e R s m args below meth c H locs 0 0 Q (F0 m 73 ls []) := by
    intro v3 k104 hk104 n
    induction n with
    | zero => intro v1 v4 σ H locs ls hp hl h; exact nn_s (show (none : Option (Int64 × St)) = some _ from h)
    | succ n ih =>
      intro v1 v4 σ H locs ls hp hl h
      have h : X6_digest_73b N (fun v1 v4 σ => X6_digest_73 N k104 v3 n v1 v4 σ) k104 v1 v3 v4 σ = some (r, σ') := h
      unfold X6_digest_73b at h
      have hk73 := ih
      refine lv_iload hx hb dX6_digest_73 (lv_at hl 3 rfl) ?_
      refine lv_aload_n hx hb dX6_digest_75 rfl (lv_at hl 0 rfl) ?_
      refine gS_X6_circuit X hp tw_1_20 dX6_digest_76 ?_
      refine gS_X0_inputValues X hp tw_21_8 dX6_digest_79 ?_
      refine lv_icmp_ge (tgt := 104) hx hb dX6_digest_82 (by decide) (fun c1 => ?_) (fun c1 => ?_)
      · have h := it_p h c1
        exact hk104 v1 v3 σ _ _ _ hp (lv_sub hl [0, 1, 2] rfl) h
      · have h := it_n h c1
        refine lv_lload_n hx hb dX6_digest_85 rfl (lv_at hl 1 rfl) ?_
        refine lv_aload_n hx hb dX6_digest_86 rfl (lv_at hl 0 rfl) ?_
        refine lv_iload_n hx hb dX6_digest_87 rfl (lv_at hl 2 rfl) ?_
        refine lv_iload hx hb dX6_digest_88 (lv_at hl 3 rfl) ?_
        obtain ⟨t2, ht2, h⟩ := bd_s h
        refine cl_Vi X (eokS hF) (c_X6_successor hF ht2) tw_55_1 mw_X6_successor (by decide) hp 0 rfl rfl rfl hl.1 rfl (Nat.le_of_ble_eq_true rfl) dX6_digest_90 (fun H locs hp => ?_)
        refine lv_i2l hx hb dX6_digest_93 rfl ?_
        obtain ⟨t3, ht3, h⟩ := bd_s h
        refine cl_Sl X (eokS hF) (c_X6_mixed (adrS a cA) (eokS hF) ht3) tw_54_20 mw_X6_mixed (by decide) hp hl.1 rfl (Nat.le_of_ble_eq_true rfl) dX6_digest_94 (fun H locs hp => ?_)
        refine lv_lstore_n (lv' := [(1, .long t3), (0, .ref (a 0)), (3, .int v3), (4, .int v4)]) hx hb dX6_digest_97 rfl hl (by decide) rfl (fun ls hl => ?_)
        obtain ⟨x4, ex4⟩ : ∃ z : Int32, z = v4 + (1 : Int32) := ⟨_, rfl⟩
        have h := nm_s h x4 ex4
        refine lv_iinc (v := x4) (lv' := [(4, .int x4), (1, .long t3), (0, .ref (a 0)), (3, .int v3)]) hx hb dX6_digest_98 hl (k := 3) rfl (by rw [ex4]; rfl) (by decide) rfl (fun ls hl => ?_)
        refine lv_goto (tgt := 73) hx hb dX6_digest_101 (by decide) ?_
        exact hk73 t3 x4 t2.2 _ _ _ hp (lv_sub hl [2, 1, 3, 0] rfl) h
  have J_104 : ∀ (v1 : Int64) (v3 : Int32) (k31 : (Int64 → Int32 → St → Option (Int64 × St))) (hk31 : ∀ (v1 : Int64) (v3 : Int32) (σ : St) (H : Heap) (locs : List Loc) (ls : Array Slot), Pw D (wS a cA) A s.heap H locs σ → lv_has ls 5 [(0, .ref (a 0)), (1, .long v1), (3, .int v3)] → k31 v1 v3 σ = some (r, σ') → W p l e R s m args below meth c H locs 0 0 Q (F0 m 31 ls [])) (σ : St) (H : Heap) (locs : List Loc) (ls : Array Slot), Pw D (wS a cA) A s.heap H locs σ → lv_has ls 5 [(0, .ref (a 0)), (1, .long v1), (3, .int v3)] → X6_digest_104 k31 v1 v3 σ = some (r, σ') → W p l e R s m args below meth c H locs 0 0 Q (F0 m 104 ls []) := by
    intro v1 v3 k31 hk31 σ H locs ls hp hl h
    unfold X6_digest_104 at h
    obtain ⟨x1, ex1⟩ : ∃ z : Int32, z = v3 + (1 : Int32) := ⟨_, rfl⟩
    have h := nm_s h x1 ex1
    refine lv_iinc (v := x1) (lv' := [(3, .int x1), (0, .ref (a 0)), (1, .long v1)]) hx hb dX6_digest_104 hl (k := 2) rfl (by rw [ex1]; rfl) (by decide) rfl (fun ls hl => ?_)
    refine lv_goto (tgt := 31) hx hb dX6_digest_107 (by decide) ?_
    exact hk31 v1 x1 σ _ _ _ hp (lv_sub hl [1, 2, 0] rfl) h
  have J_70 : ∀ (v1 : Int64) (v3 : Int32) (k31 : (Int64 → Int32 → St → Option (Int64 × St))) (hk31 : ∀ (v1 : Int64) (v3 : Int32) (σ : St) (H : Heap) (locs : List Loc) (ls : Array Slot), Pw D (wS a cA) A s.heap H locs σ → lv_has ls 5 [(0, .ref (a 0)), (1, .long v1), (3, .int v3)] → k31 v1 v3 σ = some (r, σ') → W p l e R s m args below meth c H locs 0 0 Q (F0 m 31 ls [])) (σ : St) (H : Heap) (locs : List Loc) (ls : Array Slot), Pw D (wS a cA) A s.heap H locs σ → lv_has ls 5 [(0, .ref (a 0)), (1, .long v1), (3, .int v3)] → X6_digest_70 N k31 v1 v3 σ = some (r, σ') → W p l e R s m args below meth c H locs 0 0 Q (F0 m 70 ls []) := by
    intro v1 v3 k31 hk31 σ H locs ls hp hl h
    unfold X6_digest_70 at h
    refine lv_iconst (v := 0) hx hb dX6_digest_70 (by decide) ?_
    refine lv_istore (lv' := [(4, .int (0 : Int32)), (0, .ref (a 0)), (1, .long v1), (3, .int v3)]) hx hb dX6_digest_71 hl (by decide) rfl (fun ls hl => ?_)
    exact J_73 v3 _ (fun v1 v3 σ H locs ls hp hl h => J_104 v1 v3 _ hk31 σ _ _ _ hp hl h) _ v1 (0 : Int32) σ _ _ _ hp (lv_sub hl [1, 2, 3, 0] rfl) h
  have J_31 : ∀  (k110 : (Int64 → St → Option (Int64 × St))) (hk110 : ∀ (v1 : Int64) (σ : St) (H : Heap) (locs : List Loc) (ls : Array Slot), Pw D (wS a cA) A s.heap H locs σ → lv_has ls 5 [(0, .ref (a 0)), (1, .long v1)] → k110 v1 σ = some (r, σ') → W p l e R s m args below meth c H locs 0 0 Q (F0 m 110 ls [])) (n : Nat) (v1 : Int64) (v3 : Int32) (σ : St) (H : Heap) (locs : List Loc) (ls : Array Slot), Pw D (wS a cA) A s.heap H locs σ → lv_has ls 5 [(0, .ref (a 0)), (1, .long v1), (3, .int v3)] → X6_digest_31 N k110 n v1 v3 σ = some (r, σ') → W p l e R s m args below meth c H locs 0 0 Q (F0 m 31 ls []) := by
    intro k110 hk110 n
    induction n with
    | zero => intro v1 v3 σ H locs ls hp hl h; exact nn_s (show (none : Option (Int64 × St)) = some _ from h)
    | succ n ih =>
      intro v1 v3 σ H locs ls hp hl h
      have h : X6_digest_31b N (fun v1 v3 σ => X6_digest_31 N k110 n v1 v3 σ) k110 v1 v3 σ = some (r, σ') := h
      unfold X6_digest_31b at h
      have hk31 := ih
      refine lv_iload_n hx hb dX6_digest_31 rfl (lv_at hl 2 rfl) ?_
      refine lv_aload_n hx hb dX6_digest_32 rfl (lv_at hl 0 rfl) ?_
      refine gS_X6_circuit X hp tw_1_20 dX6_digest_33 ?_
      refine gS_X0_states X hp tw_7_21 dX6_digest_36 ?_
      refine lv_icmp_ge (tgt := 110) hx hb dX6_digest_39 (by decide) (fun c1 => ?_) (fun c1 => ?_)
      · have h := it_p h c1
        exact hk110 v1 σ _ _ _ hp (lv_sub hl [0, 1] rfl) h
      · have h := it_n h c1
        refine lv_iconst (v := 0) hx hb dX6_digest_42 (by decide) ?_
        refine lv_istore (lv' := [(4, .int (0 : Int32)), (0, .ref (a 0)), (1, .long v1), (3, .int v3)]) hx hb dX6_digest_43 hl (by decide) rfl (fun ls hl => ?_)
        exact J_45 v3 _ (fun v1 v3 σ H locs ls hp hl h => J_70 v1 v3 _ hk31 σ _ _ _ hp hl h) _ v1 (0 : Int32) σ _ _ _ hp (lv_sub hl [1, 2, 3, 0] rfl) h
  have J_110 : ∀ (v1 : Int64) (σ : St) (H : Heap) (locs : List Loc) (ls : Array Slot), Pw D (wS a cA) A s.heap H locs σ → lv_has ls 5 [(0, .ref (a 0)), (1, .long v1)] → X6_digest_110 N v1 σ = some (r, σ') → W p l e R s m args below meth c H locs 0 0 Q (F0 m 110 ls []) := by
    intro v1 σ H locs ls hp hl h
    unfold X6_digest_110 at h
    refine lv_lload_n hx hb dX6_digest_110 rfl (lv_at hl 1 rfl) ?_
    refine lv_aload_n hx hb dX6_digest_111 rfl (lv_at hl 0 rfl) ?_
    refine lv_iconst (v := 0) hx hb dX6_digest_112 (by decide) ?_
    obtain ⟨t1, ht1, h⟩ := bd_s h
    refine cl_Vi X (eokS hF) (c_X6_induction hF ht1) tw_55_2 mw_X6_induction (by decide) hp 0 rfl rfl rfl hl.1 rfl (Nat.le_of_ble_eq_true rfl) dX6_digest_113 (fun H locs hp => ?_)
    refine lv_i2l hx hb dX6_digest_116 rfl ?_
    obtain ⟨t2, ht2, h⟩ := bd_s h
    refine cl_Sl X (eokS hF) (c_X6_mixed (adrS a cA) (eokS hF) ht2) tw_54_20 mw_X6_mixed (by decide) hp hl.1 rfl (Nat.le_of_ble_eq_true rfl) dX6_digest_117 (fun H locs hp => ?_)
    refine lv_lstore_n (lv' := [(1, .long t2), (0, .ref (a 0))]) hx hb dX6_digest_120 rfl hl (by decide) rfl (fun ls hl => ?_)
    refine lv_lload_n hx hb dX6_digest_121 rfl (lv_at hl 0 rfl) ?_
    refine lv_aload_n hx hb dX6_digest_122 rfl (lv_at hl 1 rfl) ?_
    refine lv_iconst (v := 1) hx hb dX6_digest_123 (by decide) ?_
    obtain ⟨t3, ht3, h⟩ := bd_s h
    refine cl_Vi X (eokS hF) (c_X6_induction hF ht3) tw_55_2 mw_X6_induction (by decide) hp 0 rfl rfl rfl hl.1 rfl (Nat.le_of_ble_eq_true rfl) dX6_digest_124 (fun H locs hp => ?_)
    refine lv_i2l hx hb dX6_digest_127 rfl ?_
    obtain ⟨t4, ht4, h⟩ := bd_s h
    refine cl_Sl X (eokS hF) (c_X6_mixed (adrS a cA) (eokS hF) ht4) tw_54_20 mw_X6_mixed (by decide) hp hl.1 rfl (Nat.le_of_ble_eq_true rfl) dX6_digest_128 (fun H locs hp => ?_)
    refine lv_lstore_n (lv' := [(1, .long t4), (0, .ref (a 0))]) hx hb dX6_digest_131 rfl hl (by decide) rfl (fun ls hl => ?_)
    refine lv_lload_n hx hb dX6_digest_132 rfl (lv_at hl 0 rfl) ?_
    refine lv_aload_n hx hb dX6_digest_133 rfl (lv_at hl 1 rfl) ?_
    refine lv_iconst (v := 1) hx hb dX6_digest_134 (by decide) ?_
    obtain ⟨t5, ht5, h⟩ := bd_s h
    refine cl_Vl X (eokS hF) (c_X6_elimination hF ht5) tw_55_3 mw_X6_elimination (by decide) hp 0 rfl rfl rfl hl.1 rfl (Nat.le_of_ble_eq_true rfl) dX6_digest_135 (fun H locs hp => ?_)
    obtain ⟨t6, ht6, h⟩ := bd_s h
    refine cl_Sl X (eokS hF) (c_X6_mixed (adrS a cA) (eokS hF) ht6) tw_54_20 mw_X6_mixed (by decide) hp hl.1 rfl (Nat.le_of_ble_eq_true rfl) dX6_digest_138 (fun H locs hp => ?_)
    refine lv_lstore_n (lv' := [(1, .long t6), (0, .ref (a 0))]) hx hb dX6_digest_141 rfl hl (by decide) rfl (fun ls hl => ?_)
    refine lv_lload_n hx hb dX6_digest_142 rfl (lv_at hl 0 rfl) ?_
    refine lv_aload_n hx hb dX6_digest_143 rfl (lv_at hl 1 rfl) ?_
    refine lv_iconst (v := 2) hx hb dX6_digest_144 (by decide) ?_
    obtain ⟨t7, ht7, h⟩ := bd_s h
    refine cl_Vl X (eokS hF) (c_X6_elimination hF ht7) tw_55_3 mw_X6_elimination (by decide) hp 0 rfl rfl rfl hl.1 rfl (Nat.le_of_ble_eq_true rfl) dX6_digest_145 (fun H locs hp => ?_)
    obtain ⟨t8, ht8, h⟩ := bd_s h
    refine cl_Sl X (eokS hF) (c_X6_mixed (adrS a cA) (eokS hF) ht8) tw_54_20 mw_X6_mixed (by decide) hp hl.1 rfl (Nat.le_of_ble_eq_true rfl) dX6_digest_148 (fun H locs hp => ?_)
    refine lv_lstore_n (lv' := [(1, .long t8), (0, .ref (a 0))]) hx hb dX6_digest_151 rfl hl (by decide) rfl (fun ls hl => ?_)
    refine lv_lload_n hx hb dX6_digest_152 rfl (lv_at hl 0 rfl) ?_
    refine lv_aload_n hx hb dX6_digest_153 rfl (lv_at hl 1 rfl) ?_
    obtain ⟨t9, ht9, h⟩ := bd_s h
    refine cl_Vi X (eokS hF) (c_X6_leastCone hF ht9) tw_55_4 mw_X6_leastCone (by decide) hp 0 rfl rfl rfl hl.1 rfl (Nat.le_of_ble_eq_true rfl) dX6_digest_154 (fun H locs hp => ?_)
    refine lv_i2l hx hb dX6_digest_157 rfl ?_
    obtain ⟨t10, ht10, h⟩ := bd_s h
    refine cl_Sl X (eokS hF) (c_X6_mixed (adrS a cA) (eokS hF) ht10) tw_54_20 mw_X6_mixed (by decide) hp hl.1 rfl (Nat.le_of_ble_eq_true rfl) dX6_digest_158 (fun H locs hp => ?_)
    refine lv_lstore_n (lv' := [(1, .long t10), (0, .ref (a 0))]) hx hb dX6_digest_161 rfl hl (by decide) rfl (fun ls hl => ?_)
    refine lv_aload_n hx hb dX6_digest_162 rfl (lv_at hl 1 rfl) ?_
    refine lv_aload_n hx hb dX6_digest_163 rfl (lv_at hl 1 rfl) ?_
    refine lv_lload_n hx hb dX6_digest_164 rfl (lv_at hl 0 rfl) ?_
    obtain ⟨t11, ht11, h⟩ := bd_s h
    refine cl_Vl X (eokS hF) (c_X6_hashOfProof hF ht11) tw_55_5 mw_X6_hashOfProof (by decide) hp 0 rfl rfl rfl hl.1 rfl (Nat.le_of_ble_eq_true rfl) dX6_digest_165 (fun H locs hp => ?_)
    obtain ⟨t12, ht12, h⟩ := bd_s h
    refine cl_Vl X (eokS hF) (c_X6_hashOfBuffer hF ht12) tw_55_12 mw_X6_hashOfBuffer (by decide) hp 0 rfl rfl rfl hl.1 rfl (Nat.le_of_ble_eq_true rfl) dX6_digest_168 (fun H locs hp => ?_)
    exact hR _ _ _ _ _ _ dX6_digest_171 hp (congrArg Prod.fst (Option.some.inj h)) (congrArg Prod.snd (Option.some.inj h))
  have J_29 : ∀ (v1 : Int64) (σ : St) (H : Heap) (locs : List Loc) (ls : Array Slot), Pw D (wS a cA) A s.heap H locs σ → lv_has ls 5 [(0, .ref (a 0)), (1, .long v1)] → X6_digest_29 N v1 σ = some (r, σ') → W p l e R s m args below meth c H locs 0 0 Q (F0 m 29 ls []) := by
    intro v1 σ H locs ls hp hl h
    unfold X6_digest_29 at h
    refine lv_iconst (v := 0) hx hb dX6_digest_29 (by decide) ?_
    refine lv_istore_n (lv' := [(3, .int (0 : Int32)), (0, .ref (a 0)), (1, .long v1)]) hx hb dX6_digest_30 rfl hl (by decide) rfl (fun ls hl => ?_)
    exact J_31 _ (fun v1 σ H locs ls hp hl h => J_110 v1 σ _ _ _ hp hl h) _ v1 (0 : Int32) σ _ _ _ hp (lv_sub hl [1, 2, 0] rfl) h
  unfold X6_digest at h
  have hl := lv_sub (l' := [(0, .ref (a 0))]) hl [0] rfl
  refine lv_ldc2 hx hb hown (hts _ tw_54_18) dX6_digest_0 ?_
  refine lv_lstore_n (lv' := [(1, .long (1877 : Int64)), (0, .ref (a 0))]) hx hb dX6_digest_3 rfl hl (by decide) rfl (fun ls hl => ?_)
  refine lv_iconst (v := 0) hx hb dX6_digest_4 (by decide) ?_
  refine lv_istore_n (lv' := [(3, .int (0 : Int32)), (1, .long (1877 : Int64)), (0, .ref (a 0))]) hx hb dX6_digest_5 rfl hl (by decide) rfl (fun ls hl => ?_)
  exact J_6 _ (fun v1 σ H locs ls hp hl h => J_29 v1 σ _ _ _ hp hl h) _ (1877 : Int64) (0 : Int32) σ _ _ _ hp (lv_sub hl [2, 1, 0] rfl) h
