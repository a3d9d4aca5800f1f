/- J7_fill_53178_a17 X0_bad X2_mark_a17 X2_unionOver_a15 X2_predecessorsOf X2_findDistances X2_findShortestLength X2_nextOf X2_classOf X2_goesAlike X2_refineClasses -/
def J7_fill_53178_a17_5b (k5 : (Int32 → St → Option (St))) (k20 : (St → Option (St))) (v1 : Int32) (v2 : Int32) (v3 : Int32) (σ : St) : Option (St) :=
  if v3 ≤ v2 then
    k20 σ
  else
    gd (inb v2 64) (
    nm (sa σ 5 v2.toNatClampNeg v1) (fun (σ3 : St) =>
    nm (v2 + (1 : Int32)) (fun (x4 : Int32) =>
    k5 x4 σ3)))
def J7_fill_53178_a17_5 (k20 : (St → Option (St))) (v1 : Int32) (v3 : Int32) : Nat → Int32 → St → Option (St)
  | 0, _, _ => none
  | n + 1, v2, σ => J7_fill_53178_a17_5b (fun v2 σ => J7_fill_53178_a17_5 k20 v1 v3 n v2 σ) k20 v1 v2 v3 σ
def J7_fill_53178_a17_20 (σ : St) : Option (St) :=
  some σ
def J7_fill_53178_a17 (N : Nat) (v1 : Int32) (σ : St) : Option (St) :=
  J7_fill_53178_a17_5 (fun σ => J7_fill_53178_a17_20 σ) v1 (64 : Int32) N (0 : Int32) σ
set_option maxRecDepth 20000 in
set_option maxHeartbeats 4000000 in
theorem c_J7_fill_53178_a17 {l : Launch} {D : va_G} {a : Nat → Nat} {cA : Nat → ClassId} {t : Nat} {F : (Nat → Prop) → State → Prop} (hF : EOK F) {σ : St} {N : Nat} {v1 : Int32} {σ' : St} (h : J7_fill_53178_a17 N v1 σ = some σ') : MetV l yJ7_fill_53178 cJ7_fill_53178 4 none 0 D (tyW cA) (wS a cA) (ES t F) [.ref (a 17), .int v1] σ σ' := by
  refine mkV (by decide) (adrS a cA) rfl (Nat.le_of_ble_eq_true rfl) ?_
  intro p e R s m args below meth c A Q ls X hR hp hl
  obtain ⟨hx, hb, -, hown, hts, -⟩ := id X
  have J_5 : ∀ (v1 : Int32) (v3 : Int32) (k20 : (St → Option (St))) (hk20 : ∀ (σ : St) (H : Heap) (locs : List Loc) (ls : Array Slot), Pw D (wS a cA) A s.heap H locs σ → lv_has ls 4 [] → k20 σ = some σ' → W p l e R s m args below meth c H locs 0 0 Q (F0 m 20 ls [])) (n : Nat) (v2 : Int32) (σ : St) (H : Heap) (locs : List Loc) (ls : Array Slot), Pw D (wS a cA) A s.heap H locs σ → lv_has ls 4 [(0, .ref (a 17)), (1, .int v1), (2, .int v2), (3, .int v3)] → J7_fill_53178_a17_5 k20 v1 v3 n v2 σ = some σ' → W p l e R s m args below meth c H locs 0 0 Q (F0 m 5 ls []) := by
    intro v1 v3 k20 hk20 n
    induction n with
    | zero => intro v2 σ H locs ls hp hl h; exact nn_s (show (none : Option (St)) = some _ from h)
    | succ n ih =>
      intro v2 σ H locs ls hp hl h
      have h : J7_fill_53178_a17_5b (fun v2 σ => J7_fill_53178_a17_5 k20 v1 v3 n v2 σ) k20 v1 v2 v3 σ = some σ' := h
      unfold J7_fill_53178_a17_5b at h
      have hk5 := ih
      refine lv_iload_n hx hb dJ7_fill_53178_5 rfl (lv_at hl 2 rfl) ?_
      refine lv_iload_n hx hb dJ7_fill_53178_6 rfl (lv_at hl 3 rfl) ?_
      refine lv_icmp_ge (tgt := 20) hx hb dJ7_fill_53178_7 (by decide) (fun c1 => ?_) (fun c1 => ?_)
      · have h := it_p h c1
        exact hk20 σ _ _ _ hp (lv_sub hl [] rfl) h
      · have h := it_n h c1
        refine lv_aload_n hx hb dJ7_fill_53178_10 rfl (lv_at hl 0 rfl) ?_
        refine lv_iload_n hx hb dJ7_fill_53178_11 rfl (lv_at hl 2 rfl) ?_
        refine lv_iload_n hx hb dJ7_fill_53178_12 rfl (lv_at hl 1 rfl) ?_
        obtain ⟨g2, h⟩ := gd_s h
        refine sS_X2_distances X hp g2 dJ7_fill_53178_13 (fun H locs σ3 eσ3 hp => ?_)
        have h := nm_s h σ3 eσ3
        obtain ⟨x4, ex4⟩ : ∃ z : Int32, z = v2 + (1 : Int32) := ⟨_, rfl⟩
        have h := nm_s h x4 ex4
        refine lv_iinc (v := x4) (lv' := [(2, .int x4), (0, .ref (a 17)), (1, .int v1), (3, .int v3)]) hx hb dJ7_fill_53178_14 hl (k := 2) rfl (by rw [ex4]; rfl) (by decide) rfl (fun ls hl => ?_)
        refine lv_goto (tgt := 5) hx hb dJ7_fill_53178_17 (by decide) ?_
        exact hk5 x4 σ3 _ _ _ hp (lv_sub hl [1, 2, 0, 3] rfl) h
  have J_20 : ∀  (σ : St) (H : Heap) (locs : List Loc) (ls : Array Slot), Pw D (wS a cA) A s.heap H locs σ → lv_has ls 4 [] → J7_fill_53178_a17_20 σ = some σ' → W p l e R s m args below meth c H locs 0 0 Q (F0 m 20 ls []) := by
    intro σ H locs ls hp hl h
    unfold J7_fill_53178_a17_20 at h
    exact hR _ _ _ _ _ dJ7_fill_53178_20 hp (Option.some.inj h)
  unfold J7_fill_53178_a17 at h
  have hl := lv_sub (l' := [(0, .ref (a 17)), (1, .int v1)]) hl [0, 1] rfl
  refine lv_iconst (v := 0) hx hb dJ7_fill_53178_0 (by decide) ?_
  refine lv_istore_n (lv' := [(2, .int (0 : Int32)), (0, .ref (a 17)), (1, .int v1)]) hx hb dJ7_fill_53178_1 rfl hl (by decide) rfl (fun ls hl => ?_)
  refine lv_aload_n hx hb dJ7_fill_53178_2 rfl (lv_at hl 1 rfl) ?_
  refine nS_X2_distances X hp dJ7_fill_53178_3 ?_
  refine lv_istore_n (lv' := [(3, .int (64 : Int32)), (2, .int (0 : Int32)), (0, .ref (a 17)), (1, .int v1)]) hx hb dJ7_fill_53178_4 rfl hl (by decide) rfl (fun ls hl => ?_)
  exact J_5 v1 (64 : Int32) _ (fun σ H locs ls hp hl h => J_20 σ _ _ _ hp hl h) _ (0 : Int32) σ _ _ _ hp (lv_sub hl [2, 3, 1, 0] rfl) h
def X0_bad (σ : St) : Option (Int64) :=
  bd (X0_good σ) (fun t1 =>
  some ((σ.2.1 0) &&& (t1 ^^^ (-1 : Int64))))
set_option maxRecDepth 20000 in
set_option maxHeartbeats 4000000 in
theorem c_X0_bad {l : Launch} {D : va_G} {a : Nat → Nat} {cA : Nat → ClassId} {t : Nat} {F : (Nat → Prop) → State → Prop} (hF : EOK F) {σ : St} {r : Int64} (h : X0_bad σ = some r) : MetL l yX0_bad cX0_bad 1 (some .long) 2 D (tyW cA) (wS a cA) (ES t F) [.ref (a 2)] σ r σ := by
  refine mkL (by decide) (adrS a cA) rfl (Nat.le_of_ble_eq_true rfl) ?_
  intro p e R s m args below meth c A Q ls X hR hp hl
  obtain ⟨hx, hb, -, hown, hts, -⟩ := id X
  unfold X0_bad at h
  have hl := lv_sub (l' := [(0, .ref (a 2))]) hl [0] rfl
  refine lv_aload_n hx hb dX0_bad_0 rfl (lv_at hl 0 rfl) ?_
  refine gS_X0_all X hp tw_3_9 dX0_bad_1 ?_
  refine lv_aload_n hx hb dX0_bad_4 rfl (lv_at hl 0 rfl) ?_
  obtain ⟨t1, ht1, h⟩ := bd_s h
  refine cl_Vl X (eokS hF) (c_X0_good hF ht1) tw_24_9 mw_X0_good (by decide) hp 2 rfl rfl rfl hl.1 rfl (Nat.le_of_ble_eq_true rfl) dX0_bad_5 (fun H locs hp => ?_)
  refine lv_ldc2 hx hb hown (hts _ tw_3_8) dX0_bad_8 ?_
  refine lv_lxor hx hb dX0_bad_11 ?_
  refine lv_land hx hb dX0_bad_12 ?_
  exact hR _ _ _ _ _ _ dX0_bad_13 hp (Option.some.inj h) rfl
def X2_mark_a17_3b (k3 : (Int32 → St → Option (St))) (k37 : (St → Option (St))) (v1 : Int64) (v3 : Int32) (v4 : Int32) (σ : St) : Option (St) :=
  if (64 : Int32) ≤ v4 then
    k37 σ
  else
    if (64 : Int32) ≤ v4 then
      k37 σ
    else
      bd (X6_contains v1 v4) (fun t3 =>
      if t3 = 0 then
        nm (v4 + (1 : Int32)) (fun (x5 : Int32) =>
        k3 x5 σ)
      else
        gd (inb v4 64) (
        nm (sa σ 5 v4.toNatClampNeg v3) (fun (σ7 : St) =>
        nm (v4 + (1 : Int32)) (fun (x8 : Int32) =>
        k3 x8 σ7))))
def X2_mark_a17_3 (k37 : (St → Option (St))) (v1 : Int64) (v3 : Int32) : Nat → Int32 → St → Option (St)
  | 0, _, _ => none
  | n + 1, v4, σ => X2_mark_a17_3b (fun v4 σ => X2_mark_a17_3 k37 v1 v3 n v4 σ) k37 v1 v3 v4 σ
def X2_mark_a17_37 (σ : St) : Option (St) :=
  some σ
def X2_mark_a17 (N : Nat) (v1 : Int64) (v3 : Int32) (σ : St) : Option (St) :=
  X2_mark_a17_3 (fun σ => X2_mark_a17_37 σ) v1 v3 N (0 : Int32) σ
set_option maxRecDepth 20000 in
set_option maxHeartbeats 4000000 in
theorem c_X2_mark_a17 {l : Launch} {D : va_G} {a : Nat → Nat} {cA : Nat → ClassId} {t : Nat} {F : (Nat → Prop) → State → Prop} (hF : EOK F) {σ : St} {N : Nat} {v1 : Int64} {v3 : Int32} {σ' : St} (h : X2_mark_a17 N v1 v3 σ = some σ') : MetV l yX2_mark cX2_mark 5 none 1 D (tyW cA) (wS a cA) (ES t F) [.ref (a 17), .long v1, .int v3] σ σ' := by
  refine mkV (by decide) (adrS a cA) rfl (Nat.le_of_ble_eq_true rfl) ?_
  intro p e R s m args below meth c A Q ls X hR hp hl
  obtain ⟨hx, hb, -, hown, hts, -⟩ := id X
  have J_3 : ∀ (v1 : Int64) (v3 : Int32) (k37 : (St → Option (St))) (hk37 : ∀ (σ : St) (H : Heap) (locs : List Loc) (ls : Array Slot), Pw D (wS a cA) A s.heap H locs σ → lv_has ls 5 [] → k37 σ = some σ' → W p l e R s m args below meth c H locs 0 0 Q (F0 m 37 ls [])) (n : Nat) (v4 : Int32) (σ : St) (H : Heap) (locs : List Loc) (ls : Array Slot), Pw D (wS a cA) A s.heap H locs σ → lv_has ls 5 [(0, .ref (a 17)), (1, .long v1), (3, .int v3), (4, .int v4)] → X2_mark_a17_3 k37 v1 v3 n v4 σ = some σ' → W p l e R s m args below meth c H locs 0 0 Q (F0 m 3 ls []) := by
    intro v1 v3 k37 hk37 n
    induction n with
    | zero => intro v4 σ H locs ls hp hl h; exact nn_s (show (none : Option (St)) = some _ from h)
    | succ n ih =>
      intro v4 σ H locs ls hp hl h
      have h : X2_mark_a17_3b (fun v4 σ => X2_mark_a17_3 k37 v1 v3 n v4 σ) k37 v1 v3 v4 σ = some σ' := h
      unfold X2_mark_a17_3b at h
      have hk3 := ih
      refine lv_iload hx hb dX2_mark_3 (lv_at hl 3 rfl) ?_
      refine lv_aload_n hx hb dX2_mark_5 rfl (lv_at hl 0 rfl) ?_
      refine nS_X2_distances X hp dX2_mark_6 ?_
      refine lv_icmp_ge (tgt := 37) hx hb dX2_mark_7 (by decide) (fun c1 => ?_) (fun c1 => ?_)
      · have h := it_p h c1
        exact hk37 σ _ _ _ hp (lv_sub hl [] rfl) h
      · have h := it_n h c1
        refine lv_iload hx hb dX2_mark_10 (lv_at hl 3 rfl) ?_
        refine lv_bipush (v := 64) hx hb dX2_mark_12 (by decide) ?_
        refine lv_icmp_ge (tgt := 37) hx hb dX2_mark_14 (by decide) (fun c2 => ?_) (fun c2 => ?_)
        · have h := it_p h c2
          exact hk37 σ _ _ _ hp (lv_sub hl [] rfl) h
        · have h := it_n h c2
          refine lv_lload_n hx hb dX2_mark_17 rfl (lv_at hl 1 rfl) ?_
          refine lv_iload hx hb dX2_mark_18 (lv_at hl 3 rfl) ?_
          obtain ⟨t3, ht3, h⟩ := bd_s h
          refine cl_Ni X (eokS hF) (c_X6_contains (adrS a cA) (eokS hF) ht3) (nwS X (List.mem_of_getElem? (i := 6) rfl)) mw_X6_contains (by decide) hp hl.1 rfl (Nat.le_of_ble_eq_true rfl) dX2_mark_20 (fun H locs hp => ?_)
          refine lv_if_eq (tgt := 31) hx hb dX2_mark_23 (by decide) (fun c4 => ?_) (fun c4 => ?_)
          · have h := it_p h c4
            obtain ⟨x5, ex5⟩ : ∃ z : Int32, z = v4 + (1 : Int32) := ⟨_, rfl⟩
            have h := nm_s h x5 ex5
            refine lv_iinc (v := x5) (lv' := [(4, .int x5), (0, .ref (a 17)), (1, .long v1), (3, .int v3)]) hx hb dX2_mark_31 hl (k := 3) rfl (by rw [ex5]; rfl) (by decide) rfl (fun ls hl => ?_)
            refine lv_goto (tgt := 3) hx hb dX2_mark_34 (by decide) ?_
            exact hk3 x5 σ _ _ _ hp (lv_sub hl [1, 2, 3, 0] rfl) h
          · have h := it_n h c4
            refine lv_aload_n hx hb dX2_mark_26 rfl (lv_at hl 0 rfl) ?_
            refine lv_iload hx hb dX2_mark_27 (lv_at hl 3 rfl) ?_
            refine lv_iload_n hx hb dX2_mark_29 rfl (lv_at hl 2 rfl) ?_
            obtain ⟨g6, h⟩ := gd_s h
            refine sS_X2_distances X hp g6 dX2_mark_30 (fun H locs σ7 eσ7 hp => ?_)
            have h := nm_s h σ7 eσ7
            obtain ⟨x8, ex8⟩ : ∃ z : Int32, z = v4 + (1 : Int32) := ⟨_, rfl⟩
            have h := nm_s h x8 ex8
            refine lv_iinc (v := x8) (lv' := [(4, .int x8), (0, .ref (a 17)), (1, .long v1), (3, .int v3)]) hx hb dX2_mark_31 hl (k := 3) rfl (by rw [ex8]; rfl) (by decide) rfl (fun ls hl => ?_)
            refine lv_goto (tgt := 3) hx hb dX2_mark_34 (by decide) ?_
            exact hk3 x8 σ7 _ _ _ hp (lv_sub hl [1, 2, 3, 0] rfl) h
  have J_37 : ∀  (σ : St) (H : Heap) (locs : List Loc) (ls : Array Slot), Pw D (wS a cA) A s.heap H locs σ → lv_has ls 5 [] → X2_mark_a17_37 σ = some σ' → W p l e R s m args below meth c H locs 0 0 Q (F0 m 37 ls []) := by
    intro σ H locs ls hp hl h
    unfold X2_mark_a17_37 at h
    exact hR _ _ _ _ _ dX2_mark_37 hp (Option.some.inj h)
  unfold X2_mark_a17 at h
  have hl := lv_sub (l' := [(0, .ref (a 17)), (1, .long v1), (3, .int v3)]) hl [0, 1, 2] rfl
  refine lv_iconst (v := 0) hx hb dX2_mark_0 (by decide) ?_
  refine lv_istore (lv' := [(4, .int (0 : Int32)), (0, .ref (a 17)), (1, .long v1), (3, .int v3)]) hx hb dX2_mark_1 hl (by decide) rfl (fun ls hl => ?_)
  exact J_3 v1 v3 _ (fun σ H locs ls hp hl h => J_37 σ _ _ _ hp hl h) _ (0 : Int32) σ _ _ _ hp (lv_sub hl [1, 2, 3, 0] rfl) h
def X2_unionOver_a15_48 (k8 : (Int64 → Int64 → Int32 → Option (Int64))) (σ : St) (v3 : Int64) (v5 : Int64) (v7 : Int32) : Option (Int64) :=
  nm (v5 &&& (v5 - (1 : Int64))) (fun (x1 : Int64) =>
  nm (v7 + (1 : Int32)) (fun (x2 : Int32) =>
  k8 v3 x1 x2))
def X2_unionOver_a15_8b (k8 : (Int64 → Int64 → Int32 → Option (Int64))) (k63 : (Int64 → Option (Int64))) (σ : St) (v3 : Int64) (v5 : Int64) (v7 : Int32) : Option (Int64) :=
  if (64 : Int32) ≤ v7 then
    k63 v3
  else
    if v5 = (0 : Int64) then
      k63 v3
    else
      bd (X6_leastOf v5) (fun t3 =>
      if t3 < 0 then
        X2_unionOver_a15_48 k8 σ v3 v5 v7
      else
        if (64 : Int32) ≤ t3 then
          X2_unionOver_a15_48 k8 σ v3 v5 v7
        else
          gd (inb t3 64) (
          nm (v3 ||| (σ.2.2.2 4 t3.toNatClampNeg)) (fun (x7 : Int64) =>
          X2_unionOver_a15_48 k8 σ x7 v5 v7)))
def X2_unionOver_a15_8 (k63 : (Int64 → Option (Int64))) (σ : St) : Nat → Int64 → Int64 → Int32 → Option (Int64)
  | 0, _, _, _ => none
  | n + 1, v3, v5, v7 => X2_unionOver_a15_8b (fun v3 v5 v7 => X2_unionOver_a15_8 k63 σ n v3 v5 v7) k63 σ v3 v5 v7
def X2_unionOver_a15_63 (σ : St) (v3 : Int64) : Option (Int64) :=
  some v3
def X2_unionOver_a15 (N : Nat) (σ : St) (v0 : Int64) : Option (Int64) :=
  X2_unionOver_a15_8 (fun v3 => X2_unionOver_a15_63 σ v3) σ N (0 : Int64) v0 (0 : Int32)
set_option maxRecDepth 20000 in
set_option maxHeartbeats 4000000 in
theorem c_X2_unionOver_a15 {l : Launch} {D : va_G} {a : Nat → Nat} {cA : Nat → ClassId} {t : Nat} {F : (Nat → Prop) → State → Prop} (hF : EOK F) {σ : St} {N : Nat} {v0 : Int64} {r : Int64} (h : X2_unionOver_a15 N σ v0 = some r) : MetL l yX2_unionOver cX2_unionOver 9 (some .long) 2 D (tyW cA) (wS a cA) (ES t F) [.long v0, .ref (a 15)] σ r σ := by
  refine mkL (by decide) (adrS a cA) rfl (Nat.le_of_ble_eq_true rfl) ?_
  intro p e R s m args below meth c A Q ls X hR hp hl
  obtain ⟨hx, hb, -, hown, hts, -⟩ := id X
  have J_48 : ∀ (v3 : Int64) (v5 : Int64) (v7 : Int32) (k8 : (Int64 → Int64 → Int32 → Option (Int64))) (hk8 : ∀ (v3 : Int64) (v5 : Int64) (v7 : Int32) (H : Heap) (locs : List Loc) (ls : Array Slot), Pw D (wS a cA) A s.heap H locs σ → lv_has ls 9 [(2, .ref (a 15)), (3, .long v3), (5, .long v5), (7, .int v7)] → k8 v3 v5 v7 = some r → W p l e R s m args below meth c H locs 0 0 Q (F0 m 8 ls [])) (H : Heap) (locs : List Loc) (ls : Array Slot), Pw D (wS a cA) A s.heap H locs σ → lv_has ls 9 [(2, .ref (a 15)), (3, .long v3), (5, .long v5), (7, .int v7)] → X2_unionOver_a15_48 k8 σ v3 v5 v7 = some r → W p l e R s m args below meth c H locs 0 0 Q (F0 m 48 ls []) := by
    intro v3 v5 v7 k8 hk8 H locs ls hp hl h
    unfold X2_unionOver_a15_48 at h
    refine lv_lload hx hb dX2_unionOver_48 (lv_at hl 2 rfl) ?_
    refine lv_lload hx hb dX2_unionOver_50 (lv_at hl 2 rfl) ?_
    refine lv_lconst (v := 1) hx hb dX2_unionOver_52 (by decide) ?_
    refine lv_lsub hx hb dX2_unionOver_53 ?_
    refine lv_land hx hb dX2_unionOver_54 ?_
    refine lv_topl (fun x1 ex1 => ?_)
    have h := nm_s h x1 ex1
    refine lv_lstore (lv' := [(5, .long x1), (2, .ref (a 15)), (3, .long v3), (7, .int v7)]) hx hb dX2_unionOver_55 hl (by decide) rfl (fun ls hl => ?_)
    obtain ⟨x2, ex2⟩ : ∃ z : Int32, z = v7 + (1 : Int32) := ⟨_, rfl⟩
    have h := nm_s h x2 ex2
    refine lv_iinc (v := x2) (lv' := [(7, .int x2), (5, .long x1), (2, .ref (a 15)), (3, .long v3)]) hx hb dX2_unionOver_57 hl (k := 3) rfl (by rw [ex2]; rfl) (by decide) rfl (fun ls hl => ?_)
    refine lv_goto (tgt := 8) hx hb dX2_unionOver_60 (by decide) ?_
    exact hk8 v3 x1 x2 _ _ _ hp (lv_sub hl [2, 3, 1, 0] rfl) h
  have J_8 : ∀  (k63 : (Int64 → Option (Int64))) (hk63 : ∀ (v3 : Int64) (H : Heap) (locs : List Loc) (ls : Array Slot), Pw D (wS a cA) A s.heap H locs σ → lv_has ls 9 [(3, .long v3)] → k63 v3 = some r → W p l e R s m args below meth c H locs 0 0 Q (F0 m 63 ls [])) (n : Nat) (v3 : Int64) (v5 : Int64) (v7 : Int32) (H : Heap) (locs : List Loc) (ls : Array Slot), Pw D (wS a cA) A s.heap H locs σ → lv_has ls 9 [(2, .ref (a 15)), (3, .long v3), (5, .long v5), (7, .int v7)] → X2_unionOver_a15_8 k63 σ n v3 v5 v7 = some r → W p l e R s m args below meth c H locs 0 0 Q (F0 m 8 ls []) := by
    intro k63 hk63 n
    induction n with
    | zero => intro v3 v5 v7 H locs ls hp hl h; exact nn_s (show (none : Option (Int64)) = some _ from h)
    | succ n ih =>
      intro v3 v5 v7 H locs ls hp hl h
      have h : X2_unionOver_a15_8b (fun v3 v5 v7 => X2_unionOver_a15_8 k63 σ n v3 v5 v7) k63 σ v3 v5 v7 = some r := h
      unfold X2_unionOver_a15_8b at h
      have hk8 := ih
      refine lv_iload hx hb dX2_unionOver_8 (lv_at hl 3 rfl) ?_
      refine lv_bipush (v := 64) hx hb dX2_unionOver_10 (by decide) ?_
      refine lv_icmp_ge (tgt := 63) hx hb dX2_unionOver_12 (by decide) (fun c1 => ?_) (fun c1 => ?_)
      · have h := it_p h c1
        exact hk63 v3 _ _ _ hp (lv_sub hl [1] rfl) h
      · have h := it_n h c1
        refine lv_lload hx hb dX2_unionOver_15 (lv_at hl 2 rfl) ?_
        refine lv_lconst (v := 0) hx hb dX2_unionOver_17 (by decide) ?_
        refine W.lcmp hx hb dX2_unionOver_18 ?_
        refine lv_if_eq (tgt := 63) hx hb dX2_unionOver_19 (by decide) (fun c2 => ?_) (fun c2 => ?_)
        · have h := it_p h (lcmp0.mp c2)
          exact hk63 v3 _ _ _ hp (lv_sub hl [1] rfl) h
        · have h := it_n h (fun q => c2 (lcmp0.mpr q))
          refine lv_lload hx hb dX2_unionOver_22 (lv_at hl 2 rfl) ?_
          obtain ⟨t3, ht3, h⟩ := bd_s h
          refine cl_Ni X (eokS hF) (c_X6_leastOf (adrS a cA) (eokS hF) ht3) (nwS X (List.mem_of_getElem? (i := 7) rfl)) mw_X6_leastOf (by decide) hp hl.1 rfl (Nat.le_of_ble_eq_true rfl) dX2_unionOver_24 (fun H locs hp => ?_)
          refine lv_istore (lv' := [(8, .int t3), (2, .ref (a 15)), (3, .long v3), (5, .long v5), (7, .int v7)]) hx hb dX2_unionOver_27 hl (by decide) rfl (fun ls hl => ?_)
          refine lv_iload hx hb dX2_unionOver_29 (lv_at hl 0 rfl) ?_
          refine lv_if_lt (tgt := 48) hx hb dX2_unionOver_31 (by decide) (fun c4 => ?_) (fun c4 => ?_)
          · have h := it_p h c4
            exact J_48 v3 v5 v7 _ hk8 _ _ _ hp (lv_sub hl [1, 2, 3, 4] rfl) h
          · have h := it_n h c4
            refine lv_iload hx hb dX2_unionOver_34 (lv_at hl 0 rfl) ?_
            refine lv_aload_n hx hb dX2_unionOver_36 rfl (lv_at hl 1 rfl) ?_
            refine nS_X2_predecessorSets X hp dX2_unionOver_37 ?_
            refine lv_icmp_ge (tgt := 48) hx hb dX2_unionOver_38 (by decide) (fun c5 => ?_) (fun c5 => ?_)
            · have h := it_p h c5
              exact J_48 v3 v5 v7 _ hk8 _ _ _ hp (lv_sub hl [1, 2, 3, 4] rfl) h
            · have h := it_n h c5
              refine lv_lload_n hx hb dX2_unionOver_41 rfl (lv_at hl 2 rfl) ?_
              refine lv_aload_n hx hb dX2_unionOver_42 rfl (lv_at hl 1 rfl) ?_
              refine lv_iload hx hb dX2_unionOver_43 (lv_at hl 0 rfl) ?_
              obtain ⟨g6, h⟩ := gd_s h
              refine lS_X2_predecessorSets X hp g6 dX2_unionOver_45 ?_
              refine lv_lor hx hb dX2_unionOver_46 ?_
              refine lv_topl (fun x7 ex7 => ?_)
              have h := nm_s h x7 ex7
              refine lv_lstore_n (lv' := [(3, .long x7), (8, .int t3), (2, .ref (a 15)), (5, .long v5), (7, .int v7)]) hx hb dX2_unionOver_47 rfl hl (by decide) rfl (fun ls hl => ?_)
              exact J_48 x7 v5 v7 _ hk8 _ _ _ hp (lv_sub hl [2, 0, 3, 4] rfl) h
  have J_63 : ∀ (v3 : Int64) (H : Heap) (locs : List Loc) (ls : Array Slot), Pw D (wS a cA) A s.heap H locs σ → lv_has ls 9 [(3, .long v3)] → X2_unionOver_a15_63 σ v3 = some r → W p l e R s m args below meth c H locs 0 0 Q (F0 m 63 ls []) := by
    intro v3 H locs ls hp hl h
    unfold X2_unionOver_a15_63 at h
    refine lv_lload_n hx hb dX2_unionOver_63 rfl (lv_at hl 0 rfl) ?_
    exact hR _ _ _ _ _ _ dX2_unionOver_64 hp (Option.some.inj h) rfl
  unfold X2_unionOver_a15 at h
  have hl := lv_sub (l' := [(0, .long v0), (2, .ref (a 15))]) hl [0, 1] rfl
  refine lv_lconst (v := 0) hx hb dX2_unionOver_0 (by decide) ?_
  refine lv_lstore_n (lv' := [(3, .long (0 : Int64)), (0, .long v0), (2, .ref (a 15))]) hx hb dX2_unionOver_1 rfl hl (by decide) rfl (fun ls hl => ?_)
  refine lv_lload_n hx hb dX2_unionOver_2 rfl (lv_at hl 1 rfl) ?_
  refine lv_lstore (lv' := [(5, .long v0), (3, .long (0 : Int64)), (0, .long v0), (2, .ref (a 15))]) hx hb dX2_unionOver_3 hl (by decide) rfl (fun ls hl => ?_)
  refine lv_iconst (v := 0) hx hb dX2_unionOver_5 (by decide) ?_
  refine lv_istore (lv' := [(7, .int (0 : Int32)), (5, .long v0), (3, .long (0 : Int64)), (0, .long v0), (2, .ref (a 15))]) hx hb dX2_unionOver_6 hl (by decide) rfl (fun ls hl => ?_)
  exact J_8 _ (fun v3 H locs ls hp hl h => J_63 v3 _ _ _ hp hl h) _ (0 : Int64) v0 (0 : Int32) _ _ _ hp (lv_sub hl [4, 2, 1, 0] rfl) h
def X2_predecessorsOf (N : Nat) (σ : St) (v1 : Int64) : Option (Int64) :=
  bd (X2_unionOver_a15 N σ v1) (fun t1 =>
  some t1)
set_option maxRecDepth 20000 in
set_option maxHeartbeats 4000000 in
theorem c_X2_predecessorsOf {l : Launch} {D : va_G} {a : Nat → Nat} {cA : Nat → ClassId} {t : Nat} {F : (Nat → Prop) → State → Prop} (hF : EOK F) {σ : St} {N : Nat} {v1 : Int64} {r : Int64} (h : X2_predecessorsOf N σ v1 = some r) : MetL l yX2_predecessorsOf cX2_predecessorsOf 3 (some .long) 3 D (tyW cA) (wS a cA) (ES t F) [.ref (a 3), .long v1] σ r σ := by
  refine mkL (by decide) (adrS a cA) rfl (Nat.le_of_ble_eq_true rfl) ?_
  intro p e R s m args below meth c A Q ls X hR hp hl
  obtain ⟨hx, hb, -, hown, hts, -⟩ := id X
  unfold X2_predecessorsOf at h
  have hl := lv_sub (l' := [(0, .ref (a 3)), (1, .long v1)]) hl [0, 1] rfl
  refine lv_lload_n hx hb dX2_predecessorsOf_0 rfl (lv_at hl 1 rfl) ?_
  refine lv_aload_n hx hb dX2_predecessorsOf_1 rfl (lv_at hl 0 rfl) ?_
  refine gS_X2_predecessorSets X hp tw_4_3 dX2_predecessorsOf_2 ?_
  obtain ⟨t1, ht1, h⟩ := bd_s h
  refine cl_Sl X (eokS hF) (c_X2_unionOver_a15 hF ht1) tw_23_20 mw_X2_unionOver (by decide) hp hl.1 rfl (Nat.le_of_ble_eq_true rfl) dX2_predecessorsOf_5 (fun H locs hp => ?_)
  exact hR _ _ _ _ _ _ dX2_predecessorsOf_8 hp (Option.some.inj h) rfl
def X2_findDistances_21b (N : Nat) (k21 : (Int64 → Int64 → Int32 → St → Option (St))) (k66 : (St → Option (St))) (v1 : Int64) (v3 : Int64) (v5 : Int32) (σ : St) : Option (St) :=
  if (64 : Int32) ≤ v5 then
    k66 σ
  else
    if v3 = (0 : Int64) then
      k66 σ
    else
      bd (X2_mark_a17 N v3 v5 σ) (fun t3 =>
      nm (v1 ||| v3) (fun (x4 : Int64) =>
      bd (X2_predecessorsOf N t3 v3) (fun t5 =>
      nm (t5 &&& (x4 ^^^ (-1 : Int64))) (fun (x6 : Int64) =>
      nm (v5 + (1 : Int32)) (fun (x7 : Int32) =>
      k21 x4 x6 x7 t3)))))
def X2_findDistances_21 (N : Nat) (k66 : (St → Option (St))) : Nat → Int64 → Int64 → Int32 → St → Option (St)
  | 0, _, _, _, _ => none
  | n + 1, v1, v3, v5, σ => X2_findDistances_21b N (fun v1 v3 v5 σ => X2_findDistances_21 N k66 n v1 v3 v5 σ) k66 v1 v3 v5 σ
def X2_findDistances_66 (σ : St) : Option (St) :=
  some σ
def X2_findDistances (N : Nat) (σ : St) : Option (St) :=
  bd (J7_fill_53178_a17 N (-1 : Int32) σ) (fun t1 =>
  bd (X0_bad t1) (fun t2 =>
  X2_findDistances_21 N (fun σ => X2_findDistances_66 σ) N (0 : Int64) t2 (0 : Int32) t1))
set_option maxRecDepth 20000 in
set_option maxHeartbeats 4000000 in
theorem c_X2_findDistances {l : Launch} {D : va_G} {a : Nat → Nat} {cA : Nat → ClassId} {t : Nat} {F : (Nat → Prop) → State → Prop} (hF : EOK F) {σ : St} {N : Nat} {σ' : St} (h : X2_findDistances N σ = some σ') : MetV l yX2_findDistances cX2_findDistances 6 none 4 D (tyW cA) (wS a cA) (ES t F) [.ref (a 3)] σ σ' := by
  refine mkV (by decide) (adrS a cA) rfl (Nat.le_of_ble_eq_true rfl) ?_
  intro p e R s m args below meth c A Q ls X hR hp hl
  obtain ⟨hx, hb, -, hown, hts, -⟩ := id X
  have J_21 : ∀  (k66 : (St → Option (St))) (hk66 : ∀ (σ : St) (H : Heap) (locs : List Loc) (ls : Array Slot), Pw D (wS a cA) A s.heap H locs σ → lv_has ls 6 [(0, .ref (a 3))] → k66 σ = some σ' → W p l e R s m args below meth c H locs 0 0 Q (F0 m 66 ls [])) (n : Nat) (v1 : Int64) (v3 : Int64) (v5 : Int32) (σ : St) (H : Heap) (locs : List Loc) (ls : Array Slot), Pw D (wS a cA) A s.heap H locs σ → lv_has ls 6 [(0, .ref (a 3)), (1, .long v1), (3, .long v3), (5, .int v5)] → X2_findDistances_21 N k66 n v1 v3 v5 σ = some σ' → W p l e R s m args below meth c H locs 0 0 Q (F0 m 21 ls []) := by
    intro k66 hk66 n
    induction n with
    | zero => intro v1 v3 v5 σ H locs ls hp hl h; exact nn_s (show (none : Option (St)) = some _ from h)
    | succ n ih =>
      intro v1 v3 v5 σ H locs ls hp hl h
      have h : X2_findDistances_21b N (fun v1 v3 v5 σ => X2_findDistances_21 N k66 n v1 v3 v5 σ) k66 v1 v3 v5 σ = some σ' := h
      unfold X2_findDistances_21b at h
      have hk21 := ih
      refine lv_iload hx hb dX2_findDistances_21 (lv_at hl 3 rfl) ?_
      refine lv_bipush (v := 64) hx hb dX2_findDistances_23 (by decide) ?_
      refine lv_icmp_ge (tgt := 66) hx hb dX2_findDistances_25 (by decide) (fun c1 => ?_) (fun c1 => ?_)
      · have h := it_p h c1
        exact hk66 σ _ _ _ hp (lv_sub hl [0] rfl) h
      · have h := it_n h c1
        refine lv_lload_n hx hb dX2_findDistances_28 rfl (lv_at hl 2 rfl) ?_
        refine lv_lconst (v := 0) hx hb dX2_findDistances_29 (by decide) ?_
        refine W.lcmp hx hb dX2_findDistances_30 ?_
        refine lv_if_eq (tgt := 66) hx hb dX2_findDistances_31 (by decide) (fun c2 => ?_) (fun c2 => ?_)
        · have h := it_p h (lcmp0.mp c2)
          exact hk66 σ _ _ _ hp (lv_sub hl [0] rfl) h
        · have h := it_n h (fun q => c2 (lcmp0.mpr q))
          refine lv_aload_n hx hb dX2_findDistances_34 rfl (lv_at hl 0 rfl) ?_
          refine gS_X2_distances X hp tw_4_5 dX2_findDistances_35 ?_
          refine lv_lload_n hx hb dX2_findDistances_38 rfl (lv_at hl 2 rfl) ?_
          refine lv_iload hx hb dX2_findDistances_39 (lv_at hl 3 rfl) ?_
          obtain ⟨t3, ht3, h⟩ := bd_s h
          refine cl_Sv X (eokS hF) (c_X2_mark_a17 hF ht3) tw_23_13 mw_X2_mark (by decide) hp hl.1 rfl (Nat.le_of_ble_eq_true rfl) dX2_findDistances_41 (fun H locs hp => ?_)
          refine lv_lload_n hx hb dX2_findDistances_44 rfl (lv_at hl 1 rfl) ?_
          refine lv_lload_n hx hb dX2_findDistances_45 rfl (lv_at hl 2 rfl) ?_
          refine lv_lor hx hb dX2_findDistances_46 ?_
          refine lv_topl (fun x4 ex4 => ?_)
          have h := nm_s h x4 ex4
          refine lv_lstore_n (lv' := [(1, .long x4), (0, .ref (a 3)), (3, .long v3), (5, .int v5)]) hx hb dX2_findDistances_47 rfl hl (by decide) rfl (fun ls hl => ?_)
          refine lv_aload_n hx hb dX2_findDistances_48 rfl (lv_at hl 1 rfl) ?_
          refine lv_lload_n hx hb dX2_findDistances_49 rfl (lv_at hl 2 rfl) ?_
          obtain ⟨t5, ht5, h⟩ := bd_s h
          refine cl_Vl X (eokS hF) (c_X2_predecessorsOf hF ht5) tw_24_10 mw_X2_predecessorsOf (by decide) hp 3 rfl rfl rfl hl.1 rfl (Nat.le_of_ble_eq_true rfl) dX2_findDistances_50 (fun H locs hp => ?_)
          refine lv_lload_n hx hb dX2_findDistances_53 rfl (lv_at hl 0 rfl) ?_
          refine lv_ldc2 hx hb hown (hts _ tw_23_8) dX2_findDistances_54 ?_
          refine lv_lxor hx hb dX2_findDistances_57 ?_
          refine lv_land hx hb dX2_findDistances_58 ?_
          refine lv_topl (fun x6 ex6 => ?_)
          have h := nm_s h x6 ex6
          refine lv_lstore_n (lv' := [(3, .long x6), (1, .long x4), (0, .ref (a 3)), (5, .int v5)]) hx hb dX2_findDistances_59 rfl hl (by decide) rfl (fun ls hl => ?_)
          obtain ⟨x7, ex7⟩ : ∃ z : Int32, z = v5 + (1 : Int32) := ⟨_, rfl⟩
          have h := nm_s h x7 ex7
          refine lv_iinc (v := x7) (lv' := [(5, .int x7), (3, .long x6), (1, .long x4), (0, .ref (a 3))]) hx hb dX2_findDistances_60 hl (k := 3) rfl (by rw [ex7]; rfl) (by decide) rfl (fun ls hl => ?_)
          refine lv_goto (tgt := 21) hx hb dX2_findDistances_63 (by decide) ?_
          exact hk21 x4 x6 x7 t3 _ _ _ hp (lv_sub hl [3, 2, 1, 0] rfl) h
  have J_66 : ∀  (σ : St) (H : Heap) (locs : List Loc) (ls : Array Slot), Pw D (wS a cA) A s.heap H locs σ → lv_has ls 6 [(0, .ref (a 3))] → X2_findDistances_66 σ = some σ' → W p l e R s m args below meth c H locs 0 0 Q (F0 m 66 ls []) := by
    intro σ H locs ls hp hl h
    unfold X2_findDistances_66 at h
    exact hR _ _ _ _ _ dX2_findDistances_66 hp (Option.some.inj h)
  unfold X2_findDistances at h
  have hl := lv_sub (l' := [(0, .ref (a 3))]) hl [0] rfl
  refine lv_aload_n hx hb dX2_findDistances_0 rfl (lv_at hl 0 rfl) ?_
  refine gS_X2_distances X hp tw_4_5 dX2_findDistances_1 ?_
  refine lv_iconst (v := -1) hx hb dX2_findDistances_4 (by decide) ?_
  obtain ⟨t1, ht1, h⟩ := bd_s h
  refine cl_Sv X (eokS hF) (c_J7_fill_53178_a17 hF ht1) tw_23_9 mw_J7_fill_53178 (by decide) hp hl.1 rfl (Nat.le_of_ble_eq_true rfl) dX2_findDistances_5 (fun H locs hp => ?_)
  refine lv_lconst (v := 0) hx hb dX2_findDistances_8 (by decide) ?_
  refine lv_lstore_n (lv' := [(1, .long (0 : Int64)), (0, .ref (a 3))]) hx hb dX2_findDistances_9 rfl hl (by decide) rfl (fun ls hl => ?_)
  refine lv_aload_n hx hb dX2_findDistances_10 rfl (lv_at hl 1 rfl) ?_
  refine gS_X2_circuit X hp tw_4_0 dX2_findDistances_11 ?_
  obtain ⟨t2, ht2, h⟩ := bd_s h
  refine cl_Vl X (eokS hF) (c_X0_bad hF ht2) tw_24_5 mw_X0_bad (by decide) hp 2 rfl rfl rfl hl.1 rfl (Nat.le_of_ble_eq_true rfl) dX2_findDistances_14 (fun H locs hp => ?_)
  refine lv_lstore_n (lv' := [(3, .long t2), (1, .long (0 : Int64)), (0, .ref (a 3))]) hx hb dX2_findDistances_17 rfl hl (by decide) rfl (fun ls hl => ?_)
  refine lv_iconst (v := 0) hx hb dX2_findDistances_18 (by decide) ?_
  refine lv_istore (lv' := [(5, .int (0 : Int32)), (3, .long t2), (1, .long (0 : Int64)), (0, .ref (a 3))]) hx hb dX2_findDistances_19 hl (by decide) rfl (fun ls hl => ?_)
  exact J_21 _ (fun σ H locs ls hp hl h => J_66 σ _ _ _ hp hl h) _ (0 : Int64) t2 (0 : Int32) t1 _ _ _ hp (lv_sub hl [3, 2, 1, 0] rfl) h
def X2_findShortestLength_68 (k7 : (Int32 → St → Option (St))) (v1 : Int32) (σ : St) : Option (St) :=
  gd (inb v1 64) (
  nm (si σ 12 (σ.2.2.1 5 v1.toNatClampNeg)) (fun (σ2 : St) =>
  nm (v1 + (1 : Int32)) (fun (x3 : Int32) =>
  k7 x3 σ2)))
def X2_findShortestLength_42 (k7 : (Int32 → St → Option (St))) (v1 : Int32) (u0 : Int32) (σ : St) : Option (St) :=
  if u0 = 0 then
    nm (v1 + (1 : Int32)) (fun (x2 : Int32) =>
    k7 x2 σ)
  else
    if (σ.1 12) = (-1 : Int32) then
      X2_findShortestLength_68 k7 v1 σ
    else
      gd (inb v1 64) (
      if (σ.1 12) ≤ (σ.2.2.1 5 v1.toNatClampNeg) then
        nm (v1 + (1 : Int32)) (fun (x6 : Int32) =>
        k7 x6 σ)
      else
        X2_findShortestLength_68 k7 v1 σ)
def X2_findShortestLength_7b (k7 : (Int32 → St → Option (St))) (k84 : (St → Option (St))) (v1 : Int32) (σ : St) : Option (St) :=
  if (64 : Int32) ≤ v1 then
    k84 σ
  else
    bd (X0_initial σ) (fun t2 =>
    bd (X6_contains t2 v1) (fun t3 =>
    if t3 = 0 then
      X2_findShortestLength_42 k7 v1 (0 : Int32) σ
    else
      gd (inb v1 64) (
      if (σ.2.2.1 5 v1.toNatClampNeg) = (-1 : Int32) then
        X2_findShortestLength_42 k7 v1 (0 : Int32) σ
      else
        X2_findShortestLength_42 k7 v1 (1 : Int32) σ)))
def X2_findShortestLength_7 (k84 : (St → Option (St))) : Nat → Int32 → St → Option (St)
  | 0, _, _ => none
  | n + 1, v1, σ => X2_findShortestLength_7b (fun v1 σ => X2_findShortestLength_7 k84 n v1 σ) k84 v1 σ
def X2_findShortestLength_84 (σ : St) : Option (St) :=
  some σ
def X2_findShortestLength (N : Nat) (σ : St) : Option (St) :=
  nm (si σ 12 (-1 : Int32)) (fun (σ1 : St) =>
  X2_findShortestLength_7 (fun σ => X2_findShortestLength_84 σ) N (0 : Int32) σ1)
set_option maxRecDepth 20000 in
set_option maxHeartbeats 4000000 in
theorem c_X2_findShortestLength {l : Launch} {D : va_G} {a : Nat → Nat} {cA : Nat → ClassId} {t : Nat} {F : (Nat → Prop) → State → Prop} (hF : EOK F) {σ : St} {N : Nat} {σ' : St} (h : X2_findShortestLength N σ = some σ') : MetV l yX2_findShortestLength cX2_findShortestLength 3 none 2 D (tyW cA) (wS a cA) (ES t F) [.ref (a 3)] σ σ' := by
  refine mkV (by decide) (adrS a cA) rfl (Nat.le_of_ble_eq_true rfl) ?_
  intro p e R s m args below meth c A Q ls X hR hp hl
  obtain ⟨hx, hb, -, hown, hts, -⟩ := id X
  have J_68 : ∀ (v1 : Int32) (k7 : (Int32 → St → Option (St))) (hk7 : ∀ (v1 : Int32) (σ : St) (H : Heap) (locs : List Loc) (ls : Array Slot), Pw D (wS a cA) A s.heap H locs σ → lv_has ls 3 [(0, .ref (a 3)), (1, .int v1)] → k7 v1 σ = some σ' → W p l e R s m args below meth c H locs 0 0 Q (F0 m 7 ls [])) (σ : St) (H : Heap) (locs : List Loc) (ls : Array Slot), Pw D (wS a cA) A s.heap H locs σ → lv_has ls 3 [(0, .ref (a 3)), (1, .int v1)] → X2_findShortestLength_68 k7 v1 σ = some σ' → W p l e R s m args below meth c H locs 0 0 Q (F0 m 68 ls []) := by
    intro v1 k7 hk7 σ H locs ls hp hl h
    unfold X2_findShortestLength_68 at h
    refine lv_aload_n hx hb dX2_findShortestLength_68 rfl (lv_at hl 0 rfl) ?_
    refine lv_aload_n hx hb dX2_findShortestLength_69 rfl (lv_at hl 0 rfl) ?_
    refine gS_X2_distances X hp tw_4_5 dX2_findShortestLength_70 ?_
    refine lv_iload_n hx hb dX2_findShortestLength_73 rfl (lv_at hl 1 rfl) ?_
    obtain ⟨g1, h⟩ := gd_s h
    refine lS_X2_distances X hp g1 dX2_findShortestLength_74 ?_
    refine pS_X2_runLength X hp tw_24_18 dX2_findShortestLength_75 (fun H locs σ2 eσ2 hp => ?_)
    have h := nm_s h σ2 eσ2
    obtain ⟨x3, ex3⟩ : ∃ z : Int32, z = v1 + (1 : Int32) := ⟨_, rfl⟩
    have h := nm_s h x3 ex3
    refine lv_iinc (v := x3) (lv' := [(1, .int x3), (0, .ref (a 3))]) hx hb dX2_findShortestLength_78 hl (k := 1) rfl (by rw [ex3]; rfl) (by decide) rfl (fun ls hl => ?_)
    refine lv_goto (tgt := 7) hx hb dX2_findShortestLength_81 (by decide) ?_
    exact hk7 x3 σ2 _ _ _ hp (lv_sub hl [1, 0] rfl) h
  have J_42 : ∀ (v1 : Int32) (u0 : Int32) (k7 : (Int32 → St → Option (St))) (hk7 : ∀ (v1 : Int32) (σ : St) (H : Heap) (locs : List Loc) (ls : Array Slot), Pw D (wS a cA) A s.heap H locs σ → lv_has ls 3 [(0, .ref (a 3)), (1, .int v1)] → k7 v1 σ = some σ' → W p l e R s m args below meth c H locs 0 0 Q (F0 m 7 ls [])) (σ : St) (H : Heap) (locs : List Loc) (ls : Array Slot), Pw D (wS a cA) A s.heap H locs σ → lv_has ls 3 [(0, .ref (a 3)), (1, .int v1)] → X2_findShortestLength_42 k7 v1 u0 σ = some σ' → W p l e R s m args below meth c H locs 0 0 Q (F0 m 42 ls [.int u0]) := by
    intro v1 u0 k7 hk7 σ H locs ls hp hl h
    unfold X2_findShortestLength_42 at h
    refine lv_istore_n (lv' := [(2, .int u0), (0, .ref (a 3)), (1, .int v1)]) hx hb dX2_findShortestLength_42 rfl hl (by decide) rfl (fun ls hl => ?_)
    refine lv_iload_n hx hb dX2_findShortestLength_43 rfl (lv_at hl 0 rfl) ?_
    refine lv_if_eq (tgt := 78) hx hb dX2_findShortestLength_44 (by decide) (fun c1 => ?_) (fun c1 => ?_)
    · have h := it_p h c1
      obtain ⟨x2, ex2⟩ : ∃ z : Int32, z = v1 + (1 : Int32) := ⟨_, rfl⟩
      have h := nm_s h x2 ex2
      refine lv_iinc (v := x2) (lv' := [(1, .int x2), (2, .int u0), (0, .ref (a 3))]) hx hb dX2_findShortestLength_78 hl (k := 2) rfl (by rw [ex2]; rfl) (by decide) rfl (fun ls hl => ?_)
      refine lv_goto (tgt := 7) hx hb dX2_findShortestLength_81 (by decide) ?_
      exact hk7 x2 σ _ _ _ hp (lv_sub hl [2, 0] rfl) h
    · have h := it_n h c1
      refine lv_aload_n hx hb dX2_findShortestLength_47 rfl (lv_at hl 1 rfl) ?_
      refine gS_X2_runLength X hp tw_24_18 dX2_findShortestLength_48 ?_
      refine lv_iconst (v := -1) hx hb dX2_findShortestLength_51 (by decide) ?_
      refine lv_icmp_eq (tgt := 68) hx hb dX2_findShortestLength_52 (by decide) (fun c3 => ?_) (fun c3 => ?_)
      · have h := it_p h c3
        exact J_68 v1 _ hk7 σ _ _ _ hp (lv_sub hl [1, 2] rfl) h
      · have h := it_n h c3
        refine lv_aload_n hx hb dX2_findShortestLength_55 rfl (lv_at hl 1 rfl) ?_
        refine gS_X2_distances X hp tw_4_5 dX2_findShortestLength_56 ?_
        refine lv_iload_n hx hb dX2_findShortestLength_59 rfl (lv_at hl 2 rfl) ?_
        obtain ⟨g4, h⟩ := gd_s h
        refine lS_X2_distances X hp g4 dX2_findShortestLength_60 ?_
        refine lv_aload_n hx hb dX2_findShortestLength_61 rfl (lv_at hl 1 rfl) ?_
        refine gS_X2_runLength X hp tw_24_18 dX2_findShortestLength_62 ?_
        refine lv_icmp_ge (tgt := 78) hx hb dX2_findShortestLength_65 (by decide) (fun c5 => ?_) (fun c5 => ?_)
        · have h := it_p h c5
          obtain ⟨x6, ex6⟩ : ∃ z : Int32, z = v1 + (1 : Int32) := ⟨_, rfl⟩
          have h := nm_s h x6 ex6
          refine lv_iinc (v := x6) (lv' := [(1, .int x6), (2, .int u0), (0, .ref (a 3))]) hx hb dX2_findShortestLength_78 hl (k := 2) rfl (by rw [ex6]; rfl) (by decide) rfl (fun ls hl => ?_)
          refine lv_goto (tgt := 7) hx hb dX2_findShortestLength_81 (by decide) ?_
          exact hk7 x6 σ _ _ _ hp (lv_sub hl [2, 0] rfl) h
        · have h := it_n h c5
          exact J_68 v1 _ hk7 σ _ _ _ hp (lv_sub hl [1, 2] rfl) h
  have J_7 : ∀  (k84 : (St → Option (St))) (hk84 : ∀ (σ : St) (H : Heap) (locs : List Loc) (ls : Array Slot), Pw D (wS a cA) A s.heap H locs σ → lv_has ls 3 [(0, .ref (a 3))] → k84 σ = some σ' → W p l e R s m args below meth c H locs 0 0 Q (F0 m 84 ls [])) (n : Nat) (v1 : Int32) (σ : St) (H : Heap) (locs : List Loc) (ls : Array Slot), Pw D (wS a cA) A s.heap H locs σ → lv_has ls 3 [(0, .ref (a 3)), (1, .int v1)] → X2_findShortestLength_7 k84 n v1 σ = some σ' → W p l e R s m args below meth c H locs 0 0 Q (F0 m 7 ls []) := by
    intro k84 hk84 n
    induction n with
    | zero => intro v1 σ H locs ls hp hl h; exact nn_s (show (none : Option (St)) = some _ from h)
    | succ n ih =>
      intro v1 σ H locs ls hp hl h
      have h : X2_findShortestLength_7b (fun v1 σ => X2_findShortestLength_7 k84 n v1 σ) k84 v1 σ = some σ' := h
      unfold X2_findShortestLength_7b at h
      have hk7 := ih
      refine lv_iload_n hx hb dX2_findShortestLength_7 rfl (lv_at hl 1 rfl) ?_
      refine lv_bipush (v := 64) hx hb dX2_findShortestLength_8 (by decide) ?_
      refine lv_icmp_ge (tgt := 84) hx hb dX2_findShortestLength_10 (by decide) (fun c1 => ?_) (fun c1 => ?_)
      · have h := it_p h c1
        exact hk84 σ _ _ _ hp (lv_sub hl [0] rfl) h
      · have h := it_n h c1
        refine lv_aload_n hx hb dX2_findShortestLength_13 rfl (lv_at hl 0 rfl) ?_
        refine gS_X2_circuit X hp tw_4_0 dX2_findShortestLength_14 ?_
        obtain ⟨t2, ht2, h⟩ := bd_s h
        refine cl_Vl X (eokS hF) (c_X0_initial hF ht2) tw_23_12 mw_X0_initial (by decide) hp 2 rfl rfl rfl hl.1 rfl (Nat.le_of_ble_eq_true rfl) dX2_findShortestLength_17 (fun H locs hp => ?_)
        refine lv_iload_n hx hb dX2_findShortestLength_20 rfl (lv_at hl 1 rfl) ?_
        obtain ⟨t3, ht3, h⟩ := bd_s h
        refine cl_Ni X (eokS hF) (c_X6_contains (adrS a cA) (eokS hF) ht3) (nwS X (List.mem_of_getElem? (i := 6) rfl)) mw_X6_contains (by decide) hp hl.1 rfl (Nat.le_of_ble_eq_true rfl) dX2_findShortestLength_21 (fun H locs hp => ?_)
        refine lv_if_eq (tgt := 41) hx hb dX2_findShortestLength_24 (by decide) (fun c4 => ?_) (fun c4 => ?_)
        · have h := it_p h c4
          refine lv_iconst (v := 0) hx hb dX2_findShortestLength_41 (by decide) ?_
          exact J_42 v1 (0 : Int32) _ hk7 σ _ _ _ hp (lv_sub hl [0, 1] rfl) h
        · have h := it_n h c4
          refine lv_aload_n hx hb dX2_findShortestLength_27 rfl (lv_at hl 0 rfl) ?_
          refine gS_X2_distances X hp tw_4_5 dX2_findShortestLength_28 ?_
          refine lv_iload_n hx hb dX2_findShortestLength_31 rfl (lv_at hl 1 rfl) ?_
          obtain ⟨g5, h⟩ := gd_s h
          refine lS_X2_distances X hp g5 dX2_findShortestLength_32 ?_
          refine lv_iconst (v := -1) hx hb dX2_findShortestLength_33 (by decide) ?_
          refine lv_icmp_eq (tgt := 41) hx hb dX2_findShortestLength_34 (by decide) (fun c6 => ?_) (fun c6 => ?_)
          · have h := it_p h c6
            refine lv_iconst (v := 0) hx hb dX2_findShortestLength_41 (by decide) ?_
            exact J_42 v1 (0 : Int32) _ hk7 σ _ _ _ hp (lv_sub hl [0, 1] rfl) h
          · have h := it_n h c6
            refine lv_iconst (v := 1) hx hb dX2_findShortestLength_37 (by decide) ?_
            refine lv_goto (tgt := 42) hx hb dX2_findShortestLength_38 (by decide) ?_
            exact J_42 v1 (1 : Int32) _ hk7 σ _ _ _ hp (lv_sub hl [0, 1] rfl) h
  have J_84 : ∀  (σ : St) (H : Heap) (locs : List Loc) (ls : Array Slot), Pw D (wS a cA) A s.heap H locs σ → lv_has ls 3 [(0, .ref (a 3))] → X2_findShortestLength_84 σ = some σ' → W p l e R s m args below meth c H locs 0 0 Q (F0 m 84 ls []) := by
    intro σ H locs ls hp hl h
    unfold X2_findShortestLength_84 at h
    exact hR _ _ _ _ _ dX2_findShortestLength_84 hp (Option.some.inj h)
  unfold X2_findShortestLength at h
  have hl := lv_sub (l' := [(0, .ref (a 3))]) hl [0] rfl
  refine lv_aload_n hx hb dX2_findShortestLength_0 rfl (lv_at hl 0 rfl) ?_
  refine lv_iconst (v := -1) hx hb dX2_findShortestLength_1 (by decide) ?_
  refine pS_X2_runLength X hp tw_24_18 dX2_findShortestLength_2 (fun H locs σ1 eσ1 hp => ?_)
  have h := nm_s h σ1 eσ1
  refine lv_iconst (v := 0) hx hb dX2_findShortestLength_5 (by decide) ?_
  refine lv_istore_n (lv' := [(1, .int (0 : Int32)), (0, .ref (a 3))]) hx hb dX2_findShortestLength_6 rfl hl (by decide) rfl (fun ls hl => ?_)
  exact J_7 _ (fun σ H locs ls hp hl h => J_84 σ _ _ _ hp hl h) _ (0 : Int32) σ1 _ _ _ hp (lv_sub hl [1, 0] rfl) h
def X2_nextOf (σ : St) (v1 : Int32) (v2 : Int32) : Option (Int32) :=
  nm ((v1 * (4 : Int32)) + v2) (fun (x1 : Int32) =>
  if x1 < 0 then
    some (0 : Int32)
  else
    if (256 : Int32) ≤ x1 then
      some (0 : Int32)
    else
      gd (inb x1 256) (
      some (σ.2.2.1 3 x1.toNatClampNeg)))
set_option maxRecDepth 20000 in
set_option maxHeartbeats 4000000 in
theorem c_X2_nextOf {l : Launch} {D : va_G} {a : Nat → Nat} {cA : Nat → ClassId} {t : Nat} {F : (Nat → Prop) → State → Prop} (hF : EOK F) {σ : St} {v1 : Int32} {v2 : Int32} {r : Int32} (h : X2_nextOf σ v1 v2 = some r) : MetI l yX2_nextOf cX2_nextOf 4 (some .int) 0 D (tyW cA) (wS a cA) (ES t F) [.ref (a 3), .int v1, .int v2] σ r σ := by
  refine mkI (by decide) (adrS a cA) (Or.inl rfl) (Nat.le_of_ble_eq_true rfl) ?_
  intro p e R s m args below meth c A Q ls X hR hp hl
  obtain ⟨hx, hb, -, hown, hts, -⟩ := id X
  unfold X2_nextOf at h
  have hl := lv_sub (l' := [(0, .ref (a 3)), (1, .int v1), (2, .int v2)]) hl [0, 1, 2] rfl
  refine lv_iload_n hx hb dX2_nextOf_0 rfl (lv_at hl 1 rfl) ?_
  refine lv_iconst (v := 4) hx hb dX2_nextOf_1 (by decide) ?_
  refine lv_imul hx hb dX2_nextOf_2 ?_
  refine lv_iload_n hx hb dX2_nextOf_3 rfl (lv_at hl 2 rfl) ?_
  refine lv_iadd hx hb dX2_nextOf_4 ?_
  refine lv_topi (fun x1 ex1 => ?_)
  have h := nm_s h x1 ex1
  refine lv_istore_n (lv' := [(3, .int x1), (0, .ref (a 3)), (1, .int v1), (2, .int v2)]) hx hb dX2_nextOf_5 rfl hl (by decide) rfl (fun ls hl => ?_)
  refine lv_iload_n hx hb dX2_nextOf_6 rfl (lv_at hl 0 rfl) ?_
  refine lv_if_lt (tgt := 28) hx hb dX2_nextOf_7 (by decide) (fun c2 => ?_) (fun c2 => ?_)
  · have h := it_p h c2
    refine lv_iconst (v := 0) hx hb dX2_nextOf_28 (by decide) ?_
    exact hR _ _ _ _ _ _ dX2_nextOf_29 hp (Option.some.inj h) rfl (fun q => by cases q)
  · have h := it_n h c2
    refine lv_iload_n hx hb dX2_nextOf_10 rfl (lv_at hl 0 rfl) ?_
    refine lv_aload_n hx hb dX2_nextOf_11 rfl (lv_at hl 1 rfl) ?_
    refine gS_X2_next X hp tw_4_1 dX2_nextOf_12 ?_
    refine nS_X2_next X hp dX2_nextOf_15 ?_
    refine lv_icmp_ge (tgt := 28) hx hb dX2_nextOf_16 (by decide) (fun c3 => ?_) (fun c3 => ?_)
    · have h := it_p h c3
      refine lv_iconst (v := 0) hx hb dX2_nextOf_28 (by decide) ?_
      exact hR _ _ _ _ _ _ dX2_nextOf_29 hp (Option.some.inj h) rfl (fun q => by cases q)
    · have h := it_n h c3
      refine lv_aload_n hx hb dX2_nextOf_19 rfl (lv_at hl 1 rfl) ?_
      refine gS_X2_next X hp tw_4_1 dX2_nextOf_20 ?_
      refine lv_iload_n hx hb dX2_nextOf_23 rfl (lv_at hl 0 rfl) ?_
      obtain ⟨g4, h⟩ := gd_s h
      refine lS_X2_next X hp g4 dX2_nextOf_24 ?_
      refine lv_goto (tgt := 29) hx hb dX2_nextOf_25 (by decide) ?_
      exact hR _ _ _ _ _ _ dX2_nextOf_29 hp (Option.some.inj h) rfl (fun q => by cases q)
def X2_classOf (σ : St) (v1 : Int32) : Option (Int32) :=
  if v1 < 0 then
    some (-1 : Int32)
  else
    if (64 : Int32) ≤ v1 then
      some (-1 : Int32)
    else
      gd (inb v1 64) (
      some (σ.2.2.1 6 v1.toNatClampNeg))
set_option maxRecDepth 20000 in
set_option maxHeartbeats 4000000 in
theorem c_X2_classOf {l : Launch} {D : va_G} {a : Nat → Nat} {cA : Nat → ClassId} {t : Nat} {F : (Nat → Prop) → State → Prop} (hF : EOK F) {σ : St} {v1 : Int32} {r : Int32} (h : X2_classOf σ v1 = some r) : MetI l yX2_classOf cX2_classOf 2 (some .int) 0 D (tyW cA) (wS a cA) (ES t F) [.ref (a 3), .int v1] σ r σ := by
  refine mkI (by decide) (adrS a cA) (Or.inl rfl) (Nat.le_of_ble_eq_true rfl) ?_
  intro p e R s m args below meth c A Q ls X hR hp hl
  obtain ⟨hx, hb, -, hown, hts, -⟩ := id X
  unfold X2_classOf at h
  have hl := lv_sub (l' := [(0, .ref (a 3)), (1, .int v1)]) hl [0, 1] rfl
  refine lv_iload_n hx hb dX2_classOf_0 rfl (lv_at hl 1 rfl) ?_
  refine lv_if_lt (tgt := 19) hx hb dX2_classOf_1 (by decide) (fun c1 => ?_) (fun c1 => ?_)
  · have h := it_p h c1
    refine lv_iconst (v := -1) hx hb dX2_classOf_19 (by decide) ?_
    exact hR _ _ _ _ _ _ dX2_classOf_20 hp (Option.some.inj h) rfl (fun q => by cases q)
  · have h := it_n h c1
    refine lv_iload_n hx hb dX2_classOf_4 rfl (lv_at hl 1 rfl) ?_
    refine lv_bipush (v := 64) hx hb dX2_classOf_5 (by decide) ?_
    refine lv_icmp_ge (tgt := 19) hx hb dX2_classOf_7 (by decide) (fun c2 => ?_) (fun c2 => ?_)
    · have h := it_p h c2
      refine lv_iconst (v := -1) hx hb dX2_classOf_19 (by decide) ?_
      exact hR _ _ _ _ _ _ dX2_classOf_20 hp (Option.some.inj h) rfl (fun q => by cases q)
    · have h := it_n h c2
      refine lv_aload_n hx hb dX2_classOf_10 rfl (lv_at hl 0 rfl) ?_
      refine gS_X2_classes X hp tw_4_6 dX2_classOf_11 ?_
      refine lv_iload_n hx hb dX2_classOf_14 rfl (lv_at hl 1 rfl) ?_
      obtain ⟨g3, h⟩ := gd_s h
      refine lS_X2_classes X hp g3 dX2_classOf_15 ?_
      refine lv_goto (tgt := 20) hx hb dX2_classOf_16 (by decide) ?_
      exact hR _ _ _ _ _ _ dX2_classOf_20 hp (Option.some.inj h) rfl (fun q => by cases q)
def X2_goesAlike_2b (k2 : (Int32 → Option (Int32))) (k36 : (Option (Int32))) (k44 : (Option (Int32))) (σ : St) (v1 : Int32) (v2 : Int32) (v3 : Int32) : Option (Int32) :=
  if (σ.1 8) ≤ v3 then
    k44
  else
    bd (X2_nextOf σ v1 v3) (fun t2 =>
    bd (X2_classOf σ t2) (fun t3 =>
    bd (X2_nextOf σ v2 v3) (fun t4 =>
    bd (X2_classOf σ t4) (fun t5 =>
    if t3 = t5 then
      nm (v3 + (1 : Int32)) (fun (x7 : Int32) =>
      k2 x7)
    else
      k36))))
def X2_goesAlike_2 (k36 : (Option (Int32))) (k44 : (Option (Int32))) (σ : St) (v1 : Int32) (v2 : Int32) : Nat → Int32 → Option (Int32)
  | 0, _ => none
  | n + 1, v3 => X2_goesAlike_2b (fun v3 => X2_goesAlike_2 k36 k44 σ v1 v2 n v3) k36 k44 σ v1 v2 v3
def X2_goesAlike_36 (σ : St) : Option (Int32) :=
  some (0 : Int32)
def X2_goesAlike_44 (σ : St) : Option (Int32) :=
  some (1 : Int32)
def X2_goesAlike (N : Nat) (σ : St) (v1 : Int32) (v2 : Int32) : Option (Int32) :=
  X2_goesAlike_2 (X2_goesAlike_36 σ) (X2_goesAlike_44 σ) σ v1 v2 N (0 : Int32)
set_option maxRecDepth 20000 in
set_option maxHeartbeats 4000000 in
theorem c_X2_goesAlike {l : Launch} {D : va_G} {a : Nat → Nat} {cA : Nat → ClassId} {t : Nat} {F : (Nat → Prop) → State → Prop} (hF : EOK F) {σ : St} {N : Nat} {v1 : Int32} {v2 : Int32} {r : Int32} (h : X2_goesAlike N σ v1 v2 = some r) : MetI l yX2_goesAlike cX2_goesAlike 4 (some .boolean) 1 D (tyW cA) (wS a cA) (ES t F) [.ref (a 3), .int v1, .int v2] σ r σ := by
  refine mkI (by decide) (adrS a cA) (Or.inr rfl) (Nat.le_of_ble_eq_true rfl) ?_
  intro p e R s m args below meth c A Q ls X hR hp hl
  obtain ⟨hx, hb, -, hown, hts, -⟩ := id X
  have J_2 : ∀ (v1 : Int32) (v2 : Int32) (k36 : (Option (Int32))) (hk36 : ∀ (H : Heap) (locs : List Loc) (ls : Array Slot), Pw D (wS a cA) A s.heap H locs σ → lv_has ls 4 [(0, .ref (a 3))] → k36 = some r → W p l e R s m args below meth c H locs 0 0 Q (F0 m 36 ls [])) (k44 : (Option (Int32))) (hk44 : ∀ (H : Heap) (locs : List Loc) (ls : Array Slot), Pw D (wS a cA) A s.heap H locs σ → lv_has ls 4 [(0, .ref (a 3))] → k44 = some r → W p l e R s m args below meth c H locs 0 0 Q (F0 m 44 ls [])) (n : Nat) (v3 : Int32) (H : Heap) (locs : List Loc) (ls : Array Slot), Pw D (wS a cA) A s.heap H locs σ → lv_has ls 4 [(0, .ref (a 3)), (1, .int v1), (2, .int v2), (3, .int v3)] → X2_goesAlike_2 k36 k44 σ v1 v2 n v3 = some r → W p l e R s m args below meth c H locs 0 0 Q (F0 m 2 ls []) := by
    intro v1 v2 k36 hk36 k44 hk44 n
    induction n with
    | zero => intro v3 H locs ls hp hl h; exact nn_s (show (none : Option (Int32)) = some _ from h)
    | succ n ih =>
      intro v3 H locs ls hp hl h
      have h : X2_goesAlike_2b (fun v3 => X2_goesAlike_2 k36 k44 σ v1 v2 n v3) k36 k44 σ v1 v2 v3 = some r := h
      unfold X2_goesAlike_2b at h
      have hk2 := ih
      refine lv_iload_n hx hb dX2_goesAlike_2 rfl (lv_at hl 3 rfl) ?_
      refine lv_aload_n hx hb dX2_goesAlike_3 rfl (lv_at hl 0 rfl) ?_
      refine gS_X2_circuit X hp tw_4_0 dX2_goesAlike_4 ?_
      refine gS_X0_inputValues X hp tw_22_20 dX2_goesAlike_7 ?_
      refine lv_icmp_ge (tgt := 44) hx hb dX2_goesAlike_10 (by decide) (fun c1 => ?_) (fun c1 => ?_)
      · have h := it_p h c1
        exact hk44 _ _ _ hp (lv_sub hl [0] rfl) h
      · have h := it_n h c1
        refine lv_aload_n hx hb dX2_goesAlike_13 rfl (lv_at hl 0 rfl) ?_
        refine lv_aload_n hx hb dX2_goesAlike_14 rfl (lv_at hl 0 rfl) ?_
        refine lv_iload_n hx hb dX2_goesAlike_15 rfl (lv_at hl 1 rfl) ?_
        refine lv_iload_n hx hb dX2_goesAlike_16 rfl (lv_at hl 3 rfl) ?_
        obtain ⟨t2, ht2, h⟩ := bd_s h
        refine cl_Vi X (eokS hF) (c_X2_nextOf hF ht2) tw_25_12 mw_X2_nextOf (by decide) hp 3 rfl rfl rfl hl.1 rfl (Nat.le_of_ble_eq_true rfl) dX2_goesAlike_17 (fun H locs hp => ?_)
        obtain ⟨t3, ht3, h⟩ := bd_s h
        refine cl_Vi X (eokS hF) (c_X2_classOf hF ht3) tw_25_16 mw_X2_classOf (by decide) hp 3 rfl rfl rfl hl.1 rfl (Nat.le_of_ble_eq_true rfl) dX2_goesAlike_20 (fun H locs hp => ?_)
        refine lv_aload_n hx hb dX2_goesAlike_23 rfl (lv_at hl 0 rfl) ?_
        refine lv_aload_n hx hb dX2_goesAlike_24 rfl (lv_at hl 0 rfl) ?_
        refine lv_iload_n hx hb dX2_goesAlike_25 rfl (lv_at hl 2 rfl) ?_
        refine lv_iload_n hx hb dX2_goesAlike_26 rfl (lv_at hl 3 rfl) ?_
        obtain ⟨t4, ht4, h⟩ := bd_s h
        refine cl_Vi X (eokS hF) (c_X2_nextOf hF ht4) tw_25_12 mw_X2_nextOf (by decide) hp 3 rfl rfl rfl hl.1 rfl (Nat.le_of_ble_eq_true rfl) dX2_goesAlike_27 (fun H locs hp => ?_)
        obtain ⟨t5, ht5, h⟩ := bd_s h
        refine cl_Vi X (eokS hF) (c_X2_classOf hF ht5) tw_25_16 mw_X2_classOf (by decide) hp 3 rfl rfl rfl hl.1 rfl (Nat.le_of_ble_eq_true rfl) dX2_goesAlike_30 (fun H locs hp => ?_)
        refine lv_icmp_eq (tgt := 38) hx hb dX2_goesAlike_33 (by decide) (fun c6 => ?_) (fun c6 => ?_)
        · have h := it_p h c6
          obtain ⟨x7, ex7⟩ : ∃ z : Int32, z = v3 + (1 : Int32) := ⟨_, rfl⟩
          have h := nm_s h x7 ex7
          refine lv_iinc (v := x7) (lv' := [(3, .int x7), (0, .ref (a 3)), (1, .int v1), (2, .int v2)]) hx hb dX2_goesAlike_38 hl (k := 3) rfl (by rw [ex7]; rfl) (by decide) rfl (fun ls hl => ?_)
          refine lv_goto (tgt := 2) hx hb dX2_goesAlike_41 (by decide) ?_
          exact hk2 x7 _ _ _ hp (lv_sub hl [1, 2, 3, 0] rfl) h
        · have h := it_n h c6
          exact hk36 _ _ _ hp (lv_sub hl [0] rfl) h
  have J_36 : ∀  (H : Heap) (locs : List Loc) (ls : Array Slot), Pw D (wS a cA) A s.heap H locs σ → lv_has ls 4 [(0, .ref (a 3))] → X2_goesAlike_36 σ = some r → W p l e R s m args below meth c H locs 0 0 Q (F0 m 36 ls []) := by
    intro H locs ls hp hl h
    unfold X2_goesAlike_36 at h
    refine lv_iconst (v := 0) hx hb dX2_goesAlike_36 (by decide) ?_
    exact hR _ _ _ _ _ _ dX2_goesAlike_37 hp (Option.some.inj h) rfl (fun _ => Or.inl rfl)
  have J_44 : ∀  (H : Heap) (locs : List Loc) (ls : Array Slot), Pw D (wS a cA) A s.heap H locs σ → lv_has ls 4 [(0, .ref (a 3))] → X2_goesAlike_44 σ = some r → W p l e R s m args below meth c H locs 0 0 Q (F0 m 44 ls []) := by
    intro H locs ls hp hl h
    unfold X2_goesAlike_44 at h
    refine lv_iconst (v := 1) hx hb dX2_goesAlike_44 (by decide) ?_
    exact hR _ _ _ _ _ _ dX2_goesAlike_45 hp (Option.some.inj h) rfl (fun _ => Or.inr rfl)
  unfold X2_goesAlike at h
  have hl := lv_sub (l' := [(0, .ref (a 3)), (1, .int v1), (2, .int v2)]) hl [0, 1, 2] rfl
  refine lv_iconst (v := 0) hx hb dX2_goesAlike_0 (by decide) ?_
  refine lv_istore_n (lv' := [(3, .int (0 : Int32)), (0, .ref (a 3)), (1, .int v1), (2, .int v2)]) hx hb dX2_goesAlike_1 rfl hl (by decide) rfl (fun ls hl => ?_)
  exact J_2 v1 v2 _ (fun H locs ls hp hl h => J_36 _ _ _ hp hl h) _ (fun H locs ls hp hl h => J_44 _ _ _ hp hl h) _ (0 : Int32) _ _ _ hp (lv_sub hl [1, 2, 3, 0] rfl) h
def X2_refineClasses_42b (N : Nat) (k42 : (Int32 → Int32 → St → Option (Int32 × St))) (k92 : (Int32 → Int32 → Int32 → Int32 → St → Option (Int32 × St))) (v1 : Int32) (v2 : Int32) (v3 : Int32) (v4 : Int32) (v5 : Int32) (σ : St) : Option (Int32 × St) :=
  if v4 ≤ v5 then
    k92 v1 v2 v3 v4 σ
  else
    gd (inb v5 64) (
    if (σ.2.2.1 7 v5.toNatClampNeg) = v5 then
      gd (inb v5 64) (
      if (σ.2.2.1 6 v5.toNatClampNeg) = v3 then
        bd (X2_goesAlike N σ v2 v5) (fun t8 =>
        if t8 = 0 then
          nm (v5 + (1 : Int32)) (fun (x10 : Int32) =>
          k42 v4 x10 σ)
        else
          nm (v5 + (1 : Int32)) (fun (x11 : Int32) =>
          k42 v5 x11 σ))
      else
        nm (v5 + (1 : Int32)) (fun (x7 : Int32) =>
        k42 v4 x7 σ))
    else
      nm (v5 + (1 : Int32)) (fun (x4 : Int32) =>
      k42 v4 x4 σ))
def X2_refineClasses_42 (N : Nat) (k92 : (Int32 → Int32 → Int32 → Int32 → St → Option (Int32 × St))) (v1 : Int32) (v2 : Int32) (v3 : Int32) : Nat → Int32 → Int32 → St → Option (Int32 × St)
  | 0, _, _, _ => none
  | n + 1, v4, v5, σ => X2_refineClasses_42b N (fun v4 v5 σ => X2_refineClasses_42 N k92 v1 v2 v3 n v4 v5 σ) k92 v1 v2 v3 v4 v5 σ
def X2_refineClasses_92 (k4 : (Int32 → Int32 → St → Option (Int32 × St))) (v1 : Int32) (v2 : Int32) (v3 : Int32) (v4 : Int32) (σ : St) : Option (Int32 × St) :=
  gd (inb v2 64) (
  nm (sa σ 7 v2.toNatClampNeg v4) (fun (σ2 : St) =>
  if v1 = 0 then
    if v4 = v3 then
      nm (v2 + (1 : Int32)) (fun (x6 : Int32) =>
      k4 (0 : Int32) x6 σ2)
    else
      nm (v2 + (1 : Int32)) (fun (x7 : Int32) =>
      k4 (1 : Int32) x7 σ2)
  else
    nm (v2 + (1 : Int32)) (fun (x4 : Int32) =>
    k4 (1 : Int32) x4 σ2)))
def X2_refineClasses_4b (N : Nat) (k4 : (Int32 → Int32 → St → Option (Int32 × St))) (k122 : (Int32 → St → Option (Int32 × St))) (v1 : Int32) (v2 : Int32) (σ : St) : Option (Int32 × St) :=
  if (σ.1 7) ≤ v2 then
    k122 v1 σ
  else
    if (64 : Int32) ≤ v2 then
      k122 v1 σ
    else
      gd (inb v2 64) (
      nm (σ.2.2.1 6 v2.toNatClampNeg) (fun (x4 : Int32) =>
      if 0 ≤ x4 then
        X2_refineClasses_42 N (fun v1 v2 v3 v4 σ => X2_refineClasses_92 k4 v1 v2 v3 v4 σ) v1 v2 x4 N v2 x4 σ
      else
        X2_refineClasses_42 N (fun v1 v2 v3 v4 σ => X2_refineClasses_92 k4 v1 v2 v3 v4 σ) v1 v2 x4 N v2 (0 : Int32) σ))
def X2_refineClasses_4 (N : Nat) (k122 : (Int32 → St → Option (Int32 × St))) : Nat → Int32 → Int32 → St → Option (Int32 × St)
  | 0, _, _, _ => none
  | n + 1, v1, v2, σ => X2_refineClasses_4b N (fun v1 v2 σ => X2_refineClasses_4 N k122 n v1 v2 σ) k122 v1 v2 σ
def X2_refineClasses_122 (v1 : Int32) (σ : St) : Option (Int32 × St) :=
  nm (sA σ 6 (va_cpy (σ.2.2.1 7) (σ.2.2.1 6) 0 0 64)) (fun (σ1 : St) =>
  gd (isb v1) (
  some (v1, σ1)))
def X2_refineClasses (N : Nat) (σ : St) : Option (Int32 × St) :=
  X2_refineClasses_4 N (fun v1 σ => X2_refineClasses_122 v1 σ) N (0 : Int32) (0 : Int32) σ
set_option maxRecDepth 20000 in
set_option maxHeartbeats 4000000 in
theorem c_X2_refineClasses {l : Launch} {D : va_G} {a : Nat → Nat} {cA : Nat → ClassId} {t : Nat} {F : (Nat → Prop) → State → Prop} (hF : EOK F) {σ : St} {N : Nat} {r : Int32} {σ' : St} (h : X2_refineClasses N σ = some (r, σ')) : MetI l yX2_refineClasses cX2_refineClasses 6 (some .boolean) 2 D (tyW cA) (wS a cA) (ES t F) [.ref (a 3)] σ r σ' := by
  refine mkI (by decide) (adrS a cA) (Or.inr rfl) (Nat.le_of_ble_eq_true rfl) ?_
  intro p e R s m args below meth c A Q ls X hR hp hl
  obtain ⟨hx, hb, -, hown, hts, -⟩ := id X
  have J_42 : ∀ (v1 : Int32) (v2 : Int32) (v3 : Int32) (k92 : (Int32 → Int32 → Int32 → Int32 → St → Option (Int32 × St))) (hk92 : ∀ (v1 : Int32) (v2 : Int32) (v3 : Int32) (v4 : Int32) (σ : St) (H : Heap) (locs : List Loc) (ls : Array Slot), Pw D (wS a cA) A s.heap H locs σ → lv_has ls 6 [(0, .ref (a 3)), (1, .int v1), (2, .int v2), (3, .int v3), (4, .int v4)] → k92 v1 v2 v3 v4 σ = some (r, σ') → W p l e R s m args below meth c H locs 0 0 Q (F0 m 92 ls [])) (n : Nat) (v4 : Int32) (v5 : Int32) (σ : St) (H : Heap) (locs : List Loc) (ls : Array Slot), Pw D (wS a cA) A s.heap H locs σ → lv_has ls 6 [(0, .ref (a 3)), (1, .int v1), (2, .int v2), (3, .int v3), (4, .int v4), (5, .int v5)] → X2_refineClasses_42 N k92 v1 v2 v3 n v4 v5 σ = some (r, σ') → W p l e R s m args below meth c H locs 0 0 Q (F0 m 42 ls []) := by
    intro v1 v2 v3 k92 hk92 n
    induction n with
    | zero => intro v4 v5 σ H locs ls hp hl h; exact nn_s (show (none : Option (Int32 × St)) = some _ from h)
    | succ n ih =>
      intro v4 v5 σ H locs ls hp hl h
      have h : X2_refineClasses_42b N (fun v4 v5 σ => X2_refineClasses_42 N k92 v1 v2 v3 n v4 v5 σ) k92 v1 v2 v3 v4 v5 σ = some (r, σ') := h
      unfold X2_refineClasses_42b at h
      have hk42 := ih
      refine lv_iload hx hb dX2_refineClasses_42 (lv_at hl 5 rfl) ?_
      refine lv_iload hx hb dX2_refineClasses_44 (lv_at hl 4 rfl) ?_
      refine lv_icmp_ge (tgt := 92) hx hb dX2_refineClasses_46 (by decide) (fun c1 => ?_) (fun c1 => ?_)
      · have h := it_p h c1
        exact hk92 v1 v2 v3 v4 σ _ _ _ hp (lv_sub hl [0, 1, 2, 3, 4] rfl) h
      · have h := it_n h c1
        refine lv_aload_n hx hb dX2_refineClasses_49 rfl (lv_at hl 0 rfl) ?_
        refine gS_X2_finerClasses X hp tw_4_7 dX2_refineClasses_50 ?_
        refine lv_iload hx hb dX2_refineClasses_53 (lv_at hl 5 rfl) ?_
        obtain ⟨g2, h⟩ := gd_s h
        refine lS_X2_finerClasses X hp g2 dX2_refineClasses_55 ?_
        refine lv_iload hx hb dX2_refineClasses_56 (lv_at hl 5 rfl) ?_
        refine lv_icmp_ne (tgt := 86) hx hb dX2_refineClasses_58 (by decide) (fun c3 => ?_) (fun c3 => ?_)
        · have h := it_n h c3
          obtain ⟨x4, ex4⟩ : ∃ z : Int32, z = v5 + (1 : Int32) := ⟨_, rfl⟩
          have h := nm_s h x4 ex4
          refine lv_iinc (v := x4) (lv' := [(5, .int x4), (0, .ref (a 3)), (1, .int v1), (2, .int v2), (3, .int v3), (4, .int v4)]) hx hb dX2_refineClasses_86 hl (k := 5) rfl (by rw [ex4]; rfl) (by decide) rfl (fun ls hl => ?_)
          refine lv_goto (tgt := 42) hx hb dX2_refineClasses_89 (by decide) ?_
          exact hk42 v4 x4 σ _ _ _ hp (lv_sub hl [1, 2, 3, 4, 5, 0] rfl) h
        · have h := it_p h c3
          refine lv_aload_n hx hb dX2_refineClasses_61 rfl (lv_at hl 0 rfl) ?_
          refine gS_X2_classes X hp tw_4_6 dX2_refineClasses_62 ?_
          refine lv_iload hx hb dX2_refineClasses_65 (lv_at hl 5 rfl) ?_
          obtain ⟨g5, h⟩ := gd_s h
          refine lS_X2_classes X hp g5 dX2_refineClasses_67 ?_
          refine lv_iload_n hx hb dX2_refineClasses_68 rfl (lv_at hl 3 rfl) ?_
          refine lv_icmp_ne (tgt := 86) hx hb dX2_refineClasses_69 (by decide) (fun c6 => ?_) (fun c6 => ?_)
          · have h := it_n h c6
            obtain ⟨x7, ex7⟩ : ∃ z : Int32, z = v5 + (1 : Int32) := ⟨_, rfl⟩
            have h := nm_s h x7 ex7
            refine lv_iinc (v := x7) (lv' := [(5, .int x7), (0, .ref (a 3)), (1, .int v1), (2, .int v2), (3, .int v3), (4, .int v4)]) hx hb dX2_refineClasses_86 hl (k := 5) rfl (by rw [ex7]; rfl) (by decide) rfl (fun ls hl => ?_)
            refine lv_goto (tgt := 42) hx hb dX2_refineClasses_89 (by decide) ?_
            exact hk42 v4 x7 σ _ _ _ hp (lv_sub hl [1, 2, 3, 4, 5, 0] rfl) h
          · have h := it_p h c6
            refine lv_aload_n hx hb dX2_refineClasses_72 rfl (lv_at hl 0 rfl) ?_
            refine lv_iload_n hx hb dX2_refineClasses_73 rfl (lv_at hl 2 rfl) ?_
            refine lv_iload hx hb dX2_refineClasses_74 (lv_at hl 5 rfl) ?_
            obtain ⟨t8, ht8, h⟩ := bd_s h
            refine cl_Vi X (eokS hF) (c_X2_goesAlike hF ht8) tw_25_8 mw_X2_goesAlike (by decide) hp 3 rfl rfl rfl hl.1 rfl (Nat.le_of_ble_eq_true rfl) dX2_refineClasses_76 (fun H locs hp => ?_)
            refine lv_if_eq (tgt := 86) hx hb dX2_refineClasses_79 (by decide) (fun c9 => ?_) (fun c9 => ?_)
            · have h := it_p h c9
              obtain ⟨x10, ex10⟩ : ∃ z : Int32, z = v5 + (1 : Int32) := ⟨_, rfl⟩
              have h := nm_s h x10 ex10
              refine lv_iinc (v := x10) (lv' := [(5, .int x10), (0, .ref (a 3)), (1, .int v1), (2, .int v2), (3, .int v3), (4, .int v4)]) hx hb dX2_refineClasses_86 hl (k := 5) rfl (by rw [ex10]; rfl) (by decide) rfl (fun ls hl => ?_)
              refine lv_goto (tgt := 42) hx hb dX2_refineClasses_89 (by decide) ?_
              exact hk42 v4 x10 σ _ _ _ hp (lv_sub hl [1, 2, 3, 4, 5, 0] rfl) h
            · have h := it_n h c9
              refine lv_iload hx hb dX2_refineClasses_82 (lv_at hl 5 rfl) ?_
              refine lv_istore (lv' := [(4, .int v5), (0, .ref (a 3)), (1, .int v1), (2, .int v2), (3, .int v3), (5, .int v5)]) hx hb dX2_refineClasses_84 hl (by decide) rfl (fun ls hl => ?_)
              obtain ⟨x11, ex11⟩ : ∃ z : Int32, z = v5 + (1 : Int32) := ⟨_, rfl⟩
              have h := nm_s h x11 ex11
              refine lv_iinc (v := x11) (lv' := [(5, .int x11), (4, .int v5), (0, .ref (a 3)), (1, .int v1), (2, .int v2), (3, .int v3)]) hx hb dX2_refineClasses_86 hl (k := 5) rfl (by rw [ex11]; rfl) (by decide) rfl (fun ls hl => ?_)
              refine lv_goto (tgt := 42) hx hb dX2_refineClasses_89 (by decide) ?_
              exact hk42 v5 x11 σ _ _ _ hp (lv_sub hl [2, 3, 4, 5, 1, 0] rfl) h
  have J_92 : ∀ (v1 : Int32) (v2 : Int32) (v3 : Int32) (v4 : Int32) (k4 : (Int32 → Int32 → St → Option (Int32 × St))) (hk4 : ∀ (v1 : Int32) (v2 : Int32) (σ : St) (H : Heap) (locs : List Loc) (ls : Array Slot), Pw D (wS a cA) A s.heap H locs σ → lv_has ls 6 [(0, .ref (a 3)), (1, .int v1), (2, .int v2)] → k4 v1 v2 σ = some (r, σ') → W p l e R s m args below meth c H locs 0 0 Q (F0 m 4 ls [])) (σ : St) (H : Heap) (locs : List Loc) (ls : Array Slot), Pw D (wS a cA) A s.heap H locs σ → lv_has ls 6 [(0, .ref (a 3)), (1, .int v1), (2, .int v2), (3, .int v3), (4, .int v4)] → X2_refineClasses_92 k4 v1 v2 v3 v4 σ = some (r, σ') → W p l e R s m args below meth c H locs 0 0 Q (F0 m 92 ls []) := by
    intro v1 v2 v3 v4 k4 hk4 σ H locs ls hp hl h
    unfold X2_refineClasses_92 at h
    refine lv_aload_n hx hb dX2_refineClasses_92 rfl (lv_at hl 0 rfl) ?_
    refine gS_X2_finerClasses X hp tw_4_7 dX2_refineClasses_93 ?_
    refine lv_iload_n hx hb dX2_refineClasses_96 rfl (lv_at hl 2 rfl) ?_
    refine lv_iload hx hb dX2_refineClasses_97 (lv_at hl 4 rfl) ?_
    obtain ⟨g1, h⟩ := gd_s h
    refine sS_X2_finerClasses X hp g1 dX2_refineClasses_99 (fun H locs σ2 eσ2 hp => ?_)
    have h := nm_s h σ2 eσ2
    refine lv_iload_n hx hb dX2_refineClasses_100 rfl (lv_at hl 1 rfl) ?_
    refine lv_if_ne (tgt := 110) hx hb dX2_refineClasses_101 (by decide) (fun c3 => ?_) (fun c3 => ?_)
    · have h := it_n h c3
      refine lv_iconst (v := 1) hx hb dX2_refineClasses_110 (by decide) ?_
      refine lv_goto (tgt := 115) hx hb dX2_refineClasses_111 (by decide) ?_
      refine lv_istore_n (lv' := [(1, .int (1 : Int32)), (0, .ref (a 3)), (2, .int v2), (3, .int v3), (4, .int v4)]) hx hb dX2_refineClasses_115 rfl hl (by decide) rfl (fun ls hl => ?_)
      obtain ⟨x4, ex4⟩ : ∃ z : Int32, z = v2 + (1 : Int32) := ⟨_, rfl⟩
      have h := nm_s h x4 ex4
      refine lv_iinc (v := x4) (lv' := [(2, .int x4), (1, .int (1 : Int32)), (0, .ref (a 3)), (3, .int v3), (4, .int v4)]) hx hb dX2_refineClasses_116 hl (k := 2) rfl (by rw [ex4]; rfl) (by decide) rfl (fun ls hl => ?_)
      refine lv_goto (tgt := 4) hx hb dX2_refineClasses_119 (by decide) ?_
      exact hk4 (1 : Int32) x4 σ2 _ _ _ hp (lv_sub hl [2, 1, 0] rfl) h
    · have h := it_p h c3
      refine lv_iload hx hb dX2_refineClasses_104 (lv_at hl 4 rfl) ?_
      refine lv_iload_n hx hb dX2_refineClasses_106 rfl (lv_at hl 3 rfl) ?_
      refine lv_icmp_eq (tgt := 114) hx hb dX2_refineClasses_107 (by decide) (fun c5 => ?_) (fun c5 => ?_)
      · have h := it_p h c5
        refine lv_iconst (v := 0) hx hb dX2_refineClasses_114 (by decide) ?_
        refine lv_istore_n (lv' := [(1, .int (0 : Int32)), (0, .ref (a 3)), (2, .int v2), (3, .int v3), (4, .int v4)]) hx hb dX2_refineClasses_115 rfl hl (by decide) rfl (fun ls hl => ?_)
        obtain ⟨x6, ex6⟩ : ∃ z : Int32, z = v2 + (1 : Int32) := ⟨_, rfl⟩
        have h := nm_s h x6 ex6
        refine lv_iinc (v := x6) (lv' := [(2, .int x6), (1, .int (0 : Int32)), (0, .ref (a 3)), (3, .int v3), (4, .int v4)]) hx hb dX2_refineClasses_116 hl (k := 2) rfl (by rw [ex6]; rfl) (by decide) rfl (fun ls hl => ?_)
        refine lv_goto (tgt := 4) hx hb dX2_refineClasses_119 (by decide) ?_
        exact hk4 (0 : Int32) x6 σ2 _ _ _ hp (lv_sub hl [2, 1, 0] rfl) h
      · have h := it_n h c5
        refine lv_iconst (v := 1) hx hb dX2_refineClasses_110 (by decide) ?_
        refine lv_goto (tgt := 115) hx hb dX2_refineClasses_111 (by decide) ?_
        refine lv_istore_n (lv' := [(1, .int (1 : Int32)), (0, .ref (a 3)), (2, .int v2), (3, .int v3), (4, .int v4)]) hx hb dX2_refineClasses_115 rfl hl (by decide) rfl (fun ls hl => ?_)
        obtain ⟨x7, ex7⟩ : ∃ z : Int32, z = v2 + (1 : Int32) := ⟨_, rfl⟩
        have h := nm_s h x7 ex7
        refine lv_iinc (v := x7) (lv' := [(2, .int x7), (1, .int (1 : Int32)), (0, .ref (a 3)), (3, .int v3), (4, .int v4)]) hx hb dX2_refineClasses_116 hl (k := 2) rfl (by rw [ex7]; rfl) (by decide) rfl (fun ls hl => ?_)
        refine lv_goto (tgt := 4) hx hb dX2_refineClasses_119 (by decide) ?_
        exact hk4 (1 : Int32) x7 σ2 _ _ _ hp (lv_sub hl [2, 1, 0] rfl) h
  have J_4 : ∀  (k122 : (Int32 → St → Option (Int32 × St))) (hk122 : ∀ (v1 : Int32) (σ : St) (H : Heap) (locs : List Loc) (ls : Array Slot), Pw D (wS a cA) A s.heap H locs σ → lv_has ls 6 [(0, .ref (a 3)), (1, .int v1)] → k122 v1 σ = some (r, σ') → W p l e R s m args below meth c H locs 0 0 Q (F0 m 122 ls [])) (n : Nat) (v1 : Int32) (v2 : Int32) (σ : St) (H : Heap) (locs : List Loc) (ls : Array Slot), Pw D (wS a cA) A s.heap H locs σ → lv_has ls 6 [(0, .ref (a 3)), (1, .int v1), (2, .int v2)] → X2_refineClasses_4 N k122 n v1 v2 σ = some (r, σ') → W p l e R s m args below meth c H locs 0 0 Q (F0 m 4 ls []) := by
    intro k122 hk122 n
    induction n with
    | zero => intro v1 v2 σ H locs ls hp hl h; exact nn_s (show (none : Option (Int32 × St)) = some _ from h)
    | succ n ih =>
      intro v1 v2 σ H locs ls hp hl h
      have h : X2_refineClasses_4b N (fun v1 v2 σ => X2_refineClasses_4 N k122 n v1 v2 σ) k122 v1 v2 σ = some (r, σ') := h
      unfold X2_refineClasses_4b at h
      have hk4 := ih
      refine lv_iload_n hx hb dX2_refineClasses_4 rfl (lv_at hl 2 rfl) ?_
      refine lv_aload_n hx hb dX2_refineClasses_5 rfl (lv_at hl 0 rfl) ?_
      refine gS_X2_circuit X hp tw_4_0 dX2_refineClasses_6 ?_
      refine gS_X0_states X hp tw_22_19 dX2_refineClasses_9 ?_
      refine lv_icmp_ge (tgt := 122) hx hb dX2_refineClasses_12 (by decide) (fun c1 => ?_) (fun c1 => ?_)
      · have h := it_p h c1
        exact hk122 v1 σ _ _ _ hp (lv_sub hl [0, 1] rfl) h
      · have h := it_n h c1
        refine lv_iload_n hx hb dX2_refineClasses_15 rfl (lv_at hl 2 rfl) ?_
        refine lv_bipush (v := 64) hx hb dX2_refineClasses_16 (by decide) ?_
        refine lv_icmp_ge (tgt := 122) hx hb dX2_refineClasses_18 (by decide) (fun c2 => ?_) (fun c2 => ?_)
        · have h := it_p h c2
          exact hk122 v1 σ _ _ _ hp (lv_sub hl [0, 1] rfl) h
        · have h := it_n h c2
          refine lv_aload_n hx hb dX2_refineClasses_21 rfl (lv_at hl 0 rfl) ?_
          refine gS_X2_classes X hp tw_4_6 dX2_refineClasses_22 ?_
          refine lv_iload_n hx hb dX2_refineClasses_25 rfl (lv_at hl 2 rfl) ?_
          obtain ⟨g3, h⟩ := gd_s h
          refine lS_X2_classes X hp g3 dX2_refineClasses_26 ?_
          refine lv_topi (fun x4 ex4 => ?_)
          have h := nm_s h x4 ex4
          refine lv_istore_n (lv' := [(3, .int x4), (0, .ref (a 3)), (1, .int v1), (2, .int v2)]) hx hb dX2_refineClasses_27 rfl hl (by decide) rfl (fun ls hl => ?_)
          refine lv_iload_n hx hb dX2_refineClasses_28 rfl (lv_at hl 3 rfl) ?_
          refine lv_istore (lv' := [(4, .int v2), (3, .int x4), (0, .ref (a 3)), (1, .int v1), (2, .int v2)]) hx hb dX2_refineClasses_29 hl (by decide) rfl (fun ls hl => ?_)
          refine lv_iload_n hx hb dX2_refineClasses_31 rfl (lv_at hl 1 rfl) ?_
          refine lv_if_ge (tgt := 39) hx hb dX2_refineClasses_32 (by decide) (fun c5 => ?_) (fun c5 => ?_)
          · have h := it_p h c5
            refine lv_iload_n hx hb dX2_refineClasses_39 rfl (lv_at hl 1 rfl) ?_
            refine lv_istore (lv' := [(5, .int x4), (4, .int v2), (3, .int x4), (0, .ref (a 3)), (1, .int v1), (2, .int v2)]) hx hb dX2_refineClasses_40 hl (by decide) rfl (fun ls hl => ?_)
            exact J_42 v1 v2 x4 _ (fun v1 v2 v3 v4 σ H locs ls hp hl h => J_92 v1 v2 v3 v4 _ hk4 σ _ _ _ hp hl h) _ v2 x4 σ _ _ _ hp (lv_sub hl [3, 4, 5, 2, 1, 0] rfl) h
          · have h := it_n h c5
            refine lv_iconst (v := 0) hx hb dX2_refineClasses_35 (by decide) ?_
            refine lv_goto (tgt := 40) hx hb dX2_refineClasses_36 (by decide) ?_
            refine lv_istore (lv' := [(5, .int (0 : Int32)), (4, .int v2), (3, .int x4), (0, .ref (a 3)), (1, .int v1), (2, .int v2)]) hx hb dX2_refineClasses_40 hl (by decide) rfl (fun ls hl => ?_)
            exact J_42 v1 v2 x4 _ (fun v1 v2 v3 v4 σ H locs ls hp hl h => J_92 v1 v2 v3 v4 _ hk4 σ _ _ _ hp hl h) _ v2 (0 : Int32) σ _ _ _ hp (lv_sub hl [3, 4, 5, 2, 1, 0] rfl) h
  have J_122 : ∀ (v1 : Int32) (σ : St) (H : Heap) (locs : List Loc) (ls : Array Slot), Pw D (wS a cA) A s.heap H locs σ → lv_has ls 6 [(0, .ref (a 3)), (1, .int v1)] → X2_refineClasses_122 v1 σ = some (r, σ') → W p l e R s m args below meth c H locs 0 0 Q (F0 m 122 ls []) := by
    intro v1 σ H locs ls hp hl h
    unfold X2_refineClasses_122 at h
    refine lv_aload_n hx hb dX2_refineClasses_122 rfl (lv_at hl 0 rfl) ?_
    refine gS_X2_finerClasses X hp tw_4_7 dX2_refineClasses_123 ?_
    refine lv_iconst (v := 0) hx hb dX2_refineClasses_126 (by decide) ?_
    refine lv_aload_n hx hb dX2_refineClasses_127 rfl (lv_at hl 0 rfl) ?_
    refine gS_X2_classes X hp tw_4_6 dX2_refineClasses_128 ?_
    refine lv_iconst (v := 0) hx hb dX2_refineClasses_131 (by decide) ?_
    refine lv_bipush (v := 64) hx hb dX2_refineClasses_132 (by decide) ?_
    refine cpS (k0 := 7) (k1 := 6) (q0 := 19) (q1 := 18) (n := 64) (by rw [hl.1]; exact X) hp tw_25_4 tw_25_5 tw_25_6 tw_25_7 rfl rfl (by decide) (by decide) (by decide) (by decide) dX2_refineClasses_134 (fun _ => rfl) (fun H locs σ1 eσ1 hp => ?_)
    have h := nm_s h σ1 eσ1
    refine lv_iload_n hx hb dX2_refineClasses_137 rfl (lv_at hl 1 rfl) ?_
    obtain ⟨g2, h⟩ := gd_s h
    exact hR _ _ _ _ _ _ dX2_refineClasses_138 hp (congrArg Prod.fst (Option.some.inj h)) (congrArg Prod.snd (Option.some.inj h)) (fun _ => g2)
  unfold X2_refineClasses at h
  have hl := lv_sub (l' := [(0, .ref (a 3))]) hl [0] rfl
  refine lv_iconst (v := 0) hx hb dX2_refineClasses_0 (by decide) ?_
  refine lv_istore_n (lv' := [(1, .int (0 : Int32)), (0, .ref (a 3))]) hx hb dX2_refineClasses_1 rfl hl (by decide) rfl (fun ls hl => ?_)
  refine lv_iconst (v := 0) hx hb dX2_refineClasses_2 (by decide) ?_
  refine lv_istore_n (lv' := [(2, .int (0 : Int32)), (1, .int (0 : Int32)), (0, .ref (a 3))]) hx hb dX2_refineClasses_3 rfl hl (by decide) rfl (fun ls hl => ?_)
  exact J_4 _ (fun v1 σ H locs ls hp hl h => J_122 v1 σ _ _ _ hp hl h) _ (0 : Int32) (0 : Int32) σ _ _ _ hp (lv_sub hl [2, 1, 0] rfl) h
