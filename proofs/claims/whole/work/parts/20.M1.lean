/- X7_thrown X7_within X7_has X7_size X7_least X7_states X7_values X7_all X7_bitSet X7_start X7_begin X7_append X7_clearBuffer X7_isInput X7_isName X7_isSign X7_takes -/
def X7_thrown (σ : St) : Option (Int32) :=
  some (σ.1 0)
set_option maxRecDepth 20000 in
set_option maxHeartbeats 4000000 in
theorem c_X7_thrown {l : Launch} {D : va_G} {a : Nat → Nat} {cA : Nat → ClassId} {σ : St} {r : Int32} (h : X7_thrown σ = some r) : MetI l yX7_thrown cX7_thrown 1 (some .int) 0 D (tyW cA) (wM a cA) EM [.ref (a 0)] σ r σ := by
  refine mkI (by decide) (adrM a cA) (Or.inl rfl) (Nat.le_of_ble_eq_true rfl) ?_
  intro p e R s m args below meth c A Q ls X hR hp hl
  obtain ⟨hx, hb, -, hown, hts, -⟩ := id X
  unfold X7_thrown at h
  have hl := lv_sub (l' := [(0, .ref (a 0))]) hl [0] rfl
  refine lv_aload_n hx hb dX7_thrown_0 rfl (lv_at hl 0 rfl) ?_
  refine gM_X7_thrown X hp tw_8_9 dX7_thrown_1 ?_
  exact hR _ _ _ _ _ _ dX7_thrown_4 hp (Option.some.inj h) rfl (fun q => by cases q)
def X7_within (v0 : Int32) (v1 : Int32) (v2 : Int32) : Option (Int32) :=
  if v0 < v1 then
    some (0 : Int32)
  else
    if v2 < v0 then
      some (0 : Int32)
    else
      some (1 : Int32)
set_option maxRecDepth 20000 in
set_option maxHeartbeats 4000000 in
theorem c_X7_within {l : Launch} {D : va_G} {tys : List (ClassId × FieldType)} {w : St → va_W} {E : (Nat → Prop) → State → Prop} (hw : Adr w) (hE : EOK E) {σ : St} {v0 : Int32} {v1 : Int32} {v2 : Int32} {r : Int32} (h : X7_within v0 v1 v2 = some r) : MetI l yX7_within cX7_within 3 (some .boolean) 0 D tys w E [.int v0, .int v1, .int v2] σ r σ := by
  refine mkI (by decide) hw (Or.inr rfl) (Nat.le_of_ble_eq_true rfl) ?_
  intro p e R s m args below meth c A Q ls X hR hp hl
  obtain ⟨hx, hb, -, hown, hts, -⟩ := id X
  unfold X7_within at h
  have hl := lv_sub (l' := [(0, .int v0), (1, .int v1), (2, .int v2)]) hl [0, 1, 2] rfl
  refine lv_iload_n hx hb dX7_within_0 rfl (lv_at hl 0 rfl) ?_
  refine lv_iload_n hx hb dX7_within_1 rfl (lv_at hl 1 rfl) ?_
  refine lv_icmp_lt (tgt := 14) hx hb dX7_within_2 (by decide) (fun c1 => ?_) (fun c1 => ?_)
  · have h := it_p h c1
    refine lv_iconst (v := 0) hx hb dX7_within_14 (by decide) ?_
    exact hR _ _ _ _ _ _ dX7_within_15 hp (Option.some.inj h) rfl (fun _ => Or.inl rfl)
  · have h := it_n h c1
    refine lv_iload_n hx hb dX7_within_5 rfl (lv_at hl 0 rfl) ?_
    refine lv_iload_n hx hb dX7_within_6 rfl (lv_at hl 2 rfl) ?_
    refine lv_icmp_gt (tgt := 14) hx hb dX7_within_7 (by decide) (fun c2 => ?_) (fun c2 => ?_)
    · have h := it_p h c2
      refine lv_iconst (v := 0) hx hb dX7_within_14 (by decide) ?_
      exact hR _ _ _ _ _ _ dX7_within_15 hp (Option.some.inj h) rfl (fun _ => Or.inl rfl)
    · have h := it_n h c2
      refine lv_iconst (v := 1) hx hb dX7_within_10 (by decide) ?_
      refine lv_goto (tgt := 15) hx hb dX7_within_11 (by decide) ?_
      exact hR _ _ _ _ _ _ dX7_within_15 hp (Option.some.inj h) rfl (fun _ => Or.inr rfl)
def X7_has (v0 : Int64) (v2 : Int32) : Option (Int32) :=
  if (((v0.toUInt64 >>> (v2.toInt64.toUInt64 &&& Int64.toUInt64 63)).toInt64) &&& (1 : Int64)) = (1 : Int64) then
    some (1 : Int32)
  else
    some (0 : Int32)
set_option maxRecDepth 20000 in
set_option maxHeartbeats 4000000 in
theorem c_X7_has {l : Launch} {D : va_G} {tys : List (ClassId × FieldType)} {w : St → va_W} {E : (Nat → Prop) → State → Prop} (hw : Adr w) (hE : EOK E) {σ : St} {v0 : Int64} {v2 : Int32} {r : Int32} (h : X7_has v0 v2 = some r) : MetI l yX7_has cX7_has 3 (some .boolean) 0 D tys w E [.long v0, .int v2] σ r σ := by
  refine mkI (by decide) hw (Or.inr rfl) (Nat.le_of_ble_eq_true rfl) ?_
  intro p e R s m args below meth c A Q ls X hR hp hl
  obtain ⟨hx, hb, -, hown, hts, -⟩ := id X
  unfold X7_has at h
  have hl := lv_sub (l' := [(0, .long v0), (2, .int v2)]) hl [0, 1] rfl
  refine lv_lload_n hx hb dX7_has_0 rfl (lv_at hl 0 rfl) ?_
  refine lv_iload_n hx hb dX7_has_1 rfl (lv_at hl 1 rfl) ?_
  refine lv_lushr hx hb dX7_has_2 rfl ?_
  refine lv_lconst (v := 1) hx hb dX7_has_3 (by decide) ?_
  refine lv_land hx hb dX7_has_4 ?_
  refine lv_lconst (v := 1) hx hb dX7_has_5 (by decide) ?_
  refine W.lcmp hx hb dX7_has_6 ?_
  refine lv_if_ne (tgt := 14) hx hb dX7_has_7 (by decide) (fun c1 => ?_) (fun c1 => ?_)
  · have h := it_n h (fun q => c1 (lcmp0.mpr q))
    refine lv_iconst (v := 0) hx hb dX7_has_14 (by decide) ?_
    exact hR _ _ _ _ _ _ dX7_has_15 hp (Option.some.inj h) rfl (fun _ => Or.inl rfl)
  · have h := it_p h (lcmp0.mp c1)
    refine lv_iconst (v := 1) hx hb dX7_has_10 (by decide) ?_
    refine lv_goto (tgt := 15) hx hb dX7_has_11 (by decide) ?_
    exact hR _ _ _ _ _ _ dX7_has_15 hp (Option.some.inj h) rfl (fun _ => Or.inr rfl)
def X7_size_4b (k4 : (Int32 → Int32 → Option (Int32))) (k32 : (Int32 → Option (Int32))) (v0 : Int64) (v2 : Int32) (v3 : Int32) : Option (Int32) :=
  if (64 : Int32) ≤ v3 then
    k32 v2
  else
    bd (X7_has v0 v3) (fun t2 =>
    if t2 = 0 then
      nm (v2 + (0 : Int32)) (fun (x4 : Int32) =>
      nm (v3 + (1 : Int32)) (fun (x5 : Int32) =>
      k4 x4 x5))
    else
      nm (v2 + (1 : Int32)) (fun (x6 : Int32) =>
      nm (v3 + (1 : Int32)) (fun (x7 : Int32) =>
      k4 x6 x7)))
def X7_size_4 (k32 : (Int32 → Option (Int32))) (v0 : Int64) : Nat → Int32 → Int32 → Option (Int32)
  | 0, _, _ => none
  | n + 1, v2, v3 => X7_size_4b (fun v2 v3 => X7_size_4 k32 v0 n v2 v3) k32 v0 v2 v3
def X7_size_32 (v2 : Int32) : Option (Int32) :=
  some v2
def X7_size (N : Nat) (v0 : Int64) : Option (Int32) :=
  X7_size_4 (fun v2 => X7_size_32 v2) v0 N (0 : Int32) (0 : Int32)
set_option maxRecDepth 20000 in
set_option maxHeartbeats 4000000 in
theorem c_X7_size {l : Launch} {D : va_G} {tys : List (ClassId × FieldType)} {w : St → va_W} {E : (Nat → Prop) → State → Prop} (hw : Adr w) (hE : EOK E) {σ : St} {N : Nat} {v0 : Int64} {r : Int32} (h : X7_size N v0 = some r) : MetI l yX7_size cX7_size 4 (some .int) 1 D tys w E [.long v0] σ r σ := by
  refine mkI (by decide) hw (Or.inl rfl) (Nat.le_of_ble_eq_true rfl) ?_
  intro p e R s m args below meth c A Q ls X hR hp hl
  obtain ⟨hx, hb, -, hown, hts, -⟩ := id X
  have J_4 : ∀ (v0 : Int64) (k32 : (Int32 → Option (Int32))) (hk32 : ∀ (v2 : Int32) (H : Heap) (locs : List Loc) (ls : Array Slot), Pw D w A s.heap H locs σ → lv_has ls 4 [(2, .int v2)] → k32 v2 = some r → W p l e R s m args below meth c H locs 0 0 Q (F0 m 32 ls [])) (n : Nat) (v2 : Int32) (v3 : Int32) (H : Heap) (locs : List Loc) (ls : Array Slot), Pw D w A s.heap H locs σ → lv_has ls 4 [(0, .long v0), (2, .int v2), (3, .int v3)] → X7_size_4 k32 v0 n v2 v3 = some r → W p l e R s m args below meth c H locs 0 0 Q (F0 m 4 ls []) := by
    intro v0 k32 hk32 n
    induction n with
    | zero => intro v2 v3 H locs ls hp hl h; exact nn_s (show (none : Option (Int32)) = some _ from h)
    | succ n ih =>
      intro v2 v3 H locs ls hp hl h
      have h : X7_size_4b (fun v2 v3 => X7_size_4 k32 v0 n v2 v3) k32 v0 v2 v3 = some r := h
      unfold X7_size_4b at h
      have hk4 := ih
      refine lv_iload_n hx hb dX7_size_4 rfl (lv_at hl 2 rfl) ?_
      refine lv_bipush (v := 64) hx hb dX7_size_5 (by decide) ?_
      refine lv_icmp_ge (tgt := 32) hx hb dX7_size_7 (by decide) (fun c1 => ?_) (fun c1 => ?_)
      · have h := it_p h c1
        exact hk32 v2 _ _ _ hp (lv_sub hl [1] rfl) h
      · have h := it_n h c1
        refine lv_iload_n hx hb dX7_size_10 rfl (lv_at hl 1 rfl) ?_
        refine lv_lload_n hx hb dX7_size_11 rfl (lv_at hl 0 rfl) ?_
        refine lv_iload_n hx hb dX7_size_12 rfl (lv_at hl 2 rfl) ?_
        obtain ⟨t2, ht2, h⟩ := bd_s h
        refine cl_Si X hE (c_X7_has hw hE ht2) tw_18_3 mw_X7_has (by decide) hp hl.1 rfl (Nat.le_of_ble_eq_true rfl) dX7_size_13 (fun H locs hp => ?_)
        refine lv_if_eq (tgt := 23) hx hb dX7_size_16 (by decide) (fun c3 => ?_) (fun c3 => ?_)
        · have h := it_p h c3
          refine lv_iconst (v := 0) hx hb dX7_size_23 (by decide) ?_
          refine lv_iadd hx hb dX7_size_24 ?_
          refine lv_topi (fun x4 ex4 => ?_)
          have h := nm_s h x4 ex4
          refine lv_istore_n (lv' := [(2, .int x4), (0, .long v0), (3, .int v3)]) hx hb dX7_size_25 rfl hl (by decide) rfl (fun ls hl => ?_)
          obtain ⟨x5, ex5⟩ : ∃ z : Int32, z = v3 + (1 : Int32) := ⟨_, rfl⟩
          have h := nm_s h x5 ex5
          refine lv_iinc (v := x5) (lv' := [(3, .int x5), (2, .int x4), (0, .long v0)]) hx hb dX7_size_26 hl (k := 2) rfl (by rw [ex5]; rfl) (by decide) rfl (fun ls hl => ?_)
          refine lv_goto (tgt := 4) hx hb dX7_size_29 (by decide) ?_
          exact hk4 x4 x5 _ _ _ hp (lv_sub hl [2, 1, 0] rfl) h
        · have h := it_n h c3
          refine lv_iconst (v := 1) hx hb dX7_size_19 (by decide) ?_
          refine lv_goto (tgt := 24) hx hb dX7_size_20 (by decide) ?_
          refine lv_iadd hx hb dX7_size_24 ?_
          refine lv_topi (fun x6 ex6 => ?_)
          have h := nm_s h x6 ex6
          refine lv_istore_n (lv' := [(2, .int x6), (0, .long v0), (3, .int v3)]) hx hb dX7_size_25 rfl hl (by decide) rfl (fun ls hl => ?_)
          obtain ⟨x7, ex7⟩ : ∃ z : Int32, z = v3 + (1 : Int32) := ⟨_, rfl⟩
          have h := nm_s h x7 ex7
          refine lv_iinc (v := x7) (lv' := [(3, .int x7), (2, .int x6), (0, .long v0)]) hx hb dX7_size_26 hl (k := 2) rfl (by rw [ex7]; rfl) (by decide) rfl (fun ls hl => ?_)
          refine lv_goto (tgt := 4) hx hb dX7_size_29 (by decide) ?_
          exact hk4 x6 x7 _ _ _ hp (lv_sub hl [2, 1, 0] rfl) h
  have J_32 : ∀ (v2 : Int32) (H : Heap) (locs : List Loc) (ls : Array Slot), Pw D w A s.heap H locs σ → lv_has ls 4 [(2, .int v2)] → X7_size_32 v2 = some r → W p l e R s m args below meth c H locs 0 0 Q (F0 m 32 ls []) := by
    intro v2 H locs ls hp hl h
    unfold X7_size_32 at h
    refine lv_iload_n hx hb dX7_size_32 rfl (lv_at hl 0 rfl) ?_
    exact hR _ _ _ _ _ _ dX7_size_33 hp (Option.some.inj h) rfl (fun q => by cases q)
  unfold X7_size at h
  have hl := lv_sub (l' := [(0, .long v0)]) hl [0] rfl
  refine lv_iconst (v := 0) hx hb dX7_size_0 (by decide) ?_
  refine lv_istore_n (lv' := [(2, .int (0 : Int32)), (0, .long v0)]) hx hb dX7_size_1 rfl hl (by decide) rfl (fun ls hl => ?_)
  refine lv_iconst (v := 0) hx hb dX7_size_2 (by decide) ?_
  refine lv_istore_n (lv' := [(3, .int (0 : Int32)), (2, .int (0 : Int32)), (0, .long v0)]) hx hb dX7_size_3 rfl hl (by decide) rfl (fun ls hl => ?_)
  exact J_4 v0 _ (fun v2 H locs ls hp hl h => J_32 v2 _ _ _ hp hl h) _ (0 : Int32) (0 : Int32) _ _ _ hp (lv_sub hl [2, 1, 0] rfl) h
def X7_least_2b (k2 : (Int32 → Option (Int32))) (k22 : (Int32 → Option (Int32))) (v0 : Int64) (v2 : Int32) : Option (Int32) :=
  if (64 : Int32) ≤ v2 then
    k22 v2
  else
    bd (X7_has v0 v2) (fun t2 =>
    if t2 = 0 then
      nm (v2 + (1 : Int32)) (fun (x4 : Int32) =>
      k2 x4)
    else
      k22 v2)
def X7_least_2 (k22 : (Int32 → Option (Int32))) (v0 : Int64) : Nat → Int32 → Option (Int32)
  | 0, _ => none
  | n + 1, v2 => X7_least_2b (fun v2 => X7_least_2 k22 v0 n v2) k22 v0 v2
def X7_least_22 (v2 : Int32) : Option (Int32) :=
  if (64 : Int32) ≤ v2 then
    some (-1 : Int32)
  else
    some v2
def X7_least (N : Nat) (v0 : Int64) : Option (Int32) :=
  X7_least_2 (fun v2 => X7_least_22 v2) v0 N (0 : Int32)
set_option maxRecDepth 20000 in
set_option maxHeartbeats 4000000 in
theorem c_X7_least {l : Launch} {D : va_G} {tys : List (ClassId × FieldType)} {w : St → va_W} {E : (Nat → Prop) → State → Prop} (hw : Adr w) (hE : EOK E) {σ : St} {N : Nat} {v0 : Int64} {r : Int32} (h : X7_least N v0 = some r) : MetI l yX7_least cX7_least 3 (some .int) 1 D tys w E [.long v0] σ r σ := by
  refine mkI (by decide) hw (Or.inl rfl) (Nat.le_of_ble_eq_true rfl) ?_
  intro p e R s m args below meth c A Q ls X hR hp hl
  obtain ⟨hx, hb, -, hown, hts, -⟩ := id X
  have J_2 : ∀ (v0 : Int64) (k22 : (Int32 → Option (Int32))) (hk22 : ∀ (v2 : Int32) (H : Heap) (locs : List Loc) (ls : Array Slot), Pw D w A s.heap H locs σ → lv_has ls 3 [(2, .int v2)] → k22 v2 = some r → W p l e R s m args below meth c H locs 0 0 Q (F0 m 22 ls [])) (n : Nat) (v2 : Int32) (H : Heap) (locs : List Loc) (ls : Array Slot), Pw D w A s.heap H locs σ → lv_has ls 3 [(0, .long v0), (2, .int v2)] → X7_least_2 k22 v0 n v2 = some r → W p l e R s m args below meth c H locs 0 0 Q (F0 m 2 ls []) := by
    intro v0 k22 hk22 n
    induction n with
    | zero => intro v2 H locs ls hp hl h; exact nn_s (show (none : Option (Int32)) = some _ from h)
    | succ n ih =>
      intro v2 H locs ls hp hl h
      have h : X7_least_2b (fun v2 => X7_least_2 k22 v0 n v2) k22 v0 v2 = some r := h
      unfold X7_least_2b at h
      have hk2 := ih
      refine lv_iload_n hx hb dX7_least_2 rfl (lv_at hl 1 rfl) ?_
      refine lv_bipush (v := 64) hx hb dX7_least_3 (by decide) ?_
      refine lv_icmp_ge (tgt := 22) hx hb dX7_least_5 (by decide) (fun c1 => ?_) (fun c1 => ?_)
      · have h := it_p h c1
        exact hk22 v2 _ _ _ hp (lv_sub hl [1] rfl) h
      · have h := it_n h c1
        refine lv_lload_n hx hb dX7_least_8 rfl (lv_at hl 0 rfl) ?_
        refine lv_iload_n hx hb dX7_least_9 rfl (lv_at hl 1 rfl) ?_
        obtain ⟨t2, ht2, h⟩ := bd_s h
        refine cl_Si X hE (c_X7_has hw hE ht2) tw_18_3 mw_X7_has (by decide) hp hl.1 rfl (Nat.le_of_ble_eq_true rfl) dX7_least_10 (fun H locs hp => ?_)
        refine lv_if_ne (tgt := 22) hx hb dX7_least_13 (by decide) (fun c3 => ?_) (fun c3 => ?_)
        · have h := it_n h c3
          exact hk22 v2 _ _ _ hp (lv_sub hl [1] rfl) h
        · have h := it_p h c3
          obtain ⟨x4, ex4⟩ : ∃ z : Int32, z = v2 + (1 : Int32) := ⟨_, rfl⟩
          have h := nm_s h x4 ex4
          refine lv_iinc (v := x4) (lv' := [(2, .int x4), (0, .long v0)]) hx hb dX7_least_16 hl (k := 1) rfl (by rw [ex4]; rfl) (by decide) rfl (fun ls hl => ?_)
          refine lv_goto (tgt := 2) hx hb dX7_least_19 (by decide) ?_
          exact hk2 x4 _ _ _ hp (lv_sub hl [1, 0] rfl) h
  have J_22 : ∀ (v2 : Int32) (H : Heap) (locs : List Loc) (ls : Array Slot), Pw D w A s.heap H locs σ → lv_has ls 3 [(2, .int v2)] → X7_least_22 v2 = some r → W p l e R s m args below meth c H locs 0 0 Q (F0 m 22 ls []) := by
    intro v2 H locs ls hp hl h
    unfold X7_least_22 at h
    refine lv_iload_n hx hb dX7_least_22 rfl (lv_at hl 0 rfl) ?_
    refine lv_bipush (v := 64) hx hb dX7_least_23 (by decide) ?_
    refine lv_icmp_ge (tgt := 32) hx hb dX7_least_25 (by decide) (fun c1 => ?_) (fun c1 => ?_)
    · have h := it_p h c1
      refine lv_iconst (v := -1) hx hb dX7_least_32 (by decide) ?_
      exact hR _ _ _ _ _ _ dX7_least_33 hp (Option.some.inj h) rfl (fun q => by cases q)
    · have h := it_n h c1
      refine lv_iload_n hx hb dX7_least_28 rfl (lv_at hl 0 rfl) ?_
      refine lv_goto (tgt := 33) hx hb dX7_least_29 (by decide) ?_
      exact hR _ _ _ _ _ _ dX7_least_33 hp (Option.some.inj h) rfl (fun q => by cases q)
  unfold X7_least at h
  have hl := lv_sub (l' := [(0, .long v0)]) hl [0] rfl
  refine lv_iconst (v := 0) hx hb dX7_least_0 (by decide) ?_
  refine lv_istore_n (lv' := [(2, .int (0 : Int32)), (0, .long v0)]) hx hb dX7_least_1 rfl hl (by decide) rfl (fun ls hl => ?_)
  exact J_2 v0 _ (fun v2 H locs ls hp hl h => J_22 v2 _ _ _ hp hl h) _ (0 : Int32) _ _ _ hp (lv_sub hl [1, 0] rfl) h
def X7_states (σ : St) : Option (Int32) :=
  some ((1 : Int32) <<< ((σ.1 1) &&& 31))
set_option maxRecDepth 20000 in
set_option maxHeartbeats 4000000 in
theorem c_X7_states {l : Launch} {D : va_G} {a : Nat → Nat} {cA : Nat → ClassId} {σ : St} {r : Int32} (h : X7_states σ = some r) : MetI l yX7_states cX7_states 1 (some .int) 0 D (tyW cA) (wM a cA) EM [.ref (a 0)] σ r σ := by
  refine mkI (by decide) (adrM a cA) (Or.inl rfl) (Nat.le_of_ble_eq_true rfl) ?_
  intro p e R s m args below meth c A Q ls X hR hp hl
  obtain ⟨hx, hb, -, hown, hts, -⟩ := id X
  unfold X7_states at h
  have hl := lv_sub (l' := [(0, .ref (a 0))]) hl [0] rfl
  refine lv_iconst (v := 1) hx hb dX7_states_0 (by decide) ?_
  refine lv_aload_n hx hb dX7_states_1 rfl (lv_at hl 0 rfl) ?_
  refine gM_X7_bits X hp tw_6_15 dX7_states_2 ?_
  refine lv_ishl hx hb dX7_states_5 ?_
  exact hR _ _ _ _ _ _ dX7_states_6 hp (Option.some.inj h) rfl (fun q => by cases q)
def X7_values (σ : St) : Option (Int32) :=
  some ((1 : Int32) <<< ((σ.1 2) &&& 31))
set_option maxRecDepth 20000 in
set_option maxHeartbeats 4000000 in
theorem c_X7_values {l : Launch} {D : va_G} {a : Nat → Nat} {cA : Nat → ClassId} {σ : St} {r : Int32} (h : X7_values σ = some r) : MetI l yX7_values cX7_values 1 (some .int) 0 D (tyW cA) (wM a cA) EM [.ref (a 0)] σ r σ := by
  refine mkI (by decide) (adrM a cA) (Or.inl rfl) (Nat.le_of_ble_eq_true rfl) ?_
  intro p e R s m args below meth c A Q ls X hR hp hl
  obtain ⟨hx, hb, -, hown, hts, -⟩ := id X
  unfold X7_values at h
  have hl := lv_sub (l' := [(0, .ref (a 0))]) hl [0] rfl
  refine lv_iconst (v := 1) hx hb dX7_values_0 (by decide) ?_
  refine lv_aload_n hx hb dX7_values_1 rfl (lv_at hl 0 rfl) ?_
  refine gM_X7_inputs X hp tw_6_16 dX7_values_2 ?_
  refine lv_ishl hx hb dX7_values_5 ?_
  exact hR _ _ _ _ _ _ dX7_values_6 hp (Option.some.inj h) rfl (fun q => by cases q)
def X7_all (σ : St) : Option (Int64) :=
  if (σ.1 1) = (6 : Int32) then
    some (-1 : Int64)
  else
    bd (X7_states σ) (fun t2 =>
    some (((1 : Int64) <<< (t2.toInt64 &&& 63)) - (1 : Int64)))
set_option maxRecDepth 20000 in
set_option maxHeartbeats 4000000 in
theorem c_X7_all {l : Launch} {D : va_G} {a : Nat → Nat} {cA : Nat → ClassId} {σ : St} {r : Int64} (h : X7_all σ = some r) : MetL l yX7_all cX7_all 1 (some .long) 1 D (tyW cA) (wM a cA) EM [.ref (a 0)] σ r σ := by
  refine mkL (by decide) (adrM a cA) rfl (Nat.le_of_ble_eq_true rfl) ?_
  intro p e R s m args below meth c A Q ls X hR hp hl
  obtain ⟨hx, hb, -, hown, hts, -⟩ := id X
  unfold X7_all at h
  have hl := lv_sub (l' := [(0, .ref (a 0))]) hl [0] rfl
  refine lv_aload_n hx hb dX7_all_0 rfl (lv_at hl 0 rfl) ?_
  refine gM_X7_bits X hp tw_6_15 dX7_all_1 ?_
  refine lv_bipush (v := 6) hx hb dX7_all_4 (by decide) ?_
  refine lv_icmp_ne (tgt := 15) hx hb dX7_all_6 (by decide) (fun c1 => ?_) (fun c1 => ?_)
  · have h := it_n h c1
    refine lv_lconst (v := 1) hx hb dX7_all_15 (by decide) ?_
    refine lv_aload_n hx hb dX7_all_16 rfl (lv_at hl 0 rfl) ?_
    obtain ⟨t2, ht2, h⟩ := bd_s h
    refine cl_Vi X eokM (c_X7_states ht2) tw_7_1 mw_X7_states (by decide) hp 0 rfl rfl rfl hl.1 rfl (Nat.le_of_ble_eq_true rfl) dX7_all_17 (fun H locs hp => ?_)
    refine lv_lshl hx hb dX7_all_20 rfl ?_
    refine lv_lconst (v := 1) hx hb dX7_all_21 (by decide) ?_
    refine lv_lsub hx hb dX7_all_22 ?_
    exact hR _ _ _ _ _ _ dX7_all_23 hp (Option.some.inj h) rfl
  · have h := it_p h c1
    refine lv_ldc2 hx hb hown (hts _ tw_7_9) dX7_all_9 ?_
    refine lv_goto (tgt := 23) hx hb dX7_all_12 (by decide) ?_
    exact hR _ _ _ _ _ _ dX7_all_23 hp (Option.some.inj h) rfl
def X7_bitSet_5b (k5 : (Int64 → Int32 → Option (Int64))) (k41 : (Int64 → Option (Int64))) (σ : St) (v1 : Int32) (v2 : Int64) (v4 : Int32) : Option (Int64) :=
  bd (X7_states σ) (fun t1 =>
  if t1 ≤ v4 then
    k41 v2
  else
    if ((v4 >>> (v1 &&& 31)) &&& (1 : Int32)) = (1 : Int32) then
      nm (v2 ||| ((1 : Int64) <<< (v4.toInt64 &&& 63))) (fun (x6 : Int64) =>
      nm (v4 + (1 : Int32)) (fun (x7 : Int32) =>
      k5 x6 x7))
    else
      nm (v2 ||| (0 : Int64)) (fun (x4 : Int64) =>
      nm (v4 + (1 : Int32)) (fun (x5 : Int32) =>
      k5 x4 x5)))
def X7_bitSet_5 (k41 : (Int64 → Option (Int64))) (σ : St) (v1 : Int32) : Nat → Int64 → Int32 → Option (Int64)
  | 0, _, _ => none
  | n + 1, v2, v4 => X7_bitSet_5b (fun v2 v4 => X7_bitSet_5 k41 σ v1 n v2 v4) k41 σ v1 v2 v4
def X7_bitSet_41 (σ : St) (v2 : Int64) : Option (Int64) :=
  some v2
def X7_bitSet (N : Nat) (σ : St) (v1 : Int32) : Option (Int64) :=
  X7_bitSet_5 (fun v2 => X7_bitSet_41 σ v2) σ v1 N (0 : Int64) (0 : Int32)
set_option maxRecDepth 20000 in
set_option maxHeartbeats 4000000 in
theorem c_X7_bitSet {l : Launch} {D : va_G} {a : Nat → Nat} {cA : Nat → ClassId} {σ : St} {N : Nat} {v1 : Int32} {r : Int64} (h : X7_bitSet N σ v1 = some r) : MetL l yX7_bitSet cX7_bitSet 5 (some .long) 1 D (tyW cA) (wM a cA) EM [.ref (a 0), .int v1] σ r σ := by
  refine mkL (by decide) (adrM a cA) rfl (Nat.le_of_ble_eq_true rfl) ?_
  intro p e R s m args below meth c A Q ls X hR hp hl
  obtain ⟨hx, hb, -, hown, hts, -⟩ := id X
  have J_5 : ∀ (v1 : Int32) (k41 : (Int64 → Option (Int64))) (hk41 : ∀ (v2 : Int64) (H : Heap) (locs : List Loc) (ls : Array Slot), Pw D (wM a cA) A s.heap H locs σ → lv_has ls 5 [(0, .ref (a 0)), (2, .long v2)] → k41 v2 = some r → W p l e R s m args below meth c H locs 0 0 Q (F0 m 41 ls [])) (n : Nat) (v2 : Int64) (v4 : Int32) (H : Heap) (locs : List Loc) (ls : Array Slot), Pw D (wM a cA) A s.heap H locs σ → lv_has ls 5 [(0, .ref (a 0)), (1, .int v1), (2, .long v2), (4, .int v4)] → X7_bitSet_5 k41 σ v1 n v2 v4 = some r → W p l e R s m args below meth c H locs 0 0 Q (F0 m 5 ls []) := by
    intro v1 k41 hk41 n
    induction n with
    | zero => intro v2 v4 H locs ls hp hl h; exact nn_s (show (none : Option (Int64)) = some _ from h)
    | succ n ih =>
      intro v2 v4 H locs ls hp hl h
      have h : X7_bitSet_5b (fun v2 v4 => X7_bitSet_5 k41 σ v1 n v2 v4) k41 σ v1 v2 v4 = some r := h
      unfold X7_bitSet_5b at h
      have hk5 := ih
      refine lv_iload hx hb dX7_bitSet_5 (lv_at hl 3 rfl) ?_
      refine lv_aload_n hx hb dX7_bitSet_7 rfl (lv_at hl 0 rfl) ?_
      obtain ⟨t1, ht1, h⟩ := bd_s h
      refine cl_Vi X eokM (c_X7_states ht1) tw_7_1 mw_X7_states (by decide) hp 0 rfl rfl rfl hl.1 rfl (Nat.le_of_ble_eq_true rfl) dX7_bitSet_8 (fun H locs hp => ?_)
      refine lv_icmp_ge (tgt := 41) hx hb dX7_bitSet_11 (by decide) (fun c2 => ?_) (fun c2 => ?_)
      · have h := it_p h c2
        exact hk41 v2 _ _ _ hp (lv_sub hl [0, 2] rfl) h
      · have h := it_n h c2
        refine lv_lload_n hx hb dX7_bitSet_14 rfl (lv_at hl 2 rfl) ?_
        refine lv_iload hx hb dX7_bitSet_15 (lv_at hl 3 rfl) ?_
        refine lv_iload_n hx hb dX7_bitSet_17 rfl (lv_at hl 1 rfl) ?_
        refine lv_ishr hx hb dX7_bitSet_18 ?_
        refine lv_iconst (v := 1) hx hb dX7_bitSet_19 (by decide) ?_
        refine lv_iand hx hb dX7_bitSet_20 ?_
        refine lv_iconst (v := 1) hx hb dX7_bitSet_21 (by decide) ?_
        refine lv_icmp_ne (tgt := 32) hx hb dX7_bitSet_22 (by decide) (fun c3 => ?_) (fun c3 => ?_)
        · have h := it_n h c3
          refine lv_lconst (v := 0) hx hb dX7_bitSet_32 (by decide) ?_
          refine lv_lor hx hb dX7_bitSet_33 ?_
          refine lv_topl (fun x4 ex4 => ?_)
          have h := nm_s h x4 ex4
          refine lv_lstore_n (lv' := [(2, .long x4), (0, .ref (a 0)), (1, .int v1), (4, .int v4)]) hx hb dX7_bitSet_34 rfl hl (by decide) rfl (fun ls hl => ?_)
          obtain ⟨x5, ex5⟩ : ∃ z : Int32, z = v4 + (1 : Int32) := ⟨_, rfl⟩
          have h := nm_s h x5 ex5
          refine lv_iinc (v := x5) (lv' := [(4, .int x5), (2, .long x4), (0, .ref (a 0)), (1, .int v1)]) hx hb dX7_bitSet_35 hl (k := 3) rfl (by rw [ex5]; rfl) (by decide) rfl (fun ls hl => ?_)
          refine lv_goto (tgt := 5) hx hb dX7_bitSet_38 (by decide) ?_
          exact hk5 x4 x5 _ _ _ hp (lv_sub hl [2, 3, 1, 0] rfl) h
        · have h := it_p h c3
          refine lv_lconst (v := 1) hx hb dX7_bitSet_25 (by decide) ?_
          refine lv_iload hx hb dX7_bitSet_26 (lv_at hl 3 rfl) ?_
          refine lv_lshl hx hb dX7_bitSet_28 rfl ?_
          refine lv_goto (tgt := 33) hx hb dX7_bitSet_29 (by decide) ?_
          refine lv_lor hx hb dX7_bitSet_33 ?_
          refine lv_topl (fun x6 ex6 => ?_)
          have h := nm_s h x6 ex6
          refine lv_lstore_n (lv' := [(2, .long x6), (0, .ref (a 0)), (1, .int v1), (4, .int v4)]) hx hb dX7_bitSet_34 rfl hl (by decide) rfl (fun ls hl => ?_)
          obtain ⟨x7, ex7⟩ : ∃ z : Int32, z = v4 + (1 : Int32) := ⟨_, rfl⟩
          have h := nm_s h x7 ex7
          refine lv_iinc (v := x7) (lv' := [(4, .int x7), (2, .long x6), (0, .ref (a 0)), (1, .int v1)]) hx hb dX7_bitSet_35 hl (k := 3) rfl (by rw [ex7]; rfl) (by decide) rfl (fun ls hl => ?_)
          refine lv_goto (tgt := 5) hx hb dX7_bitSet_38 (by decide) ?_
          exact hk5 x6 x7 _ _ _ hp (lv_sub hl [2, 3, 1, 0] rfl) h
  have J_41 : ∀ (v2 : Int64) (H : Heap) (locs : List Loc) (ls : Array Slot), Pw D (wM a cA) A s.heap H locs σ → lv_has ls 5 [(0, .ref (a 0)), (2, .long v2)] → X7_bitSet_41 σ v2 = some r → W p l e R s m args below meth c H locs 0 0 Q (F0 m 41 ls []) := by
    intro v2 H locs ls hp hl h
    unfold X7_bitSet_41 at h
    refine lv_lload_n hx hb dX7_bitSet_41 rfl (lv_at hl 1 rfl) ?_
    exact hR _ _ _ _ _ _ dX7_bitSet_42 hp (Option.some.inj h) rfl
  unfold X7_bitSet at h
  have hl := lv_sub (l' := [(0, .ref (a 0)), (1, .int v1)]) hl [0, 1] rfl
  refine lv_lconst (v := 0) hx hb dX7_bitSet_0 (by decide) ?_
  refine lv_lstore_n (lv' := [(2, .long (0 : Int64)), (0, .ref (a 0)), (1, .int v1)]) hx hb dX7_bitSet_1 rfl hl (by decide) rfl (fun ls hl => ?_)
  refine lv_iconst (v := 0) hx hb dX7_bitSet_2 (by decide) ?_
  refine lv_istore (lv' := [(4, .int (0 : Int32)), (2, .long (0 : Int64)), (0, .ref (a 0)), (1, .int v1)]) hx hb dX7_bitSet_3 hl (by decide) rfl (fun ls hl => ?_)
  exact J_5 v1 _ (fun v2 H locs ls hp hl h => J_41 v2 _ _ _ hp hl h) _ (0 : Int64) (0 : Int32) _ _ _ hp (lv_sub hl [2, 3, 1, 0] rfl) h
def X7_start_44 (k12 : (Int32 → St → Option (St))) (v3 : Int32) (u0 : Int64) (u1 : Int32) (σ : St) : Option (St) :=
  gd (inb u1 24) (
  nm (sb σ 0 u1.toNatClampNeg u0) (fun (σ2 : St) =>
  nm (v3 + (1 : Int32)) (fun (x3 : Int32) =>
  k12 x3 σ2)))
def X7_start_12b (N : Nat) (k12 : (Int32 → St → Option (St))) (k51 : (St → Option (St))) (v3 : Int32) (σ : St) : Option (St) :=
  if (24 : Int32) ≤ v3 then
    k51 σ
  else
    if (σ.1 1) ≤ (v3 / (4 : Int32)) then
      X7_start_44 k12 v3 (0 : Int64) v3 σ
    else
      bd (X7_bitSet N σ (v3 / (4 : Int32))) (fun t3 =>
      X7_start_44 k12 v3 t3 v3 σ)
def X7_start_12 (N : Nat) (k51 : (St → Option (St))) : Nat → Int32 → St → Option (St)
  | 0, _, _ => none
  | n + 1, v3, σ => X7_start_12b N (fun v3 σ => X7_start_12 N k51 n v3 σ) k51 v3 σ
def X7_start_51 (σ : St) : Option (St) :=
  nm (sj σ 0 (1 : Int64)) (fun (σ1 : St) =>
  bd (X7_all σ1) (fun t2 =>
  nm (sj σ1 1 t2) (fun (σ3 : St) =>
  nm (si σ3 4 (0 : Int32)) (fun (σ4 : St) =>
  nm (si σ4 9 (0 : Int32)) (fun (σ5 : St) =>
  some σ5)))))
def X7_start (N : Nat) (v1 : Int32) (v2 : Int32) (σ : St) : Option (St) :=
  nm (si σ 1 v1) (fun (σ1 : St) =>
  nm (si σ1 2 v2) (fun (σ2 : St) =>
  X7_start_12 N (fun σ => X7_start_51 σ) N (0 : Int32) σ2))
set_option maxRecDepth 20000 in
set_option maxHeartbeats 4000000 in
theorem c_X7_start {l : Launch} {D : va_G} {a : Nat → Nat} {cA : Nat → ClassId} {σ : St} {N : Nat} {v1 : Int32} {v2 : Int32} {σ' : St} (h : X7_start N v1 v2 σ = some σ') : MetV l yX7_start cX7_start 4 none 2 D (tyW cA) (wM a cA) EM [.ref (a 0), .int v1, .int v2] σ σ' := by
  refine mkV (by decide) (adrM a cA) rfl (Nat.le_of_ble_eq_true rfl) ?_
  intro p e R s m args below meth c A Q ls X hR hp hl
  obtain ⟨hx, hb, -, hown, hts, -⟩ := id X
  have J_44 : ∀ (v3 : Int32) (u0 : Int64) (u1 : Int32) (k12 : (Int32 → St → Option (St))) (hk12 : ∀ (v3 : Int32) (σ : St) (H : Heap) (locs : List Loc) (ls : Array Slot), Pw D (wM a cA) A s.heap H locs σ → lv_has ls 4 [(0, .ref (a 0)), (3, .int v3)] → k12 v3 σ = some σ' → W p l e R s m args below meth c H locs 0 0 Q (F0 m 12 ls [])) (σ : St) (H : Heap) (locs : List Loc) (ls : Array Slot), Pw D (wM a cA) A s.heap H locs σ → lv_has ls 4 [(0, .ref (a 0)), (3, .int v3)] → X7_start_44 k12 v3 u0 u1 σ = some σ' → W p l e R s m args below meth c H locs 0 0 Q (F0 m 44 ls [.long u0, .int u1, .ref (a 1)]) := by
    intro v3 u0 u1 k12 hk12 σ H locs ls hp hl h
    unfold X7_start_44 at h
    obtain ⟨g1, h⟩ := gd_s h
    refine sM_X7_next X hp g1 dX7_start_44 (fun H locs σ2 eσ2 hp => ?_)
    have h := nm_s h σ2 eσ2
    obtain ⟨x3, ex3⟩ : ∃ z : Int32, z = v3 + (1 : Int32) := ⟨_, rfl⟩
    have h := nm_s h x3 ex3
    refine lv_iinc (v := x3) (lv' := [(3, .int x3), (0, .ref (a 0))]) hx hb dX7_start_45 hl (k := 1) rfl (by rw [ex3]; rfl) (by decide) rfl (fun ls hl => ?_)
    refine lv_goto (tgt := 12) hx hb dX7_start_48 (by decide) ?_
    exact hk12 x3 σ2 _ _ _ hp (lv_sub hl [1, 0] rfl) h
  have J_12 : ∀  (k51 : (St → Option (St))) (hk51 : ∀ (σ : St) (H : Heap) (locs : List Loc) (ls : Array Slot), Pw D (wM a cA) A s.heap H locs σ → lv_has ls 4 [(0, .ref (a 0))] → k51 σ = some σ' → W p l e R s m args below meth c H locs 0 0 Q (F0 m 51 ls [])) (n : Nat) (v3 : Int32) (σ : St) (H : Heap) (locs : List Loc) (ls : Array Slot), Pw D (wM a cA) A s.heap H locs σ → lv_has ls 4 [(0, .ref (a 0)), (3, .int v3)] → X7_start_12 N k51 n v3 σ = some σ' → W p l e R s m args below meth c H locs 0 0 Q (F0 m 12 ls []) := by
    intro k51 hk51 n
    induction n with
    | zero => intro v3 σ H locs ls hp hl h; exact nn_s (show (none : Option (St)) = some _ from h)
    | succ n ih =>
      intro v3 σ H locs ls hp hl h
      have h : X7_start_12b N (fun v3 σ => X7_start_12 N k51 n v3 σ) k51 v3 σ = some σ' := h
      unfold X7_start_12b at h
      have hk12 := ih
      refine lv_iload_n hx hb dX7_start_12 rfl (lv_at hl 1 rfl) ?_
      refine lv_bipush (v := 24) hx hb dX7_start_13 (by decide) ?_
      refine lv_icmp_ge (tgt := 51) hx hb dX7_start_15 (by decide) (fun c1 => ?_) (fun c1 => ?_)
      · have h := it_p h c1
        exact hk51 σ _ _ _ hp (lv_sub hl [0] rfl) h
      · have h := it_n h c1
        refine lv_aload_n hx hb dX7_start_18 rfl (lv_at hl 0 rfl) ?_
        refine gM_X7_next X hp tw_5_17 dX7_start_19 ?_
        refine lv_iload_n hx hb dX7_start_22 rfl (lv_at hl 1 rfl) ?_
        refine lv_iload_n hx hb dX7_start_23 rfl (lv_at hl 1 rfl) ?_
        refine lv_iconst (v := 4) hx hb dX7_start_24 (by decide) ?_
        refine lv_idiv hx hb dX7_start_25 (by decide) ?_
        refine lv_aload_n hx hb dX7_start_26 rfl (lv_at hl 0 rfl) ?_
        refine gM_X7_bits X hp tw_6_15 dX7_start_27 ?_
        refine lv_icmp_ge (tgt := 43) hx hb dX7_start_30 (by decide) (fun c2 => ?_) (fun c2 => ?_)
        · have h := it_p h c2
          refine lv_lconst (v := 0) hx hb dX7_start_43 (by decide) ?_
          exact J_44 v3 (0 : Int64) v3 _ hk12 σ _ _ _ hp (lv_sub hl [0, 1] rfl) h
        · have h := it_n h c2
          refine lv_aload_n hx hb dX7_start_33 rfl (lv_at hl 0 rfl) ?_
          refine lv_iload_n hx hb dX7_start_34 rfl (lv_at hl 1 rfl) ?_
          refine lv_iconst (v := 4) hx hb dX7_start_35 (by decide) ?_
          refine lv_idiv hx hb dX7_start_36 (by decide) ?_
          obtain ⟨t3, ht3, h⟩ := bd_s h
          refine cl_Vl X eokM (c_X7_bitSet ht3) tw_6_21 mw_X7_bitSet (by decide) hp 0 rfl rfl rfl hl.1 rfl (Nat.le_of_ble_eq_true rfl) dX7_start_37 (fun H locs hp => ?_)
          refine lv_goto (tgt := 44) hx hb dX7_start_40 (by decide) ?_
          exact J_44 v3 t3 v3 _ hk12 σ _ _ _ hp (lv_sub hl [0, 1] rfl) h
  have J_51 : ∀  (σ : St) (H : Heap) (locs : List Loc) (ls : Array Slot), Pw D (wM a cA) A s.heap H locs σ → lv_has ls 4 [(0, .ref (a 0))] → X7_start_51 σ = some σ' → W p l e R s m args below meth c H locs 0 0 Q (F0 m 51 ls []) := by
    intro σ H locs ls hp hl h
    unfold X7_start_51 at h
    refine lv_aload_n hx hb dX7_start_51 rfl (lv_at hl 0 rfl) ?_
    refine lv_lconst (v := 1) hx hb dX7_start_52 (by decide) ?_
    refine pM_X7_init X hp tw_6_17 dX7_start_53 (fun H locs σ1 eσ1 hp => ?_)
    have h := nm_s h σ1 eσ1
    refine lv_aload_n hx hb dX7_start_56 rfl (lv_at hl 0 rfl) ?_
    refine lv_aload_n hx hb dX7_start_57 rfl (lv_at hl 0 rfl) ?_
    obtain ⟨t2, ht2, h⟩ := bd_s h
    refine cl_Vl X eokM (c_X7_all ht2) tw_7_5 mw_X7_all (by decide) hp 0 rfl rfl rfl hl.1 rfl (Nat.le_of_ble_eq_true rfl) dX7_start_58 (fun H locs hp => ?_)
    refine pM_X7_good X hp tw_6_18 dX7_start_61 (fun H locs σ3 eσ3 hp => ?_)
    have h := nm_s h σ3 eσ3
    refine lv_aload_n hx hb dX7_start_64 rfl (lv_at hl 0 rfl) ?_
    refine lv_iconst (v := 0) hx hb dX7_start_65 (by decide) ?_
    refine pM_X7_kept X hp tw_6_19 dX7_start_66 (fun H locs σ4 eσ4 hp => ?_)
    have h := nm_s h σ4 eσ4
    refine lv_aload_n hx hb dX7_start_69 rfl (lv_at hl 0 rfl) ?_
    refine lv_iconst (v := 0) hx hb dX7_start_70 (by decide) ?_
    refine pM_X7_isProof X hp tw_6_20 (Or.inl rfl) dX7_start_71 (fun H locs σ5 eσ5 hp => ?_)
    have h := nm_s h σ5 eσ5
    exact hR _ _ _ _ _ dX7_start_74 hp (Option.some.inj h)
  unfold X7_start at h
  have hl := lv_sub (l' := [(0, .ref (a 0)), (1, .int v1), (2, .int v2)]) hl [0, 1, 2] rfl
  refine lv_aload_n hx hb dX7_start_0 rfl (lv_at hl 0 rfl) ?_
  refine lv_iload_n hx hb dX7_start_1 rfl (lv_at hl 1 rfl) ?_
  refine pM_X7_bits X hp tw_6_15 dX7_start_2 (fun H locs σ1 eσ1 hp => ?_)
  have h := nm_s h σ1 eσ1
  refine lv_aload_n hx hb dX7_start_5 rfl (lv_at hl 0 rfl) ?_
  refine lv_iload_n hx hb dX7_start_6 rfl (lv_at hl 2 rfl) ?_
  refine pM_X7_inputs X hp tw_6_16 dX7_start_7 (fun H locs σ2 eσ2 hp => ?_)
  have h := nm_s h σ2 eσ2
  refine lv_iconst (v := 0) hx hb dX7_start_10 (by decide) ?_
  refine lv_istore_n (lv' := [(3, .int (0 : Int32)), (0, .ref (a 0)), (1, .int v1), (2, .int v2)]) hx hb dX7_start_11 rfl hl (by decide) rfl (fun ls hl => ?_)
  exact J_12 _ (fun σ H locs ls hp hl h => J_51 σ _ _ _ hp hl h) _ (0 : Int32) σ2 _ _ _ hp (lv_sub hl [1, 0] rfl) h
def X7_begin_25 (N : Nat) (v1 : Int32) (v2 : Int32) (u0 : Int32) (σ : St) : Option (Int32 × St) :=
  nm (si σ 0 u0) (fun (σ1 : St) =>
  if (σ1.1 0) ≤ 0 then
    bd (X7_start N v1 v2 σ1) (fun t3 =>
    bd (X7_states t3) (fun t4 =>
    some (t4, t3)))
  else
    some ((0 : Int32), σ1))
def X7_begin (N : Nat) (v1 : Int32) (v2 : Int32) (σ : St) : Option (Int32 × St) :=
  bd (X7_within v1 (1 : Int32) (6 : Int32)) (fun t1 =>
  if t1 = 0 then
    X7_begin_25 N v1 v2 (1 : Int32) σ
  else
    bd (X7_within v2 (0 : Int32) (2 : Int32)) (fun t3 =>
    if t3 = 0 then
      X7_begin_25 N v1 v2 (1 : Int32) σ
    else
      X7_begin_25 N v1 v2 (0 : Int32) σ))
set_option maxRecDepth 20000 in
set_option maxHeartbeats 4000000 in
theorem c_X7_begin {l : Launch} {D : va_G} {a : Nat → Nat} {cA : Nat → ClassId} {σ : St} {N : Nat} {v1 : Int32} {v2 : Int32} {r : Int32} {σ' : St} (h : X7_begin N v1 v2 σ = some (r, σ')) : MetI l yX7_begin cX7_begin 3 (some .int) 3 D (tyW cA) (wM a cA) EM [.ref (a 0), .int v1, .int v2] σ r σ' := by
  refine mkI (by decide) (adrM a cA) (Or.inl rfl) (Nat.le_of_ble_eq_true rfl) ?_
  intro p e R s m args below meth c A Q ls X hR hp hl
  obtain ⟨hx, hb, -, hown, hts, -⟩ := id X
  have J_25 : ∀ (v1 : Int32) (v2 : Int32) (u0 : Int32) (σ : St) (H : Heap) (locs : List Loc) (ls : Array Slot), Pw D (wM a cA) A s.heap H locs σ → lv_has ls 3 [(0, .ref (a 0)), (1, .int v1), (2, .int v2)] → X7_begin_25 N v1 v2 u0 σ = some (r, σ') → W p l e R s m args below meth c H locs 0 0 Q (F0 m 25 ls [.int u0, .ref (a 0)]) := by
    intro v1 v2 u0 σ H locs ls hp hl h
    unfold X7_begin_25 at h
    refine pM_X7_thrown X hp tw_8_9 dX7_begin_25 (fun H locs σ1 eσ1 hp => ?_)
    have h := nm_s h σ1 eσ1
    refine lv_aload_n hx hb dX7_begin_28 rfl (lv_at hl 0 rfl) ?_
    refine gM_X7_thrown X hp tw_8_9 dX7_begin_29 ?_
    refine lv_if_le (tgt := 37) hx hb dX7_begin_32 (by decide) (fun c2 => ?_) (fun c2 => ?_)
    · have h := it_p h c2
      refine lv_aload_n hx hb dX7_begin_37 rfl (lv_at hl 0 rfl) ?_
      refine lv_iload_n hx hb dX7_begin_38 rfl (lv_at hl 1 rfl) ?_
      refine lv_iload_n hx hb dX7_begin_39 rfl (lv_at hl 2 rfl) ?_
      obtain ⟨t3, ht3, h⟩ := bd_s h
      refine cl_Vv X eokM (c_X7_start ht3) tw_6_11 mw_X7_start (by decide) hp 0 rfl rfl rfl hl.1 rfl (Nat.le_of_ble_eq_true rfl) dX7_begin_40 (fun H locs hp => ?_)
      refine lv_aload_n hx hb dX7_begin_43 rfl (lv_at hl 0 rfl) ?_
      obtain ⟨t4, ht4, h⟩ := bd_s h
      refine cl_Vi X eokM (c_X7_states ht4) tw_7_1 mw_X7_states (by decide) hp 0 rfl rfl rfl hl.1 rfl (Nat.le_of_ble_eq_true rfl) dX7_begin_44 (fun H locs hp => ?_)
      exact hR _ _ _ _ _ _ dX7_begin_47 hp (congrArg Prod.fst (Option.some.inj h)) (congrArg Prod.snd (Option.some.inj h)) (fun q => by cases q)
    · have h := it_n h c2
      refine lv_iconst (v := 0) hx hb dX7_begin_35 (by decide) ?_
      exact hR _ _ _ _ _ _ dX7_begin_36 hp (congrArg Prod.fst (Option.some.inj h)) (congrArg Prod.snd (Option.some.inj h)) (fun q => by cases q)
  unfold X7_begin at h
  have hl := lv_sub (l' := [(0, .ref (a 0)), (1, .int v1), (2, .int v2)]) hl [0, 1, 2] rfl
  refine lv_aload_n hx hb dX7_begin_0 rfl (lv_at hl 0 rfl) ?_
  refine lv_iload_n hx hb dX7_begin_1 rfl (lv_at hl 1 rfl) ?_
  refine lv_iconst (v := 1) hx hb dX7_begin_2 (by decide) ?_
  refine lv_bipush (v := 6) hx hb dX7_begin_3 (by decide) ?_
  obtain ⟨t1, ht1, h⟩ := bd_s h
  refine cl_Si X eokM (c_X7_within (adrM a cA) eokM ht1) tw_8_10 mw_X7_within (by decide) hp hl.1 rfl (Nat.le_of_ble_eq_true rfl) dX7_begin_5 (fun H locs hp => ?_)
  refine lv_if_eq (tgt := 24) hx hb dX7_begin_8 (by decide) (fun c2 => ?_) (fun c2 => ?_)
  · have h := it_p h c2
    refine lv_iconst (v := 1) hx hb dX7_begin_24 (by decide) ?_
    exact J_25 v1 v2 (1 : Int32) σ _ _ _ hp (lv_sub hl [0, 1, 2] rfl) h
  · have h := it_n h c2
    refine lv_iload_n hx hb dX7_begin_11 rfl (lv_at hl 2 rfl) ?_
    refine lv_iconst (v := 0) hx hb dX7_begin_12 (by decide) ?_
    refine lv_iconst (v := 2) hx hb dX7_begin_13 (by decide) ?_
    obtain ⟨t3, ht3, h⟩ := bd_s h
    refine cl_Si X eokM (c_X7_within (adrM a cA) eokM ht3) tw_8_10 mw_X7_within (by decide) hp hl.1 rfl (Nat.le_of_ble_eq_true rfl) dX7_begin_14 (fun H locs hp => ?_)
    refine lv_if_eq (tgt := 24) hx hb dX7_begin_17 (by decide) (fun c4 => ?_) (fun c4 => ?_)
    · have h := it_p h c4
      refine lv_iconst (v := 1) hx hb dX7_begin_24 (by decide) ?_
      exact J_25 v1 v2 (1 : Int32) σ _ _ _ hp (lv_sub hl [0, 1, 2] rfl) h
    · have h := it_n h c4
      refine lv_iconst (v := 0) hx hb dX7_begin_20 (by decide) ?_
      refine lv_goto (tgt := 25) hx hb dX7_begin_21 (by decide) ?_
      exact J_25 v1 v2 (0 : Int32) σ _ _ _ hp (lv_sub hl [0, 1, 2] rfl) h
def X7_append_30 (v1 : Int32) (u0 : Int32) (σ : St) : Option (Int32 × St) :=
  nm (si σ 0 u0) (fun (σ1 : St) =>
  if (σ1.1 0) ≤ 0 then
    gd (inb (σ1.1 3) 60) (
    nm (sa σ1 0 (σ1.1 3).toNatClampNeg v1) (fun (σ4 : St) =>
    nm (si σ4 3 ((σ4.1 3) + (1 : Int32))) (fun (σ5 : St) =>
    some ((σ5.1 3), σ5))))
  else
    some ((0 : Int32), σ1))
def X7_append (v1 : Int32) (σ : St) : Option (Int32 × St) :=
  bd (X7_within v1 (33 : Int32) (126 : Int32)) (fun t1 =>
  if t1 = 0 then
    X7_append_30 v1 (1 : Int32) σ
  else
    if (σ.1 3) = (60 : Int32) then
      X7_append_30 v1 (2 : Int32) σ
    else
      X7_append_30 v1 (0 : Int32) σ)
set_option maxRecDepth 20000 in
set_option maxHeartbeats 4000000 in
theorem c_X7_append {l : Launch} {D : va_G} {a : Nat → Nat} {cA : Nat → ClassId} {σ : St} {v1 : Int32} {r : Int32} {σ' : St} (h : X7_append v1 σ = some (r, σ')) : MetI l yX7_append cX7_append 2 (some .int) 1 D (tyW cA) (wM a cA) EM [.ref (a 0), .int v1] σ r σ' := by
  refine mkI (by decide) (adrM a cA) (Or.inl rfl) (Nat.le_of_ble_eq_true rfl) ?_
  intro p e R s m args below meth c A Q ls X hR hp hl
  obtain ⟨hx, hb, -, hown, hts, -⟩ := id X
  have J_30 : ∀ (v1 : Int32) (u0 : Int32) (σ : St) (H : Heap) (locs : List Loc) (ls : Array Slot), Pw D (wM a cA) A s.heap H locs σ → lv_has ls 2 [(0, .ref (a 0)), (1, .int v1)] → X7_append_30 v1 u0 σ = some (r, σ') → W p l e R s m args below meth c H locs 0 0 Q (F0 m 30 ls [.int u0, .ref (a 0)]) := by
    intro v1 u0 σ H locs ls hp hl h
    unfold X7_append_30 at h
    refine pM_X7_thrown X hp tw_8_9 dX7_append_30 (fun H locs σ1 eσ1 hp => ?_)
    have h := nm_s h σ1 eσ1
    refine lv_aload_n hx hb dX7_append_33 rfl (lv_at hl 0 rfl) ?_
    refine gM_X7_thrown X hp tw_8_9 dX7_append_34 ?_
    refine lv_if_le (tgt := 42) hx hb dX7_append_37 (by decide) (fun c2 => ?_) (fun c2 => ?_)
    · have h := it_p h c2
      refine lv_aload_n hx hb dX7_append_42 rfl (lv_at hl 0 rfl) ?_
      refine gM_X7_text X hp tw_5_18 dX7_append_43 ?_
      refine lv_aload_n hx hb dX7_append_46 rfl (lv_at hl 0 rfl) ?_
      refine gM_X7_length X hp tw_9_17 dX7_append_47 ?_
      refine lv_iload_n hx hb dX7_append_50 rfl (lv_at hl 1 rfl) ?_
      obtain ⟨g3, h⟩ := gd_s h
      refine sM_X7_text X hp g3 dX7_append_51 (fun H locs σ4 eσ4 hp => ?_)
      have h := nm_s h σ4 eσ4
      refine lv_aload_n hx hb dX7_append_52 rfl (lv_at hl 0 rfl) ?_
      refine lv_dup hx hb dX7_append_53 rfl ?_
      refine gM_X7_length X hp tw_9_17 dX7_append_54 ?_
      refine lv_iconst (v := 1) hx hb dX7_append_57 (by decide) ?_
      refine lv_iadd hx hb dX7_append_58 ?_
      refine pM_X7_length X hp tw_9_17 dX7_append_59 (fun H locs σ5 eσ5 hp => ?_)
      have h := nm_s h σ5 eσ5
      refine lv_aload_n hx hb dX7_append_62 rfl (lv_at hl 0 rfl) ?_
      refine gM_X7_length X hp tw_9_17 dX7_append_63 ?_
      exact hR _ _ _ _ _ _ dX7_append_66 hp (congrArg Prod.fst (Option.some.inj h)) (congrArg Prod.snd (Option.some.inj h)) (fun q => by cases q)
    · have h := it_n h c2
      refine lv_iconst (v := 0) hx hb dX7_append_40 (by decide) ?_
      exact hR _ _ _ _ _ _ dX7_append_41 hp (congrArg Prod.fst (Option.some.inj h)) (congrArg Prod.snd (Option.some.inj h)) (fun q => by cases q)
  unfold X7_append at h
  have hl := lv_sub (l' := [(0, .ref (a 0)), (1, .int v1)]) hl [0, 1] rfl
  refine lv_aload_n hx hb dX7_append_0 rfl (lv_at hl 0 rfl) ?_
  refine lv_iload_n hx hb dX7_append_1 rfl (lv_at hl 1 rfl) ?_
  refine lv_bipush (v := 33) hx hb dX7_append_2 (by decide) ?_
  refine lv_bipush (v := 126) hx hb dX7_append_4 (by decide) ?_
  obtain ⟨t1, ht1, h⟩ := bd_s h
  refine cl_Si X eokM (c_X7_within (adrM a cA) eokM ht1) tw_8_10 mw_X7_within (by decide) hp hl.1 rfl (Nat.le_of_ble_eq_true rfl) dX7_append_6 (fun H locs hp => ?_)
  refine lv_if_ne (tgt := 16) hx hb dX7_append_9 (by decide) (fun c2 => ?_) (fun c2 => ?_)
  · have h := it_n h c2
    refine lv_aload_n hx hb dX7_append_16 rfl (lv_at hl 0 rfl) ?_
    refine gM_X7_length X hp tw_9_17 dX7_append_17 ?_
    refine lv_bipush (v := 60) hx hb dX7_append_20 (by decide) ?_
    refine lv_icmp_ne (tgt := 29) hx hb dX7_append_22 (by decide) (fun c3 => ?_) (fun c3 => ?_)
    · have h := it_n h c3
      refine lv_iconst (v := 0) hx hb dX7_append_29 (by decide) ?_
      exact J_30 v1 (0 : Int32) σ _ _ _ hp (lv_sub hl [0, 1] rfl) h
    · have h := it_p h c3
      refine lv_iconst (v := 2) hx hb dX7_append_25 (by decide) ?_
      refine lv_goto (tgt := 30) hx hb dX7_append_26 (by decide) ?_
      exact J_30 v1 (2 : Int32) σ _ _ _ hp (lv_sub hl [0, 1] rfl) h
  · have h := it_p h c2
    refine lv_iconst (v := 1) hx hb dX7_append_12 (by decide) ?_
    refine lv_goto (tgt := 30) hx hb dX7_append_13 (by decide) ?_
    exact J_30 v1 (1 : Int32) σ _ _ _ hp (lv_sub hl [0, 1] rfl) h
def X7_clearBuffer (σ : St) : Option (Int32 × St) :=
  nm (si σ 0 (0 : Int32)) (fun (σ1 : St) =>
  nm (σ1.1 3) (fun (x2 : Int32) =>
  nm (si σ1 3 (0 : Int32)) (fun (σ3 : St) =>
  some (x2, σ3))))
set_option maxRecDepth 20000 in
set_option maxHeartbeats 4000000 in
theorem c_X7_clearBuffer {l : Launch} {D : va_G} {a : Nat → Nat} {cA : Nat → ClassId} {σ : St} {r : Int32} {σ' : St} (h : X7_clearBuffer σ = some (r, σ')) : MetI l yX7_clearBuffer cX7_clearBuffer 2 (some .int) 0 D (tyW cA) (wM a cA) EM [.ref (a 0)] σ r σ' := by
  refine mkI (by decide) (adrM a cA) (Or.inl rfl) (Nat.le_of_ble_eq_true rfl) ?_
  intro p e R s m args below meth c A Q ls X hR hp hl
  obtain ⟨hx, hb, -, hown, hts, -⟩ := id X
  unfold X7_clearBuffer at h
  have hl := lv_sub (l' := [(0, .ref (a 0))]) hl [0] rfl
  refine lv_aload_n hx hb dX7_clearBuffer_0 rfl (lv_at hl 0 rfl) ?_
  refine lv_iconst (v := 0) hx hb dX7_clearBuffer_1 (by decide) ?_
  refine pM_X7_thrown X hp tw_8_9 dX7_clearBuffer_2 (fun H locs σ1 eσ1 hp => ?_)
  have h := nm_s h σ1 eσ1
  refine lv_aload_n hx hb dX7_clearBuffer_5 rfl (lv_at hl 0 rfl) ?_
  refine gM_X7_length X hp tw_9_17 dX7_clearBuffer_6 ?_
  refine lv_topi (fun x2 ex2 => ?_)
  have h := nm_s h x2 ex2
  refine lv_istore_n (lv' := [(1, .int x2), (0, .ref (a 0))]) hx hb dX7_clearBuffer_9 rfl hl (by decide) rfl (fun ls hl => ?_)
  refine lv_aload_n hx hb dX7_clearBuffer_10 rfl (lv_at hl 1 rfl) ?_
  refine lv_iconst (v := 0) hx hb dX7_clearBuffer_11 (by decide) ?_
  refine pM_X7_length X hp tw_9_17 dX7_clearBuffer_12 (fun H locs σ3 eσ3 hp => ?_)
  have h := nm_s h σ3 eσ3
  refine lv_iload_n hx hb dX7_clearBuffer_15 rfl (lv_at hl 0 rfl) ?_
  exact hR _ _ _ _ _ _ dX7_clearBuffer_16 hp (congrArg Prod.fst (Option.some.inj h)) (congrArg Prod.snd (Option.some.inj h)) (fun q => by cases q)
def X7_isInput_13 (σ : St) (v1 : Int32) : Option (Int32) :=
  if v1 = (121 : Int32) then
    if (σ.1 2) ≤ (1 : Int32) then
      some (0 : Int32)
    else
      some (1 : Int32)
  else
    some (0 : Int32)
def X7_isInput (σ : St) (v1 : Int32) : Option (Int32) :=
  if v1 = (120 : Int32) then
    if 0 < (σ.1 2) then
      some (1 : Int32)
    else
      X7_isInput_13 σ v1
  else
    X7_isInput_13 σ v1
set_option maxRecDepth 20000 in
set_option maxHeartbeats 4000000 in
theorem c_X7_isInput {l : Launch} {D : va_G} {a : Nat → Nat} {cA : Nat → ClassId} {σ : St} {v1 : Int32} {r : Int32} (h : X7_isInput σ v1 = some r) : MetI l yX7_isInput cX7_isInput 2 (some .boolean) 0 D (tyW cA) (wM a cA) EM [.ref (a 0), .int v1] σ r σ := by
  refine mkI (by decide) (adrM a cA) (Or.inr rfl) (Nat.le_of_ble_eq_true rfl) ?_
  intro p e R s m args below meth c A Q ls X hR hp hl
  obtain ⟨hx, hb, -, hown, hts, -⟩ := id X
  have J_13 : ∀ (v1 : Int32) (H : Heap) (locs : List Loc) (ls : Array Slot), Pw D (wM a cA) A s.heap H locs σ → lv_has ls 2 [(0, .ref (a 0)), (1, .int v1)] → X7_isInput_13 σ v1 = some r → W p l e R s m args below meth c H locs 0 0 Q (F0 m 13 ls []) := by
    intro v1 H locs ls hp hl h
    unfold X7_isInput_13 at h
    refine lv_iload_n hx hb dX7_isInput_13 rfl (lv_at hl 1 rfl) ?_
    refine lv_bipush (v := 121) hx hb dX7_isInput_14 (by decide) ?_
    refine lv_icmp_ne (tgt := 31) hx hb dX7_isInput_16 (by decide) (fun c1 => ?_) (fun c1 => ?_)
    · have h := it_n h c1
      refine lv_iconst (v := 0) hx hb dX7_isInput_31 (by decide) ?_
      exact hR _ _ _ _ _ _ dX7_isInput_32 hp (Option.some.inj h) rfl (fun _ => Or.inl rfl)
    · have h := it_p h c1
      refine lv_aload_n hx hb dX7_isInput_19 rfl (lv_at hl 0 rfl) ?_
      refine gM_X7_inputs X hp tw_6_16 dX7_isInput_20 ?_
      refine lv_iconst (v := 1) hx hb dX7_isInput_23 (by decide) ?_
      refine lv_icmp_le (tgt := 31) hx hb dX7_isInput_24 (by decide) (fun c2 => ?_) (fun c2 => ?_)
      · have h := it_p h c2
        refine lv_iconst (v := 0) hx hb dX7_isInput_31 (by decide) ?_
        exact hR _ _ _ _ _ _ dX7_isInput_32 hp (Option.some.inj h) rfl (fun _ => Or.inl rfl)
      · have h := it_n h c2
        refine lv_iconst (v := 1) hx hb dX7_isInput_27 (by decide) ?_
        refine lv_goto (tgt := 32) hx hb dX7_isInput_28 (by decide) ?_
        exact hR _ _ _ _ _ _ dX7_isInput_32 hp (Option.some.inj h) rfl (fun _ => Or.inr rfl)
  unfold X7_isInput at h
  have hl := lv_sub (l' := [(0, .ref (a 0)), (1, .int v1)]) hl [0, 1] rfl
  refine lv_iload_n hx hb dX7_isInput_0 rfl (lv_at hl 1 rfl) ?_
  refine lv_bipush (v := 120) hx hb dX7_isInput_1 (by decide) ?_
  refine lv_icmp_ne (tgt := 13) hx hb dX7_isInput_3 (by decide) (fun c1 => ?_) (fun c1 => ?_)
  · have h := it_n h c1
    exact J_13 v1 _ _ _ hp (lv_sub hl [0, 1] rfl) h
  · have h := it_p h c1
    refine lv_aload_n hx hb dX7_isInput_6 rfl (lv_at hl 0 rfl) ?_
    refine gM_X7_inputs X hp tw_6_16 dX7_isInput_7 ?_
    refine lv_if_gt (tgt := 27) hx hb dX7_isInput_10 (by decide) (fun c2 => ?_) (fun c2 => ?_)
    · have h := it_p h c2
      refine lv_iconst (v := 1) hx hb dX7_isInput_27 (by decide) ?_
      refine lv_goto (tgt := 32) hx hb dX7_isInput_28 (by decide) ?_
      exact hR _ _ _ _ _ _ dX7_isInput_32 hp (Option.some.inj h) rfl (fun _ => Or.inr rfl)
    · have h := it_n h c2
      exact J_13 v1 _ _ _ hp (lv_sub hl [0, 1] rfl) h
def X7_isName (σ : St) (v1 : Int32) : Option (Int32) :=
  bd (X7_within v1 (97 : Int32) (((97 : Int32) + (σ.1 1)) - (1 : Int32))) (fun t1 =>
  if t1 = 0 then
    bd (X7_isInput σ v1) (fun t3 =>
    if t3 = 0 then
      some (0 : Int32)
    else
      some (1 : Int32))
  else
    some (1 : Int32))
set_option maxRecDepth 20000 in
set_option maxHeartbeats 4000000 in
theorem c_X7_isName {l : Launch} {D : va_G} {a : Nat → Nat} {cA : Nat → ClassId} {σ : St} {v1 : Int32} {r : Int32} (h : X7_isName σ v1 = some r) : MetI l yX7_isName cX7_isName 2 (some .boolean) 1 D (tyW cA) (wM a cA) EM [.ref (a 0), .int v1] σ r σ := by
  refine mkI (by decide) (adrM a cA) (Or.inr rfl) (Nat.le_of_ble_eq_true rfl) ?_
  intro p e R s m args below meth c A Q ls X hR hp hl
  obtain ⟨hx, hb, -, hown, hts, -⟩ := id X
  unfold X7_isName at h
  have hl := lv_sub (l' := [(0, .ref (a 0)), (1, .int v1)]) hl [0, 1] rfl
  refine lv_iload_n hx hb dX7_isName_0 rfl (lv_at hl 1 rfl) ?_
  refine lv_bipush (v := 97) hx hb dX7_isName_1 (by decide) ?_
  refine lv_bipush (v := 97) hx hb dX7_isName_3 (by decide) ?_
  refine lv_aload_n hx hb dX7_isName_5 rfl (lv_at hl 0 rfl) ?_
  refine gM_X7_bits X hp tw_6_15 dX7_isName_6 ?_
  refine lv_iadd hx hb dX7_isName_9 ?_
  refine lv_iconst (v := 1) hx hb dX7_isName_10 (by decide) ?_
  refine lv_isub hx hb dX7_isName_11 ?_
  obtain ⟨t1, ht1, h⟩ := bd_s h
  refine cl_Si X eokM (c_X7_within (adrM a cA) eokM ht1) tw_8_10 mw_X7_within (by decide) hp hl.1 rfl (Nat.le_of_ble_eq_true rfl) dX7_isName_12 (fun H locs hp => ?_)
  refine lv_if_ne (tgt := 26) hx hb dX7_isName_15 (by decide) (fun c2 => ?_) (fun c2 => ?_)
  · have h := it_n h c2
    refine lv_iconst (v := 1) hx hb dX7_isName_26 (by decide) ?_
    refine lv_goto (tgt := 31) hx hb dX7_isName_27 (by decide) ?_
    exact hR _ _ _ _ _ _ dX7_isName_31 hp (Option.some.inj h) rfl (fun _ => Or.inr rfl)
  · have h := it_p h c2
    refine lv_aload_n hx hb dX7_isName_18 rfl (lv_at hl 0 rfl) ?_
    refine lv_iload_n hx hb dX7_isName_19 rfl (lv_at hl 1 rfl) ?_
    obtain ⟨t3, ht3, h⟩ := bd_s h
    refine cl_Vi X eokM (c_X7_isInput ht3) tw_12_5 mw_X7_isInput (by decide) hp 0 rfl rfl rfl hl.1 rfl (Nat.le_of_ble_eq_true rfl) dX7_isName_20 (fun H locs hp => ?_)
    refine lv_if_eq (tgt := 30) hx hb dX7_isName_23 (by decide) (fun c4 => ?_) (fun c4 => ?_)
    · have h := it_p h c4
      refine lv_iconst (v := 0) hx hb dX7_isName_30 (by decide) ?_
      exact hR _ _ _ _ _ _ dX7_isName_31 hp (Option.some.inj h) rfl (fun _ => Or.inl rfl)
    · have h := it_n h c4
      refine lv_iconst (v := 1) hx hb dX7_isName_26 (by decide) ?_
      refine lv_goto (tgt := 31) hx hb dX7_isName_27 (by decide) ?_
      exact hR _ _ _ _ _ _ dX7_isName_31 hp (Option.some.inj h) rfl (fun _ => Or.inr rfl)
def X7_isSign (v0 : Int32) : Option (Int32) :=
  if v0 = (124 : Int32) then
    some (1 : Int32)
  else
    if v0 = (94 : Int32) then
      some (1 : Int32)
    else
      if v0 = (38 : Int32) then
        some (1 : Int32)
      else
        some (0 : Int32)
set_option maxRecDepth 20000 in
set_option maxHeartbeats 4000000 in
theorem c_X7_isSign {l : Launch} {D : va_G} {tys : List (ClassId × FieldType)} {w : St → va_W} {E : (Nat → Prop) → State → Prop} (hw : Adr w) (hE : EOK E) {σ : St} {v0 : Int32} {r : Int32} (h : X7_isSign v0 = some r) : MetI l yX7_isSign cX7_isSign 1 (some .boolean) 0 D tys w E [.int v0] σ r σ := by
  refine mkI (by decide) hw (Or.inr rfl) (Nat.le_of_ble_eq_true rfl) ?_
  intro p e R s m args below meth c A Q ls X hR hp hl
  obtain ⟨hx, hb, -, hown, hts, -⟩ := id X
  unfold X7_isSign at h
  have hl := lv_sub (l' := [(0, .int v0)]) hl [0] rfl
  refine lv_iload_n hx hb dX7_isSign_0 rfl (lv_at hl 0 rfl) ?_
  refine lv_bipush (v := 124) hx hb dX7_isSign_1 (by decide) ?_
  refine lv_icmp_eq (tgt := 18) hx hb dX7_isSign_3 (by decide) (fun c1 => ?_) (fun c1 => ?_)
  · have h := it_p h c1
    refine lv_iconst (v := 1) hx hb dX7_isSign_18 (by decide) ?_
    refine lv_goto (tgt := 23) hx hb dX7_isSign_19 (by decide) ?_
    exact hR _ _ _ _ _ _ dX7_isSign_23 hp (Option.some.inj h) rfl (fun _ => Or.inr rfl)
  · have h := it_n h c1
    refine lv_iload_n hx hb dX7_isSign_6 rfl (lv_at hl 0 rfl) ?_
    refine lv_bipush (v := 94) hx hb dX7_isSign_7 (by decide) ?_
    refine lv_icmp_eq (tgt := 18) hx hb dX7_isSign_9 (by decide) (fun c2 => ?_) (fun c2 => ?_)
    · have h := it_p h c2
      refine lv_iconst (v := 1) hx hb dX7_isSign_18 (by decide) ?_
      refine lv_goto (tgt := 23) hx hb dX7_isSign_19 (by decide) ?_
      exact hR _ _ _ _ _ _ dX7_isSign_23 hp (Option.some.inj h) rfl (fun _ => Or.inr rfl)
    · have h := it_n h c2
      refine lv_iload_n hx hb dX7_isSign_12 rfl (lv_at hl 0 rfl) ?_
      refine lv_bipush (v := 38) hx hb dX7_isSign_13 (by decide) ?_
      refine lv_icmp_ne (tgt := 22) hx hb dX7_isSign_15 (by decide) (fun c3 => ?_) (fun c3 => ?_)
      · have h := it_n h c3
        refine lv_iconst (v := 0) hx hb dX7_isSign_22 (by decide) ?_
        exact hR _ _ _ _ _ _ dX7_isSign_23 hp (Option.some.inj h) rfl (fun _ => Or.inl rfl)
      · have h := it_p h c3
        refine lv_iconst (v := 1) hx hb dX7_isSign_18 (by decide) ?_
        refine lv_goto (tgt := 23) hx hb dX7_isSign_19 (by decide) ?_
        exact hR _ _ _ _ _ _ dX7_isSign_23 hp (Option.some.inj h) rfl (fun _ => Or.inr rfl)
def X7_takes_100 (v1 : Int32) (u0 : Int32) (u1 : Int32) (σ : St) : Option (Int32 × St) :=
  nm (si σ 5 (u1 + u0)) (fun (σ1 : St) =>
  if (σ1.1 6) = 0 then
    if v1 = (40 : Int32) then
      some ((1 : Int32), σ1)
    else
      if v1 = (33 : Int32) then
        some ((1 : Int32), σ1)
      else
        some ((0 : Int32), σ1)
  else
    some ((1 : Int32), σ1))
def X7_takes_81 (v1 : Int32) (u0 : Int32) (σ : St) : Option (Int32 × St) :=
  gd (isb u0) (
  nm (si σ 6 u0) (fun (σ1 : St) =>
  if v1 = (40 : Int32) then
    X7_takes_100 v1 (1 : Int32) (σ1.1 5) σ1
  else
    X7_takes_100 v1 (0 : Int32) (σ1.1 5) σ1))
def X7_takes_46 (v1 : Int32) (u0 : Int32) (u1 : Int32) (σ : St) : Option (Int32 × St) :=
  nm (si σ 5 (u1 - u0)) (fun (σ1 : St) =>
  bd (X7_isSign v1) (fun t2 =>
  gd (isb t2) (
  some (t2, σ1))))
def X7_takes_20 (v1 : Int32) (u0 : Int32) (σ : St) : Option (Int32 × St) :=
  gd (isb u0) (
  nm (si σ 6 u0) (fun (σ1 : St) =>
  if v1 = (41 : Int32) then
    if (σ1.1 5) ≤ 0 then
      X7_takes_46 v1 (0 : Int32) (σ1.1 5) σ1
    else
      X7_takes_46 v1 (1 : Int32) (σ1.1 5) σ1
  else
    X7_takes_46 v1 (0 : Int32) (σ1.1 5) σ1))
def X7_takes (v1 : Int32) (σ : St) : Option (Int32 × St) :=
  if (σ.1 6) = 0 then
    bd (X7_isName σ v1) (fun t2 =>
    if t2 = 0 then
      if v1 = (48 : Int32) then
        X7_takes_81 v1 (1 : Int32) σ
      else
        if v1 = (49 : Int32) then
          X7_takes_81 v1 (1 : Int32) σ
        else
          X7_takes_81 v1 (0 : Int32) σ
    else
      X7_takes_81 v1 (1 : Int32) σ)
  else
    bd (X7_isSign v1) (fun t6 =>
    if t6 = 0 then
      X7_takes_20 v1 (1 : Int32) σ
    else
      X7_takes_20 v1 (0 : Int32) σ)
set_option maxRecDepth 20000 in
set_option maxHeartbeats 4000000 in
theorem c_X7_takes {l : Launch} {D : va_G} {a : Nat → Nat} {cA : Nat → ClassId} {σ : St} {v1 : Int32} {r : Int32} {σ' : St} (h : X7_takes v1 σ = some (r, σ')) : MetI l yX7_takes cX7_takes 2 (some .boolean) 2 D (tyW cA) (wM a cA) EM [.ref (a 0), .int v1] σ r σ' := by
  refine mkI (by decide) (adrM a cA) (Or.inr rfl) (Nat.le_of_ble_eq_true rfl) ?_
  intro p e R s m args below meth c A Q ls X hR hp hl
  obtain ⟨hx, hb, -, hown, hts, -⟩ := id X
  have J_100 : ∀ (v1 : Int32) (u0 : Int32) (u1 : Int32) (σ : St) (H : Heap) (locs : List Loc) (ls : Array Slot), Pw D (wM a cA) A s.heap H locs σ → lv_has ls 2 [(0, .ref (a 0)), (1, .int v1)] → X7_takes_100 v1 u0 u1 σ = some (r, σ') → W p l e R s m args below meth c H locs 0 0 Q (F0 m 100 ls [.int u0, .int u1, .ref (a 0)]) := by
    intro v1 u0 u1 σ H locs ls hp hl h
    unfold X7_takes_100 at h
    refine lv_iadd hx hb dX7_takes_100 ?_
    refine pM_X7_opens X hp tw_11_16 dX7_takes_101 (fun H locs σ1 eσ1 hp => ?_)
    have h := nm_s h σ1 eσ1
    refine lv_aload_n hx hb dX7_takes_104 rfl (lv_at hl 0 rfl) ?_
    refine gM_X7_isOver X hp tw_11_17 dX7_takes_105 ?_
    refine lv_if_ne (tgt := 123) hx hb dX7_takes_108 (by decide) (fun c2 => ?_) (fun c2 => ?_)
    · have h := it_n h c2
      refine lv_iconst (v := 1) hx hb dX7_takes_123 (by decide) ?_
      refine lv_goto (tgt := 128) hx hb dX7_takes_124 (by decide) ?_
      exact hR _ _ _ _ _ _ dX7_takes_128 hp (congrArg Prod.fst (Option.some.inj h)) (congrArg Prod.snd (Option.some.inj h)) (fun _ => Or.inr rfl)
    · have h := it_p h c2
      refine lv_iload_n hx hb dX7_takes_111 rfl (lv_at hl 1 rfl) ?_
      refine lv_bipush (v := 40) hx hb dX7_takes_112 (by decide) ?_
      refine lv_icmp_eq (tgt := 123) hx hb dX7_takes_114 (by decide) (fun c3 => ?_) (fun c3 => ?_)
      · have h := it_p h c3
        refine lv_iconst (v := 1) hx hb dX7_takes_123 (by decide) ?_
        refine lv_goto (tgt := 128) hx hb dX7_takes_124 (by decide) ?_
        exact hR _ _ _ _ _ _ dX7_takes_128 hp (congrArg Prod.fst (Option.some.inj h)) (congrArg Prod.snd (Option.some.inj h)) (fun _ => Or.inr rfl)
      · have h := it_n h c3
        refine lv_iload_n hx hb dX7_takes_117 rfl (lv_at hl 1 rfl) ?_
        refine lv_bipush (v := 33) hx hb dX7_takes_118 (by decide) ?_
        refine lv_icmp_ne (tgt := 127) hx hb dX7_takes_120 (by decide) (fun c4 => ?_) (fun c4 => ?_)
        · have h := it_n h c4
          refine lv_iconst (v := 0) hx hb dX7_takes_127 (by decide) ?_
          exact hR _ _ _ _ _ _ dX7_takes_128 hp (congrArg Prod.fst (Option.some.inj h)) (congrArg Prod.snd (Option.some.inj h)) (fun _ => Or.inl rfl)
        · have h := it_p h c4
          refine lv_iconst (v := 1) hx hb dX7_takes_123 (by decide) ?_
          refine lv_goto (tgt := 128) hx hb dX7_takes_124 (by decide) ?_
          exact hR _ _ _ _ _ _ dX7_takes_128 hp (congrArg Prod.fst (Option.some.inj h)) (congrArg Prod.snd (Option.some.inj h)) (fun _ => Or.inr rfl)
  have J_81 : ∀ (v1 : Int32) (u0 : Int32) (σ : St) (H : Heap) (locs : List Loc) (ls : Array Slot), Pw D (wM a cA) A s.heap H locs σ → lv_has ls 2 [(0, .ref (a 0)), (1, .int v1)] → X7_takes_81 v1 u0 σ = some (r, σ') → W p l e R s m args below meth c H locs 0 0 Q (F0 m 81 ls [.int u0, .ref (a 0)]) := by
    intro v1 u0 σ H locs ls hp hl h
    unfold X7_takes_81 at h
    obtain ⟨g2, h⟩ := gd_s h
    refine pM_X7_isOver X hp tw_11_17 g2 dX7_takes_81 (fun H locs σ1 eσ1 hp => ?_)
    have h := nm_s h σ1 eσ1
    refine lv_aload_n hx hb dX7_takes_84 rfl (lv_at hl 0 rfl) ?_
    refine lv_dup hx hb dX7_takes_85 rfl ?_
    refine gM_X7_opens X hp tw_11_16 dX7_takes_86 ?_
    refine lv_iload_n hx hb dX7_takes_89 rfl (lv_at hl 1 rfl) ?_
    refine lv_bipush (v := 40) hx hb dX7_takes_90 (by decide) ?_
    refine lv_icmp_ne (tgt := 99) hx hb dX7_takes_92 (by decide) (fun c3 => ?_) (fun c3 => ?_)
    · have h := it_n h c3
      refine lv_iconst (v := 0) hx hb dX7_takes_99 (by decide) ?_
      exact J_100 v1 (0 : Int32) (σ1.1 5) σ1 _ _ _ hp (lv_sub hl [0, 1] rfl) h
    · have h := it_p h c3
      refine lv_iconst (v := 1) hx hb dX7_takes_95 (by decide) ?_
      refine lv_goto (tgt := 100) hx hb dX7_takes_96 (by decide) ?_
      exact J_100 v1 (1 : Int32) (σ1.1 5) σ1 _ _ _ hp (lv_sub hl [0, 1] rfl) h
  have J_46 : ∀ (v1 : Int32) (u0 : Int32) (u1 : Int32) (σ : St) (H : Heap) (locs : List Loc) (ls : Array Slot), Pw D (wM a cA) A s.heap H locs σ → lv_has ls 2 [(0, .ref (a 0)), (1, .int v1)] → X7_takes_46 v1 u0 u1 σ = some (r, σ') → W p l e R s m args below meth c H locs 0 0 Q (F0 m 46 ls [.int u0, .int u1, .ref (a 0)]) := by
    intro v1 u0 u1 σ H locs ls hp hl h
    unfold X7_takes_46 at h
    refine lv_isub hx hb dX7_takes_46 ?_
    refine pM_X7_opens X hp tw_11_16 dX7_takes_47 (fun H locs σ1 eσ1 hp => ?_)
    have h := nm_s h σ1 eσ1
    refine lv_iload_n hx hb dX7_takes_50 rfl (lv_at hl 1 rfl) ?_
    obtain ⟨t2, ht2, h⟩ := bd_s h
    refine cl_Si X eokM (c_X7_isSign (adrM a cA) eokM ht2) tw_11_22 mw_X7_isSign (by decide) hp hl.1 rfl (Nat.le_of_ble_eq_true rfl) dX7_takes_51 (fun H locs hp => ?_)
    obtain ⟨g3, h⟩ := gd_s h
    exact hR _ _ _ _ _ _ dX7_takes_54 hp (congrArg Prod.fst (Option.some.inj h)) (congrArg Prod.snd (Option.some.inj h)) (fun _ => g3)
  have J_20 : ∀ (v1 : Int32) (u0 : Int32) (σ : St) (H : Heap) (locs : List Loc) (ls : Array Slot), Pw D (wM a cA) A s.heap H locs σ → lv_has ls 2 [(0, .ref (a 0)), (1, .int v1)] → X7_takes_20 v1 u0 σ = some (r, σ') → W p l e R s m args below meth c H locs 0 0 Q (F0 m 20 ls [.int u0, .ref (a 0)]) := by
    intro v1 u0 σ H locs ls hp hl h
    unfold X7_takes_20 at h
    obtain ⟨g2, h⟩ := gd_s h
    refine pM_X7_isOver X hp tw_11_17 g2 dX7_takes_20 (fun H locs σ1 eσ1 hp => ?_)
    have h := nm_s h σ1 eσ1
    refine lv_aload_n hx hb dX7_takes_23 rfl (lv_at hl 0 rfl) ?_
    refine lv_dup hx hb dX7_takes_24 rfl ?_
    refine gM_X7_opens X hp tw_11_16 dX7_takes_25 ?_
    refine lv_iload_n hx hb dX7_takes_28 rfl (lv_at hl 1 rfl) ?_
    refine lv_bipush (v := 41) hx hb dX7_takes_29 (by decide) ?_
    refine lv_icmp_ne (tgt := 45) hx hb dX7_takes_31 (by decide) (fun c3 => ?_) (fun c3 => ?_)
    · have h := it_n h c3
      refine lv_iconst (v := 0) hx hb dX7_takes_45 (by decide) ?_
      exact J_46 v1 (0 : Int32) (σ1.1 5) σ1 _ _ _ hp (lv_sub hl [0, 1] rfl) h
    · have h := it_p h c3
      refine lv_aload_n hx hb dX7_takes_34 rfl (lv_at hl 0 rfl) ?_
      refine gM_X7_opens X hp tw_11_16 dX7_takes_35 ?_
      refine lv_if_le (tgt := 45) hx hb dX7_takes_38 (by decide) (fun c4 => ?_) (fun c4 => ?_)
      · have h := it_p h c4
        refine lv_iconst (v := 0) hx hb dX7_takes_45 (by decide) ?_
        exact J_46 v1 (0 : Int32) (σ1.1 5) σ1 _ _ _ hp (lv_sub hl [0, 1] rfl) h
      · have h := it_n h c4
        refine lv_iconst (v := 1) hx hb dX7_takes_41 (by decide) ?_
        refine lv_goto (tgt := 46) hx hb dX7_takes_42 (by decide) ?_
        exact J_46 v1 (1 : Int32) (σ1.1 5) σ1 _ _ _ hp (lv_sub hl [0, 1] rfl) h
  unfold X7_takes at h
  have hl := lv_sub (l' := [(0, .ref (a 0)), (1, .int v1)]) hl [0, 1] rfl
  refine lv_aload_n hx hb dX7_takes_0 rfl (lv_at hl 0 rfl) ?_
  refine gM_X7_isOver X hp tw_11_17 dX7_takes_1 ?_
  refine lv_if_eq (tgt := 55) hx hb dX7_takes_4 (by decide) (fun c1 => ?_) (fun c1 => ?_)
  · have h := it_p h c1
    refine lv_aload_n hx hb dX7_takes_55 rfl (lv_at hl 0 rfl) ?_
    refine lv_aload_n hx hb dX7_takes_56 rfl (lv_at hl 0 rfl) ?_
    refine lv_iload_n hx hb dX7_takes_57 rfl (lv_at hl 1 rfl) ?_
    obtain ⟨t2, ht2, h⟩ := bd_s h
    refine cl_Vi X eokM (c_X7_isName ht2) tw_12_1 mw_X7_isName (by decide) hp 0 rfl rfl rfl hl.1 rfl (Nat.le_of_ble_eq_true rfl) dX7_takes_58 (fun H locs hp => ?_)
    refine lv_if_ne (tgt := 76) hx hb dX7_takes_61 (by decide) (fun c3 => ?_) (fun c3 => ?_)
    · have h := it_n h c3
      refine lv_iconst (v := 1) hx hb dX7_takes_76 (by decide) ?_
      refine lv_goto (tgt := 81) hx hb dX7_takes_77 (by decide) ?_
      exact J_81 v1 (1 : Int32) σ _ _ _ hp (lv_sub hl [0, 1] rfl) h
    · have h := it_p h c3
      refine lv_iload_n hx hb dX7_takes_64 rfl (lv_at hl 1 rfl) ?_
      refine lv_bipush (v := 48) hx hb dX7_takes_65 (by decide) ?_
      refine lv_icmp_eq (tgt := 76) hx hb dX7_takes_67 (by decide) (fun c4 => ?_) (fun c4 => ?_)
      · have h := it_p h c4
        refine lv_iconst (v := 1) hx hb dX7_takes_76 (by decide) ?_
        refine lv_goto (tgt := 81) hx hb dX7_takes_77 (by decide) ?_
        exact J_81 v1 (1 : Int32) σ _ _ _ hp (lv_sub hl [0, 1] rfl) h
      · have h := it_n h c4
        refine lv_iload_n hx hb dX7_takes_70 rfl (lv_at hl 1 rfl) ?_
        refine lv_bipush (v := 49) hx hb dX7_takes_71 (by decide) ?_
        refine lv_icmp_ne (tgt := 80) hx hb dX7_takes_73 (by decide) (fun c5 => ?_) (fun c5 => ?_)
        · have h := it_n h c5
          refine lv_iconst (v := 0) hx hb dX7_takes_80 (by decide) ?_
          exact J_81 v1 (0 : Int32) σ _ _ _ hp (lv_sub hl [0, 1] rfl) h
        · have h := it_p h c5
          refine lv_iconst (v := 1) hx hb dX7_takes_76 (by decide) ?_
          refine lv_goto (tgt := 81) hx hb dX7_takes_77 (by decide) ?_
          exact J_81 v1 (1 : Int32) σ _ _ _ hp (lv_sub hl [0, 1] rfl) h
  · have h := it_n h c1
    refine lv_aload_n hx hb dX7_takes_7 rfl (lv_at hl 0 rfl) ?_
    refine lv_iload_n hx hb dX7_takes_8 rfl (lv_at hl 1 rfl) ?_
    obtain ⟨t6, ht6, h⟩ := bd_s h
    refine cl_Si X eokM (c_X7_isSign (adrM a cA) eokM ht6) tw_11_22 mw_X7_isSign (by decide) hp hl.1 rfl (Nat.le_of_ble_eq_true rfl) dX7_takes_9 (fun H locs hp => ?_)
    refine lv_if_ne (tgt := 19) hx hb dX7_takes_12 (by decide) (fun c7 => ?_) (fun c7 => ?_)
    · have h := it_n h c7
      refine lv_iconst (v := 0) hx hb dX7_takes_19 (by decide) ?_
      exact J_20 v1 (0 : Int32) σ _ _ _ hp (lv_sub hl [0, 1] rfl) h
    · have h := it_p h c7
      refine lv_iconst (v := 1) hx hb dX7_takes_15 (by decide) ?_
      refine lv_goto (tgt := 20) hx hb dX7_takes_16 (by decide) ?_
      exact J_20 v1 (1 : Int32) σ _ _ _ hp (lv_sub hl [0, 1] rfl) h
