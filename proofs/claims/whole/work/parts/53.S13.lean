/- X6_elimination X5_withFreeBits X5_staysGood X6_isSafeWithFree X5_smallestCone X6_leastCone X5_simulateFrom X6_simulate -/
def X6_elimination_10 (σ : St) : Option (Int64 × St) :=
  none
def X6_elimination (N : Nat) (v1 : Int32) (σ : St) : Option (Int64 × St) :=
  if v1 < (1 : Int32) then
    X6_elimination_10 σ
  else
    if v1 ≤ (3 : Int32) then
      bd (X2_refresh N σ) (fun t3 =>
      bd (X5_eliminate N v1 t3) (fun t4 =>
      some (t4.1, t4.2)))
    else
      X6_elimination_10 σ
set_option maxRecDepth 20000 in
set_option maxHeartbeats 4000000 in
theorem c_X6_elimination {l : Launch} {D : va_G} {a : Nat → Nat} {cA : Nat → ClassId} {t : Nat} {F : (Nat → Prop) → State → Prop} (hF : EOK F) {σ : St} {N : Nat} {v1 : Int32} {r : Int64} {σ' : St} (h : X6_elimination N v1 σ = some (r, σ')) : MetL l yX6_elimination cX6_elimination 2 (some .long) 6 D (tyW cA) (wS a cA) (ES t F) [.ref (a 0), .int v1] σ r σ' := by
  refine mkL (by decide) (adrS a cA) rfl (Nat.le_of_ble_eq_true rfl) ?_
  intro p e R s m args below meth c A Q ls X hR hp hl
  obtain ⟨hx, hb, -, hown, hts, -⟩ := id X
  have J_10 : ∀  (σ : St) (H : Heap) (locs : List Loc) (ls : Array Slot), Pw D (wS a cA) A s.heap H locs σ → lv_has ls 2 [(0, .ref (a 0))] → X6_elimination_10 σ = some (r, σ') → W p l e R s m args below meth c H locs 0 0 Q (F0 m 10 ls []) := by
    intro σ H locs ls hp hl h
    unfold X6_elimination_10 at h
    exact nn_s h
  unfold X6_elimination at h
  have hl := lv_sub (l' := [(0, .ref (a 0)), (1, .int v1)]) hl [0, 1] rfl
  refine lv_iload_n hx hb dX6_elimination_0 rfl (lv_at hl 1 rfl) ?_
  refine lv_iconst (v := 1) hx hb dX6_elimination_1 (by decide) ?_
  refine lv_icmp_lt (tgt := 10) hx hb dX6_elimination_2 (by decide) (fun c1 => ?_) (fun c1 => ?_)
  · have h := it_p h c1
    exact J_10 σ _ _ _ hp (lv_sub hl [0] rfl) h
  · have h := it_n h c1
    refine lv_iload_n hx hb dX6_elimination_5 rfl (lv_at hl 1 rfl) ?_
    refine lv_iconst (v := 3) hx hb dX6_elimination_6 (by decide) ?_
    refine lv_icmp_le (tgt := 21) hx hb dX6_elimination_7 (by decide) (fun c2 => ?_) (fun c2 => ?_)
    · have h := it_p h c2
      refine lv_aload_n hx hb dX6_elimination_21 rfl (lv_at hl 0 rfl) ?_
      refine gS_X6_exploration X hp tw_2_0 dX6_elimination_22 ?_
      obtain ⟨t3, ht3, h⟩ := bd_s h
      refine cl_Vv X (eokS hF) (c_X2_refresh hF ht3) tw_22_10 mw_X2_refresh (by decide) hp 3 rfl rfl rfl hl.1 rfl (Nat.le_of_ble_eq_true rfl) dX6_elimination_25 (fun H locs hp => ?_)
      refine lv_aload_n hx hb dX6_elimination_28 rfl (lv_at hl 0 rfl) ?_
      refine gS_X6_otherProofs X hp tw_2_8 dX6_elimination_29 ?_
      refine lv_iload_n hx hb dX6_elimination_32 rfl (lv_at hl 1 rfl) ?_
      obtain ⟨t4, ht4, h⟩ := bd_s h
      refine cl_Vl X (eokS hF) (c_X5_eliminate hF ht4) tw_49_10 mw_X5_eliminate (by decide) hp 5 rfl rfl rfl hl.1 rfl (Nat.le_of_ble_eq_true rfl) dX6_elimination_33 (fun H locs hp => ?_)
      exact hR _ _ _ _ _ _ dX6_elimination_36 hp (congrArg Prod.fst (Option.some.inj h)) (congrArg Prod.snd (Option.some.inj h))
    · have h := it_n h c2
      exact J_10 σ _ _ _ hp (lv_sub hl [0] rfl) h
def X5_withFreeBits_6b (k6 : (Int64 → Int32 → Option (Int64))) (k88 : (Int64 → Option (Int64))) (σ : St) (v3 : Int32) (v4 : Int64) (v6 : Int32) : Option (Int64) :=
  if (σ.1 5) ≤ v6 then
    k88 v4
  else
    if (6 : Int32) ≤ v6 then
      k88 v4
    else
      if ((v3 >>> (v6 &&& 31)) &&& (1 : Int32)) = 0 then
        nm (v6 + (1 : Int32)) (fun (x4 : Int32) =>
        k6 v4 x4)
      else
        nm ((1 : Int32) <<< (v6 &&& 31)) (fun (x5 : Int32) =>
        gd (inb v6 6) (
        nm (v4 &&& (swb v6.toNatClampNeg)) (fun (x7 : Int64) =>
        gd (inb v6 6) (
        nm (v4 &&& ((swb v6.toNatClampNeg) ^^^ (-1 : Int64))) (fun (x9 : Int64) =>
        nm (v4 ||| (((x7.toUInt64 >>> (x5.toInt64.toUInt64 &&& Int64.toUInt64 63)).toInt64) ||| (x9 <<< (x5.toInt64 &&& 63)))) (fun (x10 : Int64) =>
        nm (v6 + (1 : Int32)) (fun (x11 : Int32) =>
        k6 x10 x11)))))))
def X5_withFreeBits_6 (k88 : (Int64 → Option (Int64))) (σ : St) (v3 : Int32) : Nat → Int64 → Int32 → Option (Int64)
  | 0, _, _ => none
  | n + 1, v4, v6 => X5_withFreeBits_6b (fun v4 v6 => X5_withFreeBits_6 k88 σ v3 n v4 v6) k88 σ v3 v4 v6
def X5_withFreeBits_88 (σ : St) (v4 : Int64) : Option (Int64) :=
  some v4
def X5_withFreeBits (N : Nat) (σ : St) (v1 : Int64) (v3 : Int32) : Option (Int64) :=
  X5_withFreeBits_6 (fun v4 => X5_withFreeBits_88 σ v4) σ v3 N v1 (0 : Int32)
set_option maxRecDepth 20000 in
set_option maxHeartbeats 4000000 in
theorem c_X5_withFreeBits {l : Launch} {D : va_G} {a : Nat → Nat} {cA : Nat → ClassId} {t : Nat} {F : (Nat → Prop) → State → Prop} (hF : EOK F) {σ : St} {N : Nat} {v1 : Int64} {v3 : Int32} {r : Int64} (h : X5_withFreeBits N σ v1 v3 = some r) : MetL l yX5_withFreeBits cX5_withFreeBits 12 (some .long) 0 D (tyW cA) (wS a cA) (ES t F) [.ref (a 5), .long v1, .int v3] σ r σ := by
  refine mkL (by decide) (adrS a cA) rfl (Nat.le_of_ble_eq_true rfl) ?_
  intro p e R s m args below meth c A Q ls X hR hp hl
  obtain ⟨hx, hb, -, hown, hts, -⟩ := id X
  have J_6 : ∀ (v3 : Int32) (k88 : (Int64 → Option (Int64))) (hk88 : ∀ (v4 : Int64) (H : Heap) (locs : List Loc) (ls : Array Slot), Pw D (wS a cA) A s.heap H locs σ → lv_has ls 12 [(0, .ref (a 5)), (4, .long v4)] → k88 v4 = some r → W p l e R s m args below meth c H locs 0 0 Q (F0 m 88 ls [])) (n : Nat) (v4 : Int64) (v6 : Int32) (H : Heap) (locs : List Loc) (ls : Array Slot), Pw D (wS a cA) A s.heap H locs σ → lv_has ls 12 [(0, .ref (a 5)), (3, .int v3), (4, .long v4), (6, .int v6)] → X5_withFreeBits_6 k88 σ v3 n v4 v6 = some r → W p l e R s m args below meth c H locs 0 0 Q (F0 m 6 ls []) := by
    intro v3 k88 hk88 n
    induction n with
    | zero => intro v4 v6 H locs ls hp hl h; exact nn_s (show (none : Option (Int64)) = some _ from h)
    | succ n ih =>
      intro v4 v6 H locs ls hp hl h
      have h : X5_withFreeBits_6b (fun v4 v6 => X5_withFreeBits_6 k88 σ v3 n v4 v6) k88 σ v3 v4 v6 = some r := h
      unfold X5_withFreeBits_6b at h
      have hk6 := ih
      refine lv_iload hx hb dX5_withFreeBits_6 (lv_at hl 3 rfl) ?_
      refine lv_aload_n hx hb dX5_withFreeBits_8 rfl (lv_at hl 0 rfl) ?_
      refine gS_X5_circuit X hp tw_5_9 dX5_withFreeBits_9 ?_
      refine gS_X0_bits X hp tw_52_8 dX5_withFreeBits_12 ?_
      refine lv_icmp_ge (tgt := 88) hx hb dX5_withFreeBits_15 (by decide) (fun c1 => ?_) (fun c1 => ?_)
      · have h := it_p h c1
        exact hk88 v4 _ _ _ hp (lv_sub hl [0, 2] rfl) h
      · have h := it_n h c1
        refine lv_iload hx hb dX5_withFreeBits_18 (lv_at hl 3 rfl) ?_
        refine lv_bipush (v := 6) hx hb dX5_withFreeBits_20 (by decide) ?_
        refine lv_icmp_ge (tgt := 88) hx hb dX5_withFreeBits_22 (by decide) (fun c2 => ?_) (fun c2 => ?_)
        · have h := it_p h c2
          exact hk88 v4 _ _ _ hp (lv_sub hl [0, 2] rfl) h
        · have h := it_n h c2
          refine lv_iload_n hx hb dX5_withFreeBits_25 rfl (lv_at hl 1 rfl) ?_
          refine lv_iload hx hb dX5_withFreeBits_26 (lv_at hl 3 rfl) ?_
          refine lv_ishr hx hb dX5_withFreeBits_28 ?_
          refine lv_iconst (v := 1) hx hb dX5_withFreeBits_29 (by decide) ?_
          refine lv_iand hx hb dX5_withFreeBits_30 ?_
          refine lv_if_eq (tgt := 82) hx hb dX5_withFreeBits_31 (by decide) (fun c3 => ?_) (fun c3 => ?_)
          · have h := it_p h c3
            obtain ⟨x4, ex4⟩ : ∃ z : Int32, z = v6 + (1 : Int32) := ⟨_, rfl⟩
            have h := nm_s h x4 ex4
            refine lv_iinc (v := x4) (lv' := [(6, .int x4), (0, .ref (a 5)), (3, .int v3), (4, .long v4)]) hx hb dX5_withFreeBits_82 hl (k := 3) rfl (by rw [ex4]; rfl) (by decide) rfl (fun ls hl => ?_)
            refine lv_goto (tgt := 6) hx hb dX5_withFreeBits_85 (by decide) ?_
            exact hk6 v4 x4 _ _ _ hp (lv_sub hl [1, 2, 3, 0] rfl) h
          · have h := it_n h c3
            refine lv_iconst (v := 1) hx hb dX5_withFreeBits_34 (by decide) ?_
            refine lv_iload hx hb dX5_withFreeBits_35 (lv_at hl 3 rfl) ?_
            refine lv_ishl hx hb dX5_withFreeBits_37 ?_
            refine lv_topi (fun x5 ex5 => ?_)
            have h := nm_s h x5 ex5
            refine lv_istore (lv' := [(7, .int x5), (0, .ref (a 5)), (3, .int v3), (4, .long v4), (6, .int v6)]) hx hb dX5_withFreeBits_38 hl (by decide) rfl (fun ls hl => ?_)
            refine lv_lload hx hb dX5_withFreeBits_40 (lv_at hl 3 rfl) ?_
            refine gsS X hp (List.mem_of_getElem? (i := 1) rfl) dX5_withFreeBits_42 ?_
            refine lv_iload hx hb dX5_withFreeBits_45 (lv_at hl 4 rfl) ?_
            obtain ⟨g6, h⟩ := gd_s h
            refine lsS X hp g6 dX5_withFreeBits_47 ?_
            refine lv_land hx hb dX5_withFreeBits_48 ?_
            refine lv_topl (fun x7 ex7 => ?_)
            have h := nm_s h x7 ex7
            refine lv_lstore (lv' := [(8, .long x7), (7, .int x5), (0, .ref (a 5)), (3, .int v3), (4, .long v4), (6, .int v6)]) hx hb dX5_withFreeBits_49 hl (by decide) rfl (fun ls hl => ?_)
            refine lv_lload hx hb dX5_withFreeBits_51 (lv_at hl 4 rfl) ?_
            refine gsS X hp (List.mem_of_getElem? (i := 1) rfl) dX5_withFreeBits_53 ?_
            refine lv_iload hx hb dX5_withFreeBits_56 (lv_at hl 5 rfl) ?_
            obtain ⟨g8, h⟩ := gd_s h
            refine lsS X hp g8 dX5_withFreeBits_58 ?_
            refine lv_ldc2 hx hb hown (hts _ tw_48_4) dX5_withFreeBits_59 ?_
            refine lv_lxor hx hb dX5_withFreeBits_62 ?_
            refine lv_land hx hb dX5_withFreeBits_63 ?_
            refine lv_topl (fun x9 ex9 => ?_)
            have h := nm_s h x9 ex9
            refine lv_lstore (lv' := [(10, .long x9), (8, .long x7), (7, .int x5), (0, .ref (a 5)), (3, .int v3), (4, .long v4), (6, .int v6)]) hx hb dX5_withFreeBits_64 hl (by decide) rfl (fun ls hl => ?_)
            refine lv_lload hx hb dX5_withFreeBits_66 (lv_at hl 5 rfl) ?_
            refine lv_lload hx hb dX5_withFreeBits_68 (lv_at hl 1 rfl) ?_
            refine lv_iload hx hb dX5_withFreeBits_70 (lv_at hl 2 rfl) ?_
            refine lv_lushr hx hb dX5_withFreeBits_72 rfl ?_
            refine lv_lload hx hb dX5_withFreeBits_73 (lv_at hl 0 rfl) ?_
            refine lv_iload hx hb dX5_withFreeBits_75 (lv_at hl 2 rfl) ?_
            refine lv_lshl hx hb dX5_withFreeBits_77 rfl ?_
            refine lv_lor hx hb dX5_withFreeBits_78 ?_
            refine lv_lor hx hb dX5_withFreeBits_79 ?_
            refine lv_topl (fun x10 ex10 => ?_)
            have h := nm_s h x10 ex10
            refine lv_lstore (lv' := [(4, .long x10), (10, .long x9), (8, .long x7), (7, .int x5), (0, .ref (a 5)), (3, .int v3), (6, .int v6)]) hx hb dX5_withFreeBits_80 hl (by decide) rfl (fun ls hl => ?_)
            obtain ⟨x11, ex11⟩ : ∃ z : Int32, z = v6 + (1 : Int32) := ⟨_, rfl⟩
            have h := nm_s h x11 ex11
            refine lv_iinc (v := x11) (lv' := [(6, .int x11), (4, .long x10), (10, .long x9), (8, .long x7), (7, .int x5), (0, .ref (a 5)), (3, .int v3)]) hx hb dX5_withFreeBits_82 hl (k := 6) rfl (by rw [ex11]; rfl) (by decide) rfl (fun ls hl => ?_)
            refine lv_goto (tgt := 6) hx hb dX5_withFreeBits_85 (by decide) ?_
            exact hk6 x10 x11 _ _ _ hp (lv_sub hl [5, 6, 1, 0] rfl) h
  have J_88 : ∀ (v4 : Int64) (H : Heap) (locs : List Loc) (ls : Array Slot), Pw D (wS a cA) A s.heap H locs σ → lv_has ls 12 [(0, .ref (a 5)), (4, .long v4)] → X5_withFreeBits_88 σ v4 = some r → W p l e R s m args below meth c H locs 0 0 Q (F0 m 88 ls []) := by
    intro v4 H locs ls hp hl h
    unfold X5_withFreeBits_88 at h
    refine lv_lload hx hb dX5_withFreeBits_88 (lv_at hl 1 rfl) ?_
    exact hR _ _ _ _ _ _ dX5_withFreeBits_90 hp (Option.some.inj h) rfl
  unfold X5_withFreeBits at h
  have hl := lv_sub (l' := [(0, .ref (a 5)), (1, .long v1), (3, .int v3)]) hl [0, 1, 2] rfl
  refine lv_lload_n hx hb dX5_withFreeBits_0 rfl (lv_at hl 1 rfl) ?_
  refine lv_lstore (lv' := [(4, .long v1), (0, .ref (a 5)), (1, .long v1), (3, .int v3)]) hx hb dX5_withFreeBits_1 hl (by decide) rfl (fun ls hl => ?_)
  refine lv_iconst (v := 0) hx hb dX5_withFreeBits_3 (by decide) ?_
  refine lv_istore (lv' := [(6, .int (0 : Int32)), (4, .long v1), (0, .ref (a 5)), (1, .long v1), (3, .int v3)]) hx hb dX5_withFreeBits_4 hl (by decide) rfl (fun ls hl => ?_)
  exact J_6 v3 _ (fun v4 H locs ls hp hl h => J_88 v4 _ _ _ hp hl h) _ v1 (0 : Int32) _ _ _ hp (lv_sub hl [2, 4, 1, 0] rfl) h
def X5_staysGood_14b (N : Nat) (k14 : (Int64 → Int64 → Int32 → Option (Int32))) (k43 : (Option (Int32))) (k78 : (Option (Int32))) (σ : St) (v1 : Int32) (v2 : Int64) (v4 : Int64) (v6 : Int32) : Option (Int32) :=
  if (64 : Int32) < v6 then
    k78
  else
    if v4 = (0 : Int64) then
      k78
    else
      bd (X0_bad σ) (fun t3 =>
      if (v4 &&& t3) = (0 : Int64) then
        bd (X2_successorsOf N σ v4) (fun t5 =>
        bd (X5_withFreeBits N σ t5 v1) (fun t6 =>
        nm (t6 &&& (v2 ^^^ (-1 : Int64))) (fun (x7 : Int64) =>
        nm (v2 ||| x7) (fun (x8 : Int64) =>
        nm (v6 + (1 : Int32)) (fun (x9 : Int32) =>
        k14 x8 x7 x9)))))
      else
        k43)
def X5_staysGood_14 (N : Nat) (k43 : (Option (Int32))) (k78 : (Option (Int32))) (σ : St) (v1 : Int32) : Nat → Int64 → Int64 → Int32 → Option (Int32)
  | 0, _, _, _ => none
  | n + 1, v2, v4, v6 => X5_staysGood_14b N (fun v2 v4 v6 => X5_staysGood_14 N k43 k78 σ v1 n v2 v4 v6) k43 k78 σ v1 v2 v4 v6
def X5_staysGood_43 (σ : St) : Option (Int32) :=
  some (0 : Int32)
def X5_staysGood_78 (σ : St) : Option (Int32) :=
  some (1 : Int32)
def X5_staysGood (N : Nat) (σ : St) (v1 : Int32) : Option (Int32) :=
  bd (X0_initial σ) (fun t1 =>
  X5_staysGood_14 N (X5_staysGood_43 σ) (X5_staysGood_78 σ) σ v1 N t1 t1 (0 : Int32))
set_option maxRecDepth 20000 in
set_option maxHeartbeats 4000000 in
theorem c_X5_staysGood {l : Launch} {D : va_G} {a : Nat → Nat} {cA : Nat → ClassId} {t : Nat} {F : (Nat → Prop) → State → Prop} (hF : EOK F) {σ : St} {N : Nat} {v1 : Int32} {r : Int32} (h : X5_staysGood N σ v1 = some r) : MetI l yX5_staysGood cX5_staysGood 7 (some .boolean) 4 D (tyW cA) (wS a cA) (ES t F) [.ref (a 5), .int v1] σ r σ := by
  refine mkI (by decide) (adrS a cA) (Or.inr rfl) (Nat.le_of_ble_eq_true rfl) ?_
  intro p e R s m args below meth c A Q ls X hR hp hl
  obtain ⟨hx, hb, -, hown, hts, -⟩ := id X
  have J_14 : ∀ (v1 : Int32) (k43 : (Option (Int32))) (hk43 : ∀ (H : Heap) (locs : List Loc) (ls : Array Slot), Pw D (wS a cA) A s.heap H locs σ → lv_has ls 7 [(0, .ref (a 5))] → k43 = some r → W p l e R s m args below meth c H locs 0 0 Q (F0 m 43 ls [])) (k78 : (Option (Int32))) (hk78 : ∀ (H : Heap) (locs : List Loc) (ls : Array Slot), Pw D (wS a cA) A s.heap H locs σ → lv_has ls 7 [(0, .ref (a 5))] → k78 = some r → W p l e R s m args below meth c H locs 0 0 Q (F0 m 78 ls [])) (n : Nat) (v2 : Int64) (v4 : Int64) (v6 : Int32) (H : Heap) (locs : List Loc) (ls : Array Slot), Pw D (wS a cA) A s.heap H locs σ → lv_has ls 7 [(0, .ref (a 5)), (1, .int v1), (2, .long v2), (4, .long v4), (6, .int v6)] → X5_staysGood_14 N k43 k78 σ v1 n v2 v4 v6 = some r → W p l e R s m args below meth c H locs 0 0 Q (F0 m 14 ls []) := by
    intro v1 k43 hk43 k78 hk78 n
    induction n with
    | zero => intro v2 v4 v6 H locs ls hp hl h; exact nn_s (show (none : Option (Int32)) = some _ from h)
    | succ n ih =>
      intro v2 v4 v6 H locs ls hp hl h
      have h : X5_staysGood_14b N (fun v2 v4 v6 => X5_staysGood_14 N k43 k78 σ v1 n v2 v4 v6) k43 k78 σ v1 v2 v4 v6 = some r := h
      unfold X5_staysGood_14b at h
      have hk14 := ih
      refine lv_iload hx hb dX5_staysGood_14 (lv_at hl 4 rfl) ?_
      refine lv_bipush (v := 64) hx hb dX5_staysGood_16 (by decide) ?_
      refine lv_icmp_gt (tgt := 78) hx hb dX5_staysGood_18 (by decide) (fun c1 => ?_) (fun c1 => ?_)
      · have h := it_p h c1
        exact hk78 _ _ _ hp (lv_sub hl [0] rfl) h
      · have h := it_n h c1
        refine lv_lload hx hb dX5_staysGood_21 (lv_at hl 3 rfl) ?_
        refine lv_lconst (v := 0) hx hb dX5_staysGood_23 (by decide) ?_
        refine W.lcmp hx hb dX5_staysGood_24 ?_
        refine lv_if_eq (tgt := 78) hx hb dX5_staysGood_25 (by decide) (fun c2 => ?_) (fun c2 => ?_)
        · have h := it_p h (lcmp0.mp c2)
          exact hk78 _ _ _ hp (lv_sub hl [0] rfl) h
        · have h := it_n h (fun q => c2 (lcmp0.mpr q))
          refine lv_lload hx hb dX5_staysGood_28 (lv_at hl 3 rfl) ?_
          refine lv_aload_n hx hb dX5_staysGood_30 rfl (lv_at hl 0 rfl) ?_
          refine gS_X5_circuit X hp tw_5_9 dX5_staysGood_31 ?_
          obtain ⟨t3, ht3, h⟩ := bd_s h
          refine cl_Vl X (eokS hF) (c_X0_bad hF ht3) tw_47_12 mw_X0_bad (by decide) hp 2 rfl rfl rfl hl.1 rfl (Nat.le_of_ble_eq_true rfl) dX5_staysGood_34 (fun H locs hp => ?_)
          refine lv_land hx hb dX5_staysGood_37 ?_
          refine lv_lconst (v := 0) hx hb dX5_staysGood_38 (by decide) ?_
          refine W.lcmp hx hb dX5_staysGood_39 ?_
          refine lv_if_eq (tgt := 45) hx hb dX5_staysGood_40 (by decide) (fun c4 => ?_) (fun c4 => ?_)
          · have h := it_p h (lcmp0.mp c4)
            refine lv_aload_n hx hb dX5_staysGood_45 rfl (lv_at hl 0 rfl) ?_
            refine lv_aload_n hx hb dX5_staysGood_46 rfl (lv_at hl 0 rfl) ?_
            refine gS_X5_exploration X hp tw_5_10 dX5_staysGood_47 ?_
            refine lv_lload hx hb dX5_staysGood_50 (lv_at hl 3 rfl) ?_
            obtain ⟨t5, ht5, h⟩ := bd_s h
            refine cl_Vl X (eokS hF) (c_X2_successorsOf hF ht5) tw_50_13 mw_X2_successorsOf (by decide) hp 3 rfl rfl rfl hl.1 rfl (Nat.le_of_ble_eq_true rfl) dX5_staysGood_52 (fun H locs hp => ?_)
            refine lv_iload_n hx hb dX5_staysGood_55 rfl (lv_at hl 1 rfl) ?_
            obtain ⟨t6, ht6, h⟩ := bd_s h
            refine cl_Vl X (eokS hF) (c_X5_withFreeBits hF ht6) tw_52_4 mw_X5_withFreeBits (by decide) hp 5 rfl rfl rfl hl.1 rfl (Nat.le_of_ble_eq_true rfl) dX5_staysGood_56 (fun H locs hp => ?_)
            refine lv_lload_n hx hb dX5_staysGood_59 rfl (lv_at hl 2 rfl) ?_
            refine lv_ldc2 hx hb hown (hts _ tw_48_4) dX5_staysGood_60 ?_
            refine lv_lxor hx hb dX5_staysGood_63 ?_
            refine lv_land hx hb dX5_staysGood_64 ?_
            refine lv_topl (fun x7 ex7 => ?_)
            have h := nm_s h x7 ex7
            refine lv_lstore (lv' := [(4, .long x7), (0, .ref (a 5)), (1, .int v1), (2, .long v2), (6, .int v6)]) hx hb dX5_staysGood_65 hl (by decide) rfl (fun ls hl => ?_)
            refine lv_lload_n hx hb dX5_staysGood_67 rfl (lv_at hl 3 rfl) ?_
            refine lv_lload hx hb dX5_staysGood_68 (lv_at hl 0 rfl) ?_
            refine lv_lor hx hb dX5_staysGood_70 ?_
            refine lv_topl (fun x8 ex8 => ?_)
            have h := nm_s h x8 ex8
            refine lv_lstore_n (lv' := [(2, .long x8), (4, .long x7), (0, .ref (a 5)), (1, .int v1), (6, .int v6)]) hx hb dX5_staysGood_71 rfl hl (by decide) rfl (fun ls hl => ?_)
            obtain ⟨x9, ex9⟩ : ∃ z : Int32, z = v6 + (1 : Int32) := ⟨_, rfl⟩
            have h := nm_s h x9 ex9
            refine lv_iinc (v := x9) (lv' := [(6, .int x9), (2, .long x8), (4, .long x7), (0, .ref (a 5)), (1, .int v1)]) hx hb dX5_staysGood_72 hl (k := 4) rfl (by rw [ex9]; rfl) (by decide) rfl (fun ls hl => ?_)
            refine lv_goto (tgt := 14) hx hb dX5_staysGood_75 (by decide) ?_
            exact hk14 x8 x7 x9 _ _ _ hp (lv_sub hl [3, 4, 1, 2, 0] rfl) h
          · have h := it_n h (fun q => c4 (lcmp0.mpr q))
            exact hk43 _ _ _ hp (lv_sub hl [0] rfl) h
  have J_43 : ∀  (H : Heap) (locs : List Loc) (ls : Array Slot), Pw D (wS a cA) A s.heap H locs σ → lv_has ls 7 [(0, .ref (a 5))] → X5_staysGood_43 σ = some r → W p l e R s m args below meth c H locs 0 0 Q (F0 m 43 ls []) := by
    intro H locs ls hp hl h
    unfold X5_staysGood_43 at h
    refine lv_iconst (v := 0) hx hb dX5_staysGood_43 (by decide) ?_
    exact hR _ _ _ _ _ _ dX5_staysGood_44 hp (Option.some.inj h) rfl (fun _ => Or.inl rfl)
  have J_78 : ∀  (H : Heap) (locs : List Loc) (ls : Array Slot), Pw D (wS a cA) A s.heap H locs σ → lv_has ls 7 [(0, .ref (a 5))] → X5_staysGood_78 σ = some r → W p l e R s m args below meth c H locs 0 0 Q (F0 m 78 ls []) := by
    intro H locs ls hp hl h
    unfold X5_staysGood_78 at h
    refine lv_iconst (v := 1) hx hb dX5_staysGood_78 (by decide) ?_
    exact hR _ _ _ _ _ _ dX5_staysGood_79 hp (Option.some.inj h) rfl (fun _ => Or.inr rfl)
  unfold X5_staysGood at h
  have hl := lv_sub (l' := [(0, .ref (a 5)), (1, .int v1)]) hl [0, 1] rfl
  refine lv_aload_n hx hb dX5_staysGood_0 rfl (lv_at hl 0 rfl) ?_
  refine gS_X5_circuit X hp tw_5_9 dX5_staysGood_1 ?_
  obtain ⟨t1, ht1, h⟩ := bd_s h
  refine cl_Vl X (eokS hF) (c_X0_initial hF ht1) tw_50_7 mw_X0_initial (by decide) hp 2 rfl rfl rfl hl.1 rfl (Nat.le_of_ble_eq_true rfl) dX5_staysGood_4 (fun H locs hp => ?_)
  refine lv_lstore_n (lv' := [(2, .long t1), (0, .ref (a 5)), (1, .int v1)]) hx hb dX5_staysGood_7 rfl hl (by decide) rfl (fun ls hl => ?_)
  refine lv_lload_n hx hb dX5_staysGood_8 rfl (lv_at hl 0 rfl) ?_
  refine lv_lstore (lv' := [(4, .long t1), (2, .long t1), (0, .ref (a 5)), (1, .int v1)]) hx hb dX5_staysGood_9 hl (by decide) rfl (fun ls hl => ?_)
  refine lv_iconst (v := 0) hx hb dX5_staysGood_11 (by decide) ?_
  refine lv_istore (lv' := [(6, .int (0 : Int32)), (4, .long t1), (2, .long t1), (0, .ref (a 5)), (1, .int v1)]) hx hb dX5_staysGood_12 hl (by decide) rfl (fun ls hl => ?_)
  exact J_14 v1 _ (fun H locs ls hp hl h => J_43 _ _ _ hp hl h) _ (fun H locs ls hp hl h => J_78 _ _ _ hp hl h) _ t1 t1 (0 : Int32) _ _ _ hp (lv_sub hl [3, 4, 2, 1, 0] rfl) h
def X6_isSafeWithFree_15 (σ : St) : Option (Int32 × St) :=
  none
def X6_isSafeWithFree (N : Nat) (v1 : Int32) (σ : St) : Option (Int32 × St) :=
  if v1 < 0 then
    X6_isSafeWithFree_15 σ
  else
    if v1 < (σ.1 7) then
      bd (X2_refresh N σ) (fun t3 =>
      bd (X5_staysGood N t3 v1) (fun t4 =>
      gd (isb t4) (
      some (t4, t3))))
    else
      X6_isSafeWithFree_15 σ
set_option maxRecDepth 20000 in
set_option maxHeartbeats 4000000 in
theorem c_X6_isSafeWithFree {l : Launch} {D : va_G} {a : Nat → Nat} {cA : Nat → ClassId} {t : Nat} {F : (Nat → Prop) → State → Prop} (hF : EOK F) {σ : St} {N : Nat} {v1 : Int32} {r : Int32} {σ' : St} (h : X6_isSafeWithFree N v1 σ = some (r, σ')) : MetI l yX6_isSafeWithFree cX6_isSafeWithFree 2 (some .boolean) 6 D (tyW cA) (wS a cA) (ES t F) [.ref (a 0), .int v1] σ r σ' := by
  refine mkI (by decide) (adrS a cA) (Or.inr rfl) (Nat.le_of_ble_eq_true rfl) ?_
  intro p e R s m args below meth c A Q ls X hR hp hl
  obtain ⟨hx, hb, -, hown, hts, -⟩ := id X
  have J_15 : ∀  (σ : St) (H : Heap) (locs : List Loc) (ls : Array Slot), Pw D (wS a cA) A s.heap H locs σ → lv_has ls 2 [(0, .ref (a 0))] → X6_isSafeWithFree_15 σ = some (r, σ') → W p l e R s m args below meth c H locs 0 0 Q (F0 m 15 ls []) := by
    intro σ H locs ls hp hl h
    unfold X6_isSafeWithFree_15 at h
    exact nn_s h
  unfold X6_isSafeWithFree at h
  have hl := lv_sub (l' := [(0, .ref (a 0)), (1, .int v1)]) hl [0, 1] rfl
  refine lv_iload_n hx hb dX6_isSafeWithFree_0 rfl (lv_at hl 1 rfl) ?_
  refine lv_if_lt (tgt := 15) hx hb dX6_isSafeWithFree_1 (by decide) (fun c1 => ?_) (fun c1 => ?_)
  · have h := it_p h c1
    exact J_15 σ _ _ _ hp (lv_sub hl [0] rfl) h
  · have h := it_n h c1
    refine lv_iload_n hx hb dX6_isSafeWithFree_4 rfl (lv_at hl 1 rfl) ?_
    refine lv_aload_n hx hb dX6_isSafeWithFree_5 rfl (lv_at hl 0 rfl) ?_
    refine gS_X6_circuit X hp tw_1_20 dX6_isSafeWithFree_6 ?_
    refine gS_X0_states X hp tw_7_21 dX6_isSafeWithFree_9 ?_
    refine lv_icmp_lt (tgt := 26) hx hb dX6_isSafeWithFree_12 (by decide) (fun c2 => ?_) (fun c2 => ?_)
    · have h := it_p h c2
      refine lv_aload_n hx hb dX6_isSafeWithFree_26 rfl (lv_at hl 0 rfl) ?_
      refine gS_X6_exploration X hp tw_2_0 dX6_isSafeWithFree_27 ?_
      obtain ⟨t3, ht3, h⟩ := bd_s h
      refine cl_Vv X (eokS hF) (c_X2_refresh hF ht3) tw_22_10 mw_X2_refresh (by decide) hp 3 rfl rfl rfl hl.1 rfl (Nat.le_of_ble_eq_true rfl) dX6_isSafeWithFree_30 (fun H locs hp => ?_)
      refine lv_aload_n hx hb dX6_isSafeWithFree_33 rfl (lv_at hl 0 rfl) ?_
      refine gS_X6_otherProofs X hp tw_2_8 dX6_isSafeWithFree_34 ?_
      refine lv_iload_n hx hb dX6_isSafeWithFree_37 rfl (lv_at hl 1 rfl) ?_
      obtain ⟨t4, ht4, h⟩ := bd_s h
      refine cl_Vi X (eokS hF) (c_X5_staysGood hF ht4) tw_52_0 mw_X5_staysGood (by decide) hp 5 rfl rfl rfl hl.1 rfl (Nat.le_of_ble_eq_true rfl) dX6_isSafeWithFree_38 (fun H locs hp => ?_)
      obtain ⟨g5, h⟩ := gd_s h
      exact hR _ _ _ _ _ _ dX6_isSafeWithFree_41 hp (congrArg Prod.fst (Option.some.inj h)) (congrArg Prod.snd (Option.some.inj h)) (fun _ => g5)
    · have h := it_n h c2
      exact J_15 σ _ _ _ hp (lv_sub hl [0] rfl) h
def X5_smallestCone_35b (N : Nat) (k35 : (Int32 → Option (Int32))) (k66 : (Int32 → Option (Int32))) (k74 : (Int32 → Option (Int32))) (σ : St) (v1 : Int32) (v2 : Int32) (v3 : Int32) : Option (Int32) :=
  if (σ.1 7) ≤ v3 then
    k74 v2
  else
    bd (J6_bitCount_0f7a4 v3) (fun t2 =>
    if t2 = v2 then
      bd (X5_staysGood N σ (v1 &&& (v3 ^^^ (-1 : Int32)))) (fun t5 =>
      if t5 = 0 then
        nm (v3 + (1 : Int32)) (fun (x7 : Int32) =>
        k35 x7)
      else
        k66 v3)
    else
      nm (v3 + (1 : Int32)) (fun (x4 : Int32) =>
      k35 x4))
def X5_smallestCone_35 (N : Nat) (k66 : (Int32 → Option (Int32))) (k74 : (Int32 → Option (Int32))) (σ : St) (v1 : Int32) (v2 : Int32) : Nat → Int32 → Option (Int32)
  | 0, _ => none
  | n + 1, v3 => X5_smallestCone_35b N (fun v3 => X5_smallestCone_35 N k66 k74 σ v1 v2 n v3) k66 k74 σ v1 v2 v3
def X5_smallestCone_74 (k22 : (Int32 → Option (Int32))) (σ : St) (v1 : Int32) (v2 : Int32) : Option (Int32) :=
  nm (v2 + (1 : Int32)) (fun (x1 : Int32) =>
  k22 x1)
def X5_smallestCone_22b (N : Nat) (k22 : (Int32 → Option (Int32))) (k66 : (Int32 → Option (Int32))) (k80 : (Int32 → Option (Int32))) (σ : St) (v1 : Int32) (v2 : Int32) : Option (Int32) :=
  if (σ.1 5) ≤ v2 then
    k80 v1
  else
    X5_smallestCone_35 N k66 (fun v2 => X5_smallestCone_74 k22 σ v1 v2) σ v1 v2 N (0 : Int32)
def X5_smallestCone_22 (N : Nat) (k66 : (Int32 → Option (Int32))) (k80 : (Int32 → Option (Int32))) (σ : St) (v1 : Int32) : Nat → Int32 → Option (Int32)
  | 0, _ => none
  | n + 1, v2 => X5_smallestCone_22b N (fun v2 => X5_smallestCone_22 N k66 k80 σ v1 n v2) k66 k80 σ v1 v2
def X5_smallestCone_80 (σ : St) (v1 : Int32) : Option (Int32) :=
  some v1
def X5_smallestCone_66 (σ : St) (v3 : Int32) : Option (Int32) :=
  some v3
def X5_smallestCone (N : Nat) (σ : St) : Option (Int32) :=
  nm ((σ.1 7) - (1 : Int32)) (fun (x1 : Int32) =>
  bd (X5_staysGood N σ (0 : Int32)) (fun t2 =>
  if t2 = 0 then
    some (-1 : Int32)
  else
    X5_smallestCone_22 N (fun v3 => X5_smallestCone_66 σ v3) (fun v1 => X5_smallestCone_80 σ v1) σ x1 N (0 : Int32)))
set_option maxRecDepth 20000 in
set_option maxHeartbeats 4000000 in
theorem c_X5_smallestCone {l : Launch} {D : va_G} {a : Nat → Nat} {cA : Nat → ClassId} {t : Nat} {F : (Nat → Prop) → State → Prop} (hF : EOK F) {σ : St} {N : Nat} {r : Int32} (h : X5_smallestCone N σ = some r) : MetI l yX5_smallestCone cX5_smallestCone 4 (some .int) 5 D (tyW cA) (wS a cA) (ES t F) [.ref (a 5)] σ r σ := by
  refine mkI (by decide) (adrS a cA) (Or.inl rfl) (Nat.le_of_ble_eq_true rfl) ?_
  intro p e R s m args below meth c A Q ls X hR hp hl
  obtain ⟨hx, hb, -, hown, hts, -⟩ := id X
  have J_35 : ∀ (v1 : Int32) (v2 : Int32) (k66 : (Int32 → Option (Int32))) (hk66 : ∀ (v3 : Int32) (H : Heap) (locs : List Loc) (ls : Array Slot), Pw D (wS a cA) A s.heap H locs σ → lv_has ls 4 [(0, .ref (a 5)), (3, .int v3)] → k66 v3 = some r → W p l e R s m args below meth c H locs 0 0 Q (F0 m 66 ls [])) (k74 : (Int32 → Option (Int32))) (hk74 : ∀ (v2 : Int32) (H : Heap) (locs : List Loc) (ls : Array Slot), Pw D (wS a cA) A s.heap H locs σ → lv_has ls 4 [(0, .ref (a 5)), (1, .int v1), (2, .int v2)] → k74 v2 = some r → W p l e R s m args below meth c H locs 0 0 Q (F0 m 74 ls [])) (n : Nat) (v3 : Int32) (H : Heap) (locs : List Loc) (ls : Array Slot), Pw D (wS a cA) A s.heap H locs σ → lv_has ls 4 [(0, .ref (a 5)), (1, .int v1), (2, .int v2), (3, .int v3)] → X5_smallestCone_35 N k66 k74 σ v1 v2 n v3 = some r → W p l e R s m args below meth c H locs 0 0 Q (F0 m 35 ls []) := by
    intro v1 v2 k66 hk66 k74 hk74 n
    induction n with
    | zero => intro v3 H locs ls hp hl h; exact nn_s (show (none : Option (Int32)) = some _ from h)
    | succ n ih =>
      intro v3 H locs ls hp hl h
      have h : X5_smallestCone_35b N (fun v3 => X5_smallestCone_35 N k66 k74 σ v1 v2 n v3) k66 k74 σ v1 v2 v3 = some r := h
      unfold X5_smallestCone_35b at h
      have hk35 := ih
      refine lv_iload_n hx hb dX5_smallestCone_35 rfl (lv_at hl 3 rfl) ?_
      refine lv_aload_n hx hb dX5_smallestCone_36 rfl (lv_at hl 0 rfl) ?_
      refine gS_X5_circuit X hp tw_5_9 dX5_smallestCone_37 ?_
      refine gS_X0_states X hp tw_47_19 dX5_smallestCone_40 ?_
      refine lv_icmp_ge (tgt := 74) hx hb dX5_smallestCone_43 (by decide) (fun c1 => ?_) (fun c1 => ?_)
      · have h := it_p h c1
        exact hk74 v2 _ _ _ hp (lv_sub hl [0, 1, 2] rfl) h
      · have h := it_n h c1
        refine lv_iload_n hx hb dX5_smallestCone_46 rfl (lv_at hl 3 rfl) ?_
        obtain ⟨t2, ht2, h⟩ := bd_s h
        refine cl_Si X (eokS hF) (c_J6_bitCount_0f7a4 (adrS a cA) (eokS hF) ht2) tw_49_19 mw_J6_bitCount_0f7a4 (by decide) hp hl.1 rfl (Nat.le_of_ble_eq_true rfl) dX5_smallestCone_47 (fun H locs hp => ?_)
        refine lv_iload_n hx hb dX5_smallestCone_50 rfl (lv_at hl 2 rfl) ?_
        refine lv_icmp_ne (tgt := 68) hx hb dX5_smallestCone_51 (by decide) (fun c3 => ?_) (fun c3 => ?_)
        · have h := it_n h c3
          obtain ⟨x4, ex4⟩ : ∃ z : Int32, z = v3 + (1 : Int32) := ⟨_, rfl⟩
          have h := nm_s h x4 ex4
          refine lv_iinc (v := x4) (lv' := [(3, .int x4), (0, .ref (a 5)), (1, .int v1), (2, .int v2)]) hx hb dX5_smallestCone_68 hl (k := 3) rfl (by rw [ex4]; rfl) (by decide) rfl (fun ls hl => ?_)
          refine lv_goto (tgt := 35) hx hb dX5_smallestCone_71 (by decide) ?_
          exact hk35 x4 _ _ _ hp (lv_sub hl [1, 2, 3, 0] rfl) h
        · have h := it_p h c3
          refine lv_aload_n hx hb dX5_smallestCone_54 rfl (lv_at hl 0 rfl) ?_
          refine lv_iload_n hx hb dX5_smallestCone_55 rfl (lv_at hl 1 rfl) ?_
          refine lv_iload_n hx hb dX5_smallestCone_56 rfl (lv_at hl 3 rfl) ?_
          refine lv_iconst (v := -1) hx hb dX5_smallestCone_57 (by decide) ?_
          refine lv_ixor hx hb dX5_smallestCone_58 ?_
          refine lv_iand hx hb dX5_smallestCone_59 ?_
          obtain ⟨t5, ht5, h⟩ := bd_s h
          refine cl_Vi X (eokS hF) (c_X5_staysGood hF ht5) tw_53_1 mw_X5_staysGood (by decide) hp 5 rfl rfl rfl hl.1 rfl (Nat.le_of_ble_eq_true rfl) dX5_smallestCone_60 (fun H locs hp => ?_)
          refine lv_if_eq (tgt := 68) hx hb dX5_smallestCone_63 (by decide) (fun c6 => ?_) (fun c6 => ?_)
          · have h := it_p h c6
            obtain ⟨x7, ex7⟩ : ∃ z : Int32, z = v3 + (1 : Int32) := ⟨_, rfl⟩
            have h := nm_s h x7 ex7
            refine lv_iinc (v := x7) (lv' := [(3, .int x7), (0, .ref (a 5)), (1, .int v1), (2, .int v2)]) hx hb dX5_smallestCone_68 hl (k := 3) rfl (by rw [ex7]; rfl) (by decide) rfl (fun ls hl => ?_)
            refine lv_goto (tgt := 35) hx hb dX5_smallestCone_71 (by decide) ?_
            exact hk35 x7 _ _ _ hp (lv_sub hl [1, 2, 3, 0] rfl) h
          · have h := it_n h c6
            exact hk66 v3 _ _ _ hp (lv_sub hl [0, 3] rfl) h
  have J_74 : ∀ (v1 : Int32) (v2 : Int32) (k22 : (Int32 → Option (Int32))) (hk22 : ∀ (v2 : Int32) (H : Heap) (locs : List Loc) (ls : Array Slot), Pw D (wS a cA) A s.heap H locs σ → lv_has ls 4 [(0, .ref (a 5)), (1, .int v1), (2, .int v2)] → k22 v2 = some r → W p l e R s m args below meth c H locs 0 0 Q (F0 m 22 ls [])) (H : Heap) (locs : List Loc) (ls : Array Slot), Pw D (wS a cA) A s.heap H locs σ → lv_has ls 4 [(0, .ref (a 5)), (1, .int v1), (2, .int v2)] → X5_smallestCone_74 k22 σ v1 v2 = some r → W p l e R s m args below meth c H locs 0 0 Q (F0 m 74 ls []) := by
    intro v1 v2 k22 hk22 H locs ls hp hl h
    unfold X5_smallestCone_74 at h
    obtain ⟨x1, ex1⟩ : ∃ z : Int32, z = v2 + (1 : Int32) := ⟨_, rfl⟩
    have h := nm_s h x1 ex1
    refine lv_iinc (v := x1) (lv' := [(2, .int x1), (0, .ref (a 5)), (1, .int v1)]) hx hb dX5_smallestCone_74 hl (k := 2) rfl (by rw [ex1]; rfl) (by decide) rfl (fun ls hl => ?_)
    refine lv_goto (tgt := 22) hx hb dX5_smallestCone_77 (by decide) ?_
    exact hk22 x1 _ _ _ hp (lv_sub hl [1, 2, 0] rfl) h
  have J_22 : ∀ (v1 : Int32) (k66 : (Int32 → Option (Int32))) (hk66 : ∀ (v3 : Int32) (H : Heap) (locs : List Loc) (ls : Array Slot), Pw D (wS a cA) A s.heap H locs σ → lv_has ls 4 [(0, .ref (a 5)), (3, .int v3)] → k66 v3 = some r → W p l e R s m args below meth c H locs 0 0 Q (F0 m 66 ls [])) (k80 : (Int32 → Option (Int32))) (hk80 : ∀ (v1 : Int32) (H : Heap) (locs : List Loc) (ls : Array Slot), Pw D (wS a cA) A s.heap H locs σ → lv_has ls 4 [(0, .ref (a 5)), (1, .int v1)] → k80 v1 = some r → W p l e R s m args below meth c H locs 0 0 Q (F0 m 80 ls [])) (n : Nat) (v2 : Int32) (H : Heap) (locs : List Loc) (ls : Array Slot), Pw D (wS a cA) A s.heap H locs σ → lv_has ls 4 [(0, .ref (a 5)), (1, .int v1), (2, .int v2)] → X5_smallestCone_22 N k66 k80 σ v1 n v2 = some r → W p l e R s m args below meth c H locs 0 0 Q (F0 m 22 ls []) := by
    intro v1 k66 hk66 k80 hk80 n
    induction n with
    | zero => intro v2 H locs ls hp hl h; exact nn_s (show (none : Option (Int32)) = some _ from h)
    | succ n ih =>
      intro v2 H locs ls hp hl h
      have h : X5_smallestCone_22b N (fun v2 => X5_smallestCone_22 N k66 k80 σ v1 n v2) k66 k80 σ v1 v2 = some r := h
      unfold X5_smallestCone_22b at h
      have hk22 := ih
      refine lv_iload_n hx hb dX5_smallestCone_22 rfl (lv_at hl 2 rfl) ?_
      refine lv_aload_n hx hb dX5_smallestCone_23 rfl (lv_at hl 0 rfl) ?_
      refine gS_X5_circuit X hp tw_5_9 dX5_smallestCone_24 ?_
      refine gS_X0_bits X hp tw_52_8 dX5_smallestCone_27 ?_
      refine lv_icmp_ge (tgt := 80) hx hb dX5_smallestCone_30 (by decide) (fun c1 => ?_) (fun c1 => ?_)
      · have h := it_p h c1
        exact hk80 v1 _ _ _ hp (lv_sub hl [0, 1] rfl) h
      · have h := it_n h c1
        refine lv_iconst (v := 0) hx hb dX5_smallestCone_33 (by decide) ?_
        refine lv_istore_n (lv' := [(3, .int (0 : Int32)), (0, .ref (a 5)), (1, .int v1), (2, .int v2)]) hx hb dX5_smallestCone_34 rfl hl (by decide) rfl (fun ls hl => ?_)
        exact J_35 v1 v2 _ hk66 _ (fun v2 H locs ls hp hl h => J_74 v1 v2 _ hk22 _ _ _ hp hl h) _ (0 : Int32) _ _ _ hp (lv_sub hl [1, 2, 3, 0] rfl) h
  have J_80 : ∀ (v1 : Int32) (H : Heap) (locs : List Loc) (ls : Array Slot), Pw D (wS a cA) A s.heap H locs σ → lv_has ls 4 [(0, .ref (a 5)), (1, .int v1)] → X5_smallestCone_80 σ v1 = some r → W p l e R s m args below meth c H locs 0 0 Q (F0 m 80 ls []) := by
    intro v1 H locs ls hp hl h
    unfold X5_smallestCone_80 at h
    refine lv_iload_n hx hb dX5_smallestCone_80 rfl (lv_at hl 1 rfl) ?_
    exact hR _ _ _ _ _ _ dX5_smallestCone_81 hp (Option.some.inj h) rfl (fun q => by cases q)
  have J_66 : ∀ (v3 : Int32) (H : Heap) (locs : List Loc) (ls : Array Slot), Pw D (wS a cA) A s.heap H locs σ → lv_has ls 4 [(0, .ref (a 5)), (3, .int v3)] → X5_smallestCone_66 σ v3 = some r → W p l e R s m args below meth c H locs 0 0 Q (F0 m 66 ls []) := by
    intro v3 H locs ls hp hl h
    unfold X5_smallestCone_66 at h
    refine lv_iload_n hx hb dX5_smallestCone_66 rfl (lv_at hl 1 rfl) ?_
    exact hR _ _ _ _ _ _ dX5_smallestCone_67 hp (Option.some.inj h) rfl (fun q => by cases q)
  unfold X5_smallestCone at h
  have hl := lv_sub (l' := [(0, .ref (a 5))]) hl [0] rfl
  refine lv_aload_n hx hb dX5_smallestCone_0 rfl (lv_at hl 0 rfl) ?_
  refine gS_X5_circuit X hp tw_5_9 dX5_smallestCone_1 ?_
  refine gS_X0_states X hp tw_47_19 dX5_smallestCone_4 ?_
  refine lv_iconst (v := 1) hx hb dX5_smallestCone_7 (by decide) ?_
  refine lv_isub hx hb dX5_smallestCone_8 ?_
  refine lv_topi (fun x1 ex1 => ?_)
  have h := nm_s h x1 ex1
  refine lv_istore_n (lv' := [(1, .int x1), (0, .ref (a 5))]) hx hb dX5_smallestCone_9 rfl hl (by decide) rfl (fun ls hl => ?_)
  refine lv_aload_n hx hb dX5_smallestCone_10 rfl (lv_at hl 1 rfl) ?_
  refine lv_iconst (v := 0) hx hb dX5_smallestCone_11 (by decide) ?_
  obtain ⟨t2, ht2, h⟩ := bd_s h
  refine cl_Vi X (eokS hF) (c_X5_staysGood hF ht2) tw_53_1 mw_X5_staysGood (by decide) hp 5 rfl rfl rfl hl.1 rfl (Nat.le_of_ble_eq_true rfl) dX5_smallestCone_12 (fun H locs hp => ?_)
  refine lv_if_ne (tgt := 20) hx hb dX5_smallestCone_15 (by decide) (fun c3 => ?_) (fun c3 => ?_)
  · have h := it_n h c3
    refine lv_iconst (v := 0) hx hb dX5_smallestCone_20 (by decide) ?_
    refine lv_istore_n (lv' := [(2, .int (0 : Int32)), (1, .int x1), (0, .ref (a 5))]) hx hb dX5_smallestCone_21 rfl hl (by decide) rfl (fun ls hl => ?_)
    exact J_22 x1 _ (fun v3 H locs ls hp hl h => J_66 v3 _ _ _ hp hl h) _ (fun v1 H locs ls hp hl h => J_80 v1 _ _ _ hp hl h) _ (0 : Int32) _ _ _ hp (lv_sub hl [2, 1, 0] rfl) h
  · have h := it_p h c3
    refine lv_iconst (v := -1) hx hb dX5_smallestCone_18 (by decide) ?_
    exact hR _ _ _ _ _ _ dX5_smallestCone_19 hp (Option.some.inj h) rfl (fun q => by cases q)
def X6_leastCone (N : Nat) (σ : St) : Option (Int32 × St) :=
  bd (X2_refresh N σ) (fun t1 =>
  bd (X5_smallestCone N t1) (fun t2 =>
  some (t2, t1)))
set_option maxRecDepth 20000 in
set_option maxHeartbeats 4000000 in
theorem c_X6_leastCone {l : Launch} {D : va_G} {a : Nat → Nat} {cA : Nat → ClassId} {t : Nat} {F : (Nat → Prop) → State → Prop} (hF : EOK F) {σ : St} {N : Nat} {r : Int32} {σ' : St} (h : X6_leastCone N σ = some (r, σ')) : MetI l yX6_leastCone cX6_leastCone 1 (some .int) 6 D (tyW cA) (wS a cA) (ES t F) [.ref (a 0)] σ r σ' := by
  refine mkI (by decide) (adrS a cA) (Or.inl rfl) (Nat.le_of_ble_eq_true rfl) ?_
  intro p e R s m args below meth c A Q ls X hR hp hl
  obtain ⟨hx, hb, -, hown, hts, -⟩ := id X
  unfold X6_leastCone at h
  have hl := lv_sub (l' := [(0, .ref (a 0))]) hl [0] rfl
  refine lv_aload_n hx hb dX6_leastCone_0 rfl (lv_at hl 0 rfl) ?_
  refine gS_X6_exploration X hp tw_2_0 dX6_leastCone_1 ?_
  obtain ⟨t1, ht1, h⟩ := bd_s h
  refine cl_Vv X (eokS hF) (c_X2_refresh hF ht1) tw_22_10 mw_X2_refresh (by decide) hp 3 rfl rfl rfl hl.1 rfl (Nat.le_of_ble_eq_true rfl) dX6_leastCone_4 (fun H locs hp => ?_)
  refine lv_aload_n hx hb dX6_leastCone_7 rfl (lv_at hl 0 rfl) ?_
  refine gS_X6_otherProofs X hp tw_2_8 dX6_leastCone_8 ?_
  obtain ⟨t2, ht2, h⟩ := bd_s h
  refine cl_Vi X (eokS hF) (c_X5_smallestCone hF ht2) tw_52_21 mw_X5_smallestCone (by decide) hp 5 rfl rfl rfl hl.1 rfl (Nat.le_of_ble_eq_true rfl) dX6_leastCone_11 (fun H locs hp => ?_)
  exact hR _ _ _ _ _ _ dX6_leastCone_14 hp (congrArg Prod.fst (Option.some.inj h)) (congrArg Prod.snd (Option.some.inj h)) (fun q => by cases q)
def X5_simulateFrom_38b (N : Nat) (k38 : (Int32 → Int64 → Int32 → Int64 → Int32 → Option (Int32))) (k127 : (Int32 → Int32 → Int64 → Int32 → Option (Int32))) (σ : St) (v2 : Int32) (v4 : Int32) (v5 : Int32) (v6 : Int64) (v8 : Int32) (v9 : Int64) (v11 : Int32) : Option (Int32) :=
  if v2 < v11 then
    k127 v4 v5 v6 v8
  else
    nm ((((1103515245 : Int64) * v9) + (12345 : Int64)) &&& (2147483647 : Int64)) (fun (x2 : Int64) =>
    bd (X0_step N σ v5 ((((x2.toUInt64 >>> ((16 : Int32).toInt64.toUInt64 &&& Int64.toUInt64 63)).toInt64).toInt32) &&& ((σ.1 8) - (1 : Int32)))) (fun t3 =>
    nm (v6 ||| ((1 : Int64) <<< (t3.toInt64 &&& 63))) (fun (x4 : Int64) =>
    if v8 = (-1 : Int32) then
      bd (X0_bad σ) (fun t7 =>
      bd (X6_contains t7 t3) (fun t8 =>
      if t8 = 0 then
        nm (v11 + (1 : Int32)) (fun (x10 : Int32) =>
        k38 t3 x4 v8 x2 x10)
      else
        nm (v11 + (1 : Int32)) (fun (x11 : Int32) =>
        k38 t3 x4 v11 x2 x11)))
    else
      nm (v11 + (1 : Int32)) (fun (x6 : Int32) =>
      k38 t3 x4 v8 x2 x6))))
def X5_simulateFrom_38 (N : Nat) (k127 : (Int32 → Int32 → Int64 → Int32 → Option (Int32))) (σ : St) (v2 : Int32) (v4 : Int32) : Nat → Int32 → Int64 → Int32 → Int64 → Int32 → Option (Int32)
  | 0, _, _, _, _, _ => none
  | n + 1, v5, v6, v8, v9, v11 => X5_simulateFrom_38b N (fun v5 v6 v8 v9 v11 => X5_simulateFrom_38 N k127 σ v2 v4 n v5 v6 v8 v9 v11) k127 σ v2 v4 v5 v6 v8 v9 v11
def X5_simulateFrom_127 (σ : St) (v4 : Int32) (v5 : Int32) (v6 : Int64) (v8 : Int32) : Option (Int32) :=
  if v4 = 0 then
    some v5
  else
    if v4 = (1 : Int32) then
      bd (J13_bitCount_95d88 v6) (fun t3 =>
      some t3)
    else
      some v8
def X5_simulateFrom (N : Nat) (σ : St) (v1 : Int32) (v2 : Int32) (v3 : Int32) (v4 : Int32) : Option (Int32) :=
  nm ((1 : Int64) <<< (v1.toInt64 &&& 63)) (fun (x1 : Int64) =>
  bd (X0_bad σ) (fun t2 =>
  bd (X6_contains t2 v1) (fun t3 =>
  if t3 = 0 then
    nm (v3.toInt64) (fun (x5 : Int64) =>
    X5_simulateFrom_38 N (fun v4 v5 v6 v8 => X5_simulateFrom_127 σ v4 v5 v6 v8) σ v2 v4 N v1 x1 (-1 : Int32) x5 (1 : Int32))
  else
    nm (v3.toInt64) (fun (x6 : Int64) =>
    X5_simulateFrom_38 N (fun v4 v5 v6 v8 => X5_simulateFrom_127 σ v4 v5 v6 v8) σ v2 v4 N v1 x1 (0 : Int32) x6 (1 : Int32)))))
set_option maxRecDepth 20000 in
set_option maxHeartbeats 4000000 in
theorem c_X5_simulateFrom {l : Launch} {D : va_G} {a : Nat → Nat} {cA : Nat → ClassId} {t : Nat} {F : (Nat → Prop) → State → Prop} (hF : EOK F) {σ : St} {N : Nat} {v1 : Int32} {v2 : Int32} {v3 : Int32} {v4 : Int32} {r : Int32} (h : X5_simulateFrom N σ v1 v2 v3 v4 = some r) : MetI l yX5_simulateFrom cX5_simulateFrom 12 (some .int) 3 D (tyW cA) (wS a cA) (ES t F) [.ref (a 5), .int v1, .int v2, .int v3, .int v4] σ r σ := by
  refine mkI (by decide) (adrS a cA) (Or.inl rfl) (Nat.le_of_ble_eq_true rfl) ?_
  intro p e R s m args below meth c A Q ls X hR hp hl
  obtain ⟨hx, hb, -, hown, hts, -⟩ := id X
  have J_38 : ∀ (v2 : Int32) (v4 : Int32) (k127 : (Int32 → Int32 → Int64 → Int32 → Option (Int32))) (hk127 : ∀ (v4 : Int32) (v5 : Int32) (v6 : Int64) (v8 : Int32) (H : Heap) (locs : List Loc) (ls : Array Slot), Pw D (wS a cA) A s.heap H locs σ → lv_has ls 12 [(0, .ref (a 5)), (4, .int v4), (5, .int v5), (6, .long v6), (8, .int v8)] → k127 v4 v5 v6 v8 = some r → W p l e R s m args below meth c H locs 0 0 Q (F0 m 127 ls [])) (n : Nat) (v5 : Int32) (v6 : Int64) (v8 : Int32) (v9 : Int64) (v11 : Int32) (H : Heap) (locs : List Loc) (ls : Array Slot), Pw D (wS a cA) A s.heap H locs σ → lv_has ls 12 [(0, .ref (a 5)), (2, .int v2), (4, .int v4), (5, .int v5), (6, .long v6), (8, .int v8), (9, .long v9), (11, .int v11)] → X5_simulateFrom_38 N k127 σ v2 v4 n v5 v6 v8 v9 v11 = some r → W p l e R s m args below meth c H locs 0 0 Q (F0 m 38 ls []) := by
    intro v2 v4 k127 hk127 n
    induction n with
    | zero => intro v5 v6 v8 v9 v11 H locs ls hp hl h; exact nn_s (show (none : Option (Int32)) = some _ from h)
    | succ n ih =>
      intro v5 v6 v8 v9 v11 H locs ls hp hl h
      have h : X5_simulateFrom_38b N (fun v5 v6 v8 v9 v11 => X5_simulateFrom_38 N k127 σ v2 v4 n v5 v6 v8 v9 v11) k127 σ v2 v4 v5 v6 v8 v9 v11 = some r := h
      unfold X5_simulateFrom_38b at h
      have hk38 := ih
      refine lv_iload hx hb dX5_simulateFrom_38 (lv_at hl 7 rfl) ?_
      refine lv_iload_n hx hb dX5_simulateFrom_40 rfl (lv_at hl 1 rfl) ?_
      refine lv_icmp_gt (tgt := 127) hx hb dX5_simulateFrom_41 (by decide) (fun c1 => ?_) (fun c1 => ?_)
      · have h := it_p h c1
        exact hk127 v4 v5 v6 v8 _ _ _ hp (lv_sub hl [0, 2, 3, 4, 5] rfl) h
      · have h := it_n h c1
        refine lv_ldc2 hx hb hown (hts _ tw_53_21) dX5_simulateFrom_44 ?_
        refine lv_lload hx hb dX5_simulateFrom_47 (lv_at hl 6 rfl) ?_
        refine lv_lmul hx hb dX5_simulateFrom_49 ?_
        refine lv_ldc2 hx hb hown (hts _ tw_53_22) dX5_simulateFrom_50 ?_
        refine lv_ladd hx hb dX5_simulateFrom_53 ?_
        refine lv_ldc2 hx hb hown (hts _ tw_53_23) dX5_simulateFrom_54 ?_
        refine lv_land hx hb dX5_simulateFrom_57 ?_
        refine lv_topl (fun x2 ex2 => ?_)
        have h := nm_s h x2 ex2
        refine lv_lstore (lv' := [(9, .long x2), (0, .ref (a 5)), (2, .int v2), (4, .int v4), (5, .int v5), (6, .long v6), (8, .int v8), (11, .int v11)]) hx hb dX5_simulateFrom_58 hl (by decide) rfl (fun ls hl => ?_)
        refine lv_aload_n hx hb dX5_simulateFrom_60 rfl (lv_at hl 1 rfl) ?_
        refine gS_X5_circuit X hp tw_5_9 dX5_simulateFrom_61 ?_
        refine lv_iload hx hb dX5_simulateFrom_64 (lv_at hl 4 rfl) ?_
        refine lv_lload hx hb dX5_simulateFrom_66 (lv_at hl 0 rfl) ?_
        refine lv_bipush (v := 16) hx hb dX5_simulateFrom_68 (by decide) ?_
        refine lv_lushr hx hb dX5_simulateFrom_70 rfl ?_
        refine lv_l2i hx hb dX5_simulateFrom_71 rfl ?_
        refine lv_aload_n hx hb dX5_simulateFrom_72 rfl (lv_at hl 1 rfl) ?_
        refine gS_X5_circuit X hp tw_5_9 dX5_simulateFrom_73 ?_
        refine gS_X0_inputValues X hp tw_48_5 dX5_simulateFrom_76 ?_
        refine lv_iconst (v := 1) hx hb dX5_simulateFrom_79 (by decide) ?_
        refine lv_isub hx hb dX5_simulateFrom_80 ?_
        refine lv_iand hx hb dX5_simulateFrom_81 ?_
        obtain ⟨t3, ht3, h⟩ := bd_s h
        refine cl_Vi X (eokS hF) (c_X0_step hF ht3) tw_54_0 mw_X0_step (by decide) hp 2 rfl rfl rfl hl.1 rfl (Nat.le_of_ble_eq_true rfl) dX5_simulateFrom_82 (fun H locs hp => ?_)
        refine lv_istore (lv' := [(5, .int t3), (9, .long x2), (0, .ref (a 5)), (2, .int v2), (4, .int v4), (6, .long v6), (8, .int v8), (11, .int v11)]) hx hb dX5_simulateFrom_85 hl (by decide) rfl (fun ls hl => ?_)
        refine lv_lload hx hb dX5_simulateFrom_87 (lv_at hl 5 rfl) ?_
        refine lv_lconst (v := 1) hx hb dX5_simulateFrom_89 (by decide) ?_
        refine lv_iload hx hb dX5_simulateFrom_90 (lv_at hl 0 rfl) ?_
        refine lv_lshl hx hb dX5_simulateFrom_92 rfl ?_
        refine lv_lor hx hb dX5_simulateFrom_93 ?_
        refine lv_topl (fun x4 ex4 => ?_)
        have h := nm_s h x4 ex4
        refine lv_lstore (lv' := [(6, .long x4), (5, .int t3), (9, .long x2), (0, .ref (a 5)), (2, .int v2), (4, .int v4), (8, .int v8), (11, .int v11)]) hx hb dX5_simulateFrom_94 hl (by decide) rfl (fun ls hl => ?_)
        refine lv_iload hx hb dX5_simulateFrom_96 (lv_at hl 6 rfl) ?_
        refine lv_iconst (v := -1) hx hb dX5_simulateFrom_98 (by decide) ?_
        refine lv_icmp_ne (tgt := 121) hx hb dX5_simulateFrom_99 (by decide) (fun c5 => ?_) (fun c5 => ?_)
        · have h := it_n h c5
          obtain ⟨x6, ex6⟩ : ∃ z : Int32, z = v11 + (1 : Int32) := ⟨_, rfl⟩
          have h := nm_s h x6 ex6
          refine lv_iinc (v := x6) (lv' := [(11, .int x6), (6, .long x4), (5, .int t3), (9, .long x2), (0, .ref (a 5)), (2, .int v2), (4, .int v4), (8, .int v8)]) hx hb dX5_simulateFrom_121 hl (k := 7) rfl (by rw [ex6]; rfl) (by decide) rfl (fun ls hl => ?_)
          refine lv_goto (tgt := 38) hx hb dX5_simulateFrom_124 (by decide) ?_
          exact hk38 t3 x4 v8 x2 x6 _ _ _ hp (lv_sub hl [4, 5, 6, 2, 1, 7, 3, 0] rfl) h
        · have h := it_p h c5
          refine lv_aload_n hx hb dX5_simulateFrom_102 rfl (lv_at hl 3 rfl) ?_
          refine gS_X5_circuit X hp tw_5_9 dX5_simulateFrom_103 ?_
          obtain ⟨t7, ht7, h⟩ := bd_s h
          refine cl_Vl X (eokS hF) (c_X0_bad hF ht7) tw_47_12 mw_X0_bad (by decide) hp 2 rfl rfl rfl hl.1 rfl (Nat.le_of_ble_eq_true rfl) dX5_simulateFrom_106 (fun H locs hp => ?_)
          refine lv_iload hx hb dX5_simulateFrom_109 (lv_at hl 1 rfl) ?_
          obtain ⟨t8, ht8, h⟩ := bd_s h
          refine cl_Ni X (eokS hF) (c_X6_contains (adrS a cA) (eokS hF) ht8) (nwS X (List.mem_of_getElem? (i := 8) rfl)) mw_X6_contains (by decide) hp hl.1 rfl (Nat.le_of_ble_eq_true rfl) dX5_simulateFrom_111 (fun H locs hp => ?_)
          refine lv_if_eq (tgt := 121) hx hb dX5_simulateFrom_114 (by decide) (fun c9 => ?_) (fun c9 => ?_)
          · have h := it_p h c9
            obtain ⟨x10, ex10⟩ : ∃ z : Int32, z = v11 + (1 : Int32) := ⟨_, rfl⟩
            have h := nm_s h x10 ex10
            refine lv_iinc (v := x10) (lv' := [(11, .int x10), (6, .long x4), (5, .int t3), (9, .long x2), (0, .ref (a 5)), (2, .int v2), (4, .int v4), (8, .int v8)]) hx hb dX5_simulateFrom_121 hl (k := 7) rfl (by rw [ex10]; rfl) (by decide) rfl (fun ls hl => ?_)
            refine lv_goto (tgt := 38) hx hb dX5_simulateFrom_124 (by decide) ?_
            exact hk38 t3 x4 v8 x2 x10 _ _ _ hp (lv_sub hl [4, 5, 6, 2, 1, 7, 3, 0] rfl) h
          · have h := it_n h c9
            refine lv_iload hx hb dX5_simulateFrom_117 (lv_at hl 7 rfl) ?_
            refine lv_istore (lv' := [(8, .int v11), (6, .long x4), (5, .int t3), (9, .long x2), (0, .ref (a 5)), (2, .int v2), (4, .int v4), (11, .int v11)]) hx hb dX5_simulateFrom_119 hl (by decide) rfl (fun ls hl => ?_)
            obtain ⟨x11, ex11⟩ : ∃ z : Int32, z = v11 + (1 : Int32) := ⟨_, rfl⟩
            have h := nm_s h x11 ex11
            refine lv_iinc (v := x11) (lv' := [(11, .int x11), (8, .int v11), (6, .long x4), (5, .int t3), (9, .long x2), (0, .ref (a 5)), (2, .int v2), (4, .int v4)]) hx hb dX5_simulateFrom_121 hl (k := 7) rfl (by rw [ex11]; rfl) (by decide) rfl (fun ls hl => ?_)
            refine lv_goto (tgt := 38) hx hb dX5_simulateFrom_124 (by decide) ?_
            exact hk38 t3 x4 v11 x2 x11 _ _ _ hp (lv_sub hl [5, 6, 7, 3, 2, 1, 4, 0] rfl) h
  have J_127 : ∀ (v4 : Int32) (v5 : Int32) (v6 : Int64) (v8 : Int32) (H : Heap) (locs : List Loc) (ls : Array Slot), Pw D (wS a cA) A s.heap H locs σ → lv_has ls 12 [(0, .ref (a 5)), (4, .int v4), (5, .int v5), (6, .long v6), (8, .int v8)] → X5_simulateFrom_127 σ v4 v5 v6 v8 = some r → W p l e R s m args below meth c H locs 0 0 Q (F0 m 127 ls []) := by
    intro v4 v5 v6 v8 H locs ls hp hl h
    unfold X5_simulateFrom_127 at h
    refine lv_iload hx hb dX5_simulateFrom_127 (lv_at hl 1 rfl) ?_
    refine lv_if_ne (tgt := 135) hx hb dX5_simulateFrom_129 (by decide) (fun c1 => ?_) (fun c1 => ?_)
    · have h := it_n h c1
      refine lv_iload hx hb dX5_simulateFrom_135 (lv_at hl 1 rfl) ?_
      refine lv_iconst (v := 1) hx hb dX5_simulateFrom_137 (by decide) ?_
      refine lv_icmp_ne (tgt := 149) hx hb dX5_simulateFrom_138 (by decide) (fun c2 => ?_) (fun c2 => ?_)
      · have h := it_n h c2
        refine lv_iload hx hb dX5_simulateFrom_149 (lv_at hl 4 rfl) ?_
        exact hR _ _ _ _ _ _ dX5_simulateFrom_151 hp (Option.some.inj h) rfl (fun q => by cases q)
      · have h := it_p h c2
        refine lv_lload hx hb dX5_simulateFrom_141 (lv_at hl 3 rfl) ?_
        obtain ⟨t3, ht3, h⟩ := bd_s h
        refine cl_Si X (eokS hF) (c_J13_bitCount_95d88 (adrS a cA) (eokS hF) ht3) tw_54_1 mw_J13_bitCount_95d88 (by decide) hp hl.1 rfl (Nat.le_of_ble_eq_true rfl) dX5_simulateFrom_143 (fun H locs hp => ?_)
        refine lv_goto (tgt := 151) hx hb dX5_simulateFrom_146 (by decide) ?_
        exact hR _ _ _ _ _ _ dX5_simulateFrom_151 hp (Option.some.inj h) rfl (fun q => by cases q)
    · have h := it_p h c1
      refine lv_iload hx hb dX5_simulateFrom_132 (lv_at hl 2 rfl) ?_
      exact hR _ _ _ _ _ _ dX5_simulateFrom_134 hp (Option.some.inj h) rfl (fun q => by cases q)
  unfold X5_simulateFrom at h
  have hl := lv_sub (l' := [(0, .ref (a 5)), (1, .int v1), (2, .int v2), (3, .int v3), (4, .int v4)]) hl [0, 1, 2, 3, 4] rfl
  refine lv_iload_n hx hb dX5_simulateFrom_0 rfl (lv_at hl 1 rfl) ?_
  refine lv_istore (lv' := [(5, .int v1), (0, .ref (a 5)), (1, .int v1), (2, .int v2), (3, .int v3), (4, .int v4)]) hx hb dX5_simulateFrom_1 hl (by decide) rfl (fun ls hl => ?_)
  refine lv_lconst (v := 1) hx hb dX5_simulateFrom_3 (by decide) ?_
  refine lv_iload hx hb dX5_simulateFrom_4 (lv_at hl 0 rfl) ?_
  refine lv_lshl hx hb dX5_simulateFrom_6 rfl ?_
  refine lv_topl (fun x1 ex1 => ?_)
  have h := nm_s h x1 ex1
  refine lv_lstore (lv' := [(6, .long x1), (5, .int v1), (0, .ref (a 5)), (1, .int v1), (2, .int v2), (3, .int v3), (4, .int v4)]) hx hb dX5_simulateFrom_7 hl (by decide) rfl (fun ls hl => ?_)
  refine lv_aload_n hx hb dX5_simulateFrom_9 rfl (lv_at hl 2 rfl) ?_
  refine gS_X5_circuit X hp tw_5_9 dX5_simulateFrom_10 ?_
  obtain ⟨t2, ht2, h⟩ := bd_s h
  refine cl_Vl X (eokS hF) (c_X0_bad hF ht2) tw_47_12 mw_X0_bad (by decide) hp 2 rfl rfl rfl hl.1 rfl (Nat.le_of_ble_eq_true rfl) dX5_simulateFrom_13 (fun H locs hp => ?_)
  refine lv_iload hx hb dX5_simulateFrom_16 (lv_at hl 1 rfl) ?_
  obtain ⟨t3, ht3, h⟩ := bd_s h
  refine cl_Ni X (eokS hF) (c_X6_contains (adrS a cA) (eokS hF) ht3) (nwS X (List.mem_of_getElem? (i := 8) rfl)) mw_X6_contains (by decide) hp hl.1 rfl (Nat.le_of_ble_eq_true rfl) dX5_simulateFrom_18 (fun H locs hp => ?_)
  refine lv_if_eq (tgt := 28) hx hb dX5_simulateFrom_21 (by decide) (fun c4 => ?_) (fun c4 => ?_)
  · have h := it_p h c4
    refine lv_iconst (v := -1) hx hb dX5_simulateFrom_28 (by decide) ?_
    refine lv_istore (lv' := [(8, .int (-1 : Int32)), (6, .long x1), (5, .int v1), (0, .ref (a 5)), (1, .int v1), (2, .int v2), (3, .int v3), (4, .int v4)]) hx hb dX5_simulateFrom_29 hl (by decide) rfl (fun ls hl => ?_)
    refine lv_iload_n hx hb dX5_simulateFrom_31 rfl (lv_at hl 6 rfl) ?_
    refine lv_i2l hx hb dX5_simulateFrom_32 rfl ?_
    refine lv_topl (fun x5 ex5 => ?_)
    have h := nm_s h x5 ex5
    refine lv_lstore (lv' := [(9, .long x5), (8, .int (-1 : Int32)), (6, .long x1), (5, .int v1), (0, .ref (a 5)), (1, .int v1), (2, .int v2), (3, .int v3), (4, .int v4)]) hx hb dX5_simulateFrom_33 hl (by decide) rfl (fun ls hl => ?_)
    refine lv_iconst (v := 1) hx hb dX5_simulateFrom_35 (by decide) ?_
    refine lv_istore (lv' := [(11, .int (1 : Int32)), (9, .long x5), (8, .int (-1 : Int32)), (6, .long x1), (5, .int v1), (0, .ref (a 5)), (1, .int v1), (2, .int v2), (3, .int v3), (4, .int v4)]) hx hb dX5_simulateFrom_36 hl (by decide) rfl (fun ls hl => ?_)
    exact J_38 v2 v4 _ (fun v4 v5 v6 v8 H locs ls hp hl h => J_127 v4 v5 v6 v8 _ _ _ hp hl h) _ v1 x1 (-1 : Int32) x5 (1 : Int32) _ _ _ hp (lv_sub hl [5, 7, 9, 4, 3, 2, 1, 0] rfl) h
  · have h := it_n h c4
    refine lv_iconst (v := 0) hx hb dX5_simulateFrom_24 (by decide) ?_
    refine lv_goto (tgt := 29) hx hb dX5_simulateFrom_25 (by decide) ?_
    refine lv_istore (lv' := [(8, .int (0 : Int32)), (6, .long x1), (5, .int v1), (0, .ref (a 5)), (1, .int v1), (2, .int v2), (3, .int v3), (4, .int v4)]) hx hb dX5_simulateFrom_29 hl (by decide) rfl (fun ls hl => ?_)
    refine lv_iload_n hx hb dX5_simulateFrom_31 rfl (lv_at hl 6 rfl) ?_
    refine lv_i2l hx hb dX5_simulateFrom_32 rfl ?_
    refine lv_topl (fun x6 ex6 => ?_)
    have h := nm_s h x6 ex6
    refine lv_lstore (lv' := [(9, .long x6), (8, .int (0 : Int32)), (6, .long x1), (5, .int v1), (0, .ref (a 5)), (1, .int v1), (2, .int v2), (3, .int v3), (4, .int v4)]) hx hb dX5_simulateFrom_33 hl (by decide) rfl (fun ls hl => ?_)
    refine lv_iconst (v := 1) hx hb dX5_simulateFrom_35 (by decide) ?_
    refine lv_istore (lv' := [(11, .int (1 : Int32)), (9, .long x6), (8, .int (0 : Int32)), (6, .long x1), (5, .int v1), (0, .ref (a 5)), (1, .int v1), (2, .int v2), (3, .int v3), (4, .int v4)]) hx hb dX5_simulateFrom_36 hl (by decide) rfl (fun ls hl => ?_)
    exact J_38 v2 v4 _ (fun v4 v5 v6 v8 H locs ls hp hl h => J_127 v4 v5 v6 v8 _ _ _ hp hl h) _ v1 x1 (0 : Int32) x6 (1 : Int32) _ _ _ hp (lv_sub hl [5, 7, 9, 4, 3, 2, 1, 0] rfl) h
def X6_simulate_23 (σ : St) : Option (Int32) :=
  none
def X6_simulate (N : Nat) (σ : St) (v1 : Int32) (v2 : Int32) (v3 : Int32) : Option (Int32) :=
  if v1 < 0 then
    X6_simulate_23 σ
  else
    if (100 : Int32) < v1 then
      X6_simulate_23 σ
    else
      if v2 < 0 then
        X6_simulate_23 σ
      else
        if v3 < 0 then
          X6_simulate_23 σ
        else
          if v3 ≤ (2 : Int32) then
            bd (X0_initial σ) (fun t6 =>
            bd (X6_leastOf t6) (fun t7 =>
            if t7 = (-1 : Int32) then
              none
            else
              bd (X5_simulateFrom N σ t7 v1 v2 v3) (fun t9 =>
              some t9)))
          else
            X6_simulate_23 σ
set_option maxRecDepth 20000 in
set_option maxHeartbeats 4000000 in
theorem c_X6_simulate {l : Launch} {D : va_G} {a : Nat → Nat} {cA : Nat → ClassId} {t : Nat} {F : (Nat → Prop) → State → Prop} (hF : EOK F) {σ : St} {N : Nat} {v1 : Int32} {v2 : Int32} {v3 : Int32} {r : Int32} (h : X6_simulate N σ v1 v2 v3 = some r) : MetI l yX6_simulate cX6_simulate 5 (some .int) 4 D (tyW cA) (wS a cA) (ES t F) [.ref (a 0), .int v1, .int v2, .int v3] σ r σ := by
  refine mkI (by decide) (adrS a cA) (Or.inl rfl) (Nat.le_of_ble_eq_true rfl) ?_
  intro p e R s m args below meth c A Q ls X hR hp hl
  obtain ⟨hx, hb, -, hown, hts, -⟩ := id X
  have J_23 : ∀  (H : Heap) (locs : List Loc) (ls : Array Slot), Pw D (wS a cA) A s.heap H locs σ → lv_has ls 5 [(0, .ref (a 0))] → X6_simulate_23 σ = some r → W p l e R s m args below meth c H locs 0 0 Q (F0 m 23 ls []) := by
    intro H locs ls hp hl h
    unfold X6_simulate_23 at h
    exact nn_s h
  unfold X6_simulate at h
  have hl := lv_sub (l' := [(0, .ref (a 0)), (1, .int v1), (2, .int v2), (3, .int v3)]) hl [0, 1, 2, 3] rfl
  refine lv_iload_n hx hb dX6_simulate_0 rfl (lv_at hl 1 rfl) ?_
  refine lv_if_lt (tgt := 23) hx hb dX6_simulate_1 (by decide) (fun c1 => ?_) (fun c1 => ?_)
  · have h := it_p h c1
    exact J_23 _ _ _ hp (lv_sub hl [0] rfl) h
  · have h := it_n h c1
    refine lv_iload_n hx hb dX6_simulate_4 rfl (lv_at hl 1 rfl) ?_
    refine lv_bipush (v := 100) hx hb dX6_simulate_5 (by decide) ?_
    refine lv_icmp_gt (tgt := 23) hx hb dX6_simulate_7 (by decide) (fun c2 => ?_) (fun c2 => ?_)
    · have h := it_p h c2
      exact J_23 _ _ _ hp (lv_sub hl [0] rfl) h
    · have h := it_n h c2
      refine lv_iload_n hx hb dX6_simulate_10 rfl (lv_at hl 2 rfl) ?_
      refine lv_if_lt (tgt := 23) hx hb dX6_simulate_11 (by decide) (fun c3 => ?_) (fun c3 => ?_)
      · have h := it_p h c3
        exact J_23 _ _ _ hp (lv_sub hl [0] rfl) h
      · have h := it_n h c3
        refine lv_iload_n hx hb dX6_simulate_14 rfl (lv_at hl 3 rfl) ?_
        refine lv_if_lt (tgt := 23) hx hb dX6_simulate_15 (by decide) (fun c4 => ?_) (fun c4 => ?_)
        · have h := it_p h c4
          exact J_23 _ _ _ hp (lv_sub hl [0] rfl) h
        · have h := it_n h c4
          refine lv_iload_n hx hb dX6_simulate_18 rfl (lv_at hl 3 rfl) ?_
          refine lv_iconst (v := 2) hx hb dX6_simulate_19 (by decide) ?_
          refine lv_icmp_le (tgt := 34) hx hb dX6_simulate_20 (by decide) (fun c5 => ?_) (fun c5 => ?_)
          · have h := it_p h c5
            refine lv_aload_n hx hb dX6_simulate_34 rfl (lv_at hl 0 rfl) ?_
            refine gS_X6_circuit X hp tw_1_20 dX6_simulate_35 ?_
            obtain ⟨t6, ht6, h⟩ := bd_s h
            refine cl_Vl X (eokS hF) (c_X0_initial hF ht6) tw_19_1 mw_X0_initial (by decide) hp 2 rfl rfl rfl hl.1 rfl (Nat.le_of_ble_eq_true rfl) dX6_simulate_38 (fun H locs hp => ?_)
            obtain ⟨t7, ht7, h⟩ := bd_s h
            refine cl_Si X (eokS hF) (c_X6_leastOf (adrS a cA) (eokS hF) ht7) tw_32_22 mw_X6_leastOf (by decide) hp hl.1 rfl (Nat.le_of_ble_eq_true rfl) dX6_simulate_41 (fun H locs hp => ?_)
            refine lv_istore (lv' := [(4, .int t7), (0, .ref (a 0)), (1, .int v1), (2, .int v2), (3, .int v3)]) hx hb dX6_simulate_44 hl (by decide) rfl (fun ls hl => ?_)
            refine lv_iload hx hb dX6_simulate_46 (lv_at hl 0 rfl) ?_
            refine lv_iconst (v := -1) hx hb dX6_simulate_48 (by decide) ?_
            refine lv_icmp_ne (tgt := 63) hx hb dX6_simulate_49 (by decide) (fun c8 => ?_) (fun c8 => ?_)
            · have h := it_n h c8
              refine lv_aload_n hx hb dX6_simulate_63 rfl (lv_at hl 1 rfl) ?_
              refine gS_X6_otherProofs X hp tw_2_8 dX6_simulate_64 ?_
              refine lv_iload hx hb dX6_simulate_67 (lv_at hl 0 rfl) ?_
              refine lv_iload_n hx hb dX6_simulate_69 rfl (lv_at hl 2 rfl) ?_
              refine lv_iload_n hx hb dX6_simulate_70 rfl (lv_at hl 3 rfl) ?_
              refine lv_iload_n hx hb dX6_simulate_71 rfl (lv_at hl 4 rfl) ?_
              obtain ⟨t9, ht9, h⟩ := bd_s h
              refine cl_Vi X (eokS hF) (c_X5_simulateFrom hF ht9) tw_53_17 mw_X5_simulateFrom (by decide) hp 5 rfl rfl rfl hl.1 rfl (Nat.le_of_ble_eq_true rfl) dX6_simulate_72 (fun H locs hp => ?_)
              exact hR _ _ _ _ _ _ dX6_simulate_75 hp (Option.some.inj h) rfl (fun q => by cases q)
            · have h := it_p h c8
              exact nn_s h
          · have h := it_n h c5
            exact J_23 _ _ _ hp (lv_sub hl [0] rfl) h
