/- X7_isOn X7_isSimple X7_leads X7_inductionNow X7_induction X7_ones X7_isLeft X7_outside X7_discards -/
def X7_isOn_5b (k5 : (Int32 → Int32 → Option (Int32))) (k38 : (Int32 → Option (Int32))) (σ : St) (v1 : Int32) (v2 : Int32) (v3 : Int32) (v4 : Int32) : Option (Int32) :=
  if v1 ≤ v4 then
    k38 v3
  else
    if v3 = 0 then
      gd (inb v4 7) (
      if (σ.2.2.1 10 v4.toNatClampNeg) = v2 then
        nm (v4 + (1 : Int32)) (fun (x7 : Int32) =>
        k5 (1 : Int32) x7)
      else
        nm (v4 + (1 : Int32)) (fun (x6 : Int32) =>
        k5 (0 : Int32) x6))
    else
      nm (v4 + (1 : Int32)) (fun (x3 : Int32) =>
      k5 (1 : Int32) x3)
def X7_isOn_5 (k38 : (Int32 → Option (Int32))) (σ : St) (v1 : Int32) (v2 : Int32) : Nat → Int32 → Int32 → Option (Int32)
  | 0, _, _ => none
  | n + 1, v3, v4 => X7_isOn_5b (fun v3 v4 => X7_isOn_5 k38 σ v1 v2 n v3 v4) k38 σ v1 v2 v3 v4
def X7_isOn_38 (σ : St) (v3 : Int32) : Option (Int32) :=
  gd (isb v3) (
  some v3)
def X7_isOn (N : Nat) (σ : St) (v1 : Int32) (v2 : Int32) : Option (Int32) :=
  X7_isOn_5 (fun v3 => X7_isOn_38 σ v3) σ v1 v2 N (0 : Int32) (0 : Int32)
set_option maxRecDepth 20000 in
set_option maxHeartbeats 4000000 in
theorem c_X7_isOn {l : Launch} {D : va_G} {a : Nat → Nat} {cA : Nat → ClassId} {σ : St} {N : Nat} {v1 : Int32} {v2 : Int32} {r : Int32} (h : X7_isOn N σ v1 v2 = some r) : MetI l yX7_isOn cX7_isOn 5 (some .boolean) 0 D (tyW cA) (wM a cA) EM [.ref (a 0), .int v1, .int v2] σ r σ := by
  refine mkI (by decide) (adrM a cA) (Or.inr rfl) (Nat.le_of_ble_eq_true rfl) ?_
  intro p e R s m args below meth c A Q ls X hR hp hl
  obtain ⟨hx, hb, -, hown, hts, -⟩ := id X
  have J_5 : ∀ (v1 : Int32) (v2 : Int32) (k38 : (Int32 → Option (Int32))) (hk38 : ∀ (v3 : Int32) (H : Heap) (locs : List Loc) (ls : Array Slot), Pw D (wM a cA) A s.heap H locs σ → lv_has ls 5 [(0, .ref (a 0)), (3, .int v3)] → k38 v3 = some r → W p l e R s m args below meth c H locs 0 0 Q (F0 m 38 ls [])) (n : Nat) (v3 : Int32) (v4 : Int32) (H : Heap) (locs : List Loc) (ls : Array Slot), Pw D (wM a cA) A s.heap H locs σ → lv_has ls 5 [(0, .ref (a 0)), (1, .int v1), (2, .int v2), (3, .int v3), (4, .int v4)] → X7_isOn_5 k38 σ v1 v2 n v3 v4 = some r → W p l e R s m args below meth c H locs 0 0 Q (F0 m 5 ls []) := by
    intro v1 v2 k38 hk38 n
    induction n with
    | zero => intro v3 v4 H locs ls hp hl h; exact nn_s (show (none : Option (Int32)) = some _ from h)
    | succ n ih =>
      intro v3 v4 H locs ls hp hl h
      have h : X7_isOn_5b (fun v3 v4 => X7_isOn_5 k38 σ v1 v2 n v3 v4) k38 σ v1 v2 v3 v4 = some r := h
      unfold X7_isOn_5b at h
      have hk5 := ih
      refine lv_iload hx hb dX7_isOn_5 (lv_at hl 4 rfl) ?_
      refine lv_iload_n hx hb dX7_isOn_7 rfl (lv_at hl 1 rfl) ?_
      refine lv_icmp_ge (tgt := 38) hx hb dX7_isOn_8 (by decide) (fun c1 => ?_) (fun c1 => ?_)
      · have h := it_p h c1
        exact hk38 v3 _ _ _ hp (lv_sub hl [0, 3] rfl) h
      · have h := it_n h c1
        refine lv_iload_n hx hb dX7_isOn_11 rfl (lv_at hl 3 rfl) ?_
        refine lv_if_ne (tgt := 26) hx hb dX7_isOn_12 (by decide) (fun c2 => ?_) (fun c2 => ?_)
        · have h := it_n h c2
          refine lv_iconst (v := 1) hx hb dX7_isOn_26 (by decide) ?_
          refine lv_goto (tgt := 31) hx hb dX7_isOn_27 (by decide) ?_
          refine lv_istore_n (lv' := [(3, .int (1 : Int32)), (0, .ref (a 0)), (1, .int v1), (2, .int v2), (4, .int v4)]) hx hb dX7_isOn_31 rfl hl (by decide) rfl (fun ls hl => ?_)
          obtain ⟨x3, ex3⟩ : ∃ z : Int32, z = v4 + (1 : Int32) := ⟨_, rfl⟩
          have h := nm_s h x3 ex3
          refine lv_iinc (v := x3) (lv' := [(4, .int x3), (3, .int (1 : Int32)), (0, .ref (a 0)), (1, .int v1), (2, .int v2)]) hx hb dX7_isOn_32 hl (k := 4) rfl (by rw [ex3]; rfl) (by decide) rfl (fun ls hl => ?_)
          refine lv_goto (tgt := 5) hx hb dX7_isOn_35 (by decide) ?_
          exact hk5 (1 : Int32) x3 _ _ _ hp (lv_sub hl [2, 3, 4, 1, 0] rfl) h
        · have h := it_p h c2
          refine lv_aload_n hx hb dX7_isOn_15 rfl (lv_at hl 0 rfl) ?_
          refine gM_X7_path X hp tw_6_8 dX7_isOn_16 ?_
          refine lv_iload hx hb dX7_isOn_19 (lv_at hl 4 rfl) ?_
          obtain ⟨g4, h⟩ := gd_s h
          refine lM_X7_path X hp g4 dX7_isOn_21 ?_
          refine lv_iload_n hx hb dX7_isOn_22 rfl (lv_at hl 2 rfl) ?_
          refine lv_icmp_ne (tgt := 30) hx hb dX7_isOn_23 (by decide) (fun c5 => ?_) (fun c5 => ?_)
          · have h := it_n h c5
            refine lv_iconst (v := 0) hx hb dX7_isOn_30 (by decide) ?_
            refine lv_istore_n (lv' := [(3, .int (0 : Int32)), (0, .ref (a 0)), (1, .int v1), (2, .int v2), (4, .int v4)]) hx hb dX7_isOn_31 rfl hl (by decide) rfl (fun ls hl => ?_)
            obtain ⟨x6, ex6⟩ : ∃ z : Int32, z = v4 + (1 : Int32) := ⟨_, rfl⟩
            have h := nm_s h x6 ex6
            refine lv_iinc (v := x6) (lv' := [(4, .int x6), (3, .int (0 : Int32)), (0, .ref (a 0)), (1, .int v1), (2, .int v2)]) hx hb dX7_isOn_32 hl (k := 4) rfl (by rw [ex6]; rfl) (by decide) rfl (fun ls hl => ?_)
            refine lv_goto (tgt := 5) hx hb dX7_isOn_35 (by decide) ?_
            exact hk5 (0 : Int32) x6 _ _ _ hp (lv_sub hl [2, 3, 4, 1, 0] rfl) h
          · have h := it_p h c5
            refine lv_iconst (v := 1) hx hb dX7_isOn_26 (by decide) ?_
            refine lv_goto (tgt := 31) hx hb dX7_isOn_27 (by decide) ?_
            refine lv_istore_n (lv' := [(3, .int (1 : Int32)), (0, .ref (a 0)), (1, .int v1), (2, .int v2), (4, .int v4)]) hx hb dX7_isOn_31 rfl hl (by decide) rfl (fun ls hl => ?_)
            obtain ⟨x7, ex7⟩ : ∃ z : Int32, z = v4 + (1 : Int32) := ⟨_, rfl⟩
            have h := nm_s h x7 ex7
            refine lv_iinc (v := x7) (lv' := [(4, .int x7), (3, .int (1 : Int32)), (0, .ref (a 0)), (1, .int v1), (2, .int v2)]) hx hb dX7_isOn_32 hl (k := 4) rfl (by rw [ex7]; rfl) (by decide) rfl (fun ls hl => ?_)
            refine lv_goto (tgt := 5) hx hb dX7_isOn_35 (by decide) ?_
            exact hk5 (1 : Int32) x7 _ _ _ hp (lv_sub hl [2, 3, 4, 1, 0] rfl) h
  have J_38 : ∀ (v3 : Int32) (H : Heap) (locs : List Loc) (ls : Array Slot), Pw D (wM a cA) A s.heap H locs σ → lv_has ls 5 [(0, .ref (a 0)), (3, .int v3)] → X7_isOn_38 σ v3 = some r → W p l e R s m args below meth c H locs 0 0 Q (F0 m 38 ls []) := by
    intro v3 H locs ls hp hl h
    unfold X7_isOn_38 at h
    refine lv_iload_n hx hb dX7_isOn_38 rfl (lv_at hl 1 rfl) ?_
    obtain ⟨g1, h⟩ := gd_s h
    exact hR _ _ _ _ _ _ dX7_isOn_39 hp (Option.some.inj h) rfl (fun _ => g1)
  unfold X7_isOn at h
  have hl := lv_sub (l' := [(0, .ref (a 0)), (1, .int v1), (2, .int v2)]) hl [0, 1, 2] rfl
  refine lv_iconst (v := 0) hx hb dX7_isOn_0 (by decide) ?_
  refine lv_istore_n (lv' := [(3, .int (0 : Int32)), (0, .ref (a 0)), (1, .int v1), (2, .int v2)]) hx hb dX7_isOn_1 rfl hl (by decide) rfl (fun ls hl => ?_)
  refine lv_iconst (v := 0) hx hb dX7_isOn_2 (by decide) ?_
  refine lv_istore (lv' := [(4, .int (0 : Int32)), (3, .int (0 : Int32)), (0, .ref (a 0)), (1, .int v1), (2, .int v2)]) hx hb dX7_isOn_3 hl (by decide) rfl (fun ls hl => ?_)
  exact J_5 v1 v2 _ (fun v3 H locs ls hp hl h => J_38 v3 _ _ _ hp hl h) _ (0 : Int32) (0 : Int32) _ _ _ hp (lv_sub hl [2, 3, 4, 1, 0] rfl) h
def X7_isSimple_16b (N : Nat) (k16 : (Int32 → St → Option (Int32 × St))) (k123 : (Int32 → Int32 → St → Option (Int32 × St))) (v2 : Int32) (v3 : Int32) (σ : St) : Option (Int32 × St) :=
  if v3 < 0 then
    k123 v2 v3 σ
  else
    if v2 ≤ v3 then
      k123 v2 v3 σ
    else
      gd (inb v3 7) (
      bd (X7_values σ) (fun t4 =>
      if (σ.2.2.1 11 v3.toNatClampNeg) = t4 then
        nm (v3 + (-1 : Int32)) (fun (x22 : Int32) =>
        k16 x22 σ)
      else
        gd (inb v3 7) (
        gd (inb v3 7) (
        bd (X7_successorOf N σ (σ.2.2.1 10 v3.toNatClampNeg) (σ.2.2.1 11 v3.toNatClampNeg)) (fun t8 =>
        gd (inb v3 7) (
        gd (inb v3 7) (
        nm (sa σ 11 v3.toNatClampNeg ((σ.2.2.1 11 v3.toNatClampNeg) + (1 : Int32))) (fun (σ11 : St) =>
        gd (inb ((v2 - v3) - (1 : Int32)) 7) (
        bd (X7_has (σ11.2.2.2 4 ((v2 - v3) - (1 : Int32)).toNatClampNeg) t8) (fun t13 =>
        if t13 = 0 then
          k16 v3 σ11
        else
          bd (X7_isOn N σ11 (v3 + (1 : Int32)) t8) (fun t15 =>
          if t15 = 0 then
            nm (v3 + (1 : Int32)) (fun (x17 : Int32) =>
            gd (inb x17 7) (
            nm (sa σ11 10 x17.toNatClampNeg t8) (fun (σ19 : St) =>
            gd (inb x17 7) (
            nm (sa σ19 11 x17.toNatClampNeg (0 : Int32)) (fun (σ21 : St) =>
            k16 x17 σ21)))))
          else
            k16 v3 σ11)))))))))))
def X7_isSimple_16 (N : Nat) (k123 : (Int32 → Int32 → St → Option (Int32 × St))) (v2 : Int32) : Nat → Int32 → St → Option (Int32 × St)
  | 0, _, _ => none
  | n + 1, v3, σ => X7_isSimple_16b N (fun v3 σ => X7_isSimple_16 N k123 v2 n v3 σ) k123 v2 v3 σ
def X7_isSimple_123 (v2 : Int32) (v3 : Int32) (σ : St) : Option (Int32 × St) :=
  if v3 = v2 then
    some ((1 : Int32), σ)
  else
    some ((0 : Int32), σ)
def X7_isSimple (N : Nat) (v1 : Int32) (v2 : Int32) (σ : St) : Option (Int32 × St) :=
  gd (inb (0 : Int32) 7) (
  nm (sa σ 10 (0 : Int32).toNatClampNeg v1) (fun (σ2 : St) =>
  gd (inb (0 : Int32) 7) (
  nm (sa σ2 11 (0 : Int32).toNatClampNeg (0 : Int32)) (fun (σ4 : St) =>
  X7_isSimple_16 N (fun v2 v3 σ => X7_isSimple_123 v2 v3 σ) v2 N (0 : Int32) σ4))))
set_option maxRecDepth 20000 in
set_option maxHeartbeats 4000000 in
theorem c_X7_isSimple {l : Launch} {D : va_G} {a : Nat → Nat} {cA : Nat → ClassId} {σ : St} {N : Nat} {v1 : Int32} {v2 : Int32} {r : Int32} {σ' : St} (h : X7_isSimple N v1 v2 σ = some (r, σ')) : MetI l yX7_isSimple cX7_isSimple 5 (some .boolean) 2 D (tyW cA) (wM a cA) EM [.ref (a 0), .int v1, .int v2] σ r σ' := by
  refine mkI (by decide) (adrM a cA) (Or.inr rfl) (Nat.le_of_ble_eq_true rfl) ?_
  intro p e R s m args below meth c A Q ls X hR hp hl
  obtain ⟨hx, hb, -, hown, hts, -⟩ := id X
  have J_16 : ∀ (v2 : Int32) (k123 : (Int32 → Int32 → St → Option (Int32 × St))) (hk123 : ∀ (v2 : Int32) (v3 : Int32) (σ : St) (H : Heap) (locs : List Loc) (ls : Array Slot), Pw D (wM a cA) A s.heap H locs σ → lv_has ls 5 [(0, .ref (a 0)), (2, .int v2), (3, .int v3)] → k123 v2 v3 σ = some (r, σ') → W p l e R s m args below meth c H locs 0 0 Q (F0 m 123 ls [])) (n : Nat) (v3 : Int32) (σ : St) (H : Heap) (locs : List Loc) (ls : Array Slot), Pw D (wM a cA) A s.heap H locs σ → lv_has ls 5 [(0, .ref (a 0)), (2, .int v2), (3, .int v3)] → X7_isSimple_16 N k123 v2 n v3 σ = some (r, σ') → W p l e R s m args below meth c H locs 0 0 Q (F0 m 16 ls []) := by
    intro v2 k123 hk123 n
    induction n with
    | zero => intro v3 σ H locs ls hp hl h; exact nn_s (show (none : Option (Int32 × St)) = some _ from h)
    | succ n ih =>
      intro v3 σ H locs ls hp hl h
      have h : X7_isSimple_16b N (fun v3 σ => X7_isSimple_16 N k123 v2 n v3 σ) k123 v2 v3 σ = some (r, σ') := h
      unfold X7_isSimple_16b at h
      have hk16 := ih
      refine lv_iload_n hx hb dX7_isSimple_16 rfl (lv_at hl 2 rfl) ?_
      refine lv_if_lt (tgt := 123) hx hb dX7_isSimple_17 (by decide) (fun c1 => ?_) (fun c1 => ?_)
      · have h := it_p h c1
        exact hk123 v2 v3 σ _ _ _ hp (lv_sub hl [0, 1, 2] rfl) h
      · have h := it_n h c1
        refine lv_iload_n hx hb dX7_isSimple_20 rfl (lv_at hl 2 rfl) ?_
        refine lv_iload_n hx hb dX7_isSimple_21 rfl (lv_at hl 1 rfl) ?_
        refine lv_icmp_ge (tgt := 123) hx hb dX7_isSimple_22 (by decide) (fun c2 => ?_) (fun c2 => ?_)
        · have h := it_p h c2
          exact hk123 v2 v3 σ _ _ _ hp (lv_sub hl [0, 1, 2] rfl) h
        · have h := it_n h c2
          refine lv_aload_n hx hb dX7_isSimple_25 rfl (lv_at hl 0 rfl) ?_
          refine gM_X7_tried X hp tw_6_9 dX7_isSimple_26 ?_
          refine lv_iload_n hx hb dX7_isSimple_29 rfl (lv_at hl 2 rfl) ?_
          obtain ⟨g3, h⟩ := gd_s h
          refine lM_X7_tried X hp g3 dX7_isSimple_30 ?_
          refine lv_aload_n hx hb dX7_isSimple_31 rfl (lv_at hl 0 rfl) ?_
          obtain ⟨t4, ht4, h⟩ := bd_s h
          refine cl_Vi X eokM (c_X7_values ht4) tw_17_20 mw_X7_values (by decide) hp 0 rfl rfl rfl hl.1 rfl (Nat.le_of_ble_eq_true rfl) dX7_isSimple_32 (fun H locs hp => ?_)
          refine lv_icmp_ne (tgt := 44) hx hb dX7_isSimple_35 (by decide) (fun c5 => ?_) (fun c5 => ?_)
          · have h := it_n h c5
            refine lv_aload_n hx hb dX7_isSimple_44 rfl (lv_at hl 0 rfl) ?_
            refine lv_aload_n hx hb dX7_isSimple_45 rfl (lv_at hl 0 rfl) ?_
            refine gM_X7_path X hp tw_6_8 dX7_isSimple_46 ?_
            refine lv_iload_n hx hb dX7_isSimple_49 rfl (lv_at hl 2 rfl) ?_
            obtain ⟨g6, h⟩ := gd_s h
            refine lM_X7_path X hp g6 dX7_isSimple_50 ?_
            refine lv_aload_n hx hb dX7_isSimple_51 rfl (lv_at hl 0 rfl) ?_
            refine gM_X7_tried X hp tw_6_9 dX7_isSimple_52 ?_
            refine lv_iload_n hx hb dX7_isSimple_55 rfl (lv_at hl 2 rfl) ?_
            obtain ⟨g7, h⟩ := gd_s h
            refine lM_X7_tried X hp g7 dX7_isSimple_56 ?_
            obtain ⟨t8, ht8, h⟩ := bd_s h
            refine cl_Vi X eokM (c_X7_successorOf ht8) tw_21_23 mw_X7_successorOf (by decide) hp 0 rfl rfl rfl hl.1 rfl (Nat.le_of_ble_eq_true rfl) dX7_isSimple_57 (fun H locs hp => ?_)
            refine lv_istore (lv' := [(4, .int t8), (0, .ref (a 0)), (2, .int v2), (3, .int v3)]) hx hb dX7_isSimple_60 hl (by decide) rfl (fun ls hl => ?_)
            refine lv_aload_n hx hb dX7_isSimple_62 rfl (lv_at hl 1 rfl) ?_
            refine gM_X7_tried X hp tw_6_9 dX7_isSimple_63 ?_
            refine lv_iload_n hx hb dX7_isSimple_66 rfl (lv_at hl 3 rfl) ?_
            refine lv_dup2_11 hx hb dX7_isSimple_67 rfl rfl ?_
            obtain ⟨g9, h⟩ := gd_s h
            refine lM_X7_tried X hp g9 dX7_isSimple_68 ?_
            refine lv_iconst (v := 1) hx hb dX7_isSimple_69 (by decide) ?_
            refine lv_iadd hx hb dX7_isSimple_70 ?_
            obtain ⟨g10, h⟩ := gd_s h
            refine sM_X7_tried X hp g10 dX7_isSimple_71 (fun H locs σ11 eσ11 hp => ?_)
            have h := nm_s h σ11 eσ11
            refine lv_aload_n hx hb dX7_isSimple_72 rfl (lv_at hl 1 rfl) ?_
            refine gM_X7_lead X hp tw_6_7 dX7_isSimple_73 ?_
            refine lv_iload_n hx hb dX7_isSimple_76 rfl (lv_at hl 2 rfl) ?_
            refine lv_iload_n hx hb dX7_isSimple_77 rfl (lv_at hl 3 rfl) ?_
            refine lv_isub hx hb dX7_isSimple_78 ?_
            refine lv_iconst (v := 1) hx hb dX7_isSimple_79 (by decide) ?_
            refine lv_isub hx hb dX7_isSimple_80 ?_
            obtain ⟨g12, h⟩ := gd_s h
            refine lM_X7_lead X hp g12 dX7_isSimple_81 ?_
            refine lv_iload hx hb dX7_isSimple_82 (lv_at hl 0 rfl) ?_
            obtain ⟨t13, ht13, h⟩ := bd_s h
            refine cl_Si X eokM (c_X7_has (adrM a cA) eokM ht13) tw_18_3 mw_X7_has (by decide) hp hl.1 rfl (Nat.le_of_ble_eq_true rfl) dX7_isSimple_84 (fun H locs hp => ?_)
            refine lv_if_eq (tgt := 120) hx hb dX7_isSimple_87 (by decide) (fun c14 => ?_) (fun c14 => ?_)
            · have h := it_p h c14
              refine lv_goto (tgt := 16) hx hb dX7_isSimple_120 (by decide) ?_
              exact hk16 v3 σ11 _ _ _ hp (lv_sub hl [1, 2, 3] rfl) h
            · have h := it_n h c14
              refine lv_aload_n hx hb dX7_isSimple_90 rfl (lv_at hl 1 rfl) ?_
              refine lv_iload_n hx hb dX7_isSimple_91 rfl (lv_at hl 3 rfl) ?_
              refine lv_iconst (v := 1) hx hb dX7_isSimple_92 (by decide) ?_
              refine lv_iadd hx hb dX7_isSimple_93 ?_
              refine lv_iload hx hb dX7_isSimple_94 (lv_at hl 0 rfl) ?_
              obtain ⟨t15, ht15, h⟩ := bd_s h
              refine cl_Vi X eokM (c_X7_isOn ht15) tw_48_23 mw_X7_isOn (by decide) hp 0 rfl rfl rfl hl.1 rfl (Nat.le_of_ble_eq_true rfl) dX7_isSimple_96 (fun H locs hp => ?_)
              refine lv_if_ne (tgt := 120) hx hb dX7_isSimple_99 (by decide) (fun c16 => ?_) (fun c16 => ?_)
              · have h := it_n h c16
                refine lv_goto (tgt := 16) hx hb dX7_isSimple_120 (by decide) ?_
                exact hk16 v3 σ11 _ _ _ hp (lv_sub hl [1, 2, 3] rfl) h
              · have h := it_p h c16
                obtain ⟨x17, ex17⟩ : ∃ z : Int32, z = v3 + (1 : Int32) := ⟨_, rfl⟩
                have h := nm_s h x17 ex17
                refine lv_iinc (v := x17) (lv' := [(3, .int x17), (4, .int t8), (0, .ref (a 0)), (2, .int v2)]) hx hb dX7_isSimple_102 hl (k := 3) rfl (by rw [ex17]; rfl) (by decide) rfl (fun ls hl => ?_)
                refine lv_aload_n hx hb dX7_isSimple_105 rfl (lv_at hl 2 rfl) ?_
                refine gM_X7_path X hp tw_6_8 dX7_isSimple_106 ?_
                refine lv_iload_n hx hb dX7_isSimple_109 rfl (lv_at hl 0 rfl) ?_
                refine lv_iload hx hb dX7_isSimple_110 (lv_at hl 1 rfl) ?_
                obtain ⟨g18, h⟩ := gd_s h
                refine sM_X7_path X hp g18 dX7_isSimple_112 (fun H locs σ19 eσ19 hp => ?_)
                have h := nm_s h σ19 eσ19
                refine lv_aload_n hx hb dX7_isSimple_113 rfl (lv_at hl 2 rfl) ?_
                refine gM_X7_tried X hp tw_6_9 dX7_isSimple_114 ?_
                refine lv_iload_n hx hb dX7_isSimple_117 rfl (lv_at hl 0 rfl) ?_
                refine lv_iconst (v := 0) hx hb dX7_isSimple_118 (by decide) ?_
                obtain ⟨g20, h⟩ := gd_s h
                refine sM_X7_tried X hp g20 dX7_isSimple_119 (fun H locs σ21 eσ21 hp => ?_)
                have h := nm_s h σ21 eσ21
                refine lv_goto (tgt := 16) hx hb dX7_isSimple_120 (by decide) ?_
                exact hk16 x17 σ21 _ _ _ hp (lv_sub hl [2, 3, 0] rfl) h
          · have h := it_p h c5
            obtain ⟨x22, ex22⟩ : ∃ z : Int32, z = v3 + (-1 : Int32) := ⟨_, rfl⟩
            have h := nm_s h x22 ex22
            refine lv_iinc (v := x22) (lv' := [(3, .int x22), (0, .ref (a 0)), (2, .int v2)]) hx hb dX7_isSimple_38 hl (k := 2) rfl (by rw [ex22]; rfl) (by decide) rfl (fun ls hl => ?_)
            refine lv_goto (tgt := 16) hx hb dX7_isSimple_41 (by decide) ?_
            exact hk16 x22 σ _ _ _ hp (lv_sub hl [1, 2, 0] rfl) h
  have J_123 : ∀ (v2 : Int32) (v3 : Int32) (σ : St) (H : Heap) (locs : List Loc) (ls : Array Slot), Pw D (wM a cA) A s.heap H locs σ → lv_has ls 5 [(0, .ref (a 0)), (2, .int v2), (3, .int v3)] → X7_isSimple_123 v2 v3 σ = some (r, σ') → W p l e R s m args below meth c H locs 0 0 Q (F0 m 123 ls []) := by
    intro v2 v3 σ H locs ls hp hl h
    unfold X7_isSimple_123 at h
    refine lv_iload_n hx hb dX7_isSimple_123 rfl (lv_at hl 2 rfl) ?_
    refine lv_iload_n hx hb dX7_isSimple_124 rfl (lv_at hl 1 rfl) ?_
    refine lv_icmp_ne (tgt := 132) hx hb dX7_isSimple_125 (by decide) (fun c1 => ?_) (fun c1 => ?_)
    · have h := it_n h c1
      refine lv_iconst (v := 0) hx hb dX7_isSimple_132 (by decide) ?_
      exact hR _ _ _ _ _ _ dX7_isSimple_133 hp (congrArg Prod.fst (Option.some.inj h)) (congrArg Prod.snd (Option.some.inj h)) (fun _ => Or.inl rfl)
    · have h := it_p h c1
      refine lv_iconst (v := 1) hx hb dX7_isSimple_128 (by decide) ?_
      refine lv_goto (tgt := 133) hx hb dX7_isSimple_129 (by decide) ?_
      exact hR _ _ _ _ _ _ dX7_isSimple_133 hp (congrArg Prod.fst (Option.some.inj h)) (congrArg Prod.snd (Option.some.inj h)) (fun _ => Or.inr rfl)
  unfold X7_isSimple at h
  have hl := lv_sub (l' := [(0, .ref (a 0)), (1, .int v1), (2, .int v2)]) hl [0, 1, 2] rfl
  refine lv_aload_n hx hb dX7_isSimple_0 rfl (lv_at hl 0 rfl) ?_
  refine gM_X7_path X hp tw_6_8 dX7_isSimple_1 ?_
  refine lv_iconst (v := 0) hx hb dX7_isSimple_4 (by decide) ?_
  refine lv_iload_n hx hb dX7_isSimple_5 rfl (lv_at hl 1 rfl) ?_
  obtain ⟨g1, h⟩ := gd_s h
  refine sM_X7_path X hp g1 dX7_isSimple_6 (fun H locs σ2 eσ2 hp => ?_)
  have h := nm_s h σ2 eσ2
  refine lv_aload_n hx hb dX7_isSimple_7 rfl (lv_at hl 0 rfl) ?_
  refine gM_X7_tried X hp tw_6_9 dX7_isSimple_8 ?_
  refine lv_iconst (v := 0) hx hb dX7_isSimple_11 (by decide) ?_
  refine lv_iconst (v := 0) hx hb dX7_isSimple_12 (by decide) ?_
  obtain ⟨g3, h⟩ := gd_s h
  refine sM_X7_tried X hp g3 dX7_isSimple_13 (fun H locs σ4 eσ4 hp => ?_)
  have h := nm_s h σ4 eσ4
  refine lv_iconst (v := 0) hx hb dX7_isSimple_14 (by decide) ?_
  refine lv_istore_n (lv' := [(3, .int (0 : Int32)), (0, .ref (a 0)), (1, .int v1), (2, .int v2)]) hx hb dX7_isSimple_15 rfl hl (by decide) rfl (fun ls hl => ?_)
  exact J_16 v2 _ (fun v2 v3 σ H locs ls hp hl h => J_123 v2 v3 σ _ _ _ hp hl h) _ (0 : Int32) σ4 _ _ _ hp (lv_sub hl [1, 3, 0] rfl) h
def X7_leads_5b (N : Nat) (k5 : (Int32 → Int32 → St → Option (Int32 × St))) (k58 : (Int32 → St → Option (Int32 × St))) (v1 : Int32) (v2 : Int32) (v3 : Int32) (v4 : Int32) (σ : St) : Option (Int32 × St) :=
  bd (X7_states σ) (fun t1 =>
  if t1 ≤ v4 then
    k58 v3 σ
  else
    if v3 = 0 then
      gd (inb v1 7) (
      bd (X7_has (σ.2.2.2 4 v1.toNatClampNeg) v4) (fun t6 =>
      if t6 = 0 then
        nm (v4 + (1 : Int32)) (fun (x8 : Int32) =>
        k5 (0 : Int32) x8 σ)
      else
        if v2 = 0 then
          nm (v4 + (1 : Int32)) (fun (x10 : Int32) =>
          k5 (1 : Int32) x10 σ)
        else
          bd (X7_isSimple N v4 v1 σ) (fun t11 =>
          if t11.1 = 0 then
            nm (v4 + (1 : Int32)) (fun (x13 : Int32) =>
            k5 (0 : Int32) x13 t11.2)
          else
            nm (v4 + (1 : Int32)) (fun (x14 : Int32) =>
            k5 (1 : Int32) x14 t11.2))))
    else
      nm (v4 + (1 : Int32)) (fun (x4 : Int32) =>
      k5 (1 : Int32) x4 σ))
def X7_leads_5 (N : Nat) (k58 : (Int32 → St → Option (Int32 × St))) (v1 : Int32) (v2 : Int32) : Nat → Int32 → Int32 → St → Option (Int32 × St)
  | 0, _, _, _ => none
  | n + 1, v3, v4, σ => X7_leads_5b N (fun v3 v4 σ => X7_leads_5 N k58 v1 v2 n v3 v4 σ) k58 v1 v2 v3 v4 σ
def X7_leads_58 (v3 : Int32) (σ : St) : Option (Int32 × St) :=
  gd (isb v3) (
  some (v3, σ))
def X7_leads (N : Nat) (v1 : Int32) (v2 : Int32) (σ : St) : Option (Int32 × St) :=
  X7_leads_5 N (fun v3 σ => X7_leads_58 v3 σ) v1 v2 N (0 : Int32) (0 : Int32) σ
set_option maxRecDepth 20000 in
set_option maxHeartbeats 4000000 in
theorem c_X7_leads {l : Launch} {D : va_G} {a : Nat → Nat} {cA : Nat → ClassId} {σ : St} {N : Nat} {v1 : Int32} {v2 : Int32} {r : Int32} {σ' : St} (h : X7_leads N v1 v2 σ = some (r, σ')) : MetI l yX7_leads cX7_leads 5 (some .boolean) 3 D (tyW cA) (wM a cA) EM [.ref (a 0), .int v1, .int v2] σ r σ' := by
  refine mkI (by decide) (adrM a cA) (Or.inr rfl) (Nat.le_of_ble_eq_true rfl) ?_
  intro p e R s m args below meth c A Q ls X hR hp hl
  obtain ⟨hx, hb, -, hown, hts, -⟩ := id X
  have J_5 : ∀ (v1 : Int32) (v2 : Int32) (k58 : (Int32 → St → Option (Int32 × St))) (hk58 : ∀ (v3 : Int32) (σ : St) (H : Heap) (locs : List Loc) (ls : Array Slot), Pw D (wM a cA) A s.heap H locs σ → lv_has ls 5 [(0, .ref (a 0)), (3, .int v3)] → k58 v3 σ = some (r, σ') → W p l e R s m args below meth c H locs 0 0 Q (F0 m 58 ls [])) (n : Nat) (v3 : Int32) (v4 : Int32) (σ : St) (H : Heap) (locs : List Loc) (ls : Array Slot), Pw D (wM a cA) A s.heap H locs σ → lv_has ls 5 [(0, .ref (a 0)), (1, .int v1), (2, .int v2), (3, .int v3), (4, .int v4)] → X7_leads_5 N k58 v1 v2 n v3 v4 σ = some (r, σ') → W p l e R s m args below meth c H locs 0 0 Q (F0 m 5 ls []) := by
    intro v1 v2 k58 hk58 n
    induction n with
    | zero => intro v3 v4 σ H locs ls hp hl h; exact nn_s (show (none : Option (Int32 × St)) = some _ from h)
    | succ n ih =>
      intro v3 v4 σ H locs ls hp hl h
      have h : X7_leads_5b N (fun v3 v4 σ => X7_leads_5 N k58 v1 v2 n v3 v4 σ) k58 v1 v2 v3 v4 σ = some (r, σ') := h
      unfold X7_leads_5b at h
      have hk5 := ih
      refine lv_iload hx hb dX7_leads_5 (lv_at hl 4 rfl) ?_
      refine lv_aload_n hx hb dX7_leads_7 rfl (lv_at hl 0 rfl) ?_
      obtain ⟨t1, ht1, h⟩ := bd_s h
      refine cl_Vi X eokM (c_X7_states ht1) tw_7_1 mw_X7_states (by decide) hp 0 rfl rfl rfl hl.1 rfl (Nat.le_of_ble_eq_true rfl) dX7_leads_8 (fun H locs hp => ?_)
      refine lv_icmp_ge (tgt := 58) hx hb dX7_leads_11 (by decide) (fun c2 => ?_) (fun c2 => ?_)
      · have h := it_p h c2
        exact hk58 v3 σ _ _ _ hp (lv_sub hl [0, 3] rfl) h
      · have h := it_n h c2
        refine lv_iload_n hx hb dX7_leads_14 rfl (lv_at hl 3 rfl) ?_
        refine lv_if_ne (tgt := 46) hx hb dX7_leads_15 (by decide) (fun c3 => ?_) (fun c3 => ?_)
        · have h := it_n h c3
          refine lv_iconst (v := 1) hx hb dX7_leads_46 (by decide) ?_
          refine lv_goto (tgt := 51) hx hb dX7_leads_47 (by decide) ?_
          refine lv_istore_n (lv' := [(3, .int (1 : Int32)), (0, .ref (a 0)), (1, .int v1), (2, .int v2), (4, .int v4)]) hx hb dX7_leads_51 rfl hl (by decide) rfl (fun ls hl => ?_)
          obtain ⟨x4, ex4⟩ : ∃ z : Int32, z = v4 + (1 : Int32) := ⟨_, rfl⟩
          have h := nm_s h x4 ex4
          refine lv_iinc (v := x4) (lv' := [(4, .int x4), (3, .int (1 : Int32)), (0, .ref (a 0)), (1, .int v1), (2, .int v2)]) hx hb dX7_leads_52 hl (k := 4) rfl (by rw [ex4]; rfl) (by decide) rfl (fun ls hl => ?_)
          refine lv_goto (tgt := 5) hx hb dX7_leads_55 (by decide) ?_
          exact hk5 (1 : Int32) x4 σ _ _ _ hp (lv_sub hl [2, 3, 4, 1, 0] rfl) h
        · have h := it_p h c3
          refine lv_aload_n hx hb dX7_leads_18 rfl (lv_at hl 0 rfl) ?_
          refine gM_X7_lead X hp tw_6_7 dX7_leads_19 ?_
          refine lv_iload_n hx hb dX7_leads_22 rfl (lv_at hl 1 rfl) ?_
          obtain ⟨g5, h⟩ := gd_s h
          refine lM_X7_lead X hp g5 dX7_leads_23 ?_
          refine lv_iload hx hb dX7_leads_24 (lv_at hl 4 rfl) ?_
          obtain ⟨t6, ht6, h⟩ := bd_s h
          refine cl_Si X eokM (c_X7_has (adrM a cA) eokM ht6) tw_18_3 mw_X7_has (by decide) hp hl.1 rfl (Nat.le_of_ble_eq_true rfl) dX7_leads_26 (fun H locs hp => ?_)
          refine lv_if_eq (tgt := 50) hx hb dX7_leads_29 (by decide) (fun c7 => ?_) (fun c7 => ?_)
          · have h := it_p h c7
            refine lv_iconst (v := 0) hx hb dX7_leads_50 (by decide) ?_
            refine lv_istore_n (lv' := [(3, .int (0 : Int32)), (0, .ref (a 0)), (1, .int v1), (2, .int v2), (4, .int v4)]) hx hb dX7_leads_51 rfl hl (by decide) rfl (fun ls hl => ?_)
            obtain ⟨x8, ex8⟩ : ∃ z : Int32, z = v4 + (1 : Int32) := ⟨_, rfl⟩
            have h := nm_s h x8 ex8
            refine lv_iinc (v := x8) (lv' := [(4, .int x8), (3, .int (0 : Int32)), (0, .ref (a 0)), (1, .int v1), (2, .int v2)]) hx hb dX7_leads_52 hl (k := 4) rfl (by rw [ex8]; rfl) (by decide) rfl (fun ls hl => ?_)
            refine lv_goto (tgt := 5) hx hb dX7_leads_55 (by decide) ?_
            exact hk5 (0 : Int32) x8 σ _ _ _ hp (lv_sub hl [2, 3, 4, 1, 0] rfl) h
          · have h := it_n h c7
            refine lv_iload_n hx hb dX7_leads_32 rfl (lv_at hl 2 rfl) ?_
            refine lv_if_eq (tgt := 46) hx hb dX7_leads_33 (by decide) (fun c9 => ?_) (fun c9 => ?_)
            · have h := it_p h c9
              refine lv_iconst (v := 1) hx hb dX7_leads_46 (by decide) ?_
              refine lv_goto (tgt := 51) hx hb dX7_leads_47 (by decide) ?_
              refine lv_istore_n (lv' := [(3, .int (1 : Int32)), (0, .ref (a 0)), (1, .int v1), (2, .int v2), (4, .int v4)]) hx hb dX7_leads_51 rfl hl (by decide) rfl (fun ls hl => ?_)
              obtain ⟨x10, ex10⟩ : ∃ z : Int32, z = v4 + (1 : Int32) := ⟨_, rfl⟩
              have h := nm_s h x10 ex10
              refine lv_iinc (v := x10) (lv' := [(4, .int x10), (3, .int (1 : Int32)), (0, .ref (a 0)), (1, .int v1), (2, .int v2)]) hx hb dX7_leads_52 hl (k := 4) rfl (by rw [ex10]; rfl) (by decide) rfl (fun ls hl => ?_)
              refine lv_goto (tgt := 5) hx hb dX7_leads_55 (by decide) ?_
              exact hk5 (1 : Int32) x10 σ _ _ _ hp (lv_sub hl [2, 3, 4, 1, 0] rfl) h
            · have h := it_n h c9
              refine lv_aload_n hx hb dX7_leads_36 rfl (lv_at hl 0 rfl) ?_
              refine lv_iload hx hb dX7_leads_37 (lv_at hl 4 rfl) ?_
              refine lv_iload_n hx hb dX7_leads_39 rfl (lv_at hl 1 rfl) ?_
              obtain ⟨t11, ht11, h⟩ := bd_s h
              refine cl_Vi X eokM (c_X7_isSimple ht11) tw_48_19 mw_X7_isSimple (by decide) hp 0 rfl rfl rfl hl.1 rfl (Nat.le_of_ble_eq_true rfl) dX7_leads_40 (fun H locs hp => ?_)
              refine lv_if_eq (tgt := 50) hx hb dX7_leads_43 (by decide) (fun c12 => ?_) (fun c12 => ?_)
              · have h := it_p h c12
                refine lv_iconst (v := 0) hx hb dX7_leads_50 (by decide) ?_
                refine lv_istore_n (lv' := [(3, .int (0 : Int32)), (0, .ref (a 0)), (1, .int v1), (2, .int v2), (4, .int v4)]) hx hb dX7_leads_51 rfl hl (by decide) rfl (fun ls hl => ?_)
                obtain ⟨x13, ex13⟩ : ∃ z : Int32, z = v4 + (1 : Int32) := ⟨_, rfl⟩
                have h := nm_s h x13 ex13
                refine lv_iinc (v := x13) (lv' := [(4, .int x13), (3, .int (0 : Int32)), (0, .ref (a 0)), (1, .int v1), (2, .int v2)]) hx hb dX7_leads_52 hl (k := 4) rfl (by rw [ex13]; rfl) (by decide) rfl (fun ls hl => ?_)
                refine lv_goto (tgt := 5) hx hb dX7_leads_55 (by decide) ?_
                exact hk5 (0 : Int32) x13 t11.2 _ _ _ hp (lv_sub hl [2, 3, 4, 1, 0] rfl) h
              · have h := it_n h c12
                refine lv_iconst (v := 1) hx hb dX7_leads_46 (by decide) ?_
                refine lv_goto (tgt := 51) hx hb dX7_leads_47 (by decide) ?_
                refine lv_istore_n (lv' := [(3, .int (1 : Int32)), (0, .ref (a 0)), (1, .int v1), (2, .int v2), (4, .int v4)]) hx hb dX7_leads_51 rfl hl (by decide) rfl (fun ls hl => ?_)
                obtain ⟨x14, ex14⟩ : ∃ z : Int32, z = v4 + (1 : Int32) := ⟨_, rfl⟩
                have h := nm_s h x14 ex14
                refine lv_iinc (v := x14) (lv' := [(4, .int x14), (3, .int (1 : Int32)), (0, .ref (a 0)), (1, .int v1), (2, .int v2)]) hx hb dX7_leads_52 hl (k := 4) rfl (by rw [ex14]; rfl) (by decide) rfl (fun ls hl => ?_)
                refine lv_goto (tgt := 5) hx hb dX7_leads_55 (by decide) ?_
                exact hk5 (1 : Int32) x14 t11.2 _ _ _ hp (lv_sub hl [2, 3, 4, 1, 0] rfl) h
  have J_58 : ∀ (v3 : Int32) (σ : St) (H : Heap) (locs : List Loc) (ls : Array Slot), Pw D (wM a cA) A s.heap H locs σ → lv_has ls 5 [(0, .ref (a 0)), (3, .int v3)] → X7_leads_58 v3 σ = some (r, σ') → W p l e R s m args below meth c H locs 0 0 Q (F0 m 58 ls []) := by
    intro v3 σ H locs ls hp hl h
    unfold X7_leads_58 at h
    refine lv_iload_n hx hb dX7_leads_58 rfl (lv_at hl 1 rfl) ?_
    obtain ⟨g1, h⟩ := gd_s h
    exact hR _ _ _ _ _ _ dX7_leads_59 hp (congrArg Prod.fst (Option.some.inj h)) (congrArg Prod.snd (Option.some.inj h)) (fun _ => g1)
  unfold X7_leads at h
  have hl := lv_sub (l' := [(0, .ref (a 0)), (1, .int v1), (2, .int v2)]) hl [0, 1, 2] rfl
  refine lv_iconst (v := 0) hx hb dX7_leads_0 (by decide) ?_
  refine lv_istore_n (lv' := [(3, .int (0 : Int32)), (0, .ref (a 0)), (1, .int v1), (2, .int v2)]) hx hb dX7_leads_1 rfl hl (by decide) rfl (fun ls hl => ?_)
  refine lv_iconst (v := 0) hx hb dX7_leads_2 (by decide) ?_
  refine lv_istore (lv' := [(4, .int (0 : Int32)), (3, .int (0 : Int32)), (0, .ref (a 0)), (1, .int v1), (2, .int v2)]) hx hb dX7_leads_3 hl (by decide) rfl (fun ls hl => ?_)
  exact J_5 v1 v2 _ (fun v3 σ H locs ls hp hl h => J_58 v3 σ _ _ _ hp hl h) _ (0 : Int32) (0 : Int32) σ _ _ _ hp (lv_sub hl [2, 3, 4, 1, 0] rfl) h
def X7_inductionNow_12b (N : Nat) (k12 : (Int32 → St → Option (Int32 × St))) (k47 : (Int32 → St → Option (Int32 × St))) (v1 : Int32) (v2 : Int32) (σ : St) : Option (Int32 × St) :=
  if (6 : Int32) < v2 then
    k47 v1 σ
  else
    gd (inb (v2 - (1 : Int32)) 7) (
    bd (X7_before N σ (σ.2.2.2 4 (v2 - (1 : Int32)).toNatClampNeg)) (fun t3 =>
    gd (inb v2 7) (
    nm (sb σ 4 v2.toNatClampNeg ((σ.2.1 1) &&& t3)) (fun (σ5 : St) =>
    nm (v2 + (1 : Int32)) (fun (x6 : Int32) =>
    k12 x6 σ5)))))
def X7_inductionNow_12 (N : Nat) (k47 : (Int32 → St → Option (Int32 × St))) (v1 : Int32) : Nat → Int32 → St → Option (Int32 × St)
  | 0, _, _ => none
  | n + 1, v2, σ => X7_inductionNow_12b N (fun v2 σ => X7_inductionNow_12 N k47 v1 n v2 σ) k47 v1 v2 σ
def X7_inductionNow_55b (N : Nat) (k55 : (Int64 → Int32 → St → Option (Int32 × St))) (k72 : (Int32 → St → Option (Int32 × St))) (k86 : (St → Option (Int32 × St))) (k100 : (St → Option (Int32 × St))) (v1 : Int32) (v2 : Int64) (v4 : Int32) (σ : St) : Option (Int32 × St) :=
  if (6 : Int32) < v4 then
    k100 σ
  else
    bd (X7_leads N v4 v1 σ) (fun t2 =>
    if t2.1 = 0 then
      k72 v4 t2.2
    else
      bd (X7_bad t2.2) (fun t4 =>
      if (v2 &&& t4) = (0 : Int64) then
        bd (X7_successors N t2.2 v2) (fun t6 =>
        nm (v4 + (1 : Int32)) (fun (x7 : Int32) =>
        k55 t6 x7 t2.2))
      else
        k86 t2.2))
def X7_inductionNow_55 (N : Nat) (k72 : (Int32 → St → Option (Int32 × St))) (k86 : (St → Option (Int32 × St))) (k100 : (St → Option (Int32 × St))) (v1 : Int32) : Nat → Int64 → Int32 → St → Option (Int32 × St)
  | 0, _, _, _ => none
  | n + 1, v2, v4, σ => X7_inductionNow_55b N (fun v2 v4 σ => X7_inductionNow_55 N k72 k86 k100 v1 n v2 v4 σ) k72 k86 k100 v1 v2 v4 σ
def X7_inductionNow_72 (v4 : Int32) (σ : St) : Option (Int32 × St) :=
  some (v4, σ)
def X7_inductionNow_100 (σ : St) : Option (Int32 × St) :=
  some ((-1 : Int32), σ)
def X7_inductionNow_86 (σ : St) : Option (Int32 × St) :=
  some ((-1 : Int32), σ)
def X7_inductionNow_47 (N : Nat) (v1 : Int32) (σ : St) : Option (Int32 × St) :=
  nm (σ.2.1 0) (fun (x1 : Int64) =>
  X7_inductionNow_55 N (fun v4 σ => X7_inductionNow_72 v4 σ) (fun σ => X7_inductionNow_86 σ) (fun σ => X7_inductionNow_100 σ) v1 N x1 (0 : Int32) σ)
def X7_inductionNow (N : Nat) (v1 : Int32) (σ : St) : Option (Int32 × St) :=
  bd (X7_bad σ) (fun t1 =>
  gd (inb (0 : Int32) 7) (
  nm (sb σ 4 (0 : Int32).toNatClampNeg t1) (fun (σ3 : St) =>
  X7_inductionNow_12 N (fun v1 σ => X7_inductionNow_47 N v1 σ) v1 N (1 : Int32) σ3)))
set_option maxRecDepth 20000 in
set_option maxHeartbeats 4000000 in
theorem c_X7_inductionNow {l : Launch} {D : va_G} {a : Nat → Nat} {cA : Nat → ClassId} {σ : St} {N : Nat} {v1 : Int32} {r : Int32} {σ' : St} (h : X7_inductionNow N v1 σ = some (r, σ')) : MetI l yX7_inductionNow cX7_inductionNow 5 (some .int) 4 D (tyW cA) (wM a cA) EM [.ref (a 0), .int v1] σ r σ' := by
  refine mkI (by decide) (adrM a cA) (Or.inl rfl) (Nat.le_of_ble_eq_true rfl) ?_
  intro p e R s m args below meth c A Q ls X hR hp hl
  obtain ⟨hx, hb, -, hown, hts, -⟩ := id X
  have J_12 : ∀ (v1 : Int32) (k47 : (Int32 → St → Option (Int32 × St))) (hk47 : ∀ (v1 : Int32) (σ : St) (H : Heap) (locs : List Loc) (ls : Array Slot), Pw D (wM a cA) A s.heap H locs σ → lv_has ls 5 [(0, .ref (a 0)), (1, .int v1)] → k47 v1 σ = some (r, σ') → W p l e R s m args below meth c H locs 0 0 Q (F0 m 47 ls [])) (n : Nat) (v2 : Int32) (σ : St) (H : Heap) (locs : List Loc) (ls : Array Slot), Pw D (wM a cA) A s.heap H locs σ → lv_has ls 5 [(0, .ref (a 0)), (1, .int v1), (2, .int v2)] → X7_inductionNow_12 N k47 v1 n v2 σ = some (r, σ') → W p l e R s m args below meth c H locs 0 0 Q (F0 m 12 ls []) := by
    intro v1 k47 hk47 n
    induction n with
    | zero => intro v2 σ H locs ls hp hl h; exact nn_s (show (none : Option (Int32 × St)) = some _ from h)
    | succ n ih =>
      intro v2 σ H locs ls hp hl h
      have h : X7_inductionNow_12b N (fun v2 σ => X7_inductionNow_12 N k47 v1 n v2 σ) k47 v1 v2 σ = some (r, σ') := h
      unfold X7_inductionNow_12b at h
      have hk12 := ih
      refine lv_iload_n hx hb dX7_inductionNow_12 rfl (lv_at hl 2 rfl) ?_
      refine lv_bipush (v := 6) hx hb dX7_inductionNow_13 (by decide) ?_
      refine lv_icmp_gt (tgt := 47) hx hb dX7_inductionNow_15 (by decide) (fun c1 => ?_) (fun c1 => ?_)
      · have h := it_p h c1
        exact hk47 v1 σ _ _ _ hp (lv_sub hl [0, 1] rfl) h
      · have h := it_n h c1
        refine lv_aload_n hx hb dX7_inductionNow_18 rfl (lv_at hl 0 rfl) ?_
        refine gM_X7_lead X hp tw_6_7 dX7_inductionNow_19 ?_
        refine lv_iload_n hx hb dX7_inductionNow_22 rfl (lv_at hl 2 rfl) ?_
        refine lv_aload_n hx hb dX7_inductionNow_23 rfl (lv_at hl 0 rfl) ?_
        refine gM_X7_good X hp tw_6_18 dX7_inductionNow_24 ?_
        refine lv_aload_n hx hb dX7_inductionNow_27 rfl (lv_at hl 0 rfl) ?_
        refine lv_aload_n hx hb dX7_inductionNow_28 rfl (lv_at hl 0 rfl) ?_
        refine gM_X7_lead X hp tw_6_7 dX7_inductionNow_29 ?_
        refine lv_iload_n hx hb dX7_inductionNow_32 rfl (lv_at hl 2 rfl) ?_
        refine lv_iconst (v := 1) hx hb dX7_inductionNow_33 (by decide) ?_
        refine lv_isub hx hb dX7_inductionNow_34 ?_
        obtain ⟨g2, h⟩ := gd_s h
        refine lM_X7_lead X hp g2 dX7_inductionNow_35 ?_
        obtain ⟨t3, ht3, h⟩ := bd_s h
        refine cl_Vl X eokM (c_X7_before ht3) tw_27_2 mw_X7_before (by decide) hp 0 rfl rfl rfl hl.1 rfl (Nat.le_of_ble_eq_true rfl) dX7_inductionNow_36 (fun H locs hp => ?_)
        refine lv_land hx hb dX7_inductionNow_39 ?_
        obtain ⟨g4, h⟩ := gd_s h
        refine sM_X7_lead X hp g4 dX7_inductionNow_40 (fun H locs σ5 eσ5 hp => ?_)
        have h := nm_s h σ5 eσ5
        obtain ⟨x6, ex6⟩ : ∃ z : Int32, z = v2 + (1 : Int32) := ⟨_, rfl⟩
        have h := nm_s h x6 ex6
        refine lv_iinc (v := x6) (lv' := [(2, .int x6), (0, .ref (a 0)), (1, .int v1)]) hx hb dX7_inductionNow_41 hl (k := 2) rfl (by rw [ex6]; rfl) (by decide) rfl (fun ls hl => ?_)
        refine lv_goto (tgt := 12) hx hb dX7_inductionNow_44 (by decide) ?_
        exact hk12 x6 σ5 _ _ _ hp (lv_sub hl [1, 2, 0] rfl) h
  have J_55 : ∀ (v1 : Int32) (k72 : (Int32 → St → Option (Int32 × St))) (hk72 : ∀ (v4 : Int32) (σ : St) (H : Heap) (locs : List Loc) (ls : Array Slot), Pw D (wM a cA) A s.heap H locs σ → lv_has ls 5 [(0, .ref (a 0)), (4, .int v4)] → k72 v4 σ = some (r, σ') → W p l e R s m args below meth c H locs 0 0 Q (F0 m 72 ls [])) (k86 : (St → Option (Int32 × St))) (hk86 : ∀ (σ : St) (H : Heap) (locs : List Loc) (ls : Array Slot), Pw D (wM a cA) A s.heap H locs σ → lv_has ls 5 [(0, .ref (a 0))] → k86 σ = some (r, σ') → W p l e R s m args below meth c H locs 0 0 Q (F0 m 86 ls [])) (k100 : (St → Option (Int32 × St))) (hk100 : ∀ (σ : St) (H : Heap) (locs : List Loc) (ls : Array Slot), Pw D (wM a cA) A s.heap H locs σ → lv_has ls 5 [(0, .ref (a 0))] → k100 σ = some (r, σ') → W p l e R s m args below meth c H locs 0 0 Q (F0 m 100 ls [])) (n : Nat) (v2 : Int64) (v4 : Int32) (σ : St) (H : Heap) (locs : List Loc) (ls : Array Slot), Pw D (wM a cA) A s.heap H locs σ → lv_has ls 5 [(0, .ref (a 0)), (1, .int v1), (2, .long v2), (4, .int v4)] → X7_inductionNow_55 N k72 k86 k100 v1 n v2 v4 σ = some (r, σ') → W p l e R s m args below meth c H locs 0 0 Q (F0 m 55 ls []) := by
    intro v1 k72 hk72 k86 hk86 k100 hk100 n
    induction n with
    | zero => intro v2 v4 σ H locs ls hp hl h; exact nn_s (show (none : Option (Int32 × St)) = some _ from h)
    | succ n ih =>
      intro v2 v4 σ H locs ls hp hl h
      have h : X7_inductionNow_55b N (fun v2 v4 σ => X7_inductionNow_55 N k72 k86 k100 v1 n v2 v4 σ) k72 k86 k100 v1 v2 v4 σ = some (r, σ') := h
      unfold X7_inductionNow_55b at h
      have hk55 := ih
      refine lv_iload hx hb dX7_inductionNow_55 (lv_at hl 3 rfl) ?_
      refine lv_bipush (v := 6) hx hb dX7_inductionNow_57 (by decide) ?_
      refine lv_icmp_gt (tgt := 100) hx hb dX7_inductionNow_59 (by decide) (fun c1 => ?_) (fun c1 => ?_)
      · have h := it_p h c1
        exact hk100 σ _ _ _ hp (lv_sub hl [0] rfl) h
      · have h := it_n h c1
        refine lv_aload_n hx hb dX7_inductionNow_62 rfl (lv_at hl 0 rfl) ?_
        refine lv_iload hx hb dX7_inductionNow_63 (lv_at hl 3 rfl) ?_
        refine lv_iload_n hx hb dX7_inductionNow_65 rfl (lv_at hl 1 rfl) ?_
        obtain ⟨t2, ht2, h⟩ := bd_s h
        refine cl_Vi X eokM (c_X7_leads ht2) tw_48_15 mw_X7_leads (by decide) hp 0 rfl rfl rfl hl.1 rfl (Nat.le_of_ble_eq_true rfl) dX7_inductionNow_66 (fun H locs hp => ?_)
        refine lv_if_ne (tgt := 75) hx hb dX7_inductionNow_69 (by decide) (fun c3 => ?_) (fun c3 => ?_)
        · have h := it_n h c3
          refine lv_lload_n hx hb dX7_inductionNow_75 rfl (lv_at hl 2 rfl) ?_
          refine lv_aload_n hx hb dX7_inductionNow_76 rfl (lv_at hl 0 rfl) ?_
          obtain ⟨t4, ht4, h⟩ := bd_s h
          refine cl_Vl X eokM (c_X7_bad ht4) tw_26_18 mw_X7_bad (by decide) hp 0 rfl rfl rfl hl.1 rfl (Nat.le_of_ble_eq_true rfl) dX7_inductionNow_77 (fun H locs hp => ?_)
          refine lv_land hx hb dX7_inductionNow_80 ?_
          refine lv_lconst (v := 0) hx hb dX7_inductionNow_81 (by decide) ?_
          refine W.lcmp hx hb dX7_inductionNow_82 ?_
          refine lv_if_eq (tgt := 88) hx hb dX7_inductionNow_83 (by decide) (fun c5 => ?_) (fun c5 => ?_)
          · have h := it_p h (lcmp0.mp c5)
            refine lv_aload_n hx hb dX7_inductionNow_88 rfl (lv_at hl 0 rfl) ?_
            refine lv_lload_n hx hb dX7_inductionNow_89 rfl (lv_at hl 2 rfl) ?_
            obtain ⟨t6, ht6, h⟩ := bd_s h
            refine cl_Vl X eokM (c_X7_successors ht6) tw_27_6 mw_X7_successors (by decide) hp 0 rfl rfl rfl hl.1 rfl (Nat.le_of_ble_eq_true rfl) dX7_inductionNow_90 (fun H locs hp => ?_)
            refine lv_lstore_n (lv' := [(2, .long t6), (0, .ref (a 0)), (1, .int v1), (4, .int v4)]) hx hb dX7_inductionNow_93 rfl hl (by decide) rfl (fun ls hl => ?_)
            obtain ⟨x7, ex7⟩ : ∃ z : Int32, z = v4 + (1 : Int32) := ⟨_, rfl⟩
            have h := nm_s h x7 ex7
            refine lv_iinc (v := x7) (lv' := [(4, .int x7), (2, .long t6), (0, .ref (a 0)), (1, .int v1)]) hx hb dX7_inductionNow_94 hl (k := 3) rfl (by rw [ex7]; rfl) (by decide) rfl (fun ls hl => ?_)
            refine lv_goto (tgt := 55) hx hb dX7_inductionNow_97 (by decide) ?_
            exact hk55 t6 x7 t2.2 _ _ _ hp (lv_sub hl [2, 3, 1, 0] rfl) h
          · have h := it_n h (fun q => c5 (lcmp0.mpr q))
            exact hk86 t2.2 _ _ _ hp (lv_sub hl [0] rfl) h
        · have h := it_p h c3
          exact hk72 v4 t2.2 _ _ _ hp (lv_sub hl [0, 3] rfl) h
  have J_72 : ∀ (v4 : Int32) (σ : St) (H : Heap) (locs : List Loc) (ls : Array Slot), Pw D (wM a cA) A s.heap H locs σ → lv_has ls 5 [(0, .ref (a 0)), (4, .int v4)] → X7_inductionNow_72 v4 σ = some (r, σ') → W p l e R s m args below meth c H locs 0 0 Q (F0 m 72 ls []) := by
    intro v4 σ H locs ls hp hl h
    unfold X7_inductionNow_72 at h
    refine lv_iload hx hb dX7_inductionNow_72 (lv_at hl 1 rfl) ?_
    exact hR _ _ _ _ _ _ dX7_inductionNow_74 hp (congrArg Prod.fst (Option.some.inj h)) (congrArg Prod.snd (Option.some.inj h)) (fun q => by cases q)
  have J_100 : ∀  (σ : St) (H : Heap) (locs : List Loc) (ls : Array Slot), Pw D (wM a cA) A s.heap H locs σ → lv_has ls 5 [(0, .ref (a 0))] → X7_inductionNow_100 σ = some (r, σ') → W p l e R s m args below meth c H locs 0 0 Q (F0 m 100 ls []) := by
    intro σ H locs ls hp hl h
    unfold X7_inductionNow_100 at h
    refine lv_iconst (v := -1) hx hb dX7_inductionNow_100 (by decide) ?_
    exact hR _ _ _ _ _ _ dX7_inductionNow_101 hp (congrArg Prod.fst (Option.some.inj h)) (congrArg Prod.snd (Option.some.inj h)) (fun q => by cases q)
  have J_86 : ∀  (σ : St) (H : Heap) (locs : List Loc) (ls : Array Slot), Pw D (wM a cA) A s.heap H locs σ → lv_has ls 5 [(0, .ref (a 0))] → X7_inductionNow_86 σ = some (r, σ') → W p l e R s m args below meth c H locs 0 0 Q (F0 m 86 ls []) := by
    intro σ H locs ls hp hl h
    unfold X7_inductionNow_86 at h
    refine lv_iconst (v := -1) hx hb dX7_inductionNow_86 (by decide) ?_
    exact hR _ _ _ _ _ _ dX7_inductionNow_87 hp (congrArg Prod.fst (Option.some.inj h)) (congrArg Prod.snd (Option.some.inj h)) (fun q => by cases q)
  have J_47 : ∀ (v1 : Int32) (σ : St) (H : Heap) (locs : List Loc) (ls : Array Slot), Pw D (wM a cA) A s.heap H locs σ → lv_has ls 5 [(0, .ref (a 0)), (1, .int v1)] → X7_inductionNow_47 N v1 σ = some (r, σ') → W p l e R s m args below meth c H locs 0 0 Q (F0 m 47 ls []) := by
    intro v1 σ H locs ls hp hl h
    unfold X7_inductionNow_47 at h
    refine lv_aload_n hx hb dX7_inductionNow_47 rfl (lv_at hl 0 rfl) ?_
    refine gM_X7_init X hp tw_6_17 dX7_inductionNow_48 ?_
    refine lv_topl (fun x1 ex1 => ?_)
    have h := nm_s h x1 ex1
    refine lv_lstore_n (lv' := [(2, .long x1), (0, .ref (a 0)), (1, .int v1)]) hx hb dX7_inductionNow_51 rfl hl (by decide) rfl (fun ls hl => ?_)
    refine lv_iconst (v := 0) hx hb dX7_inductionNow_52 (by decide) ?_
    refine lv_istore (lv' := [(4, .int (0 : Int32)), (2, .long x1), (0, .ref (a 0)), (1, .int v1)]) hx hb dX7_inductionNow_53 hl (by decide) rfl (fun ls hl => ?_)
    exact J_55 v1 _ (fun v4 σ H locs ls hp hl h => J_72 v4 σ _ _ _ hp hl h) _ (fun σ H locs ls hp hl h => J_86 σ _ _ _ hp hl h) _ (fun σ H locs ls hp hl h => J_100 σ _ _ _ hp hl h) _ x1 (0 : Int32) σ _ _ _ hp (lv_sub hl [2, 3, 1, 0] rfl) h
  unfold X7_inductionNow at h
  have hl := lv_sub (l' := [(0, .ref (a 0)), (1, .int v1)]) hl [0, 1] rfl
  refine lv_aload_n hx hb dX7_inductionNow_0 rfl (lv_at hl 0 rfl) ?_
  refine gM_X7_lead X hp tw_6_7 dX7_inductionNow_1 ?_
  refine lv_iconst (v := 0) hx hb dX7_inductionNow_4 (by decide) ?_
  refine lv_aload_n hx hb dX7_inductionNow_5 rfl (lv_at hl 0 rfl) ?_
  obtain ⟨t1, ht1, h⟩ := bd_s h
  refine cl_Vl X eokM (c_X7_bad ht1) tw_26_18 mw_X7_bad (by decide) hp 0 rfl rfl rfl hl.1 rfl (Nat.le_of_ble_eq_true rfl) dX7_inductionNow_6 (fun H locs hp => ?_)
  obtain ⟨g2, h⟩ := gd_s h
  refine sM_X7_lead X hp g2 dX7_inductionNow_9 (fun H locs σ3 eσ3 hp => ?_)
  have h := nm_s h σ3 eσ3
  refine lv_iconst (v := 1) hx hb dX7_inductionNow_10 (by decide) ?_
  refine lv_istore_n (lv' := [(2, .int (1 : Int32)), (0, .ref (a 0)), (1, .int v1)]) hx hb dX7_inductionNow_11 rfl hl (by decide) rfl (fun ls hl => ?_)
  exact J_12 v1 _ (fun v1 σ H locs ls hp hl h => J_47 v1 σ _ _ _ hp hl h) _ (1 : Int32) σ3 _ _ _ hp (lv_sub hl [1, 2, 0] rfl) h
def X7_induction (N : Nat) (v1 : Int32) (σ : St) : Option (Int32 × St) :=
  nm (si σ 0 (0 : Int32)) (fun (σ1 : St) =>
  bd (X7_inductionNow N v1 σ1) (fun t2 =>
  some (t2.1, t2.2)))
set_option maxRecDepth 20000 in
set_option maxHeartbeats 4000000 in
theorem c_X7_induction {l : Launch} {D : va_G} {a : Nat → Nat} {cA : Nat → ClassId} {σ : St} {N : Nat} {v1 : Int32} {r : Int32} {σ' : St} (h : X7_induction N v1 σ = some (r, σ')) : MetI l yX7_induction cX7_induction 2 (some .int) 5 D (tyW cA) (wM a cA) EM [.ref (a 0), .int v1] σ r σ' := by
  refine mkI (by decide) (adrM a cA) (Or.inl rfl) (Nat.le_of_ble_eq_true rfl) ?_
  intro p e R s m args below meth c A Q ls X hR hp hl
  obtain ⟨hx, hb, -, hown, hts, -⟩ := id X
  unfold X7_induction at h
  have hl := lv_sub (l' := [(0, .ref (a 0)), (1, .int v1)]) hl [0, 1] rfl
  refine lv_aload_n hx hb dX7_induction_0 rfl (lv_at hl 0 rfl) ?_
  refine lv_iconst (v := 0) hx hb dX7_induction_1 (by decide) ?_
  refine pM_X7_thrown X hp tw_8_9 dX7_induction_2 (fun H locs σ1 eσ1 hp => ?_)
  have h := nm_s h σ1 eσ1
  refine lv_aload_n hx hb dX7_induction_5 rfl (lv_at hl 0 rfl) ?_
  refine lv_iload_n hx hb dX7_induction_6 rfl (lv_at hl 1 rfl) ?_
  obtain ⟨t2, ht2, h⟩ := bd_s h
  refine cl_Vi X eokM (c_X7_inductionNow ht2) tw_48_11 mw_X7_inductionNow (by decide) hp 0 rfl rfl rfl hl.1 rfl (Nat.le_of_ble_eq_true rfl) dX7_induction_7 (fun H locs hp => ?_)
  exact hR _ _ _ _ _ _ dX7_induction_10 hp (congrArg Prod.fst (Option.some.inj h)) (congrArg Prod.snd (Option.some.inj h)) (fun q => by cases q)
def X7_ones_4b (k4 : (Int32 → Int32 → Option (Int32))) (k24 : (Int32 → Option (Int32))) (v0 : Int32) (v1 : Int32) (v2 : Int32) : Option (Int32) :=
  if (6 : Int32) ≤ v2 then
    k24 v1
  else
    nm (v1 + ((v0 >>> (v2 &&& 31)) &&& (1 : Int32))) (fun (x2 : Int32) =>
    nm (v2 + (1 : Int32)) (fun (x3 : Int32) =>
    k4 x2 x3))
def X7_ones_4 (k24 : (Int32 → Option (Int32))) (v0 : Int32) : Nat → Int32 → Int32 → Option (Int32)
  | 0, _, _ => none
  | n + 1, v1, v2 => X7_ones_4b (fun v1 v2 => X7_ones_4 k24 v0 n v1 v2) k24 v0 v1 v2
def X7_ones_24 (v1 : Int32) : Option (Int32) :=
  some v1
def X7_ones (N : Nat) (v0 : Int32) : Option (Int32) :=
  X7_ones_4 (fun v1 => X7_ones_24 v1) v0 N (0 : Int32) (0 : Int32)
set_option maxRecDepth 20000 in
set_option maxHeartbeats 4000000 in
theorem c_X7_ones {l : Launch} {D : va_G} {tys : List (ClassId × FieldType)} {w : St → va_W} {E : (Nat → Prop) → State → Prop} (hw : Adr w) (hE : EOK E) {σ : St} {N : Nat} {v0 : Int32} {r : Int32} (h : X7_ones N v0 = some r) : MetI l yX7_ones cX7_ones 3 (some .int) 0 D tys w E [.int v0] σ r σ := by
  refine mkI (by decide) hw (Or.inl rfl) (Nat.le_of_ble_eq_true rfl) ?_
  intro p e R s m args below meth c A Q ls X hR hp hl
  obtain ⟨hx, hb, -, hown, hts, -⟩ := id X
  have J_4 : ∀ (v0 : Int32) (k24 : (Int32 → Option (Int32))) (hk24 : ∀ (v1 : Int32) (H : Heap) (locs : List Loc) (ls : Array Slot), Pw D w A s.heap H locs σ → lv_has ls 3 [(1, .int v1)] → k24 v1 = some r → W p l e R s m args below meth c H locs 0 0 Q (F0 m 24 ls [])) (n : Nat) (v1 : Int32) (v2 : Int32) (H : Heap) (locs : List Loc) (ls : Array Slot), Pw D w A s.heap H locs σ → lv_has ls 3 [(0, .int v0), (1, .int v1), (2, .int v2)] → X7_ones_4 k24 v0 n v1 v2 = some r → W p l e R s m args below meth c H locs 0 0 Q (F0 m 4 ls []) := by
    intro v0 k24 hk24 n
    induction n with
    | zero => intro v1 v2 H locs ls hp hl h; exact nn_s (show (none : Option (Int32)) = some _ from h)
    | succ n ih =>
      intro v1 v2 H locs ls hp hl h
      have h : X7_ones_4b (fun v1 v2 => X7_ones_4 k24 v0 n v1 v2) k24 v0 v1 v2 = some r := h
      unfold X7_ones_4b at h
      have hk4 := ih
      refine lv_iload_n hx hb dX7_ones_4 rfl (lv_at hl 2 rfl) ?_
      refine lv_bipush (v := 6) hx hb dX7_ones_5 (by decide) ?_
      refine lv_icmp_ge (tgt := 24) hx hb dX7_ones_7 (by decide) (fun c1 => ?_) (fun c1 => ?_)
      · have h := it_p h c1
        exact hk24 v1 _ _ _ hp (lv_sub hl [1] rfl) h
      · have h := it_n h c1
        refine lv_iload_n hx hb dX7_ones_10 rfl (lv_at hl 1 rfl) ?_
        refine lv_iload_n hx hb dX7_ones_11 rfl (lv_at hl 0 rfl) ?_
        refine lv_iload_n hx hb dX7_ones_12 rfl (lv_at hl 2 rfl) ?_
        refine lv_ishr hx hb dX7_ones_13 ?_
        refine lv_iconst (v := 1) hx hb dX7_ones_14 (by decide) ?_
        refine lv_iand hx hb dX7_ones_15 ?_
        refine lv_iadd hx hb dX7_ones_16 ?_
        refine lv_topi (fun x2 ex2 => ?_)
        have h := nm_s h x2 ex2
        refine lv_istore_n (lv' := [(1, .int x2), (0, .int v0), (2, .int v2)]) hx hb dX7_ones_17 rfl hl (by decide) rfl (fun ls hl => ?_)
        obtain ⟨x3, ex3⟩ : ∃ z : Int32, z = v2 + (1 : Int32) := ⟨_, rfl⟩
        have h := nm_s h x3 ex3
        refine lv_iinc (v := x3) (lv' := [(2, .int x3), (1, .int x2), (0, .int v0)]) hx hb dX7_ones_18 hl (k := 2) rfl (by rw [ex3]; rfl) (by decide) rfl (fun ls hl => ?_)
        refine lv_goto (tgt := 4) hx hb dX7_ones_21 (by decide) ?_
        exact hk4 x2 x3 _ _ _ hp (lv_sub hl [2, 1, 0] rfl) h
  have J_24 : ∀ (v1 : Int32) (H : Heap) (locs : List Loc) (ls : Array Slot), Pw D w A s.heap H locs σ → lv_has ls 3 [(1, .int v1)] → X7_ones_24 v1 = some r → W p l e R s m args below meth c H locs 0 0 Q (F0 m 24 ls []) := by
    intro v1 H locs ls hp hl h
    unfold X7_ones_24 at h
    refine lv_iload_n hx hb dX7_ones_24 rfl (lv_at hl 0 rfl) ?_
    exact hR _ _ _ _ _ _ dX7_ones_25 hp (Option.some.inj h) rfl (fun q => by cases q)
  unfold X7_ones at h
  have hl := lv_sub (l' := [(0, .int v0)]) hl [0] rfl
  refine lv_iconst (v := 0) hx hb dX7_ones_0 (by decide) ?_
  refine lv_istore_n (lv' := [(1, .int (0 : Int32)), (0, .int v0)]) hx hb dX7_ones_1 rfl hl (by decide) rfl (fun ls hl => ?_)
  refine lv_iconst (v := 0) hx hb dX7_ones_2 (by decide) ?_
  refine lv_istore_n (lv' := [(2, .int (0 : Int32)), (1, .int (0 : Int32)), (0, .int v0)]) hx hb dX7_ones_3 rfl hl (by decide) rfl (fun ls hl => ?_)
  exact J_4 v0 _ (fun v1 H locs ls hp hl h => J_24 v1 _ _ _ hp hl h) _ (0 : Int32) (0 : Int32) _ _ _ hp (lv_sub hl [2, 1, 0] rfl) h
def X7_isLeft (N : Nat) (σ : St) (v1 : Int32) (v2 : Int32) (v3 : Int32) : Option (Int32) :=
  bd (X7_ones N v1) (fun t1 =>
  bd (X7_within t1 (1 : Int32) v3) (fun t2 =>
  if t2 = 0 then
    some (0 : Int32)
  else
    if (v2 &&& (v1 ^^^ (-1 : Int32))) = 0 then
      gd (inb (((64 : Int32) * v1) + v2) 4096) (
      if (σ.2.2.1 12 (((64 : Int32) * v1) + v2).toNatClampNeg) = 0 then
        some (1 : Int32)
      else
        some (0 : Int32))
    else
      some (0 : Int32)))
set_option maxRecDepth 20000 in
set_option maxHeartbeats 4000000 in
theorem c_X7_isLeft {l : Launch} {D : va_G} {a : Nat → Nat} {cA : Nat → ClassId} {σ : St} {N : Nat} {v1 : Int32} {v2 : Int32} {v3 : Int32} {r : Int32} (h : X7_isLeft N σ v1 v2 v3 = some r) : MetI l yX7_isLeft cX7_isLeft 4 (some .boolean) 1 D (tyW cA) (wM a cA) EM [.ref (a 0), .int v1, .int v2, .int v3] σ r σ := by
  refine mkI (by decide) (adrM a cA) (Or.inr rfl) (Nat.le_of_ble_eq_true rfl) ?_
  intro p e R s m args below meth c A Q ls X hR hp hl
  obtain ⟨hx, hb, -, hown, hts, -⟩ := id X
  unfold X7_isLeft at h
  have hl := lv_sub (l' := [(0, .ref (a 0)), (1, .int v1), (2, .int v2), (3, .int v3)]) hl [0, 1, 2, 3] rfl
  refine lv_iload_n hx hb dX7_isLeft_0 rfl (lv_at hl 1 rfl) ?_
  obtain ⟨t1, ht1, h⟩ := bd_s h
  refine cl_Si X eokM (c_X7_ones (adrM a cA) eokM ht1) tw_51_10 mw_X7_ones (by decide) hp hl.1 rfl (Nat.le_of_ble_eq_true rfl) dX7_isLeft_1 (fun H locs hp => ?_)
  refine lv_iconst (v := 1) hx hb dX7_isLeft_4 (by decide) ?_
  refine lv_iload_n hx hb dX7_isLeft_5 rfl (lv_at hl 3 rfl) ?_
  obtain ⟨t2, ht2, h⟩ := bd_s h
  refine cl_Si X eokM (c_X7_within (adrM a cA) eokM ht2) tw_8_10 mw_X7_within (by decide) hp hl.1 rfl (Nat.le_of_ble_eq_true rfl) dX7_isLeft_6 (fun H locs hp => ?_)
  refine lv_if_eq (tgt := 38) hx hb dX7_isLeft_9 (by decide) (fun c3 => ?_) (fun c3 => ?_)
  · have h := it_p h c3
    refine lv_iconst (v := 0) hx hb dX7_isLeft_38 (by decide) ?_
    exact hR _ _ _ _ _ _ dX7_isLeft_39 hp (Option.some.inj h) rfl (fun _ => Or.inl rfl)
  · have h := it_n h c3
    refine lv_iload_n hx hb dX7_isLeft_12 rfl (lv_at hl 2 rfl) ?_
    refine lv_iload_n hx hb dX7_isLeft_13 rfl (lv_at hl 1 rfl) ?_
    refine lv_iconst (v := -1) hx hb dX7_isLeft_14 (by decide) ?_
    refine lv_ixor hx hb dX7_isLeft_15 ?_
    refine lv_iand hx hb dX7_isLeft_16 ?_
    refine lv_if_ne (tgt := 38) hx hb dX7_isLeft_17 (by decide) (fun c4 => ?_) (fun c4 => ?_)
    · have h := it_n h c4
      refine lv_iconst (v := 0) hx hb dX7_isLeft_38 (by decide) ?_
      exact hR _ _ _ _ _ _ dX7_isLeft_39 hp (Option.some.inj h) rfl (fun _ => Or.inl rfl)
    · have h := it_p h c4
      refine lv_aload_n hx hb dX7_isLeft_20 rfl (lv_at hl 0 rfl) ?_
      refine gM_X7_isGone X hp tw_6_10 dX7_isLeft_21 ?_
      refine lv_bipush (v := 64) hx hb dX7_isLeft_24 (by decide) ?_
      refine lv_iload_n hx hb dX7_isLeft_26 rfl (lv_at hl 1 rfl) ?_
      refine lv_imul hx hb dX7_isLeft_27 ?_
      refine lv_iload_n hx hb dX7_isLeft_28 rfl (lv_at hl 2 rfl) ?_
      refine lv_iadd hx hb dX7_isLeft_29 ?_
      obtain ⟨g5, h⟩ := gd_s h
      refine lM_X7_isGone X hp g5 dX7_isLeft_30 ?_
      refine lv_if_ne (tgt := 38) hx hb dX7_isLeft_31 (by decide) (fun c6 => ?_) (fun c6 => ?_)
      · have h := it_n h c6
        refine lv_iconst (v := 0) hx hb dX7_isLeft_38 (by decide) ?_
        exact hR _ _ _ _ _ _ dX7_isLeft_39 hp (Option.some.inj h) rfl (fun _ => Or.inl rfl)
      · have h := it_p h c6
        refine lv_iconst (v := 1) hx hb dX7_isLeft_34 (by decide) ?_
        refine lv_goto (tgt := 39) hx hb dX7_isLeft_35 (by decide) ?_
        exact hR _ _ _ _ _ _ dX7_isLeft_39 hp (Option.some.inj h) rfl (fun _ => Or.inr rfl)
def X7_outside_8b (N : Nat) (k8 : (Int64 → Int32 → Option (Int64))) (k71 : (Int64 → Option (Int64))) (σ : St) (v1 : Int32) (v2 : Int64) (v4 : Int32) : Option (Int64) :=
  bd (X7_states σ) (fun t1 =>
  if ((64 : Int32) * t1) ≤ v4 then
    k71 v2
  else
    bd (X7_isLeft N σ (v4 / (64 : Int32)) (v4 - v4 / (64 : Int32) * (64 : Int32)) v1) (fun t3 =>
    if t3 = 0 then
      nm (v2 &&& (-1 : Int64)) (fun (x5 : Int64) =>
      nm (v4 + (1 : Int32)) (fun (x6 : Int32) =>
      k8 x5 x6))
    else
      bd (X7_cubeSet N σ (v4 / (64 : Int32)) (v4 - v4 / (64 : Int32) * (64 : Int32))) (fun t7 =>
      nm (v2 &&& (t7 ^^^ (-1 : Int64))) (fun (x8 : Int64) =>
      nm (v4 + (1 : Int32)) (fun (x9 : Int32) =>
      k8 x8 x9)))))
def X7_outside_8 (N : Nat) (k71 : (Int64 → Option (Int64))) (σ : St) (v1 : Int32) : Nat → Int64 → Int32 → Option (Int64)
  | 0, _, _ => none
  | n + 1, v2, v4 => X7_outside_8b N (fun v2 v4 => X7_outside_8 N k71 σ v1 n v2 v4) k71 σ v1 v2 v4
def X7_outside_71 (σ : St) (v2 : Int64) : Option (Int64) :=
  some v2
def X7_outside (N : Nat) (σ : St) (v1 : Int32) : Option (Int64) :=
  bd (X7_all σ) (fun t1 =>
  X7_outside_8 N (fun v2 => X7_outside_71 σ v2) σ v1 N t1 (0 : Int32))
set_option maxRecDepth 20000 in
set_option maxHeartbeats 4000000 in
theorem c_X7_outside {l : Launch} {D : va_G} {a : Nat → Nat} {cA : Nat → ClassId} {σ : St} {N : Nat} {v1 : Int32} {r : Int64} (h : X7_outside N σ v1 = some r) : MetL l yX7_outside cX7_outside 5 (some .long) 2 D (tyW cA) (wM a cA) EM [.ref (a 0), .int v1] σ r σ := by
  refine mkL (by decide) (adrM a cA) rfl (Nat.le_of_ble_eq_true rfl) ?_
  intro p e R s m args below meth c A Q ls X hR hp hl
  obtain ⟨hx, hb, -, hown, hts, -⟩ := id X
  have J_8 : ∀ (v1 : Int32) (k71 : (Int64 → Option (Int64))) (hk71 : ∀ (v2 : Int64) (H : Heap) (locs : List Loc) (ls : Array Slot), Pw D (wM a cA) A s.heap H locs σ → lv_has ls 5 [(0, .ref (a 0)), (2, .long v2)] → k71 v2 = some r → W p l e R s m args below meth c H locs 0 0 Q (F0 m 71 ls [])) (n : Nat) (v2 : Int64) (v4 : Int32) (H : Heap) (locs : List Loc) (ls : Array Slot), Pw D (wM a cA) A s.heap H locs σ → lv_has ls 5 [(0, .ref (a 0)), (1, .int v1), (2, .long v2), (4, .int v4)] → X7_outside_8 N k71 σ v1 n v2 v4 = some r → W p l e R s m args below meth c H locs 0 0 Q (F0 m 8 ls []) := by
    intro v1 k71 hk71 n
    induction n with
    | zero => intro v2 v4 H locs ls hp hl h; exact nn_s (show (none : Option (Int64)) = some _ from h)
    | succ n ih =>
      intro v2 v4 H locs ls hp hl h
      have h : X7_outside_8b N (fun v2 v4 => X7_outside_8 N k71 σ v1 n v2 v4) k71 σ v1 v2 v4 = some r := h
      unfold X7_outside_8b at h
      have hk8 := ih
      refine lv_iload hx hb dX7_outside_8 (lv_at hl 3 rfl) ?_
      refine lv_bipush (v := 64) hx hb dX7_outside_10 (by decide) ?_
      refine lv_aload_n hx hb dX7_outside_12 rfl (lv_at hl 0 rfl) ?_
      obtain ⟨t1, ht1, h⟩ := bd_s h
      refine cl_Vi X eokM (c_X7_states ht1) tw_7_1 mw_X7_states (by decide) hp 0 rfl rfl rfl hl.1 rfl (Nat.le_of_ble_eq_true rfl) dX7_outside_13 (fun H locs hp => ?_)
      refine lv_imul hx hb dX7_outside_16 ?_
      refine lv_icmp_ge (tgt := 71) hx hb dX7_outside_17 (by decide) (fun c2 => ?_) (fun c2 => ?_)
      · have h := it_p h c2
        exact hk71 v2 _ _ _ hp (lv_sub hl [0, 2] rfl) h
      · have h := it_n h c2
        refine lv_lload_n hx hb dX7_outside_20 rfl (lv_at hl 2 rfl) ?_
        refine lv_aload_n hx hb dX7_outside_21 rfl (lv_at hl 0 rfl) ?_
        refine lv_iload hx hb dX7_outside_22 (lv_at hl 3 rfl) ?_
        refine lv_bipush (v := 64) hx hb dX7_outside_24 (by decide) ?_
        refine lv_idiv hx hb dX7_outside_26 (by decide) ?_
        refine lv_iload hx hb dX7_outside_27 (lv_at hl 3 rfl) ?_
        refine lv_bipush (v := 64) hx hb dX7_outside_29 (by decide) ?_
        refine lv_irem hx hb dX7_outside_31 (by decide) ?_
        refine lv_iload_n hx hb dX7_outside_32 rfl (lv_at hl 1 rfl) ?_
        obtain ⟨t3, ht3, h⟩ := bd_s h
        refine cl_Vi X eokM (c_X7_isLeft ht3) tw_51_6 mw_X7_isLeft (by decide) hp 0 rfl rfl rfl hl.1 rfl (Nat.le_of_ble_eq_true rfl) dX7_outside_33 (fun H locs hp => ?_)
        refine lv_if_eq (tgt := 60) hx hb dX7_outside_36 (by decide) (fun c4 => ?_) (fun c4 => ?_)
        · have h := it_p h c4
          refine lv_ldc2 hx hb hown (hts _ tw_7_9) dX7_outside_60 ?_
          refine lv_land hx hb dX7_outside_63 ?_
          refine lv_topl (fun x5 ex5 => ?_)
          have h := nm_s h x5 ex5
          refine lv_lstore_n (lv' := [(2, .long x5), (0, .ref (a 0)), (1, .int v1), (4, .int v4)]) hx hb dX7_outside_64 rfl hl (by decide) rfl (fun ls hl => ?_)
          obtain ⟨x6, ex6⟩ : ∃ z : Int32, z = v4 + (1 : Int32) := ⟨_, rfl⟩
          have h := nm_s h x6 ex6
          refine lv_iinc (v := x6) (lv' := [(4, .int x6), (2, .long x5), (0, .ref (a 0)), (1, .int v1)]) hx hb dX7_outside_65 hl (k := 3) rfl (by rw [ex6]; rfl) (by decide) rfl (fun ls hl => ?_)
          refine lv_goto (tgt := 8) hx hb dX7_outside_68 (by decide) ?_
          exact hk8 x5 x6 _ _ _ hp (lv_sub hl [2, 3, 1, 0] rfl) h
        · have h := it_n h c4
          refine lv_aload_n hx hb dX7_outside_39 rfl (lv_at hl 0 rfl) ?_
          refine lv_iload hx hb dX7_outside_40 (lv_at hl 3 rfl) ?_
          refine lv_bipush (v := 64) hx hb dX7_outside_42 (by decide) ?_
          refine lv_idiv hx hb dX7_outside_44 (by decide) ?_
          refine lv_iload hx hb dX7_outside_45 (lv_at hl 3 rfl) ?_
          refine lv_bipush (v := 64) hx hb dX7_outside_47 (by decide) ?_
          refine lv_irem hx hb dX7_outside_49 (by decide) ?_
          obtain ⟨t7, ht7, h⟩ := bd_s h
          refine cl_Vl X eokM (c_X7_cubeSet ht7) tw_40_11 mw_X7_cubeSet (by decide) hp 0 rfl rfl rfl hl.1 rfl (Nat.le_of_ble_eq_true rfl) dX7_outside_50 (fun H locs hp => ?_)
          refine lv_ldc2 hx hb hown (hts _ tw_7_9) dX7_outside_53 ?_
          refine lv_lxor hx hb dX7_outside_56 ?_
          refine lv_goto (tgt := 63) hx hb dX7_outside_57 (by decide) ?_
          refine lv_land hx hb dX7_outside_63 ?_
          refine lv_topl (fun x8 ex8 => ?_)
          have h := nm_s h x8 ex8
          refine lv_lstore_n (lv' := [(2, .long x8), (0, .ref (a 0)), (1, .int v1), (4, .int v4)]) hx hb dX7_outside_64 rfl hl (by decide) rfl (fun ls hl => ?_)
          obtain ⟨x9, ex9⟩ : ∃ z : Int32, z = v4 + (1 : Int32) := ⟨_, rfl⟩
          have h := nm_s h x9 ex9
          refine lv_iinc (v := x9) (lv' := [(4, .int x9), (2, .long x8), (0, .ref (a 0)), (1, .int v1)]) hx hb dX7_outside_65 hl (k := 3) rfl (by rw [ex9]; rfl) (by decide) rfl (fun ls hl => ?_)
          refine lv_goto (tgt := 8) hx hb dX7_outside_68 (by decide) ?_
          exact hk8 x8 x9 _ _ _ hp (lv_sub hl [2, 3, 1, 0] rfl) h
  have J_71 : ∀ (v2 : Int64) (H : Heap) (locs : List Loc) (ls : Array Slot), Pw D (wM a cA) A s.heap H locs σ → lv_has ls 5 [(0, .ref (a 0)), (2, .long v2)] → X7_outside_71 σ v2 = some r → W p l e R s m args below meth c H locs 0 0 Q (F0 m 71 ls []) := by
    intro v2 H locs ls hp hl h
    unfold X7_outside_71 at h
    refine lv_lload_n hx hb dX7_outside_71 rfl (lv_at hl 1 rfl) ?_
    exact hR _ _ _ _ _ _ dX7_outside_72 hp (Option.some.inj h) rfl
  unfold X7_outside at h
  have hl := lv_sub (l' := [(0, .ref (a 0)), (1, .int v1)]) hl [0, 1] rfl
  refine lv_aload_n hx hb dX7_outside_0 rfl (lv_at hl 0 rfl) ?_
  obtain ⟨t1, ht1, h⟩ := bd_s h
  refine cl_Vl X eokM (c_X7_all ht1) tw_7_5 mw_X7_all (by decide) hp 0 rfl rfl rfl hl.1 rfl (Nat.le_of_ble_eq_true rfl) dX7_outside_1 (fun H locs hp => ?_)
  refine lv_lstore_n (lv' := [(2, .long t1), (0, .ref (a 0)), (1, .int v1)]) hx hb dX7_outside_4 rfl hl (by decide) rfl (fun ls hl => ?_)
  refine lv_iconst (v := 0) hx hb dX7_outside_5 (by decide) ?_
  refine lv_istore (lv' := [(4, .int (0 : Int32)), (2, .long t1), (0, .ref (a 0)), (1, .int v1)]) hx hb dX7_outside_6 hl (by decide) rfl (fun ls hl => ?_)
  exact J_8 v1 _ (fun v2 H locs ls hp hl h => J_71 v2 _ _ _ hp hl h) _ t1 (0 : Int32) _ _ _ hp (lv_sub hl [2, 3, 1, 0] rfl) h
def X7_discards_90 (k6 : (Int32 → Int32 → St → Option (Int32 × St))) (v1 : Int32) (v2 : Int64) (v4 : Int32) (v5 : Int32) (v6 : Int32) (u0 : Int32) (u1 : Int32) (σ : St) : Option (Int32 × St) :=
  gd (inb u1 4096) (
  gd (isb u0) (
  nm (sa σ 12 u1.toNatClampNeg u0) (fun (σ2 : St) =>
  if v4 = 0 then
    if v6 = 0 then
      nm (v5 + (1 : Int32)) (fun (x7 : Int32) =>
      k6 (0 : Int32) x7 σ2)
    else
      nm (v5 + (1 : Int32)) (fun (x8 : Int32) =>
      k6 (1 : Int32) x8 σ2)
  else
    nm (v5 + (1 : Int32)) (fun (x5 : Int32) =>
    k6 (1 : Int32) x5 σ2))))
def X7_discards_62 (k6 : (Int32 → Int32 → St → Option (Int32 × St))) (v1 : Int32) (v2 : Int64) (v4 : Int32) (v5 : Int32) (u0 : Int32) (σ : St) : Option (Int32 × St) :=
  gd (inb v5 4096) (
  if (σ.2.2.1 12 v5.toNatClampNeg) = 0 then
    if u0 = 0 then
      X7_discards_90 k6 v1 v2 v4 v5 u0 (0 : Int32) v5 σ
    else
      X7_discards_90 k6 v1 v2 v4 v5 u0 (1 : Int32) v5 σ
  else
    X7_discards_90 k6 v1 v2 v4 v5 u0 (1 : Int32) v5 σ)
def X7_discards_6b (N : Nat) (k6 : (Int32 → Int32 → St → Option (Int32 × St))) (k114 : (Int32 → St → Option (Int32 × St))) (v1 : Int32) (v2 : Int64) (v4 : Int32) (v5 : Int32) (σ : St) : Option (Int32 × St) :=
  bd (X7_states σ) (fun t1 =>
  if ((64 : Int32) * t1) ≤ v5 then
    k114 v4 σ
  else
    bd (X7_isLeft N σ (v5 / (64 : Int32)) (v5 - v5 / (64 : Int32) * (64 : Int32)) v1) (fun t3 =>
    if t3 = 0 then
      X7_discards_62 k6 v1 v2 v4 v5 (0 : Int32) σ
    else
      bd (X7_cubeSet N σ (v5 / (64 : Int32)) (v5 - v5 / (64 : Int32) * (64 : Int32))) (fun t5 =>
      if (t5 &&& v2) = (0 : Int64) then
        X7_discards_62 k6 v1 v2 v4 v5 (0 : Int32) σ
      else
        X7_discards_62 k6 v1 v2 v4 v5 (1 : Int32) σ)))
def X7_discards_6 (N : Nat) (k114 : (Int32 → St → Option (Int32 × St))) (v1 : Int32) (v2 : Int64) : Nat → Int32 → Int32 → St → Option (Int32 × St)
  | 0, _, _, _ => none
  | n + 1, v4, v5, σ => X7_discards_6b N (fun v4 v5 σ => X7_discards_6 N k114 v1 v2 n v4 v5 σ) k114 v1 v2 v4 v5 σ
def X7_discards_114 (v4 : Int32) (σ : St) : Option (Int32 × St) :=
  gd (isb v4) (
  some (v4, σ))
def X7_discards (N : Nat) (v1 : Int32) (v2 : Int64) (σ : St) : Option (Int32 × St) :=
  X7_discards_6 N (fun v4 σ => X7_discards_114 v4 σ) v1 v2 N (0 : Int32) (0 : Int32) σ
set_option maxRecDepth 20000 in
set_option maxHeartbeats 4000000 in
theorem c_X7_discards {l : Launch} {D : va_G} {a : Nat → Nat} {cA : Nat → ClassId} {σ : St} {N : Nat} {v1 : Int32} {v2 : Int64} {r : Int32} {σ' : St} (h : X7_discards N v1 v2 σ = some (r, σ')) : MetI l yX7_discards cX7_discards 7 (some .boolean) 2 D (tyW cA) (wM a cA) EM [.ref (a 0), .int v1, .long v2] σ r σ' := by
  refine mkI (by decide) (adrM a cA) (Or.inr rfl) (Nat.le_of_ble_eq_true rfl) ?_
  intro p e R s m args below meth c A Q ls X hR hp hl
  obtain ⟨hx, hb, -, hown, hts, -⟩ := id X
  have J_90 : ∀ (v1 : Int32) (v2 : Int64) (v4 : Int32) (v5 : Int32) (v6 : Int32) (u0 : Int32) (u1 : Int32) (k6 : (Int32 → Int32 → St → Option (Int32 × St))) (hk6 : ∀ (v4 : Int32) (v5 : Int32) (σ : St) (H : Heap) (locs : List Loc) (ls : Array Slot), Pw D (wM a cA) A s.heap H locs σ → lv_has ls 7 [(0, .ref (a 0)), (1, .int v1), (2, .long v2), (4, .int v4), (5, .int v5)] → k6 v4 v5 σ = some (r, σ') → W p l e R s m args below meth c H locs 0 0 Q (F0 m 6 ls [])) (σ : St) (H : Heap) (locs : List Loc) (ls : Array Slot), Pw D (wM a cA) A s.heap H locs σ → lv_has ls 7 [(0, .ref (a 0)), (1, .int v1), (2, .long v2), (4, .int v4), (5, .int v5), (6, .int v6)] → X7_discards_90 k6 v1 v2 v4 v5 v6 u0 u1 σ = some (r, σ') → W p l e R s m args below meth c H locs 0 0 Q (F0 m 90 ls [.int u0, .int u1, .ref (a 18)]) := by
    intro v1 v2 v4 v5 v6 u0 u1 k6 hk6 σ H locs ls hp hl h
    unfold X7_discards_90 at h
    obtain ⟨g1, h⟩ := gd_s h
    obtain ⟨g3, h⟩ := gd_s h
    refine sM_X7_isGone X hp g1 g3 dX7_discards_90 (fun H locs σ2 eσ2 hp => ?_)
    have h := nm_s h σ2 eσ2
    refine lv_iload hx hb dX7_discards_91 (lv_at hl 3 rfl) ?_
    refine lv_if_ne (tgt := 101) hx hb dX7_discards_93 (by decide) (fun c4 => ?_) (fun c4 => ?_)
    · have h := it_n h c4
      refine lv_iconst (v := 1) hx hb dX7_discards_101 (by decide) ?_
      refine lv_goto (tgt := 106) hx hb dX7_discards_102 (by decide) ?_
      refine lv_istore (lv' := [(4, .int (1 : Int32)), (0, .ref (a 0)), (1, .int v1), (2, .long v2), (5, .int v5), (6, .int v6)]) hx hb dX7_discards_106 hl (by decide) rfl (fun ls hl => ?_)
      obtain ⟨x5, ex5⟩ : ∃ z : Int32, z = v5 + (1 : Int32) := ⟨_, rfl⟩
      have h := nm_s h x5 ex5
      refine lv_iinc (v := x5) (lv' := [(5, .int x5), (4, .int (1 : Int32)), (0, .ref (a 0)), (1, .int v1), (2, .long v2), (6, .int v6)]) hx hb dX7_discards_108 hl (k := 4) rfl (by rw [ex5]; rfl) (by decide) rfl (fun ls hl => ?_)
      refine lv_goto (tgt := 6) hx hb dX7_discards_111 (by decide) ?_
      exact hk6 (1 : Int32) x5 σ2 _ _ _ hp (lv_sub hl [2, 3, 4, 1, 0] rfl) h
    · have h := it_p h c4
      refine lv_iload hx hb dX7_discards_96 (lv_at hl 5 rfl) ?_
      refine lv_if_eq (tgt := 105) hx hb dX7_discards_98 (by decide) (fun c6 => ?_) (fun c6 => ?_)
      · have h := it_p h c6
        refine lv_iconst (v := 0) hx hb dX7_discards_105 (by decide) ?_
        refine lv_istore (lv' := [(4, .int (0 : Int32)), (0, .ref (a 0)), (1, .int v1), (2, .long v2), (5, .int v5), (6, .int v6)]) hx hb dX7_discards_106 hl (by decide) rfl (fun ls hl => ?_)
        obtain ⟨x7, ex7⟩ : ∃ z : Int32, z = v5 + (1 : Int32) := ⟨_, rfl⟩
        have h := nm_s h x7 ex7
        refine lv_iinc (v := x7) (lv' := [(5, .int x7), (4, .int (0 : Int32)), (0, .ref (a 0)), (1, .int v1), (2, .long v2), (6, .int v6)]) hx hb dX7_discards_108 hl (k := 4) rfl (by rw [ex7]; rfl) (by decide) rfl (fun ls hl => ?_)
        refine lv_goto (tgt := 6) hx hb dX7_discards_111 (by decide) ?_
        exact hk6 (0 : Int32) x7 σ2 _ _ _ hp (lv_sub hl [2, 3, 4, 1, 0] rfl) h
      · have h := it_n h c6
        refine lv_iconst (v := 1) hx hb dX7_discards_101 (by decide) ?_
        refine lv_goto (tgt := 106) hx hb dX7_discards_102 (by decide) ?_
        refine lv_istore (lv' := [(4, .int (1 : Int32)), (0, .ref (a 0)), (1, .int v1), (2, .long v2), (5, .int v5), (6, .int v6)]) hx hb dX7_discards_106 hl (by decide) rfl (fun ls hl => ?_)
        obtain ⟨x8, ex8⟩ : ∃ z : Int32, z = v5 + (1 : Int32) := ⟨_, rfl⟩
        have h := nm_s h x8 ex8
        refine lv_iinc (v := x8) (lv' := [(5, .int x8), (4, .int (1 : Int32)), (0, .ref (a 0)), (1, .int v1), (2, .long v2), (6, .int v6)]) hx hb dX7_discards_108 hl (k := 4) rfl (by rw [ex8]; rfl) (by decide) rfl (fun ls hl => ?_)
        refine lv_goto (tgt := 6) hx hb dX7_discards_111 (by decide) ?_
        exact hk6 (1 : Int32) x8 σ2 _ _ _ hp (lv_sub hl [2, 3, 4, 1, 0] rfl) h
  have J_62 : ∀ (v1 : Int32) (v2 : Int64) (v4 : Int32) (v5 : Int32) (u0 : Int32) (k6 : (Int32 → Int32 → St → Option (Int32 × St))) (hk6 : ∀ (v4 : Int32) (v5 : Int32) (σ : St) (H : Heap) (locs : List Loc) (ls : Array Slot), Pw D (wM a cA) A s.heap H locs σ → lv_has ls 7 [(0, .ref (a 0)), (1, .int v1), (2, .long v2), (4, .int v4), (5, .int v5)] → k6 v4 v5 σ = some (r, σ') → W p l e R s m args below meth c H locs 0 0 Q (F0 m 6 ls [])) (σ : St) (H : Heap) (locs : List Loc) (ls : Array Slot), Pw D (wM a cA) A s.heap H locs σ → lv_has ls 7 [(0, .ref (a 0)), (1, .int v1), (2, .long v2), (4, .int v4), (5, .int v5)] → X7_discards_62 k6 v1 v2 v4 v5 u0 σ = some (r, σ') → W p l e R s m args below meth c H locs 0 0 Q (F0 m 62 ls [.int u0]) := by
    intro v1 v2 v4 v5 u0 k6 hk6 σ H locs ls hp hl h
    unfold X7_discards_62 at h
    refine lv_istore (lv' := [(6, .int u0), (0, .ref (a 0)), (1, .int v1), (2, .long v2), (4, .int v4), (5, .int v5)]) hx hb dX7_discards_62 hl (by decide) rfl (fun ls hl => ?_)
    refine lv_aload_n hx hb dX7_discards_64 rfl (lv_at hl 1 rfl) ?_
    refine gM_X7_isGone X hp tw_6_10 dX7_discards_65 ?_
    refine lv_iload hx hb dX7_discards_68 (lv_at hl 5 rfl) ?_
    refine lv_aload_n hx hb dX7_discards_70 rfl (lv_at hl 1 rfl) ?_
    refine gM_X7_isGone X hp tw_6_10 dX7_discards_71 ?_
    refine lv_iload hx hb dX7_discards_74 (lv_at hl 5 rfl) ?_
    obtain ⟨g1, h⟩ := gd_s h
    refine lM_X7_isGone X hp g1 dX7_discards_76 ?_
    refine lv_if_ne (tgt := 85) hx hb dX7_discards_77 (by decide) (fun c2 => ?_) (fun c2 => ?_)
    · have h := it_n h c2
      refine lv_iconst (v := 1) hx hb dX7_discards_85 (by decide) ?_
      refine lv_goto (tgt := 90) hx hb dX7_discards_86 (by decide) ?_
      exact J_90 v1 v2 v4 v5 u0 (1 : Int32) v5 _ hk6 σ _ _ _ hp (lv_sub hl [1, 2, 3, 4, 5, 0] rfl) h
    · have h := it_p h c2
      refine lv_iload hx hb dX7_discards_80 (lv_at hl 0 rfl) ?_
      refine lv_if_eq (tgt := 89) hx hb dX7_discards_82 (by decide) (fun c3 => ?_) (fun c3 => ?_)
      · have h := it_p h c3
        refine lv_iconst (v := 0) hx hb dX7_discards_89 (by decide) ?_
        exact J_90 v1 v2 v4 v5 u0 (0 : Int32) v5 _ hk6 σ _ _ _ hp (lv_sub hl [1, 2, 3, 4, 5, 0] rfl) h
      · have h := it_n h c3
        refine lv_iconst (v := 1) hx hb dX7_discards_85 (by decide) ?_
        refine lv_goto (tgt := 90) hx hb dX7_discards_86 (by decide) ?_
        exact J_90 v1 v2 v4 v5 u0 (1 : Int32) v5 _ hk6 σ _ _ _ hp (lv_sub hl [1, 2, 3, 4, 5, 0] rfl) h
  have J_6 : ∀ (v1 : Int32) (v2 : Int64) (k114 : (Int32 → St → Option (Int32 × St))) (hk114 : ∀ (v4 : Int32) (σ : St) (H : Heap) (locs : List Loc) (ls : Array Slot), Pw D (wM a cA) A s.heap H locs σ → lv_has ls 7 [(0, .ref (a 0)), (4, .int v4)] → k114 v4 σ = some (r, σ') → W p l e R s m args below meth c H locs 0 0 Q (F0 m 114 ls [])) (n : Nat) (v4 : Int32) (v5 : Int32) (σ : St) (H : Heap) (locs : List Loc) (ls : Array Slot), Pw D (wM a cA) A s.heap H locs σ → lv_has ls 7 [(0, .ref (a 0)), (1, .int v1), (2, .long v2), (4, .int v4), (5, .int v5)] → X7_discards_6 N k114 v1 v2 n v4 v5 σ = some (r, σ') → W p l e R s m args below meth c H locs 0 0 Q (F0 m 6 ls []) := by
    intro v1 v2 k114 hk114 n
    induction n with
    | zero => intro v4 v5 σ H locs ls hp hl h; exact nn_s (show (none : Option (Int32 × St)) = some _ from h)
    | succ n ih =>
      intro v4 v5 σ H locs ls hp hl h
      have h : X7_discards_6b N (fun v4 v5 σ => X7_discards_6 N k114 v1 v2 n v4 v5 σ) k114 v1 v2 v4 v5 σ = some (r, σ') := h
      unfold X7_discards_6b at h
      have hk6 := ih
      refine lv_iload hx hb dX7_discards_6 (lv_at hl 4 rfl) ?_
      refine lv_bipush (v := 64) hx hb dX7_discards_8 (by decide) ?_
      refine lv_aload_n hx hb dX7_discards_10 rfl (lv_at hl 0 rfl) ?_
      obtain ⟨t1, ht1, h⟩ := bd_s h
      refine cl_Vi X eokM (c_X7_states ht1) tw_7_1 mw_X7_states (by decide) hp 0 rfl rfl rfl hl.1 rfl (Nat.le_of_ble_eq_true rfl) dX7_discards_11 (fun H locs hp => ?_)
      refine lv_imul hx hb dX7_discards_14 ?_
      refine lv_icmp_ge (tgt := 114) hx hb dX7_discards_15 (by decide) (fun c2 => ?_) (fun c2 => ?_)
      · have h := it_p h c2
        exact hk114 v4 σ _ _ _ hp (lv_sub hl [0, 3] rfl) h
      · have h := it_n h c2
        refine lv_aload_n hx hb dX7_discards_18 rfl (lv_at hl 0 rfl) ?_
        refine lv_iload hx hb dX7_discards_19 (lv_at hl 4 rfl) ?_
        refine lv_bipush (v := 64) hx hb dX7_discards_21 (by decide) ?_
        refine lv_idiv hx hb dX7_discards_23 (by decide) ?_
        refine lv_iload hx hb dX7_discards_24 (lv_at hl 4 rfl) ?_
        refine lv_bipush (v := 64) hx hb dX7_discards_26 (by decide) ?_
        refine lv_irem hx hb dX7_discards_28 (by decide) ?_
        refine lv_iload_n hx hb dX7_discards_29 rfl (lv_at hl 1 rfl) ?_
        obtain ⟨t3, ht3, h⟩ := bd_s h
        refine cl_Vi X eokM (c_X7_isLeft ht3) tw_51_6 mw_X7_isLeft (by decide) hp 0 rfl rfl rfl hl.1 rfl (Nat.le_of_ble_eq_true rfl) dX7_discards_30 (fun H locs hp => ?_)
        refine lv_if_eq (tgt := 61) hx hb dX7_discards_33 (by decide) (fun c4 => ?_) (fun c4 => ?_)
        · have h := it_p h c4
          refine lv_iconst (v := 0) hx hb dX7_discards_61 (by decide) ?_
          exact J_62 v1 v2 v4 v5 (0 : Int32) _ hk6 σ _ _ _ hp (lv_sub hl [0, 1, 2, 3, 4] rfl) h
        · have h := it_n h c4
          refine lv_aload_n hx hb dX7_discards_36 rfl (lv_at hl 0 rfl) ?_
          refine lv_iload hx hb dX7_discards_37 (lv_at hl 4 rfl) ?_
          refine lv_bipush (v := 64) hx hb dX7_discards_39 (by decide) ?_
          refine lv_idiv hx hb dX7_discards_41 (by decide) ?_
          refine lv_iload hx hb dX7_discards_42 (lv_at hl 4 rfl) ?_
          refine lv_bipush (v := 64) hx hb dX7_discards_44 (by decide) ?_
          refine lv_irem hx hb dX7_discards_46 (by decide) ?_
          obtain ⟨t5, ht5, h⟩ := bd_s h
          refine cl_Vl X eokM (c_X7_cubeSet ht5) tw_40_11 mw_X7_cubeSet (by decide) hp 0 rfl rfl rfl hl.1 rfl (Nat.le_of_ble_eq_true rfl) dX7_discards_47 (fun H locs hp => ?_)
          refine lv_lload_n hx hb dX7_discards_50 rfl (lv_at hl 2 rfl) ?_
          refine lv_land hx hb dX7_discards_51 ?_
          refine lv_lconst (v := 0) hx hb dX7_discards_52 (by decide) ?_
          refine W.lcmp hx hb dX7_discards_53 ?_
          refine lv_if_eq (tgt := 61) hx hb dX7_discards_54 (by decide) (fun c6 => ?_) (fun c6 => ?_)
          · have h := it_p h (lcmp0.mp c6)
            refine lv_iconst (v := 0) hx hb dX7_discards_61 (by decide) ?_
            exact J_62 v1 v2 v4 v5 (0 : Int32) _ hk6 σ _ _ _ hp (lv_sub hl [0, 1, 2, 3, 4] rfl) h
          · have h := it_n h (fun q => c6 (lcmp0.mpr q))
            refine lv_iconst (v := 1) hx hb dX7_discards_57 (by decide) ?_
            refine lv_goto (tgt := 62) hx hb dX7_discards_58 (by decide) ?_
            exact J_62 v1 v2 v4 v5 (1 : Int32) _ hk6 σ _ _ _ hp (lv_sub hl [0, 1, 2, 3, 4] rfl) h
  have J_114 : ∀ (v4 : Int32) (σ : St) (H : Heap) (locs : List Loc) (ls : Array Slot), Pw D (wM a cA) A s.heap H locs σ → lv_has ls 7 [(0, .ref (a 0)), (4, .int v4)] → X7_discards_114 v4 σ = some (r, σ') → W p l e R s m args below meth c H locs 0 0 Q (F0 m 114 ls []) := by
    intro v4 σ H locs ls hp hl h
    unfold X7_discards_114 at h
    refine lv_iload hx hb dX7_discards_114 (lv_at hl 1 rfl) ?_
    obtain ⟨g1, h⟩ := gd_s h
    exact hR _ _ _ _ _ _ dX7_discards_116 hp (congrArg Prod.fst (Option.some.inj h)) (congrArg Prod.snd (Option.some.inj h)) (fun _ => g1)
  unfold X7_discards at h
  have hl := lv_sub (l' := [(0, .ref (a 0)), (1, .int v1), (2, .long v2)]) hl [0, 1, 2] rfl
  refine lv_iconst (v := 0) hx hb dX7_discards_0 (by decide) ?_
  refine lv_istore (lv' := [(4, .int (0 : Int32)), (0, .ref (a 0)), (1, .int v1), (2, .long v2)]) hx hb dX7_discards_1 hl (by decide) rfl (fun ls hl => ?_)
  refine lv_iconst (v := 0) hx hb dX7_discards_3 (by decide) ?_
  refine lv_istore (lv' := [(5, .int (0 : Int32)), (4, .int (0 : Int32)), (0, .ref (a 0)), (1, .int v1), (2, .long v2)]) hx hb dX7_discards_4 hl (by decide) rfl (fun ls hl => ?_)
  exact J_6 v1 v2 _ (fun v4 σ H locs ls hp hl h => J_114 v4 σ _ _ _ hp hl h) _ (0 : Int32) (0 : Int32) σ _ _ _ hp (lv_sub hl [2, 3, 4, 1, 0] rfl) h
