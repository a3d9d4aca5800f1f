/- X7_layClasses X7_farOf X7_classNow X7_stateNow X7_state X7_reached X7_classes X7_runLength X7_systemNow -/
def X7_layClasses_43 (k2 : (Int32 → St → Option (St))) (v1 : Int32) (u0 : Int32) (u1 : Int32) (σ : St) : Option (St) :=
  gd (inb u1 64) (
  nm (sa σ 4 u1.toNatClampNeg u0) (fun (σ2 : St) =>
  nm (v1 + (1 : Int32)) (fun (x3 : Int32) =>
  k2 x3 σ2)))
def X7_layClasses_2b (N : Nat) (k2 : (Int32 → St → Option (St))) (k50 : (St → Option (St))) (v1 : Int32) (σ : St) : Option (St) :=
  bd (X7_states σ) (fun t1 =>
  if t1 ≤ v1 then
    k50 σ
  else
    bd (X7_has (σ.2.1 1) v1) (fun t3 =>
    if t3 = 0 then
      bd (X7_bad σ) (fun t5 =>
      bd (X7_least N t5) (fun t6 =>
      X7_layClasses_43 k2 v1 t6 v1 σ))
    else
      bd (X7_least N (σ.2.1 1)) (fun t7 =>
      X7_layClasses_43 k2 v1 t7 v1 σ)))
def X7_layClasses_2 (N : Nat) (k50 : (St → Option (St))) : Nat → Int32 → St → Option (St)
  | 0, _, _ => none
  | n + 1, v1, σ => X7_layClasses_2b N (fun v1 σ => X7_layClasses_2 N k50 n v1 σ) k50 v1 σ
def X7_layClasses_70b (N : Nat) (k70 : (Int32 → St → Option (St))) (k85 : (Int32 → Int32 → Int32 → St → Option (St))) (v1 : Int32) (v2 : Int32) (v3 : Int32) (σ : St) : Option (St) :=
  bd (X7_areAlike N σ v2 v3) (fun t1 =>
  if t1 = 0 then
    nm (v3 + (1 : Int32)) (fun (x3 : Int32) =>
    k70 x3 σ)
  else
    k85 v1 v2 v3 σ)
def X7_layClasses_70 (N : Nat) (k85 : (Int32 → Int32 → Int32 → St → Option (St))) (v1 : Int32) (v2 : Int32) : Nat → Int32 → St → Option (St)
  | 0, _, _ => none
  | n + 1, v3, σ => X7_layClasses_70b N (fun v3 σ => X7_layClasses_70 N k85 v1 v2 n v3 σ) k85 v1 v2 v3 σ
def X7_layClasses_85 (k60 : (Int32 → Int32 → St → Option (St))) (v1 : Int32) (v2 : Int32) (v3 : Int32) (σ : St) : Option (St) :=
  gd (inb v2 64) (
  nm (sa σ 5 v2.toNatClampNeg v3) (fun (σ2 : St) =>
  if v1 = 0 then
    gd (inb v2 64) (
    if v3 = (σ2.2.2.1 4 v2.toNatClampNeg) then
      nm (v2 + (1 : Int32)) (fun (x7 : Int32) =>
      k60 (0 : Int32) x7 σ2)
    else
      nm (v2 + (1 : Int32)) (fun (x8 : Int32) =>
      k60 (1 : Int32) x8 σ2))
  else
    nm (v2 + (1 : Int32)) (fun (x4 : Int32) =>
    k60 (1 : Int32) x4 σ2)))
def X7_layClasses_60b (N : Nat) (k60 : (Int32 → Int32 → St → Option (St))) (k118 : (Int32 → St → Option (St))) (v1 : Int32) (v2 : Int32) (σ : St) : Option (St) :=
  bd (X7_states σ) (fun t1 =>
  if t1 ≤ v2 then
    k118 v1 σ
  else
    X7_layClasses_70 N (fun v1 v2 v3 σ => X7_layClasses_85 k60 v1 v2 v3 σ) v1 v2 N (0 : Int32) σ)
def X7_layClasses_60 (N : Nat) (k118 : (Int32 → St → Option (St))) : Nat → Int32 → Int32 → St → Option (St)
  | 0, _, _, _ => none
  | n + 1, v1, v2, σ => X7_layClasses_60b N (fun v1 v2 σ => X7_layClasses_60 N k118 n v1 v2 σ) k118 v1 v2 σ
def X7_layClasses_120b (k120 : (Int32 → St → Option (St))) (k146 : (Int32 → St → Option (St))) (v1 : Int32) (v2 : Int32) (σ : St) : Option (St) :=
  bd (X7_states σ) (fun t1 =>
  if t1 ≤ v2 then
    k146 v1 σ
  else
    gd (inb v2 64) (
    gd (inb v2 64) (
    nm (sa σ 4 v2.toNatClampNeg (σ.2.2.1 5 v2.toNatClampNeg)) (fun (σ5 : St) =>
    nm (v2 + (1 : Int32)) (fun (x6 : Int32) =>
    k120 x6 σ5)))))
def X7_layClasses_120 (k146 : (Int32 → St → Option (St))) (v1 : Int32) : Nat → Int32 → St → Option (St)
  | 0, _, _ => none
  | n + 1, v2, σ => X7_layClasses_120b (fun v2 σ => X7_layClasses_120 k146 v1 n v2 σ) k146 v1 v2 σ
def X7_layClasses_146 (k52 : (Int32 → St → Option (St))) (v1 : Int32) (σ : St) : Option (St) :=
  k52 v1 σ
def X7_layClasses_118 (N : Nat) (k52 : (Int32 → St → Option (St))) (v1 : Int32) (σ : St) : Option (St) :=
  X7_layClasses_120 (fun v1 σ => X7_layClasses_146 k52 v1 σ) v1 N (0 : Int32) σ
def X7_layClasses_52b (N : Nat) (k52 : (Int32 → St → Option (St))) (k149 : (St → Option (St))) (v1 : Int32) (σ : St) : Option (St) :=
  if v1 = 0 then
    k149 σ
  else
    X7_layClasses_60 N (fun v1 σ => X7_layClasses_118 N k52 v1 σ) N (0 : Int32) (0 : Int32) σ
def X7_layClasses_52 (N : Nat) (k149 : (St → Option (St))) : Nat → Int32 → St → Option (St)
  | 0, _, _ => none
  | n + 1, v1, σ => X7_layClasses_52b N (fun v1 σ => X7_layClasses_52 N k149 n v1 σ) k149 v1 σ
def X7_layClasses_149 (σ : St) : Option (St) :=
  some σ
def X7_layClasses_50 (N : Nat) (σ : St) : Option (St) :=
  X7_layClasses_52 N (fun σ => X7_layClasses_149 σ) N (1 : Int32) σ
def X7_layClasses (N : Nat) (σ : St) : Option (St) :=
  X7_layClasses_2 N (fun σ => X7_layClasses_50 N σ) N (0 : Int32) σ
set_option maxRecDepth 20000 in
set_option maxHeartbeats 4000000 in
theorem c_X7_layClasses {l : Launch} {D : va_G} {a : Nat → Nat} {cA : Nat → ClassId} {σ : St} {N : Nat} {σ' : St} (h : X7_layClasses N σ = some σ') : MetV l yX7_layClasses cX7_layClasses 4 none 3 D (tyW cA) (wM a cA) EM [.ref (a 0)] σ σ' := by
  refine mkV (by decide) (adrM a cA) rfl (Nat.le_of_ble_eq_true rfl) ?_
  intro p e R s m args below meth c A Q ls X hR hp hl
  obtain ⟨hx, hb, -, hown, hts, -⟩ := id X
  have J_43 : ∀ (v1 : Int32) (u0 : Int32) (u1 : Int32) (k2 : (Int32 → St → Option (St))) (hk2 : ∀ (v1 : Int32) (σ : St) (H : Heap) (locs : List Loc) (ls : Array Slot), Pw D (wM a cA) A s.heap H locs σ → lv_has ls 4 [(0, .ref (a 0)), (1, .int v1)] → k2 v1 σ = some σ' → W p l e R s m args below meth c H locs 0 0 Q (F0 m 2 ls [])) (σ : St) (H : Heap) (locs : List Loc) (ls : Array Slot), Pw D (wM a cA) A s.heap H locs σ → lv_has ls 4 [(0, .ref (a 0)), (1, .int v1)] → X7_layClasses_43 k2 v1 u0 u1 σ = some σ' → W p l e R s m args below meth c H locs 0 0 Q (F0 m 43 ls [.int u0, .int u1, .ref (a 8)]) := by
    intro v1 u0 u1 k2 hk2 σ H locs ls hp hl h
    unfold X7_layClasses_43 at h
    obtain ⟨g1, h⟩ := gd_s h
    refine sM_X7_classOf X hp g1 dX7_layClasses_43 (fun H locs σ2 eσ2 hp => ?_)
    have h := nm_s h σ2 eσ2
    obtain ⟨x3, ex3⟩ : ∃ z : Int32, z = v1 + (1 : Int32) := ⟨_, rfl⟩
    have h := nm_s h x3 ex3
    refine lv_iinc (v := x3) (lv' := [(1, .int x3), (0, .ref (a 0))]) hx hb dX7_layClasses_44 hl (k := 1) rfl (by rw [ex3]; rfl) (by decide) rfl (fun ls hl => ?_)
    refine lv_goto (tgt := 2) hx hb dX7_layClasses_47 (by decide) ?_
    exact hk2 x3 σ2 _ _ _ hp (lv_sub hl [1, 0] rfl) h
  have J_2 : ∀  (k50 : (St → Option (St))) (hk50 : ∀ (σ : St) (H : Heap) (locs : List Loc) (ls : Array Slot), Pw D (wM a cA) A s.heap H locs σ → lv_has ls 4 [(0, .ref (a 0))] → k50 σ = some σ' → W p l e R s m args below meth c H locs 0 0 Q (F0 m 50 ls [])) (n : Nat) (v1 : Int32) (σ : St) (H : Heap) (locs : List Loc) (ls : Array Slot), Pw D (wM a cA) A s.heap H locs σ → lv_has ls 4 [(0, .ref (a 0)), (1, .int v1)] → X7_layClasses_2 N k50 n v1 σ = some σ' → W p l e R s m args below meth c H locs 0 0 Q (F0 m 2 ls []) := by
    intro k50 hk50 n
    induction n with
    | zero => intro v1 σ H locs ls hp hl h; exact nn_s (show (none : Option (St)) = some _ from h)
    | succ n ih =>
      intro v1 σ H locs ls hp hl h
      have h : X7_layClasses_2b N (fun v1 σ => X7_layClasses_2 N k50 n v1 σ) k50 v1 σ = some σ' := h
      unfold X7_layClasses_2b at h
      have hk2 := ih
      refine lv_iload_n hx hb dX7_layClasses_2 rfl (lv_at hl 1 rfl) ?_
      refine lv_aload_n hx hb dX7_layClasses_3 rfl (lv_at hl 0 rfl) ?_
      obtain ⟨t1, ht1, h⟩ := bd_s h
      refine cl_Vi X eokM (c_X7_states ht1) tw_7_1 mw_X7_states (by decide) hp 0 rfl rfl rfl hl.1 rfl (Nat.le_of_ble_eq_true rfl) dX7_layClasses_4 (fun H locs hp => ?_)
      refine lv_icmp_ge (tgt := 50) hx hb dX7_layClasses_7 (by decide) (fun c2 => ?_) (fun c2 => ?_)
      · have h := it_p h c2
        exact hk50 σ _ _ _ hp (lv_sub hl [0] rfl) h
      · have h := it_n h c2
        refine lv_aload_n hx hb dX7_layClasses_10 rfl (lv_at hl 0 rfl) ?_
        refine gM_X7_classOf X hp tw_6_0 dX7_layClasses_11 ?_
        refine lv_iload_n hx hb dX7_layClasses_14 rfl (lv_at hl 1 rfl) ?_
        refine lv_aload_n hx hb dX7_layClasses_15 rfl (lv_at hl 0 rfl) ?_
        refine gM_X7_good X hp tw_6_18 dX7_layClasses_16 ?_
        refine lv_iload_n hx hb dX7_layClasses_19 rfl (lv_at hl 1 rfl) ?_
        obtain ⟨t3, ht3, h⟩ := bd_s h
        refine cl_Si X eokM (c_X7_has (adrM a cA) eokM ht3) tw_18_3 mw_X7_has (by decide) hp hl.1 rfl (Nat.le_of_ble_eq_true rfl) dX7_layClasses_20 (fun H locs hp => ?_)
        refine lv_if_eq (tgt := 36) hx hb dX7_layClasses_23 (by decide) (fun c4 => ?_) (fun c4 => ?_)
        · have h := it_p h c4
          refine lv_aload_n hx hb dX7_layClasses_36 rfl (lv_at hl 0 rfl) ?_
          obtain ⟨t5, ht5, h⟩ := bd_s h
          refine cl_Vl X eokM (c_X7_bad ht5) tw_26_18 mw_X7_bad (by decide) hp 0 rfl rfl rfl hl.1 rfl (Nat.le_of_ble_eq_true rfl) dX7_layClasses_37 (fun H locs hp => ?_)
          obtain ⟨t6, ht6, h⟩ := bd_s h
          refine cl_Si X eokM (c_X7_least (adrM a cA) eokM ht6) tw_27_18 mw_X7_least (by decide) hp hl.1 rfl (Nat.le_of_ble_eq_true rfl) dX7_layClasses_40 (fun H locs hp => ?_)
          exact J_43 v1 t6 v1 _ hk2 σ _ _ _ hp (lv_sub hl [0, 1] rfl) h
        · have h := it_n h c4
          refine lv_aload_n hx hb dX7_layClasses_26 rfl (lv_at hl 0 rfl) ?_
          refine gM_X7_good X hp tw_6_18 dX7_layClasses_27 ?_
          obtain ⟨t7, ht7, h⟩ := bd_s h
          refine cl_Si X eokM (c_X7_least (adrM a cA) eokM ht7) tw_27_18 mw_X7_least (by decide) hp hl.1 rfl (Nat.le_of_ble_eq_true rfl) dX7_layClasses_30 (fun H locs hp => ?_)
          refine lv_goto (tgt := 43) hx hb dX7_layClasses_33 (by decide) ?_
          exact J_43 v1 t7 v1 _ hk2 σ _ _ _ hp (lv_sub hl [0, 1] rfl) h
  have J_70 : ∀ (v1 : Int32) (v2 : Int32) (k85 : (Int32 → Int32 → Int32 → St → Option (St))) (hk85 : ∀ (v1 : Int32) (v2 : Int32) (v3 : Int32) (σ : St) (H : Heap) (locs : List Loc) (ls : Array Slot), Pw D (wM a cA) A s.heap H locs σ → lv_has ls 4 [(0, .ref (a 0)), (1, .int v1), (2, .int v2), (3, .int v3)] → k85 v1 v2 v3 σ = some σ' → W p l e R s m args below meth c H locs 0 0 Q (F0 m 85 ls [])) (n : Nat) (v3 : Int32) (σ : St) (H : Heap) (locs : List Loc) (ls : Array Slot), Pw D (wM a cA) A s.heap H locs σ → lv_has ls 4 [(0, .ref (a 0)), (1, .int v1), (2, .int v2), (3, .int v3)] → X7_layClasses_70 N k85 v1 v2 n v3 σ = some σ' → W p l e R s m args below meth c H locs 0 0 Q (F0 m 70 ls []) := by
    intro v1 v2 k85 hk85 n
    induction n with
    | zero => intro v3 σ H locs ls hp hl h; exact nn_s (show (none : Option (St)) = some _ from h)
    | succ n ih =>
      intro v3 σ H locs ls hp hl h
      have h : X7_layClasses_70b N (fun v3 σ => X7_layClasses_70 N k85 v1 v2 n v3 σ) k85 v1 v2 v3 σ = some σ' := h
      unfold X7_layClasses_70b at h
      have hk70 := ih
      refine lv_aload_n hx hb dX7_layClasses_70 rfl (lv_at hl 0 rfl) ?_
      refine lv_iload_n hx hb dX7_layClasses_71 rfl (lv_at hl 2 rfl) ?_
      refine lv_iload_n hx hb dX7_layClasses_72 rfl (lv_at hl 3 rfl) ?_
      obtain ⟨t1, ht1, h⟩ := bd_s h
      refine cl_Vi X eokM (c_X7_areAlike ht1) tw_27_21 mw_X7_areAlike (by decide) hp 0 rfl rfl rfl hl.1 rfl (Nat.le_of_ble_eq_true rfl) dX7_layClasses_73 (fun H locs hp => ?_)
      refine lv_if_ne (tgt := 85) hx hb dX7_layClasses_76 (by decide) (fun c2 => ?_) (fun c2 => ?_)
      · have h := it_n h c2
        exact hk85 v1 v2 v3 σ _ _ _ hp (lv_sub hl [0, 1, 2, 3] rfl) h
      · have h := it_p h c2
        obtain ⟨x3, ex3⟩ : ∃ z : Int32, z = v3 + (1 : Int32) := ⟨_, rfl⟩
        have h := nm_s h x3 ex3
        refine lv_iinc (v := x3) (lv' := [(3, .int x3), (0, .ref (a 0)), (1, .int v1), (2, .int v2)]) hx hb dX7_layClasses_79 hl (k := 3) rfl (by rw [ex3]; rfl) (by decide) rfl (fun ls hl => ?_)
        refine lv_goto (tgt := 70) hx hb dX7_layClasses_82 (by decide) ?_
        exact hk70 x3 σ _ _ _ hp (lv_sub hl [1, 2, 3, 0] rfl) h
  have J_85 : ∀ (v1 : Int32) (v2 : Int32) (v3 : Int32) (k60 : (Int32 → Int32 → St → Option (St))) (hk60 : ∀ (v1 : Int32) (v2 : Int32) (σ : St) (H : Heap) (locs : List Loc) (ls : Array Slot), Pw D (wM a cA) A s.heap H locs σ → lv_has ls 4 [(0, .ref (a 0)), (1, .int v1), (2, .int v2)] → k60 v1 v2 σ = some σ' → W p l e R s m args below meth c H locs 0 0 Q (F0 m 60 ls [])) (σ : St) (H : Heap) (locs : List Loc) (ls : Array Slot), Pw D (wM a cA) A s.heap H locs σ → lv_has ls 4 [(0, .ref (a 0)), (1, .int v1), (2, .int v2), (3, .int v3)] → X7_layClasses_85 k60 v1 v2 v3 σ = some σ' → W p l e R s m args below meth c H locs 0 0 Q (F0 m 85 ls []) := by
    intro v1 v2 v3 k60 hk60 σ H locs ls hp hl h
    unfold X7_layClasses_85 at h
    refine lv_aload_n hx hb dX7_layClasses_85 rfl (lv_at hl 0 rfl) ?_
    refine gM_X7_classNew X hp tw_6_1 dX7_layClasses_86 ?_
    refine lv_iload_n hx hb dX7_layClasses_89 rfl (lv_at hl 2 rfl) ?_
    refine lv_iload_n hx hb dX7_layClasses_90 rfl (lv_at hl 3 rfl) ?_
    obtain ⟨g1, h⟩ := gd_s h
    refine sM_X7_classNew X hp g1 dX7_layClasses_91 (fun H locs σ2 eσ2 hp => ?_)
    have h := nm_s h σ2 eσ2
    refine lv_iload_n hx hb dX7_layClasses_92 rfl (lv_at hl 1 rfl) ?_
    refine lv_if_ne (tgt := 106) hx hb dX7_layClasses_93 (by decide) (fun c3 => ?_) (fun c3 => ?_)
    · have h := it_n h c3
      refine lv_iconst (v := 1) hx hb dX7_layClasses_106 (by decide) ?_
      refine lv_goto (tgt := 111) hx hb dX7_layClasses_107 (by decide) ?_
      refine lv_istore_n (lv' := [(1, .int (1 : Int32)), (0, .ref (a 0)), (2, .int v2), (3, .int v3)]) hx hb dX7_layClasses_111 rfl hl (by decide) rfl (fun ls hl => ?_)
      obtain ⟨x4, ex4⟩ : ∃ z : Int32, z = v2 + (1 : Int32) := ⟨_, rfl⟩
      have h := nm_s h x4 ex4
      refine lv_iinc (v := x4) (lv' := [(2, .int x4), (1, .int (1 : Int32)), (0, .ref (a 0)), (3, .int v3)]) hx hb dX7_layClasses_112 hl (k := 2) rfl (by rw [ex4]; rfl) (by decide) rfl (fun ls hl => ?_)
      refine lv_goto (tgt := 60) hx hb dX7_layClasses_115 (by decide) ?_
      exact hk60 (1 : Int32) x4 σ2 _ _ _ hp (lv_sub hl [2, 1, 0] rfl) h
    · have h := it_p h c3
      refine lv_iload_n hx hb dX7_layClasses_96 rfl (lv_at hl 3 rfl) ?_
      refine lv_aload_n hx hb dX7_layClasses_97 rfl (lv_at hl 0 rfl) ?_
      refine gM_X7_classOf X hp tw_6_0 dX7_layClasses_98 ?_
      refine lv_iload_n hx hb dX7_layClasses_101 rfl (lv_at hl 2 rfl) ?_
      obtain ⟨g5, h⟩ := gd_s h
      refine lM_X7_classOf X hp g5 dX7_layClasses_102 ?_
      refine lv_icmp_eq (tgt := 110) hx hb dX7_layClasses_103 (by decide) (fun c6 => ?_) (fun c6 => ?_)
      · have h := it_p h c6
        refine lv_iconst (v := 0) hx hb dX7_layClasses_110 (by decide) ?_
        refine lv_istore_n (lv' := [(1, .int (0 : Int32)), (0, .ref (a 0)), (2, .int v2), (3, .int v3)]) hx hb dX7_layClasses_111 rfl hl (by decide) rfl (fun ls hl => ?_)
        obtain ⟨x7, ex7⟩ : ∃ z : Int32, z = v2 + (1 : Int32) := ⟨_, rfl⟩
        have h := nm_s h x7 ex7
        refine lv_iinc (v := x7) (lv' := [(2, .int x7), (1, .int (0 : Int32)), (0, .ref (a 0)), (3, .int v3)]) hx hb dX7_layClasses_112 hl (k := 2) rfl (by rw [ex7]; rfl) (by decide) rfl (fun ls hl => ?_)
        refine lv_goto (tgt := 60) hx hb dX7_layClasses_115 (by decide) ?_
        exact hk60 (0 : Int32) x7 σ2 _ _ _ hp (lv_sub hl [2, 1, 0] rfl) h
      · have h := it_n h c6
        refine lv_iconst (v := 1) hx hb dX7_layClasses_106 (by decide) ?_
        refine lv_goto (tgt := 111) hx hb dX7_layClasses_107 (by decide) ?_
        refine lv_istore_n (lv' := [(1, .int (1 : Int32)), (0, .ref (a 0)), (2, .int v2), (3, .int v3)]) hx hb dX7_layClasses_111 rfl hl (by decide) rfl (fun ls hl => ?_)
        obtain ⟨x8, ex8⟩ : ∃ z : Int32, z = v2 + (1 : Int32) := ⟨_, rfl⟩
        have h := nm_s h x8 ex8
        refine lv_iinc (v := x8) (lv' := [(2, .int x8), (1, .int (1 : Int32)), (0, .ref (a 0)), (3, .int v3)]) hx hb dX7_layClasses_112 hl (k := 2) rfl (by rw [ex8]; rfl) (by decide) rfl (fun ls hl => ?_)
        refine lv_goto (tgt := 60) hx hb dX7_layClasses_115 (by decide) ?_
        exact hk60 (1 : Int32) x8 σ2 _ _ _ hp (lv_sub hl [2, 1, 0] rfl) h
  have J_60 : ∀  (k118 : (Int32 → St → Option (St))) (hk118 : ∀ (v1 : Int32) (σ : St) (H : Heap) (locs : List Loc) (ls : Array Slot), Pw D (wM a cA) A s.heap H locs σ → lv_has ls 4 [(0, .ref (a 0)), (1, .int v1)] → k118 v1 σ = some σ' → W p l e R s m args below meth c H locs 0 0 Q (F0 m 118 ls [])) (n : Nat) (v1 : Int32) (v2 : Int32) (σ : St) (H : Heap) (locs : List Loc) (ls : Array Slot), Pw D (wM a cA) A s.heap H locs σ → lv_has ls 4 [(0, .ref (a 0)), (1, .int v1), (2, .int v2)] → X7_layClasses_60 N k118 n v1 v2 σ = some σ' → W p l e R s m args below meth c H locs 0 0 Q (F0 m 60 ls []) := by
    intro k118 hk118 n
    induction n with
    | zero => intro v1 v2 σ H locs ls hp hl h; exact nn_s (show (none : Option (St)) = some _ from h)
    | succ n ih =>
      intro v1 v2 σ H locs ls hp hl h
      have h : X7_layClasses_60b N (fun v1 v2 σ => X7_layClasses_60 N k118 n v1 v2 σ) k118 v1 v2 σ = some σ' := h
      unfold X7_layClasses_60b at h
      have hk60 := ih
      refine lv_iload_n hx hb dX7_layClasses_60 rfl (lv_at hl 2 rfl) ?_
      refine lv_aload_n hx hb dX7_layClasses_61 rfl (lv_at hl 0 rfl) ?_
      obtain ⟨t1, ht1, h⟩ := bd_s h
      refine cl_Vi X eokM (c_X7_states ht1) tw_7_1 mw_X7_states (by decide) hp 0 rfl rfl rfl hl.1 rfl (Nat.le_of_ble_eq_true rfl) dX7_layClasses_62 (fun H locs hp => ?_)
      refine lv_icmp_ge (tgt := 118) hx hb dX7_layClasses_65 (by decide) (fun c2 => ?_) (fun c2 => ?_)
      · have h := it_p h c2
        exact hk118 v1 σ _ _ _ hp (lv_sub hl [0, 1] rfl) h
      · have h := it_n h c2
        refine lv_iconst (v := 0) hx hb dX7_layClasses_68 (by decide) ?_
        refine lv_istore_n (lv' := [(3, .int (0 : Int32)), (0, .ref (a 0)), (1, .int v1), (2, .int v2)]) hx hb dX7_layClasses_69 rfl hl (by decide) rfl (fun ls hl => ?_)
        exact J_70 v1 v2 _ (fun v1 v2 v3 σ H locs ls hp hl h => J_85 v1 v2 v3 _ hk60 σ _ _ _ hp hl h) _ (0 : Int32) σ _ _ _ hp (lv_sub hl [1, 2, 3, 0] rfl) h
  have J_120 : ∀ (v1 : Int32) (k146 : (Int32 → St → Option (St))) (hk146 : ∀ (v1 : Int32) (σ : St) (H : Heap) (locs : List Loc) (ls : Array Slot), Pw D (wM a cA) A s.heap H locs σ → lv_has ls 4 [(0, .ref (a 0)), (1, .int v1)] → k146 v1 σ = some σ' → W p l e R s m args below meth c H locs 0 0 Q (F0 m 146 ls [])) (n : Nat) (v2 : Int32) (σ : St) (H : Heap) (locs : List Loc) (ls : Array Slot), Pw D (wM a cA) A s.heap H locs σ → lv_has ls 4 [(0, .ref (a 0)), (1, .int v1), (2, .int v2)] → X7_layClasses_120 k146 v1 n v2 σ = some σ' → W p l e R s m args below meth c H locs 0 0 Q (F0 m 120 ls []) := by
    intro v1 k146 hk146 n
    induction n with
    | zero => intro v2 σ H locs ls hp hl h; exact nn_s (show (none : Option (St)) = some _ from h)
    | succ n ih =>
      intro v2 σ H locs ls hp hl h
      have h : X7_layClasses_120b (fun v2 σ => X7_layClasses_120 k146 v1 n v2 σ) k146 v1 v2 σ = some σ' := h
      unfold X7_layClasses_120b at h
      have hk120 := ih
      refine lv_iload_n hx hb dX7_layClasses_120 rfl (lv_at hl 2 rfl) ?_
      refine lv_aload_n hx hb dX7_layClasses_121 rfl (lv_at hl 0 rfl) ?_
      obtain ⟨t1, ht1, h⟩ := bd_s h
      refine cl_Vi X eokM (c_X7_states ht1) tw_7_1 mw_X7_states (by decide) hp 0 rfl rfl rfl hl.1 rfl (Nat.le_of_ble_eq_true rfl) dX7_layClasses_122 (fun H locs hp => ?_)
      refine lv_icmp_ge (tgt := 146) hx hb dX7_layClasses_125 (by decide) (fun c2 => ?_) (fun c2 => ?_)
      · have h := it_p h c2
        exact hk146 v1 σ _ _ _ hp (lv_sub hl [0, 1] rfl) h
      · have h := it_n h c2
        refine lv_aload_n hx hb dX7_layClasses_128 rfl (lv_at hl 0 rfl) ?_
        refine gM_X7_classOf X hp tw_6_0 dX7_layClasses_129 ?_
        refine lv_iload_n hx hb dX7_layClasses_132 rfl (lv_at hl 2 rfl) ?_
        refine lv_aload_n hx hb dX7_layClasses_133 rfl (lv_at hl 0 rfl) ?_
        refine gM_X7_classNew X hp tw_6_1 dX7_layClasses_134 ?_
        refine lv_iload_n hx hb dX7_layClasses_137 rfl (lv_at hl 2 rfl) ?_
        obtain ⟨g3, h⟩ := gd_s h
        refine lM_X7_classNew X hp g3 dX7_layClasses_138 ?_
        obtain ⟨g4, h⟩ := gd_s h
        refine sM_X7_classOf X hp g4 dX7_layClasses_139 (fun H locs σ5 eσ5 hp => ?_)
        have h := nm_s h σ5 eσ5
        obtain ⟨x6, ex6⟩ : ∃ z : Int32, z = v2 + (1 : Int32) := ⟨_, rfl⟩
        have h := nm_s h x6 ex6
        refine lv_iinc (v := x6) (lv' := [(2, .int x6), (0, .ref (a 0)), (1, .int v1)]) hx hb dX7_layClasses_140 hl (k := 2) rfl (by rw [ex6]; rfl) (by decide) rfl (fun ls hl => ?_)
        refine lv_goto (tgt := 120) hx hb dX7_layClasses_143 (by decide) ?_
        exact hk120 x6 σ5 _ _ _ hp (lv_sub hl [1, 2, 0] rfl) h
  have J_146 : ∀ (v1 : Int32) (k52 : (Int32 → St → Option (St))) (hk52 : ∀ (v1 : Int32) (σ : St) (H : Heap) (locs : List Loc) (ls : Array Slot), Pw D (wM a cA) A s.heap H locs σ → lv_has ls 4 [(0, .ref (a 0)), (1, .int v1)] → k52 v1 σ = some σ' → W p l e R s m args below meth c H locs 0 0 Q (F0 m 52 ls [])) (σ : St) (H : Heap) (locs : List Loc) (ls : Array Slot), Pw D (wM a cA) A s.heap H locs σ → lv_has ls 4 [(0, .ref (a 0)), (1, .int v1)] → X7_layClasses_146 k52 v1 σ = some σ' → W p l e R s m args below meth c H locs 0 0 Q (F0 m 146 ls []) := by
    intro v1 k52 hk52 σ H locs ls hp hl h
    unfold X7_layClasses_146 at h
    refine lv_goto (tgt := 52) hx hb dX7_layClasses_146 (by decide) ?_
    exact hk52 v1 σ _ _ _ hp (lv_sub hl [0, 1] rfl) h
  have J_118 : ∀ (v1 : Int32) (k52 : (Int32 → St → Option (St))) (hk52 : ∀ (v1 : Int32) (σ : St) (H : Heap) (locs : List Loc) (ls : Array Slot), Pw D (wM a cA) A s.heap H locs σ → lv_has ls 4 [(0, .ref (a 0)), (1, .int v1)] → k52 v1 σ = some σ' → W p l e R s m args below meth c H locs 0 0 Q (F0 m 52 ls [])) (σ : St) (H : Heap) (locs : List Loc) (ls : Array Slot), Pw D (wM a cA) A s.heap H locs σ → lv_has ls 4 [(0, .ref (a 0)), (1, .int v1)] → X7_layClasses_118 N k52 v1 σ = some σ' → W p l e R s m args below meth c H locs 0 0 Q (F0 m 118 ls []) := by
    intro v1 k52 hk52 σ H locs ls hp hl h
    unfold X7_layClasses_118 at h
    refine lv_iconst (v := 0) hx hb dX7_layClasses_118 (by decide) ?_
    refine lv_istore_n (lv' := [(2, .int (0 : Int32)), (0, .ref (a 0)), (1, .int v1)]) hx hb dX7_layClasses_119 rfl hl (by decide) rfl (fun ls hl => ?_)
    exact J_120 v1 _ (fun v1 σ H locs ls hp hl h => J_146 v1 _ hk52 σ _ _ _ hp hl h) _ (0 : Int32) σ _ _ _ hp (lv_sub hl [1, 2, 0] rfl) h
  have J_52 : ∀  (k149 : (St → Option (St))) (hk149 : ∀ (σ : St) (H : Heap) (locs : List Loc) (ls : Array Slot), Pw D (wM a cA) A s.heap H locs σ → lv_has ls 4 [(0, .ref (a 0))] → k149 σ = some σ' → W p l e R s m args below meth c H locs 0 0 Q (F0 m 149 ls [])) (n : Nat) (v1 : Int32) (σ : St) (H : Heap) (locs : List Loc) (ls : Array Slot), Pw D (wM a cA) A s.heap H locs σ → lv_has ls 4 [(0, .ref (a 0)), (1, .int v1)] → X7_layClasses_52 N k149 n v1 σ = some σ' → W p l e R s m args below meth c H locs 0 0 Q (F0 m 52 ls []) := by
    intro k149 hk149 n
    induction n with
    | zero => intro v1 σ H locs ls hp hl h; exact nn_s (show (none : Option (St)) = some _ from h)
    | succ n ih =>
      intro v1 σ H locs ls hp hl h
      have h : X7_layClasses_52b N (fun v1 σ => X7_layClasses_52 N k149 n v1 σ) k149 v1 σ = some σ' := h
      unfold X7_layClasses_52b at h
      have hk52 := ih
      refine lv_iload_n hx hb dX7_layClasses_52 rfl (lv_at hl 1 rfl) ?_
      refine lv_if_eq (tgt := 149) hx hb dX7_layClasses_53 (by decide) (fun c1 => ?_) (fun c1 => ?_)
      · have h := it_p h c1
        exact hk149 σ _ _ _ hp (lv_sub hl [0] rfl) h
      · have h := it_n h c1
        refine lv_iconst (v := 0) hx hb dX7_layClasses_56 (by decide) ?_
        refine lv_istore_n (lv' := [(1, .int (0 : Int32)), (0, .ref (a 0))]) hx hb dX7_layClasses_57 rfl hl (by decide) rfl (fun ls hl => ?_)
        refine lv_iconst (v := 0) hx hb dX7_layClasses_58 (by decide) ?_
        refine lv_istore_n (lv' := [(2, .int (0 : Int32)), (1, .int (0 : Int32)), (0, .ref (a 0))]) hx hb dX7_layClasses_59 rfl hl (by decide) rfl (fun ls hl => ?_)
        exact J_60 _ (fun v1 σ H locs ls hp hl h => J_118 v1 _ hk52 σ _ _ _ hp hl h) _ (0 : Int32) (0 : Int32) σ _ _ _ hp (lv_sub hl [2, 1, 0] rfl) h
  have J_149 : ∀  (σ : St) (H : Heap) (locs : List Loc) (ls : Array Slot), Pw D (wM a cA) A s.heap H locs σ → lv_has ls 4 [(0, .ref (a 0))] → X7_layClasses_149 σ = some σ' → W p l e R s m args below meth c H locs 0 0 Q (F0 m 149 ls []) := by
    intro σ H locs ls hp hl h
    unfold X7_layClasses_149 at h
    exact hR _ _ _ _ _ dX7_layClasses_149 hp (Option.some.inj h)
  have J_50 : ∀  (σ : St) (H : Heap) (locs : List Loc) (ls : Array Slot), Pw D (wM a cA) A s.heap H locs σ → lv_has ls 4 [(0, .ref (a 0))] → X7_layClasses_50 N σ = some σ' → W p l e R s m args below meth c H locs 0 0 Q (F0 m 50 ls []) := by
    intro σ H locs ls hp hl h
    unfold X7_layClasses_50 at h
    refine lv_iconst (v := 1) hx hb dX7_layClasses_50 (by decide) ?_
    refine lv_istore_n (lv' := [(1, .int (1 : Int32)), (0, .ref (a 0))]) hx hb dX7_layClasses_51 rfl hl (by decide) rfl (fun ls hl => ?_)
    exact J_52 _ (fun σ H locs ls hp hl h => J_149 σ _ _ _ hp hl h) _ (1 : Int32) σ _ _ _ hp (lv_sub hl [1, 0] rfl) h
  unfold X7_layClasses at h
  have hl := lv_sub (l' := [(0, .ref (a 0))]) hl [0] rfl
  refine lv_iconst (v := 0) hx hb dX7_layClasses_0 (by decide) ?_
  refine lv_istore_n (lv' := [(1, .int (0 : Int32)), (0, .ref (a 0))]) hx hb dX7_layClasses_1 rfl hl (by decide) rfl (fun ls hl => ?_)
  exact J_2 _ (fun σ H locs ls hp hl h => J_50 σ _ _ _ hp hl h) _ (0 : Int32) σ _ _ _ hp (lv_sub hl [1, 0] rfl) h
def X7_farOf_16 (N : Nat) (v1 : Int32) (v2 : Int32) (u0 : Int64) (σ : St) : Option (Int32 × St) :=
  bd (X7_layFar N u0 v2 σ) (fun t1 =>
  gd (inb v1 64) (
  some ((t1.2.2.1 3 v1.toNatClampNeg), t1)))
def X7_farOf (N : Nat) (v1 : Int32) (v2 : Int32) (σ : St) : Option (Int32 × St) :=
  if v2 = 0 then
    X7_farOf_16 N v1 v2 (σ.2.1 0) σ
  else
    bd (X7_bad σ) (fun t2 =>
    X7_farOf_16 N v1 v2 t2 σ)
set_option maxRecDepth 20000 in
set_option maxHeartbeats 4000000 in
theorem c_X7_farOf {l : Launch} {D : va_G} {a : Nat → Nat} {cA : Nat → ClassId} {σ : St} {N : Nat} {v1 : Int32} {v2 : Int32} {r : Int32} {σ' : St} (h : X7_farOf N v1 v2 σ = some (r, σ')) : MetI l yX7_farOf cX7_farOf 3 (some .int) 4 D (tyW cA) (wM a cA) EM [.ref (a 0), .int v1, .int v2] σ r σ' := by
  refine mkI (by decide) (adrM a cA) (Or.inl rfl) (Nat.le_of_ble_eq_true rfl) ?_
  intro p e R s m args below meth c A Q ls X hR hp hl
  obtain ⟨hx, hb, -, hown, hts, -⟩ := id X
  have J_16 : ∀ (v1 : Int32) (v2 : Int32) (u0 : Int64) (σ : St) (H : Heap) (locs : List Loc) (ls : Array Slot), Pw D (wM a cA) A s.heap H locs σ → lv_has ls 3 [(0, .ref (a 0)), (1, .int v1), (2, .int v2)] → X7_farOf_16 N v1 v2 u0 σ = some (r, σ') → W p l e R s m args below meth c H locs 0 0 Q (F0 m 16 ls [.long u0, .ref (a 0)]) := by
    intro v1 v2 u0 σ H locs ls hp hl h
    unfold X7_farOf_16 at h
    refine lv_iload_n hx hb dX7_farOf_16 rfl (lv_at hl 2 rfl) ?_
    obtain ⟨t1, ht1, h⟩ := bd_s h
    refine cl_Vv X eokM (c_X7_layFar ht1) tw_26_22 mw_X7_layFar (by decide) hp 0 rfl rfl rfl hl.1 rfl (Nat.le_of_ble_eq_true rfl) dX7_farOf_17 (fun H locs hp => ?_)
    refine lv_aload_n hx hb dX7_farOf_20 rfl (lv_at hl 0 rfl) ?_
    refine gM_X7_far X hp tw_5_23 dX7_farOf_21 ?_
    refine lv_iload_n hx hb dX7_farOf_24 rfl (lv_at hl 1 rfl) ?_
    obtain ⟨g2, h⟩ := gd_s h
    refine lM_X7_far X hp g2 dX7_farOf_25 ?_
    exact hR _ _ _ _ _ _ dX7_farOf_26 hp (congrArg Prod.fst (Option.some.inj h)) (congrArg Prod.snd (Option.some.inj h)) (fun q => by cases q)
  unfold X7_farOf at h
  have hl := lv_sub (l' := [(0, .ref (a 0)), (1, .int v1), (2, .int v2)]) hl [0, 1, 2] rfl
  refine lv_aload_n hx hb dX7_farOf_0 rfl (lv_at hl 0 rfl) ?_
  refine lv_iload_n hx hb dX7_farOf_1 rfl (lv_at hl 2 rfl) ?_
  refine lv_if_eq (tgt := 12) hx hb dX7_farOf_2 (by decide) (fun c1 => ?_) (fun c1 => ?_)
  · have h := it_p h c1
    refine lv_aload_n hx hb dX7_farOf_12 rfl (lv_at hl 0 rfl) ?_
    refine gM_X7_init X hp tw_6_17 dX7_farOf_13 ?_
    exact J_16 v1 v2 (σ.2.1 0) σ _ _ _ hp (lv_sub hl [0, 1, 2] rfl) h
  · have h := it_n h c1
    refine lv_aload_n hx hb dX7_farOf_5 rfl (lv_at hl 0 rfl) ?_
    obtain ⟨t2, ht2, h⟩ := bd_s h
    refine cl_Vl X eokM (c_X7_bad ht2) tw_26_18 mw_X7_bad (by decide) hp 0 rfl rfl rfl hl.1 rfl (Nat.le_of_ble_eq_true rfl) dX7_farOf_6 (fun H locs hp => ?_)
    refine lv_goto (tgt := 16) hx hb dX7_farOf_9 (by decide) ?_
    exact J_16 v1 v2 t2 σ _ _ _ hp (lv_sub hl [0, 1, 2] rfl) h
def X7_classNow (N : Nat) (v1 : Int32) (σ : St) : Option (Int32 × St) :=
  bd (X7_layClasses N σ) (fun t1 =>
  gd (inb v1 64) (
  some ((t1.2.2.1 4 v1.toNatClampNeg), t1)))
set_option maxRecDepth 20000 in
set_option maxHeartbeats 4000000 in
theorem c_X7_classNow {l : Launch} {D : va_G} {a : Nat → Nat} {cA : Nat → ClassId} {σ : St} {N : Nat} {v1 : Int32} {r : Int32} {σ' : St} (h : X7_classNow N v1 σ = some (r, σ')) : MetI l yX7_classNow cX7_classNow 2 (some .int) 4 D (tyW cA) (wM a cA) EM [.ref (a 0), .int v1] σ r σ' := by
  refine mkI (by decide) (adrM a cA) (Or.inl rfl) (Nat.le_of_ble_eq_true rfl) ?_
  intro p e R s m args below meth c A Q ls X hR hp hl
  obtain ⟨hx, hb, -, hown, hts, -⟩ := id X
  unfold X7_classNow at h
  have hl := lv_sub (l' := [(0, .ref (a 0)), (1, .int v1)]) hl [0, 1] rfl
  refine lv_aload_n hx hb dX7_classNow_0 rfl (lv_at hl 0 rfl) ?_
  obtain ⟨t1, ht1, h⟩ := bd_s h
  refine cl_Vv X eokM (c_X7_layClasses ht1) tw_27_14 mw_X7_layClasses (by decide) hp 0 rfl rfl rfl hl.1 rfl (Nat.le_of_ble_eq_true rfl) dX7_classNow_1 (fun H locs hp => ?_)
  refine lv_aload_n hx hb dX7_classNow_4 rfl (lv_at hl 0 rfl) ?_
  refine gM_X7_classOf X hp tw_6_0 dX7_classNow_5 ?_
  refine lv_iload_n hx hb dX7_classNow_8 rfl (lv_at hl 1 rfl) ?_
  obtain ⟨g2, h⟩ := gd_s h
  refine lM_X7_classOf X hp g2 dX7_classNow_9 ?_
  exact hR _ _ _ _ _ _ dX7_classNow_10 hp (congrArg Prod.fst (Option.some.inj h)) (congrArg Prod.snd (Option.some.inj h)) (fun q => by cases q)
def X7_stateNow (N : Nat) (v1 : Int32) (v2 : Int32) (σ : St) : Option (Int32 × St) :=
  if v2 = (0 : Int32) then
    bd (X7_has (σ.2.1 0) v1) (fun t1 =>
    if t1 = 0 then
      some ((0 : Int32), σ)
    else
      some ((1 : Int32), σ))
  else if v2 = (1 : Int32) then
    bd (X7_has (σ.2.1 1) v1) (fun t3 =>
    if t3 = 0 then
      some ((0 : Int32), σ)
    else
      some ((1 : Int32), σ))
  else if v2 = (2 : Int32) then
    bd (X7_farOf N v1 (0 : Int32) σ) (fun t5 =>
    some (t5.1, t5.2))
  else if v2 = (3 : Int32) then
    bd (X7_farOf N v1 (1 : Int32) σ) (fun t6 =>
    some (t6.1, t6.2))
  else 
    bd (X7_classNow N v1 σ) (fun t7 =>
    some (t7.1, t7.2))
set_option maxRecDepth 20000 in
set_option maxHeartbeats 4000000 in
theorem c_X7_stateNow {l : Launch} {D : va_G} {a : Nat → Nat} {cA : Nat → ClassId} {σ : St} {N : Nat} {v1 : Int32} {v2 : Int32} {r : Int32} {σ' : St} (h : X7_stateNow N v1 v2 σ = some (r, σ')) : MetI l yX7_stateNow cX7_stateNow 3 (some .int) 5 D (tyW cA) (wM a cA) EM [.ref (a 0), .int v1, .int v2] σ r σ' := by
  refine mkI (by decide) (adrM a cA) (Or.inl rfl) (Nat.le_of_ble_eq_true rfl) ?_
  intro p e R s m args below meth c A Q ls X hR hp hl
  obtain ⟨hx, hb, -, hown, hts, -⟩ := id X
  unfold X7_stateNow at h
  have hl := lv_sub (l' := [(0, .ref (a 0)), (1, .int v1), (2, .int v2)]) hl [0, 1, 2] rfl
  refine lv_iload_n hx hb dX7_stateNow_0 rfl (lv_at hl 2 rfl) ?_
  by_cases cs8 : v2 = (0 : Int32)
  · have h := it_p h cs8
    refine tsI (tgt := 32) (off := 31) (k := (0 : Int32)) hx hb dX7_stateNow_1 cs8 (by decide) (by decide) (by decide) (by decide) ?_
    refine lv_aload_n hx hb dX7_stateNow_32 rfl (lv_at hl 0 rfl) ?_
    refine gM_X7_init X hp tw_6_17 dX7_stateNow_33 ?_
    refine lv_iload_n hx hb dX7_stateNow_36 rfl (lv_at hl 1 rfl) ?_
    obtain ⟨t1, ht1, h⟩ := bd_s h
    refine cl_Si X eokM (c_X7_has (adrM a cA) eokM ht1) tw_18_3 mw_X7_has (by decide) hp hl.1 rfl (Nat.le_of_ble_eq_true rfl) dX7_stateNow_37 (fun H locs hp => ?_)
    refine lv_if_eq (tgt := 47) hx hb dX7_stateNow_40 (by decide) (fun c2 => ?_) (fun c2 => ?_)
    · have h := it_p h c2
      refine lv_iconst (v := 0) hx hb dX7_stateNow_47 (by decide) ?_
      exact hR _ _ _ _ _ _ dX7_stateNow_48 hp (congrArg Prod.fst (Option.some.inj h)) (congrArg Prod.snd (Option.some.inj h)) (fun q => by cases q)
    · have h := it_n h c2
      refine lv_iconst (v := 1) hx hb dX7_stateNow_43 (by decide) ?_
      refine lv_goto (tgt := 48) hx hb dX7_stateNow_44 (by decide) ?_
      exact hR _ _ _ _ _ _ dX7_stateNow_48 hp (congrArg Prod.fst (Option.some.inj h)) (congrArg Prod.snd (Option.some.inj h)) (fun q => by cases q)
  have h := it_n h cs8
  by_cases cs9 : v2 = (1 : Int32)
  · have h := it_p h cs9
    refine tsI (tgt := 49) (off := 48) (k := (1 : Int32)) hx hb dX7_stateNow_1 cs9 (by decide) (by decide) (by decide) (by decide) ?_
    refine lv_aload_n hx hb dX7_stateNow_49 rfl (lv_at hl 0 rfl) ?_
    refine gM_X7_good X hp tw_6_18 dX7_stateNow_50 ?_
    refine lv_iload_n hx hb dX7_stateNow_53 rfl (lv_at hl 1 rfl) ?_
    obtain ⟨t3, ht3, h⟩ := bd_s h
    refine cl_Si X eokM (c_X7_has (adrM a cA) eokM ht3) tw_18_3 mw_X7_has (by decide) hp hl.1 rfl (Nat.le_of_ble_eq_true rfl) dX7_stateNow_54 (fun H locs hp => ?_)
    refine lv_if_eq (tgt := 64) hx hb dX7_stateNow_57 (by decide) (fun c4 => ?_) (fun c4 => ?_)
    · have h := it_p h c4
      refine lv_iconst (v := 0) hx hb dX7_stateNow_64 (by decide) ?_
      exact hR _ _ _ _ _ _ dX7_stateNow_65 hp (congrArg Prod.fst (Option.some.inj h)) (congrArg Prod.snd (Option.some.inj h)) (fun q => by cases q)
    · have h := it_n h c4
      refine lv_iconst (v := 1) hx hb dX7_stateNow_60 (by decide) ?_
      refine lv_goto (tgt := 65) hx hb dX7_stateNow_61 (by decide) ?_
      exact hR _ _ _ _ _ _ dX7_stateNow_65 hp (congrArg Prod.fst (Option.some.inj h)) (congrArg Prod.snd (Option.some.inj h)) (fun q => by cases q)
  have h := it_n h cs9
  by_cases cs10 : v2 = (2 : Int32)
  · have h := it_p h cs10
    refine tsI (tgt := 66) (off := 65) (k := (2 : Int32)) hx hb dX7_stateNow_1 cs10 (by decide) (by decide) (by decide) (by decide) ?_
    refine lv_aload_n hx hb dX7_stateNow_66 rfl (lv_at hl 0 rfl) ?_
    refine lv_iload_n hx hb dX7_stateNow_67 rfl (lv_at hl 1 rfl) ?_
    refine lv_iconst (v := 0) hx hb dX7_stateNow_68 (by decide) ?_
    obtain ⟨t5, ht5, h⟩ := bd_s h
    refine cl_Vi X eokM (c_X7_farOf ht5) tw_26_14 mw_X7_farOf (by decide) hp 0 rfl rfl rfl hl.1 rfl (Nat.le_of_ble_eq_true rfl) dX7_stateNow_69 (fun H locs hp => ?_)
    exact hR _ _ _ _ _ _ dX7_stateNow_72 hp (congrArg Prod.fst (Option.some.inj h)) (congrArg Prod.snd (Option.some.inj h)) (fun q => by cases q)
  have h := it_n h cs10
  by_cases cs11 : v2 = (3 : Int32)
  · have h := it_p h cs11
    refine tsI (tgt := 73) (off := 72) (k := (3 : Int32)) hx hb dX7_stateNow_1 cs11 (by decide) (by decide) (by decide) (by decide) ?_
    refine lv_aload_n hx hb dX7_stateNow_73 rfl (lv_at hl 0 rfl) ?_
    refine lv_iload_n hx hb dX7_stateNow_74 rfl (lv_at hl 1 rfl) ?_
    refine lv_iconst (v := 1) hx hb dX7_stateNow_75 (by decide) ?_
    obtain ⟨t6, ht6, h⟩ := bd_s h
    refine cl_Vi X eokM (c_X7_farOf ht6) tw_26_14 mw_X7_farOf (by decide) hp 0 rfl rfl rfl hl.1 rfl (Nat.le_of_ble_eq_true rfl) dX7_stateNow_76 (fun H locs hp => ?_)
    exact hR _ _ _ _ _ _ dX7_stateNow_79 hp (congrArg Prod.fst (Option.some.inj h)) (congrArg Prod.snd (Option.some.inj h)) (fun q => by cases q)
  have h := it_n h cs11
  have ncs8 : ¬ (v2).toInt = 0 := lv_neT cs8 (by decide)
  have ncs9 : ¬ (v2).toInt = 1 := lv_neT cs9 (by decide)
  have ncs10 : ¬ (v2).toInt = 2 := lv_neT cs10 (by decide)
  have ncs11 : ¬ (v2).toInt = 3 := lv_neT cs11 (by decide)
  refine lv_tableOut (tgt := 80) hx hb dX7_stateNow_1 (by omega) (by decide) ?_
  refine lv_aload_n hx hb dX7_stateNow_80 rfl (lv_at hl 0 rfl) ?_
  refine lv_iload_n hx hb dX7_stateNow_81 rfl (lv_at hl 1 rfl) ?_
  obtain ⟨t7, ht7, h⟩ := bd_s h
  refine cl_Vi X eokM (c_X7_classNow ht7) tw_27_10 mw_X7_classNow (by decide) hp 0 rfl rfl rfl hl.1 rfl (Nat.le_of_ble_eq_true rfl) dX7_stateNow_82 (fun H locs hp => ?_)
  exact hR _ _ _ _ _ _ dX7_stateNow_85 hp (congrArg Prod.fst (Option.some.inj h)) (congrArg Prod.snd (Option.some.inj h)) (fun q => by cases q)
def X7_state_33 (N : Nat) (v1 : Int32) (v2 : Int32) (u0 : Int32) (σ : St) : Option (Int32 × St) :=
  nm (si σ 0 u0) (fun (σ1 : St) =>
  if (σ1.1 0) ≤ 0 then
    bd (X7_stateNow N v1 v2 σ1) (fun t3 =>
    some (t3.1, t3.2))
  else
    some ((0 : Int32), σ1))
def X7_state (N : Nat) (v1 : Int32) (v2 : Int32) (σ : St) : Option (Int32 × St) :=
  bd (X7_states σ) (fun t1 =>
  bd (X7_within v1 (0 : Int32) (t1 - (1 : Int32))) (fun t2 =>
  if t2 = 0 then
    X7_state_33 N v1 v2 (1 : Int32) σ
  else
    bd (X7_within v2 (0 : Int32) (4 : Int32)) (fun t4 =>
    if t4 = 0 then
      X7_state_33 N v1 v2 (2 : Int32) σ
    else
      X7_state_33 N v1 v2 (0 : Int32) σ)))
set_option maxRecDepth 20000 in
set_option maxHeartbeats 4000000 in
theorem c_X7_state {l : Launch} {D : va_G} {a : Nat → Nat} {cA : Nat → ClassId} {σ : St} {N : Nat} {v1 : Int32} {v2 : Int32} {r : Int32} {σ' : St} (h : X7_state N v1 v2 σ = some (r, σ')) : MetI l yX7_state cX7_state 3 (some .int) 6 D (tyW cA) (wM a cA) EM [.ref (a 0), .int v1, .int v2] σ r σ' := by
  refine mkI (by decide) (adrM a cA) (Or.inl rfl) (Nat.le_of_ble_eq_true rfl) ?_
  intro p e R s m args below meth c A Q ls X hR hp hl
  obtain ⟨hx, hb, -, hown, hts, -⟩ := id X
  have J_33 : ∀ (v1 : Int32) (v2 : Int32) (u0 : Int32) (σ : St) (H : Heap) (locs : List Loc) (ls : Array Slot), Pw D (wM a cA) A s.heap H locs σ → lv_has ls 3 [(0, .ref (a 0)), (1, .int v1), (2, .int v2)] → X7_state_33 N v1 v2 u0 σ = some (r, σ') → W p l e R s m args below meth c H locs 0 0 Q (F0 m 33 ls [.int u0, .ref (a 0)]) := by
    intro v1 v2 u0 σ H locs ls hp hl h
    unfold X7_state_33 at h
    refine pM_X7_thrown X hp tw_8_9 dX7_state_33 (fun H locs σ1 eσ1 hp => ?_)
    have h := nm_s h σ1 eσ1
    refine lv_aload_n hx hb dX7_state_36 rfl (lv_at hl 0 rfl) ?_
    refine gM_X7_thrown X hp tw_8_9 dX7_state_37 ?_
    refine lv_if_le (tgt := 47) hx hb dX7_state_40 (by decide) (fun c2 => ?_) (fun c2 => ?_)
    · have h := it_p h c2
      refine lv_aload_n hx hb dX7_state_47 rfl (lv_at hl 0 rfl) ?_
      refine lv_iload_n hx hb dX7_state_48 rfl (lv_at hl 1 rfl) ?_
      refine lv_iload_n hx hb dX7_state_49 rfl (lv_at hl 2 rfl) ?_
      obtain ⟨t3, ht3, h⟩ := bd_s h
      refine cl_Vi X eokM (c_X7_stateNow ht3) tw_26_10 mw_X7_stateNow (by decide) hp 0 rfl rfl rfl hl.1 rfl (Nat.le_of_ble_eq_true rfl) dX7_state_50 (fun H locs hp => ?_)
      exact hR _ _ _ _ _ _ dX7_state_53 hp (congrArg Prod.fst (Option.some.inj h)) (congrArg Prod.snd (Option.some.inj h)) (fun q => by cases q)
    · have h := it_n h c2
      refine lv_iconst (v := 0) hx hb dX7_state_43 (by decide) ?_
      refine lv_goto (tgt := 53) hx hb dX7_state_44 (by decide) ?_
      exact hR _ _ _ _ _ _ dX7_state_53 hp (congrArg Prod.fst (Option.some.inj h)) (congrArg Prod.snd (Option.some.inj h)) (fun q => by cases q)
  unfold X7_state at h
  have hl := lv_sub (l' := [(0, .ref (a 0)), (1, .int v1), (2, .int v2)]) hl [0, 1, 2] rfl
  refine lv_aload_n hx hb dX7_state_0 rfl (lv_at hl 0 rfl) ?_
  refine lv_iload_n hx hb dX7_state_1 rfl (lv_at hl 1 rfl) ?_
  refine lv_iconst (v := 0) hx hb dX7_state_2 (by decide) ?_
  refine lv_aload_n hx hb dX7_state_3 rfl (lv_at hl 0 rfl) ?_
  obtain ⟨t1, ht1, h⟩ := bd_s h
  refine cl_Vi X eokM (c_X7_states ht1) tw_7_1 mw_X7_states (by decide) hp 0 rfl rfl rfl hl.1 rfl (Nat.le_of_ble_eq_true rfl) dX7_state_4 (fun H locs hp => ?_)
  refine lv_iconst (v := 1) hx hb dX7_state_7 (by decide) ?_
  refine lv_isub hx hb dX7_state_8 ?_
  obtain ⟨t2, ht2, h⟩ := bd_s h
  refine cl_Si X eokM (c_X7_within (adrM a cA) eokM ht2) tw_8_10 mw_X7_within (by decide) hp hl.1 rfl (Nat.le_of_ble_eq_true rfl) dX7_state_9 (fun H locs hp => ?_)
  refine lv_if_ne (tgt := 19) hx hb dX7_state_12 (by decide) (fun c3 => ?_) (fun c3 => ?_)
  · have h := it_n h c3
    refine lv_iload_n hx hb dX7_state_19 rfl (lv_at hl 2 rfl) ?_
    refine lv_iconst (v := 0) hx hb dX7_state_20 (by decide) ?_
    refine lv_iconst (v := 4) hx hb dX7_state_21 (by decide) ?_
    obtain ⟨t4, ht4, h⟩ := bd_s h
    refine cl_Si X eokM (c_X7_within (adrM a cA) eokM ht4) tw_8_10 mw_X7_within (by decide) hp hl.1 rfl (Nat.le_of_ble_eq_true rfl) dX7_state_22 (fun H locs hp => ?_)
    refine lv_if_eq (tgt := 32) hx hb dX7_state_25 (by decide) (fun c5 => ?_) (fun c5 => ?_)
    · have h := it_p h c5
      refine lv_iconst (v := 2) hx hb dX7_state_32 (by decide) ?_
      exact J_33 v1 v2 (2 : Int32) σ _ _ _ hp (lv_sub hl [0, 1, 2] rfl) h
    · have h := it_n h c5
      refine lv_iconst (v := 0) hx hb dX7_state_28 (by decide) ?_
      refine lv_goto (tgt := 33) hx hb dX7_state_29 (by decide) ?_
      exact J_33 v1 v2 (0 : Int32) σ _ _ _ hp (lv_sub hl [0, 1, 2] rfl) h
  · have h := it_p h c3
    refine lv_iconst (v := 1) hx hb dX7_state_15 (by decide) ?_
    refine lv_goto (tgt := 33) hx hb dX7_state_16 (by decide) ?_
    exact J_33 v1 v2 (1 : Int32) σ _ _ _ hp (lv_sub hl [0, 1, 2] rfl) h
def X7_reached_42 (k16 : (Int32 → Int32 → Int32 → St → Option (Int32 × St))) (v1 : Int32) (v3 : Int32) (v4 : Int32) (u0 : Int32) (u1 : Int32) (σ : St) : Option (Int32 × St) :=
  nm (u1 + u0) (fun (x1 : Int32) =>
  gd (inb v4 64) (
  if (σ.2.2.1 3 v4.toNatClampNeg) ≤ v3 then
    nm (v4 + (1 : Int32)) (fun (x4 : Int32) =>
    k16 x1 v3 x4 σ)
  else
    gd (inb v4 64) (
    nm (σ.2.2.1 3 v4.toNatClampNeg) (fun (x6 : Int32) =>
    nm (v4 + (1 : Int32)) (fun (x7 : Int32) =>
    k16 x1 x6 x7 σ)))))
def X7_reached_16b (k16 : (Int32 → Int32 → Int32 → St → Option (Int32 × St))) (k73 : (Int32 → Int32 → Int32 → St → Option (Int32 × St))) (v1 : Int32) (v2 : Int32) (v3 : Int32) (v4 : Int32) (σ : St) : Option (Int32 × St) :=
  bd (X7_states σ) (fun t1 =>
  if t1 ≤ v4 then
    k73 v1 v2 v3 σ
  else
    gd (inb v4 64) (
    if (σ.2.2.1 3 v4.toNatClampNeg) = (-1 : Int32) then
      X7_reached_42 k16 v1 v3 v4 (0 : Int32) v2 σ
    else
      X7_reached_42 k16 v1 v3 v4 (1 : Int32) v2 σ))
def X7_reached_16 (k73 : (Int32 → Int32 → Int32 → St → Option (Int32 × St))) (v1 : Int32) : Nat → Int32 → Int32 → Int32 → St → Option (Int32 × St)
  | 0, _, _, _, _ => none
  | n + 1, v2, v3, v4, σ => X7_reached_16b (fun v2 v3 v4 σ => X7_reached_16 k73 v1 n v2 v3 v4 σ) k73 v1 v2 v3 v4 σ
def X7_reached_73 (v1 : Int32) (v2 : Int32) (v3 : Int32) (σ : St) : Option (Int32 × St) :=
  if v1 = 0 then
    some (v2, σ)
  else
    some (v3, σ)
def X7_reached (N : Nat) (v1 : Int32) (σ : St) : Option (Int32 × St) :=
  bd (X7_layFar N (σ.2.1 0) (0 : Int32) σ) (fun t1 =>
  X7_reached_16 (fun v1 v2 v3 σ => X7_reached_73 v1 v2 v3 σ) v1 N (0 : Int32) (-1 : Int32) (0 : Int32) t1)
set_option maxRecDepth 20000 in
set_option maxHeartbeats 4000000 in
theorem c_X7_reached {l : Launch} {D : va_G} {a : Nat → Nat} {cA : Nat → ClassId} {σ : St} {N : Nat} {v1 : Int32} {r : Int32} {σ' : St} (h : X7_reached N v1 σ = some (r, σ')) : MetI l yX7_reached cX7_reached 5 (some .int) 4 D (tyW cA) (wM a cA) EM [.ref (a 0), .int v1] σ r σ' := by
  refine mkI (by decide) (adrM a cA) (Or.inl rfl) (Nat.le_of_ble_eq_true rfl) ?_
  intro p e R s m args below meth c A Q ls X hR hp hl
  obtain ⟨hx, hb, -, hown, hts, -⟩ := id X
  have J_42 : ∀ (v1 : Int32) (v3 : Int32) (v4 : Int32) (u0 : Int32) (u1 : Int32) (k16 : (Int32 → Int32 → Int32 → St → Option (Int32 × St))) (hk16 : ∀ (v2 : Int32) (v3 : Int32) (v4 : Int32) (σ : St) (H : Heap) (locs : List Loc) (ls : Array Slot), Pw D (wM a cA) A s.heap H locs σ → lv_has ls 5 [(0, .ref (a 0)), (1, .int v1), (2, .int v2), (3, .int v3), (4, .int v4)] → k16 v2 v3 v4 σ = some (r, σ') → W p l e R s m args below meth c H locs 0 0 Q (F0 m 16 ls [])) (σ : St) (H : Heap) (locs : List Loc) (ls : Array Slot), Pw D (wM a cA) A s.heap H locs σ → lv_has ls 5 [(0, .ref (a 0)), (1, .int v1), (3, .int v3), (4, .int v4)] → X7_reached_42 k16 v1 v3 v4 u0 u1 σ = some (r, σ') → W p l e R s m args below meth c H locs 0 0 Q (F0 m 42 ls [.int u0, .int u1]) := by
    intro v1 v3 v4 u0 u1 k16 hk16 σ H locs ls hp hl h
    unfold X7_reached_42 at h
    refine lv_iadd hx hb dX7_reached_42 ?_
    refine lv_topi (fun x1 ex1 => ?_)
    have h := nm_s h x1 ex1
    refine lv_istore_n (lv' := [(2, .int x1), (0, .ref (a 0)), (1, .int v1), (3, .int v3), (4, .int v4)]) hx hb dX7_reached_43 rfl hl (by decide) rfl (fun ls hl => ?_)
    refine lv_aload_n hx hb dX7_reached_44 rfl (lv_at hl 1 rfl) ?_
    refine gM_X7_far X hp tw_5_23 dX7_reached_45 ?_
    refine lv_iload hx hb dX7_reached_48 (lv_at hl 4 rfl) ?_
    obtain ⟨g2, h⟩ := gd_s h
    refine lM_X7_far X hp g2 dX7_reached_50 ?_
    refine lv_iload_n hx hb dX7_reached_51 rfl (lv_at hl 3 rfl) ?_
    refine lv_icmp_le (tgt := 65) hx hb dX7_reached_52 (by decide) (fun c3 => ?_) (fun c3 => ?_)
    · have h := it_p h c3
      refine lv_iload_n hx hb dX7_reached_65 rfl (lv_at hl 3 rfl) ?_
      refine lv_istore_n (lv' := [(3, .int v3), (2, .int x1), (0, .ref (a 0)), (1, .int v1), (4, .int v4)]) hx hb dX7_reached_66 rfl hl (by decide) rfl (fun ls hl => ?_)
      obtain ⟨x4, ex4⟩ : ∃ z : Int32, z = v4 + (1 : Int32) := ⟨_, rfl⟩
      have h := nm_s h x4 ex4
      refine lv_iinc (v := x4) (lv' := [(4, .int x4), (3, .int v3), (2, .int x1), (0, .ref (a 0)), (1, .int v1)]) hx hb dX7_reached_67 hl (k := 4) rfl (by rw [ex4]; rfl) (by decide) rfl (fun ls hl => ?_)
      refine lv_goto (tgt := 16) hx hb dX7_reached_70 (by decide) ?_
      exact hk16 x1 v3 x4 σ _ _ _ hp (lv_sub hl [3, 4, 2, 1, 0] rfl) h
    · have h := it_n h c3
      refine lv_aload_n hx hb dX7_reached_55 rfl (lv_at hl 1 rfl) ?_
      refine gM_X7_far X hp tw_5_23 dX7_reached_56 ?_
      refine lv_iload hx hb dX7_reached_59 (lv_at hl 4 rfl) ?_
      obtain ⟨g5, h⟩ := gd_s h
      refine lM_X7_far X hp g5 dX7_reached_61 ?_
      refine lv_goto (tgt := 66) hx hb dX7_reached_62 (by decide) ?_
      refine lv_topi (fun x6 ex6 => ?_)
      have h := nm_s h x6 ex6
      refine lv_istore_n (lv' := [(3, .int x6), (2, .int x1), (0, .ref (a 0)), (1, .int v1), (4, .int v4)]) hx hb dX7_reached_66 rfl hl (by decide) rfl (fun ls hl => ?_)
      obtain ⟨x7, ex7⟩ : ∃ z : Int32, z = v4 + (1 : Int32) := ⟨_, rfl⟩
      have h := nm_s h x7 ex7
      refine lv_iinc (v := x7) (lv' := [(4, .int x7), (3, .int x6), (2, .int x1), (0, .ref (a 0)), (1, .int v1)]) hx hb dX7_reached_67 hl (k := 4) rfl (by rw [ex7]; rfl) (by decide) rfl (fun ls hl => ?_)
      refine lv_goto (tgt := 16) hx hb dX7_reached_70 (by decide) ?_
      exact hk16 x1 x6 x7 σ _ _ _ hp (lv_sub hl [3, 4, 2, 1, 0] rfl) h
  have J_16 : ∀ (v1 : Int32) (k73 : (Int32 → Int32 → Int32 → St → Option (Int32 × St))) (hk73 : ∀ (v1 : Int32) (v2 : Int32) (v3 : Int32) (σ : St) (H : Heap) (locs : List Loc) (ls : Array Slot), Pw D (wM a cA) A s.heap H locs σ → lv_has ls 5 [(0, .ref (a 0)), (1, .int v1), (2, .int v2), (3, .int v3)] → k73 v1 v2 v3 σ = some (r, σ') → W p l e R s m args below meth c H locs 0 0 Q (F0 m 73 ls [])) (n : Nat) (v2 : Int32) (v3 : Int32) (v4 : Int32) (σ : St) (H : Heap) (locs : List Loc) (ls : Array Slot), Pw D (wM a cA) A s.heap H locs σ → lv_has ls 5 [(0, .ref (a 0)), (1, .int v1), (2, .int v2), (3, .int v3), (4, .int v4)] → X7_reached_16 k73 v1 n v2 v3 v4 σ = some (r, σ') → W p l e R s m args below meth c H locs 0 0 Q (F0 m 16 ls []) := by
    intro v1 k73 hk73 n
    induction n with
    | zero => intro v2 v3 v4 σ H locs ls hp hl h; exact nn_s (show (none : Option (Int32 × St)) = some _ from h)
    | succ n ih =>
      intro v2 v3 v4 σ H locs ls hp hl h
      have h : X7_reached_16b (fun v2 v3 v4 σ => X7_reached_16 k73 v1 n v2 v3 v4 σ) k73 v1 v2 v3 v4 σ = some (r, σ') := h
      unfold X7_reached_16b at h
      have hk16 := ih
      refine lv_iload hx hb dX7_reached_16 (lv_at hl 4 rfl) ?_
      refine lv_aload_n hx hb dX7_reached_18 rfl (lv_at hl 0 rfl) ?_
      obtain ⟨t1, ht1, h⟩ := bd_s h
      refine cl_Vi X eokM (c_X7_states ht1) tw_7_1 mw_X7_states (by decide) hp 0 rfl rfl rfl hl.1 rfl (Nat.le_of_ble_eq_true rfl) dX7_reached_19 (fun H locs hp => ?_)
      refine lv_icmp_ge (tgt := 73) hx hb dX7_reached_22 (by decide) (fun c2 => ?_) (fun c2 => ?_)
      · have h := it_p h c2
        exact hk73 v1 v2 v3 σ _ _ _ hp (lv_sub hl [0, 1, 2, 3] rfl) h
      · have h := it_n h c2
        refine lv_iload_n hx hb dX7_reached_25 rfl (lv_at hl 2 rfl) ?_
        refine lv_aload_n hx hb dX7_reached_26 rfl (lv_at hl 0 rfl) ?_
        refine gM_X7_far X hp tw_5_23 dX7_reached_27 ?_
        refine lv_iload hx hb dX7_reached_30 (lv_at hl 4 rfl) ?_
        obtain ⟨g3, h⟩ := gd_s h
        refine lM_X7_far X hp g3 dX7_reached_32 ?_
        refine lv_iconst (v := -1) hx hb dX7_reached_33 (by decide) ?_
        refine lv_icmp_ne (tgt := 41) hx hb dX7_reached_34 (by decide) (fun c4 => ?_) (fun c4 => ?_)
        · have h := it_n h c4
          refine lv_iconst (v := 1) hx hb dX7_reached_41 (by decide) ?_
          exact J_42 v1 v3 v4 (1 : Int32) v2 _ hk16 σ _ _ _ hp (lv_sub hl [0, 1, 3, 4] rfl) h
        · have h := it_p h c4
          refine lv_iconst (v := 0) hx hb dX7_reached_37 (by decide) ?_
          refine lv_goto (tgt := 42) hx hb dX7_reached_38 (by decide) ?_
          exact J_42 v1 v3 v4 (0 : Int32) v2 _ hk16 σ _ _ _ hp (lv_sub hl [0, 1, 3, 4] rfl) h
  have J_73 : ∀ (v1 : Int32) (v2 : Int32) (v3 : Int32) (σ : St) (H : Heap) (locs : List Loc) (ls : Array Slot), Pw D (wM a cA) A s.heap H locs σ → lv_has ls 5 [(0, .ref (a 0)), (1, .int v1), (2, .int v2), (3, .int v3)] → X7_reached_73 v1 v2 v3 σ = some (r, σ') → W p l e R s m args below meth c H locs 0 0 Q (F0 m 73 ls []) := by
    intro v1 v2 v3 σ H locs ls hp hl h
    unfold X7_reached_73 at h
    refine lv_iload_n hx hb dX7_reached_73 rfl (lv_at hl 1 rfl) ?_
    refine lv_if_eq (tgt := 81) hx hb dX7_reached_74 (by decide) (fun c1 => ?_) (fun c1 => ?_)
    · have h := it_p h c1
      refine lv_iload_n hx hb dX7_reached_81 rfl (lv_at hl 2 rfl) ?_
      exact hR _ _ _ _ _ _ dX7_reached_82 hp (congrArg Prod.fst (Option.some.inj h)) (congrArg Prod.snd (Option.some.inj h)) (fun q => by cases q)
    · have h := it_n h c1
      refine lv_iload_n hx hb dX7_reached_77 rfl (lv_at hl 3 rfl) ?_
      refine lv_goto (tgt := 82) hx hb dX7_reached_78 (by decide) ?_
      exact hR _ _ _ _ _ _ dX7_reached_82 hp (congrArg Prod.fst (Option.some.inj h)) (congrArg Prod.snd (Option.some.inj h)) (fun q => by cases q)
  unfold X7_reached at h
  have hl := lv_sub (l' := [(0, .ref (a 0)), (1, .int v1)]) hl [0, 1] rfl
  refine lv_aload_n hx hb dX7_reached_0 rfl (lv_at hl 0 rfl) ?_
  refine lv_aload_n hx hb dX7_reached_1 rfl (lv_at hl 0 rfl) ?_
  refine gM_X7_init X hp tw_6_17 dX7_reached_2 ?_
  refine lv_iconst (v := 0) hx hb dX7_reached_5 (by decide) ?_
  obtain ⟨t1, ht1, h⟩ := bd_s h
  refine cl_Vv X eokM (c_X7_layFar ht1) tw_26_22 mw_X7_layFar (by decide) hp 0 rfl rfl rfl hl.1 rfl (Nat.le_of_ble_eq_true rfl) dX7_reached_6 (fun H locs hp => ?_)
  refine lv_iconst (v := 0) hx hb dX7_reached_9 (by decide) ?_
  refine lv_istore_n (lv' := [(2, .int (0 : Int32)), (0, .ref (a 0)), (1, .int v1)]) hx hb dX7_reached_10 rfl hl (by decide) rfl (fun ls hl => ?_)
  refine lv_iconst (v := -1) hx hb dX7_reached_11 (by decide) ?_
  refine lv_istore_n (lv' := [(3, .int (-1 : Int32)), (2, .int (0 : Int32)), (0, .ref (a 0)), (1, .int v1)]) hx hb dX7_reached_12 rfl hl (by decide) rfl (fun ls hl => ?_)
  refine lv_iconst (v := 0) hx hb dX7_reached_13 (by decide) ?_
  refine lv_istore (lv' := [(4, .int (0 : Int32)), (3, .int (-1 : Int32)), (2, .int (0 : Int32)), (0, .ref (a 0)), (1, .int v1)]) hx hb dX7_reached_14 hl (by decide) rfl (fun ls hl => ?_)
  exact J_16 v1 _ (fun v1 v2 v3 σ H locs ls hp hl h => J_73 v1 v2 v3 σ _ _ _ hp hl h) _ (0 : Int32) (-1 : Int32) (0 : Int32) t1 _ _ _ hp (lv_sub hl [3, 4, 2, 1, 0] rfl) h
def X7_classes_8b (k8 : (Int32 → Int32 → St → Option (Int32 × St))) (k40 : (Int32 → St → Option (Int32 × St))) (v1 : Int32) (v2 : Int32) (σ : St) : Option (Int32 × St) :=
  bd (X7_states σ) (fun t1 =>
  if t1 ≤ v2 then
    k40 v1 σ
  else
    gd (inb v2 64) (
    if (σ.2.2.1 4 v2.toNatClampNeg) = v2 then
      nm (v1 + (1 : Int32)) (fun (x7 : Int32) =>
      nm (v2 + (1 : Int32)) (fun (x8 : Int32) =>
      k8 x7 x8 σ))
    else
      nm (v1 + (0 : Int32)) (fun (x5 : Int32) =>
      nm (v2 + (1 : Int32)) (fun (x6 : Int32) =>
      k8 x5 x6 σ))))
def X7_classes_8 (k40 : (Int32 → St → Option (Int32 × St))) : Nat → Int32 → Int32 → St → Option (Int32 × St)
  | 0, _, _, _ => none
  | n + 1, v1, v2, σ => X7_classes_8b (fun v1 v2 σ => X7_classes_8 k40 n v1 v2 σ) k40 v1 v2 σ
def X7_classes_40 (v1 : Int32) (σ : St) : Option (Int32 × St) :=
  some (v1, σ)
def X7_classes (N : Nat) (σ : St) : Option (Int32 × St) :=
  bd (X7_layClasses N σ) (fun t1 =>
  X7_classes_8 (fun v1 σ => X7_classes_40 v1 σ) N (0 : Int32) (0 : Int32) t1)
set_option maxRecDepth 20000 in
set_option maxHeartbeats 4000000 in
theorem c_X7_classes {l : Launch} {D : va_G} {a : Nat → Nat} {cA : Nat → ClassId} {σ : St} {N : Nat} {r : Int32} {σ' : St} (h : X7_classes N σ = some (r, σ')) : MetI l yX7_classes cX7_classes 3 (some .int) 4 D (tyW cA) (wM a cA) EM [.ref (a 0)] σ r σ' := by
  refine mkI (by decide) (adrM a cA) (Or.inl rfl) (Nat.le_of_ble_eq_true rfl) ?_
  intro p e R s m args below meth c A Q ls X hR hp hl
  obtain ⟨hx, hb, -, hown, hts, -⟩ := id X
  have J_8 : ∀  (k40 : (Int32 → St → Option (Int32 × St))) (hk40 : ∀ (v1 : Int32) (σ : St) (H : Heap) (locs : List Loc) (ls : Array Slot), Pw D (wM a cA) A s.heap H locs σ → lv_has ls 3 [(0, .ref (a 0)), (1, .int v1)] → k40 v1 σ = some (r, σ') → W p l e R s m args below meth c H locs 0 0 Q (F0 m 40 ls [])) (n : Nat) (v1 : Int32) (v2 : Int32) (σ : St) (H : Heap) (locs : List Loc) (ls : Array Slot), Pw D (wM a cA) A s.heap H locs σ → lv_has ls 3 [(0, .ref (a 0)), (1, .int v1), (2, .int v2)] → X7_classes_8 k40 n v1 v2 σ = some (r, σ') → W p l e R s m args below meth c H locs 0 0 Q (F0 m 8 ls []) := by
    intro k40 hk40 n
    induction n with
    | zero => intro v1 v2 σ H locs ls hp hl h; exact nn_s (show (none : Option (Int32 × St)) = some _ from h)
    | succ n ih =>
      intro v1 v2 σ H locs ls hp hl h
      have h : X7_classes_8b (fun v1 v2 σ => X7_classes_8 k40 n v1 v2 σ) k40 v1 v2 σ = some (r, σ') := h
      unfold X7_classes_8b at h
      have hk8 := ih
      refine lv_iload_n hx hb dX7_classes_8 rfl (lv_at hl 2 rfl) ?_
      refine lv_aload_n hx hb dX7_classes_9 rfl (lv_at hl 0 rfl) ?_
      obtain ⟨t1, ht1, h⟩ := bd_s h
      refine cl_Vi X eokM (c_X7_states ht1) tw_7_1 mw_X7_states (by decide) hp 0 rfl rfl rfl hl.1 rfl (Nat.le_of_ble_eq_true rfl) dX7_classes_10 (fun H locs hp => ?_)
      refine lv_icmp_ge (tgt := 40) hx hb dX7_classes_13 (by decide) (fun c2 => ?_) (fun c2 => ?_)
      · have h := it_p h c2
        exact hk40 v1 σ _ _ _ hp (lv_sub hl [0, 1] rfl) h
      · have h := it_n h c2
        refine lv_iload_n hx hb dX7_classes_16 rfl (lv_at hl 1 rfl) ?_
        refine lv_aload_n hx hb dX7_classes_17 rfl (lv_at hl 0 rfl) ?_
        refine gM_X7_classOf X hp tw_6_0 dX7_classes_18 ?_
        refine lv_iload_n hx hb dX7_classes_21 rfl (lv_at hl 2 rfl) ?_
        obtain ⟨g3, h⟩ := gd_s h
        refine lM_X7_classOf X hp g3 dX7_classes_22 ?_
        refine lv_iload_n hx hb dX7_classes_23 rfl (lv_at hl 2 rfl) ?_
        refine lv_icmp_ne (tgt := 31) hx hb dX7_classes_24 (by decide) (fun c4 => ?_) (fun c4 => ?_)
        · have h := it_n h c4
          refine lv_iconst (v := 0) hx hb dX7_classes_31 (by decide) ?_
          refine lv_iadd hx hb dX7_classes_32 ?_
          refine lv_topi (fun x5 ex5 => ?_)
          have h := nm_s h x5 ex5
          refine lv_istore_n (lv' := [(1, .int x5), (0, .ref (a 0)), (2, .int v2)]) hx hb dX7_classes_33 rfl hl (by decide) rfl (fun ls hl => ?_)
          obtain ⟨x6, ex6⟩ : ∃ z : Int32, z = v2 + (1 : Int32) := ⟨_, rfl⟩
          have h := nm_s h x6 ex6
          refine lv_iinc (v := x6) (lv' := [(2, .int x6), (1, .int x5), (0, .ref (a 0))]) hx hb dX7_classes_34 hl (k := 2) rfl (by rw [ex6]; rfl) (by decide) rfl (fun ls hl => ?_)
          refine lv_goto (tgt := 8) hx hb dX7_classes_37 (by decide) ?_
          exact hk8 x5 x6 σ _ _ _ hp (lv_sub hl [2, 1, 0] rfl) h
        · have h := it_p h c4
          refine lv_iconst (v := 1) hx hb dX7_classes_27 (by decide) ?_
          refine lv_goto (tgt := 32) hx hb dX7_classes_28 (by decide) ?_
          refine lv_iadd hx hb dX7_classes_32 ?_
          refine lv_topi (fun x7 ex7 => ?_)
          have h := nm_s h x7 ex7
          refine lv_istore_n (lv' := [(1, .int x7), (0, .ref (a 0)), (2, .int v2)]) hx hb dX7_classes_33 rfl hl (by decide) rfl (fun ls hl => ?_)
          obtain ⟨x8, ex8⟩ : ∃ z : Int32, z = v2 + (1 : Int32) := ⟨_, rfl⟩
          have h := nm_s h x8 ex8
          refine lv_iinc (v := x8) (lv' := [(2, .int x8), (1, .int x7), (0, .ref (a 0))]) hx hb dX7_classes_34 hl (k := 2) rfl (by rw [ex8]; rfl) (by decide) rfl (fun ls hl => ?_)
          refine lv_goto (tgt := 8) hx hb dX7_classes_37 (by decide) ?_
          exact hk8 x7 x8 σ _ _ _ hp (lv_sub hl [2, 1, 0] rfl) h
  have J_40 : ∀ (v1 : Int32) (σ : St) (H : Heap) (locs : List Loc) (ls : Array Slot), Pw D (wM a cA) A s.heap H locs σ → lv_has ls 3 [(0, .ref (a 0)), (1, .int v1)] → X7_classes_40 v1 σ = some (r, σ') → W p l e R s m args below meth c H locs 0 0 Q (F0 m 40 ls []) := by
    intro v1 σ H locs ls hp hl h
    unfold X7_classes_40 at h
    refine lv_iload_n hx hb dX7_classes_40 rfl (lv_at hl 1 rfl) ?_
    exact hR _ _ _ _ _ _ dX7_classes_41 hp (congrArg Prod.fst (Option.some.inj h)) (congrArg Prod.snd (Option.some.inj h)) (fun q => by cases q)
  unfold X7_classes at h
  have hl := lv_sub (l' := [(0, .ref (a 0))]) hl [0] rfl
  refine lv_aload_n hx hb dX7_classes_0 rfl (lv_at hl 0 rfl) ?_
  obtain ⟨t1, ht1, h⟩ := bd_s h
  refine cl_Vv X eokM (c_X7_layClasses ht1) tw_27_14 mw_X7_layClasses (by decide) hp 0 rfl rfl rfl hl.1 rfl (Nat.le_of_ble_eq_true rfl) dX7_classes_1 (fun H locs hp => ?_)
  refine lv_iconst (v := 0) hx hb dX7_classes_4 (by decide) ?_
  refine lv_istore_n (lv' := [(1, .int (0 : Int32)), (0, .ref (a 0))]) hx hb dX7_classes_5 rfl hl (by decide) rfl (fun ls hl => ?_)
  refine lv_iconst (v := 0) hx hb dX7_classes_6 (by decide) ?_
  refine lv_istore_n (lv' := [(2, .int (0 : Int32)), (1, .int (0 : Int32)), (0, .ref (a 0))]) hx hb dX7_classes_7 rfl hl (by decide) rfl (fun ls hl => ?_)
  exact J_8 _ (fun v1 σ H locs ls hp hl h => J_40 v1 σ _ _ _ hp hl h) _ (0 : Int32) (0 : Int32) t1 _ _ _ hp (lv_sub hl [2, 1, 0] rfl) h
def X7_runLength_67 (k13 : (Int32 → Int32 → St → Option (Int32 × St))) (v2 : Int32) (σ : St) : Option (Int32 × St) :=
  gd (inb v2 64) (
  nm (σ.2.2.1 3 v2.toNatClampNeg) (fun (x2 : Int32) =>
  nm (v2 + (1 : Int32)) (fun (x3 : Int32) =>
  k13 x2 x3 σ)))
def X7_runLength_47 (k13 : (Int32 → Int32 → St → Option (Int32 × St))) (v1 : Int32) (v2 : Int32) (u0 : Int32) (σ : St) : Option (Int32 × St) :=
  if u0 = 0 then
    nm (v2 + (1 : Int32)) (fun (x2 : Int32) =>
    k13 v1 x2 σ)
  else
    if v1 = (-1 : Int32) then
      X7_runLength_67 k13 v2 σ
    else
      gd (inb v2 64) (
      if v1 ≤ (σ.2.2.1 3 v2.toNatClampNeg) then
        nm (v2 + (1 : Int32)) (fun (x6 : Int32) =>
        k13 v1 x6 σ)
      else
        X7_runLength_67 k13 v2 σ)
def X7_runLength_13b (k13 : (Int32 → Int32 → St → Option (Int32 × St))) (k84 : (Int32 → St → Option (Int32 × St))) (v1 : Int32) (v2 : Int32) (σ : St) : Option (Int32 × St) :=
  bd (X7_states σ) (fun t1 =>
  if t1 ≤ v2 then
    k84 v1 σ
  else
    bd (X7_has (σ.2.1 0) v2) (fun t3 =>
    if t3 = 0 then
      X7_runLength_47 k13 v1 v2 (0 : Int32) σ
    else
      gd (inb v2 64) (
      if (σ.2.2.1 3 v2.toNatClampNeg) = (-1 : Int32) then
        X7_runLength_47 k13 v1 v2 (0 : Int32) σ
      else
        X7_runLength_47 k13 v1 v2 (1 : Int32) σ)))
def X7_runLength_13 (k84 : (Int32 → St → Option (Int32 × St))) : Nat → Int32 → Int32 → St → Option (Int32 × St)
  | 0, _, _, _ => none
  | n + 1, v1, v2, σ => X7_runLength_13b (fun v1 v2 σ => X7_runLength_13 k84 n v1 v2 σ) k84 v1 v2 σ
def X7_runLength_84 (v1 : Int32) (σ : St) : Option (Int32 × St) :=
  some (v1, σ)
def X7_runLength (N : Nat) (σ : St) : Option (Int32 × St) :=
  bd (X7_bad σ) (fun t1 =>
  bd (X7_layFar N t1 (1 : Int32) σ) (fun t2 =>
  X7_runLength_13 (fun v1 σ => X7_runLength_84 v1 σ) N (-1 : Int32) (0 : Int32) t2))
set_option maxRecDepth 20000 in
set_option maxHeartbeats 4000000 in
theorem c_X7_runLength {l : Launch} {D : va_G} {a : Nat → Nat} {cA : Nat → ClassId} {σ : St} {N : Nat} {r : Int32} {σ' : St} (h : X7_runLength N σ = some (r, σ')) : MetI l yX7_runLength cX7_runLength 4 (some .int) 4 D (tyW cA) (wM a cA) EM [.ref (a 0)] σ r σ' := by
  refine mkI (by decide) (adrM a cA) (Or.inl rfl) (Nat.le_of_ble_eq_true rfl) ?_
  intro p e R s m args below meth c A Q ls X hR hp hl
  obtain ⟨hx, hb, -, hown, hts, -⟩ := id X
  have J_67 : ∀ (v2 : Int32) (k13 : (Int32 → Int32 → St → Option (Int32 × St))) (hk13 : ∀ (v1 : Int32) (v2 : Int32) (σ : St) (H : Heap) (locs : List Loc) (ls : Array Slot), Pw D (wM a cA) A s.heap H locs σ → lv_has ls 4 [(0, .ref (a 0)), (1, .int v1), (2, .int v2)] → k13 v1 v2 σ = some (r, σ') → W p l e R s m args below meth c H locs 0 0 Q (F0 m 13 ls [])) (σ : St) (H : Heap) (locs : List Loc) (ls : Array Slot), Pw D (wM a cA) A s.heap H locs σ → lv_has ls 4 [(0, .ref (a 0)), (2, .int v2)] → X7_runLength_67 k13 v2 σ = some (r, σ') → W p l e R s m args below meth c H locs 0 0 Q (F0 m 67 ls []) := by
    intro v2 k13 hk13 σ H locs ls hp hl h
    unfold X7_runLength_67 at h
    refine lv_aload_n hx hb dX7_runLength_67 rfl (lv_at hl 0 rfl) ?_
    refine gM_X7_far X hp tw_5_23 dX7_runLength_68 ?_
    refine lv_iload_n hx hb dX7_runLength_71 rfl (lv_at hl 1 rfl) ?_
    obtain ⟨g1, h⟩ := gd_s h
    refine lM_X7_far X hp g1 dX7_runLength_72 ?_
    refine lv_goto (tgt := 77) hx hb dX7_runLength_73 (by decide) ?_
    refine lv_topi (fun x2 ex2 => ?_)
    have h := nm_s h x2 ex2
    refine lv_istore_n (lv' := [(1, .int x2), (0, .ref (a 0)), (2, .int v2)]) hx hb dX7_runLength_77 rfl hl (by decide) rfl (fun ls hl => ?_)
    obtain ⟨x3, ex3⟩ : ∃ z : Int32, z = v2 + (1 : Int32) := ⟨_, rfl⟩
    have h := nm_s h x3 ex3
    refine lv_iinc (v := x3) (lv' := [(2, .int x3), (1, .int x2), (0, .ref (a 0))]) hx hb dX7_runLength_78 hl (k := 2) rfl (by rw [ex3]; rfl) (by decide) rfl (fun ls hl => ?_)
    refine lv_goto (tgt := 13) hx hb dX7_runLength_81 (by decide) ?_
    exact hk13 x2 x3 σ _ _ _ hp (lv_sub hl [2, 1, 0] rfl) h
  have J_47 : ∀ (v1 : Int32) (v2 : Int32) (u0 : Int32) (k13 : (Int32 → Int32 → St → Option (Int32 × St))) (hk13 : ∀ (v1 : Int32) (v2 : Int32) (σ : St) (H : Heap) (locs : List Loc) (ls : Array Slot), Pw D (wM a cA) A s.heap H locs σ → lv_has ls 4 [(0, .ref (a 0)), (1, .int v1), (2, .int v2)] → k13 v1 v2 σ = some (r, σ') → W p l e R s m args below meth c H locs 0 0 Q (F0 m 13 ls [])) (σ : St) (H : Heap) (locs : List Loc) (ls : Array Slot), Pw D (wM a cA) A s.heap H locs σ → lv_has ls 4 [(0, .ref (a 0)), (1, .int v1), (2, .int v2)] → X7_runLength_47 k13 v1 v2 u0 σ = some (r, σ') → W p l e R s m args below meth c H locs 0 0 Q (F0 m 47 ls [.int u0]) := by
    intro v1 v2 u0 k13 hk13 σ H locs ls hp hl h
    unfold X7_runLength_47 at h
    refine lv_istore_n (lv' := [(3, .int u0), (0, .ref (a 0)), (1, .int v1), (2, .int v2)]) hx hb dX7_runLength_47 rfl hl (by decide) rfl (fun ls hl => ?_)
    refine lv_iload_n hx hb dX7_runLength_48 rfl (lv_at hl 0 rfl) ?_
    refine lv_if_eq (tgt := 76) hx hb dX7_runLength_49 (by decide) (fun c1 => ?_) (fun c1 => ?_)
    · have h := it_p h c1
      refine lv_iload_n hx hb dX7_runLength_76 rfl (lv_at hl 2 rfl) ?_
      refine lv_istore_n (lv' := [(1, .int v1), (3, .int u0), (0, .ref (a 0)), (2, .int v2)]) hx hb dX7_runLength_77 rfl hl (by decide) rfl (fun ls hl => ?_)
      obtain ⟨x2, ex2⟩ : ∃ z : Int32, z = v2 + (1 : Int32) := ⟨_, rfl⟩
      have h := nm_s h x2 ex2
      refine lv_iinc (v := x2) (lv' := [(2, .int x2), (1, .int v1), (3, .int u0), (0, .ref (a 0))]) hx hb dX7_runLength_78 hl (k := 3) rfl (by rw [ex2]; rfl) (by decide) rfl (fun ls hl => ?_)
      refine lv_goto (tgt := 13) hx hb dX7_runLength_81 (by decide) ?_
      exact hk13 v1 x2 σ _ _ _ hp (lv_sub hl [3, 1, 0] rfl) h
    · have h := it_n h c1
      refine lv_iload_n hx hb dX7_runLength_52 rfl (lv_at hl 2 rfl) ?_
      refine lv_iconst (v := -1) hx hb dX7_runLength_53 (by decide) ?_
      refine lv_icmp_eq (tgt := 67) hx hb dX7_runLength_54 (by decide) (fun c3 => ?_) (fun c3 => ?_)
      · have h := it_p h c3
        exact J_67 v2 _ hk13 σ _ _ _ hp (lv_sub hl [1, 3] rfl) h
      · have h := it_n h c3
        refine lv_aload_n hx hb dX7_runLength_57 rfl (lv_at hl 1 rfl) ?_
        refine gM_X7_far X hp tw_5_23 dX7_runLength_58 ?_
        refine lv_iload_n hx hb dX7_runLength_61 rfl (lv_at hl 3 rfl) ?_
        obtain ⟨g4, h⟩ := gd_s h
        refine lM_X7_far X hp g4 dX7_runLength_62 ?_
        refine lv_iload_n hx hb dX7_runLength_63 rfl (lv_at hl 2 rfl) ?_
        refine lv_icmp_ge (tgt := 76) hx hb dX7_runLength_64 (by decide) (fun c5 => ?_) (fun c5 => ?_)
        · have h := it_p h c5
          refine lv_iload_n hx hb dX7_runLength_76 rfl (lv_at hl 2 rfl) ?_
          refine lv_istore_n (lv' := [(1, .int v1), (3, .int u0), (0, .ref (a 0)), (2, .int v2)]) hx hb dX7_runLength_77 rfl hl (by decide) rfl (fun ls hl => ?_)
          obtain ⟨x6, ex6⟩ : ∃ z : Int32, z = v2 + (1 : Int32) := ⟨_, rfl⟩
          have h := nm_s h x6 ex6
          refine lv_iinc (v := x6) (lv' := [(2, .int x6), (1, .int v1), (3, .int u0), (0, .ref (a 0))]) hx hb dX7_runLength_78 hl (k := 3) rfl (by rw [ex6]; rfl) (by decide) rfl (fun ls hl => ?_)
          refine lv_goto (tgt := 13) hx hb dX7_runLength_81 (by decide) ?_
          exact hk13 v1 x6 σ _ _ _ hp (lv_sub hl [3, 1, 0] rfl) h
        · have h := it_n h c5
          exact J_67 v2 _ hk13 σ _ _ _ hp (lv_sub hl [1, 3] rfl) h
  have J_13 : ∀  (k84 : (Int32 → St → Option (Int32 × St))) (hk84 : ∀ (v1 : Int32) (σ : St) (H : Heap) (locs : List Loc) (ls : Array Slot), Pw D (wM a cA) A s.heap H locs σ → lv_has ls 4 [(0, .ref (a 0)), (1, .int v1)] → k84 v1 σ = some (r, σ') → W p l e R s m args below meth c H locs 0 0 Q (F0 m 84 ls [])) (n : Nat) (v1 : Int32) (v2 : Int32) (σ : St) (H : Heap) (locs : List Loc) (ls : Array Slot), Pw D (wM a cA) A s.heap H locs σ → lv_has ls 4 [(0, .ref (a 0)), (1, .int v1), (2, .int v2)] → X7_runLength_13 k84 n v1 v2 σ = some (r, σ') → W p l e R s m args below meth c H locs 0 0 Q (F0 m 13 ls []) := by
    intro k84 hk84 n
    induction n with
    | zero => intro v1 v2 σ H locs ls hp hl h; exact nn_s (show (none : Option (Int32 × St)) = some _ from h)
    | succ n ih =>
      intro v1 v2 σ H locs ls hp hl h
      have h : X7_runLength_13b (fun v1 v2 σ => X7_runLength_13 k84 n v1 v2 σ) k84 v1 v2 σ = some (r, σ') := h
      unfold X7_runLength_13b at h
      have hk13 := ih
      refine lv_iload_n hx hb dX7_runLength_13 rfl (lv_at hl 2 rfl) ?_
      refine lv_aload_n hx hb dX7_runLength_14 rfl (lv_at hl 0 rfl) ?_
      obtain ⟨t1, ht1, h⟩ := bd_s h
      refine cl_Vi X eokM (c_X7_states ht1) tw_7_1 mw_X7_states (by decide) hp 0 rfl rfl rfl hl.1 rfl (Nat.le_of_ble_eq_true rfl) dX7_runLength_15 (fun H locs hp => ?_)
      refine lv_icmp_ge (tgt := 84) hx hb dX7_runLength_18 (by decide) (fun c2 => ?_) (fun c2 => ?_)
      · have h := it_p h c2
        exact hk84 v1 σ _ _ _ hp (lv_sub hl [0, 1] rfl) h
      · have h := it_n h c2
        refine lv_aload_n hx hb dX7_runLength_21 rfl (lv_at hl 0 rfl) ?_
        refine gM_X7_init X hp tw_6_17 dX7_runLength_22 ?_
        refine lv_iload_n hx hb dX7_runLength_25 rfl (lv_at hl 2 rfl) ?_
        obtain ⟨t3, ht3, h⟩ := bd_s h
        refine cl_Si X eokM (c_X7_has (adrM a cA) eokM ht3) tw_18_3 mw_X7_has (by decide) hp hl.1 rfl (Nat.le_of_ble_eq_true rfl) dX7_runLength_26 (fun H locs hp => ?_)
        refine lv_if_eq (tgt := 46) hx hb dX7_runLength_29 (by decide) (fun c4 => ?_) (fun c4 => ?_)
        · have h := it_p h c4
          refine lv_iconst (v := 0) hx hb dX7_runLength_46 (by decide) ?_
          exact J_47 v1 v2 (0 : Int32) _ hk13 σ _ _ _ hp (lv_sub hl [0, 1, 2] rfl) h
        · have h := it_n h c4
          refine lv_aload_n hx hb dX7_runLength_32 rfl (lv_at hl 0 rfl) ?_
          refine gM_X7_far X hp tw_5_23 dX7_runLength_33 ?_
          refine lv_iload_n hx hb dX7_runLength_36 rfl (lv_at hl 2 rfl) ?_
          obtain ⟨g5, h⟩ := gd_s h
          refine lM_X7_far X hp g5 dX7_runLength_37 ?_
          refine lv_iconst (v := -1) hx hb dX7_runLength_38 (by decide) ?_
          refine lv_icmp_eq (tgt := 46) hx hb dX7_runLength_39 (by decide) (fun c6 => ?_) (fun c6 => ?_)
          · have h := it_p h c6
            refine lv_iconst (v := 0) hx hb dX7_runLength_46 (by decide) ?_
            exact J_47 v1 v2 (0 : Int32) _ hk13 σ _ _ _ hp (lv_sub hl [0, 1, 2] rfl) h
          · have h := it_n h c6
            refine lv_iconst (v := 1) hx hb dX7_runLength_42 (by decide) ?_
            refine lv_goto (tgt := 47) hx hb dX7_runLength_43 (by decide) ?_
            exact J_47 v1 v2 (1 : Int32) _ hk13 σ _ _ _ hp (lv_sub hl [0, 1, 2] rfl) h
  have J_84 : ∀ (v1 : Int32) (σ : St) (H : Heap) (locs : List Loc) (ls : Array Slot), Pw D (wM a cA) A s.heap H locs σ → lv_has ls 4 [(0, .ref (a 0)), (1, .int v1)] → X7_runLength_84 v1 σ = some (r, σ') → W p l e R s m args below meth c H locs 0 0 Q (F0 m 84 ls []) := by
    intro v1 σ H locs ls hp hl h
    unfold X7_runLength_84 at h
    refine lv_iload_n hx hb dX7_runLength_84 rfl (lv_at hl 1 rfl) ?_
    exact hR _ _ _ _ _ _ dX7_runLength_85 hp (congrArg Prod.fst (Option.some.inj h)) (congrArg Prod.snd (Option.some.inj h)) (fun q => by cases q)
  unfold X7_runLength at h
  have hl := lv_sub (l' := [(0, .ref (a 0))]) hl [0] rfl
  refine lv_aload_n hx hb dX7_runLength_0 rfl (lv_at hl 0 rfl) ?_
  refine lv_aload_n hx hb dX7_runLength_1 rfl (lv_at hl 0 rfl) ?_
  obtain ⟨t1, ht1, h⟩ := bd_s h
  refine cl_Vl X eokM (c_X7_bad ht1) tw_26_18 mw_X7_bad (by decide) hp 0 rfl rfl rfl hl.1 rfl (Nat.le_of_ble_eq_true rfl) dX7_runLength_2 (fun H locs hp => ?_)
  refine lv_iconst (v := 1) hx hb dX7_runLength_5 (by decide) ?_
  obtain ⟨t2, ht2, h⟩ := bd_s h
  refine cl_Vv X eokM (c_X7_layFar ht2) tw_26_22 mw_X7_layFar (by decide) hp 0 rfl rfl rfl hl.1 rfl (Nat.le_of_ble_eq_true rfl) dX7_runLength_6 (fun H locs hp => ?_)
  refine lv_iconst (v := -1) hx hb dX7_runLength_9 (by decide) ?_
  refine lv_istore_n (lv' := [(1, .int (-1 : Int32)), (0, .ref (a 0))]) hx hb dX7_runLength_10 rfl hl (by decide) rfl (fun ls hl => ?_)
  refine lv_iconst (v := 0) hx hb dX7_runLength_11 (by decide) ?_
  refine lv_istore_n (lv' := [(2, .int (0 : Int32)), (1, .int (-1 : Int32)), (0, .ref (a 0))]) hx hb dX7_runLength_12 rfl hl (by decide) rfl (fun ls hl => ?_)
  exact J_13 _ (fun v1 σ H locs ls hp hl h => J_84 v1 σ _ _ _ hp hl h) _ (-1 : Int32) (0 : Int32) t2 _ _ _ hp (lv_sub hl [2, 1, 0] rfl) h
def X7_systemNow (N : Nat) (v1 : Int32) (σ : St) : Option (Int32 × St) :=
  if v1 = (0 : Int32) then
    some ((σ.1 1), σ)
  else if v1 = (1 : Int32) then
    some ((σ.1 2), σ)
  else if v1 = (2 : Int32) then
    bd (X7_states σ) (fun t1 =>
    some (t1, σ))
  else if v1 = (3 : Int32) then
    bd (X7_size N (σ.2.1 0)) (fun t2 =>
    some (t2, σ))
  else if v1 = (4 : Int32) then
    bd (X7_size N (σ.2.1 1)) (fun t3 =>
    some (t3, σ))
  else if v1 = (5 : Int32) then
    bd (X7_reached N (0 : Int32) σ) (fun t4 =>
    some (t4.1, t4.2))
  else if v1 = (6 : Int32) then
    bd (X7_reached N (1 : Int32) σ) (fun t5 =>
    some (t5.1, t5.2))
  else if v1 = (7 : Int32) then
    bd (X7_classes N σ) (fun t6 =>
    some (t6.1, t6.2))
  else if v1 = (8 : Int32) then
    some ((σ.1 4), σ)
  else 
    bd (X7_runLength N σ) (fun t7 =>
    some (t7.1, t7.2))
set_option maxRecDepth 20000 in
set_option maxHeartbeats 4000000 in
theorem c_X7_systemNow {l : Launch} {D : va_G} {a : Nat → Nat} {cA : Nat → ClassId} {σ : St} {N : Nat} {v1 : Int32} {r : Int32} {σ' : St} (h : X7_systemNow N v1 σ = some (r, σ')) : MetI l yX7_systemNow cX7_systemNow 2 (some .int) 5 D (tyW cA) (wM a cA) EM [.ref (a 0), .int v1] σ r σ' := by
  refine mkI (by decide) (adrM a cA) (Or.inl rfl) (Nat.le_of_ble_eq_true rfl) ?_
  intro p e R s m args below meth c A Q ls X hR hp hl
  obtain ⟨hx, hb, -, hown, hts, -⟩ := id X
  unfold X7_systemNow at h
  have hl := lv_sub (l' := [(0, .ref (a 0)), (1, .int v1)]) hl [0, 1] rfl
  refine lv_iload_n hx hb dX7_systemNow_0 rfl (lv_at hl 1 rfl) ?_
  by_cases cs8 : v1 = (0 : Int32)
  · have h := it_p h cs8
    refine tsI (tgt := 52) (off := 51) (k := (0 : Int32)) hx hb dX7_systemNow_1 cs8 (by decide) (by decide) (by decide) (by decide) ?_
    refine lv_aload_n hx hb dX7_systemNow_52 rfl (lv_at hl 0 rfl) ?_
    refine gM_X7_bits X hp tw_6_15 dX7_systemNow_53 ?_
    exact hR _ _ _ _ _ _ dX7_systemNow_56 hp (congrArg Prod.fst (Option.some.inj h)) (congrArg Prod.snd (Option.some.inj h)) (fun q => by cases q)
  have h := it_n h cs8
  by_cases cs9 : v1 = (1 : Int32)
  · have h := it_p h cs9
    refine tsI (tgt := 57) (off := 56) (k := (1 : Int32)) hx hb dX7_systemNow_1 cs9 (by decide) (by decide) (by decide) (by decide) ?_
    refine lv_aload_n hx hb dX7_systemNow_57 rfl (lv_at hl 0 rfl) ?_
    refine gM_X7_inputs X hp tw_6_16 dX7_systemNow_58 ?_
    exact hR _ _ _ _ _ _ dX7_systemNow_61 hp (congrArg Prod.fst (Option.some.inj h)) (congrArg Prod.snd (Option.some.inj h)) (fun q => by cases q)
  have h := it_n h cs9
  by_cases cs10 : v1 = (2 : Int32)
  · have h := it_p h cs10
    refine tsI (tgt := 62) (off := 61) (k := (2 : Int32)) hx hb dX7_systemNow_1 cs10 (by decide) (by decide) (by decide) (by decide) ?_
    refine lv_aload_n hx hb dX7_systemNow_62 rfl (lv_at hl 0 rfl) ?_
    obtain ⟨t1, ht1, h⟩ := bd_s h
    refine cl_Vi X eokM (c_X7_states ht1) tw_7_1 mw_X7_states (by decide) hp 0 rfl rfl rfl hl.1 rfl (Nat.le_of_ble_eq_true rfl) dX7_systemNow_63 (fun H locs hp => ?_)
    exact hR _ _ _ _ _ _ dX7_systemNow_66 hp (congrArg Prod.fst (Option.some.inj h)) (congrArg Prod.snd (Option.some.inj h)) (fun q => by cases q)
  have h := it_n h cs10
  by_cases cs11 : v1 = (3 : Int32)
  · have h := it_p h cs11
    refine tsI (tgt := 67) (off := 66) (k := (3 : Int32)) hx hb dX7_systemNow_1 cs11 (by decide) (by decide) (by decide) (by decide) ?_
    refine lv_aload_n hx hb dX7_systemNow_67 rfl (lv_at hl 0 rfl) ?_
    refine gM_X7_init X hp tw_6_17 dX7_systemNow_68 ?_
    obtain ⟨t2, ht2, h⟩ := bd_s h
    refine cl_Si X eokM (c_X7_size (adrM a cA) eokM ht2) tw_18_0 mw_X7_size (by decide) hp hl.1 rfl (Nat.le_of_ble_eq_true rfl) dX7_systemNow_71 (fun H locs hp => ?_)
    exact hR _ _ _ _ _ _ dX7_systemNow_74 hp (congrArg Prod.fst (Option.some.inj h)) (congrArg Prod.snd (Option.some.inj h)) (fun q => by cases q)
  have h := it_n h cs11
  by_cases cs12 : v1 = (4 : Int32)
  · have h := it_p h cs12
    refine tsI (tgt := 75) (off := 74) (k := (4 : Int32)) hx hb dX7_systemNow_1 cs12 (by decide) (by decide) (by decide) (by decide) ?_
    refine lv_aload_n hx hb dX7_systemNow_75 rfl (lv_at hl 0 rfl) ?_
    refine gM_X7_good X hp tw_6_18 dX7_systemNow_76 ?_
    obtain ⟨t3, ht3, h⟩ := bd_s h
    refine cl_Si X eokM (c_X7_size (adrM a cA) eokM ht3) tw_18_0 mw_X7_size (by decide) hp hl.1 rfl (Nat.le_of_ble_eq_true rfl) dX7_systemNow_79 (fun H locs hp => ?_)
    exact hR _ _ _ _ _ _ dX7_systemNow_82 hp (congrArg Prod.fst (Option.some.inj h)) (congrArg Prod.snd (Option.some.inj h)) (fun q => by cases q)
  have h := it_n h cs12
  by_cases cs13 : v1 = (5 : Int32)
  · have h := it_p h cs13
    refine tsI (tgt := 83) (off := 82) (k := (5 : Int32)) hx hb dX7_systemNow_1 cs13 (by decide) (by decide) (by decide) (by decide) ?_
    refine lv_aload_n hx hb dX7_systemNow_83 rfl (lv_at hl 0 rfl) ?_
    refine lv_iconst (v := 0) hx hb dX7_systemNow_84 (by decide) ?_
    obtain ⟨t4, ht4, h⟩ := bd_s h
    refine cl_Vi X eokM (c_X7_reached ht4) tw_28_23 mw_X7_reached (by decide) hp 0 rfl rfl rfl hl.1 rfl (Nat.le_of_ble_eq_true rfl) dX7_systemNow_85 (fun H locs hp => ?_)
    exact hR _ _ _ _ _ _ dX7_systemNow_88 hp (congrArg Prod.fst (Option.some.inj h)) (congrArg Prod.snd (Option.some.inj h)) (fun q => by cases q)
  have h := it_n h cs13
  by_cases cs14 : v1 = (6 : Int32)
  · have h := it_p h cs14
    refine tsI (tgt := 89) (off := 88) (k := (6 : Int32)) hx hb dX7_systemNow_1 cs14 (by decide) (by decide) (by decide) (by decide) ?_
    refine lv_aload_n hx hb dX7_systemNow_89 rfl (lv_at hl 0 rfl) ?_
    refine lv_iconst (v := 1) hx hb dX7_systemNow_90 (by decide) ?_
    obtain ⟨t5, ht5, h⟩ := bd_s h
    refine cl_Vi X eokM (c_X7_reached ht5) tw_28_23 mw_X7_reached (by decide) hp 0 rfl rfl rfl hl.1 rfl (Nat.le_of_ble_eq_true rfl) dX7_systemNow_91 (fun H locs hp => ?_)
    exact hR _ _ _ _ _ _ dX7_systemNow_94 hp (congrArg Prod.fst (Option.some.inj h)) (congrArg Prod.snd (Option.some.inj h)) (fun q => by cases q)
  have h := it_n h cs14
  by_cases cs15 : v1 = (7 : Int32)
  · have h := it_p h cs15
    refine tsI (tgt := 95) (off := 94) (k := (7 : Int32)) hx hb dX7_systemNow_1 cs15 (by decide) (by decide) (by decide) (by decide) ?_
    refine lv_aload_n hx hb dX7_systemNow_95 rfl (lv_at hl 0 rfl) ?_
    obtain ⟨t6, ht6, h⟩ := bd_s h
    refine cl_Vi X eokM (c_X7_classes ht6) tw_29_3 mw_X7_classes (by decide) hp 0 rfl rfl rfl hl.1 rfl (Nat.le_of_ble_eq_true rfl) dX7_systemNow_96 (fun H locs hp => ?_)
    exact hR _ _ _ _ _ _ dX7_systemNow_99 hp (congrArg Prod.fst (Option.some.inj h)) (congrArg Prod.snd (Option.some.inj h)) (fun q => by cases q)
  have h := it_n h cs15
  by_cases cs16 : v1 = (8 : Int32)
  · have h := it_p h cs16
    refine tsI (tgt := 100) (off := 99) (k := (8 : Int32)) hx hb dX7_systemNow_1 cs16 (by decide) (by decide) (by decide) (by decide) ?_
    refine lv_aload_n hx hb dX7_systemNow_100 rfl (lv_at hl 0 rfl) ?_
    refine gM_X7_kept X hp tw_6_19 dX7_systemNow_101 ?_
    exact hR _ _ _ _ _ _ dX7_systemNow_104 hp (congrArg Prod.fst (Option.some.inj h)) (congrArg Prod.snd (Option.some.inj h)) (fun q => by cases q)
  have h := it_n h cs16
  have ncs8 : ¬ (v1).toInt = 0 := lv_neT cs8 (by decide)
  have ncs9 : ¬ (v1).toInt = 1 := lv_neT cs9 (by decide)
  have ncs10 : ¬ (v1).toInt = 2 := lv_neT cs10 (by decide)
  have ncs11 : ¬ (v1).toInt = 3 := lv_neT cs11 (by decide)
  have ncs12 : ¬ (v1).toInt = 4 := lv_neT cs12 (by decide)
  have ncs13 : ¬ (v1).toInt = 5 := lv_neT cs13 (by decide)
  have ncs14 : ¬ (v1).toInt = 6 := lv_neT cs14 (by decide)
  have ncs15 : ¬ (v1).toInt = 7 := lv_neT cs15 (by decide)
  have ncs16 : ¬ (v1).toInt = 8 := lv_neT cs16 (by decide)
  refine lv_tableOut (tgt := 105) hx hb dX7_systemNow_1 (by omega) (by decide) ?_
  refine lv_aload_n hx hb dX7_systemNow_105 rfl (lv_at hl 0 rfl) ?_
  obtain ⟨t7, ht7, h⟩ := bd_s h
  refine cl_Vi X eokM (c_X7_runLength ht7) tw_29_7 mw_X7_runLength (by decide) hp 0 rfl rfl rfl hl.1 rfl (Nat.le_of_ble_eq_true rfl) dX7_systemNow_106 (fun H locs hp => ?_)
  exact hR _ _ _ _ _ _ dX7_systemNow_109 hp (congrArg Prod.fst (Option.some.inj h)) (congrArg Prod.snd (Option.some.inj h)) (fun q => by cases q)
