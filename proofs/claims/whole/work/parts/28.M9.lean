/- X7_isCertified X7_certified X7_proofNow X7_proof X7_frame X7_cube X7_certificateSet X7_allIn X7_certificate X7_shrunkenNow X7_shrunken -/
def X7_isCertified (σ : St) (v1 : Int32) : Option (Int32) :=
  if (σ.1 10) = 0 then
    gd (inb v1 1024) (
    if (σ.2.2.1 8 v1.toNatClampNeg) ≤ (σ.1 17) then
      some (0 : Int32)
    else
      some (1 : Int32))
  else
    some (0 : Int32)
set_option maxRecDepth 20000 in
set_option maxHeartbeats 4000000 in
theorem c_X7_isCertified {l : Launch} {D : va_G} {a : Nat → Nat} {cA : Nat → ClassId} {σ : St} {v1 : Int32} {r : Int32} (h : X7_isCertified σ v1 = some r) : MetI l yX7_isCertified cX7_isCertified 2 (some .boolean) 0 D (tyW cA) (wM a cA) EM [.ref (a 0), .int v1] σ r σ := by
  refine mkI (by decide) (adrM a cA) (Or.inr rfl) (Nat.le_of_ble_eq_true rfl) ?_
  intro p e R s m args below meth c A Q ls X hR hp hl
  obtain ⟨hx, hb, -, hown, hts, -⟩ := id X
  unfold X7_isCertified at h
  have hl := lv_sub (l' := [(0, .ref (a 0)), (1, .int v1)]) hl [0, 1] rfl
  refine lv_aload_n hx hb dX7_isCertified_0 rfl (lv_at hl 0 rfl) ?_
  refine gM_X7_verdict X hp tw_39_11 dX7_isCertified_1 ?_
  refine lv_if_ne (tgt := 24) hx hb dX7_isCertified_4 (by decide) (fun c1 => ?_) (fun c1 => ?_)
  · have h := it_n h c1
    refine lv_iconst (v := 0) hx hb dX7_isCertified_24 (by decide) ?_
    exact hR _ _ _ _ _ _ dX7_isCertified_25 hp (Option.some.inj h) rfl (fun _ => Or.inl rfl)
  · have h := it_p h c1
    refine lv_aload_n hx hb dX7_isCertified_7 rfl (lv_at hl 0 rfl) ?_
    refine gM_X7_levelOf X hp tw_6_4 dX7_isCertified_8 ?_
    refine lv_iload_n hx hb dX7_isCertified_11 rfl (lv_at hl 1 rfl) ?_
    obtain ⟨g2, h⟩ := gd_s h
    refine lM_X7_levelOf X hp g2 dX7_isCertified_12 ?_
    refine lv_aload_n hx hb dX7_isCertified_13 rfl (lv_at hl 0 rfl) ?_
    refine gM_X7_ended X hp tw_39_18 dX7_isCertified_14 ?_
    refine lv_icmp_le (tgt := 24) hx hb dX7_isCertified_17 (by decide) (fun c3 => ?_) (fun c3 => ?_)
    · have h := it_p h c3
      refine lv_iconst (v := 0) hx hb dX7_isCertified_24 (by decide) ?_
      exact hR _ _ _ _ _ _ dX7_isCertified_25 hp (Option.some.inj h) rfl (fun _ => Or.inl rfl)
    · have h := it_n h c3
      refine lv_iconst (v := 1) hx hb dX7_isCertified_20 (by decide) ?_
      refine lv_goto (tgt := 25) hx hb dX7_isCertified_21 (by decide) ?_
      exact hR _ _ _ _ _ _ dX7_isCertified_25 hp (Option.some.inj h) rfl (fun _ => Or.inr rfl)
def X7_certified_4b (k4 : (Int32 → Int32 → Option (Int32))) (k34 : (Int32 → Option (Int32))) (σ : St) (v1 : Int32) (v2 : Int32) : Option (Int32) :=
  if (σ.1 12) ≤ v2 then
    k34 v1
  else
    bd (X7_isCertified σ v2) (fun t2 =>
    if t2 = 0 then
      nm (v1 + (0 : Int32)) (fun (x4 : Int32) =>
      nm (v2 + (1 : Int32)) (fun (x5 : Int32) =>
      k4 x4 x5))
    else
      nm (v1 + (1 : Int32)) (fun (x6 : Int32) =>
      nm (v2 + (1 : Int32)) (fun (x7 : Int32) =>
      k4 x6 x7)))
def X7_certified_4 (k34 : (Int32 → Option (Int32))) (σ : St) : Nat → Int32 → Int32 → Option (Int32)
  | 0, _, _ => none
  | n + 1, v1, v2 => X7_certified_4b (fun v1 v2 => X7_certified_4 k34 σ n v1 v2) k34 σ v1 v2
def X7_certified_34 (σ : St) (v1 : Int32) : Option (Int32) :=
  some v1
def X7_certified (N : Nat) (σ : St) : Option (Int32) :=
  X7_certified_4 (fun v1 => X7_certified_34 σ v1) σ N (0 : Int32) (0 : Int32)
set_option maxRecDepth 20000 in
set_option maxHeartbeats 4000000 in
theorem c_X7_certified {l : Launch} {D : va_G} {a : Nat → Nat} {cA : Nat → ClassId} {σ : St} {N : Nat} {r : Int32} (h : X7_certified N σ = some r) : MetI l yX7_certified cX7_certified 3 (some .int) 1 D (tyW cA) (wM a cA) EM [.ref (a 0)] σ r σ := by
  refine mkI (by decide) (adrM a cA) (Or.inl rfl) (Nat.le_of_ble_eq_true rfl) ?_
  intro p e R s m args below meth c A Q ls X hR hp hl
  obtain ⟨hx, hb, -, hown, hts, -⟩ := id X
  have J_4 : ∀  (k34 : (Int32 → Option (Int32))) (hk34 : ∀ (v1 : Int32) (H : Heap) (locs : List Loc) (ls : Array Slot), Pw D (wM a cA) A s.heap H locs σ → lv_has ls 3 [(0, .ref (a 0)), (1, .int v1)] → k34 v1 = some r → W p l e R s m args below meth c H locs 0 0 Q (F0 m 34 ls [])) (n : Nat) (v1 : Int32) (v2 : Int32) (H : Heap) (locs : List Loc) (ls : Array Slot), Pw D (wM a cA) A s.heap H locs σ → lv_has ls 3 [(0, .ref (a 0)), (1, .int v1), (2, .int v2)] → X7_certified_4 k34 σ n v1 v2 = some r → W p l e R s m args below meth c H locs 0 0 Q (F0 m 4 ls []) := by
    intro k34 hk34 n
    induction n with
    | zero => intro v1 v2 H locs ls hp hl h; exact nn_s (show (none : Option (Int32)) = some _ from h)
    | succ n ih =>
      intro v1 v2 H locs ls hp hl h
      have h : X7_certified_4b (fun v1 v2 => X7_certified_4 k34 σ n v1 v2) k34 σ v1 v2 = some r := h
      unfold X7_certified_4b at h
      have hk4 := ih
      refine lv_iload_n hx hb dX7_certified_4 rfl (lv_at hl 2 rfl) ?_
      refine lv_aload_n hx hb dX7_certified_5 rfl (lv_at hl 0 rfl) ?_
      refine gM_X7_cubes X hp tw_39_13 dX7_certified_6 ?_
      refine lv_icmp_ge (tgt := 34) hx hb dX7_certified_9 (by decide) (fun c1 => ?_) (fun c1 => ?_)
      · have h := it_p h c1
        exact hk34 v1 _ _ _ hp (lv_sub hl [0, 1] rfl) h
      · have h := it_n h c1
        refine lv_iload_n hx hb dX7_certified_12 rfl (lv_at hl 1 rfl) ?_
        refine lv_aload_n hx hb dX7_certified_13 rfl (lv_at hl 0 rfl) ?_
        refine lv_iload_n hx hb dX7_certified_14 rfl (lv_at hl 2 rfl) ?_
        obtain ⟨t2, ht2, h⟩ := bd_s h
        refine cl_Vi X eokM (c_X7_isCertified ht2) tw_43_6 mw_X7_isCertified (by decide) hp 0 rfl rfl rfl hl.1 rfl (Nat.le_of_ble_eq_true rfl) dX7_certified_15 (fun H locs hp => ?_)
        refine lv_if_eq (tgt := 25) hx hb dX7_certified_18 (by decide) (fun c3 => ?_) (fun c3 => ?_)
        · have h := it_p h c3
          refine lv_iconst (v := 0) hx hb dX7_certified_25 (by decide) ?_
          refine lv_iadd hx hb dX7_certified_26 ?_
          refine lv_topi (fun x4 ex4 => ?_)
          have h := nm_s h x4 ex4
          refine lv_istore_n (lv' := [(1, .int x4), (0, .ref (a 0)), (2, .int v2)]) hx hb dX7_certified_27 rfl hl (by decide) rfl (fun ls hl => ?_)
          obtain ⟨x5, ex5⟩ : ∃ z : Int32, z = v2 + (1 : Int32) := ⟨_, rfl⟩
          have h := nm_s h x5 ex5
          refine lv_iinc (v := x5) (lv' := [(2, .int x5), (1, .int x4), (0, .ref (a 0))]) hx hb dX7_certified_28 hl (k := 2) rfl (by rw [ex5]; rfl) (by decide) rfl (fun ls hl => ?_)
          refine lv_goto (tgt := 4) hx hb dX7_certified_31 (by decide) ?_
          exact hk4 x4 x5 _ _ _ hp (lv_sub hl [2, 1, 0] rfl) h
        · have h := it_n h c3
          refine lv_iconst (v := 1) hx hb dX7_certified_21 (by decide) ?_
          refine lv_goto (tgt := 26) hx hb dX7_certified_22 (by decide) ?_
          refine lv_iadd hx hb dX7_certified_26 ?_
          refine lv_topi (fun x6 ex6 => ?_)
          have h := nm_s h x6 ex6
          refine lv_istore_n (lv' := [(1, .int x6), (0, .ref (a 0)), (2, .int v2)]) hx hb dX7_certified_27 rfl hl (by decide) rfl (fun ls hl => ?_)
          obtain ⟨x7, ex7⟩ : ∃ z : Int32, z = v2 + (1 : Int32) := ⟨_, rfl⟩
          have h := nm_s h x7 ex7
          refine lv_iinc (v := x7) (lv' := [(2, .int x7), (1, .int x6), (0, .ref (a 0))]) hx hb dX7_certified_28 hl (k := 2) rfl (by rw [ex7]; rfl) (by decide) rfl (fun ls hl => ?_)
          refine lv_goto (tgt := 4) hx hb dX7_certified_31 (by decide) ?_
          exact hk4 x6 x7 _ _ _ hp (lv_sub hl [2, 1, 0] rfl) h
  have J_34 : ∀ (v1 : Int32) (H : Heap) (locs : List Loc) (ls : Array Slot), Pw D (wM a cA) A s.heap H locs σ → lv_has ls 3 [(0, .ref (a 0)), (1, .int v1)] → X7_certified_34 σ v1 = some r → W p l e R s m args below meth c H locs 0 0 Q (F0 m 34 ls []) := by
    intro v1 H locs ls hp hl h
    unfold X7_certified_34 at h
    refine lv_iload_n hx hb dX7_certified_34 rfl (lv_at hl 1 rfl) ?_
    exact hR _ _ _ _ _ _ dX7_certified_35 hp (Option.some.inj h) rfl (fun q => by cases q)
  unfold X7_certified at h
  have hl := lv_sub (l' := [(0, .ref (a 0))]) hl [0] rfl
  refine lv_iconst (v := 0) hx hb dX7_certified_0 (by decide) ?_
  refine lv_istore_n (lv' := [(1, .int (0 : Int32)), (0, .ref (a 0))]) hx hb dX7_certified_1 rfl hl (by decide) rfl (fun ls hl => ?_)
  refine lv_iconst (v := 0) hx hb dX7_certified_2 (by decide) ?_
  refine lv_istore_n (lv' := [(2, .int (0 : Int32)), (1, .int (0 : Int32)), (0, .ref (a 0))]) hx hb dX7_certified_3 rfl hl (by decide) rfl (fun ls hl => ?_)
  exact J_4 _ (fun v1 H locs ls hp hl h => J_34 v1 _ _ _ hp hl h) _ (0 : Int32) (0 : Int32) _ _ _ hp (lv_sub hl [2, 1, 0] rfl) h
def X7_proofNow (N : Nat) (σ : St) (v1 : Int32) : Option (Int32) :=
  if v1 = (0 : Int32) then
    some (σ.1 10)
  else if v1 = (1 : Int32) then
    some (σ.1 11)
  else if v1 = (2 : Int32) then
    some (σ.1 12)
  else if v1 = (3 : Int32) then
    some (σ.1 13)
  else if v1 = (4 : Int32) then
    some (σ.1 14)
  else if v1 = (5 : Int32) then
    some (σ.1 15)
  else if v1 = (6 : Int32) then
    some (σ.1 16)
  else 
    bd (X7_certified N σ) (fun t1 =>
    some t1)
set_option maxRecDepth 20000 in
set_option maxHeartbeats 4000000 in
theorem c_X7_proofNow {l : Launch} {D : va_G} {a : Nat → Nat} {cA : Nat → ClassId} {σ : St} {N : Nat} {v1 : Int32} {r : Int32} (h : X7_proofNow N σ v1 = some r) : MetI l yX7_proofNow cX7_proofNow 2 (some .int) 2 D (tyW cA) (wM a cA) EM [.ref (a 0), .int v1] σ r σ := by
  refine mkI (by decide) (adrM a cA) (Or.inl rfl) (Nat.le_of_ble_eq_true rfl) ?_
  intro p e R s m args below meth c A Q ls X hR hp hl
  obtain ⟨hx, hb, -, hown, hts, -⟩ := id X
  unfold X7_proofNow at h
  have hl := lv_sub (l' := [(0, .ref (a 0)), (1, .int v1)]) hl [0, 1] rfl
  refine lv_iload_n hx hb dX7_proofNow_0 rfl (lv_at hl 1 rfl) ?_
  by_cases cs2 : v1 = (0 : Int32)
  · have h := it_p h cs2
    refine tsI (tgt := 44) (off := 43) (k := (0 : Int32)) hx hb dX7_proofNow_1 cs2 (by decide) (by decide) (by decide) (by decide) ?_
    refine lv_aload_n hx hb dX7_proofNow_44 rfl (lv_at hl 0 rfl) ?_
    refine gM_X7_verdict X hp tw_39_11 dX7_proofNow_45 ?_
    exact hR _ _ _ _ _ _ dX7_proofNow_48 hp (Option.some.inj h) rfl (fun q => by cases q)
  have h := it_n h cs2
  by_cases cs3 : v1 = (1 : Int32)
  · have h := it_p h cs3
    refine tsI (tgt := 49) (off := 48) (k := (1 : Int32)) hx hb dX7_proofNow_1 cs3 (by decide) (by decide) (by decide) (by decide) ?_
    refine lv_aload_n hx hb dX7_proofNow_49 rfl (lv_at hl 0 rfl) ?_
    refine gM_X7_k X hp tw_39_12 dX7_proofNow_50 ?_
    exact hR _ _ _ _ _ _ dX7_proofNow_53 hp (Option.some.inj h) rfl (fun q => by cases q)
  have h := it_n h cs3
  by_cases cs4 : v1 = (2 : Int32)
  · have h := it_p h cs4
    refine tsI (tgt := 54) (off := 53) (k := (2 : Int32)) hx hb dX7_proofNow_1 cs4 (by decide) (by decide) (by decide) (by decide) ?_
    refine lv_aload_n hx hb dX7_proofNow_54 rfl (lv_at hl 0 rfl) ?_
    refine gM_X7_cubes X hp tw_39_13 dX7_proofNow_55 ?_
    exact hR _ _ _ _ _ _ dX7_proofNow_58 hp (Option.some.inj h) rfl (fun q => by cases q)
  have h := it_n h cs4
  by_cases cs5 : v1 = (3 : Int32)
  · have h := it_p h cs5
    refine tsI (tgt := 59) (off := 58) (k := (3 : Int32)) hx hb dX7_proofNow_1 cs5 (by decide) (by decide) (by decide) (by decide) ?_
    refine lv_aload_n hx hb dX7_proofNow_59 rfl (lv_at hl 0 rfl) ?_
    refine gM_X7_handled X hp tw_39_14 dX7_proofNow_60 ?_
    exact hR _ _ _ _ _ _ dX7_proofNow_63 hp (Option.some.inj h) rfl (fun q => by cases q)
  have h := it_n h cs5
  by_cases cs6 : v1 = (4 : Int32)
  · have h := it_p h cs6
    refine tsI (tgt := 64) (off := 63) (k := (4 : Int32)) hx hb dX7_proofNow_1 cs6 (by decide) (by decide) (by decide) (by decide) ?_
    refine lv_aload_n hx hb dX7_proofNow_64 rfl (lv_at hl 0 rfl) ?_
    refine gM_X7_added X hp tw_39_15 dX7_proofNow_65 ?_
    exact hR _ _ _ _ _ _ dX7_proofNow_68 hp (Option.some.inj h) rfl (fun q => by cases q)
  have h := it_n h cs6
  by_cases cs7 : v1 = (5 : Int32)
  · have h := it_p h cs7
    refine tsI (tgt := 69) (off := 68) (k := (5 : Int32)) hx hb dX7_proofNow_1 cs7 (by decide) (by decide) (by decide) (by decide) ?_
    refine lv_aload_n hx hb dX7_proofNow_69 rfl (lv_at hl 0 rfl) ?_
    refine gM_X7_leftOut X hp tw_39_16 dX7_proofNow_70 ?_
    exact hR _ _ _ _ _ _ dX7_proofNow_73 hp (Option.some.inj h) rfl (fun q => by cases q)
  have h := it_n h cs7
  by_cases cs8 : v1 = (6 : Int32)
  · have h := it_p h cs8
    refine tsI (tgt := 74) (off := 73) (k := (6 : Int32)) hx hb dX7_proofNow_1 cs8 (by decide) (by decide) (by decide) (by decide) ?_
    refine lv_aload_n hx hb dX7_proofNow_74 rfl (lv_at hl 0 rfl) ?_
    refine gM_X7_raised X hp tw_39_17 dX7_proofNow_75 ?_
    exact hR _ _ _ _ _ _ dX7_proofNow_78 hp (Option.some.inj h) rfl (fun q => by cases q)
  have h := it_n h cs8
  have ncs2 : ¬ (v1).toInt = 0 := lv_neT cs2 (by decide)
  have ncs3 : ¬ (v1).toInt = 1 := lv_neT cs3 (by decide)
  have ncs4 : ¬ (v1).toInt = 2 := lv_neT cs4 (by decide)
  have ncs5 : ¬ (v1).toInt = 3 := lv_neT cs5 (by decide)
  have ncs6 : ¬ (v1).toInt = 4 := lv_neT cs6 (by decide)
  have ncs7 : ¬ (v1).toInt = 5 := lv_neT cs7 (by decide)
  have ncs8 : ¬ (v1).toInt = 6 := lv_neT cs8 (by decide)
  refine lv_tableOut (tgt := 79) hx hb dX7_proofNow_1 (by omega) (by decide) ?_
  refine lv_aload_n hx hb dX7_proofNow_79 rfl (lv_at hl 0 rfl) ?_
  obtain ⟨t1, ht1, h⟩ := bd_s h
  refine cl_Vi X eokM (c_X7_certified ht1) tw_43_2 mw_X7_certified (by decide) hp 0 rfl rfl rfl hl.1 rfl (Nat.le_of_ble_eq_true rfl) dX7_proofNow_80 (fun H locs hp => ?_)
  exact hR _ _ _ _ _ _ dX7_proofNow_83 hp (Option.some.inj h) rfl (fun q => by cases q)
def X7_proof_16 (N : Nat) (v1 : Int32) (u0 : Int32) (σ : St) : Option (Int32 × St) :=
  nm (si σ 0 u0) (fun (σ1 : St) =>
  if (σ1.1 0) ≤ 0 then
    if (σ1.1 9) = 0 then
      some ((-1 : Int32), σ1)
    else
      bd (X7_proofNow N σ1 v1) (fun t4 =>
      some (t4, σ1))
  else
    some ((0 : Int32), σ1))
def X7_proof (N : Nat) (v1 : Int32) (σ : St) : Option (Int32 × St) :=
  bd (X7_within v1 (0 : Int32) (7 : Int32)) (fun t1 =>
  if t1 = 0 then
    X7_proof_16 N v1 (1 : Int32) σ
  else
    X7_proof_16 N v1 (0 : Int32) σ)
set_option maxRecDepth 20000 in
set_option maxHeartbeats 4000000 in
theorem c_X7_proof {l : Launch} {D : va_G} {a : Nat → Nat} {cA : Nat → ClassId} {σ : St} {N : Nat} {v1 : Int32} {r : Int32} {σ' : St} (h : X7_proof N v1 σ = some (r, σ')) : MetI l yX7_proof cX7_proof 2 (some .int) 3 D (tyW cA) (wM a cA) EM [.ref (a 0), .int v1] σ r σ' := by
  refine mkI (by decide) (adrM a cA) (Or.inl rfl) (Nat.le_of_ble_eq_true rfl) ?_
  intro p e R s m args below meth c A Q ls X hR hp hl
  obtain ⟨hx, hb, -, hown, hts, -⟩ := id X
  have J_16 : ∀ (v1 : Int32) (u0 : Int32) (σ : St) (H : Heap) (locs : List Loc) (ls : Array Slot), Pw D (wM a cA) A s.heap H locs σ → lv_has ls 2 [(0, .ref (a 0)), (1, .int v1)] → X7_proof_16 N v1 u0 σ = some (r, σ') → W p l e R s m args below meth c H locs 0 0 Q (F0 m 16 ls [.int u0, .ref (a 0)]) := by
    intro v1 u0 σ H locs ls hp hl h
    unfold X7_proof_16 at h
    refine pM_X7_thrown X hp tw_8_9 dX7_proof_16 (fun H locs σ1 eσ1 hp => ?_)
    have h := nm_s h σ1 eσ1
    refine lv_aload_n hx hb dX7_proof_19 rfl (lv_at hl 0 rfl) ?_
    refine gM_X7_thrown X hp tw_8_9 dX7_proof_20 ?_
    refine lv_if_le (tgt := 30) hx hb dX7_proof_23 (by decide) (fun c2 => ?_) (fun c2 => ?_)
    · have h := it_p h c2
      refine lv_aload_n hx hb dX7_proof_30 rfl (lv_at hl 0 rfl) ?_
      refine gM_X7_isProof X hp tw_6_20 dX7_proof_31 ?_
      refine lv_if_eq (tgt := 45) hx hb dX7_proof_34 (by decide) (fun c3 => ?_) (fun c3 => ?_)
      · have h := it_p h c3
        refine lv_iconst (v := -1) hx hb dX7_proof_45 (by decide) ?_
        exact hR _ _ _ _ _ _ dX7_proof_46 hp (congrArg Prod.fst (Option.some.inj h)) (congrArg Prod.snd (Option.some.inj h)) (fun q => by cases q)
      · have h := it_n h c3
        refine lv_aload_n hx hb dX7_proof_37 rfl (lv_at hl 0 rfl) ?_
        refine lv_iload_n hx hb dX7_proof_38 rfl (lv_at hl 1 rfl) ?_
        obtain ⟨t4, ht4, h⟩ := bd_s h
        refine cl_Vi X eokM (c_X7_proofNow ht4) tw_42_22 mw_X7_proofNow (by decide) hp 0 rfl rfl rfl hl.1 rfl (Nat.le_of_ble_eq_true rfl) dX7_proof_39 (fun H locs hp => ?_)
        refine lv_goto (tgt := 46) hx hb dX7_proof_42 (by decide) ?_
        exact hR _ _ _ _ _ _ dX7_proof_46 hp (congrArg Prod.fst (Option.some.inj h)) (congrArg Prod.snd (Option.some.inj h)) (fun q => by cases q)
    · have h := it_n h c2
      refine lv_iconst (v := 0) hx hb dX7_proof_26 (by decide) ?_
      refine lv_goto (tgt := 46) hx hb dX7_proof_27 (by decide) ?_
      exact hR _ _ _ _ _ _ dX7_proof_46 hp (congrArg Prod.fst (Option.some.inj h)) (congrArg Prod.snd (Option.some.inj h)) (fun q => by cases q)
  unfold X7_proof at h
  have hl := lv_sub (l' := [(0, .ref (a 0)), (1, .int v1)]) hl [0, 1] rfl
  refine lv_aload_n hx hb dX7_proof_0 rfl (lv_at hl 0 rfl) ?_
  refine lv_iload_n hx hb dX7_proof_1 rfl (lv_at hl 1 rfl) ?_
  refine lv_iconst (v := 0) hx hb dX7_proof_2 (by decide) ?_
  refine lv_bipush (v := 7) hx hb dX7_proof_3 (by decide) ?_
  obtain ⟨t1, ht1, h⟩ := bd_s h
  refine cl_Si X eokM (c_X7_within (adrM a cA) eokM ht1) tw_8_10 mw_X7_within (by decide) hp hl.1 rfl (Nat.le_of_ble_eq_true rfl) dX7_proof_5 (fun H locs hp => ?_)
  refine lv_if_eq (tgt := 15) hx hb dX7_proof_8 (by decide) (fun c2 => ?_) (fun c2 => ?_)
  · have h := it_p h c2
    refine lv_iconst (v := 1) hx hb dX7_proof_15 (by decide) ?_
    exact J_16 v1 (1 : Int32) σ _ _ _ hp (lv_sub hl [0, 1] rfl) h
  · have h := it_n h c2
    refine lv_iconst (v := 0) hx hb dX7_proof_11 (by decide) ?_
    refine lv_goto (tgt := 16) hx hb dX7_proof_12 (by decide) ?_
    exact J_16 v1 (0 : Int32) σ _ _ _ hp (lv_sub hl [0, 1] rfl) h
def X7_frame_29 (N : Nat) (v1 : Int32) (u0 : Int32) (σ : St) : Option (Int64 × St) :=
  nm (si σ 0 u0) (fun (σ1 : St) =>
  if (σ1.1 0) ≤ 0 then
    bd (X7_frameOf N σ1 v1) (fun t3 =>
    some (t3, σ1))
  else
    some ((0 : Int64), σ1))
def X7_frame (N : Nat) (v1 : Int32) (σ : St) : Option (Int64 × St) :=
  if (σ.1 9) = 0 then
    X7_frame_29 N v1 (1 : Int32) σ
  else
    bd (X7_within v1 (0 : Int32) (σ.1 11)) (fun t2 =>
    if t2 = 0 then
      X7_frame_29 N v1 (2 : Int32) σ
    else
      X7_frame_29 N v1 (0 : Int32) σ)
set_option maxRecDepth 20000 in
set_option maxHeartbeats 4000000 in
theorem c_X7_frame {l : Launch} {D : va_G} {a : Nat → Nat} {cA : Nat → ClassId} {σ : St} {N : Nat} {v1 : Int32} {r : Int64} {σ' : St} (h : X7_frame N v1 σ = some (r, σ')) : MetL l yX7_frame cX7_frame 2 (some .long) 4 D (tyW cA) (wM a cA) EM [.ref (a 0), .int v1] σ r σ' := by
  refine mkL (by decide) (adrM a cA) rfl (Nat.le_of_ble_eq_true rfl) ?_
  intro p e R s m args below meth c A Q ls X hR hp hl
  obtain ⟨hx, hb, -, hown, hts, -⟩ := id X
  have J_29 : ∀ (v1 : Int32) (u0 : Int32) (σ : St) (H : Heap) (locs : List Loc) (ls : Array Slot), Pw D (wM a cA) A s.heap H locs σ → lv_has ls 2 [(0, .ref (a 0)), (1, .int v1)] → X7_frame_29 N v1 u0 σ = some (r, σ') → W p l e R s m args below meth c H locs 0 0 Q (F0 m 29 ls [.int u0, .ref (a 0)]) := by
    intro v1 u0 σ H locs ls hp hl h
    unfold X7_frame_29 at h
    refine pM_X7_thrown X hp tw_8_9 dX7_frame_29 (fun H locs σ1 eσ1 hp => ?_)
    have h := nm_s h σ1 eσ1
    refine lv_aload_n hx hb dX7_frame_32 rfl (lv_at hl 0 rfl) ?_
    refine gM_X7_thrown X hp tw_8_9 dX7_frame_33 ?_
    refine lv_if_le (tgt := 43) hx hb dX7_frame_36 (by decide) (fun c2 => ?_) (fun c2 => ?_)
    · have h := it_p h c2
      refine lv_aload_n hx hb dX7_frame_43 rfl (lv_at hl 0 rfl) ?_
      refine lv_iload_n hx hb dX7_frame_44 rfl (lv_at hl 1 rfl) ?_
      obtain ⟨t3, ht3, h⟩ := bd_s h
      refine cl_Vl X eokM (c_X7_frameOf ht3) tw_40_3 mw_X7_frameOf (by decide) hp 0 rfl rfl rfl hl.1 rfl (Nat.le_of_ble_eq_true rfl) dX7_frame_45 (fun H locs hp => ?_)
      exact hR _ _ _ _ _ _ dX7_frame_48 hp (congrArg Prod.fst (Option.some.inj h)) (congrArg Prod.snd (Option.some.inj h))
    · have h := it_n h c2
      refine lv_lconst (v := 0) hx hb dX7_frame_39 (by decide) ?_
      refine lv_goto (tgt := 48) hx hb dX7_frame_40 (by decide) ?_
      exact hR _ _ _ _ _ _ dX7_frame_48 hp (congrArg Prod.fst (Option.some.inj h)) (congrArg Prod.snd (Option.some.inj h))
  unfold X7_frame at h
  have hl := lv_sub (l' := [(0, .ref (a 0)), (1, .int v1)]) hl [0, 1] rfl
  refine lv_aload_n hx hb dX7_frame_0 rfl (lv_at hl 0 rfl) ?_
  refine lv_aload_n hx hb dX7_frame_1 rfl (lv_at hl 0 rfl) ?_
  refine gM_X7_isProof X hp tw_6_20 dX7_frame_2 ?_
  refine lv_if_ne (tgt := 12) hx hb dX7_frame_5 (by decide) (fun c1 => ?_) (fun c1 => ?_)
  · have h := it_n h c1
    refine lv_iload_n hx hb dX7_frame_12 rfl (lv_at hl 1 rfl) ?_
    refine lv_iconst (v := 0) hx hb dX7_frame_13 (by decide) ?_
    refine lv_aload_n hx hb dX7_frame_14 rfl (lv_at hl 0 rfl) ?_
    refine gM_X7_k X hp tw_39_12 dX7_frame_15 ?_
    obtain ⟨t2, ht2, h⟩ := bd_s h
    refine cl_Si X eokM (c_X7_within (adrM a cA) eokM ht2) tw_8_10 mw_X7_within (by decide) hp hl.1 rfl (Nat.le_of_ble_eq_true rfl) dX7_frame_18 (fun H locs hp => ?_)
    refine lv_if_eq (tgt := 28) hx hb dX7_frame_21 (by decide) (fun c3 => ?_) (fun c3 => ?_)
    · have h := it_p h c3
      refine lv_iconst (v := 2) hx hb dX7_frame_28 (by decide) ?_
      exact J_29 v1 (2 : Int32) σ _ _ _ hp (lv_sub hl [0, 1] rfl) h
    · have h := it_n h c3
      refine lv_iconst (v := 0) hx hb dX7_frame_24 (by decide) ?_
      refine lv_goto (tgt := 29) hx hb dX7_frame_25 (by decide) ?_
      exact J_29 v1 (0 : Int32) σ _ _ _ hp (lv_sub hl [0, 1] rfl) h
  · have h := it_p h c1
    refine lv_iconst (v := 1) hx hb dX7_frame_8 (by decide) ?_
    refine lv_goto (tgt := 29) hx hb dX7_frame_9 (by decide) ?_
    exact J_29 v1 (1 : Int32) σ _ _ _ hp (lv_sub hl [0, 1] rfl) h
def X7_cube_44 (v1 : Int32) (v2 : Int32) (u0 : Int32) (σ : St) : Option (Int32 × St) :=
  nm (si σ 0 u0) (fun (σ1 : St) =>
  if (σ1.1 0) ≤ 0 then
    if v2 = 0 then
      gd (inb v1 1024) (
      some ((σ1.2.2.1 6 v1.toNatClampNeg), σ1))
    else
      if v2 = (1 : Int32) then
        gd (inb v1 1024) (
        some ((σ1.2.2.1 7 v1.toNatClampNeg), σ1))
      else
        gd (inb v1 1024) (
        some ((σ1.2.2.1 8 v1.toNatClampNeg), σ1))
  else
    some ((0 : Int32), σ1))
def X7_cube (v1 : Int32) (v2 : Int32) (σ : St) : Option (Int32 × St) :=
  if (σ.1 9) = 0 then
    X7_cube_44 v1 v2 (1 : Int32) σ
  else
    bd (X7_within v1 (0 : Int32) ((σ.1 12) - (1 : Int32))) (fun t2 =>
    if t2 = 0 then
      X7_cube_44 v1 v2 (2 : Int32) σ
    else
      bd (X7_within v2 (0 : Int32) (2 : Int32)) (fun t4 =>
      if t4 = 0 then
        X7_cube_44 v1 v2 (3 : Int32) σ
      else
        X7_cube_44 v1 v2 (0 : Int32) σ))
set_option maxRecDepth 20000 in
set_option maxHeartbeats 4000000 in
theorem c_X7_cube {l : Launch} {D : va_G} {a : Nat → Nat} {cA : Nat → ClassId} {σ : St} {v1 : Int32} {v2 : Int32} {r : Int32} {σ' : St} (h : X7_cube v1 v2 σ = some (r, σ')) : MetI l yX7_cube cX7_cube 3 (some .int) 1 D (tyW cA) (wM a cA) EM [.ref (a 0), .int v1, .int v2] σ r σ' := by
  refine mkI (by decide) (adrM a cA) (Or.inl rfl) (Nat.le_of_ble_eq_true rfl) ?_
  intro p e R s m args below meth c A Q ls X hR hp hl
  obtain ⟨hx, hb, -, hown, hts, -⟩ := id X
  have J_44 : ∀ (v1 : Int32) (v2 : Int32) (u0 : Int32) (σ : St) (H : Heap) (locs : List Loc) (ls : Array Slot), Pw D (wM a cA) A s.heap H locs σ → lv_has ls 3 [(0, .ref (a 0)), (1, .int v1), (2, .int v2)] → X7_cube_44 v1 v2 u0 σ = some (r, σ') → W p l e R s m args below meth c H locs 0 0 Q (F0 m 44 ls [.int u0, .ref (a 0)]) := by
    intro v1 v2 u0 σ H locs ls hp hl h
    unfold X7_cube_44 at h
    refine pM_X7_thrown X hp tw_8_9 dX7_cube_44 (fun H locs σ1 eσ1 hp => ?_)
    have h := nm_s h σ1 eσ1
    refine lv_aload_n hx hb dX7_cube_47 rfl (lv_at hl 0 rfl) ?_
    refine gM_X7_thrown X hp tw_8_9 dX7_cube_48 ?_
    refine lv_if_le (tgt := 58) hx hb dX7_cube_51 (by decide) (fun c2 => ?_) (fun c2 => ?_)
    · have h := it_p h c2
      refine lv_iload_n hx hb dX7_cube_58 rfl (lv_at hl 2 rfl) ?_
      refine lv_if_ne (tgt := 71) hx hb dX7_cube_59 (by decide) (fun c3 => ?_) (fun c3 => ?_)
      · have h := it_n h c3
        refine lv_iload_n hx hb dX7_cube_71 rfl (lv_at hl 2 rfl) ?_
        refine lv_iconst (v := 1) hx hb dX7_cube_72 (by decide) ?_
        refine lv_icmp_ne (tgt := 85) hx hb dX7_cube_73 (by decide) (fun c4 => ?_) (fun c4 => ?_)
        · have h := it_n h c4
          refine lv_aload_n hx hb dX7_cube_85 rfl (lv_at hl 0 rfl) ?_
          refine gM_X7_levelOf X hp tw_6_4 dX7_cube_86 ?_
          refine lv_iload_n hx hb dX7_cube_89 rfl (lv_at hl 1 rfl) ?_
          obtain ⟨g5, h⟩ := gd_s h
          refine lM_X7_levelOf X hp g5 dX7_cube_90 ?_
          exact hR _ _ _ _ _ _ dX7_cube_91 hp (congrArg Prod.fst (Option.some.inj h)) (congrArg Prod.snd (Option.some.inj h)) (fun q => by cases q)
        · have h := it_p h c4
          refine lv_aload_n hx hb dX7_cube_76 rfl (lv_at hl 0 rfl) ?_
          refine gM_X7_valueOf X hp tw_6_3 dX7_cube_77 ?_
          refine lv_iload_n hx hb dX7_cube_80 rfl (lv_at hl 1 rfl) ?_
          obtain ⟨g6, h⟩ := gd_s h
          refine lM_X7_valueOf X hp g6 dX7_cube_81 ?_
          refine lv_goto (tgt := 91) hx hb dX7_cube_82 (by decide) ?_
          exact hR _ _ _ _ _ _ dX7_cube_91 hp (congrArg Prod.fst (Option.some.inj h)) (congrArg Prod.snd (Option.some.inj h)) (fun q => by cases q)
      · have h := it_p h c3
        refine lv_aload_n hx hb dX7_cube_62 rfl (lv_at hl 0 rfl) ?_
        refine gM_X7_maskOf X hp tw_6_2 dX7_cube_63 ?_
        refine lv_iload_n hx hb dX7_cube_66 rfl (lv_at hl 1 rfl) ?_
        obtain ⟨g7, h⟩ := gd_s h
        refine lM_X7_maskOf X hp g7 dX7_cube_67 ?_
        refine lv_goto (tgt := 91) hx hb dX7_cube_68 (by decide) ?_
        exact hR _ _ _ _ _ _ dX7_cube_91 hp (congrArg Prod.fst (Option.some.inj h)) (congrArg Prod.snd (Option.some.inj h)) (fun q => by cases q)
    · have h := it_n h c2
      refine lv_iconst (v := 0) hx hb dX7_cube_54 (by decide) ?_
      refine lv_goto (tgt := 91) hx hb dX7_cube_55 (by decide) ?_
      exact hR _ _ _ _ _ _ dX7_cube_91 hp (congrArg Prod.fst (Option.some.inj h)) (congrArg Prod.snd (Option.some.inj h)) (fun q => by cases q)
  unfold X7_cube at h
  have hl := lv_sub (l' := [(0, .ref (a 0)), (1, .int v1), (2, .int v2)]) hl [0, 1, 2] rfl
  refine lv_aload_n hx hb dX7_cube_0 rfl (lv_at hl 0 rfl) ?_
  refine lv_aload_n hx hb dX7_cube_1 rfl (lv_at hl 0 rfl) ?_
  refine gM_X7_isProof X hp tw_6_20 dX7_cube_2 ?_
  refine lv_if_ne (tgt := 12) hx hb dX7_cube_5 (by decide) (fun c1 => ?_) (fun c1 => ?_)
  · have h := it_n h c1
    refine lv_iload_n hx hb dX7_cube_12 rfl (lv_at hl 1 rfl) ?_
    refine lv_iconst (v := 0) hx hb dX7_cube_13 (by decide) ?_
    refine lv_aload_n hx hb dX7_cube_14 rfl (lv_at hl 0 rfl) ?_
    refine gM_X7_cubes X hp tw_39_13 dX7_cube_15 ?_
    refine lv_iconst (v := 1) hx hb dX7_cube_18 (by decide) ?_
    refine lv_isub hx hb dX7_cube_19 ?_
    obtain ⟨t2, ht2, h⟩ := bd_s h
    refine cl_Si X eokM (c_X7_within (adrM a cA) eokM ht2) tw_8_10 mw_X7_within (by decide) hp hl.1 rfl (Nat.le_of_ble_eq_true rfl) dX7_cube_20 (fun H locs hp => ?_)
    refine lv_if_ne (tgt := 30) hx hb dX7_cube_23 (by decide) (fun c3 => ?_) (fun c3 => ?_)
    · have h := it_n h c3
      refine lv_iload_n hx hb dX7_cube_30 rfl (lv_at hl 2 rfl) ?_
      refine lv_iconst (v := 0) hx hb dX7_cube_31 (by decide) ?_
      refine lv_iconst (v := 2) hx hb dX7_cube_32 (by decide) ?_
      obtain ⟨t4, ht4, h⟩ := bd_s h
      refine cl_Si X eokM (c_X7_within (adrM a cA) eokM ht4) tw_8_10 mw_X7_within (by decide) hp hl.1 rfl (Nat.le_of_ble_eq_true rfl) dX7_cube_33 (fun H locs hp => ?_)
      refine lv_if_eq (tgt := 43) hx hb dX7_cube_36 (by decide) (fun c5 => ?_) (fun c5 => ?_)
      · have h := it_p h c5
        refine lv_iconst (v := 3) hx hb dX7_cube_43 (by decide) ?_
        exact J_44 v1 v2 (3 : Int32) σ _ _ _ hp (lv_sub hl [0, 1, 2] rfl) h
      · have h := it_n h c5
        refine lv_iconst (v := 0) hx hb dX7_cube_39 (by decide) ?_
        refine lv_goto (tgt := 44) hx hb dX7_cube_40 (by decide) ?_
        exact J_44 v1 v2 (0 : Int32) σ _ _ _ hp (lv_sub hl [0, 1, 2] rfl) h
    · have h := it_p h c3
      refine lv_iconst (v := 2) hx hb dX7_cube_26 (by decide) ?_
      refine lv_goto (tgt := 44) hx hb dX7_cube_27 (by decide) ?_
      exact J_44 v1 v2 (2 : Int32) σ _ _ _ hp (lv_sub hl [0, 1, 2] rfl) h
  · have h := it_p h c1
    refine lv_iconst (v := 1) hx hb dX7_cube_8 (by decide) ?_
    refine lv_goto (tgt := 44) hx hb dX7_cube_9 (by decide) ?_
    exact J_44 v1 v2 (1 : Int32) σ _ _ _ hp (lv_sub hl [0, 1, 2] rfl) h
def X7_certificateSet_7b (N : Nat) (k7 : (Int64 → Int32 → Option (Int64))) (k56 : (Int64 → Option (Int64))) (σ : St) (v1 : Int64) (v3 : Int32) : Option (Int64) :=
  if (σ.1 12) ≤ v3 then
    k56 v1
  else
    bd (X7_isCertified σ v3) (fun t2 =>
    if t2 = 0 then
      nm (v1 &&& (-1 : Int64)) (fun (x4 : Int64) =>
      nm (v3 + (1 : Int32)) (fun (x5 : Int32) =>
      k7 x4 x5))
    else
      gd (inb v3 1024) (
      if (σ.2.2.1 9 v3.toNatClampNeg) = 0 then
        bd (X7_cubeAt N σ v3) (fun t10 =>
        nm (v1 &&& (t10 ^^^ (-1 : Int64))) (fun (x11 : Int64) =>
        nm (v3 + (1 : Int32)) (fun (x12 : Int32) =>
        k7 x11 x12)))
      else
        nm (v1 &&& (-1 : Int64)) (fun (x8 : Int64) =>
        nm (v3 + (1 : Int32)) (fun (x9 : Int32) =>
        k7 x8 x9))))
def X7_certificateSet_7 (N : Nat) (k56 : (Int64 → Option (Int64))) (σ : St) : Nat → Int64 → Int32 → Option (Int64)
  | 0, _, _ => none
  | n + 1, v1, v3 => X7_certificateSet_7b N (fun v1 v3 => X7_certificateSet_7 N k56 σ n v1 v3) k56 σ v1 v3
def X7_certificateSet_56 (σ : St) (v1 : Int64) : Option (Int64) :=
  some v1
def X7_certificateSet (N : Nat) (σ : St) : Option (Int64) :=
  bd (X7_all σ) (fun t1 =>
  X7_certificateSet_7 N (fun v1 => X7_certificateSet_56 σ v1) σ N t1 (0 : Int32))
set_option maxRecDepth 20000 in
set_option maxHeartbeats 4000000 in
theorem c_X7_certificateSet {l : Launch} {D : va_G} {a : Nat → Nat} {cA : Nat → ClassId} {σ : St} {N : Nat} {r : Int64} (h : X7_certificateSet N σ = some r) : MetL l yX7_certificateSet cX7_certificateSet 4 (some .long) 3 D (tyW cA) (wM a cA) EM [.ref (a 0)] σ r σ := by
  refine mkL (by decide) (adrM a cA) rfl (Nat.le_of_ble_eq_true rfl) ?_
  intro p e R s m args below meth c A Q ls X hR hp hl
  obtain ⟨hx, hb, -, hown, hts, -⟩ := id X
  have J_7 : ∀  (k56 : (Int64 → Option (Int64))) (hk56 : ∀ (v1 : Int64) (H : Heap) (locs : List Loc) (ls : Array Slot), Pw D (wM a cA) A s.heap H locs σ → lv_has ls 4 [(0, .ref (a 0)), (1, .long v1)] → k56 v1 = some r → W p l e R s m args below meth c H locs 0 0 Q (F0 m 56 ls [])) (n : Nat) (v1 : Int64) (v3 : Int32) (H : Heap) (locs : List Loc) (ls : Array Slot), Pw D (wM a cA) A s.heap H locs σ → lv_has ls 4 [(0, .ref (a 0)), (1, .long v1), (3, .int v3)] → X7_certificateSet_7 N k56 σ n v1 v3 = some r → W p l e R s m args below meth c H locs 0 0 Q (F0 m 7 ls []) := by
    intro k56 hk56 n
    induction n with
    | zero => intro v1 v3 H locs ls hp hl h; exact nn_s (show (none : Option (Int64)) = some _ from h)
    | succ n ih =>
      intro v1 v3 H locs ls hp hl h
      have h : X7_certificateSet_7b N (fun v1 v3 => X7_certificateSet_7 N k56 σ n v1 v3) k56 σ v1 v3 = some r := h
      unfold X7_certificateSet_7b at h
      have hk7 := ih
      refine lv_iload_n hx hb dX7_certificateSet_7 rfl (lv_at hl 2 rfl) ?_
      refine lv_aload_n hx hb dX7_certificateSet_8 rfl (lv_at hl 0 rfl) ?_
      refine gM_X7_cubes X hp tw_39_13 dX7_certificateSet_9 ?_
      refine lv_icmp_ge (tgt := 56) hx hb dX7_certificateSet_12 (by decide) (fun c1 => ?_) (fun c1 => ?_)
      · have h := it_p h c1
        exact hk56 v1 _ _ _ hp (lv_sub hl [0, 1] rfl) h
      · have h := it_n h c1
        refine lv_lload_n hx hb dX7_certificateSet_15 rfl (lv_at hl 1 rfl) ?_
        refine lv_aload_n hx hb dX7_certificateSet_16 rfl (lv_at hl 0 rfl) ?_
        refine lv_iload_n hx hb dX7_certificateSet_17 rfl (lv_at hl 2 rfl) ?_
        obtain ⟨t2, ht2, h⟩ := bd_s h
        refine cl_Vi X eokM (c_X7_isCertified ht2) tw_43_6 mw_X7_isCertified (by decide) hp 0 rfl rfl rfl hl.1 rfl (Nat.le_of_ble_eq_true rfl) dX7_certificateSet_18 (fun H locs hp => ?_)
        refine lv_if_eq (tgt := 45) hx hb dX7_certificateSet_21 (by decide) (fun c3 => ?_) (fun c3 => ?_)
        · have h := it_p h c3
          refine lv_ldc2 hx hb hown (hts _ tw_7_9) dX7_certificateSet_45 ?_
          refine lv_land hx hb dX7_certificateSet_48 ?_
          refine lv_topl (fun x4 ex4 => ?_)
          have h := nm_s h x4 ex4
          refine lv_lstore_n (lv' := [(1, .long x4), (0, .ref (a 0)), (3, .int v3)]) hx hb dX7_certificateSet_49 rfl hl (by decide) rfl (fun ls hl => ?_)
          obtain ⟨x5, ex5⟩ : ∃ z : Int32, z = v3 + (1 : Int32) := ⟨_, rfl⟩
          have h := nm_s h x5 ex5
          refine lv_iinc (v := x5) (lv' := [(3, .int x5), (1, .long x4), (0, .ref (a 0))]) hx hb dX7_certificateSet_50 hl (k := 2) rfl (by rw [ex5]; rfl) (by decide) rfl (fun ls hl => ?_)
          refine lv_goto (tgt := 7) hx hb dX7_certificateSet_53 (by decide) ?_
          exact hk7 x4 x5 _ _ _ hp (lv_sub hl [2, 1, 0] rfl) h
        · have h := it_n h c3
          refine lv_aload_n hx hb dX7_certificateSet_24 rfl (lv_at hl 0 rfl) ?_
          refine gM_X7_isOut X hp tw_6_6 dX7_certificateSet_25 ?_
          refine lv_iload_n hx hb dX7_certificateSet_28 rfl (lv_at hl 2 rfl) ?_
          obtain ⟨g6, h⟩ := gd_s h
          refine lM_X7_isOut X hp g6 dX7_certificateSet_29 ?_
          refine lv_if_ne (tgt := 45) hx hb dX7_certificateSet_30 (by decide) (fun c7 => ?_) (fun c7 => ?_)
          · have h := it_n h c7
            refine lv_ldc2 hx hb hown (hts _ tw_7_9) dX7_certificateSet_45 ?_
            refine lv_land hx hb dX7_certificateSet_48 ?_
            refine lv_topl (fun x8 ex8 => ?_)
            have h := nm_s h x8 ex8
            refine lv_lstore_n (lv' := [(1, .long x8), (0, .ref (a 0)), (3, .int v3)]) hx hb dX7_certificateSet_49 rfl hl (by decide) rfl (fun ls hl => ?_)
            obtain ⟨x9, ex9⟩ : ∃ z : Int32, z = v3 + (1 : Int32) := ⟨_, rfl⟩
            have h := nm_s h x9 ex9
            refine lv_iinc (v := x9) (lv' := [(3, .int x9), (1, .long x8), (0, .ref (a 0))]) hx hb dX7_certificateSet_50 hl (k := 2) rfl (by rw [ex9]; rfl) (by decide) rfl (fun ls hl => ?_)
            refine lv_goto (tgt := 7) hx hb dX7_certificateSet_53 (by decide) ?_
            exact hk7 x8 x9 _ _ _ hp (lv_sub hl [2, 1, 0] rfl) h
          · have h := it_p h c7
            refine lv_aload_n hx hb dX7_certificateSet_33 rfl (lv_at hl 0 rfl) ?_
            refine lv_iload_n hx hb dX7_certificateSet_34 rfl (lv_at hl 2 rfl) ?_
            obtain ⟨t10, ht10, h⟩ := bd_s h
            refine cl_Vl X eokM (c_X7_cubeAt ht10) tw_40_7 mw_X7_cubeAt (by decide) hp 0 rfl rfl rfl hl.1 rfl (Nat.le_of_ble_eq_true rfl) dX7_certificateSet_35 (fun H locs hp => ?_)
            refine lv_ldc2 hx hb hown (hts _ tw_7_9) dX7_certificateSet_38 ?_
            refine lv_lxor hx hb dX7_certificateSet_41 ?_
            refine lv_goto (tgt := 48) hx hb dX7_certificateSet_42 (by decide) ?_
            refine lv_land hx hb dX7_certificateSet_48 ?_
            refine lv_topl (fun x11 ex11 => ?_)
            have h := nm_s h x11 ex11
            refine lv_lstore_n (lv' := [(1, .long x11), (0, .ref (a 0)), (3, .int v3)]) hx hb dX7_certificateSet_49 rfl hl (by decide) rfl (fun ls hl => ?_)
            obtain ⟨x12, ex12⟩ : ∃ z : Int32, z = v3 + (1 : Int32) := ⟨_, rfl⟩
            have h := nm_s h x12 ex12
            refine lv_iinc (v := x12) (lv' := [(3, .int x12), (1, .long x11), (0, .ref (a 0))]) hx hb dX7_certificateSet_50 hl (k := 2) rfl (by rw [ex12]; rfl) (by decide) rfl (fun ls hl => ?_)
            refine lv_goto (tgt := 7) hx hb dX7_certificateSet_53 (by decide) ?_
            exact hk7 x11 x12 _ _ _ hp (lv_sub hl [2, 1, 0] rfl) h
  have J_56 : ∀ (v1 : Int64) (H : Heap) (locs : List Loc) (ls : Array Slot), Pw D (wM a cA) A s.heap H locs σ → lv_has ls 4 [(0, .ref (a 0)), (1, .long v1)] → X7_certificateSet_56 σ v1 = some r → W p l e R s m args below meth c H locs 0 0 Q (F0 m 56 ls []) := by
    intro v1 H locs ls hp hl h
    unfold X7_certificateSet_56 at h
    refine lv_lload_n hx hb dX7_certificateSet_56 rfl (lv_at hl 1 rfl) ?_
    exact hR _ _ _ _ _ _ dX7_certificateSet_57 hp (Option.some.inj h) rfl
  unfold X7_certificateSet at h
  have hl := lv_sub (l' := [(0, .ref (a 0))]) hl [0] rfl
  refine lv_aload_n hx hb dX7_certificateSet_0 rfl (lv_at hl 0 rfl) ?_
  obtain ⟨t1, ht1, h⟩ := bd_s h
  refine cl_Vl X eokM (c_X7_all ht1) tw_7_5 mw_X7_all (by decide) hp 0 rfl rfl rfl hl.1 rfl (Nat.le_of_ble_eq_true rfl) dX7_certificateSet_1 (fun H locs hp => ?_)
  refine lv_lstore_n (lv' := [(1, .long t1), (0, .ref (a 0))]) hx hb dX7_certificateSet_4 rfl hl (by decide) rfl (fun ls hl => ?_)
  refine lv_iconst (v := 0) hx hb dX7_certificateSet_5 (by decide) ?_
  refine lv_istore_n (lv' := [(3, .int (0 : Int32)), (1, .long t1), (0, .ref (a 0))]) hx hb dX7_certificateSet_6 rfl hl (by decide) rfl (fun ls hl => ?_)
  exact J_7 _ (fun v1 H locs ls hp hl h => J_56 v1 _ _ _ hp hl h) _ t1 (0 : Int32) _ _ _ hp (lv_sub hl [2, 1, 0] rfl) h
def X7_allIn_2b (k2 : (Int32 → St → Option (St))) (k23 : (St → Option (St))) (v1 : Int32) (σ : St) : Option (St) :=
  if (σ.1 12) ≤ v1 then
    k23 σ
  else
    gd (inb v1 1024) (
    nm (sa σ 9 v1.toNatClampNeg (0 : Int32)) (fun (σ3 : St) =>
    nm (v1 + (1 : Int32)) (fun (x4 : Int32) =>
    k2 x4 σ3)))
def X7_allIn_2 (k23 : (St → Option (St))) : Nat → Int32 → St → Option (St)
  | 0, _, _ => none
  | n + 1, v1, σ => X7_allIn_2b (fun v1 σ => X7_allIn_2 k23 n v1 σ) k23 v1 σ
def X7_allIn_23 (σ : St) : Option (St) :=
  some σ
def X7_allIn (N : Nat) (σ : St) : Option (St) :=
  X7_allIn_2 (fun σ => X7_allIn_23 σ) N (0 : Int32) σ
set_option maxRecDepth 20000 in
set_option maxHeartbeats 4000000 in
theorem c_X7_allIn {l : Launch} {D : va_G} {a : Nat → Nat} {cA : Nat → ClassId} {σ : St} {N : Nat} {σ' : St} (h : X7_allIn N σ = some σ') : MetV l yX7_allIn cX7_allIn 2 none 0 D (tyW cA) (wM a cA) EM [.ref (a 0)] σ σ' := by
  refine mkV (by decide) (adrM a cA) rfl (Nat.le_of_ble_eq_true rfl) ?_
  intro p e R s m args below meth c A Q ls X hR hp hl
  obtain ⟨hx, hb, -, hown, hts, -⟩ := id X
  have J_2 : ∀  (k23 : (St → Option (St))) (hk23 : ∀ (σ : St) (H : Heap) (locs : List Loc) (ls : Array Slot), Pw D (wM a cA) A s.heap H locs σ → lv_has ls 2 [(0, .ref (a 0))] → k23 σ = some σ' → W p l e R s m args below meth c H locs 0 0 Q (F0 m 23 ls [])) (n : Nat) (v1 : Int32) (σ : St) (H : Heap) (locs : List Loc) (ls : Array Slot), Pw D (wM a cA) A s.heap H locs σ → lv_has ls 2 [(0, .ref (a 0)), (1, .int v1)] → X7_allIn_2 k23 n v1 σ = some σ' → W p l e R s m args below meth c H locs 0 0 Q (F0 m 2 ls []) := by
    intro k23 hk23 n
    induction n with
    | zero => intro v1 σ H locs ls hp hl h; exact nn_s (show (none : Option (St)) = some _ from h)
    | succ n ih =>
      intro v1 σ H locs ls hp hl h
      have h : X7_allIn_2b (fun v1 σ => X7_allIn_2 k23 n v1 σ) k23 v1 σ = some σ' := h
      unfold X7_allIn_2b at h
      have hk2 := ih
      refine lv_iload_n hx hb dX7_allIn_2 rfl (lv_at hl 1 rfl) ?_
      refine lv_aload_n hx hb dX7_allIn_3 rfl (lv_at hl 0 rfl) ?_
      refine gM_X7_cubes X hp tw_39_13 dX7_allIn_4 ?_
      refine lv_icmp_ge (tgt := 23) hx hb dX7_allIn_7 (by decide) (fun c1 => ?_) (fun c1 => ?_)
      · have h := it_p h c1
        exact hk23 σ _ _ _ hp (lv_sub hl [0] rfl) h
      · have h := it_n h c1
        refine lv_aload_n hx hb dX7_allIn_10 rfl (lv_at hl 0 rfl) ?_
        refine gM_X7_isOut X hp tw_6_6 dX7_allIn_11 ?_
        refine lv_iload_n hx hb dX7_allIn_14 rfl (lv_at hl 1 rfl) ?_
        refine lv_iconst (v := 0) hx hb dX7_allIn_15 (by decide) ?_
        obtain ⟨g2, h⟩ := gd_s h
        refine sM_X7_isOut X hp g2 (Or.inl rfl) dX7_allIn_16 (fun H locs σ3 eσ3 hp => ?_)
        have h := nm_s h σ3 eσ3
        obtain ⟨x4, ex4⟩ : ∃ z : Int32, z = v1 + (1 : Int32) := ⟨_, rfl⟩
        have h := nm_s h x4 ex4
        refine lv_iinc (v := x4) (lv' := [(1, .int x4), (0, .ref (a 0))]) hx hb dX7_allIn_17 hl (k := 1) rfl (by rw [ex4]; rfl) (by decide) rfl (fun ls hl => ?_)
        refine lv_goto (tgt := 2) hx hb dX7_allIn_20 (by decide) ?_
        exact hk2 x4 σ3 _ _ _ hp (lv_sub hl [1, 0] rfl) h
  have J_23 : ∀  (σ : St) (H : Heap) (locs : List Loc) (ls : Array Slot), Pw D (wM a cA) A s.heap H locs σ → lv_has ls 2 [(0, .ref (a 0))] → X7_allIn_23 σ = some σ' → W p l e R s m args below meth c H locs 0 0 Q (F0 m 23 ls []) := by
    intro σ H locs ls hp hl h
    unfold X7_allIn_23 at h
    exact hR _ _ _ _ _ dX7_allIn_23 hp (Option.some.inj h)
  unfold X7_allIn at h
  have hl := lv_sub (l' := [(0, .ref (a 0))]) hl [0] rfl
  refine lv_iconst (v := 0) hx hb dX7_allIn_0 (by decide) ?_
  refine lv_istore_n (lv' := [(1, .int (0 : Int32)), (0, .ref (a 0))]) hx hb dX7_allIn_1 rfl hl (by decide) rfl (fun ls hl => ?_)
  exact J_2 _ (fun σ H locs ls hp hl h => J_23 σ _ _ _ hp hl h) _ (0 : Int32) σ _ _ _ hp (lv_sub hl [1, 0] rfl) h
def X7_certificate_20 (N : Nat) (u0 : Int32) (σ : St) : Option (Int64 × St) :=
  nm (si σ 0 u0) (fun (σ1 : St) =>
  if (σ1.1 0) ≤ 0 then
    bd (X7_allIn N σ1) (fun t3 =>
    bd (X7_certificateSet N t3) (fun t4 =>
    some (t4, t3)))
  else
    some ((0 : Int64), σ1))
def X7_certificate (N : Nat) (σ : St) : Option (Int64 × St) :=
  if (σ.1 9) = 0 then
    X7_certificate_20 N (1 : Int32) σ
  else
    if (σ.1 10) = 0 then
      X7_certificate_20 N (0 : Int32) σ
    else
      X7_certificate_20 N (1 : Int32) σ
set_option maxRecDepth 20000 in
set_option maxHeartbeats 4000000 in
theorem c_X7_certificate {l : Launch} {D : va_G} {a : Nat → Nat} {cA : Nat → ClassId} {σ : St} {N : Nat} {r : Int64} {σ' : St} (h : X7_certificate N σ = some (r, σ')) : MetL l yX7_certificate cX7_certificate 1 (some .long) 4 D (tyW cA) (wM a cA) EM [.ref (a 0)] σ r σ' := by
  refine mkL (by decide) (adrM a cA) rfl (Nat.le_of_ble_eq_true rfl) ?_
  intro p e R s m args below meth c A Q ls X hR hp hl
  obtain ⟨hx, hb, -, hown, hts, -⟩ := id X
  have J_20 : ∀ (u0 : Int32) (σ : St) (H : Heap) (locs : List Loc) (ls : Array Slot), Pw D (wM a cA) A s.heap H locs σ → lv_has ls 1 [(0, .ref (a 0))] → X7_certificate_20 N u0 σ = some (r, σ') → W p l e R s m args below meth c H locs 0 0 Q (F0 m 20 ls [.int u0, .ref (a 0)]) := by
    intro u0 σ H locs ls hp hl h
    unfold X7_certificate_20 at h
    refine pM_X7_thrown X hp tw_8_9 dX7_certificate_20 (fun H locs σ1 eσ1 hp => ?_)
    have h := nm_s h σ1 eσ1
    refine lv_aload_n hx hb dX7_certificate_23 rfl (lv_at hl 0 rfl) ?_
    refine gM_X7_thrown X hp tw_8_9 dX7_certificate_24 ?_
    refine lv_if_le (tgt := 32) hx hb dX7_certificate_27 (by decide) (fun c2 => ?_) (fun c2 => ?_)
    · have h := it_p h c2
      refine lv_aload_n hx hb dX7_certificate_32 rfl (lv_at hl 0 rfl) ?_
      obtain ⟨t3, ht3, h⟩ := bd_s h
      refine cl_Vv X eokM (c_X7_allIn ht3) tw_45_19 mw_X7_allIn (by decide) hp 0 rfl rfl rfl hl.1 rfl (Nat.le_of_ble_eq_true rfl) dX7_certificate_33 (fun H locs hp => ?_)
      refine lv_aload_n hx hb dX7_certificate_36 rfl (lv_at hl 0 rfl) ?_
      obtain ⟨t4, ht4, h⟩ := bd_s h
      refine cl_Vl X eokM (c_X7_certificateSet ht4) tw_45_23 mw_X7_certificateSet (by decide) hp 0 rfl rfl rfl hl.1 rfl (Nat.le_of_ble_eq_true rfl) dX7_certificate_37 (fun H locs hp => ?_)
      exact hR _ _ _ _ _ _ dX7_certificate_40 hp (congrArg Prod.fst (Option.some.inj h)) (congrArg Prod.snd (Option.some.inj h))
    · have h := it_n h c2
      refine lv_lconst (v := 0) hx hb dX7_certificate_30 (by decide) ?_
      exact hR _ _ _ _ _ _ dX7_certificate_31 hp (congrArg Prod.fst (Option.some.inj h)) (congrArg Prod.snd (Option.some.inj h))
  unfold X7_certificate at h
  have hl := lv_sub (l' := [(0, .ref (a 0))]) hl [0] rfl
  refine lv_aload_n hx hb dX7_certificate_0 rfl (lv_at hl 0 rfl) ?_
  refine lv_aload_n hx hb dX7_certificate_1 rfl (lv_at hl 0 rfl) ?_
  refine gM_X7_isProof X hp tw_6_20 dX7_certificate_2 ?_
  refine lv_if_eq (tgt := 19) hx hb dX7_certificate_5 (by decide) (fun c1 => ?_) (fun c1 => ?_)
  · have h := it_p h c1
    refine lv_iconst (v := 1) hx hb dX7_certificate_19 (by decide) ?_
    exact J_20 (1 : Int32) σ _ _ _ hp (lv_sub hl [0] rfl) h
  · have h := it_n h c1
    refine lv_aload_n hx hb dX7_certificate_8 rfl (lv_at hl 0 rfl) ?_
    refine gM_X7_verdict X hp tw_39_11 dX7_certificate_9 ?_
    refine lv_if_ne (tgt := 19) hx hb dX7_certificate_12 (by decide) (fun c2 => ?_) (fun c2 => ?_)
    · have h := it_n h c2
      refine lv_iconst (v := 1) hx hb dX7_certificate_19 (by decide) ?_
      exact J_20 (1 : Int32) σ _ _ _ hp (lv_sub hl [0] rfl) h
    · have h := it_p h c2
      refine lv_iconst (v := 0) hx hb dX7_certificate_15 (by decide) ?_
      refine lv_goto (tgt := 20) hx hb dX7_certificate_16 (by decide) ?_
      exact J_20 (0 : Int32) σ _ _ _ hp (lv_sub hl [0] rfl) h
def X7_shrunkenNow_73 (k8 : (Int32 → Int32 → St → Option (Int32 × St))) (v1 : Int32) (v2 : Int32) (u0 : Int32) (u1 : Int32) (σ : St) : Option (Int32 × St) :=
  gd (inb u1 1024) (
  gd (isb u0) (
  nm (sa σ 9 u1.toNatClampNeg u0) (fun (σ2 : St) =>
  gd (inb v2 1024) (
  if (σ2.2.2.1 9 v2.toNatClampNeg) = 0 then
    nm (v1 + (1 : Int32)) (fun (x6 : Int32) =>
    nm (v2 + (1 : Int32)) (fun (x7 : Int32) =>
    k8 x6 x7 σ2))
  else
    nm (v1 + (0 : Int32)) (fun (x8 : Int32) =>
    nm (v2 + (1 : Int32)) (fun (x9 : Int32) =>
    k8 x8 x9 σ2))))))
def X7_shrunkenNow_8b (N : Nat) (k8 : (Int32 → Int32 → St → Option (Int32 × St))) (k97 : (Int32 → St → Option (Int32 × St))) (v1 : Int32) (v2 : Int32) (σ : St) : Option (Int32 × St) :=
  if (σ.1 12) ≤ v2 then
    k97 v1 σ
  else
    bd (X7_isCertified σ v2) (fun t2 =>
    if t2 = 0 then
      nm (v2 + (1 : Int32)) (fun (x4 : Int32) =>
      k8 v1 x4 σ)
    else
      gd (inb v2 1024) (
      nm (sa σ 9 v2.toNatClampNeg (1 : Int32)) (fun (σ6 : St) =>
      bd (X7_certificateSet N σ6) (fun t7 =>
      bd (X7_successors N σ6 t7) (fun t8 =>
      if (t8 &&& (t7 ^^^ (-1 : Int64))) = (0 : Int64) then
        bd (X7_bad σ6) (fun t10 =>
        if (t7 &&& t10) = (0 : Int64) then
          X7_shrunkenNow_73 k8 v1 v2 (1 : Int32) v2 σ6
        else
          X7_shrunkenNow_73 k8 v1 v2 (0 : Int32) v2 σ6)
      else
        X7_shrunkenNow_73 k8 v1 v2 (0 : Int32) v2 σ6)))))
def X7_shrunkenNow_8 (N : Nat) (k97 : (Int32 → St → Option (Int32 × St))) : Nat → Int32 → Int32 → St → Option (Int32 × St)
  | 0, _, _, _ => none
  | n + 1, v1, v2, σ => X7_shrunkenNow_8b N (fun v1 v2 σ => X7_shrunkenNow_8 N k97 n v1 v2 σ) k97 v1 v2 σ
def X7_shrunkenNow_97 (v1 : Int32) (σ : St) : Option (Int32 × St) :=
  some (v1, σ)
def X7_shrunkenNow (N : Nat) (σ : St) : Option (Int32 × St) :=
  bd (X7_allIn N σ) (fun t1 =>
  X7_shrunkenNow_8 N (fun v1 σ => X7_shrunkenNow_97 v1 σ) N (0 : Int32) (0 : Int32) t1)
set_option maxRecDepth 20000 in
set_option maxHeartbeats 4000000 in
theorem c_X7_shrunkenNow {l : Launch} {D : va_G} {a : Nat → Nat} {cA : Nat → ClassId} {σ : St} {N : Nat} {r : Int32} {σ' : St} (h : X7_shrunkenNow N σ = some (r, σ')) : MetI l yX7_shrunkenNow cX7_shrunkenNow 5 (some .int) 4 D (tyW cA) (wM a cA) EM [.ref (a 0)] σ r σ' := by
  refine mkI (by decide) (adrM a cA) (Or.inl rfl) (Nat.le_of_ble_eq_true rfl) ?_
  intro p e R s m args below meth c A Q ls X hR hp hl
  obtain ⟨hx, hb, -, hown, hts, -⟩ := id X
  have J_73 : ∀ (v1 : Int32) (v2 : Int32) (u0 : Int32) (u1 : Int32) (k8 : (Int32 → Int32 → St → Option (Int32 × St))) (hk8 : ∀ (v1 : Int32) (v2 : Int32) (σ : St) (H : Heap) (locs : List Loc) (ls : Array Slot), Pw D (wM a cA) A s.heap H locs σ → lv_has ls 5 [(0, .ref (a 0)), (1, .int v1), (2, .int v2)] → k8 v1 v2 σ = some (r, σ') → W p l e R s m args below meth c H locs 0 0 Q (F0 m 8 ls [])) (σ : St) (H : Heap) (locs : List Loc) (ls : Array Slot), Pw D (wM a cA) A s.heap H locs σ → lv_has ls 5 [(0, .ref (a 0)), (1, .int v1), (2, .int v2)] → X7_shrunkenNow_73 k8 v1 v2 u0 u1 σ = some (r, σ') → W p l e R s m args below meth c H locs 0 0 Q (F0 m 73 ls [.int u0, .int u1, .ref (a 14)]) := by
    intro v1 v2 u0 u1 k8 hk8 σ H locs ls hp hl h
    unfold X7_shrunkenNow_73 at h
    obtain ⟨g1, h⟩ := gd_s h
    obtain ⟨g3, h⟩ := gd_s h
    refine sM_X7_isOut X hp g1 g3 dX7_shrunkenNow_73 (fun H locs σ2 eσ2 hp => ?_)
    have h := nm_s h σ2 eσ2
    refine lv_iload_n hx hb dX7_shrunkenNow_74 rfl (lv_at hl 1 rfl) ?_
    refine lv_aload_n hx hb dX7_shrunkenNow_75 rfl (lv_at hl 0 rfl) ?_
    refine gM_X7_isOut X hp tw_6_6 dX7_shrunkenNow_76 ?_
    refine lv_iload_n hx hb dX7_shrunkenNow_79 rfl (lv_at hl 2 rfl) ?_
    obtain ⟨g4, h⟩ := gd_s h
    refine lM_X7_isOut X hp g4 dX7_shrunkenNow_80 ?_
    refine lv_if_eq (tgt := 88) hx hb dX7_shrunkenNow_81 (by decide) (fun c5 => ?_) (fun c5 => ?_)
    · have h := it_p h c5
      refine lv_iconst (v := 1) hx hb dX7_shrunkenNow_88 (by decide) ?_
      refine lv_iadd hx hb dX7_shrunkenNow_89 ?_
      refine lv_topi (fun x6 ex6 => ?_)
      have h := nm_s h x6 ex6
      refine lv_istore_n (lv' := [(1, .int x6), (0, .ref (a 0)), (2, .int v2)]) hx hb dX7_shrunkenNow_90 rfl hl (by decide) rfl (fun ls hl => ?_)
      obtain ⟨x7, ex7⟩ : ∃ z : Int32, z = v2 + (1 : Int32) := ⟨_, rfl⟩
      have h := nm_s h x7 ex7
      refine lv_iinc (v := x7) (lv' := [(2, .int x7), (1, .int x6), (0, .ref (a 0))]) hx hb dX7_shrunkenNow_91 hl (k := 2) rfl (by rw [ex7]; rfl) (by decide) rfl (fun ls hl => ?_)
      refine lv_goto (tgt := 8) hx hb dX7_shrunkenNow_94 (by decide) ?_
      exact hk8 x6 x7 σ2 _ _ _ hp (lv_sub hl [2, 1, 0] rfl) h
    · have h := it_n h c5
      refine lv_iconst (v := 0) hx hb dX7_shrunkenNow_84 (by decide) ?_
      refine lv_goto (tgt := 89) hx hb dX7_shrunkenNow_85 (by decide) ?_
      refine lv_iadd hx hb dX7_shrunkenNow_89 ?_
      refine lv_topi (fun x8 ex8 => ?_)
      have h := nm_s h x8 ex8
      refine lv_istore_n (lv' := [(1, .int x8), (0, .ref (a 0)), (2, .int v2)]) hx hb dX7_shrunkenNow_90 rfl hl (by decide) rfl (fun ls hl => ?_)
      obtain ⟨x9, ex9⟩ : ∃ z : Int32, z = v2 + (1 : Int32) := ⟨_, rfl⟩
      have h := nm_s h x9 ex9
      refine lv_iinc (v := x9) (lv' := [(2, .int x9), (1, .int x8), (0, .ref (a 0))]) hx hb dX7_shrunkenNow_91 hl (k := 2) rfl (by rw [ex9]; rfl) (by decide) rfl (fun ls hl => ?_)
      refine lv_goto (tgt := 8) hx hb dX7_shrunkenNow_94 (by decide) ?_
      exact hk8 x8 x9 σ2 _ _ _ hp (lv_sub hl [2, 1, 0] rfl) h
  have J_8 : ∀  (k97 : (Int32 → St → Option (Int32 × St))) (hk97 : ∀ (v1 : Int32) (σ : St) (H : Heap) (locs : List Loc) (ls : Array Slot), Pw D (wM a cA) A s.heap H locs σ → lv_has ls 5 [(0, .ref (a 0)), (1, .int v1)] → k97 v1 σ = some (r, σ') → W p l e R s m args below meth c H locs 0 0 Q (F0 m 97 ls [])) (n : Nat) (v1 : Int32) (v2 : Int32) (σ : St) (H : Heap) (locs : List Loc) (ls : Array Slot), Pw D (wM a cA) A s.heap H locs σ → lv_has ls 5 [(0, .ref (a 0)), (1, .int v1), (2, .int v2)] → X7_shrunkenNow_8 N k97 n v1 v2 σ = some (r, σ') → W p l e R s m args below meth c H locs 0 0 Q (F0 m 8 ls []) := by
    intro k97 hk97 n
    induction n with
    | zero => intro v1 v2 σ H locs ls hp hl h; exact nn_s (show (none : Option (Int32 × St)) = some _ from h)
    | succ n ih =>
      intro v1 v2 σ H locs ls hp hl h
      have h : X7_shrunkenNow_8b N (fun v1 v2 σ => X7_shrunkenNow_8 N k97 n v1 v2 σ) k97 v1 v2 σ = some (r, σ') := h
      unfold X7_shrunkenNow_8b at h
      have hk8 := ih
      refine lv_iload_n hx hb dX7_shrunkenNow_8 rfl (lv_at hl 2 rfl) ?_
      refine lv_aload_n hx hb dX7_shrunkenNow_9 rfl (lv_at hl 0 rfl) ?_
      refine gM_X7_cubes X hp tw_39_13 dX7_shrunkenNow_10 ?_
      refine lv_icmp_ge (tgt := 97) hx hb dX7_shrunkenNow_13 (by decide) (fun c1 => ?_) (fun c1 => ?_)
      · have h := it_p h c1
        exact hk97 v1 σ _ _ _ hp (lv_sub hl [0, 1] rfl) h
      · have h := it_n h c1
        refine lv_aload_n hx hb dX7_shrunkenNow_16 rfl (lv_at hl 0 rfl) ?_
        refine lv_iload_n hx hb dX7_shrunkenNow_17 rfl (lv_at hl 2 rfl) ?_
        obtain ⟨t2, ht2, h⟩ := bd_s h
        refine cl_Vi X eokM (c_X7_isCertified ht2) tw_43_6 mw_X7_isCertified (by decide) hp 0 rfl rfl rfl hl.1 rfl (Nat.le_of_ble_eq_true rfl) dX7_shrunkenNow_18 (fun H locs hp => ?_)
        refine lv_if_eq (tgt := 91) hx hb dX7_shrunkenNow_21 (by decide) (fun c3 => ?_) (fun c3 => ?_)
        · have h := it_p h c3
          obtain ⟨x4, ex4⟩ : ∃ z : Int32, z = v2 + (1 : Int32) := ⟨_, rfl⟩
          have h := nm_s h x4 ex4
          refine lv_iinc (v := x4) (lv' := [(2, .int x4), (0, .ref (a 0)), (1, .int v1)]) hx hb dX7_shrunkenNow_91 hl (k := 2) rfl (by rw [ex4]; rfl) (by decide) rfl (fun ls hl => ?_)
          refine lv_goto (tgt := 8) hx hb dX7_shrunkenNow_94 (by decide) ?_
          exact hk8 v1 x4 σ _ _ _ hp (lv_sub hl [1, 2, 0] rfl) h
        · have h := it_n h c3
          refine lv_aload_n hx hb dX7_shrunkenNow_24 rfl (lv_at hl 0 rfl) ?_
          refine gM_X7_isOut X hp tw_6_6 dX7_shrunkenNow_25 ?_
          refine lv_iload_n hx hb dX7_shrunkenNow_28 rfl (lv_at hl 2 rfl) ?_
          refine lv_iconst (v := 1) hx hb dX7_shrunkenNow_29 (by decide) ?_
          obtain ⟨g5, h⟩ := gd_s h
          refine sM_X7_isOut X hp g5 (Or.inr rfl) dX7_shrunkenNow_30 (fun H locs σ6 eσ6 hp => ?_)
          have h := nm_s h σ6 eσ6
          refine lv_aload_n hx hb dX7_shrunkenNow_31 rfl (lv_at hl 0 rfl) ?_
          obtain ⟨t7, ht7, h⟩ := bd_s h
          refine cl_Vl X eokM (c_X7_certificateSet ht7) tw_45_23 mw_X7_certificateSet (by decide) hp 0 rfl rfl rfl hl.1 rfl (Nat.le_of_ble_eq_true rfl) dX7_shrunkenNow_32 (fun H locs hp => ?_)
          refine lv_lstore_n (lv' := [(3, .long t7), (0, .ref (a 0)), (1, .int v1), (2, .int v2)]) hx hb dX7_shrunkenNow_35 rfl hl (by decide) rfl (fun ls hl => ?_)
          refine lv_aload_n hx hb dX7_shrunkenNow_36 rfl (lv_at hl 1 rfl) ?_
          refine gM_X7_isOut X hp tw_6_6 dX7_shrunkenNow_37 ?_
          refine lv_iload_n hx hb dX7_shrunkenNow_40 rfl (lv_at hl 3 rfl) ?_
          refine lv_aload_n hx hb dX7_shrunkenNow_41 rfl (lv_at hl 1 rfl) ?_
          refine lv_lload_n hx hb dX7_shrunkenNow_42 rfl (lv_at hl 0 rfl) ?_
          obtain ⟨t8, ht8, h⟩ := bd_s h
          refine cl_Vl X eokM (c_X7_successors ht8) tw_27_6 mw_X7_successors (by decide) hp 0 rfl rfl rfl hl.1 rfl (Nat.le_of_ble_eq_true rfl) dX7_shrunkenNow_43 (fun H locs hp => ?_)
          refine lv_lload_n hx hb dX7_shrunkenNow_46 rfl (lv_at hl 0 rfl) ?_
          refine lv_ldc2 hx hb hown (hts _ tw_7_9) dX7_shrunkenNow_47 ?_
          refine lv_lxor hx hb dX7_shrunkenNow_50 ?_
          refine lv_land hx hb dX7_shrunkenNow_51 ?_
          refine lv_lconst (v := 0) hx hb dX7_shrunkenNow_52 (by decide) ?_
          refine W.lcmp hx hb dX7_shrunkenNow_53 ?_
          refine lv_if_ne (tgt := 72) hx hb dX7_shrunkenNow_54 (by decide) (fun c9 => ?_) (fun c9 => ?_)
          · have h := it_n h (fun q => c9 (lcmp0.mpr q))
            refine lv_iconst (v := 0) hx hb dX7_shrunkenNow_72 (by decide) ?_
            exact J_73 v1 v2 (0 : Int32) v2 _ hk8 σ6 _ _ _ hp (lv_sub hl [1, 2, 3] rfl) h
          · have h := it_p h (lcmp0.mp c9)
            refine lv_lload_n hx hb dX7_shrunkenNow_57 rfl (lv_at hl 0 rfl) ?_
            refine lv_aload_n hx hb dX7_shrunkenNow_58 rfl (lv_at hl 1 rfl) ?_
            obtain ⟨t10, ht10, h⟩ := bd_s h
            refine cl_Vl X eokM (c_X7_bad ht10) tw_26_18 mw_X7_bad (by decide) hp 0 rfl rfl rfl hl.1 rfl (Nat.le_of_ble_eq_true rfl) dX7_shrunkenNow_59 (fun H locs hp => ?_)
            refine lv_land hx hb dX7_shrunkenNow_62 ?_
            refine lv_lconst (v := 0) hx hb dX7_shrunkenNow_63 (by decide) ?_
            refine W.lcmp hx hb dX7_shrunkenNow_64 ?_
            refine lv_if_ne (tgt := 72) hx hb dX7_shrunkenNow_65 (by decide) (fun c11 => ?_) (fun c11 => ?_)
            · have h := it_n h (fun q => c11 (lcmp0.mpr q))
              refine lv_iconst (v := 0) hx hb dX7_shrunkenNow_72 (by decide) ?_
              exact J_73 v1 v2 (0 : Int32) v2 _ hk8 σ6 _ _ _ hp (lv_sub hl [1, 2, 3] rfl) h
            · have h := it_p h (lcmp0.mp c11)
              refine lv_iconst (v := 1) hx hb dX7_shrunkenNow_68 (by decide) ?_
              refine lv_goto (tgt := 73) hx hb dX7_shrunkenNow_69 (by decide) ?_
              exact J_73 v1 v2 (1 : Int32) v2 _ hk8 σ6 _ _ _ hp (lv_sub hl [1, 2, 3] rfl) h
  have J_97 : ∀ (v1 : Int32) (σ : St) (H : Heap) (locs : List Loc) (ls : Array Slot), Pw D (wM a cA) A s.heap H locs σ → lv_has ls 5 [(0, .ref (a 0)), (1, .int v1)] → X7_shrunkenNow_97 v1 σ = some (r, σ') → W p l e R s m args below meth c H locs 0 0 Q (F0 m 97 ls []) := by
    intro v1 σ H locs ls hp hl h
    unfold X7_shrunkenNow_97 at h
    refine lv_iload_n hx hb dX7_shrunkenNow_97 rfl (lv_at hl 1 rfl) ?_
    exact hR _ _ _ _ _ _ dX7_shrunkenNow_98 hp (congrArg Prod.fst (Option.some.inj h)) (congrArg Prod.snd (Option.some.inj h)) (fun q => by cases q)
  unfold X7_shrunkenNow at h
  have hl := lv_sub (l' := [(0, .ref (a 0))]) hl [0] rfl
  refine lv_aload_n hx hb dX7_shrunkenNow_0 rfl (lv_at hl 0 rfl) ?_
  obtain ⟨t1, ht1, h⟩ := bd_s h
  refine cl_Vv X eokM (c_X7_allIn ht1) tw_45_19 mw_X7_allIn (by decide) hp 0 rfl rfl rfl hl.1 rfl (Nat.le_of_ble_eq_true rfl) dX7_shrunkenNow_1 (fun H locs hp => ?_)
  refine lv_iconst (v := 0) hx hb dX7_shrunkenNow_4 (by decide) ?_
  refine lv_istore_n (lv' := [(1, .int (0 : Int32)), (0, .ref (a 0))]) hx hb dX7_shrunkenNow_5 rfl hl (by decide) rfl (fun ls hl => ?_)
  refine lv_iconst (v := 0) hx hb dX7_shrunkenNow_6 (by decide) ?_
  refine lv_istore_n (lv' := [(2, .int (0 : Int32)), (1, .int (0 : Int32)), (0, .ref (a 0))]) hx hb dX7_shrunkenNow_7 rfl hl (by decide) rfl (fun ls hl => ?_)
  exact J_8 _ (fun v1 σ H locs ls hp hl h => J_97 v1 σ _ _ _ hp hl h) _ (0 : Int32) (0 : Int32) t1 _ _ _ hp (lv_sub hl [2, 1, 0] rfl) h
def X7_shrunken_20 (N : Nat) (u0 : Int32) (σ : St) : Option (Int32 × St) :=
  nm (si σ 0 u0) (fun (σ1 : St) =>
  if (σ1.1 0) ≤ 0 then
    bd (X7_shrunkenNow N σ1) (fun t3 =>
    some (t3.1, t3.2))
  else
    some ((0 : Int32), σ1))
def X7_shrunken (N : Nat) (σ : St) : Option (Int32 × St) :=
  if (σ.1 9) = 0 then
    X7_shrunken_20 N (1 : Int32) σ
  else
    if (σ.1 10) = 0 then
      X7_shrunken_20 N (0 : Int32) σ
    else
      X7_shrunken_20 N (1 : Int32) σ
set_option maxRecDepth 20000 in
set_option maxHeartbeats 4000000 in
theorem c_X7_shrunken {l : Launch} {D : va_G} {a : Nat → Nat} {cA : Nat → ClassId} {σ : St} {N : Nat} {r : Int32} {σ' : St} (h : X7_shrunken N σ = some (r, σ')) : MetI l yX7_shrunken cX7_shrunken 1 (some .int) 5 D (tyW cA) (wM a cA) EM [.ref (a 0)] σ r σ' := by
  refine mkI (by decide) (adrM a cA) (Or.inl rfl) (Nat.le_of_ble_eq_true rfl) ?_
  intro p e R s m args below meth c A Q ls X hR hp hl
  obtain ⟨hx, hb, -, hown, hts, -⟩ := id X
  have J_20 : ∀ (u0 : Int32) (σ : St) (H : Heap) (locs : List Loc) (ls : Array Slot), Pw D (wM a cA) A s.heap H locs σ → lv_has ls 1 [(0, .ref (a 0))] → X7_shrunken_20 N u0 σ = some (r, σ') → W p l e R s m args below meth c H locs 0 0 Q (F0 m 20 ls [.int u0, .ref (a 0)]) := by
    intro u0 σ H locs ls hp hl h
    unfold X7_shrunken_20 at h
    refine pM_X7_thrown X hp tw_8_9 dX7_shrunken_20 (fun H locs σ1 eσ1 hp => ?_)
    have h := nm_s h σ1 eσ1
    refine lv_aload_n hx hb dX7_shrunken_23 rfl (lv_at hl 0 rfl) ?_
    refine gM_X7_thrown X hp tw_8_9 dX7_shrunken_24 ?_
    refine lv_if_le (tgt := 34) hx hb dX7_shrunken_27 (by decide) (fun c2 => ?_) (fun c2 => ?_)
    · have h := it_p h c2
      refine lv_aload_n hx hb dX7_shrunken_34 rfl (lv_at hl 0 rfl) ?_
      obtain ⟨t3, ht3, h⟩ := bd_s h
      refine cl_Vi X eokM (c_X7_shrunkenNow ht3) tw_46_23 mw_X7_shrunkenNow (by decide) hp 0 rfl rfl rfl hl.1 rfl (Nat.le_of_ble_eq_true rfl) dX7_shrunken_35 (fun H locs hp => ?_)
      exact hR _ _ _ _ _ _ dX7_shrunken_38 hp (congrArg Prod.fst (Option.some.inj h)) (congrArg Prod.snd (Option.some.inj h)) (fun q => by cases q)
    · have h := it_n h c2
      refine lv_iconst (v := 0) hx hb dX7_shrunken_30 (by decide) ?_
      refine lv_goto (tgt := 38) hx hb dX7_shrunken_31 (by decide) ?_
      exact hR _ _ _ _ _ _ dX7_shrunken_38 hp (congrArg Prod.fst (Option.some.inj h)) (congrArg Prod.snd (Option.some.inj h)) (fun q => by cases q)
  unfold X7_shrunken at h
  have hl := lv_sub (l' := [(0, .ref (a 0))]) hl [0] rfl
  refine lv_aload_n hx hb dX7_shrunken_0 rfl (lv_at hl 0 rfl) ?_
  refine lv_aload_n hx hb dX7_shrunken_1 rfl (lv_at hl 0 rfl) ?_
  refine gM_X7_isProof X hp tw_6_20 dX7_shrunken_2 ?_
  refine lv_if_eq (tgt := 19) hx hb dX7_shrunken_5 (by decide) (fun c1 => ?_) (fun c1 => ?_)
  · have h := it_p h c1
    refine lv_iconst (v := 1) hx hb dX7_shrunken_19 (by decide) ?_
    exact J_20 (1 : Int32) σ _ _ _ hp (lv_sub hl [0] rfl) h
  · have h := it_n h c1
    refine lv_aload_n hx hb dX7_shrunken_8 rfl (lv_at hl 0 rfl) ?_
    refine gM_X7_verdict X hp tw_39_11 dX7_shrunken_9 ?_
    refine lv_if_ne (tgt := 19) hx hb dX7_shrunken_12 (by decide) (fun c2 => ?_) (fun c2 => ?_)
    · have h := it_n h c2
      refine lv_iconst (v := 1) hx hb dX7_shrunken_19 (by decide) ?_
      exact J_20 (1 : Int32) σ _ _ _ hp (lv_sub hl [0] rfl) h
    · have h := it_p h c2
      refine lv_iconst (v := 0) hx hb dX7_shrunken_15 (by decide) ?_
      refine lv_goto (tgt := 20) hx hb dX7_shrunken_16 (by decide) ?_
      exact J_20 (0 : Int32) σ _ _ _ hp (lv_sub hl [0] rfl) h
