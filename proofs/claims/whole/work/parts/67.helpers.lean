set_option maxRecDepth 20000 in
set_option maxHeartbeats 4000000 in
theorem c_L_begin {l : Launch} {D : va_G} {a : Nat → Nat} {cA : Nat → ClassId} {t ao : Nat} {σ : St} {f : Nat → Int64} {v1 : Int32} {v2 : Int32} {N : Nat} {r : Int32} {σ' : St} (h : X6_begin N v1 v2 σ = some (r, σ')) : MetH l yL_begin cL_begin 5 [(0, 10, 13, 13)] 7 D a cA ao (ES t FX) [.ref (a 0), .int v1, .int v2, .ref ao] σ f 0 σ' (vp_updL f 0 r.toInt64) := by
  refine mkH (by decide) (Nat.le_of_ble_eq_true rfl) ?_
  intro p e R s m args below meth c A Q ls X hRc htab hap hDo hR hp ho hl
  obtain ⟨hx, hb, -, hown, hts, -⟩ := id X
  have hF : EOK FX := eokX
  have hl : lv_has ls 5 [(0, .ref (a 0)), (1, .int v1), (2, .int v2), (3, .ref ao)] := hl
  refine lv_aload_n hx hb dL_begin_0 rfl (lv_at hl 3 rfl) ?_
  refine lv_iconst (v := 0) hx hb dL_begin_1 (by decide) ?_
  refine lv_aload_n hx hb dL_begin_2 rfl (lv_at hl 0 rfl) ?_
  refine lv_iload_n hx hb dL_begin_3 rfl (lv_at hl 1 rfl) ?_
  refine lv_iload_n hx hb dL_begin_4 rfl (lv_at hl 2 rfl) ?_
  refine clR_i X (eokS hF) (c_X6_begin hF h) tw_7_15 mw_X6_begin (by decide) hp ho hap ⟨Nat.zero_le _, Nat.zero_le _⟩ 0 rfl rfl rfl hl.1 rfl (Nat.le_of_ble_eq_true rfl) dL_begin_5 (fun H locs hp ho => ?_)
  refine lv_i2l hx hb dL_begin_8 rfl ?_
  refine stO X hp ho hDo (apS hap) dL_begin_9 (fun H locs hp ho => ?_)
  refine lv_goto (tgt := 17) hx hb dL_begin_10 (by decide) ?_
  refine lv_iconst (v := 0) hx hb dL_begin_17 (by decide) ?_
  exact hR _ _ _ _ _ _ _ _ _ dL_begin_18 (Nat.zero_le _) (Nat.zero_le _) hp ho rfl rfl rfl
set_option maxRecDepth 20000 in
set_option maxHeartbeats 4000000 in
theorem c_L_begin_x1 {l0 : Launch} (hl0 : l0.stackTraces = false) {D : va_G} {a : Nat → Nat} {cA : Nat → ClassId} {t ao : Nat} {σ : St} {f : Nat → Int64} {v1 : Int32} {v2 : Int32} {σ' : St} (h : X6_begin_t v1 v2 σ = some (1, σ')) : MetH l0 yL_begin cL_begin 5 [(0, 10, 13, 13)] 7 D a cA ao (ES t FX) [.ref (a 0), .int v1, .int v2, .ref ao] σ f 1 σ' f := by
  refine mkH (by decide) (Nat.le_of_ble_eq_true rfl) ?_
  intro p e R s m args below meth c A Q ls X hRc htab hap hDo hR hp ho hl
  obtain ⟨hx, hb, -, hown, hts, -⟩ := id X
  have hF : EOK FX := eokX
  have hl : lv_has ls 5 [(0, .ref (a 0)), (1, .int v1), (2, .int v2), (3, .ref ao)] := hl
  obtain ⟨-, -, -, -, -, -, hcast, hnc, -⟩ := X.2.2.2.2.2.2.2.2.1
  refine lv_aload_n hx hb dL_begin_0 rfl (lv_at hl 3 rfl) ?_
  refine lv_iconst (v := 0) hx hb dL_begin_1 (by decide) ?_
  refine lv_aload_n hx hb dL_begin_2 rfl (lv_at hl 0 rfl) ?_
  refine lv_iload_n hx hb dL_begin_3 rfl (lv_at hl 1 rfl) ?_
  refine lv_iload_n hx hb dL_begin_4 rfl (lv_at hl 2 rfl) ?_
  refine clX_i X hRc (eokS hF) (c_X6_begin_t hl0 h) tw_7_15 mw_X6_begin (by decide) hp ho hap 0 rfl rfl rfl hl.1 rfl (Nat.le_of_ble_eq_true rfl) dL_begin_5 (fun H locs q ex ce hp ho e1 h1 h2 h3 => ?_)
  refine xcatch (k := 1) X hcast ([] : List ExceptionTableEntry) (⟨0, 10, 13, 13⟩) (tableOf []) (htab.trans rfl) (fun z hz => by cases hz) (by decide) (by decide) tw_7_14 (Or.inl rfl) e1 h1 h2 h3 ?_
  refine lv_astore (lv' := [(4, .ref q), (0, .ref (a 0)), (1, .int v1), (2, .int v2), (3, .ref ao)]) hx hb dL_begin_13 hl (by decide) rfl (fun ls hl => ?_)
  refine lv_iconst (v := 1) hx hb dL_begin_15 (by decide) ?_
  exact hR _ _ _ _ _ _ _ _ _ dL_begin_16 (Nat.le_refl _) (Nat.le_refl _) hp ho rfl rfl rfl
set_option maxRecDepth 20000 in
set_option maxHeartbeats 4000000 in
theorem c_L_append {l : Launch} {D : va_G} {a : Nat → Nat} {cA : Nat → ClassId} {t ao : Nat} {σ : St} {f : Nat → Int64} {v1 : Int32} {r : Int32} {σ' : St} (h : X6_append v1 σ = some (r, σ')) : MetH l yL_append cL_append 4 [(0, 9, 12, 13), (0, 9, 15, 19)] 7 D a cA ao (ES t FX) [.ref (a 0), .int v1, .ref ao] σ f 0 σ' (vp_updL f 0 r.toInt64) := by
  refine mkH (by decide) (Nat.le_of_ble_eq_true rfl) ?_
  intro p e R s m args below meth c A Q ls X hRc htab hap hDo hR hp ho hl
  obtain ⟨hx, hb, -, hown, hts, -⟩ := id X
  have hF : EOK FX := eokX
  have hl : lv_has ls 4 [(0, .ref (a 0)), (1, .int v1), (2, .ref ao)] := hl
  refine lv_aload_n hx hb dL_append_0 rfl (lv_at hl 2 rfl) ?_
  refine lv_iconst (v := 0) hx hb dL_append_1 (by decide) ?_
  refine lv_aload_n hx hb dL_append_2 rfl (lv_at hl 0 rfl) ?_
  refine lv_iload_n hx hb dL_append_3 rfl (lv_at hl 1 rfl) ?_
  refine clR_i X (eokS hF) (c_X6_append hF h) tw_8_21 mw_X6_append (by decide) hp ho hap ⟨Nat.zero_le _, Nat.zero_le _⟩ 0 rfl rfl rfl hl.1 rfl (Nat.le_of_ble_eq_true rfl) dL_append_4 (fun H locs hp ho => ?_)
  refine lv_i2l hx hb dL_append_7 rfl ?_
  refine stO X hp ho hDo (apS hap) dL_append_8 (fun H locs hp ho => ?_)
  refine lv_goto (tgt := 18) hx hb dL_append_9 (by decide) ?_
  refine lv_iconst (v := 0) hx hb dL_append_18 (by decide) ?_
  exact hR _ _ _ _ _ _ _ _ _ dL_append_19 (Nat.zero_le _) (Nat.zero_le _) hp ho rfl rfl rfl
set_option maxRecDepth 20000 in
set_option maxHeartbeats 4000000 in
theorem c_L_append_x1 {l0 : Launch} (hl0 : l0.stackTraces = false) {D : va_G} {a : Nat → Nat} {cA : Nat → ClassId} {t ao : Nat} {σ : St} {f : Nat → Int64} {v1 : Int32} {σ' : St} (h : X6_append_t v1 σ = some (1, σ')) : MetH l0 yL_append cL_append 4 [(0, 9, 12, 13), (0, 9, 15, 19)] 7 D a cA ao (ES t FX) [.ref (a 0), .int v1, .ref ao] σ f 1 σ' f := by
  refine mkH (by decide) (Nat.le_of_ble_eq_true rfl) ?_
  intro p e R s m args below meth c A Q ls X hRc htab hap hDo hR hp ho hl
  obtain ⟨hx, hb, -, hown, hts, -⟩ := id X
  have hF : EOK FX := eokX
  have hl : lv_has ls 4 [(0, .ref (a 0)), (1, .int v1), (2, .ref ao)] := hl
  obtain ⟨-, -, -, -, -, -, hcast, hnc, -⟩ := X.2.2.2.2.2.2.2.2.1
  refine lv_aload_n hx hb dL_append_0 rfl (lv_at hl 2 rfl) ?_
  refine lv_iconst (v := 0) hx hb dL_append_1 (by decide) ?_
  refine lv_aload_n hx hb dL_append_2 rfl (lv_at hl 0 rfl) ?_
  refine lv_iload_n hx hb dL_append_3 rfl (lv_at hl 1 rfl) ?_
  refine clX_i X hRc (eokS hF) (c_X6_append_t hl0 h) tw_8_21 mw_X6_append (by decide) hp ho hap 0 rfl rfl rfl hl.1 rfl (Nat.le_of_ble_eq_true rfl) dL_append_4 (fun H locs q ex ce hp ho e1 h1 h2 h3 => ?_)
  refine xcatch (k := 1) X hcast ([] : List ExceptionTableEntry) (⟨0, 9, 12, 13⟩) (tableOf [(0, 9, 15, 19)]) (htab.trans rfl) (fun z hz => by cases hz) (by decide) (by decide) tw_7_14 (Or.inl rfl) e1 h1 h2 h3 ?_
  refine lv_astore_n (lv' := [(3, .ref q), (0, .ref (a 0)), (1, .int v1), (2, .ref ao)]) hx hb dL_append_12 rfl hl (by decide) rfl (fun ls hl => ?_)
  refine lv_iconst (v := 1) hx hb dL_append_13 (by decide) ?_
  exact hR _ _ _ _ _ _ _ _ _ dL_append_14 (Nat.le_refl _) (Nat.le_refl _) hp ho rfl rfl rfl
set_option maxRecDepth 20000 in
set_option maxHeartbeats 4000000 in
theorem c_L_append_x2 {l0 : Launch} (hl0 : l0.stackTraces = false) {D : va_G} {a : Nat → Nat} {cA : Nat → ClassId} {t ao : Nat} {σ : St} {f : Nat → Int64} {v1 : Int32} {σ' : St} (h : X6_append_t v1 σ = some (2, σ')) : MetH l0 yL_append cL_append 4 [(0, 9, 12, 13), (0, 9, 15, 19)] 7 D a cA ao (ES t FX) [.ref (a 0), .int v1, .ref ao] σ f 2 σ' f := by
  refine mkH (by decide) (Nat.le_of_ble_eq_true rfl) ?_
  intro p e R s m args below meth c A Q ls X hRc htab hap hDo hR hp ho hl
  obtain ⟨hx, hb, -, hown, hts, -⟩ := id X
  have hF : EOK FX := eokX
  have hl : lv_has ls 4 [(0, .ref (a 0)), (1, .int v1), (2, .ref ao)] := hl
  obtain ⟨-, -, -, -, -, -, hcast, hnc, -⟩ := X.2.2.2.2.2.2.2.2.1
  refine lv_aload_n hx hb dL_append_0 rfl (lv_at hl 2 rfl) ?_
  refine lv_iconst (v := 0) hx hb dL_append_1 (by decide) ?_
  refine lv_aload_n hx hb dL_append_2 rfl (lv_at hl 0 rfl) ?_
  refine lv_iload_n hx hb dL_append_3 rfl (lv_at hl 1 rfl) ?_
  refine clX_i X hRc (eokS hF) (c_X6_append_t hl0 h) tw_8_21 mw_X6_append (by decide) hp ho hap 0 rfl rfl rfl hl.1 rfl (Nat.le_of_ble_eq_true rfl) dL_append_4 (fun H locs q ex ce hp ho e1 h1 h2 h3 => ?_)
  refine xcatch (k := 2) X hcast ([⟨0, 9, 12, 13⟩] : List ExceptionTableEntry) (⟨0, 9, 15, 19⟩) (tableOf []) (htab.trans rfl) (fun z hz => by obtain rfl := List.mem_singleton.mp hz; exact ⟨by decide, _, tw_7_14, by rw [e1]; exact hnc _ (List.mem_of_getElem? (i := 2) rfl)⟩) (by decide) (by decide) tw_8_20 (Or.inr (Or.inl rfl)) e1 h1 h2 h3 ?_
  refine lv_astore_n (lv' := [(3, .ref q), (0, .ref (a 0)), (1, .int v1), (2, .ref ao)]) hx hb dL_append_15 rfl hl (by decide) rfl (fun ls hl => ?_)
  refine lv_iconst (v := 2) hx hb dL_append_16 (by decide) ?_
  exact hR _ _ _ _ _ _ _ _ _ dL_append_17 (Nat.le_refl _) (Nat.le_refl _) hp ho rfl rfl rfl
set_option maxRecDepth 20000 in
set_option maxHeartbeats 4000000 in
theorem c_L_setNext {l : Launch} {D : va_G} {a : Nat → Nat} {cA : Nat → ClassId} {t ao : Nat} {σ : St} {f : Nat → Int64} {v1 : Int32} {N : Nat} {r : Int32} {σ' : St} (h : X6_setNext N v1 σ = some (r, σ')) : MetH l yL_setNext cL_setNext 4 [(0, 9, 12, 24), (0, 9, 15, 19)] 7 D a cA ao (ES t FX) [.ref (a 0), .int v1, .ref ao] σ f 0 σ' (vp_updL f 0 r.toInt64) := by
  refine mkH (by decide) (Nat.le_of_ble_eq_true rfl) ?_
  intro p e R s m args below meth c A Q ls X hRc htab hap hDo hR hp ho hl
  obtain ⟨hx, hb, -, hown, hts, -⟩ := id X
  have hF : EOK FX := eokX
  have hl : lv_has ls 4 [(0, .ref (a 0)), (1, .int v1), (2, .ref ao)] := hl
  refine lv_aload_n hx hb dL_setNext_0 rfl (lv_at hl 2 rfl) ?_
  refine lv_iconst (v := 0) hx hb dL_setNext_1 (by decide) ?_
  refine lv_aload_n hx hb dL_setNext_2 rfl (lv_at hl 0 rfl) ?_
  refine lv_iload_n hx hb dL_setNext_3 rfl (lv_at hl 1 rfl) ?_
  refine clR_i X (eokS hF) (c_X6_setNext hF h) tw_12_13 mw_X6_setNext (by decide) hp ho hap ⟨Nat.zero_le _, Nat.zero_le _⟩ 0 rfl rfl rfl hl.1 rfl (Nat.le_of_ble_eq_true rfl) dL_setNext_4 (fun H locs hp ho => ?_)
  refine lv_i2l hx hb dL_setNext_7 rfl ?_
  refine stO X hp ho hDo (apS hap) dL_setNext_8 (fun H locs hp ho => ?_)
  refine lv_goto (tgt := 18) hx hb dL_setNext_9 (by decide) ?_
  refine lv_iconst (v := 0) hx hb dL_setNext_18 (by decide) ?_
  exact hR _ _ _ _ _ _ _ _ _ dL_setNext_19 (Nat.zero_le _) (Nat.zero_le _) hp ho rfl rfl rfl
set_option maxRecDepth 20000 in
set_option maxHeartbeats 4000000 in
theorem c_L_setNext_x3 {l0 : Launch} (hl0 : l0.stackTraces = false) {D : va_G} {a : Nat → Nat} {cA : Nat → ClassId} {t ao : Nat} {σ : St} {f : Nat → Int64} {v1 : Int32} {N : Nat} {σ' : St} (h : X6_setNext_t N v1 σ = some (3, σ')) : MetH l0 yL_setNext cL_setNext 4 [(0, 9, 12, 24), (0, 9, 15, 19)] 7 D a cA ao (ES t FX) [.ref (a 0), .int v1, .ref ao] σ f 1 σ' f := by
  refine mkH (by decide) (Nat.le_of_ble_eq_true rfl) ?_
  intro p e R s m args below meth c A Q ls X hRc htab hap hDo hR hp ho hl
  obtain ⟨hx, hb, -, hown, hts, -⟩ := id X
  have hF : EOK FX := eokX
  have hl : lv_has ls 4 [(0, .ref (a 0)), (1, .int v1), (2, .ref ao)] := hl
  obtain ⟨-, -, -, -, -, -, hcast, hnc, -⟩ := X.2.2.2.2.2.2.2.2.1
  refine lv_aload_n hx hb dL_setNext_0 rfl (lv_at hl 2 rfl) ?_
  refine lv_iconst (v := 0) hx hb dL_setNext_1 (by decide) ?_
  refine lv_aload_n hx hb dL_setNext_2 rfl (lv_at hl 0 rfl) ?_
  refine lv_iload_n hx hb dL_setNext_3 rfl (lv_at hl 1 rfl) ?_
  refine clX_i X hRc (eokS hF) (c_X6_setNext_t hl0 h) tw_12_13 mw_X6_setNext (by decide) hp ho hap 0 rfl rfl rfl hl.1 rfl (Nat.le_of_ble_eq_true rfl) dL_setNext_4 (fun H locs q ex ce hp ho e1 h1 h2 h3 => ?_)
  refine xcatch (k := 3) X hcast ([] : List ExceptionTableEntry) (⟨0, 9, 12, 24⟩) (tableOf [(0, 9, 15, 19)]) (htab.trans rfl) (fun z hz => by cases hz) (by decide) (by decide) tw_12_12 (Or.inr (Or.inr rfl)) e1 h1 h2 h3 ?_
  refine lv_astore_n (lv' := [(3, .ref q), (0, .ref (a 0)), (1, .int v1), (2, .ref ao)]) hx hb dL_setNext_12 rfl hl (by decide) rfl (fun ls hl => ?_)
  refine lv_iconst (v := 1) hx hb dL_setNext_13 (by decide) ?_
  exact hR _ _ _ _ _ _ _ _ _ dL_setNext_14 (Nat.le_refl _) (Nat.le_refl _) hp ho rfl rfl rfl
set_option maxRecDepth 20000 in
set_option maxHeartbeats 4000000 in
theorem c_L_setNext_x2 {l0 : Launch} (hl0 : l0.stackTraces = false) {D : va_G} {a : Nat → Nat} {cA : Nat → ClassId} {t ao : Nat} {σ : St} {f : Nat → Int64} {v1 : Int32} {N : Nat} {σ' : St} (h : X6_setNext_t N v1 σ = some (2, σ')) : MetH l0 yL_setNext cL_setNext 4 [(0, 9, 12, 24), (0, 9, 15, 19)] 7 D a cA ao (ES t FX) [.ref (a 0), .int v1, .ref ao] σ f 2 σ' f := by
  refine mkH (by decide) (Nat.le_of_ble_eq_true rfl) ?_
  intro p e R s m args below meth c A Q ls X hRc htab hap hDo hR hp ho hl
  obtain ⟨hx, hb, -, hown, hts, -⟩ := id X
  have hF : EOK FX := eokX
  have hl : lv_has ls 4 [(0, .ref (a 0)), (1, .int v1), (2, .ref ao)] := hl
  obtain ⟨-, -, -, -, -, -, hcast, hnc, -⟩ := X.2.2.2.2.2.2.2.2.1
  refine lv_aload_n hx hb dL_setNext_0 rfl (lv_at hl 2 rfl) ?_
  refine lv_iconst (v := 0) hx hb dL_setNext_1 (by decide) ?_
  refine lv_aload_n hx hb dL_setNext_2 rfl (lv_at hl 0 rfl) ?_
  refine lv_iload_n hx hb dL_setNext_3 rfl (lv_at hl 1 rfl) ?_
  refine clX_i X hRc (eokS hF) (c_X6_setNext_t hl0 h) tw_12_13 mw_X6_setNext (by decide) hp ho hap 0 rfl rfl rfl hl.1 rfl (Nat.le_of_ble_eq_true rfl) dL_setNext_4 (fun H locs q ex ce hp ho e1 h1 h2 h3 => ?_)
  refine xcatch (k := 2) X hcast ([⟨0, 9, 12, 24⟩] : List ExceptionTableEntry) (⟨0, 9, 15, 19⟩) (tableOf []) (htab.trans rfl) (fun z hz => by obtain rfl := List.mem_singleton.mp hz; exact ⟨by decide, _, tw_12_12, by rw [e1]; exact hnc _ (List.mem_of_getElem? (i := 3) rfl)⟩) (by decide) (by decide) tw_8_20 (Or.inr (Or.inl rfl)) e1 h1 h2 h3 ?_
  refine lv_astore_n (lv' := [(3, .ref q), (0, .ref (a 0)), (1, .int v1), (2, .ref ao)]) hx hb dL_setNext_15 rfl hl (by decide) rfl (fun ls hl => ?_)
  refine lv_iconst (v := 2) hx hb dL_setNext_16 (by decide) ?_
  exact hR _ _ _ _ _ _ _ _ _ dL_setNext_17 (Nat.le_refl _) (Nat.le_refl _) hp ho rfl rfl rfl
set_option maxRecDepth 20000 in
set_option maxHeartbeats 4000000 in
theorem c_L_setInit {l : Launch} {D : va_G} {a : Nat → Nat} {cA : Nat → ClassId} {t ao : Nat} {σ : St} {f : Nat → Int64} {N : Nat} {r : Int32} {σ' : St} (h : X6_setInit N σ = some (r, σ')) : MetH l yL_setInit cL_setInit 3 [(0, 8, 11, 19)] 8 D a cA ao (ES t FX) [.ref (a 0), .ref ao] σ f 0 σ' (vp_updL f 0 r.toInt64) := by
  refine mkH (by decide) (Nat.le_of_ble_eq_true rfl) ?_
  intro p e R s m args below meth c A Q ls X hRc htab hap hDo hR hp ho hl
  obtain ⟨hx, hb, -, hown, hts, -⟩ := id X
  have hF : EOK FX := eokX
  have hl : lv_has ls 3 [(0, .ref (a 0)), (1, .ref ao)] := hl
  refine lv_aload_n hx hb dL_setInit_0 rfl (lv_at hl 1 rfl) ?_
  refine lv_iconst (v := 0) hx hb dL_setInit_1 (by decide) ?_
  refine lv_aload_n hx hb dL_setInit_2 rfl (lv_at hl 0 rfl) ?_
  refine clR_i X (eokS hF) (c_X6_setInit hF h) tw_18_13 mw_X6_setInit (by decide) hp ho hap ⟨Nat.zero_le _, Nat.zero_le _⟩ 0 rfl rfl rfl hl.1 rfl (Nat.le_of_ble_eq_true rfl) dL_setInit_3 (fun H locs hp ho => ?_)
  refine lv_i2l hx hb dL_setInit_6 rfl ?_
  refine stO X hp ho hDo (apS hap) dL_setInit_7 (fun H locs hp ho => ?_)
  refine lv_goto (tgt := 14) hx hb dL_setInit_8 (by decide) ?_
  refine lv_iconst (v := 0) hx hb dL_setInit_14 (by decide) ?_
  exact hR _ _ _ _ _ _ _ _ _ dL_setInit_15 (Nat.zero_le _) (Nat.zero_le _) hp ho rfl rfl rfl
set_option maxRecDepth 20000 in
set_option maxHeartbeats 4000000 in
theorem c_L_setInit_x2 {l0 : Launch} (hl0 : l0.stackTraces = false) {D : va_G} {a : Nat → Nat} {cA : Nat → ClassId} {t ao : Nat} {σ : St} {f : Nat → Int64} {N : Nat} {σ' : St} (h : X6_setInit_t N σ = some (2, σ')) : MetH l0 yL_setInit cL_setInit 3 [(0, 8, 11, 19)] 8 D a cA ao (ES t FX) [.ref (a 0), .ref ao] σ f 1 σ' f := by
  refine mkH (by decide) (Nat.le_of_ble_eq_true rfl) ?_
  intro p e R s m args below meth c A Q ls X hRc htab hap hDo hR hp ho hl
  obtain ⟨hx, hb, -, hown, hts, -⟩ := id X
  have hF : EOK FX := eokX
  have hl : lv_has ls 3 [(0, .ref (a 0)), (1, .ref ao)] := hl
  obtain ⟨-, -, -, -, -, -, hcast, hnc, -⟩ := X.2.2.2.2.2.2.2.2.1
  refine lv_aload_n hx hb dL_setInit_0 rfl (lv_at hl 1 rfl) ?_
  refine lv_iconst (v := 0) hx hb dL_setInit_1 (by decide) ?_
  refine lv_aload_n hx hb dL_setInit_2 rfl (lv_at hl 0 rfl) ?_
  refine clX_i X hRc (eokS hF) (c_X6_setInit_t hl0 h) tw_18_13 mw_X6_setInit (by decide) hp ho hap 0 rfl rfl rfl hl.1 rfl (Nat.le_of_ble_eq_true rfl) dL_setInit_3 (fun H locs q ex ce hp ho e1 h1 h2 h3 => ?_)
  refine xcatch (k := 2) X hcast ([] : List ExceptionTableEntry) (⟨0, 8, 11, 19⟩) (tableOf []) (htab.trans rfl) (fun z hz => by cases hz) (by decide) (by decide) tw_8_20 (Or.inr (Or.inl rfl)) e1 h1 h2 h3 ?_
  refine lv_astore_n (lv' := [(2, .ref q), (0, .ref (a 0)), (1, .ref ao)]) hx hb dL_setInit_11 rfl hl (by decide) rfl (fun ls hl => ?_)
  refine lv_iconst (v := 1) hx hb dL_setInit_12 (by decide) ?_
  exact hR _ _ _ _ _ _ _ _ _ dL_setInit_13 (Nat.le_refl _) (Nat.le_refl _) hp ho rfl rfl rfl
set_option maxRecDepth 20000 in
set_option maxHeartbeats 4000000 in
theorem c_L_setProperty {l : Launch} {D : va_G} {a : Nat → Nat} {cA : Nat → ClassId} {t ao : Nat} {σ : St} {f : Nat → Int64} {N : Nat} {r : Int32} {σ' : St} (h : X6_setProperty N σ = some (r, σ')) : MetH l yL_setProperty cL_setProperty 3 [(0, 8, 11, 19)] 8 D a cA ao (ES t FX) [.ref (a 0), .ref ao] σ f 0 σ' (vp_updL f 0 r.toInt64) := by
  refine mkH (by decide) (Nat.le_of_ble_eq_true rfl) ?_
  intro p e R s m args below meth c A Q ls X hRc htab hap hDo hR hp ho hl
  obtain ⟨hx, hb, -, hown, hts, -⟩ := id X
  have hF : EOK FX := eokX
  have hl : lv_has ls 3 [(0, .ref (a 0)), (1, .ref ao)] := hl
  refine lv_aload_n hx hb dL_setProperty_0 rfl (lv_at hl 1 rfl) ?_
  refine lv_iconst (v := 0) hx hb dL_setProperty_1 (by decide) ?_
  refine lv_aload_n hx hb dL_setProperty_2 rfl (lv_at hl 0 rfl) ?_
  refine clR_i X (eokS hF) (c_X6_setProperty hF h) tw_19_21 mw_X6_setProperty (by decide) hp ho hap ⟨Nat.zero_le _, Nat.zero_le _⟩ 0 rfl rfl rfl hl.1 rfl (Nat.le_of_ble_eq_true rfl) dL_setProperty_3 (fun H locs hp ho => ?_)
  refine lv_i2l hx hb dL_setProperty_6 rfl ?_
  refine stO X hp ho hDo (apS hap) dL_setProperty_7 (fun H locs hp ho => ?_)
  refine lv_goto (tgt := 14) hx hb dL_setProperty_8 (by decide) ?_
  refine lv_iconst (v := 0) hx hb dL_setProperty_14 (by decide) ?_
  exact hR _ _ _ _ _ _ _ _ _ dL_setProperty_15 (Nat.zero_le _) (Nat.zero_le _) hp ho rfl rfl rfl
set_option maxRecDepth 20000 in
set_option maxHeartbeats 4000000 in
theorem c_L_setProperty_x2 {l0 : Launch} (hl0 : l0.stackTraces = false) {D : va_G} {a : Nat → Nat} {cA : Nat → ClassId} {t ao : Nat} {σ : St} {f : Nat → Int64} {N : Nat} {σ' : St} (h : X6_setProperty_t N σ = some (2, σ')) : MetH l0 yL_setProperty cL_setProperty 3 [(0, 8, 11, 19)] 8 D a cA ao (ES t FX) [.ref (a 0), .ref ao] σ f 1 σ' f := by
  refine mkH (by decide) (Nat.le_of_ble_eq_true rfl) ?_
  intro p e R s m args below meth c A Q ls X hRc htab hap hDo hR hp ho hl
  obtain ⟨hx, hb, -, hown, hts, -⟩ := id X
  have hF : EOK FX := eokX
  have hl : lv_has ls 3 [(0, .ref (a 0)), (1, .ref ao)] := hl
  obtain ⟨-, -, -, -, -, -, hcast, hnc, -⟩ := X.2.2.2.2.2.2.2.2.1
  refine lv_aload_n hx hb dL_setProperty_0 rfl (lv_at hl 1 rfl) ?_
  refine lv_iconst (v := 0) hx hb dL_setProperty_1 (by decide) ?_
  refine lv_aload_n hx hb dL_setProperty_2 rfl (lv_at hl 0 rfl) ?_
  refine clX_i X hRc (eokS hF) (c_X6_setProperty_t hl0 h) tw_19_21 mw_X6_setProperty (by decide) hp ho hap 0 rfl rfl rfl hl.1 rfl (Nat.le_of_ble_eq_true rfl) dL_setProperty_3 (fun H locs q ex ce hp ho e1 h1 h2 h3 => ?_)
  refine xcatch (k := 2) X hcast ([] : List ExceptionTableEntry) (⟨0, 8, 11, 19⟩) (tableOf []) (htab.trans rfl) (fun z hz => by cases hz) (by decide) (by decide) tw_8_20 (Or.inr (Or.inl rfl)) e1 h1 h2 h3 ?_
  refine lv_astore_n (lv' := [(2, .ref q), (0, .ref (a 0)), (1, .ref ao)]) hx hb dL_setProperty_11 rfl hl (by decide) rfl (fun ls hl => ?_)
  refine lv_iconst (v := 1) hx hb dL_setProperty_12 (by decide) ?_
  exact hR _ _ _ _ _ _ _ _ _ dL_setProperty_13 (Nat.le_refl _) (Nat.le_refl _) hp ho rfl rfl rfl
set_option maxRecDepth 20000 in
set_option maxHeartbeats 4000000 in
theorem c_L_undo {l : Launch} {D : va_G} {a : Nat → Nat} {cA : Nat → ClassId} {t ao : Nat} {σ : St} {f : Nat → Int64} {N : Nat} {r : Int32} {σ' : St} (h : X6_undo N σ = some (r, σ')) : MetH l yL_undo cL_undo 3 [(0, 8, 11, 19)] 7 D a cA ao (ES t FX) [.ref (a 0), .ref ao] σ f 0 σ' (vp_updL f 0 r.toInt64) := by
  refine mkH (by decide) (Nat.le_of_ble_eq_true rfl) ?_
  intro p e R s m args below meth c A Q ls X hRc htab hap hDo hR hp ho hl
  obtain ⟨hx, hb, -, hown, hts, -⟩ := id X
  have hF : EOK FX := eokX
  have hl : lv_has ls 3 [(0, .ref (a 0)), (1, .ref ao)] := hl
  refine lv_aload_n hx hb dL_undo_0 rfl (lv_at hl 1 rfl) ?_
  refine lv_iconst (v := 0) hx hb dL_undo_1 (by decide) ?_
  refine lv_aload_n hx hb dL_undo_2 rfl (lv_at hl 0 rfl) ?_
  refine clR_i X (eokS hF) (c_X6_undo hF h) tw_20_12 mw_X6_undo (by decide) hp ho hap ⟨Nat.zero_le _, Nat.zero_le _⟩ 0 rfl rfl rfl hl.1 rfl (Nat.le_of_ble_eq_true rfl) dL_undo_3 (fun H locs hp ho => ?_)
  refine lv_i2l hx hb dL_undo_6 rfl ?_
  refine stO X hp ho hDo (apS hap) dL_undo_7 (fun H locs hp ho => ?_)
  refine lv_goto (tgt := 14) hx hb dL_undo_8 (by decide) ?_
  refine lv_iconst (v := 0) hx hb dL_undo_14 (by decide) ?_
  exact hR _ _ _ _ _ _ _ _ _ dL_undo_15 (Nat.zero_le _) (Nat.zero_le _) hp ho rfl rfl rfl
set_option maxRecDepth 20000 in
set_option maxHeartbeats 4000000 in
theorem c_L_undo_x2 {l0 : Launch} (hl0 : l0.stackTraces = false) {D : va_G} {a : Nat → Nat} {cA : Nat → ClassId} {t ao : Nat} {σ : St} {f : Nat → Int64} {σ' : St} (h : X6_undo_t σ = some (2, σ')) : MetH l0 yL_undo cL_undo 3 [(0, 8, 11, 19)] 7 D a cA ao (ES t FX) [.ref (a 0), .ref ao] σ f 1 σ' f := by
  refine mkH (by decide) (Nat.le_of_ble_eq_true rfl) ?_
  intro p e R s m args below meth c A Q ls X hRc htab hap hDo hR hp ho hl
  obtain ⟨hx, hb, -, hown, hts, -⟩ := id X
  have hF : EOK FX := eokX
  have hl : lv_has ls 3 [(0, .ref (a 0)), (1, .ref ao)] := hl
  obtain ⟨-, -, -, -, -, -, hcast, hnc, -⟩ := X.2.2.2.2.2.2.2.2.1
  refine lv_aload_n hx hb dL_undo_0 rfl (lv_at hl 1 rfl) ?_
  refine lv_iconst (v := 0) hx hb dL_undo_1 (by decide) ?_
  refine lv_aload_n hx hb dL_undo_2 rfl (lv_at hl 0 rfl) ?_
  refine clX_i X hRc (eokS hF) (c_X6_undo_t hl0 h) tw_20_12 mw_X6_undo (by decide) hp ho hap 0 rfl rfl rfl hl.1 rfl (Nat.le_of_ble_eq_true rfl) dL_undo_3 (fun H locs q ex ce hp ho e1 h1 h2 h3 => ?_)
  refine xcatch (k := 2) X hcast ([] : List ExceptionTableEntry) (⟨0, 8, 11, 19⟩) (tableOf []) (htab.trans rfl) (fun z hz => by cases hz) (by decide) (by decide) tw_8_20 (Or.inr (Or.inl rfl)) e1 h1 h2 h3 ?_
  refine lv_astore_n (lv' := [(2, .ref q), (0, .ref (a 0)), (1, .ref ao)]) hx hb dL_undo_11 rfl hl (by decide) rfl (fun ls hl => ?_)
  refine lv_iconst (v := 1) hx hb dL_undo_12 (by decide) ?_
  exact hR _ _ _ _ _ _ _ _ _ dL_undo_13 (Nat.le_refl _) (Nat.le_refl _) hp ho rfl rfl rfl
set_option maxRecDepth 20000 in
set_option maxHeartbeats 4000000 in
theorem c_L_successor {l : Launch} {D : va_G} {a : Nat → Nat} {cA : Nat → ClassId} {t ao : Nat} {σ : St} {f : Nat → Int64} {v1 : Int32} {v2 : Int32} {N : Nat} {r : Int32} {σ' : St} (h : X6_successor N v1 v2 σ = some (r, σ')) : MetH l yL_successor cL_successor 5 [(0, 10, 13, 24), (0, 10, 17, 13)] 8 D a cA ao (ES t FX) [.ref (a 0), .int v1, .int v2, .ref ao] σ f 0 σ' (vp_updL f 0 r.toInt64) := by
  refine mkH (by decide) (Nat.le_of_ble_eq_true rfl) ?_
  intro p e R s m args below meth c A Q ls X hRc htab hap hDo hR hp ho hl
  obtain ⟨hx, hb, -, hown, hts, -⟩ := id X
  have hF : EOK FX := eokX
  have hl : lv_has ls 5 [(0, .ref (a 0)), (1, .int v1), (2, .int v2), (3, .ref ao)] := hl
  refine lv_aload_n hx hb dL_successor_0 rfl (lv_at hl 3 rfl) ?_
  refine lv_iconst (v := 0) hx hb dL_successor_1 (by decide) ?_
  refine lv_aload_n hx hb dL_successor_2 rfl (lv_at hl 0 rfl) ?_
  refine lv_iload_n hx hb dL_successor_3 rfl (lv_at hl 1 rfl) ?_
  refine lv_iload_n hx hb dL_successor_4 rfl (lv_at hl 2 rfl) ?_
  refine clR_i X (eokS hF) (c_X6_successor hF h) tw_21_4 mw_X6_successor (by decide) hp ho hap ⟨Nat.zero_le _, Nat.zero_le _⟩ 0 rfl rfl rfl hl.1 rfl (Nat.le_of_ble_eq_true rfl) dL_successor_5 (fun H locs hp ho => ?_)
  refine lv_i2l hx hb dL_successor_8 rfl ?_
  refine stO X hp ho hDo (apS hap) dL_successor_9 (fun H locs hp ho => ?_)
  refine lv_goto (tgt := 21) hx hb dL_successor_10 (by decide) ?_
  refine lv_iconst (v := 0) hx hb dL_successor_21 (by decide) ?_
  exact hR _ _ _ _ _ _ _ _ _ dL_successor_22 (Nat.zero_le _) (Nat.zero_le _) hp ho rfl rfl rfl
set_option maxRecDepth 20000 in
set_option maxHeartbeats 4000000 in
theorem c_L_successor_x3 {l0 : Launch} (hl0 : l0.stackTraces = false) {D : va_G} {a : Nat → Nat} {cA : Nat → ClassId} {t ao : Nat} {σ : St} {f : Nat → Int64} {v1 : Int32} {v2 : Int32} {σ' : St} (h : X6_successor_t v1 v2 σ = some (3, σ')) : MetH l0 yL_successor cL_successor 5 [(0, 10, 13, 24), (0, 10, 17, 13)] 8 D a cA ao (ES t FX) [.ref (a 0), .int v1, .int v2, .ref ao] σ f 1 σ' f := by
  refine mkH (by decide) (Nat.le_of_ble_eq_true rfl) ?_
  intro p e R s m args below meth c A Q ls X hRc htab hap hDo hR hp ho hl
  obtain ⟨hx, hb, -, hown, hts, -⟩ := id X
  have hF : EOK FX := eokX
  have hl : lv_has ls 5 [(0, .ref (a 0)), (1, .int v1), (2, .int v2), (3, .ref ao)] := hl
  obtain ⟨-, -, -, -, -, -, hcast, hnc, -⟩ := X.2.2.2.2.2.2.2.2.1
  refine lv_aload_n hx hb dL_successor_0 rfl (lv_at hl 3 rfl) ?_
  refine lv_iconst (v := 0) hx hb dL_successor_1 (by decide) ?_
  refine lv_aload_n hx hb dL_successor_2 rfl (lv_at hl 0 rfl) ?_
  refine lv_iload_n hx hb dL_successor_3 rfl (lv_at hl 1 rfl) ?_
  refine lv_iload_n hx hb dL_successor_4 rfl (lv_at hl 2 rfl) ?_
  refine clX_i X hRc (eokS hF) (c_X6_successor_t hl0 h) tw_21_4 mw_X6_successor (by decide) hp ho hap 0 rfl rfl rfl hl.1 rfl (Nat.le_of_ble_eq_true rfl) dL_successor_5 (fun H locs q ex ce hp ho e1 h1 h2 h3 => ?_)
  refine xcatch (k := 3) X hcast ([] : List ExceptionTableEntry) (⟨0, 10, 13, 24⟩) (tableOf [(0, 10, 17, 13)]) (htab.trans rfl) (fun z hz => by cases hz) (by decide) (by decide) tw_12_12 (Or.inr (Or.inr rfl)) e1 h1 h2 h3 ?_
  refine lv_astore (lv' := [(4, .ref q), (0, .ref (a 0)), (1, .int v1), (2, .int v2), (3, .ref ao)]) hx hb dL_successor_13 hl (by decide) rfl (fun ls hl => ?_)
  refine lv_iconst (v := 1) hx hb dL_successor_15 (by decide) ?_
  exact hR _ _ _ _ _ _ _ _ _ dL_successor_16 (Nat.le_refl _) (Nat.le_refl _) hp ho rfl rfl rfl
set_option maxRecDepth 20000 in
set_option maxHeartbeats 4000000 in
theorem c_L_successor_x1 {l0 : Launch} (hl0 : l0.stackTraces = false) {D : va_G} {a : Nat → Nat} {cA : Nat → ClassId} {t ao : Nat} {σ : St} {f : Nat → Int64} {v1 : Int32} {v2 : Int32} {σ' : St} (h : X6_successor_t v1 v2 σ = some (1, σ')) : MetH l0 yL_successor cL_successor 5 [(0, 10, 13, 24), (0, 10, 17, 13)] 8 D a cA ao (ES t FX) [.ref (a 0), .int v1, .int v2, .ref ao] σ f 2 σ' f := by
  refine mkH (by decide) (Nat.le_of_ble_eq_true rfl) ?_
  intro p e R s m args below meth c A Q ls X hRc htab hap hDo hR hp ho hl
  obtain ⟨hx, hb, -, hown, hts, -⟩ := id X
  have hF : EOK FX := eokX
  have hl : lv_has ls 5 [(0, .ref (a 0)), (1, .int v1), (2, .int v2), (3, .ref ao)] := hl
  obtain ⟨-, -, -, -, -, -, hcast, hnc, -⟩ := X.2.2.2.2.2.2.2.2.1
  refine lv_aload_n hx hb dL_successor_0 rfl (lv_at hl 3 rfl) ?_
  refine lv_iconst (v := 0) hx hb dL_successor_1 (by decide) ?_
  refine lv_aload_n hx hb dL_successor_2 rfl (lv_at hl 0 rfl) ?_
  refine lv_iload_n hx hb dL_successor_3 rfl (lv_at hl 1 rfl) ?_
  refine lv_iload_n hx hb dL_successor_4 rfl (lv_at hl 2 rfl) ?_
  refine clX_i X hRc (eokS hF) (c_X6_successor_t hl0 h) tw_21_4 mw_X6_successor (by decide) hp ho hap 0 rfl rfl rfl hl.1 rfl (Nat.le_of_ble_eq_true rfl) dL_successor_5 (fun H locs q ex ce hp ho e1 h1 h2 h3 => ?_)
  refine xcatch (k := 1) X hcast ([⟨0, 10, 13, 24⟩] : List ExceptionTableEntry) (⟨0, 10, 17, 13⟩) (tableOf []) (htab.trans rfl) (fun z hz => by obtain rfl := List.mem_singleton.mp hz; exact ⟨by decide, _, tw_12_12, by rw [e1]; exact hnc _ (List.mem_of_getElem? (i := 1) rfl)⟩) (by decide) (by decide) tw_7_14 (Or.inl rfl) e1 h1 h2 h3 ?_
  refine lv_astore (lv' := [(4, .ref q), (0, .ref (a 0)), (1, .int v1), (2, .int v2), (3, .ref ao)]) hx hb dL_successor_17 hl (by decide) rfl (fun ls hl => ?_)
  refine lv_iconst (v := 2) hx hb dL_successor_19 (by decide) ?_
  exact hR _ _ _ _ _ _ _ _ _ dL_successor_20 (Nat.le_refl _) (Nat.le_refl _) hp ho rfl rfl rfl
set_option maxRecDepth 20000 in
set_option maxHeartbeats 4000000 in
theorem c_L_state {l : Launch} {D : va_G} {a : Nat → Nat} {cA : Nat → ClassId} {t ao : Nat} {σ : St} {f : Nat → Int64} {v1 : Int32} {v2 : Int32} {N : Nat} {r : Int32} {σ' : St} (h : X6_state N v1 v2 σ = some (r, σ')) : MetH l yL_state cL_state 5 [(0, 10, 13, 24), (0, 10, 17, 13)] 8 D a cA ao (ES t FX) [.ref (a 0), .int v1, .int v2, .ref ao] σ f 0 σ' (vp_updL f 0 r.toInt64) := by
  refine mkH (by decide) (Nat.le_of_ble_eq_true rfl) ?_
  intro p e R s m args below meth c A Q ls X hRc htab hap hDo hR hp ho hl
  obtain ⟨hx, hb, -, hown, hts, -⟩ := id X
  have hF : EOK FX := eokX
  have hl : lv_has ls 5 [(0, .ref (a 0)), (1, .int v1), (2, .int v2), (3, .ref ao)] := hl
  refine lv_aload_n hx hb dL_state_0 rfl (lv_at hl 3 rfl) ?_
  refine lv_iconst (v := 0) hx hb dL_state_1 (by decide) ?_
  refine lv_aload_n hx hb dL_state_2 rfl (lv_at hl 0 rfl) ?_
  refine lv_iload_n hx hb dL_state_3 rfl (lv_at hl 1 rfl) ?_
  refine lv_iload_n hx hb dL_state_4 rfl (lv_at hl 2 rfl) ?_
  refine clR_i X (eokS hF) (c_X6_state hF h) tw_22_6 mw_X6_state (by decide) hp ho hap ⟨Nat.zero_le _, Nat.zero_le _⟩ 0 rfl rfl rfl hl.1 rfl (Nat.le_of_ble_eq_true rfl) dL_state_5 (fun H locs hp ho => ?_)
  refine lv_i2l hx hb dL_state_8 rfl ?_
  refine stO X hp ho hDo (apS hap) dL_state_9 (fun H locs hp ho => ?_)
  refine lv_goto (tgt := 21) hx hb dL_state_10 (by decide) ?_
  refine lv_iconst (v := 0) hx hb dL_state_21 (by decide) ?_
  exact hR _ _ _ _ _ _ _ _ _ dL_state_22 (Nat.zero_le _) (Nat.zero_le _) hp ho rfl rfl rfl
set_option maxRecDepth 20000 in
set_option maxHeartbeats 4000000 in
theorem c_L_state_x3 {l0 : Launch} (hl0 : l0.stackTraces = false) {D : va_G} {a : Nat → Nat} {cA : Nat → ClassId} {t ao : Nat} {σ : St} {f : Nat → Int64} {v1 : Int32} {v2 : Int32} {σ' : St} (h : X6_state_t v1 v2 σ = some (3, σ')) : MetH l0 yL_state cL_state 5 [(0, 10, 13, 24), (0, 10, 17, 13)] 8 D a cA ao (ES t FX) [.ref (a 0), .int v1, .int v2, .ref ao] σ f 1 σ' f := by
  refine mkH (by decide) (Nat.le_of_ble_eq_true rfl) ?_
  intro p e R s m args below meth c A Q ls X hRc htab hap hDo hR hp ho hl
  obtain ⟨hx, hb, -, hown, hts, -⟩ := id X
  have hF : EOK FX := eokX
  have hl : lv_has ls 5 [(0, .ref (a 0)), (1, .int v1), (2, .int v2), (3, .ref ao)] := hl
  obtain ⟨-, -, -, -, -, -, hcast, hnc, -⟩ := X.2.2.2.2.2.2.2.2.1
  refine lv_aload_n hx hb dL_state_0 rfl (lv_at hl 3 rfl) ?_
  refine lv_iconst (v := 0) hx hb dL_state_1 (by decide) ?_
  refine lv_aload_n hx hb dL_state_2 rfl (lv_at hl 0 rfl) ?_
  refine lv_iload_n hx hb dL_state_3 rfl (lv_at hl 1 rfl) ?_
  refine lv_iload_n hx hb dL_state_4 rfl (lv_at hl 2 rfl) ?_
  refine clX_i X hRc (eokS hF) (c_X6_state_t hl0 h) tw_22_6 mw_X6_state (by decide) hp ho hap 0 rfl rfl rfl hl.1 rfl (Nat.le_of_ble_eq_true rfl) dL_state_5 (fun H locs q ex ce hp ho e1 h1 h2 h3 => ?_)
  refine xcatch (k := 3) X hcast ([] : List ExceptionTableEntry) (⟨0, 10, 13, 24⟩) (tableOf [(0, 10, 17, 13)]) (htab.trans rfl) (fun z hz => by cases hz) (by decide) (by decide) tw_12_12 (Or.inr (Or.inr rfl)) e1 h1 h2 h3 ?_
  refine lv_astore (lv' := [(4, .ref q), (0, .ref (a 0)), (1, .int v1), (2, .int v2), (3, .ref ao)]) hx hb dL_state_13 hl (by decide) rfl (fun ls hl => ?_)
  refine lv_iconst (v := 1) hx hb dL_state_15 (by decide) ?_
  exact hR _ _ _ _ _ _ _ _ _ dL_state_16 (Nat.le_refl _) (Nat.le_refl _) hp ho rfl rfl rfl
set_option maxRecDepth 20000 in
set_option maxHeartbeats 4000000 in
theorem c_L_state_x1 {l0 : Launch} (hl0 : l0.stackTraces = false) {D : va_G} {a : Nat → Nat} {cA : Nat → ClassId} {t ao : Nat} {σ : St} {f : Nat → Int64} {v1 : Int32} {v2 : Int32} {σ' : St} (h : X6_state_t v1 v2 σ = some (1, σ')) : MetH l0 yL_state cL_state 5 [(0, 10, 13, 24), (0, 10, 17, 13)] 8 D a cA ao (ES t FX) [.ref (a 0), .int v1, .int v2, .ref ao] σ f 2 σ' f := by
  refine mkH (by decide) (Nat.le_of_ble_eq_true rfl) ?_
  intro p e R s m args below meth c A Q ls X hRc htab hap hDo hR hp ho hl
  obtain ⟨hx, hb, -, hown, hts, -⟩ := id X
  have hF : EOK FX := eokX
  have hl : lv_has ls 5 [(0, .ref (a 0)), (1, .int v1), (2, .int v2), (3, .ref ao)] := hl
  obtain ⟨-, -, -, -, -, -, hcast, hnc, -⟩ := X.2.2.2.2.2.2.2.2.1
  refine lv_aload_n hx hb dL_state_0 rfl (lv_at hl 3 rfl) ?_
  refine lv_iconst (v := 0) hx hb dL_state_1 (by decide) ?_
  refine lv_aload_n hx hb dL_state_2 rfl (lv_at hl 0 rfl) ?_
  refine lv_iload_n hx hb dL_state_3 rfl (lv_at hl 1 rfl) ?_
  refine lv_iload_n hx hb dL_state_4 rfl (lv_at hl 2 rfl) ?_
  refine clX_i X hRc (eokS hF) (c_X6_state_t hl0 h) tw_22_6 mw_X6_state (by decide) hp ho hap 0 rfl rfl rfl hl.1 rfl (Nat.le_of_ble_eq_true rfl) dL_state_5 (fun H locs q ex ce hp ho e1 h1 h2 h3 => ?_)
  refine xcatch (k := 1) X hcast ([⟨0, 10, 13, 24⟩] : List ExceptionTableEntry) (⟨0, 10, 17, 13⟩) (tableOf []) (htab.trans rfl) (fun z hz => by obtain rfl := List.mem_singleton.mp hz; exact ⟨by decide, _, tw_12_12, by rw [e1]; exact hnc _ (List.mem_of_getElem? (i := 1) rfl)⟩) (by decide) (by decide) tw_7_14 (Or.inl rfl) e1 h1 h2 h3 ?_
  refine lv_astore (lv' := [(4, .ref q), (0, .ref (a 0)), (1, .int v1), (2, .int v2), (3, .ref ao)]) hx hb dL_state_17 hl (by decide) rfl (fun ls hl => ?_)
  refine lv_iconst (v := 2) hx hb dL_state_19 (by decide) ?_
  exact hR _ _ _ _ _ _ _ _ _ dL_state_20 (Nat.le_refl _) (Nat.le_refl _) hp ho rfl rfl rfl
set_option maxRecDepth 20000 in
set_option maxHeartbeats 4000000 in
theorem c_L_system {l : Launch} {D : va_G} {a : Nat → Nat} {cA : Nat → ClassId} {t ao : Nat} {σ : St} {f : Nat → Int64} {v1 : Int32} {N : Nat} {r : Int32} {σ' : St} (h : X6_system N v1 σ = some (r, σ')) : MetH l yL_system cL_system 4 [(0, 9, 12, 13)] 7 D a cA ao (ES t FX) [.ref (a 0), .int v1, .ref ao] σ f 0 σ' (vp_updL f 0 r.toInt64) := by
  refine mkH (by decide) (Nat.le_of_ble_eq_true rfl) ?_
  intro p e R s m args below meth c A Q ls X hRc htab hap hDo hR hp ho hl
  obtain ⟨hx, hb, -, hown, hts, -⟩ := id X
  have hF : EOK FX := eokX
  have hl : lv_has ls 4 [(0, .ref (a 0)), (1, .int v1), (2, .ref ao)] := hl
  refine lv_aload_n hx hb dL_system_0 rfl (lv_at hl 2 rfl) ?_
  refine lv_iconst (v := 0) hx hb dL_system_1 (by decide) ?_
  refine lv_aload_n hx hb dL_system_2 rfl (lv_at hl 0 rfl) ?_
  refine lv_iload_n hx hb dL_system_3 rfl (lv_at hl 1 rfl) ?_
  refine clR_i X (eokS hF) (c_X6_system hF h) tw_28_4 mw_X6_system (by decide) hp ho hap ⟨Nat.zero_le _, Nat.zero_le _⟩ 0 rfl rfl rfl hl.1 rfl (Nat.le_of_ble_eq_true rfl) dL_system_4 (fun H locs hp ho => ?_)
  refine lv_i2l hx hb dL_system_7 rfl ?_
  refine stO X hp ho hDo (apS hap) dL_system_8 (fun H locs hp ho => ?_)
  refine lv_goto (tgt := 15) hx hb dL_system_9 (by decide) ?_
  refine lv_iconst (v := 0) hx hb dL_system_15 (by decide) ?_
  exact hR _ _ _ _ _ _ _ _ _ dL_system_16 (Nat.zero_le _) (Nat.zero_le _) hp ho rfl rfl rfl
set_option maxRecDepth 20000 in
set_option maxHeartbeats 4000000 in
theorem c_L_system_x1 {l0 : Launch} (hl0 : l0.stackTraces = false) {D : va_G} {a : Nat → Nat} {cA : Nat → ClassId} {t ao : Nat} {σ : St} {f : Nat → Int64} {v1 : Int32} {σ' : St} (h : X6_system_t v1 σ = some (1, σ')) : MetH l0 yL_system cL_system 4 [(0, 9, 12, 13)] 7 D a cA ao (ES t FX) [.ref (a 0), .int v1, .ref ao] σ f 1 σ' f := by
  refine mkH (by decide) (Nat.le_of_ble_eq_true rfl) ?_
  intro p e R s m args below meth c A Q ls X hRc htab hap hDo hR hp ho hl
  obtain ⟨hx, hb, -, hown, hts, -⟩ := id X
  have hF : EOK FX := eokX
  have hl : lv_has ls 4 [(0, .ref (a 0)), (1, .int v1), (2, .ref ao)] := hl
  obtain ⟨-, -, -, -, -, -, hcast, hnc, -⟩ := X.2.2.2.2.2.2.2.2.1
  refine lv_aload_n hx hb dL_system_0 rfl (lv_at hl 2 rfl) ?_
  refine lv_iconst (v := 0) hx hb dL_system_1 (by decide) ?_
  refine lv_aload_n hx hb dL_system_2 rfl (lv_at hl 0 rfl) ?_
  refine lv_iload_n hx hb dL_system_3 rfl (lv_at hl 1 rfl) ?_
  refine clX_i X hRc (eokS hF) (c_X6_system_t hl0 h) tw_28_4 mw_X6_system (by decide) hp ho hap 0 rfl rfl rfl hl.1 rfl (Nat.le_of_ble_eq_true rfl) dL_system_4 (fun H locs q ex ce hp ho e1 h1 h2 h3 => ?_)
  refine xcatch (k := 1) X hcast ([] : List ExceptionTableEntry) (⟨0, 9, 12, 13⟩) (tableOf []) (htab.trans rfl) (fun z hz => by cases hz) (by decide) (by decide) tw_7_14 (Or.inl rfl) e1 h1 h2 h3 ?_
  refine lv_astore_n (lv' := [(3, .ref q), (0, .ref (a 0)), (1, .int v1), (2, .ref ao)]) hx hb dL_system_12 rfl hl (by decide) rfl (fun ls hl => ?_)
  refine lv_iconst (v := 1) hx hb dL_system_13 (by decide) ?_
  exact hR _ _ _ _ _ _ _ _ _ dL_system_14 (Nat.le_refl _) (Nat.le_refl _) hp ho rfl rfl rfl
set_option maxRecDepth 20000 in
set_option maxHeartbeats 4000000 in
theorem c_L_shortest {l : Launch} {D : va_G} {a : Nat → Nat} {cA : Nat → ClassId} {t ao : Nat} {σ : St} {f : Nat → Int64} {v1 : Int32} {v2 : Int32} {N : Nat} {r : Int32} {σ' : St} (h : X6_shortest N v1 v2 σ = some (r, σ')) : MetH l yL_shortest cL_shortest 5 [(0, 10, 13, 19), (0, 10, 17, 24), (0, 10, 21, 13)] 7 D a cA ao (ES t FX) [.ref (a 0), .int v1, .int v2, .ref ao] σ f 0 σ' (vp_updL f 0 r.toInt64) := by
  refine mkH (by decide) (Nat.le_of_ble_eq_true rfl) ?_
  intro p e R s m args below meth c A Q ls X hRc htab hap hDo hR hp ho hl
  obtain ⟨hx, hb, -, hown, hts, -⟩ := id X
  have hF : EOK FX := eokX
  have hl : lv_has ls 5 [(0, .ref (a 0)), (1, .int v1), (2, .int v2), (3, .ref ao)] := hl
  refine lv_aload_n hx hb dL_shortest_0 rfl (lv_at hl 3 rfl) ?_
  refine lv_iconst (v := 0) hx hb dL_shortest_1 (by decide) ?_
  refine lv_aload_n hx hb dL_shortest_2 rfl (lv_at hl 0 rfl) ?_
  refine lv_iload_n hx hb dL_shortest_3 rfl (lv_at hl 1 rfl) ?_
  refine lv_iload_n hx hb dL_shortest_4 rfl (lv_at hl 2 rfl) ?_
  refine clR_i X (eokS hF) (c_X6_shortest hF h) tw_29_14 mw_X6_shortest (by decide) hp ho hap ⟨Nat.zero_le _, Nat.zero_le _⟩ 0 rfl rfl rfl hl.1 rfl (Nat.le_of_ble_eq_true rfl) dL_shortest_5 (fun H locs hp ho => ?_)
  refine lv_i2l hx hb dL_shortest_8 rfl ?_
  refine stO X hp ho hDo (apS hap) dL_shortest_9 (fun H locs hp ho => ?_)
  refine lv_goto (tgt := 25) hx hb dL_shortest_10 (by decide) ?_
  refine lv_iconst (v := 0) hx hb dL_shortest_25 (by decide) ?_
  exact hR _ _ _ _ _ _ _ _ _ dL_shortest_26 (Nat.zero_le _) (Nat.zero_le _) hp ho rfl rfl rfl
set_option maxRecDepth 20000 in
set_option maxHeartbeats 4000000 in
theorem c_L_shortest_x2 {l0 : Launch} (hl0 : l0.stackTraces = false) {D : va_G} {a : Nat → Nat} {cA : Nat → ClassId} {t ao : Nat} {σ : St} {f : Nat → Int64} {v1 : Int32} {v2 : Int32} {N : Nat} {σ' : St} (h : X6_shortest_t N v1 v2 σ = some (2, σ')) : MetH l0 yL_shortest cL_shortest 5 [(0, 10, 13, 19), (0, 10, 17, 24), (0, 10, 21, 13)] 7 D a cA ao (ES t FX) [.ref (a 0), .int v1, .int v2, .ref ao] σ f 1 σ' f := by
  refine mkH (by decide) (Nat.le_of_ble_eq_true rfl) ?_
  intro p e R s m args below meth c A Q ls X hRc htab hap hDo hR hp ho hl
  obtain ⟨hx, hb, -, hown, hts, -⟩ := id X
  have hF : EOK FX := eokX
  have hl : lv_has ls 5 [(0, .ref (a 0)), (1, .int v1), (2, .int v2), (3, .ref ao)] := hl
  obtain ⟨-, -, -, -, -, -, hcast, hnc, -⟩ := X.2.2.2.2.2.2.2.2.1
  refine lv_aload_n hx hb dL_shortest_0 rfl (lv_at hl 3 rfl) ?_
  refine lv_iconst (v := 0) hx hb dL_shortest_1 (by decide) ?_
  refine lv_aload_n hx hb dL_shortest_2 rfl (lv_at hl 0 rfl) ?_
  refine lv_iload_n hx hb dL_shortest_3 rfl (lv_at hl 1 rfl) ?_
  refine lv_iload_n hx hb dL_shortest_4 rfl (lv_at hl 2 rfl) ?_
  refine clX_i X hRc (eokS hF) (c_X6_shortest_t hl0 h) tw_29_14 mw_X6_shortest (by decide) hp ho hap 0 rfl rfl rfl hl.1 rfl (Nat.le_of_ble_eq_true rfl) dL_shortest_5 (fun H locs q ex ce hp ho e1 h1 h2 h3 => ?_)
  refine xcatch (k := 2) X hcast ([] : List ExceptionTableEntry) (⟨0, 10, 13, 19⟩) (tableOf [(0, 10, 17, 24), (0, 10, 21, 13)]) (htab.trans rfl) (fun z hz => by cases hz) (by decide) (by decide) tw_8_20 (Or.inr (Or.inl rfl)) e1 h1 h2 h3 ?_
  refine lv_astore (lv' := [(4, .ref q), (0, .ref (a 0)), (1, .int v1), (2, .int v2), (3, .ref ao)]) hx hb dL_shortest_13 hl (by decide) rfl (fun ls hl => ?_)
  refine lv_iconst (v := 1) hx hb dL_shortest_15 (by decide) ?_
  exact hR _ _ _ _ _ _ _ _ _ dL_shortest_16 (Nat.le_refl _) (Nat.le_refl _) hp ho rfl rfl rfl
set_option maxRecDepth 20000 in
set_option maxHeartbeats 4000000 in
theorem c_L_shortest_x3 {l0 : Launch} (hl0 : l0.stackTraces = false) {D : va_G} {a : Nat → Nat} {cA : Nat → ClassId} {t ao : Nat} {σ : St} {f : Nat → Int64} {v1 : Int32} {v2 : Int32} {N : Nat} {σ' : St} (h : X6_shortest_t N v1 v2 σ = some (3, σ')) : MetH l0 yL_shortest cL_shortest 5 [(0, 10, 13, 19), (0, 10, 17, 24), (0, 10, 21, 13)] 7 D a cA ao (ES t FX) [.ref (a 0), .int v1, .int v2, .ref ao] σ f 2 σ' f := by
  refine mkH (by decide) (Nat.le_of_ble_eq_true rfl) ?_
  intro p e R s m args below meth c A Q ls X hRc htab hap hDo hR hp ho hl
  obtain ⟨hx, hb, -, hown, hts, -⟩ := id X
  have hF : EOK FX := eokX
  have hl : lv_has ls 5 [(0, .ref (a 0)), (1, .int v1), (2, .int v2), (3, .ref ao)] := hl
  obtain ⟨-, -, -, -, -, -, hcast, hnc, -⟩ := X.2.2.2.2.2.2.2.2.1
  refine lv_aload_n hx hb dL_shortest_0 rfl (lv_at hl 3 rfl) ?_
  refine lv_iconst (v := 0) hx hb dL_shortest_1 (by decide) ?_
  refine lv_aload_n hx hb dL_shortest_2 rfl (lv_at hl 0 rfl) ?_
  refine lv_iload_n hx hb dL_shortest_3 rfl (lv_at hl 1 rfl) ?_
  refine lv_iload_n hx hb dL_shortest_4 rfl (lv_at hl 2 rfl) ?_
  refine clX_i X hRc (eokS hF) (c_X6_shortest_t hl0 h) tw_29_14 mw_X6_shortest (by decide) hp ho hap 0 rfl rfl rfl hl.1 rfl (Nat.le_of_ble_eq_true rfl) dL_shortest_5 (fun H locs q ex ce hp ho e1 h1 h2 h3 => ?_)
  refine xcatch (k := 3) X hcast ([⟨0, 10, 13, 19⟩] : List ExceptionTableEntry) (⟨0, 10, 17, 24⟩) (tableOf [(0, 10, 21, 13)]) (htab.trans rfl) (fun z hz => by obtain rfl := List.mem_singleton.mp hz; exact ⟨by decide, _, tw_8_20, by rw [e1]; exact hnc _ (List.mem_of_getElem? (i := 5) rfl)⟩) (by decide) (by decide) tw_12_12 (Or.inr (Or.inr rfl)) e1 h1 h2 h3 ?_
  refine lv_astore (lv' := [(4, .ref q), (0, .ref (a 0)), (1, .int v1), (2, .int v2), (3, .ref ao)]) hx hb dL_shortest_17 hl (by decide) rfl (fun ls hl => ?_)
  refine lv_iconst (v := 2) hx hb dL_shortest_19 (by decide) ?_
  exact hR _ _ _ _ _ _ _ _ _ dL_shortest_20 (Nat.le_refl _) (Nat.le_refl _) hp ho rfl rfl rfl
set_option maxRecDepth 20000 in
set_option maxHeartbeats 4000000 in
theorem c_L_shortest_x1 {l0 : Launch} (hl0 : l0.stackTraces = false) {D : va_G} {a : Nat → Nat} {cA : Nat → ClassId} {t ao : Nat} {σ : St} {f : Nat → Int64} {v1 : Int32} {v2 : Int32} {N : Nat} {σ' : St} (h : X6_shortest_t N v1 v2 σ = some (1, σ')) : MetH l0 yL_shortest cL_shortest 5 [(0, 10, 13, 19), (0, 10, 17, 24), (0, 10, 21, 13)] 7 D a cA ao (ES t FX) [.ref (a 0), .int v1, .int v2, .ref ao] σ f 3 σ' f := by
  refine mkH (by decide) (Nat.le_of_ble_eq_true rfl) ?_
  intro p e R s m args below meth c A Q ls X hRc htab hap hDo hR hp ho hl
  obtain ⟨hx, hb, -, hown, hts, -⟩ := id X
  have hF : EOK FX := eokX
  have hl : lv_has ls 5 [(0, .ref (a 0)), (1, .int v1), (2, .int v2), (3, .ref ao)] := hl
  obtain ⟨-, -, -, -, -, -, hcast, hnc, -⟩ := X.2.2.2.2.2.2.2.2.1
  refine lv_aload_n hx hb dL_shortest_0 rfl (lv_at hl 3 rfl) ?_
  refine lv_iconst (v := 0) hx hb dL_shortest_1 (by decide) ?_
  refine lv_aload_n hx hb dL_shortest_2 rfl (lv_at hl 0 rfl) ?_
  refine lv_iload_n hx hb dL_shortest_3 rfl (lv_at hl 1 rfl) ?_
  refine lv_iload_n hx hb dL_shortest_4 rfl (lv_at hl 2 rfl) ?_
  refine clX_i X hRc (eokS hF) (c_X6_shortest_t hl0 h) tw_29_14 mw_X6_shortest (by decide) hp ho hap 0 rfl rfl rfl hl.1 rfl (Nat.le_of_ble_eq_true rfl) dL_shortest_5 (fun H locs q ex ce hp ho e1 h1 h2 h3 => ?_)
  refine xcatch (k := 1) X hcast ([⟨0, 10, 13, 19⟩, ⟨0, 10, 17, 24⟩] : List ExceptionTableEntry) (⟨0, 10, 21, 13⟩) (tableOf []) (htab.trans rfl) (fun z hz => (List.mem_cons.mp hz).elim (fun q9 => by rw [q9]; exact ⟨by decide, _, tw_8_20, by rw [e1]; exact hnc _ (List.mem_of_getElem? (i := 0) rfl)⟩) (fun hz => by obtain rfl := List.mem_singleton.mp hz; exact ⟨by decide, _, tw_12_12, by rw [e1]; exact hnc _ (List.mem_of_getElem? (i := 1) rfl)⟩)) (by decide) (by decide) tw_7_14 (Or.inl rfl) e1 h1 h2 h3 ?_
  refine lv_astore (lv' := [(4, .ref q), (0, .ref (a 0)), (1, .int v1), (2, .int v2), (3, .ref ao)]) hx hb dL_shortest_21 hl (by decide) rfl (fun ls hl => ?_)
  refine lv_iconst (v := 3) hx hb dL_shortest_23 (by decide) ?_
  exact hR _ _ _ _ _ _ _ _ _ dL_shortest_24 (Nat.le_refl _) (Nat.le_refl _) hp ho rfl rfl rfl
set_option maxRecDepth 20000 in
set_option maxHeartbeats 4000000 in
theorem c_L_candidate {l : Launch} {D : va_G} {a : Nat → Nat} {cA : Nat → ClassId} {t ao : Nat} {σ : St} {f : Nat → Int64} {N : Nat} {r : Int64} {σ' : St} (h : X6_candidate N σ = some (r, σ')) : MetH l yL_candidate cL_candidate 3 [(0, 7, 10, 19)] 8 D a cA ao (ES t FX) [.ref (a 0), .ref ao] σ f 0 σ' (vp_updL f 0 r) := by
  refine mkH (by decide) (Nat.le_of_ble_eq_true rfl) ?_
  intro p e R s m args below meth c A Q ls X hRc htab hap hDo hR hp ho hl
  obtain ⟨hx, hb, -, hown, hts, -⟩ := id X
  have hF : EOK FX := eokX
  have hl : lv_has ls 3 [(0, .ref (a 0)), (1, .ref ao)] := hl
  refine lv_aload_n hx hb dL_candidate_0 rfl (lv_at hl 1 rfl) ?_
  refine lv_iconst (v := 0) hx hb dL_candidate_1 (by decide) ?_
  refine lv_aload_n hx hb dL_candidate_2 rfl (lv_at hl 0 rfl) ?_
  refine clR_l X (eokS hF) (c_X6_candidate hF h) tw_31_6 mw_X6_candidate (by decide) hp ho hap ⟨Nat.zero_le _, Nat.zero_le _⟩ 0 rfl rfl rfl hl.1 rfl (Nat.le_of_ble_eq_true rfl) dL_candidate_3 (fun H locs hp ho => ?_)
  refine stO X hp ho hDo (apS hap) dL_candidate_6 (fun H locs hp ho => ?_)
  refine lv_goto (tgt := 13) hx hb dL_candidate_7 (by decide) ?_
  refine lv_iconst (v := 0) hx hb dL_candidate_13 (by decide) ?_
  exact hR _ _ _ _ _ _ _ _ _ dL_candidate_14 (Nat.zero_le _) (Nat.zero_le _) hp ho rfl rfl rfl
set_option maxRecDepth 20000 in
set_option maxHeartbeats 4000000 in
theorem c_L_candidate_x2 {l0 : Launch} (hl0 : l0.stackTraces = false) {D : va_G} {a : Nat → Nat} {cA : Nat → ClassId} {t ao : Nat} {σ : St} {f : Nat → Int64} {N : Nat} {σ' : St} (h : X6_candidate_t N σ = some (2, σ')) : MetH l0 yL_candidate cL_candidate 3 [(0, 7, 10, 19)] 8 D a cA ao (ES t FX) [.ref (a 0), .ref ao] σ f 1 σ' f := by
  refine mkH (by decide) (Nat.le_of_ble_eq_true rfl) ?_
  intro p e R s m args below meth c A Q ls X hRc htab hap hDo hR hp ho hl
  obtain ⟨hx, hb, -, hown, hts, -⟩ := id X
  have hF : EOK FX := eokX
  have hl : lv_has ls 3 [(0, .ref (a 0)), (1, .ref ao)] := hl
  obtain ⟨-, -, -, -, -, -, hcast, hnc, -⟩ := X.2.2.2.2.2.2.2.2.1
  refine lv_aload_n hx hb dL_candidate_0 rfl (lv_at hl 1 rfl) ?_
  refine lv_iconst (v := 0) hx hb dL_candidate_1 (by decide) ?_
  refine lv_aload_n hx hb dL_candidate_2 rfl (lv_at hl 0 rfl) ?_
  refine clX_l X hRc (eokS hF) (c_X6_candidate_t hl0 h) tw_31_6 mw_X6_candidate (by decide) hp ho hap 0 rfl rfl rfl hl.1 rfl (Nat.le_of_ble_eq_true rfl) dL_candidate_3 (fun H locs q ex ce hp ho e1 h1 h2 h3 => ?_)
  refine xcatch (k := 2) X hcast ([] : List ExceptionTableEntry) (⟨0, 7, 10, 19⟩) (tableOf []) (htab.trans rfl) (fun z hz => by cases hz) (by decide) (by decide) tw_8_20 (Or.inr (Or.inl rfl)) e1 h1 h2 h3 ?_
  refine lv_astore_n (lv' := [(2, .ref q), (0, .ref (a 0)), (1, .ref ao)]) hx hb dL_candidate_10 rfl hl (by decide) rfl (fun ls hl => ?_)
  refine lv_iconst (v := 1) hx hb dL_candidate_11 (by decide) ?_
  exact hR _ _ _ _ _ _ _ _ _ dL_candidate_12 (Nat.le_refl _) (Nat.le_refl _) hp ho rfl rfl rfl
set_option maxRecDepth 20000 in
set_option maxHeartbeats 4000000 in
theorem c_L_check {l : Launch} {D : va_G} {a : Nat → Nat} {cA : Nat → ClassId} {t ao : Nat} {σ : St} {f : Nat → Int64} {N : Nat} {r : Int32} {σ' : St} (h : X6_check N σ = some (r, σ')) : MetH l yL_check cL_check 3 [(0, 8, 11, 19)] 8 D a cA ao (ES t FX) [.ref (a 0), .ref ao] σ f 0 σ' (vp_updL f 0 r.toInt64) := by
  refine mkH (by decide) (Nat.le_of_ble_eq_true rfl) ?_
  intro p e R s m args below meth c A Q ls X hRc htab hap hDo hR hp ho hl
  obtain ⟨hx, hb, -, hown, hts, -⟩ := id X
  have hF : EOK FX := eokX
  have hl : lv_has ls 3 [(0, .ref (a 0)), (1, .ref ao)] := hl
  refine lv_aload_n hx hb dL_check_0 rfl (lv_at hl 1 rfl) ?_
  refine lv_iconst (v := 0) hx hb dL_check_1 (by decide) ?_
  refine lv_aload_n hx hb dL_check_2 rfl (lv_at hl 0 rfl) ?_
  refine clR_i X (eokS hF) (c_X6_check hF h) tw_32_3 mw_X6_check (by decide) hp ho hap ⟨Nat.zero_le _, Nat.zero_le _⟩ 0 rfl rfl rfl hl.1 rfl (Nat.le_of_ble_eq_true rfl) dL_check_3 (fun H locs hp ho => ?_)
  refine lv_i2l hx hb dL_check_6 rfl ?_
  refine stO X hp ho hDo (apS hap) dL_check_7 (fun H locs hp ho => ?_)
  refine lv_goto (tgt := 14) hx hb dL_check_8 (by decide) ?_
  refine lv_iconst (v := 0) hx hb dL_check_14 (by decide) ?_
  exact hR _ _ _ _ _ _ _ _ _ dL_check_15 (Nat.zero_le _) (Nat.zero_le _) hp ho rfl rfl rfl
set_option maxRecDepth 20000 in
set_option maxHeartbeats 4000000 in
theorem c_L_check_x2 {l0 : Launch} (hl0 : l0.stackTraces = false) {D : va_G} {a : Nat → Nat} {cA : Nat → ClassId} {t ao : Nat} {σ : St} {f : Nat → Int64} {N : Nat} {σ' : St} (h : X6_check_t N σ = some (2, σ')) : MetH l0 yL_check cL_check 3 [(0, 8, 11, 19)] 8 D a cA ao (ES t FX) [.ref (a 0), .ref ao] σ f 1 σ' f := by
  refine mkH (by decide) (Nat.le_of_ble_eq_true rfl) ?_
  intro p e R s m args below meth c A Q ls X hRc htab hap hDo hR hp ho hl
  obtain ⟨hx, hb, -, hown, hts, -⟩ := id X
  have hF : EOK FX := eokX
  have hl : lv_has ls 3 [(0, .ref (a 0)), (1, .ref ao)] := hl
  obtain ⟨-, -, -, -, -, -, hcast, hnc, -⟩ := X.2.2.2.2.2.2.2.2.1
  refine lv_aload_n hx hb dL_check_0 rfl (lv_at hl 1 rfl) ?_
  refine lv_iconst (v := 0) hx hb dL_check_1 (by decide) ?_
  refine lv_aload_n hx hb dL_check_2 rfl (lv_at hl 0 rfl) ?_
  refine clX_i X hRc (eokS hF) (c_X6_check_t hl0 h) tw_32_3 mw_X6_check (by decide) hp ho hap 0 rfl rfl rfl hl.1 rfl (Nat.le_of_ble_eq_true rfl) dL_check_3 (fun H locs q ex ce hp ho e1 h1 h2 h3 => ?_)
  refine xcatch (k := 2) X hcast ([] : List ExceptionTableEntry) (⟨0, 8, 11, 19⟩) (tableOf []) (htab.trans rfl) (fun z hz => by cases hz) (by decide) (by decide) tw_8_20 (Or.inr (Or.inl rfl)) e1 h1 h2 h3 ?_
  refine lv_astore_n (lv' := [(2, .ref q), (0, .ref (a 0)), (1, .ref ao)]) hx hb dL_check_11 rfl hl (by decide) rfl (fun ls hl => ?_)
  refine lv_iconst (v := 1) hx hb dL_check_12 (by decide) ?_
  exact hR _ _ _ _ _ _ _ _ _ dL_check_13 (Nat.le_refl _) (Nat.le_refl _) hp ho rfl rfl rfl
set_option maxRecDepth 20000 in
set_option maxHeartbeats 4000000 in
theorem c_L_escape {l : Launch} {D : va_G} {a : Nat → Nat} {cA : Nat → ClassId} {t ao : Nat} {σ : St} {f : Nat → Int64} {v1 : Int32} {N : Nat} {r : Int32} {σ' : St} (h : X6_escape N v1 σ = some (r, σ')) : MetH l yL_escape cL_escape 4 [(0, 9, 12, 13), (0, 9, 15, 19)] 8 D a cA ao (ES t FX) [.ref (a 0), .int v1, .ref ao] σ f 0 σ' (vp_updL f 0 r.toInt64) := by
  refine mkH (by decide) (Nat.le_of_ble_eq_true rfl) ?_
  intro p e R s m args below meth c A Q ls X hRc htab hap hDo hR hp ho hl
  obtain ⟨hx, hb, -, hown, hts, -⟩ := id X
  have hF : EOK FX := eokX
  have hl : lv_has ls 4 [(0, .ref (a 0)), (1, .int v1), (2, .ref ao)] := hl
  refine lv_aload_n hx hb dL_escape_0 rfl (lv_at hl 2 rfl) ?_
  refine lv_iconst (v := 0) hx hb dL_escape_1 (by decide) ?_
  refine lv_aload_n hx hb dL_escape_2 rfl (lv_at hl 0 rfl) ?_
  refine lv_iload_n hx hb dL_escape_3 rfl (lv_at hl 1 rfl) ?_
  refine clR_i X (eokS hF) (c_X6_escape hF h) tw_32_17 mw_X6_escape (by decide) hp ho hap ⟨Nat.zero_le _, Nat.zero_le _⟩ 0 rfl rfl rfl hl.1 rfl (Nat.le_of_ble_eq_true rfl) dL_escape_4 (fun H locs hp ho => ?_)
  refine lv_i2l hx hb dL_escape_7 rfl ?_
  refine stO X hp ho hDo (apS hap) dL_escape_8 (fun H locs hp ho => ?_)
  refine lv_goto (tgt := 18) hx hb dL_escape_9 (by decide) ?_
  refine lv_iconst (v := 0) hx hb dL_escape_18 (by decide) ?_
  exact hR _ _ _ _ _ _ _ _ _ dL_escape_19 (Nat.zero_le _) (Nat.zero_le _) hp ho rfl rfl rfl
set_option maxRecDepth 20000 in
set_option maxHeartbeats 4000000 in
theorem c_L_escape_x1 {l0 : Launch} (hl0 : l0.stackTraces = false) {D : va_G} {a : Nat → Nat} {cA : Nat → ClassId} {t ao : Nat} {σ : St} {f : Nat → Int64} {v1 : Int32} {N : Nat} {σ' : St} (h : X6_escape_t N v1 σ = some (1, σ')) : MetH l0 yL_escape cL_escape 4 [(0, 9, 12, 13), (0, 9, 15, 19)] 8 D a cA ao (ES t FX) [.ref (a 0), .int v1, .ref ao] σ f 1 σ' f := by
  refine mkH (by decide) (Nat.le_of_ble_eq_true rfl) ?_
  intro p e R s m args below meth c A Q ls X hRc htab hap hDo hR hp ho hl
  obtain ⟨hx, hb, -, hown, hts, -⟩ := id X
  have hF : EOK FX := eokX
  have hl : lv_has ls 4 [(0, .ref (a 0)), (1, .int v1), (2, .ref ao)] := hl
  obtain ⟨-, -, -, -, -, -, hcast, hnc, -⟩ := X.2.2.2.2.2.2.2.2.1
  refine lv_aload_n hx hb dL_escape_0 rfl (lv_at hl 2 rfl) ?_
  refine lv_iconst (v := 0) hx hb dL_escape_1 (by decide) ?_
  refine lv_aload_n hx hb dL_escape_2 rfl (lv_at hl 0 rfl) ?_
  refine lv_iload_n hx hb dL_escape_3 rfl (lv_at hl 1 rfl) ?_
  refine clX_i X hRc (eokS hF) (c_X6_escape_t hl0 h) tw_32_17 mw_X6_escape (by decide) hp ho hap 0 rfl rfl rfl hl.1 rfl (Nat.le_of_ble_eq_true rfl) dL_escape_4 (fun H locs q ex ce hp ho e1 h1 h2 h3 => ?_)
  refine xcatch (k := 1) X hcast ([] : List ExceptionTableEntry) (⟨0, 9, 12, 13⟩) (tableOf [(0, 9, 15, 19)]) (htab.trans rfl) (fun z hz => by cases hz) (by decide) (by decide) tw_7_14 (Or.inl rfl) e1 h1 h2 h3 ?_
  refine lv_astore_n (lv' := [(3, .ref q), (0, .ref (a 0)), (1, .int v1), (2, .ref ao)]) hx hb dL_escape_12 rfl hl (by decide) rfl (fun ls hl => ?_)
  refine lv_iconst (v := 1) hx hb dL_escape_13 (by decide) ?_
  exact hR _ _ _ _ _ _ _ _ _ dL_escape_14 (Nat.le_refl _) (Nat.le_refl _) hp ho rfl rfl rfl
set_option maxRecDepth 20000 in
set_option maxHeartbeats 4000000 in
theorem c_L_escape_x2 {l0 : Launch} (hl0 : l0.stackTraces = false) {D : va_G} {a : Nat → Nat} {cA : Nat → ClassId} {t ao : Nat} {σ : St} {f : Nat → Int64} {v1 : Int32} {N : Nat} {σ' : St} (h : X6_escape_t N v1 σ = some (2, σ')) : MetH l0 yL_escape cL_escape 4 [(0, 9, 12, 13), (0, 9, 15, 19)] 8 D a cA ao (ES t FX) [.ref (a 0), .int v1, .ref ao] σ f 2 σ' f := by
  refine mkH (by decide) (Nat.le_of_ble_eq_true rfl) ?_
  intro p e R s m args below meth c A Q ls X hRc htab hap hDo hR hp ho hl
  obtain ⟨hx, hb, -, hown, hts, -⟩ := id X
  have hF : EOK FX := eokX
  have hl : lv_has ls 4 [(0, .ref (a 0)), (1, .int v1), (2, .ref ao)] := hl
  obtain ⟨-, -, -, -, -, -, hcast, hnc, -⟩ := X.2.2.2.2.2.2.2.2.1
  refine lv_aload_n hx hb dL_escape_0 rfl (lv_at hl 2 rfl) ?_
  refine lv_iconst (v := 0) hx hb dL_escape_1 (by decide) ?_
  refine lv_aload_n hx hb dL_escape_2 rfl (lv_at hl 0 rfl) ?_
  refine lv_iload_n hx hb dL_escape_3 rfl (lv_at hl 1 rfl) ?_
  refine clX_i X hRc (eokS hF) (c_X6_escape_t hl0 h) tw_32_17 mw_X6_escape (by decide) hp ho hap 0 rfl rfl rfl hl.1 rfl (Nat.le_of_ble_eq_true rfl) dL_escape_4 (fun H locs q ex ce hp ho e1 h1 h2 h3 => ?_)
  refine xcatch (k := 2) X hcast ([⟨0, 9, 12, 13⟩] : List ExceptionTableEntry) (⟨0, 9, 15, 19⟩) (tableOf []) (htab.trans rfl) (fun z hz => by obtain rfl := List.mem_singleton.mp hz; exact ⟨by decide, _, tw_7_14, by rw [e1]; exact hnc _ (List.mem_of_getElem? (i := 2) rfl)⟩) (by decide) (by decide) tw_8_20 (Or.inr (Or.inl rfl)) e1 h1 h2 h3 ?_
  refine lv_astore_n (lv' := [(3, .ref q), (0, .ref (a 0)), (1, .int v1), (2, .ref ao)]) hx hb dL_escape_15 rfl hl (by decide) rfl (fun ls hl => ?_)
  refine lv_iconst (v := 2) hx hb dL_escape_16 (by decide) ?_
  exact hR _ _ _ _ _ _ _ _ _ dL_escape_17 (Nat.le_refl _) (Nat.le_refl _) hp ho rfl rfl rfl
set_option maxRecDepth 20000 in
set_option maxHeartbeats 4000000 in
theorem c_L_modal {l : Launch} {D : va_G} {a : Nat → Nat} {cA : Nat → ClassId} {t ao : Nat} {σ : St} {f : Nat → Int64} {v1 : Int32} {N : Nat} {r : Int64} {σ' : St} (h : X6_modal N v1 σ = some (r, σ')) : MetH l yL_modal cL_modal 4 [(0, 8, 11, 13), (0, 8, 14, 19)] 8 D a cA ao (ES t FX) [.ref (a 0), .int v1, .ref ao] σ f 0 σ' (vp_updL f 0 r) := by
  refine mkH (by decide) (Nat.le_of_ble_eq_true rfl) ?_
  intro p e R s m args below meth c A Q ls X hRc htab hap hDo hR hp ho hl
  obtain ⟨hx, hb, -, hown, hts, -⟩ := id X
  have hF : EOK FX := eokX
  have hl : lv_has ls 4 [(0, .ref (a 0)), (1, .int v1), (2, .ref ao)] := hl
  refine lv_aload_n hx hb dL_modal_0 rfl (lv_at hl 2 rfl) ?_
  refine lv_iconst (v := 0) hx hb dL_modal_1 (by decide) ?_
  refine lv_aload_n hx hb dL_modal_2 rfl (lv_at hl 0 rfl) ?_
  refine lv_iload_n hx hb dL_modal_3 rfl (lv_at hl 1 rfl) ?_
  refine clR_l X (eokS hF) (c_X6_modal hF h) tw_33_11 mw_X6_modal (by decide) hp ho hap ⟨Nat.zero_le _, Nat.zero_le _⟩ 0 rfl rfl rfl hl.1 rfl (Nat.le_of_ble_eq_true rfl) dL_modal_4 (fun H locs hp ho => ?_)
  refine stO X hp ho hDo (apS hap) dL_modal_7 (fun H locs hp ho => ?_)
  refine lv_goto (tgt := 17) hx hb dL_modal_8 (by decide) ?_
  refine lv_iconst (v := 0) hx hb dL_modal_17 (by decide) ?_
  exact hR _ _ _ _ _ _ _ _ _ dL_modal_18 (Nat.zero_le _) (Nat.zero_le _) hp ho rfl rfl rfl
set_option maxRecDepth 20000 in
set_option maxHeartbeats 4000000 in
theorem c_L_modal_x1 {l0 : Launch} (hl0 : l0.stackTraces = false) {D : va_G} {a : Nat → Nat} {cA : Nat → ClassId} {t ao : Nat} {σ : St} {f : Nat → Int64} {v1 : Int32} {N : Nat} {σ' : St} (h : X6_modal_t N v1 σ = some (1, σ')) : MetH l0 yL_modal cL_modal 4 [(0, 8, 11, 13), (0, 8, 14, 19)] 8 D a cA ao (ES t FX) [.ref (a 0), .int v1, .ref ao] σ f 1 σ' f := by
  refine mkH (by decide) (Nat.le_of_ble_eq_true rfl) ?_
  intro p e R s m args below meth c A Q ls X hRc htab hap hDo hR hp ho hl
  obtain ⟨hx, hb, -, hown, hts, -⟩ := id X
  have hF : EOK FX := eokX
  have hl : lv_has ls 4 [(0, .ref (a 0)), (1, .int v1), (2, .ref ao)] := hl
  obtain ⟨-, -, -, -, -, -, hcast, hnc, -⟩ := X.2.2.2.2.2.2.2.2.1
  refine lv_aload_n hx hb dL_modal_0 rfl (lv_at hl 2 rfl) ?_
  refine lv_iconst (v := 0) hx hb dL_modal_1 (by decide) ?_
  refine lv_aload_n hx hb dL_modal_2 rfl (lv_at hl 0 rfl) ?_
  refine lv_iload_n hx hb dL_modal_3 rfl (lv_at hl 1 rfl) ?_
  refine clX_l X hRc (eokS hF) (c_X6_modal_t hl0 h) tw_33_11 mw_X6_modal (by decide) hp ho hap 0 rfl rfl rfl hl.1 rfl (Nat.le_of_ble_eq_true rfl) dL_modal_4 (fun H locs q ex ce hp ho e1 h1 h2 h3 => ?_)
  refine xcatch (k := 1) X hcast ([] : List ExceptionTableEntry) (⟨0, 8, 11, 13⟩) (tableOf [(0, 8, 14, 19)]) (htab.trans rfl) (fun z hz => by cases hz) (by decide) (by decide) tw_7_14 (Or.inl rfl) e1 h1 h2 h3 ?_
  refine lv_astore_n (lv' := [(3, .ref q), (0, .ref (a 0)), (1, .int v1), (2, .ref ao)]) hx hb dL_modal_11 rfl hl (by decide) rfl (fun ls hl => ?_)
  refine lv_iconst (v := 1) hx hb dL_modal_12 (by decide) ?_
  exact hR _ _ _ _ _ _ _ _ _ dL_modal_13 (Nat.le_refl _) (Nat.le_refl _) hp ho rfl rfl rfl
set_option maxRecDepth 20000 in
set_option maxHeartbeats 4000000 in
theorem c_L_modal_x2 {l0 : Launch} (hl0 : l0.stackTraces = false) {D : va_G} {a : Nat → Nat} {cA : Nat → ClassId} {t ao : Nat} {σ : St} {f : Nat → Int64} {v1 : Int32} {N : Nat} {σ' : St} (h : X6_modal_t N v1 σ = some (2, σ')) : MetH l0 yL_modal cL_modal 4 [(0, 8, 11, 13), (0, 8, 14, 19)] 8 D a cA ao (ES t FX) [.ref (a 0), .int v1, .ref ao] σ f 2 σ' f := by
  refine mkH (by decide) (Nat.le_of_ble_eq_true rfl) ?_
  intro p e R s m args below meth c A Q ls X hRc htab hap hDo hR hp ho hl
  obtain ⟨hx, hb, -, hown, hts, -⟩ := id X
  have hF : EOK FX := eokX
  have hl : lv_has ls 4 [(0, .ref (a 0)), (1, .int v1), (2, .ref ao)] := hl
  obtain ⟨-, -, -, -, -, -, hcast, hnc, -⟩ := X.2.2.2.2.2.2.2.2.1
  refine lv_aload_n hx hb dL_modal_0 rfl (lv_at hl 2 rfl) ?_
  refine lv_iconst (v := 0) hx hb dL_modal_1 (by decide) ?_
  refine lv_aload_n hx hb dL_modal_2 rfl (lv_at hl 0 rfl) ?_
  refine lv_iload_n hx hb dL_modal_3 rfl (lv_at hl 1 rfl) ?_
  refine clX_l X hRc (eokS hF) (c_X6_modal_t hl0 h) tw_33_11 mw_X6_modal (by decide) hp ho hap 0 rfl rfl rfl hl.1 rfl (Nat.le_of_ble_eq_true rfl) dL_modal_4 (fun H locs q ex ce hp ho e1 h1 h2 h3 => ?_)
  refine xcatch (k := 2) X hcast ([⟨0, 8, 11, 13⟩] : List ExceptionTableEntry) (⟨0, 8, 14, 19⟩) (tableOf []) (htab.trans rfl) (fun z hz => by obtain rfl := List.mem_singleton.mp hz; exact ⟨by decide, _, tw_7_14, by rw [e1]; exact hnc _ (List.mem_of_getElem? (i := 2) rfl)⟩) (by decide) (by decide) tw_8_20 (Or.inr (Or.inl rfl)) e1 h1 h2 h3 ?_
  refine lv_astore_n (lv' := [(3, .ref q), (0, .ref (a 0)), (1, .int v1), (2, .ref ao)]) hx hb dL_modal_14 rfl hl (by decide) rfl (fun ls hl => ?_)
  refine lv_iconst (v := 2) hx hb dL_modal_15 (by decide) ?_
  exact hR _ _ _ _ _ _ _ _ _ dL_modal_16 (Nat.le_refl _) (Nat.le_refl _) hp ho rfl rfl rfl
set_option maxRecDepth 20000 in
set_option maxHeartbeats 4000000 in
theorem c_L_proof {l : Launch} {D : va_G} {a : Nat → Nat} {cA : Nat → ClassId} {t ao : Nat} {σ : St} {f : Nat → Int64} {v1 : Int32} {N : Nat} {r : Int32} (h : X6_proof N σ v1 = some r) : MetH l yL_proof cL_proof 4 [(0, 9, 12, 13)] 7 D a cA ao (ES t FX) [.ref (a 0), .int v1, .ref ao] σ f 0 σ (vp_updL f 0 r.toInt64) := by
  refine mkH (by decide) (Nat.le_of_ble_eq_true rfl) ?_
  intro p e R s m args below meth c A Q ls X hRc htab hap hDo hR hp ho hl
  obtain ⟨hx, hb, -, hown, hts, -⟩ := id X
  have hF : EOK FX := eokX
  have hl : lv_has ls 4 [(0, .ref (a 0)), (1, .int v1), (2, .ref ao)] := hl
  refine lv_aload_n hx hb dL_proof_0 rfl (lv_at hl 2 rfl) ?_
  refine lv_iconst (v := 0) hx hb dL_proof_1 (by decide) ?_
  refine lv_aload_n hx hb dL_proof_2 rfl (lv_at hl 0 rfl) ?_
  refine lv_iload_n hx hb dL_proof_3 rfl (lv_at hl 1 rfl) ?_
  refine clR_i X (eokS hF) (c_X6_proof hF h) tw_42_6 mw_X6_proof (by decide) hp ho hap ⟨Nat.zero_le _, Nat.zero_le _⟩ 0 rfl rfl rfl hl.1 rfl (Nat.le_of_ble_eq_true rfl) dL_proof_4 (fun H locs hp ho => ?_)
  refine lv_i2l hx hb dL_proof_7 rfl ?_
  refine stO X hp ho hDo (apS hap) dL_proof_8 (fun H locs hp ho => ?_)
  refine lv_goto (tgt := 15) hx hb dL_proof_9 (by decide) ?_
  refine lv_iconst (v := 0) hx hb dL_proof_15 (by decide) ?_
  exact hR _ _ _ _ _ _ _ _ _ dL_proof_16 (Nat.zero_le _) (Nat.zero_le _) hp ho rfl rfl rfl
set_option maxRecDepth 20000 in
set_option maxHeartbeats 4000000 in
theorem c_L_proof_x1 {l0 : Launch} (hl0 : l0.stackTraces = false) {D : va_G} {a : Nat → Nat} {cA : Nat → ClassId} {t ao : Nat} {σ : St} {f : Nat → Int64} {v1 : Int32} {σ' : St} (h : X6_proof_t σ v1 = some (1, σ')) : MetH l0 yL_proof cL_proof 4 [(0, 9, 12, 13)] 7 D a cA ao (ES t FX) [.ref (a 0), .int v1, .ref ao] σ f 1 σ' f := by
  refine mkH (by decide) (Nat.le_of_ble_eq_true rfl) ?_
  intro p e R s m args below meth c A Q ls X hRc htab hap hDo hR hp ho hl
  obtain ⟨hx, hb, -, hown, hts, -⟩ := id X
  have hF : EOK FX := eokX
  have hl : lv_has ls 4 [(0, .ref (a 0)), (1, .int v1), (2, .ref ao)] := hl
  obtain ⟨-, -, -, -, -, -, hcast, hnc, -⟩ := X.2.2.2.2.2.2.2.2.1
  refine lv_aload_n hx hb dL_proof_0 rfl (lv_at hl 2 rfl) ?_
  refine lv_iconst (v := 0) hx hb dL_proof_1 (by decide) ?_
  refine lv_aload_n hx hb dL_proof_2 rfl (lv_at hl 0 rfl) ?_
  refine lv_iload_n hx hb dL_proof_3 rfl (lv_at hl 1 rfl) ?_
  refine clX_i X hRc (eokS hF) (c_X6_proof_t hl0 h) tw_42_6 mw_X6_proof (by decide) hp ho hap 0 rfl rfl rfl hl.1 rfl (Nat.le_of_ble_eq_true rfl) dL_proof_4 (fun H locs q ex ce hp ho e1 h1 h2 h3 => ?_)
  refine xcatch (k := 1) X hcast ([] : List ExceptionTableEntry) (⟨0, 9, 12, 13⟩) (tableOf []) (htab.trans rfl) (fun z hz => by cases hz) (by decide) (by decide) tw_7_14 (Or.inl rfl) e1 h1 h2 h3 ?_
  refine lv_astore_n (lv' := [(3, .ref q), (0, .ref (a 0)), (1, .int v1), (2, .ref ao)]) hx hb dL_proof_12 rfl hl (by decide) rfl (fun ls hl => ?_)
  refine lv_iconst (v := 1) hx hb dL_proof_13 (by decide) ?_
  exact hR _ _ _ _ _ _ _ _ _ dL_proof_14 (Nat.le_refl _) (Nat.le_refl _) hp ho rfl rfl rfl
set_option maxRecDepth 20000 in
set_option maxHeartbeats 4000000 in
theorem c_L_frame {l : Launch} {D : va_G} {a : Nat → Nat} {cA : Nat → ClassId} {t ao : Nat} {σ : St} {f : Nat → Int64} {v1 : Int32} {r : Int64} {σ' : St} (h : X6_frame v1 σ = some (r, σ')) : MetH l yL_frame cL_frame 4 [(0, 8, 11, 19), (0, 8, 14, 24)] 8 D a cA ao (ES t FX) [.ref (a 0), .int v1, .ref ao] σ f 0 σ' (vp_updL f 0 r) := by
  refine mkH (by decide) (Nat.le_of_ble_eq_true rfl) ?_
  intro p e R s m args below meth c A Q ls X hRc htab hap hDo hR hp ho hl
  obtain ⟨hx, hb, -, hown, hts, -⟩ := id X
  have hF : EOK FX := eokX
  have hl : lv_has ls 4 [(0, .ref (a 0)), (1, .int v1), (2, .ref ao)] := hl
  refine lv_aload_n hx hb dL_frame_0 rfl (lv_at hl 2 rfl) ?_
  refine lv_iconst (v := 0) hx hb dL_frame_1 (by decide) ?_
  refine lv_aload_n hx hb dL_frame_2 rfl (lv_at hl 0 rfl) ?_
  refine lv_iload_n hx hb dL_frame_3 rfl (lv_at hl 1 rfl) ?_
  refine clR_l X (eokS hF) (c_X6_frame hF h) tw_43_13 mw_X6_frame (by decide) hp ho hap ⟨Nat.zero_le _, Nat.zero_le _⟩ 0 rfl rfl rfl hl.1 rfl (Nat.le_of_ble_eq_true rfl) dL_frame_4 (fun H locs hp ho => ?_)
  refine stO X hp ho hDo (apS hap) dL_frame_7 (fun H locs hp ho => ?_)
  refine lv_goto (tgt := 17) hx hb dL_frame_8 (by decide) ?_
  refine lv_iconst (v := 0) hx hb dL_frame_17 (by decide) ?_
  exact hR _ _ _ _ _ _ _ _ _ dL_frame_18 (Nat.zero_le _) (Nat.zero_le _) hp ho rfl rfl rfl
set_option maxRecDepth 20000 in
set_option maxHeartbeats 4000000 in
theorem c_L_frame_x2 {l0 : Launch} (hl0 : l0.stackTraces = false) {D : va_G} {a : Nat → Nat} {cA : Nat → ClassId} {t ao : Nat} {σ : St} {f : Nat → Int64} {v1 : Int32} {σ' : St} (h : X6_frame_t v1 σ = some (2, σ')) : MetH l0 yL_frame cL_frame 4 [(0, 8, 11, 19), (0, 8, 14, 24)] 8 D a cA ao (ES t FX) [.ref (a 0), .int v1, .ref ao] σ f 1 σ' f := by
  refine mkH (by decide) (Nat.le_of_ble_eq_true rfl) ?_
  intro p e R s m args below meth c A Q ls X hRc htab hap hDo hR hp ho hl
  obtain ⟨hx, hb, -, hown, hts, -⟩ := id X
  have hF : EOK FX := eokX
  have hl : lv_has ls 4 [(0, .ref (a 0)), (1, .int v1), (2, .ref ao)] := hl
  obtain ⟨-, -, -, -, -, -, hcast, hnc, -⟩ := X.2.2.2.2.2.2.2.2.1
  refine lv_aload_n hx hb dL_frame_0 rfl (lv_at hl 2 rfl) ?_
  refine lv_iconst (v := 0) hx hb dL_frame_1 (by decide) ?_
  refine lv_aload_n hx hb dL_frame_2 rfl (lv_at hl 0 rfl) ?_
  refine lv_iload_n hx hb dL_frame_3 rfl (lv_at hl 1 rfl) ?_
  refine clX_l X hRc (eokS hF) (c_X6_frame_t hl0 h) tw_43_13 mw_X6_frame (by decide) hp ho hap 0 rfl rfl rfl hl.1 rfl (Nat.le_of_ble_eq_true rfl) dL_frame_4 (fun H locs q ex ce hp ho e1 h1 h2 h3 => ?_)
  refine xcatch (k := 2) X hcast ([] : List ExceptionTableEntry) (⟨0, 8, 11, 19⟩) (tableOf [(0, 8, 14, 24)]) (htab.trans rfl) (fun z hz => by cases hz) (by decide) (by decide) tw_8_20 (Or.inr (Or.inl rfl)) e1 h1 h2 h3 ?_
  refine lv_astore_n (lv' := [(3, .ref q), (0, .ref (a 0)), (1, .int v1), (2, .ref ao)]) hx hb dL_frame_11 rfl hl (by decide) rfl (fun ls hl => ?_)
  refine lv_iconst (v := 1) hx hb dL_frame_12 (by decide) ?_
  exact hR _ _ _ _ _ _ _ _ _ dL_frame_13 (Nat.le_refl _) (Nat.le_refl _) hp ho rfl rfl rfl
set_option maxRecDepth 20000 in
set_option maxHeartbeats 4000000 in
theorem c_L_frame_x3 {l0 : Launch} (hl0 : l0.stackTraces = false) {D : va_G} {a : Nat → Nat} {cA : Nat → ClassId} {t ao : Nat} {σ : St} {f : Nat → Int64} {v1 : Int32} {σ' : St} (h : X6_frame_t v1 σ = some (3, σ')) : MetH l0 yL_frame cL_frame 4 [(0, 8, 11, 19), (0, 8, 14, 24)] 8 D a cA ao (ES t FX) [.ref (a 0), .int v1, .ref ao] σ f 2 σ' f := by
  refine mkH (by decide) (Nat.le_of_ble_eq_true rfl) ?_
  intro p e R s m args below meth c A Q ls X hRc htab hap hDo hR hp ho hl
  obtain ⟨hx, hb, -, hown, hts, -⟩ := id X
  have hF : EOK FX := eokX
  have hl : lv_has ls 4 [(0, .ref (a 0)), (1, .int v1), (2, .ref ao)] := hl
  obtain ⟨-, -, -, -, -, -, hcast, hnc, -⟩ := X.2.2.2.2.2.2.2.2.1
  refine lv_aload_n hx hb dL_frame_0 rfl (lv_at hl 2 rfl) ?_
  refine lv_iconst (v := 0) hx hb dL_frame_1 (by decide) ?_
  refine lv_aload_n hx hb dL_frame_2 rfl (lv_at hl 0 rfl) ?_
  refine lv_iload_n hx hb dL_frame_3 rfl (lv_at hl 1 rfl) ?_
  refine clX_l X hRc (eokS hF) (c_X6_frame_t hl0 h) tw_43_13 mw_X6_frame (by decide) hp ho hap 0 rfl rfl rfl hl.1 rfl (Nat.le_of_ble_eq_true rfl) dL_frame_4 (fun H locs q ex ce hp ho e1 h1 h2 h3 => ?_)
  refine xcatch (k := 3) X hcast ([⟨0, 8, 11, 19⟩] : List ExceptionTableEntry) (⟨0, 8, 14, 24⟩) (tableOf []) (htab.trans rfl) (fun z hz => by obtain rfl := List.mem_singleton.mp hz; exact ⟨by decide, _, tw_8_20, by rw [e1]; exact hnc _ (List.mem_of_getElem? (i := 5) rfl)⟩) (by decide) (by decide) tw_12_12 (Or.inr (Or.inr rfl)) e1 h1 h2 h3 ?_
  refine lv_astore_n (lv' := [(3, .ref q), (0, .ref (a 0)), (1, .int v1), (2, .ref ao)]) hx hb dL_frame_14 rfl hl (by decide) rfl (fun ls hl => ?_)
  refine lv_iconst (v := 2) hx hb dL_frame_15 (by decide) ?_
  exact hR _ _ _ _ _ _ _ _ _ dL_frame_16 (Nat.le_refl _) (Nat.le_refl _) hp ho rfl rfl rfl
set_option maxRecDepth 20000 in
set_option maxHeartbeats 4000000 in
theorem c_L_cube {l : Launch} {D : va_G} {a : Nat → Nat} {cA : Nat → ClassId} {t ao : Nat} {σ : St} {f : Nat → Int64} {v1 : Int32} {v2 : Int32} {r : Int32} {σ' : St} (h : X6_cube v1 v2 σ = some (r, σ')) : MetH l yL_cube cL_cube 5 [(0, 10, 13, 19), (0, 10, 17, 24), (0, 10, 21, 13)] 8 D a cA ao (ES t FX) [.ref (a 0), .int v1, .int v2, .ref ao] σ f 0 σ' (vp_updL f 0 r.toInt64) := by
  refine mkH (by decide) (Nat.le_of_ble_eq_true rfl) ?_
  intro p e R s m args below meth c A Q ls X hRc htab hap hDo hR hp ho hl
  obtain ⟨hx, hb, -, hown, hts, -⟩ := id X
  have hF : EOK FX := eokX
  have hl : lv_has ls 5 [(0, .ref (a 0)), (1, .int v1), (2, .int v2), (3, .ref ao)] := hl
  refine lv_aload_n hx hb dL_cube_0 rfl (lv_at hl 3 rfl) ?_
  refine lv_iconst (v := 0) hx hb dL_cube_1 (by decide) ?_
  refine lv_aload_n hx hb dL_cube_2 rfl (lv_at hl 0 rfl) ?_
  refine lv_iload_n hx hb dL_cube_3 rfl (lv_at hl 1 rfl) ?_
  refine lv_iload_n hx hb dL_cube_4 rfl (lv_at hl 2 rfl) ?_
  refine clR_i X (eokS hF) (c_X6_cube hF h) tw_44_6 mw_X6_cube (by decide) hp ho hap ⟨Nat.zero_le _, Nat.zero_le _⟩ 0 rfl rfl rfl hl.1 rfl (Nat.le_of_ble_eq_true rfl) dL_cube_5 (fun H locs hp ho => ?_)
  refine lv_i2l hx hb dL_cube_8 rfl ?_
  refine stO X hp ho hDo (apS hap) dL_cube_9 (fun H locs hp ho => ?_)
  refine lv_goto (tgt := 25) hx hb dL_cube_10 (by decide) ?_
  refine lv_iconst (v := 0) hx hb dL_cube_25 (by decide) ?_
  exact hR _ _ _ _ _ _ _ _ _ dL_cube_26 (Nat.zero_le _) (Nat.zero_le _) hp ho rfl rfl rfl
set_option maxRecDepth 20000 in
set_option maxHeartbeats 4000000 in
theorem c_L_cube_x2 {l0 : Launch} (hl0 : l0.stackTraces = false) {D : va_G} {a : Nat → Nat} {cA : Nat → ClassId} {t ao : Nat} {σ : St} {f : Nat → Int64} {v1 : Int32} {v2 : Int32} {σ' : St} (h : X6_cube_t v1 v2 σ = some (2, σ')) : MetH l0 yL_cube cL_cube 5 [(0, 10, 13, 19), (0, 10, 17, 24), (0, 10, 21, 13)] 8 D a cA ao (ES t FX) [.ref (a 0), .int v1, .int v2, .ref ao] σ f 1 σ' f := by
  refine mkH (by decide) (Nat.le_of_ble_eq_true rfl) ?_
  intro p e R s m args below meth c A Q ls X hRc htab hap hDo hR hp ho hl
  obtain ⟨hx, hb, -, hown, hts, -⟩ := id X
  have hF : EOK FX := eokX
  have hl : lv_has ls 5 [(0, .ref (a 0)), (1, .int v1), (2, .int v2), (3, .ref ao)] := hl
  obtain ⟨-, -, -, -, -, -, hcast, hnc, -⟩ := X.2.2.2.2.2.2.2.2.1
  refine lv_aload_n hx hb dL_cube_0 rfl (lv_at hl 3 rfl) ?_
  refine lv_iconst (v := 0) hx hb dL_cube_1 (by decide) ?_
  refine lv_aload_n hx hb dL_cube_2 rfl (lv_at hl 0 rfl) ?_
  refine lv_iload_n hx hb dL_cube_3 rfl (lv_at hl 1 rfl) ?_
  refine lv_iload_n hx hb dL_cube_4 rfl (lv_at hl 2 rfl) ?_
  refine clX_i X hRc (eokS hF) (c_X6_cube_t hl0 h) tw_44_6 mw_X6_cube (by decide) hp ho hap 0 rfl rfl rfl hl.1 rfl (Nat.le_of_ble_eq_true rfl) dL_cube_5 (fun H locs q ex ce hp ho e1 h1 h2 h3 => ?_)
  refine xcatch (k := 2) X hcast ([] : List ExceptionTableEntry) (⟨0, 10, 13, 19⟩) (tableOf [(0, 10, 17, 24), (0, 10, 21, 13)]) (htab.trans rfl) (fun z hz => by cases hz) (by decide) (by decide) tw_8_20 (Or.inr (Or.inl rfl)) e1 h1 h2 h3 ?_
  refine lv_astore (lv' := [(4, .ref q), (0, .ref (a 0)), (1, .int v1), (2, .int v2), (3, .ref ao)]) hx hb dL_cube_13 hl (by decide) rfl (fun ls hl => ?_)
  refine lv_iconst (v := 1) hx hb dL_cube_15 (by decide) ?_
  exact hR _ _ _ _ _ _ _ _ _ dL_cube_16 (Nat.le_refl _) (Nat.le_refl _) hp ho rfl rfl rfl
set_option maxRecDepth 20000 in
set_option maxHeartbeats 4000000 in
theorem c_L_cube_x3 {l0 : Launch} (hl0 : l0.stackTraces = false) {D : va_G} {a : Nat → Nat} {cA : Nat → ClassId} {t ao : Nat} {σ : St} {f : Nat → Int64} {v1 : Int32} {v2 : Int32} {σ' : St} (h : X6_cube_t v1 v2 σ = some (3, σ')) : MetH l0 yL_cube cL_cube 5 [(0, 10, 13, 19), (0, 10, 17, 24), (0, 10, 21, 13)] 8 D a cA ao (ES t FX) [.ref (a 0), .int v1, .int v2, .ref ao] σ f 2 σ' f := by
  refine mkH (by decide) (Nat.le_of_ble_eq_true rfl) ?_
  intro p e R s m args below meth c A Q ls X hRc htab hap hDo hR hp ho hl
  obtain ⟨hx, hb, -, hown, hts, -⟩ := id X
  have hF : EOK FX := eokX
  have hl : lv_has ls 5 [(0, .ref (a 0)), (1, .int v1), (2, .int v2), (3, .ref ao)] := hl
  obtain ⟨-, -, -, -, -, -, hcast, hnc, -⟩ := X.2.2.2.2.2.2.2.2.1
  refine lv_aload_n hx hb dL_cube_0 rfl (lv_at hl 3 rfl) ?_
  refine lv_iconst (v := 0) hx hb dL_cube_1 (by decide) ?_
  refine lv_aload_n hx hb dL_cube_2 rfl (lv_at hl 0 rfl) ?_
  refine lv_iload_n hx hb dL_cube_3 rfl (lv_at hl 1 rfl) ?_
  refine lv_iload_n hx hb dL_cube_4 rfl (lv_at hl 2 rfl) ?_
  refine clX_i X hRc (eokS hF) (c_X6_cube_t hl0 h) tw_44_6 mw_X6_cube (by decide) hp ho hap 0 rfl rfl rfl hl.1 rfl (Nat.le_of_ble_eq_true rfl) dL_cube_5 (fun H locs q ex ce hp ho e1 h1 h2 h3 => ?_)
  refine xcatch (k := 3) X hcast ([⟨0, 10, 13, 19⟩] : List ExceptionTableEntry) (⟨0, 10, 17, 24⟩) (tableOf [(0, 10, 21, 13)]) (htab.trans rfl) (fun z hz => by obtain rfl := List.mem_singleton.mp hz; exact ⟨by decide, _, tw_8_20, by rw [e1]; exact hnc _ (List.mem_of_getElem? (i := 5) rfl)⟩) (by decide) (by decide) tw_12_12 (Or.inr (Or.inr rfl)) e1 h1 h2 h3 ?_
  refine lv_astore (lv' := [(4, .ref q), (0, .ref (a 0)), (1, .int v1), (2, .int v2), (3, .ref ao)]) hx hb dL_cube_17 hl (by decide) rfl (fun ls hl => ?_)
  refine lv_iconst (v := 2) hx hb dL_cube_19 (by decide) ?_
  exact hR _ _ _ _ _ _ _ _ _ dL_cube_20 (Nat.le_refl _) (Nat.le_refl _) hp ho rfl rfl rfl
set_option maxRecDepth 20000 in
set_option maxHeartbeats 4000000 in
theorem c_L_cube_x1 {l0 : Launch} (hl0 : l0.stackTraces = false) {D : va_G} {a : Nat → Nat} {cA : Nat → ClassId} {t ao : Nat} {σ : St} {f : Nat → Int64} {v1 : Int32} {v2 : Int32} {σ' : St} (h : X6_cube_t v1 v2 σ = some (1, σ')) : MetH l0 yL_cube cL_cube 5 [(0, 10, 13, 19), (0, 10, 17, 24), (0, 10, 21, 13)] 8 D a cA ao (ES t FX) [.ref (a 0), .int v1, .int v2, .ref ao] σ f 3 σ' f := by
  refine mkH (by decide) (Nat.le_of_ble_eq_true rfl) ?_
  intro p e R s m args below meth c A Q ls X hRc htab hap hDo hR hp ho hl
  obtain ⟨hx, hb, -, hown, hts, -⟩ := id X
  have hF : EOK FX := eokX
  have hl : lv_has ls 5 [(0, .ref (a 0)), (1, .int v1), (2, .int v2), (3, .ref ao)] := hl
  obtain ⟨-, -, -, -, -, -, hcast, hnc, -⟩ := X.2.2.2.2.2.2.2.2.1
  refine lv_aload_n hx hb dL_cube_0 rfl (lv_at hl 3 rfl) ?_
  refine lv_iconst (v := 0) hx hb dL_cube_1 (by decide) ?_
  refine lv_aload_n hx hb dL_cube_2 rfl (lv_at hl 0 rfl) ?_
  refine lv_iload_n hx hb dL_cube_3 rfl (lv_at hl 1 rfl) ?_
  refine lv_iload_n hx hb dL_cube_4 rfl (lv_at hl 2 rfl) ?_
  refine clX_i X hRc (eokS hF) (c_X6_cube_t hl0 h) tw_44_6 mw_X6_cube (by decide) hp ho hap 0 rfl rfl rfl hl.1 rfl (Nat.le_of_ble_eq_true rfl) dL_cube_5 (fun H locs q ex ce hp ho e1 h1 h2 h3 => ?_)
  refine xcatch (k := 1) X hcast ([⟨0, 10, 13, 19⟩, ⟨0, 10, 17, 24⟩] : List ExceptionTableEntry) (⟨0, 10, 21, 13⟩) (tableOf []) (htab.trans rfl) (fun z hz => (List.mem_cons.mp hz).elim (fun q9 => by rw [q9]; exact ⟨by decide, _, tw_8_20, by rw [e1]; exact hnc _ (List.mem_of_getElem? (i := 0) rfl)⟩) (fun hz => by obtain rfl := List.mem_singleton.mp hz; exact ⟨by decide, _, tw_12_12, by rw [e1]; exact hnc _ (List.mem_of_getElem? (i := 1) rfl)⟩)) (by decide) (by decide) tw_7_14 (Or.inl rfl) e1 h1 h2 h3 ?_
  refine lv_astore (lv' := [(4, .ref q), (0, .ref (a 0)), (1, .int v1), (2, .int v2), (3, .ref ao)]) hx hb dL_cube_21 hl (by decide) rfl (fun ls hl => ?_)
  refine lv_iconst (v := 3) hx hb dL_cube_23 (by decide) ?_
  exact hR _ _ _ _ _ _ _ _ _ dL_cube_24 (Nat.le_refl _) (Nat.le_refl _) hp ho rfl rfl rfl
set_option maxRecDepth 20000 in
set_option maxHeartbeats 4000000 in
theorem c_L_certificate {l : Launch} {D : va_G} {a : Nat → Nat} {cA : Nat → ClassId} {t ao : Nat} {σ : St} {f : Nat → Int64} {N : Nat} {r : Int64} {σ' : St} (h : X6_certificate N σ = some (r, σ')) : MetH l yL_certificate cL_certificate 3 [(0, 7, 10, 19)] 8 D a cA ao (ES t FX) [.ref (a 0), .ref ao] σ f 0 σ' (vp_updL f 0 r) := by
  refine mkH (by decide) (Nat.le_of_ble_eq_true rfl) ?_
  intro p e R s m args below meth c A Q ls X hRc htab hap hDo hR hp ho hl
  obtain ⟨hx, hb, -, hown, hts, -⟩ := id X
  have hF : EOK FX := eokX
  have hl : lv_has ls 3 [(0, .ref (a 0)), (1, .ref ao)] := hl
  refine lv_aload_n hx hb dL_certificate_0 rfl (lv_at hl 1 rfl) ?_
  refine lv_iconst (v := 0) hx hb dL_certificate_1 (by decide) ?_
  refine lv_aload_n hx hb dL_certificate_2 rfl (lv_at hl 0 rfl) ?_
  refine clR_l X (eokS hF) (c_X6_certificate hF h) tw_44_23 mw_X6_certificate (by decide) hp ho hap ⟨Nat.zero_le _, Nat.zero_le _⟩ 0 rfl rfl rfl hl.1 rfl (Nat.le_of_ble_eq_true rfl) dL_certificate_3 (fun H locs hp ho => ?_)
  refine stO X hp ho hDo (apS hap) dL_certificate_6 (fun H locs hp ho => ?_)
  refine lv_goto (tgt := 13) hx hb dL_certificate_7 (by decide) ?_
  refine lv_iconst (v := 0) hx hb dL_certificate_13 (by decide) ?_
  exact hR _ _ _ _ _ _ _ _ _ dL_certificate_14 (Nat.zero_le _) (Nat.zero_le _) hp ho rfl rfl rfl
set_option maxRecDepth 20000 in
set_option maxHeartbeats 4000000 in
theorem c_L_certificate_x2 {l0 : Launch} (hl0 : l0.stackTraces = false) {D : va_G} {a : Nat → Nat} {cA : Nat → ClassId} {t ao : Nat} {σ : St} {f : Nat → Int64} {σ' : St} (h : X6_certificate_t σ = some (2, σ')) : MetH l0 yL_certificate cL_certificate 3 [(0, 7, 10, 19)] 8 D a cA ao (ES t FX) [.ref (a 0), .ref ao] σ f 1 σ' f := by
  refine mkH (by decide) (Nat.le_of_ble_eq_true rfl) ?_
  intro p e R s m args below meth c A Q ls X hRc htab hap hDo hR hp ho hl
  obtain ⟨hx, hb, -, hown, hts, -⟩ := id X
  have hF : EOK FX := eokX
  have hl : lv_has ls 3 [(0, .ref (a 0)), (1, .ref ao)] := hl
  obtain ⟨-, -, -, -, -, -, hcast, hnc, -⟩ := X.2.2.2.2.2.2.2.2.1
  refine lv_aload_n hx hb dL_certificate_0 rfl (lv_at hl 1 rfl) ?_
  refine lv_iconst (v := 0) hx hb dL_certificate_1 (by decide) ?_
  refine lv_aload_n hx hb dL_certificate_2 rfl (lv_at hl 0 rfl) ?_
  refine clX_l X hRc (eokS hF) (c_X6_certificate_t hl0 h) tw_44_23 mw_X6_certificate (by decide) hp ho hap 0 rfl rfl rfl hl.1 rfl (Nat.le_of_ble_eq_true rfl) dL_certificate_3 (fun H locs q ex ce hp ho e1 h1 h2 h3 => ?_)
  refine xcatch (k := 2) X hcast ([] : List ExceptionTableEntry) (⟨0, 7, 10, 19⟩) (tableOf []) (htab.trans rfl) (fun z hz => by cases hz) (by decide) (by decide) tw_8_20 (Or.inr (Or.inl rfl)) e1 h1 h2 h3 ?_
  refine lv_astore_n (lv' := [(2, .ref q), (0, .ref (a 0)), (1, .ref ao)]) hx hb dL_certificate_10 rfl hl (by decide) rfl (fun ls hl => ?_)
  refine lv_iconst (v := 1) hx hb dL_certificate_11 (by decide) ?_
  exact hR _ _ _ _ _ _ _ _ _ dL_certificate_12 (Nat.le_refl _) (Nat.le_refl _) hp ho rfl rfl rfl
set_option maxRecDepth 20000 in
set_option maxHeartbeats 4000000 in
theorem c_L_shrunken {l : Launch} {D : va_G} {a : Nat → Nat} {cA : Nat → ClassId} {t ao : Nat} {σ : St} {f : Nat → Int64} {N : Nat} {r : Int32} {σ' : St} (h : X6_shrunken N σ = some (r, σ')) : MetH l yL_shrunken cL_shrunken 3 [(0, 8, 11, 19)] 8 D a cA ao (ES t FX) [.ref (a 0), .ref ao] σ f 0 σ' (vp_updL f 0 r.toInt64) := by
  refine mkH (by decide) (Nat.le_of_ble_eq_true rfl) ?_
  intro p e R s m args below meth c A Q ls X hRc htab hap hDo hR hp ho hl
  obtain ⟨hx, hb, -, hown, hts, -⟩ := id X
  have hF : EOK FX := eokX
  have hl : lv_has ls 3 [(0, .ref (a 0)), (1, .ref ao)] := hl
  refine lv_aload_n hx hb dL_shrunken_0 rfl (lv_at hl 1 rfl) ?_
  refine lv_iconst (v := 0) hx hb dL_shrunken_1 (by decide) ?_
  refine lv_aload_n hx hb dL_shrunken_2 rfl (lv_at hl 0 rfl) ?_
  refine clR_i X (eokS hF) (c_X6_shrunken hF h) tw_46_6 mw_X6_shrunken (by decide) hp ho hap ⟨Nat.zero_le _, Nat.zero_le _⟩ 0 rfl rfl rfl hl.1 rfl (Nat.le_of_ble_eq_true rfl) dL_shrunken_3 (fun H locs hp ho => ?_)
  refine lv_i2l hx hb dL_shrunken_6 rfl ?_
  refine stO X hp ho hDo (apS hap) dL_shrunken_7 (fun H locs hp ho => ?_)
  refine lv_goto (tgt := 14) hx hb dL_shrunken_8 (by decide) ?_
  refine lv_iconst (v := 0) hx hb dL_shrunken_14 (by decide) ?_
  exact hR _ _ _ _ _ _ _ _ _ dL_shrunken_15 (Nat.zero_le _) (Nat.zero_le _) hp ho rfl rfl rfl
set_option maxRecDepth 20000 in
set_option maxHeartbeats 4000000 in
theorem c_L_shrunken_x2 {l0 : Launch} (hl0 : l0.stackTraces = false) {D : va_G} {a : Nat → Nat} {cA : Nat → ClassId} {t ao : Nat} {σ : St} {f : Nat → Int64} {σ' : St} (h : X6_shrunken_t σ = some (2, σ')) : MetH l0 yL_shrunken cL_shrunken 3 [(0, 8, 11, 19)] 8 D a cA ao (ES t FX) [.ref (a 0), .ref ao] σ f 1 σ' f := by
  refine mkH (by decide) (Nat.le_of_ble_eq_true rfl) ?_
  intro p e R s m args below meth c A Q ls X hRc htab hap hDo hR hp ho hl
  obtain ⟨hx, hb, -, hown, hts, -⟩ := id X
  have hF : EOK FX := eokX
  have hl : lv_has ls 3 [(0, .ref (a 0)), (1, .ref ao)] := hl
  obtain ⟨-, -, -, -, -, -, hcast, hnc, -⟩ := X.2.2.2.2.2.2.2.2.1
  refine lv_aload_n hx hb dL_shrunken_0 rfl (lv_at hl 1 rfl) ?_
  refine lv_iconst (v := 0) hx hb dL_shrunken_1 (by decide) ?_
  refine lv_aload_n hx hb dL_shrunken_2 rfl (lv_at hl 0 rfl) ?_
  refine clX_i X hRc (eokS hF) (c_X6_shrunken_t hl0 h) tw_46_6 mw_X6_shrunken (by decide) hp ho hap 0 rfl rfl rfl hl.1 rfl (Nat.le_of_ble_eq_true rfl) dL_shrunken_3 (fun H locs q ex ce hp ho e1 h1 h2 h3 => ?_)
  refine xcatch (k := 2) X hcast ([] : List ExceptionTableEntry) (⟨0, 8, 11, 19⟩) (tableOf []) (htab.trans rfl) (fun z hz => by cases hz) (by decide) (by decide) tw_8_20 (Or.inr (Or.inl rfl)) e1 h1 h2 h3 ?_
  refine lv_astore_n (lv' := [(2, .ref q), (0, .ref (a 0)), (1, .ref ao)]) hx hb dL_shrunken_11 rfl hl (by decide) rfl (fun ls hl => ?_)
  refine lv_iconst (v := 1) hx hb dL_shrunken_12 (by decide) ?_
  exact hR _ _ _ _ _ _ _ _ _ dL_shrunken_13 (Nat.le_refl _) (Nat.le_refl _) hp ho rfl rfl rfl
set_option maxRecDepth 20000 in
set_option maxHeartbeats 4000000 in
theorem c_L_elimination {l : Launch} {D : va_G} {a : Nat → Nat} {cA : Nat → ClassId} {t ao : Nat} {σ : St} {f : Nat → Int64} {v1 : Int32} {N : Nat} {r : Int64} {σ' : St} (h : X6_elimination N v1 σ = some (r, σ')) : MetH l yL_elimination cL_elimination 4 [(0, 8, 11, 13)] 7 D a cA ao (ES t FX) [.ref (a 0), .int v1, .ref ao] σ f 0 σ' (vp_updL f 0 r) := by
  refine mkH (by decide) (Nat.le_of_ble_eq_true rfl) ?_
  intro p e R s m args below meth c A Q ls X hRc htab hap hDo hR hp ho hl
  obtain ⟨hx, hb, -, hown, hts, -⟩ := id X
  have hF : EOK FX := eokX
  have hl : lv_has ls 4 [(0, .ref (a 0)), (1, .int v1), (2, .ref ao)] := hl
  refine lv_aload_n hx hb dL_elimination_0 rfl (lv_at hl 2 rfl) ?_
  refine lv_iconst (v := 0) hx hb dL_elimination_1 (by decide) ?_
  refine lv_aload_n hx hb dL_elimination_2 rfl (lv_at hl 0 rfl) ?_
  refine lv_iload_n hx hb dL_elimination_3 rfl (lv_at hl 1 rfl) ?_
  refine clR_l X (eokS hF) (c_X6_elimination hF h) tw_49_6 mw_X6_elimination (by decide) hp ho hap ⟨Nat.zero_le _, Nat.zero_le _⟩ 0 rfl rfl rfl hl.1 rfl (Nat.le_of_ble_eq_true rfl) dL_elimination_4 (fun H locs hp ho => ?_)
  refine stO X hp ho hDo (apS hap) dL_elimination_7 (fun H locs hp ho => ?_)
  refine lv_goto (tgt := 14) hx hb dL_elimination_8 (by decide) ?_
  refine lv_iconst (v := 0) hx hb dL_elimination_14 (by decide) ?_
  exact hR _ _ _ _ _ _ _ _ _ dL_elimination_15 (Nat.zero_le _) (Nat.zero_le _) hp ho rfl rfl rfl
set_option maxRecDepth 20000 in
set_option maxHeartbeats 4000000 in
theorem c_L_elimination_x1 {l0 : Launch} (hl0 : l0.stackTraces = false) {D : va_G} {a : Nat → Nat} {cA : Nat → ClassId} {t ao : Nat} {σ : St} {f : Nat → Int64} {v1 : Int32} {σ' : St} (h : X6_elimination_t v1 σ = some (1, σ')) : MetH l0 yL_elimination cL_elimination 4 [(0, 8, 11, 13)] 7 D a cA ao (ES t FX) [.ref (a 0), .int v1, .ref ao] σ f 1 σ' f := by
  refine mkH (by decide) (Nat.le_of_ble_eq_true rfl) ?_
  intro p e R s m args below meth c A Q ls X hRc htab hap hDo hR hp ho hl
  obtain ⟨hx, hb, -, hown, hts, -⟩ := id X
  have hF : EOK FX := eokX
  have hl : lv_has ls 4 [(0, .ref (a 0)), (1, .int v1), (2, .ref ao)] := hl
  obtain ⟨-, -, -, -, -, -, hcast, hnc, -⟩ := X.2.2.2.2.2.2.2.2.1
  refine lv_aload_n hx hb dL_elimination_0 rfl (lv_at hl 2 rfl) ?_
  refine lv_iconst (v := 0) hx hb dL_elimination_1 (by decide) ?_
  refine lv_aload_n hx hb dL_elimination_2 rfl (lv_at hl 0 rfl) ?_
  refine lv_iload_n hx hb dL_elimination_3 rfl (lv_at hl 1 rfl) ?_
  refine clX_l X hRc (eokS hF) (c_X6_elimination_t hl0 h) tw_49_6 mw_X6_elimination (by decide) hp ho hap 0 rfl rfl rfl hl.1 rfl (Nat.le_of_ble_eq_true rfl) dL_elimination_4 (fun H locs q ex ce hp ho e1 h1 h2 h3 => ?_)
  refine xcatch (k := 1) X hcast ([] : List ExceptionTableEntry) (⟨0, 8, 11, 13⟩) (tableOf []) (htab.trans rfl) (fun z hz => by cases hz) (by decide) (by decide) tw_7_14 (Or.inl rfl) e1 h1 h2 h3 ?_
  refine lv_astore_n (lv' := [(3, .ref q), (0, .ref (a 0)), (1, .int v1), (2, .ref ao)]) hx hb dL_elimination_11 rfl hl (by decide) rfl (fun ls hl => ?_)
  refine lv_iconst (v := 1) hx hb dL_elimination_12 (by decide) ?_
  exact hR _ _ _ _ _ _ _ _ _ dL_elimination_13 (Nat.le_refl _) (Nat.le_refl _) hp ho rfl rfl rfl
set_option maxRecDepth 20000 in
set_option maxHeartbeats 4000000 in
theorem c_L_isSafeWithFree {l : Launch} {D : va_G} {a : Nat → Nat} {cA : Nat → ClassId} {t ao : Nat} {σ : St} {f : Nat → Int64} {v1 : Int32} {N : Nat} {r : Int32} {σ' : St} (h : X6_isSafeWithFree N v1 σ = some (r, σ')) : MetH l yL_isSafeWithFree cL_isSafeWithFree 4 [(0, 16, 19, 13)] 7 D a cA ao (ES t FX) [.ref (a 0), .int v1, .ref ao] σ f 0 σ' (vp_updL f 0 (if r = 0 then (0 : Int64) else 1)) := by
  refine mkH (by decide) (Nat.le_of_ble_eq_true rfl) ?_
  intro p e R s m args below meth c A Q ls X hRc htab hap hDo hR hp ho hl
  obtain ⟨hx, hb, -, hown, hts, -⟩ := id X
  have hF : EOK FX := eokX
  have hl : lv_has ls 4 [(0, .ref (a 0)), (1, .int v1), (2, .ref ao)] := hl
  refine lv_aload_n hx hb dL_isSafeWithFree_0 rfl (lv_at hl 2 rfl) ?_
  refine lv_iconst (v := 0) hx hb dL_isSafeWithFree_1 (by decide) ?_
  refine lv_aload_n hx hb dL_isSafeWithFree_2 rfl (lv_at hl 0 rfl) ?_
  refine lv_iload_n hx hb dL_isSafeWithFree_3 rfl (lv_at hl 1 rfl) ?_
  refine clR_i X (eokS hF) (c_X6_isSafeWithFree hF h) tw_51_20 mw_X6_isSafeWithFree (by decide) hp ho hap ⟨Nat.zero_le _, Nat.zero_le _⟩ 0 rfl rfl rfl hl.1 rfl (Nat.le_of_ble_eq_true rfl) dL_isSafeWithFree_4 (fun H locs hp ho => ?_)
  refine lv_if_eq (tgt := 14) hx hb dL_isSafeWithFree_7 (by decide) (fun c1 => ?_) (fun c1 => ?_)
  · refine lv_lconst (v := 0) hx hb dL_isSafeWithFree_14 (by decide) ?_
    refine stO X hp ho hDo (apS hap) dL_isSafeWithFree_15 (fun H locs hp ho => ?_)
    refine lv_goto (tgt := 22) hx hb dL_isSafeWithFree_16 (by decide) ?_
    refine lv_iconst (v := 0) hx hb dL_isSafeWithFree_22 (by decide) ?_
    exact hR _ _ _ _ _ _ _ _ _ dL_isSafeWithFree_23 (Nat.zero_le _) (Nat.zero_le _) hp ho rfl rfl (by rw [if_pos c1])
  · refine lv_lconst (v := 1) hx hb dL_isSafeWithFree_10 (by decide) ?_
    refine lv_goto (tgt := 15) hx hb dL_isSafeWithFree_11 (by decide) ?_
    refine stO X hp ho hDo (apS hap) dL_isSafeWithFree_15 (fun H locs hp ho => ?_)
    refine lv_goto (tgt := 22) hx hb dL_isSafeWithFree_16 (by decide) ?_
    refine lv_iconst (v := 0) hx hb dL_isSafeWithFree_22 (by decide) ?_
    exact hR _ _ _ _ _ _ _ _ _ dL_isSafeWithFree_23 (Nat.zero_le _) (Nat.zero_le _) hp ho rfl rfl (by rw [if_neg c1])
set_option maxRecDepth 20000 in
set_option maxHeartbeats 4000000 in
theorem c_L_isSafeWithFree_x1 {l0 : Launch} (hl0 : l0.stackTraces = false) {D : va_G} {a : Nat → Nat} {cA : Nat → ClassId} {t ao : Nat} {σ : St} {f : Nat → Int64} {v1 : Int32} {σ' : St} (h : X6_isSafeWithFree_t v1 σ = some (1, σ')) : MetH l0 yL_isSafeWithFree cL_isSafeWithFree 4 [(0, 16, 19, 13)] 7 D a cA ao (ES t FX) [.ref (a 0), .int v1, .ref ao] σ f 1 σ' f := by
  refine mkH (by decide) (Nat.le_of_ble_eq_true rfl) ?_
  intro p e R s m args below meth c A Q ls X hRc htab hap hDo hR hp ho hl
  obtain ⟨hx, hb, -, hown, hts, -⟩ := id X
  have hF : EOK FX := eokX
  have hl : lv_has ls 4 [(0, .ref (a 0)), (1, .int v1), (2, .ref ao)] := hl
  obtain ⟨-, -, -, -, -, -, hcast, hnc, -⟩ := X.2.2.2.2.2.2.2.2.1
  refine lv_aload_n hx hb dL_isSafeWithFree_0 rfl (lv_at hl 2 rfl) ?_
  refine lv_iconst (v := 0) hx hb dL_isSafeWithFree_1 (by decide) ?_
  refine lv_aload_n hx hb dL_isSafeWithFree_2 rfl (lv_at hl 0 rfl) ?_
  refine lv_iload_n hx hb dL_isSafeWithFree_3 rfl (lv_at hl 1 rfl) ?_
  refine clX_i X hRc (eokS hF) (c_X6_isSafeWithFree_t hl0 h) tw_51_20 mw_X6_isSafeWithFree (by decide) hp ho hap 0 rfl rfl rfl hl.1 rfl (Nat.le_of_ble_eq_true rfl) dL_isSafeWithFree_4 (fun H locs q ex ce hp ho e1 h1 h2 h3 => ?_)
  refine xcatch (k := 1) X hcast ([] : List ExceptionTableEntry) (⟨0, 16, 19, 13⟩) (tableOf []) (htab.trans rfl) (fun z hz => by cases hz) (by decide) (by decide) tw_7_14 (Or.inl rfl) e1 h1 h2 h3 ?_
  refine lv_astore_n (lv' := [(3, .ref q), (0, .ref (a 0)), (1, .int v1), (2, .ref ao)]) hx hb dL_isSafeWithFree_19 rfl hl (by decide) rfl (fun ls hl => ?_)
  refine lv_iconst (v := 1) hx hb dL_isSafeWithFree_20 (by decide) ?_
  exact hR _ _ _ _ _ _ _ _ _ dL_isSafeWithFree_21 (Nat.le_refl _) (Nat.le_refl _) hp ho rfl rfl rfl
set_option maxRecDepth 20000 in
set_option maxHeartbeats 4000000 in
theorem c_L_simulate {l : Launch} {D : va_G} {a : Nat → Nat} {cA : Nat → ClassId} {t ao : Nat} {σ : St} {f : Nat → Int64} {v1 : Int32} {v2 : Int32} {v3 : Int32} {N : Nat} {r : Int32} (h : X6_simulate N σ v1 v2 v3 = some r) : MetH l yL_simulate cL_simulate 6 [(0, 12, 15, 13), (0, 12, 19, 19)] 7 D a cA ao (ES t FX) [.ref (a 0), .int v1, .int v2, .int v3, .ref ao] σ f 0 σ (vp_updL f 0 r.toInt64) := by
  refine mkH (by decide) (Nat.le_of_ble_eq_true rfl) ?_
  intro p e R s m args below meth c A Q ls X hRc htab hap hDo hR hp ho hl
  obtain ⟨hx, hb, -, hown, hts, -⟩ := id X
  have hF : EOK FX := eokX
  have hl : lv_has ls 6 [(0, .ref (a 0)), (1, .int v1), (2, .int v2), (3, .int v3), (4, .ref ao)] := hl
  refine lv_aload hx hb dL_simulate_0 (lv_at hl 4 rfl) ?_
  refine lv_iconst (v := 0) hx hb dL_simulate_2 (by decide) ?_
  refine lv_aload_n hx hb dL_simulate_3 rfl (lv_at hl 0 rfl) ?_
  refine lv_iload_n hx hb dL_simulate_4 rfl (lv_at hl 1 rfl) ?_
  refine lv_iload_n hx hb dL_simulate_5 rfl (lv_at hl 2 rfl) ?_
  refine lv_iload_n hx hb dL_simulate_6 rfl (lv_at hl 3 rfl) ?_
  refine clR_i X (eokS hF) (c_X6_simulate hF h) tw_53_13 mw_X6_simulate (by decide) hp ho hap ⟨Nat.zero_le _, Nat.zero_le _⟩ 0 rfl rfl rfl hl.1 rfl (Nat.le_of_ble_eq_true rfl) dL_simulate_7 (fun H locs hp ho => ?_)
  refine lv_i2l hx hb dL_simulate_10 rfl ?_
  refine stO X hp ho hDo (apS hap) dL_simulate_11 (fun H locs hp ho => ?_)
  refine lv_goto (tgt := 23) hx hb dL_simulate_12 (by decide) ?_
  refine lv_iconst (v := 0) hx hb dL_simulate_23 (by decide) ?_
  exact hR _ _ _ _ _ _ _ _ _ dL_simulate_24 (Nat.zero_le _) (Nat.zero_le _) hp ho rfl rfl rfl
set_option maxRecDepth 20000 in
set_option maxHeartbeats 4000000 in
theorem c_L_simulate_x1 {l0 : Launch} (hl0 : l0.stackTraces = false) {D : va_G} {a : Nat → Nat} {cA : Nat → ClassId} {t ao : Nat} {σ : St} {f : Nat → Int64} {v1 : Int32} {v2 : Int32} {v3 : Int32} {σ' : St} (h : X6_simulate_t σ v1 v2 v3 = some (1, σ')) : MetH l0 yL_simulate cL_simulate 6 [(0, 12, 15, 13), (0, 12, 19, 19)] 7 D a cA ao (ES t FX) [.ref (a 0), .int v1, .int v2, .int v3, .ref ao] σ f 1 σ' f := by
  refine mkH (by decide) (Nat.le_of_ble_eq_true rfl) ?_
  intro p e R s m args below meth c A Q ls X hRc htab hap hDo hR hp ho hl
  obtain ⟨hx, hb, -, hown, hts, -⟩ := id X
  have hF : EOK FX := eokX
  have hl : lv_has ls 6 [(0, .ref (a 0)), (1, .int v1), (2, .int v2), (3, .int v3), (4, .ref ao)] := hl
  obtain ⟨-, -, -, -, -, -, hcast, hnc, -⟩ := X.2.2.2.2.2.2.2.2.1
  refine lv_aload hx hb dL_simulate_0 (lv_at hl 4 rfl) ?_
  refine lv_iconst (v := 0) hx hb dL_simulate_2 (by decide) ?_
  refine lv_aload_n hx hb dL_simulate_3 rfl (lv_at hl 0 rfl) ?_
  refine lv_iload_n hx hb dL_simulate_4 rfl (lv_at hl 1 rfl) ?_
  refine lv_iload_n hx hb dL_simulate_5 rfl (lv_at hl 2 rfl) ?_
  refine lv_iload_n hx hb dL_simulate_6 rfl (lv_at hl 3 rfl) ?_
  refine clX_i X hRc (eokS hF) (c_X6_simulate_t hl0 h) tw_53_13 mw_X6_simulate (by decide) hp ho hap 0 rfl rfl rfl hl.1 rfl (Nat.le_of_ble_eq_true rfl) dL_simulate_7 (fun H locs q ex ce hp ho e1 h1 h2 h3 => ?_)
  refine xcatch (k := 1) X hcast ([] : List ExceptionTableEntry) (⟨0, 12, 15, 13⟩) (tableOf [(0, 12, 19, 19)]) (htab.trans rfl) (fun z hz => by cases hz) (by decide) (by decide) tw_7_14 (Or.inl rfl) e1 h1 h2 h3 ?_
  refine lv_astore (lv' := [(5, .ref q), (0, .ref (a 0)), (1, .int v1), (2, .int v2), (3, .int v3), (4, .ref ao)]) hx hb dL_simulate_15 hl (by decide) rfl (fun ls hl => ?_)
  refine lv_iconst (v := 1) hx hb dL_simulate_17 (by decide) ?_
  exact hR _ _ _ _ _ _ _ _ _ dL_simulate_18 (Nat.le_refl _) (Nat.le_refl _) hp ho rfl rfl rfl
set_option maxRecDepth 20000 in
set_option maxHeartbeats 4000000 in
theorem c_L_simulate_x2 {l0 : Launch} (hl0 : l0.stackTraces = false) {D : va_G} {a : Nat → Nat} {cA : Nat → ClassId} {t ao : Nat} {σ : St} {f : Nat → Int64} {v1 : Int32} {v2 : Int32} {v3 : Int32} {σ' : St} (h : X6_simulate_t σ v1 v2 v3 = some (2, σ')) : MetH l0 yL_simulate cL_simulate 6 [(0, 12, 15, 13), (0, 12, 19, 19)] 7 D a cA ao (ES t FX) [.ref (a 0), .int v1, .int v2, .int v3, .ref ao] σ f 2 σ' f := by
  refine mkH (by decide) (Nat.le_of_ble_eq_true rfl) ?_
  intro p e R s m args below meth c A Q ls X hRc htab hap hDo hR hp ho hl
  obtain ⟨hx, hb, -, hown, hts, -⟩ := id X
  have hF : EOK FX := eokX
  have hl : lv_has ls 6 [(0, .ref (a 0)), (1, .int v1), (2, .int v2), (3, .int v3), (4, .ref ao)] := hl
  obtain ⟨-, -, -, -, -, -, hcast, hnc, -⟩ := X.2.2.2.2.2.2.2.2.1
  refine lv_aload hx hb dL_simulate_0 (lv_at hl 4 rfl) ?_
  refine lv_iconst (v := 0) hx hb dL_simulate_2 (by decide) ?_
  refine lv_aload_n hx hb dL_simulate_3 rfl (lv_at hl 0 rfl) ?_
  refine lv_iload_n hx hb dL_simulate_4 rfl (lv_at hl 1 rfl) ?_
  refine lv_iload_n hx hb dL_simulate_5 rfl (lv_at hl 2 rfl) ?_
  refine lv_iload_n hx hb dL_simulate_6 rfl (lv_at hl 3 rfl) ?_
  refine clX_i X hRc (eokS hF) (c_X6_simulate_t hl0 h) tw_53_13 mw_X6_simulate (by decide) hp ho hap 0 rfl rfl rfl hl.1 rfl (Nat.le_of_ble_eq_true rfl) dL_simulate_7 (fun H locs q ex ce hp ho e1 h1 h2 h3 => ?_)
  refine xcatch (k := 2) X hcast ([⟨0, 12, 15, 13⟩] : List ExceptionTableEntry) (⟨0, 12, 19, 19⟩) (tableOf []) (htab.trans rfl) (fun z hz => by obtain rfl := List.mem_singleton.mp hz; exact ⟨by decide, _, tw_7_14, by rw [e1]; exact hnc _ (List.mem_of_getElem? (i := 2) rfl)⟩) (by decide) (by decide) tw_8_20 (Or.inr (Or.inl rfl)) e1 h1 h2 h3 ?_
  refine lv_astore (lv' := [(5, .ref q), (0, .ref (a 0)), (1, .int v1), (2, .int v2), (3, .int v3), (4, .ref ao)]) hx hb dL_simulate_19 hl (by decide) rfl (fun ls hl => ?_)
  refine lv_iconst (v := 2) hx hb dL_simulate_21 (by decide) ?_
  exact hR _ _ _ _ _ _ _ _ _ dL_simulate_22 (Nat.le_refl _) (Nat.le_refl _) hp ho rfl rfl rfl
