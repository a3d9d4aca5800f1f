set_option maxRecDepth 20000 in
set_option maxHeartbeats 4000000 in
theorem law_begin {p : Program} {l : Launch} {e : Env} {R : Room} {s : State} {m : MethodId} {args : Array Value} {below : List Frame} {meth : Method} {c : Code} {H : Heap} {locs : List Loc} {Q : State → Prop} {D : va_G} {a bm : Nat → Nat} {cA : Nat → ClassId} {t ao b L : Nat} {xs : Nat → Int32} {A : Nat → Prop} {σ τ : St} {cells slots N : Nat} {ls : Array Slot} {f : Nat → Int64} {Rel : St → St → Prop} {x4 : Int32} (hl0 : l.stackTraces = false) (X : LC p R s m args c b L xs D a bm cA ao t A) (hop : Op_begin N Rel σ τ) (hp : PL D a bm cA ao A s.heap H locs σ τ f) (hi1 : vp_in (x4 + 1) L) (hi2 : vp_in (x4 + 2) L) (hl : lv_has ls 8 [(0, .ref b), (1, .ref (a 0)), (2, .ref (bm 0)), (3, .ref ao), (4, .int x4)]) (hce : cells + 1 ≤ R.cells ∧ slots + 6 ≤ R.slots)
    (kk : ∀ (σ' τ' : St) (f' : Nat → Int64) (H : Heap) (locs : List Loc) (ls : Array Slot), Rel σ' τ' → PL D a bm cA ao A s.heap H locs σ' τ' f' → lv_has ls 8 [(0, .ref b), (1, .ref (a 0)), (2, .ref (bm 0)), (3, .ref ao), (4, .int x4)] → W p l e R s m args below meth c H locs (cells + 1) (slots + 6) Q (F0 m 1505 ls [])) : W p l e R s m args below meth c H locs cells slots Q (F0 m 164 ls []) := by
  obtain ⟨hx, hb, -⟩ := id X.1
  obtain ⟨bb, τ1, hy, hor⟩ := hop (xs (x4 + 1).toNatClampNeg) (xs (x4 + 2).toNatClampNeg)
  rcases hor with ⟨σ1, hxs, e0, hrel⟩ | ⟨k, cc, σ1, hk, hxt, e0, hrel⟩
  · refine lv_aload_n hx hb dL_law_164 rfl (lv_at hl 1 rfl) ?_
    refine lv_aload_n hx hb dL_law_165 rfl (lv_at hl 0 rfl) ?_
    refine lv_iload hx hb dL_law_166 (lv_at hl 4 rfl) ?_
    refine lv_iconst (v := 1) hx hb dL_law_168 (by decide) ?_
    refine lv_iadd hx hb dL_law_169 ?_
    refine L_ld X hp hi1 dL_law_170 ?_
    refine lv_aload_n hx hb dL_law_171 rfl (lv_at hl 0 rfl) ?_
    refine lv_iload hx hb dL_law_172 (lv_at hl 4 rfl) ?_
    refine lv_iconst (v := 2) hx hb dL_law_174 (by decide) ?_
    refine lv_iadd hx hb dL_law_175 ?_
    refine L_ld X hp hi2 dL_law_176 ?_
    refine lv_aload_n hx hb dL_law_177 rfl (lv_at hl 3 rfl) ?_
    refine L_H X (c_L_begin hxs) tw_7_10 tw_7_11 tw_7_12 tw_7_13 hdd_L_begin (by decide) (by decide) hp hce hl.1 rfl (Nat.le_of_ble_eq_true rfl) dL_law_178 (fun H locs hp => ?_)
    refine lv_istore (lv' := [(5, .int 0), (0, .ref b), (1, .ref (a 0)), (2, .ref (bm 0)), (3, .ref ao), (4, .int x4)]) hx hb dL_law_181 hl (by decide) rfl (fun ls hl => ?_)
    refine lv_aload_n hx hb dL_law_183 rfl (lv_at hl 3 rfl) ?_
    refine lv_aload_n hx hb dL_law_184 rfl (lv_at hl 1 rfl) ?_
    refine lv_iload hx hb dL_law_185 (lv_at hl 5 rfl) ?_
    refine lv_iconst (v := 1) hx hb dL_law_187 (by decide) ?_
    refine lv_iadd hx hb dL_law_188 ?_
    refine L_ld X hp hi1 dL_law_189 ?_
    refine lv_aload_n hx hb dL_law_190 rfl (lv_at hl 1 rfl) ?_
    refine lv_iload hx hb dL_law_191 (lv_at hl 5 rfl) ?_
    refine lv_iconst (v := 2) hx hb dL_law_193 (by decide) ?_
    refine lv_iadd hx hb dL_law_194 ?_
    refine L_ld X hp hi2 dL_law_195 ?_
    refine L_Mi X (c_X7_begin hy) tw_8_5 mw_X7_begin (by decide) hp hce rfl rfl rfl hl.1 rfl (Nat.le_of_ble_eq_true rfl) dL_law_196 (fun H locs hp => ?_)
    refine lv_istore (lv' := [(6, .int bb), (5, .int 0), (0, .ref b), (1, .ref (a 0)), (2, .ref (bm 0)), (3, .ref ao), (4, .int x4)]) hx hb dL_law_199 hl (by decide) rfl (fun ls hl => ?_)
    refine lv_aload_n hx hb dL_law_201 rfl (lv_at hl 4 rfl) ?_
    refine L_Mi X (c_X7_thrown (r := τ1.1 0) rfl) tw_8_13 mw_X7_thrown (by decide) hp hce rfl rfl rfl hl.1 rfl (Nat.le_of_ble_eq_true rfl) dL_law_202 (fun H locs hp => ?_)
    refine lv_iload hx hb dL_law_205 (lv_at hl 1 rfl) ?_
    refine lv_icmp_eq (tgt := 212) hx hb dL_law_207 (by decide) (fun c1 => ?_) (fun c1 => absurd e0 c1)
    refine lv_iload hx hb dL_law_212 (lv_at hl 1 rfl) ?_
    refine lv_if_ne (tgt := 229) hx hb dL_law_214 (by decide) (fun c2 => absurd rfl c2) (fun c2 => ?_)
    refine lv_aload_n hx hb dL_law_217 rfl (lv_at hl 5 rfl) ?_
    refine lv_iconst (v := 0) hx hb dL_law_218 (by decide) ?_
    refine L_out X hp dL_law_219 ?_
    refine lv_iload hx hb dL_law_220 (lv_at hl 0 rfl) ?_
    refine lv_i2l hx hb dL_law_222 rfl ?_
    refine W.lcmp hx hb dL_law_223 ?_
    refine lv_if_eq (tgt := 229) hx hb dL_law_224 (by decide) (fun c3 => ?_) (fun c3 => absurd (lcmp0.mpr (show vp_updL f 0 bb.toInt64 0 = bb.toInt64 from if_pos rfl)) c3)
    refine lv_goto (tgt := 1505) hx hb dL_law_229 (by decide) ?_
    exact kk _ _ _ _ _ _ hrel hp (lv_sub hl [2, 3, 4, 5, 6] rfl)
  · rcases hk with ⟨rfl, rfl⟩
    refine lv_aload_n hx hb dL_law_164 rfl (lv_at hl 1 rfl) ?_
    refine lv_aload_n hx hb dL_law_165 rfl (lv_at hl 0 rfl) ?_
    refine lv_iload hx hb dL_law_166 (lv_at hl 4 rfl) ?_
    refine lv_iconst (v := 1) hx hb dL_law_168 (by decide) ?_
    refine lv_iadd hx hb dL_law_169 ?_
    refine L_ld X hp hi1 dL_law_170 ?_
    refine lv_aload_n hx hb dL_law_171 rfl (lv_at hl 0 rfl) ?_
    refine lv_iload hx hb dL_law_172 (lv_at hl 4 rfl) ?_
    refine lv_iconst (v := 2) hx hb dL_law_174 (by decide) ?_
    refine lv_iadd hx hb dL_law_175 ?_
    refine L_ld X hp hi2 dL_law_176 ?_
    refine lv_aload_n hx hb dL_law_177 rfl (lv_at hl 3 rfl) ?_
    refine L_H X (c_L_begin_x1 hl0 hxt) tw_7_10 tw_7_11 tw_7_12 tw_7_13 hdd_L_begin (by decide) (by decide) hp hce hl.1 rfl (Nat.le_of_ble_eq_true rfl) dL_law_178 (fun H locs hp => ?_)
    refine lv_istore (lv' := [(5, .int 1), (0, .ref b), (1, .ref (a 0)), (2, .ref (bm 0)), (3, .ref ao), (4, .int x4)]) hx hb dL_law_181 hl (by decide) rfl (fun ls hl => ?_)
    refine lv_aload_n hx hb dL_law_183 rfl (lv_at hl 3 rfl) ?_
    refine lv_aload_n hx hb dL_law_184 rfl (lv_at hl 1 rfl) ?_
    refine lv_iload hx hb dL_law_185 (lv_at hl 5 rfl) ?_
    refine lv_iconst (v := 1) hx hb dL_law_187 (by decide) ?_
    refine lv_iadd hx hb dL_law_188 ?_
    refine L_ld X hp hi1 dL_law_189 ?_
    refine lv_aload_n hx hb dL_law_190 rfl (lv_at hl 1 rfl) ?_
    refine lv_iload hx hb dL_law_191 (lv_at hl 5 rfl) ?_
    refine lv_iconst (v := 2) hx hb dL_law_193 (by decide) ?_
    refine lv_iadd hx hb dL_law_194 ?_
    refine L_ld X hp hi2 dL_law_195 ?_
    refine L_Mi X (c_X7_begin hy) tw_8_5 mw_X7_begin (by decide) hp hce rfl rfl rfl hl.1 rfl (Nat.le_of_ble_eq_true rfl) dL_law_196 (fun H locs hp => ?_)
    refine lv_istore (lv' := [(6, .int bb), (5, .int 1), (0, .ref b), (1, .ref (a 0)), (2, .ref (bm 0)), (3, .ref ao), (4, .int x4)]) hx hb dL_law_199 hl (by decide) rfl (fun ls hl => ?_)
    refine lv_aload_n hx hb dL_law_201 rfl (lv_at hl 4 rfl) ?_
    refine L_Mi X (c_X7_thrown (r := τ1.1 0) rfl) tw_8_13 mw_X7_thrown (by decide) hp hce rfl rfl rfl hl.1 rfl (Nat.le_of_ble_eq_true rfl) dL_law_202 (fun H locs hp => ?_)
    refine lv_iload hx hb dL_law_205 (lv_at hl 1 rfl) ?_
    refine lv_icmp_eq (tgt := 212) hx hb dL_law_207 (by decide) (fun c1 => ?_) (fun c1 => absurd e0 c1)
    refine lv_iload hx hb dL_law_212 (lv_at hl 1 rfl) ?_
    refine lv_if_ne (tgt := 229) hx hb dL_law_214 (by decide) (fun c2 => ?_) (fun c2 => absurd c2 (by decide))
    refine lv_goto (tgt := 1505) hx hb dL_law_229 (by decide) ?_
    exact kk _ _ _ _ _ _ hrel hp (lv_sub hl [2, 3, 4, 5, 6] rfl)
set_option maxRecDepth 20000 in
set_option maxHeartbeats 4000000 in
theorem law_append {p : Program} {l : Launch} {e : Env} {R : Room} {s : State} {m : MethodId} {args : Array Value} {below : List Frame} {meth : Method} {c : Code} {H : Heap} {locs : List Loc} {Q : State → Prop} {D : va_G} {a bm : Nat → Nat} {cA : Nat → ClassId} {t ao b L : Nat} {xs : Nat → Int32} {A : Nat → Prop} {σ τ : St} {cells slots N : Nat} {ls : Array Slot} {f : Nat → Int64} {Rel : St → St → Prop} {x4 : Int32} (hl0 : l.stackTraces = false) (X : LC p R s m args c b L xs D a bm cA ao t A) (hop : Op_append N Rel σ τ) (hp : PL D a bm cA ao A s.heap H locs σ τ f) (hi1 : vp_in (x4 + 1) L) (hl : lv_has ls 8 [(0, .ref b), (1, .ref (a 0)), (2, .ref (bm 0)), (3, .ref ao), (4, .int x4)]) (hce : cells + 1 ≤ R.cells ∧ slots + 6 ≤ R.slots)
    (kk : ∀ (σ' τ' : St) (f' : Nat → Int64) (H : Heap) (locs : List Loc) (ls : Array Slot), Rel σ' τ' → PL D a bm cA ao A s.heap H locs σ' τ' f' → lv_has ls 8 [(0, .ref b), (1, .ref (a 0)), (2, .ref (bm 0)), (3, .ref ao), (4, .int x4)] → W p l e R s m args below meth c H locs (cells + 1) (slots + 6) Q (F0 m 1505 ls [])) : W p l e R s m args below meth c H locs cells slots Q (F0 m 232 ls []) := by
  obtain ⟨hx, hb, -⟩ := id X.1
  obtain ⟨bb, τ1, hy, hor⟩ := hop (xs (x4 + 1).toNatClampNeg)
  rcases hor with ⟨σ1, hxs, e0, hrel⟩ | ⟨k, cc, σ1, hk, hxt, e0, hrel⟩
  · refine lv_aload_n hx hb dL_law_232 rfl (lv_at hl 1 rfl) ?_
    refine lv_aload_n hx hb dL_law_233 rfl (lv_at hl 0 rfl) ?_
    refine lv_iload hx hb dL_law_234 (lv_at hl 4 rfl) ?_
    refine lv_iconst (v := 1) hx hb dL_law_236 (by decide) ?_
    refine lv_iadd hx hb dL_law_237 ?_
    refine L_ld X hp hi1 dL_law_238 ?_
    refine lv_aload_n hx hb dL_law_239 rfl (lv_at hl 3 rfl) ?_
    refine L_H X (c_L_append hxs) tw_8_17 tw_8_18 tw_7_12 tw_8_19 hdd_L_append (by decide) (by decide) hp hce hl.1 rfl (Nat.le_of_ble_eq_true rfl) dL_law_240 (fun H locs hp => ?_)
    refine lv_istore (lv' := [(5, .int 0), (0, .ref b), (1, .ref (a 0)), (2, .ref (bm 0)), (3, .ref ao), (4, .int x4)]) hx hb dL_law_243 hl (by decide) rfl (fun ls hl => ?_)
    refine lv_aload_n hx hb dL_law_245 rfl (lv_at hl 3 rfl) ?_
    refine lv_aload_n hx hb dL_law_246 rfl (lv_at hl 1 rfl) ?_
    refine lv_iload hx hb dL_law_247 (lv_at hl 5 rfl) ?_
    refine lv_iconst (v := 1) hx hb dL_law_249 (by decide) ?_
    refine lv_iadd hx hb dL_law_250 ?_
    refine L_ld X hp hi1 dL_law_251 ?_
    refine L_Mi X (c_X7_append hy) tw_9_13 mw_X7_append (by decide) hp hce rfl rfl rfl hl.1 rfl (Nat.le_of_ble_eq_true rfl) dL_law_252 (fun H locs hp => ?_)
    refine lv_istore (lv' := [(6, .int bb), (5, .int 0), (0, .ref b), (1, .ref (a 0)), (2, .ref (bm 0)), (3, .ref ao), (4, .int x4)]) hx hb dL_law_255 hl (by decide) rfl (fun ls hl => ?_)
    refine lv_aload_n hx hb dL_law_257 rfl (lv_at hl 4 rfl) ?_
    refine L_Mi X (c_X7_thrown (r := τ1.1 0) rfl) tw_8_13 mw_X7_thrown (by decide) hp hce rfl rfl rfl hl.1 rfl (Nat.le_of_ble_eq_true rfl) dL_law_258 (fun H locs hp => ?_)
    refine lv_iload hx hb dL_law_261 (lv_at hl 1 rfl) ?_
    refine lv_icmp_eq (tgt := 268) hx hb dL_law_263 (by decide) (fun c1 => ?_) (fun c1 => absurd e0 c1)
    refine lv_iload hx hb dL_law_268 (lv_at hl 1 rfl) ?_
    refine lv_if_ne (tgt := 285) hx hb dL_law_270 (by decide) (fun c2 => absurd rfl c2) (fun c2 => ?_)
    refine lv_aload_n hx hb dL_law_273 rfl (lv_at hl 5 rfl) ?_
    refine lv_iconst (v := 0) hx hb dL_law_274 (by decide) ?_
    refine L_out X hp dL_law_275 ?_
    refine lv_iload hx hb dL_law_276 (lv_at hl 0 rfl) ?_
    refine lv_i2l hx hb dL_law_278 rfl ?_
    refine W.lcmp hx hb dL_law_279 ?_
    refine lv_if_eq (tgt := 285) hx hb dL_law_280 (by decide) (fun c3 => ?_) (fun c3 => absurd (lcmp0.mpr (show vp_updL f 0 bb.toInt64 0 = bb.toInt64 from if_pos rfl)) c3)
    refine lv_goto (tgt := 1505) hx hb dL_law_285 (by decide) ?_
    exact kk _ _ _ _ _ _ hrel hp (lv_sub hl [2, 3, 4, 5, 6] rfl)
  · rcases hk with ⟨rfl, rfl⟩ | ⟨rfl, rfl⟩
    · refine lv_aload_n hx hb dL_law_232 rfl (lv_at hl 1 rfl) ?_
      refine lv_aload_n hx hb dL_law_233 rfl (lv_at hl 0 rfl) ?_
      refine lv_iload hx hb dL_law_234 (lv_at hl 4 rfl) ?_
      refine lv_iconst (v := 1) hx hb dL_law_236 (by decide) ?_
      refine lv_iadd hx hb dL_law_237 ?_
      refine L_ld X hp hi1 dL_law_238 ?_
      refine lv_aload_n hx hb dL_law_239 rfl (lv_at hl 3 rfl) ?_
      refine L_H X (c_L_append_x1 hl0 hxt) tw_8_17 tw_8_18 tw_7_12 tw_8_19 hdd_L_append (by decide) (by decide) hp hce hl.1 rfl (Nat.le_of_ble_eq_true rfl) dL_law_240 (fun H locs hp => ?_)
      refine lv_istore (lv' := [(5, .int 1), (0, .ref b), (1, .ref (a 0)), (2, .ref (bm 0)), (3, .ref ao), (4, .int x4)]) hx hb dL_law_243 hl (by decide) rfl (fun ls hl => ?_)
      refine lv_aload_n hx hb dL_law_245 rfl (lv_at hl 3 rfl) ?_
      refine lv_aload_n hx hb dL_law_246 rfl (lv_at hl 1 rfl) ?_
      refine lv_iload hx hb dL_law_247 (lv_at hl 5 rfl) ?_
      refine lv_iconst (v := 1) hx hb dL_law_249 (by decide) ?_
      refine lv_iadd hx hb dL_law_250 ?_
      refine L_ld X hp hi1 dL_law_251 ?_
      refine L_Mi X (c_X7_append hy) tw_9_13 mw_X7_append (by decide) hp hce rfl rfl rfl hl.1 rfl (Nat.le_of_ble_eq_true rfl) dL_law_252 (fun H locs hp => ?_)
      refine lv_istore (lv' := [(6, .int bb), (5, .int 1), (0, .ref b), (1, .ref (a 0)), (2, .ref (bm 0)), (3, .ref ao), (4, .int x4)]) hx hb dL_law_255 hl (by decide) rfl (fun ls hl => ?_)
      refine lv_aload_n hx hb dL_law_257 rfl (lv_at hl 4 rfl) ?_
      refine L_Mi X (c_X7_thrown (r := τ1.1 0) rfl) tw_8_13 mw_X7_thrown (by decide) hp hce rfl rfl rfl hl.1 rfl (Nat.le_of_ble_eq_true rfl) dL_law_258 (fun H locs hp => ?_)
      refine lv_iload hx hb dL_law_261 (lv_at hl 1 rfl) ?_
      refine lv_icmp_eq (tgt := 268) hx hb dL_law_263 (by decide) (fun c1 => ?_) (fun c1 => absurd e0 c1)
      refine lv_iload hx hb dL_law_268 (lv_at hl 1 rfl) ?_
      refine lv_if_ne (tgt := 285) hx hb dL_law_270 (by decide) (fun c2 => ?_) (fun c2 => absurd c2 (by decide))
      refine lv_goto (tgt := 1505) hx hb dL_law_285 (by decide) ?_
      exact kk _ _ _ _ _ _ hrel hp (lv_sub hl [2, 3, 4, 5, 6] rfl)
    · refine lv_aload_n hx hb dL_law_232 rfl (lv_at hl 1 rfl) ?_
      refine lv_aload_n hx hb dL_law_233 rfl (lv_at hl 0 rfl) ?_
      refine lv_iload hx hb dL_law_234 (lv_at hl 4 rfl) ?_
      refine lv_iconst (v := 1) hx hb dL_law_236 (by decide) ?_
      refine lv_iadd hx hb dL_law_237 ?_
      refine L_ld X hp hi1 dL_law_238 ?_
      refine lv_aload_n hx hb dL_law_239 rfl (lv_at hl 3 rfl) ?_
      refine L_H X (c_L_append_x2 hl0 hxt) tw_8_17 tw_8_18 tw_7_12 tw_8_19 hdd_L_append (by decide) (by decide) hp hce hl.1 rfl (Nat.le_of_ble_eq_true rfl) dL_law_240 (fun H locs hp => ?_)
      refine lv_istore (lv' := [(5, .int 2), (0, .ref b), (1, .ref (a 0)), (2, .ref (bm 0)), (3, .ref ao), (4, .int x4)]) hx hb dL_law_243 hl (by decide) rfl (fun ls hl => ?_)
      refine lv_aload_n hx hb dL_law_245 rfl (lv_at hl 3 rfl) ?_
      refine lv_aload_n hx hb dL_law_246 rfl (lv_at hl 1 rfl) ?_
      refine lv_iload hx hb dL_law_247 (lv_at hl 5 rfl) ?_
      refine lv_iconst (v := 1) hx hb dL_law_249 (by decide) ?_
      refine lv_iadd hx hb dL_law_250 ?_
      refine L_ld X hp hi1 dL_law_251 ?_
      refine L_Mi X (c_X7_append hy) tw_9_13 mw_X7_append (by decide) hp hce rfl rfl rfl hl.1 rfl (Nat.le_of_ble_eq_true rfl) dL_law_252 (fun H locs hp => ?_)
      refine lv_istore (lv' := [(6, .int bb), (5, .int 2), (0, .ref b), (1, .ref (a 0)), (2, .ref (bm 0)), (3, .ref ao), (4, .int x4)]) hx hb dL_law_255 hl (by decide) rfl (fun ls hl => ?_)
      refine lv_aload_n hx hb dL_law_257 rfl (lv_at hl 4 rfl) ?_
      refine L_Mi X (c_X7_thrown (r := τ1.1 0) rfl) tw_8_13 mw_X7_thrown (by decide) hp hce rfl rfl rfl hl.1 rfl (Nat.le_of_ble_eq_true rfl) dL_law_258 (fun H locs hp => ?_)
      refine lv_iload hx hb dL_law_261 (lv_at hl 1 rfl) ?_
      refine lv_icmp_eq (tgt := 268) hx hb dL_law_263 (by decide) (fun c1 => ?_) (fun c1 => absurd e0 c1)
      refine lv_iload hx hb dL_law_268 (lv_at hl 1 rfl) ?_
      refine lv_if_ne (tgt := 285) hx hb dL_law_270 (by decide) (fun c2 => ?_) (fun c2 => absurd c2 (by decide))
      refine lv_goto (tgt := 1505) hx hb dL_law_285 (by decide) ?_
      exact kk _ _ _ _ _ _ hrel hp (lv_sub hl [2, 3, 4, 5, 6] rfl)
set_option maxRecDepth 20000 in
set_option maxHeartbeats 4000000 in
theorem law_clearBuffer {p : Program} {l : Launch} {e : Env} {R : Room} {s : State} {m : MethodId} {args : Array Value} {below : List Frame} {meth : Method} {c : Code} {H : Heap} {locs : List Loc} {Q : State → Prop} {D : va_G} {a bm : Nat → Nat} {cA : Nat → ClassId} {t ao b L : Nat} {xs : Nat → Int32} {A : Nat → Prop} {σ τ : St} {cells slots N : Nat} {ls : Array Slot} {f : Nat → Int64} {Rel : St → St → Prop} {x4 : Int32} (hl0 : l.stackTraces = false) (X : LC p R s m args c b L xs D a bm cA ao t A) (hop : Op_clearBuffer N Rel σ τ) (hp : PL D a bm cA ao A s.heap H locs σ τ f)  (hl : lv_has ls 8 [(0, .ref b), (1, .ref (a 0)), (2, .ref (bm 0)), (3, .ref ao), (4, .int x4)]) (hce : cells + 1 ≤ R.cells ∧ slots + 6 ≤ R.slots)
    (kk : ∀ (σ' τ' : St) (f' : Nat → Int64) (H : Heap) (locs : List Loc) (ls : Array Slot), Rel σ' τ' → PL D a bm cA ao A s.heap H locs σ' τ' f' → lv_has ls 8 [(0, .ref b), (1, .ref (a 0)), (2, .ref (bm 0)), (3, .ref ao), (4, .int x4)] → W p l e R s m args below meth c H locs (cells + 1) (slots + 6) Q (F0 m 1505 ls [])) : W p l e R s m args below meth c H locs cells slots Q (F0 m 288 ls []) := by
  obtain ⟨hx, hb, -⟩ := id X.1
  obtain ⟨bb, σ1, τ1, hxs, hy, hrel⟩ := hop
  refine lv_aload_n hx hb dL_law_288 rfl (lv_at hl 1 rfl) ?_
  refine L_Si X (c_X6_clearBuffer eokX hxs) tw_9_18 mw_X6_clearBuffer (by decide) hp ⟨by omega, by omega⟩ rfl rfl rfl hl.1 rfl (Nat.le_of_ble_eq_true rfl) dL_law_289 (fun H locs hp => ?_)
  refine lv_aload_n hx hb dL_law_292 rfl (lv_at hl 2 rfl) ?_
  refine L_Mi X (c_X7_clearBuffer hy) tw_9_22 mw_X7_clearBuffer (by decide) hp ⟨by omega, by omega⟩ rfl rfl rfl hl.1 rfl (Nat.le_of_ble_eq_true rfl) dL_law_293 (fun H locs hp => ?_)
  refine lv_icmp_eq (tgt := 1505) hx hb dL_law_296 (by decide) (fun c3 => ?_) (fun c3 => absurd rfl c3)
  refine W.widen (k := cells + 1) (n := slots + 6) (by omega) (by omega) ?_
  exact kk _ _ _ _ _ _ hrel hp hl
set_option maxRecDepth 20000 in
set_option maxHeartbeats 4000000 in
theorem law_firstError {p : Program} {l : Launch} {e : Env} {R : Room} {s : State} {m : MethodId} {args : Array Value} {below : List Frame} {meth : Method} {c : Code} {H : Heap} {locs : List Loc} {Q : State → Prop} {D : va_G} {a bm : Nat → Nat} {cA : Nat → ClassId} {t ao b L : Nat} {xs : Nat → Int32} {A : Nat → Prop} {σ τ : St} {cells slots N : Nat} {ls : Array Slot} {f : Nat → Int64} {Rel : St → St → Prop} {x4 : Int32} (hl0 : l.stackTraces = false) (X : LC p R s m args c b L xs D a bm cA ao t A) (hop : Op_firstError N Rel σ τ) (hp : PL D a bm cA ao A s.heap H locs σ τ f)  (hl : lv_has ls 8 [(0, .ref b), (1, .ref (a 0)), (2, .ref (bm 0)), (3, .ref ao), (4, .int x4)]) (hce : cells + 1 ≤ R.cells ∧ slots + 6 ≤ R.slots)
    (kk : ∀ (σ' τ' : St) (f' : Nat → Int64) (H : Heap) (locs : List Loc) (ls : Array Slot), Rel σ' τ' → PL D a bm cA ao A s.heap H locs σ' τ' f' → lv_has ls 8 [(0, .ref b), (1, .ref (a 0)), (2, .ref (bm 0)), (3, .ref ao), (4, .int x4)] → W p l e R s m args below meth c H locs (cells + 1) (slots + 6) Q (F0 m 1505 ls [])) : W p l e R s m args below meth c H locs cells slots Q (F0 m 301 ls []) := by
  obtain ⟨hx, hb, -⟩ := id X.1
  obtain ⟨bb, σ1, τ1, hxs, hy, hrel⟩ := hop
  refine lv_aload_n hx hb dL_law_301 rfl (lv_at hl 1 rfl) ?_
  refine L_Si X (c_X6_firstError eokX hxs) tw_10_2 mw_X6_firstError (by decide) hp ⟨by omega, by omega⟩ rfl rfl rfl hl.1 rfl (Nat.le_of_ble_eq_true rfl) dL_law_302 (fun H locs hp => ?_)
  refine lv_aload_n hx hb dL_law_305 rfl (lv_at hl 2 rfl) ?_
  refine L_Mi X (c_X7_firstError hy) tw_11_8 mw_X7_firstError (by decide) hp ⟨by omega, by omega⟩ rfl rfl rfl hl.1 rfl (Nat.le_of_ble_eq_true rfl) dL_law_306 (fun H locs hp => ?_)
  refine lv_icmp_eq (tgt := 1505) hx hb dL_law_309 (by decide) (fun c3 => ?_) (fun c3 => absurd rfl c3)
  refine W.widen (k := cells + 1) (n := slots + 6) (by omega) (by omega) ?_
  exact kk _ _ _ _ _ _ hrel hp hl
set_option maxRecDepth 20000 in
set_option maxHeartbeats 4000000 in
theorem law_setNext {p : Program} {l : Launch} {e : Env} {R : Room} {s : State} {m : MethodId} {args : Array Value} {below : List Frame} {meth : Method} {c : Code} {H : Heap} {locs : List Loc} {Q : State → Prop} {D : va_G} {a bm : Nat → Nat} {cA : Nat → ClassId} {t ao b L : Nat} {xs : Nat → Int32} {A : Nat → Prop} {σ τ : St} {cells slots N : Nat} {ls : Array Slot} {f : Nat → Int64} {Rel : St → St → Prop} {x4 : Int32} (hl0 : l.stackTraces = false) (X : LC p R s m args c b L xs D a bm cA ao t A) (hop : Op_setNext N Rel σ τ) (hp : PL D a bm cA ao A s.heap H locs σ τ f) (hi1 : vp_in (x4 + 1) L) (hl : lv_has ls 8 [(0, .ref b), (1, .ref (a 0)), (2, .ref (bm 0)), (3, .ref ao), (4, .int x4)]) (hce : cells + 1 ≤ R.cells ∧ slots + 6 ≤ R.slots)
    (kk : ∀ (σ' τ' : St) (f' : Nat → Int64) (H : Heap) (locs : List Loc) (ls : Array Slot), Rel σ' τ' → PL D a bm cA ao A s.heap H locs σ' τ' f' → lv_has ls 8 [(0, .ref b), (1, .ref (a 0)), (2, .ref (bm 0)), (3, .ref ao), (4, .int x4)] → W p l e R s m args below meth c H locs (cells + 1) (slots + 6) Q (F0 m 1505 ls [])) : W p l e R s m args below meth c H locs cells slots Q (F0 m 314 ls []) := by
  obtain ⟨hx, hb, -⟩ := id X.1
  obtain ⟨bb, τ1, hy, hor⟩ := hop (xs (x4 + 1).toNatClampNeg)
  rcases hor with ⟨σ1, hxs, e0, hrel⟩ | ⟨k, cc, σ1, hk, hxt, e0, hrel⟩
  · refine lv_aload_n hx hb dL_law_314 rfl (lv_at hl 1 rfl) ?_
    refine lv_aload_n hx hb dL_law_315 rfl (lv_at hl 0 rfl) ?_
    refine lv_iload hx hb dL_law_316 (lv_at hl 4 rfl) ?_
    refine lv_iconst (v := 1) hx hb dL_law_318 (by decide) ?_
    refine lv_iadd hx hb dL_law_319 ?_
    refine L_ld X hp hi1 dL_law_320 ?_
    refine lv_aload_n hx hb dL_law_321 rfl (lv_at hl 3 rfl) ?_
    refine L_H X (c_L_setNext hxs) tw_12_9 tw_12_10 tw_7_12 tw_12_11 hdd_L_setNext (by decide) (by decide) hp hce hl.1 rfl (Nat.le_of_ble_eq_true rfl) dL_law_322 (fun H locs hp => ?_)
    refine lv_istore (lv' := [(5, .int 0), (0, .ref b), (1, .ref (a 0)), (2, .ref (bm 0)), (3, .ref ao), (4, .int x4)]) hx hb dL_law_325 hl (by decide) rfl (fun ls hl => ?_)
    refine lv_aload_n hx hb dL_law_327 rfl (lv_at hl 3 rfl) ?_
    refine lv_aload_n hx hb dL_law_328 rfl (lv_at hl 1 rfl) ?_
    refine lv_iload hx hb dL_law_329 (lv_at hl 5 rfl) ?_
    refine lv_iconst (v := 1) hx hb dL_law_331 (by decide) ?_
    refine lv_iadd hx hb dL_law_332 ?_
    refine L_ld X hp hi1 dL_law_333 ?_
    refine L_Mi X (c_X7_setNext hy) tw_15_16 mw_X7_setNext (by decide) hp hce rfl rfl rfl hl.1 rfl (Nat.le_of_ble_eq_true rfl) dL_law_334 (fun H locs hp => ?_)
    refine lv_istore (lv' := [(6, .int bb), (5, .int 0), (0, .ref b), (1, .ref (a 0)), (2, .ref (bm 0)), (3, .ref ao), (4, .int x4)]) hx hb dL_law_337 hl (by decide) rfl (fun ls hl => ?_)
    refine lv_aload_n hx hb dL_law_339 rfl (lv_at hl 4 rfl) ?_
    refine L_Mi X (c_X7_thrown (r := τ1.1 0) rfl) tw_8_13 mw_X7_thrown (by decide) hp hce rfl rfl rfl hl.1 rfl (Nat.le_of_ble_eq_true rfl) dL_law_340 (fun H locs hp => ?_)
    refine lv_iload hx hb dL_law_343 (lv_at hl 1 rfl) ?_
    refine lv_icmp_eq (tgt := 350) hx hb dL_law_345 (by decide) (fun c1 => ?_) (fun c1 => absurd e0 c1)
    refine lv_iload hx hb dL_law_350 (lv_at hl 1 rfl) ?_
    refine lv_if_ne (tgt := 367) hx hb dL_law_352 (by decide) (fun c2 => absurd rfl c2) (fun c2 => ?_)
    refine lv_aload_n hx hb dL_law_355 rfl (lv_at hl 5 rfl) ?_
    refine lv_iconst (v := 0) hx hb dL_law_356 (by decide) ?_
    refine L_out X hp dL_law_357 ?_
    refine lv_iload hx hb dL_law_358 (lv_at hl 0 rfl) ?_
    refine lv_i2l hx hb dL_law_360 rfl ?_
    refine W.lcmp hx hb dL_law_361 ?_
    refine lv_if_eq (tgt := 367) hx hb dL_law_362 (by decide) (fun c3 => ?_) (fun c3 => absurd (lcmp0.mpr (show vp_updL f 0 bb.toInt64 0 = bb.toInt64 from if_pos rfl)) c3)
    refine lv_goto (tgt := 1505) hx hb dL_law_367 (by decide) ?_
    exact kk _ _ _ _ _ _ hrel hp (lv_sub hl [2, 3, 4, 5, 6] rfl)
  · rcases hk with ⟨rfl, rfl⟩ | ⟨rfl, rfl⟩
    · refine lv_aload_n hx hb dL_law_314 rfl (lv_at hl 1 rfl) ?_
      refine lv_aload_n hx hb dL_law_315 rfl (lv_at hl 0 rfl) ?_
      refine lv_iload hx hb dL_law_316 (lv_at hl 4 rfl) ?_
      refine lv_iconst (v := 1) hx hb dL_law_318 (by decide) ?_
      refine lv_iadd hx hb dL_law_319 ?_
      refine L_ld X hp hi1 dL_law_320 ?_
      refine lv_aload_n hx hb dL_law_321 rfl (lv_at hl 3 rfl) ?_
      refine L_H X (c_L_setNext_x3 hl0 hxt) tw_12_9 tw_12_10 tw_7_12 tw_12_11 hdd_L_setNext (by decide) (by decide) hp hce hl.1 rfl (Nat.le_of_ble_eq_true rfl) dL_law_322 (fun H locs hp => ?_)
      refine lv_istore (lv' := [(5, .int 1), (0, .ref b), (1, .ref (a 0)), (2, .ref (bm 0)), (3, .ref ao), (4, .int x4)]) hx hb dL_law_325 hl (by decide) rfl (fun ls hl => ?_)
      refine lv_aload_n hx hb dL_law_327 rfl (lv_at hl 3 rfl) ?_
      refine lv_aload_n hx hb dL_law_328 rfl (lv_at hl 1 rfl) ?_
      refine lv_iload hx hb dL_law_329 (lv_at hl 5 rfl) ?_
      refine lv_iconst (v := 1) hx hb dL_law_331 (by decide) ?_
      refine lv_iadd hx hb dL_law_332 ?_
      refine L_ld X hp hi1 dL_law_333 ?_
      refine L_Mi X (c_X7_setNext hy) tw_15_16 mw_X7_setNext (by decide) hp hce rfl rfl rfl hl.1 rfl (Nat.le_of_ble_eq_true rfl) dL_law_334 (fun H locs hp => ?_)
      refine lv_istore (lv' := [(6, .int bb), (5, .int 1), (0, .ref b), (1, .ref (a 0)), (2, .ref (bm 0)), (3, .ref ao), (4, .int x4)]) hx hb dL_law_337 hl (by decide) rfl (fun ls hl => ?_)
      refine lv_aload_n hx hb dL_law_339 rfl (lv_at hl 4 rfl) ?_
      refine L_Mi X (c_X7_thrown (r := τ1.1 0) rfl) tw_8_13 mw_X7_thrown (by decide) hp hce rfl rfl rfl hl.1 rfl (Nat.le_of_ble_eq_true rfl) dL_law_340 (fun H locs hp => ?_)
      refine lv_iload hx hb dL_law_343 (lv_at hl 1 rfl) ?_
      refine lv_icmp_eq (tgt := 350) hx hb dL_law_345 (by decide) (fun c1 => ?_) (fun c1 => absurd e0 c1)
      refine lv_iload hx hb dL_law_350 (lv_at hl 1 rfl) ?_
      refine lv_if_ne (tgt := 367) hx hb dL_law_352 (by decide) (fun c2 => ?_) (fun c2 => absurd c2 (by decide))
      refine lv_goto (tgt := 1505) hx hb dL_law_367 (by decide) ?_
      exact kk _ _ _ _ _ _ hrel hp (lv_sub hl [2, 3, 4, 5, 6] rfl)
    · refine lv_aload_n hx hb dL_law_314 rfl (lv_at hl 1 rfl) ?_
      refine lv_aload_n hx hb dL_law_315 rfl (lv_at hl 0 rfl) ?_
      refine lv_iload hx hb dL_law_316 (lv_at hl 4 rfl) ?_
      refine lv_iconst (v := 1) hx hb dL_law_318 (by decide) ?_
      refine lv_iadd hx hb dL_law_319 ?_
      refine L_ld X hp hi1 dL_law_320 ?_
      refine lv_aload_n hx hb dL_law_321 rfl (lv_at hl 3 rfl) ?_
      refine L_H X (c_L_setNext_x2 hl0 hxt) tw_12_9 tw_12_10 tw_7_12 tw_12_11 hdd_L_setNext (by decide) (by decide) hp hce hl.1 rfl (Nat.le_of_ble_eq_true rfl) dL_law_322 (fun H locs hp => ?_)
      refine lv_istore (lv' := [(5, .int 2), (0, .ref b), (1, .ref (a 0)), (2, .ref (bm 0)), (3, .ref ao), (4, .int x4)]) hx hb dL_law_325 hl (by decide) rfl (fun ls hl => ?_)
      refine lv_aload_n hx hb dL_law_327 rfl (lv_at hl 3 rfl) ?_
      refine lv_aload_n hx hb dL_law_328 rfl (lv_at hl 1 rfl) ?_
      refine lv_iload hx hb dL_law_329 (lv_at hl 5 rfl) ?_
      refine lv_iconst (v := 1) hx hb dL_law_331 (by decide) ?_
      refine lv_iadd hx hb dL_law_332 ?_
      refine L_ld X hp hi1 dL_law_333 ?_
      refine L_Mi X (c_X7_setNext hy) tw_15_16 mw_X7_setNext (by decide) hp hce rfl rfl rfl hl.1 rfl (Nat.le_of_ble_eq_true rfl) dL_law_334 (fun H locs hp => ?_)
      refine lv_istore (lv' := [(6, .int bb), (5, .int 2), (0, .ref b), (1, .ref (a 0)), (2, .ref (bm 0)), (3, .ref ao), (4, .int x4)]) hx hb dL_law_337 hl (by decide) rfl (fun ls hl => ?_)
      refine lv_aload_n hx hb dL_law_339 rfl (lv_at hl 4 rfl) ?_
      refine L_Mi X (c_X7_thrown (r := τ1.1 0) rfl) tw_8_13 mw_X7_thrown (by decide) hp hce rfl rfl rfl hl.1 rfl (Nat.le_of_ble_eq_true rfl) dL_law_340 (fun H locs hp => ?_)
      refine lv_iload hx hb dL_law_343 (lv_at hl 1 rfl) ?_
      refine lv_icmp_eq (tgt := 350) hx hb dL_law_345 (by decide) (fun c1 => ?_) (fun c1 => absurd e0 c1)
      refine lv_iload hx hb dL_law_350 (lv_at hl 1 rfl) ?_
      refine lv_if_ne (tgt := 367) hx hb dL_law_352 (by decide) (fun c2 => ?_) (fun c2 => absurd c2 (by decide))
      refine lv_goto (tgt := 1505) hx hb dL_law_367 (by decide) ?_
      exact kk _ _ _ _ _ _ hrel hp (lv_sub hl [2, 3, 4, 5, 6] rfl)
set_option maxRecDepth 20000 in
set_option maxHeartbeats 4000000 in
theorem law_setInit {p : Program} {l : Launch} {e : Env} {R : Room} {s : State} {m : MethodId} {args : Array Value} {below : List Frame} {meth : Method} {c : Code} {H : Heap} {locs : List Loc} {Q : State → Prop} {D : va_G} {a bm : Nat → Nat} {cA : Nat → ClassId} {t ao b L : Nat} {xs : Nat → Int32} {A : Nat → Prop} {σ τ : St} {cells slots N : Nat} {ls : Array Slot} {f : Nat → Int64} {Rel : St → St → Prop} {x4 : Int32} (hl0 : l.stackTraces = false) (X : LC p R s m args c b L xs D a bm cA ao t A) (hop : Op_setInit N Rel σ τ) (hp : PL D a bm cA ao A s.heap H locs σ τ f)  (hl : lv_has ls 8 [(0, .ref b), (1, .ref (a 0)), (2, .ref (bm 0)), (3, .ref ao), (4, .int x4)]) (hce : cells + 1 ≤ R.cells ∧ slots + 6 ≤ R.slots)
    (kk : ∀ (σ' τ' : St) (f' : Nat → Int64) (H : Heap) (locs : List Loc) (ls : Array Slot), Rel σ' τ' → PL D a bm cA ao A s.heap H locs σ' τ' f' → lv_has ls 8 [(0, .ref b), (1, .ref (a 0)), (2, .ref (bm 0)), (3, .ref ao), (4, .int x4)] → W p l e R s m args below meth c H locs (cells + 1) (slots + 6) Q (F0 m 1505 ls [])) : W p l e R s m args below meth c H locs cells slots Q (F0 m 370 ls []) := by
  obtain ⟨hx, hb, -⟩ := id X.1
  obtain ⟨bb, τ1, hy, hor⟩ := hop
  rcases hor with ⟨σ1, hxs, e0, hrel⟩ | ⟨k, cc, σ1, hk, hxt, e0, hrel⟩
  · refine lv_aload_n hx hb dL_law_370 rfl (lv_at hl 1 rfl) ?_
    refine lv_aload_n hx hb dL_law_371 rfl (lv_at hl 3 rfl) ?_
    refine L_H X (c_L_setInit hxs) tw_18_10 tw_18_11 tw_7_12 tw_18_12 hdd_L_setInit (by decide) (by decide) hp hce hl.1 rfl (Nat.le_of_ble_eq_true rfl) dL_law_372 (fun H locs hp => ?_)
    refine lv_istore (lv' := [(5, .int 0), (0, .ref b), (1, .ref (a 0)), (2, .ref (bm 0)), (3, .ref ao), (4, .int x4)]) hx hb dL_law_375 hl (by decide) rfl (fun ls hl => ?_)
    refine lv_aload_n hx hb dL_law_377 rfl (lv_at hl 3 rfl) ?_
    refine L_Mi X (c_X7_setInit hy) tw_19_6 mw_X7_setInit (by decide) hp hce rfl rfl rfl hl.1 rfl (Nat.le_of_ble_eq_true rfl) dL_law_378 (fun H locs hp => ?_)
    refine lv_istore (lv' := [(6, .int bb), (5, .int 0), (0, .ref b), (1, .ref (a 0)), (2, .ref (bm 0)), (3, .ref ao), (4, .int x4)]) hx hb dL_law_381 hl (by decide) rfl (fun ls hl => ?_)
    refine lv_aload_n hx hb dL_law_383 rfl (lv_at hl 4 rfl) ?_
    refine L_Mi X (c_X7_thrown (r := τ1.1 0) rfl) tw_8_13 mw_X7_thrown (by decide) hp hce rfl rfl rfl hl.1 rfl (Nat.le_of_ble_eq_true rfl) dL_law_384 (fun H locs hp => ?_)
    refine lv_iload hx hb dL_law_387 (lv_at hl 1 rfl) ?_
    refine lv_icmp_eq (tgt := 394) hx hb dL_law_389 (by decide) (fun c1 => ?_) (fun c1 => absurd e0 c1)
    refine lv_iload hx hb dL_law_394 (lv_at hl 1 rfl) ?_
    refine lv_if_ne (tgt := 411) hx hb dL_law_396 (by decide) (fun c2 => absurd rfl c2) (fun c2 => ?_)
    refine lv_aload_n hx hb dL_law_399 rfl (lv_at hl 5 rfl) ?_
    refine lv_iconst (v := 0) hx hb dL_law_400 (by decide) ?_
    refine L_out X hp dL_law_401 ?_
    refine lv_iload hx hb dL_law_402 (lv_at hl 0 rfl) ?_
    refine lv_i2l hx hb dL_law_404 rfl ?_
    refine W.lcmp hx hb dL_law_405 ?_
    refine lv_if_eq (tgt := 411) hx hb dL_law_406 (by decide) (fun c3 => ?_) (fun c3 => absurd (lcmp0.mpr (show vp_updL f 0 bb.toInt64 0 = bb.toInt64 from if_pos rfl)) c3)
    refine lv_goto (tgt := 1505) hx hb dL_law_411 (by decide) ?_
    exact kk _ _ _ _ _ _ hrel hp (lv_sub hl [2, 3, 4, 5, 6] rfl)
  · rcases hk with ⟨rfl, rfl⟩
    refine lv_aload_n hx hb dL_law_370 rfl (lv_at hl 1 rfl) ?_
    refine lv_aload_n hx hb dL_law_371 rfl (lv_at hl 3 rfl) ?_
    refine L_H X (c_L_setInit_x2 hl0 hxt) tw_18_10 tw_18_11 tw_7_12 tw_18_12 hdd_L_setInit (by decide) (by decide) hp hce hl.1 rfl (Nat.le_of_ble_eq_true rfl) dL_law_372 (fun H locs hp => ?_)
    refine lv_istore (lv' := [(5, .int 1), (0, .ref b), (1, .ref (a 0)), (2, .ref (bm 0)), (3, .ref ao), (4, .int x4)]) hx hb dL_law_375 hl (by decide) rfl (fun ls hl => ?_)
    refine lv_aload_n hx hb dL_law_377 rfl (lv_at hl 3 rfl) ?_
    refine L_Mi X (c_X7_setInit hy) tw_19_6 mw_X7_setInit (by decide) hp hce rfl rfl rfl hl.1 rfl (Nat.le_of_ble_eq_true rfl) dL_law_378 (fun H locs hp => ?_)
    refine lv_istore (lv' := [(6, .int bb), (5, .int 1), (0, .ref b), (1, .ref (a 0)), (2, .ref (bm 0)), (3, .ref ao), (4, .int x4)]) hx hb dL_law_381 hl (by decide) rfl (fun ls hl => ?_)
    refine lv_aload_n hx hb dL_law_383 rfl (lv_at hl 4 rfl) ?_
    refine L_Mi X (c_X7_thrown (r := τ1.1 0) rfl) tw_8_13 mw_X7_thrown (by decide) hp hce rfl rfl rfl hl.1 rfl (Nat.le_of_ble_eq_true rfl) dL_law_384 (fun H locs hp => ?_)
    refine lv_iload hx hb dL_law_387 (lv_at hl 1 rfl) ?_
    refine lv_icmp_eq (tgt := 394) hx hb dL_law_389 (by decide) (fun c1 => ?_) (fun c1 => absurd e0 c1)
    refine lv_iload hx hb dL_law_394 (lv_at hl 1 rfl) ?_
    refine lv_if_ne (tgt := 411) hx hb dL_law_396 (by decide) (fun c2 => ?_) (fun c2 => absurd c2 (by decide))
    refine lv_goto (tgt := 1505) hx hb dL_law_411 (by decide) ?_
    exact kk _ _ _ _ _ _ hrel hp (lv_sub hl [2, 3, 4, 5, 6] rfl)
set_option maxRecDepth 20000 in
set_option maxHeartbeats 4000000 in
theorem law_setProperty {p : Program} {l : Launch} {e : Env} {R : Room} {s : State} {m : MethodId} {args : Array Value} {below : List Frame} {meth : Method} {c : Code} {H : Heap} {locs : List Loc} {Q : State → Prop} {D : va_G} {a bm : Nat → Nat} {cA : Nat → ClassId} {t ao b L : Nat} {xs : Nat → Int32} {A : Nat → Prop} {σ τ : St} {cells slots N : Nat} {ls : Array Slot} {f : Nat → Int64} {Rel : St → St → Prop} {x4 : Int32} (hl0 : l.stackTraces = false) (X : LC p R s m args c b L xs D a bm cA ao t A) (hop : Op_setProperty N Rel σ τ) (hp : PL D a bm cA ao A s.heap H locs σ τ f)  (hl : lv_has ls 8 [(0, .ref b), (1, .ref (a 0)), (2, .ref (bm 0)), (3, .ref ao), (4, .int x4)]) (hce : cells + 1 ≤ R.cells ∧ slots + 6 ≤ R.slots)
    (kk : ∀ (σ' τ' : St) (f' : Nat → Int64) (H : Heap) (locs : List Loc) (ls : Array Slot), Rel σ' τ' → PL D a bm cA ao A s.heap H locs σ' τ' f' → lv_has ls 8 [(0, .ref b), (1, .ref (a 0)), (2, .ref (bm 0)), (3, .ref ao), (4, .int x4)] → W p l e R s m args below meth c H locs (cells + 1) (slots + 6) Q (F0 m 1505 ls [])) : W p l e R s m args below meth c H locs cells slots Q (F0 m 414 ls []) := by
  obtain ⟨hx, hb, -⟩ := id X.1
  obtain ⟨bb, τ1, hy, hor⟩ := hop
  rcases hor with ⟨σ1, hxs, e0, hrel⟩ | ⟨k, cc, σ1, hk, hxt, e0, hrel⟩
  · refine lv_aload_n hx hb dL_law_414 rfl (lv_at hl 1 rfl) ?_
    refine lv_aload_n hx hb dL_law_415 rfl (lv_at hl 3 rfl) ?_
    refine L_H X (c_L_setProperty hxs) tw_19_18 tw_19_19 tw_7_12 tw_19_20 hdd_L_setProperty (by decide) (by decide) hp hce hl.1 rfl (Nat.le_of_ble_eq_true rfl) dL_law_416 (fun H locs hp => ?_)
    refine lv_istore (lv' := [(5, .int 0), (0, .ref b), (1, .ref (a 0)), (2, .ref (bm 0)), (3, .ref ao), (4, .int x4)]) hx hb dL_law_419 hl (by decide) rfl (fun ls hl => ?_)
    refine lv_aload_n hx hb dL_law_421 rfl (lv_at hl 3 rfl) ?_
    refine L_Mi X (c_X7_setProperty hy) tw_20_5 mw_X7_setProperty (by decide) hp hce rfl rfl rfl hl.1 rfl (Nat.le_of_ble_eq_true rfl) dL_law_422 (fun H locs hp => ?_)
    refine lv_istore (lv' := [(6, .int bb), (5, .int 0), (0, .ref b), (1, .ref (a 0)), (2, .ref (bm 0)), (3, .ref ao), (4, .int x4)]) hx hb dL_law_425 hl (by decide) rfl (fun ls hl => ?_)
    refine lv_aload_n hx hb dL_law_427 rfl (lv_at hl 4 rfl) ?_
    refine L_Mi X (c_X7_thrown (r := τ1.1 0) rfl) tw_8_13 mw_X7_thrown (by decide) hp hce rfl rfl rfl hl.1 rfl (Nat.le_of_ble_eq_true rfl) dL_law_428 (fun H locs hp => ?_)
    refine lv_iload hx hb dL_law_431 (lv_at hl 1 rfl) ?_
    refine lv_icmp_eq (tgt := 438) hx hb dL_law_433 (by decide) (fun c1 => ?_) (fun c1 => absurd e0 c1)
    refine lv_iload hx hb dL_law_438 (lv_at hl 1 rfl) ?_
    refine lv_if_ne (tgt := 455) hx hb dL_law_440 (by decide) (fun c2 => absurd rfl c2) (fun c2 => ?_)
    refine lv_aload_n hx hb dL_law_443 rfl (lv_at hl 5 rfl) ?_
    refine lv_iconst (v := 0) hx hb dL_law_444 (by decide) ?_
    refine L_out X hp dL_law_445 ?_
    refine lv_iload hx hb dL_law_446 (lv_at hl 0 rfl) ?_
    refine lv_i2l hx hb dL_law_448 rfl ?_
    refine W.lcmp hx hb dL_law_449 ?_
    refine lv_if_eq (tgt := 455) hx hb dL_law_450 (by decide) (fun c3 => ?_) (fun c3 => absurd (lcmp0.mpr (show vp_updL f 0 bb.toInt64 0 = bb.toInt64 from if_pos rfl)) c3)
    refine lv_goto (tgt := 1505) hx hb dL_law_455 (by decide) ?_
    exact kk _ _ _ _ _ _ hrel hp (lv_sub hl [2, 3, 4, 5, 6] rfl)
  · rcases hk with ⟨rfl, rfl⟩
    refine lv_aload_n hx hb dL_law_414 rfl (lv_at hl 1 rfl) ?_
    refine lv_aload_n hx hb dL_law_415 rfl (lv_at hl 3 rfl) ?_
    refine L_H X (c_L_setProperty_x2 hl0 hxt) tw_19_18 tw_19_19 tw_7_12 tw_19_20 hdd_L_setProperty (by decide) (by decide) hp hce hl.1 rfl (Nat.le_of_ble_eq_true rfl) dL_law_416 (fun H locs hp => ?_)
    refine lv_istore (lv' := [(5, .int 1), (0, .ref b), (1, .ref (a 0)), (2, .ref (bm 0)), (3, .ref ao), (4, .int x4)]) hx hb dL_law_419 hl (by decide) rfl (fun ls hl => ?_)
    refine lv_aload_n hx hb dL_law_421 rfl (lv_at hl 3 rfl) ?_
    refine L_Mi X (c_X7_setProperty hy) tw_20_5 mw_X7_setProperty (by decide) hp hce rfl rfl rfl hl.1 rfl (Nat.le_of_ble_eq_true rfl) dL_law_422 (fun H locs hp => ?_)
    refine lv_istore (lv' := [(6, .int bb), (5, .int 1), (0, .ref b), (1, .ref (a 0)), (2, .ref (bm 0)), (3, .ref ao), (4, .int x4)]) hx hb dL_law_425 hl (by decide) rfl (fun ls hl => ?_)
    refine lv_aload_n hx hb dL_law_427 rfl (lv_at hl 4 rfl) ?_
    refine L_Mi X (c_X7_thrown (r := τ1.1 0) rfl) tw_8_13 mw_X7_thrown (by decide) hp hce rfl rfl rfl hl.1 rfl (Nat.le_of_ble_eq_true rfl) dL_law_428 (fun H locs hp => ?_)
    refine lv_iload hx hb dL_law_431 (lv_at hl 1 rfl) ?_
    refine lv_icmp_eq (tgt := 438) hx hb dL_law_433 (by decide) (fun c1 => ?_) (fun c1 => absurd e0 c1)
    refine lv_iload hx hb dL_law_438 (lv_at hl 1 rfl) ?_
    refine lv_if_ne (tgt := 455) hx hb dL_law_440 (by decide) (fun c2 => ?_) (fun c2 => absurd c2 (by decide))
    refine lv_goto (tgt := 1505) hx hb dL_law_455 (by decide) ?_
    exact kk _ _ _ _ _ _ hrel hp (lv_sub hl [2, 3, 4, 5, 6] rfl)
set_option maxRecDepth 20000 in
set_option maxHeartbeats 4000000 in
theorem law_undo {p : Program} {l : Launch} {e : Env} {R : Room} {s : State} {m : MethodId} {args : Array Value} {below : List Frame} {meth : Method} {c : Code} {H : Heap} {locs : List Loc} {Q : State → Prop} {D : va_G} {a bm : Nat → Nat} {cA : Nat → ClassId} {t ao b L : Nat} {xs : Nat → Int32} {A : Nat → Prop} {σ τ : St} {cells slots N : Nat} {ls : Array Slot} {f : Nat → Int64} {Rel : St → St → Prop} {x4 : Int32} (hl0 : l.stackTraces = false) (X : LC p R s m args c b L xs D a bm cA ao t A) (hop : Op_undo N Rel σ τ) (hp : PL D a bm cA ao A s.heap H locs σ τ f)  (hl : lv_has ls 8 [(0, .ref b), (1, .ref (a 0)), (2, .ref (bm 0)), (3, .ref ao), (4, .int x4)]) (hce : cells + 1 ≤ R.cells ∧ slots + 6 ≤ R.slots)
    (kk : ∀ (σ' τ' : St) (f' : Nat → Int64) (H : Heap) (locs : List Loc) (ls : Array Slot), Rel σ' τ' → PL D a bm cA ao A s.heap H locs σ' τ' f' → lv_has ls 8 [(0, .ref b), (1, .ref (a 0)), (2, .ref (bm 0)), (3, .ref ao), (4, .int x4)] → W p l e R s m args below meth c H locs (cells + 1) (slots + 6) Q (F0 m 1505 ls [])) : W p l e R s m args below meth c H locs cells slots Q (F0 m 458 ls []) := by
  obtain ⟨hx, hb, -⟩ := id X.1
  obtain ⟨bb, τ1, hy, hor⟩ := hop
  rcases hor with ⟨σ1, hxs, e0, hrel⟩ | ⟨k, cc, σ1, hk, hxt, e0, hrel⟩
  · refine lv_aload_n hx hb dL_law_458 rfl (lv_at hl 1 rfl) ?_
    refine lv_aload_n hx hb dL_law_459 rfl (lv_at hl 3 rfl) ?_
    refine L_H X (c_L_undo hxs) tw_20_9 tw_20_10 tw_7_12 tw_20_11 hdd_L_undo (by decide) (by decide) hp hce hl.1 rfl (Nat.le_of_ble_eq_true rfl) dL_law_460 (fun H locs hp => ?_)
    refine lv_istore (lv' := [(5, .int 0), (0, .ref b), (1, .ref (a 0)), (2, .ref (bm 0)), (3, .ref ao), (4, .int x4)]) hx hb dL_law_463 hl (by decide) rfl (fun ls hl => ?_)
    refine lv_aload_n hx hb dL_law_465 rfl (lv_at hl 3 rfl) ?_
    refine L_Mi X (c_X7_undo hy) tw_20_21 mw_X7_undo (by decide) hp hce rfl rfl rfl hl.1 rfl (Nat.le_of_ble_eq_true rfl) dL_law_466 (fun H locs hp => ?_)
    refine lv_istore (lv' := [(6, .int bb), (5, .int 0), (0, .ref b), (1, .ref (a 0)), (2, .ref (bm 0)), (3, .ref ao), (4, .int x4)]) hx hb dL_law_469 hl (by decide) rfl (fun ls hl => ?_)
    refine lv_aload_n hx hb dL_law_471 rfl (lv_at hl 4 rfl) ?_
    refine L_Mi X (c_X7_thrown (r := τ1.1 0) rfl) tw_8_13 mw_X7_thrown (by decide) hp hce rfl rfl rfl hl.1 rfl (Nat.le_of_ble_eq_true rfl) dL_law_472 (fun H locs hp => ?_)
    refine lv_iload hx hb dL_law_475 (lv_at hl 1 rfl) ?_
    refine lv_icmp_eq (tgt := 482) hx hb dL_law_477 (by decide) (fun c1 => ?_) (fun c1 => absurd e0 c1)
    refine lv_iload hx hb dL_law_482 (lv_at hl 1 rfl) ?_
    refine lv_if_ne (tgt := 499) hx hb dL_law_484 (by decide) (fun c2 => absurd rfl c2) (fun c2 => ?_)
    refine lv_aload_n hx hb dL_law_487 rfl (lv_at hl 5 rfl) ?_
    refine lv_iconst (v := 0) hx hb dL_law_488 (by decide) ?_
    refine L_out X hp dL_law_489 ?_
    refine lv_iload hx hb dL_law_490 (lv_at hl 0 rfl) ?_
    refine lv_i2l hx hb dL_law_492 rfl ?_
    refine W.lcmp hx hb dL_law_493 ?_
    refine lv_if_eq (tgt := 499) hx hb dL_law_494 (by decide) (fun c3 => ?_) (fun c3 => absurd (lcmp0.mpr (show vp_updL f 0 bb.toInt64 0 = bb.toInt64 from if_pos rfl)) c3)
    refine lv_goto (tgt := 1505) hx hb dL_law_499 (by decide) ?_
    exact kk _ _ _ _ _ _ hrel hp (lv_sub hl [2, 3, 4, 5, 6] rfl)
  · rcases hk with ⟨rfl, rfl⟩
    refine lv_aload_n hx hb dL_law_458 rfl (lv_at hl 1 rfl) ?_
    refine lv_aload_n hx hb dL_law_459 rfl (lv_at hl 3 rfl) ?_
    refine L_H X (c_L_undo_x2 hl0 hxt) tw_20_9 tw_20_10 tw_7_12 tw_20_11 hdd_L_undo (by decide) (by decide) hp hce hl.1 rfl (Nat.le_of_ble_eq_true rfl) dL_law_460 (fun H locs hp => ?_)
    refine lv_istore (lv' := [(5, .int 1), (0, .ref b), (1, .ref (a 0)), (2, .ref (bm 0)), (3, .ref ao), (4, .int x4)]) hx hb dL_law_463 hl (by decide) rfl (fun ls hl => ?_)
    refine lv_aload_n hx hb dL_law_465 rfl (lv_at hl 3 rfl) ?_
    refine L_Mi X (c_X7_undo hy) tw_20_21 mw_X7_undo (by decide) hp hce rfl rfl rfl hl.1 rfl (Nat.le_of_ble_eq_true rfl) dL_law_466 (fun H locs hp => ?_)
    refine lv_istore (lv' := [(6, .int bb), (5, .int 1), (0, .ref b), (1, .ref (a 0)), (2, .ref (bm 0)), (3, .ref ao), (4, .int x4)]) hx hb dL_law_469 hl (by decide) rfl (fun ls hl => ?_)
    refine lv_aload_n hx hb dL_law_471 rfl (lv_at hl 4 rfl) ?_
    refine L_Mi X (c_X7_thrown (r := τ1.1 0) rfl) tw_8_13 mw_X7_thrown (by decide) hp hce rfl rfl rfl hl.1 rfl (Nat.le_of_ble_eq_true rfl) dL_law_472 (fun H locs hp => ?_)
    refine lv_iload hx hb dL_law_475 (lv_at hl 1 rfl) ?_
    refine lv_icmp_eq (tgt := 482) hx hb dL_law_477 (by decide) (fun c1 => ?_) (fun c1 => absurd e0 c1)
    refine lv_iload hx hb dL_law_482 (lv_at hl 1 rfl) ?_
    refine lv_if_ne (tgt := 499) hx hb dL_law_484 (by decide) (fun c2 => ?_) (fun c2 => absurd c2 (by decide))
    refine lv_goto (tgt := 1505) hx hb dL_law_499 (by decide) ?_
    exact kk _ _ _ _ _ _ hrel hp (lv_sub hl [2, 3, 4, 5, 6] rfl)
set_option maxRecDepth 20000 in
set_option maxHeartbeats 4000000 in
theorem law_successor {p : Program} {l : Launch} {e : Env} {R : Room} {s : State} {m : MethodId} {args : Array Value} {below : List Frame} {meth : Method} {c : Code} {H : Heap} {locs : List Loc} {Q : State → Prop} {D : va_G} {a bm : Nat → Nat} {cA : Nat → ClassId} {t ao b L : Nat} {xs : Nat → Int32} {A : Nat → Prop} {σ τ : St} {cells slots N : Nat} {ls : Array Slot} {f : Nat → Int64} {Rel : St → St → Prop} {x4 : Int32} (hl0 : l.stackTraces = false) (X : LC p R s m args c b L xs D a bm cA ao t A) (hop : Op_successor N Rel σ τ) (hp : PL D a bm cA ao A s.heap H locs σ τ f) (hi1 : vp_in (x4 + 1) L) (hi2 : vp_in (x4 + 2) L) (hl : lv_has ls 8 [(0, .ref b), (1, .ref (a 0)), (2, .ref (bm 0)), (3, .ref ao), (4, .int x4)]) (hce : cells + 1 ≤ R.cells ∧ slots + 6 ≤ R.slots)
    (kk : ∀ (σ' τ' : St) (f' : Nat → Int64) (H : Heap) (locs : List Loc) (ls : Array Slot), Rel σ' τ' → PL D a bm cA ao A s.heap H locs σ' τ' f' → lv_has ls 8 [(0, .ref b), (1, .ref (a 0)), (2, .ref (bm 0)), (3, .ref ao), (4, .int x4)] → W p l e R s m args below meth c H locs (cells + 1) (slots + 6) Q (F0 m 1505 ls [])) : W p l e R s m args below meth c H locs cells slots Q (F0 m 502 ls []) := by
  obtain ⟨hx, hb, -⟩ := id X.1
  obtain ⟨bb, τ1, hy, hor⟩ := hop (xs (x4 + 1).toNatClampNeg) (xs (x4 + 2).toNatClampNeg)
  rcases hor with ⟨σ1, hxs, e0, hrel⟩ | ⟨k, cc, σ1, hk, hxt, e0, hrel⟩
  · refine lv_aload_n hx hb dL_law_502 rfl (lv_at hl 1 rfl) ?_
    refine lv_aload_n hx hb dL_law_503 rfl (lv_at hl 0 rfl) ?_
    refine lv_iload hx hb dL_law_504 (lv_at hl 4 rfl) ?_
    refine lv_iconst (v := 1) hx hb dL_law_506 (by decide) ?_
    refine lv_iadd hx hb dL_law_507 ?_
    refine L_ld X hp hi1 dL_law_508 ?_
    refine lv_aload_n hx hb dL_law_509 rfl (lv_at hl 0 rfl) ?_
    refine lv_iload hx hb dL_law_510 (lv_at hl 4 rfl) ?_
    refine lv_iconst (v := 2) hx hb dL_law_512 (by decide) ?_
    refine lv_iadd hx hb dL_law_513 ?_
    refine L_ld X hp hi2 dL_law_514 ?_
    refine lv_aload_n hx hb dL_law_515 rfl (lv_at hl 3 rfl) ?_
    refine L_H X (c_L_successor hxs) tw_21_1 tw_21_2 tw_7_12 tw_21_3 hdd_L_successor (by decide) (by decide) hp hce hl.1 rfl (Nat.le_of_ble_eq_true rfl) dL_law_516 (fun H locs hp => ?_)
    refine lv_istore (lv' := [(5, .int 0), (0, .ref b), (1, .ref (a 0)), (2, .ref (bm 0)), (3, .ref ao), (4, .int x4)]) hx hb dL_law_519 hl (by decide) rfl (fun ls hl => ?_)
    refine lv_aload_n hx hb dL_law_521 rfl (lv_at hl 3 rfl) ?_
    refine lv_aload_n hx hb dL_law_522 rfl (lv_at hl 1 rfl) ?_
    refine lv_iload hx hb dL_law_523 (lv_at hl 5 rfl) ?_
    refine lv_iconst (v := 1) hx hb dL_law_525 (by decide) ?_
    refine lv_iadd hx hb dL_law_526 ?_
    refine L_ld X hp hi1 dL_law_527 ?_
    refine lv_aload_n hx hb dL_law_528 rfl (lv_at hl 1 rfl) ?_
    refine lv_iload hx hb dL_law_529 (lv_at hl 5 rfl) ?_
    refine lv_iconst (v := 2) hx hb dL_law_531 (by decide) ?_
    refine lv_iadd hx hb dL_law_532 ?_
    refine L_ld X hp hi2 dL_law_533 ?_
    refine L_Mi X (c_X7_successor hy) tw_21_19 mw_X7_successor (by decide) hp hce rfl rfl rfl hl.1 rfl (Nat.le_of_ble_eq_true rfl) dL_law_534 (fun H locs hp => ?_)
    refine lv_istore (lv' := [(6, .int bb), (5, .int 0), (0, .ref b), (1, .ref (a 0)), (2, .ref (bm 0)), (3, .ref ao), (4, .int x4)]) hx hb dL_law_537 hl (by decide) rfl (fun ls hl => ?_)
    refine lv_aload_n hx hb dL_law_539 rfl (lv_at hl 4 rfl) ?_
    refine L_Mi X (c_X7_thrown (r := τ1.1 0) rfl) tw_8_13 mw_X7_thrown (by decide) hp hce rfl rfl rfl hl.1 rfl (Nat.le_of_ble_eq_true rfl) dL_law_540 (fun H locs hp => ?_)
    refine lv_iload hx hb dL_law_543 (lv_at hl 1 rfl) ?_
    refine lv_icmp_eq (tgt := 550) hx hb dL_law_545 (by decide) (fun c1 => ?_) (fun c1 => absurd e0 c1)
    refine lv_iload hx hb dL_law_550 (lv_at hl 1 rfl) ?_
    refine lv_if_ne (tgt := 567) hx hb dL_law_552 (by decide) (fun c2 => absurd rfl c2) (fun c2 => ?_)
    refine lv_aload_n hx hb dL_law_555 rfl (lv_at hl 5 rfl) ?_
    refine lv_iconst (v := 0) hx hb dL_law_556 (by decide) ?_
    refine L_out X hp dL_law_557 ?_
    refine lv_iload hx hb dL_law_558 (lv_at hl 0 rfl) ?_
    refine lv_i2l hx hb dL_law_560 rfl ?_
    refine W.lcmp hx hb dL_law_561 ?_
    refine lv_if_eq (tgt := 567) hx hb dL_law_562 (by decide) (fun c3 => ?_) (fun c3 => absurd (lcmp0.mpr (show vp_updL f 0 bb.toInt64 0 = bb.toInt64 from if_pos rfl)) c3)
    refine lv_goto (tgt := 1505) hx hb dL_law_567 (by decide) ?_
    exact kk _ _ _ _ _ _ hrel hp (lv_sub hl [2, 3, 4, 5, 6] rfl)
  · rcases hk with ⟨rfl, rfl⟩ | ⟨rfl, rfl⟩
    · refine lv_aload_n hx hb dL_law_502 rfl (lv_at hl 1 rfl) ?_
      refine lv_aload_n hx hb dL_law_503 rfl (lv_at hl 0 rfl) ?_
      refine lv_iload hx hb dL_law_504 (lv_at hl 4 rfl) ?_
      refine lv_iconst (v := 1) hx hb dL_law_506 (by decide) ?_
      refine lv_iadd hx hb dL_law_507 ?_
      refine L_ld X hp hi1 dL_law_508 ?_
      refine lv_aload_n hx hb dL_law_509 rfl (lv_at hl 0 rfl) ?_
      refine lv_iload hx hb dL_law_510 (lv_at hl 4 rfl) ?_
      refine lv_iconst (v := 2) hx hb dL_law_512 (by decide) ?_
      refine lv_iadd hx hb dL_law_513 ?_
      refine L_ld X hp hi2 dL_law_514 ?_
      refine lv_aload_n hx hb dL_law_515 rfl (lv_at hl 3 rfl) ?_
      refine L_H X (c_L_successor_x3 hl0 hxt) tw_21_1 tw_21_2 tw_7_12 tw_21_3 hdd_L_successor (by decide) (by decide) hp hce hl.1 rfl (Nat.le_of_ble_eq_true rfl) dL_law_516 (fun H locs hp => ?_)
      refine lv_istore (lv' := [(5, .int 1), (0, .ref b), (1, .ref (a 0)), (2, .ref (bm 0)), (3, .ref ao), (4, .int x4)]) hx hb dL_law_519 hl (by decide) rfl (fun ls hl => ?_)
      refine lv_aload_n hx hb dL_law_521 rfl (lv_at hl 3 rfl) ?_
      refine lv_aload_n hx hb dL_law_522 rfl (lv_at hl 1 rfl) ?_
      refine lv_iload hx hb dL_law_523 (lv_at hl 5 rfl) ?_
      refine lv_iconst (v := 1) hx hb dL_law_525 (by decide) ?_
      refine lv_iadd hx hb dL_law_526 ?_
      refine L_ld X hp hi1 dL_law_527 ?_
      refine lv_aload_n hx hb dL_law_528 rfl (lv_at hl 1 rfl) ?_
      refine lv_iload hx hb dL_law_529 (lv_at hl 5 rfl) ?_
      refine lv_iconst (v := 2) hx hb dL_law_531 (by decide) ?_
      refine lv_iadd hx hb dL_law_532 ?_
      refine L_ld X hp hi2 dL_law_533 ?_
      refine L_Mi X (c_X7_successor hy) tw_21_19 mw_X7_successor (by decide) hp hce rfl rfl rfl hl.1 rfl (Nat.le_of_ble_eq_true rfl) dL_law_534 (fun H locs hp => ?_)
      refine lv_istore (lv' := [(6, .int bb), (5, .int 1), (0, .ref b), (1, .ref (a 0)), (2, .ref (bm 0)), (3, .ref ao), (4, .int x4)]) hx hb dL_law_537 hl (by decide) rfl (fun ls hl => ?_)
      refine lv_aload_n hx hb dL_law_539 rfl (lv_at hl 4 rfl) ?_
      refine L_Mi X (c_X7_thrown (r := τ1.1 0) rfl) tw_8_13 mw_X7_thrown (by decide) hp hce rfl rfl rfl hl.1 rfl (Nat.le_of_ble_eq_true rfl) dL_law_540 (fun H locs hp => ?_)
      refine lv_iload hx hb dL_law_543 (lv_at hl 1 rfl) ?_
      refine lv_icmp_eq (tgt := 550) hx hb dL_law_545 (by decide) (fun c1 => ?_) (fun c1 => absurd e0 c1)
      refine lv_iload hx hb dL_law_550 (lv_at hl 1 rfl) ?_
      refine lv_if_ne (tgt := 567) hx hb dL_law_552 (by decide) (fun c2 => ?_) (fun c2 => absurd c2 (by decide))
      refine lv_goto (tgt := 1505) hx hb dL_law_567 (by decide) ?_
      exact kk _ _ _ _ _ _ hrel hp (lv_sub hl [2, 3, 4, 5, 6] rfl)
    · refine lv_aload_n hx hb dL_law_502 rfl (lv_at hl 1 rfl) ?_
      refine lv_aload_n hx hb dL_law_503 rfl (lv_at hl 0 rfl) ?_
      refine lv_iload hx hb dL_law_504 (lv_at hl 4 rfl) ?_
      refine lv_iconst (v := 1) hx hb dL_law_506 (by decide) ?_
      refine lv_iadd hx hb dL_law_507 ?_
      refine L_ld X hp hi1 dL_law_508 ?_
      refine lv_aload_n hx hb dL_law_509 rfl (lv_at hl 0 rfl) ?_
      refine lv_iload hx hb dL_law_510 (lv_at hl 4 rfl) ?_
      refine lv_iconst (v := 2) hx hb dL_law_512 (by decide) ?_
      refine lv_iadd hx hb dL_law_513 ?_
      refine L_ld X hp hi2 dL_law_514 ?_
      refine lv_aload_n hx hb dL_law_515 rfl (lv_at hl 3 rfl) ?_
      refine L_H X (c_L_successor_x1 hl0 hxt) tw_21_1 tw_21_2 tw_7_12 tw_21_3 hdd_L_successor (by decide) (by decide) hp hce hl.1 rfl (Nat.le_of_ble_eq_true rfl) dL_law_516 (fun H locs hp => ?_)
      refine lv_istore (lv' := [(5, .int 2), (0, .ref b), (1, .ref (a 0)), (2, .ref (bm 0)), (3, .ref ao), (4, .int x4)]) hx hb dL_law_519 hl (by decide) rfl (fun ls hl => ?_)
      refine lv_aload_n hx hb dL_law_521 rfl (lv_at hl 3 rfl) ?_
      refine lv_aload_n hx hb dL_law_522 rfl (lv_at hl 1 rfl) ?_
      refine lv_iload hx hb dL_law_523 (lv_at hl 5 rfl) ?_
      refine lv_iconst (v := 1) hx hb dL_law_525 (by decide) ?_
      refine lv_iadd hx hb dL_law_526 ?_
      refine L_ld X hp hi1 dL_law_527 ?_
      refine lv_aload_n hx hb dL_law_528 rfl (lv_at hl 1 rfl) ?_
      refine lv_iload hx hb dL_law_529 (lv_at hl 5 rfl) ?_
      refine lv_iconst (v := 2) hx hb dL_law_531 (by decide) ?_
      refine lv_iadd hx hb dL_law_532 ?_
      refine L_ld X hp hi2 dL_law_533 ?_
      refine L_Mi X (c_X7_successor hy) tw_21_19 mw_X7_successor (by decide) hp hce rfl rfl rfl hl.1 rfl (Nat.le_of_ble_eq_true rfl) dL_law_534 (fun H locs hp => ?_)
      refine lv_istore (lv' := [(6, .int bb), (5, .int 2), (0, .ref b), (1, .ref (a 0)), (2, .ref (bm 0)), (3, .ref ao), (4, .int x4)]) hx hb dL_law_537 hl (by decide) rfl (fun ls hl => ?_)
      refine lv_aload_n hx hb dL_law_539 rfl (lv_at hl 4 rfl) ?_
      refine L_Mi X (c_X7_thrown (r := τ1.1 0) rfl) tw_8_13 mw_X7_thrown (by decide) hp hce rfl rfl rfl hl.1 rfl (Nat.le_of_ble_eq_true rfl) dL_law_540 (fun H locs hp => ?_)
      refine lv_iload hx hb dL_law_543 (lv_at hl 1 rfl) ?_
      refine lv_icmp_eq (tgt := 550) hx hb dL_law_545 (by decide) (fun c1 => ?_) (fun c1 => absurd e0 c1)
      refine lv_iload hx hb dL_law_550 (lv_at hl 1 rfl) ?_
      refine lv_if_ne (tgt := 567) hx hb dL_law_552 (by decide) (fun c2 => ?_) (fun c2 => absurd c2 (by decide))
      refine lv_goto (tgt := 1505) hx hb dL_law_567 (by decide) ?_
      exact kk _ _ _ _ _ _ hrel hp (lv_sub hl [2, 3, 4, 5, 6] rfl)
set_option maxRecDepth 20000 in
set_option maxHeartbeats 4000000 in
theorem law_state {p : Program} {l : Launch} {e : Env} {R : Room} {s : State} {m : MethodId} {args : Array Value} {below : List Frame} {meth : Method} {c : Code} {H : Heap} {locs : List Loc} {Q : State → Prop} {D : va_G} {a bm : Nat → Nat} {cA : Nat → ClassId} {t ao b L : Nat} {xs : Nat → Int32} {A : Nat → Prop} {σ τ : St} {cells slots N : Nat} {ls : Array Slot} {f : Nat → Int64} {Rel : St → St → Prop} {x4 : Int32} (hl0 : l.stackTraces = false) (X : LC p R s m args c b L xs D a bm cA ao t A) (hop : Op_state N Rel σ τ) (hp : PL D a bm cA ao A s.heap H locs σ τ f) (hi1 : vp_in (x4 + 1) L) (hi2 : vp_in (x4 + 2) L) (hl : lv_has ls 8 [(0, .ref b), (1, .ref (a 0)), (2, .ref (bm 0)), (3, .ref ao), (4, .int x4)]) (hce : cells + 1 ≤ R.cells ∧ slots + 6 ≤ R.slots)
    (kk : ∀ (σ' τ' : St) (f' : Nat → Int64) (H : Heap) (locs : List Loc) (ls : Array Slot), Rel σ' τ' → PL D a bm cA ao A s.heap H locs σ' τ' f' → lv_has ls 8 [(0, .ref b), (1, .ref (a 0)), (2, .ref (bm 0)), (3, .ref ao), (4, .int x4)] → W p l e R s m args below meth c H locs (cells + 1) (slots + 6) Q (F0 m 1505 ls [])) : W p l e R s m args below meth c H locs cells slots Q (F0 m 570 ls []) := by
  obtain ⟨hx, hb, -⟩ := id X.1
  obtain ⟨bb, τ1, hy, hor⟩ := hop (xs (x4 + 1).toNatClampNeg) (xs (x4 + 2).toNatClampNeg)
  rcases hor with ⟨σ1, hxs, e0, hrel⟩ | ⟨k, cc, σ1, hk, hxt, e0, hrel⟩
  · refine lv_aload_n hx hb dL_law_570 rfl (lv_at hl 1 rfl) ?_
    refine lv_aload_n hx hb dL_law_571 rfl (lv_at hl 0 rfl) ?_
    refine lv_iload hx hb dL_law_572 (lv_at hl 4 rfl) ?_
    refine lv_iconst (v := 1) hx hb dL_law_574 (by decide) ?_
    refine lv_iadd hx hb dL_law_575 ?_
    refine L_ld X hp hi1 dL_law_576 ?_
    refine lv_aload_n hx hb dL_law_577 rfl (lv_at hl 0 rfl) ?_
    refine lv_iload hx hb dL_law_578 (lv_at hl 4 rfl) ?_
    refine lv_iconst (v := 2) hx hb dL_law_580 (by decide) ?_
    refine lv_iadd hx hb dL_law_581 ?_
    refine L_ld X hp hi2 dL_law_582 ?_
    refine lv_aload_n hx hb dL_law_583 rfl (lv_at hl 3 rfl) ?_
    refine L_H X (c_L_state hxs) tw_22_3 tw_22_4 tw_7_12 tw_22_5 hdd_L_state (by decide) (by decide) hp hce hl.1 rfl (Nat.le_of_ble_eq_true rfl) dL_law_584 (fun H locs hp => ?_)
    refine lv_istore (lv' := [(5, .int 0), (0, .ref b), (1, .ref (a 0)), (2, .ref (bm 0)), (3, .ref ao), (4, .int x4)]) hx hb dL_law_587 hl (by decide) rfl (fun ls hl => ?_)
    refine lv_aload_n hx hb dL_law_589 rfl (lv_at hl 3 rfl) ?_
    refine lv_aload_n hx hb dL_law_590 rfl (lv_at hl 1 rfl) ?_
    refine lv_iload hx hb dL_law_591 (lv_at hl 5 rfl) ?_
    refine lv_iconst (v := 1) hx hb dL_law_593 (by decide) ?_
    refine lv_iadd hx hb dL_law_594 ?_
    refine L_ld X hp hi1 dL_law_595 ?_
    refine lv_aload_n hx hb dL_law_596 rfl (lv_at hl 1 rfl) ?_
    refine lv_iload hx hb dL_law_597 (lv_at hl 5 rfl) ?_
    refine lv_iconst (v := 2) hx hb dL_law_599 (by decide) ?_
    refine lv_iadd hx hb dL_law_600 ?_
    refine L_ld X hp hi2 dL_law_601 ?_
    refine L_Mi X (c_X7_state hy) tw_26_6 mw_X7_state (by decide) hp hce rfl rfl rfl hl.1 rfl (Nat.le_of_ble_eq_true rfl) dL_law_602 (fun H locs hp => ?_)
    refine lv_istore (lv' := [(6, .int bb), (5, .int 0), (0, .ref b), (1, .ref (a 0)), (2, .ref (bm 0)), (3, .ref ao), (4, .int x4)]) hx hb dL_law_605 hl (by decide) rfl (fun ls hl => ?_)
    refine lv_aload_n hx hb dL_law_607 rfl (lv_at hl 4 rfl) ?_
    refine L_Mi X (c_X7_thrown (r := τ1.1 0) rfl) tw_8_13 mw_X7_thrown (by decide) hp hce rfl rfl rfl hl.1 rfl (Nat.le_of_ble_eq_true rfl) dL_law_608 (fun H locs hp => ?_)
    refine lv_iload hx hb dL_law_611 (lv_at hl 1 rfl) ?_
    refine lv_icmp_eq (tgt := 618) hx hb dL_law_613 (by decide) (fun c1 => ?_) (fun c1 => absurd e0 c1)
    refine lv_iload hx hb dL_law_618 (lv_at hl 1 rfl) ?_
    refine lv_if_ne (tgt := 635) hx hb dL_law_620 (by decide) (fun c2 => absurd rfl c2) (fun c2 => ?_)
    refine lv_aload_n hx hb dL_law_623 rfl (lv_at hl 5 rfl) ?_
    refine lv_iconst (v := 0) hx hb dL_law_624 (by decide) ?_
    refine L_out X hp dL_law_625 ?_
    refine lv_iload hx hb dL_law_626 (lv_at hl 0 rfl) ?_
    refine lv_i2l hx hb dL_law_628 rfl ?_
    refine W.lcmp hx hb dL_law_629 ?_
    refine lv_if_eq (tgt := 635) hx hb dL_law_630 (by decide) (fun c3 => ?_) (fun c3 => absurd (lcmp0.mpr (show vp_updL f 0 bb.toInt64 0 = bb.toInt64 from if_pos rfl)) c3)
    refine lv_goto (tgt := 1505) hx hb dL_law_635 (by decide) ?_
    exact kk _ _ _ _ _ _ hrel hp (lv_sub hl [2, 3, 4, 5, 6] rfl)
  · rcases hk with ⟨rfl, rfl⟩ | ⟨rfl, rfl⟩
    · refine lv_aload_n hx hb dL_law_570 rfl (lv_at hl 1 rfl) ?_
      refine lv_aload_n hx hb dL_law_571 rfl (lv_at hl 0 rfl) ?_
      refine lv_iload hx hb dL_law_572 (lv_at hl 4 rfl) ?_
      refine lv_iconst (v := 1) hx hb dL_law_574 (by decide) ?_
      refine lv_iadd hx hb dL_law_575 ?_
      refine L_ld X hp hi1 dL_law_576 ?_
      refine lv_aload_n hx hb dL_law_577 rfl (lv_at hl 0 rfl) ?_
      refine lv_iload hx hb dL_law_578 (lv_at hl 4 rfl) ?_
      refine lv_iconst (v := 2) hx hb dL_law_580 (by decide) ?_
      refine lv_iadd hx hb dL_law_581 ?_
      refine L_ld X hp hi2 dL_law_582 ?_
      refine lv_aload_n hx hb dL_law_583 rfl (lv_at hl 3 rfl) ?_
      refine L_H X (c_L_state_x3 hl0 hxt) tw_22_3 tw_22_4 tw_7_12 tw_22_5 hdd_L_state (by decide) (by decide) hp hce hl.1 rfl (Nat.le_of_ble_eq_true rfl) dL_law_584 (fun H locs hp => ?_)
      refine lv_istore (lv' := [(5, .int 1), (0, .ref b), (1, .ref (a 0)), (2, .ref (bm 0)), (3, .ref ao), (4, .int x4)]) hx hb dL_law_587 hl (by decide) rfl (fun ls hl => ?_)
      refine lv_aload_n hx hb dL_law_589 rfl (lv_at hl 3 rfl) ?_
      refine lv_aload_n hx hb dL_law_590 rfl (lv_at hl 1 rfl) ?_
      refine lv_iload hx hb dL_law_591 (lv_at hl 5 rfl) ?_
      refine lv_iconst (v := 1) hx hb dL_law_593 (by decide) ?_
      refine lv_iadd hx hb dL_law_594 ?_
      refine L_ld X hp hi1 dL_law_595 ?_
      refine lv_aload_n hx hb dL_law_596 rfl (lv_at hl 1 rfl) ?_
      refine lv_iload hx hb dL_law_597 (lv_at hl 5 rfl) ?_
      refine lv_iconst (v := 2) hx hb dL_law_599 (by decide) ?_
      refine lv_iadd hx hb dL_law_600 ?_
      refine L_ld X hp hi2 dL_law_601 ?_
      refine L_Mi X (c_X7_state hy) tw_26_6 mw_X7_state (by decide) hp hce rfl rfl rfl hl.1 rfl (Nat.le_of_ble_eq_true rfl) dL_law_602 (fun H locs hp => ?_)
      refine lv_istore (lv' := [(6, .int bb), (5, .int 1), (0, .ref b), (1, .ref (a 0)), (2, .ref (bm 0)), (3, .ref ao), (4, .int x4)]) hx hb dL_law_605 hl (by decide) rfl (fun ls hl => ?_)
      refine lv_aload_n hx hb dL_law_607 rfl (lv_at hl 4 rfl) ?_
      refine L_Mi X (c_X7_thrown (r := τ1.1 0) rfl) tw_8_13 mw_X7_thrown (by decide) hp hce rfl rfl rfl hl.1 rfl (Nat.le_of_ble_eq_true rfl) dL_law_608 (fun H locs hp => ?_)
      refine lv_iload hx hb dL_law_611 (lv_at hl 1 rfl) ?_
      refine lv_icmp_eq (tgt := 618) hx hb dL_law_613 (by decide) (fun c1 => ?_) (fun c1 => absurd e0 c1)
      refine lv_iload hx hb dL_law_618 (lv_at hl 1 rfl) ?_
      refine lv_if_ne (tgt := 635) hx hb dL_law_620 (by decide) (fun c2 => ?_) (fun c2 => absurd c2 (by decide))
      refine lv_goto (tgt := 1505) hx hb dL_law_635 (by decide) ?_
      exact kk _ _ _ _ _ _ hrel hp (lv_sub hl [2, 3, 4, 5, 6] rfl)
    · refine lv_aload_n hx hb dL_law_570 rfl (lv_at hl 1 rfl) ?_
      refine lv_aload_n hx hb dL_law_571 rfl (lv_at hl 0 rfl) ?_
      refine lv_iload hx hb dL_law_572 (lv_at hl 4 rfl) ?_
      refine lv_iconst (v := 1) hx hb dL_law_574 (by decide) ?_
      refine lv_iadd hx hb dL_law_575 ?_
      refine L_ld X hp hi1 dL_law_576 ?_
      refine lv_aload_n hx hb dL_law_577 rfl (lv_at hl 0 rfl) ?_
      refine lv_iload hx hb dL_law_578 (lv_at hl 4 rfl) ?_
      refine lv_iconst (v := 2) hx hb dL_law_580 (by decide) ?_
      refine lv_iadd hx hb dL_law_581 ?_
      refine L_ld X hp hi2 dL_law_582 ?_
      refine lv_aload_n hx hb dL_law_583 rfl (lv_at hl 3 rfl) ?_
      refine L_H X (c_L_state_x1 hl0 hxt) tw_22_3 tw_22_4 tw_7_12 tw_22_5 hdd_L_state (by decide) (by decide) hp hce hl.1 rfl (Nat.le_of_ble_eq_true rfl) dL_law_584 (fun H locs hp => ?_)
      refine lv_istore (lv' := [(5, .int 2), (0, .ref b), (1, .ref (a 0)), (2, .ref (bm 0)), (3, .ref ao), (4, .int x4)]) hx hb dL_law_587 hl (by decide) rfl (fun ls hl => ?_)
      refine lv_aload_n hx hb dL_law_589 rfl (lv_at hl 3 rfl) ?_
      refine lv_aload_n hx hb dL_law_590 rfl (lv_at hl 1 rfl) ?_
      refine lv_iload hx hb dL_law_591 (lv_at hl 5 rfl) ?_
      refine lv_iconst (v := 1) hx hb dL_law_593 (by decide) ?_
      refine lv_iadd hx hb dL_law_594 ?_
      refine L_ld X hp hi1 dL_law_595 ?_
      refine lv_aload_n hx hb dL_law_596 rfl (lv_at hl 1 rfl) ?_
      refine lv_iload hx hb dL_law_597 (lv_at hl 5 rfl) ?_
      refine lv_iconst (v := 2) hx hb dL_law_599 (by decide) ?_
      refine lv_iadd hx hb dL_law_600 ?_
      refine L_ld X hp hi2 dL_law_601 ?_
      refine L_Mi X (c_X7_state hy) tw_26_6 mw_X7_state (by decide) hp hce rfl rfl rfl hl.1 rfl (Nat.le_of_ble_eq_true rfl) dL_law_602 (fun H locs hp => ?_)
      refine lv_istore (lv' := [(6, .int bb), (5, .int 2), (0, .ref b), (1, .ref (a 0)), (2, .ref (bm 0)), (3, .ref ao), (4, .int x4)]) hx hb dL_law_605 hl (by decide) rfl (fun ls hl => ?_)
      refine lv_aload_n hx hb dL_law_607 rfl (lv_at hl 4 rfl) ?_
      refine L_Mi X (c_X7_thrown (r := τ1.1 0) rfl) tw_8_13 mw_X7_thrown (by decide) hp hce rfl rfl rfl hl.1 rfl (Nat.le_of_ble_eq_true rfl) dL_law_608 (fun H locs hp => ?_)
      refine lv_iload hx hb dL_law_611 (lv_at hl 1 rfl) ?_
      refine lv_icmp_eq (tgt := 618) hx hb dL_law_613 (by decide) (fun c1 => ?_) (fun c1 => absurd e0 c1)
      refine lv_iload hx hb dL_law_618 (lv_at hl 1 rfl) ?_
      refine lv_if_ne (tgt := 635) hx hb dL_law_620 (by decide) (fun c2 => ?_) (fun c2 => absurd c2 (by decide))
      refine lv_goto (tgt := 1505) hx hb dL_law_635 (by decide) ?_
      exact kk _ _ _ _ _ _ hrel hp (lv_sub hl [2, 3, 4, 5, 6] rfl)
set_option maxRecDepth 20000 in
set_option maxHeartbeats 4000000 in
theorem law_system {p : Program} {l : Launch} {e : Env} {R : Room} {s : State} {m : MethodId} {args : Array Value} {below : List Frame} {meth : Method} {c : Code} {H : Heap} {locs : List Loc} {Q : State → Prop} {D : va_G} {a bm : Nat → Nat} {cA : Nat → ClassId} {t ao b L : Nat} {xs : Nat → Int32} {A : Nat → Prop} {σ τ : St} {cells slots N : Nat} {ls : Array Slot} {f : Nat → Int64} {Rel : St → St → Prop} {x4 : Int32} (hl0 : l.stackTraces = false) (X : LC p R s m args c b L xs D a bm cA ao t A) (hop : Op_system N Rel σ τ) (hp : PL D a bm cA ao A s.heap H locs σ τ f) (hi1 : vp_in (x4 + 1) L) (hl : lv_has ls 8 [(0, .ref b), (1, .ref (a 0)), (2, .ref (bm 0)), (3, .ref ao), (4, .int x4)]) (hce : cells + 1 ≤ R.cells ∧ slots + 6 ≤ R.slots)
    (kk : ∀ (σ' τ' : St) (f' : Nat → Int64) (H : Heap) (locs : List Loc) (ls : Array Slot), Rel σ' τ' → PL D a bm cA ao A s.heap H locs σ' τ' f' → lv_has ls 8 [(0, .ref b), (1, .ref (a 0)), (2, .ref (bm 0)), (3, .ref ao), (4, .int x4)] → W p l e R s m args below meth c H locs (cells + 1) (slots + 6) Q (F0 m 1505 ls [])) : W p l e R s m args below meth c H locs cells slots Q (F0 m 638 ls []) := by
  obtain ⟨hx, hb, -⟩ := id X.1
  obtain ⟨bb, τ1, hy, hor⟩ := hop (xs (x4 + 1).toNatClampNeg)
  rcases hor with ⟨σ1, hxs, e0, hrel⟩ | ⟨k, cc, σ1, hk, hxt, e0, hrel⟩
  · refine lv_aload_n hx hb dL_law_638 rfl (lv_at hl 1 rfl) ?_
    refine lv_aload_n hx hb dL_law_639 rfl (lv_at hl 0 rfl) ?_
    refine lv_iload hx hb dL_law_640 (lv_at hl 4 rfl) ?_
    refine lv_iconst (v := 1) hx hb dL_law_642 (by decide) ?_
    refine lv_iadd hx hb dL_law_643 ?_
    refine L_ld X hp hi1 dL_law_644 ?_
    refine lv_aload_n hx hb dL_law_645 rfl (lv_at hl 3 rfl) ?_
    refine L_H X (c_L_system hxs) tw_28_1 tw_28_2 tw_7_12 tw_28_3 hdd_L_system (by decide) (by decide) hp hce hl.1 rfl (Nat.le_of_ble_eq_true rfl) dL_law_646 (fun H locs hp => ?_)
    refine lv_istore (lv' := [(5, .int 0), (0, .ref b), (1, .ref (a 0)), (2, .ref (bm 0)), (3, .ref ao), (4, .int x4)]) hx hb dL_law_649 hl (by decide) rfl (fun ls hl => ?_)
    refine lv_aload_n hx hb dL_law_651 rfl (lv_at hl 3 rfl) ?_
    refine lv_aload_n hx hb dL_law_652 rfl (lv_at hl 1 rfl) ?_
    refine lv_iload hx hb dL_law_653 (lv_at hl 5 rfl) ?_
    refine lv_iconst (v := 1) hx hb dL_law_655 (by decide) ?_
    refine lv_iadd hx hb dL_law_656 ?_
    refine L_ld X hp hi1 dL_law_657 ?_
    refine L_Mi X (c_X7_system hy) tw_28_15 mw_X7_system (by decide) hp hce rfl rfl rfl hl.1 rfl (Nat.le_of_ble_eq_true rfl) dL_law_658 (fun H locs hp => ?_)
    refine lv_istore (lv' := [(6, .int bb), (5, .int 0), (0, .ref b), (1, .ref (a 0)), (2, .ref (bm 0)), (3, .ref ao), (4, .int x4)]) hx hb dL_law_661 hl (by decide) rfl (fun ls hl => ?_)
    refine lv_aload_n hx hb dL_law_663 rfl (lv_at hl 4 rfl) ?_
    refine L_Mi X (c_X7_thrown (r := τ1.1 0) rfl) tw_8_13 mw_X7_thrown (by decide) hp hce rfl rfl rfl hl.1 rfl (Nat.le_of_ble_eq_true rfl) dL_law_664 (fun H locs hp => ?_)
    refine lv_iload hx hb dL_law_667 (lv_at hl 1 rfl) ?_
    refine lv_icmp_eq (tgt := 674) hx hb dL_law_669 (by decide) (fun c1 => ?_) (fun c1 => absurd e0 c1)
    refine lv_iload hx hb dL_law_674 (lv_at hl 1 rfl) ?_
    refine lv_if_ne (tgt := 691) hx hb dL_law_676 (by decide) (fun c2 => absurd rfl c2) (fun c2 => ?_)
    refine lv_aload_n hx hb dL_law_679 rfl (lv_at hl 5 rfl) ?_
    refine lv_iconst (v := 0) hx hb dL_law_680 (by decide) ?_
    refine L_out X hp dL_law_681 ?_
    refine lv_iload hx hb dL_law_682 (lv_at hl 0 rfl) ?_
    refine lv_i2l hx hb dL_law_684 rfl ?_
    refine W.lcmp hx hb dL_law_685 ?_
    refine lv_if_eq (tgt := 691) hx hb dL_law_686 (by decide) (fun c3 => ?_) (fun c3 => absurd (lcmp0.mpr (show vp_updL f 0 bb.toInt64 0 = bb.toInt64 from if_pos rfl)) c3)
    refine lv_goto (tgt := 1505) hx hb dL_law_691 (by decide) ?_
    exact kk _ _ _ _ _ _ hrel hp (lv_sub hl [2, 3, 4, 5, 6] rfl)
  · rcases hk with ⟨rfl, rfl⟩
    refine lv_aload_n hx hb dL_law_638 rfl (lv_at hl 1 rfl) ?_
    refine lv_aload_n hx hb dL_law_639 rfl (lv_at hl 0 rfl) ?_
    refine lv_iload hx hb dL_law_640 (lv_at hl 4 rfl) ?_
    refine lv_iconst (v := 1) hx hb dL_law_642 (by decide) ?_
    refine lv_iadd hx hb dL_law_643 ?_
    refine L_ld X hp hi1 dL_law_644 ?_
    refine lv_aload_n hx hb dL_law_645 rfl (lv_at hl 3 rfl) ?_
    refine L_H X (c_L_system_x1 hl0 hxt) tw_28_1 tw_28_2 tw_7_12 tw_28_3 hdd_L_system (by decide) (by decide) hp hce hl.1 rfl (Nat.le_of_ble_eq_true rfl) dL_law_646 (fun H locs hp => ?_)
    refine lv_istore (lv' := [(5, .int 1), (0, .ref b), (1, .ref (a 0)), (2, .ref (bm 0)), (3, .ref ao), (4, .int x4)]) hx hb dL_law_649 hl (by decide) rfl (fun ls hl => ?_)
    refine lv_aload_n hx hb dL_law_651 rfl (lv_at hl 3 rfl) ?_
    refine lv_aload_n hx hb dL_law_652 rfl (lv_at hl 1 rfl) ?_
    refine lv_iload hx hb dL_law_653 (lv_at hl 5 rfl) ?_
    refine lv_iconst (v := 1) hx hb dL_law_655 (by decide) ?_
    refine lv_iadd hx hb dL_law_656 ?_
    refine L_ld X hp hi1 dL_law_657 ?_
    refine L_Mi X (c_X7_system hy) tw_28_15 mw_X7_system (by decide) hp hce rfl rfl rfl hl.1 rfl (Nat.le_of_ble_eq_true rfl) dL_law_658 (fun H locs hp => ?_)
    refine lv_istore (lv' := [(6, .int bb), (5, .int 1), (0, .ref b), (1, .ref (a 0)), (2, .ref (bm 0)), (3, .ref ao), (4, .int x4)]) hx hb dL_law_661 hl (by decide) rfl (fun ls hl => ?_)
    refine lv_aload_n hx hb dL_law_663 rfl (lv_at hl 4 rfl) ?_
    refine L_Mi X (c_X7_thrown (r := τ1.1 0) rfl) tw_8_13 mw_X7_thrown (by decide) hp hce rfl rfl rfl hl.1 rfl (Nat.le_of_ble_eq_true rfl) dL_law_664 (fun H locs hp => ?_)
    refine lv_iload hx hb dL_law_667 (lv_at hl 1 rfl) ?_
    refine lv_icmp_eq (tgt := 674) hx hb dL_law_669 (by decide) (fun c1 => ?_) (fun c1 => absurd e0 c1)
    refine lv_iload hx hb dL_law_674 (lv_at hl 1 rfl) ?_
    refine lv_if_ne (tgt := 691) hx hb dL_law_676 (by decide) (fun c2 => ?_) (fun c2 => absurd c2 (by decide))
    refine lv_goto (tgt := 1505) hx hb dL_law_691 (by decide) ?_
    exact kk _ _ _ _ _ _ hrel hp (lv_sub hl [2, 3, 4, 5, 6] rfl)
set_option maxRecDepth 20000 in
set_option maxHeartbeats 4000000 in
theorem law_shortest {p : Program} {l : Launch} {e : Env} {R : Room} {s : State} {m : MethodId} {args : Array Value} {below : List Frame} {meth : Method} {c : Code} {H : Heap} {locs : List Loc} {Q : State → Prop} {D : va_G} {a bm : Nat → Nat} {cA : Nat → ClassId} {t ao b L : Nat} {xs : Nat → Int32} {A : Nat → Prop} {σ τ : St} {cells slots N : Nat} {ls : Array Slot} {f : Nat → Int64} {Rel : St → St → Prop} {x4 : Int32} (hl0 : l.stackTraces = false) (X : LC p R s m args c b L xs D a bm cA ao t A) (hop : Op_shortest N Rel σ τ) (hp : PL D a bm cA ao A s.heap H locs σ τ f) (hi1 : vp_in (x4 + 1) L) (hi2 : vp_in (x4 + 2) L) (hl : lv_has ls 8 [(0, .ref b), (1, .ref (a 0)), (2, .ref (bm 0)), (3, .ref ao), (4, .int x4)]) (hce : cells + 1 ≤ R.cells ∧ slots + 6 ≤ R.slots)
    (kk : ∀ (σ' τ' : St) (f' : Nat → Int64) (H : Heap) (locs : List Loc) (ls : Array Slot), Rel σ' τ' → PL D a bm cA ao A s.heap H locs σ' τ' f' → lv_has ls 8 [(0, .ref b), (1, .ref (a 0)), (2, .ref (bm 0)), (3, .ref ao), (4, .int x4)] → W p l e R s m args below meth c H locs (cells + 1) (slots + 6) Q (F0 m 1505 ls [])) : W p l e R s m args below meth c H locs cells slots Q (F0 m 694 ls []) := by
  obtain ⟨hx, hb, -⟩ := id X.1
  obtain ⟨bb, τ1, hy, hor⟩ := hop (xs (x4 + 1).toNatClampNeg) (xs (x4 + 2).toNatClampNeg)
  rcases hor with ⟨σ1, hxs, e0, hrel⟩ | ⟨k, cc, σ1, hk, hxt, e0, hrel⟩
  · refine lv_aload_n hx hb dL_law_694 rfl (lv_at hl 1 rfl) ?_
    refine lv_aload_n hx hb dL_law_695 rfl (lv_at hl 0 rfl) ?_
    refine lv_iload hx hb dL_law_696 (lv_at hl 4 rfl) ?_
    refine lv_iconst (v := 1) hx hb dL_law_698 (by decide) ?_
    refine lv_iadd hx hb dL_law_699 ?_
    refine L_ld X hp hi1 dL_law_700 ?_
    refine lv_aload_n hx hb dL_law_701 rfl (lv_at hl 0 rfl) ?_
    refine lv_iload hx hb dL_law_702 (lv_at hl 4 rfl) ?_
    refine lv_iconst (v := 2) hx hb dL_law_704 (by decide) ?_
    refine lv_iadd hx hb dL_law_705 ?_
    refine L_ld X hp hi2 dL_law_706 ?_
    refine lv_aload_n hx hb dL_law_707 rfl (lv_at hl 3 rfl) ?_
    refine L_H X (c_L_shortest hxs) tw_29_11 tw_29_12 tw_7_12 tw_29_13 hdd_L_shortest (by decide) (by decide) hp hce hl.1 rfl (Nat.le_of_ble_eq_true rfl) dL_law_708 (fun H locs hp => ?_)
    refine lv_istore (lv' := [(5, .int 0), (0, .ref b), (1, .ref (a 0)), (2, .ref (bm 0)), (3, .ref ao), (4, .int x4)]) hx hb dL_law_711 hl (by decide) rfl (fun ls hl => ?_)
    refine lv_aload_n hx hb dL_law_713 rfl (lv_at hl 3 rfl) ?_
    refine lv_aload_n hx hb dL_law_714 rfl (lv_at hl 1 rfl) ?_
    refine lv_iload hx hb dL_law_715 (lv_at hl 5 rfl) ?_
    refine lv_iconst (v := 1) hx hb dL_law_717 (by decide) ?_
    refine lv_iadd hx hb dL_law_718 ?_
    refine L_ld X hp hi1 dL_law_719 ?_
    refine lv_aload_n hx hb dL_law_720 rfl (lv_at hl 1 rfl) ?_
    refine lv_iload hx hb dL_law_721 (lv_at hl 5 rfl) ?_
    refine lv_iconst (v := 2) hx hb dL_law_723 (by decide) ?_
    refine lv_iadd hx hb dL_law_724 ?_
    refine L_ld X hp hi2 dL_law_725 ?_
    refine L_Mi X (c_X7_shortest hy) tw_30_11 mw_X7_shortest (by decide) hp hce rfl rfl rfl hl.1 rfl (Nat.le_of_ble_eq_true rfl) dL_law_726 (fun H locs hp => ?_)
    refine lv_istore (lv' := [(6, .int bb), (5, .int 0), (0, .ref b), (1, .ref (a 0)), (2, .ref (bm 0)), (3, .ref ao), (4, .int x4)]) hx hb dL_law_729 hl (by decide) rfl (fun ls hl => ?_)
    refine lv_aload_n hx hb dL_law_731 rfl (lv_at hl 4 rfl) ?_
    refine L_Mi X (c_X7_thrown (r := τ1.1 0) rfl) tw_8_13 mw_X7_thrown (by decide) hp hce rfl rfl rfl hl.1 rfl (Nat.le_of_ble_eq_true rfl) dL_law_732 (fun H locs hp => ?_)
    refine lv_iload hx hb dL_law_735 (lv_at hl 1 rfl) ?_
    refine lv_icmp_eq (tgt := 742) hx hb dL_law_737 (by decide) (fun c1 => ?_) (fun c1 => absurd e0 c1)
    refine lv_iload hx hb dL_law_742 (lv_at hl 1 rfl) ?_
    refine lv_if_ne (tgt := 759) hx hb dL_law_744 (by decide) (fun c2 => absurd rfl c2) (fun c2 => ?_)
    refine lv_aload_n hx hb dL_law_747 rfl (lv_at hl 5 rfl) ?_
    refine lv_iconst (v := 0) hx hb dL_law_748 (by decide) ?_
    refine L_out X hp dL_law_749 ?_
    refine lv_iload hx hb dL_law_750 (lv_at hl 0 rfl) ?_
    refine lv_i2l hx hb dL_law_752 rfl ?_
    refine W.lcmp hx hb dL_law_753 ?_
    refine lv_if_eq (tgt := 759) hx hb dL_law_754 (by decide) (fun c3 => ?_) (fun c3 => absurd (lcmp0.mpr (show vp_updL f 0 bb.toInt64 0 = bb.toInt64 from if_pos rfl)) c3)
    refine lv_goto (tgt := 1505) hx hb dL_law_759 (by decide) ?_
    exact kk _ _ _ _ _ _ hrel hp (lv_sub hl [2, 3, 4, 5, 6] rfl)
  · rcases hk with ⟨rfl, rfl⟩ | ⟨rfl, rfl⟩ | ⟨rfl, rfl⟩
    · refine lv_aload_n hx hb dL_law_694 rfl (lv_at hl 1 rfl) ?_
      refine lv_aload_n hx hb dL_law_695 rfl (lv_at hl 0 rfl) ?_
      refine lv_iload hx hb dL_law_696 (lv_at hl 4 rfl) ?_
      refine lv_iconst (v := 1) hx hb dL_law_698 (by decide) ?_
      refine lv_iadd hx hb dL_law_699 ?_
      refine L_ld X hp hi1 dL_law_700 ?_
      refine lv_aload_n hx hb dL_law_701 rfl (lv_at hl 0 rfl) ?_
      refine lv_iload hx hb dL_law_702 (lv_at hl 4 rfl) ?_
      refine lv_iconst (v := 2) hx hb dL_law_704 (by decide) ?_
      refine lv_iadd hx hb dL_law_705 ?_
      refine L_ld X hp hi2 dL_law_706 ?_
      refine lv_aload_n hx hb dL_law_707 rfl (lv_at hl 3 rfl) ?_
      refine L_H X (c_L_shortest_x2 hl0 hxt) tw_29_11 tw_29_12 tw_7_12 tw_29_13 hdd_L_shortest (by decide) (by decide) hp hce hl.1 rfl (Nat.le_of_ble_eq_true rfl) dL_law_708 (fun H locs hp => ?_)
      refine lv_istore (lv' := [(5, .int 1), (0, .ref b), (1, .ref (a 0)), (2, .ref (bm 0)), (3, .ref ao), (4, .int x4)]) hx hb dL_law_711 hl (by decide) rfl (fun ls hl => ?_)
      refine lv_aload_n hx hb dL_law_713 rfl (lv_at hl 3 rfl) ?_
      refine lv_aload_n hx hb dL_law_714 rfl (lv_at hl 1 rfl) ?_
      refine lv_iload hx hb dL_law_715 (lv_at hl 5 rfl) ?_
      refine lv_iconst (v := 1) hx hb dL_law_717 (by decide) ?_
      refine lv_iadd hx hb dL_law_718 ?_
      refine L_ld X hp hi1 dL_law_719 ?_
      refine lv_aload_n hx hb dL_law_720 rfl (lv_at hl 1 rfl) ?_
      refine lv_iload hx hb dL_law_721 (lv_at hl 5 rfl) ?_
      refine lv_iconst (v := 2) hx hb dL_law_723 (by decide) ?_
      refine lv_iadd hx hb dL_law_724 ?_
      refine L_ld X hp hi2 dL_law_725 ?_
      refine L_Mi X (c_X7_shortest hy) tw_30_11 mw_X7_shortest (by decide) hp hce rfl rfl rfl hl.1 rfl (Nat.le_of_ble_eq_true rfl) dL_law_726 (fun H locs hp => ?_)
      refine lv_istore (lv' := [(6, .int bb), (5, .int 1), (0, .ref b), (1, .ref (a 0)), (2, .ref (bm 0)), (3, .ref ao), (4, .int x4)]) hx hb dL_law_729 hl (by decide) rfl (fun ls hl => ?_)
      refine lv_aload_n hx hb dL_law_731 rfl (lv_at hl 4 rfl) ?_
      refine L_Mi X (c_X7_thrown (r := τ1.1 0) rfl) tw_8_13 mw_X7_thrown (by decide) hp hce rfl rfl rfl hl.1 rfl (Nat.le_of_ble_eq_true rfl) dL_law_732 (fun H locs hp => ?_)
      refine lv_iload hx hb dL_law_735 (lv_at hl 1 rfl) ?_
      refine lv_icmp_eq (tgt := 742) hx hb dL_law_737 (by decide) (fun c1 => ?_) (fun c1 => absurd e0 c1)
      refine lv_iload hx hb dL_law_742 (lv_at hl 1 rfl) ?_
      refine lv_if_ne (tgt := 759) hx hb dL_law_744 (by decide) (fun c2 => ?_) (fun c2 => absurd c2 (by decide))
      refine lv_goto (tgt := 1505) hx hb dL_law_759 (by decide) ?_
      exact kk _ _ _ _ _ _ hrel hp (lv_sub hl [2, 3, 4, 5, 6] rfl)
    · refine lv_aload_n hx hb dL_law_694 rfl (lv_at hl 1 rfl) ?_
      refine lv_aload_n hx hb dL_law_695 rfl (lv_at hl 0 rfl) ?_
      refine lv_iload hx hb dL_law_696 (lv_at hl 4 rfl) ?_
      refine lv_iconst (v := 1) hx hb dL_law_698 (by decide) ?_
      refine lv_iadd hx hb dL_law_699 ?_
      refine L_ld X hp hi1 dL_law_700 ?_
      refine lv_aload_n hx hb dL_law_701 rfl (lv_at hl 0 rfl) ?_
      refine lv_iload hx hb dL_law_702 (lv_at hl 4 rfl) ?_
      refine lv_iconst (v := 2) hx hb dL_law_704 (by decide) ?_
      refine lv_iadd hx hb dL_law_705 ?_
      refine L_ld X hp hi2 dL_law_706 ?_
      refine lv_aload_n hx hb dL_law_707 rfl (lv_at hl 3 rfl) ?_
      refine L_H X (c_L_shortest_x3 hl0 hxt) tw_29_11 tw_29_12 tw_7_12 tw_29_13 hdd_L_shortest (by decide) (by decide) hp hce hl.1 rfl (Nat.le_of_ble_eq_true rfl) dL_law_708 (fun H locs hp => ?_)
      refine lv_istore (lv' := [(5, .int 2), (0, .ref b), (1, .ref (a 0)), (2, .ref (bm 0)), (3, .ref ao), (4, .int x4)]) hx hb dL_law_711 hl (by decide) rfl (fun ls hl => ?_)
      refine lv_aload_n hx hb dL_law_713 rfl (lv_at hl 3 rfl) ?_
      refine lv_aload_n hx hb dL_law_714 rfl (lv_at hl 1 rfl) ?_
      refine lv_iload hx hb dL_law_715 (lv_at hl 5 rfl) ?_
      refine lv_iconst (v := 1) hx hb dL_law_717 (by decide) ?_
      refine lv_iadd hx hb dL_law_718 ?_
      refine L_ld X hp hi1 dL_law_719 ?_
      refine lv_aload_n hx hb dL_law_720 rfl (lv_at hl 1 rfl) ?_
      refine lv_iload hx hb dL_law_721 (lv_at hl 5 rfl) ?_
      refine lv_iconst (v := 2) hx hb dL_law_723 (by decide) ?_
      refine lv_iadd hx hb dL_law_724 ?_
      refine L_ld X hp hi2 dL_law_725 ?_
      refine L_Mi X (c_X7_shortest hy) tw_30_11 mw_X7_shortest (by decide) hp hce rfl rfl rfl hl.1 rfl (Nat.le_of_ble_eq_true rfl) dL_law_726 (fun H locs hp => ?_)
      refine lv_istore (lv' := [(6, .int bb), (5, .int 2), (0, .ref b), (1, .ref (a 0)), (2, .ref (bm 0)), (3, .ref ao), (4, .int x4)]) hx hb dL_law_729 hl (by decide) rfl (fun ls hl => ?_)
      refine lv_aload_n hx hb dL_law_731 rfl (lv_at hl 4 rfl) ?_
      refine L_Mi X (c_X7_thrown (r := τ1.1 0) rfl) tw_8_13 mw_X7_thrown (by decide) hp hce rfl rfl rfl hl.1 rfl (Nat.le_of_ble_eq_true rfl) dL_law_732 (fun H locs hp => ?_)
      refine lv_iload hx hb dL_law_735 (lv_at hl 1 rfl) ?_
      refine lv_icmp_eq (tgt := 742) hx hb dL_law_737 (by decide) (fun c1 => ?_) (fun c1 => absurd e0 c1)
      refine lv_iload hx hb dL_law_742 (lv_at hl 1 rfl) ?_
      refine lv_if_ne (tgt := 759) hx hb dL_law_744 (by decide) (fun c2 => ?_) (fun c2 => absurd c2 (by decide))
      refine lv_goto (tgt := 1505) hx hb dL_law_759 (by decide) ?_
      exact kk _ _ _ _ _ _ hrel hp (lv_sub hl [2, 3, 4, 5, 6] rfl)
    · refine lv_aload_n hx hb dL_law_694 rfl (lv_at hl 1 rfl) ?_
      refine lv_aload_n hx hb dL_law_695 rfl (lv_at hl 0 rfl) ?_
      refine lv_iload hx hb dL_law_696 (lv_at hl 4 rfl) ?_
      refine lv_iconst (v := 1) hx hb dL_law_698 (by decide) ?_
      refine lv_iadd hx hb dL_law_699 ?_
      refine L_ld X hp hi1 dL_law_700 ?_
      refine lv_aload_n hx hb dL_law_701 rfl (lv_at hl 0 rfl) ?_
      refine lv_iload hx hb dL_law_702 (lv_at hl 4 rfl) ?_
      refine lv_iconst (v := 2) hx hb dL_law_704 (by decide) ?_
      refine lv_iadd hx hb dL_law_705 ?_
      refine L_ld X hp hi2 dL_law_706 ?_
      refine lv_aload_n hx hb dL_law_707 rfl (lv_at hl 3 rfl) ?_
      refine L_H X (c_L_shortest_x1 hl0 hxt) tw_29_11 tw_29_12 tw_7_12 tw_29_13 hdd_L_shortest (by decide) (by decide) hp hce hl.1 rfl (Nat.le_of_ble_eq_true rfl) dL_law_708 (fun H locs hp => ?_)
      refine lv_istore (lv' := [(5, .int 3), (0, .ref b), (1, .ref (a 0)), (2, .ref (bm 0)), (3, .ref ao), (4, .int x4)]) hx hb dL_law_711 hl (by decide) rfl (fun ls hl => ?_)
      refine lv_aload_n hx hb dL_law_713 rfl (lv_at hl 3 rfl) ?_
      refine lv_aload_n hx hb dL_law_714 rfl (lv_at hl 1 rfl) ?_
      refine lv_iload hx hb dL_law_715 (lv_at hl 5 rfl) ?_
      refine lv_iconst (v := 1) hx hb dL_law_717 (by decide) ?_
      refine lv_iadd hx hb dL_law_718 ?_
      refine L_ld X hp hi1 dL_law_719 ?_
      refine lv_aload_n hx hb dL_law_720 rfl (lv_at hl 1 rfl) ?_
      refine lv_iload hx hb dL_law_721 (lv_at hl 5 rfl) ?_
      refine lv_iconst (v := 2) hx hb dL_law_723 (by decide) ?_
      refine lv_iadd hx hb dL_law_724 ?_
      refine L_ld X hp hi2 dL_law_725 ?_
      refine L_Mi X (c_X7_shortest hy) tw_30_11 mw_X7_shortest (by decide) hp hce rfl rfl rfl hl.1 rfl (Nat.le_of_ble_eq_true rfl) dL_law_726 (fun H locs hp => ?_)
      refine lv_istore (lv' := [(6, .int bb), (5, .int 3), (0, .ref b), (1, .ref (a 0)), (2, .ref (bm 0)), (3, .ref ao), (4, .int x4)]) hx hb dL_law_729 hl (by decide) rfl (fun ls hl => ?_)
      refine lv_aload_n hx hb dL_law_731 rfl (lv_at hl 4 rfl) ?_
      refine L_Mi X (c_X7_thrown (r := τ1.1 0) rfl) tw_8_13 mw_X7_thrown (by decide) hp hce rfl rfl rfl hl.1 rfl (Nat.le_of_ble_eq_true rfl) dL_law_732 (fun H locs hp => ?_)
      refine lv_iload hx hb dL_law_735 (lv_at hl 1 rfl) ?_
      refine lv_icmp_eq (tgt := 742) hx hb dL_law_737 (by decide) (fun c1 => ?_) (fun c1 => absurd e0 c1)
      refine lv_iload hx hb dL_law_742 (lv_at hl 1 rfl) ?_
      refine lv_if_ne (tgt := 759) hx hb dL_law_744 (by decide) (fun c2 => ?_) (fun c2 => absurd c2 (by decide))
      refine lv_goto (tgt := 1505) hx hb dL_law_759 (by decide) ?_
      exact kk _ _ _ _ _ _ hrel hp (lv_sub hl [2, 3, 4, 5, 6] rfl)
set_option maxRecDepth 20000 in
set_option maxHeartbeats 4000000 in
theorem law_candidate {p : Program} {l : Launch} {e : Env} {R : Room} {s : State} {m : MethodId} {args : Array Value} {below : List Frame} {meth : Method} {c : Code} {H : Heap} {locs : List Loc} {Q : State → Prop} {D : va_G} {a bm : Nat → Nat} {cA : Nat → ClassId} {t ao b L : Nat} {xs : Nat → Int32} {A : Nat → Prop} {σ τ : St} {cells slots N : Nat} {ls : Array Slot} {f : Nat → Int64} {Rel : St → St → Prop} {x4 : Int32} (hl0 : l.stackTraces = false) (X : LC p R s m args c b L xs D a bm cA ao t A) (hop : Op_candidate N Rel σ τ) (hp : PL D a bm cA ao A s.heap H locs σ τ f)  (hl : lv_has ls 8 [(0, .ref b), (1, .ref (a 0)), (2, .ref (bm 0)), (3, .ref ao), (4, .int x4)]) (hce : cells + 1 ≤ R.cells ∧ slots + 6 ≤ R.slots)
    (kk : ∀ (σ' τ' : St) (f' : Nat → Int64) (H : Heap) (locs : List Loc) (ls : Array Slot), Rel σ' τ' → PL D a bm cA ao A s.heap H locs σ' τ' f' → lv_has ls 8 [(0, .ref b), (1, .ref (a 0)), (2, .ref (bm 0)), (3, .ref ao), (4, .int x4)] → W p l e R s m args below meth c H locs (cells + 1) (slots + 6) Q (F0 m 1505 ls [])) : W p l e R s m args below meth c H locs cells slots Q (F0 m 762 ls []) := by
  obtain ⟨hx, hb, -⟩ := id X.1
  obtain ⟨bb, τ1, hy, hor⟩ := hop
  rcases hor with ⟨σ1, hxs, e0, hrel⟩ | ⟨k, cc, σ1, hk, hxt, e0, hrel⟩
  · refine lv_aload_n hx hb dL_law_762 rfl (lv_at hl 1 rfl) ?_
    refine lv_aload_n hx hb dL_law_763 rfl (lv_at hl 3 rfl) ?_
    refine L_H X (c_L_candidate hxs) tw_31_3 tw_31_4 tw_7_12 tw_31_5 hdd_L_candidate (by decide) (by decide) hp hce hl.1 rfl (Nat.le_of_ble_eq_true rfl) dL_law_764 (fun H locs hp => ?_)
    refine lv_istore (lv' := [(5, .int 0), (0, .ref b), (1, .ref (a 0)), (2, .ref (bm 0)), (3, .ref ao), (4, .int x4)]) hx hb dL_law_767 hl (by decide) rfl (fun ls hl => ?_)
    refine lv_aload_n hx hb dL_law_769 rfl (lv_at hl 3 rfl) ?_
    refine L_Ml X (c_X7_candidate hy) tw_31_16 mw_X7_candidate (by decide) hp hce rfl rfl rfl hl.1 rfl (Nat.le_of_ble_eq_true rfl) dL_law_770 (fun H locs hp => ?_)
    refine lv_lstore (lv' := [(6, .long bb), (5, .int 0), (0, .ref b), (1, .ref (a 0)), (2, .ref (bm 0)), (3, .ref ao), (4, .int x4)]) hx hb dL_law_773 hl (by decide) rfl (fun ls hl => ?_)
    refine lv_aload_n hx hb dL_law_775 rfl (lv_at hl 4 rfl) ?_
    refine L_Mi X (c_X7_thrown (r := τ1.1 0) rfl) tw_8_13 mw_X7_thrown (by decide) hp hce rfl rfl rfl hl.1 rfl (Nat.le_of_ble_eq_true rfl) dL_law_776 (fun H locs hp => ?_)
    refine lv_iload hx hb dL_law_779 (lv_at hl 1 rfl) ?_
    refine lv_icmp_eq (tgt := 786) hx hb dL_law_781 (by decide) (fun c1 => ?_) (fun c1 => absurd e0 c1)
    refine lv_iload hx hb dL_law_786 (lv_at hl 1 rfl) ?_
    refine lv_if_ne (tgt := 802) hx hb dL_law_788 (by decide) (fun c2 => absurd rfl c2) (fun c2 => ?_)
    refine lv_aload_n hx hb dL_law_791 rfl (lv_at hl 5 rfl) ?_
    refine lv_iconst (v := 0) hx hb dL_law_792 (by decide) ?_
    refine L_out X hp dL_law_793 ?_
    refine lv_lload hx hb dL_law_794 (lv_at hl 0 rfl) ?_
    refine W.lcmp hx hb dL_law_796 ?_
    refine lv_if_eq (tgt := 802) hx hb dL_law_797 (by decide) (fun c3 => ?_) (fun c3 => absurd (lcmp0.mpr (show vp_updL f 0 bb 0 = bb from if_pos rfl)) c3)
    refine lv_goto (tgt := 1505) hx hb dL_law_802 (by decide) ?_
    exact kk _ _ _ _ _ _ hrel hp (lv_sub hl [2, 3, 4, 5, 6] rfl)
  · rcases hk with ⟨rfl, rfl⟩
    refine lv_aload_n hx hb dL_law_762 rfl (lv_at hl 1 rfl) ?_
    refine lv_aload_n hx hb dL_law_763 rfl (lv_at hl 3 rfl) ?_
    refine L_H X (c_L_candidate_x2 hl0 hxt) tw_31_3 tw_31_4 tw_7_12 tw_31_5 hdd_L_candidate (by decide) (by decide) hp hce hl.1 rfl (Nat.le_of_ble_eq_true rfl) dL_law_764 (fun H locs hp => ?_)
    refine lv_istore (lv' := [(5, .int 1), (0, .ref b), (1, .ref (a 0)), (2, .ref (bm 0)), (3, .ref ao), (4, .int x4)]) hx hb dL_law_767 hl (by decide) rfl (fun ls hl => ?_)
    refine lv_aload_n hx hb dL_law_769 rfl (lv_at hl 3 rfl) ?_
    refine L_Ml X (c_X7_candidate hy) tw_31_16 mw_X7_candidate (by decide) hp hce rfl rfl rfl hl.1 rfl (Nat.le_of_ble_eq_true rfl) dL_law_770 (fun H locs hp => ?_)
    refine lv_lstore (lv' := [(6, .long bb), (5, .int 1), (0, .ref b), (1, .ref (a 0)), (2, .ref (bm 0)), (3, .ref ao), (4, .int x4)]) hx hb dL_law_773 hl (by decide) rfl (fun ls hl => ?_)
    refine lv_aload_n hx hb dL_law_775 rfl (lv_at hl 4 rfl) ?_
    refine L_Mi X (c_X7_thrown (r := τ1.1 0) rfl) tw_8_13 mw_X7_thrown (by decide) hp hce rfl rfl rfl hl.1 rfl (Nat.le_of_ble_eq_true rfl) dL_law_776 (fun H locs hp => ?_)
    refine lv_iload hx hb dL_law_779 (lv_at hl 1 rfl) ?_
    refine lv_icmp_eq (tgt := 786) hx hb dL_law_781 (by decide) (fun c1 => ?_) (fun c1 => absurd e0 c1)
    refine lv_iload hx hb dL_law_786 (lv_at hl 1 rfl) ?_
    refine lv_if_ne (tgt := 802) hx hb dL_law_788 (by decide) (fun c2 => ?_) (fun c2 => absurd c2 (by decide))
    refine lv_goto (tgt := 1505) hx hb dL_law_802 (by decide) ?_
    exact kk _ _ _ _ _ _ hrel hp (lv_sub hl [2, 3, 4, 5, 6] rfl)
set_option maxRecDepth 20000 in
set_option maxHeartbeats 4000000 in
theorem law_check {p : Program} {l : Launch} {e : Env} {R : Room} {s : State} {m : MethodId} {args : Array Value} {below : List Frame} {meth : Method} {c : Code} {H : Heap} {locs : List Loc} {Q : State → Prop} {D : va_G} {a bm : Nat → Nat} {cA : Nat → ClassId} {t ao b L : Nat} {xs : Nat → Int32} {A : Nat → Prop} {σ τ : St} {cells slots N : Nat} {ls : Array Slot} {f : Nat → Int64} {Rel : St → St → Prop} {x4 : Int32} (hl0 : l.stackTraces = false) (X : LC p R s m args c b L xs D a bm cA ao t A) (hop : Op_check N Rel σ τ) (hp : PL D a bm cA ao A s.heap H locs σ τ f)  (hl : lv_has ls 8 [(0, .ref b), (1, .ref (a 0)), (2, .ref (bm 0)), (3, .ref ao), (4, .int x4)]) (hce : cells + 1 ≤ R.cells ∧ slots + 6 ≤ R.slots)
    (kk : ∀ (σ' τ' : St) (f' : Nat → Int64) (H : Heap) (locs : List Loc) (ls : Array Slot), Rel σ' τ' → PL D a bm cA ao A s.heap H locs σ' τ' f' → lv_has ls 8 [(0, .ref b), (1, .ref (a 0)), (2, .ref (bm 0)), (3, .ref ao), (4, .int x4)] → W p l e R s m args below meth c H locs (cells + 1) (slots + 6) Q (F0 m 1505 ls [])) : W p l e R s m args below meth c H locs cells slots Q (F0 m 805 ls []) := by
  obtain ⟨hx, hb, -⟩ := id X.1
  obtain ⟨bb, τ1, hy, hor⟩ := hop
  rcases hor with ⟨σ1, hxs, e0, hrel⟩ | ⟨k, cc, σ1, hk, hxt, e0, hrel⟩
  · refine lv_aload_n hx hb dL_law_805 rfl (lv_at hl 1 rfl) ?_
    refine lv_aload_n hx hb dL_law_806 rfl (lv_at hl 3 rfl) ?_
    refine L_H X (c_L_check hxs) tw_32_0 tw_32_1 tw_7_12 tw_32_2 hdd_L_check (by decide) (by decide) hp hce hl.1 rfl (Nat.le_of_ble_eq_true rfl) dL_law_807 (fun H locs hp => ?_)
    refine lv_istore (lv' := [(5, .int 0), (0, .ref b), (1, .ref (a 0)), (2, .ref (bm 0)), (3, .ref ao), (4, .int x4)]) hx hb dL_law_810 hl (by decide) rfl (fun ls hl => ?_)
    refine lv_aload_n hx hb dL_law_812 rfl (lv_at hl 3 rfl) ?_
    refine L_Mi X (c_X7_check hy) tw_32_10 mw_X7_check (by decide) hp hce rfl rfl rfl hl.1 rfl (Nat.le_of_ble_eq_true rfl) dL_law_813 (fun H locs hp => ?_)
    refine lv_istore (lv' := [(6, .int bb), (5, .int 0), (0, .ref b), (1, .ref (a 0)), (2, .ref (bm 0)), (3, .ref ao), (4, .int x4)]) hx hb dL_law_816 hl (by decide) rfl (fun ls hl => ?_)
    refine lv_aload_n hx hb dL_law_818 rfl (lv_at hl 4 rfl) ?_
    refine L_Mi X (c_X7_thrown (r := τ1.1 0) rfl) tw_8_13 mw_X7_thrown (by decide) hp hce rfl rfl rfl hl.1 rfl (Nat.le_of_ble_eq_true rfl) dL_law_819 (fun H locs hp => ?_)
    refine lv_iload hx hb dL_law_822 (lv_at hl 1 rfl) ?_
    refine lv_icmp_eq (tgt := 829) hx hb dL_law_824 (by decide) (fun c1 => ?_) (fun c1 => absurd e0 c1)
    refine lv_iload hx hb dL_law_829 (lv_at hl 1 rfl) ?_
    refine lv_if_ne (tgt := 846) hx hb dL_law_831 (by decide) (fun c2 => absurd rfl c2) (fun c2 => ?_)
    refine lv_aload_n hx hb dL_law_834 rfl (lv_at hl 5 rfl) ?_
    refine lv_iconst (v := 0) hx hb dL_law_835 (by decide) ?_
    refine L_out X hp dL_law_836 ?_
    refine lv_iload hx hb dL_law_837 (lv_at hl 0 rfl) ?_
    refine lv_i2l hx hb dL_law_839 rfl ?_
    refine W.lcmp hx hb dL_law_840 ?_
    refine lv_if_eq (tgt := 846) hx hb dL_law_841 (by decide) (fun c3 => ?_) (fun c3 => absurd (lcmp0.mpr (show vp_updL f 0 bb.toInt64 0 = bb.toInt64 from if_pos rfl)) c3)
    refine lv_goto (tgt := 1505) hx hb dL_law_846 (by decide) ?_
    exact kk _ _ _ _ _ _ hrel hp (lv_sub hl [2, 3, 4, 5, 6] rfl)
  · rcases hk with ⟨rfl, rfl⟩
    refine lv_aload_n hx hb dL_law_805 rfl (lv_at hl 1 rfl) ?_
    refine lv_aload_n hx hb dL_law_806 rfl (lv_at hl 3 rfl) ?_
    refine L_H X (c_L_check_x2 hl0 hxt) tw_32_0 tw_32_1 tw_7_12 tw_32_2 hdd_L_check (by decide) (by decide) hp hce hl.1 rfl (Nat.le_of_ble_eq_true rfl) dL_law_807 (fun H locs hp => ?_)
    refine lv_istore (lv' := [(5, .int 1), (0, .ref b), (1, .ref (a 0)), (2, .ref (bm 0)), (3, .ref ao), (4, .int x4)]) hx hb dL_law_810 hl (by decide) rfl (fun ls hl => ?_)
    refine lv_aload_n hx hb dL_law_812 rfl (lv_at hl 3 rfl) ?_
    refine L_Mi X (c_X7_check hy) tw_32_10 mw_X7_check (by decide) hp hce rfl rfl rfl hl.1 rfl (Nat.le_of_ble_eq_true rfl) dL_law_813 (fun H locs hp => ?_)
    refine lv_istore (lv' := [(6, .int bb), (5, .int 1), (0, .ref b), (1, .ref (a 0)), (2, .ref (bm 0)), (3, .ref ao), (4, .int x4)]) hx hb dL_law_816 hl (by decide) rfl (fun ls hl => ?_)
    refine lv_aload_n hx hb dL_law_818 rfl (lv_at hl 4 rfl) ?_
    refine L_Mi X (c_X7_thrown (r := τ1.1 0) rfl) tw_8_13 mw_X7_thrown (by decide) hp hce rfl rfl rfl hl.1 rfl (Nat.le_of_ble_eq_true rfl) dL_law_819 (fun H locs hp => ?_)
    refine lv_iload hx hb dL_law_822 (lv_at hl 1 rfl) ?_
    refine lv_icmp_eq (tgt := 829) hx hb dL_law_824 (by decide) (fun c1 => ?_) (fun c1 => absurd e0 c1)
    refine lv_iload hx hb dL_law_829 (lv_at hl 1 rfl) ?_
    refine lv_if_ne (tgt := 846) hx hb dL_law_831 (by decide) (fun c2 => ?_) (fun c2 => absurd c2 (by decide))
    refine lv_goto (tgt := 1505) hx hb dL_law_846 (by decide) ?_
    exact kk _ _ _ _ _ _ hrel hp (lv_sub hl [2, 3, 4, 5, 6] rfl)
