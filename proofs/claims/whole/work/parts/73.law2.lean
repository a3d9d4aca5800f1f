set_option maxRecDepth 20000 in
set_option maxHeartbeats 4000000 in
theorem law_escape {p : Program} {l : Launch} {e : Env} {R : Room} {s : State} {m : MethodId} {args : Array Value} {below : List Frame} {meth : Method} {c : Code} {H : Heap} {locs : List Loc} {Q : State → Prop} {D : va_G} {a bm : Nat → Nat} {cA : Nat → ClassId} {t ao b L : Nat} {xs : Nat → Int32} {A : Nat → Prop} {σ τ : St} {cells slots N : Nat} {ls : Array Slot} {f : Nat → Int64} {Rel : St → St → Prop} {x4 : Int32} (hl0 : l.stackTraces = false) (X : LC p R s m args c b L xs D a bm cA ao t A) (hop : Op_escape N Rel σ τ) (hp : PL D a bm cA ao A s.heap H locs σ τ f) (hi1 : vp_in (x4 + 1) L) (hl : lv_has ls 8 [(0, .ref b), (1, .ref (a 0)), (2, .ref (bm 0)), (3, .ref ao), (4, .int x4)]) (hce : cells + 1 ≤ R.cells ∧ slots + 6 ≤ R.slots)
    (kk : ∀ (σ' τ' : St) (f' : Nat → Int64) (H : Heap) (locs : List Loc) (ls : Array Slot), Rel σ' τ' → PL D a bm cA ao A s.heap H locs σ' τ' f' → lv_has ls 8 [(0, .ref b), (1, .ref (a 0)), (2, .ref (bm 0)), (3, .ref ao), (4, .int x4)] → W p l e R s m args below meth c H locs (cells + 1) (slots + 6) Q (F0 m 1505 ls [])) : W p l e R s m args below meth c H locs cells slots Q (F0 m 849 ls []) := by
  obtain ⟨hx, hb, -⟩ := id X.1
  obtain ⟨bb, τ1, hy, hor⟩ := hop (xs (x4 + 1).toNatClampNeg)
  rcases hor with ⟨σ1, hxs, e0, hrel⟩ | ⟨k, cc, σ1, hk, hxt, e0, hrel⟩
  · refine lv_aload_n hx hb dL_law_849 rfl (lv_at hl 1 rfl) ?_
    refine lv_aload_n hx hb dL_law_850 rfl (lv_at hl 0 rfl) ?_
    refine lv_iload hx hb dL_law_851 (lv_at hl 4 rfl) ?_
    refine lv_iconst (v := 1) hx hb dL_law_853 (by decide) ?_
    refine lv_iadd hx hb dL_law_854 ?_
    refine L_ld X hp hi1 dL_law_855 ?_
    refine lv_aload_n hx hb dL_law_856 rfl (lv_at hl 3 rfl) ?_
    refine L_H X (c_L_escape hxs) tw_32_14 tw_32_15 tw_7_12 tw_32_16 hdd_L_escape (by decide) (by decide) hp hce hl.1 rfl (Nat.le_of_ble_eq_true rfl) dL_law_857 (fun H locs hp => ?_)
    refine lv_istore (lv' := [(5, .int 0), (0, .ref b), (1, .ref (a 0)), (2, .ref (bm 0)), (3, .ref ao), (4, .int x4)]) hx hb dL_law_860 hl (by decide) rfl (fun ls hl => ?_)
    refine lv_aload_n hx hb dL_law_862 rfl (lv_at hl 3 rfl) ?_
    refine lv_aload_n hx hb dL_law_863 rfl (lv_at hl 1 rfl) ?_
    refine lv_iload hx hb dL_law_864 (lv_at hl 5 rfl) ?_
    refine lv_iconst (v := 1) hx hb dL_law_866 (by decide) ?_
    refine lv_iadd hx hb dL_law_867 ?_
    refine L_ld X hp hi1 dL_law_868 ?_
    refine L_Mi X (c_X7_escape hy) tw_33_0 mw_X7_escape (by decide) hp hce rfl rfl rfl hl.1 rfl (Nat.le_of_ble_eq_true rfl) dL_law_869 (fun H locs hp => ?_)
    refine lv_istore (lv' := [(6, .int bb), (5, .int 0), (0, .ref b), (1, .ref (a 0)), (2, .ref (bm 0)), (3, .ref ao), (4, .int x4)]) hx hb dL_law_872 hl (by decide) rfl (fun ls hl => ?_)
    refine lv_aload_n hx hb dL_law_874 rfl (lv_at hl 4 rfl) ?_
    refine L_Mi X (c_X7_thrown (r := τ1.1 0) rfl) tw_8_13 mw_X7_thrown (by decide) hp hce rfl rfl rfl hl.1 rfl (Nat.le_of_ble_eq_true rfl) dL_law_875 (fun H locs hp => ?_)
    refine lv_iload hx hb dL_law_878 (lv_at hl 1 rfl) ?_
    refine lv_icmp_eq (tgt := 885) hx hb dL_law_880 (by decide) (fun c1 => ?_) (fun c1 => absurd e0 c1)
    refine lv_iload hx hb dL_law_885 (lv_at hl 1 rfl) ?_
    refine lv_if_ne (tgt := 902) hx hb dL_law_887 (by decide) (fun c2 => absurd rfl c2) (fun c2 => ?_)
    refine lv_aload_n hx hb dL_law_890 rfl (lv_at hl 5 rfl) ?_
    refine lv_iconst (v := 0) hx hb dL_law_891 (by decide) ?_
    refine L_out X hp dL_law_892 ?_
    refine lv_iload hx hb dL_law_893 (lv_at hl 0 rfl) ?_
    refine lv_i2l hx hb dL_law_895 rfl ?_
    refine W.lcmp hx hb dL_law_896 ?_
    refine lv_if_eq (tgt := 902) hx hb dL_law_897 (by decide) (fun c3 => ?_) (fun c3 => absurd (lcmp0.mpr (show vp_updL f 0 bb.toInt64 0 = bb.toInt64 from if_pos rfl)) c3)
    refine lv_goto (tgt := 1505) hx hb dL_law_902 (by decide) ?_
    exact kk _ _ _ _ _ _ hrel hp (lv_sub hl [2, 3, 4, 5, 6] rfl)
  · rcases hk with ⟨rfl, rfl⟩ | ⟨rfl, rfl⟩
    · refine lv_aload_n hx hb dL_law_849 rfl (lv_at hl 1 rfl) ?_
      refine lv_aload_n hx hb dL_law_850 rfl (lv_at hl 0 rfl) ?_
      refine lv_iload hx hb dL_law_851 (lv_at hl 4 rfl) ?_
      refine lv_iconst (v := 1) hx hb dL_law_853 (by decide) ?_
      refine lv_iadd hx hb dL_law_854 ?_
      refine L_ld X hp hi1 dL_law_855 ?_
      refine lv_aload_n hx hb dL_law_856 rfl (lv_at hl 3 rfl) ?_
      refine L_H X (c_L_escape_x1 hl0 hxt) tw_32_14 tw_32_15 tw_7_12 tw_32_16 hdd_L_escape (by decide) (by decide) hp hce hl.1 rfl (Nat.le_of_ble_eq_true rfl) dL_law_857 (fun H locs hp => ?_)
      refine lv_istore (lv' := [(5, .int 1), (0, .ref b), (1, .ref (a 0)), (2, .ref (bm 0)), (3, .ref ao), (4, .int x4)]) hx hb dL_law_860 hl (by decide) rfl (fun ls hl => ?_)
      refine lv_aload_n hx hb dL_law_862 rfl (lv_at hl 3 rfl) ?_
      refine lv_aload_n hx hb dL_law_863 rfl (lv_at hl 1 rfl) ?_
      refine lv_iload hx hb dL_law_864 (lv_at hl 5 rfl) ?_
      refine lv_iconst (v := 1) hx hb dL_law_866 (by decide) ?_
      refine lv_iadd hx hb dL_law_867 ?_
      refine L_ld X hp hi1 dL_law_868 ?_
      refine L_Mi X (c_X7_escape hy) tw_33_0 mw_X7_escape (by decide) hp hce rfl rfl rfl hl.1 rfl (Nat.le_of_ble_eq_true rfl) dL_law_869 (fun H locs hp => ?_)
      refine lv_istore (lv' := [(6, .int bb), (5, .int 1), (0, .ref b), (1, .ref (a 0)), (2, .ref (bm 0)), (3, .ref ao), (4, .int x4)]) hx hb dL_law_872 hl (by decide) rfl (fun ls hl => ?_)
      refine lv_aload_n hx hb dL_law_874 rfl (lv_at hl 4 rfl) ?_
      refine L_Mi X (c_X7_thrown (r := τ1.1 0) rfl) tw_8_13 mw_X7_thrown (by decide) hp hce rfl rfl rfl hl.1 rfl (Nat.le_of_ble_eq_true rfl) dL_law_875 (fun H locs hp => ?_)
      refine lv_iload hx hb dL_law_878 (lv_at hl 1 rfl) ?_
      refine lv_icmp_eq (tgt := 885) hx hb dL_law_880 (by decide) (fun c1 => ?_) (fun c1 => absurd e0 c1)
      refine lv_iload hx hb dL_law_885 (lv_at hl 1 rfl) ?_
      refine lv_if_ne (tgt := 902) hx hb dL_law_887 (by decide) (fun c2 => ?_) (fun c2 => absurd c2 (by decide))
      refine lv_goto (tgt := 1505) hx hb dL_law_902 (by decide) ?_
      exact kk _ _ _ _ _ _ hrel hp (lv_sub hl [2, 3, 4, 5, 6] rfl)
    · refine lv_aload_n hx hb dL_law_849 rfl (lv_at hl 1 rfl) ?_
      refine lv_aload_n hx hb dL_law_850 rfl (lv_at hl 0 rfl) ?_
      refine lv_iload hx hb dL_law_851 (lv_at hl 4 rfl) ?_
      refine lv_iconst (v := 1) hx hb dL_law_853 (by decide) ?_
      refine lv_iadd hx hb dL_law_854 ?_
      refine L_ld X hp hi1 dL_law_855 ?_
      refine lv_aload_n hx hb dL_law_856 rfl (lv_at hl 3 rfl) ?_
      refine L_H X (c_L_escape_x2 hl0 hxt) tw_32_14 tw_32_15 tw_7_12 tw_32_16 hdd_L_escape (by decide) (by decide) hp hce hl.1 rfl (Nat.le_of_ble_eq_true rfl) dL_law_857 (fun H locs hp => ?_)
      refine lv_istore (lv' := [(5, .int 2), (0, .ref b), (1, .ref (a 0)), (2, .ref (bm 0)), (3, .ref ao), (4, .int x4)]) hx hb dL_law_860 hl (by decide) rfl (fun ls hl => ?_)
      refine lv_aload_n hx hb dL_law_862 rfl (lv_at hl 3 rfl) ?_
      refine lv_aload_n hx hb dL_law_863 rfl (lv_at hl 1 rfl) ?_
      refine lv_iload hx hb dL_law_864 (lv_at hl 5 rfl) ?_
      refine lv_iconst (v := 1) hx hb dL_law_866 (by decide) ?_
      refine lv_iadd hx hb dL_law_867 ?_
      refine L_ld X hp hi1 dL_law_868 ?_
      refine L_Mi X (c_X7_escape hy) tw_33_0 mw_X7_escape (by decide) hp hce rfl rfl rfl hl.1 rfl (Nat.le_of_ble_eq_true rfl) dL_law_869 (fun H locs hp => ?_)
      refine lv_istore (lv' := [(6, .int bb), (5, .int 2), (0, .ref b), (1, .ref (a 0)), (2, .ref (bm 0)), (3, .ref ao), (4, .int x4)]) hx hb dL_law_872 hl (by decide) rfl (fun ls hl => ?_)
      refine lv_aload_n hx hb dL_law_874 rfl (lv_at hl 4 rfl) ?_
      refine L_Mi X (c_X7_thrown (r := τ1.1 0) rfl) tw_8_13 mw_X7_thrown (by decide) hp hce rfl rfl rfl hl.1 rfl (Nat.le_of_ble_eq_true rfl) dL_law_875 (fun H locs hp => ?_)
      refine lv_iload hx hb dL_law_878 (lv_at hl 1 rfl) ?_
      refine lv_icmp_eq (tgt := 885) hx hb dL_law_880 (by decide) (fun c1 => ?_) (fun c1 => absurd e0 c1)
      refine lv_iload hx hb dL_law_885 (lv_at hl 1 rfl) ?_
      refine lv_if_ne (tgt := 902) hx hb dL_law_887 (by decide) (fun c2 => ?_) (fun c2 => absurd c2 (by decide))
      refine lv_goto (tgt := 1505) hx hb dL_law_902 (by decide) ?_
      exact kk _ _ _ _ _ _ hrel hp (lv_sub hl [2, 3, 4, 5, 6] rfl)
set_option maxRecDepth 20000 in
set_option maxHeartbeats 4000000 in
theorem law_modal {p : Program} {l : Launch} {e : Env} {R : Room} {s : State} {m : MethodId} {args : Array Value} {below : List Frame} {meth : Method} {c : Code} {H : Heap} {locs : List Loc} {Q : State → Prop} {D : va_G} {a bm : Nat → Nat} {cA : Nat → ClassId} {t ao b L : Nat} {xs : Nat → Int32} {A : Nat → Prop} {σ τ : St} {cells slots N : Nat} {ls : Array Slot} {f : Nat → Int64} {Rel : St → St → Prop} {x4 : Int32} (hl0 : l.stackTraces = false) (X : LC p R s m args c b L xs D a bm cA ao t A) (hop : Op_modal N Rel σ τ) (hp : PL D a bm cA ao A s.heap H locs σ τ f) (hi1 : vp_in (x4 + 1) L) (hl : lv_has ls 8 [(0, .ref b), (1, .ref (a 0)), (2, .ref (bm 0)), (3, .ref ao), (4, .int x4)]) (hce : cells + 1 ≤ R.cells ∧ slots + 6 ≤ R.slots)
    (kk : ∀ (σ' τ' : St) (f' : Nat → Int64) (H : Heap) (locs : List Loc) (ls : Array Slot), Rel σ' τ' → PL D a bm cA ao A s.heap H locs σ' τ' f' → lv_has ls 8 [(0, .ref b), (1, .ref (a 0)), (2, .ref (bm 0)), (3, .ref ao), (4, .int x4)] → W p l e R s m args below meth c H locs (cells + 1) (slots + 6) Q (F0 m 1505 ls [])) : W p l e R s m args below meth c H locs cells slots Q (F0 m 905 ls []) := by
  obtain ⟨hx, hb, -⟩ := id X.1
  obtain ⟨bb, τ1, hy, hor⟩ := hop (xs (x4 + 1).toNatClampNeg)
  rcases hor with ⟨σ1, hxs, e0, hrel⟩ | ⟨k, cc, σ1, hk, hxt, e0, hrel⟩
  · refine lv_aload_n hx hb dL_law_905 rfl (lv_at hl 1 rfl) ?_
    refine lv_aload_n hx hb dL_law_906 rfl (lv_at hl 0 rfl) ?_
    refine lv_iload hx hb dL_law_907 (lv_at hl 4 rfl) ?_
    refine lv_iconst (v := 1) hx hb dL_law_909 (by decide) ?_
    refine lv_iadd hx hb dL_law_910 ?_
    refine L_ld X hp hi1 dL_law_911 ?_
    refine lv_aload_n hx hb dL_law_912 rfl (lv_at hl 3 rfl) ?_
    refine L_H X (c_L_modal hxs) tw_33_8 tw_33_9 tw_7_12 tw_33_10 hdd_L_modal (by decide) (by decide) hp hce hl.1 rfl (Nat.le_of_ble_eq_true rfl) dL_law_913 (fun H locs hp => ?_)
    refine lv_istore (lv' := [(5, .int 0), (0, .ref b), (1, .ref (a 0)), (2, .ref (bm 0)), (3, .ref ao), (4, .int x4)]) hx hb dL_law_916 hl (by decide) rfl (fun ls hl => ?_)
    refine lv_aload_n hx hb dL_law_918 rfl (lv_at hl 3 rfl) ?_
    refine lv_aload_n hx hb dL_law_919 rfl (lv_at hl 1 rfl) ?_
    refine lv_iload hx hb dL_law_920 (lv_at hl 5 rfl) ?_
    refine lv_iconst (v := 1) hx hb dL_law_922 (by decide) ?_
    refine lv_iadd hx hb dL_law_923 ?_
    refine L_ld X hp hi1 dL_law_924 ?_
    refine L_Ml X (c_X7_modal hy) tw_33_23 mw_X7_modal (by decide) hp hce rfl rfl rfl hl.1 rfl (Nat.le_of_ble_eq_true rfl) dL_law_925 (fun H locs hp => ?_)
    refine lv_lstore (lv' := [(6, .long bb), (5, .int 0), (0, .ref b), (1, .ref (a 0)), (2, .ref (bm 0)), (3, .ref ao), (4, .int x4)]) hx hb dL_law_928 hl (by decide) rfl (fun ls hl => ?_)
    refine lv_aload_n hx hb dL_law_930 rfl (lv_at hl 4 rfl) ?_
    refine L_Mi X (c_X7_thrown (r := τ1.1 0) rfl) tw_8_13 mw_X7_thrown (by decide) hp hce rfl rfl rfl hl.1 rfl (Nat.le_of_ble_eq_true rfl) dL_law_931 (fun H locs hp => ?_)
    refine lv_iload hx hb dL_law_934 (lv_at hl 1 rfl) ?_
    refine lv_icmp_eq (tgt := 941) hx hb dL_law_936 (by decide) (fun c1 => ?_) (fun c1 => absurd e0 c1)
    refine lv_iload hx hb dL_law_941 (lv_at hl 1 rfl) ?_
    refine lv_if_ne (tgt := 957) hx hb dL_law_943 (by decide) (fun c2 => absurd rfl c2) (fun c2 => ?_)
    refine lv_aload_n hx hb dL_law_946 rfl (lv_at hl 5 rfl) ?_
    refine lv_iconst (v := 0) hx hb dL_law_947 (by decide) ?_
    refine L_out X hp dL_law_948 ?_
    refine lv_lload hx hb dL_law_949 (lv_at hl 0 rfl) ?_
    refine W.lcmp hx hb dL_law_951 ?_
    refine lv_if_eq (tgt := 957) hx hb dL_law_952 (by decide) (fun c3 => ?_) (fun c3 => absurd (lcmp0.mpr (show vp_updL f 0 bb 0 = bb from if_pos rfl)) c3)
    refine lv_goto (tgt := 1505) hx hb dL_law_957 (by decide) ?_
    exact kk _ _ _ _ _ _ hrel hp (lv_sub hl [2, 3, 4, 5, 6] rfl)
  · rcases hk with ⟨rfl, rfl⟩ | ⟨rfl, rfl⟩
    · refine lv_aload_n hx hb dL_law_905 rfl (lv_at hl 1 rfl) ?_
      refine lv_aload_n hx hb dL_law_906 rfl (lv_at hl 0 rfl) ?_
      refine lv_iload hx hb dL_law_907 (lv_at hl 4 rfl) ?_
      refine lv_iconst (v := 1) hx hb dL_law_909 (by decide) ?_
      refine lv_iadd hx hb dL_law_910 ?_
      refine L_ld X hp hi1 dL_law_911 ?_
      refine lv_aload_n hx hb dL_law_912 rfl (lv_at hl 3 rfl) ?_
      refine L_H X (c_L_modal_x1 hl0 hxt) tw_33_8 tw_33_9 tw_7_12 tw_33_10 hdd_L_modal (by decide) (by decide) hp hce hl.1 rfl (Nat.le_of_ble_eq_true rfl) dL_law_913 (fun H locs hp => ?_)
      refine lv_istore (lv' := [(5, .int 1), (0, .ref b), (1, .ref (a 0)), (2, .ref (bm 0)), (3, .ref ao), (4, .int x4)]) hx hb dL_law_916 hl (by decide) rfl (fun ls hl => ?_)
      refine lv_aload_n hx hb dL_law_918 rfl (lv_at hl 3 rfl) ?_
      refine lv_aload_n hx hb dL_law_919 rfl (lv_at hl 1 rfl) ?_
      refine lv_iload hx hb dL_law_920 (lv_at hl 5 rfl) ?_
      refine lv_iconst (v := 1) hx hb dL_law_922 (by decide) ?_
      refine lv_iadd hx hb dL_law_923 ?_
      refine L_ld X hp hi1 dL_law_924 ?_
      refine L_Ml X (c_X7_modal hy) tw_33_23 mw_X7_modal (by decide) hp hce rfl rfl rfl hl.1 rfl (Nat.le_of_ble_eq_true rfl) dL_law_925 (fun H locs hp => ?_)
      refine lv_lstore (lv' := [(6, .long bb), (5, .int 1), (0, .ref b), (1, .ref (a 0)), (2, .ref (bm 0)), (3, .ref ao), (4, .int x4)]) hx hb dL_law_928 hl (by decide) rfl (fun ls hl => ?_)
      refine lv_aload_n hx hb dL_law_930 rfl (lv_at hl 4 rfl) ?_
      refine L_Mi X (c_X7_thrown (r := τ1.1 0) rfl) tw_8_13 mw_X7_thrown (by decide) hp hce rfl rfl rfl hl.1 rfl (Nat.le_of_ble_eq_true rfl) dL_law_931 (fun H locs hp => ?_)
      refine lv_iload hx hb dL_law_934 (lv_at hl 1 rfl) ?_
      refine lv_icmp_eq (tgt := 941) hx hb dL_law_936 (by decide) (fun c1 => ?_) (fun c1 => absurd e0 c1)
      refine lv_iload hx hb dL_law_941 (lv_at hl 1 rfl) ?_
      refine lv_if_ne (tgt := 957) hx hb dL_law_943 (by decide) (fun c2 => ?_) (fun c2 => absurd c2 (by decide))
      refine lv_goto (tgt := 1505) hx hb dL_law_957 (by decide) ?_
      exact kk _ _ _ _ _ _ hrel hp (lv_sub hl [2, 3, 4, 5, 6] rfl)
    · refine lv_aload_n hx hb dL_law_905 rfl (lv_at hl 1 rfl) ?_
      refine lv_aload_n hx hb dL_law_906 rfl (lv_at hl 0 rfl) ?_
      refine lv_iload hx hb dL_law_907 (lv_at hl 4 rfl) ?_
      refine lv_iconst (v := 1) hx hb dL_law_909 (by decide) ?_
      refine lv_iadd hx hb dL_law_910 ?_
      refine L_ld X hp hi1 dL_law_911 ?_
      refine lv_aload_n hx hb dL_law_912 rfl (lv_at hl 3 rfl) ?_
      refine L_H X (c_L_modal_x2 hl0 hxt) tw_33_8 tw_33_9 tw_7_12 tw_33_10 hdd_L_modal (by decide) (by decide) hp hce hl.1 rfl (Nat.le_of_ble_eq_true rfl) dL_law_913 (fun H locs hp => ?_)
      refine lv_istore (lv' := [(5, .int 2), (0, .ref b), (1, .ref (a 0)), (2, .ref (bm 0)), (3, .ref ao), (4, .int x4)]) hx hb dL_law_916 hl (by decide) rfl (fun ls hl => ?_)
      refine lv_aload_n hx hb dL_law_918 rfl (lv_at hl 3 rfl) ?_
      refine lv_aload_n hx hb dL_law_919 rfl (lv_at hl 1 rfl) ?_
      refine lv_iload hx hb dL_law_920 (lv_at hl 5 rfl) ?_
      refine lv_iconst (v := 1) hx hb dL_law_922 (by decide) ?_
      refine lv_iadd hx hb dL_law_923 ?_
      refine L_ld X hp hi1 dL_law_924 ?_
      refine L_Ml X (c_X7_modal hy) tw_33_23 mw_X7_modal (by decide) hp hce rfl rfl rfl hl.1 rfl (Nat.le_of_ble_eq_true rfl) dL_law_925 (fun H locs hp => ?_)
      refine lv_lstore (lv' := [(6, .long bb), (5, .int 2), (0, .ref b), (1, .ref (a 0)), (2, .ref (bm 0)), (3, .ref ao), (4, .int x4)]) hx hb dL_law_928 hl (by decide) rfl (fun ls hl => ?_)
      refine lv_aload_n hx hb dL_law_930 rfl (lv_at hl 4 rfl) ?_
      refine L_Mi X (c_X7_thrown (r := τ1.1 0) rfl) tw_8_13 mw_X7_thrown (by decide) hp hce rfl rfl rfl hl.1 rfl (Nat.le_of_ble_eq_true rfl) dL_law_931 (fun H locs hp => ?_)
      refine lv_iload hx hb dL_law_934 (lv_at hl 1 rfl) ?_
      refine lv_icmp_eq (tgt := 941) hx hb dL_law_936 (by decide) (fun c1 => ?_) (fun c1 => absurd e0 c1)
      refine lv_iload hx hb dL_law_941 (lv_at hl 1 rfl) ?_
      refine lv_if_ne (tgt := 957) hx hb dL_law_943 (by decide) (fun c2 => ?_) (fun c2 => absurd c2 (by decide))
      refine lv_goto (tgt := 1505) hx hb dL_law_957 (by decide) ?_
      exact kk _ _ _ _ _ _ hrel hp (lv_sub hl [2, 3, 4, 5, 6] rfl)
set_option maxRecDepth 20000 in
set_option maxHeartbeats 4000000 in
theorem law_prove {p : Program} {l : Launch} {e : Env} {R : Room} {s : State} {m : MethodId} {args : Array Value} {below : List Frame} {meth : Method} {c : Code} {H : Heap} {locs : List Loc} {Q : State → Prop} {D : va_G} {a bm : Nat → Nat} {cA : Nat → ClassId} {t ao b L : Nat} {xs : Nat → Int32} {A : Nat → Prop} {σ τ : St} {cells slots N : Nat} {ls : Array Slot} {f : Nat → Int64} {Rel : St → St → Prop} {x4 : Int32} (hl0 : l.stackTraces = false) (X : LC p R s m args c b L xs D a bm cA ao t A) (hop : Op_prove N Rel σ τ) (hp : PL D a bm cA ao A s.heap H locs σ τ f)  (hl : lv_has ls 8 [(0, .ref b), (1, .ref (a 0)), (2, .ref (bm 0)), (3, .ref ao), (4, .int x4)]) (hce : cells + 1 ≤ R.cells ∧ slots + 6 ≤ R.slots)
    (kk : ∀ (σ' τ' : St) (f' : Nat → Int64) (H : Heap) (locs : List Loc) (ls : Array Slot), Rel σ' τ' → PL D a bm cA ao A s.heap H locs σ' τ' f' → lv_has ls 8 [(0, .ref b), (1, .ref (a 0)), (2, .ref (bm 0)), (3, .ref ao), (4, .int x4)] → W p l e R s m args below meth c H locs (cells + 1) (slots + 6) Q (F0 m 1505 ls [])) : W p l e R s m args below meth c H locs cells slots Q (F0 m 960 ls []) := by
  obtain ⟨hx, hb, -⟩ := id X.1
  obtain ⟨bb, σ1, τ1, hxs, hy, hrel⟩ := hop
  refine lv_aload_n hx hb dL_law_960 rfl (lv_at hl 1 rfl) ?_
  refine L_Si X (c_X6_prove eokX hxs) tw_34_15 mw_X6_prove (by decide) hp ⟨by omega, by omega⟩ rfl rfl rfl hl.1 rfl (Nat.le_of_ble_eq_true rfl) dL_law_961 (fun H locs hp => ?_)
  refine lv_aload_n hx hb dL_law_964 rfl (lv_at hl 2 rfl) ?_
  refine L_Mi X (c_X7_prove hy) tw_39_7 mw_X7_prove (by decide) hp ⟨by omega, by omega⟩ rfl rfl rfl hl.1 rfl (Nat.le_of_ble_eq_true rfl) dL_law_965 (fun H locs hp => ?_)
  refine lv_icmp_eq (tgt := 1505) hx hb dL_law_968 (by decide) (fun c3 => ?_) (fun c3 => absurd rfl c3)
  refine W.widen (k := cells + 1) (n := slots + 6) (by omega) (by omega) ?_
  exact kk _ _ _ _ _ _ hrel hp hl
set_option maxRecDepth 20000 in
set_option maxHeartbeats 4000000 in
theorem law_proof {p : Program} {l : Launch} {e : Env} {R : Room} {s : State} {m : MethodId} {args : Array Value} {below : List Frame} {meth : Method} {c : Code} {H : Heap} {locs : List Loc} {Q : State → Prop} {D : va_G} {a bm : Nat → Nat} {cA : Nat → ClassId} {t ao b L : Nat} {xs : Nat → Int32} {A : Nat → Prop} {σ τ : St} {cells slots N : Nat} {ls : Array Slot} {f : Nat → Int64} {Rel : St → St → Prop} {x4 : Int32} (hl0 : l.stackTraces = false) (X : LC p R s m args c b L xs D a bm cA ao t A) (hop : Op_proof N Rel σ τ) (hp : PL D a bm cA ao A s.heap H locs σ τ f) (hi1 : vp_in (x4 + 1) L) (hl : lv_has ls 8 [(0, .ref b), (1, .ref (a 0)), (2, .ref (bm 0)), (3, .ref ao), (4, .int x4)]) (hce : cells + 1 ≤ R.cells ∧ slots + 6 ≤ R.slots)
    (kk : ∀ (σ' τ' : St) (f' : Nat → Int64) (H : Heap) (locs : List Loc) (ls : Array Slot), Rel σ' τ' → PL D a bm cA ao A s.heap H locs σ' τ' f' → lv_has ls 8 [(0, .ref b), (1, .ref (a 0)), (2, .ref (bm 0)), (3, .ref ao), (4, .int x4)] → W p l e R s m args below meth c H locs (cells + 1) (slots + 6) Q (F0 m 1505 ls [])) : W p l e R s m args below meth c H locs cells slots Q (F0 m 973 ls []) := by
  obtain ⟨hx, hb, -⟩ := id X.1
  obtain ⟨bb, τ1, hy, hor⟩ := hop (xs (x4 + 1).toNatClampNeg)
  rcases hor with ⟨σ1, hxs, e0, hrel⟩ | ⟨k, cc, σ1, hk, hxt, e0, hrel⟩
  · obtain ⟨hxs, rfl⟩ := rmap_s hxs
    refine lv_aload_n hx hb dL_law_973 rfl (lv_at hl 1 rfl) ?_
    refine lv_aload_n hx hb dL_law_974 rfl (lv_at hl 0 rfl) ?_
    refine lv_iload hx hb dL_law_975 (lv_at hl 4 rfl) ?_
    refine lv_iconst (v := 1) hx hb dL_law_977 (by decide) ?_
    refine lv_iadd hx hb dL_law_978 ?_
    refine L_ld X hp hi1 dL_law_979 ?_
    refine lv_aload_n hx hb dL_law_980 rfl (lv_at hl 3 rfl) ?_
    refine L_H X (c_L_proof hxs) tw_42_3 tw_42_4 tw_7_12 tw_42_5 hdd_L_proof (by decide) (by decide) hp hce hl.1 rfl (Nat.le_of_ble_eq_true rfl) dL_law_981 (fun H locs hp => ?_)
    refine lv_istore (lv' := [(5, .int 0), (0, .ref b), (1, .ref (a 0)), (2, .ref (bm 0)), (3, .ref ao), (4, .int x4)]) hx hb dL_law_984 hl (by decide) rfl (fun ls hl => ?_)
    refine lv_aload_n hx hb dL_law_986 rfl (lv_at hl 3 rfl) ?_
    refine lv_aload_n hx hb dL_law_987 rfl (lv_at hl 1 rfl) ?_
    refine lv_iload hx hb dL_law_988 (lv_at hl 5 rfl) ?_
    refine lv_iconst (v := 1) hx hb dL_law_990 (by decide) ?_
    refine lv_iadd hx hb dL_law_991 ?_
    refine L_ld X hp hi1 dL_law_992 ?_
    refine L_Mi X (c_X7_proof hy) tw_42_18 mw_X7_proof (by decide) hp hce rfl rfl rfl hl.1 rfl (Nat.le_of_ble_eq_true rfl) dL_law_993 (fun H locs hp => ?_)
    refine lv_istore (lv' := [(6, .int bb), (5, .int 0), (0, .ref b), (1, .ref (a 0)), (2, .ref (bm 0)), (3, .ref ao), (4, .int x4)]) hx hb dL_law_996 hl (by decide) rfl (fun ls hl => ?_)
    refine lv_aload_n hx hb dL_law_998 rfl (lv_at hl 4 rfl) ?_
    refine L_Mi X (c_X7_thrown (r := τ1.1 0) rfl) tw_8_13 mw_X7_thrown (by decide) hp hce rfl rfl rfl hl.1 rfl (Nat.le_of_ble_eq_true rfl) dL_law_999 (fun H locs hp => ?_)
    refine lv_iload hx hb dL_law_1002 (lv_at hl 1 rfl) ?_
    refine lv_icmp_eq (tgt := 1009) hx hb dL_law_1004 (by decide) (fun c1 => ?_) (fun c1 => absurd e0 c1)
    refine lv_iload hx hb dL_law_1009 (lv_at hl 1 rfl) ?_
    refine lv_if_ne (tgt := 1026) hx hb dL_law_1011 (by decide) (fun c2 => absurd rfl c2) (fun c2 => ?_)
    refine lv_aload_n hx hb dL_law_1014 rfl (lv_at hl 5 rfl) ?_
    refine lv_iconst (v := 0) hx hb dL_law_1015 (by decide) ?_
    refine L_out X hp dL_law_1016 ?_
    refine lv_iload hx hb dL_law_1017 (lv_at hl 0 rfl) ?_
    refine lv_i2l hx hb dL_law_1019 rfl ?_
    refine W.lcmp hx hb dL_law_1020 ?_
    refine lv_if_eq (tgt := 1026) hx hb dL_law_1021 (by decide) (fun c3 => ?_) (fun c3 => absurd (lcmp0.mpr (show vp_updL f 0 bb.toInt64 0 = bb.toInt64 from if_pos rfl)) c3)
    refine lv_goto (tgt := 1505) hx hb dL_law_1026 (by decide) ?_
    exact kk _ _ _ _ _ _ hrel hp (lv_sub hl [2, 3, 4, 5, 6] rfl)
  · rcases hk with ⟨rfl, rfl⟩
    refine lv_aload_n hx hb dL_law_973 rfl (lv_at hl 1 rfl) ?_
    refine lv_aload_n hx hb dL_law_974 rfl (lv_at hl 0 rfl) ?_
    refine lv_iload hx hb dL_law_975 (lv_at hl 4 rfl) ?_
    refine lv_iconst (v := 1) hx hb dL_law_977 (by decide) ?_
    refine lv_iadd hx hb dL_law_978 ?_
    refine L_ld X hp hi1 dL_law_979 ?_
    refine lv_aload_n hx hb dL_law_980 rfl (lv_at hl 3 rfl) ?_
    refine L_H X (c_L_proof_x1 hl0 hxt) tw_42_3 tw_42_4 tw_7_12 tw_42_5 hdd_L_proof (by decide) (by decide) hp hce hl.1 rfl (Nat.le_of_ble_eq_true rfl) dL_law_981 (fun H locs hp => ?_)
    refine lv_istore (lv' := [(5, .int 1), (0, .ref b), (1, .ref (a 0)), (2, .ref (bm 0)), (3, .ref ao), (4, .int x4)]) hx hb dL_law_984 hl (by decide) rfl (fun ls hl => ?_)
    refine lv_aload_n hx hb dL_law_986 rfl (lv_at hl 3 rfl) ?_
    refine lv_aload_n hx hb dL_law_987 rfl (lv_at hl 1 rfl) ?_
    refine lv_iload hx hb dL_law_988 (lv_at hl 5 rfl) ?_
    refine lv_iconst (v := 1) hx hb dL_law_990 (by decide) ?_
    refine lv_iadd hx hb dL_law_991 ?_
    refine L_ld X hp hi1 dL_law_992 ?_
    refine L_Mi X (c_X7_proof hy) tw_42_18 mw_X7_proof (by decide) hp hce rfl rfl rfl hl.1 rfl (Nat.le_of_ble_eq_true rfl) dL_law_993 (fun H locs hp => ?_)
    refine lv_istore (lv' := [(6, .int bb), (5, .int 1), (0, .ref b), (1, .ref (a 0)), (2, .ref (bm 0)), (3, .ref ao), (4, .int x4)]) hx hb dL_law_996 hl (by decide) rfl (fun ls hl => ?_)
    refine lv_aload_n hx hb dL_law_998 rfl (lv_at hl 4 rfl) ?_
    refine L_Mi X (c_X7_thrown (r := τ1.1 0) rfl) tw_8_13 mw_X7_thrown (by decide) hp hce rfl rfl rfl hl.1 rfl (Nat.le_of_ble_eq_true rfl) dL_law_999 (fun H locs hp => ?_)
    refine lv_iload hx hb dL_law_1002 (lv_at hl 1 rfl) ?_
    refine lv_icmp_eq (tgt := 1009) hx hb dL_law_1004 (by decide) (fun c1 => ?_) (fun c1 => absurd e0 c1)
    refine lv_iload hx hb dL_law_1009 (lv_at hl 1 rfl) ?_
    refine lv_if_ne (tgt := 1026) hx hb dL_law_1011 (by decide) (fun c2 => ?_) (fun c2 => absurd c2 (by decide))
    refine lv_goto (tgt := 1505) hx hb dL_law_1026 (by decide) ?_
    exact kk _ _ _ _ _ _ hrel hp (lv_sub hl [2, 3, 4, 5, 6] rfl)
set_option maxRecDepth 20000 in
set_option maxHeartbeats 4000000 in
theorem law_frame {p : Program} {l : Launch} {e : Env} {R : Room} {s : State} {m : MethodId} {args : Array Value} {below : List Frame} {meth : Method} {c : Code} {H : Heap} {locs : List Loc} {Q : State → Prop} {D : va_G} {a bm : Nat → Nat} {cA : Nat → ClassId} {t ao b L : Nat} {xs : Nat → Int32} {A : Nat → Prop} {σ τ : St} {cells slots N : Nat} {ls : Array Slot} {f : Nat → Int64} {Rel : St → St → Prop} {x4 : Int32} (hl0 : l.stackTraces = false) (X : LC p R s m args c b L xs D a bm cA ao t A) (hop : Op_frame N Rel σ τ) (hp : PL D a bm cA ao A s.heap H locs σ τ f) (hi1 : vp_in (x4 + 1) L) (hl : lv_has ls 8 [(0, .ref b), (1, .ref (a 0)), (2, .ref (bm 0)), (3, .ref ao), (4, .int x4)]) (hce : cells + 1 ≤ R.cells ∧ slots + 6 ≤ R.slots)
    (kk : ∀ (σ' τ' : St) (f' : Nat → Int64) (H : Heap) (locs : List Loc) (ls : Array Slot), Rel σ' τ' → PL D a bm cA ao A s.heap H locs σ' τ' f' → lv_has ls 8 [(0, .ref b), (1, .ref (a 0)), (2, .ref (bm 0)), (3, .ref ao), (4, .int x4)] → W p l e R s m args below meth c H locs (cells + 1) (slots + 6) Q (F0 m 1505 ls [])) : W p l e R s m args below meth c H locs cells slots Q (F0 m 1029 ls []) := by
  obtain ⟨hx, hb, -⟩ := id X.1
  obtain ⟨bb, τ1, hy, hor⟩ := hop (xs (x4 + 1).toNatClampNeg)
  rcases hor with ⟨σ1, hxs, e0, hrel⟩ | ⟨k, cc, σ1, hk, hxt, e0, hrel⟩
  · refine lv_aload_n hx hb dL_law_1029 rfl (lv_at hl 1 rfl) ?_
    refine lv_aload_n hx hb dL_law_1030 rfl (lv_at hl 0 rfl) ?_
    refine lv_iload hx hb dL_law_1031 (lv_at hl 4 rfl) ?_
    refine lv_iconst (v := 1) hx hb dL_law_1033 (by decide) ?_
    refine lv_iadd hx hb dL_law_1034 ?_
    refine L_ld X hp hi1 dL_law_1035 ?_
    refine lv_aload_n hx hb dL_law_1036 rfl (lv_at hl 3 rfl) ?_
    refine L_H X (c_L_frame hxs) tw_43_10 tw_43_11 tw_7_12 tw_43_12 hdd_L_frame (by decide) (by decide) hp hce hl.1 rfl (Nat.le_of_ble_eq_true rfl) dL_law_1037 (fun H locs hp => ?_)
    refine lv_istore (lv' := [(5, .int 0), (0, .ref b), (1, .ref (a 0)), (2, .ref (bm 0)), (3, .ref ao), (4, .int x4)]) hx hb dL_law_1040 hl (by decide) rfl (fun ls hl => ?_)
    refine lv_aload_n hx hb dL_law_1042 rfl (lv_at hl 3 rfl) ?_
    refine lv_aload_n hx hb dL_law_1043 rfl (lv_at hl 1 rfl) ?_
    refine lv_iload hx hb dL_law_1044 (lv_at hl 5 rfl) ?_
    refine lv_iconst (v := 1) hx hb dL_law_1046 (by decide) ?_
    refine lv_iadd hx hb dL_law_1047 ?_
    refine L_ld X hp hi1 dL_law_1048 ?_
    refine L_Ml X (c_X7_frame hy) tw_43_23 mw_X7_frame (by decide) hp hce rfl rfl rfl hl.1 rfl (Nat.le_of_ble_eq_true rfl) dL_law_1049 (fun H locs hp => ?_)
    refine lv_lstore (lv' := [(6, .long bb), (5, .int 0), (0, .ref b), (1, .ref (a 0)), (2, .ref (bm 0)), (3, .ref ao), (4, .int x4)]) hx hb dL_law_1052 hl (by decide) rfl (fun ls hl => ?_)
    refine lv_aload_n hx hb dL_law_1054 rfl (lv_at hl 4 rfl) ?_
    refine L_Mi X (c_X7_thrown (r := τ1.1 0) rfl) tw_8_13 mw_X7_thrown (by decide) hp hce rfl rfl rfl hl.1 rfl (Nat.le_of_ble_eq_true rfl) dL_law_1055 (fun H locs hp => ?_)
    refine lv_iload hx hb dL_law_1058 (lv_at hl 1 rfl) ?_
    refine lv_icmp_eq (tgt := 1065) hx hb dL_law_1060 (by decide) (fun c1 => ?_) (fun c1 => absurd e0 c1)
    refine lv_iload hx hb dL_law_1065 (lv_at hl 1 rfl) ?_
    refine lv_if_ne (tgt := 1081) hx hb dL_law_1067 (by decide) (fun c2 => absurd rfl c2) (fun c2 => ?_)
    refine lv_aload_n hx hb dL_law_1070 rfl (lv_at hl 5 rfl) ?_
    refine lv_iconst (v := 0) hx hb dL_law_1071 (by decide) ?_
    refine L_out X hp dL_law_1072 ?_
    refine lv_lload hx hb dL_law_1073 (lv_at hl 0 rfl) ?_
    refine W.lcmp hx hb dL_law_1075 ?_
    refine lv_if_eq (tgt := 1081) hx hb dL_law_1076 (by decide) (fun c3 => ?_) (fun c3 => absurd (lcmp0.mpr (show vp_updL f 0 bb 0 = bb from if_pos rfl)) c3)
    refine lv_goto (tgt := 1505) hx hb dL_law_1081 (by decide) ?_
    exact kk _ _ _ _ _ _ hrel hp (lv_sub hl [2, 3, 4, 5, 6] rfl)
  · rcases hk with ⟨rfl, rfl⟩ | ⟨rfl, rfl⟩
    · refine lv_aload_n hx hb dL_law_1029 rfl (lv_at hl 1 rfl) ?_
      refine lv_aload_n hx hb dL_law_1030 rfl (lv_at hl 0 rfl) ?_
      refine lv_iload hx hb dL_law_1031 (lv_at hl 4 rfl) ?_
      refine lv_iconst (v := 1) hx hb dL_law_1033 (by decide) ?_
      refine lv_iadd hx hb dL_law_1034 ?_
      refine L_ld X hp hi1 dL_law_1035 ?_
      refine lv_aload_n hx hb dL_law_1036 rfl (lv_at hl 3 rfl) ?_
      refine L_H X (c_L_frame_x2 hl0 hxt) tw_43_10 tw_43_11 tw_7_12 tw_43_12 hdd_L_frame (by decide) (by decide) hp hce hl.1 rfl (Nat.le_of_ble_eq_true rfl) dL_law_1037 (fun H locs hp => ?_)
      refine lv_istore (lv' := [(5, .int 1), (0, .ref b), (1, .ref (a 0)), (2, .ref (bm 0)), (3, .ref ao), (4, .int x4)]) hx hb dL_law_1040 hl (by decide) rfl (fun ls hl => ?_)
      refine lv_aload_n hx hb dL_law_1042 rfl (lv_at hl 3 rfl) ?_
      refine lv_aload_n hx hb dL_law_1043 rfl (lv_at hl 1 rfl) ?_
      refine lv_iload hx hb dL_law_1044 (lv_at hl 5 rfl) ?_
      refine lv_iconst (v := 1) hx hb dL_law_1046 (by decide) ?_
      refine lv_iadd hx hb dL_law_1047 ?_
      refine L_ld X hp hi1 dL_law_1048 ?_
      refine L_Ml X (c_X7_frame hy) tw_43_23 mw_X7_frame (by decide) hp hce rfl rfl rfl hl.1 rfl (Nat.le_of_ble_eq_true rfl) dL_law_1049 (fun H locs hp => ?_)
      refine lv_lstore (lv' := [(6, .long bb), (5, .int 1), (0, .ref b), (1, .ref (a 0)), (2, .ref (bm 0)), (3, .ref ao), (4, .int x4)]) hx hb dL_law_1052 hl (by decide) rfl (fun ls hl => ?_)
      refine lv_aload_n hx hb dL_law_1054 rfl (lv_at hl 4 rfl) ?_
      refine L_Mi X (c_X7_thrown (r := τ1.1 0) rfl) tw_8_13 mw_X7_thrown (by decide) hp hce rfl rfl rfl hl.1 rfl (Nat.le_of_ble_eq_true rfl) dL_law_1055 (fun H locs hp => ?_)
      refine lv_iload hx hb dL_law_1058 (lv_at hl 1 rfl) ?_
      refine lv_icmp_eq (tgt := 1065) hx hb dL_law_1060 (by decide) (fun c1 => ?_) (fun c1 => absurd e0 c1)
      refine lv_iload hx hb dL_law_1065 (lv_at hl 1 rfl) ?_
      refine lv_if_ne (tgt := 1081) hx hb dL_law_1067 (by decide) (fun c2 => ?_) (fun c2 => absurd c2 (by decide))
      refine lv_goto (tgt := 1505) hx hb dL_law_1081 (by decide) ?_
      exact kk _ _ _ _ _ _ hrel hp (lv_sub hl [2, 3, 4, 5, 6] rfl)
    · refine lv_aload_n hx hb dL_law_1029 rfl (lv_at hl 1 rfl) ?_
      refine lv_aload_n hx hb dL_law_1030 rfl (lv_at hl 0 rfl) ?_
      refine lv_iload hx hb dL_law_1031 (lv_at hl 4 rfl) ?_
      refine lv_iconst (v := 1) hx hb dL_law_1033 (by decide) ?_
      refine lv_iadd hx hb dL_law_1034 ?_
      refine L_ld X hp hi1 dL_law_1035 ?_
      refine lv_aload_n hx hb dL_law_1036 rfl (lv_at hl 3 rfl) ?_
      refine L_H X (c_L_frame_x3 hl0 hxt) tw_43_10 tw_43_11 tw_7_12 tw_43_12 hdd_L_frame (by decide) (by decide) hp hce hl.1 rfl (Nat.le_of_ble_eq_true rfl) dL_law_1037 (fun H locs hp => ?_)
      refine lv_istore (lv' := [(5, .int 2), (0, .ref b), (1, .ref (a 0)), (2, .ref (bm 0)), (3, .ref ao), (4, .int x4)]) hx hb dL_law_1040 hl (by decide) rfl (fun ls hl => ?_)
      refine lv_aload_n hx hb dL_law_1042 rfl (lv_at hl 3 rfl) ?_
      refine lv_aload_n hx hb dL_law_1043 rfl (lv_at hl 1 rfl) ?_
      refine lv_iload hx hb dL_law_1044 (lv_at hl 5 rfl) ?_
      refine lv_iconst (v := 1) hx hb dL_law_1046 (by decide) ?_
      refine lv_iadd hx hb dL_law_1047 ?_
      refine L_ld X hp hi1 dL_law_1048 ?_
      refine L_Ml X (c_X7_frame hy) tw_43_23 mw_X7_frame (by decide) hp hce rfl rfl rfl hl.1 rfl (Nat.le_of_ble_eq_true rfl) dL_law_1049 (fun H locs hp => ?_)
      refine lv_lstore (lv' := [(6, .long bb), (5, .int 2), (0, .ref b), (1, .ref (a 0)), (2, .ref (bm 0)), (3, .ref ao), (4, .int x4)]) hx hb dL_law_1052 hl (by decide) rfl (fun ls hl => ?_)
      refine lv_aload_n hx hb dL_law_1054 rfl (lv_at hl 4 rfl) ?_
      refine L_Mi X (c_X7_thrown (r := τ1.1 0) rfl) tw_8_13 mw_X7_thrown (by decide) hp hce rfl rfl rfl hl.1 rfl (Nat.le_of_ble_eq_true rfl) dL_law_1055 (fun H locs hp => ?_)
      refine lv_iload hx hb dL_law_1058 (lv_at hl 1 rfl) ?_
      refine lv_icmp_eq (tgt := 1065) hx hb dL_law_1060 (by decide) (fun c1 => ?_) (fun c1 => absurd e0 c1)
      refine lv_iload hx hb dL_law_1065 (lv_at hl 1 rfl) ?_
      refine lv_if_ne (tgt := 1081) hx hb dL_law_1067 (by decide) (fun c2 => ?_) (fun c2 => absurd c2 (by decide))
      refine lv_goto (tgt := 1505) hx hb dL_law_1081 (by decide) ?_
      exact kk _ _ _ _ _ _ hrel hp (lv_sub hl [2, 3, 4, 5, 6] rfl)
set_option maxRecDepth 20000 in
set_option maxHeartbeats 4000000 in
theorem law_cube {p : Program} {l : Launch} {e : Env} {R : Room} {s : State} {m : MethodId} {args : Array Value} {below : List Frame} {meth : Method} {c : Code} {H : Heap} {locs : List Loc} {Q : State → Prop} {D : va_G} {a bm : Nat → Nat} {cA : Nat → ClassId} {t ao b L : Nat} {xs : Nat → Int32} {A : Nat → Prop} {σ τ : St} {cells slots N : Nat} {ls : Array Slot} {f : Nat → Int64} {Rel : St → St → Prop} {x4 : Int32} (hl0 : l.stackTraces = false) (X : LC p R s m args c b L xs D a bm cA ao t A) (hop : Op_cube N Rel σ τ) (hp : PL D a bm cA ao A s.heap H locs σ τ f) (hi1 : vp_in (x4 + 1) L) (hi2 : vp_in (x4 + 2) L) (hl : lv_has ls 8 [(0, .ref b), (1, .ref (a 0)), (2, .ref (bm 0)), (3, .ref ao), (4, .int x4)]) (hce : cells + 1 ≤ R.cells ∧ slots + 6 ≤ R.slots)
    (kk : ∀ (σ' τ' : St) (f' : Nat → Int64) (H : Heap) (locs : List Loc) (ls : Array Slot), Rel σ' τ' → PL D a bm cA ao A s.heap H locs σ' τ' f' → lv_has ls 8 [(0, .ref b), (1, .ref (a 0)), (2, .ref (bm 0)), (3, .ref ao), (4, .int x4)] → W p l e R s m args below meth c H locs (cells + 1) (slots + 6) Q (F0 m 1505 ls [])) : W p l e R s m args below meth c H locs cells slots Q (F0 m 1084 ls []) := by
  obtain ⟨hx, hb, -⟩ := id X.1
  obtain ⟨bb, τ1, hy, hor⟩ := hop (xs (x4 + 1).toNatClampNeg) (xs (x4 + 2).toNatClampNeg)
  rcases hor with ⟨σ1, hxs, e0, hrel⟩ | ⟨k, cc, σ1, hk, hxt, e0, hrel⟩
  · refine lv_aload_n hx hb dL_law_1084 rfl (lv_at hl 1 rfl) ?_
    refine lv_aload_n hx hb dL_law_1085 rfl (lv_at hl 0 rfl) ?_
    refine lv_iload hx hb dL_law_1086 (lv_at hl 4 rfl) ?_
    refine lv_iconst (v := 1) hx hb dL_law_1088 (by decide) ?_
    refine lv_iadd hx hb dL_law_1089 ?_
    refine L_ld X hp hi1 dL_law_1090 ?_
    refine lv_aload_n hx hb dL_law_1091 rfl (lv_at hl 0 rfl) ?_
    refine lv_iload hx hb dL_law_1092 (lv_at hl 4 rfl) ?_
    refine lv_iconst (v := 2) hx hb dL_law_1094 (by decide) ?_
    refine lv_iadd hx hb dL_law_1095 ?_
    refine L_ld X hp hi2 dL_law_1096 ?_
    refine lv_aload_n hx hb dL_law_1097 rfl (lv_at hl 3 rfl) ?_
    refine L_H X (c_L_cube hxs) tw_44_3 tw_44_4 tw_7_12 tw_44_5 hdd_L_cube (by decide) (by decide) hp hce hl.1 rfl (Nat.le_of_ble_eq_true rfl) dL_law_1098 (fun H locs hp => ?_)
    refine lv_istore (lv' := [(5, .int 0), (0, .ref b), (1, .ref (a 0)), (2, .ref (bm 0)), (3, .ref ao), (4, .int x4)]) hx hb dL_law_1101 hl (by decide) rfl (fun ls hl => ?_)
    refine lv_aload_n hx hb dL_law_1103 rfl (lv_at hl 3 rfl) ?_
    refine lv_aload_n hx hb dL_law_1104 rfl (lv_at hl 1 rfl) ?_
    refine lv_iload hx hb dL_law_1105 (lv_at hl 5 rfl) ?_
    refine lv_iconst (v := 1) hx hb dL_law_1107 (by decide) ?_
    refine lv_iadd hx hb dL_law_1108 ?_
    refine L_ld X hp hi1 dL_law_1109 ?_
    refine lv_aload_n hx hb dL_law_1110 rfl (lv_at hl 1 rfl) ?_
    refine lv_iload hx hb dL_law_1111 (lv_at hl 5 rfl) ?_
    refine lv_iconst (v := 2) hx hb dL_law_1113 (by decide) ?_
    refine lv_iadd hx hb dL_law_1114 ?_
    refine L_ld X hp hi2 dL_law_1115 ?_
    refine L_Mi X (c_X7_cube hy) tw_44_16 mw_X7_cube (by decide) hp hce rfl rfl rfl hl.1 rfl (Nat.le_of_ble_eq_true rfl) dL_law_1116 (fun H locs hp => ?_)
    refine lv_istore (lv' := [(6, .int bb), (5, .int 0), (0, .ref b), (1, .ref (a 0)), (2, .ref (bm 0)), (3, .ref ao), (4, .int x4)]) hx hb dL_law_1119 hl (by decide) rfl (fun ls hl => ?_)
    refine lv_aload_n hx hb dL_law_1121 rfl (lv_at hl 4 rfl) ?_
    refine L_Mi X (c_X7_thrown (r := τ1.1 0) rfl) tw_8_13 mw_X7_thrown (by decide) hp hce rfl rfl rfl hl.1 rfl (Nat.le_of_ble_eq_true rfl) dL_law_1122 (fun H locs hp => ?_)
    refine lv_iload hx hb dL_law_1125 (lv_at hl 1 rfl) ?_
    refine lv_icmp_eq (tgt := 1132) hx hb dL_law_1127 (by decide) (fun c1 => ?_) (fun c1 => absurd e0 c1)
    refine lv_iload hx hb dL_law_1132 (lv_at hl 1 rfl) ?_
    refine lv_if_ne (tgt := 1149) hx hb dL_law_1134 (by decide) (fun c2 => absurd rfl c2) (fun c2 => ?_)
    refine lv_aload_n hx hb dL_law_1137 rfl (lv_at hl 5 rfl) ?_
    refine lv_iconst (v := 0) hx hb dL_law_1138 (by decide) ?_
    refine L_out X hp dL_law_1139 ?_
    refine lv_iload hx hb dL_law_1140 (lv_at hl 0 rfl) ?_
    refine lv_i2l hx hb dL_law_1142 rfl ?_
    refine W.lcmp hx hb dL_law_1143 ?_
    refine lv_if_eq (tgt := 1149) hx hb dL_law_1144 (by decide) (fun c3 => ?_) (fun c3 => absurd (lcmp0.mpr (show vp_updL f 0 bb.toInt64 0 = bb.toInt64 from if_pos rfl)) c3)
    refine lv_goto (tgt := 1505) hx hb dL_law_1149 (by decide) ?_
    exact kk _ _ _ _ _ _ hrel hp (lv_sub hl [2, 3, 4, 5, 6] rfl)
  · rcases hk with ⟨rfl, rfl⟩ | ⟨rfl, rfl⟩ | ⟨rfl, rfl⟩
    · refine lv_aload_n hx hb dL_law_1084 rfl (lv_at hl 1 rfl) ?_
      refine lv_aload_n hx hb dL_law_1085 rfl (lv_at hl 0 rfl) ?_
      refine lv_iload hx hb dL_law_1086 (lv_at hl 4 rfl) ?_
      refine lv_iconst (v := 1) hx hb dL_law_1088 (by decide) ?_
      refine lv_iadd hx hb dL_law_1089 ?_
      refine L_ld X hp hi1 dL_law_1090 ?_
      refine lv_aload_n hx hb dL_law_1091 rfl (lv_at hl 0 rfl) ?_
      refine lv_iload hx hb dL_law_1092 (lv_at hl 4 rfl) ?_
      refine lv_iconst (v := 2) hx hb dL_law_1094 (by decide) ?_
      refine lv_iadd hx hb dL_law_1095 ?_
      refine L_ld X hp hi2 dL_law_1096 ?_
      refine lv_aload_n hx hb dL_law_1097 rfl (lv_at hl 3 rfl) ?_
      refine L_H X (c_L_cube_x2 hl0 hxt) tw_44_3 tw_44_4 tw_7_12 tw_44_5 hdd_L_cube (by decide) (by decide) hp hce hl.1 rfl (Nat.le_of_ble_eq_true rfl) dL_law_1098 (fun H locs hp => ?_)
      refine lv_istore (lv' := [(5, .int 1), (0, .ref b), (1, .ref (a 0)), (2, .ref (bm 0)), (3, .ref ao), (4, .int x4)]) hx hb dL_law_1101 hl (by decide) rfl (fun ls hl => ?_)
      refine lv_aload_n hx hb dL_law_1103 rfl (lv_at hl 3 rfl) ?_
      refine lv_aload_n hx hb dL_law_1104 rfl (lv_at hl 1 rfl) ?_
      refine lv_iload hx hb dL_law_1105 (lv_at hl 5 rfl) ?_
      refine lv_iconst (v := 1) hx hb dL_law_1107 (by decide) ?_
      refine lv_iadd hx hb dL_law_1108 ?_
      refine L_ld X hp hi1 dL_law_1109 ?_
      refine lv_aload_n hx hb dL_law_1110 rfl (lv_at hl 1 rfl) ?_
      refine lv_iload hx hb dL_law_1111 (lv_at hl 5 rfl) ?_
      refine lv_iconst (v := 2) hx hb dL_law_1113 (by decide) ?_
      refine lv_iadd hx hb dL_law_1114 ?_
      refine L_ld X hp hi2 dL_law_1115 ?_
      refine L_Mi X (c_X7_cube hy) tw_44_16 mw_X7_cube (by decide) hp hce rfl rfl rfl hl.1 rfl (Nat.le_of_ble_eq_true rfl) dL_law_1116 (fun H locs hp => ?_)
      refine lv_istore (lv' := [(6, .int bb), (5, .int 1), (0, .ref b), (1, .ref (a 0)), (2, .ref (bm 0)), (3, .ref ao), (4, .int x4)]) hx hb dL_law_1119 hl (by decide) rfl (fun ls hl => ?_)
      refine lv_aload_n hx hb dL_law_1121 rfl (lv_at hl 4 rfl) ?_
      refine L_Mi X (c_X7_thrown (r := τ1.1 0) rfl) tw_8_13 mw_X7_thrown (by decide) hp hce rfl rfl rfl hl.1 rfl (Nat.le_of_ble_eq_true rfl) dL_law_1122 (fun H locs hp => ?_)
      refine lv_iload hx hb dL_law_1125 (lv_at hl 1 rfl) ?_
      refine lv_icmp_eq (tgt := 1132) hx hb dL_law_1127 (by decide) (fun c1 => ?_) (fun c1 => absurd e0 c1)
      refine lv_iload hx hb dL_law_1132 (lv_at hl 1 rfl) ?_
      refine lv_if_ne (tgt := 1149) hx hb dL_law_1134 (by decide) (fun c2 => ?_) (fun c2 => absurd c2 (by decide))
      refine lv_goto (tgt := 1505) hx hb dL_law_1149 (by decide) ?_
      exact kk _ _ _ _ _ _ hrel hp (lv_sub hl [2, 3, 4, 5, 6] rfl)
    · refine lv_aload_n hx hb dL_law_1084 rfl (lv_at hl 1 rfl) ?_
      refine lv_aload_n hx hb dL_law_1085 rfl (lv_at hl 0 rfl) ?_
      refine lv_iload hx hb dL_law_1086 (lv_at hl 4 rfl) ?_
      refine lv_iconst (v := 1) hx hb dL_law_1088 (by decide) ?_
      refine lv_iadd hx hb dL_law_1089 ?_
      refine L_ld X hp hi1 dL_law_1090 ?_
      refine lv_aload_n hx hb dL_law_1091 rfl (lv_at hl 0 rfl) ?_
      refine lv_iload hx hb dL_law_1092 (lv_at hl 4 rfl) ?_
      refine lv_iconst (v := 2) hx hb dL_law_1094 (by decide) ?_
      refine lv_iadd hx hb dL_law_1095 ?_
      refine L_ld X hp hi2 dL_law_1096 ?_
      refine lv_aload_n hx hb dL_law_1097 rfl (lv_at hl 3 rfl) ?_
      refine L_H X (c_L_cube_x3 hl0 hxt) tw_44_3 tw_44_4 tw_7_12 tw_44_5 hdd_L_cube (by decide) (by decide) hp hce hl.1 rfl (Nat.le_of_ble_eq_true rfl) dL_law_1098 (fun H locs hp => ?_)
      refine lv_istore (lv' := [(5, .int 2), (0, .ref b), (1, .ref (a 0)), (2, .ref (bm 0)), (3, .ref ao), (4, .int x4)]) hx hb dL_law_1101 hl (by decide) rfl (fun ls hl => ?_)
      refine lv_aload_n hx hb dL_law_1103 rfl (lv_at hl 3 rfl) ?_
      refine lv_aload_n hx hb dL_law_1104 rfl (lv_at hl 1 rfl) ?_
      refine lv_iload hx hb dL_law_1105 (lv_at hl 5 rfl) ?_
      refine lv_iconst (v := 1) hx hb dL_law_1107 (by decide) ?_
      refine lv_iadd hx hb dL_law_1108 ?_
      refine L_ld X hp hi1 dL_law_1109 ?_
      refine lv_aload_n hx hb dL_law_1110 rfl (lv_at hl 1 rfl) ?_
      refine lv_iload hx hb dL_law_1111 (lv_at hl 5 rfl) ?_
      refine lv_iconst (v := 2) hx hb dL_law_1113 (by decide) ?_
      refine lv_iadd hx hb dL_law_1114 ?_
      refine L_ld X hp hi2 dL_law_1115 ?_
      refine L_Mi X (c_X7_cube hy) tw_44_16 mw_X7_cube (by decide) hp hce rfl rfl rfl hl.1 rfl (Nat.le_of_ble_eq_true rfl) dL_law_1116 (fun H locs hp => ?_)
      refine lv_istore (lv' := [(6, .int bb), (5, .int 2), (0, .ref b), (1, .ref (a 0)), (2, .ref (bm 0)), (3, .ref ao), (4, .int x4)]) hx hb dL_law_1119 hl (by decide) rfl (fun ls hl => ?_)
      refine lv_aload_n hx hb dL_law_1121 rfl (lv_at hl 4 rfl) ?_
      refine L_Mi X (c_X7_thrown (r := τ1.1 0) rfl) tw_8_13 mw_X7_thrown (by decide) hp hce rfl rfl rfl hl.1 rfl (Nat.le_of_ble_eq_true rfl) dL_law_1122 (fun H locs hp => ?_)
      refine lv_iload hx hb dL_law_1125 (lv_at hl 1 rfl) ?_
      refine lv_icmp_eq (tgt := 1132) hx hb dL_law_1127 (by decide) (fun c1 => ?_) (fun c1 => absurd e0 c1)
      refine lv_iload hx hb dL_law_1132 (lv_at hl 1 rfl) ?_
      refine lv_if_ne (tgt := 1149) hx hb dL_law_1134 (by decide) (fun c2 => ?_) (fun c2 => absurd c2 (by decide))
      refine lv_goto (tgt := 1505) hx hb dL_law_1149 (by decide) ?_
      exact kk _ _ _ _ _ _ hrel hp (lv_sub hl [2, 3, 4, 5, 6] rfl)
    · refine lv_aload_n hx hb dL_law_1084 rfl (lv_at hl 1 rfl) ?_
      refine lv_aload_n hx hb dL_law_1085 rfl (lv_at hl 0 rfl) ?_
      refine lv_iload hx hb dL_law_1086 (lv_at hl 4 rfl) ?_
      refine lv_iconst (v := 1) hx hb dL_law_1088 (by decide) ?_
      refine lv_iadd hx hb dL_law_1089 ?_
      refine L_ld X hp hi1 dL_law_1090 ?_
      refine lv_aload_n hx hb dL_law_1091 rfl (lv_at hl 0 rfl) ?_
      refine lv_iload hx hb dL_law_1092 (lv_at hl 4 rfl) ?_
      refine lv_iconst (v := 2) hx hb dL_law_1094 (by decide) ?_
      refine lv_iadd hx hb dL_law_1095 ?_
      refine L_ld X hp hi2 dL_law_1096 ?_
      refine lv_aload_n hx hb dL_law_1097 rfl (lv_at hl 3 rfl) ?_
      refine L_H X (c_L_cube_x1 hl0 hxt) tw_44_3 tw_44_4 tw_7_12 tw_44_5 hdd_L_cube (by decide) (by decide) hp hce hl.1 rfl (Nat.le_of_ble_eq_true rfl) dL_law_1098 (fun H locs hp => ?_)
      refine lv_istore (lv' := [(5, .int 3), (0, .ref b), (1, .ref (a 0)), (2, .ref (bm 0)), (3, .ref ao), (4, .int x4)]) hx hb dL_law_1101 hl (by decide) rfl (fun ls hl => ?_)
      refine lv_aload_n hx hb dL_law_1103 rfl (lv_at hl 3 rfl) ?_
      refine lv_aload_n hx hb dL_law_1104 rfl (lv_at hl 1 rfl) ?_
      refine lv_iload hx hb dL_law_1105 (lv_at hl 5 rfl) ?_
      refine lv_iconst (v := 1) hx hb dL_law_1107 (by decide) ?_
      refine lv_iadd hx hb dL_law_1108 ?_
      refine L_ld X hp hi1 dL_law_1109 ?_
      refine lv_aload_n hx hb dL_law_1110 rfl (lv_at hl 1 rfl) ?_
      refine lv_iload hx hb dL_law_1111 (lv_at hl 5 rfl) ?_
      refine lv_iconst (v := 2) hx hb dL_law_1113 (by decide) ?_
      refine lv_iadd hx hb dL_law_1114 ?_
      refine L_ld X hp hi2 dL_law_1115 ?_
      refine L_Mi X (c_X7_cube hy) tw_44_16 mw_X7_cube (by decide) hp hce rfl rfl rfl hl.1 rfl (Nat.le_of_ble_eq_true rfl) dL_law_1116 (fun H locs hp => ?_)
      refine lv_istore (lv' := [(6, .int bb), (5, .int 3), (0, .ref b), (1, .ref (a 0)), (2, .ref (bm 0)), (3, .ref ao), (4, .int x4)]) hx hb dL_law_1119 hl (by decide) rfl (fun ls hl => ?_)
      refine lv_aload_n hx hb dL_law_1121 rfl (lv_at hl 4 rfl) ?_
      refine L_Mi X (c_X7_thrown (r := τ1.1 0) rfl) tw_8_13 mw_X7_thrown (by decide) hp hce rfl rfl rfl hl.1 rfl (Nat.le_of_ble_eq_true rfl) dL_law_1122 (fun H locs hp => ?_)
      refine lv_iload hx hb dL_law_1125 (lv_at hl 1 rfl) ?_
      refine lv_icmp_eq (tgt := 1132) hx hb dL_law_1127 (by decide) (fun c1 => ?_) (fun c1 => absurd e0 c1)
      refine lv_iload hx hb dL_law_1132 (lv_at hl 1 rfl) ?_
      refine lv_if_ne (tgt := 1149) hx hb dL_law_1134 (by decide) (fun c2 => ?_) (fun c2 => absurd c2 (by decide))
      refine lv_goto (tgt := 1505) hx hb dL_law_1149 (by decide) ?_
      exact kk _ _ _ _ _ _ hrel hp (lv_sub hl [2, 3, 4, 5, 6] rfl)
set_option maxRecDepth 20000 in
set_option maxHeartbeats 4000000 in
theorem law_certificate {p : Program} {l : Launch} {e : Env} {R : Room} {s : State} {m : MethodId} {args : Array Value} {below : List Frame} {meth : Method} {c : Code} {H : Heap} {locs : List Loc} {Q : State → Prop} {D : va_G} {a bm : Nat → Nat} {cA : Nat → ClassId} {t ao b L : Nat} {xs : Nat → Int32} {A : Nat → Prop} {σ τ : St} {cells slots N : Nat} {ls : Array Slot} {f : Nat → Int64} {Rel : St → St → Prop} {x4 : Int32} (hl0 : l.stackTraces = false) (X : LC p R s m args c b L xs D a bm cA ao t A) (hop : Op_certificate N Rel σ τ) (hp : PL D a bm cA ao A s.heap H locs σ τ f)  (hl : lv_has ls 8 [(0, .ref b), (1, .ref (a 0)), (2, .ref (bm 0)), (3, .ref ao), (4, .int x4)]) (hce : cells + 1 ≤ R.cells ∧ slots + 6 ≤ R.slots)
    (kk : ∀ (σ' τ' : St) (f' : Nat → Int64) (H : Heap) (locs : List Loc) (ls : Array Slot), Rel σ' τ' → PL D a bm cA ao A s.heap H locs σ' τ' f' → lv_has ls 8 [(0, .ref b), (1, .ref (a 0)), (2, .ref (bm 0)), (3, .ref ao), (4, .int x4)] → W p l e R s m args below meth c H locs (cells + 1) (slots + 6) Q (F0 m 1505 ls [])) : W p l e R s m args below meth c H locs cells slots Q (F0 m 1152 ls []) := by
  obtain ⟨hx, hb, -⟩ := id X.1
  obtain ⟨bb, τ1, hy, hor⟩ := hop
  rcases hor with ⟨σ1, hxs, e0, hrel⟩ | ⟨k, cc, σ1, hk, hxt, e0, hrel⟩
  · refine lv_aload_n hx hb dL_law_1152 rfl (lv_at hl 1 rfl) ?_
    refine lv_aload_n hx hb dL_law_1153 rfl (lv_at hl 3 rfl) ?_
    refine L_H X (c_L_certificate hxs) tw_44_20 tw_44_21 tw_7_12 tw_44_22 hdd_L_certificate (by decide) (by decide) hp hce hl.1 rfl (Nat.le_of_ble_eq_true rfl) dL_law_1154 (fun H locs hp => ?_)
    refine lv_istore (lv' := [(5, .int 0), (0, .ref b), (1, .ref (a 0)), (2, .ref (bm 0)), (3, .ref ao), (4, .int x4)]) hx hb dL_law_1157 hl (by decide) rfl (fun ls hl => ?_)
    refine lv_aload_n hx hb dL_law_1159 rfl (lv_at hl 3 rfl) ?_
    refine L_Ml X (c_X7_certificate hy) tw_45_15 mw_X7_certificate (by decide) hp hce rfl rfl rfl hl.1 rfl (Nat.le_of_ble_eq_true rfl) dL_law_1160 (fun H locs hp => ?_)
    refine lv_lstore (lv' := [(6, .long bb), (5, .int 0), (0, .ref b), (1, .ref (a 0)), (2, .ref (bm 0)), (3, .ref ao), (4, .int x4)]) hx hb dL_law_1163 hl (by decide) rfl (fun ls hl => ?_)
    refine lv_aload_n hx hb dL_law_1165 rfl (lv_at hl 4 rfl) ?_
    refine L_Mi X (c_X7_thrown (r := τ1.1 0) rfl) tw_8_13 mw_X7_thrown (by decide) hp hce rfl rfl rfl hl.1 rfl (Nat.le_of_ble_eq_true rfl) dL_law_1166 (fun H locs hp => ?_)
    refine lv_iload hx hb dL_law_1169 (lv_at hl 1 rfl) ?_
    refine lv_icmp_eq (tgt := 1176) hx hb dL_law_1171 (by decide) (fun c1 => ?_) (fun c1 => absurd e0 c1)
    refine lv_iload hx hb dL_law_1176 (lv_at hl 1 rfl) ?_
    refine lv_if_ne (tgt := 1192) hx hb dL_law_1178 (by decide) (fun c2 => absurd rfl c2) (fun c2 => ?_)
    refine lv_aload_n hx hb dL_law_1181 rfl (lv_at hl 5 rfl) ?_
    refine lv_iconst (v := 0) hx hb dL_law_1182 (by decide) ?_
    refine L_out X hp dL_law_1183 ?_
    refine lv_lload hx hb dL_law_1184 (lv_at hl 0 rfl) ?_
    refine W.lcmp hx hb dL_law_1186 ?_
    refine lv_if_eq (tgt := 1192) hx hb dL_law_1187 (by decide) (fun c3 => ?_) (fun c3 => absurd (lcmp0.mpr (show vp_updL f 0 bb 0 = bb from if_pos rfl)) c3)
    refine lv_goto (tgt := 1505) hx hb dL_law_1192 (by decide) ?_
    exact kk _ _ _ _ _ _ hrel hp (lv_sub hl [2, 3, 4, 5, 6] rfl)
  · rcases hk with ⟨rfl, rfl⟩
    refine lv_aload_n hx hb dL_law_1152 rfl (lv_at hl 1 rfl) ?_
    refine lv_aload_n hx hb dL_law_1153 rfl (lv_at hl 3 rfl) ?_
    refine L_H X (c_L_certificate_x2 hl0 hxt) tw_44_20 tw_44_21 tw_7_12 tw_44_22 hdd_L_certificate (by decide) (by decide) hp hce hl.1 rfl (Nat.le_of_ble_eq_true rfl) dL_law_1154 (fun H locs hp => ?_)
    refine lv_istore (lv' := [(5, .int 1), (0, .ref b), (1, .ref (a 0)), (2, .ref (bm 0)), (3, .ref ao), (4, .int x4)]) hx hb dL_law_1157 hl (by decide) rfl (fun ls hl => ?_)
    refine lv_aload_n hx hb dL_law_1159 rfl (lv_at hl 3 rfl) ?_
    refine L_Ml X (c_X7_certificate hy) tw_45_15 mw_X7_certificate (by decide) hp hce rfl rfl rfl hl.1 rfl (Nat.le_of_ble_eq_true rfl) dL_law_1160 (fun H locs hp => ?_)
    refine lv_lstore (lv' := [(6, .long bb), (5, .int 1), (0, .ref b), (1, .ref (a 0)), (2, .ref (bm 0)), (3, .ref ao), (4, .int x4)]) hx hb dL_law_1163 hl (by decide) rfl (fun ls hl => ?_)
    refine lv_aload_n hx hb dL_law_1165 rfl (lv_at hl 4 rfl) ?_
    refine L_Mi X (c_X7_thrown (r := τ1.1 0) rfl) tw_8_13 mw_X7_thrown (by decide) hp hce rfl rfl rfl hl.1 rfl (Nat.le_of_ble_eq_true rfl) dL_law_1166 (fun H locs hp => ?_)
    refine lv_iload hx hb dL_law_1169 (lv_at hl 1 rfl) ?_
    refine lv_icmp_eq (tgt := 1176) hx hb dL_law_1171 (by decide) (fun c1 => ?_) (fun c1 => absurd e0 c1)
    refine lv_iload hx hb dL_law_1176 (lv_at hl 1 rfl) ?_
    refine lv_if_ne (tgt := 1192) hx hb dL_law_1178 (by decide) (fun c2 => ?_) (fun c2 => absurd c2 (by decide))
    refine lv_goto (tgt := 1505) hx hb dL_law_1192 (by decide) ?_
    exact kk _ _ _ _ _ _ hrel hp (lv_sub hl [2, 3, 4, 5, 6] rfl)
set_option maxRecDepth 20000 in
set_option maxHeartbeats 4000000 in
theorem law_shrunken {p : Program} {l : Launch} {e : Env} {R : Room} {s : State} {m : MethodId} {args : Array Value} {below : List Frame} {meth : Method} {c : Code} {H : Heap} {locs : List Loc} {Q : State → Prop} {D : va_G} {a bm : Nat → Nat} {cA : Nat → ClassId} {t ao b L : Nat} {xs : Nat → Int32} {A : Nat → Prop} {σ τ : St} {cells slots N : Nat} {ls : Array Slot} {f : Nat → Int64} {Rel : St → St → Prop} {x4 : Int32} (hl0 : l.stackTraces = false) (X : LC p R s m args c b L xs D a bm cA ao t A) (hop : Op_shrunken N Rel σ τ) (hp : PL D a bm cA ao A s.heap H locs σ τ f)  (hl : lv_has ls 8 [(0, .ref b), (1, .ref (a 0)), (2, .ref (bm 0)), (3, .ref ao), (4, .int x4)]) (hce : cells + 1 ≤ R.cells ∧ slots + 6 ≤ R.slots)
    (kk : ∀ (σ' τ' : St) (f' : Nat → Int64) (H : Heap) (locs : List Loc) (ls : Array Slot), Rel σ' τ' → PL D a bm cA ao A s.heap H locs σ' τ' f' → lv_has ls 8 [(0, .ref b), (1, .ref (a 0)), (2, .ref (bm 0)), (3, .ref ao), (4, .int x4)] → W p l e R s m args below meth c H locs (cells + 1) (slots + 6) Q (F0 m 1505 ls [])) : W p l e R s m args below meth c H locs cells slots Q (F0 m 1195 ls []) := by
  obtain ⟨hx, hb, -⟩ := id X.1
  obtain ⟨bb, τ1, hy, hor⟩ := hop
  rcases hor with ⟨σ1, hxs, e0, hrel⟩ | ⟨k, cc, σ1, hk, hxt, e0, hrel⟩
  · refine lv_aload_n hx hb dL_law_1195 rfl (lv_at hl 1 rfl) ?_
    refine lv_aload_n hx hb dL_law_1196 rfl (lv_at hl 3 rfl) ?_
    refine L_H X (c_L_shrunken hxs) tw_46_3 tw_46_4 tw_7_12 tw_46_5 hdd_L_shrunken (by decide) (by decide) hp hce hl.1 rfl (Nat.le_of_ble_eq_true rfl) dL_law_1197 (fun H locs hp => ?_)
    refine lv_istore (lv' := [(5, .int 0), (0, .ref b), (1, .ref (a 0)), (2, .ref (bm 0)), (3, .ref ao), (4, .int x4)]) hx hb dL_law_1200 hl (by decide) rfl (fun ls hl => ?_)
    refine lv_aload_n hx hb dL_law_1202 rfl (lv_at hl 3 rfl) ?_
    refine L_Mi X (c_X7_shrunken hy) tw_46_19 mw_X7_shrunken (by decide) hp hce rfl rfl rfl hl.1 rfl (Nat.le_of_ble_eq_true rfl) dL_law_1203 (fun H locs hp => ?_)
    refine lv_istore (lv' := [(6, .int bb), (5, .int 0), (0, .ref b), (1, .ref (a 0)), (2, .ref (bm 0)), (3, .ref ao), (4, .int x4)]) hx hb dL_law_1206 hl (by decide) rfl (fun ls hl => ?_)
    refine lv_aload_n hx hb dL_law_1208 rfl (lv_at hl 4 rfl) ?_
    refine L_Mi X (c_X7_thrown (r := τ1.1 0) rfl) tw_8_13 mw_X7_thrown (by decide) hp hce rfl rfl rfl hl.1 rfl (Nat.le_of_ble_eq_true rfl) dL_law_1209 (fun H locs hp => ?_)
    refine lv_iload hx hb dL_law_1212 (lv_at hl 1 rfl) ?_
    refine lv_icmp_eq (tgt := 1219) hx hb dL_law_1214 (by decide) (fun c1 => ?_) (fun c1 => absurd e0 c1)
    refine lv_iload hx hb dL_law_1219 (lv_at hl 1 rfl) ?_
    refine lv_if_ne (tgt := 1236) hx hb dL_law_1221 (by decide) (fun c2 => absurd rfl c2) (fun c2 => ?_)
    refine lv_aload_n hx hb dL_law_1224 rfl (lv_at hl 5 rfl) ?_
    refine lv_iconst (v := 0) hx hb dL_law_1225 (by decide) ?_
    refine L_out X hp dL_law_1226 ?_
    refine lv_iload hx hb dL_law_1227 (lv_at hl 0 rfl) ?_
    refine lv_i2l hx hb dL_law_1229 rfl ?_
    refine W.lcmp hx hb dL_law_1230 ?_
    refine lv_if_eq (tgt := 1236) hx hb dL_law_1231 (by decide) (fun c3 => ?_) (fun c3 => absurd (lcmp0.mpr (show vp_updL f 0 bb.toInt64 0 = bb.toInt64 from if_pos rfl)) c3)
    refine lv_goto (tgt := 1505) hx hb dL_law_1236 (by decide) ?_
    exact kk _ _ _ _ _ _ hrel hp (lv_sub hl [2, 3, 4, 5, 6] rfl)
  · rcases hk with ⟨rfl, rfl⟩
    refine lv_aload_n hx hb dL_law_1195 rfl (lv_at hl 1 rfl) ?_
    refine lv_aload_n hx hb dL_law_1196 rfl (lv_at hl 3 rfl) ?_
    refine L_H X (c_L_shrunken_x2 hl0 hxt) tw_46_3 tw_46_4 tw_7_12 tw_46_5 hdd_L_shrunken (by decide) (by decide) hp hce hl.1 rfl (Nat.le_of_ble_eq_true rfl) dL_law_1197 (fun H locs hp => ?_)
    refine lv_istore (lv' := [(5, .int 1), (0, .ref b), (1, .ref (a 0)), (2, .ref (bm 0)), (3, .ref ao), (4, .int x4)]) hx hb dL_law_1200 hl (by decide) rfl (fun ls hl => ?_)
    refine lv_aload_n hx hb dL_law_1202 rfl (lv_at hl 3 rfl) ?_
    refine L_Mi X (c_X7_shrunken hy) tw_46_19 mw_X7_shrunken (by decide) hp hce rfl rfl rfl hl.1 rfl (Nat.le_of_ble_eq_true rfl) dL_law_1203 (fun H locs hp => ?_)
    refine lv_istore (lv' := [(6, .int bb), (5, .int 1), (0, .ref b), (1, .ref (a 0)), (2, .ref (bm 0)), (3, .ref ao), (4, .int x4)]) hx hb dL_law_1206 hl (by decide) rfl (fun ls hl => ?_)
    refine lv_aload_n hx hb dL_law_1208 rfl (lv_at hl 4 rfl) ?_
    refine L_Mi X (c_X7_thrown (r := τ1.1 0) rfl) tw_8_13 mw_X7_thrown (by decide) hp hce rfl rfl rfl hl.1 rfl (Nat.le_of_ble_eq_true rfl) dL_law_1209 (fun H locs hp => ?_)
    refine lv_iload hx hb dL_law_1212 (lv_at hl 1 rfl) ?_
    refine lv_icmp_eq (tgt := 1219) hx hb dL_law_1214 (by decide) (fun c1 => ?_) (fun c1 => absurd e0 c1)
    refine lv_iload hx hb dL_law_1219 (lv_at hl 1 rfl) ?_
    refine lv_if_ne (tgt := 1236) hx hb dL_law_1221 (by decide) (fun c2 => ?_) (fun c2 => absurd c2 (by decide))
    refine lv_goto (tgt := 1505) hx hb dL_law_1236 (by decide) ?_
    exact kk _ _ _ _ _ _ hrel hp (lv_sub hl [2, 3, 4, 5, 6] rfl)
set_option maxRecDepth 20000 in
set_option maxHeartbeats 4000000 in
theorem law_induction {p : Program} {l : Launch} {e : Env} {R : Room} {s : State} {m : MethodId} {args : Array Value} {below : List Frame} {meth : Method} {c : Code} {H : Heap} {locs : List Loc} {Q : State → Prop} {D : va_G} {a bm : Nat → Nat} {cA : Nat → ClassId} {t ao b L : Nat} {xs : Nat → Int32} {A : Nat → Prop} {σ τ : St} {cells slots N : Nat} {ls : Array Slot} {f : Nat → Int64} {Rel : St → St → Prop} {x4 : Int32} (hl0 : l.stackTraces = false) (X : LC p R s m args c b L xs D a bm cA ao t A) (hop : Op_induction N Rel σ τ) (hp : PL D a bm cA ao A s.heap H locs σ τ f) (hi1 : vp_in (x4 + 1) L) (hl : lv_has ls 8 [(0, .ref b), (1, .ref (a 0)), (2, .ref (bm 0)), (3, .ref ao), (4, .int x4)]) (hce : cells + 1 ≤ R.cells ∧ slots + 6 ≤ R.slots)
    (kk : ∀ (σ' τ' : St) (f' : Nat → Int64) (H : Heap) (locs : List Loc) (ls : Array Slot), Rel σ' τ' → PL D a bm cA ao A s.heap H locs σ' τ' f' → lv_has ls 8 [(0, .ref b), (1, .ref (a 0)), (2, .ref (bm 0)), (3, .ref ao), (4, .int x4)] → W p l e R s m args below meth c H locs (cells + 1) (slots + 6) Q (F0 m 1505 ls [])) : W p l e R s m args below meth c H locs cells slots Q (F0 m 1239 ls []) := by
  obtain ⟨hx, hb, -⟩ := id X.1
  by_cases cb : (xs (x4 + 1).toNatClampNeg) = 0
  · obtain ⟨bb, σ1, τ1, hxs, hy, hrel⟩ := hop 0 (Or.inl rfl)
    refine lv_aload_n hx hb dL_law_1239 rfl (lv_at hl 1 rfl) ?_
    refine lv_aload_n hx hb dL_law_1240 rfl (lv_at hl 0 rfl) ?_
    refine lv_iload hx hb dL_law_1241 (lv_at hl 4 rfl) ?_
    refine lv_iconst (v := 1) hx hb dL_law_1243 (by decide) ?_
    refine lv_iadd hx hb dL_law_1244 ?_
    refine L_ld X hp hi1 dL_law_1245 ?_
    refine lv_if_eq (tgt := 1253) hx hb dL_law_1246 (by decide) (fun c5 => ?_) (fun c5 => absurd cb c5)
    refine lv_iconst (v := 0) hx hb dL_law_1253 (by decide) ?_
    refine L_Si X (c_X6_induction eokX hxs) tw_47_3 mw_X6_induction (by decide) hp ⟨by omega, by omega⟩ rfl rfl rfl hl.1 rfl (Nat.le_of_ble_eq_true rfl) dL_law_1254 (fun H locs hp => ?_)
    refine lv_aload_n hx hb dL_law_1257 rfl (lv_at hl 2 rfl) ?_
    refine lv_aload_n hx hb dL_law_1258 rfl (lv_at hl 0 rfl) ?_
    refine lv_iload hx hb dL_law_1259 (lv_at hl 4 rfl) ?_
    refine lv_iconst (v := 1) hx hb dL_law_1261 (by decide) ?_
    refine lv_iadd hx hb dL_law_1262 ?_
    refine L_ld X hp hi1 dL_law_1263 ?_
    refine lv_if_eq (tgt := 1271) hx hb dL_law_1264 (by decide) (fun c5 => ?_) (fun c5 => absurd cb c5)
    refine lv_iconst (v := 0) hx hb dL_law_1271 (by decide) ?_
    refine L_Mi X (c_X7_induction hy) tw_48_7 mw_X7_induction (by decide) hp ⟨by omega, by omega⟩ rfl rfl rfl hl.1 rfl (Nat.le_of_ble_eq_true rfl) dL_law_1272 (fun H locs hp => ?_)
    refine lv_icmp_eq (tgt := 1505) hx hb dL_law_1275 (by decide) (fun c3 => ?_) (fun c3 => absurd rfl c3)
    refine W.widen (k := cells + 1) (n := slots + 6) (by omega) (by omega) ?_
    exact kk _ _ _ _ _ _ hrel hp hl
  · obtain ⟨bb, σ1, τ1, hxs, hy, hrel⟩ := hop 1 (Or.inr rfl)
    refine lv_aload_n hx hb dL_law_1239 rfl (lv_at hl 1 rfl) ?_
    refine lv_aload_n hx hb dL_law_1240 rfl (lv_at hl 0 rfl) ?_
    refine lv_iload hx hb dL_law_1241 (lv_at hl 4 rfl) ?_
    refine lv_iconst (v := 1) hx hb dL_law_1243 (by decide) ?_
    refine lv_iadd hx hb dL_law_1244 ?_
    refine L_ld X hp hi1 dL_law_1245 ?_
    refine lv_if_eq (tgt := 1253) hx hb dL_law_1246 (by decide) (fun c5 => absurd c5 cb) (fun c5 => ?_)
    refine lv_iconst (v := 1) hx hb dL_law_1249 (by decide) ?_
    refine lv_goto (tgt := 1254) hx hb dL_law_1250 (by decide) ?_
    refine L_Si X (c_X6_induction eokX hxs) tw_47_3 mw_X6_induction (by decide) hp ⟨by omega, by omega⟩ rfl rfl rfl hl.1 rfl (Nat.le_of_ble_eq_true rfl) dL_law_1254 (fun H locs hp => ?_)
    refine lv_aload_n hx hb dL_law_1257 rfl (lv_at hl 2 rfl) ?_
    refine lv_aload_n hx hb dL_law_1258 rfl (lv_at hl 0 rfl) ?_
    refine lv_iload hx hb dL_law_1259 (lv_at hl 4 rfl) ?_
    refine lv_iconst (v := 1) hx hb dL_law_1261 (by decide) ?_
    refine lv_iadd hx hb dL_law_1262 ?_
    refine L_ld X hp hi1 dL_law_1263 ?_
    refine lv_if_eq (tgt := 1271) hx hb dL_law_1264 (by decide) (fun c5 => absurd c5 cb) (fun c5 => ?_)
    refine lv_iconst (v := 1) hx hb dL_law_1267 (by decide) ?_
    refine lv_goto (tgt := 1272) hx hb dL_law_1268 (by decide) ?_
    refine L_Mi X (c_X7_induction hy) tw_48_7 mw_X7_induction (by decide) hp ⟨by omega, by omega⟩ rfl rfl rfl hl.1 rfl (Nat.le_of_ble_eq_true rfl) dL_law_1272 (fun H locs hp => ?_)
    refine lv_icmp_eq (tgt := 1505) hx hb dL_law_1275 (by decide) (fun c3 => ?_) (fun c3 => absurd rfl c3)
    refine W.widen (k := cells + 1) (n := slots + 6) (by omega) (by omega) ?_
    exact kk _ _ _ _ _ _ hrel hp hl
set_option maxRecDepth 20000 in
set_option maxHeartbeats 4000000 in
theorem law_elimination {p : Program} {l : Launch} {e : Env} {R : Room} {s : State} {m : MethodId} {args : Array Value} {below : List Frame} {meth : Method} {c : Code} {H : Heap} {locs : List Loc} {Q : State → Prop} {D : va_G} {a bm : Nat → Nat} {cA : Nat → ClassId} {t ao b L : Nat} {xs : Nat → Int32} {A : Nat → Prop} {σ τ : St} {cells slots N : Nat} {ls : Array Slot} {f : Nat → Int64} {Rel : St → St → Prop} {x4 : Int32} (hl0 : l.stackTraces = false) (X : LC p R s m args c b L xs D a bm cA ao t A) (hop : Op_elimination N Rel σ τ) (hp : PL D a bm cA ao A s.heap H locs σ τ f) (hi1 : vp_in (x4 + 1) L) (hl : lv_has ls 8 [(0, .ref b), (1, .ref (a 0)), (2, .ref (bm 0)), (3, .ref ao), (4, .int x4)]) (hce : cells + 1 ≤ R.cells ∧ slots + 6 ≤ R.slots)
    (kk : ∀ (σ' τ' : St) (f' : Nat → Int64) (H : Heap) (locs : List Loc) (ls : Array Slot), Rel σ' τ' → PL D a bm cA ao A s.heap H locs σ' τ' f' → lv_has ls 8 [(0, .ref b), (1, .ref (a 0)), (2, .ref (bm 0)), (3, .ref ao), (4, .int x4)] → W p l e R s m args below meth c H locs (cells + 1) (slots + 6) Q (F0 m 1505 ls [])) : W p l e R s m args below meth c H locs cells slots Q (F0 m 1280 ls []) := by
  obtain ⟨hx, hb, -⟩ := id X.1
  obtain ⟨bb, τ1, hy, hor⟩ := hop (xs (x4 + 1).toNatClampNeg)
  rcases hor with ⟨σ1, hxs, e0, hrel⟩ | ⟨k, cc, σ1, hk, hxt, e0, hrel⟩
  · refine lv_aload_n hx hb dL_law_1280 rfl (lv_at hl 1 rfl) ?_
    refine lv_aload_n hx hb dL_law_1281 rfl (lv_at hl 0 rfl) ?_
    refine lv_iload hx hb dL_law_1282 (lv_at hl 4 rfl) ?_
    refine lv_iconst (v := 1) hx hb dL_law_1284 (by decide) ?_
    refine lv_iadd hx hb dL_law_1285 ?_
    refine L_ld X hp hi1 dL_law_1286 ?_
    refine lv_aload_n hx hb dL_law_1287 rfl (lv_at hl 3 rfl) ?_
    refine L_H X (c_L_elimination hxs) tw_49_3 tw_49_4 tw_7_12 tw_49_5 hdd_L_elimination (by decide) (by decide) hp hce hl.1 rfl (Nat.le_of_ble_eq_true rfl) dL_law_1288 (fun H locs hp => ?_)
    refine lv_istore (lv' := [(5, .int 0), (0, .ref b), (1, .ref (a 0)), (2, .ref (bm 0)), (3, .ref ao), (4, .int x4)]) hx hb dL_law_1291 hl (by decide) rfl (fun ls hl => ?_)
    refine lv_aload_n hx hb dL_law_1293 rfl (lv_at hl 3 rfl) ?_
    refine lv_aload_n hx hb dL_law_1294 rfl (lv_at hl 1 rfl) ?_
    refine lv_iload hx hb dL_law_1295 (lv_at hl 5 rfl) ?_
    refine lv_iconst (v := 1) hx hb dL_law_1297 (by decide) ?_
    refine lv_iadd hx hb dL_law_1298 ?_
    refine L_ld X hp hi1 dL_law_1299 ?_
    refine L_Ml X (c_X7_elimination hy) tw_50_18 mw_X7_elimination (by decide) hp hce rfl rfl rfl hl.1 rfl (Nat.le_of_ble_eq_true rfl) dL_law_1300 (fun H locs hp => ?_)
    refine lv_lstore (lv' := [(6, .long bb), (5, .int 0), (0, .ref b), (1, .ref (a 0)), (2, .ref (bm 0)), (3, .ref ao), (4, .int x4)]) hx hb dL_law_1303 hl (by decide) rfl (fun ls hl => ?_)
    refine lv_aload_n hx hb dL_law_1305 rfl (lv_at hl 4 rfl) ?_
    refine L_Mi X (c_X7_thrown (r := τ1.1 0) rfl) tw_8_13 mw_X7_thrown (by decide) hp hce rfl rfl rfl hl.1 rfl (Nat.le_of_ble_eq_true rfl) dL_law_1306 (fun H locs hp => ?_)
    refine lv_iload hx hb dL_law_1309 (lv_at hl 1 rfl) ?_
    refine lv_icmp_eq (tgt := 1316) hx hb dL_law_1311 (by decide) (fun c1 => ?_) (fun c1 => absurd e0 c1)
    refine lv_iload hx hb dL_law_1316 (lv_at hl 1 rfl) ?_
    refine lv_if_ne (tgt := 1332) hx hb dL_law_1318 (by decide) (fun c2 => absurd rfl c2) (fun c2 => ?_)
    refine lv_aload_n hx hb dL_law_1321 rfl (lv_at hl 5 rfl) ?_
    refine lv_iconst (v := 0) hx hb dL_law_1322 (by decide) ?_
    refine L_out X hp dL_law_1323 ?_
    refine lv_lload hx hb dL_law_1324 (lv_at hl 0 rfl) ?_
    refine W.lcmp hx hb dL_law_1326 ?_
    refine lv_if_eq (tgt := 1332) hx hb dL_law_1327 (by decide) (fun c3 => ?_) (fun c3 => absurd (lcmp0.mpr (show vp_updL f 0 bb 0 = bb from if_pos rfl)) c3)
    refine lv_goto (tgt := 1505) hx hb dL_law_1332 (by decide) ?_
    exact kk _ _ _ _ _ _ hrel hp (lv_sub hl [2, 3, 4, 5, 6] rfl)
  · rcases hk with ⟨rfl, rfl⟩
    refine lv_aload_n hx hb dL_law_1280 rfl (lv_at hl 1 rfl) ?_
    refine lv_aload_n hx hb dL_law_1281 rfl (lv_at hl 0 rfl) ?_
    refine lv_iload hx hb dL_law_1282 (lv_at hl 4 rfl) ?_
    refine lv_iconst (v := 1) hx hb dL_law_1284 (by decide) ?_
    refine lv_iadd hx hb dL_law_1285 ?_
    refine L_ld X hp hi1 dL_law_1286 ?_
    refine lv_aload_n hx hb dL_law_1287 rfl (lv_at hl 3 rfl) ?_
    refine L_H X (c_L_elimination_x1 hl0 hxt) tw_49_3 tw_49_4 tw_7_12 tw_49_5 hdd_L_elimination (by decide) (by decide) hp hce hl.1 rfl (Nat.le_of_ble_eq_true rfl) dL_law_1288 (fun H locs hp => ?_)
    refine lv_istore (lv' := [(5, .int 1), (0, .ref b), (1, .ref (a 0)), (2, .ref (bm 0)), (3, .ref ao), (4, .int x4)]) hx hb dL_law_1291 hl (by decide) rfl (fun ls hl => ?_)
    refine lv_aload_n hx hb dL_law_1293 rfl (lv_at hl 3 rfl) ?_
    refine lv_aload_n hx hb dL_law_1294 rfl (lv_at hl 1 rfl) ?_
    refine lv_iload hx hb dL_law_1295 (lv_at hl 5 rfl) ?_
    refine lv_iconst (v := 1) hx hb dL_law_1297 (by decide) ?_
    refine lv_iadd hx hb dL_law_1298 ?_
    refine L_ld X hp hi1 dL_law_1299 ?_
    refine L_Ml X (c_X7_elimination hy) tw_50_18 mw_X7_elimination (by decide) hp hce rfl rfl rfl hl.1 rfl (Nat.le_of_ble_eq_true rfl) dL_law_1300 (fun H locs hp => ?_)
    refine lv_lstore (lv' := [(6, .long bb), (5, .int 1), (0, .ref b), (1, .ref (a 0)), (2, .ref (bm 0)), (3, .ref ao), (4, .int x4)]) hx hb dL_law_1303 hl (by decide) rfl (fun ls hl => ?_)
    refine lv_aload_n hx hb dL_law_1305 rfl (lv_at hl 4 rfl) ?_
    refine L_Mi X (c_X7_thrown (r := τ1.1 0) rfl) tw_8_13 mw_X7_thrown (by decide) hp hce rfl rfl rfl hl.1 rfl (Nat.le_of_ble_eq_true rfl) dL_law_1306 (fun H locs hp => ?_)
    refine lv_iload hx hb dL_law_1309 (lv_at hl 1 rfl) ?_
    refine lv_icmp_eq (tgt := 1316) hx hb dL_law_1311 (by decide) (fun c1 => ?_) (fun c1 => absurd e0 c1)
    refine lv_iload hx hb dL_law_1316 (lv_at hl 1 rfl) ?_
    refine lv_if_ne (tgt := 1332) hx hb dL_law_1318 (by decide) (fun c2 => ?_) (fun c2 => absurd c2 (by decide))
    refine lv_goto (tgt := 1505) hx hb dL_law_1332 (by decide) ?_
    exact kk _ _ _ _ _ _ hrel hp (lv_sub hl [2, 3, 4, 5, 6] rfl)
set_option maxRecDepth 20000 in
set_option maxHeartbeats 4000000 in
theorem law_isSafeWithFree {p : Program} {l : Launch} {e : Env} {R : Room} {s : State} {m : MethodId} {args : Array Value} {below : List Frame} {meth : Method} {c : Code} {H : Heap} {locs : List Loc} {Q : State → Prop} {D : va_G} {a bm : Nat → Nat} {cA : Nat → ClassId} {t ao b L : Nat} {xs : Nat → Int32} {A : Nat → Prop} {σ τ : St} {cells slots N : Nat} {ls : Array Slot} {f : Nat → Int64} {Rel : St → St → Prop} {x4 : Int32} (hl0 : l.stackTraces = false) (X : LC p R s m args c b L xs D a bm cA ao t A) (hop : Op_isSafeWithFree N Rel σ τ) (hp : PL D a bm cA ao A s.heap H locs σ τ f) (hi1 : vp_in (x4 + 1) L) (hl : lv_has ls 8 [(0, .ref b), (1, .ref (a 0)), (2, .ref (bm 0)), (3, .ref ao), (4, .int x4)]) (hce : cells + 1 ≤ R.cells ∧ slots + 6 ≤ R.slots)
    (kk : ∀ (σ' τ' : St) (f' : Nat → Int64) (H : Heap) (locs : List Loc) (ls : Array Slot), Rel σ' τ' → PL D a bm cA ao A s.heap H locs σ' τ' f' → lv_has ls 8 [(0, .ref b), (1, .ref (a 0)), (2, .ref (bm 0)), (3, .ref ao), (4, .int x4)] → W p l e R s m args below meth c H locs (cells + 1) (slots + 6) Q (F0 m 1505 ls [])) : W p l e R s m args below meth c H locs cells slots Q (F0 m 1335 ls []) := by
  obtain ⟨hx, hb, -⟩ := id X.1
  obtain ⟨bb, τ1, hy, hor⟩ := hop (xs (x4 + 1).toNatClampNeg)
  rcases hor with ⟨σ1, hxs, e0, hrel⟩ | ⟨k, cc, σ1, hk, hxt, e0, hrel⟩
  · refine lv_aload_n hx hb dL_law_1335 rfl (lv_at hl 1 rfl) ?_
    refine lv_aload_n hx hb dL_law_1336 rfl (lv_at hl 0 rfl) ?_
    refine lv_iload hx hb dL_law_1337 (lv_at hl 4 rfl) ?_
    refine lv_iconst (v := 1) hx hb dL_law_1339 (by decide) ?_
    refine lv_iadd hx hb dL_law_1340 ?_
    refine L_ld X hp hi1 dL_law_1341 ?_
    refine lv_aload_n hx hb dL_law_1342 rfl (lv_at hl 3 rfl) ?_
    refine L_H X (c_L_isSafeWithFree hxs) tw_51_17 tw_51_18 tw_7_12 tw_51_19 hdd_L_isSafeWithFree (by decide) (by decide) hp hce hl.1 rfl (Nat.le_of_ble_eq_true rfl) dL_law_1343 (fun H locs hp => ?_)
    refine lv_istore (lv' := [(5, .int 0), (0, .ref b), (1, .ref (a 0)), (2, .ref (bm 0)), (3, .ref ao), (4, .int x4)]) hx hb dL_law_1346 hl (by decide) rfl (fun ls hl => ?_)
    refine lv_aload_n hx hb dL_law_1348 rfl (lv_at hl 3 rfl) ?_
    refine lv_aload_n hx hb dL_law_1349 rfl (lv_at hl 1 rfl) ?_
    refine lv_iload hx hb dL_law_1350 (lv_at hl 5 rfl) ?_
    refine lv_iconst (v := 1) hx hb dL_law_1352 (by decide) ?_
    refine lv_iadd hx hb dL_law_1353 ?_
    refine L_ld X hp hi1 dL_law_1354 ?_
    refine L_Mi X (c_X7_isSafeWithFree hy) tw_52_9 mw_X7_isSafeWithFree (by decide) hp hce rfl rfl rfl hl.1 rfl (Nat.le_of_ble_eq_true rfl) dL_law_1355 (fun H locs hp => ?_)
    refine lv_istore (lv' := [(6, .int bb), (5, .int 0), (0, .ref b), (1, .ref (a 0)), (2, .ref (bm 0)), (3, .ref ao), (4, .int x4)]) hx hb dL_law_1358 hl (by decide) rfl (fun ls hl => ?_)
    refine lv_aload_n hx hb dL_law_1360 rfl (lv_at hl 4 rfl) ?_
    refine L_Mi X (c_X7_thrown (r := τ1.1 0) rfl) tw_8_13 mw_X7_thrown (by decide) hp hce rfl rfl rfl hl.1 rfl (Nat.le_of_ble_eq_true rfl) dL_law_1361 (fun H locs hp => ?_)
    refine lv_iload hx hb dL_law_1364 (lv_at hl 1 rfl) ?_
    refine lv_icmp_eq (tgt := 1371) hx hb dL_law_1366 (by decide) (fun c1 => ?_) (fun c1 => absurd e0 c1)
    refine lv_iload hx hb dL_law_1371 (lv_at hl 1 rfl) ?_
    refine lv_if_ne (tgt := 1395) hx hb dL_law_1373 (by decide) (fun c2 => absurd rfl c2) (fun c2 => ?_)
    refine lv_aload_n hx hb dL_law_1376 rfl (lv_at hl 5 rfl) ?_
    refine lv_iconst (v := 0) hx hb dL_law_1377 (by decide) ?_
    refine L_out X hp dL_law_1378 ?_
    refine lv_iload hx hb dL_law_1379 (lv_at hl 0 rfl) ?_
    refine lv_if_eq (tgt := 1388) hx hb dL_law_1381 (by decide) (fun c5 => ?_) (fun c5 => ?_)
    · refine lv_lconst (v := 0) hx hb dL_law_1388 (by decide) ?_
      refine W.lcmp hx hb dL_law_1389 ?_
      refine lv_if_eq (tgt := 1395) hx hb dL_law_1390 (by decide) (fun c3 => ?_) (fun c3 => absurd (lcmp0.mpr (show vp_updL f 0 (if bb = 0 then (0 : Int64) else 1) 0 = 0 by rw [show vp_updL f 0 (if bb = 0 then (0 : Int64) else 1) 0 = (if bb = 0 then (0 : Int64) else 1) from if_pos rfl, if_pos c5])) c3)
      refine lv_goto (tgt := 1505) hx hb dL_law_1395 (by decide) ?_
      exact kk _ _ _ _ _ _ hrel hp (lv_sub hl [2, 3, 4, 5, 6] rfl)
    · refine lv_lconst (v := 1) hx hb dL_law_1384 (by decide) ?_
      refine lv_goto (tgt := 1389) hx hb dL_law_1385 (by decide) ?_
      refine W.lcmp hx hb dL_law_1389 ?_
      refine lv_if_eq (tgt := 1395) hx hb dL_law_1390 (by decide) (fun c3 => ?_) (fun c3 => absurd (lcmp0.mpr (show vp_updL f 0 (if bb = 0 then (0 : Int64) else 1) 0 = 1 by rw [show vp_updL f 0 (if bb = 0 then (0 : Int64) else 1) 0 = (if bb = 0 then (0 : Int64) else 1) from if_pos rfl, if_neg c5])) c3)
      refine lv_goto (tgt := 1505) hx hb dL_law_1395 (by decide) ?_
      exact kk _ _ _ _ _ _ hrel hp (lv_sub hl [2, 3, 4, 5, 6] rfl)
  · rcases hk with ⟨rfl, rfl⟩
    refine lv_aload_n hx hb dL_law_1335 rfl (lv_at hl 1 rfl) ?_
    refine lv_aload_n hx hb dL_law_1336 rfl (lv_at hl 0 rfl) ?_
    refine lv_iload hx hb dL_law_1337 (lv_at hl 4 rfl) ?_
    refine lv_iconst (v := 1) hx hb dL_law_1339 (by decide) ?_
    refine lv_iadd hx hb dL_law_1340 ?_
    refine L_ld X hp hi1 dL_law_1341 ?_
    refine lv_aload_n hx hb dL_law_1342 rfl (lv_at hl 3 rfl) ?_
    refine L_H X (c_L_isSafeWithFree_x1 hl0 hxt) tw_51_17 tw_51_18 tw_7_12 tw_51_19 hdd_L_isSafeWithFree (by decide) (by decide) hp hce hl.1 rfl (Nat.le_of_ble_eq_true rfl) dL_law_1343 (fun H locs hp => ?_)
    refine lv_istore (lv' := [(5, .int 1), (0, .ref b), (1, .ref (a 0)), (2, .ref (bm 0)), (3, .ref ao), (4, .int x4)]) hx hb dL_law_1346 hl (by decide) rfl (fun ls hl => ?_)
    refine lv_aload_n hx hb dL_law_1348 rfl (lv_at hl 3 rfl) ?_
    refine lv_aload_n hx hb dL_law_1349 rfl (lv_at hl 1 rfl) ?_
    refine lv_iload hx hb dL_law_1350 (lv_at hl 5 rfl) ?_
    refine lv_iconst (v := 1) hx hb dL_law_1352 (by decide) ?_
    refine lv_iadd hx hb dL_law_1353 ?_
    refine L_ld X hp hi1 dL_law_1354 ?_
    refine L_Mi X (c_X7_isSafeWithFree hy) tw_52_9 mw_X7_isSafeWithFree (by decide) hp hce rfl rfl rfl hl.1 rfl (Nat.le_of_ble_eq_true rfl) dL_law_1355 (fun H locs hp => ?_)
    refine lv_istore (lv' := [(6, .int bb), (5, .int 1), (0, .ref b), (1, .ref (a 0)), (2, .ref (bm 0)), (3, .ref ao), (4, .int x4)]) hx hb dL_law_1358 hl (by decide) rfl (fun ls hl => ?_)
    refine lv_aload_n hx hb dL_law_1360 rfl (lv_at hl 4 rfl) ?_
    refine L_Mi X (c_X7_thrown (r := τ1.1 0) rfl) tw_8_13 mw_X7_thrown (by decide) hp hce rfl rfl rfl hl.1 rfl (Nat.le_of_ble_eq_true rfl) dL_law_1361 (fun H locs hp => ?_)
    refine lv_iload hx hb dL_law_1364 (lv_at hl 1 rfl) ?_
    refine lv_icmp_eq (tgt := 1371) hx hb dL_law_1366 (by decide) (fun c1 => ?_) (fun c1 => absurd e0 c1)
    refine lv_iload hx hb dL_law_1371 (lv_at hl 1 rfl) ?_
    refine lv_if_ne (tgt := 1395) hx hb dL_law_1373 (by decide) (fun c2 => ?_) (fun c2 => absurd c2 (by decide))
    refine lv_goto (tgt := 1505) hx hb dL_law_1395 (by decide) ?_
    exact kk _ _ _ _ _ _ hrel hp (lv_sub hl [2, 3, 4, 5, 6] rfl)
set_option maxRecDepth 20000 in
set_option maxHeartbeats 4000000 in
theorem law_leastCone {p : Program} {l : Launch} {e : Env} {R : Room} {s : State} {m : MethodId} {args : Array Value} {below : List Frame} {meth : Method} {c : Code} {H : Heap} {locs : List Loc} {Q : State → Prop} {D : va_G} {a bm : Nat → Nat} {cA : Nat → ClassId} {t ao b L : Nat} {xs : Nat → Int32} {A : Nat → Prop} {σ τ : St} {cells slots N : Nat} {ls : Array Slot} {f : Nat → Int64} {Rel : St → St → Prop} {x4 : Int32} (hl0 : l.stackTraces = false) (X : LC p R s m args c b L xs D a bm cA ao t A) (hop : Op_leastCone N Rel σ τ) (hp : PL D a bm cA ao A s.heap H locs σ τ f)  (hl : lv_has ls 8 [(0, .ref b), (1, .ref (a 0)), (2, .ref (bm 0)), (3, .ref ao), (4, .int x4)]) (hce : cells + 1 ≤ R.cells ∧ slots + 6 ≤ R.slots)
    (kk : ∀ (σ' τ' : St) (f' : Nat → Int64) (H : Heap) (locs : List Loc) (ls : Array Slot), Rel σ' τ' → PL D a bm cA ao A s.heap H locs σ' τ' f' → lv_has ls 8 [(0, .ref b), (1, .ref (a 0)), (2, .ref (bm 0)), (3, .ref ao), (4, .int x4)] → W p l e R s m args below meth c H locs (cells + 1) (slots + 6) Q (F0 m 1505 ls [])) : W p l e R s m args below meth c H locs cells slots Q (F0 m 1398 ls []) := by
  obtain ⟨hx, hb, -⟩ := id X.1
  obtain ⟨bb, σ1, τ1, hxs, hy, hrel⟩ := hop
  refine lv_aload_n hx hb dL_law_1398 rfl (lv_at hl 1 rfl) ?_
  refine L_Si X (c_X6_leastCone eokX hxs) tw_52_17 mw_X6_leastCone (by decide) hp ⟨by omega, by omega⟩ rfl rfl rfl hl.1 rfl (Nat.le_of_ble_eq_true rfl) dL_law_1399 (fun H locs hp => ?_)
  refine lv_aload_n hx hb dL_law_1402 rfl (lv_at hl 2 rfl) ?_
  refine L_Mi X (c_X7_leastCone hy) tw_53_2 mw_X7_leastCone (by decide) hp ⟨by omega, by omega⟩ rfl rfl rfl hl.1 rfl (Nat.le_of_ble_eq_true rfl) dL_law_1403 (fun H locs hp => ?_)
  refine lv_icmp_eq (tgt := 1505) hx hb dL_law_1406 (by decide) (fun c3 => ?_) (fun c3 => absurd rfl c3)
  refine W.widen (k := cells + 1) (n := slots + 6) (by omega) (by omega) ?_
  exact kk _ _ _ _ _ _ hrel hp hl
set_option maxRecDepth 20000 in
set_option maxHeartbeats 4000000 in
theorem law_simulate {p : Program} {l : Launch} {e : Env} {R : Room} {s : State} {m : MethodId} {args : Array Value} {below : List Frame} {meth : Method} {c : Code} {H : Heap} {locs : List Loc} {Q : State → Prop} {D : va_G} {a bm : Nat → Nat} {cA : Nat → ClassId} {t ao b L : Nat} {xs : Nat → Int32} {A : Nat → Prop} {σ τ : St} {cells slots N : Nat} {ls : Array Slot} {f : Nat → Int64} {Rel : St → St → Prop} {x4 : Int32} (hl0 : l.stackTraces = false) (X : LC p R s m args c b L xs D a bm cA ao t A) (hop : Op_simulate N Rel σ τ) (hp : PL D a bm cA ao A s.heap H locs σ τ f) (hi1 : vp_in (x4 + 1) L) (hi2 : vp_in (x4 + 2) L) (hi3 : vp_in (x4 + 3) L) (hl : lv_has ls 8 [(0, .ref b), (1, .ref (a 0)), (2, .ref (bm 0)), (3, .ref ao), (4, .int x4)]) (hce : cells + 1 ≤ R.cells ∧ slots + 6 ≤ R.slots)
    (kk : ∀ (σ' τ' : St) (f' : Nat → Int64) (H : Heap) (locs : List Loc) (ls : Array Slot), Rel σ' τ' → PL D a bm cA ao A s.heap H locs σ' τ' f' → lv_has ls 8 [(0, .ref b), (1, .ref (a 0)), (2, .ref (bm 0)), (3, .ref ao), (4, .int x4)] → W p l e R s m args below meth c H locs (cells + 1) (slots + 6) Q (F0 m 1505 ls [])) : W p l e R s m args below meth c H locs cells slots Q (F0 m 1411 ls []) := by
  obtain ⟨hx, hb, -⟩ := id X.1
  obtain ⟨bb, τ1, hy, hor⟩ := hop (xs (x4 + 1).toNatClampNeg) (xs (x4 + 2).toNatClampNeg) (xs (x4 + 3).toNatClampNeg)
  rcases hor with ⟨σ1, hxs, e0, hrel⟩ | ⟨k, cc, σ1, hk, hxt, e0, hrel⟩
  · obtain ⟨hxs, rfl⟩ := rmap_s hxs
    refine lv_aload_n hx hb dL_law_1411 rfl (lv_at hl 1 rfl) ?_
    refine lv_aload_n hx hb dL_law_1412 rfl (lv_at hl 0 rfl) ?_
    refine lv_iload hx hb dL_law_1413 (lv_at hl 4 rfl) ?_
    refine lv_iconst (v := 1) hx hb dL_law_1415 (by decide) ?_
    refine lv_iadd hx hb dL_law_1416 ?_
    refine L_ld X hp hi1 dL_law_1417 ?_
    refine lv_aload_n hx hb dL_law_1418 rfl (lv_at hl 0 rfl) ?_
    refine lv_iload hx hb dL_law_1419 (lv_at hl 4 rfl) ?_
    refine lv_iconst (v := 2) hx hb dL_law_1421 (by decide) ?_
    refine lv_iadd hx hb dL_law_1422 ?_
    refine L_ld X hp hi2 dL_law_1423 ?_
    refine lv_aload_n hx hb dL_law_1424 rfl (lv_at hl 0 rfl) ?_
    refine lv_iload hx hb dL_law_1425 (lv_at hl 4 rfl) ?_
    refine lv_iconst (v := 3) hx hb dL_law_1427 (by decide) ?_
    refine lv_iadd hx hb dL_law_1428 ?_
    refine L_ld X hp hi3 dL_law_1429 ?_
    refine lv_aload_n hx hb dL_law_1430 rfl (lv_at hl 3 rfl) ?_
    refine L_H X (c_L_simulate hxs) tw_53_10 tw_53_11 tw_7_12 tw_53_12 hdd_L_simulate (by decide) (by decide) hp hce hl.1 rfl (Nat.le_of_ble_eq_true rfl) dL_law_1431 (fun H locs hp => ?_)
    refine lv_istore (lv' := [(5, .int 0), (0, .ref b), (1, .ref (a 0)), (2, .ref (bm 0)), (3, .ref ao), (4, .int x4)]) hx hb dL_law_1434 hl (by decide) rfl (fun ls hl => ?_)
    refine lv_aload_n hx hb dL_law_1436 rfl (lv_at hl 3 rfl) ?_
    refine lv_aload_n hx hb dL_law_1437 rfl (lv_at hl 1 rfl) ?_
    refine lv_iload hx hb dL_law_1438 (lv_at hl 5 rfl) ?_
    refine lv_iconst (v := 1) hx hb dL_law_1440 (by decide) ?_
    refine lv_iadd hx hb dL_law_1441 ?_
    refine L_ld X hp hi1 dL_law_1442 ?_
    refine lv_aload_n hx hb dL_law_1443 rfl (lv_at hl 1 rfl) ?_
    refine lv_iload hx hb dL_law_1444 (lv_at hl 5 rfl) ?_
    refine lv_iconst (v := 2) hx hb dL_law_1446 (by decide) ?_
    refine lv_iadd hx hb dL_law_1447 ?_
    refine L_ld X hp hi2 dL_law_1448 ?_
    refine lv_aload_n hx hb dL_law_1449 rfl (lv_at hl 1 rfl) ?_
    refine lv_iload hx hb dL_law_1450 (lv_at hl 5 rfl) ?_
    refine lv_iconst (v := 3) hx hb dL_law_1452 (by decide) ?_
    refine lv_iadd hx hb dL_law_1453 ?_
    refine L_ld X hp hi3 dL_law_1454 ?_
    refine L_Mi X (c_X7_simulate hy) tw_54_2 mw_X7_simulate (by decide) hp hce rfl rfl rfl hl.1 rfl (Nat.le_of_ble_eq_true rfl) dL_law_1455 (fun H locs hp => ?_)
    refine lv_istore (lv' := [(6, .int bb), (5, .int 0), (0, .ref b), (1, .ref (a 0)), (2, .ref (bm 0)), (3, .ref ao), (4, .int x4)]) hx hb dL_law_1458 hl (by decide) rfl (fun ls hl => ?_)
    refine lv_aload_n hx hb dL_law_1460 rfl (lv_at hl 4 rfl) ?_
    refine L_Mi X (c_X7_thrown (r := τ1.1 0) rfl) tw_8_13 mw_X7_thrown (by decide) hp hce rfl rfl rfl hl.1 rfl (Nat.le_of_ble_eq_true rfl) dL_law_1461 (fun H locs hp => ?_)
    refine lv_iload hx hb dL_law_1464 (lv_at hl 1 rfl) ?_
    refine lv_icmp_eq (tgt := 1471) hx hb dL_law_1466 (by decide) (fun c1 => ?_) (fun c1 => absurd e0 c1)
    refine lv_iload hx hb dL_law_1471 (lv_at hl 1 rfl) ?_
    refine lv_if_ne (tgt := 1488) hx hb dL_law_1473 (by decide) (fun c2 => absurd rfl c2) (fun c2 => ?_)
    refine lv_aload_n hx hb dL_law_1476 rfl (lv_at hl 5 rfl) ?_
    refine lv_iconst (v := 0) hx hb dL_law_1477 (by decide) ?_
    refine L_out X hp dL_law_1478 ?_
    refine lv_iload hx hb dL_law_1479 (lv_at hl 0 rfl) ?_
    refine lv_i2l hx hb dL_law_1481 rfl ?_
    refine W.lcmp hx hb dL_law_1482 ?_
    refine lv_if_eq (tgt := 1488) hx hb dL_law_1483 (by decide) (fun c3 => ?_) (fun c3 => absurd (lcmp0.mpr (show vp_updL f 0 bb.toInt64 0 = bb.toInt64 from if_pos rfl)) c3)
    refine lv_goto (tgt := 1505) hx hb dL_law_1488 (by decide) ?_
    exact kk _ _ _ _ _ _ hrel hp (lv_sub hl [2, 3, 4, 5, 6] rfl)
  · rcases hk with ⟨rfl, rfl⟩ | ⟨rfl, rfl⟩
    · refine lv_aload_n hx hb dL_law_1411 rfl (lv_at hl 1 rfl) ?_
      refine lv_aload_n hx hb dL_law_1412 rfl (lv_at hl 0 rfl) ?_
      refine lv_iload hx hb dL_law_1413 (lv_at hl 4 rfl) ?_
      refine lv_iconst (v := 1) hx hb dL_law_1415 (by decide) ?_
      refine lv_iadd hx hb dL_law_1416 ?_
      refine L_ld X hp hi1 dL_law_1417 ?_
      refine lv_aload_n hx hb dL_law_1418 rfl (lv_at hl 0 rfl) ?_
      refine lv_iload hx hb dL_law_1419 (lv_at hl 4 rfl) ?_
      refine lv_iconst (v := 2) hx hb dL_law_1421 (by decide) ?_
      refine lv_iadd hx hb dL_law_1422 ?_
      refine L_ld X hp hi2 dL_law_1423 ?_
      refine lv_aload_n hx hb dL_law_1424 rfl (lv_at hl 0 rfl) ?_
      refine lv_iload hx hb dL_law_1425 (lv_at hl 4 rfl) ?_
      refine lv_iconst (v := 3) hx hb dL_law_1427 (by decide) ?_
      refine lv_iadd hx hb dL_law_1428 ?_
      refine L_ld X hp hi3 dL_law_1429 ?_
      refine lv_aload_n hx hb dL_law_1430 rfl (lv_at hl 3 rfl) ?_
      refine L_H X (c_L_simulate_x1 hl0 hxt) tw_53_10 tw_53_11 tw_7_12 tw_53_12 hdd_L_simulate (by decide) (by decide) hp hce hl.1 rfl (Nat.le_of_ble_eq_true rfl) dL_law_1431 (fun H locs hp => ?_)
      refine lv_istore (lv' := [(5, .int 1), (0, .ref b), (1, .ref (a 0)), (2, .ref (bm 0)), (3, .ref ao), (4, .int x4)]) hx hb dL_law_1434 hl (by decide) rfl (fun ls hl => ?_)
      refine lv_aload_n hx hb dL_law_1436 rfl (lv_at hl 3 rfl) ?_
      refine lv_aload_n hx hb dL_law_1437 rfl (lv_at hl 1 rfl) ?_
      refine lv_iload hx hb dL_law_1438 (lv_at hl 5 rfl) ?_
      refine lv_iconst (v := 1) hx hb dL_law_1440 (by decide) ?_
      refine lv_iadd hx hb dL_law_1441 ?_
      refine L_ld X hp hi1 dL_law_1442 ?_
      refine lv_aload_n hx hb dL_law_1443 rfl (lv_at hl 1 rfl) ?_
      refine lv_iload hx hb dL_law_1444 (lv_at hl 5 rfl) ?_
      refine lv_iconst (v := 2) hx hb dL_law_1446 (by decide) ?_
      refine lv_iadd hx hb dL_law_1447 ?_
      refine L_ld X hp hi2 dL_law_1448 ?_
      refine lv_aload_n hx hb dL_law_1449 rfl (lv_at hl 1 rfl) ?_
      refine lv_iload hx hb dL_law_1450 (lv_at hl 5 rfl) ?_
      refine lv_iconst (v := 3) hx hb dL_law_1452 (by decide) ?_
      refine lv_iadd hx hb dL_law_1453 ?_
      refine L_ld X hp hi3 dL_law_1454 ?_
      refine L_Mi X (c_X7_simulate hy) tw_54_2 mw_X7_simulate (by decide) hp hce rfl rfl rfl hl.1 rfl (Nat.le_of_ble_eq_true rfl) dL_law_1455 (fun H locs hp => ?_)
      refine lv_istore (lv' := [(6, .int bb), (5, .int 1), (0, .ref b), (1, .ref (a 0)), (2, .ref (bm 0)), (3, .ref ao), (4, .int x4)]) hx hb dL_law_1458 hl (by decide) rfl (fun ls hl => ?_)
      refine lv_aload_n hx hb dL_law_1460 rfl (lv_at hl 4 rfl) ?_
      refine L_Mi X (c_X7_thrown (r := τ1.1 0) rfl) tw_8_13 mw_X7_thrown (by decide) hp hce rfl rfl rfl hl.1 rfl (Nat.le_of_ble_eq_true rfl) dL_law_1461 (fun H locs hp => ?_)
      refine lv_iload hx hb dL_law_1464 (lv_at hl 1 rfl) ?_
      refine lv_icmp_eq (tgt := 1471) hx hb dL_law_1466 (by decide) (fun c1 => ?_) (fun c1 => absurd e0 c1)
      refine lv_iload hx hb dL_law_1471 (lv_at hl 1 rfl) ?_
      refine lv_if_ne (tgt := 1488) hx hb dL_law_1473 (by decide) (fun c2 => ?_) (fun c2 => absurd c2 (by decide))
      refine lv_goto (tgt := 1505) hx hb dL_law_1488 (by decide) ?_
      exact kk _ _ _ _ _ _ hrel hp (lv_sub hl [2, 3, 4, 5, 6] rfl)
    · refine lv_aload_n hx hb dL_law_1411 rfl (lv_at hl 1 rfl) ?_
      refine lv_aload_n hx hb dL_law_1412 rfl (lv_at hl 0 rfl) ?_
      refine lv_iload hx hb dL_law_1413 (lv_at hl 4 rfl) ?_
      refine lv_iconst (v := 1) hx hb dL_law_1415 (by decide) ?_
      refine lv_iadd hx hb dL_law_1416 ?_
      refine L_ld X hp hi1 dL_law_1417 ?_
      refine lv_aload_n hx hb dL_law_1418 rfl (lv_at hl 0 rfl) ?_
      refine lv_iload hx hb dL_law_1419 (lv_at hl 4 rfl) ?_
      refine lv_iconst (v := 2) hx hb dL_law_1421 (by decide) ?_
      refine lv_iadd hx hb dL_law_1422 ?_
      refine L_ld X hp hi2 dL_law_1423 ?_
      refine lv_aload_n hx hb dL_law_1424 rfl (lv_at hl 0 rfl) ?_
      refine lv_iload hx hb dL_law_1425 (lv_at hl 4 rfl) ?_
      refine lv_iconst (v := 3) hx hb dL_law_1427 (by decide) ?_
      refine lv_iadd hx hb dL_law_1428 ?_
      refine L_ld X hp hi3 dL_law_1429 ?_
      refine lv_aload_n hx hb dL_law_1430 rfl (lv_at hl 3 rfl) ?_
      refine L_H X (c_L_simulate_x2 hl0 hxt) tw_53_10 tw_53_11 tw_7_12 tw_53_12 hdd_L_simulate (by decide) (by decide) hp hce hl.1 rfl (Nat.le_of_ble_eq_true rfl) dL_law_1431 (fun H locs hp => ?_)
      refine lv_istore (lv' := [(5, .int 2), (0, .ref b), (1, .ref (a 0)), (2, .ref (bm 0)), (3, .ref ao), (4, .int x4)]) hx hb dL_law_1434 hl (by decide) rfl (fun ls hl => ?_)
      refine lv_aload_n hx hb dL_law_1436 rfl (lv_at hl 3 rfl) ?_
      refine lv_aload_n hx hb dL_law_1437 rfl (lv_at hl 1 rfl) ?_
      refine lv_iload hx hb dL_law_1438 (lv_at hl 5 rfl) ?_
      refine lv_iconst (v := 1) hx hb dL_law_1440 (by decide) ?_
      refine lv_iadd hx hb dL_law_1441 ?_
      refine L_ld X hp hi1 dL_law_1442 ?_
      refine lv_aload_n hx hb dL_law_1443 rfl (lv_at hl 1 rfl) ?_
      refine lv_iload hx hb dL_law_1444 (lv_at hl 5 rfl) ?_
      refine lv_iconst (v := 2) hx hb dL_law_1446 (by decide) ?_
      refine lv_iadd hx hb dL_law_1447 ?_
      refine L_ld X hp hi2 dL_law_1448 ?_
      refine lv_aload_n hx hb dL_law_1449 rfl (lv_at hl 1 rfl) ?_
      refine lv_iload hx hb dL_law_1450 (lv_at hl 5 rfl) ?_
      refine lv_iconst (v := 3) hx hb dL_law_1452 (by decide) ?_
      refine lv_iadd hx hb dL_law_1453 ?_
      refine L_ld X hp hi3 dL_law_1454 ?_
      refine L_Mi X (c_X7_simulate hy) tw_54_2 mw_X7_simulate (by decide) hp hce rfl rfl rfl hl.1 rfl (Nat.le_of_ble_eq_true rfl) dL_law_1455 (fun H locs hp => ?_)
      refine lv_istore (lv' := [(6, .int bb), (5, .int 2), (0, .ref b), (1, .ref (a 0)), (2, .ref (bm 0)), (3, .ref ao), (4, .int x4)]) hx hb dL_law_1458 hl (by decide) rfl (fun ls hl => ?_)
      refine lv_aload_n hx hb dL_law_1460 rfl (lv_at hl 4 rfl) ?_
      refine L_Mi X (c_X7_thrown (r := τ1.1 0) rfl) tw_8_13 mw_X7_thrown (by decide) hp hce rfl rfl rfl hl.1 rfl (Nat.le_of_ble_eq_true rfl) dL_law_1461 (fun H locs hp => ?_)
      refine lv_iload hx hb dL_law_1464 (lv_at hl 1 rfl) ?_
      refine lv_icmp_eq (tgt := 1471) hx hb dL_law_1466 (by decide) (fun c1 => ?_) (fun c1 => absurd e0 c1)
      refine lv_iload hx hb dL_law_1471 (lv_at hl 1 rfl) ?_
      refine lv_if_ne (tgt := 1488) hx hb dL_law_1473 (by decide) (fun c2 => ?_) (fun c2 => absurd c2 (by decide))
      refine lv_goto (tgt := 1505) hx hb dL_law_1488 (by decide) ?_
      exact kk _ _ _ _ _ _ hrel hp (lv_sub hl [2, 3, 4, 5, 6] rfl)
set_option maxRecDepth 20000 in
set_option maxHeartbeats 4000000 in
theorem law_digest {p : Program} {l : Launch} {e : Env} {R : Room} {s : State} {m : MethodId} {args : Array Value} {below : List Frame} {meth : Method} {c : Code} {H : Heap} {locs : List Loc} {Q : State → Prop} {D : va_G} {a bm : Nat → Nat} {cA : Nat → ClassId} {t ao b L : Nat} {xs : Nat → Int32} {A : Nat → Prop} {σ τ : St} {cells slots N : Nat} {ls : Array Slot} {f : Nat → Int64} {Rel : St → St → Prop} {x4 : Int32} (hl0 : l.stackTraces = false) (X : LC p R s m args c b L xs D a bm cA ao t A) (hop : Op_digest N Rel σ τ) (hp : PL D a bm cA ao A s.heap H locs σ τ f)  (hl : lv_has ls 8 [(0, .ref b), (1, .ref (a 0)), (2, .ref (bm 0)), (3, .ref ao), (4, .int x4)]) (hce : cells + 1 ≤ R.cells ∧ slots + 6 ≤ R.slots)
    (kk : ∀ (σ' τ' : St) (f' : Nat → Int64) (H : Heap) (locs : List Loc) (ls : Array Slot), Rel σ' τ' → PL D a bm cA ao A s.heap H locs σ' τ' f' → lv_has ls 8 [(0, .ref b), (1, .ref (a 0)), (2, .ref (bm 0)), (3, .ref ao), (4, .int x4)] → W p l e R s m args below meth c H locs (cells + 1) (slots + 6) Q (F0 m 1505 ls [])) : W p l e R s m args below meth c H locs cells slots Q (F0 m 1491 ls []) := by
  obtain ⟨hx, hb, -⟩ := id X.1
  obtain ⟨bb, σ1, τ1, hxs, hy, hrel⟩ := hop
  refine lv_aload_n hx hb dL_law_1491 rfl (lv_at hl 1 rfl) ?_
  refine L_Sl X (c_X6_digest eokX hxs) tw_54_14 mw_X6_digest (by decide) hp ⟨by omega, by omega⟩ rfl rfl rfl hl.1 rfl (Nat.le_of_ble_eq_true rfl) dL_law_1492 (fun H locs hp => ?_)
  refine lv_aload_n hx hb dL_law_1495 rfl (lv_at hl 2 rfl) ?_
  refine L_Ml X (c_X7_digest hy) tw_55_17 mw_X7_digest (by decide) hp ⟨by omega, by omega⟩ rfl rfl rfl hl.1 rfl (Nat.le_of_ble_eq_true rfl) dL_law_1496 (fun H locs hp => ?_)
  refine W.lcmp hx hb dL_law_1499 ?_
  refine lv_if_eq (tgt := 1505) hx hb dL_law_1500 (by decide) (fun c3 => ?_) (fun c3 => absurd (lcmp0.mpr rfl) c3)
  refine W.widen (k := cells + 1) (n := slots + 6) (by omega) (by omega) ?_
  exact kk _ _ _ _ _ _ hrel hp hl
