theorem tsW {p : Program} {l : Launch} {e : Env} {R : Room} {s : State} {m : MethodId} {args : Array Value} {below : List Frame} {meth : Method} {c : Code} {H : Heap} {locs : List Loc} {Q : State → Prop} {cc : ByteArray} {pc cells slots : Nat} {ls : Array Slot} {rest : List Value} (hexec : p.tables.exec = Jvm.exec) (hb : c.code = cc) {dflt lo hi : Int} {offs : Array Int} {len : Nat} {x k : Int32} {off : Int} {tgt : Nat} (hdg : decode cc pc = .ok (.tableswitch dflt lo hi offs, len)) (hk : x = k) (h1 : ¬ k.toInt < lo) (h2 : ¬ hi < k.toInt) (ho : offs[(k.toInt - lo).toNat]? = some off) (ht : (pc : Int) + off = (tgt : Int))
    (kk : W p l e R s m args below meth c H locs cells slots Q (F0 m tgt ls rest)) : W p l e R s m args below meth c H locs cells slots Q (F0 m pc ls (.int x :: rest)) := by
  subst hk
  exact lv_tableIn hexec hb hdg h1 h2 ho ht kk
/-! THE LAW'S LOOP, over steps that agree (Steps_ok is a hypothesis here: open until the pure half is closed) -/
set_option maxRecDepth 20000 in
set_option maxHeartbeats 4000000 in
theorem law_loop {p : Program} {l : Launch} {e : Env} {s : State} {m : MethodId} {below : List Frame} {meth : Method} {c : Code} {D : va_G} {a bm : Nat → Nat} {cA : Nat → ClassId} {t ao b L N : Nat} {xs : Nat → Int32} {Rel : St → St → Prop} (hl0 : l.stackTraces = false) (X : LC p room_1 s m #[Value.ref b] c b L xs D a bm cA ao t (fun q : Nat => s.heap.size ≤ q)) (hr : meth.sig.returnType = ret) (hlocks : meth.locks = false) (hL : L ≤ 2048) (hst : Steps_ok N Rel) :
    ∀ (n j : Nat) (x4 : Int32) (σ τ : St) (f : Nat → Int64) (H : Heap) (locs : List Loc) (ls : Array Slot), L + 4 ≤ 4 * j + 4 * n → (4 * j ≤ L ∨ j = 0) → x4 = nI (4 * j) → Rel σ τ → PL D a bm cA ao (fun q : Nat => s.heap.size ≤ q) s.heap H locs σ τ f → lv_has ls 8 [(0, .ref b), (1, .ref (a 0)), (2, .ref (bm 0)), (3, .ref ao), (4, .int x4)] →
      W p l e room_1 s m #[Value.ref b] below meth c H locs (100 + j) (40000 + 6 * j) (lw_Z below #[Value.ref b] s) (F0 m 23 ls []) := by
  obtain ⟨hx, hb, -⟩ := id X.1
  intro n
  induction n with
  | zero => intro j x4 σ τ f H locs ls h1 h2; exact absurd h1 (by omega)
  | succ n ih =>
    intro j x4 σ τ f H locs ls h1 h2 ex4 hrel hp hl
    refine lv_iload hx hb dL_law_23 (lv_at hl 4 rfl) ?_
    refine lv_aload_n hx hb dL_law_25 rfl (lv_at hl 0 rfl) ?_
    refine L_len X hp dL_law_26 ?_
    refine lv_iconst (v := 4) hx hb dL_law_27 (by decide) ?_
    refine lv_isub hx hb dL_law_28 ?_
    refine lv_icmp_gt (tgt := 1511) hx hb dL_law_29 (by decide) (fun c1 => ?_) (fun c1 => ?_)
    · refine lv_iconst (v := 1) hx hb dL_law_1511 (by decide) ?_
      refine va_forget (fun q hq => hp.2.2.2 q hq) ?_
      refine W.widen (k := 601024) (n := 7293034) (by omega) (by omega) ?_
      exact lw_ret hx hb hr hlocks dL_law_1512
    · have hi : 4 * j + 4 ≤ L := by
        rcases Nat.lt_or_ge L 4 with q | q
        · have h0 : j = 0 := by omega
          subst h0
          exact absurd (show nI L - nI 4 < x4 by rw [ex4]; exact pk_sneg (by decide) q) c1
        · have e1 : nI L - nI 4 = nI (L - 4) := pk_sub q
          have c2 : ¬ nI (L - 4) < nI (4 * j) := by rw [← e1, ← ex4]; exact c1
          rw [nI_ltI (by omega) (by omega)] at c2
          omega
      have h0 : vp_in x4 L := by rw [ex4]; exact vp_in_nI (by omega) (by omega)
      have hi1 : vp_in (x4 + 1) L := by rw [ex4, show nI (4 * j) + 1 = nI (4 * j + 1) from nI_add (4 * j) 1]; exact vp_in_nI (by omega) (by omega)
      have hi2 : vp_in (x4 + 2) L := by rw [ex4, show nI (4 * j) + 2 = nI (4 * j + 2) from nI_add (4 * j) 2]; exact vp_in_nI (by omega) (by omega)
      have hi3 : vp_in (x4 + 3) L := by rw [ex4, show nI (4 * j) + 3 = nI (4 * j + 3) from nI_add (4 * j) 3]; exact vp_in_nI (by omega) (by omega)
      have hce : 100 + j + 1 ≤ room_1.cells ∧ 40000 + 6 * j + 6 ≤ room_1.slots := by
        constructor
        · show 100 + j + 1 ≤ 601024
          omega
        · show 40000 + 6 * j + 6 ≤ 7293034
          omega
      have tail : ∀ (σ' τ' : St) (f' : Nat → Int64) (H : Heap) (locs : List Loc) (ls : Array Slot), Rel σ' τ' → PL D a bm cA ao (fun q : Nat => s.heap.size ≤ q) s.heap H locs σ' τ' f' → lv_has ls 8 [(0, .ref b), (1, .ref (a 0)), (2, .ref (bm 0)), (3, .ref ao), (4, .int x4)] → W p l e room_1 s m #[Value.ref b] below meth c H locs (100 + j + 1) (40000 + 6 * j + 6) (lw_Z below #[Value.ref b] s) (F0 m 1505 ls []) := by
        intro σ' τ' f' H locs ls hrel hp hl
        obtain ⟨x5, e5⟩ : ∃ z : Int32, z = x4 + 4 := ⟨_, rfl⟩
        refine lv_iinc (v := x5) (lv' := [(4, .int x5), (0, .ref b), (1, .ref (a 0)), (2, .ref (bm 0)), (3, .ref ao)]) hx hb dL_law_1505 hl (k := 4) rfl (by rw [e5]; rfl) (by decide) rfl (fun ls hl => ?_)
        refine lv_goto (tgt := 23) hx hb dL_law_1508 (by decide) ?_
        refine W.widen (k := 100 + (j + 1)) (n := 40000 + 6 * (j + 1)) (by omega) (by omega) ?_
        exact ih (j + 1) x5 σ' τ' f' H locs ls (by omega) (Or.inl (by omega)) (by rw [e5, ex4, show nI (4 * j) + 4 = nI (4 * j + 4) from nI_add (4 * j) 4]; exact congrArg nI (by omega)) hrel hp (lv_sub hl [1, 2, 3, 4, 0] rfl)
      refine lv_aload_n hx hb dL_law_32 rfl (lv_at hl 0 rfl) ?_
      refine lv_iload hx hb dL_law_33 (lv_at hl 4 rfl) ?_
      refine L_ld X hp h0 dL_law_35 ?_
      refine lv_bipush (v := 31) hx hb dL_law_36 (by decide) ?_
      refine lv_iand hx hb dL_law_38 ?_
      refine lv_topi (fun v ev => ?_)
      obtain ⟨o0, o1, o2, o3, o4, o5, o6, o7, o8, o9, o10, o11, o12, o13, o14, o15, o16, o17, o18, o19, o20, o21, o22, o23, o24, o25, o26, o27⟩ := hst σ τ hrel
      by_cases s0 : v = (0 : Int32)
      · refine tsW (tgt := 164) (off := 125) (k := (0 : Int32)) hx hb dL_law_39 s0 (by decide) (by decide) (by decide) (by decide) ?_
        exact law_begin hl0 X o0 hp hi1 hi2 hl hce tail
      by_cases s1 : v = (1 : Int32)
      · refine tsW (tgt := 232) (off := 193) (k := (1 : Int32)) hx hb dL_law_39 s1 (by decide) (by decide) (by decide) (by decide) ?_
        exact law_append hl0 X o1 hp hi1 hl hce tail
      by_cases s2 : v = (2 : Int32)
      · refine tsW (tgt := 288) (off := 249) (k := (2 : Int32)) hx hb dL_law_39 s2 (by decide) (by decide) (by decide) (by decide) ?_
        exact law_clearBuffer hl0 X o2 hp hl hce tail
      by_cases s3 : v = (3 : Int32)
      · refine tsW (tgt := 301) (off := 262) (k := (3 : Int32)) hx hb dL_law_39 s3 (by decide) (by decide) (by decide) (by decide) ?_
        exact law_firstError hl0 X o3 hp hl hce tail
      by_cases s4 : v = (4 : Int32)
      · refine tsW (tgt := 314) (off := 275) (k := (4 : Int32)) hx hb dL_law_39 s4 (by decide) (by decide) (by decide) (by decide) ?_
        exact law_setNext hl0 X o4 hp hi1 hl hce tail
      by_cases s5 : v = (5 : Int32)
      · refine tsW (tgt := 370) (off := 331) (k := (5 : Int32)) hx hb dL_law_39 s5 (by decide) (by decide) (by decide) (by decide) ?_
        exact law_setInit hl0 X o5 hp hl hce tail
      by_cases s6 : v = (6 : Int32)
      · refine tsW (tgt := 414) (off := 375) (k := (6 : Int32)) hx hb dL_law_39 s6 (by decide) (by decide) (by decide) (by decide) ?_
        exact law_setProperty hl0 X o6 hp hl hce tail
      by_cases s7 : v = (7 : Int32)
      · refine tsW (tgt := 458) (off := 419) (k := (7 : Int32)) hx hb dL_law_39 s7 (by decide) (by decide) (by decide) (by decide) ?_
        exact law_undo hl0 X o7 hp hl hce tail
      by_cases s8 : v = (8 : Int32)
      · refine tsW (tgt := 502) (off := 463) (k := (8 : Int32)) hx hb dL_law_39 s8 (by decide) (by decide) (by decide) (by decide) ?_
        exact law_successor hl0 X o8 hp hi1 hi2 hl hce tail
      by_cases s9 : v = (9 : Int32)
      · refine tsW (tgt := 570) (off := 531) (k := (9 : Int32)) hx hb dL_law_39 s9 (by decide) (by decide) (by decide) (by decide) ?_
        exact law_state hl0 X o9 hp hi1 hi2 hl hce tail
      by_cases s10 : v = (10 : Int32)
      · refine tsW (tgt := 638) (off := 599) (k := (10 : Int32)) hx hb dL_law_39 s10 (by decide) (by decide) (by decide) (by decide) ?_
        exact law_system hl0 X o10 hp hi1 hl hce tail
      by_cases s11 : v = (11 : Int32)
      · refine tsW (tgt := 694) (off := 655) (k := (11 : Int32)) hx hb dL_law_39 s11 (by decide) (by decide) (by decide) (by decide) ?_
        exact law_shortest hl0 X o11 hp hi1 hi2 hl hce tail
      by_cases s12 : v = (12 : Int32)
      · refine tsW (tgt := 762) (off := 723) (k := (12 : Int32)) hx hb dL_law_39 s12 (by decide) (by decide) (by decide) (by decide) ?_
        exact law_candidate hl0 X o12 hp hl hce tail
      by_cases s13 : v = (13 : Int32)
      · refine tsW (tgt := 805) (off := 766) (k := (13 : Int32)) hx hb dL_law_39 s13 (by decide) (by decide) (by decide) (by decide) ?_
        exact law_check hl0 X o13 hp hl hce tail
      by_cases s14 : v = (14 : Int32)
      · refine tsW (tgt := 849) (off := 810) (k := (14 : Int32)) hx hb dL_law_39 s14 (by decide) (by decide) (by decide) (by decide) ?_
        exact law_escape hl0 X o14 hp hi1 hl hce tail
      by_cases s15 : v = (15 : Int32)
      · refine tsW (tgt := 905) (off := 866) (k := (15 : Int32)) hx hb dL_law_39 s15 (by decide) (by decide) (by decide) (by decide) ?_
        exact law_modal hl0 X o15 hp hi1 hl hce tail
      by_cases s16 : v = (16 : Int32)
      · refine tsW (tgt := 960) (off := 921) (k := (16 : Int32)) hx hb dL_law_39 s16 (by decide) (by decide) (by decide) (by decide) ?_
        exact law_prove hl0 X o16 hp hl hce tail
      by_cases s17 : v = (17 : Int32)
      · refine tsW (tgt := 973) (off := 934) (k := (17 : Int32)) hx hb dL_law_39 s17 (by decide) (by decide) (by decide) (by decide) ?_
        exact law_proof hl0 X o17 hp hi1 hl hce tail
      by_cases s18 : v = (18 : Int32)
      · refine tsW (tgt := 1029) (off := 990) (k := (18 : Int32)) hx hb dL_law_39 s18 (by decide) (by decide) (by decide) (by decide) ?_
        exact law_frame hl0 X o18 hp hi1 hl hce tail
      by_cases s19 : v = (19 : Int32)
      · refine tsW (tgt := 1084) (off := 1045) (k := (19 : Int32)) hx hb dL_law_39 s19 (by decide) (by decide) (by decide) (by decide) ?_
        exact law_cube hl0 X o19 hp hi1 hi2 hl hce tail
      by_cases s20 : v = (20 : Int32)
      · refine tsW (tgt := 1152) (off := 1113) (k := (20 : Int32)) hx hb dL_law_39 s20 (by decide) (by decide) (by decide) (by decide) ?_
        exact law_certificate hl0 X o20 hp hl hce tail
      by_cases s21 : v = (21 : Int32)
      · refine tsW (tgt := 1195) (off := 1156) (k := (21 : Int32)) hx hb dL_law_39 s21 (by decide) (by decide) (by decide) (by decide) ?_
        exact law_shrunken hl0 X o21 hp hl hce tail
      by_cases s22 : v = (22 : Int32)
      · refine tsW (tgt := 1239) (off := 1200) (k := (22 : Int32)) hx hb dL_law_39 s22 (by decide) (by decide) (by decide) (by decide) ?_
        exact law_induction hl0 X o22 hp hi1 hl hce tail
      by_cases s23 : v = (23 : Int32)
      · refine tsW (tgt := 1280) (off := 1241) (k := (23 : Int32)) hx hb dL_law_39 s23 (by decide) (by decide) (by decide) (by decide) ?_
        exact law_elimination hl0 X o23 hp hi1 hl hce tail
      by_cases s24 : v = (24 : Int32)
      · refine tsW (tgt := 1335) (off := 1296) (k := (24 : Int32)) hx hb dL_law_39 s24 (by decide) (by decide) (by decide) (by decide) ?_
        exact law_isSafeWithFree hl0 X o24 hp hi1 hl hce tail
      by_cases s25 : v = (25 : Int32)
      · refine tsW (tgt := 1398) (off := 1359) (k := (25 : Int32)) hx hb dL_law_39 s25 (by decide) (by decide) (by decide) (by decide) ?_
        exact law_leastCone hl0 X o25 hp hl hce tail
      by_cases s26 : v = (26 : Int32)
      · refine tsW (tgt := 1411) (off := 1372) (k := (26 : Int32)) hx hb dL_law_39 s26 (by decide) (by decide) (by decide) (by decide) ?_
        exact law_simulate hl0 X o26 hp hi1 hi2 hi3 hl hce tail
      by_cases s27 : v = (27 : Int32)
      · refine tsW (tgt := 1491) (off := 1452) (k := (27 : Int32)) hx hb dL_law_39 s27 (by decide) (by decide) (by decide) (by decide) ?_
        exact law_digest hl0 X o27 hp hl hce tail
      have n0 : ¬ v.toInt = 0 := lv_neT s0 (by decide)
      have n1 : ¬ v.toInt = 1 := lv_neT s1 (by decide)
      have n2 : ¬ v.toInt = 2 := lv_neT s2 (by decide)
      have n3 : ¬ v.toInt = 3 := lv_neT s3 (by decide)
      have n4 : ¬ v.toInt = 4 := lv_neT s4 (by decide)
      have n5 : ¬ v.toInt = 5 := lv_neT s5 (by decide)
      have n6 : ¬ v.toInt = 6 := lv_neT s6 (by decide)
      have n7 : ¬ v.toInt = 7 := lv_neT s7 (by decide)
      have n8 : ¬ v.toInt = 8 := lv_neT s8 (by decide)
      have n9 : ¬ v.toInt = 9 := lv_neT s9 (by decide)
      have n10 : ¬ v.toInt = 10 := lv_neT s10 (by decide)
      have n11 : ¬ v.toInt = 11 := lv_neT s11 (by decide)
      have n12 : ¬ v.toInt = 12 := lv_neT s12 (by decide)
      have n13 : ¬ v.toInt = 13 := lv_neT s13 (by decide)
      have n14 : ¬ v.toInt = 14 := lv_neT s14 (by decide)
      have n15 : ¬ v.toInt = 15 := lv_neT s15 (by decide)
      have n16 : ¬ v.toInt = 16 := lv_neT s16 (by decide)
      have n17 : ¬ v.toInt = 17 := lv_neT s17 (by decide)
      have n18 : ¬ v.toInt = 18 := lv_neT s18 (by decide)
      have n19 : ¬ v.toInt = 19 := lv_neT s19 (by decide)
      have n20 : ¬ v.toInt = 20 := lv_neT s20 (by decide)
      have n21 : ¬ v.toInt = 21 := lv_neT s21 (by decide)
      have n22 : ¬ v.toInt = 22 := lv_neT s22 (by decide)
      have n23 : ¬ v.toInt = 23 := lv_neT s23 (by decide)
      have n24 : ¬ v.toInt = 24 := lv_neT s24 (by decide)
      have n25 : ¬ v.toInt = 25 := lv_neT s25 (by decide)
      have n26 : ¬ v.toInt = 26 := lv_neT s26 (by decide)
      have n27 : ¬ v.toInt = 27 := lv_neT s27 (by decide)
      refine lv_tableOut (tgt := 1505) hx hb dL_law_39 (by omega) (by decide) ?_
      refine W.widen (k := 100 + j + 1) (n := 40000 + 6 * j + 6) (by omega) (by omega) ?_
      exact tail σ τ f H _ ls hrel hp hl
