/-! the start: classes, statics, the two objects and the row 'out' -/
def Cl (p : Program) (R : Room) (s : State) (m : MethodId) (args : Array Value) (c : Code) (cc : ByteArray) (nL rd : Nat) (own : String) (D : va_G) (cA : Nat → ClassId) (E : (Nat → Prop) → State → Prop) (A : Nat → Prop) : Prop :=
  p.tables.exec = Jvm.exec ∧ c.code = cc ∧ c.maxLocals = nL ∧ s.vm.findClass own = some m.cls ∧ (∀ x ∈ wsL_law, x.before args s = true) ∧ va_K D vwCl (tyW cA) s ∧ (∀ q, s.heap.size ≤ q → A q) ∧ E A s ∧ rd ≤ R.frames ∧ 50 * rd ≤ R.locals
section ST
variable {p : Program} {l : Launch} {e : Env} {R : Room} {s : State} {m : MethodId} {args : Array Value} {below : List Frame} {meth : Method} {c : Code} {H : Heap} {locs : List Loc} {Q : State → Prop} {cc : ByteArray} {nL rd cells slots : Nat} {own : String} {D : va_G} {cA : Nat → ClassId} {E : (Nat → Prop) → State → Prop} {A : Nat → Prop} {y : MethodName} {bytes : ByteArray} {maxL d : Nat} {As rest st : List Value} {pc index : Nat} {ls : Array Slot} {ws pre : va_W}
theorem l_J {N : Nat} {n : Int32} (X : Cl p R s m args c cc nL rd own D cA E A) (hp : Pg D A s.heap H locs ws) (hw : Cond.arrayClass .long ∈ wsL_law) (hn : ¬ n < 0) (hN : n.toNatClampNeg = N) (hby : N * componentBytes .long ≤ 536870912) (h1 : cells + 1 ≤ R.cells) (h2 : slots + N ≤ R.slots) (hdg : decode cc pc = .ok (.newarray .long, 2))
    (kk : ∀ (q : Nat) (H : Heap), Pg D A s.heap H locs (ws ++ [(q, .inl (cA 1, N, .inr (.inl (fun _ => 0))))]) → W p l e R s m args below meth c H locs (cells + 1) (slots + N) Q (F0 m (pc + 2) ls (.ref q :: rest))) : W p l e R s m args below meth c H locs cells slots Q (F0 m pc ls (.int n :: rest)) := by
  obtain ⟨hx, hb, -, -, hts, hK, hA, -⟩ := X
  refine va_newa (atype := .long) (ty := .long) (a0 := (N, .inr (.inl (fun _ => 0)))) hx hb (hts _ hw) rfl hK hp.1 hp.2.1 hp.2.2 hA (fun _ => rfl) hn hN hby h1 h2 hdg (fun q cA' H1 hK1 hP1 hD1 hS1 => ?_)
  have e1 : cA' = cA 1 := Option.some.inj ((hK1.2 3 (cA', .long) rfl).2.symm.trans (hK.2 1 (cA 1, .long) rfl).2)
  subst e1
  exact kk q H1 ⟨hP1, hD1, hS1⟩
theorem l_new {ci N : Nat} {fs : List Value} {C : String} {T : u_T} {ty : Nat → FieldType} (X : Cl p R s m args c cc nL rd own D cA E A) (hp : Pg D A s.heap H locs ws) (hc : vwCl[ci]? = some (C, T, N)) (hin : ∀ x ∈ u_ws C T N, x ∈ wsL_law) (hty : ∀ k, k < N → parseFieldDescriptor (T k).2.2.1 = some (ty k)) (hcl : Cond.classLink own index C ∈ wsL_law) (hinst : Cond.instantiable C N ∈ wsL_law) (hini : Cond.initialized C ∈ wsL_law) (hfs : ∀ j, j < N → defaultValue (ty j) = vp_V fs j) (h1 : cells + 1 ≤ R.cells) (h2 : slots + N ≤ R.slots) (hdg : decode cc pc = .ok (.new index, 3))
    (kk : ∀ (q : Nat) (H : Heap), Pg D A s.heap H locs (ws ++ [(q, .inr (ci, fs))]) → W p l e R s m args below meth c H locs (cells + 1) (slots + N) Q (F0 m (pc + 3) ls (.ref q :: rest))) : W p l e R s m args below meth c H locs cells slots Q (F0 m pc ls rest) := by
  obtain ⟨hx, hb, -, hown, hts, hK, hA, -⟩ := X
  exact va_new hx hb hts hin ty hty hown (hts _ hcl) (hts _ hinst) (hts _ hini) hK hp.1 hp.2.1 hp.2.2 hA hc hfs h1 h2 hdg (fun q H1 hP1 hD1 hS1 => kk q H1 ⟨hP1, hD1, hS1⟩)
theorem l_ini {b : Addr} {mc1 ms1 : Nat} {wr : va_W} {post : (Nat → Nat) → va_W} (X : Cl p R s m args c cc nL rd own D cA E A) (hE : EOK E) (hM : MetC l y bytes maxL d mc1 ms1 D cA E pre (.ref b :: As) post) (hl : Cond.methodLink own index y ∈ wsL_law) (hi : Cond.instanceMethod y ∈ wsL_law) (hini : Cond.initialized y.cls ∈ wsL_law) (hcode : Cond.code y bytes maxL none ∈ wsL_law) (hnm : y.name = "<init>") (hdd : y.cls ≠ "java/lang/invoke/MethodHandle" ∧ y.cls ≠ "java/lang/invoke/VarHandle" ∧ (parseMethodDescriptor y.desc).map (fun d => d.parameters.length) = some As.length) (hmx : maxL ≤ 31) (hd : d < rd)
    (hp : Pg D A s.heap H locs (wr ++ pre)) (hsz : ls.size = nL) (hst : st = As.reverse ++ .ref b :: rest) (hr : (rest.map fun v => v.category).sum ≤ 8) (h1 : cells + mc1 ≤ R.cells) (h2 : slots + ms1 ≤ R.slots) (hdg : decode cc pc = .ok (.invokespecial index, 3))
    (kk : ∀ (f : Nat → Nat) (H : Heap) (locs : List Loc), Pg D A s.heap H locs (wr ++ post f) → W p l e R s m args below meth c H locs (cells + mc1) (slots + ms1) Q (F0 m (pc + 3) ls rest)) : W p l e R s m args below meth c H locs cells slots Q (F0 m pc ls st) := by
  obtain ⟨hx, hb, hml, hown, hts, hK, hA, hEs, hf, hlo⟩ := X
  have hPc : va_P D vwCl pre H := P_right hp.1
  have hDc : va_D A pre := D_right hp.2.1
  have hFc : ∀ q, va_A pre H.size q → A q := by
    intro q h
    rcases h with ⟨k, e, h⟩ | h
    · exact hDc.2 k (q, e) h
    · exact hA q (Nat.le_trans hp.2.2.1 h)
  subst hst
  have cw : CallB R s args own index y bytes maxL none (.code y bytes maxL none :: wsL_law) (rmc d mc1 ms1) mc1 ms1 As.length := callB_of As.length hts (goodCode hcode) rfl rfl rfl (hts _ hini) (hts _ hl) hdd ⟨Nat.le_trans hd hf, by show 8 + (maxL + 11) + 50 * d ≤ R.locals; omega⟩
  refine va_callv (va_runI (As := As) (rest := rest) ⟨hx, hb, hml, hown, hts⟩ (hM H.size) ⟨cw, hnm, hts _ hi⟩ ⟨?_, ?_⟩ rfl rfl hsz rfl (lv_room hr) hdg ⟨h1, h2⟩) hp.2.2 (fun q _ h => hFc q h) hFc (fun u t H1 locs1 ht hvm hw hB hz1 hk1 hS1 => ?_)
  · intro a U g mk q
    obtain ⟨q0, q1, qP, qK, qD, qE⟩ := q
    exact ⟨q0, q1, qP, va_K.moved (u := U) (U := U.calling g mk a) (Vm.Alike.refl U.vm) qK, qD, hE.2 _ _ _ _ _ qE⟩
  · intro U hU hW
    exact ⟨rfl, by rw [hU], by rw [hU]; exact hPc, va_K.moved hW.alike hK, hDc.weaken (fun _ _ _ _ => trivial), hE.1 A _ s U hEs hFc (by rw [hU]; exact hp.2.2.1) (fun a h1 h2 => by rw [hU]; exact hp.2.2.2.1 a h1 h2) hW⟩
  · obtain ⟨hP1, hD1⟩ := hB
    subst ht
    have hap := D_apart hp.2.1
    have hPr : va_P D vwCl wr H := P_left hp.1
    refine kk u _ _ ⟨va_P.app (keepR hPr (apart_symm hap) hk1) hP1, va_D.app (D_left hp.2.1) (hD1.weaken (fun k q _ h => hFc q.1 h)) (fun i j x y hx hy hxy => ?_), hS1⟩
    have hz := hD1.2 j y hy
    rw [← hxy] at hz
    rcases hz with ⟨k, e9, hz⟩ | hz
    · exact hap i k x (x.1, e9) hx hz rfl
    · exact absurd (hPr i x hx).lt (by omega)
end ST
set_option maxRecDepth 100000 in
set_option maxHeartbeats 4000000 in
/-- the statics, texts and words that the class's runs need, at the law's start -/
theorem lw_env {p : Program} {s : State} {m : MethodId} {meth : Method} {c : Code} {b L c6 : Nat} {xs : Nat → Int32} (C0 : lw_At p s m meth c b L xs) (hcur : s.vm.findClass RX6 = some c6) : ∃ t : Nat, ES t FX (fun q : Nat => s.heap.size ≤ q) s := by
  obtain ⟨-, -, -, -, -, hts, -, -, -, hgv⟩ := C0
  have hs := flat_of_before _ hgv
  have hA : ∀ a : Nat, a < s.heap.size → ¬ (fun q : Nat => s.heap.size ≤ q) a := fun a h => Nat.not_le.mpr h
  obtain ⟨t, ht, hT⟩ := va_Tof (args := #[Value.ref b]) (s := s) (tm := Term.static "SafetyProver" "STATES_WITH_BIT" "[J") (ty := .long) (N := 6) (f := fun j => .long (swb j)) (A := fun q : Nat => s.heap.size ≤ q) (by decide) (hs (Cond.arrayOf (.static "SafetyProver" "STATES_WITH_BIT" "[J") .long) (by decide +kernel)) (va_eqt (z := 6) (hs (Cond.eq (.length (.static "SafetyProver" "STATES_WITH_BIT" "[J")) (.int 6)) (by decide +kernel)))
    (fun j hj => by
      rcases (show j = 0 ∨ j = 1 ∨ j = 2 ∨ j = 3 ∨ j = 4 ∨ j = 5 by omega) with rfl | rfl | rfl | rfl | rfl | rfl
      · exact va_eqtl (z := -6148914691236517206) (hs (Cond.eq (.elem (.static "SafetyProver" "STATES_WITH_BIT" "[J") (.int 0)) (.long (-6148914691236517206))) (by decide +kernel))
      · exact va_eqtl (z := -3689348814741910324) (hs (Cond.eq (.elem (.static "SafetyProver" "STATES_WITH_BIT" "[J") (.int 1)) (.long (-3689348814741910324))) (by decide +kernel))
      · exact va_eqtl (z := -1085102592571150096) (hs (Cond.eq (.elem (.static "SafetyProver" "STATES_WITH_BIT" "[J") (.int 2)) (.long (-1085102592571150096))) (by decide +kernel))
      · exact va_eqtl (z := -71777214294589696) (hs (Cond.eq (.elem (.static "SafetyProver" "STATES_WITH_BIT" "[J") (.int 3)) (.long (-71777214294589696))) (by decide +kernel))
      · exact va_eqtl (z := -281470681808896) (hs (Cond.eq (.elem (.static "SafetyProver" "STATES_WITH_BIT" "[J") (.int 4)) (.long (-281470681808896))) (by decide +kernel))
      · exact va_eqtl (z := -4294967296) (hs (Cond.eq (.elem (.static "SafetyProver" "STATES_WITH_BIT" "[J") (.int 5)) (.long (-4294967296))) (by decide +kernel))) hA
  refine ⟨t, fun w hw => ?_, va_Zof (hts _ ws_swb) (hts _ ws_ini6) ht hA, hT, ?_, ?_, fun q hq => ?_, fun k hk => ?_, fun q hq => ?_, fun x hx => ?_⟩
  · have h := hts w (nl_all w hw)
    simp only [nestW, List.mem_cons, List.not_mem_nil, or_false] at hw
    rcases hw with rfl | rfl | rfl | rfl | rfl | rfl | rfl | rfl | rfl <;> exact va_Nw.of rfl h
  · exact vx_Zqof (C := Bundle.tN) (n := "UNASSIGNED_STACK") (d := Bundle.steD) (hts _ ws_uas) (hts _ ws_iniT) (hs (Cond.isRef (.static "java/lang/Throwable" "UNASSIGNED_STACK" "[Ljava/lang/StackTraceElement;")) (by decide +kernel)) hA
  · exact vx_Zqof (C := Bundle.tN) (n := "SUPPRESSED_SENTINEL") (d := Bundle.listD) (hts _ ws_sup) (hts _ ws_iniT) (hs (Cond.isRef (.static "java/lang/Throwable" "SUPPRESSED_SENTINEL" "Ljava/util/List;")) (by decide +kernel)) hA
  · have h := hts _ (sl_all q hq)
    obtain ⟨k, cf, i, a, -, -, -, -, -, he⟩ := Cond.stringRef_spec (args := #[Value.ref b]) (first := s) (o := none) (s := s) (idx := []) hcur h
    exact ⟨a, vk_R.of h he⟩
  · rcases hk with rfl | rfl | rfl
    · exact va_Nw.of rfl (hts _ kl_1)
    · exact va_Nw.of rfl (hts _ kl_2)
    · exact va_Nw.of rfl (hts _ kl_3)
  · simp only [xPairs, List.mem_cons, List.not_mem_nil, or_false] at hq
    rcases hq with rfl | rfl | rfl | rfl | rfl | rfl
    · exact va_Nc.of (hs (Cond.not (.castable "java/lang/IllegalArgumentException" "java/lang/IllegalStateException")) (by decide +kernel))
    · exact va_Nc.of (hs (Cond.not (.castable "java/lang/IllegalArgumentException" "java/lang/IndexOutOfBoundsException")) (by decide +kernel))
    · exact va_Nc.of (hs (Cond.not (.castable "java/lang/IllegalStateException" "java/lang/IllegalArgumentException")) (by decide +kernel))
    · exact va_Nc.of (hs (Cond.not (.castable "java/lang/IllegalStateException" "java/lang/IndexOutOfBoundsException")) (by decide +kernel))
    · exact va_Nc.of (hs (Cond.not (.castable "java/lang/IndexOutOfBoundsException" "java/lang/IllegalArgumentException")) (by decide +kernel))
    · exact va_Nc.of (hs (Cond.not (.castable "java/lang/IndexOutOfBoundsException" "java/lang/IllegalStateException")) (by decide +kernel))
  · simp only [xDecl, List.mem_cons, List.not_mem_nil, or_false] at hx
    rcases hx with rfl | rfl | rfl
    · exact va_Nw.of rfl (hts _ el_0)
    · exact va_Nw.of rfl (hts _ el_1)
    · exact va_Nw.of rfl (hts _ el_2)
set_option maxRecDepth 20000 in
set_option maxHeartbeats 4000000 in
theorem lw_cls {p : Program} {s : State} {m : MethodId} {meth : Method} {c : Code} {b L : Nat} {xs : Nat → Int32} (C0 : lw_At p s m meth c b L xs) : ∃ (D : va_G) (cA : Nat → ClassId), va_K D vwCl (tyW cA) s ∧ s.vm.findClass RX6 = some (D.1 6) := by
  obtain ⟨-, -, -, -, -, hts, -, -, -, -⟩ := C0
  obtain ⟨c0, iS0, hK0⟩ := u_known (C := RX0) (T := TX0) (N := 10) (n := 10) hts lfs_X0 (hts (.instantiable RX0 10) (wsL_law_in _ tw_1_18))
  obtain ⟨c1, iS1, hK1⟩ := u_known (C := RX1) (T := TX1) (N := 5) (n := 5) hts lfs_X1 (hts (.instantiable RX1 5) (wsL_law_in _ tw_4_14))
  obtain ⟨c2, iS2, hK2⟩ := u_known (C := RX2) (T := TX2) (N := 12) (n := 12) hts lfs_X2 (hts (.instantiable RX2 12) (wsL_law_in _ tw_1_22))
  obtain ⟨c3, iS3, hK3⟩ := u_known (C := RX3) (T := TX3) (N := 8) (n := 8) hts lfs_X3 (hts (.instantiable RX3 8) (wsL_law_in _ tw_1_14))
  obtain ⟨c4, iS4, hK4⟩ := u_known (C := RX4) (T := TX4) (N := 13) (n := 13) hts lfs_X4 (hts (.instantiable RX4 13) (wsL_law_in _ tw_2_2))
  obtain ⟨c5, iS5, hK5⟩ := u_known (C := RX5) (T := TX5) (N := 5) (n := 5) hts lfs_X5 (hts (.instantiable RX5 5) (wsL_law_in _ tw_2_6))
  obtain ⟨c6, iS6, hK6⟩ := u_known (C := RX6) (T := TX6) (N := 5) (n := 5) hts lfs_X6 (hts (.instantiable RX6 5) (wsL_law_in _ tw_1_1))
  obtain ⟨c7, iS7, hK7⟩ := u_known (C := RX7) (T := TX7) (N := 39) (n := 39) hts lfs_X7 (hts (.instantiable RX7 39) (wsL_law_in _ tw_1_4))
  obtain ⟨cI, kI, pI, fI, gI, hI⟩ := Cond.arrayClass_spec (args := #[Value.ref b]) (first := s) (o := none) (s := s) (idx := []) (hts (.arrayClass .int) (wsL_law_in _ tw_2_13))
  obtain ⟨cJ, kJ, pJ, fJ, gJ, hJ⟩ := Cond.arrayClass_spec (args := #[Value.ref b]) (first := s) (o := none) (s := s) (idx := []) (hts (.arrayClass .long) (wsL_law_in _ tw_1_6))
  obtain ⟨cZ, kZ, pZ, fZ, gZ, hZ⟩ := Cond.arrayClass_spec (args := #[Value.ref b]) (first := s) (o := none) (s := s) (idx := []) (hts (.arrayClass .boolean) (wsL_law_in _ tw_4_19))
  refine ⟨(fun k => if k = 0 then c0 else if k = 1 then c1 else if k = 2 then c2 else if k = 3 then c3 else if k = 4 then c4 else if k = 5 then c5 else if k = 6 then c6 else c7, fun k => if k = 0 then iS0 else if k = 1 then iS1 else if k = 2 then iS2 else if k = 3 then iS3 else if k = 4 then iS4 else if k = 5 then iS5 else if k = 6 then iS6 else iS7), fun k => if k = 0 then cI else if k = 1 then cJ else cZ, ⟨?_, ?_⟩, hK6.2.1⟩
  · intro k q hq
    match k, hq with
    | 0, hq => cases hq; exact hK0
    | 1, hq => cases hq; exact hK1
    | 2, hq => cases hq; exact hK2
    | 3, hq => cases hq; exact hK3
    | 4, hq => cases hq; exact hK4
    | 5, hq => cases hq; exact hK5
    | 6, hq => cases hq; exact hK6
    | 7, hq => cases hq; exact hK7
    | k + 8, hq => simp [vwCl] at hq
  · intro k q hq
    match k, hq with
    | 0, hq => cases hq; exact ⟨fun n z => ⟨fun k h => (by cases h), kI, gI, pI, hI⟩, fI⟩
    | 1, hq => cases hq; exact ⟨fun n z => ⟨fun k h => (by cases h), kJ, gJ, pJ, hJ⟩, fJ⟩
    | 2, hq => cases hq; exact ⟨fun n z => ⟨fun k h => (by cases h), kZ, gZ, pZ, hZ⟩, fZ⟩
    | k + 3, hq => simp [tyW] at hq
set_option maxRecDepth 20000 in
set_option maxHeartbeats 4000000 in
/-- THE LAW, from its entry, over agreeing steps -/
theorem whole_open {N : Nat} {Rel : St → St → Prop} (hst : Steps_ok N Rel) {σ0 τ0 : St} (hS0 : X0_restart N 2 1 zst = some σ0) (hz : zS σ0) (hM0 : X7_start N 2 1 zst = some τ0) (hrel : Rel σ0 τ0) {p : Program} {e : Env} {s : State} {m : MethodId} {below : List Frame} {meth : Method} {c : Code} (l : Launch) (hflags : l.flags = flags0) {b L : Nat} {xs : Nat → Int32} (hL : L ≤ 2048) (C0 : lw_At p s m meth c b L xs) : W p l e room_1 s m #[Value.ref b] below meth c s.heap [] 0 0 (lw_Z below #[Value.ref b] s) (entryFrame m ([Value.ref b] : List Value).toArray 8) := by
  obtain ⟨D, cA, hK, hcur⟩ := lw_cls C0
  obtain ⟨t, hEnv⟩ := lw_env C0 hcur
  obtain ⟨hx, hb, hr, hml, hown, hts0, hX, hbl, hlocks, hgv⟩ := id C0
  have hts : ∀ x ∈ wsL_law, x.before #[Value.ref b] s = true := fun x h => hts0 x (wsL_law_in x h)
  have hl0 : l.stackTraces = false := by
    unfold Launch.stackTraces
    rw [hflags]
    decide +kernel
  have hA : ∀ q : Nat, s.heap.size ≤ q → (fun q : Nat => s.heap.size ≤ q) q := fun _ h => h
  have XS : Cl p room_1 s m #[Value.ref b] c code 8 40 RL D cA (ES t FX) (fun q : Nat => s.heap.size ≤ q) := ⟨hx, hb, hml, hown, hts, hK, hA, hEnv, Nat.le_of_ble_eq_true rfl, Nat.le_of_ble_eq_true rfl⟩
  have XM : Cl p room_1 s m #[Value.ref b] c code 8 40 RL D cA EM (fun q : Nat => s.heap.size ≤ q) := ⟨hx, hb, hml, hown, hts, hK, hA, trivial, Nat.le_of_ble_eq_true rfl, Nat.le_of_ble_eq_true rfl⟩
  have hp : Pg D (fun q : Nat => s.heap.size ≤ q) s.heap s.heap [] [] := ⟨fun k q h => by simp at h, ⟨fun i j p q h => by simp at h, fun k q h => by simp at h⟩, va_S.rf⟩
  have hl := lv_entry ([.ref b]) (n := 8) (Nat.le_of_ble_eq_true rfl)
  rw [lg_entry_eq]
  generalize (lg_sl ([.ref b]) ++ List.replicate (8 - (lg_sl ([.ref b])).length) Slot.unset).toArray = ls at hl ⊢
  have hl : lv_has ls 8 [(0, .ref b)] := hl
  refine l_new (ci := 6) (N := 5) (C := RX6) (T := TX6) (fs := [.null, .null, .null, .null, .null]) XS hp rfl inlX6 tyX6_ok tw_1_0 tw_1_1 tw_1_2 (fun j hj => by rcases (show j = 0 ∨ j = 1 ∨ j = 2 ∨ j = 3 ∨ j = 4 by omega) with rfl | rfl | rfl | rfl | rfl <;> rfl) (Nat.le_of_ble_eq_true rfl) (Nat.le_of_ble_eq_true rfl) dL_law_0 (fun q0 H hp => ?_)
  refine W.widen (k := 1) (n := 5) (Nat.le_of_ble_eq_true rfl) (Nat.le_of_ble_eq_true rfl) ?_
  refine lv_dup hx hb dL_law_3 rfl ?_
  refine l_ini (wr := []) XS (eokS eokX) (c_X6_init eokX hS0 hz) tw_1_7 tw_1_8 tw_1_2 tw_1_9 rfl hdd_X6_init (by decide) (by decide) hp hl.1 rfl (Nat.le_of_ble_eq_true rfl) (Nat.le_of_ble_eq_true rfl) (Nat.le_of_ble_eq_true rfl) dL_law_4 (fun f1 H locs hp => ?_)
  have hp : Pg D (fun q : Nat => s.heap.size ≤ q) s.heap H locs (wS (aS q0 f1) cA σ0) := hp
  refine W.widen (k := 29) (n := 4984) (Nat.le_of_ble_eq_true rfl) (Nat.le_of_ble_eq_true rfl) ?_
  refine lv_astore_n (lv' := [(1, .ref q0), (0, .ref b)]) hx hb dL_law_7 rfl hl (by decide) rfl (fun ls hl => ?_)
  refine l_new (ci := 7) (N := 39) (C := RX7) (T := TX7) (fs := [.int 0, .int 0, .int 0, .null, .long 0, .long 0, .int 0, .null, .int 0, .null, .null, .int 0, .int 0, .null, .int 0, .null, .int 0, .null, .null, .null, .int 0, .int 0, .int 0, .int 0, .null, .null, .null, .int 0, .int 0, .int 0, .int 0, .int 0, .null, .null, .null, .null, .null, .null, .long 0]) XM hp rfl inlX7 tyX7_ok tw_1_3 tw_1_4 tw_1_5 (fun j hj => by rcases (show j = 0 ∨ j = 1 ∨ j = 2 ∨ j = 3 ∨ j = 4 ∨ j = 5 ∨ j = 6 ∨ j = 7 ∨ j = 8 ∨ j = 9 ∨ j = 10 ∨ j = 11 ∨ j = 12 ∨ j = 13 ∨ j = 14 ∨ j = 15 ∨ j = 16 ∨ j = 17 ∨ j = 18 ∨ j = 19 ∨ j = 20 ∨ j = 21 ∨ j = 22 ∨ j = 23 ∨ j = 24 ∨ j = 25 ∨ j = 26 ∨ j = 27 ∨ j = 28 ∨ j = 29 ∨ j = 30 ∨ j = 31 ∨ j = 32 ∨ j = 33 ∨ j = 34 ∨ j = 35 ∨ j = 36 ∨ j = 37 ∨ j = 38 by omega) with rfl | rfl | rfl | rfl | rfl | rfl | rfl | rfl | rfl | rfl | rfl | rfl | rfl | rfl | rfl | rfl | rfl | rfl | rfl | rfl | rfl | rfl | rfl | rfl | rfl | rfl | rfl | rfl | rfl | rfl | rfl | rfl | rfl | rfl | rfl | rfl | rfl | rfl | rfl <;> rfl) (Nat.le_of_ble_eq_true rfl) (Nat.le_of_ble_eq_true rfl) dL_law_8 (fun q1 H hp => ?_)
  refine W.widen (k := 30) (n := 5023) (Nat.le_of_ble_eq_true rfl) (Nat.le_of_ble_eq_true rfl) ?_
  refine lv_dup hx hb dL_law_11 rfl ?_
  refine l_ini (wr := wS (aS q0 f1) cA σ0) XM eokM (c_X7_init hM0) tw_5_13 tw_5_14 tw_1_5 tw_5_15 rfl hdd_X7_init (by decide) (by decide) hp hl.1 rfl (Nat.le_of_ble_eq_true rfl) (Nat.le_of_ble_eq_true rfl) (Nat.le_of_ble_eq_true rfl) dL_law_12 (fun f2 H locs hp => ?_)
  have hp : Pg D (fun q : Nat => s.heap.size ≤ q) s.heap H locs (wS (aS q0 f1) cA σ0 ++ wM (aM q1 f2) cA τ0) := hp
  refine W.widen (k := 48) (n := 14010) (Nat.le_of_ble_eq_true rfl) (Nat.le_of_ble_eq_true rfl) ?_
  refine lv_astore_n (lv' := [(2, .ref q1), (1, .ref q0), (0, .ref b)]) hx hb dL_law_15 rfl hl (by decide) rfl (fun ls hl => ?_)
  refine lv_iconst (v := 1) hx hb dL_law_16 (by decide) ?_
  refine l_J (N := 1) XM hp tw_1_6 (by decide) (by decide) (Nat.le_of_ble_eq_true rfl) (Nat.le_of_ble_eq_true rfl) (Nat.le_of_ble_eq_true rfl) dL_law_17 (fun q2 H hp => ?_)
  refine W.widen (k := 100) (n := 40000) (Nat.le_of_ble_eq_true rfl) (Nat.le_of_ble_eq_true rfl) ?_
  refine lv_astore_n (lv' := [(3, .ref q2), (2, .ref q1), (1, .ref q0), (0, .ref b)]) hx hb dL_law_19 rfl hl (by decide) rfl (fun ls hl => ?_)
  refine lv_iconst (v := 0) hx hb dL_law_20 (by decide) ?_
  refine lv_istore (lv' := [(4, .int 0), (3, .ref q2), (2, .ref q1), (1, .ref q0), (0, .ref b)]) hx hb dL_law_21 hl (by decide) rfl (fun ls hl => ?_)
  have hPS : va_P D vwCl (wS (aS q0 f1) cA σ0) H := P_left (P_left hp.1)
  have hPM : va_P D vwCl (wM (aM q1 f2) cA τ0) H := P_right (P_left hp.1)
  have hPO : va_P D vwCl (oc cA q2 (fun _ => 0)) H := P_right hp.1
  have hPA : va_P D vwCl (wA (aS q0 f1) (aM q1 f2) cA q2 σ0 τ0 (fun _ => 0)) H := va_P.app (va_P.app hPS hPO) hPM
  have d1 := D_left hp.2.1
  have aSO : apart (wS (aS q0 f1) cA σ0) (oc cA q2 (fun _ => 0)) := fun i j x y hi hj => D_apart hp.2.1 i j x y (by rw [List.getElem?_append_left (List.getElem?_eq_some_iff.mp hi).1]; exact hi) hj
  have aOM : apart (oc cA q2 (fun _ => 0)) (wM (aM q1 f2) cA τ0) := apart_symm (fun i j x y hi hj => D_apart hp.2.1 _ j x y (app_right hi) hj)
  have hDA : va_D (fun q : Nat => s.heap.size ≤ q) (wA (aS q0 f1) (aM q1 f2) cA q2 σ0 τ0 (fun _ => 0)) := by
    refine va_D.app (va_D.app (D_left d1) (D_right hp.2.1) aSO) (D_right d1) (fun i j x y hi hj => ?_)
    have hi : (wS (aS q0 f1) cA σ0 ++ oc cA q2 (fun _ => 0))[i]? = some x := hi
    rcases Nat.lt_or_ge i (wS (aS q0 f1) cA σ0).length with q | q
    · rw [List.getElem?_append_left q] at hi
      exact D_apart d1 i j x y hi hj
    · rw [List.getElem?_append_right q] at hi
      exact aOM _ j x y hi hj
  have X : LC p room_1 s m #[Value.ref b] c b L xs D (aS q0 f1) (aM q1 f2) cA q2 t (fun q : Nat => s.heap.size ≤ q) :=
    ⟨⟨hx, hb, hml, hown, hts, hK, fun σ1 => (adrS _ _).D (D_left d1) σ1, hA, hEnv, Nat.le_of_ble_eq_true rfl, Nat.le_of_ble_eq_true rfl⟩, ⟨hx, hb, hml, hown, hts, hK, fun σ1 => (adrM _ _).D (D_right d1) σ1, hA, trivial, Nat.le_of_ble_eq_true rfl, Nat.le_of_ble_eq_true rfl⟩, hX, hbl, Nat.not_le.mpr hbl, fun σ1 τ1 f => adr_D (wA_adr σ0 σ1 τ0 τ1 (fun _ => 0) f) hDA⟩
  exact law_loop hl0 X hr hlocks hL hst (L + 4) 0 0 σ0 τ0 (fun _ => 0) H _ ls (by omega) (Or.inr rfl) rfl hrel ⟨hPA, hp.2.2⟩ (lv_sub hl [4, 3, 2, 1, 0] rfl)
