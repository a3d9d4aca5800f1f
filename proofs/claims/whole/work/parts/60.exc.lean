/-! exceptions: what has to be carried for them, and the contract of a run that throws -/
abbrev xNames : List String := ["java/lang/RuntimeException", "java/lang/Exception"]
def XK (k : Nat) : String := match k with
  | 1 => "java/lang/IllegalArgumentException"
  | 2 => "java/lang/IllegalStateException"
  | _ => "java/lang/IndexOutOfBoundsException"
def xik (k : Nat) : Nat := match k with
  | 1 => 48
  | 2 => 72
  | _ => 94
def xic (k : Nat) : Nat := match k with
  | 1 => 52
  | 2 => 76
  | _ => 98
abbrev x13 (k : Nat) : Prop := k = 1 ∨ k = 2 ∨ k = 3
def xPairs : List (String × String) := [(XK 1, XK 2), (XK 1, XK 3), (XK 2, XK 1), (XK 2, XK 3), (XK 3, XK 1), (XK 3, XK 2)]
def strW : List (Nat × String) := [(50, "bits must be 1 to 6 and inputs 0 to 2"), (66, "the code must be 33 to 126"), (74, "the buffer is full"), (96, "there is no such bit"), (103, "the buffer is not a formula"), (128, "there is nothing to undo"), (139, "there is no such input value"), (144, "what must be 0 to 4"), (162, "what must be 0 to 9"), (178, "no bad state is reachable"), (180, "the run has no such index"), (182, "what must be 0 or 1"), (202, "what must be 0 to 2"), (217, "kind must be 0 to 5"), (231, "what must be 0 to 7"), (246, "there is no such frame"), (261, "there is no such cube"), (279, "width must be 1 to 3"), (284, "there is no such set of bits"), (293, "steps must be 0 to 100, seed 0 or more, what 0 to 2"), (295, "there is no initial state"), (331, "there is no such state"), (336, "the buffer is not a formula without inputs"), (338, "there is no proof"), (340, "there is no proof of safety")]
def xDecl : List MethodName := [Bundle.initS "java/lang/RuntimeException", Bundle.initS "java/lang/Exception", Bundle.initS Bundle.tN]
def FX : (Nat → Prop) → State → Prop := fun A U => vx_Zq Bundle.tN "UNASSIGNED_STACK" Bundle.steD A U U.heap ∧ vx_Zq Bundle.tN "SUPPRESSED_SENTINEL" Bundle.listD A U U.heap ∧ (∀ q ∈ strW, ∃ sa : Nat, vk_R RX6 q.1 q.2 sa U) ∧ (∀ k, x13 k → va_Nw (.castable (XK k) (XK k)) U) ∧ (∀ q ∈ xPairs, va_Nc q.1 q.2 U) ∧ ∀ x ∈ xDecl, va_Nw (.declares x) U
theorem eokX : EOK FX := by
  refine ⟨fun A B s U h hAB hz hk hW => ?_, fun A U g mk a h => ?_⟩
  · obtain ⟨h1, h2, h3, h4, h5, h6⟩ := h
    exact ⟨((h1.kept hk).narrow hAB).moved hW.alike, ((h2.kept hk).narrow hAB).moved hW.alike, fun q hq => by obtain ⟨sa, h⟩ := h3 q hq; exact ⟨sa, h.warm hW⟩, fun k hk => (h4 k hk).warmC hW, fun q hq => (h5 q hq).moved hW.alike, fun x hx => (h6 x hx).warmD hW⟩
  · obtain ⟨h1, h2, h3, h4, h5, h6⟩ := h
    exact ⟨vx_Zq.moved (u := U) (U := U.calling g mk a) (Vm.Alike.refl U.vm) h1, vx_Zq.moved (u := U) (U := U.calling g mk a) (Vm.Alike.refl U.vm) h2, fun q hq => by obtain ⟨sa, h⟩ := h3 q hq; exact ⟨sa, h.same rfl⟩, fun k hk => (h4 k hk).same rfl rfl, fun q hq => va_Nc.moved (u := U) (U := U.calling g mk a) (Vm.Alike.refl U.vm) (h5 q hq), fun x hx => (h6 x hx).same rfl rfl⟩
theorem xf1 : ∀ w ∈ (vx_atS RX6 52 (XK 1) xNames).filter goodWord, w ∈ wsL_law := fun _ h => List.mem_append_left _ (List.mem_append_left _ (List.mem_append_right _ h))
theorem xf2 : ∀ w ∈ (vx_atS RX6 76 (XK 2) xNames).filter goodWord, w ∈ wsL_law := fun _ h => List.mem_append_left _ (List.mem_append_right _ h)
theorem xf3 : ∀ w ∈ (vx_atS RX6 98 (XK 3) xNames).filter goodWord, w ∈ wsL_law := fun _ h => List.mem_append_right _ h
theorem xb1 : ∀ w ∈ (vx_atS RX6 52 (XK 1) xNames).filter (fun w => !goodWord w), w ∈ Cond.castable (XK 1) (XK 1) :: xDecl.map Cond.declares := by decide +kernel
theorem xb2 : ∀ w ∈ (vx_atS RX6 76 (XK 2) xNames).filter (fun w => !goodWord w), w ∈ Cond.castable (XK 2) (XK 2) :: xDecl.map Cond.declares := by decide +kernel
theorem xb3 : ∀ w ∈ (vx_atS RX6 98 (XK 3) xNames).filter (fun w => !goodWord w), w ∈ Cond.castable (XK 3) (XK 3) :: xDecl.map Cond.declares := by decide +kernel
theorem xg1 : ∀ w ∈ Cond.classLink RX6 48 (XK 1) :: Cond.initialized (XK 1) :: vx_atS RX6 52 (XK 1) xNames, vx_ot w = true := by decide +kernel
theorem xg2 : ∀ w ∈ Cond.classLink RX6 72 (XK 2) :: Cond.initialized (XK 2) :: vx_atS RX6 76 (XK 2) xNames, vx_ot w = true := by decide +kernel
theorem xg3 : ∀ w ∈ Cond.classLink RX6 94 (XK 3) :: Cond.initialized (XK 3) :: vx_atS RX6 98 (XK 3) xNames, vx_ot w = true := by decide +kernel
theorem xfit : Bundle.fit (XK 1) = true ∧ Bundle.fit (XK 2) = true ∧ Bundle.fit (XK 3) = true ∧ ∀ n ∈ xNames, Bundle.fit n = true := by decide +kernel
theorem xall {args : Array Value} {s : State} (hts : ∀ x ∈ wsL_law, x.before args s = true) (hc : ∀ k, x13 k → va_Nw (.castable (XK k) (XK k)) s) (hde : ∀ x ∈ xDecl, va_Nw (.declares x) s) {k : Nat} (hk : x13 k) :
    Bundle.fit (XK k) = true ∧ (Cond.classLink RX6 (xik k) (XK k)).before args s = true ∧ (Cond.initialized (XK k)).before args s = true ∧ (∀ w ∈ vx_atS RX6 (xic k) (XK k) xNames, w.before args s = true) ∧ ∀ w ∈ Cond.classLink RX6 (xik k) (XK k) :: Cond.initialized (XK k) :: vx_atS RX6 (xic k) (XK k) xNames, vx_ot w = true := by
  obtain ⟨f1, f2, f3, -⟩ := xfit
  have hd9 : ∀ w ∈ xDecl.map Cond.declares, w.before args s = true := fun w hw => by
    obtain ⟨x, hx, rfl⟩ := List.mem_map.mp hw
    exact va_Nw.use rfl (hde x hx)
  rcases hk with rfl | rfl | rfl
  · exact ⟨f1, hts _ tw_7_19, hts _ tw_7_20, vx_hat (fun w h => hts w (xf1 w h)) xb1 (vx_c (va_Nw.use rfl (hc 1 (Or.inl rfl))) hd9), xg1⟩
  · exact ⟨f2, hts _ tw_9_1, hts _ tw_9_2, vx_hat (fun w h => hts w (xf2 w h)) xb2 (vx_c (va_Nw.use rfl (hc 2 (Or.inr (Or.inl rfl)))) hd9), xg2⟩
  · exact ⟨f3, hts _ tw_12_17, hts _ tw_12_18, vx_hat (fun w h => hts w (xf3 w h)) xb3 (vx_c (va_Nw.use rfl (hc 3 (Or.inr (Or.inr rfl)))) hd9), xg3⟩
abbrev rmx (d : Nat) : Room := { frames := d, cells := 1, slots := 6, locals := 50 * d }
def XCw (D : va_G) (w : St → va_W) (k : Nat) (σ' : St) (A : Nat → Prop) : String → State → State → Prop := vx_X (fun u : St => u = σ') (fun Ex u t => Ex = XK k ∧ va_P D vwCl (w u) t.heap) A
/-- a run that throws: which class, and the world behind it -/
def MetX (l : Launch) (y : MethodName) (b : ByteArray) (nL : Nat) (ret : Option FieldType) (rd : Nat) (D : va_G) (tys : List (ClassId × FieldType)) (w : St → va_W) (E : (Nat → Prop) → State → Prop) (av : List Value) (σ : St) (k : Nat) (σ' : St) : Prop :=
  ∀ (sz : Nat) (Qc : Array Value → State → Outcome → State → Prop), vx_Met l y (.code y b nL ret :: wsL_law) (rmx rd) (Pcw D tys w E av σ sz) Qc (XCw D w k σ' (va_A (w σ) sz)) 1 6 (va_A (w σ) sz)
def tb {α : Type} (x : Option (Nat × St)) (y : Option α) (f : α → Option (Nat × St)) : Option (Nat × St) := match x with
  | some q => some q
  | none => bd y f
theorem tb_s {α : Type} {x : Option (Nat × St)} {y : Option α} {f : α → Option (Nat × St)} {o : Nat × St} (h : tb x y f = some o) : x = some o ∨ ∃ a, y = some a ∧ f a = some o := by
  cases x with
  | none => exact Or.inr (bd_s h)
  | some q => exact Or.inl h
section EXC
variable {p : Program} {l : Launch} {e : Env} {R : Room} {s : State} {m : MethodId} {args : Array Value} {below : List Frame} {meth : Method} {c : Code} {H : Heap} {locs : List Loc} {Q : State → Prop} {cc : ByteArray} {nL rd : Nat} {own : String} {D : va_G} {a : Nat → Nat} {cA : Nat → ClassId} {t : Nat} {A : Nat → Prop} {y : MethodName} {bytes : ByteArray} {maxL d : Nat} {ret : Option FieldType} {av As rest st : List Value} {σ σ' : St} {pc index : Nat} {ls : Array Slot} {tys : List (ClassId × FieldType)} {w : St → va_W} {E : (Nat → Prop) → State → Prop}
theorem XCw.of (hD : D = D) {k : Nat} {ex : String} {u : State} (hex : ex = XK k) (hP : va_P D vwCl (w σ') u.heap) (hF : va_F A s u) : XCw D w k σ' A ex s u := ⟨σ', rfl, ⟨hex, hP⟩, hF⟩
theorem mkX {k : Nat} (hl : l.stackTraces = false) (hy : plainName y.cls = true) (hcls : y.cls = RX6) (hrd : 6 ≤ rd) (hvs : (lg_sl av).length ≤ maxL)
    (body : ∀ (p : Program) (e : Env) (R : Room) (s : State) (m : MethodId) (args : Array Value) (below : List Frame) (meth : Method) (c : Code) (A : Nat → Prop) (Q : State → Prop) (ls : Array Slot), Cx p R s m args c bytes maxL rd RX6 D (tyW cA) (wS a cA) (ES t FX) A → (1 ≤ R.cells ∧ 6 ≤ R.slots) →
      (∀ (k1 pc : Nat) (H : Heap) (locs : List Loc) (ls : Array Slot) (rest : List Value) (σ1 : St) (is : Nat) (text : String), x13 k1 → ls.size = maxL → (is, text) ∈ strW → decode bytes pc = .ok (.new (xik k1), 3) → decode bytes (pc + 3) = .ok (.dup, 1) → decode bytes (pc + 4) = .ok (.ldc is, 2) → decode bytes (pc + 6) = .ok (.invokespecial (xic k1), 3) → decode bytes (pc + 9) = .ok (.athrow, 1) → (rest.map fun v => v.category).sum ≤ 100 → Pw D (wS a cA) A s.heap H locs σ1 → k1 = k → σ1 = σ' → W p l e R s m args below meth c H locs 0 0 Q (F0 m pc ls rest)) →
      (∀ (k1 pc : Nat) (H : Heap) (locs : List Loc) (ls : Array Slot) (rest : List Value) (σ1 : St) (is : Nat) (text : String), x13 k1 → ls.size = maxL → (is, text) ∈ strW → decode bytes pc = .ok (.new (xik k1), 3) → decode bytes (pc + 3) = .ok (.dup, 1) → decode bytes (pc + 4) = .ok (.ldc_w is, 3) → decode bytes (pc + 7) = .ok (.invokespecial (xic k1), 3) → decode bytes (pc + 10) = .ok (.athrow, 1) → (rest.map fun v => v.category).sum ≤ 100 → Pw D (wS a cA) A s.heap H locs σ1 → k1 = k → σ1 = σ' → W p l e R s m args below meth c H locs 0 0 Q (F0 m pc ls rest)) →
      (∀ (pc : Nat) (H : Heap) (locs : List Loc) (ls : Array Slot) (rest : List Value) (q : Addr) (ex : String) (ce : Cell) (σ1 : St), Pw D (wS a cA) A s.heap H locs σ1 → ex = XK k → σ1 = σ' → H[q]? = some ce → ce.vm = .none → s.vm.findClass ex = some ce.cls → vx_W p l e R s m args below meth c H locs 1 6 Q (F0 m pc ls rest) q) →
      Pw D (wS a cA) A s.heap s.heap [] σ → lv_has ls maxL (lv_args 0 av) → W p l e R s m args below meth c s.heap [] 0 0 Q (F0 m 0 ls [])) : MetX l y bytes maxL ret rd D (tyW cA) (wS a cA) (ES t FX) av σ k σ' := by
  intro sz Qc
  refine vx_ofW (cc := bytes) (maxL := maxL) (ret := ret) hy rfl ?_
  intro p e s m args below meth c s₁ B hml htab hv
  obtain ⟨rfl, hsz, hP, hK, hD0, hE⟩ := hv
  have hx := B.exec
  have hb := B.bytes
  have hts := atoms_spec (ws := .code y bytes maxL ret :: wsL_law) B.pre
  have hts' : ∀ x ∈ wsL_law, x.before av.toArray s = true := fun x h => hts x (List.mem_cons_of_mem _ h)
  have hown : s.vm.findClass RX6 = some m.cls := by rw [← hcls]; exact findClass_of_methodNamed B.named
  have hlocks := B.notSynchronized
  subst hsz
  have hD := hD0.self (sz := s.heap.size)
  have hA : ∀ q : Nat, s.heap.size ≤ q → va_A (wS a cA σ) s.heap.size q := fun q h => Or.inr h
  have hl0 := lv_entry av (n := maxL) hvs
  rw [lg_entry_eq]
  generalize (lg_sl av ++ List.replicate (maxL - (lg_sl av).length) Slot.unset).toArray = ls at hl0 ⊢
  obtain ⟨-, -, -, hU, hN, hstr, hcast, -, hde⟩ := id hE
  have hcov : ∀ pc : Nat, ∀ x ∈ c.exceptionTable.toList, covers x pc = false := fun pc x h => (htab x h).elim
  refine body p e (rmx rd) s m av.toArray below meth c (va_A (wS a cA σ) s.heap.size) _ ls ⟨hx, hb, hml, hown, hts', hK, fun σ1 => (adrS a cA).D hD σ1, hA, hE, Nat.le_refl _, Nat.le_refl _⟩ ⟨Nat.le_refl _, Nat.le_refl _⟩ ?_ ?_ ?_ ⟨hP, va_S.rf⟩ hl0
  · intro k1 pc H locs ls rest σ1 is text hk hsize hq d0 d3 d4 d6 d9 hr hp e1 e2
    subst e1; subst e2
    obtain ⟨sa, hs⟩ := hstr _ hq
    obtain ⟨z1, z2, z3, z4, z5⟩ := xall hts' hcast hde hk
    exact vx_throwS hx hb hl hown z1 xfit.2.2.2 z2 z3 hs z4 z5 hU hN hp.2 (hsize.trans hml.symm) d0 d3 d4 d6 d9 (hcov _) (show 2 + 3 < rd by omega) (show _ + (13 * (2 + 1) + 43) ≤ 50 * rd by omega) (Nat.le_refl _) (Nat.le_refl _) hlocks
      (fun u hvm hz hk1 => ⟨σ1, rfl, ⟨rfl, fun i q hq => (hp.1 i q hq).kept (hk1 q.1 (hp.1 i q hq).lt)⟩, Nat.le_trans hp.2.1 hz, fun q h1 h2 => by rw [hk1 q (Nat.lt_of_lt_of_le h1 hp.2.1)]; exact hp.2.2.1 q h1 h2⟩) hp.2.2.2 (Nat.le_refl _) (Nat.le_refl _)
  · intro k1 pc H locs ls rest σ1 is text hk hsize hq d0 d3 d4 d6 d9 hr hp e1 e2
    subst e1; subst e2
    obtain ⟨sa, hs⟩ := hstr _ hq
    obtain ⟨z1, z2, z3, z4, z5⟩ := xall hts' hcast hde hk
    exact vx_throwSW hx hb hl hown z1 xfit.2.2.2 z2 z3 hs z4 z5 hU hN hp.2 (hsize.trans hml.symm) d0 d3 d4 d6 d9 (hcov _) (show 2 + 3 < rd by omega) (show _ + (13 * (2 + 1) + 43) ≤ 50 * rd by omega) (Nat.le_refl _) (Nat.le_refl _) hlocks
      (fun u hvm hz hk1 => ⟨σ1, rfl, ⟨rfl, fun i q hq => (hp.1 i q hq).kept (hk1 q.1 (hp.1 i q hq).lt)⟩, Nat.le_trans hp.2.1 hz, fun q h1 h2 => by rw [hk1 q (Nat.lt_of_lt_of_le h1 hp.2.1)]; exact hp.2.2.1 q h1 h2⟩) hp.2.2.2 (Nat.le_refl _) (Nat.le_refl _)
  · intro pc H locs ls rest q ex ce σ1 hp e1 e2 hce hcv hcl
    subst e2
    exact vx_out (hcov pc) hlocks hce hcv hcl (fun u hu hvm => ⟨σ1, rfl, ⟨e1, by rw [hu]; exact hp.1⟩, hp.2.F hu⟩) hp.2.2.2 (Nat.le_refl _) (Nat.le_refl _)
/-- the words of a call of a method that throws -/
theorem cwx {n : Nat} (X : Cx p R s m args c cc nL rd own D tys w E A) (hl : Cond.methodLink own index y ∈ wsL_law) (hm : mwV y bytes maxL ret n) (hd : d < rd) : CallW R s args own y.cls index y bytes maxL ret (.code y bytes maxL ret :: wsL_law) (rmx d) 1 6 n := by
  obtain ⟨-, -, -, -, hts, -, -, -, -, hf, hlo⟩ := X
  obtain ⟨h1, h2, h3, h4, h5, h6⟩ := hm
  exact ⟨callB_of n hts (goodCode h4) rfl rfl rfl (hts _ h3) (hts _ hl) h5 ⟨Nat.le_trans hd hf, by show 8 + (maxL + 11) + 50 * d ≤ R.locals; omega⟩, hts _ h1, hts _ h2⟩
/-- a call (of a void method) that throws, and nobody catches it here -/
theorem cl_Xv {b : Addr} {ci k : Nat} {q : vw_C} {fs : List Value} (X : Cx p R s m args c cc nL rd own D tys w E A) (hR : 1 ≤ R.cells ∧ 6 ≤ R.slots) (hE : EOK E) (hM : MetX l y bytes maxL ret d D tys w E (.ref b :: As) σ k σ') (hl : Cond.methodLink own index y ∈ wsL_law) (hm : mwV y bytes maxL ret As.length) (hd : d < rd) (hp : Pw D w A s.heap H locs σ)
    (q0 : Nat) (he : (w σ)[q0]? = some (b, .inr (ci, fs))) (hc : vwCl[ci]? = some q) (hq : q.1 = y.cls) (hsz : ls.size = nL) (hst : st = As.reverse ++ .ref b :: rest) (hr : (rest.map fun v => v.category).sum ≤ 8) (hdg : decode cc pc = .ok (.invokevirtual index, 3))
    (kx : ∀ (H : Heap) (locs : List Loc) (q : Addr) (ex : String) (ce : Cell), Pw D w A s.heap H locs σ' → ex = XK k → H[q]? = some ce → ce.vm = .none → s.vm.findClass ex = some ce.cls → vx_W p l e R s m args below meth c H locs 1 6 Q (F0 m pc ls rest) q) : W p l e R s m args below meth c H locs 0 0 Q (F0 m pc ls st) := by
  have hf := hp.free X
  subst hst
  refine vx_callv (post := fun _ : St => False) (B := fun _ _ => True) (A1 := va_A (w σ) H.size) (AX := va_A (w σ) H.size) (px := fun u : St => u = σ') (BX := fun Ex u t => Ex = XK k ∧ va_P D vwCl (w u) t.heap) (vx_runV X.fix (hM H.size _) (cwx X hl hm hd) ⟨Pcw.blind hE _ _ _, ?_, hp.pre X hE _⟩ rfl rfl hsz rfl (lv_room hr) hdg (by show 0 + 1 ≤ _ ∧ 0 + 6 ≤ _; omega)) hp.2 (fun q _ h => hf q h) hf (fun q _ h => hf q h) (fun ex ce q9 u t H1 locs1 ht hvm hw hB hz1 hk1 hS1 hce hcv hcl => ?_) (fun u t H1 locs1 ht hvm hw hB hz1 hk1 hS1 => hw.elim)
  · rw [← hq]; exact va_recv X.2.2.2.2.2.1 hp.1 hc he
  · subst hw
    obtain ⟨e1, hB⟩ := hB
    subst ht
    exact kx _ _ q9 ex ce ⟨hB, hS1⟩ e1 hce hcv hcl
end EXC
