/-! the law's helpers: the class's world and the row 'out' -/
def apart (w1 w2 : va_W) : Prop := ∀ (i j : Nat) (p q : Nat × va_E), w1[i]? = some p → w2[j]? = some q → p.1 ≠ q.1
abbrev oc (cA : Nat → ClassId) (ao : Nat) (f : Nat → Int64) : va_W := [(ao, .inl (cA 1, 1, .inr (.inl f)))]
def wO (a : Nat → Nat) (cA : Nat → ClassId) (ao : Nat) (σ : St) (f : Nat → Int64) : va_W := wS a cA σ ++ oc cA ao f
theorem Met.ofWH {l : Launch} {y : MethodName} {ws ws' : List Cond} {rm : Room} {Pc : Array Value → State → Prop} {Qc : Array Value → State → Outcome → State → Prop} {mc ms : Nat} {free : Addr → Prop} {cc : ByteArray} {maxL : Nat} {ret : Option FieldType} {hh : List (Nat × Nat × Nat × Nat)}
    (hy : plainName y.cls = true) (hw : ws = Cond.codeWith y cc maxL ret hh :: ws')
    (body : ∀ p e s m args below meth c s₁, BodyLoose p l y (headSpec ws rm) cc maxL ret e s m args below meth c s₁ → c.maxLocals = maxL → Pc args s →
      W p l e (headSpec ws rm).room s m args below meth c s.heap [] 0 0 (MQ below Qc args s mc ms free) (entryFrame m args maxL)) : Met l y ws rm Pc Qc mc ms free := by
  refine MetFree.of_bodyS (code := cc) (maxLocals := maxL) (ret := ret) hy ?_ ?_
  · intro args s m h hn
    obtain ⟨m9, meth, c, hn9, h1, h2, h3, h4, -, h5, h6, -⟩ := Cond.codeWith_spec (atoms_spec (ws := ws) h _ (by rw [hw]; exact List.mem_cons_self))
    cases hn.symm.trans hn9
    exact ⟨meth, c, h1, h2, h3, h4, h5, h6⟩
  · intro p e s m args below meth c s₁ B hml hP _
    have hh0 : s₁.heap = s.heap := by rw [B.state]; rfl
    obtain ⟨t, a1, o, b1, b2, b3⟩ := body p e s m args below meth c s₁ B hml hP s₁ hh0 (Stand.of_body B)
    exact ⟨t, o, a1, b1, b2, ⟨b3.1, b3.2⟩⟩
def Pch (D : va_G) (a : Nat → Nat) (cA : Nat → ClassId) (ao : Nat) (E : (Nat → Prop) → State → Prop) (av : List Value) (σ : St) (f : Nat → Int64) (sz : Nat) : Array Value → State → Prop :=
  va_Pc av (fun U => U.heap.size = sz ∧ va_P D vwCl (wO a cA ao σ f) U.heap ∧ va_K D vwCl (tyW cA) U ∧ va_D (fun _ => True) (wO a cA ao σ f) ∧ E (va_A (wO a cA ao σ f) sz) U)
def MetH (l : Launch) (y : MethodName) (b : ByteArray) (nL : Nat) (hh : List (Nat × Nat × Nat × Nat)) (rd : Nat) (D : va_G) (a : Nat → Nat) (cA : Nat → ClassId) (ao : Nat) (E : (Nat → Prop) → State → Prop) (av : List Value) (σ : St) (f : Nat → Int64) (r : Int32) (σ' : St) (f' : Nat → Int64) : Prop :=
  ∀ sz : Nat, Met l y (.codeWith y b nL (some .int) hh :: wsL_law) (rmc rd 1 6) (Pch D a cA ao E av σ f sz) (va_Qi (fun r' (u : St × (Nat → Int64)) => r' = r ∧ u = (σ', f')) (fun u t => va_P D vwCl (wO a cA ao u.1 u.2) t.heap) (va_A (wO a cA ao σ f) sz)) 1 6 (va_A (wO a cA ao σ f) sz)
theorem wO_adr {a : Nat → Nat} {cA : Nat → ClassId} {ao : Nat} (σ σ' : St) (f f' : Nat → Int64) : (wO a cA ao σ f).map Prod.fst = (wO a cA ao σ' f').map Prod.fst := rfl
theorem adr_D {w1 w2 : va_W} (h : w1.map Prod.fst = w2.map Prod.fst) {A : Nat → Prop} (hD : va_D A w1) : va_D A w2 := (Adr.D (w := fun σ => if σ.1 0 = 0 then w1 else w2) (fun σ σ' => by dsimp only; split <;> split <;> first | rfl | exact h | exact h.symm) (σ := zst) hD (si zst 0 1))
section HB
variable {p : Program} {l : Launch} {e : Env} {R : Room} {s : State} {m : MethodId} {args : Array Value} {below : List Frame} {meth : Method} {c : Code} {H H1 : Heap} {locs : List Loc} {Q : State → Prop} {cc : ByteArray} {nL rd : Nat} {own : String} {D : va_G} {a : Nat → Nat} {cA : Nat → ClassId} {t ao : Nat} {A : Nat → Prop} {y : MethodName} {bytes : ByteArray} {maxL d : Nat} {ret : Option FieldType} {av As rest st : List Value} {σ σ' : St} {pc index : Nat} {ls : Array Slot} {tys : List (ClassId × FieldType)} {w : St → va_W} {E : (Nat → Prop) → State → Prop} {r : va_W} {f f' : Nat → Int64} {hh : List (Nat × Nat × Nat × Nat)}
theorem keepR {w1 : va_W} (hP : va_P D vwCl r H) (hap : apart w1 r) (hk : ∀ q : Nat, q < H.size → ¬ va_A w1 H.size q → H1[q]? = H[q]?) : va_P D vwCl r H1 := by
  intro k q hq
  refine (hP k q hq).kept (hk q.1 (hP k q hq).lt (fun h => ?_))
  rcases h with ⟨i, e, h⟩ | h
  · exact hap i k (q.1, e) q h hq rfl
  · exact absurd (hP k q hq).lt (by omega)
theorem mkH {v0 : Int32} (hy : plainName y.cls = true) (hvs : (lg_sl av).length ≤ maxL)
    (body : ∀ (p : Program) (e : Env) (R : Room) (s : State) (m : MethodId) (args : Array Value) (below : List Frame) (meth : Method) (c : Code) (A : Nat → Prop) (Q : State → Prop) (ls : Array Slot), Cx p R s m args c bytes maxL rd y.cls D (tyW cA) (wS a cA) E A → (1 ≤ R.cells ∧ 6 ≤ R.slots) → c.exceptionTable.toList = tableOf hh → apart (wS a cA σ) (oc cA ao f) → va_D A (oc cA ao f) →
      (∀ (pc : Nat) (H : Heap) (locs : List Loc) (ls : Array Slot) (cells slots : Nat) (v : Int32) (σ1 : St) (f1 : Nat → Int64), decode bytes pc = .ok (.ireturn, 1) → cells ≤ 1 → slots ≤ 6 → Pw D (wS a cA) A s.heap H locs σ1 → va_P D vwCl (oc cA ao f1) H → v = v0 → σ1 = σ' → f1 = f' → W p l e R s m args below meth c H locs cells slots Q (F0 m pc ls [.int v])) →
      Pw D (wS a cA) A s.heap s.heap [] σ → va_P D vwCl (oc cA ao f) s.heap → lv_has ls maxL (lv_args 0 av) → W p l e R s m args below meth c s.heap [] 0 0 Q (F0 m 0 ls [])) : MetH l y bytes maxL hh rd D a cA ao E av σ f v0 σ' f' := by
  intro sz
  refine Met.ofWH (cc := bytes) (maxL := maxL) (ret := some .int) hy rfl ?_
  intro p e s m args below meth c s₁ B hml hv
  obtain ⟨rfl, hsz, hP, hK, hD0, hE⟩ := hv
  have hx := B.exec
  have hb := B.bytes
  have hr := B.returns
  have hts := atoms_spec (ws := .codeWith y bytes maxL (some .int) hh :: wsL_law) B.pre
  have htab := vx_table (x := y) B (hts _ List.mem_cons_self)
  have hown : s.vm.findClass y.cls = some m.cls := findClass_of_methodNamed B.named
  have hlocks := B.notSynchronized
  subst hsz
  have hD := hD0.self (sz := s.heap.size)
  have hA : ∀ q : Nat, s.heap.size ≤ q → va_A (wO a cA ao σ f) s.heap.size q := fun q h => Or.inr h
  have hl := lv_entry av (n := maxL) hvs
  rw [lg_entry_eq]
  generalize (lg_sl av ++ List.replicate (maxL - (lg_sl av).length) Slot.unset).toArray = ls at hl ⊢
  have hn : (wS a cA σ).length = 29 := rfl
  have hPS : va_P D vwCl (wS a cA σ) s.heap := fun k q hq => hP k q (by
    have hk := (List.getElem?_eq_some_iff.mp hq).1
    show (wS a cA σ ++ oc cA ao f)[k]? = some q
    rw [List.getElem?_append_left hk]; exact hq)
  have hPO : va_P D vwCl (oc cA ao f) s.heap := fun k q hq => hP (29 + k) q (by
    show (wS a cA σ ++ oc cA ao f)[29 + k]? = some q
    rw [List.getElem?_append_right (by rw [hn]; omega), hn, show 29 + k - 29 = k by omega]; exact hq)
  have hDS : va_D (va_A (wO a cA ao σ f) s.heap.size) (wS a cA σ) := by
    refine ⟨fun i j x z hi hj h => hD.1 i j x z ?_ ?_ h, fun k q hq => hD.2 k q ?_⟩
    · show (wS a cA σ ++ oc cA ao f)[i]? = some x
      rw [List.getElem?_append_left (List.getElem?_eq_some_iff.mp hi).1]; exact hi
    · show (wS a cA σ ++ oc cA ao f)[j]? = some z
      rw [List.getElem?_append_left (List.getElem?_eq_some_iff.mp hj).1]; exact hj
    · show (wS a cA σ ++ oc cA ao f)[k]? = some q
      rw [List.getElem?_append_left (List.getElem?_eq_some_iff.mp hq).1]; exact hq
  have hDO : va_D (va_A (wO a cA ao σ f) s.heap.size) (oc cA ao f) := hD.sub [29] (by decide) rfl
  have hap : apart (wS a cA σ) (oc cA ao f) := by
    intro i j x z hi hj h
    have hi' := (List.getElem?_eq_some_iff.mp hi).1
    have := hD.1 i (29 + j) x z (by show (wS a cA σ ++ oc cA ao f)[i]? = some x; rw [List.getElem?_append_left hi']; exact hi) (by show (wS a cA σ ++ oc cA ao f)[29 + j]? = some z; rw [List.getElem?_append_right (by rw [hn]; omega), hn, show 29 + j - 29 = j by omega]; exact hj) h
    rw [hn] at hi'
    omega
  refine body p e (rmc rd 1 6) s m av.toArray below meth c (va_A (wO a cA ao σ f) s.heap.size) _ ls ⟨hx, hb, hml, hown, fun x h => hts x (List.mem_cons_of_mem _ h), hK, fun σ1 => (adrS a cA).D hDS σ1, hA, hE, Nat.le_refl _, Nat.le_refl _⟩ ⟨Nat.le_refl _, Nat.le_refl _⟩ htab hap hDO ?_ ⟨hPS, va_S.rf⟩ hPO hl
  intro pc H locs ls cells slots v σ1 f1 hdg h1 h2 hp ho e1 e2 e3
  subst e1; subst e2; subst e3
  refine W.widen (k := 1) (n := 6) h1 h2 ?_
  exact W.iret hx hb hr (fun u hu hW => ⟨⟨v, (σ1, f1), rfl, ⟨rfl, rfl⟩, by show va_P D vwCl (wS a cA σ1 ++ oc cA ao f1) u.heap; rw [hu]; exact va_P.app hp.1 ho⟩, hp.2.F hu⟩) hp.2.2.2 hdg
theorem clR_i {b : Addr} {v : Int32} {ci : Nat} {q : vw_C} {fs : List Value} {cells slots : Nat} (X : Cx p R s m args c cc nL rd own D tys w E A) (hE : EOK E) (hM : MetI l y bytes maxL ret d D tys w E (.ref b :: As) σ v σ') (hl : Cond.methodLink own index y ∈ wsL_law) (hm : mwV y bytes maxL ret As.length) (hd : d < rd) (hp : Pw D w A s.heap H locs σ) (hr0 : va_P D vwCl r H) (hap : apart (w σ) r) (hce : cells ≤ R.cells ∧ slots ≤ R.slots)
    (q0 : Nat) (he : (w σ)[q0]? = some (b, .inr (ci, fs))) (hc : vwCl[ci]? = some q) (hq : q.1 = y.cls) (hsz : ls.size = nL) (hst : st = As.reverse ++ .ref b :: rest) (hr : (rest.map fun v => v.category).sum ≤ 8) (hdg : decode cc pc = .ok (.invokevirtual index, 3))
    (kk : ∀ (H : Heap) (locs : List Loc), Pw D w A s.heap H locs σ' → va_P D vwCl r H → W p l e R s m args below meth c H locs cells slots Q (F0 m (pc + 3) ls (.int v :: rest))) : W p l e R s m args below meth c H locs cells slots Q (F0 m pc ls st) := by
  have hf := hp.free X
  subst hst
  refine va_calli (va_runV X.fix (hM H.size) (cwv X hl hm hd) ⟨Pcw.blind hE _ _ _, ?_, hp.pre X hE _⟩ rfl rfl hsz rfl (lv_room hr) hdg hce) hp.2 (fun q _ h => hf q h) hf (fun r1 u t H1 locs1 ht hvm hw hB hz1 hk1 hS1 => ?_)
  · rw [← hq]; exact va_recv X.2.2.2.2.2.1 hp.1 hc he
  · obtain ⟨rfl, rfl⟩ := hw
    subst ht
    exact kk _ _ ⟨hB, hS1⟩ (keepR hr0 hap hk1)
theorem clR_l {b : Addr} {v : Int64} {ci : Nat} {q : vw_C} {fs : List Value} {cells slots : Nat} (X : Cx p R s m args c cc nL rd own D tys w E A) (hE : EOK E) (hM : MetL l y bytes maxL ret d D tys w E (.ref b :: As) σ v σ') (hl : Cond.methodLink own index y ∈ wsL_law) (hm : mwV y bytes maxL ret As.length) (hd : d < rd) (hp : Pw D w A s.heap H locs σ) (hr0 : va_P D vwCl r H) (hap : apart (w σ) r) (hce : cells ≤ R.cells ∧ slots ≤ R.slots)
    (q0 : Nat) (he : (w σ)[q0]? = some (b, .inr (ci, fs))) (hc : vwCl[ci]? = some q) (hq : q.1 = y.cls) (hsz : ls.size = nL) (hst : st = As.reverse ++ .ref b :: rest) (hr : (rest.map fun v => v.category).sum ≤ 8) (hdg : decode cc pc = .ok (.invokevirtual index, 3))
    (kk : ∀ (H : Heap) (locs : List Loc), Pw D w A s.heap H locs σ' → va_P D vwCl r H → W p l e R s m args below meth c H locs cells slots Q (F0 m (pc + 3) ls (.long v :: rest))) : W p l e R s m args below meth c H locs cells slots Q (F0 m pc ls st) := by
  have hf := hp.free X
  subst hst
  refine va_calll (va_runV X.fix (hM H.size) (cwv X hl hm hd) ⟨Pcw.blind hE _ _ _, ?_, hp.pre X hE _⟩ rfl rfl hsz rfl (lv_room hr) hdg hce) hp.2 (fun q _ h => hf q h) hf (fun r1 u t H1 locs1 ht hvm hw hB hz1 hk1 hS1 => ?_)
  · rw [← hq]; exact va_recv X.2.2.2.2.2.1 hp.1 hc he
  · obtain ⟨rfl, rfl⟩ := hw
    subst ht
    exact kk _ _ ⟨hB, hS1⟩ (keepR hr0 hap hk1)
/-- the row of the table that catches it -/
theorem xcatch {ex : String} {q : Addr} {ce : Cell} {k : Nat} {cells slots : Nat} (X : Cx p R s m args c cc nL rd own D tys w E A) (hC : ∀ k, x13 k → va_Nw (.castable (XK k) (XK k)) s) (pre : List ExceptionTableEntry) (x : ExceptionTableEntry) (suf : List ExceptionTableEntry) (hsplit : c.exceptionTable.toList = pre ++ x :: suf)
    (hpass : ∀ z ∈ pre, z.catchType ≠ 0 ∧ ∃ n : String, Cond.classLink own z.catchType n ∈ wsL_law ∧ va_Nc ex n s) (hx : covers x pc = true) (h0 : x.catchType ≠ 0) (hlink : Cond.classLink own x.catchType (XK k) ∈ wsL_law) (hk : x13 k) (hex : ex = XK k) (hcell : H[q]? = some ce) (hv : ce.vm = .none) (hcl : s.vm.findClass ex = some ce.cls)
    (kk : W p l e R s m args below meth c H locs cells slots Q (F0 m x.handlerPc ls [.ref q])) : vx_W p l e R s m args below meth c H locs cells slots Q (F0 m pc ls rest) q := by
  have hts := X.2.2.2.2.1
  refine vx_catch X.2.2.2.1 pre x suf hsplit (fun z hz => ?_) hx h0 (hts _ hlink) (va_Nw.use rfl (by rw [hex]; exact hC k hk)) hcell hv hcl kk
  obtain ⟨h1, n, h2, h3⟩ := hpass z hz
  exact Or.inr ⟨h1, n, hts _ h2, h3⟩
theorem clX_i {b : Addr} {ci k : Nat} {q : vw_C} {fs : List Value} (X : Cx p R s m args c cc nL rd own D tys w E A) (hR : 1 ≤ R.cells ∧ 6 ≤ R.slots) (hE : EOK E) (hM : MetX l y bytes maxL ret d D tys w E (.ref b :: As) σ k σ') (hl : Cond.methodLink own index y ∈ wsL_law) (hm : mwV y bytes maxL ret As.length) (hd : d < rd) (hp : Pw D w A s.heap H locs σ) (hr0 : va_P D vwCl r H) (hap : apart (w σ) r)
    (q0 : Nat) (he : (w σ)[q0]? = some (b, .inr (ci, fs))) (hc : vwCl[ci]? = some q) (hq : q.1 = y.cls) (hsz : ls.size = nL) (hst : st = As.reverse ++ .ref b :: rest) (hr : (rest.map fun v => v.category).sum ≤ 8) (hdg : decode cc pc = .ok (.invokevirtual index, 3))
    (kx : ∀ (H : Heap) (locs : List Loc) (q : Addr) (ex : String) (ce : Cell), Pw D w A s.heap H locs σ' → va_P D vwCl r H → ex = XK k → H[q]? = some ce → ce.vm = .none → s.vm.findClass ex = some ce.cls → vx_W p l e R s m args below meth c H locs 1 6 Q (F0 m pc ls rest) q) : W p l e R s m args below meth c H locs 0 0 Q (F0 m pc ls st) := by
  have hf := hp.free X
  subst hst
  refine vx_calli (post := fun (_ : Int32) (_ : St) => False) (B := fun _ _ => True) (A1 := va_A (w σ) H.size) (AX := va_A (w σ) H.size) (px := fun u : St => u = σ') (BX := fun Ex u t => Ex = XK k ∧ va_P D vwCl (w u) t.heap) (vx_runV X.fix (hM H.size _) (cwx X hl hm hd) ⟨Pcw.blind hE _ _ _, ?_, hp.pre X hE _⟩ rfl rfl hsz rfl (lv_room hr) hdg (by show 0 + 1 ≤ _ ∧ 0 + 6 ≤ _; omega)) hp.2 (fun q _ h => hf q h) hf (fun q _ h => hf q h) (fun ex ce q9 u t H1 locs1 ht hvm hw hB hz1 hk1 hS1 hce hcv hcl => ?_) (fun r1 u t H1 locs1 ht hvm hw hB hz1 hk1 hS1 => hw.elim)
  · rw [← hq]; exact va_recv X.2.2.2.2.2.1 hp.1 hc he
  · subst hw
    obtain ⟨e1, hB⟩ := hB
    subst ht
    exact kx _ _ q9 ex ce ⟨hB, hS1⟩ (keepR hr0 hap hk1) e1 hce hcv hcl
theorem clX_l {b : Addr} {ci k : Nat} {q : vw_C} {fs : List Value} (X : Cx p R s m args c cc nL rd own D tys w E A) (hR : 1 ≤ R.cells ∧ 6 ≤ R.slots) (hE : EOK E) (hM : MetX l y bytes maxL ret d D tys w E (.ref b :: As) σ k σ') (hl : Cond.methodLink own index y ∈ wsL_law) (hm : mwV y bytes maxL ret As.length) (hd : d < rd) (hp : Pw D w A s.heap H locs σ) (hr0 : va_P D vwCl r H) (hap : apart (w σ) r)
    (q0 : Nat) (he : (w σ)[q0]? = some (b, .inr (ci, fs))) (hc : vwCl[ci]? = some q) (hq : q.1 = y.cls) (hsz : ls.size = nL) (hst : st = As.reverse ++ .ref b :: rest) (hr : (rest.map fun v => v.category).sum ≤ 8) (hdg : decode cc pc = .ok (.invokevirtual index, 3))
    (kx : ∀ (H : Heap) (locs : List Loc) (q : Addr) (ex : String) (ce : Cell), Pw D w A s.heap H locs σ' → va_P D vwCl r H → ex = XK k → H[q]? = some ce → ce.vm = .none → s.vm.findClass ex = some ce.cls → vx_W p l e R s m args below meth c H locs 1 6 Q (F0 m pc ls rest) q) : W p l e R s m args below meth c H locs 0 0 Q (F0 m pc ls st) := by
  have hf := hp.free X
  subst hst
  refine vx_calll (post := fun (_ : Int64) (_ : St) => False) (B := fun _ _ => True) (A1 := va_A (w σ) H.size) (AX := va_A (w σ) H.size) (px := fun u : St => u = σ') (BX := fun Ex u t => Ex = XK k ∧ va_P D vwCl (w u) t.heap) (vx_runV X.fix (hM H.size _) (cwx X hl hm hd) ⟨Pcw.blind hE _ _ _, ?_, hp.pre X hE _⟩ rfl rfl hsz rfl (lv_room hr) hdg (by show 0 + 1 ≤ _ ∧ 0 + 6 ≤ _; omega)) hp.2 (fun q _ h => hf q h) hf (fun q _ h => hf q h) (fun ex ce q9 u t H1 locs1 ht hvm hw hB hz1 hk1 hS1 hce hcv hcl => ?_) (fun r1 u t H1 locs1 ht hvm hw hB hz1 hk1 hS1 => hw.elim)
  · rw [← hq]; exact va_recv X.2.2.2.2.2.1 hp.1 hc he
  · subst hw
    obtain ⟨e1, hB⟩ := hB
    subst ht
    exact kx _ _ q9 ex ce ⟨hB, hS1⟩ (keepR hr0 hap hk1) e1 hce hcv hcl
/-- the answer is laid into out[0] -/
theorem stO {x : Int64} {cells slots : Nat} (X : Cx p R s m args c cc nL rd own D (tyW cA) (wS a cA) E A) (hp : Pw D (wS a cA) A s.heap H locs σ) (ho : va_P D vwCl (oc cA ao f) H) (hDo : va_D A (oc cA ao f)) (hap : apart (wS a cA σ) (oc cA ao f)) (hdg : decode cc pc = .ok (.lastore, 1))
    (kk : ∀ (H : Heap) (locs : List Loc), Pw D (wS a cA) A s.heap H locs σ → va_P D vwCl (oc cA ao (vp_updL f 0 x)) H → W p l e R s m args below meth c H locs cells slots Q (F0 m (pc + 1) ls rest)) : W p l e R s m args below meth c H locs cells slots Q (F0 m pc ls (.long x :: .int 0 :: .ref ao :: rest)) := by
  obtain ⟨hx, hb, -, -, -, hK, hD, -⟩ := X
  have hP2 : va_P D vwCl (wS a cA σ ++ oc cA ao f) H := va_P.app hp.1 ho
  have hD2 : va_D A (wS a cA σ ++ oc cA ao f) := va_D.app (hD σ) hDo (fun i j x y h1 h2 h3 => hap i j x y h1 h2 h3)
  refine va_last hx hb hK hP2 hD2 hp.2 29 1 rfl rfl (vp_in_iff.mpr (by decide)) hdg (fun H1 locs1 hP1 hD1 hS1 => ?_)
  have hP3 : va_P D vwCl (wS a cA σ ++ oc cA ao (vp_updL f 0 x)) H1 := hP1
  refine kk H1 locs1 ⟨fun k q hq => hP3 k q ?_, hS1⟩ (hP3.sub [29] rfl)
  rw [List.getElem?_append_left (List.getElem?_eq_some_iff.mp hq).1]; exact hq
end HB
theorem apS {a : Nat → Nat} {cA : Nat → ClassId} {ao : Nat} {σ σ' : St} {f f' : Nat → Int64} (h : apart (wS a cA σ) (oc cA ao f)) : apart (wS a cA σ') (oc cA ao f') := by
  intro i j p q hi hj
  obtain ⟨e1, h1⟩ := (adrS a cA).at σ' σ hi
  have hj' : (oc cA ao f)[j]? = some (q.1, .inl (cA 1, 1, .inr (.inl f))) := by
    cases j with
    | zero => cases hj; rfl
    | succ j => cases hj
  exact h i j (p.1, e1) (q.1, .inl (cA 1, 1, .inr (.inl f))) h1 hj'
