/-! constructors: worlds that grow -/
def zst : St := (fun _ => 0, fun _ => 0, fun _ _ => 0, fun _ _ => 0)
abbrev rmc (d mc ms : Nat) : Room := { frames := d, cells := mc, slots := ms, locals := 50 * d }
def Pcc (D : va_G) (cA : Nat → ClassId) (E : (Nat → Prop) → State → Prop) (pre : va_W) (av : List Value) (sz : Nat) : Array Value → State → Prop :=
  va_Pc av (fun U => U.heap.size = sz ∧ va_P D vwCl pre U.heap ∧ va_K D vwCl (tyW cA) U ∧ va_D (fun _ => True) pre ∧ E (va_A pre sz) U)
def MetC (l : Launch) (y : MethodName) (b : ByteArray) (nL rd mc ms : Nat) (D : va_G) (cA : Nat → ClassId) (E : (Nat → Prop) → State → Prop) (pre : va_W) (av : List Value) (post : (Nat → Nat) → va_W) : Prop :=
  ∀ sz : Nat, Met l y (.code y b nL none :: wsL_law) (rmc rd mc ms) (Pcc D cA E pre av sz) (va_Qv (fun _ : Nat → Nat => True) (fun f t => va_P D vwCl (post f) t.heap ∧ va_D (va_A pre sz) (post f)) (va_A pre sz)) mc ms (va_A pre sz)
/-- the frame of a constructor's walk -/
def Cc (p : Program) (R : Room) (s : State) (m : MethodId) (args : Array Value) (meth : Method) (c : Code) (cc : ByteArray) (nL rd mc ms : Nat) (own : String) (D : va_G) (cA : Nat → ClassId) (E : (Nat → Prop) → State → Prop) (A : Nat → Prop) : Prop :=
  p.tables.exec = Jvm.exec ∧ c.code = cc ∧ c.maxLocals = nL ∧ s.vm.findClass own = some m.cls ∧ (∀ x ∈ wsL_law, x.before args s = true) ∧ va_K D vwCl (tyW cA) s ∧ (∀ q, s.heap.size ≤ q → A q) ∧ E A s ∧ rd ≤ R.frames ∧ 50 * rd ≤ R.locals ∧ mc ≤ R.cells ∧ ms ≤ R.slots ∧ meth.name = "<init>"
def Pg (D : va_G) (A : Nat → Prop) (H0 H : Heap) (locs : List Loc) (ws : va_W) : Prop := va_P D vwCl ws H ∧ va_D A ws ∧ va_S A H0 H locs
section CB
variable {p : Program} {l : Launch} {e : Env} {R : Room} {s : State} {m : MethodId} {args : Array Value} {below : List Frame} {meth : Method} {c : Code} {H : Heap} {locs : List Loc} {Q : State → Prop} {cc : ByteArray} {nL rd mc ms cells slots : Nat} {own : String} {D : va_G} {cA : Nat → ClassId} {E : (Nat → Prop) → State → Prop} {A : Nat → Prop} {y : MethodName} {bytes : ByteArray} {maxL d : Nat} {av As rest st : List Value} {pc index : Nat} {ls : Array Slot} {ws ws' pre : va_W} {post : (Nat → Nat) → va_W}
theorem mkC (hy : plainName y.cls = true) (hnm : y.name = "<init>") (hvs : (lg_sl av).length ≤ maxL)
    (body : ∀ (p : Program) (e : Env) (R : Room) (s : State) (m : MethodId) (args : Array Value) (below : List Frame) (meth : Method) (c : Code) (A : Nat → Prop) (Q : State → Prop) (ls : Array Slot), Cc p R s m args meth c bytes maxL rd mc ms y.cls D cA E A →
      (∀ (f : Nat → Nat) (pc : Nat) (H : Heap) (locs : List Loc) (ls : Array Slot) (cells slots : Nat), decode bytes pc = .ok (.return_, 1) → cells ≤ mc → slots ≤ ms → Pg D A s.heap H locs (post f) → W p l e R s m args below meth c H locs cells slots Q (F0 m pc ls [])) →
      Pg D A s.heap s.heap [] pre → lv_has ls maxL (lv_args 0 av) → W p l e R s m args below meth c s.heap [] 0 0 Q (F0 m 0 ls [])) : MetC l y bytes maxL rd mc ms D cA E pre av post := by
  intro sz
  refine Met.ofW (cc := bytes) (maxL := maxL) (ret := none) hy rfl ?_
  intro p e s m args below meth c s₁ B hml hv
  obtain ⟨rfl, hsz, hP, hK, hD0, hE⟩ := hv
  have hx := B.exec
  have hb := B.bytes
  have hr := B.returns
  have hts := atoms_spec (ws := .code y bytes maxL none :: wsL_law) B.pre
  have hown : s.vm.findClass y.cls = some m.cls := findClass_of_methodNamed B.named
  have hlocks := B.notSynchronized
  have hin : meth.name = "<init>" := ((name_of_methodNamed B.named B.method).1).trans hnm
  subst hsz
  have hD := hD0.self (sz := s.heap.size)
  have hA : ∀ q : Nat, s.heap.size ≤ q → va_A pre s.heap.size q := fun q h => Or.inr h
  have hl := lv_entry av (n := maxL) hvs
  rw [lg_entry_eq]
  generalize (lg_sl av ++ List.replicate (maxL - (lg_sl av).length) Slot.unset).toArray = ls at hl ⊢
  refine body p e (rmc rd mc ms) s m av.toArray below meth c (va_A pre s.heap.size) _ ls ⟨hx, hb, hml, hown, fun x h => hts x (List.mem_cons_of_mem _ h), hK, hA, hE, Nat.le_refl _, Nat.le_refl _, Nat.le_refl _, Nat.le_refl _, hin⟩ ?_ ⟨hP, hD, va_S.rf⟩ hl
  intro f pc H locs ls cells slots hdg h1 h2 hp
  refine W.widen (k := mc) (n := ms) h1 h2 ?_
  exact W.vret hx hb hr (fun t ht hW => ⟨⟨f, rfl, trivial, by rw [ht]; exact hp.1, hp.2.1⟩, hp.2.2.F ht⟩) hp.2.2.2.2 hdg
theorem Pg.perm (hp : Pg D A s.heap H locs ws) (is : List Nat) (h1 : is.filterMap (fun i => ws[i]?) = ws') (h2 : va_nd is = true) (h3 : is.map (fun i => ws[i]?) = ws'.map some) : Pg D A s.heap H locs ws' := ⟨hp.1.sub is h1, hp.2.1.sub is h2 h3, hp.2.2⟩
theorem cI {N : Nat} {n : Int32} (X : Cc p R s m args meth c cc nL rd mc ms own D cA E A) (hp : Pg D A s.heap H locs ws) (hw : Cond.arrayClass .int ∈ wsL_law) (hn : ¬ n < 0) (hN : n.toNatClampNeg = N) (hby : N * componentBytes .int ≤ 536870912) (h1 : cells + 1 ≤ mc) (h2 : slots + N ≤ ms) (hdg : decode cc pc = .ok (.newarray .int, 2))
    (kk : ∀ (q : Nat) (H : Heap), Pg D A s.heap H locs (ws ++ [(q, .inl (cA 0, N, .inl (fun _ => 0)))]) → W p l e R s m args below meth c H locs (cells + 1) (slots + N) Q (F0 m (pc + 2) ls (.ref q :: rest))) : W p l e R s m args below meth c H locs cells slots Q (F0 m pc ls (.int n :: rest)) := by
  obtain ⟨hx, hb, -, -, hts, hK, hA, -, -, -, hc1, hc2, -⟩ := X
  refine va_newa (atype := .int) (ty := .int) (a0 := (N, .inl (fun _ => 0))) hx hb (hts _ hw) rfl hK hp.1 hp.2.1 hp.2.2 hA (fun _ => rfl) hn hN hby (Nat.le_trans h1 hc1) (Nat.le_trans h2 hc2) hdg (fun q cA' H1 hK1 hP1 hD1 hS1 => ?_)
  have e1 : cA' = cA 0 := Option.some.inj ((hK1.2 3 (cA', .int) rfl).2.symm.trans (hK.2 0 (cA 0, .int) rfl).2)
  subst e1
  exact kk q H1 ⟨hP1, hD1, hS1⟩
theorem cJ {N : Nat} {n : Int32} (X : Cc p R s m args meth c cc nL rd mc ms own D cA E A) (hp : Pg D A s.heap H locs ws) (hw : Cond.arrayClass .long ∈ wsL_law) (hn : ¬ n < 0) (hN : n.toNatClampNeg = N) (hby : N * componentBytes .long ≤ 536870912) (h1 : cells + 1 ≤ mc) (h2 : slots + N ≤ ms) (hdg : decode cc pc = .ok (.newarray .long, 2))
    (kk : ∀ (q : Nat) (H : Heap), Pg D A s.heap H locs (ws ++ [(q, .inl (cA 1, N, .inr (.inl (fun _ => 0))))]) → W p l e R s m args below meth c H locs (cells + 1) (slots + N) Q (F0 m (pc + 2) ls (.ref q :: rest))) : W p l e R s m args below meth c H locs cells slots Q (F0 m pc ls (.int n :: rest)) := by
  obtain ⟨hx, hb, -, -, hts, hK, hA, -, -, -, hc1, hc2, -⟩ := X
  refine va_newa (atype := .long) (ty := .long) (a0 := (N, .inr (.inl (fun _ => 0)))) hx hb (hts _ hw) rfl hK hp.1 hp.2.1 hp.2.2 hA (fun _ => rfl) hn hN hby (Nat.le_trans h1 hc1) (Nat.le_trans h2 hc2) hdg (fun q cA' H1 hK1 hP1 hD1 hS1 => ?_)
  have e1 : cA' = cA 1 := Option.some.inj ((hK1.2 3 (cA', .long) rfl).2.symm.trans (hK.2 1 (cA 1, .long) rfl).2)
  subst e1
  exact kk q H1 ⟨hP1, hD1, hS1⟩
theorem cZ {N : Nat} {n : Int32} (X : Cc p R s m args meth c cc nL rd mc ms own D cA E A) (hp : Pg D A s.heap H locs ws) (hw : Cond.arrayClass .boolean ∈ wsL_law) (hn : ¬ n < 0) (hN : n.toNatClampNeg = N) (hby : N * componentBytes .boolean ≤ 536870912) (h1 : cells + 1 ≤ mc) (h2 : slots + N ≤ ms) (hdg : decode cc pc = .ok (.newarray .boolean, 2))
    (kk : ∀ (q : Nat) (H : Heap), Pg D A s.heap H locs (ws ++ [(q, .inl (cA 2, N, .inl (fun _ => 0)))]) → W p l e R s m args below meth c H locs (cells + 1) (slots + N) Q (F0 m (pc + 2) ls (.ref q :: rest))) : W p l e R s m args below meth c H locs cells slots Q (F0 m pc ls (.int n :: rest)) := by
  obtain ⟨hx, hb, -, -, hts, hK, hA, -, -, -, hc1, hc2, -⟩ := X
  refine va_newa (atype := .boolean) (ty := .boolean) (a0 := (N, .inl (fun _ => 0))) hx hb (hts _ hw) rfl hK hp.1 hp.2.1 hp.2.2 hA (fun _ => rfl) hn hN hby (Nat.le_trans h1 hc1) (Nat.le_trans h2 hc2) hdg (fun q cA' H1 hK1 hP1 hD1 hS1 => ?_)
  have e1 : cA' = cA 2 := Option.some.inj ((hK1.2 3 (cA', .boolean) rfl).2.symm.trans (hK.2 2 (cA 2, .boolean) rfl).2)
  subst e1
  exact kk q H1 ⟨hP1, hD1, hS1⟩
theorem cput {a q0 ci N k : Nat} {fs : List Value} {C ref : String} {T : u_T} {ty0 : Nat → FieldType} {ty : FieldType} {v : Value} (X : Cc p R s m args meth c cc nL rd mc ms own D cA E A) (hp : Pg D A s.heap H locs ws) (he : ws[q0]? = some (a, .inr (ci, fs))) (hc : vwCl[ci]? = some (C, T, N)) (hk : k < N) (hlen : k < fs.length) (hin : ∀ x ∈ u_ws C T N, x ∈ wsL_law) (hty : ∀ k, k < N → parseFieldDescriptor (T k).2.2.1 = some (ty0 k)) (hnm : ∀ a, a < N → ∀ b, b < N → a ≠ b → (T a).2.1 ≠ (T b).2.1) (hl : Cond.fieldLink own index ref (T k).2.1 (T k).2.2.1 ∈ wsL_law) (hs : (T k).1 = ref) (hfin : (T k).2.2.2 = true) (hdecl : (T k).1 = own) (hd : parseFieldDescriptor (T k).2.2.1 = some ty) (hn : narrow ty v = v) (hfit : fits ty v = true) (hdg : decode cc pc = .ok (.putfield index, 3)) (hset : ws.set q0 (a, .inr (ci, fs.set k v)) = ws')
    (kk : ∀ (H : Heap) (locs : List Loc), Pg D A s.heap H locs ws' → W p l e R s m args below meth c H locs cells slots Q (F0 m (pc + 3) ls rest)) : W p l e R s m args below meth c H locs cells slots Q (F0 m pc ls (v :: .ref a :: rest)) := by
  obtain ⟨hx, hb, -, hown, hts, hK, hA, -, -, -, -, -, hmn⟩ := X
  refine va_putF hx hb hts hin ty0 hty hnm hown hK hp.1 hp.2.1 hp.2.2 q0 he hc k hk (hts _ hl) (fun x h => by rw [← hs]; exact h) hfin hmn hdecl hd hn hfit hlen hdg (fun H1 locs1 hP1 hD1 hS1 => ?_)
  rw [hset] at hP1 hD1
  exact kk _ _ ⟨hP1, hD1, hS1⟩
theorem cget {a q0 ci N k : Nat} {fs : List Value} {C ref : String} {T : u_T} {v : Value} (X : Cc p R s m args meth c cc nL rd mc ms own D cA E A) (hp : Pg D A s.heap H locs ws) (he : ws[q0]? = some (a, .inr (ci, fs))) (hc : vwCl[ci]? = some (C, T, N)) (hk : k < N) (hv : fs[k]? = some v) (hin : ∀ x ∈ u_ws C T N, x ∈ wsL_law) (hl : Cond.fieldLink own index ref (T k).2.1 (T k).2.2.1 ∈ wsL_law) (hs : (T k).1 = ref) (hdg : decode cc pc = .ok (.getfield index, 3))
    (kk : W p l e R s m args below meth c H locs cells slots Q (F0 m (pc + 3) ls (v :: rest))) : W p l e R s m args below meth c H locs cells slots Q (F0 m pc ls (.ref a :: rest)) :=
  va_get X.1 X.2.1 X.2.2.2.2.1 hin X.2.2.2.1 X.2.2.2.2.2.1 hp.1 q0 he hc k hk (X.2.2.2.2.1 _ hl) (fun x h => by rw [← hs]; exact h) hv hdg kk
theorem cnew {ci N : Nat} {fs : List Value} {C : String} {T : u_T} {ty : Nat → FieldType} (X : Cc p R s m args meth c cc nL rd mc ms own D cA E A) (hp : Pg D A s.heap H locs ws) (hc : vwCl[ci]? = some (C, T, N)) (hin : ∀ x ∈ u_ws C T N, x ∈ wsL_law) (hty : ∀ k, k < N → parseFieldDescriptor (T k).2.2.1 = some (ty k)) (hcl : Cond.classLink own index C ∈ wsL_law) (hinst : Cond.instantiable C N ∈ wsL_law) (hini : Cond.initialized C ∈ wsL_law) (hfs : ∀ j, j < N → defaultValue (ty j) = vp_V fs j) (h1 : cells + 1 ≤ mc) (h2 : slots + N ≤ ms) (hdg : decode cc pc = .ok (.new index, 3))
    (kk : ∀ (q : Nat) (H : Heap), Pg D A s.heap H locs (ws ++ [(q, .inr (ci, fs))]) → W p l e R s m args below meth c H locs (cells + 1) (slots + N) Q (F0 m (pc + 3) ls (.ref q :: rest))) : W p l e R s m args below meth c H locs cells slots Q (F0 m pc ls rest) := by
  obtain ⟨hx, hb, -, hown, hts, hK, hA, -, -, -, hc1, hc2, -⟩ := X
  exact va_new hx hb hts hin ty hty hown (hts _ hcl) (hts _ hinst) (hts _ hini) hK hp.1 hp.2.1 hp.2.2 hA hc hfs (Nat.le_trans h1 hc1) (Nat.le_trans h2 hc2) hdg (fun q H1 hP1 hD1 hS1 => kk q H1 ⟨hP1, hD1, hS1⟩)
theorem cobj {b : Addr} (X : Cc p R s m args meth c cc nL rd mc ms own D cA E A) (h1 : Cond.methodLink own index objectInit ∈ wsL_law) (h2 : Cond.instanceMethod objectInit ∈ wsL_law) (h3 : Cond.code objectInit ⟨#[0xb1]⟩ 1 none ∈ wsL_law) (hsz : ls.size = nL) (hrd : 1 ≤ rd) (hdg : decode cc pc = .ok (.invokespecial index, 3))
    (kk : W p l e R s m args below meth c H locs cells slots Q (F0 m (pc + 3) ls [])) : W p l e R s m args below meth c H locs cells slots Q (F0 m pc ls [.ref b]) := by
  obtain ⟨hx, hb, hml, hown, hts, -, -, -, hf, hlo, -⟩ := X
  refine W.objInit hx hb hown (hts _ h1) (hts _ h2) (hts _ h3) rfl (by rw [hml]; exact hsz) rfl hdg (by omega) ?_ ?_
  · show 2 * 0 + 0 + 12 ≤ R.locals
    omega
  · exact W.eq (g2 := F0 m (pc + 3) ls []) rfl kk
/-- a constructor is called: the cell of its object is cut out, its cells come back -/
theorem cini {b : Addr} {mc1 ms1 : Nat} {wr : va_W} {post : (Nat → Nat) → va_W} (X : Cc p R s m args meth c cc nL rd mc ms own D cA E A) (hE : EOK E) (hM : MetC l y bytes maxL d mc1 ms1 D cA E pre (.ref b :: As) post) (hl : Cond.methodLink own index y ∈ wsL_law) (hi : Cond.instanceMethod y ∈ wsL_law) (hini : Cond.initialized y.cls ∈ wsL_law) (hcode : Cond.code y bytes maxL none ∈ wsL_law) (hnm : y.name = "<init>") (hdd : y.cls ≠ "java/lang/invoke/MethodHandle" ∧ y.cls ≠ "java/lang/invoke/VarHandle" ∧ (parseMethodDescriptor y.desc).map (fun d => d.parameters.length) = some As.length) (hmx : maxL ≤ 31) (hd : d < rd)
    (hp : Pg D A s.heap H locs ws) (isC isR : List Nat) (hC1 : isC.filterMap (fun i => ws[i]?) = pre) (hC2 : va_nd isC = true) (hC : isC.map (fun i => ws[i]?) = pre.map some) (hR : isR.map (fun i => ws[i]?) = wr.map some) (hn : va_nd isR = true) (hdis : ∀ i ∈ isR, i ∉ isC) (hsz : ls.size = nL) (hst : st = As.reverse ++ .ref b :: rest) (hr : (rest.map fun v => v.category).sum ≤ 8) (h1 : cells + mc1 ≤ mc) (h2 : slots + ms1 ≤ ms) (hdg : decode cc pc = .ok (.invokespecial index, 3))
    (kk : ∀ (f : Nat → Nat) (H : Heap) (locs : List Loc), Pg D A s.heap H locs (wr ++ post f) → W p l e R s m args below meth c H locs (cells + mc1) (slots + ms1) Q (F0 m (pc + 3) ls rest)) : W p l e R s m args below meth c H locs cells slots Q (F0 m pc ls st) := by
  obtain ⟨hx, hb, hml, hown, hts, hK, hA, hEs, hf, hlo, hc1, hc2, -⟩ := X
  have hPc := hp.1.sub isC hC1
  have hDc := hp.2.1.sub isC hC2 hC
  have hFc := va_free (wc := pre) hp.2.1 hp.2.2 hA isC hC
  subst hst
  have cw : CallB R s args own index y bytes maxL none (.code y bytes maxL none :: wsL_law) (rmc d mc1 ms1) mc1 ms1 As.length := callB_of As.length hts (goodCode hcode) rfl rfl rfl (hts _ hini) (hts _ hl) hdd ⟨Nat.le_trans hd hf, by show 8 + (maxL + 11) + 50 * d ≤ R.locals; omega⟩
  refine va_callv (va_runI (As := As) (rest := rest) ⟨hx, hb, hml, hown, hts⟩ (hM H.size) ⟨cw, hnm, hts _ hi⟩ ⟨?_, ?_⟩ rfl rfl hsz rfl (lv_room hr) hdg ⟨Nat.le_trans h1 hc1, Nat.le_trans h2 hc2⟩) hp.2.2 (fun q _ h => hFc q h) hFc (fun u t H1 locs1 ht hvm hw hB hz1 hk1 hS1 => ?_)
  · intro a U g mk q
    obtain ⟨q0, q1, qP, qK, qD, qE⟩ := q
    exact ⟨q0, q1, qP, va_K.moved (u := U) (U := U.calling g mk a) (Vm.Alike.refl U.vm) qK, qD, hE.2 _ _ _ _ _ qE⟩
  · intro U hU hW
    exact ⟨rfl, by rw [hU], by rw [hU]; exact hPc, va_K.moved hW.alike hK, hDc.weaken (fun _ _ _ _ => trivial), hE.1 A _ s U hEs hFc (by rw [hU]; exact hp.2.2.1) (fun a h1 h2 => by rw [hU]; exact hp.2.2.2.1 a h1 h2) hW⟩
  · obtain ⟨hP1, hD1⟩ := hB
    subst ht
    obtain ⟨hP2, hD2⟩ := va_join (wr := wr) hp.1 hp.2.1 isC isR hC hR hn hdis hk1 hFc hP1 hD1
    exact kk u _ _ ⟨hP2, hD2, hS1⟩
/-- a method is called over the whole world of a constructor (it makes nothing) -/
theorem cmet {b : Addr} {ci : Nat} {q : vw_C} {fs : List Value} {w : St → va_W} {σ σ' : St} {ret : Option FieldType} (X : Cc p R s m args meth c cc nL rd mc ms own D cA E A) (hE : EOK E) (hw : Adr w) (hM : MetV l y bytes maxL ret d D (tyW cA) w E (.ref b :: As) σ σ') (hl : Cond.methodLink own index y ∈ wsL_law) (hm : mwV y bytes maxL ret As.length) (hd : d < rd) (hp : Pg D A s.heap H locs (w σ))
    (q0 : Nat) (he : (w σ)[q0]? = some (b, .inr (ci, fs))) (hc : vwCl[ci]? = some q) (hq : q.1 = y.cls) (hsz : ls.size = nL) (hst : st = As.reverse ++ .ref b :: rest) (hr : (rest.map fun v => v.category).sum ≤ 8) (h1 : cells ≤ mc) (h2 : slots ≤ ms) (hdg : decode cc pc = .ok (.invokevirtual index, 3))
    (kk : ∀ (H : Heap) (locs : List Loc), Pg D A s.heap H locs (w σ') → W p l e R s m args below meth c H locs cells slots Q (F0 m (pc + 3) ls rest)) : W p l e R s m args below meth c H locs cells slots Q (F0 m pc ls st) := by
  obtain ⟨hx, hb, hml, hown, hts, hK, hA, hEs, hf, hlo, hc1, hc2, -⟩ := X
  have hX : Cx p R s m args c cc nL rd own D (tyW cA) w E A := ⟨hx, hb, hml, hown, hts, hK, fun σ1 => hw.D hp.2.1 σ1, hA, hEs, hf, hlo⟩
  have hp1 : Pw D w A s.heap H locs σ := ⟨hp.1, hp.2.2⟩
  have hfr := hp1.free hX
  subst hst
  refine va_callv (va_runV hX.fix (hM H.size) (cwv hX hl hm hd) ⟨Pcw.blind hE _ _ _, ?_, hp1.pre hX hE _⟩ rfl rfl hsz rfl (lv_room hr) hdg ⟨Nat.le_trans h1 hc1, Nat.le_trans h2 hc2⟩) hp.2.2 (fun q _ h => hfr q h) hfr (fun u t H1 locs1 ht hvm hw1 hB hz1 hk1 hS1 => ?_)
  · rw [← hq]; exact va_recv hK hp.1 hc he
  · subst hw1
    subst ht
    exact kk _ _ ⟨hB, hw.D hp.2.1 u, hS1⟩
end CB
