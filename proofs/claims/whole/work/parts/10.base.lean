/-! pure states and the words of the pure programs -/
abbrev St : Type := (Nat → Int32) × (Nat → Int64) × (Nat → Nat → Int32) × (Nat → Nat → Int64)
def si (σ : St) (k : Nat) (v : Int32) : St := (va_up σ.1 k v, σ.2.1, σ.2.2.1, σ.2.2.2)
def sj (σ : St) (k : Nat) (v : Int64) : St := (σ.1, va_up σ.2.1 k v, σ.2.2.1, σ.2.2.2)
def sa (σ : St) (k i : Nat) (v : Int32) : St := (σ.1, σ.2.1, va_up σ.2.2.1 k (upd (σ.2.2.1 k) i v), σ.2.2.2)
def sb (σ : St) (k i : Nat) (v : Int64) : St := (σ.1, σ.2.1, σ.2.2.1, va_up σ.2.2.2 k (vp_updL (σ.2.2.2 k) i v))
def bd {α β : Type} (x : Option α) (f : α → Option β) : Option β := match x with
  | some a => f a
  | none => none
theorem nn_s {α : Type} {b : α} {P : Prop} (h : (none : Option α) = some b) : P := by cases h
theorem bd_s {α β : Type} {x : Option α} {f : α → Option β} {o : β} (h : bd x f = some o) : ∃ a, x = some a ∧ f a = some o := by
  cases x with
  | none => cases h
  | some a => exact ⟨a, rfl, h⟩
def gd {β : Type} (c : Prop) [Decidable c] (x : Option β) : Option β := if c then x else none
theorem gd_s {β : Type} {c : Prop} [Decidable c] {x : Option β} {o : β} (h : gd c x = some o) : c ∧ x = some o := by
  unfold gd at h
  by_cases hc : c
  · rw [if_pos hc] at h; exact ⟨hc, h⟩
  · rw [if_neg hc] at h; cases h
theorem it_p {β : Type} {c : Prop} [Decidable c] {a b : Option β} {o : Option β} (h : (if c then a else b) = o) (hc : c) : a = o := by rw [if_pos hc] at h; exact h
theorem it_n {β : Type} {c : Prop} [Decidable c] {a b : Option β} {o : Option β} (h : (if c then a else b) = o) (hc : ¬ c) : b = o := by rw [if_neg hc] at h; exact h
def nm {α β : Type} (a : α) (f : α → β) : β := f a
theorem nm_s {α β : Type} {a : α} {f : α → Option β} {o : β} (h : nm a f = some o) (x : α) (hx : x = a) : f x = some o := by subst hx; exact h
abbrev inb (i : Int32) (n : Nat) : Prop := 0 ≤ i.toInt ∧ i.toInt < (n : Int)
theorem inb_in {i : Int32} {n : Nat} (h : inb i n) : vp_in i n := vp_in_iff.mpr h
abbrev isb (v : Int32) : Prop := v = 0 ∨ v = 1
theorem isb_n {v : Int32} (h : isb v) : narrow .boolean (.int v) = .int v := by rcases h with rfl | rfl <;> rfl
theorem isb_f {v : Int32} (h : isb v) : fits .boolean (.int v) = true := by rcases h with rfl | rfl <;> rfl
theorem isb_r {v : Int32} (h : isb v) : vp_nar .boolean v = v := by rcases h with rfl | rfl <;> rfl
abbrev rmm (d : Nat) : Room := { frames := d, cells := 0, slots := 0, locals := 50 * d }
theorem lawGood : ∀ w ∈ wsL_law, goodWord w = true := by
  intro w h
  have h1 : wsL_law.all goodWord = true := by decide +kernel
  exact List.all_eq_true.mp h1 w h
/-! the frame that every method's walk stands in: the machine, the words, the classes, the cells that may change -/
def EOK (E : (Nat → Prop) → State → Prop) : Prop := (∀ (A B : Nat → Prop) (s U : State), E A s → (∀ q, B q → A q) → s.heap.size ≤ U.heap.size → (∀ a : Nat, a < s.heap.size → ¬ A a → U.heap[a]? = s.heap[a]?) → s.WarmedH U.vm → E B U) ∧ ∀ (A : Nat → Prop) (U : State) (g : JFrame) (mk : MethodId) (a : Array Value), E A U → E A (U.calling g mk a)
def Cx (p : Program) (R : Room) (s : State) (m : MethodId) (args : Array Value) (c : Code) (cc : ByteArray) (nL rd : Nat) (own : String) (D : va_G) (tys : List (ClassId × FieldType)) (w : St → va_W) (E : (Nat → Prop) → State → Prop) (A : Nat → Prop) : Prop :=
  p.tables.exec = Jvm.exec ∧ c.code = cc ∧ c.maxLocals = nL ∧ s.vm.findClass own = some m.cls ∧ (∀ x ∈ wsL_law, x.before args s = true) ∧ va_K D vwCl tys s ∧ (∀ σ, va_D A (w σ)) ∧ (∀ q, s.heap.size ≤ q → A q) ∧ E A s ∧ rd ≤ R.frames ∧ 50 * rd ≤ R.locals
def Pw (D : va_G) (w : St → va_W) (A : Nat → Prop) (H0 H : Heap) (locs : List Loc) (σ : St) : Prop := va_P D vwCl (w σ) H ∧ va_S A H0 H locs
def Pcw (D : va_G) (tys : List (ClassId × FieldType)) (w : St → va_W) (E : (Nat → Prop) → State → Prop) (av : List Value) (σ : St) (sz : Nat) : Array Value → State → Prop :=
  va_Pc av (fun U => U.heap.size = sz ∧ va_P D vwCl (w σ) U.heap ∧ va_K D vwCl tys U ∧ va_D (fun _ => True) (w σ) ∧ E (va_A (w σ) sz) U)
abbrev Bw (D : va_G) (w : St → va_W) : St → State → Prop := fun u t => va_P D vwCl (w u) t.heap
def MetI (l : Launch) (y : MethodName) (b : ByteArray) (nL : Nat) (ret : Option FieldType) (rd : Nat) (D : va_G) (tys : List (ClassId × FieldType)) (w : St → va_W) (E : (Nat → Prop) → State → Prop) (av : List Value) (σ : St) (r : Int32) (σ' : St) : Prop :=
  ∀ sz : Nat, Met l y (.code y b nL ret :: wsL_law) (rmm rd) (Pcw D tys w E av σ sz) (va_Qi (fun r' u => r' = r ∧ u = σ') (Bw D w) (va_A (w σ) sz)) 0 0 (va_A (w σ) sz)
def MetL (l : Launch) (y : MethodName) (b : ByteArray) (nL : Nat) (ret : Option FieldType) (rd : Nat) (D : va_G) (tys : List (ClassId × FieldType)) (w : St → va_W) (E : (Nat → Prop) → State → Prop) (av : List Value) (σ : St) (r : Int64) (σ' : St) : Prop :=
  ∀ sz : Nat, Met l y (.code y b nL ret :: wsL_law) (rmm rd) (Pcw D tys w E av σ sz) (va_Ql (fun r' u => r' = r ∧ u = σ') (Bw D w) (va_A (w σ) sz)) 0 0 (va_A (w σ) sz)
def MetV (l : Launch) (y : MethodName) (b : ByteArray) (nL : Nat) (ret : Option FieldType) (rd : Nat) (D : va_G) (tys : List (ClassId × FieldType)) (w : St → va_W) (E : (Nat → Prop) → State → Prop) (av : List Value) (σ : St) (σ' : St) : Prop :=
  ∀ sz : Nat, Met l y (.code y b nL ret :: wsL_law) (rmm rd) (Pcw D tys w E av σ sz) (va_Qv (fun u => u = σ') (Bw D w) (va_A (w σ) sz)) 0 0 (va_A (w σ) sz)
/-- the addresses of a world don't hang on its state -/
def Adr (w : St → va_W) : Prop := ∀ σ σ' : St, (w σ).map Prod.fst = (w σ').map Prod.fst
theorem Adr.at {w : St → va_W} (h : Adr w) (σ σ' : St) {k : Nat} {q : Nat × va_E} (hk : (w σ)[k]? = some q) : ∃ e, (w σ')[k]? = some (q.1, e) := by
  have h1 : ((w σ).map Prod.fst)[k]? = some q.1 := by rw [List.getElem?_map, hk]; rfl
  rw [h σ σ', List.getElem?_map] at h1
  cases h2 : (w σ')[k]? with
  | none => rw [h2] at h1; cases h1
  | some z => rw [h2] at h1; obtain ⟨a, b⟩ := z; cases h1; exact ⟨b, rfl⟩
theorem Adr.D {w : St → va_W} (h : Adr w) {A : Nat → Prop} {σ : St} (hD : va_D A (w σ)) (σ' : St) : va_D A (w σ') := by
  refine ⟨fun i j p q hi hj e => ?_, fun k q hk => ?_⟩
  · obtain ⟨e1, h1⟩ := h.at σ' σ hi
    obtain ⟨e2, h2⟩ := h.at σ' σ hj
    exact hD.1 i j _ _ h1 h2 e
  · obtain ⟨e1, h1⟩ := h.at σ' σ hk
    exact hD.2 k (q.1, e1) h1
section BASE
variable {p : Program} {l : Launch} {e : Env} {R : Room} {s : State} {m : MethodId} {args : Array Value} {below : List Frame} {meth : Method} {c : Code} {H : Heap} {locs : List Loc} {Q : State → Prop} {cc : ByteArray} {nL rd : Nat} {own : String} {D : va_G} {tys : List (ClassId × FieldType)} {w : St → va_W} {E : (Nat → Prop) → State → Prop} {A : Nat → Prop} {y : MethodName} {bytes : ByteArray} {maxL d : Nat} {ret : Option FieldType} {av As rest st : List Value} {σ σ' : St} {pc index : Nat} {ls : Array Slot}
theorem Pw.free (X : Cx p R s m args c cc nL rd own D tys w E A) (hp : Pw D w A s.heap H locs σ) : ∀ q, va_A (w σ) H.size q → A q := by
  obtain ⟨-, -, -, -, -, -, hD, hA, -⟩ := X
  intro q h
  rcases h with ⟨k, e, h⟩ | h
  · exact (hD σ).2 k (q, e) h
  · exact hA q (Nat.le_trans hp.2.1 h)
theorem Pw.env (X : Cx p R s m args c cc nL rd own D tys w E A) (hE : EOK E) (hp : Pw D w A s.heap H locs σ) {U : State} (hU : U.heap = H) (hW : s.WarmedH U.vm) : E (va_A (w σ) H.size) U := by
  have hf := hp.free X
  obtain ⟨-, -, -, -, -, -, -, -, hEs, -⟩ := X
  exact hE.1 A _ s U hEs hf (by rw [hU]; exact hp.2.1) (fun a h1 h2 => by rw [hU]; exact hp.2.2.1 a h1 h2) hW
theorem Pcw.blind (hE : EOK E) (av : List Value) (σ : St) (sz : Nat) : FrameBlind (Pcw D tys w E av σ sz) := by
  intro a U g mk q
  obtain ⟨q0, q1, qP, qK, qD, qE⟩ := q
  exact ⟨q0, q1, qP, va_K.moved (u := U) (U := U.calling g mk a) (Vm.Alike.refl U.vm) qK, qD, hE.2 _ _ _ _ _ qE⟩
theorem Pw.pre (X : Cx p R s m args c cc nL rd own D tys w E A) (hE : EOK E) (hp : Pw D w A s.heap H locs σ) (av : List Value) : ∀ U : State, U.heap = H → s.WarmedH U.vm → Pcw D tys w E av σ H.size av.toArray U := by
  intro U hU hW
  have hv := hp.env X hE hU hW
  obtain ⟨-, -, -, -, -, hK, hD, -⟩ := X
  exact ⟨rfl, by rw [hU], by rw [hU]; exact hp.1, va_K.moved hW.alike hK, (hD σ).weaken (fun _ _ _ _ => trivial), hv⟩
/-- the words of a method that is called by invokevirtual -/
def mwV (y : MethodName) (bytes : ByteArray) (maxL : Nat) (ret : Option FieldType) (n : Nat) : Prop := Cond.instanceMethod y ∈ wsL_law ∧ Cond.selects y.cls y y ∈ wsL_law ∧ Cond.initialized y.cls ∈ wsL_law ∧ Cond.code y bytes maxL ret ∈ wsL_law ∧ (y.cls ≠ "java/lang/invoke/MethodHandle" ∧ y.cls ≠ "java/lang/invoke/VarHandle" ∧ (parseMethodDescriptor y.desc).map (fun d => d.parameters.length) = some n) ∧ maxL ≤ 31
def mwS (y : MethodName) (bytes : ByteArray) (maxL : Nat) (ret : Option FieldType) (n : Nat) : Prop := Cond.static y ∈ wsL_law ∧ Cond.initialized y.cls ∈ wsL_law ∧ Cond.code y bytes maxL ret ∈ wsL_law ∧ (y.cls ≠ "java/lang/invoke/MethodHandle" ∧ y.cls ≠ "java/lang/invoke/VarHandle" ∧ (parseMethodDescriptor y.desc).map (fun d => d.parameters.length) = some n) ∧ maxL ≤ 31
theorem goodCode (h : Cond.code y bytes maxL ret ∈ wsL_law) : GoodIn wsL_law (.code y bytes maxL ret :: wsL_law) := by
  intro w hw
  have h1 : w ∈ wsL_law := (List.mem_cons.mp hw).elim (fun e => by rw [e]; exact h) id
  exact ⟨h1, good_of_word (lawGood w h1)⟩
theorem cwv {n : Nat} (X : Cx p R s m args c cc nL rd own D tys w E A) (hl : Cond.methodLink own index y ∈ wsL_law) (hm : mwV y bytes maxL ret n) (hd : d < rd) : CallW R s args own y.cls index y bytes maxL ret (.code y bytes maxL ret :: wsL_law) (rmm d) 0 0 n := by
  obtain ⟨-, -, -, -, hts, -, -, -, -, hf, hlo⟩ := X
  obtain ⟨h1, h2, h3, h4, h5, h6⟩ := hm
  exact ⟨callB_of n hts (goodCode h4) rfl rfl rfl (hts _ h3) (hts _ hl) h5 ⟨Nat.le_trans hd hf, by show 8 + (maxL + 11) + 50 * d ≤ R.locals; omega⟩, hts _ h1, hts _ h2⟩
theorem cws {n : Nat} (X : Cx p R s m args c cc nL rd own D tys w E A) (hl : Cond.methodLink own index y ∈ wsL_law) (hm : mwS y bytes maxL ret n) (hd : d < rd) : CallB R s args own index y bytes maxL ret (.code y bytes maxL ret :: wsL_law) (rmm d) 0 0 n ∧ (Cond.static y).before args s = true := by
  obtain ⟨-, -, -, -, hts, -, -, -, -, hf, hlo⟩ := X
  obtain ⟨h1, h3, h4, h5, h6⟩ := hm
  exact ⟨callB_of n hts (goodCode h4) rfl rfl rfl (hts _ h3) (hts _ hl) h5 ⟨Nat.le_trans hd hf, by show 8 + (maxL + 11) + 50 * d ≤ R.locals; omega⟩, hts _ h1⟩
theorem Cx.fix (X : Cx p R s m args c cc nL rd own D tys w E A) : CallFix p m c cc nL s args wsL_law own := ⟨X.1, X.2.1, X.2.2.1, X.2.2.2.1, X.2.2.2.2.1⟩
theorem hcells (R : Room) : 0 + 0 ≤ R.cells ∧ 0 + 0 ≤ R.slots := ⟨Nat.zero_le _, Nat.zero_le _⟩
theorem cl_Vi {b : Addr} {r : Int32} {ci : Nat} {q : vw_C} {fs : List Value} (X : Cx p R s m args c cc nL rd own D tys w E A) (hE : EOK E) (hM : MetI l y bytes maxL ret d D tys w E (.ref b :: As) σ r σ') (hl : Cond.methodLink own index y ∈ wsL_law) (hm : mwV y bytes maxL ret As.length) (hd : d < rd) (hp : Pw D w A s.heap H locs σ)
    (q0 : Nat) (he : (w σ)[q0]? = some (b, .inr (ci, fs))) (hc : vwCl[ci]? = some q) (hq : q.1 = y.cls) (hsz : ls.size = nL) (hst : st = As.reverse ++ .ref b :: rest) (hr : (rest.map fun v => v.category).sum ≤ 8) (hdg : decode cc pc = .ok (.invokevirtual index, 3))
    (kk : ∀ (H : Heap) (locs : List Loc), Pw D w A s.heap H locs σ' → W p l e R s m args below meth c H locs 0 0 Q (F0 m (pc + 3) ls (.int r :: rest))) : W p l e R s m args below meth c H locs 0 0 Q (F0 m pc ls st) := by
  have hf := hp.free X
  subst hst
  refine va_calli (va_runV X.fix (hM H.size) (cwv X hl hm hd) ⟨Pcw.blind hE _ _ _, ?_, hp.pre X hE _⟩ rfl rfl hsz rfl (lv_room hr) hdg (hcells R)) hp.2 (fun q _ h => hf q h) hf (fun r1 u t H1 locs1 ht hvm hw hB hz1 hk1 hS1 => ?_)
  · rw [← hq]; exact va_recv X.2.2.2.2.2.1 hp.1 hc he
  · obtain ⟨rfl, rfl⟩ := hw
    subst ht
    exact kk _ _ ⟨hB, hS1⟩
theorem cl_Vl {b : Addr} {r : Int64} {ci : Nat} {q : vw_C} {fs : List Value} (X : Cx p R s m args c cc nL rd own D tys w E A) (hE : EOK E) (hM : MetL l y bytes maxL ret d D tys w E (.ref b :: As) σ r σ') (hl : Cond.methodLink own index y ∈ wsL_law) (hm : mwV y bytes maxL ret As.length) (hd : d < rd) (hp : Pw D w A s.heap H locs σ)
    (q0 : Nat) (he : (w σ)[q0]? = some (b, .inr (ci, fs))) (hc : vwCl[ci]? = some q) (hq : q.1 = y.cls) (hsz : ls.size = nL) (hst : st = As.reverse ++ .ref b :: rest) (hr : (rest.map fun v => v.category).sum ≤ 8) (hdg : decode cc pc = .ok (.invokevirtual index, 3))
    (kk : ∀ (H : Heap) (locs : List Loc), Pw D w A s.heap H locs σ' → W p l e R s m args below meth c H locs 0 0 Q (F0 m (pc + 3) ls (.long r :: rest))) : W p l e R s m args below meth c H locs 0 0 Q (F0 m pc ls st) := by
  have hf := hp.free X
  subst hst
  refine va_calll (va_runV X.fix (hM H.size) (cwv X hl hm hd) ⟨Pcw.blind hE _ _ _, ?_, hp.pre X hE _⟩ rfl rfl hsz rfl (lv_room hr) hdg (hcells R)) hp.2 (fun q _ h => hf q h) hf (fun r1 u t H1 locs1 ht hvm hw hB hz1 hk1 hS1 => ?_)
  · rw [← hq]; exact va_recv X.2.2.2.2.2.1 hp.1 hc he
  · obtain ⟨rfl, rfl⟩ := hw
    subst ht
    exact kk _ _ ⟨hB, hS1⟩
theorem cl_Vv {b : Addr} {ci : Nat} {q : vw_C} {fs : List Value} (X : Cx p R s m args c cc nL rd own D tys w E A) (hE : EOK E) (hM : MetV l y bytes maxL ret d D tys w E (.ref b :: As) σ σ') (hl : Cond.methodLink own index y ∈ wsL_law) (hm : mwV y bytes maxL ret As.length) (hd : d < rd) (hp : Pw D w A s.heap H locs σ)
    (q0 : Nat) (he : (w σ)[q0]? = some (b, .inr (ci, fs))) (hc : vwCl[ci]? = some q) (hq : q.1 = y.cls) (hsz : ls.size = nL) (hst : st = As.reverse ++ .ref b :: rest) (hr : (rest.map fun v => v.category).sum ≤ 8) (hdg : decode cc pc = .ok (.invokevirtual index, 3))
    (kk : ∀ (H : Heap) (locs : List Loc), Pw D w A s.heap H locs σ' → W p l e R s m args below meth c H locs 0 0 Q (F0 m (pc + 3) ls rest)) : W p l e R s m args below meth c H locs 0 0 Q (F0 m pc ls st) := by
  have hf := hp.free X
  subst hst
  refine va_callv (va_runV X.fix (hM H.size) (cwv X hl hm hd) ⟨Pcw.blind hE _ _ _, ?_, hp.pre X hE _⟩ rfl rfl hsz rfl (lv_room hr) hdg (hcells R)) hp.2 (fun q _ h => hf q h) hf (fun u t H1 locs1 ht hvm hw hB hz1 hk1 hS1 => ?_)
  · rw [← hq]; exact va_recv X.2.2.2.2.2.1 hp.1 hc he
  · subst hw
    subst ht
    exact kk _ _ ⟨hB, hS1⟩
theorem cl_Si {r : Int32} (X : Cx p R s m args c cc nL rd own D tys w E A) (hE : EOK E) (hM : MetI l y bytes maxL ret d D tys w E As σ r σ') (hl : Cond.methodLink own index y ∈ wsL_law) (hm : mwS y bytes maxL ret As.length) (hd : d < rd) (hp : Pw D w A s.heap H locs σ)
    (hsz : ls.size = nL) (hst : st = As.reverse ++ rest) (hr : (rest.map fun v => v.category).sum ≤ 8) (hdg : decode cc pc = .ok (.invokestatic index, 3))
    (kk : ∀ (H : Heap) (locs : List Loc), Pw D w A s.heap H locs σ' → W p l e R s m args below meth c H locs 0 0 Q (F0 m (pc + 3) ls (.int r :: rest))) : W p l e R s m args below meth c H locs 0 0 Q (F0 m pc ls st) := by
  have hf := hp.free X
  subst hst
  refine va_calli (va_runS X.fix (hM H.size) (cws X hl hm hd) ⟨Pcw.blind hE _ _ _, hp.pre X hE _⟩ rfl rfl hsz rfl (lv_room hr) hdg (hcells R)) hp.2 (fun q _ h => hf q h) hf (fun r1 u t H1 locs1 ht hvm hw hB hz1 hk1 hS1 => ?_)
  obtain ⟨rfl, rfl⟩ := hw
  subst ht
  exact kk _ _ ⟨hB, hS1⟩
theorem cl_Sl {r : Int64} (X : Cx p R s m args c cc nL rd own D tys w E A) (hE : EOK E) (hM : MetL l y bytes maxL ret d D tys w E As σ r σ') (hl : Cond.methodLink own index y ∈ wsL_law) (hm : mwS y bytes maxL ret As.length) (hd : d < rd) (hp : Pw D w A s.heap H locs σ)
    (hsz : ls.size = nL) (hst : st = As.reverse ++ rest) (hr : (rest.map fun v => v.category).sum ≤ 8) (hdg : decode cc pc = .ok (.invokestatic index, 3))
    (kk : ∀ (H : Heap) (locs : List Loc), Pw D w A s.heap H locs σ' → W p l e R s m args below meth c H locs 0 0 Q (F0 m (pc + 3) ls (.long r :: rest))) : W p l e R s m args below meth c H locs 0 0 Q (F0 m pc ls st) := by
  have hf := hp.free X
  subst hst
  refine va_calll (va_runS X.fix (hM H.size) (cws X hl hm hd) ⟨Pcw.blind hE _ _ _, hp.pre X hE _⟩ rfl rfl hsz rfl (lv_room hr) hdg (hcells R)) hp.2 (fun q _ h => hf q h) hf (fun r1 u t H1 locs1 ht hvm hw hB hz1 hk1 hS1 => ?_)
  obtain ⟨rfl, rfl⟩ := hw
  subst ht
  exact kk _ _ ⟨hB, hS1⟩
theorem cl_Sv (X : Cx p R s m args c cc nL rd own D tys w E A) (hE : EOK E) (hM : MetV l y bytes maxL ret d D tys w E As σ σ') (hl : Cond.methodLink own index y ∈ wsL_law) (hm : mwS y bytes maxL ret As.length) (hd : d < rd) (hp : Pw D w A s.heap H locs σ)
    (hsz : ls.size = nL) (hst : st = As.reverse ++ rest) (hr : (rest.map fun v => v.category).sum ≤ 8) (hdg : decode cc pc = .ok (.invokestatic index, 3))
    (kk : ∀ (H : Heap) (locs : List Loc), Pw D w A s.heap H locs σ' → W p l e R s m args below meth c H locs 0 0 Q (F0 m (pc + 3) ls rest)) : W p l e R s m args below meth c H locs 0 0 Q (F0 m pc ls st) := by
  have hf := hp.free X
  subst hst
  refine va_callv (va_runS X.fix (hM H.size) (cws X hl hm hd) ⟨Pcw.blind hE _ _ _, hp.pre X hE _⟩ rfl rfl hsz rfl (lv_room hr) hdg (hcells R)) hp.2 (fun q _ h => hf q h) hf (fun u t H1 locs1 ht hvm hw hB hz1 hk1 hS1 => ?_)
  subst hw
  subst ht
  exact kk _ _ ⟨hB, hS1⟩
/-! a method's start: the machine at its entry, and what its end must show -/
theorem mkI {r : Int32} (hy : plainName y.cls = true) (hw : Adr w) (hret : ret = some .int ∨ ret = some .boolean) (hvs : (lg_sl av).length ≤ maxL)
    (body : ∀ (p : Program) (e : Env) (R : Room) (s : State) (m : MethodId) (args : Array Value) (below : List Frame) (meth : Method) (c : Code) (A : Nat → Prop) (Q : State → Prop) (ls : Array Slot), Cx p R s m args c bytes maxL rd y.cls D tys w E A → (∀ (pc : Nat) (H : Heap) (locs : List Loc) (ls : Array Slot) (v : Int32) (σ1 : St), decode bytes pc = .ok (.ireturn, 1) → Pw D w A s.heap H locs σ1 → v = r → σ1 = σ' → (ret = some .boolean → isb v) → W p l e R s m args below meth c H locs 0 0 Q (F0 m pc ls [.int v])) →
      Pw D w A s.heap s.heap [] σ → lv_has ls maxL (lv_args 0 av) → W p l e R s m args below meth c s.heap [] 0 0 Q (F0 m 0 ls [])) : MetI l y bytes maxL ret rd D tys w E av σ r σ' := by
  intro sz
  refine Met.ofW (cc := bytes) (maxL := maxL) (ret := ret) hy rfl ?_
  intro p e s m args below meth c s₁ B hml hv
  obtain ⟨rfl, hsz, hP, hK, hD0, hE⟩ := hv
  have hx := B.exec
  have hb := B.bytes
  have hr := B.returns
  have hts := atoms_spec (ws := .code y bytes maxL ret :: wsL_law) B.pre
  have hown : s.vm.findClass y.cls = some m.cls := findClass_of_methodNamed B.named
  have hlocks := B.notSynchronized
  subst hsz
  have hD := hD0.self (sz := s.heap.size)
  have hA : ∀ q : Nat, s.heap.size ≤ q → va_A (w σ) s.heap.size q := fun q h => Or.inr h
  have hl := lv_entry av (n := maxL) hvs
  rw [lg_entry_eq]
  generalize (lg_sl av ++ List.replicate (maxL - (lg_sl av).length) Slot.unset).toArray = ls at hl ⊢
  refine body p e (rmm rd) s m av.toArray below meth c (va_A (w σ) s.heap.size) _ ls ⟨hx, hb, hml, hown, fun x h => hts x (List.mem_cons_of_mem _ h), hK, fun σ1 => hw.D hD σ1, hA, hE, Nat.le_refl _, Nat.le_refl _⟩ ?_ ⟨hP, va_S.rf⟩ hl
  intro pc H locs ls v σ1 hdg hp e1 e2 hz
  subst e1; subst e2
  have hq : ∀ t : State, t.heap = H → s.WarmedH t.vm → va_Qi (fun r' u => r' = v ∧ u = σ1) (Bw D w) (va_A (w σ) s.heap.size) av.toArray s (.returned (some (.int v))) t := fun t ht hW => ⟨⟨v, σ1, rfl, ⟨rfl, rfl⟩, by show va_P D vwCl (w σ1) t.heap; rw [ht]; exact hp.1⟩, hp.2.F ht⟩
  rcases hret with hh | hh
  · rw [hh] at hr
    exact W.iret hx hb hr hq hp.2.2.2 hdg
  · rw [hh] at hr
    exact W.zret hx hb hr (isb_n (hz hh)) hq hp.2.2.2 hdg
theorem mkL {r : Int64} (hy : plainName y.cls = true) (hw : Adr w) (hret : ret = some .long) (hvs : (lg_sl av).length ≤ maxL)
    (body : ∀ (p : Program) (e : Env) (R : Room) (s : State) (m : MethodId) (args : Array Value) (below : List Frame) (meth : Method) (c : Code) (A : Nat → Prop) (Q : State → Prop) (ls : Array Slot), Cx p R s m args c bytes maxL rd y.cls D tys w E A → (∀ (pc : Nat) (H : Heap) (locs : List Loc) (ls : Array Slot) (v : Int64) (σ1 : St), decode bytes pc = .ok (.lreturn, 1) → Pw D w A s.heap H locs σ1 → v = r → σ1 = σ' → W p l e R s m args below meth c H locs 0 0 Q (F0 m pc ls [.long v])) →
      Pw D w A s.heap s.heap [] σ → lv_has ls maxL (lv_args 0 av) → W p l e R s m args below meth c s.heap [] 0 0 Q (F0 m 0 ls [])) : MetL l y bytes maxL ret rd D tys w E av σ r σ' := by
  intro sz
  refine Met.ofW (cc := bytes) (maxL := maxL) (ret := ret) hy rfl ?_
  intro p e s m args below meth c s₁ B hml hv
  obtain ⟨rfl, hsz, hP, hK, hD0, hE⟩ := hv
  have hx := B.exec
  have hb := B.bytes
  have hr := B.returns
  have hts := atoms_spec (ws := .code y bytes maxL ret :: wsL_law) B.pre
  have hown : s.vm.findClass y.cls = some m.cls := findClass_of_methodNamed B.named
  have hlocks := B.notSynchronized
  subst hsz
  have hD := hD0.self (sz := s.heap.size)
  have hA : ∀ q : Nat, s.heap.size ≤ q → va_A (w σ) s.heap.size q := fun q h => Or.inr h
  have hl := lv_entry av (n := maxL) hvs
  rw [lg_entry_eq]
  generalize (lg_sl av ++ List.replicate (maxL - (lg_sl av).length) Slot.unset).toArray = ls at hl ⊢
  refine body p e (rmm rd) s m av.toArray below meth c (va_A (w σ) s.heap.size) _ ls ⟨hx, hb, hml, hown, fun x h => hts x (List.mem_cons_of_mem _ h), hK, fun σ1 => hw.D hD σ1, hA, hE, Nat.le_refl _, Nat.le_refl _⟩ ?_ ⟨hP, va_S.rf⟩ hl
  intro pc H locs ls v σ1 hdg hp e1 e2
  subst e1; subst e2
  rw [hret] at hr
  exact W.lret hx hb hr (fun t ht hW => ⟨⟨v, σ1, rfl, ⟨rfl, rfl⟩, by show va_P D vwCl (w σ1) t.heap; rw [ht]; exact hp.1⟩, hp.2.F ht⟩) hp.2.2.2 hdg
theorem mkV (hy : plainName y.cls = true) (hw : Adr w) (hret : ret = none) (hvs : (lg_sl av).length ≤ maxL)
    (body : ∀ (p : Program) (e : Env) (R : Room) (s : State) (m : MethodId) (args : Array Value) (below : List Frame) (meth : Method) (c : Code) (A : Nat → Prop) (Q : State → Prop) (ls : Array Slot), Cx p R s m args c bytes maxL rd y.cls D tys w E A → (∀ (pc : Nat) (H : Heap) (locs : List Loc) (ls : Array Slot) (σ1 : St), decode bytes pc = .ok (.return_, 1) → Pw D w A s.heap H locs σ1 → σ1 = σ' → W p l e R s m args below meth c H locs 0 0 Q (F0 m pc ls [])) →
      Pw D w A s.heap s.heap [] σ → lv_has ls maxL (lv_args 0 av) → W p l e R s m args below meth c s.heap [] 0 0 Q (F0 m 0 ls [])) : MetV l y bytes maxL ret rd D tys w E av σ σ' := by
  intro sz
  refine Met.ofW (cc := bytes) (maxL := maxL) (ret := ret) hy rfl ?_
  intro p e s m args below meth c s₁ B hml hv
  obtain ⟨rfl, hsz, hP, hK, hD0, hE⟩ := hv
  have hx := B.exec
  have hb := B.bytes
  have hr := B.returns
  have hts := atoms_spec (ws := .code y bytes maxL ret :: wsL_law) B.pre
  have hown : s.vm.findClass y.cls = some m.cls := findClass_of_methodNamed B.named
  have hlocks := B.notSynchronized
  subst hsz
  have hD := hD0.self (sz := s.heap.size)
  have hA : ∀ q : Nat, s.heap.size ≤ q → va_A (w σ) s.heap.size q := fun q h => Or.inr h
  have hl := lv_entry av (n := maxL) hvs
  rw [lg_entry_eq]
  generalize (lg_sl av ++ List.replicate (maxL - (lg_sl av).length) Slot.unset).toArray = ls at hl ⊢
  refine body p e (rmm rd) s m av.toArray below meth c (va_A (w σ) s.heap.size) _ ls ⟨hx, hb, hml, hown, fun x h => hts x (List.mem_cons_of_mem _ h), hK, fun σ1 => hw.D hD σ1, hA, hE, Nat.le_refl _, Nat.le_refl _⟩ ?_ ⟨hP, va_S.rf⟩ hl
  intro pc H locs ls σ1 hdg hp e2
  subst e2
  rw [hret] at hr
  exact W.vret hx hb hr (fun t ht hW => ⟨⟨σ1, rfl, rfl, by show va_P D vwCl (w σ1) t.heap; rw [ht]; exact hp.1⟩, hp.2.F ht⟩) hp.2.2.2 hdg
/-! fields and rows of a world -/
theorem gf {a q0 ci N k : Nat} {fs : List Value} {C ref : String} {T : u_T} {v : Value} (X : Cx p R s m args c cc nL rd own D tys w E A) (hp : Pw D w A s.heap H locs σ) (he : (w σ)[q0]? = some (a, .inr (ci, fs))) (hc : vwCl[ci]? = some (C, T, N)) (hk : k < N) (hv : fs[k]? = some v) (hin : ∀ x ∈ u_ws C T N, x ∈ wsL_law) (hl : Cond.fieldLink own index ref (T k).2.1 (T k).2.2.1 ∈ wsL_law) (hs : (T k).1 = ref) (hdg : decode cc pc = .ok (.getfield index, 3))
    (kk : W p l e R s m args below meth c H locs 0 0 Q (F0 m (pc + 3) ls (v :: rest))) : W p l e R s m args below meth c H locs 0 0 Q (F0 m pc ls (.ref a :: rest)) :=
  va_get X.1 X.2.1 X.2.2.2.2.1 hin X.2.2.2.1 X.2.2.2.2.2.1 hp.1 q0 he hc k hk (X.2.2.2.2.1 _ hl) (fun x h => by rw [← hs]; exact h) hv hdg kk
theorem pf {a q0 ci N k : Nat} {fs : List Value} {C ref : String} {T : u_T} {ty0 : Nat → FieldType} {ty : FieldType} {v : Value} (X : Cx p R s m args c cc nL rd own D tys w E A) (hp : Pw D w A s.heap H locs σ) (he : (w σ)[q0]? = some (a, .inr (ci, fs))) (hc : vwCl[ci]? = some (C, T, N)) (hk : k < N) (hlen : k < fs.length) (hin : ∀ x ∈ u_ws C T N, x ∈ wsL_law) (hty : ∀ k, k < N → parseFieldDescriptor (T k).2.2.1 = some (ty0 k)) (hnm : ∀ a, a < N → ∀ b, b < N → a ≠ b → (T a).2.1 ≠ (T b).2.1) (hl : Cond.fieldLink own index ref (T k).2.1 (T k).2.2.1 ∈ wsL_law) (hs : (T k).1 = ref) (hfin : (T k).2.2.2 = false) (hd : parseFieldDescriptor (T k).2.2.1 = some ty) (hn : narrow ty v = v) (hfit : fits ty v = true) (hdg : decode cc pc = .ok (.putfield index, 3)) (hset : (w σ).set q0 (a, .inr (ci, fs.set k v)) = w σ')
    (kk : ∀ (H : Heap) (locs : List Loc), Pw D w A s.heap H locs σ' → W p l e R s m args below meth c H locs 0 0 Q (F0 m (pc + 3) ls rest)) : W p l e R s m args below meth c H locs 0 0 Q (F0 m pc ls (v :: .ref a :: rest)) := by
  refine va_put X.1 X.2.1 X.2.2.2.2.1 hin ty0 hty hnm X.2.2.2.1 X.2.2.2.2.2.1 hp.1 (X.2.2.2.2.2.2.1 σ) hp.2 q0 he hc k hk (X.2.2.2.2.1 _ hl) (fun x h => by rw [← hs]; exact h) hfin hd hn hfit hlen hdg (fun H1 locs1 hP1 hD1 hS1 => ?_)
  rw [hset] at hP1
  exact kk _ _ ⟨hP1, hS1⟩
theorem ldI {a q0 t0 n : Nat} {cA : ClassId} {f : Nat → Int32} {i : Int32} (X : Cx p R s m args c cc nL rd own D tys w E A) (hp : Pw D w A s.heap H locs σ) (he : (w σ)[q0]? = some (a, .inl (cA, n, .inl f))) (ht : tys[t0]? = some (cA, .int)) (hin : inb i n) (hdg : decode cc pc = .ok (.iaload, 1))
    (kk : W p l e R s m args below meth c H locs 0 0 Q (F0 m (pc + 1) ls (.int (f i.toNatClampNeg) :: rest))) : W p l e R s m args below meth c H locs 0 0 Q (F0 m pc ls (.int i :: .ref a :: rest)) :=
  va_iald X.1 X.2.1 X.2.2.2.2.2.1 hp.1 q0 t0 he ht (inb_in hin) hdg kk
theorem ldZ {a q0 t0 n : Nat} {cA : ClassId} {f : Nat → Int32} {i : Int32} (X : Cx p R s m args c cc nL rd own D tys w E A) (hp : Pw D w A s.heap H locs σ) (he : (w σ)[q0]? = some (a, .inl (cA, n, .inl f))) (ht : tys[t0]? = some (cA, .boolean)) (hin : inb i n) (hdg : decode cc pc = .ok (.baload, 1))
    (kk : W p l e R s m args below meth c H locs 0 0 Q (F0 m (pc + 1) ls (.int (f i.toNatClampNeg) :: rest))) : W p l e R s m args below meth c H locs 0 0 Q (F0 m pc ls (.int i :: .ref a :: rest)) :=
  va_zald X.1 X.2.1 X.2.2.2.2.2.1 hp.1 q0 t0 he ht (inb_in hin) hdg kk
theorem ldL {a q0 t0 n : Nat} {cA : ClassId} {f : Nat → Int64} {i : Int32} (X : Cx p R s m args c cc nL rd own D tys w E A) (hp : Pw D w A s.heap H locs σ) (he : (w σ)[q0]? = some (a, .inl (cA, n, .inr (.inl f)))) (ht : tys[t0]? = some (cA, .long)) (hin : inb i n) (hdg : decode cc pc = .ok (.laload, 1))
    (kk : W p l e R s m args below meth c H locs 0 0 Q (F0 m (pc + 1) ls (.long (f i.toNatClampNeg) :: rest))) : W p l e R s m args below meth c H locs 0 0 Q (F0 m pc ls (.int i :: .ref a :: rest)) :=
  va_lald X.1 X.2.1 X.2.2.2.2.2.1 hp.1 q0 t0 he ht (inb_in hin) hdg kk
theorem stI {a q0 t0 n : Nat} {cA : ClassId} {f : Nat → Int32} {i x : Int32} (X : Cx p R s m args c cc nL rd own D tys w E A) (hp : Pw D w A s.heap H locs σ) (he : (w σ)[q0]? = some (a, .inl (cA, n, .inl f))) (ht : tys[t0]? = some (cA, .int)) (hin : inb i n) (hdg : decode cc pc = .ok (.iastore, 1)) (hset : (w σ).set q0 (a, .inl (cA, n, .inl (upd f i.toNatClampNeg x))) = w σ')
    (kk : ∀ (H : Heap) (locs : List Loc), Pw D w A s.heap H locs σ' → W p l e R s m args below meth c H locs 0 0 Q (F0 m (pc + 1) ls rest)) : W p l e R s m args below meth c H locs 0 0 Q (F0 m pc ls (.int x :: .int i :: .ref a :: rest)) := by
  refine va_iast X.1 X.2.1 X.2.2.2.2.2.1 hp.1 (X.2.2.2.2.2.2.1 σ) hp.2 q0 t0 he ht (inb_in hin) hdg (fun H1 locs1 hP1 hD1 hS1 => ?_)
  rw [hset] at hP1
  exact kk _ _ ⟨hP1, hS1⟩
theorem stZ {a q0 t0 n : Nat} {cA : ClassId} {f : Nat → Int32} {i x : Int32} (X : Cx p R s m args c cc nL rd own D tys w E A) (hp : Pw D w A s.heap H locs σ) (he : (w σ)[q0]? = some (a, .inl (cA, n, .inl f))) (ht : tys[t0]? = some (cA, .boolean)) (hin : inb i n) (hx : isb x) (hdg : decode cc pc = .ok (.bastore, 1)) (hset : (w σ).set q0 (a, .inl (cA, n, .inl (upd f i.toNatClampNeg x))) = w σ')
    (kk : ∀ (H : Heap) (locs : List Loc), Pw D w A s.heap H locs σ' → W p l e R s m args below meth c H locs 0 0 Q (F0 m (pc + 1) ls rest)) : W p l e R s m args below meth c H locs 0 0 Q (F0 m pc ls (.int x :: .int i :: .ref a :: rest)) := by
  refine va_zast X.1 X.2.1 X.2.2.2.2.2.1 hp.1 (X.2.2.2.2.2.2.1 σ) hp.2 q0 t0 he ht (inb_in hin) hdg (fun H1 locs1 hP1 hD1 hS1 => ?_)
  rw [isb_r hx, hset] at hP1
  exact kk _ _ ⟨hP1, hS1⟩
theorem stL {a q0 t0 n : Nat} {cA : ClassId} {f : Nat → Int64} {i : Int32} {x : Int64} (X : Cx p R s m args c cc nL rd own D tys w E A) (hp : Pw D w A s.heap H locs σ) (he : (w σ)[q0]? = some (a, .inl (cA, n, .inr (.inl f)))) (ht : tys[t0]? = some (cA, .long)) (hin : inb i n) (hdg : decode cc pc = .ok (.lastore, 1)) (hset : (w σ).set q0 (a, .inl (cA, n, .inr (.inl (vp_updL f i.toNatClampNeg x)))) = w σ')
    (kk : ∀ (H : Heap) (locs : List Loc), Pw D w A s.heap H locs σ' → W p l e R s m args below meth c H locs 0 0 Q (F0 m (pc + 1) ls rest)) : W p l e R s m args below meth c H locs 0 0 Q (F0 m pc ls (.long x :: .int i :: .ref a :: rest)) := by
  refine va_last X.1 X.2.1 X.2.2.2.2.2.1 hp.1 (X.2.2.2.2.2.2.1 σ) hp.2 q0 t0 he ht (inb_in hin) hdg (fun H1 locs1 hP1 hD1 hS1 => ?_)
  rw [hset] at hP1
  exact kk _ _ ⟨hP1, hS1⟩
end BASE
