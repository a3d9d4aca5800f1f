/-! the law: the class's world, the row 'out' and the reference's world side by side -/
def wA (a bm : Nat → Nat) (cA : Nat → ClassId) (ao : Nat) (σ τ : St) (f : Nat → Int64) : va_W := wO a cA ao σ f ++ wM bm cA τ
theorem P_left {D : va_G} {w1 w2 : va_W} {H : Heap} (h : va_P D vwCl (w1 ++ w2) H) : va_P D vwCl w1 H := fun k q hq => h k q (by rw [List.getElem?_append_left (List.getElem?_eq_some_iff.mp hq).1]; exact hq)
theorem P_right {D : va_G} {w1 w2 : va_W} {H : Heap} (h : va_P D vwCl (w1 ++ w2) H) : va_P D vwCl w2 H := fun k q hq => h (w1.length + k) q (by rw [List.getElem?_append_right (by omega), show w1.length + k - w1.length = k by omega]; exact hq)
theorem D_left {A : Nat → Prop} {w1 w2 : va_W} (h : va_D A (w1 ++ w2)) : va_D A w1 := by
  refine ⟨fun i j p q hi hj e => h.1 i j p q ?_ ?_ e, fun k q hq => h.2 k q ?_⟩
  · rw [List.getElem?_append_left (List.getElem?_eq_some_iff.mp hi).1]; exact hi
  · rw [List.getElem?_append_left (List.getElem?_eq_some_iff.mp hj).1]; exact hj
  · rw [List.getElem?_append_left (List.getElem?_eq_some_iff.mp hq).1]; exact hq
theorem app_right {w1 w2 : va_W} {k : Nat} {q : Nat × va_E} (hq : w2[k]? = some q) : (w1 ++ w2)[w1.length + k]? = some q := by
  rw [List.getElem?_append_right (by omega), show w1.length + k - w1.length = k by omega]; exact hq
theorem D_right {A : Nat → Prop} {w1 w2 : va_W} (h : va_D A (w1 ++ w2)) : va_D A w2 :=
  ⟨fun i j p q hi hj e => by have := h.1 _ _ p q (app_right hi) (app_right hj) e; omega, fun k q hq => h.2 _ q (app_right hq)⟩
theorem D_apart {A : Nat → Prop} {w1 w2 : va_W} (h : va_D A (w1 ++ w2)) : apart w1 w2 := by
  intro i j p q hi hj e
  have hl := (List.getElem?_eq_some_iff.mp hi).1
  have := h.1 i _ p q (by rw [List.getElem?_append_left hl]; exact hi) (app_right hj) e
  omega
theorem apart_symm {w1 w2 : va_W} (h : apart w1 w2) : apart w2 w1 := fun i j p q hi hj e => h j i q p hj hi e.symm
theorem wA_adr {a bm : Nat → Nat} {cA : Nat → ClassId} {ao : Nat} (σ σ' τ τ' : St) (f f' : Nat → Int64) : (wA a bm cA ao σ τ f).map Prod.fst = (wA a bm cA ao σ' τ' f').map Prod.fst := rfl
/-- the frame of the law's walk -/
def LC (p : Program) (R : Room) (s : State) (m : MethodId) (args : Array Value) (c : Code) (b L : Nat) (xs : Nat → Int32) (D : va_G) (a bm : Nat → Nat) (cA : Nat → ClassId) (ao t : Nat) (A : Nat → Prop) : Prop :=
  Cx p R s m args c code 8 40 RL D (tyW cA) (wS a cA) (ES t FX) A ∧ Cx p R s m args c code 8 40 RL D (tyW cA) (wM bm cA) EM A ∧ va_X b L xs s s.heap ∧ b < s.heap.size ∧ ¬ A b ∧ (∀ σ τ f, va_D A (wA a bm cA ao σ τ f))
def PL (D : va_G) (a bm : Nat → Nat) (cA : Nat → ClassId) (ao : Nat) (A : Nat → Prop) (H0 H : Heap) (locs : List Loc) (σ τ : St) (f : Nat → Int64) : Prop := va_P D vwCl (wA a bm cA ao σ τ f) H ∧ va_S A H0 H locs
section LB
variable {p : Program} {l : Launch} {e : Env} {R : Room} {s : State} {m : MethodId} {args : Array Value} {below : List Frame} {meth : Method} {c : Code} {H H1 : Heap} {locs : List Loc} {Q : State → Prop} {D : va_G} {a bm : Nat → Nat} {cA : Nat → ClassId} {t ao b L : Nat} {xs : Nat → Int32} {A : Nat → Prop} {y : MethodName} {bytes : ByteArray} {maxL d : Nat} {ret : Option FieldType} {As rest st : List Value} {σ σ' τ τ' : St} {pc index cells slots : Nat} {ls : Array Slot} {f f' : Nat → Int64} {hh : List (Nat × Nat × Nat × Nat)}
theorem L_ld {i : Int32} (X : LC p R s m args c b L xs D a bm cA ao t A) (hp : PL D a bm cA ao A s.heap H locs σ τ f) (hin : vp_in i L) (hdg : decode code pc = .ok (.iaload, 1))
    (kk : W p l e R s m args below meth c H locs cells slots Q (F0 m (pc + 1) ls (.int (xs i.toNatClampNeg) :: rest))) : W p l e R s m args below meth c H locs cells slots Q (F0 m pc ls (.int i :: .ref b :: rest)) :=
  va_sld X.1.1 X.1.2.1 X.2.2.1 X.2.2.2.1 X.2.2.2.2.1 hp.2 hin hdg kk
theorem L_len (X : LC p R s m args c b L xs D a bm cA ao t A) (hp : PL D a bm cA ao A s.heap H locs σ τ f) (hdg : decode code pc = .ok (.arraylength, 1))
    (kk : W p l e R s m args below meth c H locs cells slots Q (F0 m (pc + 1) ls (.int (Int32.ofNat L) :: rest))) : W p l e R s m args below meth c H locs cells slots Q (F0 m pc ls (.ref b :: rest)) :=
  va_slen X.1.1 X.1.2.1 X.2.2.1 X.2.2.2.1 X.2.2.2.2.1 hp.2 hdg kk
theorem L_out (X : LC p R s m args c b L xs D a bm cA ao t A) (hp : PL D a bm cA ao A s.heap H locs σ τ f) (hdg : decode code pc = .ok (.laload, 1))
    (kk : W p l e R s m args below meth c H locs cells slots Q (F0 m (pc + 1) ls (.long (f 0) :: rest))) : W p l e R s m args below meth c H locs cells slots Q (F0 m pc ls (.int 0 :: .ref ao :: rest)) :=
  va_lald (f := f) X.1.1 X.1.2.1 X.1.2.2.2.2.2.1 hp.1 29 1 rfl rfl (vp_in_iff.mpr (by decide)) hdg kk
theorem L_Mi {v : Int32} {ci : Nat} {q : vw_C} {fs : List Value} (X : LC p R s m args c b L xs D a bm cA ao t A) (hM : MetI l y bytes maxL ret d D (tyW cA) (wM bm cA) EM (.ref (bm 0) :: As) τ v τ') (hl : Cond.methodLink RL index y ∈ wsL_law) (hm : mwV y bytes maxL ret As.length) (hd : d < 40) (hp : PL D a bm cA ao A s.heap H locs σ τ f) (hce : cells ≤ R.cells ∧ slots ≤ R.slots)
    (he : (wM bm cA τ)[0]? = some (bm 0, .inr (ci, fs))) (hc : vwCl[ci]? = some q) (hq : q.1 = y.cls) (hsz : ls.size = 8) (hst : st = As.reverse ++ .ref (bm 0) :: rest) (hr : (rest.map fun v => v.category).sum ≤ 8) (hdg : decode code pc = .ok (.invokevirtual index, 3))
    (kk : ∀ (H : Heap) (locs : List Loc), PL D a bm cA ao A s.heap H locs σ τ' f → W p l e R s m args below meth c H locs cells slots Q (F0 m (pc + 3) ls (.int v :: rest))) : W p l e R s m args below meth c H locs cells slots Q (F0 m pc ls st) :=
  clR_i (r := wO a cA ao σ f) X.2.1 eokM hM hl hm hd ⟨P_right hp.1, hp.2⟩ (P_left hp.1) (apart_symm (D_apart (X.2.2.2.2.2 σ τ f))) hce 0 he hc hq hsz hst hr hdg (fun H locs hp1 hr1 => kk H locs ⟨va_P.app hr1 hp1.1, hp1.2⟩)
theorem L_Ml {v : Int64} {ci : Nat} {q : vw_C} {fs : List Value} (X : LC p R s m args c b L xs D a bm cA ao t A) (hM : MetL l y bytes maxL ret d D (tyW cA) (wM bm cA) EM (.ref (bm 0) :: As) τ v τ') (hl : Cond.methodLink RL index y ∈ wsL_law) (hm : mwV y bytes maxL ret As.length) (hd : d < 40) (hp : PL D a bm cA ao A s.heap H locs σ τ f) (hce : cells ≤ R.cells ∧ slots ≤ R.slots)
    (he : (wM bm cA τ)[0]? = some (bm 0, .inr (ci, fs))) (hc : vwCl[ci]? = some q) (hq : q.1 = y.cls) (hsz : ls.size = 8) (hst : st = As.reverse ++ .ref (bm 0) :: rest) (hr : (rest.map fun v => v.category).sum ≤ 8) (hdg : decode code pc = .ok (.invokevirtual index, 3))
    (kk : ∀ (H : Heap) (locs : List Loc), PL D a bm cA ao A s.heap H locs σ τ' f → W p l e R s m args below meth c H locs cells slots Q (F0 m (pc + 3) ls (.long v :: rest))) : W p l e R s m args below meth c H locs cells slots Q (F0 m pc ls st) :=
  clR_l (r := wO a cA ao σ f) X.2.1 eokM hM hl hm hd ⟨P_right hp.1, hp.2⟩ (P_left hp.1) (apart_symm (D_apart (X.2.2.2.2.2 σ τ f))) hce 0 he hc hq hsz hst hr hdg (fun H locs hp1 hr1 => kk H locs ⟨va_P.app hr1 hp1.1, hp1.2⟩)
theorem wA_assoc {a bm : Nat → Nat} {cA : Nat → ClassId} {ao : Nat} (σ τ : St) (f : Nat → Int64) : wA a bm cA ao σ τ f = wS a cA σ ++ (oc cA ao f ++ wM bm cA τ) := by unfold wA wO; exact List.append_assoc _ _ _
theorem L_Si {v : Int32} {ci : Nat} {q : vw_C} {fs : List Value} (X : LC p R s m args c b L xs D a bm cA ao t A) (hM : MetI l y bytes maxL ret d D (tyW cA) (wS a cA) (ES t FX) (.ref (a 0) :: As) σ v σ') (hl : Cond.methodLink RL index y ∈ wsL_law) (hm : mwV y bytes maxL ret As.length) (hd : d < 40) (hp : PL D a bm cA ao A s.heap H locs σ τ f) (hce : cells ≤ R.cells ∧ slots ≤ R.slots)
    (he : (wS a cA σ)[0]? = some (a 0, .inr (ci, fs))) (hc : vwCl[ci]? = some q) (hq : q.1 = y.cls) (hsz : ls.size = 8) (hst : st = As.reverse ++ .ref (a 0) :: rest) (hr : (rest.map fun v => v.category).sum ≤ 8) (hdg : decode code pc = .ok (.invokevirtual index, 3))
    (kk : ∀ (H : Heap) (locs : List Loc), PL D a bm cA ao A s.heap H locs σ' τ f → W p l e R s m args below meth c H locs cells slots Q (F0 m (pc + 3) ls (.int v :: rest))) : W p l e R s m args below meth c H locs cells slots Q (F0 m pc ls st) := by
  have hP := hp.1
  rw [wA_assoc] at hP
  have hD := X.2.2.2.2.2 σ τ f
  rw [wA_assoc] at hD
  exact clR_i (r := oc cA ao f ++ wM bm cA τ) X.1 (eokS eokX) hM hl hm hd ⟨P_left hP, hp.2⟩ (P_right hP) (D_apart hD) hce 0 he hc hq hsz hst hr hdg (fun H locs hp1 hr1 => kk H locs ⟨by rw [wA_assoc]; exact va_P.app hp1.1 hr1, hp1.2⟩)
theorem L_Sl {v : Int64} {ci : Nat} {q : vw_C} {fs : List Value} (X : LC p R s m args c b L xs D a bm cA ao t A) (hM : MetL l y bytes maxL ret d D (tyW cA) (wS a cA) (ES t FX) (.ref (a 0) :: As) σ v σ') (hl : Cond.methodLink RL index y ∈ wsL_law) (hm : mwV y bytes maxL ret As.length) (hd : d < 40) (hp : PL D a bm cA ao A s.heap H locs σ τ f) (hce : cells ≤ R.cells ∧ slots ≤ R.slots)
    (he : (wS a cA σ)[0]? = some (a 0, .inr (ci, fs))) (hc : vwCl[ci]? = some q) (hq : q.1 = y.cls) (hsz : ls.size = 8) (hst : st = As.reverse ++ .ref (a 0) :: rest) (hr : (rest.map fun v => v.category).sum ≤ 8) (hdg : decode code pc = .ok (.invokevirtual index, 3))
    (kk : ∀ (H : Heap) (locs : List Loc), PL D a bm cA ao A s.heap H locs σ' τ f → W p l e R s m args below meth c H locs cells slots Q (F0 m (pc + 3) ls (.long v :: rest))) : W p l e R s m args below meth c H locs cells slots Q (F0 m pc ls st) := by
  have hP := hp.1
  rw [wA_assoc] at hP
  have hD := X.2.2.2.2.2 σ τ f
  rw [wA_assoc] at hD
  exact clR_l (r := oc cA ao f ++ wM bm cA τ) X.1 (eokS eokX) hM hl hm hd ⟨P_left hP, hp.2⟩ (P_right hP) (D_apart hD) hce 0 he hc hq hsz hst hr hdg (fun H locs hp1 hr1 => kk H locs ⟨by rw [wA_assoc]; exact va_P.app hp1.1 hr1, hp1.2⟩)
/-- a helper is called -/
theorem L_H {v : Int32} (X : LC p R s m args c b L xs D a bm cA ao t A) (hM : MetH l y bytes maxL hh d D a cA ao (ES t FX) As σ f v σ' f') (hl : Cond.methodLink RL index y ∈ wsL_law) (h1 : Cond.static y ∈ wsL_law) (h3 : Cond.initialized y.cls ∈ wsL_law) (h4 : Cond.codeWith y bytes maxL (some .int) hh ∈ wsL_law) (hdd : y.cls ≠ "java/lang/invoke/MethodHandle" ∧ y.cls ≠ "java/lang/invoke/VarHandle" ∧ (parseMethodDescriptor y.desc).map (fun d => d.parameters.length) = some As.length) (hmx : maxL ≤ 31) (hd : d < 40) (hp : PL D a bm cA ao A s.heap H locs σ τ f) (hce : cells + 1 ≤ R.cells ∧ slots + 6 ≤ R.slots)
    (hsz : ls.size = 8) (hst : st = As.reverse ++ rest) (hr : (rest.map fun v => v.category).sum ≤ 8) (hdg : decode code pc = .ok (.invokestatic index, 3))
    (kk : ∀ (H : Heap) (locs : List Loc), PL D a bm cA ao A s.heap H locs σ' τ f' → W p l e R s m args below meth c H locs (cells + 1) (slots + 6) Q (F0 m (pc + 3) ls (.int v :: rest))) : W p l e R s m args below meth c H locs cells slots Q (F0 m pc ls st) := by
  obtain ⟨X1, X2, -, -, -, hD⟩ := X
  obtain ⟨hx, hb, hml, hown, hts, hK, -, hA, hEs, hf, hlo⟩ := id X1
  have hPO : va_P D vwCl (wO a cA ao σ f) H := P_left hp.1
  have hDO : va_D A (wO a cA ao σ f) := D_left (hD σ τ f)
  have hF : ∀ q, va_A (wO a cA ao σ f) H.size q → A q := by
    intro q h
    rcases h with ⟨k, e, h⟩ | h
    · exact hDO.2 k (q, e) h
    · exact hA q (Nat.le_trans hp.2.1 h)
  have hG : GoodIn wsL_law (.codeWith y bytes maxL (some .int) hh :: wsL_law) := by
    intro w hw
    have h9 : w ∈ wsL_law := (List.mem_cons.mp hw).elim (fun e => by rw [e]; exact h4) id
    exact ⟨h9, good_of_word (lawGood w h9)⟩
  subst hst
  have cw : vx_CSW R s args RL index y bytes maxL (some .int) hh (.codeWith y bytes maxL (some .int) hh :: wsL_law) (rmc d 1 6) 1 6 As.length :=
    ⟨⟨rfl, rfl, Nat.le_trans hd hf, by show 8 + (maxL + 11) + 50 * d ≤ R.locals; omega, pay_in hts hG, List.mem_cons_self⟩, hts _ h4, hts _ h3, ⟨hdd.1, hdd.2.1⟩, fun sig h => by
      have h2 := hdd.2.2
      rw [h] at h2
      exact (Option.some.inj h2).symm, hts _ hl, hts _ h1⟩
  refine va_calli (vx_runSW (As := As) (rest := rest) ⟨hx, hb, hml, hown, hts⟩ (hM H.size) cw ⟨?_, ?_⟩ rfl rfl hsz rfl (lv_room hr) hdg hce) hp.2 (fun q _ h => hF q h) hF (fun r1 u t1 H1 locs1 ht hvm hw hB hz1 hk1 hS1 => ?_)
  · intro a9 U g mk q
    obtain ⟨q0, q1, qP, qK, qD, qE⟩ := q
    exact ⟨q0, q1, qP, va_K.moved (u := U) (U := U.calling g mk a9) (Vm.Alike.refl U.vm) qK, qD, (eokS eokX).2 _ _ _ _ _ qE⟩
  · intro U hU hW
    exact ⟨rfl, by rw [hU], by rw [hU]; exact hPO, va_K.moved hW.alike hK, hDO.weaken (fun _ _ _ _ => trivial), (eokS eokX).1 A _ s U hEs hF (by rw [hU]; exact hp.2.1) (fun a9 g1 g2 => by rw [hU]; exact hp.2.2.1 a9 g1 g2) hW⟩
  · obtain ⟨rfl, rfl⟩ := hw
    subst ht
    exact kk _ _ ⟨va_P.app hB (keepR (P_right hp.1) (D_apart (hD σ τ f)) hk1), hS1⟩
end LB
