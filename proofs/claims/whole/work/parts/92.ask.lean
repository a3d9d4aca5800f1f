/-! 92: successor, state, system -/
def mxf (f : Nat → Int32) : Nat → Int32
  | 0 => -1
  | s + 1 => if f s ≤ mxf f s then mxf f s else f s
theorem mxf_ok (f : Nat → Int32) : ∀ n, (∀ s, s < n → (f s).toInt ≤ (mxf f n).toInt) ∧ (mxf f n = -1 ∨ ∃ s, s < n ∧ mxf f n = f s) := by
  intro n
  induction n with
  | zero => exact ⟨fun s hs => by omega, Or.inl rfl⟩
  | succ n ih =>
    obtain ⟨a, b⟩ := ih
    rw [mxf]
    by_cases q : f n ≤ mxf f n
    · rw [if_pos q]
      refine ⟨fun s hs => ?_, b.imp id (fun ⟨s, h1, h2⟩ => ⟨s, by omega, h2⟩)⟩
      rcases Nat.lt_or_ge s n with z | z
      · exact a s z
      · have : s = n := by omega
        subst this; exact (le_i _ _).mp q
    · rw [if_neg q]
      refine ⟨fun s hs => ?_, Or.inr ⟨n, by omega, rfl⟩⟩
      rcases Nat.lt_or_ge s n with z | z
      · have := a s z
        rw [le_i] at q
        omega
      · have : s = n := by omega
        subst this; exact Int.le_refl _
theorem dpt_c (F : Int64 → Int64) (x : Int64) : ∀ j, (dpt F x j = -1 ∧ ∀ i, i < j → (lay F x i).2 = 0) ∨ ∃ i, i < j ∧ dpt F x j = nI i ∧ (lay F x i).2 ≠ 0 ∧ ∀ i', i < i' → i' < j → (lay F x i').2 = 0 := by
  intro j
  induction j with
  | zero => exact Or.inl ⟨rfl, fun i hi => by omega⟩
  | succ j ih =>
    rw [dpt]
    by_cases q : (lay F x j).2 = 0
    · rw [if_pos q]
      have key : ∀ i, i < j + 1 → i < j ∨ i = j := fun i hi => by omega
      rcases ih with ⟨a, b⟩ | ⟨i, a, b, d, e⟩
      · exact Or.inl ⟨a, fun i hi => (key i hi).elim (b i) (fun z => z ▸ q)⟩
      · exact Or.inr ⟨i, by omega, b, d, fun i' h1 h2 => (key i' h2).elim (e i' h1) (fun z => z ▸ q)⟩
    · rw [if_neg q]
      exact Or.inr ⟨j, by omega, rfl, q, fun i' h1 h2 => by omega⟩
def stA (c : Ck) (s w : Nat) : Int32 := match w with
  | 0 => bI (ht c.2.2.2.1 s)
  | 1 => bI (ht c.2.2.2.2 s)
  | 2 => dep c s
  | 3 => dis c s
  | _ => nI (cls c s)
def syA (c : Ck) (K w : Nat) : Int32 := match w with
  | 0 => nI c.1
  | 1 => nI c.2.1
  | 2 => nI (ns c)
  | 3 => nI (pc c.2.2.2.1)
  | 4 => nI (pc c.2.2.2.2)
  | 5 => nI (pc (rch c))
  | 6 => dpc c
  | 7 => nI (cnt (fun s => decide (cls c s = s)) (ns c))
  | 8 => nI K
  | _ => rlc c
section ASK
variable {c : Ck} {σ σ' τ τ' : St} {N : Nat}
theorem mx_dep (h : okC c) : mxf (dep c) (ns c) = dpc c := by
  obtain ⟨a, b⟩ := mxf_ok (dep c) (ns c)
  rcases dpt_c (FB c false) c.2.2.2.1 64 with ⟨p, q⟩ | ⟨i, p, q, r, t⟩
  · have hd : ∀ s, dep c s = -1 := fun s => by
      rcases far_c (F := FB c false) (x := c.2.2.2.1) s 64 with ⟨z, _⟩ | ⟨i, z1, z2, z3⟩
      · exact z
      · rw [q i z1, h_0] at z3; cases z3
    show _ = dpt _ _ _
    rw [p]
    rcases b with b | ⟨s, _, b⟩
    · exact b
    · rw [b]; exact hd s
  · obtain ⟨s, hs, z⟩ := h_nz r
    have e1 : dep c s = nI i := far_e p z
    have hsn : s < ns c := lay_s h.2.2.2 (FB_l h false) i s z
    have h1 := a s hsn
    rw [e1, nI_toInt (by omega)] at h1
    show _ = dpt _ _ _
    rw [q]
    rcases b with b | ⟨s', hs', b⟩
    · rw [b, m1_i] at h1; omega
    · rcases far_c (F := FB c false) (x := c.2.2.2.1) s' 64 with ⟨z1, _⟩ | ⟨i', z1, z2, z3⟩
      · rw [b, show dep c s' = -1 from z1, m1_i] at h1; omega
      · have z4 : dep c s' = nI i' := z2
        rw [b, z4, nI_toInt (by omega)] at h1
        rw [b, z4]
        rcases Nat.lt_or_ge i i' with y | y
        · rw [t i' y z1, h_0] at z3; cases z3
        · have : i = i' := by omega
          rw [this]
theorem met_dep {s : Nat} : ht (rch c) s = true ↔ dep c s ≠ -1 := by
  show ht (lay _ _ 64).1 s = true ↔ far _ _ 64 s ≠ -1
  rw [met_c]
  rcases far_c (F := FB c false) (x := c.2.2.2.1) s 64 with ⟨z, y⟩ | ⟨i, z1, z2, z3⟩
  · exact ⟨fun ⟨i, h1, h2⟩ => (by rw [y i h1] at h2; cases h2), fun h => absurd z h⟩
  · exact ⟨fun _ => by rw [z2]; exact nI_nm1 (by omega), fun _ => ⟨i, z1, z3⟩⟩
theorem cnt_st {p : Nat → Bool} {m : Nat} (h : ∀ s, p s = true → s < m) : ∀ n, m ≤ n → cnt p n = cnt p m := by
  intro n
  induction n with
  | zero => intro hm; have : m = 0 := by omega
            subst this; rfl
  | succ n ih =>
    intro hm
    rcases Nat.lt_or_ge n m with q | q
    · have : m = n + 1 := by omega
      subst this; rfl
    · have : p n = false := by
        cases e : p n
        · rfl
        · have := h n e; omega
      rw [cnt, this, ih q]
      rfl
theorem X7_reached_ok (hN : 4000000 ≤ N) (h : CM c τ) (b : Bool) : ∃ τ', X7_reached N (bI b) τ = some (match b with | true => dpc c | false => nI (pc (rch c)), τ') ∧ FR [] [] [3] [] τ τ' := by
  have h64 := ns_le h.1
  obtain ⟨τ1, e1, f1, g1⟩ := X7_layFar_ok hN h false (x := c.2.2.2.1) h.1.2.2.2
  have h1 := h.fr f1 (by decide)
  have e1' : X7_layFar N (τ.2.1 0) 0 τ = some τ1 := by rw [h.2.2.2.2.1]; exact e1
  unfold X7_reached
  simp only [bd, e1']
  refine ⟨τ1, ?_, f1⟩
  refine wf (fun n i (p : Int32 × Int32) => X7_reached_16 (fun v1 v2 v3 σ => X7_reached_73 v1 v2 v3 σ) (bI b) n p.1 p.2 (nI i) τ1) (ns c) (fun i p => p.1 = nI (cnt (ht (rch c)) i) ∧ p.2 = mxf (dep c) i) (fun r => r = some (match b with | true => dpc c | false => nI (pc (rch c)), τ1)) ?_ ?_ N 0 (nI 0, -1) (by omega) ⟨rfl, rfl⟩ (by omega)
  · rintro n i ⟨x, y⟩ hi ⟨q1, q2⟩
    dsimp only at q1 q2
    subst q1
    subst q2
    refine Or.inr ⟨(nI (cnt (ht (rch c)) (i + 1)), mxf (dep c) (i + 1)), ⟨rfl, rfl⟩, ?_⟩
    show X7_reached_16 _ _ (n + 1) _ _ _ _ = X7_reached_16 _ _ n _ _ _ _
    have hd : τ1.2.2.1 3 i = dep c i := g1 i (by omega)
    rw [cnt, mxf]
    cases e : ht (rch c) i
    · have e2 : dep c i = -nI 1 := Classical.byContradiction (fun z => by rw [met_dep.mpr z] at e; cases e)
      rw [e2] at hd ⊢
      by_cases q : (-nI 1 : Int32) ≤ mxf (dep c) i
      · simp (disch := omega) only [X7_reached_16, X7_reached_16b, X7_states_ok h1, hd, X7_reached_42, q, fa_lit, nI_leI, nI_ltI, nI_eq, nI_add, pk_mul, nI_clamp, bd, nm, gd_in, gd_bI, gd_b0, gd_b1, if_pos, if_neg, bI_n0, bI_n1, reduceIte, reduceCtorEq, Nat.add_zero]
      · simp (disch := omega) only [X7_reached_16, X7_reached_16b, X7_states_ok h1, hd, X7_reached_42, q, fa_lit, nI_leI, nI_ltI, nI_eq, nI_add, pk_mul, nI_clamp, bd, nm, gd_in, gd_bI, gd_b0, gd_b1, if_pos, if_neg, bI_n0, bI_n1, reduceIte, reduceCtorEq, Nat.add_zero]
    · have e2 : ¬ dep c i = -nI 1 := met_dep.mp e
      by_cases q : dep c i ≤ mxf (dep c) i
      · simp (disch := omega) only [X7_reached_16, X7_reached_16b, X7_states_ok h1, hd, X7_reached_42, q, e2, fa_lit, nI_leI, nI_ltI, nI_eq, nI_add, pk_mul, nI_clamp, bd, nm, gd_in, gd_bI, gd_b0, gd_b1, if_pos, if_neg, bI_n0, bI_n1, reduceIte, reduceCtorEq, Nat.add_zero]
      · simp (disch := omega) only [X7_reached_16, X7_reached_16b, X7_states_ok h1, hd, X7_reached_42, q, e2, fa_lit, nI_leI, nI_ltI, nI_eq, nI_add, pk_mul, nI_clamp, bd, nm, gd_in, gd_bI, gd_b0, gd_b1, if_pos, if_neg, bI_n0, bI_n1, reduceIte, reduceCtorEq, Nat.add_zero]
  · rintro n ⟨x, y⟩ ⟨q1, q2⟩
    dsimp only at q1 q2
    subst q1
    subst q2
    show X7_reached_16 _ _ (n + 1) _ _ _ _ = _
    have hl : ∀ s, ht (rch c) s = true → s < ns c := fun s hs => by
      obtain ⟨i, _, z⟩ := (met_c 64).mp hs
      exact lay_s h.1.2.2.2 (FB_l h.1 false) i s z
    have e3 : cnt (ht (rch c)) (ns c) = pc (rch c) := (cnt_st hl 64 h64.2).symm
    rw [e3, mx_dep h.1]
    cases b
    · simp (disch := omega) only [X7_reached_16, X7_reached_16b, X7_states_ok h1, X7_reached_73, fa_lit, nI_leI, nI_ltI, nI_eq, nI_add, pk_mul, nI_clamp, bd, nm, gd_in, gd_bI, gd_b0, gd_b1, if_pos, if_neg, bI_n0, bI_n1, reduceIte, reduceCtorEq, Nat.add_zero]
    · simp (disch := omega) only [X7_reached_16, X7_reached_16b, X7_states_ok h1, X7_reached_73, fa_lit, nI_leI, nI_ltI, nI_eq, nI_add, pk_mul, nI_clamp, bd, nm, gd_in, gd_bI, gd_b0, gd_b1, if_pos, if_neg, bI_n0, bI_n1, reduceIte, reduceCtorEq, Nat.add_zero]
theorem X7_classes_ok (hN : 4000000 ≤ N) (h : CM c τ) : ∃ τ', X7_classes N τ = some (nI (cnt (fun s => decide (cls c s = s)) (ns c)), τ') ∧ FR [] [] [4, 5] [] τ τ' := by
  have h64 := ns_le h.1
  obtain ⟨τ1, e1, f1, g1⟩ := X7_layClasses_ok hN h
  have h1 := h.fr f1 (by decide)
  unfold X7_classes
  simp only [bd, e1]
  refine ⟨τ1, ?_, f1⟩
  refine wf (fun n i a => X7_classes_8 (fun v1 σ => X7_classes_40 v1 σ) n a (nI i) τ1) (ns c) (fun i a => a = nI (cnt (fun s => decide (cls c s = s)) i)) (fun r => r = some (nI (cnt (fun s => decide (cls c s = s)) (ns c)), τ1)) ?_ ?_ N 0 _ (by omega) rfl (by omega)
  · rintro n i a hi rfl
    refine Or.inr ⟨_, rfl, ?_⟩
    show X7_classes_8 _ (n + 1) _ _ _ = X7_classes_8 _ n _ _ _
    have hd := g1 i hi
    have hb := cl_lt h.1 64 hi
    rw [cnt]
    by_cases q : cls c i = i
    · have q' := (nI_d hb (by omega)).mpr q
      rw [decide_eq_true q]
      simp (disch := omega) only [X7_classes_8, X7_classes_8b, X7_states_ok h1, hd, q', fa_lit, nI_leI, nI_ltI, nI_eq, nI_add, pk_mul, nI_clamp, bd, nm, gd_in, gd_bI, gd_b0, gd_b1, if_pos, if_neg, bI_n0, bI_n1, reduceIte, reduceCtorEq, Nat.add_zero]
    · have q' := mt (nI_d hb (by omega)).mp q
      have q'' : ¬ nI (cls c i) = nI i := q'
      rw [decide_eq_false q]
      simp (disch := omega) only [X7_classes_8, X7_classes_8b, X7_states_ok h1, hd, q'', fa_lit, nI_leI, nI_ltI, nI_eq, nI_add, pk_mul, nI_clamp, bd, nm, gd_in, gd_bI, gd_b0, gd_b1, if_pos, if_neg, bI_n0, bI_n1, reduceIte, reduceCtorEq, Nat.add_zero]
  · rintro n a rfl
    show X7_classes_8 _ (n + 1) _ _ _ = _
    simp (disch := omega) only [X7_classes_8, X7_classes_8b, X7_states_ok h1, X7_classes_40, fa_lit, nI_leI, nI_ltI, nI_eq, nI_add, pk_mul, nI_clamp, bd, nm, gd_in, gd_bI, gd_b0, gd_b1, if_pos, if_neg, bI_n0, bI_n1, reduceIte, reduceCtorEq, Nat.add_zero]
theorem X2_classCount_ok (hN : 4000000 ≤ N) (h : CS c σ) (f : FSH c σ) : X2_classCount N σ = some (nI (cnt (fun s => decide (cls c s = s)) (ns c))) := by
  have h64 := ns_le h.1
  unfold X2_classCount
  refine wf (fun n i a => X2_classCount_4 (fun v1 => X2_classCount_40 σ v1) σ n a (nI i)) (ns c) (fun i a => a = nI (cnt (fun s => decide (cls c s = s)) i)) (fun r => r = some (nI (cnt (fun s => decide (cls c s = s)) (ns c)))) ?_ ?_ N 0 _ (by omega) rfl (by omega)
  · rintro n i a hi rfl
    refine Or.inr ⟨_, rfl, ?_⟩
    show X2_classCount_4 _ σ (n + 1) _ _ = X2_classCount_4 _ σ n _ _
    have hd := f.2.2.2.2.2.2 i hi
    have hb := cl_lt h.1 64 hi
    rw [cnt]
    by_cases q : cls c i = i
    · have q' := (nI_d hb (by omega)).mpr q
      rw [decide_eq_true q]
      simp (disch := omega) only [X2_classCount_4, X2_classCount_4b, h.2.2.2.1, hd, q', fa_lit, nI_leI, nI_ltI, nI_eq, nI_add, pk_mul, nI_clamp, bd, nm, gd_in, gd_bI, gd_b0, gd_b1, if_pos, if_neg, bI_n0, bI_n1, reduceIte, reduceCtorEq, Nat.add_zero]
    · have q'' : ¬ nI (cls c i) = nI i := mt (nI_d hb (by omega)).mp q
      rw [decide_eq_false q]
      simp (disch := omega) only [X2_classCount_4, X2_classCount_4b, h.2.2.2.1, hd, q'', fa_lit, nI_leI, nI_ltI, nI_eq, nI_add, pk_mul, nI_clamp, bd, nm, gd_in, gd_bI, gd_b0, gd_b1, if_pos, if_neg, bI_n0, bI_n1, reduceIte, reduceCtorEq, Nat.add_zero]
  · rintro n a rfl
    show X2_classCount_4 _ σ (n + 1) _ _ = _
    simp (disch := omega) only [X2_classCount_4, X2_classCount_4b, h.2.2.2.1, X2_classCount_40, fa_lit, nI_leI, nI_ltI, nI_eq, nI_add, pk_mul, nI_clamp, bd, nm, gd_in, gd_bI, gd_b0, gd_b1, if_pos, if_neg, bI_n0, bI_n1, reduceIte, reduceCtorEq, Nat.add_zero]
theorem X7_stateNow_ok (hN : 4000000 ≤ N) (h : CM c τ) {s w : Nat} (hs : s < ns c) (hw : w < 5) : ∃ τ', X7_stateNow N (nI s) (nI w) τ = some (stA c s w, τ') ∧ FR [] [] [3, 4, 5] [] τ τ' := by
  have h64 := ns_le h.1
  have hI := h.2.2.2.2.1
  have hG := h.2.2.2.2.2
  rcases (show w = 0 ∨ w = 1 ∨ w = 2 ∨ w = 3 ∨ w = 4 by omega) with rfl | rfl | rfl | rfl | rfl
  · refine ⟨τ, ?_, FR.rf⟩
    simp (disch := omega) only [X7_stateNow, hI, X7_has_ok, fa_lit, nI_leI, nI_ltI, nI_eq, nI_add, pk_mul, nI_clamp, bd, nm, gd_in, gd_bI, gd_b0, gd_b1, if_pos, if_neg, bI_n0, bI_n1, reduceIte, reduceCtorEq, Nat.add_zero]
    cases e : ht c.2.2.2.1 s <;> simp [stA, e] <;> rfl
  · refine ⟨τ, ?_, FR.rf⟩
    simp (disch := omega) only [X7_stateNow, hG, X7_has_ok, fa_lit, nI_leI, nI_ltI, nI_eq, nI_add, pk_mul, nI_clamp, bd, nm, gd_in, gd_bI, gd_b0, gd_b1, if_pos, if_neg, bI_n0, bI_n1, reduceIte, reduceCtorEq, Nat.add_zero]
    cases e : ht c.2.2.2.2 s <;> simp [stA, e] <;> rfl
  · obtain ⟨τ1, e1, f1, g1⟩ := X7_layFar_ok hN h false (x := c.2.2.2.1) h.1.2.2.2
    refine ⟨τ1, ?_, f1.mo (by decide)⟩
    have e1' : X7_layFar N c.2.2.2.1 (nI 0) τ = some τ1 := e1
    simp (disch := omega) only [X7_stateNow, X7_farOf, X7_farOf_16, hI, e1', g1, fa_lit, nI_leI, nI_ltI, nI_eq, nI_add, pk_mul, nI_clamp, bd, nm, gd_in, gd_bI, gd_b0, gd_b1, if_pos, if_neg, bI_n0, bI_n1, reduceIte, reduceCtorEq, Nat.add_zero]
    rfl
  · obtain ⟨τ1, e1, f1, g1⟩ := X7_layFar_ok hN h true (x := bad c) (bad_l h.1)
    refine ⟨τ1, ?_, f1.mo (by decide)⟩
    have e1' : X7_layFar N (bad c) (nI 1) τ = some τ1 := e1
    simp (disch := omega) only [X7_stateNow, X7_farOf, X7_farOf_16, X7_bad_ok h, e1', g1, fa_lit, nI_leI, nI_ltI, nI_eq, nI_add, pk_mul, nI_clamp, bd, nm, gd_in, gd_bI, gd_b0, gd_b1, if_pos, if_neg, bI_n0, bI_n1, reduceIte, reduceCtorEq, Nat.add_zero]
    rfl
  · obtain ⟨τ1, e1, f1, g1⟩ := X7_layClasses_ok hN h
    refine ⟨τ1, ?_, f1.mo (by decide)⟩
    simp (disch := omega) only [X7_stateNow, X7_classNow, e1, g1, fa_lit, nI_leI, nI_ltI, nI_eq, nI_add, pk_mul, nI_clamp, bd, nm, gd_in, gd_bI, gd_b0, gd_b1, if_pos, if_neg, bI_n0, bI_n1, reduceIte, reduceCtorEq, Nat.add_zero]
    rfl
theorem X7_systemNow_ok (hN : 4000000 ≤ N) (h : CM c τ) {K w : Nat} (hK : τ.1 4 = nI K) (hw : w < 10) : ∃ τ', X7_systemNow N (nI w) τ = some (syA c K w, τ') ∧ FR [] [] [3, 4, 5] [] τ τ' := by
  have hI := h.2.2.2.2.1
  have hG := h.2.2.2.2.2
  rcases (show w = 0 ∨ w = 1 ∨ w = 2 ∨ w = 3 ∨ w = 4 ∨ w = 5 ∨ w = 6 ∨ w = 7 ∨ w = 8 ∨ w = 9 by omega) with rfl | rfl | rfl | rfl | rfl | rfl | rfl | rfl | rfl | rfl
  · exact ⟨τ, by simp (disch := omega) only [X7_systemNow, h.2.1, fa_lit, nI_leI, nI_ltI, nI_eq, nI_add, pk_mul, nI_clamp, bd, nm, gd_in, gd_bI, gd_b0, gd_b1, if_pos, if_neg, bI_n0, bI_n1, reduceIte, reduceCtorEq, Nat.add_zero]; rfl, FR.rf⟩
  · exact ⟨τ, by simp (disch := omega) only [X7_systemNow, h.2.2.1, fa_lit, nI_leI, nI_ltI, nI_eq, nI_add, pk_mul, nI_clamp, bd, nm, gd_in, gd_bI, gd_b0, gd_b1, if_pos, if_neg, bI_n0, bI_n1, reduceIte, reduceCtorEq, Nat.add_zero]; rfl, FR.rf⟩
  · exact ⟨τ, by simp (disch := omega) only [X7_systemNow, X7_states_ok h, fa_lit, nI_leI, nI_ltI, nI_eq, nI_add, pk_mul, nI_clamp, bd, nm, gd_in, gd_bI, gd_b0, gd_b1, if_pos, if_neg, bI_n0, bI_n1, reduceIte, reduceCtorEq, Nat.add_zero]; rfl, FR.rf⟩
  · exact ⟨τ, by simp (disch := omega) only [X7_systemNow, hI, X7_size_ok hN, fa_lit, nI_leI, nI_ltI, nI_eq, nI_add, pk_mul, nI_clamp, bd, nm, gd_in, gd_bI, gd_b0, gd_b1, if_pos, if_neg, bI_n0, bI_n1, reduceIte, reduceCtorEq, Nat.add_zero]; rfl, FR.rf⟩
  · exact ⟨τ, by simp (disch := omega) only [X7_systemNow, hG, X7_size_ok hN, fa_lit, nI_leI, nI_ltI, nI_eq, nI_add, pk_mul, nI_clamp, bd, nm, gd_in, gd_bI, gd_b0, gd_b1, if_pos, if_neg, bI_n0, bI_n1, reduceIte, reduceCtorEq, Nat.add_zero]; rfl, FR.rf⟩
  · obtain ⟨τ1, e1, f1⟩ := X7_reached_ok hN h false
    have e1' : X7_reached N (nI 0) τ = _ := e1
    exact ⟨τ1, by simp (disch := omega) only [X7_systemNow, e1', fa_lit, nI_leI, nI_ltI, nI_eq, nI_add, pk_mul, nI_clamp, bd, nm, gd_in, gd_bI, gd_b0, gd_b1, if_pos, if_neg, bI_n0, bI_n1, reduceIte, reduceCtorEq, Nat.add_zero]; rfl, f1.mo (by decide)⟩
  · obtain ⟨τ1, e1, f1⟩ := X7_reached_ok hN h true
    have e1' : X7_reached N (nI 1) τ = _ := e1
    exact ⟨τ1, by simp (disch := omega) only [X7_systemNow, e1', fa_lit, nI_leI, nI_ltI, nI_eq, nI_add, pk_mul, nI_clamp, bd, nm, gd_in, gd_bI, gd_b0, gd_b1, if_pos, if_neg, bI_n0, bI_n1, reduceIte, reduceCtorEq, Nat.add_zero]; rfl, f1.mo (by decide)⟩
  · obtain ⟨τ1, e1, f1⟩ := X7_classes_ok hN h
    exact ⟨τ1, by simp (disch := omega) only [X7_systemNow, e1, fa_lit, nI_leI, nI_ltI, nI_eq, nI_add, pk_mul, nI_clamp, bd, nm, gd_in, gd_bI, gd_b0, gd_b1, if_pos, if_neg, bI_n0, bI_n1, reduceIte, reduceCtorEq, Nat.add_zero]; rfl, f1.mo (by decide)⟩
  · exact ⟨τ, by simp (disch := omega) only [X7_systemNow, hK, fa_lit, nI_leI, nI_ltI, nI_eq, nI_add, pk_mul, nI_clamp, bd, nm, gd_in, gd_bI, gd_b0, gd_b1, if_pos, if_neg, bI_n0, bI_n1, reduceIte, reduceCtorEq, Nat.add_zero]; rfl, FR.rf⟩
  · obtain ⟨τ1, e1, f1, _⟩ := X7_runLength_ok hN h
    exact ⟨τ1, by simp (disch := omega) only [X7_systemNow, e1, fa_lit, nI_leI, nI_ltI, nI_eq, nI_add, pk_mul, nI_clamp, bd, nm, gd_in, gd_bI, gd_b0, gd_b1, if_pos, if_neg, bI_n0, bI_n1, reduceIte, reduceCtorEq, Nat.add_zero]; rfl, f1.mo (by decide)⟩
theorem X6_state_ok (hN : 4000000 ≤ N) (h : RC c σ τ) {s w : Nat} (hs : s < ns c) (hw : w < 5) : ∃ σ', X6_state N (nI s) (nI w) σ = some (stA c s w, σ') ∧ RC c σ' τ := by
  have h64 := ns_le h.1.1
  obtain ⟨σ', a1, a2, a3, a4⟩ := h.refresh hN
  refine ⟨σ', ?_, a2⟩
  have h7 := h.2.1.2.2.2.1
  have hr : X6_requireState (nI s) σ = some σ := by simp (disch := omega) only [X6_requireState, h7, fa_lit, nI_leI, nI_ltI, nI_eq, nI_add, pk_mul, nI_clamp, bd, nm, gd_in, gd_bI, gd_b0, gd_b1, if_pos, if_neg, bI_n0, bI_n1, reduceIte, reduceCtorEq, Nat.add_zero]
  have d4 := a4.2.1 s (by omega)
  have d5 := a4.2.2.1 s (by omega)
  have d6 := a4.2.2.2.2.2.2 s hs
  rcases (show w = 0 ∨ w = 1 ∨ w = 2 ∨ w = 3 ∨ w = 4 by omega) with rfl | rfl | rfl | rfl | rfl
  · simp (disch := omega) only [X6_state, hr, a1, X0_initial_ok a2.2.1, X6_contains_ok, fa_lit, nI_leI, nI_ltI, nI_eq, nI_add, pk_mul, nI_clamp, bd, nm, gd_in, gd_bI, gd_b0, gd_b1, if_pos, if_neg, bI_n0, bI_n1, reduceIte, reduceCtorEq, Nat.add_zero]
    cases e : ht c.2.2.2.1 s <;> simp [stA, e] <;> rfl
  · simp (disch := omega) only [X6_state, hr, a1, X0_good_ok a2.2.1, X6_contains_ok, fa_lit, nI_leI, nI_ltI, nI_eq, nI_add, pk_mul, nI_clamp, bd, nm, gd_in, gd_bI, gd_b0, gd_b1, if_pos, if_neg, bI_n0, bI_n1, reduceIte, reduceCtorEq, Nat.add_zero]
    cases e : ht c.2.2.2.2 s <;> simp [stA, e] <;> rfl
  · simp (disch := omega) only [X6_state, hr, a1, X2_depthOf, d4, fa_lit, nI_leI, nI_ltI, nI_eq, nI_add, pk_mul, nI_clamp, bd, nm, gd_in, gd_bI, gd_b0, gd_b1, if_pos, if_neg, bI_n0, bI_n1, reduceIte, reduceCtorEq, Nat.add_zero]
    rfl
  · simp (disch := omega) only [X6_state, hr, a1, X2_distanceOf, d5, fa_lit, nI_leI, nI_ltI, nI_eq, nI_add, pk_mul, nI_clamp, bd, nm, gd_in, gd_bI, gd_b0, gd_b1, if_pos, if_neg, bI_n0, bI_n1, reduceIte, reduceCtorEq, Nat.add_zero]
    rfl
  · simp (disch := omega) only [X6_state, hr, a1, X2_classOf, d6, fa_lit, nI_leI, nI_ltI, nI_eq, nI_add, pk_mul, nI_clamp, bd, nm, gd_in, gd_bI, gd_b0, gd_b1, if_pos, if_neg, bI_n0, bI_n1, reduceIte, reduceCtorEq, Nat.add_zero]
    rfl
theorem X6_system_ok (hN : 4000000 ≤ N) (h : RC c σ τ) {K w : Nat} (hK : σ.1 10 = nI K) (hw : w < 10) : ∃ σ', X6_system N (nI w) σ = some (syA c K w, σ') ∧ RC c σ' τ ∧ σ'.1 10 = nI K := by
  obtain ⟨σ', a1, a2, a3, a4, a5⟩ := X2_refresh_ok hN h.2.1 h.2.2.2.2.1
  have hk' : σ'.1 10 = nI K := by rw [a2.1 10 (by decide)]; exact hK
  refine ⟨σ', ?_, h.rf a2 a4 a5, hk'⟩
  rcases (show w = 0 ∨ w = 1 ∨ w = 2 ∨ w = 3 ∨ w = 4 ∨ w = 5 ∨ w = 6 ∨ w = 7 ∨ w = 8 ∨ w = 9 by omega) with rfl | rfl | rfl | rfl | rfl | rfl | rfl | rfl | rfl | rfl
  · simp (disch := omega) only [X6_system, a1, a3.2.1, fa_lit, nI_leI, nI_ltI, nI_eq, nI_add, pk_mul, nI_clamp, bd, nm, gd_in, gd_bI, gd_b0, gd_b1, if_pos, if_neg, bI_n0, bI_n1, reduceIte, reduceCtorEq, Nat.add_zero]; rfl
  · simp (disch := omega) only [X6_system, a1, a3.2.2.1, fa_lit, nI_leI, nI_ltI, nI_eq, nI_add, pk_mul, nI_clamp, bd, nm, gd_in, gd_bI, gd_b0, gd_b1, if_pos, if_neg, bI_n0, bI_n1, reduceIte, reduceCtorEq, Nat.add_zero]; rfl
  · simp (disch := omega) only [X6_system, a1, a3.2.2.2.1, fa_lit, nI_leI, nI_ltI, nI_eq, nI_add, pk_mul, nI_clamp, bd, nm, gd_in, gd_bI, gd_b0, gd_b1, if_pos, if_neg, bI_n0, bI_n1, reduceIte, reduceCtorEq, Nat.add_zero]; rfl
  · simp (disch := omega) only [X6_system, a1, X0_initial_ok a3, bc_ok, fa_lit, nI_leI, nI_ltI, nI_eq, nI_add, pk_mul, nI_clamp, bd, nm, gd_in, gd_bI, gd_b0, gd_b1, if_pos, if_neg, bI_n0, bI_n1, reduceIte, reduceCtorEq, Nat.add_zero]; rfl
  · simp (disch := omega) only [X6_system, a1, X0_good_ok a3, bc_ok, fa_lit, nI_leI, nI_ltI, nI_eq, nI_add, pk_mul, nI_clamp, bd, nm, gd_in, gd_bI, gd_b0, gd_b1, if_pos, if_neg, bI_n0, bI_n1, reduceIte, reduceCtorEq, Nat.add_zero]; rfl
  · simp (disch := omega) only [X6_system, a1, a5.2.2.2.1, bc_ok, fa_lit, nI_leI, nI_ltI, nI_eq, nI_add, pk_mul, nI_clamp, bd, nm, gd_in, gd_bI, gd_b0, gd_b1, if_pos, if_neg, bI_n0, bI_n1, reduceIte, reduceCtorEq, Nat.add_zero]; rfl
  · simp (disch := omega) only [X6_system, a1, a5.2.2.2.2.1, fa_lit, nI_leI, nI_ltI, nI_eq, nI_add, pk_mul, nI_clamp, bd, nm, gd_in, gd_bI, gd_b0, gd_b1, if_pos, if_neg, bI_n0, bI_n1, reduceIte, reduceCtorEq, Nat.add_zero]; rfl
  · simp (disch := omega) only [X6_system, a1, X2_classCount_ok hN a3 a5, fa_lit, nI_leI, nI_ltI, nI_eq, nI_add, pk_mul, nI_clamp, bd, nm, gd_in, gd_bI, gd_b0, gd_b1, if_pos, if_neg, bI_n0, bI_n1, reduceIte, reduceCtorEq, Nat.add_zero]; rfl
  · simp (disch := omega) only [X6_system, a1, hk', fa_lit, nI_leI, nI_ltI, nI_eq, nI_add, pk_mul, nI_clamp, bd, nm, gd_in, gd_bI, gd_b0, gd_b1, if_pos, if_neg, bI_n0, bI_n1, reduceIte, reduceCtorEq, Nat.add_zero]; rfl
  · simp (disch := omega) only [X6_system, a1, a5.2.2.2.2.2.1, fa_lit, nI_leI, nI_ltI, nI_eq, nI_add, pk_mul, nI_clamp, bd, nm, gd_in, gd_bI, gd_b0, gd_b1, if_pos, if_neg, bI_n0, bI_n1, reduceIte, reduceCtorEq, Nat.add_zero]; rfl
theorem X6_successor_ok (hN : 4000000 ≤ N) (h : RC c σ τ) {s v : Nat} (hs : s < ns c) (hv : v < nv c) : X6_successor N (nI s) (nI v) σ = some (nI (nx c s v), σ) := by
  have h64 := ns_le h.1.1
  have h4 := nv_le h.1.1
  have h7 := h.2.1.2.2.2.1
  have hr : X6_requireState (nI s) σ = some σ := by simp (disch := omega) only [X6_requireState, h7, fa_lit, nI_leI, nI_ltI, nI_eq, nI_add, pk_mul, nI_clamp, bd, nm, gd_in, gd_bI, gd_b0, gd_b1, if_pos, if_neg, bI_n0, bI_n1, reduceIte, reduceCtorEq, Nat.add_zero]
  simp (disch := omega) only [X6_successor, hr, h.2.1.2.2.2.2.1, X0_step_ok hN h.2.1, fa_lit, nI_leI, nI_ltI, nI_eq, nI_add, pk_mul, nI_clamp, bd, nm, gd_in, gd_bI, gd_b0, gd_b1, if_pos, if_neg, bI_n0, bI_n1, reduceIte, reduceCtorEq, Nat.add_zero]
end ASK
