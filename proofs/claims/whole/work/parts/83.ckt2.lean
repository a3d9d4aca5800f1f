/-! 83: successors, predecessors, cubes -/
def CS (c : Ck) (σ : St) : Prop := okC c ∧ σ.1 5 = nI c.1 ∧ σ.1 6 = nI c.2.1 ∧ σ.1 7 = nI (ns c) ∧ σ.1 8 = nI (nv c) ∧ σ.2.1 0 = al c ∧ (∀ b v, b < c.1 → v < nv c → σ.2.2.2 1 (b * 4 + v) = c.2.2.1 b v) ∧ σ.2.2.2 1 24 = c.2.2.2.1 ∧ σ.2.2.2 1 28 = c.2.2.2.2
section CKT
variable {c : Ck} {τ σ : St} {N : Nat}
theorem X0_table_ok {r v : Nat} (h : r * 4 + v < 32) : X0_table σ (nI r) (nI v) = some (σ.2.2.2 1 (r * 4 + v)) := by
  simp (disch := omega) only [X0_table, fa_lit, nI_leI, nI_ltI, nI_eq, nI_add, pk_mul, nI_clamp, bd, nm, gd_in, gd_bI, gd_b0, gd_b1, if_pos, if_neg, bI_n0, bI_n1, reduceIte, reduceCtorEq, Nat.add_zero]
theorem X0_initial_ok (h : CS c σ) : X0_initial σ = some c.2.2.2.1 := by
  unfold X0_initial
  rw [fa_lit 6, fa_lit 0, X0_table_ok (by omega), h.2.2.2.2.2.2.2.1]
  rfl
theorem X0_good_ok (h : CS c σ) : X0_good σ = some c.2.2.2.2 := by
  unfold X0_good
  rw [fa_lit 7, fa_lit 0, X0_table_ok (by omega), h.2.2.2.2.2.2.2.2]
  rfl
theorem X0_bad_ok (h : CS c σ) : X0_bad σ = some (bad c) := by
  unfold X0_bad bad
  rw [X0_good_ok h, h.2.2.2.2.2.1]
  rfl
theorem X0_step_ok (hN : 4000000 ≤ N) (h : CS c σ) {s v : Nat} (hs : s < 64) (hv : v < nv c) : X0_step N σ (nI s) (nI v) = some (nI (nx c s v)) := by
  have h64 := ns_le h.1
  have h4 := nv_le h.1
  have h6 := h.1.2.1
  unfold X0_step
  refine wf (fun n i a => X0_step_5 (fun v3 => X0_step_41 σ v3) σ (nI s) (nI v) n a (nI i)) c.1 (fun i a => a = nI (stp c s v i)) (fun r => r = some (nI (nx c s v))) ?_ ?_ N 0 0 (by omega) rfl (by omega)
  · rintro n i a hi rfl
    refine Or.inr ⟨_, rfl, ?_⟩
    show X0_step_5 _ σ _ _ (n + 1) _ _ = X0_step_5 _ σ _ _ n _ _
    have e3 := h.2.2.2.2.2.2.1 i v hi hv
    rw [stp]
    cases e : ht (c.2.2.1 i v) s
    · simp (disch := omega) only [X0_step_5, X0_step_5b, h.2.1, X0_table_ok, e3, X6_contains_ok, e, fa_lit, nI_leI, nI_ltI, nI_eq, nI_add, pk_mul, nI_clamp, bd, nm, gd_in, gd_bI, gd_b0, gd_b1, if_pos, if_neg, bI_n0, bI_n1, reduceIte, reduceCtorEq, Nat.add_zero]
    · simp (disch := omega) only [X0_step_5, X0_step_5b, h.2.1, X0_table_ok, e3, X6_contains_ok, e, fa_lit, nI_leI, nI_ltI, nI_eq, nI_add, pk_mul, nI_clamp, bd, nm, gd_in, gd_bI, gd_b0, gd_b1, if_pos, if_neg, bI_n0, bI_n1, reduceIte, reduceCtorEq, Nat.add_zero]
      rw [← fa_lit 31, ← fa_lit 1, sh1 i (by omega), or_stp (stp_lt c s v i)]
  · rintro n a rfl
    show X0_step_5 _ σ _ _ (n + 1) _ _ = _
    simp (disch := omega) only [X0_step_5, X0_step_5b, h.2.1, fa_lit, nI_leI, nI_ltI, nI_eq, nI_add, pk_mul, nI_clamp, bd, nm, gd_in, gd_bI, gd_b0, gd_b1, if_pos, if_neg, bI_n0, bI_n1, reduceIte, reduceCtorEq, Nat.add_zero]
    rfl
theorem X7_successors_ok (hN : 4000000 ≤ N) (h : CM c τ) (x : Int64) : X7_successors N τ x = some (sucs c x) := by
  have h64 := ns_le h.1
  have h4 := nv_le h.1
  unfold X7_successors
  refine wf (fun n i a => X7_successors_5 N (fun v3 => X7_successors_60 τ v3) τ x n a (nI i)) (ns c) (fun i a => a = mk64 (fun t => ax (fun s => ht x s && ax (fun v => decide (nx c s v = t)) (nv c)) i)) (fun r => r = some (sucs c x)) ?_ ?_ N 0 0 (by omega) (h_ext (fun i hi => by rw [h_mk' _ hi, h_0]; rfl)) (by omega)
  · rintro n i a hi rfl
    refine Or.inr ⟨_, rfl, ?_⟩
    show X7_successors_5 N _ τ _ (n + 1) _ _ = X7_successors_5 N _ τ _ n _ _
    simp (disch := omega) only [X7_successors_5, X7_successors_5b, X7_states_ok h, fa_lit, nI_leI, nI_ltI, nI_eq, nI_add, pk_mul, nI_clamp, bd, nm, gd_in, gd_bI, gd_b0, gd_b1, if_pos, if_neg, bI_n0, bI_n1, reduceIte, reduceCtorEq, Nat.add_zero]
    refine wf (fun m j a => X7_successors_17 N (fun v3 v5 => X7_successors_54 (fun v3 v5 => X7_successors_5 N (fun v3 => X7_successors_60 τ v3) τ x n v3 v5) τ x v3 v5) τ x (nI i) m a (nI j)) (nv c) (fun j a => a = mk64 (fun t => ax (fun s => ht x s && ax (fun v => decide (nx c s v = t)) (nv c)) i || (ht x i && ax (fun v => decide (nx c i v = t)) j))) (fun r => r = X7_successors_5 N (fun v3 => X7_successors_60 τ v3) τ x n (mk64 (fun t => ax (fun s => ht x s && ax (fun v => decide (nx c s v = t)) (nv c)) (i + 1))) (nI (i + 1))) ?_ ?_ N 0 _ (by omega) (mk_ext (fun t _ => by simp [ax])) (by omega)
    · rintro m j a hj rfl
      cases e : ht x i
      · refine Or.inl ?_
        show X7_successors_17 N _ τ _ _ (m + 1) _ _ = _
        simp (disch := omega) only [X7_successors_17, X7_successors_17b, X7_values_ok h, X7_has_ok, e, X7_successors_54, fa_lit, nI_leI, nI_ltI, nI_eq, nI_add, pk_mul, nI_clamp, bd, nm, gd_in, gd_bI, gd_b0, gd_b1, if_pos, if_neg, bI_n0, bI_n1, reduceIte, reduceCtorEq, Nat.add_zero]
        rw [mk_ext (fun t _ => by rw [Bool.false_and, Bool.or_false])]
        rw [mk_ext (p := fun t => ax (fun s => ht x s && ax (fun v => decide (nx c s v = t)) (nv c)) (i + 1)) (fun t _ => by rw [ax, e, Bool.false_and, Bool.or_false])]
      · refine Or.inr ⟨_, rfl, ?_⟩
        show X7_successors_17 N _ τ _ _ (m + 1) _ _ = X7_successors_17 N _ τ _ _ m _ _
        simp (disch := omega) only [X7_successors_17, X7_successors_17b, X7_values_ok h, X7_has_ok, e, X7_successorOf_ok hN h, fa_lit, nI_leI, nI_ltI, nI_eq, nI_add, pk_mul, nI_clamp, bd, nm, gd_in, gd_bI, gd_b0, gd_b1, if_pos, if_neg, bI_n0, bI_n1, reduceIte, reduceCtorEq, Nat.add_zero]
        congr 1
        apply h_ext
        intro t ht'
        rw [h_or, h_1 (nx_64 h.1 i j), h_mk' _ ht', h_mk' _ ht', ax, Bool.true_and, Bool.true_and, Bool.or_assoc, decide_eq_decide.mpr (eq_comm (a := t))]
    · rintro m a rfl
      show X7_successors_17 N _ τ _ _ (m + 1) _ _ = _
      simp (disch := omega) only [X7_successors_17, X7_successors_17b, X7_values_ok h, X7_successors_54, fa_lit, nI_leI, nI_ltI, nI_eq, nI_add, pk_mul, nI_clamp, bd, nm, gd_in, gd_bI, gd_b0, gd_b1, if_pos, if_neg, bI_n0, bI_n1, reduceIte, reduceCtorEq, Nat.add_zero]
      rfl
  · rintro n a rfl
    show X7_successors_5 N _ τ _ (n + 1) _ _ = _
    simp (disch := omega) only [X7_successors_5, X7_successors_5b, X7_states_ok h, fa_lit, nI_leI, nI_ltI, nI_eq, nI_add, pk_mul, nI_clamp, bd, nm, gd_in, gd_bI, gd_b0, gd_b1, if_pos, if_neg, bI_n0, bI_n1, reduceIte, reduceCtorEq, Nat.add_zero]
    rfl
theorem X7_before_ok (hN : 4000000 ≤ N) (h : CM c τ) (x : Int64) : X7_before N τ x = some (bef c x) := by
  have h64 := ns_le h.1
  have h4 := nv_le h.1
  unfold X7_before
  refine wf (fun n i a => X7_before_5 N (fun v3 => X7_before_64 τ v3) τ x n a (nI i)) (ns c) (fun i a => a = mk64 (fun s => decide (s < i) && ax (fun v => ht x (nx c s v)) (nv c))) (fun r => r = some (bef c x)) ?_ ?_ N 0 0 (by omega) (h_ext (fun i hi => by rw [h_mk' _ hi, h_0]; simp)) (by omega)
  · rintro n i a hi rfl
    refine Or.inr ⟨_, rfl, ?_⟩
    show X7_before_5 N _ τ _ (n + 1) _ _ = X7_before_5 N _ τ _ n _ _
    simp (disch := omega) only [X7_before_5, X7_before_5b, X7_states_ok h, fa_lit, nI_leI, nI_ltI, nI_eq, nI_add, pk_mul, nI_clamp, bd, nm, gd_in, gd_bI, gd_b0, gd_b1, if_pos, if_neg, bI_n0, bI_n1, reduceIte, reduceCtorEq, Nat.add_zero]
    refine wf (fun m j a => X7_before_17 N (fun v3 v5 => X7_before_58 (fun v3 v5 => X7_before_5 N (fun v3 => X7_before_64 τ v3) τ x n v3 v5) τ x v3 v5) τ x (nI i) m a (nI j)) (nv c) (fun j a => a = mk64 (fun s => (decide (s < i) && ax (fun v => ht x (nx c s v)) (nv c)) || (decide (s = i) && ax (fun v => ht x (nx c s v)) j))) (fun r => r = X7_before_5 N (fun v3 => X7_before_64 τ v3) τ x n (mk64 (fun s => decide (s < i + 1) && ax (fun v => ht x (nx c s v)) (nv c))) (nI (i + 1))) ?_ ?_ N 0 _ (by omega) (mk_ext (fun t _ => by simp [ax])) (by omega)
    · rintro m j a hj rfl
      refine Or.inr ⟨_, rfl, ?_⟩
      show X7_before_17 N _ τ _ _ (m + 1) _ _ = X7_before_17 N _ τ _ _ m _ _
      have hb := nx_64 h.1 i j
      cases e : ht x (nx c i j)
      · simp (disch := omega) only [X7_before_17, X7_before_17b, X7_values_ok h, X7_has_ok, e, X7_successorOf_ok hN h, fa_lit, nI_leI, nI_ltI, nI_eq, nI_add, pk_mul, nI_clamp, bd, nm, gd_in, gd_bI, gd_b0, gd_b1, if_pos, if_neg, bI_n0, bI_n1, reduceIte, reduceCtorEq, Nat.add_zero]
        congr 1
        apply h_ext
        intro t ht'
        rw [h_or, h_0, h_mk' _ ht', h_mk' _ ht', ax]
        rcases Classical.em (t = i) with q | q
        · subst q; simp [e]
        · simp [q]
      · simp (disch := omega) only [X7_before_17, X7_before_17b, X7_values_ok h, X7_has_ok, e, X7_successorOf_ok hN h, fa_lit, nI_leI, nI_ltI, nI_eq, nI_add, pk_mul, nI_clamp, bd, nm, gd_in, gd_bI, gd_b0, gd_b1, if_pos, if_neg, bI_n0, bI_n1, reduceIte, reduceCtorEq, Nat.add_zero]
        congr 1
        apply h_ext
        intro t ht'
        rw [h_or, h_1 (by omega), h_mk' _ ht', h_mk' _ ht', ax]
        rcases Classical.em (t = i) with q | q
        · subst q; simp [e]
        · simp [q]
    · rintro m a rfl
      show X7_before_17 N _ τ _ _ (m + 1) _ _ = _
      simp (disch := omega) only [X7_before_17, X7_before_17b, X7_values_ok h, X7_before_58, fa_lit, nI_leI, nI_ltI, nI_eq, nI_add, pk_mul, nI_clamp, bd, nm, gd_in, gd_bI, gd_b0, gd_b1, if_pos, if_neg, bI_n0, bI_n1, reduceIte, reduceCtorEq, Nat.add_zero]
      congr 1
      exact mk_ext (fun s _ => by rw [lt_suc, Bool.and_or_distrib_right])
  · rintro n a rfl
    show X7_before_5 N _ τ _ (n + 1) _ _ = _
    simp (disch := omega) only [X7_before_5, X7_before_5b, X7_states_ok h, fa_lit, nI_leI, nI_ltI, nI_eq, nI_add, pk_mul, nI_clamp, bd, nm, gd_in, gd_bI, gd_b0, gd_b1, if_pos, if_neg, bI_n0, bI_n1, reduceIte, reduceCtorEq, Nat.add_zero]
    rfl
/-! cubes -/
def cu (c : Ck) (m w : Nat) : Int64 := mk64 (fun s => decide (s < ns c) && decide (s &&& m = w))
theorem h_cu (h : okC c) {m w s : Nat} : ht (cu c m w) s = true ↔ s < ns c ∧ s &&& m = w := by
  have := (ns_le h).2
  unfold cu
  rw [h_mk, Bool.and_eq_true, decide_eq_true_eq, Bool.and_eq_true, decide_eq_true_eq, decide_eq_true_eq]
  exact ⟨fun ⟨_, h1, h2⟩ => ⟨h1, h2⟩, fun ⟨h1, h2⟩ => ⟨by omega, h1, h2⟩⟩
theorem X7_cubeSet_ok (hN : 4000000 ≤ N) (h : CM c τ) {m w : Nat} (hw : w < 64) : X7_cubeSet N τ (nI m) (nI w) = some (cu c m w) := by
  have h64 := ns_le h.1
  unfold X7_cubeSet
  refine wf (fun n i a => X7_cubeSet_5 (fun v3 => X7_cubeSet_39 τ v3) τ (nI m) (nI w) n a (nI i)) (ns c) (fun i a => a = mk64 (fun s => decide (s < i) && decide (s &&& m = w))) (fun r => r = some (cu c m w)) ?_ ?_ N 0 0 (by omega) (h_ext (fun i hi => by rw [h_mk' _ hi, h_0]; simp)) (by omega)
  · rintro n i a hi rfl
    refine Or.inr ⟨_, rfl, ?_⟩
    show X7_cubeSet_5 _ τ _ _ (n + 1) _ _ = X7_cubeSet_5 _ τ _ _ n _ _
    have hle : i &&& m ≤ i := Nat.and_le_left
    rcases Classical.em (i &&& m = w) with e | e
    · simp (disch := omega) only [X7_cubeSet_5, X7_cubeSet_5b, X7_states_ok h, fa_and, fa_lit, nI_leI, nI_ltI, nI_eq, nI_add, pk_mul, nI_clamp, bd, nm, gd_in, gd_bI, gd_b0, gd_b1, if_pos, if_neg, bI_n0, bI_n1, reduceIte, reduceCtorEq, Nat.add_zero]
      congr 1
      apply h_ext
      intro t ht'
      rw [h_or, h_1 (by omega), h_mk' _ ht', h_mk' _ ht', lt_suc]
      rcases Classical.em (t = i) with q | q
      · subst q; simp [e]
      · simp [q]
    · simp (disch := omega) only [X7_cubeSet_5, X7_cubeSet_5b, X7_states_ok h, fa_and, fa_lit, nI_leI, nI_ltI, nI_eq, nI_add, pk_mul, nI_clamp, bd, nm, gd_in, gd_bI, gd_b0, gd_b1, if_pos, if_neg, bI_n0, bI_n1, reduceIte, reduceCtorEq, Nat.add_zero]
      congr 1
      apply h_ext
      intro t ht'
      rw [h_or, h_0, h_mk' _ ht', h_mk' _ ht', lt_suc]
      rcases Classical.em (t = i) with q | q
      · subst q; simp [e]
      · simp [q]
  · rintro n a rfl
    show X7_cubeSet_5 _ τ _ _ (n + 1) _ _ = _
    simp (disch := omega) only [X7_cubeSet_5, X7_cubeSet_5b, X7_states_ok h, fa_lit, nI_leI, nI_ltI, nI_eq, nI_add, pk_mul, nI_clamp, bd, nm, gd_in, gd_bI, gd_b0, gd_b1, if_pos, if_neg, bI_n0, bI_n1, reduceIte, reduceCtorEq, Nat.add_zero]
    rfl
theorem h_swb : ∀ b, b < 6 → ∀ i, i < 64 → ht (swb b) i = i.testBit b := by decide +kernel
theorem ax_and {s m w n : Nat} (hm : m < 2 ^ n) : (!ax (fun b => m.testBit b && (s.testBit b ^^ w.testBit b)) n) = decide (s &&& m = w &&& m) := by
  rw [Bool.eq_iff_iff, Bool.not_eq_true', ax_f, decide_eq_true_eq]
  constructor
  · intro h
    apply Nat.eq_of_testBit_eq
    intro b
    rw [Nat.testBit_and, Nat.testBit_and]
    rcases Nat.lt_or_ge b n with q | q
    · have := h b q
      revert this
      cases m.testBit b <;> cases s.testBit b <;> cases w.testBit b <;> simp
    · rw [Nat.testBit_lt_two_pow (Nat.lt_of_lt_of_le hm (Nat.pow_le_pow_right (by omega) q)), Bool.and_false, Bool.and_false]
  · intro h b _
    have h1 : (s &&& m).testBit b = (w &&& m).testBit b := by rw [h]
    rw [Nat.testBit_and, Nat.testBit_and] at h1
    revert h1
    cases m.testBit b <;> cases s.testBit b <;> cases w.testBit b <;> simp
theorem X0_statesInCube_ok (hN : 4000000 ≤ N) (h : CS c σ) {m w : Nat} (hm : m < 64) (hw : w < 64) : X0_statesInCube N σ (nI m) (nI w) = some (cu c m (w &&& m)) := by
  have h64 := ns_le h.1
  unfold X0_statesInCube nm
  rw [h.2.2.2.2.2.1]
  refine wf (fun n i a => X0_statesInCube_8 (fun v3 => X0_statesInCube_61 σ v3) σ (nI m) (nI w) n a (nI i)) 6 (fun i a => a = mk64 (fun s => decide (s < ns c) && !ax (fun b => m.testBit b && (s.testBit b ^^ w.testBit b)) i)) (fun r => r = some (cu c m (w &&& m))) ?_ ?_ N 0 _ (by omega) (h_ext (fun i hi => by rw [h_mk' _ hi, h_al h.1]; simp [ax])) (by omega)
  · rintro n i a hi rfl
    refine Or.inr ⟨_, rfl, ?_⟩
    show X0_statesInCube_8 _ σ _ _ (n + 1) _ _ = X0_statesInCube_8 _ σ _ _ n _ _
    have t1 : (nI m >>> (nI i &&& nI 31)) &&& nI 1 = bI (m.testBit i) := tbi m hm i hi
    have t2 : (nI w >>> (nI i &&& nI 31)) &&& nI 1 = bI (w.testBit i) := tbi w hw i hi
    cases e1 : m.testBit i
    · simp (disch := omega) only [X0_statesInCube_8, X0_statesInCube_8b, t1, e1, fa_lit, nI_leI, nI_ltI, nI_eq, nI_add, pk_mul, nI_clamp, bd, nm, gd_in, gd_bI, gd_b0, gd_b1, if_pos, if_neg, bI_n0, bI_n1, reduceIte, reduceCtorEq, Nat.add_zero]
      congr 1
      exact mk_ext (fun s _ => by rw [ax, e1, Bool.false_and, Bool.or_false])
    · cases e2 : w.testBit i
      · simp (disch := omega) only [X0_statesInCube_8, X0_statesInCube_8b, t1, t2, e1, e2, fa_lit, nI_leI, nI_ltI, nI_eq, nI_add, pk_mul, nI_clamp, bd, nm, gd_in, gd_bI, gd_b0, gd_b1, if_pos, if_neg, bI_n0, bI_n1, reduceIte, reduceCtorEq, Nat.add_zero]
        congr 1
        apply h_ext
        intro t ht'
        rw [h_and, h_not _ ht', h_swb i hi t ht', h_mk' _ ht', h_mk' _ ht', ax, e1, e2]
        cases ax (fun b => m.testBit b && (t.testBit b ^^ w.testBit b)) i <;> cases t.testBit i <;> simp
      · simp (disch := omega) only [X0_statesInCube_8, X0_statesInCube_8b, t1, t2, e1, e2, fa_lit, nI_leI, nI_ltI, nI_eq, nI_add, pk_mul, nI_clamp, bd, nm, gd_in, gd_bI, gd_b0, gd_b1, if_pos, if_neg, bI_n0, bI_n1, reduceIte, reduceCtorEq, Nat.add_zero]
        congr 1
        apply h_ext
        intro t ht'
        rw [h_and, h_swb i hi t ht', h_mk' _ ht', h_mk' _ ht', ax, e1, e2]
        cases ax (fun b => m.testBit b && (t.testBit b ^^ w.testBit b)) i <;> cases t.testBit i <;> simp
  · rintro n a rfl
    show X0_statesInCube_8 _ σ _ _ (n + 1) _ _ = _
    simp (disch := omega) only [X0_statesInCube_8, X0_statesInCube_8b, X0_statesInCube_61, fa_lit, nI_leI, nI_ltI, nI_eq, nI_add, pk_mul, nI_clamp, bd, nm, gd_in, gd_bI, gd_b0, gd_b1, if_pos, if_neg, bI_n0, bI_n1, reduceIte, reduceCtorEq, Nat.add_zero]
    rw [mk_ext (fun s _ => by rw [ax_and (n := 6) hm])]
    rfl
theorem nx_and (c : Ck) (s v : Nat) {m w : Nat} (hm : m < ns c) : (!ax (fun b => m.testBit b && (ht (c.2.2.1 b v) s ^^ w.testBit b)) c.1) = decide (nx c s v &&& m = w &&& m) := by
  rw [← ax_and (n := c.1) hm]
  congr 1
  exact ax_congr (fun b hb => by rw [nx, stp_bit, decide_eq_true hb, Bool.true_and])
theorem X0_predecessorsOfCube_ok (hN : 4000000 ≤ N) (h : CS c σ) {m w : Nat} (hm : m < ns c) (hw : w < 64) : X0_predecessorsOfCube N σ (nI m) (nI w) = some (bef c (cu c m (w &&& m))) := by
  have h64 := ns_le h.1
  have h4 := nv_le h.1
  have h6 := h.1.2.1
  unfold X0_predecessorsOfCube
  refine wf (fun n i a => X0_predecessorsOfCube_5 N (fun v3 => X0_predecessorsOfCube_110 σ v3) σ (nI m) (nI w) n a (nI i)) (nv c) (fun i a => a = mk64 (fun s => decide (s < ns c) && ax (fun v => decide (nx c s v &&& m = w &&& m)) i)) (fun r => r = some (bef c (cu c m (w &&& m)))) ?_ ?_ N 0 0 (by omega) (h_ext (fun i hi => by rw [h_mk' _ hi, h_0]; simp [ax])) (by omega)
  · rintro n v a hv rfl
    refine Or.inr ⟨_, rfl, ?_⟩
    show X0_predecessorsOfCube_5 N _ σ _ _ (n + 1) _ _ = X0_predecessorsOfCube_5 N _ σ _ _ n _ _
    simp (disch := omega) only [X0_predecessorsOfCube_5, X0_predecessorsOfCube_5b, h.2.2.2.2.1, h.2.2.2.2.2.1, fa_lit, nI_leI, nI_ltI, nI_eq, nI_add, pk_mul, nI_clamp, bd, nm, gd_in, gd_bI, gd_b0, gd_b1, if_pos, if_neg, bI_n0, bI_n1, reduceIte, reduceCtorEq, Nat.add_zero]
    refine wf (fun k i a => X0_predecessorsOfCube_29 (fun v3 v5 v6 => X0_predecessorsOfCube_99 (fun v3 v5 => X0_predecessorsOfCube_5 N (fun v3 => X0_predecessorsOfCube_110 σ v3) σ (nI m) (nI w) n v3 v5) σ (nI m) (nI w) v3 v5 v6) σ (nI m) (nI w) (mk64 (fun s => decide (s < ns c) && ax (fun v => decide (nx c s v &&& m = w &&& m)) v)) (nI v) k a (nI i)) c.1 (fun i a => a = mk64 (fun s => decide (s < ns c) && !ax (fun b => m.testBit b && (ht (c.2.2.1 b v) s ^^ w.testBit b)) i)) (fun r => r = X0_predecessorsOfCube_5 N (fun v3 => X0_predecessorsOfCube_110 σ v3) σ (nI m) (nI w) n (mk64 (fun s => decide (s < ns c) && ax (fun v => decide (nx c s v &&& m = w &&& m)) (v + 1))) (nI (v + 1))) ?_ ?_ N 0 _ (by omega) (h_ext (fun i hi => by rw [h_mk' _ hi, h_al h.1]; simp [ax])) (by omega)
    · rintro k i a hi rfl
      refine Or.inr ⟨_, rfl, ?_⟩
      show X0_predecessorsOfCube_29 _ σ _ _ _ _ (k + 1) _ _ = X0_predecessorsOfCube_29 _ σ _ _ _ _ k _ _
      have t1 : (nI m >>> (nI i &&& nI 31)) &&& nI 1 = bI (m.testBit i) := tbi m (by omega) i (by omega)
      have t2 : (nI w >>> (nI i &&& nI 31)) &&& nI 1 = bI (w.testBit i) := tbi w hw i (by omega)
      have e3 := h.2.2.2.2.2.2.1 i v hi hv
      cases e1 : m.testBit i
      · simp (disch := omega) only [X0_predecessorsOfCube_29, X0_predecessorsOfCube_29b, h.2.1, t1, e1, fa_lit, nI_leI, nI_ltI, nI_eq, nI_add, pk_mul, nI_clamp, bd, nm, gd_in, gd_bI, gd_b0, gd_b1, if_pos, if_neg, bI_n0, bI_n1, reduceIte, reduceCtorEq, Nat.add_zero]
        congr 1
        exact mk_ext (fun s _ => by rw [ax, e1, Bool.false_and, Bool.or_false])
      · cases e2 : w.testBit i
        · simp (disch := omega) only [X0_predecessorsOfCube_29, X0_predecessorsOfCube_29b, h.2.1, t1, t2, e1, e2, e3, fa_lit, nI_leI, nI_ltI, nI_eq, nI_add, pk_mul, nI_clamp, bd, nm, gd_in, gd_bI, gd_b0, gd_b1, if_pos, if_neg, bI_n0, bI_n1, reduceIte, reduceCtorEq, Nat.add_zero]
          congr 1
          apply h_ext
          intro t ht'
          rw [h_and, h_not _ ht', h_mk' _ ht', h_mk' _ ht', ax, e1, e2]
          cases ax (fun b => m.testBit b && (ht (c.2.2.1 b v) t ^^ w.testBit b)) i <;> cases ht (c.2.2.1 i v) t <;> simp
        · simp (disch := omega) only [X0_predecessorsOfCube_29, X0_predecessorsOfCube_29b, h.2.1, t1, t2, e1, e2, e3, fa_lit, nI_leI, nI_ltI, nI_eq, nI_add, pk_mul, nI_clamp, bd, nm, gd_in, gd_bI, gd_b0, gd_b1, if_pos, if_neg, bI_n0, bI_n1, reduceIte, reduceCtorEq, Nat.add_zero]
          congr 1
          apply h_ext
          intro t ht'
          rw [h_and, h_mk' _ ht', h_mk' _ ht', ax, e1, e2]
          cases ax (fun b => m.testBit b && (ht (c.2.2.1 b v) t ^^ w.testBit b)) i <;> cases ht (c.2.2.1 i v) t <;> simp
    · rintro k a rfl
      show X0_predecessorsOfCube_29 _ σ _ _ _ _ (k + 1) _ _ = _
      simp (disch := omega) only [X0_predecessorsOfCube_29, X0_predecessorsOfCube_29b, h.2.1, X0_predecessorsOfCube_99, fa_lit, nI_leI, nI_ltI, nI_eq, nI_add, pk_mul, nI_clamp, bd, nm, gd_in, gd_bI, gd_b0, gd_b1, if_pos, if_neg, bI_n0, bI_n1, reduceIte, reduceCtorEq, Nat.add_zero]
      congr 1
      apply h_ext
      intro t ht'
      rw [h_or, h_mk' _ ht', h_mk' _ ht', h_mk' _ ht', nx_and c t v hm, ax, ← Bool.and_or_distrib_left]
  · rintro n a rfl
    show X0_predecessorsOfCube_5 N _ σ _ _ (n + 1) _ _ = _
    simp (disch := omega) only [X0_predecessorsOfCube_5, X0_predecessorsOfCube_5b, h.2.2.2.2.1, X0_predecessorsOfCube_110, fa_lit, nI_leI, nI_ltI, nI_eq, nI_add, pk_mul, nI_clamp, bd, nm, gd_in, gd_bI, gd_b0, gd_b1, if_pos, if_neg, bI_n0, bI_n1, reduceIte, reduceCtorEq, Nat.add_zero]
    unfold bef
    refine congrArg some (mk_ext (fun s _ => congrArg _ ?_))
    refine ax_congr (fun v hv => ?_)
    rw [Bool.eq_iff_iff, decide_eq_true_eq, h_cu h.1]
    exact ⟨fun q => ⟨nx_lt _ _ _, q⟩, fun q => q.2⟩
end CKT
