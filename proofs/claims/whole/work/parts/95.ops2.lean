/-! 95: is it a plain formula; the ops append, clearBuffer, firstError -/
section OPS
variable {c : Ck} {t : Nat → Nat} {L : Nat} {σ τ σ' τ' : St} {N : Nat}
theorem BF.s (h : BF L t σ τ) : ∀ i, i < L → t i < 127 ∧ σ.2.2.1 0 i = nI (t i) := fun i hi => ⟨by have := (h.2.2.2 i hi).1.2; omega, (h.2.2.2 i hi).2.1⟩
theorem BF.m (h : BF L t σ τ) : ∀ i, i < L → t i < 127 ∧ τ.2.2.1 0 i = nI (t i) := fun i hi => ⟨by have := (h.2.2.2 i hi).1.2; omega, (h.2.2.2 i hi).2.2⟩
theorem X6_rsf_ok (hN : 4000000 ≤ N) (h : CS c σ) (hB : BF L t σ τ) : ∃ σ', FR [3, 4] [] [] [] σ σ' ∧ (pln c t L = true → X6_requireStateFormula N σ = some σ' ∧ X6_requireStateFormula_t N σ = none) ∧ (pln c t L = false → X6_requireStateFormula_t N σ = some (2, σ')) := by
  have hb : c.1 < 7 := by have := h.1.2.1; omega
  have hi : c.2.1 < 3 := by have := h.1.2.2.1; omega
  obtain ⟨σ', e, hf⟩ := X3_isFormula_ok (c := c) (t := t) hN hb hi hB.1 hB.2.1 hB.s
  have h0 : σ'.1 0 = nI L := by rw [hf.1 0 (by decide)]; exact hB.2.1
  have ht : ∀ i, i < L → t i < 127 ∧ σ'.2.2.1 0 i = nI (t i) := by rw [hf.2.2.1 0 (by decide)]; exact hB.s
  have e2 := X3_hasInputName_ok hN hB.1 h0 ht
  refine ⟨σ', hf, fun q => ?_, fun q => ?_⟩
  · have q1 : isF c t L = true := by unfold pln at q; revert q; cases isF c t L <;> simp
    have q2 : hasI t L = false := by unfold pln at q; revert q; cases hasI t L <;> simp
    rw [q1] at e
    rw [q2] at e2
    constructor
    · simp (disch := omega) only [X6_requireStateFormula, h.2.1, h.2.2.1, e, e2, fa_lit, nI_leI, nI_ltI, nI_eq, nI_add, pk_mul, nI_clamp, bd, nm, gd_in, gd_bI, gd_b0, gd_b1, if_pos, if_neg, bI_n0, bI_n1, reduceIte, reduceCtorEq, Nat.add_zero]
    · simp (disch := omega) only [X6_requireStateFormula_t, h.2.1, h.2.2.1, e, e2, fa_lit, nI_leI, nI_ltI, nI_eq, nI_add, pk_mul, nI_clamp, bd, nm, gd_in, gd_bI, gd_b0, gd_b1, if_pos, if_neg, bI_n0, bI_n1, reduceIte, reduceCtorEq, Nat.add_zero]
  · cases q1 : isF c t L
    · rw [q1] at e
      simp (disch := omega) only [X6_requireStateFormula_t, h.2.1, h.2.2.1, e, X6_requireStateFormula_t_34, fa_lit, nI_leI, nI_ltI, nI_eq, nI_add, pk_mul, nI_clamp, bd, nm, gd_in, gd_bI, gd_b0, gd_b1, if_pos, if_neg, bI_n0, bI_n1, reduceIte, reduceCtorEq, Nat.add_zero]
    · have q2 : hasI t L = true := by unfold pln at q; rw [q1] at q; revert q; cases hasI t L <;> simp
      rw [q1] at e
      rw [q2] at e2
      simp (disch := omega) only [X6_requireStateFormula_t, h.2.1, h.2.2.1, e, e2, X6_requireStateFormula_t_34, fa_lit, nI_leI, nI_ltI, nI_eq, nI_add, pk_mul, nI_clamp, bd, nm, gd_in, gd_bI, gd_b0, gd_b1, if_pos, if_neg, bI_n0, bI_n1, reduceIte, reduceCtorEq, Nat.add_zero]
theorem X7_isPlain_ok (hN : 4000000 ≤ N) (h : CM c τ) (hB : BF L t σ τ) : ∃ τ', X7_isPlain N τ = some (bI (pln c t L), τ') ∧ FR [5, 6] [] [] [] τ τ' := by
  have hb : c.1 < 7 := by have := h.1.2.1; omega
  have hi : c.2.1 < 3 := by have := h.1.2.2.1; omega
  obtain ⟨τ', e, hf⟩ := X7_isFormula_ok (c := c) (t := t) hN hb hi h.2.1 h.2.2.1 hB.1 hB.2.2.1 hB.m
  have h0 : τ'.1 3 = nI L := by rw [hf.1 3 (by decide)]; exact hB.2.2.1
  have ht : ∀ i, i < L → t i < 127 ∧ τ'.2.2.1 0 i = nI (t i) := by rw [hf.2.2.1 0 (by decide)]; exact hB.m
  have e2 := X7_hasInputs_ok hN hB.1 h0 ht
  refine ⟨τ', ?_, hf⟩
  unfold pln
  cases q1 : isF c t L
  · rw [q1] at e
    simp (disch := omega) only [X7_isPlain, e, fa_lit, nI_leI, nI_ltI, nI_eq, nI_add, pk_mul, nI_clamp, bd, nm, gd_in, gd_bI, gd_b0, gd_b1, if_pos, if_neg, bI_n0, bI_n1, reduceIte, reduceCtorEq, Nat.add_zero]
    rfl
  · rw [q1] at e
    cases q2 : hasI t L
    · rw [q2] at e2
      simp (disch := omega) only [X7_isPlain, e, e2, fa_lit, nI_leI, nI_ltI, nI_eq, nI_add, pk_mul, nI_clamp, bd, nm, gd_in, gd_bI, gd_b0, gd_b1, if_pos, if_neg, bI_n0, bI_n1, reduceIte, reduceCtorEq, Nat.add_zero]
      rfl
    · rw [q2] at e2
      simp (disch := omega) only [X7_isPlain, e, e2, fa_lit, nI_leI, nI_ltI, nI_eq, nI_add, pk_mul, nI_clamp, bd, nm, gd_in, gd_bI, gd_b0, gd_b1, if_pos, if_neg, bI_n0, bI_n1, reduceIte, reduceCtorEq, Nat.add_zero]
      rfl
/-- the buffer alone has changed -/
theorem RC.bf (h : RC c σ τ) (f : FR [0, 1, 2, 3, 4] [] [0, 1] [0] σ σ') (g : FR [0, 3, 5, 6, 7, 8] [] [0, 2] [2] τ τ') (hb : ∃ L t, BF L t σ' τ') : RC c σ' τ' := by
  obtain ⟨h1, h2, h3, ⟨K, o, r, w, h4⟩, h5, h6⟩ := h
  refine ⟨h1.fr g (by decide), h2.fr f (by decide), hb, ⟨K, o, r, w, h4.fr f g (by decide)⟩, ?_, h6.fr f g (by decide)⟩
  rw [f.1 13 (by decide)]
  exact h5.imp id (fun z => ⟨z.1, z.2.fr f (by decide)⟩)
theorem Op_append_ok (h : RC c σ τ) : Op_append N Rl σ τ := by
  intro v1
  obtain ⟨L, t, hB⟩ := h.2.2.1
  have hL := hB.1
  by_cases q1 : v1 < 33
  · refine ⟨0, si τ 0 1, ?_, Or.inr ⟨1, 1, σ, Or.inl ⟨rfl, rfl⟩, ?_, rfl, ⟨c, h.th 1⟩⟩⟩
    · simp only [X7_append, X7_within, if_pos q1, bd, reduceIte, X7_append_30, nm, si0, p1]
    · simp only [X6_append_t, if_pos q1, X6_append_t_12]
  · by_cases q2 : v1 ≤ 126
    · have q0 : ¬ v1 < 0 := by
        rw [lt_i] at q1 ⊢
        have : (33 : Int32).toInt = 33 := by decide
        have : (0 : Int32).toInt = 0 := by decide
        omega
      have q3 : ¬ 126 < v1 := by rw [le_i] at q2; rw [lt_i]; omega
      obtain ⟨a, ha, rfl⟩ := nI_of q0
      have a1 : 33 ≤ a := by
        rw [lt_i, nI_toInt ha] at q1
        have : (33 : Int32).toInt = 33 := by decide
        omega
      have a2 : a ≤ 126 := by
        rw [le_i, nI_toInt ha] at q2
        have : (126 : Int32).toInt = 126 := by decide
        omega
      rcases Nat.lt_or_ge L 60 with z | z
      · have e1 : X6_append (nI a) σ = some (nI (L + 1), si (sa σ 0 L (nI a)) 0 (nI (L + 1))) := by
          simp (disch := omega) only [X6_append, X3_isFull, hB.2.1, X3_put, sa_i, si_s, fa_lit, nI_leI, nI_ltI, nI_eq, nI_add, pk_mul, nI_clamp, bd, nm, gd_in, gd_bI, gd_b0, gd_b1, if_pos, if_neg, bI_n0, bI_n1, reduceIte, reduceCtorEq, Nat.add_zero]
        have e2 : X7_append (nI a) τ = some (nI (L + 1), si (sa (si τ 0 (nI 0)) 0 L (nI a)) 3 (nI (L + 1))) := by
          simp (disch := omega) only [X7_append, X7_within, hB.2.2.1, X7_append_30, si_s, si_n, sa_i, fa_lit, nI_leI, nI_ltI, nI_eq, nI_add, pk_mul, nI_clamp, bd, nm, gd_in, gd_bI, gd_b0, gd_b1, if_pos, if_neg, bI_n0, bI_n1, reduceIte, reduceCtorEq, Nat.add_zero]
        refine ⟨_, _, e2, Or.inl ⟨_, e1, rfl, ⟨c, h.bf ((FR.rf.a (by decide)).i (by decide)) (((FR.rf.i (by decide)).a (by decide)).i (by decide)) ⟨L + 1, fun i => if i = L then a else t i, by omega, rfl, rfl, fun i hi => ?_⟩⟩⟩⟩
        show (33 ≤ (if i = L then a else t i) ∧ (if i = L then a else t i) ≤ 126) ∧ upd (σ.2.2.1 0) L (nI a) i = nI (if i = L then a else t i) ∧ upd (τ.2.2.1 0) L (nI a) i = nI (if i = L then a else t i)
        rcases Classical.em (i = L) with y | y
        · subst y
          rw [if_pos rfl, u_s, u_s]
          exact ⟨⟨a1, a2⟩, rfl, rfl⟩
        · rw [if_neg y, u_n y, u_n y]
          exact hB.2.2.2 i (by omega)
      · have : L = 60 := by omega
        subst this
        have b1 := hB.2.1
        have b2 := hB.2.2.1
        refine ⟨0, si τ 0 2, ?_, Or.inr ⟨2, 2, σ, Or.inr ⟨rfl, rfl⟩, ?_, rfl, ⟨c, h.th 2⟩⟩⟩
        · simp (disch := omega) only [X7_append, X7_within, b2, X7_append_30, si_s, fa_lit, nI_leI, nI_ltI, nI_eq, nI_add, pk_mul, nI_clamp, bd, nm, gd_in, gd_bI, gd_b0, gd_b1, if_pos, if_neg, bI_n0, bI_n1, reduceIte, reduceCtorEq, Nat.add_zero]
        · simp (disch := omega) only [X6_append_t, X3_isFull, b1, fa_lit, nI_leI, nI_ltI, nI_eq, nI_add, pk_mul, nI_clamp, bd, nm, gd_in, gd_bI, gd_b0, gd_b1, if_pos, if_neg, bI_n0, bI_n1, reduceIte, reduceCtorEq, Nat.add_zero]
    · have q3 : 126 < v1 := by rw [le_i] at q2; rw [lt_i]; omega
      refine ⟨0, si τ 0 1, ?_, Or.inr ⟨1, 1, σ, Or.inl ⟨rfl, rfl⟩, ?_, rfl, ⟨c, h.th 1⟩⟩⟩
      · simp only [X7_append, X7_within, if_neg q1, if_pos q3, bd, reduceIte, X7_append_30, nm, si0, p1]
      · simp only [X6_append_t, if_neg q1, if_neg q2, X6_append_t_12]
theorem Op_clearBuffer_ok (h : RC c σ τ) : Op_clearBuffer N Rl σ τ := by
  obtain ⟨L, t, hB⟩ := h.2.2.1
  refine ⟨nI L, si σ 0 0, si (si τ 0 0) 3 0, ?_, ?_, ⟨c, h.bf (FR.rf.i (by decide)) ((FR.rf.i (by decide)).i (by decide)) ⟨0, t, by omega, rfl, rfl, fun i hi => by omega⟩⟩⟩
  · simp only [X6_clearBuffer, nm, hB.2.1]
  · simp (disch := omega) only [X7_clearBuffer, nm, si_n, hB.2.2.1]
theorem Op_firstError_ok (hN : 4000000 ≤ N) (h : RC c σ τ) : Op_firstError N Rl σ τ := by
  obtain ⟨L, t, hB⟩ := h.2.2.1
  have hb : c.1 < 7 := by have := h.1.1.2.1; omega
  have hi : c.2.1 < 3 := by have := h.1.1.2.2.1; omega
  obtain ⟨r, σ', e1, f1, g1, _⟩ := X3_read_ok (c := c) (t := t) hN hb hi hB.1 hB.2.1 hB.s
  have hm : FR [0] [] [] [] τ (si τ 0 0) := FR.rf.i (by decide)
  obtain ⟨r', τ', e2, f2, g2, _⟩ := X7_read_ok (τ := si τ 0 0) (c := c) (t := t) hN hb hi h.1.2.1 h.1.2.2.1 hB.1 hB.2.2.1 hB.m
  have : r = r' := g1.u g2
  subst this
  refine ⟨nI r, σ', τ', ?_, ?_, ⟨c, h.sc (f1.mo (by decide)) ((hm.mo (by decide)).tr (f2.mo (by decide)))⟩⟩
  · simp only [X6_firstError, h.2.1.2.1, h.2.1.2.2.1, e1, bd]
  · simp only [X7_firstError, nm, e2, bd]
end OPS
