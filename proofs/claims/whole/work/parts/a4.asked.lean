/-! a4: what is asked of the formula in the buffer: candidate, check, escape -/
def cm (c : Ck) (x : Int64) : Int64 := al c &&& (x ^^^ (-1))
def asN (c : Ck) (t : Nat → Nat) (L : Nat) : Int64 := vlF t L 0 &&& al c
section ASKED
variable {c : Ck} {t : Nat → Nat} {L : Nat} {σ τ σ' τ' : St} {N : Nat}
theorem h_cm (h : okC c) (x : Int64) (i : Nat) : ht (cm c x) i = (decide (i < ns c) && !ht x i) := by
  have := (ns_le h).2
  unfold cm
  rw [h_and, h_al h]
  rcases Nat.lt_or_ge i (ns c) with q | q
  · rw [h_not _ (by omega)]
  · rw [decide_eq_false (by omega)]; rfl
theorem X6_asked_ok (hN : 4000000 ≤ N) (h : CS c σ) (hB : BF L t σ τ) (hF : isF c t L = true) : ∃ σ', X6_askedStates N σ = some (asN c t L, σ') ∧ FR [1, 2] [] [1] [0] σ σ' := by
  have hb : c.1 < 7 := by have := h.1.2.1; omega
  have hi : c.2.1 < 3 := by have := h.1.2.2.1; omega
  obtain ⟨σ', a1, a2⟩ := X3_valueFor_ok hN hb hi hB.1 hB.2.1 hB.s hF (v := 0) (by omega)
  refine ⟨σ', ?_, a2⟩
  have e := (h.fr a2 (by decide)).2.2.2.2.2.1
  have a1' : X3_valueFor N 0 σ = some (vlF t L 0, σ') := a1
  simp only [X6_askedStates, asN, a1', bd, e]
theorem X7_asked_ok (hN : 4000000 ≤ N) (h : CM c τ) (hB : BF L t σ τ) (hF : isF c t L = true) : ∃ τ', X7_asked N τ = some (asN c t L, τ') ∧ FR [7, 8] [] [2] [2] τ τ' := by
  obtain ⟨τ', a1, a2, a3⟩ := X7_evaluate_ok hN h hB.1 hB.2.2.1 hB.m hF
  refine ⟨τ', ?_, a2⟩
  have e := a3 0 (by omega)
  simp (disch := omega) only [X7_asked, asN, a1, e, fa_lit, nI_leI, nI_ltI, nI_eq, nI_add, pk_mul, nI_clamp, bd, nm, gd_in, gd_bI, gd_b0, gd_b1, if_pos, if_neg, bI_n0, bI_n1, reduceIte, reduceCtorEq, Nat.add_zero]
theorem ask_ok (hN : 4000000 ≤ N) (h : RC c σ τ) : ∃ (b : Bool) (x : Int64) (σ1 τ1 : St), X7_isPlain N τ = some (bI b, τ1) ∧ RC c σ1 τ1 ∧ (b = false → X6_requireStateFormula_t N σ = some (2, σ1)) ∧ (b = true → X6_requireStateFormula N σ = some σ1 ∧ (∀ s, ht x s = true → s < ns c) ∧ ∃ σ2 σ3 σ4 τ2, X7_asked N (si τ1 0 0) = some (x, τ2) ∧ τ2.1 0 = 0 ∧ X6_askedStates N σ1 = some (x, σ2) ∧ RC c σ2 τ2 ∧ X2_refresh N σ1 = some σ3 ∧ X6_askedStates N σ3 = some (x, σ4) ∧ RC c σ4 τ2 ∧ FSH c σ4) := by
  obtain ⟨L, t, hB⟩ := h.2.2.1
  obtain ⟨σ1, f1, g1, g2⟩ := X6_rsf_ok hN h.2.1 hB
  obtain ⟨τ1, e1, f2⟩ := X7_isPlain_ok hN h.1 hB
  have hr1 := h.sc (f1.mo (by decide)) (f2.mo (by decide))
  have hB1 := hB.fr f1 f2 (by decide)
  refine ⟨pln c t L, asN c t L, σ1, τ1, e1, hr1, g2, fun e => ?_⟩
  have eF : isF c t L = true := by unfold pln at e; revert e; cases isF c t L <;> simp
  have hm := hr1.th 0
  have hB2 : BF L t σ1 (si τ1 0 0) := hB1.fr (FR.rf : FR [] [] [] [] _ _) (FR.rf.i (by decide) : FR [0] [] [] [] τ1 (si τ1 0 0)) (by decide)
  obtain ⟨τ2, b1, b2⟩ := X7_asked_ok hN hm.1 hB2 eF
  obtain ⟨σ2, a1, a2⟩ := X6_asked_ok hN hr1.2.1 hB1 eF
  obtain ⟨σ3, d1, d2, d3, d4, d5⟩ := X2_refresh_ok hN hr1.2.1 hr1.2.2.2.2.1
  have hB3 := hB1.fr d2 (FR.rf : FR [] [] [] [] _ _) (by decide)
  obtain ⟨σ4, k1, k2⟩ := X6_asked_ok hN d3 hB3 eF
  refine ⟨(g1 e).1, fun s hs => ht_al h.1.1 hs, σ2, σ3, σ4, τ2, b1, ?_, a1, hm.sc (a2.mo (by decide)) (b2.mo (by decide)), d1, k1, (hm.rf d2 d4 d5).sc (k2.mo (by decide)) (b2.mo (by decide)), d5.fr k2 (by decide)⟩
  rw [b2.1 0 (by decide)]; rfl
theorem Op_candidate_ok (hN : 4000000 ≤ N) (h : RC c σ τ) : Op_candidate N Rl σ τ := by
  obtain ⟨b, x, σ1, τ1, e1, hr, n1, y1⟩ := ask_ok hN h
  cases b
  · have n1' := n1 rfl
    refine ⟨0, si τ1 0 1, ?_, Or.inr ⟨2, 1, σ1, ⟨rfl, rfl⟩, ?_, rfl, ⟨c, hr.th 1⟩⟩⟩
    · simp (disch := omega) only [X7_candidate, e1, X7_candidate_13, si_s, fa_lit, nI_leI, nI_ltI, nI_eq, nI_add, pk_mul, nI_clamp, bd, nm, gd_in, gd_bI, gd_b0, gd_b1, if_pos, if_neg, bI_n0, bI_n1, reduceIte, reduceCtorEq, Nat.add_zero]
    · simp only [X6_candidate_t, n1', tb]
  · obtain ⟨z1, z2, σ2, σ3, σ4, τ2, z3, z4, z5, z6, _⟩ := y1 rfl
    refine ⟨x, τ2, ?_, Or.inl ⟨σ2, ?_, z4, ⟨c, z6⟩⟩⟩
    · have z3' : X7_asked N (si τ1 0 (nI 0)) = some (x, τ2) := z3
      simp (disch := omega) only [X7_candidate, e1, X7_candidate_13, si_s, z3', fa_lit, nI_leI, nI_ltI, nI_eq, nI_add, pk_mul, nI_clamp, bd, nm, gd_in, gd_bI, gd_b0, gd_b1, if_pos, if_neg, bI_n0, bI_n1, reduceIte, reduceCtorEq, Nat.add_zero]
    · simp (disch := omega) only [X6_candidate, z1, z5, fa_lit, nI_leI, nI_ltI, nI_eq, nI_add, pk_mul, nI_clamp, bd, nm, gd_in, gd_bI, gd_b0, gd_b1, if_pos, if_neg, bI_n0, bI_n1, reduceIte, reduceCtorEq, Nat.add_zero]
theorem Op_check_ok (hN : 4000000 ≤ N) (h : RC c σ τ) : Op_check N Rl σ τ := by
  obtain ⟨b, x, σ1, τ1, e1, hr, n1, y1⟩ := ask_ok hN h
  cases b
  · have n1' := n1 rfl
    refine ⟨0, si τ1 0 1, ?_, Or.inr ⟨2, 1, σ1, ⟨rfl, rfl⟩, ?_, rfl, ⟨c, hr.th 1⟩⟩⟩
    · simp (disch := omega) only [X7_check, e1, X7_check_13, si_s, fa_lit, nI_leI, nI_ltI, nI_eq, nI_add, pk_mul, nI_clamp, bd, nm, gd_in, gd_bI, gd_b0, gd_b1, if_pos, if_neg, bI_n0, bI_n1, reduceIte, reduceCtorEq, Nat.add_zero]
    · simp only [X6_check_t, n1', tb]
  · obtain ⟨z1, z2, σ2, σ3, σ4, τ2, z3, z4, _, _, z5, z6, z7, z8⟩ := y1 rfl
    have hs := X2_successorsOf_ok hN h.1.1 z8.1 z2
    have hm := X7_successors_ok hN z7.1 x
    have i1 : τ2.2.1 0 = c.2.2.2.1 := z7.1.2.2.2.2.1
    have z3' : X7_asked N (si τ1 0 (nI 0)) = some (x, τ2) := z3
    refine ⟨nI ((if c.2.2.2.1 &&& (x ^^^ (-1)) = 0 then 0 else 1) + (if sucs c x &&& (x ^^^ (-1)) = 0 then 0 else 2) + (if x &&& bad c = 0 then 0 else 4)), τ2, ?_, Or.inl ⟨σ4, ?_, z4, ⟨c, z7⟩⟩⟩
    · by_cases q1 : c.2.2.2.1 &&& (x ^^^ (-1)) = 0 <;> by_cases q2 : sucs c x &&& (x ^^^ (-1)) = 0 <;> by_cases q3 : x &&& bad c = 0 <;> (simp (disch := omega) only [X7_check, e1, X7_check_13, si_s, z3', i1, X7_check_50, hm, X7_check_71, X7_bad_ok z7.1, q1, q2, q3, fa_lit, nI_leI, nI_ltI, nI_eq, nI_add, pk_mul, nI_clamp, bd, nm, gd_in, gd_bI, gd_b0, gd_b1, if_pos, if_neg, bI_n0, bI_n1, reduceIte, reduceCtorEq, Nat.add_zero]; try rfl)
    · by_cases q1 : c.2.2.2.1 &&& (x ^^^ (-1)) = 0 <;> by_cases q2 : sucs c x &&& (x ^^^ (-1)) = 0 <;> by_cases q3 : x &&& bad c = 0 <;> (simp (disch := omega) only [X6_check, z1, z5, z6, X0_initial_ok z7.2.1, X6_check_39, hs, X6_check_61, X0_bad_ok z7.2.1, q1, q2, q3, fa_lit, nI_leI, nI_ltI, nI_eq, nI_add, pk_mul, nI_clamp, bd, nm, gd_in, gd_bI, gd_b0, gd_b1, if_pos, if_neg, bI_n0, bI_n1, reduceIte, reduceCtorEq, Nat.add_zero]; try rfl)
theorem Op_escape_ok (hN : 4000000 ≤ N) (h : RC c σ τ) : Op_escape N Rl σ τ := by
  intro v1
  have h64 := ns_le h.1.1
  have h4 := nv_le h.1.1
  rcases pk_ix v1 (n := 3) (by omega) with q | q | ⟨v, hv, rfl⟩
  · refine ⟨0, si τ 0 1, ?_, Or.inr ⟨1, 1, σ, Or.inl ⟨rfl, rfl⟩, ?_, rfl, ⟨c, h.th 1⟩⟩⟩
    · simp only [X7_escape, X7_escape_26, bd, nm, si0, p10, p1, reduceIte, wi_neg q]
    · simp only [X6_escape_t, if_pos q, X6_escape_t_9]
  · obtain ⟨a1, a2, _⟩ := wi_big (by omega) (by omega) q
    have a1' : X7_within v1 0 2 = some 0 := a1
    have a3' : ¬ v1 ≤ 2 := by
      rw [le_i, show (2 : Int32).toInt = 2 by decide]
      rw [le_i, show (nI 3 : Int32).toInt = 3 by decide] at q
      omega
    refine ⟨0, si τ 0 1, ?_, Or.inr ⟨1, 1, σ, Or.inl ⟨rfl, rfl⟩, ?_, rfl, ⟨c, h.th 1⟩⟩⟩
    · simp only [X7_escape, X7_escape_26, bd, nm, si0, p10, p1, reduceIte, a1']
    · simp only [X6_escape_t, if_neg a2, if_neg a3', X6_escape_t_9]
  · have w2 : X7_within (nI v) 0 2 = some 1 := by have z := wi_in hv (by omega); rwa [show (nI 3 - 1 : Int32) = 2 by decide] at z
    have w3 : X7_within (nI v) (nI 0) (nI 2) = some (nI 1) := w2
    have q1 : ¬ nI v < 0 := nI_pos (by omega)
    have q2 : nI v ≤ 2 := (nI_leI (b := 2) (by omega) (by omega)).mpr (by omega)
    obtain ⟨b, x, σ1, τ1, e1, hr, n1, y1⟩ := ask_ok hN h
    cases b
    · have n1' := n1 rfl
      refine ⟨0, si τ1 0 2, ?_, Or.inr ⟨2, 2, σ1, Or.inr ⟨rfl, rfl⟩, ?_, rfl, ⟨c, hr.th 2⟩⟩⟩
      · simp (disch := omega) only [X7_escape, w3, e1, X7_escape_26, si_s, fa_lit, nI_leI, nI_ltI, nI_eq, nI_add, pk_mul, nI_clamp, bd, nm, gd_in, gd_bI, gd_b0, gd_b1, if_pos, if_neg, bI_n0, bI_n1, reduceIte, reduceCtorEq, Nat.add_zero]
      · simp only [X6_escape_t, if_neg q1, if_pos q2, n1', tb]
    · obtain ⟨z1, z2, σ2, σ3, σ4, τ2, z3, z4, _, _, z5, z6, z7, z8⟩ := y1 rfl
      have e1' : X7_isPlain N τ = some (1, τ1) := e1
      have ea : σ4.2.1 0 = al c := z7.2.1.2.2.2.2.2.1
      have k1 : X7_before N τ2 (al c &&& (x ^^^ (-1))) = some (bef c (cm c x)) := X7_before_ok hN z7.1 (cm c x)
      have k2 : X2_predecessorsOf N σ4 (al c &&& (x ^^^ (-1))) = some (bef c (cm c x)) := X2_predecessorsOf_ok hN h.1.1 z8.1 (cm c x)
      by_cases q3 : x &&& bef c (cm c x) = 0
      · have l1 : X7_least N (x &&& bef c (cm c x)) = some (-1) := by rw [X7_least_ok hN, q3]; rfl
        have l2 : X6_leastOf (x &&& bef c (cm c x)) = some (-1) := by rw [X6_leastOf_ok, q3]; rfl
        refine ⟨-1, τ2, ?_, Or.inl ⟨σ4, ?_, z4, ⟨c, z7⟩⟩⟩
        · simp only [X7_escape, w2, bd, nm, p10, e1', X7_escape_26, si0, p0, reduceIte, X7_escapeNow, z3, X7_all_ok z7.1, k1, l1]
        · simp only [X6_escape, if_neg q1, if_pos q2, bd, nm, z1, z5, z6, ea, k2, l2, reduceIte]
      · obtain ⟨s1, s2, _⟩ := ls_ok q3
        have l1 : X7_least N (x &&& bef c (cm c x)) = some (nI (ls (x &&& bef c (cm c x)))) := by rw [X7_least_ok hN, li_ok q3]
        have l2 : X6_leastOf (x &&& bef c (cm c x)) = some (nI (ls (x &&& bef c (cm c x)))) := by rw [X6_leastOf_ok, li_ok q3]
        generalize ls (x &&& bef c (cm c x)) = s at s1 s2 l1 l2
        rw [h_and, Bool.and_eq_true, h_bef h.1.1] at s2
        obtain ⟨_, s3, he⟩ := s2
        have sn : ¬ nI s = -1 := nI_nm1 (by omega)
        obtain ⟨j1, j2, j3⟩ := lst_e (p := fun v => ht (cm c x) (nx c s v)) (m := nv c) he
        have j1' : lin c s (cm c x) < nv c := j1
        have hn : ∀ v, nx c s v < ns c := nx_lt c s
        have lp : X7_escapeNow_37 N (fun v1 v4 v5 σ => X7_escapeNow_58 N v1 v4 v5 σ) (nI v) x (nI s) N (nI 0) τ2 = X7_escapeNow_58 N (nI v) (nI s) (nI (lin c s (cm c x))) τ2 := by
          refine wf (fun n i (_ : Unit) => X7_escapeNow_37 N (fun v1 v4 v5 σ => X7_escapeNow_58 N v1 v4 v5 σ) (nI v) x (nI s) n (nI i) τ2) (lin c s (cm c x)) (fun _ _ => True) (fun r => r = X7_escapeNow_58 N (nI v) (nI s) (nI (lin c s (cm c x))) τ2) ?_ ?_ N 0 () (by omega) trivial (by omega)
          · rintro n i u hi -
            refine Or.inr ⟨(), trivial, ?_⟩
            show X7_escapeNow_37 N _ _ _ _ (n + 1) _ _ = X7_escapeNow_37 N _ _ _ _ n _ _
            have hf : ht x (nx c s i) = true := by
              have z := j3 i hi
              rw [h_cm h.1.1, decide_eq_true (hn i)] at z
              revert z
              cases ht x (nx c s i) <;> simp
            have hn' := hn i
            simp (disch := omega) only [X7_escapeNow_37, X7_escapeNow_37b, X7_successorOf_ok hN z7.1, X7_has_ok, hf, fa_lit, nI_leI, nI_ltI, nI_eq, nI_add, pk_mul, nI_clamp, bd, nm, gd_in, gd_bI, gd_b0, gd_b1, if_pos, if_neg, bI_n0, bI_n1, reduceIte, reduceCtorEq, Nat.add_zero]
          · rintro n u -
            show X7_escapeNow_37 N _ _ _ _ (n + 1) _ _ = _
            have hf : ht x (nx c s (lin c s (cm c x))) = false := by
              have z : ht (cm c x) (nx c s (lin c s (cm c x))) = true := j2
              rw [h_cm h.1.1, decide_eq_true (hn _)] at z
              revert z
              cases ht x (nx c s (lin c s (cm c x))) <;> simp
            have hn' := hn (lin c s (cm c x))
            simp (disch := omega) only [X7_escapeNow_37, X7_escapeNow_37b, X7_successorOf_ok hN z7.1, X7_has_ok, hf, fa_lit, nI_leI, nI_ltI, nI_eq, nI_add, pk_mul, nI_clamp, bd, nm, gd_in, gd_bI, gd_b0, gd_b1, if_pos, if_neg, bI_n0, bI_n1, reduceIte, reduceCtorEq, Nat.add_zero]
        have lp' : X7_escapeNow_37 N (fun v1 v4 v5 σ => X7_escapeNow_58 N v1 v4 v5 σ) (nI v) x (nI s) N 0 τ2 = X7_escapeNow_58 N (nI v) (nI s) (nI (lin c s (cm c x))) τ2 := lp
        have k3 : X2_leastInputInto N σ4 (nI s) (al c &&& (x ^^^ (-1))) = some (nI (lin c s (cm c x))) := X2_leastInputInto_ok hN z7.2.1 z8.1 s3 (x := cm c x) he
        have k4 := X0_step_ok hN z7.2.1 s1 j1'
        have k5 := X7_successorOf_ok hN z7.1 s1 j1'
        have ln : ¬ nI (lin c s (cm c x)) = -1 := nI_nm1 (by omega)
        have hv3 : v = 0 ∨ v = 1 ∨ v = 2 := by omega
        rcases hv3 with rfl | rfl | rfl
        · have x2 : nI 0 = (0 : Int32) := rfl
          have r58 : X7_escapeNow_58 N (nI 0) (nI s) (nI (lin c s (cm c x))) τ2 = some (nI s, τ2) := by rw [X7_escapeNow_58, if_pos x2]
          refine ⟨nI s, τ2, ?_, Or.inl ⟨σ4, ?_, z4, ⟨c, z7⟩⟩⟩
          · simp only [X7_escape, w2, bd, nm, p10, e1', X7_escape_26, si0, p0, reduceIte, X7_escapeNow, z3, X7_all_ok z7.1, k1, l1, if_neg sn, lp', r58]
          · simp only [X6_escape, if_neg q1, if_pos q2, bd, nm, z1, z5, z6, ea, k2, l2, if_neg sn, if_pos x2]
        · have x1 : ¬ nI 1 = (0 : Int32) := by decide
          have x2 : nI 1 = (1 : Int32) := rfl
          have r58 : X7_escapeNow_58 N (nI 1) (nI s) (nI (lin c s (cm c x))) τ2 = some (nI (lin c s (cm c x)), τ2) := by rw [X7_escapeNow_58, if_neg x1, if_pos x2]
          refine ⟨nI (lin c s (cm c x)), τ2, ?_, Or.inl ⟨σ4, ?_, z4, ⟨c, z7⟩⟩⟩
          · simp only [X7_escape, w2, bd, nm, p10, e1', X7_escape_26, si0, p0, reduceIte, X7_escapeNow, z3, X7_all_ok z7.1, k1, l1, if_neg sn, lp', r58]
          · simp only [X6_escape, if_neg q1, if_pos q2, bd, nm, z1, z5, z6, ea, k2, l2, if_neg sn, if_neg x1, if_pos x2, k3]
        · have x1 : ¬ nI 2 = (0 : Int32) := by decide
          have x2 : ¬ nI 2 = (1 : Int32) := by decide
          have r58 : X7_escapeNow_58 N (nI 2) (nI s) (nI (lin c s (cm c x))) τ2 = some (nI (nx c s (lin c s (cm c x))), τ2) := by rw [X7_escapeNow_58, if_neg x1, if_neg x2, k5]; rfl
          refine ⟨nI (nx c s (lin c s (cm c x))), τ2, ?_, Or.inl ⟨σ4, ?_, z4, ⟨c, z7⟩⟩⟩
          · simp only [X7_escape, w2, bd, nm, p10, e1', X7_escape_26, si0, p0, reduceIte, X7_escapeNow, z3, X7_all_ok z7.1, k1, l1, if_neg sn, lp', r58]
          · simp only [X6_escape, if_neg q1, if_pos q2, bd, nm, z1, z5, z6, ea, k2, l2, if_neg sn, if_neg x1, if_neg x2, k3, if_neg ln, k4]
end ASKED
