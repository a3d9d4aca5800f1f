/-! 93: the ops successor, state, system -/
theorem si0 (τ : St) (u : Int32) : (si τ 0 u).1 0 = u := rfl
theorem p0 : (0 : Int32) ≤ 0 := by decide
theorem p1 : ¬ (1 : Int32) ≤ 0 := by decide
theorem p2 : ¬ (2 : Int32) ≤ 0 := by decide
theorem p3 : ¬ (3 : Int32) ≤ 0 := by decide
theorem p10 : ¬ (1 : Int32) = 0 := by decide
section OPS
variable {c : Ck} {σ τ : St} {N : Nat}
theorem Op_successor_ok (hN : 4000000 ≤ N) (h : RC c σ τ) : Op_successor N Rl σ τ := by
  intro v1 v2
  have h64 := ns_le h.1.1
  have h4 := nv_le h.1.1
  have h7 := h.2.1.2.2.2.1
  have h8 := h.2.1.2.2.2.2.1
  rcases pk_ix v1 (n := ns c) (by omega) with q | q | ⟨s, hs, rfl⟩
  · refine ⟨0, si τ 0 1, ?_, Or.inr ⟨3, 1, σ, Or.inl ⟨rfl, rfl⟩, ?_, rfl, ⟨c, h.th 1⟩⟩⟩
    · simp only [X7_successor, X7_successor_38, bd, nm, si0, p10, p1, reduceIte, X7_states_ok h.1, wi_neg q]
    · simp only [X6_successor_t, X6_requireState_t, if_pos q, X6_requireState_t_15, tb]
  · obtain ⟨a1, a2, a3⟩ := wi_big (by omega) (by omega) q
    refine ⟨0, si τ 0 1, ?_, Or.inr ⟨3, 1, σ, Or.inl ⟨rfl, rfl⟩, ?_, rfl, ⟨c, h.th 1⟩⟩⟩
    · simp only [X7_successor, X7_successor_38, bd, nm, si0, p10, p1, reduceIte, X7_states_ok h.1, a1]
    · simp only [X6_successor_t, X6_requireState_t, if_neg a2, h7, if_neg a3, X6_requireState_t_15, tb]
  · have r1 : X6_requireState_t (nI s) σ = none := by simp (disch := omega) only [X6_requireState_t, h7, fa_lit, nI_leI, nI_ltI, nI_eq, nI_add, pk_mul, nI_clamp, bd, nm, gd_in, gd_bI, gd_b0, gd_b1, if_pos, if_neg, bI_n0, bI_n1, reduceIte, reduceCtorEq, Nat.add_zero]
    have r2 : X6_requireState (nI s) σ = some σ := by simp (disch := omega) only [X6_requireState, h7, fa_lit, nI_leI, nI_ltI, nI_eq, nI_add, pk_mul, nI_clamp, bd, nm, gd_in, gd_bI, gd_b0, gd_b1, if_pos, if_neg, bI_n0, bI_n1, reduceIte, reduceCtorEq, Nat.add_zero]
    have w1 := wi_in hs (by omega)
    rcases pk_ix v2 (n := nv c) (by omega) with q | q | ⟨v, hv, rfl⟩
    · refine ⟨0, si τ 0 2, ?_, Or.inr ⟨1, 2, σ, Or.inr ⟨rfl, rfl⟩, ?_, rfl, ⟨c, h.th 2⟩⟩⟩
      · simp only [X7_successor, X7_successor_38, bd, nm, si0, p10, p2, reduceIte, X7_states_ok h.1, X7_values_ok h.1, w1, wi_neg q]
      · simp only [X6_successor_t, r1, r2, tb, bd, if_pos q, X6_successor_t_20]
    · obtain ⟨a1, a2, a3⟩ := wi_big (by omega) (by omega) q
      refine ⟨0, si τ 0 2, ?_, Or.inr ⟨1, 2, σ, Or.inr ⟨rfl, rfl⟩, ?_, rfl, ⟨c, h.th 2⟩⟩⟩
      · simp only [X7_successor, X7_successor_38, bd, nm, si0, p10, p2, reduceIte, X7_states_ok h.1, X7_values_ok h.1, w1, a1]
      · simp only [X6_successor_t, r1, r2, tb, bd, if_neg a2, h8, if_neg a3, X6_successor_t_20]
    · have w2 := wi_in hv (by omega)
      refine ⟨nI (nx c s v), si τ 0 0, ?_, Or.inl ⟨σ, X6_successor_ok hN h hs hv, rfl, ⟨c, h.th 0⟩⟩⟩
      simp only [X7_successor, X7_successor_38, bd, nm, si0, p10, p0, reduceIte, X7_states_ok h.1, X7_values_ok h.1, w1, w2]
      rw [X7_successorOf_ok hN (h.th 0).1 (by omega) hv]
theorem Op_state_ok (hN : 4000000 ≤ N) (h : RC c σ τ) : Op_state N Rl σ τ := by
  intro v1 v2
  have h64 := ns_le h.1.1
  have h7 := h.2.1.2.2.2.1
  rcases pk_ix v1 (n := ns c) (by omega) with q | q | ⟨s, hs, rfl⟩
  · refine ⟨0, si τ 0 1, ?_, Or.inr ⟨3, 1, σ, Or.inl ⟨rfl, rfl⟩, ?_, rfl, ⟨c, h.th 1⟩⟩⟩
    · simp only [X7_state, X7_state_33, bd, nm, si0, p10, p1, reduceIte, X7_states_ok h.1, wi_neg q]
    · simp only [X6_state_t, X6_requireState_t, if_pos q, X6_requireState_t_15, tb]
  · obtain ⟨a1, a2, a3⟩ := wi_big (by omega) (by omega) q
    refine ⟨0, si τ 0 1, ?_, Or.inr ⟨3, 1, σ, Or.inl ⟨rfl, rfl⟩, ?_, rfl, ⟨c, h.th 1⟩⟩⟩
    · simp only [X7_state, X7_state_33, bd, nm, si0, p10, p1, reduceIte, X7_states_ok h.1, a1]
    · simp only [X6_state_t, X6_requireState_t, if_neg a2, h7, if_neg a3, X6_requireState_t_15, tb]
  · have r1 : X6_requireState_t (nI s) σ = none := by simp (disch := omega) only [X6_requireState_t, h7, fa_lit, nI_leI, nI_ltI, nI_eq, nI_add, pk_mul, nI_clamp, bd, nm, gd_in, gd_bI, gd_b0, gd_b1, if_pos, if_neg, bI_n0, bI_n1, reduceIte, reduceCtorEq, Nat.add_zero]
    have r2 : X6_requireState (nI s) σ = some σ := by simp (disch := omega) only [X6_requireState, h7, fa_lit, nI_leI, nI_ltI, nI_eq, nI_add, pk_mul, nI_clamp, bd, nm, gd_in, gd_bI, gd_b0, gd_b1, if_pos, if_neg, bI_n0, bI_n1, reduceIte, reduceCtorEq, Nat.add_zero]
    have w1 := wi_in hs (by omega)
    rcases pk_ix v2 (n := 5) (by omega) with q | q | ⟨v, hv, rfl⟩
    · refine ⟨0, si τ 0 2, ?_, Or.inr ⟨1, 2, σ, Or.inr ⟨rfl, rfl⟩, ?_, rfl, ⟨c, h.th 2⟩⟩⟩
      · simp only [X7_state, X7_state_33, bd, nm, si0, p10, p2, reduceIte, X7_states_ok h.1, w1, wi_neg q]
      · simp only [X6_state_t, r1, r2, tb, bd, if_pos q, X6_state_t_14]
    · obtain ⟨a1, a2, a3⟩ := wi_big (by omega) (by omega) q
      have a1' : X7_within v2 0 4 = some 0 := a1
      have a3' : ¬ v2 < 5 := a3
      refine ⟨0, si τ 0 2, ?_, Or.inr ⟨1, 2, σ, Or.inr ⟨rfl, rfl⟩, ?_, rfl, ⟨c, h.th 2⟩⟩⟩
      · simp only [X7_state, X7_state_33, bd, nm, si0, p10, p2, reduceIte, X7_states_ok h.1, w1, a1']
      · simp only [X6_state_t, r1, r2, tb, bd, if_neg a2, if_neg a3', X6_state_t_14]
    · have w2 : X7_within (nI v) 0 4 = some 1 := by have z := wi_in hv (by omega); rwa [show (nI 5 - 1 : Int32) = 4 by decide] at z
      obtain ⟨σ', b1, b2⟩ := X6_state_ok hN h hs hv
      obtain ⟨τ', d1, d2⟩ := X7_stateNow_ok hN (h.th 0).1 hs hv
      refine ⟨stA c s v, τ', ?_, Or.inl ⟨σ', b1, (d2.1 0 (by decide)).trans rfl, ⟨c, (b2.th 0).sc FR.rf (d2.mo (by decide))⟩⟩⟩
      simp only [X7_state, X7_state_33, bd, nm, si0, p10, p0, reduceIte, X7_states_ok h.1, w1, w2]
      rw [d1]
theorem Op_system_ok (hN : 4000000 ≤ N) (h : RC c σ τ) : Op_system N Rl σ τ := by
  intro v1
  rcases pk_ix v1 (n := 10) (by omega) with q | q | ⟨v, hv, rfl⟩
  · refine ⟨0, si τ 0 1, ?_, Or.inr ⟨1, 1, σ, ⟨rfl, rfl⟩, ?_, rfl, ⟨c, h.th 1⟩⟩⟩
    · simp only [X7_system, X7_system_16, bd, nm, si0, p10, p1, reduceIte, wi_neg q]
    · simp only [X6_system_t, if_pos q, X6_system_t_10]
  · obtain ⟨a1, a2, a3⟩ := wi_big (by omega) (by omega) q
    have a1' : X7_within v1 0 9 = some 0 := a1
    have a3' : ¬ v1 < 10 := a3
    refine ⟨0, si τ 0 1, ?_, Or.inr ⟨1, 1, σ, ⟨rfl, rfl⟩, ?_, rfl, ⟨c, h.th 1⟩⟩⟩
    · simp only [X7_system, X7_system_16, bd, nm, si0, p10, p1, reduceIte, a1']
    · simp only [X6_system_t, if_neg a2, if_neg a3', X6_system_t_10]
  · have w2 : X7_within (nI v) 0 9 = some 1 := by have z := wi_in hv (by omega); rwa [show (nI 10 - 1 : Int32) = 9 by decide] at z
    obtain ⟨K, o, r, w, hK⟩ := h.2.2.2.1
    obtain ⟨σ', b1, b2, _⟩ := X6_system_ok hN h hK.2.2.1 hv
    obtain ⟨τ', d1, d2⟩ := X7_systemNow_ok hN (h.th 0).1 (K := K) hK.2.2.2.1 hv
    refine ⟨syA c K v, τ', ?_, Or.inl ⟨σ', b1, (d2.1 0 (by decide)).trans rfl, ⟨c, (b2.th 0).sc FR.rf (d2.mo (by decide))⟩⟩⟩
    simp only [X7_system, X7_system_16, bd, nm, si0, p10, p0, reduceIte, w2]
    rw [d1]
end OPS
