/-! c3: all steps agree; the start -/
theorem steps_all {N : Nat} (hN : 4000000 ≤ N) : Steps_ok N Rl := by
  rintro σ τ ⟨c, h⟩
  exact ⟨Op_begin_ok hN h, Op_append_ok h, Op_clearBuffer_ok h, Op_firstError_ok hN h, Op_setNext_ok hN h, Op_setInit_ok hN h, Op_setProperty_ok hN h, Op_undo_ok hN h, Op_successor_ok hN h, Op_state_ok hN h, Op_system_ok hN h, Op_shortest_ok hN h, Op_candidate_ok hN h, Op_check_ok hN h, Op_escape_ok hN h, Op_modal_ok hN h, Op_prove_ok hN h, Op_proof_ok hN h, Op_frame_ok hN h, Op_cube_ok hN h, Op_certificate_ok hN h, Op_shrunken_ok hN h, Op_induction_ok hN h, Op_elimination_ok hN h, Op_isSafeWithFree_ok hN h, Op_leastCone_ok hN h, Op_simulate_ok hN h, Op_digest_ok hN h⟩
theorem start_all {N : Nat} (hN : 4000000 ≤ N) : ∃ σ0 τ0, X0_restart N 2 1 zst = some σ0 ∧ zS σ0 ∧ X7_start N 2 1 zst = some τ0 ∧ Rl σ0 τ0 := by
  have ho : okC (c0 2 1) := okC_0 (by omega) (by omega) (by omega)
  have h4 := nv_le ho
  obtain ⟨σ1, a0, a1, a2, a3, a4, a5, a6, a7, a8, a9, a10, a11⟩ := X0_restart_ok (σ := zst) hN (b := 2) (i := 1) (by omega) (by omega)
  obtain ⟨τ1, d0, d1, d2, d3, d4, d5, d6, d7, d8⟩ := X7_start_ok (τ := zst) hN ho
  refine ⟨σ1, τ1, a0, ⟨fun k hk => ?_, fun k hk => ?_, fun k hk => ?_, fun k hk => ?_⟩, d0, c0 2 1, ⟨ho, d2, d3, fun k v z1 z2 => ?_, d7, d8⟩, ⟨ho, a2, a3, a4, a5, a8, fun k v z1 z2 => ?_, a10, a11⟩, ⟨0, fun _ => 0, by omega, ?_, ?_, fun i hi => by omega⟩, ⟨0, 0, fun _ => 0, fun _ _ => 0, by omega, by omega, a7, d4, a6, fun i hi => by omega⟩, Or.inl ?_, Or.inl ⟨?_, d5⟩⟩
  · refine (a1.1 k ?_).trans rfl
    intro z
    simp only [List.mem_cons, List.not_mem_nil, or_false] at z
    omega
  · exact (a1.2.1 k (by simpa using hk)).trans rfl
  · exact (a1.2.2.1 k (by simp)).trans rfl
  · exact (a1.2.2.2 k (by simpa using hk.1)).trans rfl
  · exact d6 k v z1 (by omega)
  · exact (a9 k v (by have : k < 2 := z1; omega) (by omega)).trans (swb_al ho (by have : k < 2 := z1; omega))
  · exact (a1.1 0 (by decide)).trans rfl
  · exact (d1.1 3 (by decide)).trans rfl
  · exact (a1.1 13 (by decide)).trans rfl
  · exact (a1.1 14 (by decide)).trans rfl
