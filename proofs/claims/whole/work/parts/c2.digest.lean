/-! c2: the digest -/
theorem jl {A B RA RB : Type} (LA : Nat → Nat → A → RA) (LB : Nat → Nat → B → RB) (e : Nat) (I : Nat → A → B → Prop) (J : RA → RB → Prop) (hs : ∀ n n' i a b, i < e → I i a b → ∃ a' b', I (i + 1) a' b' ∧ LA (n + 1) i a = LA n (i + 1) a' ∧ LB (n' + 1) i b = LB n' (i + 1) b') (hx : ∀ n n' a b, I e a b → J (LA (n + 1) e a) (LB (n' + 1) e b)) : ∀ d i n n' a b, i + d = e → I i a b → d < n → d < n' → J (LA n i a) (LB n' i b) := by
  intro d
  induction d with
  | zero =>
    intro i n n' a b hi hI hn hn'
    obtain ⟨n, rfl⟩ : ∃ m, n = m + 1 := ⟨n - 1, by omega⟩
    obtain ⟨n', rfl⟩ : ∃ m, n' = m + 1 := ⟨n' - 1, by omega⟩
    have : i = e := by omega
    subst this
    exact hx n n' a b hI
  | succ d ih =>
    intro i n n' a b hi hI hn hn'
    obtain ⟨n, rfl⟩ : ∃ m, n = m + 1 := ⟨n - 1, by omega⟩
    obtain ⟨n', rfl⟩ : ∃ m, n' = m + 1 := ⟨n' - 1, by omega⟩
    obtain ⟨a', b', x1, x2, x3⟩ := hs n n' i a b (by omega) hI
    rw [x2, x3]
    exact ih (i + 1) n n' a' b' (by omega) x1 (by omega) (by omega)
def DR (c : Ck) (h : Int64) (σ τ : St) : Prop := RC c σ τ ∧ τ.2.1 2 = h
section DIG
variable {c : Ck} {h : Int64} {σ τ : St} {N : Nat}
theorem DR.m (d : DR c h σ τ) (v : Int64) : X7_mix v τ = some (sj τ 2 (31 * h + v)) ∧ DR c (31 * h + v) σ (sj τ 2 (31 * h + v)) := by
  refine ⟨?_, d.1.sc FR.rf (FR.rf.j (by decide)), sj_s⟩
  rw [X7_mix, d.2]
  rfl
theorem DR.g {σ' τ' : St} (d : DR c h σ τ) (r : RC c σ' τ') (e : τ'.2.1 2 = τ.2.1 2) : DR c h σ' τ' := ⟨r, e.trans d.2⟩
theorem mixed_ok (h v : Int64) : X6_mixed h v = some (31 * h + v) := rfl
theorem dg_sys (hN : 4000000 ≤ N) (d : DR c h σ τ) (k29 : Int64 → St → Option (Int64 × St)) (k36 : St → Option (Int64 × St)) : ∃ h' σ' τ', X6_digest_6 N k29 N h (nI 0) σ = k29 h' σ' ∧ X7_digest_14 N k36 N (nI 0) τ = k36 τ' ∧ DR c h' σ' τ' := by
  refine jl (fun n i (a : Int64 × St) => X6_digest_6 N k29 n a.1 (nI i) a.2) (fun n i (b : St) => X7_digest_14 N k36 n (nI i) b) 10 (fun i a b => DR c a.1 a.2 b) (fun r r' => ∃ h' σ' τ', r = k29 h' σ' ∧ r' = k36 τ' ∧ DR c h' σ' τ') ?_ ?_ 10 0 N N (h, σ) τ (by omega) d (by omega) (by omega)
  · rintro n n' i ⟨h, σ⟩ τ hi d
    dsimp only at d ⊢
    obtain ⟨K, o, r, w, hK⟩ := d.1.2.2.2.1
    obtain ⟨σ', a1, a2, _⟩ := X6_system_ok hN d.1 hK.2.2.1 hi
    obtain ⟨τ', b1, b2⟩ := X7_systemNow_ok hN d.1.1 (K := K) hK.2.2.2.1 hi
    have d' : DR c h σ' τ' := d.g (a2.sc FR.rf (b2.mo (by decide))) (b2.2.1 2 (by decide))
    obtain ⟨m1, m2⟩ := d'.m (syA c K i).toInt64
    have cc : ¬ (10 : Int32) ≤ nI i := nI_ge (b := 10) (by omega) (by omega)
    refine ⟨(31 * h + (syA c K i).toInt64, σ'), sj τ' 2 (31 * h + (syA c K i).toInt64), m2, ?_, ?_⟩
    · rw [X6_digest_6, X6_digest_6b, if_neg cc, a1, bd, mixed_ok, bd, nm, nI_1]
    · rw [X7_digest_14, X7_digest_14b, if_neg cc, b1, bd, m1, bd, nm, nI_1]
  · rintro n n' ⟨h, σ⟩ τ d
    dsimp only at d ⊢
    have cc : (10 : Int32) ≤ nI 10 := by decide
    refine ⟨h, σ, τ, ?_, ?_, d⟩
    · rw [X6_digest_6, X6_digest_6b, if_pos cc]
    · rw [X7_digest_14, X7_digest_14b, if_pos cc]
theorem dg_st5 (hN : 4000000 ≤ N) {s : Nat} (hs : s < ns c) (d : DR c h σ τ) (k70 : Int64 → Int32 → St → Option (Int64 × St)) (k34 : Int32 → St → Option St) : ∃ h' σ' τ', X6_digest_45 N k70 (nI s) N h (nI 0) σ = k70 h' (nI s) σ' ∧ X7_mixStates_12 N k34 (nI s) N (nI 0) τ = k34 (nI s) τ' ∧ DR c h' σ' τ' := by
  refine jl (fun n i (a : Int64 × St) => X6_digest_45 N k70 (nI s) n a.1 (nI i) a.2) (fun n i (b : St) => X7_mixStates_12 N k34 (nI s) n (nI i) b) 5 (fun i a b => DR c a.1 a.2 b) (fun r r' => ∃ h' σ' τ', r = k70 h' (nI s) σ' ∧ r' = k34 (nI s) τ' ∧ DR c h' σ' τ') ?_ ?_ 5 0 N N (h, σ) τ (by omega) d (by omega) (by omega)
  · rintro n n' i ⟨h, σ⟩ τ hi d
    dsimp only at d ⊢
    obtain ⟨σ', a1, a2⟩ := X6_state_ok hN d.1 hs hi
    obtain ⟨τ', b1, b2⟩ := X7_stateNow_ok hN d.1.1 hs hi
    have d' : DR c h σ' τ' := d.g (a2.sc FR.rf (b2.mo (by decide))) (b2.2.1 2 (by decide))
    obtain ⟨m1, m2⟩ := d'.m (stA c s i).toInt64
    have cc : ¬ (5 : Int32) ≤ nI i := nI_ge (b := 5) (by omega) (by omega)
    refine ⟨(31 * h + (stA c s i).toInt64, σ'), sj τ' 2 (31 * h + (stA c s i).toInt64), m2, ?_, ?_⟩
    · rw [X6_digest_45, X6_digest_45b, if_neg cc, a1, bd, mixed_ok, bd, nm, nI_1]
    · rw [X7_mixStates_12, X7_mixStates_12b, if_neg cc, b1, bd, m1, bd, nm, nI_1]
  · rintro n n' ⟨h, σ⟩ τ d
    dsimp only at d ⊢
    have cc : (5 : Int32) ≤ nI 5 := by decide
    refine ⟨h, σ, τ, ?_, ?_, d⟩
    · rw [X6_digest_45, X6_digest_45b, if_pos cc]
    · rw [X7_mixStates_12, X7_mixStates_12b, if_pos cc]
theorem dg_suc (hN : 4000000 ≤ N) {s : Nat} (hs : s < ns c) (d : DR c h σ τ) (k104 : Int64 → Int32 → St → Option (Int64 × St)) (k61 : Int32 → St → Option St) : ∃ h' σ' τ', X6_digest_73 N k104 (nI s) N h (nI 0) σ = k104 h' (nI s) σ' ∧ X7_mixStates_36 N k61 (nI s) N (nI 0) τ = k61 (nI s) τ' ∧ DR c h' σ' τ' := by
  have h64 := ns_le d.1.1.1
  have h4 := nv_le d.1.1.1
  refine jl (fun n i (a : Int64 × St) => X6_digest_73 N k104 (nI s) n a.1 (nI i) a.2) (fun n i (b : St) => X7_mixStates_36 N k61 (nI s) n (nI i) b) (nv c) (fun i a b => DR c a.1 a.2 b) (fun r r' => ∃ h' σ' τ', r = k104 h' (nI s) σ' ∧ r' = k61 (nI s) τ' ∧ DR c h' σ' τ') ?_ ?_ (nv c) 0 N N (h, σ) τ (by omega) d (by omega) (by omega)
  · rintro n n' i ⟨h, σ⟩ τ hi d
    dsimp only at d ⊢
    have a1 := X6_successor_ok hN d.1 hs hi
    have b1 := X7_successorOf_ok hN d.1.1 (s := s) (by omega) hi
    obtain ⟨m1, m2⟩ := d.m (nI (nx c s i)).toInt64
    have cc : ¬ nI (nv c) ≤ nI i := nI_ge (by omega) (by omega)
    refine ⟨(31 * h + (nI (nx c s i)).toInt64, σ), sj τ 2 (31 * h + (nI (nx c s i)).toInt64), m2, ?_, ?_⟩
    · rw [X6_digest_73, X6_digest_73b, d.1.2.1.2.2.2.2.1, if_neg cc, a1, bd, mixed_ok, bd, nm, nI_1]
    · rw [X7_mixStates_36, X7_mixStates_36b, X7_values_ok d.1.1, bd, if_neg cc, b1, bd, m1, bd, nm, nI_1]
  · rintro n n' ⟨h, σ⟩ τ d
    dsimp only at d ⊢
    have cc : nI (nv c) ≤ nI (nv c) := nI_le (Nat.le_refl _) (by omega)
    refine ⟨h, σ, τ, ?_, ?_, d⟩
    · rw [X6_digest_73, X6_digest_73b, d.1.2.1.2.2.2.2.1, if_pos cc]
    · rw [X7_mixStates_36, X7_mixStates_36b, X7_values_ok d.1.1, bd, if_pos cc]
theorem dg_sts (hN : 4000000 ≤ N) (d : DR c h σ τ) (k110 : Int64 → St → Option (Int64 × St)) : ∃ h' σ' τ', X6_digest_31 N k110 N h (nI 0) σ = k110 h' σ' ∧ X7_mixStates N τ = some τ' ∧ DR c h' σ' τ' := by
  have h64 := ns_le d.1.1.1
  unfold X7_mixStates
  refine jl (fun n i (a : Int64 × St) => X6_digest_31 N k110 n a.1 (nI i) a.2) (fun n i (b : St) => X7_mixStates_2 N (fun σ => X7_mixStates_67 σ) n (nI i) b) (ns c) (fun i a b => DR c a.1 a.2 b) (fun r r' => ∃ h' σ' τ', r = k110 h' σ' ∧ r' = some τ' ∧ DR c h' σ' τ') ?_ ?_ (ns c) 0 N N (h, σ) τ (by omega) d (by omega) (by omega)
  · rintro n n' i ⟨h, σ⟩ τ hi d
    dsimp only at d ⊢
    obtain ⟨h1, σ1, τ1, a1, a2, a3⟩ := dg_st5 hN hi d (fun v1 v3 σ => X6_digest_70 N (fun v1 v3 σ => X6_digest_31 N k110 n v1 v3 σ) v1 v3 σ) (fun v1 σ => X7_mixStates_34 N (fun v1 σ => X7_mixStates_2 N (fun σ => X7_mixStates_67 σ) n' v1 σ) v1 σ)
    obtain ⟨h2, σ2, τ2, b1, b2, b3⟩ := dg_suc hN hi a3 (fun v1 v3 σ => X6_digest_104 (fun v1 v3 σ => X6_digest_31 N k110 n v1 v3 σ) v1 v3 σ) (fun v1 σ => X7_mixStates_61 (fun v1 σ => X7_mixStates_2 N (fun σ => X7_mixStates_67 σ) n' v1 σ) v1 σ)
    have cc : ¬ nI (ns c) ≤ nI i := nI_ge (by omega) (by omega)
    refine ⟨(h2, σ2), τ2, b3, ?_, ?_⟩
    · rw [X6_digest_31, X6_digest_31b, d.1.2.1.2.2.2.1, if_neg cc]
      refine Eq.trans a1 ?_
      show X6_digest_70 N _ h1 (nI i) σ1 = _
      rw [X6_digest_70]
      refine Eq.trans b1 ?_
      show X6_digest_104 _ h2 (nI i) σ2 = _
      rw [X6_digest_104, nm, nI_1]
    · rw [X7_mixStates_2, X7_mixStates_2b, X7_states_ok d.1.1, bd, if_neg cc]
      refine Eq.trans a2 ?_
      show X7_mixStates_34 N _ (nI i) τ1 = _
      rw [X7_mixStates_34]
      refine Eq.trans b2 ?_
      show X7_mixStates_61 _ (nI i) τ2 = _
      rw [X7_mixStates_61, nm, nI_1]
  · rintro n n' ⟨h, σ⟩ τ d
    dsimp only at d ⊢
    have cc : nI (ns c) ≤ nI (ns c) := nI_le (Nat.le_refl _) (by omega)
    refine ⟨h, σ, τ, ?_, ?_, d⟩
    · rw [X6_digest_31, X6_digest_31b, d.1.2.1.2.2.2.1, if_pos cc]
    · rw [X7_mixStates_2, X7_mixStates_2b, X7_states_ok d.1.1, bd, if_pos cc]
      rfl
theorem dg_ind (hN : 4000000 ≤ N) (d : DR c h σ τ) (b : Bool) : ∃ σ' τ', X6_induction N (bI b) σ = some (inR c b, σ') ∧ X7_inductionNow N (bI b) τ = some (inR c b, τ') ∧ DR c h σ' τ' := by
  obtain ⟨σ1, d1, d2, d3, d4⟩ := d.1.refresh hN
  obtain ⟨τ2, x1, x2⟩ := X7_inductionNow_ok (b := b) hN d.1.1
  obtain ⟨σ2, y1, y2⟩ := X5_leastInduction_ok (b := b) hN d2.2.1 d4.1 d4.2.2.2.2.2.1
  refine ⟨σ2, τ2, ?_, x1, d.g (d2.sc (y2.mo (by decide)) (x2.mo (by decide))) (x2.2.1 2 (by decide))⟩
  simp only [X6_induction, d1, bd, y1]
theorem dg_eli (hN : 4000000 ≤ N) (d : DR c h σ τ) {W : Nat} (hW1 : 1 ≤ W) (hW : W ≤ 3) : ∃ y σ' τ', X6_elimination N (nI W) σ = some (y, σ') ∧ X7_eliminationNow N (nI W) τ = some (y, τ') ∧ DR c h σ' τ' := by
  obtain ⟨σ1, d1, d2, d3, d4⟩ := d.1.refresh hN
  obtain ⟨y, u, w', x1, x2, x3, x4⟩ := elim_ok hN d2.2.1 d4.1 d.1.1 hW
  have q1 : ¬ nI W < 1 := nI_nlt (b := 1) hW1 (by omega)
  have q2 : nI W ≤ 3 := nI_le (b := 3) hW (by omega)
  refine ⟨y, u, w', ?_, x2, d.g (d2.sc (x3.mo (by decide)) (x4.mo (by decide))) (x4.2.1 2 (by decide))⟩
  simp only [X6_elimination, if_neg q1, if_pos q2, d1, bd, x1]
theorem dg_con (hN : 4000000 ≤ N) (d : DR c h σ τ) : ∃ r σ', X6_leastCone N σ = some (r, σ') ∧ X7_coneNow N τ = some r ∧ DR c h σ' τ := by
  obtain ⟨σ1, d1, d2, d3, d4⟩ := d.1.refresh hN
  obtain ⟨r, r1, r2⟩ := X7_coneNow_ok hN d.1.1
  obtain ⟨r', r3, r4⟩ := X5_smallestCone_ok hN d2.2.1 d4.1
  have := cnp_u r2 r4
  subst this
  refine ⟨r, σ1, ?_, r1, d.g d2 rfl⟩
  simp only [X6_leastCone, d1, bd, r3]
theorem PR_e {σ' τ' : St} (hp : PR c σ τ) (h14 : σ.1 14 = 0) : τ.1 9 = 0 := by
  rcases hp with ⟨_, z⟩ | ⟨z, _⟩
  · exact z
  · rw [h14] at z; exact absurd z (by decide)
theorem dg_prn (hN : 4000000 ≤ N) (d : DR c h σ τ) (k30 : Int64 → St → Option (Int64 × St)) (k37 : St → Option St) : ∃ h' τ', X6_hashOfProof_5 N k30 N h (nI 0) σ = k30 h' σ ∧ X7_mixProof_2 N k37 N (nI 0) τ = k37 τ' ∧ DR c h' σ τ' := by
  refine jl (fun n i (a : Int64) => X6_hashOfProof_5 N k30 n a (nI i) σ) (fun n i (b : St) => X7_mixProof_2 N k37 n (nI i) b) 8 (fun i a b => DR c a σ b) (fun r r' => ∃ h' τ', r = k30 h' σ ∧ r' = k37 τ' ∧ DR c h' σ τ') ?_ ?_ 8 0 N N h τ (by omega) d (by omega) (by omega)
  · rintro n n' i h τ hi d
    have cc : ¬ (8 : Int32) ≤ nI i := nI_ge (b := 8) (by omega) (by omega)
    have q1 : ¬ nI i < 0 := nI_pos (by omega)
    have q2 : nI i < 8 := nI_lt (b := 8) hi (by omega)
    rcases d.1.2.2.2.2.2 with ⟨y1, y2⟩ | ⟨y1, y2, y3⟩
    · obtain ⟨m1, m2⟩ := d.m (-1)
      refine ⟨31 * h + (-1), sj τ 2 (31 * h + (-1)), m2, ?_, ?_⟩
      · have e1 : X6_proof N σ (nI i) = some (-1) := by rw [X6_proof, if_neg q1, if_pos q2, if_pos y1]
        have e2 : (-1 : Int32).toInt64 = -1 := by decide
        rw [X6_hashOfProof_5, X6_hashOfProof_5b, if_neg cc, e1, bd, e2, mixed_ok, bd, nm, nI_1]
      · rw [X7_mixProof_2, X7_mixProof_2b, if_neg cc, if_pos y2, X7_mixProof_28, m1, bd, nm, nI_1]
    · obtain ⟨r, r1, r2⟩ := prn_ok hN y3 hi
      obtain ⟨m1, m2⟩ := d.m r.toInt64
      have z1 : ¬ σ.1 14 = 0 := by rw [y1]; decide
      have z2 : ¬ τ.1 9 = 0 := by rw [y2]; decide
      refine ⟨31 * h + r.toInt64, sj τ 2 (31 * h + r.toInt64), m2, ?_, ?_⟩
      · have e1 : X6_proof N σ (nI i) = some r := by rw [X6_proof, if_neg q1, if_pos q2, if_neg z1, r2, bd]
        rw [X6_hashOfProof_5, X6_hashOfProof_5b, if_neg cc, e1, bd, mixed_ok, bd, nm, nI_1]
      · rw [X7_mixProof_2, X7_mixProof_2b, if_neg cc, if_neg z2, r1, bd, X7_mixProof_28, m1, bd, nm, nI_1]
  · rintro n n' h τ d
    have cc : (8 : Int32) ≤ nI 8 := by decide
    refine ⟨h, τ, ?_, ?_, d⟩
    · rw [X6_hashOfProof_5, X6_hashOfProof_5b, if_pos cc]
    · rw [X7_mixProof_2, X7_mixProof_2b, if_pos cc]
theorem dg_frm (hN : 4000000 ≤ N) (d : DR c h σ τ) (h14 : σ.1 14 = 1) (k74 : Int64 → St → Option (Int64 × St)) (k69 : St → Option St) : ∃ h' τ', X6_hashOfProof_45 k74 N h (nI 0) σ = k74 h' σ ∧ X7_mixProof_39 N k69 N (nI 0) τ = k69 τ' ∧ DR c h' σ τ' := by
  have z1 : ¬ σ.1 14 = 0 := by rw [h14]; decide
  obtain ⟨k, k1, k2⟩ : ∃ k, k ≤ 67 ∧ σ.1 16 = nI k := by
    rcases d.1.2.2.2.2.2 with ⟨y1, _⟩ | ⟨_, _, y3⟩
    · exact absurd y1 z1
    · obtain ⟨k, k1, k2, _⟩ := frs_ok hN d.1.1 y3
      exact ⟨k, k1, k2⟩
  have fr : ∀ {h : Int64} {τ : St}, DR c h σ τ → τ.1 9 = 1 ∧ τ.1 11 = nI k ∧ ∀ L, L ≤ k → ∃ x, X7_frameOf N τ (nI L) = some x ∧ X4_frameAt σ (nI L) = some x := fun {h τ} d => by
    rcases d.1.2.2.2.2.2 with ⟨y1, _⟩ | ⟨_, y2, y3⟩
    · exact absurd y1 z1
    · obtain ⟨k', k1', k2', k3', k4'⟩ := frs_ok hN d.1.1 y3
      have : k' = k := by
        rw [k2, nI_eq (by omega) (by omega)] at k2'
        exact k2'.symm
      subst this
      exact ⟨y2, k3', k4'⟩
  refine jl (fun n i (a : Int64) => X6_hashOfProof_45 k74 n a (nI i) σ) (fun n i (b : St) => X7_mixProof_39 N k69 n (nI i) b) (k + 1) (fun i a b => DR c a σ b) (fun r r' => ∃ h' τ', r = k74 h' σ ∧ r' = k69 τ' ∧ DR c h' σ τ') ?_ ?_ (k + 1) 0 N N h τ (by omega) d (by omega) (by omega)
  · rintro n n' i h τ hi d
    obtain ⟨t9, t11, tf⟩ := fr d
    obtain ⟨x, x1, x2⟩ := tf i (by omega)
    obtain ⟨m1, m2⟩ := d.m x
    have cc : ¬ nI k < nI i := nI_nlt (by omega) (by omega)
    have q1 : ¬ nI i < 0 := nI_pos (by omega)
    have q2 : nI i ≤ nI k := nI_le (by omega) (by omega)
    have r1 : X6_requireProof σ = some σ := if_neg z1
    have e1 : X6_frame (nI i) σ = some (x, σ) := by rw [X6_frame, r1, bd, if_neg q1, k2, if_pos q2, x2, bd]
    have z2 : ¬ τ.1 9 = 0 := by rw [t9]; decide
    refine ⟨31 * h + x, sj τ 2 (31 * h + x), m2, ?_, ?_⟩
    · rw [X6_hashOfProof_45, X6_hashOfProof_45b, k2, if_neg cc, e1, bd, mixed_ok, bd, nm, nI_1]
    · rw [X7_mixProof_39, X7_mixProof_39b, t11, if_neg cc, if_neg z2, x1, bd, m1, bd, nm, nI_1]
  · rintro n n' h τ d
    obtain ⟨t9, t11, tf⟩ := fr d
    have cc : nI k < nI (k + 1) := nI_lt (by omega) (by omega)
    refine ⟨h, τ, ?_, ?_, d⟩
    · rw [X6_hashOfProof_45, X6_hashOfProof_45b, k2, if_pos cc]
    · rw [X7_mixProof_39, X7_mixProof_39b, t11, if_pos cc]
theorem dg_cub (hN : 4000000 ≤ N) (d : DR c h σ τ) (h14 : σ.1 14 = 1) (k127 : Int64 → St → Option (Int64 × St)) (k125 : St → Option St) : ∃ h' τ', X6_hashOfProof_77 N k127 N h (nI 0) σ = k127 h' σ ∧ X7_mixProof_71 k125 N (nI 0) τ = k125 τ' ∧ DR c h' σ τ' := by
  have z1 : ¬ σ.1 14 = 0 := by rw [h14]; decide
  obtain ⟨k, k1, k2⟩ : ∃ k, k ≤ 729 ∧ σ.1 23 = nI k := by
    rcases d.1.2.2.2.2.2 with ⟨y1, _⟩ | ⟨_, _, y3⟩
    · exact absurd y1 z1
    · obtain ⟨k, k1, k2, _⟩ := cbs_ok y3
      exact ⟨k, k1, k2⟩
  have fr : ∀ {h : Int64} {τ : St}, DR c h σ τ → τ.1 9 = 1 ∧ τ.1 12 = nI k ∧ ∀ i, i < k → X1_number σ (nI i) (nI 0) = some (τ.2.2.1 6 i) ∧ X1_number σ (nI i) (nI 1) = some (τ.2.2.1 7 i) ∧ X1_number σ (nI i) (nI 2) = some (τ.2.2.1 8 i) := fun {h τ} d => by
    rcases d.1.2.2.2.2.2 with ⟨y1, _⟩ | ⟨_, y2, y3⟩
    · exact absurd y1 z1
    · obtain ⟨k', k1', k2', k3', k4'⟩ := cbs_ok y3
      have : k' = k := by
        rw [k2, nI_eq (by omega) (by omega)] at k2'
        exact k2'.symm
      subst this
      exact ⟨y2, k3', k4'⟩
  obtain ⟨N4, hN4⟩ : ∃ m, N = m + 1 + 1 + 1 + 1 := ⟨N - 4, by omega⟩
  have r1 : X6_requireProof σ = some σ := if_neg z1
  refine jl (fun n i (a : Int64) => X6_hashOfProof_77 N k127 n a (nI i) σ) (fun n i (b : St) => X7_mixProof_71 k125 n (nI i) b) k (fun i a b => DR c a σ b) (fun r r' => ∃ h' τ', r = k127 h' σ ∧ r' = k125 τ' ∧ DR c h' σ τ') ?_ ?_ k 0 N N h τ (by omega) d (by omega) (by omega)
  · rintro n n' i h τ hi d
    obtain ⟨t9, t12, tf⟩ := fr d
    obtain ⟨x1, x2, x3⟩ := tf i hi
    obtain ⟨m1, m2⟩ := d.m (τ.2.2.1 6 i).toInt64
    obtain ⟨m3, m4⟩ := m2.m (τ.2.2.1 7 i).toInt64
    obtain ⟨m5, m6⟩ := m4.m (τ.2.2.1 8 i).toInt64
    have cc : ¬ nI k ≤ nI i := nI_ge (by omega) (by omega)
    have q1 : ¬ nI i < 0 := nI_pos (by omega)
    have q2 : nI i < nI k := nI_lt hi (by omega)
    have z2 : ¬ τ.1 9 = 0 := by rw [t9]; decide
    have ec : ∀ (w : Nat) (y : Int32), w < 3 → X1_number σ (nI i) (nI w) = some y → X6_cube (nI i) (nI w) σ = some (y, σ) := fun w y hw e => by
      rw [X6_cube, r1, bd, if_neg q1, k2, if_pos q2, if_neg (nI_pos (by omega)), if_pos (show nI w ≤ 2 from nI_le (b := 2) (by omega) (by omega)), e, bd]
    have c1 := ec 0 _ (by omega) x1
    have c2 := ec 1 _ (by omega) x2
    have c3 := ec 2 _ (by omega) x3
    have gi : ∀ {β : Type} (y : Option β), gd (inb (nI i) 1024) y = y := fun y => gd_in (by omega) (by omega)
    refine ⟨31 * (31 * (31 * h + (τ.2.2.1 6 i).toInt64) + (τ.2.2.1 7 i).toInt64) + (τ.2.2.1 8 i).toInt64, _, m6, ?_, ?_⟩
    · have e95 : ∀ (K : Int64 → Int32 → St → Option (Int64 × St)), X6_hashOfProof_95 K (nI i) N h 0 σ = K (31 * (31 * (31 * h + (τ.2.2.1 6 i).toInt64) + (τ.2.2.1 7 i).toInt64) + (τ.2.2.1 8 i).toInt64) (nI i) σ := fun K => by
        rw [hN4]
        show X6_hashOfProof_95 K (nI i) (N4 + 1 + 1 + 1 + 1) h (nI 0) σ = _
        rw [X6_hashOfProof_95, X6_hashOfProof_95b, if_neg (by decide), c1, bd, mixed_ok, bd, nm, nI_1, X6_hashOfProof_95, X6_hashOfProof_95b, if_neg (by decide), c2, bd, mixed_ok, bd, nm, nI_1, X6_hashOfProof_95, X6_hashOfProof_95b, if_neg (by decide), c3, bd, mixed_ok, bd, nm, nI_1, X6_hashOfProof_95, X6_hashOfProof_95b, if_pos (by decide)]
      rw [X6_hashOfProof_77, X6_hashOfProof_77b, k2, if_neg cc, e95, X6_hashOfProof_121, nm, nI_1]
    · rw [X7_mixProof_71, X7_mixProof_71b, t12, if_neg cc, if_neg z2, gi, nI_clamp (by omega), m1, bd, gi]
      show bd (X7_mix (τ.2.2.1 7 i).toInt64 _) _ = _
      rw [m3, bd, gi]
      show bd (X7_mix (τ.2.2.1 8 i).toInt64 _) _ = _
      rw [m5, bd, nm, nI_1]
  · rintro n n' h τ d
    obtain ⟨t9, t12, tf⟩ := fr d
    have cc : nI k ≤ nI k := nI_le (Nat.le_refl _) (by omega)
    refine ⟨h, τ, ?_, ?_, d⟩
    · rw [X6_hashOfProof_77, X6_hashOfProof_77b, k2, if_pos cc]
    · rw [X7_mixProof_71, X7_mixProof_71b, t12, if_pos cc]
theorem dg_prf (hN : 4000000 ≤ N) (d : DR c h σ τ) : ∃ h' τ', X6_hashOfProof N h σ = some (h', σ) ∧ X7_mixProof N τ = some τ' ∧ DR c h' σ τ' := by
  obtain ⟨h1, τ1, a1, a2, a3⟩ := dg_prn hN d (fun v3 σ => X6_hashOfProof_30 N v3 σ) (fun σ => X7_mixProof_37 N σ)
  obtain ⟨f, hf⟩ : ∃ m, N = m + 1 := ⟨N - 1, by omega⟩
  rcases a3.1.2.2.2.2.2 with ⟨y1, y2⟩ | ⟨y1, y2, y3⟩
  · refine ⟨h1, τ1, ?_, ?_, a3⟩
    · rw [X6_hashOfProof]
      refine Eq.trans a1 ?_
      show X6_hashOfProof_30 N h1 σ = _
      rw [X6_hashOfProof_30, if_pos y1]
    · rw [X7_mixProof]
      refine Eq.trans a2 ?_
      have e39 : ∀ K, X7_mixProof_39 N K N 0 τ1 = K τ1 := fun K => by
        have : ∀ n, X7_mixProof_39 N K (n + 1) 0 τ1 = K τ1 := fun n => by
          rw [X7_mixProof_39, X7_mixProof_39b, if_pos y2, ite_self]
        have e := this f
        rw [← hf] at e
        exact e
      have e71 : ∀ K, X7_mixProof_71 K N 0 τ1 = K τ1 := fun K => by
        have : ∀ n, X7_mixProof_71 K (n + 1) 0 τ1 = K τ1 := fun n => by
          rw [X7_mixProof_71, X7_mixProof_71b, if_pos y2, ite_self]
        have e := this f
        rw [← hf] at e
        exact e
      show X7_mixProof_37 N τ1 = _
      rw [X7_mixProof_37, e39, X7_mixProof_69, e71]
      rfl
  · obtain ⟨h2, τ2, b1, b2, b3⟩ := dg_frm hN a3 y1 (fun v3 σ => X6_hashOfProof_74 N v3 σ) (fun σ => X7_mixProof_69 N σ)
    obtain ⟨h3, τ3, e1, e2, e3⟩ := dg_cub hN b3 y1 (fun v3 σ => X6_hashOfProof_127 v3 σ) (fun σ => X7_mixProof_125 σ)
    have z1 : ¬ σ.1 14 = 0 := by rw [y1]; decide
    refine ⟨h3, τ3, ?_, ?_, e3⟩
    · rw [X6_hashOfProof]
      refine Eq.trans a1 ?_
      show X6_hashOfProof_30 N h1 σ = _
      rw [X6_hashOfProof_30, if_neg z1]
      refine Eq.trans b1 ?_
      show X6_hashOfProof_74 N h2 σ = _
      rw [X6_hashOfProof_74]
      exact e1
    · rw [X7_mixProof]
      refine Eq.trans a2 ?_
      show X7_mixProof_37 N τ1 = _
      rw [X7_mixProof_37]
      refine Eq.trans b2 ?_
      show X7_mixProof_69 N τ2 = _
      rw [X7_mixProof_69]
      exact e2
theorem dg_buf (hN : 4000000 ≤ N) (d : DR c h σ τ) : ∃ h' τ', X6_hashOfBuffer N σ h = some h' ∧ bd (X7_mix ((τ.1 3).toInt64) τ) (fun t13 => X7_digest_102 (fun σ => X7_digest_127 σ) N (0 : Int32) t13) = some (h', τ') ∧ DR c h' σ τ' := by
  obtain ⟨L, t, hB⟩ := d.1.2.2.1
  have s0 := hB.2.1
  have hL := hB.1
  obtain ⟨m1, m2⟩ := d.m (nI L).toInt64
  have fr : ∀ {h : Int64} {τ : St}, DR c h σ τ → τ.1 3 = nI L ∧ ∀ i, i < L → τ.2.2.1 0 i = σ.2.2.1 0 i := fun {h τ} d => by
    obtain ⟨L', t', hB'⟩ := d.1.2.2.1
    have : L' = L := by
      have z := hB'.2.1
      rw [s0, nI_eq (by omega) (by have := hB'.1; omega)] at z
      exact z.symm
    subst this
    exact ⟨hB'.2.2.1, fun i hi => (hB'.2.2.2 i hi).2.2.trans (hB'.2.2.2 i hi).2.1.symm⟩
  rw [X6_hashOfBuffer, s0, mixed_ok, bd, (fr d).1, m1, bd]
  refine jl (fun n i (a : Int64) => X6_hashOfBuffer_16 (fun v3 => X6_hashOfBuffer_49 σ v3) σ n a (nI i)) (fun n i (b : St) => X7_digest_102 (fun σ => X7_digest_127 σ) n (nI i) b) L (fun i a b => DR c a σ b) (fun r r' => ∃ h' τ', r = some h' ∧ r' = some (h', τ') ∧ DR c h' σ τ') ?_ ?_ L 0 N N _ _ (by omega) m2 (by omega) (by omega)
  · rintro n n' i h τ hi d
    obtain ⟨t3, tc⟩ := fr d
    obtain ⟨m1, m2⟩ := d.m (σ.2.2.1 0 i).toInt64
    have cc : ¬ nI L ≤ nI i := nI_ge (by omega) (by omega)
    have e1 : X3_codeAt σ (nI i) = some (σ.2.2.1 0 i) := by simp (disch := omega) only [X3_codeAt, fa_lit, nI_leI, nI_ltI, nI_eq, nI_add, pk_mul, nI_clamp, bd, nm, gd_in, gd_bI, gd_b0, gd_b1, if_pos, if_neg, bI_n0, bI_n1, reduceIte, reduceCtorEq, Nat.add_zero]
    refine ⟨31 * h + (σ.2.2.1 0 i).toInt64, sj τ 2 (31 * h + (σ.2.2.1 0 i).toInt64), m2, ?_, ?_⟩
    · rw [X6_hashOfBuffer_16, X6_hashOfBuffer_16b, s0, if_neg cc, e1, bd, mixed_ok, bd, nm, nI_1]
    · rw [X7_digest_102, X7_digest_102b, t3, if_neg cc, gd_in (by omega) (by omega), nI_clamp (by omega), tc i hi, m1, bd, nm, nI_1]
  · rintro n n' h τ d
    obtain ⟨t3, tc⟩ := fr d
    have cc : nI L ≤ nI L := nI_le (Nat.le_refl _) (by omega)
    refine ⟨h, τ, ?_, ?_, d⟩
    · rw [X6_hashOfBuffer_16, X6_hashOfBuffer_16b, s0, if_pos cc]
      rfl
    · rw [X7_digest_102, X7_digest_102b, t3, if_pos cc, X7_digest_127, d.2]
theorem Op_digest_ok (hN : 4000000 ≤ N) (h : RC c σ τ) : Op_digest N Rl σ τ := by
  have d0 : DR c 1877 σ (sj (si τ 0 0) 2 1877) := ⟨(h.th 0).sc FR.rf (FR.rf.j (by decide)), sj_s⟩
  obtain ⟨h1, σ1, τ1, a1, a2, d1⟩ := dg_sys hN d0 (fun v1 σ => X6_digest_29 N v1 σ) (fun σ => X7_digest_36 N σ)
  obtain ⟨h2, σ2, τ2, b1, b2, d2⟩ := dg_sts hN d1 (fun v1 σ => X6_digest_110 N v1 σ)
  obtain ⟨σ3, τ3, x1, x2, d3⟩ := dg_ind hN d2 false
  obtain ⟨m1, d4⟩ := d3.m (inR c false).toInt64
  obtain ⟨σ5, τ5, x3, x4, d5⟩ := dg_ind hN d4 true
  obtain ⟨m2, d6⟩ := d5.m (inR c true).toInt64
  obtain ⟨y1, σ7, τ7, x5, x6, d7⟩ := dg_eli hN d6 (W := 1) (by omega) (by omega)
  obtain ⟨m3, d8⟩ := d7.m y1
  obtain ⟨y2, σ9, τ9, x7, x8, d9⟩ := dg_eli hN d8 (W := 2) (by omega) (by omega)
  obtain ⟨m4, d10⟩ := d9.m y2
  obtain ⟨r, σ11, x9, x10, d11⟩ := dg_con hN d10
  obtain ⟨m5, d12⟩ := d11.m r.toInt64
  obtain ⟨h13, τ13, x11, x12, d13⟩ := dg_prf hN d12
  obtain ⟨h14, τ14, x13, x14, d14⟩ := dg_buf hN d13
  have x1' : X6_induction N 0 σ2 = some (inR c false, σ3) := x1
  have x2' : X7_inductionNow N 0 τ2 = some (inR c false, τ3) := x2
  have x3' : X6_induction N 1 σ3 = some (inR c true, σ5) := x3
  have x4' : X7_inductionNow N 1 (sj τ3 2 (31 * h2 + (inR c false).toInt64)) = some (inR c true, τ5) := x4
  have x5' : X6_elimination N 1 σ5 = some (y1, σ7) := x5
  have x6' : X7_eliminationNow N 1 (sj τ5 2 (31 * (31 * h2 + (inR c false).toInt64) + (inR c true).toInt64)) = some (y1, τ7) := x6
  have x7' : X6_elimination N 2 σ7 = some (y2, σ9) := x7
  refine ⟨h14, σ11, τ14, ?_, ?_, ⟨c, d14.1⟩⟩
  · rw [X6_digest]
    refine Eq.trans a1 ?_
    show X6_digest_29 N h1 σ1 = _
    rw [X6_digest_29]
    refine Eq.trans b1 ?_
    show X6_digest_110 N h2 σ2 = _
    rw [X6_digest_110, x1', bd, mixed_ok, bd, x3', bd, mixed_ok, bd, x5', bd, mixed_ok, bd, x7', bd, mixed_ok, bd, x9, bd, mixed_ok, bd, x11, bd, x13, bd]
  · have e0 : X7_digest N τ = X7_digest_14 N (fun σ => X7_digest_36 N σ) N (nI 0) (sj (si τ 0 0) 2 1877) := rfl
    rw [e0]
    refine Eq.trans a2 ?_
    show X7_digest_36 N τ1 = _
    rw [X7_digest_36, b2, bd, x2', bd, m1, bd, x4', bd, m2, bd, x6', bd, m3, bd]
    refine Eq.trans (congrArg (fun z => bd z _) x8) ?_
    rw [bd, m4, bd, x10, bd, m5, bd, x12, bd]
    exact x14
end DIG
