/-! a1: begin -/
def c0 (b i : Nat) : Ck := (b, i, fun k _ => mk64 (fun s => decide (s < 2 ^ b) && s.testBit k), 1, alN b)
theorem allS_k : ∀ b, b < 7 → (if nI (2 ^ b) < 64 then ((1 : Int64) <<< ((nI (2 ^ b)).toInt64 &&& 63)) - 1 else -1) = alN b := by decide +kernel
theorem h_one (i : Nat) : ht 1 i = decide (i = 0) := by
  rw [show (1 : Int64) = (1 : Int64) <<< ((nI 0).toInt64 &&& 63) by decide +kernel, h_1 (by omega)]
section BEGIN
variable {c : Ck} {σ τ σ' τ' : St} {N q : Nat}
theorem okC_0 {b i : Nat} (h1 : 1 ≤ b) (h2 : b ≤ 6) (h3 : i ≤ 2) : okC (c0 b i) := ⟨h1, h2, h3, fun s hs => by
  have hs' : ht 1 s = true := hs
  rw [h_one, decide_eq_true_eq] at hs'
  subst hs'
  exact (p2_6 b (by omega)).1⟩
theorem X7_states_ok2 (h : okC c) (h1 : τ.1 1 = nI c.1) : X7_states τ = some (nI (ns c)) := by
  unfold X7_states
  rw [h1, sh1 c.1 (by have := h.2.1; omega)]
  rfl
theorem X7_all_ok2 (h : okC c) (h1 : τ.1 1 = nI c.1) : X7_all τ = some (al c) := by
  unfold X7_all
  rw [X7_states_ok2 h h1, h1]
  have e := all_k c.1 (by have := h.2.1; omega)
  unfold al
  rw [← e]
  show _ = some (if nI c.1 = 6 then _ else _)
  by_cases q : nI c.1 = 6
  · rw [if_pos q, if_pos q]
  · rw [if_neg q, if_neg q]; rfl
theorem X7_bitSet_ok2 (hN : 4000000 ≤ N) (h : okC c) (h1 : τ.1 1 = nI c.1) {b : Nat} (hb : b < 6) : X7_bitSet N τ (nI b) = some (bset c b) := by
  have h64 := ns_le h
  unfold X7_bitSet
  refine wf (fun n i a => X7_bitSet_5 (fun v2 => X7_bitSet_41 τ v2) τ (nI b) n a (nI i)) (ns c) (fun i a => a = mk64 (fun s => decide (s < i) && s.testBit b)) (fun r => r = some (bset c b)) ?_ ?_ N 0 0 (by omega) (h_ext (fun i hi => by rw [h_mk' _ hi, h_0]; simp)) (by omega)
  · rintro n i a hi rfl
    refine Or.inr ⟨_, rfl, ?_⟩
    show X7_bitSet_5 _ τ _ (n + 1) _ _ = X7_bitSet_5 _ τ _ n _ _
    have e2 : mk64 (fun s => decide (s < i + 1) && s.testBit b) = mk64 (fun s => decide (s < i) && s.testBit b) ||| (match i.testBit b with
      | true => (1 : Int64) <<< ((nI i).toInt64 &&& 63)
      | false => 0) := by
      apply h_ext
      intro j hj
      rw [h_or, h_mk' _ hj, h_mk' _ hj, lt_suc]
      cases e : i.testBit b
      · dsimp only
        rw [h_0]
        rcases Classical.em (j = i) with q | q
        · subst q; simp [e]
        · simp [q]
      · dsimp only
        rw [h_1 (by omega)]
        rcases Classical.em (j = i) with q | q
        · subst q; simp [e]
        · simp [q]
    rw [e2]
    cases e : i.testBit b
    · simp (disch := omega) only [X7_bitSet_5, X7_bitSet_5b, X7_states_ok2 h h1, fa_lit, nI_leI, nI_ltI, nI_eq, nI_add, pk_mul, nI_clamp, bd, nm, gd_in, gd_bI, gd_b0, gd_b1, if_pos, if_neg, bI_n0, bI_n1, reduceIte, reduceCtorEq, Nat.add_zero]
      rw [← fa_lit 31, ← fa_lit 1, tbi i (by omega) b hb, e]
      simp (disch := omega) only [fa_lit, nI_leI, nI_ltI, nI_eq, nI_add, pk_mul, nI_clamp, bd, nm, gd_in, gd_bI, gd_b0, gd_b1, if_pos, if_neg, bI_n0, bI_n1, reduceIte, reduceCtorEq, Nat.add_zero]
    · simp (disch := omega) only [X7_bitSet_5, X7_bitSet_5b, X7_states_ok2 h h1, fa_lit, nI_leI, nI_ltI, nI_eq, nI_add, pk_mul, nI_clamp, bd, nm, gd_in, gd_bI, gd_b0, gd_b1, if_pos, if_neg, bI_n0, bI_n1, reduceIte, reduceCtorEq, Nat.add_zero]
      rw [← fa_lit 31, ← fa_lit 1, tbi i (by omega) b hb, e]
      simp (disch := omega) only [fa_lit, nI_leI, nI_ltI, nI_eq, nI_add, pk_mul, nI_clamp, bd, nm, gd_in, gd_bI, gd_b0, gd_b1, if_pos, if_neg, bI_n0, bI_n1, reduceIte, reduceCtorEq, Nat.add_zero]
  · rintro n a rfl
    show X7_bitSet_5 _ τ _ (n + 1) _ _ = _
    simp (disch := omega) only [X7_bitSet_5, X7_bitSet_5b, X7_bitSet_41, X7_states_ok2 h h1, fa_lit, nI_leI, nI_ltI, nI_eq, nI_add, pk_mul, nI_clamp, bd, nm, gd_in, gd_bI, gd_b0, gd_b1, if_pos, if_neg, bI_n0, bI_n1, reduceIte, reduceCtorEq, Nat.add_zero]
    rfl
theorem X0_fillRow_ok (hN : 4000000 ≤ N) (hq : q < 8) (x : Int64) : ∃ σ', X0_fillRow N (nI q) x σ = some σ' ∧ FR [] [] [] [1] σ σ' ∧ (∀ v, v < 4 → σ'.2.2.2 1 (q * 4 + v) = x) ∧ ∀ z, (∀ v, v < 4 → z ≠ q * 4 + v) → σ'.2.2.2 1 z = σ.2.2.2 1 z := by
  unfold X0_fillRow
  refine wf (fun n i u => X0_fillRow_3 (fun σ => X0_fillRow_23 σ) (nI q) x n (nI i) u) 4 (fun i u => FR [] [] [] [1] σ u ∧ (∀ v, v < i → u.2.2.2 1 (q * 4 + v) = x) ∧ ∀ z, (∀ v, v < 4 → z ≠ q * 4 + v) → u.2.2.2 1 z = σ.2.2.2 1 z) (fun r' => ∃ σ', r' = some σ' ∧ FR [] [] [] [1] σ σ' ∧ (∀ v, v < 4 → σ'.2.2.2 1 (q * 4 + v) = x) ∧ ∀ z, (∀ v, v < 4 → z ≠ q * 4 + v) → σ'.2.2.2 1 z = σ.2.2.2 1 z) ?_ ?_ N 0 σ (by omega) ⟨FR.rf, fun v hv => by omega, fun _ _ => rfl⟩ (by omega)
  · rintro n i u hi ⟨hf, h1, h2⟩
    refine Or.inr ⟨sb u 1 (q * 4 + i) x, ⟨hf.b (by decide), fun v hv => ?_, fun z hz => (v_n (hz i hi)).trans (h2 z hz)⟩, ?_⟩
    · rcases Nat.lt_or_ge v i with y | y
      · exact (v_n (by omega)).trans (h1 v y)
      · have : v = i := by omega
        subst this; exact v_s
    · show X0_fillRow_3 _ _ _ (n + 1) _ _ = X0_fillRow_3 _ _ _ n _ _
      simp (disch := omega) only [X0_fillRow_3, X0_fillRow_3b, X0_putTable_ok, fa_lit, nI_leI, nI_ltI, nI_eq, nI_add, pk_mul, nI_clamp, bd, nm, gd_in, gd_bI, gd_b0, gd_b1, if_pos, if_neg, bI_n0, bI_n1, reduceIte, reduceCtorEq, Nat.add_zero]
  · rintro n u ⟨hf, h1, h2⟩
    refine ⟨u, ?_, hf, h1, h2⟩
    show X0_fillRow_3 _ _ _ (n + 1) _ _ = _
    simp (disch := omega) only [X0_fillRow_3, X0_fillRow_3b, X0_fillRow_23, fa_lit, nI_leI, nI_ltI, nI_eq, nI_add, pk_mul, nI_clamp, bd, nm, gd_in, gd_bI, gd_b0, gd_b1, if_pos, if_neg, bI_n0, bI_n1, reduceIte, reduceCtorEq, Nat.add_zero]
theorem X0_restart_ok (hN : 4000000 ≤ N) {b i : Nat} (hb : b < 7) (hi : i < 3) : ∃ σ', X0_restart N (nI b) (nI i) σ = some σ' ∧ FR [5, 6, 7, 8, 9, 10] [0] [] [1] σ σ' ∧ σ'.1 5 = nI b ∧ σ'.1 6 = nI i ∧ σ'.1 7 = nI (2 ^ b) ∧ σ'.1 8 = nI (2 ^ i) ∧ σ'.1 9 = 0 ∧ σ'.1 10 = 0 ∧ σ'.2.1 0 = alN b ∧ (∀ k v, k < 6 → v < 4 → σ'.2.2.2 1 (k * 4 + v) = swb k &&& alN b) ∧ σ'.2.2.2 1 24 = 1 ∧ σ'.2.2.2 1 28 = alN b := by
  let s4 : St := si (si (si (si σ 5 (nI b)) 6 (nI i)) 7 (nI (2 ^ b))) 8 (nI (2 ^ i))
  have e : X0_restart N (nI b) (nI i) σ = X0_restart_48 N (alN b) s4 := by
    simp only [X0_restart, nm]
    rw [sh1 b (by omega), sh1 i (by omega), ← allS_k b hb]
    by_cases z : nI (2 ^ b) < 64
    · rw [if_pos z]; exact if_pos z
    · rw [if_neg z]; exact if_neg z
  rw [e]
  let s7 : St := si (si (sj s4 0 (alN b)) 9 0) 10 0
  have f7 : FR [5, 6, 7, 8, 9, 10] [0] [] [1] σ s7 := ((((((FR.rf.i (by decide)).i (by decide)).i (by decide)).i (by decide)).j (by decide)).i (by decide)).i (by decide)
  show ∃ σ', X0_restart_63 N (fun σ => X0_restart_90 N σ) N (nI 0) s7 = some σ' ∧ _
  refine wf (fun n k u => X0_restart_63 N (fun σ => X0_restart_90 N σ) n (nI k) u) 6 (fun k u => FR [] [] [] [1] s7 u ∧ ∀ k' v, k' < k → v < 4 → u.2.2.2 1 (k' * 4 + v) = swb k' &&& alN b) (fun r' => ∃ σ', r' = some σ' ∧ FR [5, 6, 7, 8, 9, 10] [0] [] [1] σ σ' ∧ σ'.1 5 = nI b ∧ σ'.1 6 = nI i ∧ σ'.1 7 = nI (2 ^ b) ∧ σ'.1 8 = nI (2 ^ i) ∧ σ'.1 9 = 0 ∧ σ'.1 10 = 0 ∧ σ'.2.1 0 = alN b ∧ (∀ k v, k < 6 → v < 4 → σ'.2.2.2 1 (k * 4 + v) = swb k &&& alN b) ∧ σ'.2.2.2 1 24 = 1 ∧ σ'.2.2.2 1 28 = alN b) ?_ ?_ N 0 s7 (by omega) ⟨FR.rf, fun k' v z => by omega⟩ (by omega)
  · rintro n k u hk ⟨hf, h1⟩
    have ea : u.2.1 0 = alN b := hf.2.1 0 (by decide)
    obtain ⟨u1, a1, a2, a3, a4⟩ := X0_fillRow_ok (σ := u) hN (q := k) (by omega) (swb k &&& alN b)
    refine Or.inr ⟨u1, ⟨hf.tr a2, fun k' v z1 z2 => ?_⟩, ?_⟩
    · rcases Classical.em (k' = k) with y | y
      · subst y; exact a3 v z2
      · exact (a4 _ (fun v' hv' => by omega)).trans (h1 k' v (by omega) z2)
    · show X0_restart_63 N _ (n + 1) _ _ = X0_restart_63 N _ n _ _
      simp (disch := omega) only [X0_restart_63, X0_restart_63b, ea, a1, fa_lit, nI_leI, nI_ltI, nI_eq, nI_add, pk_mul, nI_clamp, bd, nm, gd_in, gd_bI, gd_b0, gd_b1, if_pos, if_neg, bI_n0, bI_n1, reduceIte, reduceCtorEq, Nat.add_zero]
  · rintro n u ⟨hf, h1⟩
    obtain ⟨u1, a1, a2, a3, a4⟩ := X0_fillRow_ok (σ := u) hN (q := 6) (by omega) 1
    have ea : u1.2.1 0 = alN b := (a2.2.1 0 (by decide)).trans (hf.2.1 0 (by decide))
    obtain ⟨u2, b1, b2, b3, b4⟩ := X0_fillRow_ok (σ := u1) hN (q := 7) (by omega) (alN b)
    have fz : FR [] [] [] [1] s7 u2 := (hf.tr a2).tr b2
    refine ⟨u2, ?_, f7.tr (fz.mo (by decide)), fz.1 5 (by decide), fz.1 6 (by decide), fz.1 7 (by decide), fz.1 8 (by decide), fz.1 9 (by decide), fz.1 10 (by decide), fz.2.1 0 (by decide), fun k v z1 z2 => ?_, ?_, b3 0 (by omega)⟩
    · show X0_restart_63 N _ (n + 1) _ _ = _
      simp (disch := omega) only [X0_restart_63, X0_restart_63b, X0_restart_90, a1, ea, b1, fa_lit, nI_leI, nI_ltI, nI_eq, nI_add, pk_mul, nI_clamp, bd, nm, gd_in, gd_bI, gd_b0, gd_b1, if_pos, if_neg, bI_n0, bI_n1, reduceIte, reduceCtorEq, Nat.add_zero]
    · exact (b4 _ (fun v' hv' => by omega)).trans ((a4 _ (fun v' hv' => by omega)).trans (h1 k v z1 z2))
    · exact (b4 _ (fun v' hv' => by omega)).trans (a3 0 (by omega))
theorem X7_start_ok (hN : 4000000 ≤ N) (h : okC c) : ∃ τ', X7_start N (nI c.1) (nI c.2.1) τ = some τ' ∧ FR [1, 2, 4, 9] [0, 1] [] [0] τ τ' ∧ τ'.1 1 = nI c.1 ∧ τ'.1 2 = nI c.2.1 ∧ τ'.1 4 = 0 ∧ τ'.1 9 = 0 ∧ (∀ k v, k < c.1 → v < 4 → τ'.2.2.2 0 (4 * k + v) = bset c k) ∧ τ'.2.1 0 = 1 ∧ τ'.2.1 1 = al c := by
  have h6 := h.2.1
  let t2 : St := si (si τ 1 (nI c.1)) 2 (nI c.2.1)
  have f2 : FR [1, 2, 4, 9] [0, 1] [] [0] τ t2 := (FR.rf.i (by decide)).i (by decide)
  show ∃ τ', X7_start_12 N (fun σ => X7_start_51 σ) N (nI 0) t2 = some τ' ∧ _
  refine wf (fun n k u => X7_start_12 N (fun σ => X7_start_51 σ) n (nI k) u) 24 (fun k u => FR [] [] [] [0] t2 u ∧ ∀ z, z < k → z / 4 < c.1 → u.2.2.2 0 z = bset c (z / 4)) (fun r' => ∃ τ', r' = some τ' ∧ FR [1, 2, 4, 9] [0, 1] [] [0] τ τ' ∧ τ'.1 1 = nI c.1 ∧ τ'.1 2 = nI c.2.1 ∧ τ'.1 4 = 0 ∧ τ'.1 9 = 0 ∧ (∀ k v, k < c.1 → v < 4 → τ'.2.2.2 0 (4 * k + v) = bset c k) ∧ τ'.2.1 0 = 1 ∧ τ'.2.1 1 = al c) ?_ ?_ N 0 t2 (by omega) ⟨FR.rf, fun z hz => by omega⟩ (by omega)
  · rintro n k u hk ⟨hf, h1⟩
    have e1 : u.1 1 = nI c.1 := hf.1 1 (by decide)
    rcases Nat.lt_or_ge (k / 4) c.1 with y | y
    · have eb := X7_bitSet_ok2 hN h e1 (b := k / 4) (by omega)
      refine Or.inr ⟨sb u 0 k (bset c (k / 4)), ⟨hf.b (by decide), fun z hz hz' => ?_⟩, ?_⟩
      · rcases Classical.em (z = k) with x | x
        · subst x; exact v_s
        · exact (v_n x).trans (h1 z (by omega) hz')
      · show X7_start_12 N _ (n + 1) _ _ = X7_start_12 N _ n _ _
        simp (disch := omega) only [X7_start_12, X7_start_12b, e1, pk_div, eb, X7_start_44, fa_lit, nI_leI, nI_ltI, nI_eq, nI_add, pk_mul, nI_clamp, bd, nm, gd_in, gd_bI, gd_b0, gd_b1, if_pos, if_neg, bI_n0, bI_n1, reduceIte, reduceCtorEq, Nat.add_zero]
    · refine Or.inr ⟨sb u 0 k 0, ⟨hf.b (by decide), fun z hz hz' => ?_⟩, ?_⟩
      · rcases Classical.em (z = k) with x | x
        · subst x; omega
        · exact (v_n x).trans (h1 z (by omega) hz')
      · show X7_start_12 N _ (n + 1) _ _ = X7_start_12 N _ n _ _
        simp (disch := omega) only [X7_start_12, X7_start_12b, e1, pk_div, X7_start_44, fa_lit, nI_leI, nI_ltI, nI_eq, nI_add, pk_mul, nI_clamp, bd, nm, gd_in, gd_bI, gd_b0, gd_b1, if_pos, if_neg, bI_n0, bI_n1, reduceIte, reduceCtorEq, Nat.add_zero]
  · rintro n u ⟨hf, h1⟩
    have ea : X7_all (sj u 0 1) = some (al c) := X7_all_ok2 h (hf.1 1 (by decide))
    refine ⟨si (si (sj (sj u 0 1) 1 (al c)) 4 0) 9 0, ?_, ((((f2.tr (hf.mo (by decide))).j (by decide)).j (by decide)).i (by decide)).i (by decide), hf.1 1 (by decide), hf.1 2 (by decide), rfl, rfl, fun k v z1 z2 => ?_, rfl, rfl⟩
    · show X7_start_12 N _ (n + 1) _ _ = _
      simp (disch := omega) only [X7_start_12, X7_start_12b, X7_start_51, ea, fa_lit, nI_leI, nI_ltI, nI_eq, nI_add, pk_mul, nI_clamp, bd, nm, gd_in, gd_bI, gd_b0, gd_b1, if_pos, if_neg, bI_n0, bI_n1, reduceIte, reduceCtorEq, Nat.add_zero]
    · show u.2.2.2 0 (4 * k + v) = _
      have e : (4 * k + v) / 4 = k := by omega
      have := h1 (4 * k + v) (by omega) (by omega)
      rw [e] at this
      exact this
theorem rng_i {x : Int32} {a b : Nat} (ha : a < 1073741824) (hb : b < 1073741824) (h1 : ¬ x < nI a) (h2 : ¬ nI b < x) : ∃ j, a ≤ j ∧ j ≤ b ∧ x = nI j := by
  rw [lt_i, nI_toInt (by omega)] at h1 h2
  have h0 : ¬ x < 0 := by rw [lt_i, z_i]; omega
  obtain ⟨j, hj, rfl⟩ := nI_of h0
  rw [nI_toInt hj] at h1 h2
  exact ⟨j, by omega, by omega, rfl⟩
theorem swb_al (h : okC c) {b : Nat} (hb : b < 6) : swb b &&& al c = bset c b := h_ext (fun i hi => by
  rw [h_and, h_swb b hb i hi, h_al h, bset, h_mk' _ hi, Bool.and_comm])
theorem Op_begin_ok (hN : 4000000 ≤ N) (h : RC c σ τ) : Op_begin N Rl σ τ := by
  intro v1 v2
  by_cases q1 : v1 < 1
  · refine ⟨0, si τ 0 1, ?_, Or.inr ⟨1, 1, σ, ⟨rfl, rfl⟩, ?_, rfl, ⟨c, h.th 1⟩⟩⟩
    · simp only [X7_begin, X7_within, if_pos q1, bd, reduceIte, X7_begin_25, nm, si0, p1]
    · simp only [X6_begin_t, if_pos q1, X6_begin_t_20]
  · by_cases q2 : 6 < v1
    · refine ⟨0, si τ 0 1, ?_, Or.inr ⟨1, 1, σ, ⟨rfl, rfl⟩, ?_, rfl, ⟨c, h.th 1⟩⟩⟩
      · simp only [X7_begin, X7_within, if_neg q1, if_pos q2, bd, reduceIte, X7_begin_25, nm, si0, p1]
      · simp only [X6_begin_t, if_neg q1, if_pos q2, X6_begin_t_20]
    · by_cases q3 : v2 < 0
      · refine ⟨0, si τ 0 1, ?_, Or.inr ⟨1, 1, σ, ⟨rfl, rfl⟩, ?_, rfl, ⟨c, h.th 1⟩⟩⟩
        · simp only [X7_begin, X7_within, if_neg q1, if_neg q2, if_pos q3, bd, reduceIte, X7_begin_25, nm, si0, p1, p10]
        · simp only [X6_begin_t, if_neg q1, if_neg q2, if_pos q3, X6_begin_t_20]
      · by_cases q4 : 2 < v2
        · have q5 : ¬ v2 ≤ 2 := by rw [lt_i] at q4; rw [le_i]; omega
          refine ⟨0, si τ 0 1, ?_, Or.inr ⟨1, 1, σ, ⟨rfl, rfl⟩, ?_, rfl, ⟨c, h.th 1⟩⟩⟩
          · simp only [X7_begin, X7_within, if_neg q1, if_neg q2, if_neg q3, if_pos q4, bd, reduceIte, X7_begin_25, nm, si0, p1, p10]
          · simp only [X6_begin_t, if_neg q1, if_neg q2, if_neg q3, if_neg q5, X6_begin_t_20]
        · have q5 : v2 ≤ 2 := by rw [lt_i] at q4; rw [le_i]; omega
          obtain ⟨b, b1, b2, rfl⟩ := rng_i (a := 1) (b := 6) (by omega) (by omega) q1 q2
          obtain ⟨i, i1, i2, rfl⟩ := rng_i (a := 0) (b := 2) (by omega) (by omega) q3 q4
          have ho := okC_0 b1 b2 i2
          have h4 := nv_le ho
          obtain ⟨σ1, a0, a1, a2, a3, a4, a5, a6, a7, a8, a9, a10, a11⟩ := X0_restart_ok (σ := σ) hN (b := b) (i := i) (by omega) (by omega)
          obtain ⟨τ1, d0, d1, d2, d3, d4, d5, d6, d7, d8⟩ := X7_start_ok (τ := si τ 0 0) hN ho
          have fσ : FR [5, 6, 7, 8, 9, 10, 13, 14] [0] [] [1] σ (si (si σ1 13 0) 14 0) := ((a1.mo (by decide)).i (by decide)).i (by decide)
          have fτ : FR [0, 1, 2, 4, 9] [0, 1] [] [0] τ τ1 := (FR.rf.i (by decide) : FR [0, 1, 2, 4, 9] [0, 1] [] [0] τ (si τ 0 0)).tr (d1.mo (by decide))
          obtain ⟨L, t, hB⟩ := h.2.2.1
          have d0' : X7_start N (nI b) (nI i) (si τ 0 0) = some τ1 := d0
          have hst := X7_states_ok2 (τ := τ1) ho d2
          refine ⟨nI (2 ^ b), τ1, ?_, Or.inl ⟨si (si σ1 13 0) 14 0, ?_, d1.1 0 (by decide), ⟨c0 b i, ⟨ho, d2, d3, fun k v z1 z2 => ?_, d7, d8⟩, ⟨ho, a2, a3, a4, a5, a8, fun k v z1 z2 => ?_, a10, a11⟩, ⟨L, t, hB.fr fσ fτ (by decide)⟩, ⟨0, 0, fun _ => 0, fun _ _ => 0, by omega, by omega, a7, d4, a6, fun i hi => by omega⟩, Or.inl rfl, Or.inl ⟨rfl, d5⟩⟩⟩⟩
          · simp only [X7_begin, X7_within, if_neg q1, if_neg q2, if_neg q3, if_neg q4, bd, X7_begin_25, nm, si0, p0, p10, if_true, if_false, d0', hst]
            rfl
          · simp only [X6_begin, if_neg q1, if_neg q2, if_neg q3, if_pos q5, bd, a0, X6_forgetResults, nm]
            exact congrArg (fun x => some (x, _)) a4
          · exact d6 k v z1 (by omega)
          · exact (a9 k v (by have : k < b := z1; omega) (by omega)).trans (swb_al ho (by have : k < b := z1; omega))
end BEGIN
