/-! a0: undo, begin -/
section UNDO
variable {c : Ck} {t : Nat → Nat} {L : Nat} {σ τ σ' τ' : St} {N K o : Nat} {r : Nat → Nat} {w : Nat → Nat → Int64} {W : Nat → Int64} {q : Nat}
theorem X0_putTable_ok {v : Nat} (h : q * 4 + v < 32) (x : Int64) : X0_putTable (nI q) (nI v) x σ = some (sb σ 1 (q * 4 + v) x) := by
  simp (disch := omega) only [X0_putTable, fa_lit, nI_leI, nI_ltI, nI_eq, nI_add, pk_mul, nI_clamp, bd, nm, gd_in, gd_bI, gd_b0, gd_b1, if_pos, if_neg, bI_n0, bI_n1, reduceIte, reduceCtorEq, Nat.add_zero]
theorem X0_restore_ok (hN : 4000000 ≤ N) {s k : Nat} (hs : s < 10) (hq8 : q < 8) (hq : σ.2.2.1 2 s = nI q) (h10 : σ.1 10 = nI (k + 1)) : ∃ σ', X0_restoreLatest_29 (fun σ => X0_restoreLatest_61 σ) (nI s) N (nI 0) σ = some σ' ∧ FR [10] [] [] [1] σ σ' ∧ σ'.1 10 = nI k ∧ (∀ v, v < 4 → σ'.2.2.2 1 (q * 4 + v) = σ.2.2.2 2 (s * 4 + v)) ∧ ∀ z, (∀ v, v < 4 → z ≠ q * 4 + v) → σ'.2.2.2 1 z = σ.2.2.2 1 z := by
  refine wf (fun n i u => X0_restoreLatest_29 (fun σ => X0_restoreLatest_61 σ) (nI s) n (nI i) u) 4 (fun i u => FR [] [] [] [1] σ u ∧ (∀ v, v < i → u.2.2.2 1 (q * 4 + v) = σ.2.2.2 2 (s * 4 + v)) ∧ ∀ z, (∀ v, v < 4 → z ≠ q * 4 + v) → u.2.2.2 1 z = σ.2.2.2 1 z) (fun r' => ∃ σ', r' = some σ' ∧ FR [10] [] [] [1] σ σ' ∧ σ'.1 10 = nI k ∧ (∀ v, v < 4 → σ'.2.2.2 1 (q * 4 + v) = σ.2.2.2 2 (s * 4 + v)) ∧ ∀ z, (∀ v, v < 4 → z ≠ q * 4 + v) → σ'.2.2.2 1 z = σ.2.2.2 1 z) ?_ ?_ N 0 σ (by omega) ⟨FR.rf, fun v hv => by omega, fun _ _ => rfl⟩ (by omega)
  · rintro n i u hi ⟨hf, h1, h2⟩
    have eq : u.2.2.1 2 s = nI q := by rw [hf.2.2.1 2 (by decide)]; exact hq
    have ew : u.2.2.2 2 (s * 4 + i) = σ.2.2.2 2 (s * 4 + i) := by rw [hf.2.2.2 2 (by decide)]
    refine Or.inr ⟨sb u 1 (q * 4 + i) (σ.2.2.2 2 (s * 4 + i)), ⟨hf.b (by decide), fun v hv => ?_, fun z hz => (v_n (hz i hi)).trans (h2 z hz)⟩, ?_⟩
    · rcases Nat.lt_or_ge v i with y | y
      · exact (v_n (by omega)).trans (h1 v y)
      · have : v = i := by omega
        subst this; exact v_s
    · show X0_restoreLatest_29 _ _ (n + 1) _ _ = X0_restoreLatest_29 _ _ n _ _
      simp (disch := omega) only [X0_restoreLatest_29, X0_restoreLatest_29b, eq, ew, X0_putTable_ok, fa_lit, nI_leI, nI_ltI, nI_eq, nI_add, pk_mul, nI_clamp, bd, nm, gd_in, gd_bI, gd_b0, gd_b1, if_pos, if_neg, bI_n0, bI_n1, reduceIte, reduceCtorEq, Nat.add_zero]
  · rintro n u ⟨hf, h1, h2⟩
    have e10 : u.1 10 = nI (k + 1) := by rw [hf.1 10 (by decide)]; exact h10
    refine ⟨si u 10 (nI k), ?_, (hf.mo (by decide)).i (by decide), rfl, h1, h2⟩
    show X0_restoreLatest_29 _ _ (n + 1) _ _ = _
    simp (disch := omega) only [X0_restoreLatest_29, X0_restoreLatest_29b, X0_restoreLatest_61, e10, pk_sub, Nat.add_sub_cancel, fa_lit, nI_leI, nI_ltI, nI_eq, nI_add, pk_mul, nI_clamp, bd, nm, gd_in, gd_bI, gd_b0, gd_b1, if_pos, if_neg, bI_n0, bI_n1, reduceIte, reduceCtorEq, Nat.add_zero]
theorem X7_undo_r (hN : 4000000 ≤ N) {k : Nat} (hk : k < 10) (h4 : τ.1 4 = nI k) (hq6 : q < 6) (hq : τ.2.2.1 1 k = nI q) : ∃ τ', X7_undo_37 (fun σ => X7_undo_75 σ) N (nI 0) τ = some (nI k, τ') ∧ FR [9] [] [] [0] τ τ' ∧ τ'.1 9 = 0 ∧ (∀ v, v < 4 → τ'.2.2.2 0 (4 * q + v) = τ.2.2.2 1 (4 * k + v)) ∧ ∀ z, (∀ v, v < 4 → z ≠ 4 * q + v) → τ'.2.2.2 0 z = τ.2.2.2 0 z := by
  refine wf (fun n i u => X7_undo_37 (fun σ => X7_undo_75 σ) n (nI i) u) 4 (fun i u => FR [] [] [] [0] τ u ∧ (∀ v, v < i → u.2.2.2 0 (4 * q + v) = τ.2.2.2 1 (4 * k + v)) ∧ ∀ z, (∀ v, v < 4 → z ≠ 4 * q + v) → u.2.2.2 0 z = τ.2.2.2 0 z) (fun r' => ∃ τ', r' = some (nI k, τ') ∧ FR [9] [] [] [0] τ τ' ∧ τ'.1 9 = 0 ∧ (∀ v, v < 4 → τ'.2.2.2 0 (4 * q + v) = τ.2.2.2 1 (4 * k + v)) ∧ ∀ z, (∀ v, v < 4 → z ≠ 4 * q + v) → τ'.2.2.2 0 z = τ.2.2.2 0 z) ?_ ?_ N 0 τ (by omega) ⟨FR.rf, fun v hv => by omega, fun _ _ => rfl⟩ (by omega)
  · rintro n i u hi ⟨hf, h1, h2⟩
    have e4 : u.1 4 = nI k := by rw [hf.1 4 (by decide)]; exact h4
    have eq : u.2.2.1 1 k = nI q := by rw [hf.2.2.1 1 (by decide)]; exact hq
    have ew : u.2.2.2 1 (4 * k + i) = τ.2.2.2 1 (4 * k + i) := by rw [hf.2.2.2 1 (by decide)]
    refine Or.inr ⟨sb u 0 (4 * q + i) (τ.2.2.2 1 (4 * k + i)), ⟨hf.b (by decide), fun v hv => ?_, fun z hz => (v_n (hz i hi)).trans (h2 z hz)⟩, ?_⟩
    · rcases Nat.lt_or_ge v i with y | y
      · exact (v_n (by omega)).trans (h1 v y)
      · have : v = i := by omega
        subst this; exact v_s
    · show X7_undo_37 _ (n + 1) _ _ = X7_undo_37 _ n _ _
      simp (disch := omega) only [X7_undo_37, X7_undo_37b, e4, eq, ew, X7_put, fa_lit, nI_leI, nI_ltI, nI_eq, nI_add, pk_mul, nI_clamp, bd, nm, gd_in, gd_bI, gd_b0, gd_b1, if_pos, if_neg, bI_n0, bI_n1, reduceIte, reduceCtorEq, Nat.add_zero]
  · rintro n u ⟨hf, h1, h2⟩
    have e4 : u.1 4 = nI k := by rw [hf.1 4 (by decide)]; exact h4
    refine ⟨si u 9 0, ?_, (hf.mo (by decide)).i (by decide), rfl, h1, h2⟩
    show X7_undo_37 _ (n + 1) _ _ = _
    simp (disch := omega) only [X7_undo_37, X7_undo_37b, X7_undo_75, si_n, e4, fa_lit, nI_leI, nI_ltI, nI_eq, nI_add, pk_mul, nI_clamp, bd, nm, gd_in, gd_bI, gd_b0, gd_b1, if_pos, if_neg, bI_n0, bI_n1, reduceIte, reduceCtorEq, Nat.add_zero]
theorem X7_undo_6 (hN : 4000000 ≤ N) {k : Nat} (hk : k < 10) (h4 : τ.1 4 = nI k) (hq : τ.2.2.1 1 k = nI 6) (hW : ∀ v, v < 4 → τ.2.2.2 1 (4 * k + v) = W 0) : ∃ τ', X7_undo_37 (fun σ => X7_undo_75 σ) N (nI 0) τ = some (nI k, τ') ∧ FR [9] [0] [] [] τ τ' ∧ τ'.1 9 = 0 ∧ τ'.2.1 0 = W 0 := by
  refine wf (fun n i u => X7_undo_37 (fun σ => X7_undo_75 σ) n (nI i) u) 4 (fun i u => FR [] [0] [] [] τ u ∧ (0 < i → u.2.1 0 = W 0)) (fun r' => ∃ τ', r' = some (nI k, τ') ∧ FR [9] [0] [] [] τ τ' ∧ τ'.1 9 = 0 ∧ τ'.2.1 0 = W 0) ?_ ?_ N 0 τ (by omega) ⟨FR.rf, fun z => by omega⟩ (by omega)
  · rintro n i u hi ⟨hf, h1⟩
    have e4 : u.1 4 = nI k := by rw [hf.1 4 (by decide)]; exact h4
    have eq : u.2.2.1 1 k = nI 6 := by rw [hf.2.2.1 1 (by decide)]; exact hq
    have ew : u.2.2.2 1 (4 * k + i) = W 0 := by rw [hf.2.2.2 1 (by decide)]; exact hW i hi
    refine Or.inr ⟨sj u 0 (W 0), ⟨hf.j (by decide), fun _ => rfl⟩, ?_⟩
    show X7_undo_37 _ (n + 1) _ _ = X7_undo_37 _ n _ _
    simp (disch := omega) only [X7_undo_37, X7_undo_37b, e4, eq, ew, X7_put, fa_lit, nI_leI, nI_ltI, nI_eq, nI_add, pk_mul, nI_clamp, bd, nm, gd_in, gd_bI, gd_b0, gd_b1, if_pos, if_neg, bI_n0, bI_n1, reduceIte, reduceCtorEq, Nat.add_zero]
  · rintro n u ⟨hf, h1⟩
    have e4 : u.1 4 = nI k := by rw [hf.1 4 (by decide)]; exact h4
    refine ⟨si u 9 0, ?_, (hf.mo (by decide)).i (by decide), rfl, h1 (by omega)⟩
    show X7_undo_37 _ (n + 1) _ _ = _
    simp (disch := omega) only [X7_undo_37, X7_undo_37b, X7_undo_75, si_n, e4, fa_lit, nI_leI, nI_ltI, nI_eq, nI_add, pk_mul, nI_clamp, bd, nm, gd_in, gd_bI, gd_b0, gd_b1, if_pos, if_neg, bI_n0, bI_n1, reduceIte, reduceCtorEq, Nat.add_zero]
theorem X7_undo_7 (hN : 4000000 ≤ N) {k : Nat} (hk : k < 10) (h4 : τ.1 4 = nI k) (hq : τ.2.2.1 1 k = nI 7) (hW : ∀ v, v < 4 → τ.2.2.2 1 (4 * k + v) = W 0) : ∃ τ', X7_undo_37 (fun σ => X7_undo_75 σ) N (nI 0) τ = some (nI k, τ') ∧ FR [9] [1] [] [] τ τ' ∧ τ'.1 9 = 0 ∧ τ'.2.1 1 = W 0 := by
  refine wf (fun n i u => X7_undo_37 (fun σ => X7_undo_75 σ) n (nI i) u) 4 (fun i u => FR [] [1] [] [] τ u ∧ (0 < i → u.2.1 1 = W 0)) (fun r' => ∃ τ', r' = some (nI k, τ') ∧ FR [9] [1] [] [] τ τ' ∧ τ'.1 9 = 0 ∧ τ'.2.1 1 = W 0) ?_ ?_ N 0 τ (by omega) ⟨FR.rf, fun z => by omega⟩ (by omega)
  · rintro n i u hi ⟨hf, h1⟩
    have e4 : u.1 4 = nI k := by rw [hf.1 4 (by decide)]; exact h4
    have eq : u.2.2.1 1 k = nI 7 := by rw [hf.2.2.1 1 (by decide)]; exact hq
    have ew : u.2.2.2 1 (4 * k + i) = W 0 := by rw [hf.2.2.2 1 (by decide)]; exact hW i hi
    refine Or.inr ⟨sj u 1 (W 0), ⟨hf.j (by decide), fun _ => rfl⟩, ?_⟩
    show X7_undo_37 _ (n + 1) _ _ = X7_undo_37 _ n _ _
    simp (disch := omega) only [X7_undo_37, X7_undo_37b, e4, eq, ew, X7_put, fa_lit, nI_leI, nI_ltI, nI_eq, nI_add, pk_mul, nI_clamp, bd, nm, gd_in, gd_bI, gd_b0, gd_b1, if_pos, if_neg, bI_n0, bI_n1, reduceIte, reduceCtorEq, Nat.add_zero]
  · rintro n u ⟨hf, h1⟩
    have e4 : u.1 4 = nI k := by rw [hf.1 4 (by decide)]; exact h4
    refine ⟨si u 9 0, ?_, (hf.mo (by decide)).i (by decide), rfl, h1 (by omega)⟩
    show X7_undo_37 _ (n + 1) _ _ = _
    simp (disch := omega) only [X7_undo_37, X7_undo_37b, X7_undo_75, si_n, e4, fa_lit, nI_leI, nI_ltI, nI_eq, nI_add, pk_mul, nI_clamp, bd, nm, gd_in, gd_bI, gd_b0, gd_b1, if_pos, if_neg, bI_n0, bI_n1, reduceIte, reduceCtorEq, Nat.add_zero]
theorem Op_undo_ok (hN : 4000000 ≤ N) (h : RC c σ τ) : Op_undo N Rl σ τ := by
  have h4 := nv_le h.1.1
  have h6 := h.1.1.2.1
  obtain ⟨K, o, r, w, k1, k2, k3, k4, k5, k6⟩ := h.2.2.2.1
  cases K with
  | zero =>
    refine ⟨0, si τ 0 1, ?_, Or.inr ⟨2, 1, σ, ⟨rfl, rfl⟩, ?_, rfl, ⟨c, h.th 1⟩⟩⟩
    · simp (disch := omega) only [X7_undo, k4, X7_undo_13, si_s, fa_lit, nI_leI, nI_ltI, nI_eq, nI_add, pk_mul, nI_clamp, bd, nm, gd_in, gd_bI, gd_b0, gd_b1, if_pos, if_neg, bI_n0, bI_n1, reduceIte, reduceCtorEq, Nat.add_zero]
    · simp (disch := omega) only [X6_undo_t, k3, fa_lit, nI_leI, nI_ltI, nI_eq, nI_add, pk_mul, nI_clamp, bd, nm, gd_in, gd_bI, gd_b0, gd_b1, if_pos, if_neg, bI_n0, bI_n1, reduceIte, reduceCtorEq, Nat.add_zero]
  | succ k =>
    obtain ⟨c1, c2, c3, c4, c5, c6⟩ := k6 k (by omega)
    have hs : (o + k) % 10 < 10 := Nat.mod_lt _ (by omega)
    have hq8 : r k < 8 := by omega
    obtain ⟨σ1, a1, a2, a3, a4, a5⟩ := X0_restore_ok hN hs hq8 c3 k3
    have fσ : FR [10, 13, 14] [] [] [1] σ (si (si σ1 13 0) 14 0) := ((a2.mo (by decide)).i (by decide)).i (by decide)
    have hr : X0_restoreLatest N σ = some σ1 := by
      simp (disch := omega) only [X0_restoreLatest, k3, k5, pk_sub, pk_rem, fa_lit, nI_leI, nI_ltI, nI_eq, nI_add, pk_mul, nI_clamp, bd, nm, gd_in, gd_bI, gd_b0, gd_b1, if_pos, if_neg, bI_n0, bI_n1, reduceIte, reduceCtorEq, Nat.add_zero]
      rw [show o + (k + 1) - 1 = o + k by omega]
      exact a1
    have hT : X6_undo N σ = some (nI k, si (si σ1 13 0) 14 0) := by
      simp (disch := omega) only [X6_undo, k3, hr, X6_forgetResults, si_n, a3, fa_lit, nI_leI, nI_ltI, nI_eq, nI_add, pk_mul, nI_clamp, bd, nm, gd_in, gd_bI, gd_b0, gd_b1, if_pos, if_neg, bI_n0, bI_n1, reduceIte, reduceCtorEq, Nat.add_zero]
    have ft : FR [0, 4] [] [] [] τ (si (si τ 0 0) 4 (nI k)) := (FR.rf.i (by decide)).i (by decide)
    have hm := h.1.fr ft (by decide)
    have hU : ∀ x, X7_undo_37 (fun σ => X7_undo_75 σ) N (nI 0) (si (si τ 0 0) 4 (nI k)) = x → X7_undo N τ = x := fun x hx => by
      rw [← hx]
      simp (disch := omega) only [X7_undo, k4, X7_undo_13, si_s, si_n, pk_sub, Nat.add_sub_cancel, fa_lit, nI_leI, nI_ltI, nI_eq, nI_add, pk_mul, nI_clamp, bd, nm, gd_in, gd_bI, gd_b0, gd_b1, if_pos, if_neg, bI_n0, bI_n1, reduceIte, reduceCtorEq, Nat.add_zero]
    have hwin : r k = 6 → ∀ s, ht (w k 0) s = true → s < ns c := c6
    have tab : ∀ v, v < nv c → r k < 6 → σ1.2.2.2 1 (r k * 4 + v) = w k v := fun v hv z => (a4 v (by omega)).trans (c4 z v hv).2
    have tab6 : 6 ≤ r k → σ1.2.2.2 1 (r k * 4) = w k 0 := fun z => (a4 0 (by omega)).trans (c5 z).2
    have hS : CS (pu c (r k) (w k)) (si (si σ1 13 0) 14 0) := by
      refine CS_pu h.2.1 (fσ.1 5 (by decide)) (fσ.1 6 (by decide)) (fσ.1 7 (by decide)) (fσ.1 8 (by decide)) (fσ.2.1 0 (by decide)) hwin (fun b v hb hv => ?_) ?_ ?_
      · show σ1.2.2.2 1 (b * 4 + v) = _
        by_cases z : b = r k
        · rw [if_pos z, z]; exact tab v hv (by omega)
        · rw [if_neg z]; exact a5 _ (fun v' hv' => by omega)
      · show σ1.2.2.2 1 24 = _
        by_cases z : r k = 6
        · rw [if_pos z, ← tab6 (by omega), z]
        · rw [if_neg z]; exact a5 _ (fun v' hv' => by omega)
      · show σ1.2.2.2 1 28 = _
        by_cases z : r k = 7
        · rw [if_pos z, ← tab6 (by omega), z]
        · rw [if_neg z]; exact a5 _ (fun v' hv' => by omega)
    have fin : ∀ τ3 mj mb, X7_undo_37 (fun σ => X7_undo_75 σ) N (nI 0) (si (si τ 0 0) 4 (nI k)) = some (nI k, τ3) → FR [9] mj [] mb (si (si τ 0 0) 4 (nI k)) τ3 → 1 ∉ mb → τ3.1 9 = 0 → CM (pu c (r k) (w k)) τ3 → Ag Rl (X6_undo N σ) (X6_undo_t σ) (fun k c => (k = 2 ∧ c = 1)) (X7_undo N τ) := by
      intro τ3 mj mb x1 x2 x3 x4 x5
      obtain ⟨L, t, hB⟩ := h.2.2.1
      refine ⟨nI k, τ3, hU _ x1, Or.inl ⟨_, hT, x2.1 0 (by decide), _, ⟨x5, hS, ⟨L, t, (hB.fr fσ ft (by decide)).fr (FR.rf : FR [] [] [] [] _ _) x2 (by decide)⟩, ⟨k, o, r, w, by omega, k2, ?_, ?_, ?_, fun i hi => ?_⟩, Or.inl rfl, Or.inl ⟨rfl, x4⟩⟩⟩⟩
      · exact a3
      · exact x2.1 4 (by decide)
      · exact (fσ.1 9 (by decide)).trans k5
      · rw [fσ.2.2.1 2 (by decide), fσ.2.2.2 2 (by decide), x2.2.2.1 1 (by decide), x2.2.2.2 1 x3]
        exact k6 i (by omega)
    rcases c1 with z | z | z
    · obtain ⟨τ3, x1, x2, x3, x4, x5⟩ := X7_undo_r (τ := si (si τ 0 0) 4 (nI k)) hN (k := k) (by omega) rfl (q := r k) (by omega) c2
      refine fin τ3 _ _ x1 x2 (by decide) x3 (CM_pu hm (x2.1 1 (by decide)) (x2.1 2 (by decide)) hwin (fun b v hb hv => ?_) ?_ ?_)
      · by_cases y : b = r k
        · rw [if_pos y, y]; exact (x4 v (by omega)).trans (c4 (by omega) v hv).1
        · rw [if_neg y]; exact x5 _ (fun v' hv' => by omega)
      · rw [if_neg (by omega)]; exact x2.2.1 0 (by decide)
      · rw [if_neg (by omega)]; exact x2.2.1 1 (by decide)
    · rw [z] at c2 c5 hwin
      obtain ⟨τ3, x1, x2, x3, x4⟩ := X7_undo_6 (τ := si (si τ 0 0) 4 (nI k)) (W := w k) hN (k := k) (by omega) rfl c2 (c5 (by omega)).1
      refine fin τ3 _ _ x1 x2 (by decide) x3 ?_
      rw [z]
      refine CM_pu hm (x2.1 1 (by decide)) (x2.1 2 (by decide)) hwin (fun b v hb hv => ?_) ?_ ?_
      · rw [if_neg (by omega), x2.2.2.2 0 (by decide)]
      · rw [if_pos rfl]; exact x4
      · rw [if_neg (by omega)]; exact x2.2.1 1 (by decide)
    · rw [z] at c2 c5 hwin
      obtain ⟨τ3, x1, x2, x3, x4⟩ := X7_undo_7 (τ := si (si τ 0 0) 4 (nI k)) (W := w k) hN (k := k) (by omega) rfl c2 (c5 (by omega)).1
      refine fin τ3 _ _ x1 x2 (by decide) x3 ?_
      rw [z]
      refine CM_pu hm (x2.1 1 (by decide)) (x2.1 2 (by decide)) hwin (fun b v hb hv => ?_) ?_ ?_
      · rw [if_neg (by omega), x2.2.2.2 0 (by decide)]
      · rw [if_neg (by omega)]; exact x2.2.1 0 (by decide)
      · rw [if_pos rfl]; exact x4
end UNDO
