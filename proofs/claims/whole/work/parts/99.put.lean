/-! 99: a row is replaced; the ops setNext, setInit, setProperty -/
def cst (vs : List (Nat → Int64)) : Prop := ∀ x, x ∈ vs → ∀ v, x v = x 0
theorem cst_ng {vs : List (Nat → Int64)} (h : cst vs) : cst (ng vs) := by
  match vs with
  | [] => exact h
  | x :: vs =>
    intro y hy v
    rcases List.mem_cons.mp hy with e | e
    · subst e
      show x v ^^^ (-1) = x 0 ^^^ (-1)
      rw [h x (List.mem_cons_self ..) v]
    · exact h y (List.mem_cons_of_mem _ e) v
theorem cst_ap {g : Nat} {vs : List (Nat → Int64)} (h : cst vs) : cst (ap g vs) := by
  match vs with
  | [] => exact h
  | [x] => exact h
  | r :: l :: vs =>
    intro y hy v
    have hr := h r (List.mem_cons_self ..) v
    have hl := h l (List.mem_cons_of_mem _ (List.mem_cons_self ..)) v
    rcases List.mem_cons.mp hy with e | e
    · subst e
      unfold jn
      rw [hr, hl]
    · exact h y (List.mem_cons_of_mem _ (List.mem_cons_of_mem _ e)) v
theorem cst_ps {b : Nat} : ∀ gs vs, cst vs → cst (ps b gs vs).2 := by
  intro gs
  induction gs with
  | nil => intro vs h; exact h
  | cons g gs ih =>
    intro vs h
    rw [ps]
    by_cases z : b ≤ st3 g
    · rw [if_pos z]; exact ih _ (cst_ap h)
    · rw [if_neg z]; exact h
theorem cst_pn : ∀ gs vs, cst vs → cst (pn gs vs).2 := by
  intro gs
  induction gs with
  | nil => intro vs h; exact h
  | cons g gs ih =>
    intro vs h
    rw [pn]
    by_cases z : g = 33
    · rw [if_pos z]; exact ih _ (cst_ng h)
    · rw [if_neg z]; exact h
theorem cst_ev {t : Nat → Nat} {L : Nat} (h : hasI t L = false) : ∀ i, i ≤ L → cst (evS t i).2 := by
  intro i
  induction i with
  | zero => intro _ x hx; exact absurd hx (by intro z; cases z)
  | succ i ih =>
    intro hi
    have hc := ih (by omega)
    have hx := ax_f.mp h i (by omega)
    rw [Bool.or_eq_false_iff, decide_eq_false_iff_not, decide_eq_false_iff_not] at hx
    rw [evS, ev]
    by_cases a : t i = 40 ∨ t i = 33
    · rw [if_pos a]; exact hc
    · rw [if_neg a]
      by_cases b : t i = 41
      · rw [if_pos b]; exact cst_pn _ _ (cst_ps _ _ hc)
      · rw [if_neg b]
        by_cases d : 1 ≤ st3 (t i)
        · rw [if_pos d]; exact cst_ps _ _ hc
        · rw [if_neg d]
          refine cst_pn _ _ (fun y hy v => ?_)
          rcases List.mem_cons.mp hy with e | e
          · subst e
            unfold opv
            rw [if_neg (show ¬ (t i = 120 ∨ t i = 121) by omega), if_neg (show ¬ (t i = 120 ∨ t i = 121) by omega)]
          · exact hc y e v
theorem vlF_c {t : Nat → Nat} {L : Nat} (h : hasI t L = false) (v : Nat) : vlF t L v = vlF t L 0 := by
  have hc := cst_ps (b := 1) (evS t L).1 (evS t L).2 (cst_ev h L (Nat.le_refl _))
  unfold vlF
  match hm : (ps 1 (evS t L).1 (evS t L).2).2 with
  | [] => rfl
  | x :: vs => exact hc x (by rw [hm]; exact List.mem_cons_self ..) v
section PUT
variable {c : Ck} {t : Nat → Nat} {L : Nat} {σ τ σ' τ' : St} {N K o : Nat} {r : Nat → Nat} {w : Nat → Nat → Int64} {W : Nat → Int64} {q : Nat}
theorem X0_replace_ok (hN : 4000000 ≤ N) (h : CS c σ) (hL : L ≤ 60) (h0 : σ.1 0 = nI L) (ht : ∀ i, i < L → t i < 127 ∧ σ.2.2.1 0 i = nI (t i)) (hF : isF c t L = true) (hq : q < 8) : ∃ σ', X0_replaceRow_a1_10 N (fun v3 σ => X0_replaceRow_a1_63 v3 σ) (nI q) N (nI 0) (nI 0) σ = some (nI (chm (nv c) (fun v => pc ((vlF t L v &&& al c) ^^^ σ.2.2.2 1 (q * 4 + v))) (nv c)), σ') ∧ FR [1, 2] [] [1] [0, 1] σ σ' ∧ (∀ v, v < nv c → σ'.2.2.2 1 (q * 4 + v) = vlF t L v &&& al c) ∧ ∀ z, (∀ v, v < 4 → z ≠ q * 4 + v) → σ'.2.2.2 1 z = σ.2.2.2 1 z := by
  have h4 := nv_le h.1
  have hb : c.1 < 7 := by have := h.1.2.1; omega
  have hi' : c.2.1 < 3 := by have := h.1.2.2.1; omega
  refine wf (fun n i (p : Int32 × St) => X0_replaceRow_a1_10 N (fun v3 σ => X0_replaceRow_a1_63 v3 σ) (nI q) n p.1 (nI i) p.2) (nv c) (fun i p => p.1 = nI (chm (nv c) (fun v => pc ((vlF t L v &&& al c) ^^^ σ.2.2.2 1 (q * 4 + v))) i) ∧ FR [1, 2] [] [1] [0, 1] σ p.2 ∧ (∀ v, v < i → p.2.2.2.2 1 (q * 4 + v) = vlF t L v &&& al c) ∧ (∀ v, i ≤ v → v < 4 → p.2.2.2.2 1 (q * 4 + v) = σ.2.2.2 1 (q * 4 + v)) ∧ ∀ z, (∀ v, v < 4 → z ≠ q * 4 + v) → p.2.2.2.2 1 z = σ.2.2.2 1 z) (fun r' => ∃ σ', r' = some (nI (chm (nv c) (fun v => pc ((vlF t L v &&& al c) ^^^ σ.2.2.2 1 (q * 4 + v))) (nv c)), σ') ∧ FR [1, 2] [] [1] [0, 1] σ σ' ∧ (∀ v, v < nv c → σ'.2.2.2 1 (q * 4 + v) = vlF t L v &&& al c) ∧ ∀ z, (∀ v, v < 4 → z ≠ q * 4 + v) → σ'.2.2.2 1 z = σ.2.2.2 1 z) ?_ ?_ N 0 (nI 0, σ) (by omega) ⟨rfl, FR.rf, fun v hv => by omega, fun _ _ _ => rfl, fun _ _ => rfl⟩ (by omega)
  · rintro n i ⟨a, u⟩ hi ⟨q1, hf, h1, h2, h3⟩
    dsimp only at q1 hf h1 h2 h3
    subst q1
    have hl : u.1 0 = nI L := by rw [hf.1 0 (by decide)]; exact h0
    have hu : ∀ i, i < L → t i < 127 ∧ u.2.2.1 0 i = nI (t i) := by rw [hf.2.2.1 0 (by decide)]; exact ht
    have e8 : u.1 8 = nI (nv c) := by rw [hf.1 8 (by decide)]; exact h.2.2.2.2.1
    obtain ⟨u1, a1, a2⟩ := X3_valueFor_ok (c := c) hN hb hi' hL hl hu hF (v := i) (by omega)
    have e0 : u1.2.1 0 = al c := by rw [a2.2.1 0 (by decide), hf.2.1 0 (by decide)]; exact h.2.2.2.2.2.1
    have e1 : u1.2.2.2 1 = u.2.2.2 1 := a2.2.2.2 1 (by decide)
    have e2 : u1.2.2.2 1 (q * 4 + i) = σ.2.2.2 1 (q * 4 + i) := by rw [e1]; exact h2 i (Nat.le_refl _) (by omega)
    refine Or.inr ⟨(nI (chm (nv c) (fun v => pc ((vlF t L v &&& al c) ^^^ σ.2.2.2 1 (q * 4 + v))) (i + 1)), sb u1 1 (q * 4 + i) (vlF t L i &&& al c)), ⟨rfl, (hf.tr (a2.mo (by decide))).b (by decide), fun v hv => ?_, fun v hv hv4 => ?_, fun z hz => ?_⟩, ?_⟩
    · show vp_updL (u1.2.2.2 1) _ _ _ = _
      rw [e1]
      rcases Nat.lt_or_ge v i with y | y
      · exact (v_n (by omega)).trans (h1 v y)
      · have : v = i := by omega
        subst this; exact v_s
    · show vp_updL (u1.2.2.2 1) _ _ _ = _
      rw [e1]
      exact (v_n (by omega)).trans (h2 v (by omega) hv4)
    · show vp_updL (u1.2.2.2 1) _ _ _ = _
      rw [e1]
      exact (v_n (hz i (by omega))).trans (h3 z hz)
    · show X0_replaceRow_a1_10 N _ _ (n + 1) _ _ _ = X0_replaceRow_a1_10 N _ _ n _ _ _
      rw [chm, if_pos hi]
      simp (disch := omega) only [X0_replaceRow_a1_10, X0_replaceRow_a1_10b, e8, a1, e0, X0_table_ok, e2, bc_ok, X0_putTable, fa_lit, nI_leI, nI_ltI, nI_eq, nI_add, pk_mul, nI_clamp, bd, nm, gd_in, gd_bI, gd_b0, gd_b1, if_pos, if_neg, bI_n0, bI_n1, reduceIte, reduceCtorEq, Nat.add_zero]
  · rintro n ⟨a, u⟩ ⟨q1, hf, h1, h2, h3⟩
    dsimp only at q1 hf h1 h2 h3
    subst q1
    have e8 : u.1 8 = nI (nv c) := by rw [hf.1 8 (by decide)]; exact h.2.2.2.2.1
    refine ⟨u, ?_, hf, h1, h3⟩
    show X0_replaceRow_a1_10 N _ _ (n + 1) _ _ _ = _
    simp (disch := omega) only [X0_replaceRow_a1_10, X0_replaceRow_a1_10b, e8, X0_replaceRow_a1_63, fa_lit, nI_leI, nI_ltI, nI_eq, nI_add, pk_mul, nI_clamp, bd, nm, gd_in, gd_bI, gd_b0, gd_b1, if_pos, if_neg, bI_n0, bI_n1, reduceIte, reduceCtorEq, Nat.add_zero]
theorem X7_become_r (hN : 4000000 ≤ N) (h : CM c τ) (hW : ∀ v, v < 4 → τ.2.2.2 2 v = W v) (hq : q < c.1) : ∃ τ', X7_become_13 N (fun v2 σ => X7_become_67 v2 σ) (nI q) N (nI 0) (nI 0) τ = some (nI (chm (nv c) (fun v => pc (τ.2.2.2 0 (4 * q + v) ^^^ W v)) (nv c)), τ') ∧ FR [3] [] [] [0] τ τ' ∧ τ'.1 3 = 0 ∧ (∀ v, v < 4 → τ'.2.2.2 0 (4 * q + v) = W v) ∧ ∀ z, (∀ v, v < 4 → z ≠ 4 * q + v) → τ'.2.2.2 0 z = τ.2.2.2 0 z := by
  have h4 := nv_le h.1
  have h6 := h.1.2.1
  refine wf (fun n i (p : Int32 × St) => X7_become_13 N (fun v2 σ => X7_become_67 v2 σ) (nI q) n p.1 (nI i) p.2) 4 (fun i p => p.1 = nI (chm (nv c) (fun v => pc (τ.2.2.2 0 (4 * q + v) ^^^ W v)) i) ∧ FR [] [] [] [0] τ p.2 ∧ (∀ v, v < i → p.2.2.2.2 0 (4 * q + v) = W v) ∧ (∀ v, i ≤ v → v < 4 → p.2.2.2.2 0 (4 * q + v) = τ.2.2.2 0 (4 * q + v)) ∧ ∀ z, (∀ v, v < 4 → z ≠ 4 * q + v) → p.2.2.2.2 0 z = τ.2.2.2 0 z) (fun r' => ∃ τ', r' = some (nI (chm (nv c) (fun v => pc (τ.2.2.2 0 (4 * q + v) ^^^ W v)) (nv c)), τ') ∧ FR [3] [] [] [0] τ τ' ∧ τ'.1 3 = 0 ∧ (∀ v, v < 4 → τ'.2.2.2 0 (4 * q + v) = W v) ∧ ∀ z, (∀ v, v < 4 → z ≠ 4 * q + v) → τ'.2.2.2 0 z = τ.2.2.2 0 z) ?_ ?_ N 0 (nI 0, τ) (by omega) ⟨rfl, FR.rf, fun v hv => by omega, fun _ _ _ => rfl, fun _ _ => rfl⟩ (by omega)
  · rintro n i ⟨a, u⟩ hi ⟨q1, hf, h1, h2, h3⟩
    dsimp only at q1 hf h1 h2 h3
    subst q1
    have ew : u.2.2.2 2 i = W i := by rw [hf.2.2.2 2 (by decide)]; exact hW i hi
    have hv : X7_values u = some (nI (nv c)) := by
      unfold X7_values
      rw [hf.1 2 (by decide)]
      exact X7_values_ok h
    have ez : wsF u q i = τ.2.2.2 0 (4 * q + i) := by
      unfold wsF
      rw [if_neg (by omega), if_neg (by omega)]
      exact h2 i (Nat.le_refl _) hi
    refine Or.inr ⟨(nI (chm (nv c) (fun v => pc (τ.2.2.2 0 (4 * q + v) ^^^ W v)) (i + 1)), sb u 0 (4 * q + i) (W i)), ⟨rfl, hf.b (by decide), fun v hv => ?_, fun v hv hv4 => (v_n (by omega)).trans (h2 v (by omega) hv4), fun z hz => (v_n (hz i hi)).trans (h3 z hz)⟩, ?_⟩
    · rcases Nat.lt_or_ge v i with y | y
      · exact (v_n (by omega)).trans (h1 v y)
      · have : v = i := by omega
        subst this; exact v_s
    · show X7_become_13 N _ _ (n + 1) _ _ _ = X7_become_13 N _ _ n _ _ _
      rw [chm]
      rcases Nat.lt_or_ge i (nv c) with z | z
      · rw [if_pos z]
        simp (disch := omega) only [X7_become_13, X7_become_13b, hv, X7_was_ok, ez, ew, X7_size_ok hN, X7_become_47, X7_put, fa_lit, nI_leI, nI_ltI, nI_eq, nI_add, pk_mul, nI_clamp, bd, nm, gd_in, gd_bI, gd_b0, gd_b1, if_pos, if_neg, bI_n0, bI_n1, reduceIte, reduceCtorEq, Nat.add_zero]
      · rw [if_neg (by omega)]
        simp (disch := omega) only [X7_become_13, X7_become_13b, hv, ew, X7_become_47, X7_put, fa_lit, nI_leI, nI_ltI, nI_eq, nI_add, pk_mul, nI_clamp, bd, nm, gd_in, gd_bI, gd_b0, gd_b1, if_pos, if_neg, bI_n0, bI_n1, reduceIte, reduceCtorEq, Nat.add_zero]
  · rintro n ⟨a, u⟩ ⟨q1, hf, h1, h2, h3⟩
    dsimp only at q1 hf h1 h2 h3
    subst q1
    refine ⟨si u 3 0, ?_, (hf.mo (by decide)).i (by decide), rfl, h1, h3⟩
    show X7_become_13 N _ _ (n + 1) _ _ _ = _
    rw [← chm_st 4 h4.2]
    simp (disch := omega) only [X7_become_13, X7_become_13b, X7_become_67, fa_lit, nI_leI, nI_ltI, nI_eq, nI_add, pk_mul, nI_clamp, bd, nm, gd_in, gd_bI, gd_b0, gd_b1, if_pos, if_neg, bI_n0, bI_n1, reduceIte, reduceCtorEq, Nat.add_zero]
theorem X7_become_6 (hN : 4000000 ≤ N) (h : CM c τ) (hW : ∀ v, v < 4 → τ.2.2.2 2 v = W 0) : ∃ m τ', X7_become_13 N (fun v2 σ => X7_become_67 v2 σ) (nI 6) N (nI 0) (nI 0) τ = some (m, τ') ∧ FR [3] [0] [] [] τ τ' ∧ τ'.1 3 = 0 ∧ τ'.2.1 0 = W 0 := by
  have h4 := nv_le h.1
  refine wf (fun n i (p : Int32 × St) => X7_become_13 N (fun v2 σ => X7_become_67 v2 σ) (nI 6) n p.1 (nI i) p.2) 4 (fun i p => FR [] [0] [] [] τ p.2 ∧ (0 < i → p.2.2.1 0 = W 0)) (fun r' => ∃ m τ', r' = some (m, τ') ∧ FR [3] [0] [] [] τ τ' ∧ τ'.1 3 = 0 ∧ τ'.2.1 0 = W 0) ?_ ?_ N 0 (nI 0, τ) (by omega) ⟨FR.rf, fun z => by omega⟩ (by omega)
  · rintro n i ⟨a, u⟩ hi ⟨hf, h1⟩
    dsimp only at hf h1
    have ew : u.2.2.2 2 i = W 0 := by rw [hf.2.2.2 2 (by decide)]; exact hW i hi
    have hv : X7_values u = some (nI (nv c)) := by
      unfold X7_values
      rw [hf.1 2 (by decide)]
      exact X7_values_ok h
    rcases Nat.lt_or_ge i (nv c) with z | z
    · refine Or.inr ⟨(a + nI (pc (wsF u 6 i ^^^ W 0)), sj u 0 (W 0)), ⟨hf.j (by decide), fun _ => rfl⟩, ?_⟩
      show X7_become_13 N _ _ (n + 1) _ _ _ = X7_become_13 N _ _ n _ _ _
      simp (disch := omega) only [X7_become_13, X7_become_13b, hv, X7_was_ok, ew, X7_size_ok hN, X7_become_47, X7_put, fa_lit, nI_leI, nI_ltI, nI_eq, nI_add, pk_mul, nI_clamp, bd, nm, gd_in, gd_bI, gd_b0, gd_b1, if_pos, if_neg, bI_n0, bI_n1, reduceIte, reduceCtorEq, Nat.add_zero]
    · refine Or.inr ⟨(a + nI 0, sj u 0 (W 0)), ⟨hf.j (by decide), fun _ => rfl⟩, ?_⟩
      show X7_become_13 N _ _ (n + 1) _ _ _ = X7_become_13 N _ _ n _ _ _
      simp (disch := omega) only [X7_become_13, X7_become_13b, hv, ew, X7_become_47, X7_put, fa_lit, nI_leI, nI_ltI, nI_eq, nI_add, pk_mul, nI_clamp, bd, nm, gd_in, gd_bI, gd_b0, gd_b1, if_pos, if_neg, bI_n0, bI_n1, reduceIte, reduceCtorEq, Nat.add_zero]
  · rintro n ⟨a, u⟩ ⟨hf, h1⟩
    dsimp only at hf h1
    refine ⟨a, si u 3 0, ?_, (hf.mo (by decide)).i (by decide), rfl, h1 (by omega)⟩
    show X7_become_13 N _ _ (n + 1) _ _ _ = _
    simp (disch := omega) only [X7_become_13, X7_become_13b, X7_become_67, fa_lit, nI_leI, nI_ltI, nI_eq, nI_add, pk_mul, nI_clamp, bd, nm, gd_in, gd_bI, gd_b0, gd_b1, if_pos, if_neg, bI_n0, bI_n1, reduceIte, reduceCtorEq, Nat.add_zero]
theorem X7_become_7 (hN : 4000000 ≤ N) (h : CM c τ) (hW : ∀ v, v < 4 → τ.2.2.2 2 v = W 0) : ∃ m τ', X7_become_13 N (fun v2 σ => X7_become_67 v2 σ) (nI 7) N (nI 0) (nI 0) τ = some (m, τ') ∧ FR [3] [1] [] [] τ τ' ∧ τ'.1 3 = 0 ∧ τ'.2.1 1 = W 0 := by
  have h4 := nv_le h.1
  refine wf (fun n i (p : Int32 × St) => X7_become_13 N (fun v2 σ => X7_become_67 v2 σ) (nI 7) n p.1 (nI i) p.2) 4 (fun i p => FR [] [1] [] [] τ p.2 ∧ (0 < i → p.2.2.1 1 = W 0)) (fun r' => ∃ m τ', r' = some (m, τ') ∧ FR [3] [1] [] [] τ τ' ∧ τ'.1 3 = 0 ∧ τ'.2.1 1 = W 0) ?_ ?_ N 0 (nI 0, τ) (by omega) ⟨FR.rf, fun z => by omega⟩ (by omega)
  · rintro n i ⟨a, u⟩ hi ⟨hf, h1⟩
    dsimp only at hf h1
    have ew : u.2.2.2 2 i = W 0 := by rw [hf.2.2.2 2 (by decide)]; exact hW i hi
    have hv : X7_values u = some (nI (nv c)) := by
      unfold X7_values
      rw [hf.1 2 (by decide)]
      exact X7_values_ok h
    rcases Nat.lt_or_ge i (nv c) with z | z
    · refine Or.inr ⟨(a + nI (pc (wsF u 7 i ^^^ W 0)), sj u 1 (W 0)), ⟨hf.j (by decide), fun _ => rfl⟩, ?_⟩
      show X7_become_13 N _ _ (n + 1) _ _ _ = X7_become_13 N _ _ n _ _ _
      simp (disch := omega) only [X7_become_13, X7_become_13b, hv, X7_was_ok, ew, X7_size_ok hN, X7_become_47, X7_put, fa_lit, nI_leI, nI_ltI, nI_eq, nI_add, pk_mul, nI_clamp, bd, nm, gd_in, gd_bI, gd_b0, gd_b1, if_pos, if_neg, bI_n0, bI_n1, reduceIte, reduceCtorEq, Nat.add_zero]
    · refine Or.inr ⟨(a + nI 0, sj u 1 (W 0)), ⟨hf.j (by decide), fun _ => rfl⟩, ?_⟩
      show X7_become_13 N _ _ (n + 1) _ _ _ = X7_become_13 N _ _ n _ _ _
      simp (disch := omega) only [X7_become_13, X7_become_13b, hv, ew, X7_become_47, X7_put, fa_lit, nI_leI, nI_ltI, nI_eq, nI_add, pk_mul, nI_clamp, bd, nm, gd_in, gd_bI, gd_b0, gd_b1, if_pos, if_neg, bI_n0, bI_n1, reduceIte, reduceCtorEq, Nat.add_zero]
  · rintro n ⟨a, u⟩ ⟨hf, h1⟩
    dsimp only at hf h1
    refine ⟨a, si u 3 0, ?_, (hf.mo (by decide)).i (by decide), rfl, h1 (by omega)⟩
    show X7_become_13 N _ _ (n + 1) _ _ _ = _
    simp (disch := omega) only [X7_become_13, X7_become_13b, X7_become_67, fa_lit, nI_leI, nI_ltI, nI_eq, nI_add, pk_mul, nI_clamp, bd, nm, gd_in, gd_bI, gd_b0, gd_b1, if_pos, if_neg, bI_n0, bI_n1, reduceIte, reduceCtorEq, Nat.add_zero]
theorem ht_al (h : okC c) {x : Int64} {s : Nat} (hs : ht (x &&& al c) s = true) : s < ns c := by
  rw [h_and, h_al h, Bool.and_eq_true, decide_eq_true_eq] at hs
  exact hs.2
/-- what a formula in the buffer becomes -/
theorem take_ok (hN : 4000000 ≤ N) (h : RC c σ τ) (hB : BF L t σ τ) (hF : isF c t L = true) (hq : VR c q) (hI : 6 ≤ q → hasI t L = false) : ∃ σ' τ' m m', X6_takeFormula N (nI q) σ = some (m, σ') ∧ X7_become N (nI q) τ = some (m', τ') ∧ RC (pu c q (fun v => vlF t L v &&& al c)) σ' τ' ∧ τ'.1 0 = τ.1 0 ∧ (q < 6 → m = m') := by
  have h4 := nv_le h.1.1
  have h6 := h.1.1.2.1
  have hq8 := VR_lt h.1.1 hq
  obtain ⟨τ1, a1, a2, a3⟩ := X7_evaluate_ok hN h.1 hB.1 hB.2.2.1 hB.m hF
  have hm1 := h.1.fr a2 (by decide)
  obtain ⟨K, o, r, w, hk⟩ := h.2.2.2.1
  have hk1 := hk.fr (FR.rf (di := []) (dj := []) (da := []) (db := [])) a2 (by decide)
  obtain ⟨σ2, τ2, b1, b2, b3, b4, b5, K', o', r', w', b6⟩ := keep_ok hN hm1 h.2.1 hk1 hq
  have hm2 := hm1.fr b4 (by decide)
  have hs2 := h.2.1.fr b3 (by decide)
  have hl2 : σ2.1 0 = nI L := by rw [b3.1 0 (by decide)]; exact hB.2.1
  have ht2 : ∀ i, i < L → t i < 127 ∧ σ2.2.2.1 0 i = nI (t i) := by rw [b3.2.2.1 0 (by decide)]; exact hB.s
  obtain ⟨σ3, d1, d2, d3, d4⟩ := X0_replace_ok hN hs2 hB.1 hl2 ht2 hF hq8
  have w2 : ∀ v, v < 4 → τ2.2.2.2 2 v = vlF t L v &&& al c := fun v hv => by rw [b4.2.2.2 2 (by decide)]; exact a3 v hv
  have hwin : q = 6 → ∀ s, ht (vlF t L 0 &&& al c) s = true → s < ns c := fun _ s hs => ht_al h.1.1 hs
  have fσ : FR [0, 1, 2, 9, 10, 13, 14] [] [1, 2] [0, 1, 2] σ (si (si (si σ3 0 0) 13 0) 14 0) := ((((b3.mo (by decide)).tr (d2.mo (by decide))).i (by decide)).i (by decide)).i (by decide)
  have hT : X6_takeFormula N (nI q) σ = some (nI (chm (nv c) (fun v => pc ((vlF t L v &&& al c) ^^^ σ2.2.2.2 1 (q * 4 + v))) (nv c)), si (si (si σ3 0 0) 13 0) 14 0) := by
    simp only [X6_takeFormula, X0_replaceRow_a1, b1, bd, fa_lit, d1, nm, X6_forgetResults]
  have f23 : FR [0, 1, 2, 13, 14] [] [1] [0, 1] σ2 (si (si (si σ3 0 0) 13 0) 14 0) := (((d2.mo (by decide)).i (by decide)).i (by decide)).i (by decide)
  have hS : CS (pu c q (fun v => vlF t L v &&& al c)) (si (si (si σ3 0 0) 13 0) 14 0) := by
    refine CS_pu hs2 (f23.1 5 (by decide)) (f23.1 6 (by decide)) (f23.1 7 (by decide)) (f23.1 8 (by decide)) (f23.2.1 0 (by decide)) hwin (fun b v hb hv => ?_) ?_ ?_
    · show σ3.2.2.2 1 (b * 4 + v) = _
      by_cases z : b = q
      · rw [if_pos z, z]; exact d3 v hv
      · rw [if_neg z]; exact d4 _ (fun v' hv' => by omega)
    · show σ3.2.2.2 1 24 = _
      by_cases z : q = 6
      · rw [if_pos z]; subst z; exact d3 0 (by omega)
      · rw [if_neg z]; exact d4 _ (fun v' hv' => by omega)
    · show σ3.2.2.2 1 28 = _
      by_cases z : q = 7
      · rw [if_pos z]; subst z; exact d3 0 (by omega)
      · rw [if_neg z]; exact d4 _ (fun v' hv' => by omega)
  have fin : ∀ m' τ3 mi mj mb, X7_become_13 N (fun v2 σ => X7_become_67 v2 σ) (nI q) N (nI 0) (nI 0) τ2 = some (m', τ3) → FR mi mj [] mb τ2 τ3 → (4 ∉ mi ∧ 9 ∉ mi ∧ 0 ∉ mi ∧ 1 ∉ mb) → τ3.1 3 = 0 → CM (pu c q (fun v => vlF t L v &&& al c)) τ3 → (q < 6 → m' = nI (chm (nv c) (fun v => pc ((vlF t L v &&& al c) ^^^ σ2.2.2.2 1 (q * 4 + v))) (nv c))) → ∃ σ' τ' m m', X6_takeFormula N (nI q) σ = some (m, σ') ∧ X7_become N (nI q) τ = some (m', τ') ∧ RC (pu c q (fun v => vlF t L v &&& al c)) σ' τ' ∧ τ'.1 0 = τ.1 0 ∧ (q < 6 → m = m') := by
    intro m' τ3 mi mj mb x1 x2 x3 x4 x5 x6
    refine ⟨_, τ3, _, m', hT, ?_, ⟨x5, hS, ⟨0, t, by omega, rfl, x4, fun i hi => by omega⟩, ⟨K', o', r', w', ?_⟩, Or.inl rfl, Or.inl ⟨rfl, (x2.1 9 x3.2.1).trans b5⟩⟩, ?_, fun z => (x6 z).symm⟩
    · simp only [X7_become, a1, b2, bd, fa_lit, x1]
    · exact KP.fr (c := c) b6 f23 x2 ⟨by decide, x3.1, by decide, x3.2.2.2⟩
    · rw [x2.1 0 x3.2.2.1, b4.1 0 (by decide), a2.1 0 (by decide)]
  rcases hq with z | z | z
  · obtain ⟨τ3, x1, x2, x3, x4, x5⟩ := X7_become_r hN hm2 w2 z
    refine fin _ τ3 _ _ _ x1 x2 (by decide) x3 (CM_pu hm2 (x2.1 1 (by decide)) (x2.1 2 (by decide)) hwin (fun b v hb hv => ?_) ?_ ?_) (fun _ => ?_)
    · by_cases y : b = q
      · rw [if_pos y, y]; exact x4 v (by omega)
      · rw [if_neg y]; exact x5 _ (fun v' hv' => by omega)
    · rw [if_neg (by omega)]; exact x2.2.1 0 (by decide)
    · rw [if_neg (by omega)]; exact x2.2.1 1 (by decide)
    · congr 1
      have key : ∀ m, m ≤ nv c → chm (nv c) (fun v => pc (τ2.2.2.2 0 (4 * q + v) ^^^ (vlF t L v &&& al c))) m = chm (nv c) (fun v => pc ((vlF t L v &&& al c) ^^^ σ2.2.2.2 1 (q * 4 + v))) m := by
        intro m
        induction m with
        | zero => intro _; rfl
        | succ m ih =>
          intro hm
          rw [chm, chm, ih (by omega), if_pos (by omega), if_pos (by omega), hm2.2.2.2.1 q m z (by omega), hs2.2.2.2.2.2.2.1 q m z (by omega), pc_xc]
      exact key _ (Nat.le_refl _)
  · subst z
    have hc := vlF_c (hI (by omega))
    obtain ⟨m', τ3, x1, x2, x3, x4⟩ := X7_become_6 (W := fun v => vlF t L v &&& al c) hN hm2 (fun v hv => by rw [w2 v hv, hc v])
    refine fin m' τ3 _ _ _ x1 x2 (by decide) x3 (CM_pu hm2 (x2.1 1 (by decide)) (x2.1 2 (by decide)) hwin (fun b v hb hv => ?_) ?_ ?_) (fun z => by omega)
    · rw [if_neg (by omega), x2.2.2.2 0 (by decide)]
    · rw [if_pos rfl]; exact x4
    · rw [if_neg (by omega)]; exact x2.2.1 1 (by decide)
  · subst z
    have hc := vlF_c (hI (by omega))
    obtain ⟨m', τ3, x1, x2, x3, x4⟩ := X7_become_7 (W := fun v => vlF t L v &&& al c) hN hm2 (fun v hv => by rw [w2 v hv, hc v])
    refine fin m' τ3 _ _ _ x1 x2 (by decide) x3 (CM_pu hm2 (x2.1 1 (by decide)) (x2.1 2 (by decide)) hwin (fun b v hb hv => ?_) ?_ ?_) (fun z => by omega)
    · rw [if_neg (by omega), x2.2.2.2 0 (by decide)]
    · rw [if_neg (by omega)]; exact x2.2.1 0 (by decide)
    · rw [if_pos rfl]; exact x4
theorem Op_setNext_ok (hN : 4000000 ≤ N) (h : RC c σ τ) : Op_setNext N Rl σ τ := by
  intro v1
  obtain ⟨L, t, hB⟩ := h.2.2.1
  have h1 := h.1.1.1
  have h6 := h.1.1.2.1
  have hb : c.1 < 7 := by omega
  have hi : c.2.1 < 3 := by have := h.1.1.2.2.1; omega
  have e5 := h.2.1.2.1
  rcases pk_ix v1 (n := c.1) (by omega) with z | z | ⟨q, hq, rfl⟩
  · refine ⟨0, si τ 0 1, ?_, Or.inr ⟨3, 1, σ, Or.inl ⟨rfl, rfl⟩, ?_, rfl, ⟨c, h.th 1⟩⟩⟩
    · simp only [X7_setNext, X7_setNext_31, bd, nm, si0, p10, p1, reduceIte, wi_neg z]
    · simp only [X6_setNext_t, if_pos z, X6_setNext_t_15]
  · obtain ⟨a1, a2, a3⟩ := wi_big (by omega) (by omega) z
    refine ⟨0, si τ 0 1, ?_, Or.inr ⟨3, 1, σ, Or.inl ⟨rfl, rfl⟩, ?_, rfl, ⟨c, h.th 1⟩⟩⟩
    · simp only [X7_setNext, X7_setNext_31, bd, nm, si0, p10, p1, reduceIte, h.1.2.1, a1]
    · simp only [X6_setNext_t, if_neg a2, e5, if_neg a3, X6_setNext_t_15]
  · have w1 := wi_in hq (by omega)
    have w1' : X7_within (nI q) (nI 0) (nI c.1 - nI 1) = some (nI 1) := w1
    obtain ⟨σ1, x1, f1⟩ := X3_isFormula_ok (c := c) (t := t) hN hb hi hB.1 hB.2.1 hB.s
    obtain ⟨τ1, x2, f2⟩ := X7_isFormula_ok (c := c) (t := t) hN hb hi h.1.2.1 h.1.2.2.1 hB.1 hB.2.2.1 hB.m
    have hr1 := h.sc (f1.mo (by decide)) (f2.mo (by decide))
    have hB1 := hB.fr f1 f2 (by decide)
    cases e : isF c t L
    · rw [e] at x1 x2
      refine ⟨0, si τ1 0 2, ?_, Or.inr ⟨2, 2, σ1, Or.inr ⟨rfl, rfl⟩, ?_, rfl, ⟨c, hr1.th 2⟩⟩⟩
      · simp (disch := omega) only [X7_setNext, h.1.2.1, w1', x2, X7_setNext_31, si_s, fa_lit, nI_leI, nI_ltI, nI_eq, nI_add, pk_mul, nI_clamp, bd, nm, gd_in, gd_bI, gd_b0, gd_b1, if_pos, if_neg, bI_n0, bI_n1, reduceIte, reduceCtorEq, Nat.add_zero]
      · simp (disch := omega) only [X6_setNext_t, e5, h.2.1.2.2.1, x1, fa_lit, nI_leI, nI_ltI, nI_eq, nI_add, pk_mul, nI_clamp, bd, nm, gd_in, gd_bI, gd_b0, gd_b1, if_pos, if_neg, bI_n0, bI_n1, reduceIte, reduceCtorEq, Nat.add_zero]
    · rw [e] at x1 x2
      obtain ⟨σ2, τ2, m, m', b1, b2, b3, b4, b5⟩ := take_ok hN (hr1.th 0) (hB1.fr (FR.rf : FR [] [] [] [] _ _) (FR.rf.i (by decide) : FR [0] [] [] [] τ1 (si τ1 0 0)) (by decide)) e (q := q) (Or.inl hq) (fun z => by omega)
      have b5' := b5 (by omega)
      subst b5'
      refine ⟨m, τ2, ?_, Or.inl ⟨σ2, ?_, b4, ⟨_, b3⟩⟩⟩
      · have b2' : X7_become N (nI q) (si τ1 0 (nI 0)) = some (m, τ2) := b2
        simp (disch := omega) only [X7_setNext, h.1.2.1, w1', x2, X7_setNext_31, si_s, b2', fa_lit, nI_leI, nI_ltI, nI_eq, nI_add, pk_mul, nI_clamp, bd, nm, gd_in, gd_bI, gd_b0, gd_b1, if_pos, if_neg, bI_n0, bI_n1, reduceIte, reduceCtorEq, Nat.add_zero]
      · simp (disch := omega) only [X6_setNext, e5, h.2.1.2.2.1, x1, b1, fa_lit, nI_leI, nI_ltI, nI_eq, nI_add, pk_mul, nI_clamp, bd, nm, gd_in, gd_bI, gd_b0, gd_b1, if_pos, if_neg, bI_n0, bI_n1, reduceIte, reduceCtorEq, Nat.add_zero]
theorem Op_setInit_ok (hN : 4000000 ≤ N) (h : RC c σ τ) : Op_setInit N Rl σ τ := by
  obtain ⟨L, t, hB⟩ := h.2.2.1
  obtain ⟨σ1, f1, g1, g2⟩ := X6_rsf_ok hN h.2.1 hB
  obtain ⟨τ1, e1, f2⟩ := X7_isPlain_ok hN h.1 hB
  have hr1 := h.sc (f1.mo (by decide)) (f2.mo (by decide))
  have hB1 := hB.fr f1 f2 (by decide)
  cases e : pln c t L
  · have g2' := g2 e
    rw [e] at e1
    refine ⟨0, si τ1 0 1, ?_, Or.inr ⟨2, 1, σ1, ⟨rfl, rfl⟩, ?_, rfl, ⟨c, hr1.th 1⟩⟩⟩
    · simp (disch := omega) only [X7_setInit, e1, X7_setInit_13, si_s, X7_setInit_30, fa_lit, nI_leI, nI_ltI, nI_eq, nI_add, pk_mul, nI_clamp, bd, nm, gd_in, gd_bI, gd_b0, gd_b1, if_pos, if_neg, bI_n0, bI_n1, reduceIte, reduceCtorEq, Nat.add_zero]
    · simp only [X6_setInit_t, g2', tb]
  · obtain ⟨g1a, g1b⟩ := g1 e
    rw [e] at e1
    have eF : isF c t L = true := by unfold pln at e; revert e; cases isF c t L <;> simp
    have eI : hasI t L = false := by unfold pln at e; revert e; cases hasI t L <;> simp
    obtain ⟨σ2, τ2, m, m', b1, b2, b3, b4, _⟩ := take_ok hN (hr1.th 0) (hB1.fr (FR.rf : FR [] [] [] [] _ _) (FR.rf.i (by decide) : FR [0] [] [] [] τ1 (si τ1 0 0)) (by decide)) eF (q := 6) (Or.inr (Or.inl rfl)) (fun _ => eI)
    refine ⟨nI (pc (pu c 6 (fun v => vlF t L v &&& al c)).2.2.2.1), τ2, ?_, Or.inl ⟨σ2, ?_, b4, ⟨_, b3⟩⟩⟩
    · have ej : τ2.2.1 0 = (pu c 6 (fun v => vlF t L v &&& al c)).2.2.2.1 := b3.1.2.2.2.2.1
      have b2' : X7_become N (nI 6) (si τ1 0 (nI 0)) = some (m', τ2) := b2
      have b4' : τ2.1 0 = nI 0 := b4
      simp (disch := omega) only [X7_setInit, e1, X7_setInit_13, si_s, b2', X7_setInit_30, b4', ej, X7_size_ok hN, fa_lit, nI_leI, nI_ltI, nI_eq, nI_add, pk_mul, nI_clamp, bd, nm, gd_in, gd_bI, gd_b0, gd_b1, if_pos, if_neg, bI_n0, bI_n1, reduceIte, reduceCtorEq, Nat.add_zero]
    · have b1' : X6_takeFormula N (nI 6) σ1 = some (m, σ2) := b1
      simp (disch := omega) only [X6_setInit, g1a, b1', X0_initial_ok b3.2.1, bc_ok, fa_lit, nI_leI, nI_ltI, nI_eq, nI_add, pk_mul, nI_clamp, bd, nm, gd_in, gd_bI, gd_b0, gd_b1, if_pos, if_neg, bI_n0, bI_n1, reduceIte, reduceCtorEq, Nat.add_zero]
theorem Op_setProperty_ok (hN : 4000000 ≤ N) (h : RC c σ τ) : Op_setProperty N Rl σ τ := by
  obtain ⟨L, t, hB⟩ := h.2.2.1
  obtain ⟨σ1, f1, g1, g2⟩ := X6_rsf_ok hN h.2.1 hB
  obtain ⟨τ1, e1, f2⟩ := X7_isPlain_ok hN h.1 hB
  have hr1 := h.sc (f1.mo (by decide)) (f2.mo (by decide))
  have hB1 := hB.fr f1 f2 (by decide)
  cases e : pln c t L
  · have g2' := g2 e
    rw [e] at e1
    refine ⟨0, si τ1 0 1, ?_, Or.inr ⟨2, 1, σ1, ⟨rfl, rfl⟩, ?_, rfl, ⟨c, hr1.th 1⟩⟩⟩
    · simp (disch := omega) only [X7_setProperty, e1, X7_setProperty_13, si_s, X7_setProperty_30, fa_lit, nI_leI, nI_ltI, nI_eq, nI_add, pk_mul, nI_clamp, bd, nm, gd_in, gd_bI, gd_b0, gd_b1, if_pos, if_neg, bI_n0, bI_n1, reduceIte, reduceCtorEq, Nat.add_zero]
    · simp only [X6_setProperty_t, g2', tb]
  · obtain ⟨g1a, g1b⟩ := g1 e
    rw [e] at e1
    have eF : isF c t L = true := by unfold pln at e; revert e; cases isF c t L <;> simp
    have eI : hasI t L = false := by unfold pln at e; revert e; cases hasI t L <;> simp
    obtain ⟨σ2, τ2, m, m', b1, b2, b3, b4, _⟩ := take_ok hN (hr1.th 0) (hB1.fr (FR.rf : FR [] [] [] [] _ _) (FR.rf.i (by decide) : FR [0] [] [] [] τ1 (si τ1 0 0)) (by decide)) eF (q := 7) (Or.inr (Or.inr rfl)) (fun _ => eI)
    refine ⟨nI (pc (pu c 7 (fun v => vlF t L v &&& al c)).2.2.2.2), τ2, ?_, Or.inl ⟨σ2, ?_, b4, ⟨_, b3⟩⟩⟩
    · have ej : τ2.2.1 1 = (pu c 7 (fun v => vlF t L v &&& al c)).2.2.2.2 := b3.1.2.2.2.2.2
      have b2' : X7_become N (nI 7) (si τ1 0 (nI 0)) = some (m', τ2) := b2
      have b4' : τ2.1 0 = nI 0 := b4
      simp (disch := omega) only [X7_setProperty, e1, X7_setProperty_13, si_s, b2', X7_setProperty_30, b4', ej, X7_size_ok hN, fa_lit, nI_leI, nI_ltI, nI_eq, nI_add, pk_mul, nI_clamp, bd, nm, gd_in, gd_bI, gd_b0, gd_b1, if_pos, if_neg, bI_n0, bI_n1, reduceIte, reduceCtorEq, Nat.add_zero]
    · have b1' : X6_takeFormula N (nI 7) σ1 = some (m, σ2) := b1
      simp (disch := omega) only [X6_setProperty, g1a, b1', X0_good_ok b3.2.1, bc_ok, fa_lit, nI_leI, nI_ltI, nI_eq, nI_add, pk_mul, nI_clamp, bd, nm, gd_in, gd_bI, gd_b0, gd_b1, if_pos, if_neg, bI_n0, bI_n1, reduceIte, reduceCtorEq, Nat.add_zero]
end PUT
