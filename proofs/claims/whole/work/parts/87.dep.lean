/-! 87: depths, distances, the length of the shortest run, in both programs -/
def rlf (x : Int64) (f : Nat → Int32) : Nat → Int32
  | 0 => -1
  | s + 1 => if ht x s = true ∧ f s ≠ -1 ∧ (rlf x f s = -1 ∨ ¬ rlf x f s ≤ f s) then f s else rlf x f s
theorem rlf_congr {x : Int64} {f g : Nat → Int32} : ∀ n, (∀ s, s < n → f s = g s) → rlf x f n = rlf x g n := by
  intro n
  induction n with
  | zero => intro _; rfl
  | succ n ih => intro h; rw [rlf, rlf, ih (fun s hs => h s (by omega)), h n (by omega)]
theorem rlf_st {x : Int64} {f : Nat → Int32} {m : Nat} (h : ∀ s, ht x s = true → s < m) : ∀ n, m ≤ n → rlf x f n = rlf x f m := by
  intro n
  induction n with
  | zero => intro hm; have : m = 0 := by omega
            subst this; rfl
  | succ n ih =>
    intro hm
    rcases Nat.lt_or_ge n m with q | q
    · have : m = n + 1 := by omega
      subst this; rfl
    · rw [rlf, if_neg (fun z => by have := h n z.1; omega), ih q]
def dep (c : Ck) (s : Nat) : Int32 := far (FB c false) c.2.2.2.1 64 s
def dis (c : Ck) (s : Nat) : Int32 := far (FB c true) (bad c) 64 s
def rch (c : Ck) : Int64 := (lay (FB c false) c.2.2.2.1 64).1
def dpc (c : Ck) : Int32 := dpt (FB c false) c.2.2.2.1 64
def rlc (c : Ck) : Int32 := rlf c.2.2.2.1 (dis c) (ns c)
section DEP
variable {c : Ck} {τ σ : St} {N : Nat}
theorem X2_findDepths_ok (hN : 4000000 ≤ N) (h : CS c σ) (hf : F3 c σ) : ∃ σ', X2_findDepths N σ = some σ' ∧ FR [11] [1] [4] [] σ σ' ∧ (∀ s, s < 64 → σ'.2.2.1 4 s = dep c s) ∧ σ'.2.1 1 = rch c ∧ σ'.1 11 = dpc c := by
  have h64 := ns_le h.1
  obtain ⟨σ1, e1, f1, g1⟩ := J7_fill_53178_a16_ok hN (-1) σ
  unfold X2_findDepths
  rw [e1]
  have hx := h.1.2.2.2
  have fz : FR [11] [1] [4] [] σ (si (sj σ1 1 0) 11 (-1)) := ((f1.mo (by decide)).j (by decide)).i (by decide)
  simp only [bd, nm, X0_initial_ok (h.fr fz (by decide))]
  show ∃ σ', X2_findDepths_28 N (fun σ => X2_findDepths_85 σ) N c.2.2.2.1 (nI 0) (si (sj σ1 1 0) 11 (-1)) = some σ' ∧ _
  refine wf (fun n j u => X2_findDepths_28 N (fun σ => X2_findDepths_85 σ) n (lay (FB c false) c.2.2.2.1 j).2 (nI j) u) 64 (fun j u => FR [11] [1] [4] [] σ u ∧ (∀ s, s < 64 → u.2.2.1 4 s = far (FB c false) c.2.2.2.1 j s) ∧ u.2.1 1 = (lay (FB c false) c.2.2.2.1 j).1 ∧ u.1 11 = dpt (FB c false) c.2.2.2.1 j) (fun r => ∃ σ', r = some σ' ∧ FR [11] [1] [4] [] σ σ' ∧ (∀ s, s < 64 → σ'.2.2.1 4 s = dep c s) ∧ σ'.2.1 1 = rch c ∧ σ'.1 11 = dpc c) ?_ ?_ N 0 _ (by omega) ⟨fz, g1, rfl, rfl⟩ (by omega)
  · rintro n j u hj ⟨q1, q2, q3, q4⟩
    have hu := h.fr q1 (by decide)
    rcases Classical.em ((lay (FB c false) c.2.2.2.1 j).2 = 0) with e | e
    · refine Or.inl ?_
      obtain ⟨z1, z2, z3, z4⟩ := lay_z (FB_0 h.1 false) e 64 (by omega)
      refine ⟨u, ?_, q1, fun s hs => (q2 s hs).trans (z3 s).symm, q3.trans z2.symm, q4.trans z4.symm⟩
      show X2_findDepths_28 N _ (n + 1) _ _ _ = _
      simp (disch := omega) only [X2_findDepths_28, X2_findDepths_28b, e, X2_findDepths_85, fa_lit, nI_leI, nI_ltI, nI_eq, nI_add, pk_mul, nI_clamp, bd, nm, gd_in, gd_bI, gd_b0, gd_b1, if_pos, if_neg, bI_n0, bI_n1, reduceIte, reduceCtorEq, Nat.add_zero]
    · refine Or.inr ?_
      obtain ⟨u1, k1, k2, k3⟩ := X2_mark_a16_ok hN (lay (FB c false) c.2.2.2.1 j).2 (nI j) u
      have k4 : FR [11] [1] [4] [] σ (si (sj u1 1 (u1.2.1 1 ||| (lay (FB c false) c.2.2.2.1 j).2)) 11 (nI j)) := ((q1.tr (k2.mo (by decide))).j (by decide)).i (by decide)
      have k5 : F3 c (si (sj u1 1 (u1.2.1 1 ||| (lay (FB c false) c.2.2.2.1 j).2)) 11 (nI j)) := by
        unfold F3
        rw [k4.2.2.1 3 (by decide), k4.2.2.2 3 (by decide), k4.2.2.2 4 (by decide)]
        exact hf
      have k6 := X2_successorsOf_ok hN h.1 k5 (x := (lay (FB c false) c.2.2.2.1 j).2) (fun s hs => lay_s hx (FB_l h.1 false) j s hs)
      have k7 : u1.2.1 1 = (lay (FB c false) c.2.2.2.1 j).1 := (k2.2.1 1 (by decide)).trans q3
      refine ⟨_, ⟨k4, fun s hs => ?_, ?_, ?_⟩, ?_⟩
      · rw [far, ← q2 s hs]
        exact k3 s hs
      · show u1.2.1 1 ||| _ = _
        rw [k7]; rfl
      · rw [dpt, if_neg e]; rfl
      · show X2_findDepths_28 N _ (n + 1) _ _ _ = X2_findDepths_28 N _ n _ _ _
        simp (disch := omega) only [X2_findDepths_28, X2_findDepths_28b, e, k1, k6, fa_lit, nI_leI, nI_ltI, nI_eq, nI_add, pk_mul, nI_clamp, bd, nm, gd_in, gd_bI, gd_b0, gd_b1, if_pos, if_neg, bI_n0, bI_n1, reduceIte, reduceCtorEq, Nat.add_zero]
        show X2_findDepths_28 N _ n (_ &&& ((u1.2.1 1 ||| _) ^^^ (-1))) _ _ = _
        rw [k7]
        rfl
  · rintro n u ⟨q1, q2, q3, q4⟩
    refine ⟨u, ?_, q1, q2, q3, q4⟩
    show X2_findDepths_28 N _ (n + 1) _ _ _ = _
    simp (disch := omega) only [X2_findDepths_28, X2_findDepths_28b, X2_findDepths_85, fa_lit, nI_leI, nI_ltI, nI_eq, nI_add, pk_mul, nI_clamp, bd, nm, gd_in, gd_bI, gd_b0, gd_b1, if_pos, if_neg, bI_n0, bI_n1, reduceIte, reduceCtorEq, Nat.add_zero]
theorem X2_findDistances_ok (hN : 4000000 ≤ N) (h : CS c σ) (hf : F3 c σ) : ∃ σ', X2_findDistances N σ = some σ' ∧ FR [] [] [5] [] σ σ' ∧ (∀ s, s < 64 → σ'.2.2.1 5 s = dis c s) := by
  have h64 := ns_le h.1
  obtain ⟨σ1, e1, f1, g1⟩ := J7_fill_53178_a17_ok hN (-1) σ
  unfold X2_findDistances
  rw [e1]
  simp only [bd, nm, X0_bad_ok (h.fr f1 (by decide))]
  show ∃ σ', X2_findDistances_21 N (fun σ => X2_findDistances_66 σ) N 0 (bad c) (nI 0) σ1 = some σ' ∧ _
  refine wf (fun n j u => X2_findDistances_21 N (fun σ => X2_findDistances_66 σ) n (lay (FB c true) (bad c) j).1 (lay (FB c true) (bad c) j).2 (nI j) u) 64 (fun j u => FR [] [] [5] [] σ u ∧ (∀ s, s < 64 → u.2.2.1 5 s = far (FB c true) (bad c) j s)) (fun r => ∃ σ', r = some σ' ∧ FR [] [] [5] [] σ σ' ∧ (∀ s, s < 64 → σ'.2.2.1 5 s = dis c s)) ?_ ?_ N 0 _ (by omega) ⟨f1, g1⟩ (by omega)
  · rintro n j u hj ⟨q1, q2⟩
    have hu := h.fr q1 (by decide)
    rcases Classical.em ((lay (FB c true) (bad c) j).2 = 0) with e | e
    · refine Or.inl ?_
      obtain ⟨z1, z2, z3, z4⟩ := lay_z (FB_0 h.1 true) e 64 (by omega)
      refine ⟨u, ?_, q1, fun s hs => (q2 s hs).trans (z3 s).symm⟩
      show X2_findDistances_21 N _ (n + 1) _ _ _ _ = _
      simp (disch := omega) only [X2_findDistances_21, X2_findDistances_21b, e, X2_findDistances_66, fa_lit, nI_leI, nI_ltI, nI_eq, nI_add, pk_mul, nI_clamp, bd, nm, gd_in, gd_bI, gd_b0, gd_b1, if_pos, if_neg, bI_n0, bI_n1, reduceIte, reduceCtorEq, Nat.add_zero]
    · refine Or.inr ?_
      obtain ⟨u1, k1, k2, k3⟩ := X2_mark_a17_ok hN (lay (FB c true) (bad c) j).2 (nI j) u
      have k4 : FR [] [] [5] [] σ u1 := q1.tr k2
      have k5 : F3 c u1 := by
        unfold F3
        rw [k4.2.2.1 3 (by decide), k4.2.2.2 3 (by decide), k4.2.2.2 4 (by decide)]
        exact hf
      have k6 := X2_predecessorsOf_ok hN h.1 k5 (lay (FB c true) (bad c) j).2
      refine ⟨u1, ⟨k4, fun s hs => ?_⟩, ?_⟩
      · rw [far, ← q2 s hs]
        exact k3 s hs
      · show X2_findDistances_21 N _ (n + 1) _ _ _ _ = X2_findDistances_21 N _ n _ _ _ _
        simp (disch := omega) only [X2_findDistances_21, X2_findDistances_21b, e, k1, k6, fa_lit, nI_leI, nI_ltI, nI_eq, nI_add, pk_mul, nI_clamp, bd, nm, gd_in, gd_bI, gd_b0, gd_b1, if_pos, if_neg, bI_n0, bI_n1, reduceIte, reduceCtorEq, Nat.add_zero]
        rfl
  · rintro n u ⟨q1, q2⟩
    refine ⟨u, ?_, q1, q2⟩
    show X2_findDistances_21 N _ (n + 1) _ _ _ _ = _
    simp (disch := omega) only [X2_findDistances_21, X2_findDistances_21b, X2_findDistances_66, fa_lit, nI_leI, nI_ltI, nI_eq, nI_add, pk_mul, nI_clamp, bd, nm, gd_in, gd_bI, gd_b0, gd_b1, if_pos, if_neg, bI_n0, bI_n1, reduceIte, reduceCtorEq, Nat.add_zero]
theorem X2_findShortestLength_ok (hN : 4000000 ≤ N) (h : CS c σ) (hd : ∀ s, s < 64 → σ.2.2.1 5 s = dis c s) : ∃ σ', X2_findShortestLength N σ = some σ' ∧ FR [12] [] [] [] σ σ' ∧ σ'.1 12 = rlc c := by
  have h64 := ns_le h.1
  unfold X2_findShortestLength
  show ∃ σ', X2_findShortestLength_7 (fun σ => X2_findShortestLength_84 σ) N (nI 0) (si σ 12 (-1)) = some σ' ∧ _
  refine wf (fun n i u => X2_findShortestLength_7 (fun σ => X2_findShortestLength_84 σ) n (nI i) u) 64 (fun i u => FR [12] [] [] [] σ u ∧ u.1 12 = rlf c.2.2.2.1 (dis c) i) (fun r => ∃ σ', r = some σ' ∧ FR [12] [] [] [] σ σ' ∧ σ'.1 12 = rlc c) ?_ ?_ N 0 _ (by omega) ⟨FR.rf.i (by decide), rfl⟩ (by omega)
  · rintro n i u hi ⟨q1, q2⟩
    refine Or.inr ?_
    have hu := h.fr q1 (by decide)
    have hd' : u.2.2.1 5 i = dis c i := by rw [q1.2.2.1 5 (by decide)]; exact hd i hi
    cases e : ht c.2.2.2.1 i
    · refine ⟨u, ⟨q1, by rw [rlf, if_neg (by rw [e]; simp)]; exact q2⟩, ?_⟩
      show X2_findShortestLength_7 _ (n + 1) _ _ = X2_findShortestLength_7 _ n _ _
      simp (disch := omega) only [X2_findShortestLength_7, X2_findShortestLength_7b, X0_initial_ok hu, X6_contains_ok, e, X2_findShortestLength_42, fa_lit, nI_leI, nI_ltI, nI_eq, nI_add, pk_mul, nI_clamp, bd, nm, gd_in, gd_bI, gd_b0, gd_b1, if_pos, if_neg, bI_n0, bI_n1, reduceIte, reduceCtorEq, Nat.add_zero]
    · rcases Classical.em (dis c i = -1) with e2 | e2
      · refine ⟨u, ⟨q1, by rw [rlf, if_neg (by rw [e2]; simp)]; exact q2⟩, ?_⟩
        show X2_findShortestLength_7 _ (n + 1) _ _ = X2_findShortestLength_7 _ n _ _
        rw [e2] at hd'
        simp (disch := omega) only [X2_findShortestLength_7, X2_findShortestLength_7b, X0_initial_ok hu, X6_contains_ok, e, hd', X2_findShortestLength_42, fa_lit, nI_leI, nI_ltI, nI_eq, nI_add, pk_mul, nI_clamp, bd, nm, gd_in, gd_bI, gd_b0, gd_b1, if_pos, if_neg, bI_n0, bI_n1, reduceIte, reduceCtorEq, Nat.add_zero]
      · rcases Classical.em (rlf c.2.2.2.1 (dis c) i = -1 ∨ ¬ rlf c.2.2.2.1 (dis c) i ≤ dis c i) with e3 | e3
        · refine ⟨si u 12 (dis c i), ⟨q1.i (by decide), by rw [rlf, if_pos ⟨e, e2, e3⟩]; rfl⟩, ?_⟩
          show X2_findShortestLength_7 _ (n + 1) _ _ = X2_findShortestLength_7 _ n _ _
          have e2' : ¬ dis c i = -nI 1 := e2
          rcases e3 with e3 | e3
          · have e3' : rlf c.2.2.2.1 (dis c) i = -nI 1 := e3
            simp (disch := omega) only [X2_findShortestLength_7, X2_findShortestLength_7b, X0_initial_ok hu, X6_contains_ok, e, hd', e2', X2_findShortestLength_42, q2, e3', X2_findShortestLength_68, fa_lit, nI_leI, nI_ltI, nI_eq, nI_add, pk_mul, nI_clamp, bd, nm, gd_in, gd_bI, gd_b0, gd_b1, if_pos, if_neg, bI_n0, bI_n1, reduceIte, reduceCtorEq, Nat.add_zero]
          · rcases Classical.em (rlf c.2.2.2.1 (dis c) i = -nI 1) with e3' | e3'
            · simp (disch := omega) only [X2_findShortestLength_7, X2_findShortestLength_7b, X0_initial_ok hu, X6_contains_ok, e, hd', e2', X2_findShortestLength_42, q2, e3', X2_findShortestLength_68, fa_lit, nI_leI, nI_ltI, nI_eq, nI_add, pk_mul, nI_clamp, bd, nm, gd_in, gd_bI, gd_b0, gd_b1, if_pos, if_neg, bI_n0, bI_n1, reduceIte, reduceCtorEq, Nat.add_zero]
            · simp (disch := omega) only [X2_findShortestLength_7, X2_findShortestLength_7b, X0_initial_ok hu, X6_contains_ok, e, hd', e2', X2_findShortestLength_42, q2, e3', e3, X2_findShortestLength_68, fa_lit, nI_leI, nI_ltI, nI_eq, nI_add, pk_mul, nI_clamp, bd, nm, gd_in, gd_bI, gd_b0, gd_b1, if_pos, if_neg, bI_n0, bI_n1, reduceIte, reduceCtorEq, Nat.add_zero]
        · refine ⟨u, ⟨q1, by rw [rlf, if_neg (fun z => e3 z.2.2)]; exact q2⟩, ?_⟩
          show X2_findShortestLength_7 _ (n + 1) _ _ = X2_findShortestLength_7 _ n _ _
          have e2' : ¬ dis c i = -nI 1 := e2
          have e3' : ¬ rlf c.2.2.2.1 (dis c) i = -nI 1 := fun z => e3 (Or.inl z)
          have e4 : rlf c.2.2.2.1 (dis c) i ≤ dis c i := Classical.byContradiction (fun z => e3 (Or.inr z))
          simp (disch := omega) only [X2_findShortestLength_7, X2_findShortestLength_7b, X0_initial_ok hu, X6_contains_ok, e, hd', e2', X2_findShortestLength_42, q2, e3', e4, fa_lit, nI_leI, nI_ltI, nI_eq, nI_add, pk_mul, nI_clamp, bd, nm, gd_in, gd_bI, gd_b0, gd_b1, if_pos, if_neg, bI_n0, bI_n1, reduceIte, reduceCtorEq, Nat.add_zero]
  · rintro n u ⟨q1, q2⟩
    refine ⟨u, ?_, q1, q2.trans (rlf_st h.1.2.2.2 64 h64.2)⟩
    show X2_findShortestLength_7 _ (n + 1) _ _ = _
    simp (disch := omega) only [X2_findShortestLength_7, X2_findShortestLength_7b, X2_findShortestLength_84, fa_lit, nI_leI, nI_ltI, nI_eq, nI_add, pk_mul, nI_clamp, bd, nm, gd_in, gd_bI, gd_b0, gd_b1, if_pos, if_neg, bI_n0, bI_n1, reduceIte, reduceCtorEq, Nat.add_zero]
theorem X7_runLength_ok (hN : 4000000 ≤ N) (h : CM c τ) : ∃ τ', X7_runLength N τ = some (rlc c, τ') ∧ FR [] [] [3] [] τ τ' ∧ ∀ s, s < 64 → τ'.2.2.1 3 s = dis c s := by
  have h64 := ns_le h.1
  unfold X7_runLength
  rw [X7_bad_ok h]
  obtain ⟨τ1, e1, f1, g1⟩ := X7_layFar_ok hN h true (x := bad c) (bad_l h.1)
  have e1' : X7_layFar N (bad c) 1 τ = some τ1 := e1
  simp only [bd, e1']
  have h1 := h.fr f1 (by decide)
  refine ⟨τ1, ?_, f1, g1⟩
  show X7_runLength_13 (fun v1 σ => X7_runLength_84 v1 σ) N (-1) (nI 0) τ1 = _
  refine wf (fun n i a => X7_runLength_13 (fun v1 σ => X7_runLength_84 v1 σ) n a (nI i) τ1) (ns c) (fun i a => a = rlf c.2.2.2.1 (dis c) i) (fun r => r = some (rlc c, τ1)) ?_ ?_ N 0 _ (by omega) rfl (by omega)
  · rintro n i a hi rfl
    refine Or.inr ⟨_, rfl, ?_⟩
    have hd' : τ1.2.2.1 3 i = dis c i := g1 i (by omega)
    show X7_runLength_13 _ (n + 1) _ _ _ = X7_runLength_13 _ n _ _ _
    have hi0 : τ1.2.1 0 = c.2.2.2.1 := h1.2.2.2.2.1
    cases e : ht c.2.2.2.1 i
    · rw [rlf, if_neg (by rw [e]; simp)]
      simp (disch := omega) only [X7_runLength_13, X7_runLength_13b, X7_states_ok h1, hi0, X7_has_ok, e, X7_runLength_47, fa_lit, nI_leI, nI_ltI, nI_eq, nI_add, pk_mul, nI_clamp, bd, nm, gd_in, gd_bI, gd_b0, gd_b1, if_pos, if_neg, bI_n0, bI_n1, reduceIte, reduceCtorEq, Nat.add_zero]
    · rcases Classical.em (dis c i = -1) with e2 | e2
      · rw [rlf, if_neg (by rw [e2]; simp)]
        rw [e2] at hd'
        simp (disch := omega) only [X7_runLength_13, X7_runLength_13b, X7_states_ok h1, hi0, X7_has_ok, e, hd', X7_runLength_47, fa_lit, nI_leI, nI_ltI, nI_eq, nI_add, pk_mul, nI_clamp, bd, nm, gd_in, gd_bI, gd_b0, gd_b1, if_pos, if_neg, bI_n0, bI_n1, reduceIte, reduceCtorEq, Nat.add_zero]
      · have e2' : ¬ dis c i = -nI 1 := e2
        rcases Classical.em (rlf c.2.2.2.1 (dis c) i = -1 ∨ ¬ rlf c.2.2.2.1 (dis c) i ≤ dis c i) with e3 | e3
        · rw [rlf, if_pos ⟨e, e2, e3⟩]
          rcases Classical.em (rlf c.2.2.2.1 (dis c) i = -nI 1) with e3' | e3'
          · simp (disch := omega) only [X7_runLength_13, X7_runLength_13b, X7_states_ok h1, hi0, X7_has_ok, e, hd', e2', X7_runLength_47, e3', X7_runLength_67, fa_lit, nI_leI, nI_ltI, nI_eq, nI_add, pk_mul, nI_clamp, bd, nm, gd_in, gd_bI, gd_b0, gd_b1, if_pos, if_neg, bI_n0, bI_n1, reduceIte, reduceCtorEq, Nat.add_zero]
          · have e4 : ¬ rlf c.2.2.2.1 (dis c) i ≤ dis c i := e3.elim (fun z => absurd z e3') id
            simp (disch := omega) only [X7_runLength_13, X7_runLength_13b, X7_states_ok h1, hi0, X7_has_ok, e, hd', e2', X7_runLength_47, e3', e4, X7_runLength_67, fa_lit, nI_leI, nI_ltI, nI_eq, nI_add, pk_mul, nI_clamp, bd, nm, gd_in, gd_bI, gd_b0, gd_b1, if_pos, if_neg, bI_n0, bI_n1, reduceIte, reduceCtorEq, Nat.add_zero]
        · rw [rlf, if_neg (fun z => e3 z.2.2)]
          have e3' : ¬ rlf c.2.2.2.1 (dis c) i = -nI 1 := fun z => e3 (Or.inl z)
          have e4 : rlf c.2.2.2.1 (dis c) i ≤ dis c i := Classical.byContradiction (fun z => e3 (Or.inr z))
          simp (disch := omega) only [X7_runLength_13, X7_runLength_13b, X7_states_ok h1, hi0, X7_has_ok, e, hd', e2', X7_runLength_47, e3', e4, fa_lit, nI_leI, nI_ltI, nI_eq, nI_add, pk_mul, nI_clamp, bd, nm, gd_in, gd_bI, gd_b0, gd_b1, if_pos, if_neg, bI_n0, bI_n1, reduceIte, reduceCtorEq, Nat.add_zero]
  · rintro n a rfl
    show X7_runLength_13 _ (n + 1) _ _ _ = _
    simp (disch := omega) only [X7_runLength_13, X7_runLength_13b, X7_states_ok h1, X7_runLength_84, fa_lit, nI_leI, nI_ltI, nI_eq, nI_add, pk_mul, nI_clamp, bd, nm, gd_in, gd_bI, gd_b0, gd_b1, if_pos, if_neg, bI_n0, bI_n1, reduceIte, reduceCtorEq, Nat.add_zero]
    rfl
end DEP
