/-! 90: a refresh finds what the reference finds -/
def FSH (c : Ck) (σ : St) : Prop := F3 c σ ∧ (∀ s, s < 64 → σ.2.2.1 4 s = dep c s) ∧ (∀ s, s < 64 → σ.2.2.1 5 s = dis c s) ∧ σ.2.1 1 = rch c ∧ σ.1 11 = dpc c ∧ σ.1 12 = rlc c ∧ ∀ s, s < ns c → σ.2.2.1 6 s = nI (cls c s)
section FRESH
variable {c : Ck} {k : Nat → Nat} {σ σ' τ : St} {N : Nat}
theorem F3.fr {di dj da db : List Nat} (h : F3 c σ) (f : FR di dj da db σ σ') (d : 3 ∉ da ∧ 3 ∉ db ∧ 4 ∉ db) : F3 c σ' := by
  unfold F3
  rw [f.2.2.1 3 d.1, f.2.2.2 3 d.2.1, f.2.2.2 4 d.2.2]
  exact h
theorem FSH.fr {di dj da db : List Nat} (h : FSH c σ) (f : FR di dj da db σ σ') (d : (3 ∉ da ∧ 3 ∉ db ∧ 4 ∉ db) ∧ (4 ∉ da ∧ 5 ∉ da ∧ 6 ∉ da) ∧ 1 ∉ dj ∧ 11 ∉ di ∧ 12 ∉ di) : FSH c σ' := by
  refine ⟨h.1.fr f d.1, ?_⟩
  rw [f.2.2.1 4 d.2.1.1, f.2.2.1 5 d.2.1.2.1, f.2.2.1 6 d.2.1.2.2, f.2.1 1 d.2.2.1, f.1 11 d.2.2.2.1, f.1 12 d.2.2.2.2]
  exact h.2
theorem X2_findClasses_ok (hN : 4000000 ≤ N) (h : CS c σ) (f : F3 c σ) : ∃ σ', X2_findClasses N σ = some σ' ∧ FR [] [] [6, 7] [] σ σ' ∧ ∀ s, s < ns c → σ'.2.2.1 6 s = nI (cls c s) := by
  have h64 := ns_le h.1
  unfold X2_findClasses
  simp only [bd, X0_good_ok h, X0_bad_ok h, X6_leastOf_ok]
  refine wf (fun n i u => X2_findClasses_24 (fun σ => X2_findClasses_72 N σ) (li c.2.2.2.2) (li (bad c)) n (nI i) u) (ns c) (fun i u => FR [] [] [6, 7] [] σ u ∧ ∀ s, s < i → u.2.2.1 6 s = nI (cl c 0 s)) (fun r => ∃ σ', r = some σ' ∧ FR [] [] [6, 7] [] σ σ' ∧ ∀ s, s < ns c → σ'.2.2.1 6 s = nI (cls c s)) ?_ ?_ N 0 σ (by omega) ⟨FR.rf, fun s hs => by omega⟩ (by omega)
  · rintro n i u hi ⟨q2, q3⟩
    have hu := h.fr q2 (by decide)
    refine Or.inr ⟨sa u 6 i (nI (cl c 0 i)), ⟨q2.a (by decide), fun s hs => ?_⟩, ?_⟩
    · show upd (u.2.2.1 6) i _ s = _
      rcases Nat.lt_or_ge s i with q | q
      · rw [u_n (by omega)]; exact q3 s q
      · have : s = i := by omega
        subst this; exact u_s
    · show X2_findClasses_24 _ _ _ (n + 1) _ _ = X2_findClasses_24 _ _ _ n _ _
      cases e : ht c.2.2.2.2 i
      · have e1 := cl_0b h.1 hi e
        rw [← e1]
        simp (disch := omega) only [X2_findClasses_24, X2_findClasses_24b, hu.2.2.2.1, X0_good_ok hu, X6_contains_ok, e, X2_findClasses_65, fa_lit, nI_leI, nI_ltI, nI_eq, nI_add, pk_mul, nI_clamp, bd, nm, gd_in, gd_bI, gd_b0, gd_b1, if_pos, if_neg, bI_n0, bI_n1, reduceIte, reduceCtorEq, Nat.add_zero]
      · have e1 := cl_0g h.1 e
        rw [← e1]
        simp (disch := omega) only [X2_findClasses_24, X2_findClasses_24b, hu.2.2.2.1, X0_good_ok hu, X6_contains_ok, e, X2_findClasses_65, fa_lit, nI_leI, nI_ltI, nI_eq, nI_add, pk_mul, nI_clamp, bd, nm, gd_in, gd_bI, gd_b0, gd_b1, if_pos, if_neg, bI_n0, bI_n1, reduceIte, reduceCtorEq, Nat.add_zero]
  · rintro n u ⟨q2, q3⟩
    have hu := h.fr q2 (by decide)
    show ∃ τ', X2_findClasses_24 _ _ _ (n + 1) _ _ = some τ' ∧ _
    simp (disch := omega) only [X2_findClasses_24, X2_findClasses_24b, hu.2.2.2.1, X2_findClasses_72, fa_lit, nI_leI, nI_ltI, nI_eq, nI_add, pk_mul, nI_clamp, bd, nm, gd_in, gd_bI, gd_b0, gd_b1, if_pos, if_neg, bI_n0, bI_n1, reduceIte, reduceCtorEq, Nat.add_zero]
    obtain ⟨J, j1, j2, j3⟩ := cl_end h.1
    refine wl (fun m (p : Nat × St) => X2_findClasses_77 N (fun σ => X2_findClasses_99 σ) m (bI (p.1 = 0 || chg c (p.1 - 1) (ns c))) (nI p.1) p.2) (fun p => J + 2 - p.1) (fun p => p.1 ≤ J + 1 ∧ FR [] [] [6, 7] [] σ p.2 ∧ ∀ s, s < ns c → p.2.2.2.1 6 s = nI (cl c p.1 s)) (fun r => ∃ τ', r = some τ' ∧ FR [] [] [6, 7] [] σ τ' ∧ ∀ s, s < ns c → τ'.2.2.1 6 s = nI (cls c s)) ?_ N (0, u) ⟨by show 0 ≤ J + 1; omega, q2, q3⟩ (by show J + 2 - 0 < N; omega)
    rintro m ⟨j, w⟩ ⟨p1, p2, p3⟩
    dsimp only at p1 p2 p3 ⊢
    have hw := h.fr p2 (by decide)
    have fw := f.fr p2 (by decide)
    rcases Nat.lt_or_ge J j with q | q
    · have : j = J + 1 := by omega
      subst this
      refine Or.inl ⟨w, ?_, p2, fun s hs => ?_⟩
      · rw [Nat.add_sub_cancel, j2, X2_findClasses_77, X2_findClasses_77b]
        have e0 : bI (decide (J + 1 = 0) || false) = 0 := by simp; rfl
        rw [if_pos e0, ite_self]
        rfl
      · rw [p3 s hs, cls, cl_st h.1 j2 (J + 1) (by omega) s hs, cl_st h.1 j2 64 j1 s hs]
    · refine Or.inr ?_
      have e1 : (decide (j = 0) || chg c (j - 1) (ns c)) = true := by
        cases j with
        | zero => rfl
        | succ j => rw [Nat.add_sub_cancel, j3 j (by omega)]; simp
      have hkw : ∀ s, s < ns c → cl c j s < 64 ∧ w.2.2.1 6 s = nI (cl c j s) := fun s hs => ⟨cl_lt h.1 j hs, p3 s hs⟩
      obtain ⟨w1, a1, a2, a3⟩ := X2_refineClasses_ok hN hw fw hkw (KI_cl h.1 j)
      refine ⟨(j + 1, w1), ⟨by dsimp only; omega, p2.tr a2, a3⟩, by dsimp only; omega, ?_⟩
      rw [e1]
      simp (disch := omega) only [X2_findClasses_77, X2_findClasses_77b, a1, fa_lit, nI_leI, nI_ltI, nI_eq, nI_add, pk_mul, nI_clamp, bd, nm, gd_in, gd_bI, gd_b0, gd_b1, if_pos, if_neg, bI_n0, bI_n1, reduceIte, reduceCtorEq, Nat.add_zero]
      congr 2
theorem X2_refresh_ok (hN : 4000000 ≤ N) (h : CS c σ) (hf : σ.1 13 = 0 ∨ (σ.1 13 = 1 ∧ FSH c σ)) : ∃ σ', X2_refresh N σ = some σ' ∧ FR [11, 12, 13] [1] [3, 4, 5, 6, 7] [3, 4] σ σ' ∧ CS c σ' ∧ σ'.1 13 = 1 ∧ FSH c σ' := by
  rcases hf with h0 | ⟨h1, h2⟩
  · have g0 : FR [11, 12, 13] [1] [3, 4, 5, 6, 7] [3, 4] σ (si σ 13 1) := FR.rf.i (by decide)
    obtain ⟨s1, a1, f1, k1⟩ := X2_findSuccessors_ok hN (h.fr g0 (by decide))
    have g1 := g0.tr (f1.mo (by decide))
    obtain ⟨s2, a2, f2, k2, k3, k4⟩ := X2_findDepths_ok hN (h.fr g1 (by decide)) k1
    have g2 := g1.tr (f2.mo (by decide))
    have x2 := k1.fr f2 (by decide)
    obtain ⟨s3, a3, f3, k5⟩ := X2_findDistances_ok hN (h.fr g2 (by decide)) x2
    have g3 := g2.tr (f3.mo (by decide))
    have x3 := x2.fr f3 (by decide)
    obtain ⟨s4, a4, f4, k6⟩ := X2_findShortestLength_ok hN (h.fr g3 (by decide)) k5
    have g4 := g3.tr (f4.mo (by decide))
    have x4 := x3.fr f4 (by decide)
    obtain ⟨s5, a5, f5, k7⟩ := X2_findClasses_ok hN (h.fr g4 (by decide)) x4
    have g5 := g4.tr (f5.mo (by decide))
    refine ⟨s5, ?_, g5, h.fr g5 (by decide), ?_, x4.fr f5 (by decide), ?_, ?_, ?_, ?_, ?_, k7⟩
    · unfold X2_refresh
      simp only [if_pos h0, nm, a1, a2, a3, a4, a5, bd]
    · rw [f5.1 13 (by decide), f4.1 13 (by decide), f3.1 13 (by decide), f2.1 13 (by decide), f1.1 13 (by decide)]
      rfl
    · rw [f5.2.2.1 4 (by decide), f4.2.2.1 4 (by decide), f3.2.2.1 4 (by decide)]; exact k2
    · rw [f5.2.2.1 5 (by decide), f4.2.2.1 5 (by decide)]; exact k5
    · rw [f5.2.1 1 (by decide), f4.2.1 1 (by decide), f3.2.1 1 (by decide)]; exact k3
    · rw [f5.1 11 (by decide), f4.1 11 (by decide), f3.1 11 (by decide)]; exact k4
    · rw [f5.1 12 (by decide)]; exact k6
  · refine ⟨σ, ?_, FR.rf, h, h1, h2⟩
    unfold X2_refresh
    rw [h1]
    rfl
end FRESH
