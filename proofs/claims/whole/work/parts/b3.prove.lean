/-! b3: the op prove -/
section PROVE
variable {c : Ck} {σ τ σ' τ' : St} {N : Nat}
theorem RC.pr (h : RC c σ τ) (f : FR [14, 15, 16, 17, 18, 19, 20, 21, 23] [] [9, 10, 11] [5, 6, 9] σ σ') (g : FR [0, 9, 10, 11, 12, 13, 14, 15, 16, 17] [] [6, 7, 8] [3] τ τ') (hp : PR c σ' τ') : RC c σ' τ' := by
  obtain ⟨h1, h2, ⟨L, t, h3⟩, ⟨K, o, r, w, h4⟩, h5, h6⟩ := h
  refine ⟨h1.fr g (by decide), h2.fr f (by decide), ⟨L, t, h3.fr f g (by decide)⟩, ⟨K, o, r, w, h4.fr f g (by decide)⟩, ?_, hp⟩
  rw [f.1 13 (by decide)]
  exact h5.imp id (fun z => ⟨z.1, z.2.fr f (by decide)⟩)
theorem X4_forgetLast_ok (hN : 4000000 ≤ N) (h : CS c σ) : ∃ σ', X4_forgetLast N σ = some σ' ∧ FR [15, 16, 17, 18, 19, 20, 21, 23] [] [] [5, 6] σ σ' ∧ (σ'.1 15 = 0 ∧ σ'.1 16 = 0 ∧ σ'.1 17 = 0 ∧ σ'.1 18 = 0 ∧ σ'.1 19 = 0 ∧ σ'.1 20 = 0 ∧ σ'.1 21 = 0 ∧ σ'.1 23 = 0) ∧ σ'.2.2.2 5 0 = c.2.2.2.1 ∧ ∀ j, j < 70 → σ'.2.2.2 6 j = 0 := by
  obtain ⟨u1, a1, a2, a3⟩ := J7_fill_d0a16_a20_ok hN 0 (si σ 23 0)
  obtain ⟨u2, b1, b2, b3⟩ := J7_fill_d0a16_a21_ok hN 0 u1
  have f0 : FR [15, 16, 17, 18, 19, 20, 21, 23] [] [] [5, 6] σ (si σ 23 0) := FR.rf.i (by decide)
  have f2 := (f0.tr (a2.mo (by decide))).tr (b2.mo (by decide))
  have h2 := h.fr f2 (by decide)
  have g0 : ∀ {β : Type} (y : Option β), gd (inb (0 : Int32) 70) y = y := fun y => gd_in (n := 0) (by omega) (by omega)
  have cl : (0 : Int32).toNatClampNeg = 0 := by decide
  refine ⟨si (si (si (si (si (si (si (sb u2 5 0 c.2.2.2.1) 15 0) 16 0) 17 0) 18 0) 19 0) 20 0) 21 0, ?_, (((((((f2.b (by decide)).i (by decide)).i (by decide)).i (by decide)).i (by decide)).i (by decide)).i (by decide)).i (by decide), ⟨rfl, rfl, rfl, rfl, rfl, rfl, rfl, ?_⟩, rfl, fun j hj => ?_⟩
  · simp only [X4_forgetLast, nm, a1, bd, b1, X0_initial_ok h2, g0, cl]
  · show u2.1 23 = 0
    rw [b2.1 23 (by decide), a2.1 23 (by decide)]; rfl
  · show u2.2.2.2 6 j = 0
    exact b3 j hj
theorem X7_fill3_ok (hN : 4000000 ≤ N) (K : St → Option (Int32 × St)) : ∃ u, X7_prove_52 K N (nI 0) τ = K u ∧ FR [] [] [] [3] τ u ∧ ∀ j, j < 128 → u.2.2.2 3 j = 0 := by
  refine wf (fun f i u => X7_prove_52 K f (nI i) u) 128 (fun i u => FR [] [] [] [3] τ u ∧ ∀ j, j < i → u.2.2.2 3 j = 0) (fun r => ∃ u, r = K u ∧ FR [] [] [] [3] τ u ∧ ∀ j, j < 128 → u.2.2.2 3 j = 0) ?_ ?_ N 0 τ (by omega) ⟨FR.rf, fun j hj => by omega⟩ (by omega)
  · rintro f i u hi ⟨h1, h2⟩
    refine Or.inr ⟨sb u 3 i 0, ⟨h1.b (by decide), fun j hj => ?_⟩, ?_⟩
    · show vp_updL (u.2.2.2 3) i 0 j = 0
      rcases Nat.lt_or_ge j i with q | q
      · rw [v_n (by omega)]; exact h2 j q
      · have : j = i := by omega
        subst this; exact v_s
    · show X7_prove_52 _ (f + 1) _ _ = X7_prove_52 _ f _ _
      simp (disch := omega) only [X7_prove_52, X7_prove_52b, fa_lit, nI_leI, nI_ltI, nI_eq, nI_add, pk_mul, nI_clamp, bd, nm, gd_in, gd_bI, gd_b0, gd_b1, if_pos, if_neg, bI_n0, bI_n1, reduceIte, reduceCtorEq, Nat.add_zero]
  · rintro f u ⟨h1, h2⟩
    refine ⟨u, ?_, h1, h2⟩
    show X7_prove_52 _ (f + 1) _ _ = _
    simp (disch := omega) only [X7_prove_52, X7_prove_52b, fa_lit, nI_leI, nI_ltI, nI_eq, nI_add, pk_mul, nI_clamp, bd, nm, gd_in, gd_bI, gd_b0, gd_b1, if_pos, if_neg, bI_n0, bI_n1, reduceIte, reduceCtorEq, Nat.add_zero]
theorem Op_prove_ok (hN : 4000000 ≤ N) (h : RC c σ τ) : Op_prove N Rl σ τ := by
  obtain ⟨σ1, a1, a2, ⟨s15, s16, s17, s18, s19, s20, s21, s23⟩, a4, a5⟩ := X4_forgetLast_ok hN h.2.1
  have f1 : FR [14, 15, 16, 17, 18, 19, 20, 21, 23] [] [9, 10, 11] [5, 6, 9] σ (si σ1 14 1) := (a2.mo (by decide)).i (by decide)
  have hs := h.2.1.fr f1 (by decide)
  have g0 : FR [0, 9, 10, 11, 12, 13, 14, 15, 16, 17] [] [6, 7, 8] [3] τ (si (si (si (si (si (si (si (si (si (si τ 0 0) 9 1) 10 1) 11 0) 12 0) 13 0) 14 0) 15 0) 16 0) 17 0) := ((((((((((FR.rf.i (by decide)).i (by decide)).i (by decide)).i (by decide)).i (by decide)).i (by decide)).i (by decide)).i (by decide)).i (by decide)).i (by decide))
  obtain ⟨u, b1, b2, b3⟩ := X7_fill3_ok hN (τ := si (si (si (si (si (si (si (si (si (si τ 0 0) 9 1) 10 1) 11 0) 12 0) 13 0) 14 0) 15 0) 16 0) 17 0) (fun σ => X7_prove_72 N σ)
  have g1 := g0.tr (b2.mo (by decide))
  have hm := h.1.fr g1 (by decide)
  have e0 : X7_prove N τ = X7_prove_72 N u := b1
  have u9 : u.1 9 = 1 := (b2.1 9 (by decide)).trans rfl
  have u10 : u.1 10 = 1 := (b2.1 10 (by decide)).trans rfl
  have u11 : u.1 11 = 0 := (b2.1 11 (by decide)).trans rfl
  have u12 : u.1 12 = 0 := (b2.1 12 (by decide)).trans rfl
  have u13 : u.1 13 = 0 := (b2.1 13 (by decide)).trans rfl
  have u14 : u.1 14 = 0 := (b2.1 14 (by decide)).trans rfl
  have u15 : u.1 15 = 0 := (b2.1 15 (by decide)).trans rfl
  have u16 : u.1 16 = 0 := (b2.1 16 (by decide)).trans rfl
  have u17 : u.1 17 = 0 := (b2.1 17 (by decide)).trans rfl
  have ui : u.2.1 0 = c.2.2.2.1 := hm.2.2.2.2.1
  have rp : RP c 0 0 (fun _ => 0) (fun _ => 0) (fun _ => 0) (fun _ => 0) (si σ1 14 1) u := by
    refine ⟨hm, hs, by omega, by omega, ⟨s16, u11⟩, ⟨s23, u12⟩, fun i hi => absurd hi (Nat.not_lt_zero _), fun i hi => absurd hi (Nat.not_lt_zero _), fun L hL => ?_, fun L hL => ⟨a5 L hL, b3 L (by omega)⟩, s17.trans u13.symm, s18.trans u14.symm, s19.trans u15.symm, s20.trans u16.symm⟩
    have : L = 0 := by omega
    subst this
    exact a4
  have hp : PI c 0 0 (fun _ => 0) (fun _ => 0) (fun _ => 0) := ⟨fun i hi => absurd hi (Nat.not_lt_zero _), fun i j hi => absurd hi (Nat.not_lt_zero _)⟩
  by_cases q : c.2.2.2.1 &&& bad c = 0
  · obtain ⟨σ2, x1, x2, x3, x4⟩ := open_ok rp hp (by omega)
    obtain ⟨σ3, τ3, y1, y2, y3, y4, y5⟩ := carry_ok hN 65 1 0 (fun _ => 0) (fun _ => 0) (fun _ => 0) σ2 (si u 11 (nI 1)) (by omega) (by omega) (by omega) x3 x4 ((x2.1 21 (by decide)).trans s21) u17 N N (by omega) (by omega)
    have f2 : FR [14, 15, 16, 17, 18, 19, 20, 21, 23] [] [9, 10, 11] [5, 6, 9] σ σ3 := (f1.tr (x2.mo (by decide))).tr (y3.mo (by decide))
    have g2 : FR [0, 9, 10, 11, 12, 13, 14, 15, 16, 17] [] [6, 7, 8] [3] τ τ3 := (g1.i (by decide) (k := 11) (v := nI 1)).tr (y4.mo (by decide))
    have e14 : σ3.1 14 = 1 := by rw [y3.1 14 (by decide), x2.1 14 (by decide)]; rfl
    have e9 : τ3.1 9 = 1 := by rw [y4.1 9 (by decide)]; exact u9
    refine ⟨τ3.1 10, σ3, τ3, ?_, ?_, ⟨c, h.pr f2 g2 (Or.inr ⟨e14, e9, y5⟩)⟩⟩
    · have z : X4_carryOut N σ = some σ3 := by
        rw [X4_carryOut, a1, bd, nm, X0_initial_ok hs, bd, X0_bad_ok hs, bd, if_pos q, x1, bd]
        exact y1
      rw [X6_prove, z, bd, y5.2.1]
    · have z : X7_carryOut N (si u 11 1) = some τ3 := y2
      rw [e0, X7_prove_72, X7_bad_ok hm, bd, ui, if_pos q, nm, z, bd]
  · refine ⟨1, si (si σ1 14 1) 15 1, u, ?_, ?_, ⟨c, h.pr (f1.i (by decide)) g1 (Or.inr ⟨rfl, u9, ?_⟩)⟩⟩
    · rw [X6_prove, X4_carryOut, a1, bd, nm, X0_initial_ok hs, bd, X0_bad_ok hs, bd, if_neg q, nm, bd]
      rfl
    · rw [e0, X7_prove_72, X7_bad_ok hm, bd, ui, if_neg q, u10]
    · have rp2 : RP c 0 0 (fun _ => 0) (fun _ => 0) (fun _ => 0) (fun _ => 0) (si (si σ1 14 1) 15 1) u := by
        obtain ⟨a1, a2, a3, a4, a5, a6, a7, a8, a9, a10, a11⟩ := rp
        have f : FR [15] [] [] [] (si σ1 14 1) (si (si σ1 14 1) 15 1) := FR.rf.i (by decide)
        exact ⟨a1, a2.fr f (by decide), a3, a4, a5, a6, a7.fr f (by decide), a8, a9, a10, a11⟩
      exact PRF_mk rp2 (e := 0) (by omega) s21 u17 (Or.inr u10) (by rw [u10]; rfl)
end PROVE
