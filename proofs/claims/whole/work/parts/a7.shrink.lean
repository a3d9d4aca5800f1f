/-! a7: the certificate, and what is left of it -/
section SHRINK
variable {c : Ck} {σ τ σ' τ' : St} {N n e k : Nat} {m w l : Nat → Nat} {q : Nat → Bool}
theorem X7_allIn_ok (hN : 4000000 ≤ N) (hn : n ≤ 1000) (h12 : τ.1 12 = nI n) : ∃ τ', X7_allIn N τ = some τ' ∧ FR [] [] [9] [] τ τ' ∧ ∀ i, i < n → τ'.2.2.1 9 i = 0 := by
  unfold X7_allIn
  refine wf (fun f i u => X7_allIn_2 (fun σ => X7_allIn_23 σ) f (nI i) u) n (fun i u => FR [] [] [9] [] τ u ∧ ∀ j, j < i → u.2.2.1 9 j = 0) (fun r => ∃ τ', r = some τ' ∧ FR [] [] [9] [] τ τ' ∧ ∀ i, i < n → τ'.2.2.1 9 i = 0) ?_ ?_ N 0 τ (by omega) ⟨FR.rf, fun j hj => by omega⟩ (by omega)
  · rintro f i u hi ⟨h1, h2⟩
    have h12' : u.1 12 = nI n := (h1.1 12 (by decide)).trans h12
    refine Or.inr ⟨sa u 9 i 0, ⟨h1.a (by decide), fun j hj => ?_⟩, ?_⟩
    · show upd (u.2.2.1 9) i 0 j = 0
      rcases Nat.lt_or_ge j i with z | z
      · rw [u_n (by omega)]; exact h2 j z
      · have : j = i := by omega
        subst this; exact u_s
    · show X7_allIn_2 _ (f + 1) _ _ = X7_allIn_2 _ f _ _
      simp (disch := omega) only [X7_allIn_2, X7_allIn_2b, h12', fa_lit, nI_leI, nI_ltI, nI_eq, nI_add, pk_mul, nI_clamp, bd, nm, gd_in, gd_bI, gd_b0, gd_b1, if_pos, if_neg, bI_n0, bI_n1, reduceIte, reduceCtorEq, Nat.add_zero]
  · rintro f u ⟨h1, h2⟩
    have h12' : u.1 12 = nI n := (h1.1 12 (by decide)).trans h12
    refine ⟨u, ?_, h1, h2⟩
    show X7_allIn_2 _ (f + 1) _ _ = _
    simp (disch := omega) only [X7_allIn_2, X7_allIn_2b, h12', X7_allIn_23, fa_lit, nI_leI, nI_ltI, nI_eq, nI_add, pk_mul, nI_clamp, bd, nm, gd_in, gd_bI, gd_b0, gd_b1, if_pos, if_neg, bI_n0, bI_n1, reduceIte, reduceCtorEq, Nat.add_zero]
theorem X7_certificateSet_ok (hN : 4000000 ≤ N) (h : CM c τ) (hl : CLm c n m w l τ) (hn : n ≤ 1000) (h12 : τ.1 12 = nI n) (h10 : τ.1 10 = 0) (h17 : τ.1 17 = nI e) (he : e ≤ 1000) {o : Nat → Bool} (ho : ∀ i, i < n → τ.2.2.1 9 i = bI (o i)) : X7_certificateSet N τ = some (shS c n m w l e o) := by
  have e0 : X7_certificateSet N τ = X7_certificateSet_7 N (fun v1 => X7_certificateSet_56 τ v1) τ N (al c) (nI 0) := by rw [X7_certificateSet, X7_all_ok h]; rfl
  rw [e0]
  refine wf (fun f i a => X7_certificateSet_7 N (fun v1 => X7_certificateSet_56 τ v1) τ f a (nI i)) n (fun i a => a = fr0 c m w (fun j => decide (e < l j) && !o j) i) (fun r => r = some (shS c n m w l e o)) ?_ ?_ N 0 _ (by omega) fr0_0.symm (by omega)
  · rintro f i a hi rfl
    refine Or.inr ⟨_, rfl, ?_⟩
    show X7_certificateSet_7 N _ τ (f + 1) _ _ = X7_certificateSet_7 N _ τ f _ _
    have hc := X7_isCertified_ok hl hn h10 h17 he hi
    have hq := X7_cubeAt_ok hN h hl hn hi
    have hv := ho i hi
    cases z : decide (e < l i)
    · rw [z] at hc
      rw [fr0_f (q := fun j => decide (e < l j) && !o j) (by show (decide (e < l i) && !o i) = false; rw [z]; rfl)]
      simp (disch := omega) only [X7_certificateSet_7, X7_certificateSet_7b, h12, hc, fa_lit, nI_leI, nI_ltI, nI_eq, nI_add, pk_mul, nI_clamp, bd, nm, gd_in, gd_bI, gd_b0, gd_b1, if_pos, if_neg, bI_n0, bI_n1, reduceIte, reduceCtorEq, Nat.add_zero]
    · rw [z] at hc
      cases z2 : o i
      · rw [z2] at hv
        rw [fr0_t (q := fun j => decide (e < l j) && !o j) (by show (decide (e < l i) && !o i) = true; rw [z, z2]; rfl)]
        simp (disch := omega) only [X7_certificateSet_7, X7_certificateSet_7b, h12, hc, hv, hq, fa_lit, nI_leI, nI_ltI, nI_eq, nI_add, pk_mul, nI_clamp, bd, nm, gd_in, gd_bI, gd_b0, gd_b1, if_pos, if_neg, bI_n0, bI_n1, reduceIte, reduceCtorEq, Nat.add_zero]
      · rw [z2] at hv
        rw [fr0_f (q := fun j => decide (e < l j) && !o j) (by show (decide (e < l i) && !o i) = false; rw [z, z2]; rfl)]
        simp (disch := omega) only [X7_certificateSet_7, X7_certificateSet_7b, h12, hc, hv, fa_lit, nI_leI, nI_ltI, nI_eq, nI_add, pk_mul, nI_clamp, bd, nm, gd_in, gd_bI, gd_b0, gd_b1, if_pos, if_neg, bI_n0, bI_n1, reduceIte, reduceCtorEq, Nat.add_zero]
  · rintro f a rfl
    show X7_certificateSet_7 N _ τ (f + 1) _ _ = _
    simp (disch := omega) only [X7_certificateSet_7, X7_certificateSet_7b, h12, X7_certificateSet_56, fa_lit, nI_leI, nI_ltI, nI_eq, nI_add, pk_mul, nI_clamp, bd, nm, gd_in, gd_bI, gd_b0, gd_b1, if_pos, if_neg, bI_n0, bI_n1, reduceIte, reduceCtorEq, Nat.add_zero]
    rfl
theorem Op_certificate_ok (hN : 4000000 ≤ N) (h : RC c σ τ) : Op_certificate N Rl σ τ := by
  rcases h.2.2.2.2.2 with ⟨y1, y2⟩ | ⟨y1, y2, y3⟩
  · refine ⟨0, si τ 0 1, ?_, Or.inr ⟨2, 1, σ, ⟨rfl, rfl⟩, ?_, rfl, ⟨c, h.th 1⟩⟩⟩
    · simp only [X7_certificate, X7_certificate_20, bd, nm, si0, p1, reduceIte, y2]
    · simp only [X6_certificate_t, X6_requireSafeProof_t, X6_requireSafeProof_t_20, y1, reduceIte, tb]
  · have z1 : ¬ σ.1 14 = 0 := by rw [y1]; decide
    have z2 : ¬ τ.1 9 = 0 := by rw [y2]; decide
    obtain ⟨a1, a2, _⟩ := y3
    rcases a1 with a1 | a1
    · have hm := h.th 0
      rcases hm.2.2.2.2.2 with ⟨y4, _⟩ | ⟨_, _, y4⟩
      · exact absurd y4 z1
      obtain ⟨_, _, _, _, _, _, k, n, e, m, w, l, b1, b2, b3, b4, b5, b6, b7, b8, b9, b10, b11, _⟩ := y4.o
      obtain ⟨τ', t1, t2, t3⟩ := X7_allIn_ok hN (by omega) b7
      have x1 := X7_certificateSet_ok hN (hm.1.fr t2 (by decide)) (b11.fr t2 (by decide)) (by omega) ((t2.1 12 (by decide)).trans b7) ((t2.1 10 (by decide)).trans a1) ((t2.1 17 (by decide)).trans b9) (by omega) (o := fun _ => false) t3
      have x2 := X1_unionAbove_ok hN b10 b2 b6 (e := e) (by omega)
      have ea : σ.2.1 0 = al c := h.2.1.2.2.2.2.2.1
      have z3 : σ.1 15 = 0 := a2.trans a1
      have r1 : X6_requireSafeProof σ = some σ := by rw [X6_requireSafeProof, if_neg z1, if_pos z3]
      refine ⟨shS c n m w l e (fun _ => false), τ', ?_, Or.inl ⟨σ, ?_, (t2.1 0 (by decide)).trans rfl, ⟨c, hm.sc FR.rf (t2.mo (by decide))⟩⟩⟩
      · simp only [X7_certificate, X7_certificate_20, bd, nm, si0, p0, reduceIte, if_neg z2, a1, t1, x1]
      · have x3 : al c &&& (un0 c m w (fun i => decide (e < l i)) n ^^^ (-1)) = shS c n m w l e (fun _ => false) := by
          rw [fr0_un h.1.1]
          exact fr0_cg (fun i _ => by simp)
        simp only [X6_certificate, r1, bd, X4_certificateStates, b8, x2, ea, x3]
    · have z3 : ¬ τ.1 10 = 0 := by rw [a1]; decide
      have z4 : ¬ σ.1 15 = 0 := by rw [a2, a1]; decide
      refine ⟨0, si τ 0 1, ?_, Or.inr ⟨2, 1, σ, ⟨rfl, rfl⟩, ?_, rfl, ⟨c, h.th 1⟩⟩⟩
      · simp only [X7_certificate, X7_certificate_20, bd, nm, si0, p1, reduceIte, if_neg z2, if_neg z3]
      · simp only [X6_certificate_t, X6_requireSafeProof_t, X6_requireSafeProof_t_20, if_neg z1, if_neg z4, tb]
theorem updB_s {o : Nat → Bool} {i : Nat} {b : Bool} : updB o i b i = b := if_pos rfl
theorem updB_n {o : Nat → Bool} {i j : Nat} {b : Bool} (h : j ≠ i) : updB o i b j = o j := if_neg h
theorem bI_up {f : Nat → Int32} {o : Nat → Bool} {i : Nat} {b : Bool} {x : Int32} (h : ∀ j, j < n → f j = bI (o j)) (hx : x = bI b) : ∀ j, j < n → upd f i x j = bI (updB o i b j) := fun j hj => by
  by_cases z : j = i
  · subst z; rw [u_s, updB_s, hx]
  · rw [u_n z, updB_n z, h j hj]
theorem X7_shrunkenNow_ok (hN : 4000000 ≤ N) (h : CM c τ) (hl : CLm c n m w l τ) (hn : n ≤ 1000) (h12 : τ.1 12 = nI n) (h10 : τ.1 10 = 0) (h17 : τ.1 17 = nI e) (he : e ≤ 1000) : ∃ τ', X7_shrunkenNow N τ = some (nI (shO c n m w l e n).2, τ') ∧ FR [] [] [9] [] τ τ' := by
  obtain ⟨τ1, t1, t2, t3⟩ := X7_allIn_ok hN hn h12
  have e0 : X7_shrunkenNow N τ = X7_shrunkenNow_8 N (fun v1 σ => X7_shrunkenNow_97 v1 σ) N (nI 0) (nI 0) τ1 := by rw [X7_shrunkenNow, t1]; rfl
  rw [e0]
  refine wf (fun f i (p : Int32 × St) => X7_shrunkenNow_8 N (fun v1 σ => X7_shrunkenNow_97 v1 σ) f p.1 (nI i) p.2) n (fun i p => p.1 = nI (shO c n m w l e i).2 ∧ FR [] [] [9] [] τ p.2 ∧ ∀ j, j < n → p.2.2.2.1 9 j = bI ((shO c n m w l e i).1 j)) (fun r => ∃ τ', r = some (nI (shO c n m w l e n).2, τ') ∧ FR [] [] [9] [] τ τ') ?_ ?_ N 0 (nI 0, τ1) (by omega) ⟨rfl, t2, t3⟩ (by omega)
  · rintro f i ⟨a, u⟩ hi ⟨q1, q2, q3⟩
    dsimp only at q1 q2 q3 ⊢
    subst q1
    right
    have u12 : u.1 12 = nI n := (q2.1 12 (by decide)).trans h12
    have u10 : u.1 10 = 0 := (q2.1 10 (by decide)).trans h10
    have u17 : u.1 17 = nI e := (q2.1 17 (by decide)).trans h17
    have ul := hl.fr q2 (by decide)
    have hc := X7_isCertified_ok ul hn u10 u17 he hi
    rcases Nat.lt_or_ge e (l i) with z | z
    · rw [decide_eq_true z] at hc
      have f6 : FR [] [] [9] [] τ (sa u 9 i (nI 1)) := q2.a (by decide)
      have o6 : ∀ j, j < n → (sa u 9 i (nI 1)).2.2.1 9 j = bI (updB (shO c n m w l e i).1 i true j) := by
        rw [sa_s]; exact bI_up q3 rfl
      have h6 := h.fr f6 (by decide)
      have x1 := X7_certificateSet_ok hN h6 (hl.fr f6 (by decide)) hn ((f6.1 12 (by decide)).trans h12) ((f6.1 10 (by decide)).trans h10) ((f6.1 17 (by decide)).trans h17) he o6
      have x2 := X7_successors_ok hN h6 (shS c n m w l e (updB (shO c n m w l e i).1 i true))
      have x3 := X7_bad_ok h6
      cases z2 : shT c n m w l e (updB (shO c n m w l e i).1 i true)
      · have s1 : shO c n m w l e (i + 1) = (updB (shO c n m w l e i).1 i false, (shO c n m w l e i).2 + 1) := by rw [shO, if_neg (by omega), z2]; rfl
        rw [s1]
        refine ⟨(nI ((shO c n m w l e i).2 + 1), sa (sa u 9 i (nI 1)) 9 i (nI 0)), ⟨rfl, f6.a (by decide), ?_⟩, ?_⟩
        · dsimp only
          rw [sa_s]
          intro j hj
          have y := bI_up (i := i) (b := false) (x := nI 0) o6 rfl j hj
          rw [y]
          by_cases z4 : j = i
          · subst z4; rw [updB_s, updB_s]
          · rw [updB_n z4, updB_n z4, updB_n z4]
        · show X7_shrunkenNow_8 N _ (f + 1) _ _ _ = X7_shrunkenNow_8 N _ f _ _ _
          unfold shT at z2
          by_cases w1 : sucs c (shS c n m w l e (updB (shO c n m w l e i).1 i true)) &&& (shS c n m w l e (updB (shO c n m w l e i).1 i true) ^^^ (-1)) = 0
          · have w2 : ¬ shS c n m w l e (updB (shO c n m w l e i).1 i true) &&& bad c = 0 := fun w2 => by rw [decide_eq_true w1, decide_eq_true w2] at z2; cases z2
            simp (disch := omega) only [X7_shrunkenNow_8, X7_shrunkenNow_8b, u12, hc, x1, x2, w1, x3, w2, X7_shrunkenNow_73, sa_s, u_s, fa_lit, nI_leI, nI_ltI, nI_eq, nI_add, pk_mul, nI_clamp, bd, nm, gd_in, gd_bI, gd_b0, gd_b1, if_pos, if_neg, bI_n0, bI_n1, reduceIte, reduceCtorEq, Nat.add_zero]
          · simp (disch := omega) only [X7_shrunkenNow_8, X7_shrunkenNow_8b, u12, hc, x1, x2, w1, X7_shrunkenNow_73, sa_s, u_s, fa_lit, nI_leI, nI_ltI, nI_eq, nI_add, pk_mul, nI_clamp, bd, nm, gd_in, gd_bI, gd_b0, gd_b1, if_pos, if_neg, bI_n0, bI_n1, reduceIte, reduceCtorEq, Nat.add_zero]
      · have s1 : shO c n m w l e (i + 1) = (updB (shO c n m w l e i).1 i true, (shO c n m w l e i).2) := by rw [shO, if_neg (by omega), z2]; rfl
        rw [s1]
        refine ⟨(nI (shO c n m w l e i).2, sa (sa u 9 i (nI 1)) 9 i (nI 1)), ⟨rfl, f6.a (by decide), ?_⟩, ?_⟩
        · dsimp only
          rw [sa_s]
          intro j hj
          have y := bI_up (i := i) (b := true) (x := nI 1) o6 rfl j hj
          rw [y]
          by_cases z4 : j = i
          · subst z4; rw [updB_s, updB_s]
          · rw [updB_n z4]
        · show X7_shrunkenNow_8 N _ (f + 1) _ _ _ = X7_shrunkenNow_8 N _ f _ _ _
          unfold shT at z2
          rw [Bool.and_eq_true, decide_eq_true_eq, decide_eq_true_eq] at z2
          simp (disch := omega) only [X7_shrunkenNow_8, X7_shrunkenNow_8b, u12, hc, x1, x2, z2.1, x3, z2.2, X7_shrunkenNow_73, sa_s, u_s, fa_lit, nI_leI, nI_ltI, nI_eq, nI_add, pk_mul, nI_clamp, bd, nm, gd_in, gd_bI, gd_b0, gd_b1, if_pos, if_neg, bI_n0, bI_n1, reduceIte, reduceCtorEq, Nat.add_zero]
    · rw [decide_eq_false (by omega)] at hc
      have s1 : shO c n m w l e (i + 1) = shO c n m w l e i := by rw [shO, if_pos z]
      rw [s1]
      refine ⟨(nI (shO c n m w l e i).2, u), ⟨rfl, q2, q3⟩, ?_⟩
      show X7_shrunkenNow_8 N _ (f + 1) _ _ _ = X7_shrunkenNow_8 N _ f _ _ _
      simp (disch := omega) only [X7_shrunkenNow_8, X7_shrunkenNow_8b, u12, hc, fa_lit, nI_leI, nI_ltI, nI_eq, nI_add, pk_mul, nI_clamp, bd, nm, gd_in, gd_bI, gd_b0, gd_b1, if_pos, if_neg, bI_n0, bI_n1, reduceIte, reduceCtorEq, Nat.add_zero]
  · rintro f ⟨a, u⟩ ⟨q1, q2, q3⟩
    dsimp only at q1 q2 q3 ⊢
    subst q1
    have u12 : u.1 12 = nI n := (q2.1 12 (by decide)).trans h12
    refine ⟨u, ?_, q2⟩
    simp (disch := omega) only [X7_shrunkenNow_8, X7_shrunkenNow_8b, u12, X7_shrunkenNow_97, fa_lit, nI_leI, nI_ltI, nI_eq, nI_add, pk_mul, nI_clamp, bd, nm, gd_in, gd_bI, gd_b0, gd_b1, if_pos, if_neg, bI_n0, bI_n1, reduceIte, reduceCtorEq, Nat.add_zero]
/-- the class's marks -/
def drO (l : Nat → Nat) (e : Nat) (o : Nat → Bool) (j : Nat) : Bool := !(decide (e < l j) && !o j)
theorem X4_unionOfKept_ok (hN : 4000000 ≤ N) (hl : CLs c n m w l σ) (hn : n ≤ 729) (h23 : σ.1 23 = nI n) {o : Nat → Bool} (ho : ∀ i, i < n → σ.2.2.1 8 i = bI (drO l e o i)) : X4_unionOfKept N σ = some (un0 c m w (fun j => decide (e < l j) && !o j) n) := by
  unfold X4_unionOfKept
  refine wf (fun f i a => X4_unionOfKept_4 (fun v1 => X4_unionOfKept_49 σ v1) σ f a (nI i)) n (fun i a => a = un0 c m w (fun j => decide (e < l j) && !o j) i) (fun r => r = some (un0 c m w (fun j => decide (e < l j) && !o j) n)) ?_ ?_ N 0 0 (by omega) un0_0.symm (by omega)
  · rintro f i a hi rfl
    refine Or.inr ⟨_, rfl, ?_⟩
    show X4_unionOfKept_4 _ σ (f + 1) _ _ = X4_unionOfKept_4 _ σ f _ _
    obtain ⟨_, _, _, _, a6⟩ := hl i hi
    have hv := ho i hi
    unfold drO at hv
    cases z : (decide (e < l i) && !o i)
    · rw [z] at hv
      rw [un0_f (q := fun j => decide (e < l j) && !o j) z]
      have hv' : σ.2.2.1 8 i = nI 1 := hv
      simp (disch := omega) only [X4_unionOfKept_4, X4_unionOfKept_4b, h23, hv', fa_lit, nI_leI, nI_ltI, nI_eq, nI_add, pk_mul, nI_clamp, bd, nm, gd_in, gd_bI, gd_b0, gd_b1, if_pos, if_neg, bI_n0, bI_n1, reduceIte, reduceCtorEq, Nat.add_zero]
    · rw [z] at hv
      rw [un0_t (q := fun j => decide (e < l j) && !o j) z]
      have hv' : σ.2.2.1 8 i = nI 0 := hv
      simp (disch := omega) only [X4_unionOfKept_4, X4_unionOfKept_4b, h23, hv', a6, fa_lit, nI_leI, nI_ltI, nI_eq, nI_add, pk_mul, nI_clamp, bd, nm, gd_in, gd_bI, gd_b0, gd_b1, if_pos, if_neg, bI_n0, bI_n1, reduceIte, reduceCtorEq, Nat.add_zero]
  · rintro f a rfl
    show X4_unionOfKept_4 _ σ (f + 1) _ _ = _
    simp (disch := omega) only [X4_unionOfKept_4, X4_unionOfKept_4b, h23, X4_unionOfKept_49, fa_lit, nI_leI, nI_ltI, nI_eq, nI_add, pk_mul, nI_clamp, bd, nm, gd_in, gd_bI, gd_b0, gd_b1, if_pos, if_neg, bI_n0, bI_n1, reduceIte, reduceCtorEq, Nat.add_zero]
theorem drO_up {f : Nat → Int32} {o : Nat → Bool} {i : Nat} {b : Bool} {x : Int32} (hz : e < l i) (h : ∀ j, j < n → f j = bI (drO l e o j)) (hx : x = bI b) : ∀ j, j < n → upd f i x j = bI (drO l e (updB o i b) j) := fun j hj => by
  unfold drO at h ⊢
  by_cases z : j = i
  · subst z; rw [u_s, updB_s, hx, decide_eq_true hz]; cases b <;> rfl
  · rw [u_n z, updB_n z, h j hj]
theorem X4_count_ok (hN : 4000000 ≤ N) (h : CS c σ) (f3 : F3 c σ) (hl : CLs c n m w l σ) (hn : n ≤ 729) (h23 : σ.1 23 = nI n) (h21 : σ.1 21 = nI e) (he : e ≤ 1000) : ∃ σ', X4_countNeededCubes_a3 N σ = some (nI (shO c n m w l e n).2, σ') ∧ FR [] [] [8] [] σ σ' := by
  unfold X4_countNeededCubes_a3
  refine wf (fun f i u => X4_countNeededCubes_a3_4 (fun v2 σ => X4_countNeededCubes_a3_55 N v2 σ) 0 f (nI i) u) n (fun i u => FR [] [] [8] [] σ u ∧ ∀ j, j < i → u.2.2.1 8 j = bI (drO l e (fun _ => false) j)) (fun r => ∃ σ', r = some (nI (shO c n m w l e n).2, σ') ∧ FR [] [] [8] [] σ σ') ?_ ?_ N 0 σ (by omega) ⟨FR.rf, fun j hj => by omega⟩ (by omega)
  · rintro f i u hi ⟨q1, q2⟩
    have u23 : u.1 23 = nI n := (q1.1 23 (by decide)).trans h23
    have u21 : u.1 21 = nI e := (q1.1 21 (by decide)).trans h21
    obtain ⟨⟨_, _, _, a4⟩, _, _, a5, _⟩ := hl.fr q1 (by decide) i hi
    refine Or.inr ⟨sa u 8 i (bI (drO l e (fun _ => false) i)), ⟨q1.a (by decide), fun j hj => ?_⟩, ?_⟩
    · show upd (u.2.2.1 8) i _ j = _
      rcases Nat.lt_or_ge j i with z | z
      · rw [u_n (by omega)]; exact q2 j z
      · have : j = i := by omega
        subst this; exact u_s
    · show X4_countNeededCubes_a3_4 _ _ (f + 1) _ _ = X4_countNeededCubes_a3_4 _ _ f _ _
      unfold drO
      rcases Nat.lt_or_ge e (l i) with z | z
      · rw [decide_eq_true z]
        simp (disch := omega) only [X4_countNeededCubes_a3_4, X4_countNeededCubes_a3_4b, u23, u21, a5, X4_countNeededCubes_a3_48, fa_lit, nI_leI, nI_ltI, nI_eq, nI_add, pk_mul, nI_clamp, bd, nm, gd_in, gd_bI, gd_b0, gd_b1, if_pos, if_neg, bI_n0, bI_n1, reduceIte, reduceCtorEq, Nat.add_zero]
        rfl
      · rw [decide_eq_false (show ¬ e < l i by omega)]
        simp (disch := omega) only [X4_countNeededCubes_a3_4, X4_countNeededCubes_a3_4b, u23, u21, a5, X4_countNeededCubes_a3_48, fa_lit, nI_leI, nI_ltI, nI_eq, nI_add, pk_mul, nI_clamp, bd, nm, gd_in, gd_bI, gd_b0, gd_b1, if_pos, if_neg, bI_n0, bI_n1, reduceIte, reduceCtorEq, Nat.add_zero]
        rfl
  · rintro f u ⟨q1, q2⟩
    have u23 : u.1 23 = nI n := (q1.1 23 (by decide)).trans h23
    have e0 : X4_countNeededCubes_a3_4 (fun v2 σ => X4_countNeededCubes_a3_55 N v2 σ) 0 (f + 1) (nI n) u = X4_countNeededCubes_a3_57 N (fun v2 σ => X4_countNeededCubes_a3_173 v2 σ) N (nI 0) (nI 0) u := by
      simp (disch := omega) only [X4_countNeededCubes_a3_4, X4_countNeededCubes_a3_4b, u23, X4_countNeededCubes_a3_55, fa_lit, nI_leI, nI_ltI, nI_eq, nI_add, pk_mul, nI_clamp, bd, nm, gd_in, gd_bI, gd_b0, gd_b1, if_pos, if_neg, bI_n0, bI_n1, reduceIte, reduceCtorEq, Nat.add_zero]
    rw [e0]
    refine wf (fun f i (p : Int32 × St) => X4_countNeededCubes_a3_57 N (fun v2 σ => X4_countNeededCubes_a3_173 v2 σ) f p.1 (nI i) p.2) n (fun i p => p.1 = nI (shO c n m w l e i).2 ∧ FR [] [] [8] [] σ p.2 ∧ ∀ j, j < n → p.2.2.2.1 8 j = bI (drO l e (shO c n m w l e i).1 j)) (fun r => ∃ σ', r = some (nI (shO c n m w l e n).2, σ') ∧ FR [] [] [8] [] σ σ') ?_ ?_ N 0 (nI 0, u) (by omega) ⟨rfl, q1, q2⟩ (by omega)
    · rintro f i ⟨a, u⟩ hi ⟨q1, q2, q3⟩
      dsimp only at q1 q2 q3 ⊢
      subst q1
      right
      have u23 : u.1 23 = nI n := (q2.1 23 (by decide)).trans h23
      have hv := q3 i hi
      rcases Nat.lt_or_ge e (l i) with z | z
      · have oi : (shO c n m w l e i).1 i = false := by
          have : ∀ k j, k ≤ j → (shO c n m w l e k).1 j = false := by
            intro k
            induction k with
            | zero => intro j _; rfl
            | succ k ih =>
              intro j hj
              rw [shO]
              split
              · exact ih j (by omega)
              · split
                · dsimp only; rw [updB_n (by omega)]; exact ih j (by omega)
                · dsimp only; rw [updB_n (by omega)]; exact ih j (by omega)
          exact this i i (Nat.le_refl _)
        have hv' : u.2.2.1 8 i = nI 0 := by rw [hv, drO, oi, decide_eq_true z]; rfl
        have f6 : FR [] [] [8] [] σ (sa u 8 i (nI 1)) := q2.a (by decide)
        have o6 : ∀ j, j < n → (sa u 8 i (nI 1)).2.2.1 8 j = bI (drO l e (updB (shO c n m w l e i).1 i true) j) := by
          rw [sa_s]; exact drO_up z q3 rfl
        have h6 := h.fr f6 (by decide)
        have x1 := X4_unionOfKept_ok hN (hl.fr f6 (by decide)) hn ((f6.1 23 (by decide)).trans h23) o6
        have ea : (sa u 8 i (nI 1)).2.1 0 = al c := h6.2.2.2.2.2.1
        have x4 : al c &&& (un0 c m w (fun j => decide (e < l j) && !updB (shO c n m w l e i).1 i true j) n ^^^ (-1)) = shS c n m w l e (updB (shO c n m w l e i).1 i true) := fr0_un h.1
        have x2 := X2_successorsOf_ok hN h.1 (f3.fr f6 (by decide)) (x := shS c n m w l e (updB (shO c n m w l e i).1 i true)) (fr0_l h.1)
        have x3 := X0_bad_ok h6
        cases z2 : shT c n m w l e (updB (shO c n m w l e i).1 i true)
        · have s1 : shO c n m w l e (i + 1) = (updB (shO c n m w l e i).1 i false, (shO c n m w l e i).2 + 1) := by rw [shO, if_neg (by omega), z2]; rfl
          rw [s1]
          refine ⟨(nI ((shO c n m w l e i).2 + 1), sa (sa u 8 i (nI 1)) 8 i (nI 0)), ⟨rfl, f6.a (by decide), ?_⟩, ?_⟩
          · dsimp only
            rw [sa_s]
            intro j hj
            have y := drO_up (i := i) (b := false) (x := nI 0) z o6 rfl j hj
            rw [y]
            unfold drO
            by_cases z4 : j = i
            · subst z4; rw [updB_s, updB_s]
            · rw [updB_n z4, updB_n z4, updB_n z4]
          · show X4_countNeededCubes_a3_57 N _ (f + 1) _ _ _ = X4_countNeededCubes_a3_57 N _ f _ _ _
            unfold shT at z2
            by_cases w1 : sucs c (shS c n m w l e (updB (shO c n m w l e i).1 i true)) &&& (shS c n m w l e (updB (shO c n m w l e i).1 i true) ^^^ (-1)) = 0
            · have w2 : ¬ shS c n m w l e (updB (shO c n m w l e i).1 i true) &&& bad c = 0 := fun w2 => by rw [decide_eq_true w1, decide_eq_true w2] at z2; cases z2
              simp (disch := omega) only [X4_countNeededCubes_a3_57, X4_countNeededCubes_a3_57b, u23, hv', x1, ea, x4, x2, w1, x3, w2, X4_countNeededCubes_a3_135, X4_countNeededCubes_a3_157, fa_lit, nI_leI, nI_ltI, nI_eq, nI_add, pk_mul, nI_clamp, bd, nm, gd_in, gd_bI, gd_b0, gd_b1, if_pos, if_neg, bI_n0, bI_n1, reduceIte, reduceCtorEq, Nat.add_zero]
            · simp (disch := omega) only [X4_countNeededCubes_a3_57, X4_countNeededCubes_a3_57b, u23, hv', x1, ea, x4, x2, w1, X4_countNeededCubes_a3_135, X4_countNeededCubes_a3_157, fa_lit, nI_leI, nI_ltI, nI_eq, nI_add, pk_mul, nI_clamp, bd, nm, gd_in, gd_bI, gd_b0, gd_b1, if_pos, if_neg, bI_n0, bI_n1, reduceIte, reduceCtorEq, Nat.add_zero]
        · have s1 : shO c n m w l e (i + 1) = (updB (shO c n m w l e i).1 i true, (shO c n m w l e i).2) := by rw [shO, if_neg (by omega), z2]; rfl
          rw [s1]
          refine ⟨(nI (shO c n m w l e i).2, sa u 8 i (nI 1)), ⟨rfl, f6, o6⟩, ?_⟩
          show X4_countNeededCubes_a3_57 N _ (f + 1) _ _ _ = X4_countNeededCubes_a3_57 N _ f _ _ _
          unfold shT at z2
          rw [Bool.and_eq_true, decide_eq_true_eq, decide_eq_true_eq] at z2
          simp (disch := omega) only [X4_countNeededCubes_a3_57, X4_countNeededCubes_a3_57b, u23, hv', x1, ea, x4, x2, z2.1, x3, z2.2, X4_countNeededCubes_a3_135, fa_lit, nI_leI, nI_ltI, nI_eq, nI_add, pk_mul, nI_clamp, bd, nm, gd_in, gd_bI, gd_b0, gd_b1, if_pos, if_neg, bI_n0, bI_n1, reduceIte, reduceCtorEq, Nat.add_zero]
      · have hv' : u.2.2.1 8 i = nI 1 := by rw [hv, drO, decide_eq_false (by omega)]; rfl
        have s1 : shO c n m w l e (i + 1) = shO c n m w l e i := by rw [shO, if_pos z]
        rw [s1]
        refine ⟨(nI (shO c n m w l e i).2, u), ⟨rfl, q2, q3⟩, ?_⟩
        show X4_countNeededCubes_a3_57 N _ (f + 1) _ _ _ = X4_countNeededCubes_a3_57 N _ f _ _ _
        simp (disch := omega) only [X4_countNeededCubes_a3_57, X4_countNeededCubes_a3_57b, u23, hv', fa_lit, nI_leI, nI_ltI, nI_eq, nI_add, pk_mul, nI_clamp, bd, nm, gd_in, gd_bI, gd_b0, gd_b1, if_pos, if_neg, bI_n0, bI_n1, reduceIte, reduceCtorEq, Nat.add_zero]
    · rintro f ⟨a, u⟩ ⟨q1, q2, q3⟩
      dsimp only at q1 q2 q3 ⊢
      subst q1
      have u23 : u.1 23 = nI n := (q2.1 23 (by decide)).trans h23
      refine ⟨u, ?_, q2⟩
      simp (disch := omega) only [X4_countNeededCubes_a3_57, X4_countNeededCubes_a3_57b, u23, X4_countNeededCubes_a3_173, fa_lit, nI_leI, nI_ltI, nI_eq, nI_add, pk_mul, nI_clamp, bd, nm, gd_in, gd_bI, gd_b0, gd_b1, if_pos, if_neg, bI_n0, bI_n1, reduceIte, reduceCtorEq, Nat.add_zero]
theorem Op_shrunken_ok (hN : 4000000 ≤ N) (h : RC c σ τ) : Op_shrunken N Rl σ τ := by
  rcases h.2.2.2.2.2 with ⟨y1, y2⟩ | ⟨y1, y2, y3⟩
  · refine ⟨0, si τ 0 1, ?_, Or.inr ⟨2, 1, σ, ⟨rfl, rfl⟩, ?_, rfl, ⟨c, h.th 1⟩⟩⟩
    · simp only [X7_shrunken, X7_shrunken_20, bd, nm, si0, p1, reduceIte, y2]
    · simp only [X6_shrunken_t, X6_requireSafeProof_t, X6_requireSafeProof_t_20, y1, reduceIte, tb]
  · have z1 : ¬ σ.1 14 = 0 := by rw [y1]; decide
    have z2 : ¬ τ.1 9 = 0 := by rw [y2]; decide
    obtain ⟨a1, a2, _⟩ := y3
    rcases a1 with a1 | a1
    · have hm := h.th 0
      obtain ⟨σ1, d1, d2, d3, d4, d5⟩ := X2_refresh_ok hN h.2.1 h.2.2.2.2.1
      have hr := hm.rf d2 d4 d5
      have z1' : ¬ σ1.1 14 = 0 := by rw [d2.1 14 (by decide)]; exact z1
      rcases hr.2.2.2.2.2 with ⟨y4, _⟩ | ⟨_, _, y4⟩
      · exact absurd y4 z1'
      obtain ⟨_, _, _, _, _, _, k, n, e, m, w, l, b1, b2, b3, b4, b5, b6, b7, b8, b9, b10, b11, _⟩ := y4.o
      obtain ⟨τ2, t1, t2⟩ := X7_shrunkenNow_ok hN hm.1 b11 (by omega) b7 a1 b9 (by omega)
      obtain ⟨σ2, s1, s2⟩ := X4_count_ok hN d3 d5.1 b10 b2 b6 b8 (by omega)
      have z3 : σ.1 15 = 0 := a2.trans a1
      have r1 : X6_requireSafeProof σ = some σ := by rw [X6_requireSafeProof, if_neg z1, if_pos z3]
      refine ⟨nI (shO c n m w l e n).2, τ2, ?_, Or.inl ⟨σ2, ?_, (t2.1 0 (by decide)).trans rfl, ⟨c, hr.sc (s2.mo (by decide)) (t2.mo (by decide))⟩⟩⟩
      · simp only [X7_shrunken, X7_shrunken_20, bd, nm, si0, p0, reduceIte, if_neg z2, a1, t1]
      · simp only [X6_shrunken, r1, bd, d1, s1]
    · have z3 : ¬ τ.1 10 = 0 := by rw [a1]; decide
      have z4 : ¬ σ.1 15 = 0 := by rw [a2, a1]; decide
      refine ⟨0, si τ 0 1, ?_, Or.inr ⟨2, 1, σ, ⟨rfl, rfl⟩, ?_, rfl, ⟨c, h.th 1⟩⟩⟩
      · simp only [X7_shrunken, X7_shrunken_20, bd, nm, si0, p1, reduceIte, if_neg z2, if_neg z3]
      · simp only [X6_shrunken_t, X6_requireSafeProof_t, X6_requireSafeProof_t_20, if_neg z1, if_neg z4, tb]
end SHRINK
