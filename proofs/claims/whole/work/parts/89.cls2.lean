/-! 89: the classes in both programs; what a refresh finds -/
section CLS
variable {c : Ck} {k : Nat → Nat} {σ τ : St} {N : Nat}
/-- one round of the reference -/
theorem X7_layClasses_60_ok (hN : 4000000 ≤ N) (h : CM c τ) (hk : ∀ s, s < ns c → k s < 64 ∧ τ.2.2.1 4 s = nI (k s)) (K : Int32 → St → Option St) : ∃ τ', X7_layClasses_60 N K N (nI 0) (nI 0) τ = K (bI (ax (fun s => !decide (rfn c k s = k s)) (ns c))) τ' ∧ FR [] [] [5] [] τ τ' ∧ ∀ s, s < ns c → τ'.2.2.1 5 s = nI (rfn c k s) := by
  have h64 := ns_le h.1
  refine wf (fun n i (p : Int32 × St) => X7_layClasses_60 N K n p.1 (nI i) p.2) (ns c) (fun i p => p.1 = bI (ax (fun s => !decide (rfn c k s = k s)) i) ∧ FR [] [] [5] [] τ p.2 ∧ ∀ s, s < i → p.2.2.2.1 5 s = nI (rfn c k s)) (fun r => ∃ τ', r = K (bI (ax (fun s => !decide (rfn c k s = k s)) (ns c))) τ' ∧ FR [] [] [5] [] τ τ' ∧ ∀ s, s < ns c → τ'.2.2.1 5 s = nI (rfn c k s)) ?_ ?_ N 0 (nI 0, τ) (by omega) ⟨rfl, FR.rf, fun s hs => by omega⟩ (by omega)
  · rintro n i ⟨a, u⟩ hi ⟨q1, q2, q3⟩
    dsimp only at q1 q2 q3
    subst q1
    have hu := h.fr q2 (by decide)
    have hku : ∀ s, s < ns c → k s < 64 ∧ u.2.2.1 4 s = nI (k s) := fun s hs => ⟨(hk s hs).1, by rw [q2.2.2.1 4 (by decide)]; exact (hk s hs).2⟩
    obtain ⟨r1, r2, r3⟩ := rfn_ok (c := c) (k := k) i
    refine Or.inr ⟨(bI (ax (fun s => !decide (rfn c k s = k s)) (i + 1)), sa u 5 i (nI (rfn c k i))), ⟨rfl, q2.a (by decide), fun s hs => ?_⟩, ?_⟩
    · show upd (u.2.2.1 5) i _ s = _
      rcases Nat.lt_or_ge s i with q | q
      · rw [u_n (by omega)]; exact q3 s q
      · have : s = i := by omega
        subst this; exact u_s
    · show X7_layClasses_60 N K (n + 1) _ _ _ = X7_layClasses_60 N K n _ _ _
      simp (disch := omega) only [X7_layClasses_60, X7_layClasses_60b, X7_states_ok hu, fa_lit, nI_leI, nI_ltI, nI_eq, nI_add, pk_mul, nI_clamp, bd, nm, gd_in, gd_bI, gd_b0, gd_b1, if_pos, if_neg, bI_n0, bI_n1, reduceIte, reduceCtorEq, Nat.add_zero]
      refine wf (fun m t (z : Unit) => X7_layClasses_70 N (fun v1 v2 v3 σ => X7_layClasses_85 (fun v1 v2 σ => X7_layClasses_60 N K n v1 v2 σ) v1 v2 v3 σ) (bI (ax (fun s => !decide (rfn c k s = k s)) i)) (nI i) m (nI t) u) (rfn c k i) (fun t z => True) (fun r => r = X7_layClasses_60 N K n (bI (ax (fun s => !decide (rfn c k s = k s)) (i + 1))) (nI (i + 1)) (sa u 5 i (nI (rfn c k i)))) ?_ ?_ N 0 () (by omega) trivial (by omega)
      · rintro m t z ht' -
        refine Or.inr ⟨(), trivial, ?_⟩
        show X7_layClasses_70 N _ _ _ (m + 1) _ _ = X7_layClasses_70 N _ _ _ m _ _
        have e := r3 t ht'
        have hal := X7_areAlike_ok hN hu hku hi (show t < ns c by omega)
        simp (disch := omega) only [X7_layClasses_70, X7_layClasses_70b, hal, e, fa_lit, nI_leI, nI_ltI, nI_eq, nI_add, pk_mul, nI_clamp, bd, nm, gd_in, gd_bI, gd_b0, gd_b1, if_pos, if_neg, bI_n0, bI_n1, reduceIte, reduceCtorEq, Nat.add_zero]
      · rintro m z -
        show X7_layClasses_70 N _ _ _ (m + 1) _ _ = _
        have hal := X7_areAlike_ok hN hu hku hi (show rfn c k i < ns c by omega)
        have hki := hku i hi
        have e4 : (sa u 5 i (nI (rfn c k i))).2.2.1 4 i = nI (k i) := hki.2
        rw [ax]
        cases e : ax (fun s => !decide (rfn c k s = k s)) i
        · rcases Classical.em (rfn c k i = k i) with z | z
          · rw [decide_eq_true z]
            rw [z] at r2 e4 hal ⊢
            simp (disch := omega) only [X7_layClasses_70, X7_layClasses_70b, hal, r2, X7_layClasses_85, e4, fa_lit, nI_leI, nI_ltI, nI_eq, nI_add, pk_mul, nI_clamp, bd, nm, gd_in, gd_bI, gd_b0, gd_b1, if_pos, if_neg, bI_n0, bI_n1, reduceIte, reduceCtorEq, Nat.add_zero]
            rfl
          · rw [decide_eq_false z]
            have z' : ¬ nI (rfn c k i) = nI (k i) := mt (nI_d (by omega) hki.1).mp z
            simp (disch := omega) only [X7_layClasses_70, X7_layClasses_70b, hal, r2, X7_layClasses_85, e4, z', fa_lit, nI_leI, nI_ltI, nI_eq, nI_add, pk_mul, nI_clamp, bd, nm, gd_in, gd_bI, gd_b0, gd_b1, if_pos, if_neg, bI_n0, bI_n1, reduceIte, reduceCtorEq, Nat.add_zero]
            rfl
        · simp (disch := omega) only [X7_layClasses_70, X7_layClasses_70b, hal, r2, X7_layClasses_85, fa_lit, nI_leI, nI_ltI, nI_eq, nI_add, pk_mul, nI_clamp, bd, nm, gd_in, gd_bI, gd_b0, gd_b1, if_pos, if_neg, bI_n0, bI_n1, reduceIte, reduceCtorEq, Nat.add_zero]
          rfl
  · rintro n ⟨a, u⟩ ⟨q1, q2, q3⟩
    dsimp only at q1 q2 q3
    subst q1
    have hu := h.fr q2 (by decide)
    refine ⟨u, ?_, q2, q3⟩
    show X7_layClasses_60 N K (n + 1) _ _ _ = _
    simp (disch := omega) only [X7_layClasses_60, X7_layClasses_60b, X7_states_ok hu, fa_lit, nI_leI, nI_ltI, nI_eq, nI_add, pk_mul, nI_clamp, bd, nm, gd_in, gd_bI, gd_b0, gd_b1, if_pos, if_neg, bI_n0, bI_n1, reduceIte, reduceCtorEq, Nat.add_zero]
theorem X7_layClasses_120_ok (hN : 4000000 ≤ N) (h : CM c τ) (hk : ∀ s, s < ns c → τ.2.2.1 5 s = nI (k s)) (K : Int32 → St → Option St) (w : Int32) : ∃ τ', X7_layClasses_120 K w N (nI 0) τ = K w τ' ∧ FR [] [] [4] [] τ τ' ∧ ∀ s, s < ns c → τ'.2.2.1 4 s = nI (k s) := by
  have h64 := ns_le h.1
  refine wf (fun n i u => X7_layClasses_120 K w n (nI i) u) (ns c) (fun i u => FR [] [] [4] [] τ u ∧ ∀ s, s < i → u.2.2.1 4 s = nI (k s)) (fun r => ∃ τ', r = K w τ' ∧ FR [] [] [4] [] τ τ' ∧ ∀ s, s < ns c → τ'.2.2.1 4 s = nI (k s)) ?_ ?_ N 0 τ (by omega) ⟨FR.rf, fun s hs => by omega⟩ (by omega)
  · rintro n i u hi ⟨q2, q3⟩
    have hu := h.fr q2 (by decide)
    have e5 : u.2.2.1 5 i = nI (k i) := by rw [q2.2.2.1 5 (by decide)]; exact hk i hi
    refine Or.inr ⟨sa u 4 i (nI (k i)), ⟨q2.a (by decide), fun s hs => ?_⟩, ?_⟩
    · show upd (u.2.2.1 4) i _ s = _
      rcases Nat.lt_or_ge s i with q | q
      · rw [u_n (by omega)]; exact q3 s q
      · have : s = i := by omega
        subst this; exact u_s
    · show X7_layClasses_120 K w (n + 1) _ _ = X7_layClasses_120 K w n _ _
      simp (disch := omega) only [X7_layClasses_120, X7_layClasses_120b, X7_states_ok hu, e5, fa_lit, nI_leI, nI_ltI, nI_eq, nI_add, pk_mul, nI_clamp, bd, nm, gd_in, gd_bI, gd_b0, gd_b1, if_pos, if_neg, bI_n0, bI_n1, reduceIte, reduceCtorEq, Nat.add_zero]
  · rintro n u ⟨q2, q3⟩
    have hu := h.fr q2 (by decide)
    refine ⟨u, ?_, q2, q3⟩
    show X7_layClasses_120 K w (n + 1) _ _ = _
    simp (disch := omega) only [X7_layClasses_120, X7_layClasses_120b, X7_states_ok hu, fa_lit, nI_leI, nI_ltI, nI_eq, nI_add, pk_mul, nI_clamp, bd, nm, gd_in, gd_bI, gd_b0, gd_b1, if_pos, if_neg, bI_n0, bI_n1, reduceIte, reduceCtorEq, Nat.add_zero]
theorem cl_lt (h : okC c) (j : Nat) {s : Nat} (hs : s < ns c) : cl c j s < 64 := by
  have := (KI_cl h j s hs).1
  have := ns_le h
  omega
theorem cl_0g (h : okC c) {s : Nat} (e : ht c.2.2.2.2 s = true) : li c.2.2.2.2 = nI (cl c 0 s) := by
  rw [li_ok (fun z => by rw [z, h_0] at e; cases e), cl, e]
theorem cl_0b (h : okC c) {s : Nat} (hs : s < ns c) (e : ht c.2.2.2.2 s = false) : li (bad c) = nI (cl c 0 s) := by
  have hb : ht (bad c) s = true := by rw [h_bad h, e, decide_eq_true hs]; rfl
  rw [li_ok (fun z => by rw [z, h_0] at hb; cases hb), cl, e]
theorem X7_layClasses_ok (hN : 4000000 ≤ N) (h : CM c τ) : ∃ τ', X7_layClasses N τ = some τ' ∧ FR [] [] [4, 5] [] τ τ' ∧ ∀ s, s < ns c → τ'.2.2.1 4 s = nI (cls c s) := by
  have h64 := ns_le h.1
  unfold X7_layClasses
  refine wf (fun n i u => X7_layClasses_2 N (fun σ => X7_layClasses_50 N σ) n (nI i) u) (ns c) (fun i u => FR [] [] [4, 5] [] τ u ∧ ∀ s, s < i → u.2.2.1 4 s = nI (cl c 0 s)) (fun r => ∃ τ', r = some τ' ∧ FR [] [] [4, 5] [] τ τ' ∧ ∀ s, s < ns c → τ'.2.2.1 4 s = nI (cls c s)) ?_ ?_ N 0 τ (by omega) ⟨FR.rf, fun s hs => by omega⟩ (by omega)
  · rintro n i u hi ⟨q2, q3⟩
    have hu := h.fr q2 (by decide)
    have hg : u.2.1 1 = c.2.2.2.2 := hu.2.2.2.2.2
    refine Or.inr ⟨sa u 4 i (nI (cl c 0 i)), ⟨q2.a (by decide), fun s hs => ?_⟩, ?_⟩
    · show upd (u.2.2.1 4) i _ s = _
      rcases Nat.lt_or_ge s i with q | q
      · rw [u_n (by omega)]; exact q3 s q
      · have : s = i := by omega
        subst this; exact u_s
    · show X7_layClasses_2 N _ (n + 1) _ _ = X7_layClasses_2 N _ n _ _
      cases e : ht c.2.2.2.2 i
      · have := cl_0b h.1 hi e
        simp (disch := omega) only [X7_layClasses_2, X7_layClasses_2b, X7_states_ok hu, hg, X7_has_ok, e, X7_bad_ok hu, X7_least_ok hN, X7_layClasses_43, this, fa_lit, nI_leI, nI_ltI, nI_eq, nI_add, pk_mul, nI_clamp, bd, nm, gd_in, gd_bI, gd_b0, gd_b1, if_pos, if_neg, bI_n0, bI_n1, reduceIte, reduceCtorEq, Nat.add_zero]
      · have := cl_0g h.1 e
        simp (disch := omega) only [X7_layClasses_2, X7_layClasses_2b, X7_states_ok hu, hg, X7_has_ok, e, X7_least_ok hN, X7_layClasses_43, this, fa_lit, nI_leI, nI_ltI, nI_eq, nI_add, pk_mul, nI_clamp, bd, nm, gd_in, gd_bI, gd_b0, gd_b1, if_pos, if_neg, bI_n0, bI_n1, reduceIte, reduceCtorEq, Nat.add_zero]
  · rintro n u ⟨q2, q3⟩
    have hu := h.fr q2 (by decide)
    show ∃ τ', X7_layClasses_2 N _ (n + 1) _ _ = some τ' ∧ _
    simp (disch := omega) only [X7_layClasses_2, X7_layClasses_2b, X7_states_ok hu, X7_layClasses_50, fa_lit, nI_leI, nI_ltI, nI_eq, nI_add, pk_mul, nI_clamp, bd, nm, gd_in, gd_bI, gd_b0, gd_b1, if_pos, if_neg, bI_n0, bI_n1, reduceIte, reduceCtorEq, Nat.add_zero]
    obtain ⟨J, j1, j2, j3⟩ := cl_end h.1
    refine wl (fun m (p : Nat × St) => X7_layClasses_52 N (fun σ => X7_layClasses_149 σ) m (bI (p.1 = 0 || chg c (p.1 - 1) (ns c))) p.2) (fun p => J + 2 - p.1) (fun p => p.1 ≤ J + 1 ∧ FR [] [] [4, 5] [] τ p.2 ∧ ∀ s, s < ns c → p.2.2.2.1 4 s = nI (cl c p.1 s)) (fun r => ∃ τ', r = some τ' ∧ FR [] [] [4, 5] [] τ τ' ∧ ∀ s, s < ns c → τ'.2.2.1 4 s = nI (cls c s)) ?_ N (0, u) ⟨by show 0 ≤ J + 1; omega, q2, q3⟩ (by show J + 2 - 0 < N; omega)
    rintro m ⟨j, w⟩ ⟨p1, p2, p3⟩
    dsimp only at p1 p2 p3 ⊢
    have hw := h.fr p2 (by decide)
    rcases Nat.lt_or_ge J j with q | q
    · have : j = J + 1 := by omega
      subst this
      refine Or.inl ⟨w, ?_, p2, fun s hs => ?_⟩
      · rw [Nat.add_sub_cancel, j2]
        simp (disch := omega) only [X7_layClasses_52, X7_layClasses_52b, fa_lit, nI_leI, nI_ltI, nI_eq, nI_add, pk_mul, nI_clamp, bd, nm, gd_in, gd_bI, gd_b0, gd_b1, if_pos, if_neg, bI_n0, bI_n1, reduceIte, reduceCtorEq, Nat.add_zero]
        rfl
      · rw [p3 s hs, cls, cl_st h.1 j2 (J + 1) (by omega) s hs, cl_st h.1 j2 64 j1 s hs]
    · refine Or.inr ?_
      have e1 : (decide (j = 0) || chg c (j - 1) (ns c)) = true := by
        cases j with
        | zero => rfl
        | succ j => rw [Nat.add_sub_cancel, j3 j (by omega)]; simp
      have hkw : ∀ s, s < ns c → cl c j s < 64 ∧ w.2.2.1 4 s = nI (cl c j s) := fun s hs => ⟨cl_lt h.1 j hs, p3 s hs⟩
      obtain ⟨w1, a1, a2, a3⟩ := X7_layClasses_60_ok hN hw hkw (fun v1 σ => X7_layClasses_118 N (fun v1 σ => X7_layClasses_52 N (fun σ => X7_layClasses_149 σ) m v1 σ) v1 σ)
      have hw1 := hw.fr a2 (by decide)
      obtain ⟨w2, b1, b2, b3⟩ := X7_layClasses_120_ok hN hw1 a3 (fun v1 σ => X7_layClasses_146 (fun v1 σ => X7_layClasses_52 N (fun σ => X7_layClasses_149 σ) m v1 σ) v1 σ) (bI (ax (fun s => !decide (rfn c (cl c j) s = cl c j s)) (ns c)))
      refine ⟨(j + 1, w2), ⟨by dsimp only; omega, (p2.tr (a2.mo (by decide))).tr (b2.mo (by decide)), b3⟩, by dsimp only; omega, ?_⟩
      rw [e1]
      simp (disch := omega) only [X7_layClasses_52, X7_layClasses_52b, fa_lit, nI_leI, nI_ltI, nI_eq, nI_add, pk_mul, nI_clamp, bd, nm, gd_in, gd_bI, gd_b0, gd_b1, if_pos, if_neg, bI_n0, bI_n1, reduceIte, reduceCtorEq, Nat.add_zero]
      refine a1.trans ?_
      show X7_layClasses_118 N _ _ _ = _
      unfold X7_layClasses_118
      refine b1.trans ?_
      show X7_layClasses_52 N _ m _ _ = X7_layClasses_52 N _ m _ _
      congr 2
/-- one round of the class -/
theorem X2_refineClasses_ok (hN : 4000000 ≤ N) (h : CS c σ) (f : F3 c σ) (hk : ∀ s, s < ns c → k s < 64 ∧ σ.2.2.1 6 s = nI (k s)) (hK : KI c k) : ∃ σ', X2_refineClasses N σ = some (bI (ax (fun s => !decide (rfn c k s = k s)) (ns c)), σ') ∧ FR [] [] [6, 7] [] σ σ' ∧ ∀ s, s < ns c → σ'.2.2.1 6 s = nI (rfn c k s) := by
  have h64 := ns_le h.1
  unfold X2_refineClasses
  refine wf (fun n i (p : Int32 × St) => X2_refineClasses_4 N (fun v1 σ => X2_refineClasses_122 v1 σ) n p.1 (nI i) p.2) (ns c) (fun i p => p.1 = bI (ax (fun s => !decide (rfn c k s = k s)) i) ∧ FR [] [] [7] [] σ p.2 ∧ ∀ s, s < i → p.2.2.2.1 7 s = nI (rfn c k s)) (fun r => ∃ σ', r = some (bI (ax (fun s => !decide (rfn c k s = k s)) (ns c)), σ') ∧ FR [] [] [6, 7] [] σ σ' ∧ ∀ s, s < ns c → σ'.2.2.1 6 s = nI (rfn c k s)) ?_ ?_ N 0 (nI 0, σ) (by omega) ⟨rfl, FR.rf, fun s hs => by omega⟩ (by omega)
  · rintro n i ⟨a, u⟩ hi ⟨q1, q2, q3⟩
    dsimp only at q1 q2 q3
    subst q1
    have hu := h.fr q2 (by decide)
    have fu : F3 c u := by
      unfold F3
      rw [q2.2.2.1 3 (by decide), q2.2.2.2 3 (by decide), q2.2.2.2 4 (by decide)]
      exact f
    have hku : ∀ s, s < ns c → k s < 64 ∧ u.2.2.1 6 s = nI (k s) := fun s hs => ⟨(hk s hs).1, by rw [q2.2.2.1 6 (by decide)]; exact (hk s hs).2⟩
    have hki := hku i hi
    have hKi := hK i hi
    obtain ⟨r1, r2, r3⟩ := rfn_ok (c := c) (k := k) i
    refine Or.inr ⟨(bI (ax (fun s => !decide (rfn c k s = k s)) (i + 1)), sa u 7 i (nI (rfn c k i))), ⟨rfl, q2.a (by decide), fun s hs => ?_⟩, ?_⟩
    · show upd (u.2.2.1 7) i _ s = _
      rcases Nat.lt_or_ge s i with q | q
      · rw [u_n (by omega)]; exact q3 s q
      · have : s = i := by omega
        subst this; exact u_s
    · show X2_refineClasses_4 N _ (n + 1) _ _ _ = X2_refineClasses_4 N _ n _ _ _
      simp (disch := omega) only [X2_refineClasses_4, X2_refineClasses_4b, hu.2.2.2.1, hki.2, fa_lit, nI_leI, nI_ltI, nI_eq, nI_add, pk_mul, nI_clamp, bd, nm, gd_in, gd_bI, gd_b0, gd_b1, if_pos, if_neg, bI_n0, bI_n1, reduceIte, reduceCtorEq, Nat.add_zero]
      have fin : ∀ m t, rfn c k i ≤ t → X2_refineClasses_42 N (fun v1 v2 v3 v4 σ => X2_refineClasses_92 (fun v1 v2 σ => X2_refineClasses_4 N (fun v1 σ => X2_refineClasses_122 v1 σ) n v1 v2 σ) v1 v2 v3 v4 σ) (bI (ax (fun s => !decide (rfn c k s = k s)) i)) (nI i) (nI (k i)) (m + 1) (nI (rfn c k i)) (nI t) u = X2_refineClasses_4 N (fun v1 σ => X2_refineClasses_122 v1 σ) n (bI (ax (fun s => !decide (rfn c k s = k s)) (i + 1))) (nI (i + 1)) (sa u 7 i (nI (rfn c k i))) ∨ 2147483648 ≤ t := by
        intro m t ht'
        rcases Nat.lt_or_ge t 2147483648 with q | q
        · refine Or.inl ?_
          rw [ax]
          cases e : ax (fun s => !decide (rfn c k s = k s)) i
          · rcases Classical.em (rfn c k i = k i) with z | z
            · rw [decide_eq_true z, z]
              rw [z] at ht'
              simp (disch := omega) only [X2_refineClasses_42, X2_refineClasses_42b, X2_refineClasses_92, fa_lit, nI_leI, nI_ltI, nI_eq, nI_add, pk_mul, nI_clamp, bd, nm, gd_in, gd_bI, gd_b0, gd_b1, if_pos, if_neg, bI_n0, bI_n1, reduceIte, reduceCtorEq, Nat.add_zero]
              rfl
            · rw [decide_eq_false z]
              have z' : ¬ nI (rfn c k i) = nI (k i) := mt (nI_d (by omega) hki.1).mp z
              simp (disch := omega) only [X2_refineClasses_42, X2_refineClasses_42b, X2_refineClasses_92, z', fa_lit, nI_leI, nI_ltI, nI_eq, nI_add, pk_mul, nI_clamp, bd, nm, gd_in, gd_bI, gd_b0, gd_b1, if_pos, if_neg, bI_n0, bI_n1, reduceIte, reduceCtorEq, Nat.add_zero]
              rfl
          · simp (disch := omega) only [X2_refineClasses_42, X2_refineClasses_42b, X2_refineClasses_92, fa_lit, nI_leI, nI_ltI, nI_eq, nI_add, pk_mul, nI_clamp, bd, nm, gd_in, gd_bI, gd_b0, gd_b1, if_pos, if_neg, bI_n0, bI_n1, reduceIte, reduceCtorEq, Nat.add_zero]
            rfl
        · exact Or.inr q
      refine wf (fun m t a => X2_refineClasses_42 N (fun v1 v2 v3 v4 σ => X2_refineClasses_92 (fun v1 v2 σ => X2_refineClasses_4 N (fun v1 σ => X2_refineClasses_122 v1 σ) n v1 v2 σ) v1 v2 v3 v4 σ) (bI (ax (fun s => !decide (rfn c k s = k s)) i)) (nI i) (nI (k i)) m (nI a) (nI t) u) i (fun t a => k i ≤ t ∧ ((a = i ∧ ∀ q, k i ≤ q → q < t → rfn c k i ≠ q) ∨ (a = rfn c k i ∧ rfn c k i < t))) (fun r => r = X2_refineClasses_4 N (fun v1 σ => X2_refineClasses_122 v1 σ) n (bI (ax (fun s => !decide (rfn c k s = k s)) (i + 1))) (nI (i + 1)) (sa u 7 i (nI (rfn c k i)))) ?_ ?_ N (k i) i hKi.1 ⟨Nat.le_refl _, Or.inl ⟨rfl, fun q z1 z2 => by omega⟩⟩ (by omega)
      · rintro m t a ht' ⟨g1, (⟨rfl, g2⟩ | ⟨rfl, g2⟩)⟩
        · refine Or.inr ?_
          show ∃ a', _ ∧ X2_refineClasses_42 N _ _ _ _ (m + 1) _ _ _ = X2_refineClasses_42 N _ _ _ _ m _ _ _
          have e7 := q3 t ht'
          have e6 := (hku t (by omega)).2
          have hga := X2_goesAlike_ok hN hu fu hku hi (show t < ns c by omega)
          have hrt := (rfn_ok (c := c) (k := k) t).1
          rcases Classical.em (rfn c k t = t) with y1 | y1
          · rw [y1] at e7
            rcases Classical.em (k t = k a) with y2 | y2
            · rw [y2] at e6
              cases y3 : ax (fun v => !decide (k (nx c a v) = k (nx c t v))) (nv c)
              · have hal : alk c k a t = true := by unfold alk; rw [y2, y3]; simp
                have hrt' : rfn c k a = t := by rw [← rfn_rep hal, y1]
                refine ⟨rfn c k a, ⟨by omega, Or.inr ⟨rfl, by omega⟩⟩, ?_⟩
                rw [hrt']
                simp (disch := omega) only [X2_refineClasses_42, X2_refineClasses_42b, e7, e6, hga, y3, Bool.not_false, fa_lit, nI_leI, nI_ltI, nI_eq, nI_add, pk_mul, nI_clamp, bd, nm, gd_in, gd_bI, gd_b0, gd_b1, if_pos, if_neg, bI_n0, bI_n1, reduceIte, reduceCtorEq, Nat.add_zero]
              · refine ⟨a, ⟨by omega, Or.inl ⟨rfl, fun q z1 z2 => ?_⟩⟩, ?_⟩
                · rcases Nat.lt_or_ge q t with z | z
                  · exact g2 q z1 z
                  · have : q = t := by omega
                    subst this
                    intro z3
                    rw [z3] at r2
                    unfold alk at r2
                    rw [y3] at r2
                    simp at r2
                · simp (disch := omega) only [X2_refineClasses_42, X2_refineClasses_42b, e7, e6, hga, y3, Bool.not_true, fa_lit, nI_leI, nI_ltI, nI_eq, nI_add, pk_mul, nI_clamp, bd, nm, gd_in, gd_bI, gd_b0, gd_b1, if_pos, if_neg, bI_n0, bI_n1, reduceIte, reduceCtorEq, Nat.add_zero]
            · refine ⟨a, ⟨by omega, Or.inl ⟨rfl, fun q z1 z2 => ?_⟩⟩, ?_⟩
              · rcases Nat.lt_or_ge q t with z | z
                · exact g2 q z1 z
                · have : q = t := by omega
                  subst this
                  intro z3
                  rw [z3] at r2
                  exact y2 (alk_i.mp r2).1.symm
              · have y2' : ¬ nI (k t) = nI (k a) := mt (nI_d (hku t (by omega)).1 hki.1).mp y2
                simp (disch := omega) only [X2_refineClasses_42, X2_refineClasses_42b, e7, e6, y2', fa_lit, nI_leI, nI_ltI, nI_eq, nI_add, pk_mul, nI_clamp, bd, nm, gd_in, gd_bI, gd_b0, gd_b1, if_pos, if_neg, bI_n0, bI_n1, reduceIte, reduceCtorEq, Nat.add_zero]
          · refine ⟨a, ⟨by omega, Or.inl ⟨rfl, fun q z1 z2 => ?_⟩⟩, ?_⟩
            · rcases Nat.lt_or_ge q t with z | z
              · exact g2 q z1 z
              · have : q = t := by omega
                subst this
                intro z3
                rw [← z3] at y1
                exact y1 (rfn_id a)
            · have y1' : ¬ nI (rfn c k t) = nI t := mt (nI_d (by omega) (by omega)).mp y1
              simp (disch := omega) only [X2_refineClasses_42, X2_refineClasses_42b, e7, y1', fa_lit, nI_leI, nI_ltI, nI_eq, nI_add, pk_mul, nI_clamp, bd, nm, gd_in, gd_bI, gd_b0, gd_b1, if_pos, if_neg, bI_n0, bI_n1, reduceIte, reduceCtorEq, Nat.add_zero]
        · exact Or.inl ((fin m t (by omega)).elim id (fun z => absurd z (by omega)))
      · rintro m a ⟨g1, (⟨rfl, g2⟩ | ⟨rfl, g2⟩)⟩
        · have e : rfn c k a = a := by
            rcases Nat.lt_or_ge (rfn c k a) a with z | z
            · refine absurd rfl (g2 (rfn c k a) ?_ z)
              rw [(alk_i.mp r2).1]
              exact (hK _ (by omega)).1
            · omega
          have := (fin m a (by omega)).elim id (fun z => absurd z (by omega))
          rw [e] at this ⊢
          exact this
        · exact (fin m i (by omega)).elim id (fun z => absurd z (by omega))
  · rintro n ⟨a, u⟩ ⟨q1, q2, q3⟩
    dsimp only at q1 q2 q3
    subst q1
    have hu := h.fr q2 (by decide)
    refine ⟨sA u 6 (va_cpy (u.2.2.1 7) (u.2.2.1 6) 0 0 64), ?_, (q2.mo (by decide)).A (by decide), fun s hs => ?_⟩
    · show X2_refineClasses_4 N _ (n + 1) _ _ _ = _
      simp (disch := omega) only [X2_refineClasses_4, X2_refineClasses_4b, hu.2.2.2.1, X2_refineClasses_122, fa_lit, nI_leI, nI_ltI, nI_eq, nI_add, pk_mul, nI_clamp, bd, nm, gd_in, gd_bI, gd_b0, gd_b1, if_pos, if_neg, bI_n0, bI_n1, reduceIte, reduceCtorEq, Nat.add_zero]
    · show va_cpy (u.2.2.1 7) (u.2.2.1 6) 0 0 64 s = _
      rw [pk_cpy_in (by omega) (by omega), Nat.zero_add, Nat.sub_zero]
      exact q3 s hs
end CLS
