/-! b0: an obligation is handled alike -/
def RP (c : Ck) (k n : Nat) (m w l : Nat → Nat) (O : Nat → Int64) (σ τ : St) : Prop := CM c τ ∧ CS c σ ∧ k ≤ 67 ∧ n ≤ 729 ∧ (σ.1 16 = nI k ∧ τ.1 11 = nI k) ∧ (σ.1 23 = nI n ∧ τ.1 12 = nI n) ∧ CLs c n m w l σ ∧ CLm c n m w l τ ∧ (∀ L, L ≤ k → σ.2.2.2 5 L = frm c n m w l L) ∧ (∀ L, L < 70 → σ.2.2.2 6 L = O L ∧ τ.2.2.2 3 L = O L) ∧ (σ.1 17 = τ.1 13 ∧ σ.1 18 = τ.1 14 ∧ σ.1 19 = τ.1 15 ∧ σ.1 20 = τ.1 16)
def OI (c : Ck) (k : Nat) (O : Nat → Int64) : Prop := (∀ L, k < L → O L = 0) ∧ (∀ s, ht (O 0) s = true → ht c.2.2.2.1 s = true) ∧ ∀ L s, ht (O L) s = true → s < ns c
section PDR3
variable {c : Ck} {σ τ σ' τ' : St} {N k n n' : Nat} {m w l m' w' l' : Nat → Nat} {kp : Nat → Bool} {O O' : Nat → Int64} {x : Int64} {L s M t : Nat}
theorem RP.h (h : RP c k n m w l O σ τ) : RP c k n m w l O (si σ 17 (σ.1 17 + 1)) (si τ 13 (τ.1 13 + 1)) := by
  obtain ⟨a1, a2, a3, a4, a5, a6, a7, a8, a9, a10, a11⟩ := h
  have f : FR [17] [] [] [] σ (si σ 17 (σ.1 17 + 1)) := FR.rf.i (by decide)
  have g : FR [13] [] [] [] τ (si τ 13 (τ.1 13 + 1)) := FR.rf.i (by decide)
  refine ⟨a1.fr g (by decide), a2.fr f (by decide), a3, a4, a5, a6, a7.fr f (by decide), a8.fr g (by decide), a9, a10, ?_, a11.2⟩
  rw [si_s, si_s, a11.1]
theorem RP.o (h : RP c k n m w l O σ τ) (f : FR [] [] [] [6] σ σ') (g : FR [] [] [] [3] τ τ') (e : ∀ L, L < 70 → σ'.2.2.2 6 L = O' L ∧ τ'.2.2.2 3 L = O' L) : RP c k n m w l O' σ' τ' := by
  obtain ⟨a1, a2, a3, a4, a5, a6, a7, a8, a9, a10, a11⟩ := h
  refine ⟨a1.fr g (by decide), a2.fr f (by decide), a3, a4, ?_, ?_, a7.fr f (by decide), a8.fr g (by decide), ?_, e, ?_⟩
  · rw [f.1 16 (by decide), g.1 11 (by decide)]; exact a5
  · rw [f.1 23 (by decide), g.1 12 (by decide)]; exact a6
  · rw [f.2.2.2 5 (by decide)]; exact a9
  · rw [f.1 17 (by decide), f.1 18 (by decide), f.1 19 (by decide), f.1 20 (by decide), g.1 13 (by decide), g.1 14 (by decide), g.1 15 (by decide), g.1 16 (by decide)]; exact a11
theorem RP.cb (h : RP c k n m w l O σ τ) (f : FR [18, 19, 23] [] [9, 10, 11] [5, 9] σ σ') (g : FR [12, 14, 15] [] [6, 7, 8] [] τ τ') (hn : n' ≤ 729) (h23 : σ'.1 23 = nI n') (h12 : τ'.1 12 = nI n') (hs : CLs c n' m' w' l' σ') (hm : CLm c n' m' w' l' τ') (hf : ∀ L, L ≤ k → σ'.2.2.2 5 L = frm c n' m' w' l' L) (e1 : σ'.1 18 = τ'.1 14) (e2 : σ'.1 19 = τ'.1 15) : RP c k n' m' w' l' O σ' τ' := by
  obtain ⟨a1, a2, a3, a4, a5, a6, a7, a8, a9, a10, a11⟩ := h
  refine ⟨a1.fr g (by decide), a2.fr f (by decide), a3, hn, ?_, ⟨h23, h12⟩, hs, hm, hf, ?_, ?_, e1, e2, ?_⟩
  · rw [f.1 16 (by decide), g.1 11 (by decide)]; exact a5
  · rw [f.2.2.2 6 (by decide), g.2.2.2 3 (by decide)]; exact a10
  · rw [f.1 17 (by decide), g.1 13 (by decide)]; exact a11.1
  · rw [f.1 20 (by decide), g.1 16 (by decide)]; exact a11.2.2.2
theorem X7_add2_ok (hN : 4000000 ≤ N) (h : CM c τ) (hl : CLm c n m w l τ) (hn : n ≤ 729) (h12 : τ.1 12 = nI n) (ht' : t ≤ 67) (hM : M < ns c) (hs : s < 64) : ∃ τ', X7_addCube_46 N (nI s) (nI M) x (nI t) τ = some τ' ∧ FR [12, 14] [] [6, 7, 8] [] τ τ' ∧ τ'.1 12 = nI ((dri (kpB c m w l t x) n).1 + 1) ∧ τ'.1 14 = τ.1 14 + 1 ∧ CLm c ((dri (kpB c m w l t x) n).1 + 1) (nwF m (dri (kpB c m w l t x) n).2 (dri (kpB c m w l t x) n).1 M) (nwF w (dri (kpB c m w l t x) n).2 (dri (kpB c m w l t x) n).1 (s &&& M)) (nwF l (dri (kpB c m w l t x) n).2 (dri (kpB c m w l t x) n).1 t) τ' := by
  obtain ⟨u, a1, a2, a3, a4⟩ := X7_dropCubes_ok hN h hl (by omega) h12 (t := t) (x := x) (by omega)
  obtain ⟨d1, d2, _, _⟩ := dri_ok (kpB c m w l t x) n
  generalize dri (kpB c m w l t x) n = d at a3 a4 d1 d2
  have a2' : FR [12, 14] [] [6, 7, 8] [] τ u := a2.mo (by decide)
  refine ⟨si (si (sa (sa (sa u 6 d.1 (nI M)) 7 d.1 (nI (s &&& M))) 8 d.1 (nI t)) 12 (nI (d.1 + 1))) 14 (u.1 14 + nI 1), ?_, ((((a2'.a (by decide)).a (by decide)).a (by decide)).i (by decide)).i (by decide), ?_, ?_, ?_⟩
  · simp (disch := omega) only [X7_addCube_46, a1, a3, sa_i, si_s, si_n, fa_and, fa_lit, nI_leI, nI_ltI, nI_eq, nI_add, pk_mul, nI_clamp, bd, nm, gd_in, gd_bI, gd_b0, gd_b1, if_pos, if_neg, bI_n0, bI_n1, reduceIte, reduceCtorEq, Nat.add_zero]
  · rw [si_n (by decide), si_s]
  · rw [si_s, a2.1 14 (by decide)]; rfl
  · intro j hj
    rw [si_a, si_a, sa_n (k := 8) (q := 6) (by decide), sa_n (k := 7) (q := 6) (by decide), sa_s, sa_n (k := 8) (q := 7) (by decide), sa_s, sa_n (k := 6) (q := 7) (by decide), sa_s, sa_n (k := 7) (q := 8) (by decide), sa_n (k := 6) (q := 8) (by decide)]
    by_cases y : j = d.1
    · subst y
      rw [u_s, u_s, u_s, nwF_s, nwF_s, nwF_s]
      refine ⟨⟨hM, Nat.lt_of_le_of_lt Nat.and_le_left hs, ?_, ht'⟩, rfl, rfl, rfl⟩
      rw [Nat.and_assoc, Nat.and_self]
    · rw [u_n y, u_n y, u_n y, nwF_n y, nwF_n y, nwF_n y]
      exact ⟨(hl _ (d2 j (by omega)).1).1, a4 j (by omega)⟩
theorem X4_frames_ok (hN : 4000000 ≤ N) (ht' : t ≤ 67) : ∃ σ', X4_addCube_92 (fun σ => X4_addCube_128 σ) (nI t) x N (nI 1) σ = some σ' ∧ FR [] [] [] [5] σ σ' ∧ ∀ L, L < 70 → σ'.2.2.2 5 L = if 1 ≤ L ∧ L ≤ t then σ.2.2.2 5 L &&& (x ^^^ (-1)) else σ.2.2.2 5 L := by
  refine wf (fun f i u => X4_addCube_92 (fun σ => X4_addCube_128 σ) (nI t) x f (nI i) u) (t + 1) (fun i u => 1 ≤ i ∧ FR [] [] [] [5] σ u ∧ ∀ L, L < 70 → u.2.2.2 5 L = if 1 ≤ L ∧ L < i then σ.2.2.2 5 L &&& (x ^^^ (-1)) else σ.2.2.2 5 L) (fun r => ∃ σ', r = some σ' ∧ FR [] [] [] [5] σ σ' ∧ ∀ L, L < 70 → σ'.2.2.2 5 L = if 1 ≤ L ∧ L ≤ t then σ.2.2.2 5 L &&& (x ^^^ (-1)) else σ.2.2.2 5 L) ?_ ?_ N 1 σ (by omega) ⟨Nat.le_refl _, FR.rf, fun L _ => by rw [if_neg (by omega)]⟩ (by omega)
  · rintro f i u hi ⟨q0, q1, q2⟩
    refine Or.inr ⟨sb u 5 i (u.2.2.2 5 i &&& (x ^^^ (-1))), ⟨by omega, q1.b (by decide), fun L hL => ?_⟩, ?_⟩
    · rw [sb_s]
      by_cases y : L = i
      · subst y
        rw [v_s, if_pos (by omega), q2 L hL, if_neg (by omega)]
      · rw [v_n y, q2 L hL]
        by_cases z : 1 ≤ L ∧ L < i
        · rw [if_pos z, if_pos (by omega)]
        · rw [if_neg z, if_neg (by omega)]
    · show X4_addCube_92 _ _ _ (f + 1) _ _ = X4_addCube_92 _ _ _ f _ _
      simp (disch := omega) only [X4_addCube_92, X4_addCube_92b, fa_lit, nI_leI, nI_ltI, nI_eq, nI_add, pk_mul, nI_clamp, bd, nm, gd_in, gd_bI, gd_b0, gd_b1, if_pos, if_neg, bI_n0, bI_n1, reduceIte, reduceCtorEq, Nat.add_zero]
  · rintro f u ⟨q0, q1, q2⟩
    refine ⟨u, ?_, q1, fun L hL => ?_⟩
    · show X4_addCube_92 _ _ _ (f + 1) _ _ = _
      simp (disch := omega) only [X4_addCube_92, X4_addCube_92b, X4_addCube_128, fa_lit, nI_leI, nI_ltI, nI_eq, nI_add, pk_mul, nI_clamp, bd, nm, gd_in, gd_bI, gd_b0, gd_b1, if_pos, if_neg, bI_n0, bI_n1, reduceIte, reduceCtorEq, Nat.add_zero]
    · rw [q2 L hL]
      by_cases z : 1 ≤ L ∧ L ≤ t
      · rw [if_pos z, if_pos (by omega)]
      · rw [if_neg z, if_neg (by omega)]
theorem X4_add2_ok (hN : 4000000 ≤ N) (h : CS c σ) (hl : CLs c n m w l σ) (hn : n ≤ 729) (h23 : σ.1 23 = nI n) (ht' : t ≤ 67) (hM : M < ns c) (hs : s < 64) (hx : x = cu c M (s &&& M)) (hd : (dri (kpB c m w l t x) n).1 < 729) : ∃ σ', X4_addCube_42 N (nI M) (nI s) (nI t) σ = some σ' ∧ FR [18, 23] [] [9, 10, 11] [5, 9] σ σ' ∧ σ'.1 23 = nI ((dri (kpB c m w l t x) n).1 + 1) ∧ σ'.1 18 = σ.1 18 + 1 ∧ CLs c ((dri (kpB c m w l t x) n).1 + 1) (nwF m (dri (kpB c m w l t x) n).2 (dri (kpB c m w l t x) n).1 M) (nwF w (dri (kpB c m w l t x) n).2 (dri (kpB c m w l t x) n).1 (s &&& M)) (nwF l (dri (kpB c m w l t x) n).2 (dri (kpB c m w l t x) n).1 t) σ' ∧ ∀ L, L < 70 → σ'.2.2.2 5 L = if 1 ≤ L ∧ L ≤ t then σ.2.2.2 5 L &&& (x ^^^ (-1)) else σ.2.2.2 5 L := by
  have h64 := ns_le h.1
  have e1 := X0_statesInCube_ok hN h (m := M) (w := s) (by omega) hs
  rw [← hx] at e1
  obtain ⟨u, a1, a2, a3, a4⟩ := X1_removeCovered_ok hN hl hn h23 (t := t) (x := x) (by omega)
  obtain ⟨d1, d2, _, _⟩ := dri_ok (kpB c m w l t x) n
  generalize dri (kpB c m w l t x) n = d at a3 a4 d1 d2 hd
  have a2' : FR [18, 23] [] [9, 10, 11] [5, 9] σ u := a2.mo (by decide)
  have e2 : X1_put (nI M) (nI (s &&& M)) (nI t) x u = some (si (sb (sa (sa (sa u 9 d.1 (nI M)) 10 d.1 (nI (s &&& M))) 11 d.1 (nI t)) 9 d.1 x) 23 (nI (d.1 + 1))) := by
    simp (disch := omega) only [X1_put, a3, sa_i, sb_i, fa_lit, nI_leI, nI_ltI, nI_eq, nI_add, pk_mul, nI_clamp, bd, nm, gd_in, gd_bI, gd_b0, gd_b1, if_pos, if_neg, bI_n0, bI_n1, reduceIte, reduceCtorEq, Nat.add_zero]
  obtain ⟨v, b1, b2, b3⟩ := X4_frames_ok hN (σ := si (si (sb (sa (sa (sa u 9 d.1 (nI M)) 10 d.1 (nI (s &&& M))) 11 d.1 (nI t)) 9 d.1 x) 23 (nI (d.1 + 1))) 18 (u.1 18 + nI 1)) (x := x) ht'
  have f1 : FR [18, 23] [] [9, 10, 11] [5, 9] σ (si (si (sb (sa (sa (sa u 9 d.1 (nI M)) 10 d.1 (nI (s &&& M))) 11 d.1 (nI t)) 9 d.1 x) 23 (nI (d.1 + 1))) 18 (u.1 18 + nI 1)) := (((((a2'.a (by decide)).a (by decide)).a (by decide)).b (by decide)).i (by decide)).i (by decide)
  refine ⟨v, ?_, f1.tr (b2.mo (by decide)), ?_, ?_, ?_, fun L hL => ?_⟩
  · simp (disch := omega) only [X4_addCube_42, e1, a1, fa_and, e2, si_n, sb_i, sa_i, b1, fa_lit, nI_leI, nI_ltI, nI_eq, nI_add, pk_mul, nI_clamp, bd, nm, gd_in, gd_bI, gd_b0, gd_b1, if_pos, if_neg, bI_n0, bI_n1, reduceIte, reduceCtorEq, Nat.add_zero]
  · rw [b2.1 23 (by decide), si_n (by decide), si_s]
  · rw [b2.1 18 (by decide), si_s, a2.1 18 (by decide)]; rfl
  · intro j hj
    rw [b2.2.2.1 9 (by decide), b2.2.2.1 10 (by decide), b2.2.2.1 11 (by decide), b2.2.2.2 9 (by decide), si_a, si_a, si_b, si_b, sb_a, sb_s, sa_b, sa_b, sa_b, sa_n (k := 11) (q := 9) (by decide), sa_n (k := 10) (q := 9) (by decide), sa_s, sa_n (k := 11) (q := 10) (by decide), sa_s, sa_n (k := 9) (q := 10) (by decide), sa_s, sa_n (k := 10) (q := 11) (by decide), sa_n (k := 9) (q := 11) (by decide)]
    by_cases y : j = d.1
    · subst y
      rw [u_s, u_s, u_s, v_s, nwF_s, nwF_s, nwF_s]
      refine ⟨⟨hM, Nat.lt_of_le_of_lt Nat.and_le_left hs, ?_, ht'⟩, rfl, rfl, rfl, hx⟩
      rw [Nat.and_assoc, Nat.and_self]
    · rw [u_n y, u_n y, u_n y, v_n y, nwF_n y, nwF_n y, nwF_n y]
      exact ⟨(hl _ (d2 j (by omega)).1).1, a4 j (by omega)⟩
  · rw [b3 L hL, si_b, si_b, sb_n (by decide), sa_b, sa_b, sa_b, a2.2.2.2 5 (by decide)]
theorem X7_moveOn_ok (hk : k ≤ 67) (h11 : τ.1 11 = nI k) (ho : ∀ j, j < 70 → τ.2.2.2 3 j = O j) (hL : L ≤ k) : ∃ τ', X7_moveOn (nI s) (nI L) τ = some τ' ∧ FR [] [] [] [3] τ τ' ∧ ∀ j, j < 70 → τ'.2.2.2 3 j = mvO O k L s j := by
  have f1 : FR [] [] [] [3] τ (sb τ 3 L (τ.2.2.2 3 L &&& (sg s ^^^ (-1)))) := FR.rf.b (by decide)
  rcases Nat.lt_or_ge L k with z | z
  · refine ⟨sb (sb τ 3 L (τ.2.2.2 3 L &&& (sg s ^^^ (-1)))) 3 (L + 1) ((sb τ 3 L (τ.2.2.2 3 L &&& (sg s ^^^ (-1)))).2.2.2 3 (L + 1) ||| sg s), ?_, f1.b (by decide), fun j hj => ?_⟩
    · unfold sg
      simp (disch := omega) only [X7_moveOn, sb_i, h11, X7_moveOn_40, fa_lit, nI_leI, nI_ltI, nI_eq, nI_add, pk_mul, nI_clamp, bd, nm, gd_in, gd_bI, gd_b0, gd_b1, if_pos, if_neg, bI_n0, bI_n1, reduceIte, reduceCtorEq, Nat.add_zero]
    · rw [sb_s, sb_s]
      unfold mvO
      by_cases y : j = L + 1
      · rw [if_neg (by omega), if_pos ⟨y, z⟩, y, v_s, v_n (by omega), ho _ (by omega)]
      · rw [v_n y, if_neg (show ¬ (j = L + 1 ∧ L < k) from fun q => y q.1)]
        by_cases y2 : j = L
        · rw [if_pos y2, y2, v_s, ho _ (by omega)]
        · rw [if_neg y2, v_n y2, ho _ hj]
  · refine ⟨sb (sb τ 3 L (τ.2.2.2 3 L &&& (sg s ^^^ (-1)))) 3 (L + 1) ((sb τ 3 L (τ.2.2.2 3 L &&& (sg s ^^^ (-1)))).2.2.2 3 (L + 1) ||| 0), ?_, f1.b (by decide), fun j hj => ?_⟩
    · unfold sg
      simp (disch := omega) only [X7_moveOn, sb_i, h11, X7_moveOn_40, fa_lit, nI_leI, nI_ltI, nI_eq, nI_add, pk_mul, nI_clamp, bd, nm, gd_in, gd_bI, gd_b0, gd_b1, if_pos, if_neg, bI_n0, bI_n1, reduceIte, reduceCtorEq, Nat.add_zero]
    · rw [sb_s, sb_s]
      unfold mvO
      have o0 : ∀ y : Int64, y ||| 0 = y := fun y => h_ext (fun i _ => by rw [h_or, h_0, Bool.or_false])
      rw [if_neg (show ¬ (j = L + 1 ∧ L < k) from fun q => by omega), o0]
      by_cases y : j = L + 1
      · rw [if_neg (by omega), y, v_s, v_n (by omega), ho _ (by omega)]
      · rw [v_n y]
        by_cases y2 : j = L
        · rw [if_pos y2, y2, v_s, ho _ (by omega)]
        · rw [if_neg y2, v_n y2, ho _ hj]
theorem X4_moveUp_ok (hk : k ≤ 67) (h16 : σ.1 16 = nI k) (ho : ∀ j, j < 70 → σ.2.2.2 6 j = O j) (hL : L ≤ k) : ∃ σ', X4_moveUp (nI s) (nI L) σ = some σ' ∧ FR [] [] [] [6] σ σ' ∧ ∀ j, j < 70 → σ'.2.2.2 6 j = mvO O k L s j := by
  have f1 : FR [] [] [] [6] σ (sb σ 6 L (σ.2.2.2 6 L &&& (sg s ^^^ (-1)))) := FR.rf.b (by decide)
  rcases Nat.lt_or_ge L k with z | z
  · refine ⟨sb (sb σ 6 L (σ.2.2.2 6 L &&& (sg s ^^^ (-1)))) 6 (L + 1) ((sb σ 6 L (σ.2.2.2 6 L &&& (sg s ^^^ (-1)))).2.2.2 6 (L + 1) ||| sg s), ?_, f1.b (by decide), fun j hj => ?_⟩
    · unfold sg
      simp (disch := omega) only [X4_moveUp, sb_i, h16, X4_moveUp_26, X4_oblige, fa_lit, nI_leI, nI_ltI, nI_eq, nI_add, pk_mul, nI_clamp, bd, nm, gd_in, gd_bI, gd_b0, gd_b1, if_pos, if_neg, bI_n0, bI_n1, reduceIte, reduceCtorEq, Nat.add_zero]
    · rw [sb_s, sb_s]
      unfold mvO
      by_cases y : j = L + 1
      · rw [if_neg (by omega), if_pos ⟨y, z⟩, y, v_s, v_n (by omega), ho _ (by omega)]
      · rw [v_n y, if_neg (show ¬ (j = L + 1 ∧ L < k) from fun q => y q.1)]
        by_cases y2 : j = L
        · rw [if_pos y2, y2, v_s, ho _ (by omega)]
        · rw [if_neg y2, v_n y2, ho _ hj]
  · refine ⟨sb σ 6 L (σ.2.2.2 6 L &&& (sg s ^^^ (-1))), ?_, f1, fun j hj => ?_⟩
    · unfold sg
      simp (disch := omega) only [X4_moveUp, sb_i, h16, X4_moveUp_26, fa_lit, nI_leI, nI_ltI, nI_eq, nI_add, pk_mul, nI_clamp, bd, nm, gd_in, gd_bI, gd_b0, gd_b1, if_pos, if_neg, bI_n0, bI_n1, reduceIte, reduceCtorEq, Nat.add_zero]
    · rw [sb_s]
      unfold mvO
      rw [if_neg (show ¬ (j = L + 1 ∧ L < k) from fun q => by omega)]
      by_cases y2 : j = L
      · rw [if_pos y2, y2, v_s, ho _ (by omega)]
      · rw [if_neg y2, v_n y2, ho _ hj]
theorem move_ok (hr : RP c k n m w l O σ τ) (hL : L ≤ k) : ∃ σ' τ', X4_moveUp (nI s) (nI L) σ = some σ' ∧ X7_moveOn (nI s) (nI L) τ = some τ' ∧ FR [] [] [] [6] σ σ' ∧ FR [] [] [] [3] τ τ' ∧ RP c k n m w l (mvO O k L s) σ' τ' := by
  have hr' := hr
  obtain ⟨a1, a2, a3, a4, a5, a6, a7, a8, a9, a10, a11⟩ := hr
  obtain ⟨σ', b1, b2, b3⟩ := X4_moveUp_ok (s := s) a3 a5.1 (fun j hj => (a10 j hj).1) hL
  obtain ⟨τ', d1, d2, d3⟩ := X7_moveOn_ok (s := s) a3 a5.2 (fun j hj => (a10 j hj).2) hL
  exact ⟨σ', τ', b1, d1, b2, d2, hr'.o b2 d2 (fun j hj => ⟨b3 j hj, d3 j hj⟩)⟩
theorem OI_mv (ho : OI c k O) (hs : s < ns c) (h64 : ns c ≤ 64) (hL1 : 1 ≤ L) (hL : L ≤ k) : OI c k (mvO O k L s) := by
  obtain ⟨o1, o2, o3⟩ := ho
  refine ⟨fun j hj => ?_, fun u hu => ?_, fun j u hu => ?_⟩
  · unfold mvO
    rw [if_neg (by omega), if_neg (by omega)]
    exact o1 j hj
  · unfold mvO at hu
    rw [if_neg (by omega), if_neg (by omega)] at hu
    exact o2 u hu
  · unfold mvO at hu
    by_cases y : j = L
    · rw [if_pos y, h_and, Bool.and_eq_true] at hu
      exact o3 L u hu.1
    · rw [if_neg y] at hu
      by_cases y2 : j = L + 1 ∧ L < k
      · rw [if_pos y2, h_or, Bool.or_eq_true, h_sg (by omega), decide_eq_true_eq] at hu
        rcases hu with z | z
        · exact o3 _ u z
        · omega
      · rw [if_neg y2] at hu
        exact o3 j u hu
theorem OI_ad (ho : OI c k O) (hs : s < ns c) (h64 : ns c ≤ 64) (hL : L ≤ k) (h0 : L = 0 → ht c.2.2.2.1 s = true) : OI c k (adO O L s) := by
  obtain ⟨o1, o2, o3⟩ := ho
  refine ⟨fun j hj => ?_, fun u hu => ?_, fun j u hu => ?_⟩
  · unfold adO
    rw [if_neg (by omega)]
    exact o1 j hj
  · unfold adO at hu
    by_cases y : 0 = L
    · rw [if_pos y, ← y, h_or, Bool.or_eq_true, h_sg (by omega), decide_eq_true_eq] at hu
      rcases hu with z | z
      · exact o2 u z
      · rw [z]; exact h0 y.symm
    · rw [if_neg y] at hu
      exact o2 u hu
  · unfold adO at hu
    by_cases y : j = L
    · rw [if_pos y, h_or, Bool.or_eq_true, h_sg (by omega), decide_eq_true_eq] at hu
      rcases hu with z | z
      · exact o3 _ u z
      · omega
    · rw [if_neg y] at hu
      exact o3 j u hu
theorem ad_ok (hr : RP c k n m w l O σ τ) (hL : L ≤ k) : RP c k n m w l (adO O L s) (sb σ 6 L (σ.2.2.2 6 L ||| sg s)) (sb τ 3 L (τ.2.2.2 3 L ||| sg s)) := by
  have h3 := hr.2.2.1
  have h10 := hr.2.2.2.2.2.2.2.2.2.1
  refine hr.o (FR.rf.b (by decide)) (FR.rf.b (by decide)) (fun j hj => ?_)
  rw [sb_s, sb_s]
  unfold adO
  by_cases y : j = L
  · subst y
    rw [if_pos rfl, v_s, v_s, (h10 j hj).1, (h10 j hj).2]
    exact ⟨rfl, rfl⟩
  · rw [if_neg y, v_n y, v_n y]
    exact h10 j hj
/-- the new cube, in both -/
theorem add_ok (hN : 4000000 ≤ N) (hr : RP c k n m w l O σ τ) (hp : PI c k n m w l) (hL1 : 1 ≤ L) (hL : L ≤ k) (hs : s < ns c) (hi : ht c.2.2.2.1 s = false) (hsf : ht (frm c n m w l L) s = true) (hb : blk c (sg s) (frm c n m w l (L - 1))) : ∃ M σ1 σ2 τ2 n' m' w' l', X4_generalize N (nI s) (nI L) σ = some (nI M, σ1) ∧ X4_addCube N (nI M) (nI s) (nI L) σ1 = some σ2 ∧ X7_addCube N (nI s) (nI L) τ = some τ2 ∧ FR [18, 19, 23] [] [9, 10, 11] [5, 9] σ σ2 ∧ FR [12, 14, 15] [] [6, 7, 8] [] τ τ2 ∧ RP c k n' m' w' l' O σ2 τ2 ∧ PI c k n' m' w' l' ∧ (∀ j, sbs (frm c n' m' w' l' j) (frm c n m w l j)) ∧ ht (frm c n' m' w' l' L) s = false := by
  have hr' := hr
  obtain ⟨a1, a2, a3, a4, a5, a6, a7, a8, a9, a10, a11⟩ := hr
  have h64 := ns_le a1.1
  obtain ⟨σ1, b1, b2, b3⟩ := X4_generalize_ok hN a2 hL1 (by omega) (a9 (L - 1) (by omega)) (s := s) (by omega)
  obtain ⟨τ1, d1, d2, d3⟩ := X7_generalized_ok hN a1 a8 (by omega) a6.2 hL1 (by omega) (s := s) (by omega)
  obtain ⟨g1, g2, g3⟩ := gmk_ok a1.1 hs hi hb c.1
  generalize hM : (gmk c s (frm c n m w l (L - 1)) c.1).1 = M at b1 d1 g1 g2 g3
  have gi : ∀ u, ht (cu c M (s &&& M)) u = true → ht c.2.2.2.1 u = false := an_z.mp g2
  have sx : ht (cu c M (s &&& M)) s = true := (h_cu a1.1).mpr ⟨hs, rfl⟩
  obtain ⟨t1, t2, t3, t4⟩ := tol_ok (c := c) (n := n) (m := m) (w := w) (l := l) (x := cu c M (s &&& M)) hL
  have a2' := a2.fr b2 (by decide)
  have a1' := a1.fr d2 (by decide)
  have x1 := X4_lvl_ok hN a2' (n := n) (m := m) (w := w) (l := l) (fun j hj => by rw [b2.2.2.2 5 (by decide)]; exact a9 j hj) ((b2.1 16 (by decide)).trans a5.1) a3 hL g1 (s := s) (by omega)
  have x2 := X7_lvl_ok hN a1' (a8.fr d2 (by decide)) (by omega) ((d2.1 12 (by decide)).trans a6.2) ((d2.1 11 (by decide)).trans a5.2) a3 hL (x := cu c M (s &&& M)) (nI s) (nI M)
  generalize tol c n m w l (cu c M (s &&& M)) k L = t at t1 t2 t3 t4 x1 x2
  have hwm : s &&& M &&& M = s &&& M := by rw [Nat.and_assoc, Nat.and_self]
  have hw64 : s &&& M < 64 := Nat.lt_of_le_of_lt Nat.and_le_left (by omega)
  have hpn := PI_new a1.1 hp (kp := kpB c m w l t (cu c M (s &&& M))) (fun i _ => kpB_iff) g1 hw64 hwm gi hL1 t1 t2 (fun u hu1 hu2 => by
    rcases Nat.lt_or_ge u L with z | z
    · have : u = L - 1 := by omega
      rw [this]; exact g3
    · exact bkB_i.mp (t3 u z hu2)) sx hsf
  have hn' := n729 a1.1 (fun i hi => (hpn.1 i hi).2.1) hpn.2
  obtain ⟨σ2, e1, e2, e3, e4, e5, e6⟩ := X4_add2_ok hN a2' (a7.fr b2 (by decide)) a4 ((b2.1 23 (by decide)).trans a6.1) (t := t) (by omega) g1 (s := s) (by omega) rfl (by omega)
  obtain ⟨τ2, k1, k2, k3, k4, k5⟩ := X7_add2_ok hN a1' (a8.fr d2 (by decide)) a4 ((d2.1 12 (by decide)).trans a6.2) (t := t) (by omega) g1 (s := s) (by omega) (x := cu c M (s &&& M))
  have hkp : ∀ i, i < n → kpB c m w l t (cu c M (s &&& M)) i = false → l i ≤ t ∧ sbs (cu c (m i) (w i)) (cu c M (s &&& M)) := fun i _ e => kpB_iff.mp e
  have hf : ∀ j, 1 ≤ j → frm c ((dri (kpB c m w l t (cu c M (s &&& M))) n).1 + 1) (nwF m (dri (kpB c m w l t (cu c M (s &&& M))) n).2 (dri (kpB c m w l t (cu c M (s &&& M))) n).1 M) (nwF w (dri (kpB c m w l t (cu c M (s &&& M))) n).2 (dri (kpB c m w l t (cu c M (s &&& M))) n).1 (s &&& M)) (nwF l (dri (kpB c m w l t (cu c M (s &&& M))) n).2 (dri (kpB c m w l t (cu c M (s &&& M))) n).1 t) j = if j ≤ t then frm c n m w l j &&& (cu c M (s &&& M) ^^^ (-1)) else frm c n m w l j := fun j hj => by
    apply h_ext
    intro i hi
    rw [Bool.eq_iff_iff, frm_new a1.1 hkp hj]
    by_cases z : j ≤ t
    · rw [if_pos z, h_and, h_not _ hi, Bool.and_eq_true, Bool.not_eq_true']
      exact ⟨fun q => ⟨q.1, q.2 z⟩, fun q => ⟨q.1, fun _ => q.2⟩⟩
    · rw [if_neg z]
      exact ⟨fun q => q.1, fun q => ⟨q, fun y => absurd y z⟩⟩
  have f1 : FR [18, 19, 23] [] [9, 10, 11] [5, 9] σ σ2 := (b2.mo (by decide)).tr (e2.mo (by decide))
  have f2 : FR [12, 14, 15] [] [6, 7, 8] [] τ τ2 := (d2.mo (by decide)).tr (k2.mo (by decide))
  refine ⟨M, σ1, σ2, τ2, _, _, _, _, b1, ?_, ?_, f1, f2, hr'.cb f1 f2 hn' e3 k3 e5 k5 ?_ ?_ ?_, hpn, ?_, ?_⟩
  · rw [X4_addCube, x1]; exact e1
  · have q := X7_cubeSet_ok hN a1' (m := M) hw64
    rw [X7_addCube, d1, bd, fa_and, q, bd, x2]; exact k1
  · intro j hj
    rcases Nat.lt_or_ge 0 j with z | z
    · rw [e6 j (by omega), hf j z, b2.2.2.2 5 (by decide), a9 j hj]
      by_cases y : j ≤ t
      · rw [if_pos y, if_pos ⟨by omega, y⟩]
      · rw [if_neg y, if_neg (fun q => y q.2)]
    · have : j = 0 := by omega
      subst this
      rw [e6 0 (by omega), if_neg (by omega), b2.2.2.2 5 (by decide), a9 0 (by omega)]
      rfl
  · rw [e4, k4, b2.1 18 (by decide), d2.1 14 (by decide), a11.2.1]
  · rw [e2.1 19 (by decide), k2.1 15 (by decide), b3, d3, a11.2.2.1]
  · intro j i hi'
    rcases Nat.lt_or_ge 0 j with z | z
    · exact ((frm_new a1.1 hkp z).mp hi').1
    · have : j = 0 := by omega
      subst this
      exact hi'
  · cases e : ht (frm c ((dri (kpB c m w l t (cu c M (s &&& M))) n).1 + 1) (nwF m (dri (kpB c m w l t (cu c M (s &&& M))) n).2 (dri (kpB c m w l t (cu c M (s &&& M))) n).1 M) (nwF w (dri (kpB c m w l t (cu c M (s &&& M))) n).2 (dri (kpB c m w l t (cu c M (s &&& M))) n).1 (s &&& M)) (nwF l (dri (kpB c m w l t (cu c M (s &&& M))) n).2 (dri (kpB c m w l t (cu c M (s &&& M))) n).1 t) L) s
    · rfl
    · have := ((frm_new a1.1 hkp hL1).mp e).2 t1
      rw [sx] at this; cases this
end PDR3
