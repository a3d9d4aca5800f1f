/-! b2: cubes are raised alike; the whole proof -/
def upl (l : Nat → Nat) (i J : Nat) : Nat → Nat := fun j => if j = i then J else l j
section PDR5
variable {c : Ck} {σ τ σ' τ' : St} {N k n n' : Nat} {m w l m' w' l' : Nat → Nat} {O O' : Nat → Int64} {x : Int64} {L s M t i J : Nat}
theorem upl_s : upl l i J i = J := if_pos rfl
theorem upl_n {j : Nat} (h : j ≠ i) : upl l i J j = l j := if_neg h
theorem frm_up (h : okC c) (hi : i < n) (hl : l i = J) (hL : 1 ≤ L) : frm c n m w (upl l i (J + 1)) L = if L = J + 1 then frm c n m w l L &&& (cu c (m i) (w i) ^^^ (-1)) else frm c n m w l L := by
  apply h_ext
  intro s hs
  rw [Bool.eq_iff_iff, h_frm h hL]
  by_cases z : L = J + 1
  · rw [if_pos z, h_and, h_not _ hs, Bool.and_eq_true, Bool.not_eq_true', h_frm h hL]
    constructor
    · rintro ⟨h1, h2⟩
      refine ⟨⟨h1, fun j hj hlj => ?_⟩, ?_⟩
      · by_cases y : j = i
        · subst y; omega
        · have := h2 j hj
          rw [upl_n y] at this
          exact this hlj
      · have := h2 i hi
        rw [upl_s] at this
        exact this (by omega)
    · rintro ⟨⟨h1, h2⟩, h3⟩
      refine ⟨h1, fun j hj hlj => ?_⟩
      by_cases y : j = i
      · subst y; exact h3
      · rw [upl_n y] at hlj
        exact h2 j hj hlj
  · rw [if_neg z, h_frm h hL]
    constructor
    · rintro ⟨h1, h2⟩
      refine ⟨h1, fun j hj hlj => ?_⟩
      have := h2 j hj
      by_cases y : j = i
      · subst y
        rw [upl_s] at this
        exact this (by omega)
      · rw [upl_n y] at this
        exact this hlj
    · rintro ⟨h1, h2⟩
      refine ⟨h1, fun j hj hlj => ?_⟩
      by_cases y : j = i
      · subst y
        rw [upl_s] at hlj
        exact h2 j hj (by omega)
      · rw [upl_n y] at hlj
        exact h2 j hj hlj
theorem PI_up (h : okC c) (hp : PI c k n m w l) (hi : i < n) (hl : l i = J) (hJ : J < k) (hb : bef c (cu c (m i) (w i)) &&& frm c n m w l J = 0) : PI c k n m w (upl l i (J + 1)) := by
  have sub : ∀ L', sbs (frm c n m w (upl l i (J + 1)) L') (frm c n m w l L') := fun L' s hs => by
    rcases Nat.lt_or_ge 0 L' with z | z
    · rw [frm_up h hi hl z] at hs
      by_cases y : L' = J + 1
      · rw [if_pos y, h_and, Bool.and_eq_true] at hs
        exact hs.1
      · rw [if_neg y] at hs
        exact hs
    · have : L' = 0 := by omega
      subst this
      exact hs
  refine ⟨fun j hj => ?_, hp.2⟩
  obtain ⟨x1, x2, x3, x4⟩ := hp.1 j hj
  refine ⟨?_, x2, x3, fun L' hL' => ?_⟩
  · by_cases y : j = i
    · subst y; rw [upl_s]; omega
    · rw [upl_n y]; exact x1
  · have key : ∀ L'', bef c (cu c (m j) (w j)) &&& frm c n m w l L'' = 0 → bef c (cu c (m j) (w j)) &&& frm c n m w (upl l i (J + 1)) L'' = 0 := fun L'' hz => an_z.mpr (fun s hs => by
      cases e : ht (frm c n m w (upl l i (J + 1)) L'') s
      · rfl
      · have := an_z.mp hz s hs
        rw [sub L'' s e] at this; cases this)
    apply key
    by_cases y : j = i
    · subst y
      rw [upl_s] at hL'
      rcases Nat.lt_or_ge L' J with z | z
      · exact x4 L' (by omega)
      · have : L' = J := by omega
        rw [this]; exact hb
    · rw [upl_n y] at hL'
      exact x4 L' hL'
theorem RP.r (h : RP c k n m w l O σ τ) (f : FR [20] [] [11] [5] σ σ') (g : FR [16] [] [8] [] τ τ') (hs : CLs c n m w l' σ') (hm : CLm c n m w l' τ') (hf : ∀ L, L ≤ k → σ'.2.2.2 5 L = frm c n m w l' L) (e1 : σ'.1 20 = τ'.1 16) : RP c k n m w l' O σ' τ' := by
  obtain ⟨a1, a2, a3, a4, a5, a6, a7, a8, a9, a10, a11⟩ := h
  refine ⟨a1.fr g (by decide), a2.fr f (by decide), a3, a4, ?_, ?_, hs, hm, hf, ?_, ?_, ?_, ?_, e1⟩
  · rw [f.1 16 (by decide), g.1 11 (by decide)]; exact a5
  · rw [f.1 23 (by decide), g.1 12 (by decide)]; exact a6
  · rw [f.2.2.2 6 (by decide), g.2.2.2 3 (by decide)]; exact a10
  · rw [f.1 17 (by decide), g.1 13 (by decide)]; exact a11.1
  · rw [f.1 18 (by decide), g.1 14 (by decide)]; exact a11.2.1
  · rw [f.1 19 (by decide), g.1 15 (by decide)]; exact a11.2.2.1
/-- one cube is looked at, in both -/
theorem raise1_ok (hN : 4000000 ≤ N) (hr : RP c k n m w l O σ τ) (hp : PI c k n m w l) (hJ1 : 1 ≤ J) (hJ : J < k) (hi : i < n) (kc km kc' km' : Int32 → St → Option (Int32 × St)) : ∃ (σ' τ' : St) (l' : Nat → Nat), X4_raiseCubes_12b N kc kc' (nI J) (nI i) σ = kc (nI (i + 1)) σ' ∧ X7_spreads_22b N km km' (nI J) (nI i) τ = km (nI (i + 1)) τ' ∧ FR [20] [] [11] [5] σ σ' ∧ FR [16] [] [8] [] τ τ' ∧ RP c k n m w l' O σ' τ' ∧ PI c k n m w l' ∧ (∀ j, j ≠ i → l' j = l j) ∧ (∀ L, L ≤ J → frm c n m w l' L = frm c n m w l L) ∧ (l' i = J → ¬ bef c (cu c (m i) (w i)) &&& frm c n m w l J = 0) ∧ (l i ≠ J → l' i = l i) := by
  have hr' := hr
  obtain ⟨a1, a2, a3, a4, a5, a6, a7, a8, a9, a10, a11⟩ := hr
  obtain ⟨⟨b1, b2, b3, b4⟩, b5, b6, b7, b8⟩ := a7 i hi
  obtain ⟨_, d5, d6, d7⟩ := a8 i hi
  have h64 := ns_le a1.1
  have ep : X0_predecessorsOfCube N σ (nI (m i)) (nI (w i)) = some (bef c (cu c (m i) (w i))) := by rw [X0_predecessorsOfCube_ok hN a2 b1 b2, b3]
  have eq := X7_cubeAt_ok hN a1 a8 (by omega) hi
  have eb := X7_before_ok hN a1 (cu c (m i) (w i))
  have ef := X7_frameOf_ok hN a1 a8 (by omega) a6.2 (L := J) (by omega)
  have fJ := a9 J (by omega)
  have fJ1 := a9 (J + 1) (by omega)
  have c23 := a6.1
  have m12 := a6.2
  have gB : FR [16] [] [8] [] τ (si (sa τ 8 i (nI (l i))) 16 (τ.1 16 + nI 0)) := (FR.rf.a (by decide)).i (by decide)
  have mB : CLm c n m w l (si (sa τ 8 i (nI (l i))) 16 (τ.1 16 + nI 0)) := fun j hj => by
    obtain ⟨x1, x2, x3, x4⟩ := a8 j hj
    refine ⟨x1, x2, x3, ?_⟩
    show upd (τ.2.2.1 8) i (nI (l i)) j = nI (l j)
    by_cases y : j = i
    · subst y; exact u_s
    · rw [u_n y]; exact x4
  have cB : σ.1 20 = (si (sa τ 8 i (nI (l i))) 16 (τ.1 16 + nI 0)).1 16 := by
    rw [si_s, show (nI 0 : Int32) = 0 from rfl, Int32.add_zero]
    exact a11.2.2.2
  by_cases z1 : l i = J
  · by_cases z2 : bef c (cu c (m i) (w i)) &&& frm c n m w l J = 0
    · have f : FR [20] [] [11] [5] σ (si (sb (sa σ 11 i (nI (J + 1))) 5 (J + 1) (σ.2.2.2 5 (J + 1) &&& (σ.2.2.2 9 i ^^^ (-1)))) 20 (σ.1 20 + nI 1)) := ((FR.rf.a (by decide)).b (by decide)).i (by decide)
      have g : FR [16] [] [8] [] τ (si (sa τ 8 i (nI (J + 1))) 16 (τ.1 16 + nI 1)) := (FR.rf.a (by decide)).i (by decide)
      have hs : CLs c n m w (upl l i (J + 1)) (si (sb (sa σ 11 i (nI (J + 1))) 5 (J + 1) (σ.2.2.2 5 (J + 1) &&& (σ.2.2.2 9 i ^^^ (-1)))) 20 (σ.1 20 + nI 1)) := fun j hj => by
        obtain ⟨⟨x1, x2, x3, x4⟩, x5, x6, x7, x8⟩ := a7 j hj
        rw [f.2.2.1 9 (by decide), f.2.2.1 10 (by decide), f.2.2.2 9 (by decide)]
        show _ ∧ _ ∧ _ ∧ upd (σ.2.2.1 11) i (nI (J + 1)) j = nI (upl l i (J + 1) j) ∧ _
        by_cases y : j = i
        · rw [y, u_s, upl_s, ← y]
          exact ⟨⟨x1, x2, x3, by omega⟩, x5, x6, rfl, x8⟩
        · rw [u_n y, upl_n y]
          exact ⟨⟨x1, x2, x3, x4⟩, x5, x6, x7, x8⟩
      have hm : CLm c n m w (upl l i (J + 1)) (si (sa τ 8 i (nI (J + 1))) 16 (τ.1 16 + nI 1)) := fun j hj => by
        obtain ⟨⟨x1, x2, x3, x4⟩, x5, x6, x7⟩ := a8 j hj
        rw [g.2.2.1 6 (by decide), g.2.2.1 7 (by decide)]
        show _ ∧ _ ∧ _ ∧ upd (τ.2.2.1 8) i (nI (J + 1)) j = nI (upl l i (J + 1) j)
        by_cases y : j = i
        · rw [y, u_s, upl_s, ← y]
          exact ⟨⟨x1, x2, x3, by omega⟩, x5, x6, rfl⟩
        · rw [u_n y, upl_n y]
          exact ⟨⟨x1, x2, x3, x4⟩, x5, x6, x7⟩
      refine ⟨_, _, upl l i (J + 1), ?_, ?_, f, g, hr'.r f g hs hm (fun L hL => ?_) ?_, PI_up a1.1 hp hi z1 hJ z2, fun j hj => upl_n hj, fun L hL => ?_, fun z => ?_, fun z => absurd z1 z⟩
      · have b7' : σ.2.2.1 11 i = nI J := by rw [b7, z1]
        simp (disch := omega) only [X4_raiseCubes_12b, c23, X1_levelAt, b7', X4_raiseCube, b5, b6, ep, fJ, z2, sa_b, sa_i, sb_i, fa_lit, nI_leI, nI_ltI, nI_eq, nI_add, pk_mul, nI_clamp, bd, nm, gd_in, gd_bI, gd_b0, gd_b1, if_pos, if_neg, bI_n0, bI_n1, reduceIte, reduceCtorEq, Nat.add_zero]
      · have d7' : τ.2.2.1 8 i = nI J := by rw [d7, z1]
        simp (disch := omega) only [X7_spreads_22b, m12, d7', eq, eb, ef, z2, X7_spreads_65, X7_spreads_82, X7_spreads_98, sa_i, fa_lit, nI_leI, nI_ltI, nI_eq, nI_add, pk_mul, nI_clamp, bd, nm, gd_in, gd_bI, gd_b0, gd_b1, if_pos, if_neg, bI_n0, bI_n1, reduceIte, reduceCtorEq, Nat.add_zero]
      · show vp_updL (σ.2.2.2 5) (J + 1) (σ.2.2.2 5 (J + 1) &&& (σ.2.2.2 9 i ^^^ (-1))) L = _
        rcases Nat.lt_or_ge 0 L with z | z
        · rw [frm_up a1.1 hi z1 z]
          by_cases y : L = J + 1
          · rw [if_pos y, y, v_s, fJ1, b8]
          · rw [if_neg y, v_n y, a9 L hL]
        · have : L = 0 := by omega
          subst this
          rw [v_n (by omega), a9 0 hL]
          rfl
      · rw [si_s, si_s, a11.2.2.2]
      · rcases Nat.lt_or_ge 0 L with z | z
        · rw [frm_up a1.1 hi z1 z, if_neg (by omega)]
        · have : L = 0 := by omega
          subst this
          rfl
      · rw [upl_s] at z; omega
    · refine ⟨σ, _, l, ?_, ?_, FR.rf, gB, hr'.r FR.rf gB a7 mB a9 cB, hp, fun j _ => rfl, fun L _ => rfl, fun _ => z2, fun _ => rfl⟩
      · have b7' : σ.2.2.1 11 i = nI J := by rw [b7, z1]
        simp (disch := omega) only [X4_raiseCubes_12b, c23, X1_levelAt, b7', X4_raiseCube, b5, b6, ep, fJ, z2, fa_lit, nI_leI, nI_ltI, nI_eq, nI_add, pk_mul, nI_clamp, bd, nm, gd_in, gd_bI, gd_b0, gd_b1, if_pos, if_neg, bI_n0, bI_n1, reduceIte, reduceCtorEq, Nat.add_zero]
      · have d7' : τ.2.2.1 8 i = nI J := by rw [d7, z1]
        rw [z1]
        simp (disch := omega) only [X7_spreads_22b, m12, d7', eq, eb, ef, z2, X7_spreads_65, X7_spreads_82, X7_spreads_98, sa_i, fa_lit, nI_leI, nI_ltI, nI_eq, nI_add, pk_mul, nI_clamp, bd, nm, gd_in, gd_bI, gd_b0, gd_b1, if_pos, if_neg, bI_n0, bI_n1, reduceIte, reduceCtorEq, Nat.add_zero]
  · refine ⟨σ, _, l, ?_, ?_, FR.rf, gB, hr'.r FR.rf gB a7 mB a9 cB, hp, fun j _ => rfl, fun L _ => rfl, fun z => absurd z z1, fun _ => rfl⟩
    · simp (disch := omega) only [X4_raiseCubes_12b, c23, X1_levelAt, b7, z1, fa_lit, nI_leI, nI_ltI, nI_eq, nI_add, pk_mul, nI_clamp, bd, nm, gd_in, gd_bI, gd_b0, gd_b1, if_pos, if_neg, bI_n0, bI_n1, reduceIte, reduceCtorEq, Nat.add_zero]
    · simp (disch := omega) only [X7_spreads_22b, m12, d7, z1, X7_spreads_65, X7_spreads_82, X7_spreads_98, sa_i, fa_lit, nI_leI, nI_ltI, nI_eq, nI_add, pk_mul, nI_clamp, bd, nm, gd_in, gd_bI, gd_b0, gd_b1, if_pos, if_neg, bI_n0, bI_n1, reduceIte, reduceCtorEq, Nat.add_zero]
theorem raiseL_ok (hN : 4000000 ≤ N) (hJ1 : 1 ≤ J) (hJ : J < k) (kc km : Int32 → St → Option (Int32 × St)) : ∀ (d i : Nat) (σ τ : St) (l : Nat → Nat), i + d = n → RP c k n m w l O σ τ → PI c k n m w l → (∀ j, j < i → l j = J → ¬ bef c (cu c (m j) (w j)) &&& frm c n m w l J = 0) → ∀ fc fm, d < fc → d < fm → ∃ (σ' τ' : St) (l' : Nat → Nat), X4_raiseCubes_12 N kc (nI J) fc (nI i) σ = kc (nI J) σ' ∧ X7_spreads_22 N km (nI J) fm (nI i) τ = km (nI J) τ' ∧ FR [20] [] [11] [5] σ σ' ∧ FR [16] [] [8] [] τ τ' ∧ RP c k n m w l' O σ' τ' ∧ PI c k n m w l' ∧ (∀ j, j < n → l' j = J → ¬ bef c (cu c (m j) (w j)) &&& frm c n m w l' J = 0) ∧ (∀ L, L ≤ J → frm c n m w l' L = frm c n m w l L) ∧ ∀ j, l j < J → l' j = l j := by
  intro d
  induction d with
  | zero =>
    intro i σ τ l hd hr hp hx fc fm hc hm
    obtain ⟨fc, rfl⟩ : ∃ f, fc = f + 1 := ⟨fc - 1, by omega⟩
    obtain ⟨fm, rfl⟩ : ∃ f, fm = f + 1 := ⟨fm - 1, by omega⟩
    have : i = n := by omega
    subst this
    have c23 := hr.2.2.2.2.2.1.1
    have m12 := hr.2.2.2.2.2.1.2
    have h7 := hr.2.2.2.1
    refine ⟨σ, τ, l, ?_, ?_, FR.rf, FR.rf, hr, hp, hx, fun _ _ => rfl, fun _ _ => rfl⟩
    · simp (disch := omega) only [X4_raiseCubes_12, X4_raiseCubes_12b, c23, fa_lit, nI_leI, nI_ltI, nI_eq, nI_add, pk_mul, nI_clamp, bd, nm, gd_in, gd_bI, gd_b0, gd_b1, if_pos, if_neg, bI_n0, bI_n1, reduceIte, reduceCtorEq, Nat.add_zero]
    · simp (disch := omega) only [X7_spreads_22, X7_spreads_22b, m12, fa_lit, nI_leI, nI_ltI, nI_eq, nI_add, pk_mul, nI_clamp, bd, nm, gd_in, gd_bI, gd_b0, gd_b1, if_pos, if_neg, bI_n0, bI_n1, reduceIte, reduceCtorEq, Nat.add_zero]
  | succ d ih =>
    intro i σ τ l hd hr hp hx fc fm hc hm
    obtain ⟨fc, rfl⟩ : ∃ f, fc = f + 1 := ⟨fc - 1, by omega⟩
    obtain ⟨fm, rfl⟩ : ∃ f, fm = f + 1 := ⟨fm - 1, by omega⟩
    obtain ⟨σ1, τ1, l1, x1, x2, x3, x4, x5, x6, x7, x8, x9, x10⟩ := raise1_ok hN hr hp hJ1 hJ (i := i) (by omega) (fun v2 σ => X4_raiseCubes_12 N kc (nI J) fc v2 σ) (fun v2 σ => X7_spreads_22 N km (nI J) fm v2 σ) kc km
    obtain ⟨σ2, τ2, l2, y1, y2, y3, y4, y5, y6, y7, y8, y9⟩ := ih (i + 1) σ1 τ1 l1 (by omega) x5 x6 (fun j hj hlj => by
      rw [x8 J (Nat.le_refl _)]
      by_cases z : j = i
      · subst z; exact x9 hlj
      · rw [x7 j z] at hlj
        exact hx j (by omega) hlj) fc fm (by omega) (by omega)
    refine ⟨σ2, τ2, l2, ?_, ?_, x3.tr y3, x4.tr y4, y5, y6, y7, fun L hL => (y8 L hL).trans (x8 L hL), fun j hj => ?_⟩
    · rw [X4_raiseCubes_12, x1]; exact y1
    · rw [X7_spreads_22, x2]; exact y2
    · have e : l1 j = l j := by
        by_cases z : j = i
        · subst z; exact x10 (by omega)
        · exact x7 j z
      rw [← e]
      exact y9 j (by omega)
theorem X7_cubesAt_ok (hN : 4000000 ≤ N) (hl : CLm c n m w l τ) (hn : n ≤ 1000) (h12 : τ.1 12 = nI n) (hJ : J ≤ 1000) : X7_cubesAt N τ (nI J) = some (nI (cnt (fun i => decide (l i = J)) n)) := by
  unfold X7_cubesAt
  refine wf (fun f i a => X7_cubesAt_4 (fun v2 => X7_cubesAt_36 τ v2) τ (nI J) f a (nI i)) n (fun i a => a = nI (cnt (fun i => decide (l i = J)) i)) (fun r => r = some (nI (cnt (fun i => decide (l i = J)) n))) ?_ ?_ N 0 0 (by omega) rfl (by omega)
  · rintro f i a hi rfl
    refine Or.inr ⟨_, rfl, ?_⟩
    show X7_cubesAt_4 _ τ _ (f + 1) _ _ = X7_cubesAt_4 _ τ _ f _ _
    obtain ⟨⟨_, _, _, a4⟩, _, _, a5⟩ := hl i hi
    by_cases z : l i = J
    · rw [cnt_t (p := fun i => decide (l i = J)) (decide_eq_true z)]
      simp (disch := omega) only [X7_cubesAt_4, X7_cubesAt_4b, h12, a5, z, fa_lit, nI_leI, nI_ltI, nI_eq, nI_add, pk_mul, nI_clamp, bd, nm, gd_in, gd_bI, gd_b0, gd_b1, if_pos, if_neg, bI_n0, bI_n1, reduceIte, reduceCtorEq, Nat.add_zero]
    · rw [cnt_f (p := fun i => decide (l i = J)) (decide_eq_false z)]
      simp (disch := omega) only [X7_cubesAt_4, X7_cubesAt_4b, h12, a5, z, fa_lit, nI_leI, nI_ltI, nI_eq, nI_add, pk_mul, nI_clamp, bd, nm, gd_in, gd_bI, gd_b0, gd_b1, if_pos, if_neg, bI_n0, bI_n1, reduceIte, reduceCtorEq, Nat.add_zero]
  · rintro f a rfl
    show X7_cubesAt_4 _ τ _ (f + 1) _ _ = _
    simp (disch := omega) only [X7_cubesAt_4, X7_cubesAt_4b, h12, X7_cubesAt_36, fa_lit, nI_leI, nI_ltI, nI_eq, nI_add, pk_mul, nI_clamp, bd, nm, gd_in, gd_bI, gd_b0, gd_b1, if_pos, if_neg, bI_n0, bI_n1, reduceIte, reduceCtorEq, Nat.add_zero]
theorem X1_hasLevel_ok (hN : 4000000 ≤ N) (hl : CLs c n m w l σ) (hn : n ≤ 729) (h23 : σ.1 23 = nI n) (hJ : J ≤ 1000) : X1_hasLevel N σ (nI J) = some (bI (ax (fun i => decide (l i = J)) n)) := by
  unfold X1_hasLevel
  refine wf (fun f i (_ : Unit) => X1_hasLevel_2 (X1_hasLevel_27 σ) (X1_hasLevel_35 σ) σ (nI J) f (nI i)) n (fun i _ => ax (fun i => decide (l i = J)) i = false) (fun r => r = some (bI (ax (fun i => decide (l i = J)) n))) ?_ ?_ N 0 () (by omega) rfl (by omega)
  · rintro f i a hi hx
    obtain ⟨⟨_, _, _, a4⟩, _, _, a5, _⟩ := hl i hi
    by_cases z : l i = J
    · left
      have e : ax (fun i => decide (l i = J)) n = true := ax_t.mpr ⟨i, hi, decide_eq_true z⟩
      rw [e]
      show X1_hasLevel_2 _ _ σ _ (f + 1) _ = _
      (simp (disch := omega) only [X1_hasLevel_2, X1_hasLevel_2b, h23, a5, z, X1_hasLevel_27, fa_lit, nI_leI, nI_ltI, nI_eq, nI_add, pk_mul, nI_clamp, bd, nm, gd_in, gd_bI, gd_b0, gd_b1, if_pos, if_neg, bI_n0, bI_n1, reduceIte, reduceCtorEq, Nat.add_zero]) <;> rfl
    · right
      refine ⟨(), ?_, ?_⟩
      · rw [ax, hx, decide_eq_false z]; rfl
      · show X1_hasLevel_2 _ _ σ _ (f + 1) _ = X1_hasLevel_2 _ _ σ _ f _
        simp (disch := omega) only [X1_hasLevel_2, X1_hasLevel_2b, h23, a5, z, fa_lit, nI_leI, nI_ltI, nI_eq, nI_add, pk_mul, nI_clamp, bd, nm, gd_in, gd_bI, gd_b0, gd_b1, if_pos, if_neg, bI_n0, bI_n1, reduceIte, reduceCtorEq, Nat.add_zero]
  · rintro f a hx
    rw [hx]
    show X1_hasLevel_2 _ _ σ _ (f + 1) _ = _
    (simp (disch := omega) only [X1_hasLevel_2, X1_hasLevel_2b, h23, X1_hasLevel_35, fa_lit, nI_leI, nI_ltI, nI_eq, nI_add, pk_mul, nI_clamp, bd, nm, gd_in, gd_bI, gd_b0, gd_b1, if_pos, if_neg, bI_n0, bI_n1, reduceIte, reduceCtorEq, Nat.add_zero]) <;> rfl
theorem cnt_ax {p : Nat → Bool} : ∀ n, (cnt p n = 0 ↔ ax p n = false) := by
  intro n
  induction n with
  | zero => exact ⟨fun _ => rfl, fun _ => rfl⟩
  | succ n ih =>
    cases e : p n
    · rw [cnt_f e, ax, e, Bool.or_false]; exact ih
    · rw [cnt_t e, ax, e, Bool.or_true]
      exact ⟨fun z => by omega, fun z => by cases z⟩
theorem RP.e (h : RP c k n m w l O σ τ) (v v' : Int32) : RP c k n m w l O (si σ 21 v) (si τ 17 v') := by
  obtain ⟨a1, a2, a3, a4, a5, a6, a7, a8, a9, a10, a11⟩ := h
  have f : FR [21] [] [] [] σ (si σ 21 v) := FR.rf.i (by decide)
  have g : FR [17] [] [] [] τ (si τ 17 v') := FR.rf.i (by decide)
  exact ⟨a1.fr g (by decide), a2.fr f (by decide), a3, a4, a5, a6, a7.fr f (by decide), a8.fr g (by decide), a9, a10, a11⟩
theorem levels_ok (hN : 4000000 ≤ N) : ∀ (d J : Nat) (σ τ : St) (l : Nat → Nat), J + d = k → 1 ≤ J → RP c k n m w l O σ τ → PI c k n m w l → (∀ L, 1 ≤ L → L < J → ∃ j, j < n ∧ l j = L ∧ ¬ bef c (cu c (m j) (w j)) &&& frm c n m w l L = 0) → ∀ fc fm, d < fc → d < fm → ∃ (b : Bool) (σ' τ' : St) (l' : Nat → Nat), X4_raiseCubes_2 N (fun v1 σ => X4_raiseCubes_58 v1 σ) (fun σ => X4_raiseCubes_71 σ) fc (nI J) σ = some (bI b, σ') ∧ X7_spreads_12 N (fun v1 σ => X7_spreads_116 v1 σ) (fun σ => X7_spreads_129 σ) fm (nI J) τ = some (bI b, τ') ∧ FR [20, 21] [] [11] [5] σ σ' ∧ FR [16, 17] [] [8] [] τ τ' ∧ RP c k n m w l' O σ' τ' ∧ (b = false → σ'.1 21 = σ.1 21 ∧ τ'.1 17 = τ.1 17 ∧ PI c k n m w l' ∧ ∀ L, 1 ≤ L → L < k → ∃ j, j < n ∧ l' j = L ∧ ¬ bef c (cu c (m j) (w j)) &&& frm c n m w l' L = 0) ∧ (b = true → ∃ e, e ≤ 67 ∧ σ'.1 21 = nI e ∧ τ'.1 17 = nI e) := by
  intro d
  induction d with
  | zero =>
    intro J σ τ l hd hJ1 hr hp hx fc fm hc hm
    obtain ⟨fc, rfl⟩ : ∃ f, fc = f + 1 := ⟨fc - 1, by omega⟩
    obtain ⟨fm, rfl⟩ : ∃ f, fm = f + 1 := ⟨fm - 1, by omega⟩
    have : J = k := by omega
    subst this
    have c16 := hr.2.2.2.2.1.1
    have m11 := hr.2.2.2.2.1.2
    have h7 := hr.2.2.1
    refine ⟨false, σ, τ, l, ?_, ?_, FR.rf, FR.rf, hr, fun _ => ⟨rfl, rfl, hp, hx⟩, fun z => by cases z⟩
    · (simp (disch := omega) only [X4_raiseCubes_2, X4_raiseCubes_2b, c16, X4_raiseCubes_71, fa_lit, nI_leI, nI_ltI, nI_eq, nI_add, pk_mul, nI_clamp, bd, nm, gd_in, gd_bI, gd_b0, gd_b1, if_pos, if_neg, bI_n0, bI_n1, reduceIte, reduceCtorEq, Nat.add_zero]) <;> rfl
    · (simp (disch := omega) only [X7_spreads_12, X7_spreads_12b, m11, X7_spreads_129, fa_lit, nI_leI, nI_ltI, nI_eq, nI_add, pk_mul, nI_clamp, bd, nm, gd_in, gd_bI, gd_b0, gd_b1, if_pos, if_neg, bI_n0, bI_n1, reduceIte, reduceCtorEq, Nat.add_zero]) <;> rfl
  | succ d ih =>
    intro J σ τ l hd hJ1 hr hp hx fc fm hc hm
    obtain ⟨fc, rfl⟩ : ∃ f, fc = f + 1 := ⟨fc - 1, by omega⟩
    obtain ⟨fm, rfl⟩ : ∃ f, fm = f + 1 := ⟨fm - 1, by omega⟩
    have h7 := hr.2.2.1
    have h8 := hr.2.2.2.1
    have c16 := hr.2.2.2.2.1.1
    have m11 := hr.2.2.2.2.1.2
    have cc : ¬ σ.1 16 ≤ nI J := by rw [c16]; exact nI_ge (by omega) (by omega)
    have cm' : ¬ τ.1 11 ≤ nI J := by rw [m11]; exact nI_ge (by omega) (by omega)
    obtain ⟨σ1, τ1, l1, y1, y2, y3, y4, y5, y6, y7, y8, y9⟩ := raiseL_ok hN hJ1 (by omega) (fun v1 σ => X4_raiseCubes_47 N (fun v1 σ => X4_raiseCubes_2 N (fun v1 σ => X4_raiseCubes_58 v1 σ) (fun σ => X4_raiseCubes_71 σ) fc v1 σ) (fun v1 σ => X4_raiseCubes_58 v1 σ) v1 σ) (fun v1 σ => X7_spreads_108 N (fun v1 σ => X7_spreads_12 N (fun v1 σ => X7_spreads_116 v1 σ) (fun σ => X7_spreads_129 σ) fm v1 σ) (fun v1 σ => X7_spreads_116 v1 σ) v1 σ) n 0 σ τ l (by omega) hr hp (fun j hj => by omega) N N (by omega) (by omega)
    have z1 := X1_hasLevel_ok hN y5.2.2.2.2.2.2.1 y5.2.2.2.1 y5.2.2.2.2.2.1.1 (J := J) (by omega)
    have z2 := X7_cubesAt_ok hN y5.2.2.2.2.2.2.2.1 (by omega) y5.2.2.2.2.2.1.2 (J := J) (by omega)
    have e1 : X4_raiseCubes_2 N (fun v1 σ => X4_raiseCubes_58 v1 σ) (fun σ => X4_raiseCubes_71 σ) (fc + 1) (nI J) σ = X4_raiseCubes_47 N (fun v1 σ => X4_raiseCubes_2 N (fun v1 σ => X4_raiseCubes_58 v1 σ) (fun σ => X4_raiseCubes_71 σ) fc v1 σ) (fun v1 σ => X4_raiseCubes_58 v1 σ) (nI J) σ1 := by
      rw [X4_raiseCubes_2, X4_raiseCubes_2b, if_neg cc]; exact y1
    have e2 : X7_spreads_12 N (fun v1 σ => X7_spreads_116 v1 σ) (fun σ => X7_spreads_129 σ) (fm + 1) (nI J) τ = X7_spreads_108 N (fun v1 σ => X7_spreads_12 N (fun v1 σ => X7_spreads_116 v1 σ) (fun σ => X7_spreads_129 σ) fm v1 σ) (fun v1 σ => X7_spreads_116 v1 σ) (nI J) τ1 := by
      rw [X7_spreads_12, X7_spreads_12b, if_neg cm']; exact y2
    have f1 : FR [20, 21] [] [11] [5] σ σ1 := y3.mo (by decide)
    have g1 : FR [16, 17] [] [8] [] τ τ1 := y4.mo (by decide)
    cases q : ax (fun i => decide (l1 i = J)) n
    · rw [q] at z1
      have q2 := (cnt_ax n).mpr q
      rw [q2] at z2
      refine ⟨true, si σ1 21 (nI J), si τ1 17 (nI J), l1, ?_, ?_, f1.i (by decide), g1.i (by decide), y5.e (nI J) (nI J), fun z => (by cases z), fun _ => ⟨J, by omega, si_s, si_s⟩⟩
      · rw [e1, X4_raiseCubes_47, z1, bd, if_pos (show bI false = 0 from rfl)]; rfl
      · rw [e2, X7_spreads_108, z2, bd, if_pos (show nI 0 = (0 : Int32) from rfl)]; rfl
    · rw [q] at z1
      have q2 : ¬ cnt (fun i => decide (l1 i = J)) n = 0 := fun z => by rw [(cnt_ax n).mp z] at q; cases q
      have q3 : ¬ nI (cnt (fun i => decide (l1 i = J)) n) = 0 := nI_ne0 (by omega) (by have := cnt_le (fun i => decide (l1 i = J)) n; omega)
      obtain ⟨b, σ2, τ2, l2, w1, w2, w3, w4, w5, w6, w7⟩ := ih (J + 1) σ1 τ1 l1 (by omega) (by omega) y5 y6 (fun L h1 h2 => by
        rcases Nat.lt_or_ge L J with z | z
        · obtain ⟨j, j1, j2, j3⟩ := hx L h1 z
          refine ⟨j, j1, (y9 j (by omega)).trans j2, ?_⟩
          rw [y8 L (by omega)]
          exact j3
        · have : L = J := by omega
          subst this
          obtain ⟨j, j1, j2⟩ := ax_t.mp q
          rw [decide_eq_true_eq] at j2
          exact ⟨j, j1, j2, y7 j j1 j2⟩) fc fm (by omega) (by omega)
      refine ⟨b, σ2, τ2, l2, ?_, ?_, f1.tr w3, g1.tr w4, w5, fun z => ?_, w7⟩
      · rw [e1, X4_raiseCubes_47, z1, bd, if_neg (show ¬ bI true = 0 by decide), nm, nI_1]; exact w1
      · rw [e2, X7_spreads_108, z2, bd, if_neg q3, nm, nI_1]; exact w2
      · obtain ⟨v1, v2, v3⟩ := w6 z
        exact ⟨v1.trans (y3.1 21 (by decide)), v2.trans (y4.1 17 (by decide)), v3⟩
theorem grow_ok (h : okC c) (hp : PI c k n m w l) (hx : ∀ L, 1 ≤ L → L < k → ∃ j, j < n ∧ l j = L ∧ ¬ bef c (cu c (m j) (w j)) &&& frm c n m w l L = 0) : k ≤ 65 := by
  have key : ∀ L, L + 1 ≤ k → L ≤ pc (frm c n m w l (L + 1)) := by
    intro L
    induction L with
    | zero => intro _; omega
    | succ L ih =>
      intro hL
      have a := ih (by omega)
      obtain ⟨j, j1, j2, j3⟩ := hx (L + 1) (by omega) (by omega)
      obtain ⟨t, t1, t2⟩ := h_nz j3
      rw [h_and, Bool.and_eq_true, h_bef h] at t2
      obtain ⟨⟨t3, v, v1, v2⟩, t4⟩ := t2
      have b1 : ht (frm c n m w l (L + 1)) (nx c t v) = false := by
        cases e : ht (frm c n m w l (L + 1)) (nx c t v)
        · rfl
        · have := ((h_frm h (by omega)).mp e).2 j j1 (by omega)
          rw [v2] at this; cases this
      have b2 : ht (frm c n m w l (L + 1 + 1)) (nx c t v) = true := by
        rw [h_frm h (by omega)]
        refine ⟨nx_lt c t v, fun i hi hli => ?_⟩
        cases e : ht (cu c (m i) (w i)) (nx c t v)
        · rfl
        · have := an_z.mp ((hp.1 i hi).2.2.2 (L + 1) (by omega)) t ((h_bef h).mpr ⟨t3, v, v1, e⟩)
          rw [t4] at this; cases this
      have := pc_lt (frm_m h hp (show L + 1 ≤ L + 1 + 1 by omega)) b1 b2
      omega
  rcases Nat.lt_or_ge k 66 with z | z
  · omega
  · have a := key (k - 1) (by omega)
    have b := pc_le (frm c n m w l (k - 1 + 1))
    omega
theorem open_ok (hr : RP c k n m w l (fun _ => 0) σ τ) (hp : PI c k n m w l) (hk : k ≤ 66) : ∃ σ', X4_openFrame σ = some σ' ∧ FR [16] [] [] [5] σ σ' ∧ RP c (k + 1) n m w l (fun _ => 0) σ' (si τ 11 (nI (k + 1))) ∧ PI c (k + 1) n m w l := by
  obtain ⟨a1, a2, a3, a4, a5, a6, a7, a8, a9, a10, a11⟩ := hr
  have f : FR [16] [] [] [5] σ (sb (si σ 16 (nI (k + 1))) 5 (k + 1) (σ.2.1 0)) := (FR.rf.i (by decide)).b (by decide)
  have g : FR [11] [] [] [] τ (si τ 11 (nI (k + 1))) := FR.rf.i (by decide)
  have c16 := a5.1
  refine ⟨sb (si σ 16 (nI (k + 1))) 5 (k + 1) (σ.2.1 0), ?_, f, ⟨a1.fr g (by decide), a2.fr f (by decide), by omega, a4, ⟨?_, si_s⟩, a6, a7.fr f (by decide), a8.fr g (by decide), fun L hL => ?_, a10, a11⟩, ?_⟩
  · simp (disch := omega) only [X4_openFrame, c16, si_s, si_j, fa_lit, nI_leI, nI_ltI, nI_eq, nI_add, pk_mul, nI_clamp, bd, nm, gd_in, gd_bI, gd_b0, gd_b1, if_pos, if_neg, bI_n0, bI_n1, reduceIte, reduceCtorEq, Nat.add_zero]
  · rw [sb_i, si_s]
  · rw [sb_s, si_b]
    by_cases y : L = k + 1
    · rw [y, v_s, a2.2.2.2.2.2.1]
      apply h_ext
      intro s hs
      rw [Bool.eq_iff_iff, h_al a1.1, decide_eq_true_eq, h_frm a1.1 (by omega)]
      exact ⟨fun z => ⟨z, fun i hi hli => by have := (hp.1 i hi).1.2; omega⟩, fun z => z.1⟩
    · rw [v_n y, a9 L (by omega)]
  · refine ⟨fun i hi => ?_, hp.2⟩
    obtain ⟨x1, x2⟩ := hp.1 i hi
    exact ⟨⟨x1.1, by omega⟩, x2⟩
theorem spread_ok (hN : 4000000 ≤ N) (hr : RP c k n m w l (fun _ => 0) σ τ) (hp : PI c k n m w l) (hk1 : 1 ≤ k) (hk : k ≤ 65) : ∃ (b : Bool) (σ1 σ' τ' : St) (l' : Nat → Nat), X4_openFrame σ = some σ1 ∧ X4_raiseCubes N σ1 = some (bI b, σ') ∧ X7_spreads N τ = some (bI b, τ') ∧ FR [16, 20, 21] [] [11] [5] σ σ' ∧ FR [11, 16, 17] [] [8] [] τ τ' ∧ RP c (k + 1) n m w l' (fun _ => 0) σ' τ' ∧ (b = false → σ'.1 21 = σ.1 21 ∧ τ'.1 17 = τ.1 17 ∧ PI c (k + 1) n m w l' ∧ k + 1 ≤ 65) ∧ (b = true → ∃ e, e ≤ 67 ∧ σ'.1 21 = nI e ∧ τ'.1 17 = nI e) := by
  obtain ⟨σ1, x1, x2, x3, x4⟩ := open_ok hr hp (by omega)
  obtain ⟨b, σ2, τ2, l2, w1, w2, w3, w4, w5, w6, w7⟩ := levels_ok hN k 1 σ1 (si τ 11 (nI (k + 1))) l (by omega) (Nat.le_refl _) x3 x4 (fun L h1 h2 => by omega) N N (by omega) (by omega)
  have g : FR [11, 16, 17] [] [8] [] τ (si τ 11 (nI (k + 1))) := FR.rf.i (by decide)
  refine ⟨b, σ1, σ2, τ2, l2, x1, w1, ?_, (x2.mo (by decide)).tr (w3.mo (by decide)), g.tr (w4.mo (by decide)), w5, fun z => ?_, w7⟩
  · rw [X7_spreads, nm, hr.2.2.2.2.1.2, nI_1]; exact w2
  · obtain ⟨v1, v2, v3, v4⟩ := w6 z
    exact ⟨v1.trans (x2.1 21 (by decide)), v2, v3, grow_ok hr.1.1 v3 v4⟩
theorem PRF_mk (hr : RP c k n m w l O σ τ) {e : Nat} (he : e ≤ 67) (h1 : σ.1 21 = nI e) (h2 : τ.1 17 = nI e) (hv : τ.1 10 = 0 ∨ τ.1 10 = 1) (hw : σ.1 15 = τ.1 10) : PRF c σ τ := by
  obtain ⟨a1, a2, a3, a4, a5, a6, a7, a8, a9, a10, a11⟩ := hr
  refine ⟨hv, hw, a11.1, a11.2.1, a11.2.2.1, a11.2.2.2, k, n, e, m, w, l, a3, a4, he, a5.1, a5.2, a6.1, a6.2, h1, h2, fun i hi => ?_, a9⟩
  obtain ⟨⟨x1, x2, x3, x4⟩, x5, x6, x7, x8⟩ := a7 i hi
  obtain ⟨_, y5, y6, y7⟩ := a8 i hi
  exact ⟨x1, x2, x3, x4, x5, y5, x6, y6, x7, y7, x8⟩
theorem RP.v (h : RP c k n m w l O σ τ) (v v' : Int32) : RP c k n m w l O (si σ 15 v) (si τ 10 v') := by
  obtain ⟨a1, a2, a3, a4, a5, a6, a7, a8, a9, a10, a11⟩ := h
  have f : FR [15] [] [] [] σ (si σ 15 v) := FR.rf.i (by decide)
  have g : FR [10] [] [] [] τ (si τ 10 v') := FR.rf.i (by decide)
  exact ⟨a1.fr g (by decide), a2.fr f (by decide), a3, a4, a5, a6, a7.fr f (by decide), a8.fr g (by decide), a9, a10, a11⟩
theorem RP.vm (h : RP c k n m w l O σ τ) (v' : Int32) : RP c k n m w l O σ (si τ 10 v') := by
  obtain ⟨a1, a2, a3, a4, a5, a6, a7, a8, a9, a10, a11⟩ := h
  have g : FR [10] [] [] [] τ (si τ 10 v') := FR.rf.i (by decide)
  exact ⟨a1.fr g (by decide), a2, a3, a4, a5, a6, a7, a8.fr g (by decide), a9, a10, a11⟩
theorem carry_ok (hN : 4000000 ≤ N) : ∀ (d k n : Nat) (m w l : Nat → Nat) (σ τ : St), k + d = 66 → 1 ≤ k → k ≤ 65 → RP c k n m w l (fun _ => 0) σ τ → PI c k n m w l → σ.1 21 = nI 0 → τ.1 17 = nI 0 → ∀ fc fm, d + 2 ≤ fc → d + 2 ≤ fm → ∃ σ' τ' : St, X4_carryOut_41 N (fun σ => X4_carryOut_54 σ) (fun σ => X4_carryOut_71 σ) (fun σ => X4_carryOut_83 σ) fc (nI (k - 1)) σ = some σ' ∧ X7_carryOut_2 N (fun σ => X7_carryOut_44 σ) fm 0 τ = some τ' ∧ FR [15, 16, 17, 18, 19, 20, 21, 23] [] [9, 10, 11] [5, 6, 9] σ σ' ∧ FR [10, 11, 12, 13, 14, 15, 16, 17] [] [6, 7, 8] [3] τ τ' ∧ PRF c σ' τ' := by
  intro d
  induction d with
  | zero => intro k n m w l σ τ h1 h2 h3; omega
  | succ d ih =>
    intro k n m w l σ τ hd hk1 hk hr hp h21 h17 fc fm hfc hfm
    obtain ⟨fc, rfl⟩ : ∃ f, fc = f + 1 := ⟨fc - 1, by omega⟩
    obtain ⟨fm, rfl⟩ : ∃ f, fm = f + 1 + 1 := ⟨fm - 2, by omega⟩
    have tt : ¬ (70 : Int32) ≤ nI (k - 1) := nI_ge (b := 70) (by omega) (by omega)
    obtain ⟨b, σ1, τ1, x1, x2, x3, x4, n1, m1, w1, l1, O1, x5, x6⟩ := blocks_ok hN hr hp
    have f1 : FR [15, 16, 17, 18, 19, 20, 21, 23] [] [9, 10, 11] [5, 6, 9] σ σ1 := x3.mo (by decide)
    have g1 : FR [10, 11, 12, 13, 14, 15, 16, 17] [] [6, 7, 8] [3] τ τ1 := x4.mo (by decide)
    have s21 : σ1.1 21 = nI 0 := (x3.1 21 (by decide)).trans h21
    have t17 : τ1.1 17 = nI 0 := (x4.1 17 (by decide)).trans h17
    cases b
    · obtain ⟨p1, p2⟩ := x6 rfl
      have eO : O1 = fun _ => 0 := funext p2
      subst eO
      have hv := x5.vm 0
      obtain ⟨b2, σ2, σ3, τ3, l3, y1, y2, y3, y4, y5, y6, y7, y8⟩ := spread_ok hN hv p1 hk1 hk
      have f3 := f1.tr (y4.mo (by decide))
      have g2 : FR [10, 11, 12, 13, 14, 15, 16, 17] [] [6, 7, 8] [3] τ (si τ1 10 0) := g1.i (by decide)
      have g3 := g2.tr (y5.mo (by decide))
      have e2 : X7_carryOut_2 N (fun σ => X7_carryOut_44 σ) (fm + 1 + 1) 0 τ = X7_carryOut_21 N (fun v1 σ => X7_carryOut_2 N (fun σ => X7_carryOut_44 σ) (fm + 1) v1 σ) (bI false) 0 τ1 := by
        rw [X7_carryOut_2, X7_carryOut_2b, if_pos rfl, x2, bd, if_pos (show bI false = 0 from rfl)]
      cases b2
      · obtain ⟨q1, q2, q3, q4⟩ := y7 rfl
        obtain ⟨σ4, τ4, z1, z2, z3, z4, z5⟩ := ih (k + 1) n1 m1 w1 l3 σ3 τ3 (by omega) (by omega) q4 y6 q3 (q1.trans s21) (q2.trans t17) fc (fm + 1) (by omega) (by omega)
        refine ⟨σ4, τ4, ?_, ?_, f3.tr z3, g3.tr z4, z5⟩
        · rw [X4_carryOut_41, X4_carryOut_41b, if_neg tt, x1, bd, if_pos (show bI false = 0 from rfl), y1, bd, y2, bd, if_pos (show bI false = 0 from rfl), nm, nI_1]
          rw [show k - 1 + 1 = k + 1 - 1 by omega]
          exact z1
        · rw [e2, X7_carryOut_21, nm, if_pos (show bI false = 0 from rfl), y3, bd, if_pos (show bI false = 0 from rfl)]
          exact z2
      · obtain ⟨e, q1, q2, q3⟩ := y8 rfl
        have t10 : τ3.1 10 = 0 := (y5.1 10 (by decide)).trans si_s
        have hz := y6.v 0 0
        refine ⟨si σ3 15 0, τ3, ?_, ?_, f3.i (by decide), g3, ?_⟩
        · rw [X4_carryOut_41, X4_carryOut_41b, if_neg tt, x1, bd, if_pos (show bI false = 0 from rfl), y1, bd, y2, bd, if_neg (show ¬ bI true = 0 by decide)]
          rfl
        · rw [e2, X7_carryOut_21, nm, if_pos (show bI false = 0 from rfl), y3, bd, if_neg (show ¬ bI true = 0 by decide), X7_carryOut_2, X7_carryOut_2b, if_neg (by decide)]
          rfl
        · have hz' : RP c (k + 1) n1 m1 w1 l3 (fun _ => 0) (si σ3 15 0) τ3 := by
            obtain ⟨a1, a2, a3, a4, a5, a6, a7, a8, a9, a10, a11⟩ := y6
            have f : FR [15] [] [] [] σ3 (si σ3 15 0) := FR.rf.i (by decide)
            exact ⟨a1, a2.fr f (by decide), a3, a4, a5, a6, a7.fr f (by decide), a8, a9, a10, a11⟩
          exact PRF_mk hz' q1 q2 q3 (Or.inl t10) (by rw [si_s, t10])
    · refine ⟨si σ1 15 1, si τ1 10 1, ?_, ?_, f1.i (by decide), g1.i (by decide), PRF_mk (x5.v 1 1) (e := 0) (by omega) s21 t17 (Or.inr si_s) (by rw [si_s, si_s])⟩
      · rw [X4_carryOut_41, X4_carryOut_41b, if_neg tt, x1, bd, if_neg (show ¬ bI true = 0 by decide)]
        rfl
      · rw [X7_carryOut_2, X7_carryOut_2b, if_pos rfl, x2, bd, if_neg (show ¬ bI true = 0 by decide), X7_carryOut_21, nm, if_neg (show ¬ bI true = 0 by decide), X7_carryOut_2, X7_carryOut_2b, if_neg (by decide)]
        rfl
end PDR5
