/-! 98: rows that are kept, replaced, brought back -/
def pu (c : Ck) (r : Nat) (w : Nat → Int64) : Ck := (c.1, c.2.1, fun b v => if b = r then w v else c.2.2.1 b v, if r = 6 then w 0 else c.2.2.2.1, if r = 7 then w 0 else c.2.2.2.2)
def rwO (c : Ck) (r v : Nat) : Int64 := if r = 6 then c.2.2.2.1 else if r = 7 then c.2.2.2.2 else c.2.2.1 r v
def wsF (τ : St) (r v : Nat) : Int64 := if r = 6 then τ.2.1 0 else if r = 7 then τ.2.1 1 else τ.2.2.2 0 (4 * r + v)
def VR (c : Ck) (r : Nat) : Prop := r < c.1 ∨ r = 6 ∨ r = 7
def chm (n : Nat) (f : Nat → Nat) : Nat → Nat
  | 0 => 0
  | v + 1 => chm n f v + (if v < n then f v else 0)
theorem chm_st {n : Nat} {f : Nat → Nat} : ∀ m, n ≤ m → chm n f m = chm n f n := by
  intro m
  induction m with
  | zero => intro h; have : n = 0 := by omega
            rw [this]
  | succ m ih =>
    intro h
    rcases Nat.lt_or_ge m n with q | q
    · have : n = m + 1 := by omega
      rw [this]
    · rw [chm, if_neg (by omega), ih q]; rfl
theorem pc_xc (x y : Int64) : pc (x ^^^ y) = pc (y ^^^ x) := by
  congr 1
  exact h_ext (fun i _ => by rw [h_xor, h_xor, Bool.xor_comm])
section KEEP
variable {c : Ck} {t : Nat → Nat} {L : Nat} {σ τ σ' τ' : St} {N K o : Nat} {r : Nat → Nat} {w : Nat → Nat → Int64} {W : Nat → Int64} {q : Nat}
theorem VR_lt (h : okC c) (hq : VR c q) : q < 8 := by
  have := h.2.1
  rcases hq with a | a | a <;> omega
theorem CM_pu (h : CM c τ) (h1 : τ'.1 1 = τ.1 1) (h2 : τ'.1 2 = τ.1 2) (hw : q = 6 → ∀ s, ht (W 0) s = true → s < ns c) (ha : ∀ b v, b < c.1 → v < nv c → τ'.2.2.2 0 (4 * b + v) = if b = q then W v else τ.2.2.2 0 (4 * b + v)) (hi : τ'.2.1 0 = if q = 6 then W 0 else τ.2.1 0) (hg : τ'.2.1 1 = if q = 7 then W 0 else τ.2.1 1) : CM (pu c q W) τ' := by
  obtain ⟨⟨o1, o2, o3, o4⟩, m1, m2, m3, m4, m5⟩ := h
  refine ⟨⟨o1, o2, o3, fun i => ?_⟩, h1.trans m1, h2.trans m2, fun b v hb hv => ?_, ?_, ?_⟩
  · show ht (if q = 6 then W 0 else c.2.2.2.1) i = true → i < ns c
    by_cases z : q = 6
    · rw [if_pos z]; exact hw z i
    · rw [if_neg z]; exact o4 i
  · rw [ha b v hb hv, m3 b v hb hv]; rfl
  · rw [hi, m4]; rfl
  · rw [hg, m5]; rfl
theorem CS_pu (h : CS c σ) (h5 : σ'.1 5 = σ.1 5) (h6 : σ'.1 6 = σ.1 6) (h7 : σ'.1 7 = σ.1 7) (h8 : σ'.1 8 = σ.1 8) (h0 : σ'.2.1 0 = σ.2.1 0) (hw : q = 6 → ∀ s, ht (W 0) s = true → s < ns c) (ha : ∀ b v, b < c.1 → v < nv c → σ'.2.2.2 1 (b * 4 + v) = if b = q then W v else σ.2.2.2 1 (b * 4 + v)) (hi : σ'.2.2.2 1 24 = if q = 6 then W 0 else σ.2.2.2 1 24) (hg : σ'.2.2.2 1 28 = if q = 7 then W 0 else σ.2.2.2 1 28) : CS (pu c q W) σ' := by
  obtain ⟨⟨o1, o2, o3, o4⟩, m1, m2, m3, m4, m5, m6, m7, m8⟩ := h
  refine ⟨⟨o1, o2, o3, fun i => ?_⟩, h5.trans m1, h6.trans m2, h7.trans m3, h8.trans m4, h0.trans m5, fun b v hb hv => ?_, ?_, ?_⟩
  · show ht (if q = 6 then W 0 else c.2.2.2.1) i = true → i < ns c
    by_cases z : q = 6
    · rw [if_pos z]; exact hw z i
    · rw [if_neg z]; exact o4 i
  · rw [ha b v hb hv, m6 b v hb hv]; rfl
  · rw [hi, m7]; rfl
  · rw [hg, m8]; rfl
theorem CS_row (h : CS c σ) (hq : VR c q) (h0 : 0 < nv c) : (q < 6 → ∀ v, v < nv c → σ.2.2.2 1 (q * 4 + v) = rwO c q v) ∧ (6 ≤ q → σ.2.2.2 1 (q * 4) = rwO c q 0) := by
  obtain ⟨o, m1, m2, m3, m4, m5, m6, m7, m8⟩ := h
  refine ⟨fun z v hv => ?_, fun z => ?_⟩
  · unfold rwO
    rw [if_neg (by omega), if_neg (by omega)]
    rcases hq with a | a | a
    · exact m6 q v a hv
    · omega
    · omega
  · rcases hq with a | a | a
    · have := o.2.1; omega
    · subst a; exact m7
    · subst a; exact m8
theorem CM_row (h : CM c τ) (hq : VR c q) : (q < 6 → ∀ v, v < nv c → wsF τ q v = rwO c q v) ∧ (6 ≤ q → ∀ v, wsF τ q v = rwO c q 0) := by
  obtain ⟨o, m1, m2, m3, m4, m5⟩ := h
  refine ⟨fun z v hv => ?_, fun z v => ?_⟩
  · unfold rwO wsF
    rw [if_neg (by omega), if_neg (by omega), if_neg (by omega), if_neg (by omega)]
    rcases hq with a | a | a
    · exact m3 q v a hv
    · omega
    · omega
  · rcases hq with a | a | a
    · have := o.2.1; omega
    · subst a; exact m4
    · subst a; exact m5
theorem X0_keepRow_32_ok (hN : 4000000 ≤ N) (ho : o < 10) (hK : K < 10) (h9 : σ.1 9 = nI o) (h10 : σ.1 10 = nI K) (hr : q < 8) : ∃ σ', X0_keepRow_32 N (nI q) σ = some σ' ∧ FR [10] [] [2] [2] σ σ' ∧ σ'.1 10 = nI (K + 1) ∧ σ'.2.2.1 2 = upd (σ.2.2.1 2) ((o + K) % 10) (nI q) ∧ (∀ v, v < 4 → σ'.2.2.2 2 ((o + K) % 10 * 4 + v) = σ.2.2.2 1 (q * 4 + v)) ∧ ∀ z, (∀ v, v < 4 → z ≠ (o + K) % 10 * 4 + v) → σ'.2.2.2 2 z = σ.2.2.2 2 z := by
  have hs : (o + K) % 10 < 10 := Nat.mod_lt _ (by omega)
  simp (disch := omega) only [X0_keepRow_32, h9, h10, pk_rem, fa_lit, nI_leI, nI_ltI, nI_eq, nI_add, pk_mul, nI_clamp, bd, nm, gd_in, gd_bI, gd_b0, gd_b1, if_pos, if_neg, bI_n0, bI_n1, reduceIte, reduceCtorEq, Nat.add_zero]
  generalize (o + K) % 10 = s at hs ⊢
  refine wf (fun n i u => X0_keepRow_59 (fun σ => X0_keepRow_86 σ) (nI q) (nI s) n (nI i) u) 4 (fun i u => FR [] [] [2] [2] σ u ∧ u.2.2.1 2 = upd (σ.2.2.1 2) s (nI q) ∧ (∀ v, v < i → u.2.2.2 2 (s * 4 + v) = σ.2.2.2 1 (q * 4 + v)) ∧ ∀ z, (∀ v, v < 4 → z ≠ s * 4 + v) → u.2.2.2 2 z = σ.2.2.2 2 z) (fun r' => ∃ σ', r' = some σ' ∧ FR [10] [] [2] [2] σ σ' ∧ σ'.1 10 = nI (K + 1) ∧ σ'.2.2.1 2 = upd (σ.2.2.1 2) s (nI q) ∧ (∀ v, v < 4 → σ'.2.2.2 2 (s * 4 + v) = σ.2.2.2 1 (q * 4 + v)) ∧ ∀ z, (∀ v, v < 4 → z ≠ s * 4 + v) → σ'.2.2.2 2 z = σ.2.2.2 2 z) ?_ ?_ N 0 _ (by omega) ⟨FR.rf.a (by decide), rfl, fun v hv => by omega, fun _ _ => rfl⟩ (by omega)
  · rintro n i u hi ⟨hf, h1, h2, h3⟩
    have e1 : u.2.2.2 1 = σ.2.2.2 1 := hf.2.2.2 1 (by decide)
    refine Or.inr ⟨sb u 2 (s * 4 + i) (σ.2.2.2 1 (q * 4 + i)), ⟨hf.b (by decide), h1, fun v hv => ?_, fun z hz => (v_n (hz i hi)).trans (h3 z hz)⟩, ?_⟩
    · rcases Nat.lt_or_ge v i with y | y
      · exact (v_n (by omega)).trans (h2 v y)
      · have : v = i := by omega
        subst this; exact v_s
    · show X0_keepRow_59 _ _ _ (n + 1) _ _ = X0_keepRow_59 _ _ _ n _ _
      simp (disch := omega) only [X0_keepRow_59, X0_keepRow_59b, X0_table_ok, e1, fa_lit, nI_leI, nI_ltI, nI_eq, nI_add, pk_mul, nI_clamp, bd, nm, gd_in, gd_bI, gd_b0, gd_b1, if_pos, if_neg, bI_n0, bI_n1, reduceIte, reduceCtorEq, Nat.add_zero]
  · rintro n u ⟨hf, h1, h2, h3⟩
    have e10 : u.1 10 = nI K := by rw [hf.1 10 (by decide)]; exact h10
    refine ⟨si u 10 (nI (K + 1)), ?_, (hf.mo (by decide)).i (by decide), rfl, h1, h2, h3⟩
    show X0_keepRow_59 _ _ _ (n + 1) _ _ = _
    simp (disch := omega) only [X0_keepRow_59, X0_keepRow_59b, X0_keepRow_86, e10, fa_lit, nI_leI, nI_ltI, nI_eq, nI_add, pk_mul, nI_clamp, bd, nm, gd_in, gd_bI, gd_b0, gd_b1, if_pos, if_neg, bI_n0, bI_n1, reduceIte, reduceCtorEq, Nat.add_zero]
theorem X7_was_ok (hr : q < 8) {v : Nat} (hv : v < 4) : X7_was τ (nI q) (nI v) = some (wsF τ q v) := by
  unfold wsF
  by_cases a : q = 6
  · rw [if_pos a]
    simp (disch := omega) only [X7_was, fa_lit, nI_leI, nI_ltI, nI_eq, nI_add, pk_mul, nI_clamp, bd, nm, gd_in, gd_bI, gd_b0, gd_b1, if_pos, if_neg, bI_n0, bI_n1, reduceIte, reduceCtorEq, Nat.add_zero]
  · by_cases b : q = 7
    · rw [if_neg a, if_pos b]
      simp (disch := omega) only [X7_was, fa_lit, nI_leI, nI_ltI, nI_eq, nI_add, pk_mul, nI_clamp, bd, nm, gd_in, gd_bI, gd_b0, gd_b1, if_pos, if_neg, bI_n0, bI_n1, reduceIte, reduceCtorEq, Nat.add_zero]
    · rw [if_neg a, if_neg b]
      simp (disch := omega) only [X7_was, fa_lit, nI_leI, nI_ltI, nI_eq, nI_add, pk_mul, nI_clamp, bd, nm, gd_in, gd_bI, gd_b0, gd_b1, if_pos, if_neg, bI_n0, bI_n1, reduceIte, reduceCtorEq, Nat.add_zero]
theorem X7_keep_75_ok (hN : 4000000 ≤ N) (hK : K < 10) (h4 : τ.1 4 = nI K) (hr : q < 8) : ∃ τ', X7_keep_75 N (nI q) τ = some τ' ∧ FR [4, 9] [] [1] [1] τ τ' ∧ τ'.1 4 = nI (K + 1) ∧ τ'.1 9 = 0 ∧ τ'.2.2.1 1 = upd (τ.2.2.1 1) K (nI q) ∧ (∀ v, v < 4 → τ'.2.2.2 1 (4 * K + v) = wsF τ q v) ∧ ∀ z, z < 4 * K → τ'.2.2.2 1 z = τ.2.2.2 1 z := by
  simp (disch := omega) only [X7_keep_75, h4, fa_lit, nI_leI, nI_ltI, nI_eq, nI_add, pk_mul, nI_clamp, bd, nm, gd_in, gd_bI, gd_b0, gd_b1, if_pos, if_neg, bI_n0, bI_n1, reduceIte, reduceCtorEq, Nat.add_zero]
  refine wf (fun n i u => X7_keep_87 (fun σ => X7_keep_117 σ) (nI q) n (nI i) u) 4 (fun i u => FR [] [] [1] [1] τ u ∧ u.2.2.1 1 = upd (τ.2.2.1 1) K (nI q) ∧ (∀ v, v < i → u.2.2.2 1 (4 * K + v) = wsF τ q v) ∧ ∀ z, z < 4 * K → u.2.2.2 1 z = τ.2.2.2 1 z) (fun r' => ∃ τ', r' = some τ' ∧ FR [4, 9] [] [1] [1] τ τ' ∧ τ'.1 4 = nI (K + 1) ∧ τ'.1 9 = nI 0 ∧ τ'.2.2.1 1 = upd (τ.2.2.1 1) K (nI q) ∧ (∀ v, v < 4 → τ'.2.2.2 1 (4 * K + v) = wsF τ q v) ∧ ∀ z, z < 4 * K → τ'.2.2.2 1 z = τ.2.2.2 1 z) ?_ ?_ N 0 _ (by omega) ⟨FR.rf.a (by decide), rfl, fun v hv => by omega, fun _ _ => rfl⟩ (by omega)
  · rintro n i u hi ⟨hf, h1, h2, h3⟩
    have e4 : u.1 4 = nI K := by rw [hf.1 4 (by decide)]; exact h4
    have ew : wsF u q i = wsF τ q i := by unfold wsF; rw [hf.2.1 0 (by decide), hf.2.1 1 (by decide), hf.2.2.2 0 (by decide)]
    refine Or.inr ⟨sb u 1 (4 * K + i) (wsF τ q i), ⟨hf.b (by decide), h1, fun v hv => ?_, fun z hz => (v_n (by omega)).trans (h3 z hz)⟩, ?_⟩
    · rcases Nat.lt_or_ge v i with y | y
      · exact (v_n (by omega)).trans (h2 v y)
      · have : v = i := by omega
        subst this; exact v_s
    · show X7_keep_87 _ _ (n + 1) _ _ = X7_keep_87 _ _ n _ _
      simp (disch := omega) only [X7_keep_87, X7_keep_87b, X7_was_ok, e4, ew, fa_lit, nI_leI, nI_ltI, nI_eq, nI_add, pk_mul, nI_clamp, bd, nm, gd_in, gd_bI, gd_b0, gd_b1, if_pos, if_neg, bI_n0, bI_n1, reduceIte, reduceCtorEq, Nat.add_zero]
  · rintro n u ⟨hf, h1, h2, h3⟩
    have e4 : u.1 4 = nI K := by rw [hf.1 4 (by decide)]; exact h4
    refine ⟨si (si u 4 (nI (K + 1))) 9 (nI 0), ?_, ((hf.mo (by decide)).i (by decide)).i (by decide), rfl, rfl, h1, h2, h3⟩
    show X7_keep_87 _ _ (n + 1) _ _ = _
    simp (disch := omega) only [X7_keep_87, X7_keep_87b, X7_keep_117, e4, fa_lit, nI_leI, nI_ltI, nI_eq, nI_add, pk_mul, nI_clamp, bd, nm, gd_in, gd_bI, gd_b0, gd_b1, if_pos, if_neg, bI_n0, bI_n1, reduceIte, reduceCtorEq, Nat.add_zero]
/-- the oldest one is forgotten -/
theorem X7_keep_10 (hN : 4000000 ≤ N) (v : Int32) (h4 : τ.1 4 = nI 10) : ∃ τ', X7_keep N v τ = X7_keep_75 N v τ' ∧ FR [4] [] [1] [1] τ τ' ∧ τ'.1 4 = nI 9 ∧ (∀ i, i < 9 → τ'.2.2.1 1 i = τ.2.2.1 1 (i + 1)) ∧ ∀ z, z < 36 → τ'.2.2.2 1 z = τ.2.2.2 1 (z + 4) := by
  simp (disch := omega) only [X7_keep, h4, fa_lit, nI_leI, nI_ltI, nI_eq, nI_add, pk_mul, nI_clamp, bd, nm, gd_in, gd_bI, gd_b0, gd_b1, if_pos, if_neg, bI_n0, bI_n1, reduceIte, reduceCtorEq, Nat.add_zero]
  refine wf (fun n i u => X7_keep_11 (fun v1 σ => X7_keep_37 N v1 σ) v n (nI i) u) 10 (fun i u => 1 ≤ i ∧ FR [] [] [1] [] τ u ∧ (∀ z, z + 1 < i → u.2.2.1 1 z = τ.2.2.1 1 (z + 1)) ∧ ∀ z, i ≤ z + 1 → u.2.2.1 1 z = τ.2.2.1 1 z) (fun r' => ∃ τ', r' = X7_keep_75 N v τ' ∧ FR [4] [] [1] [1] τ τ' ∧ τ'.1 4 = nI 9 ∧ (∀ i, i < 9 → τ'.2.2.1 1 i = τ.2.2.1 1 (i + 1)) ∧ ∀ z, z < 36 → τ'.2.2.2 1 z = τ.2.2.2 1 (z + 4)) ?_ ?_ N 1 τ (by omega) ⟨Nat.le_refl _, FR.rf, fun z hz => by omega, fun _ _ => rfl⟩ (by omega)
  · rintro n i u hi ⟨hi0, hf, h1, h2⟩
    have e := h2 i (by omega)
    refine Or.inr ⟨sa u 1 (i - 1) (τ.2.2.1 1 i), ⟨by omega, hf.a (by decide), fun z hz => ?_, fun z hz => (u_n (by omega)).trans (h2 z (by omega))⟩, ?_⟩
    · rcases Classical.em (z = i - 1) with y | y
      · subst y
        rw [show i - 1 + 1 = i by omega]; exact u_s
      · exact (u_n y).trans (h1 z (by omega))
    · show X7_keep_11 _ _ (n + 1) _ _ = X7_keep_11 _ _ n _ _
      simp (disch := omega) only [X7_keep_11, X7_keep_11b, pk_sub, e, fa_lit, nI_leI, nI_ltI, nI_eq, nI_add, pk_mul, nI_clamp, bd, nm, gd_in, gd_bI, gd_b0, gd_b1, if_pos, if_neg, bI_n0, bI_n1, reduceIte, reduceCtorEq, Nat.add_zero]
  · rintro n u ⟨hi0, hf, h1, h2⟩
    show ∃ τ', X7_keep_11 _ _ (n + 1) _ _ = _ ∧ _
    simp (disch := omega) only [X7_keep_11, X7_keep_11b, X7_keep_37, fa_lit, nI_leI, nI_ltI, nI_eq, nI_add, pk_mul, nI_clamp, bd, nm, gd_in, gd_bI, gd_b0, gd_b1, if_pos, if_neg, bI_n0, bI_n1, reduceIte, reduceCtorEq, Nat.add_zero]
    refine wf (fun n i u => X7_keep_39 (fun v1 σ => X7_keep_65 N v1 σ) v n (nI i) u) 40 (fun i s => 4 ≤ i ∧ FR [] [] [] [1] u s ∧ (∀ z, z + 4 < i → s.2.2.2 1 z = u.2.2.2 1 (z + 4)) ∧ ∀ z, i ≤ z + 4 → s.2.2.2 1 z = u.2.2.2 1 z) (fun r' => ∃ τ', r' = X7_keep_75 N v τ' ∧ FR [4] [] [1] [1] τ τ' ∧ τ'.1 4 = nI 9 ∧ (∀ i, i < 9 → τ'.2.2.1 1 i = τ.2.2.1 1 (i + 1)) ∧ ∀ z, z < 36 → τ'.2.2.2 1 z = τ.2.2.2 1 (z + 4)) ?_ ?_ N 4 u (by omega) ⟨Nat.le_refl _, FR.rf, fun z hz => by omega, fun _ _ => rfl⟩ (by omega)
    · rintro n i s hi ⟨g0, gf, g1, g2⟩
      have e := g2 i (by omega)
      refine Or.inr ⟨sb s 1 (i - 4) (u.2.2.2 1 i), ⟨by omega, gf.b (by decide), fun z hz => ?_, fun z hz => (v_n (by omega)).trans (g2 z (by omega))⟩, ?_⟩
      · rcases Classical.em (z = i - 4) with y | y
        · subst y
          rw [show i - 4 + 4 = i by omega]; exact v_s
        · exact (v_n y).trans (g1 z (by omega))
      · show X7_keep_39 _ _ (n + 1) _ _ = X7_keep_39 _ _ n _ _
        simp (disch := omega) only [X7_keep_39, X7_keep_39b, pk_sub, e, fa_lit, nI_leI, nI_ltI, nI_eq, nI_add, pk_mul, nI_clamp, bd, nm, gd_in, gd_bI, gd_b0, gd_b1, if_pos, if_neg, bI_n0, bI_n1, reduceIte, reduceCtorEq, Nat.add_zero]
    · rintro n s ⟨g0, gf, g1, g2⟩
      have e4 : s.1 4 = nI 10 := by rw [gf.1 4 (by decide), hf.1 4 (by decide)]; exact h4
      refine ⟨si s 4 (nI 9), ?_, ((hf.mo (by decide)).tr (gf.mo (by decide))).i (by decide), rfl, fun i hi => ?_, fun z hz => ?_⟩
      · show X7_keep_39 _ _ (n + 1) _ _ = _
        simp (disch := omega) only [X7_keep_39, X7_keep_39b, X7_keep_65, e4, pk_sub, fa_lit, nI_leI, nI_ltI, nI_eq, nI_add, pk_mul, nI_clamp, bd, nm, gd_in, gd_bI, gd_b0, gd_b1, if_pos, if_neg, bI_n0, bI_n1, reduceIte, reduceCtorEq, Nat.add_zero]
      · show s.2.2.1 1 i = _
        rw [gf.2.2.1 1 (by decide)]; exact h1 i (by omega)
      · show s.2.2.2 1 z = _
        rw [g1 z (by omega), hf.2.2.2 1 (by decide)]
theorem keep_1 (hN : 4000000 ≤ N) (hC : okC c) (v : Int32) (hk : KP c K o r w σ τ) : ∃ σ1 τ1 K1 o1 r1 w1, K1 < 10 ∧ KP c K1 o1 r1 w1 σ1 τ1 ∧ FR [9, 10] [] [] [] σ σ1 ∧ FR [4] [] [1] [1] τ τ1 ∧ X0_keepRow N v σ = X0_keepRow_32 N v σ1 ∧ X7_keep N v τ = X7_keep_75 N v τ1 := by
  obtain ⟨k1, k2, k3, k4, k5, k6⟩ := hk
  rcases Nat.lt_or_ge K 10 with z | z
  · refine ⟨σ, τ, K, o, r, w, z, ⟨k1, k2, k3, k4, k5, k6⟩, FR.rf, FR.rf, ?_, ?_⟩
    · simp (disch := omega) only [X0_keepRow, k3, fa_lit, nI_leI, nI_ltI, nI_eq, nI_add, pk_mul, nI_clamp, bd, nm, gd_in, gd_bI, gd_b0, gd_b1, if_pos, if_neg, bI_n0, bI_n1, reduceIte, reduceCtorEq, Nat.add_zero]
    · simp (disch := omega) only [X7_keep, k4, fa_lit, nI_leI, nI_ltI, nI_eq, nI_add, pk_mul, nI_clamp, bd, nm, gd_in, gd_bI, gd_b0, gd_b1, if_pos, if_neg, bI_n0, bI_n1, reduceIte, reduceCtorEq, Nat.add_zero]
  · have : K = 10 := by omega
    subst this
    obtain ⟨τ1, e1, f1, g1, g2, g3⟩ := X7_keep_10 hN v k4
    refine ⟨si (si σ 9 (nI ((o + 1) % 10))) 10 (nI 9), τ1, 9, (o + 1) % 10, fun i => r (i + 1), fun i => w (i + 1), by omega, ⟨by omega, Nat.mod_lt _ (by omega), rfl, g1, rfl, fun i hi => ?_⟩, (FR.rf.i (by decide)).i (by decide), f1, ?_, e1⟩
    · obtain ⟨a1, a2, a3, a4, a5, a6⟩ := k6 (i + 1) (by omega)
      have e : ((o + 1) % 10 + i) % 10 = (o + (i + 1)) % 10 := by omega
      rw [e]
      have g3' : ∀ v, v < 4 → τ1.2.2.2 1 (4 * i + v) = τ.2.2.2 1 (4 * (i + 1) + v) := fun v hv => by
        rw [g3 _ (by omega), show 4 * i + v + 4 = 4 * (i + 1) + v by omega]
      refine ⟨a1, (g2 i hi).trans a2, a3, fun y v hv => ?_, fun y => ⟨fun v hv => (g3' v hv).trans ((a5 y).1 v hv), (a5 y).2⟩, a6⟩
      have hv4 : v < 4 := Nat.lt_of_lt_of_le hv (nv_le hC).2
      exact ⟨(g3' v hv4).trans (a4 y v hv).1, (a4 y v hv).2⟩
    · simp (disch := omega) only [X0_keepRow, k3, k5, pk_rem, si_n, pk_sub, fa_lit, nI_leI, nI_ltI, nI_eq, nI_add, pk_mul, nI_clamp, bd, nm, gd_in, gd_bI, gd_b0, gd_b1, if_pos, if_neg, bI_n0, bI_n1, reduceIte, reduceCtorEq, Nat.add_zero]
theorem keep_2 (hN : 4000000 ≤ N) (h : CM c τ) (h' : CS c σ) (hk : KP c K o r w σ τ) (hK : K < 10) (hq : VR c q) : ∃ σ' τ', X0_keepRow_32 N (nI q) σ = some σ' ∧ X7_keep_75 N (nI q) τ = some τ' ∧ FR [10] [] [2] [2] σ σ' ∧ FR [4, 9] [] [1] [1] τ τ' ∧ τ'.1 9 = 0 ∧ ∃ K o r w, KP c K o r w σ' τ' := by
  have h4 := nv_le h.1
  have hq8 := VR_lt h.1 hq
  obtain ⟨k1, k2, k3, k4, k5, k6⟩ := hk
  obtain ⟨σ', a1, a2, a3, a4, a5, a6⟩ := X0_keepRow_32_ok hN k2 hK k5 k3 hq8
  obtain ⟨τ', b1, b2, b3, b9, b4, b5, b6⟩ := X7_keep_75_ok hN hK k4 hq8
  obtain ⟨s1, s2⟩ := CS_row h' hq (by omega)
  obtain ⟨m1, m2⟩ := CM_row h hq
  refine ⟨σ', τ', a1, b1, a2, b2, b9, K + 1, o, fun i => if i = K then q else r i, fun i => if i = K then rwO c q else w i, by omega, k2, a3, b3, ?_, fun i hi => ?_⟩
  · rw [a2.1 9 (by decide)]; exact k5
  · dsimp only
    rcases Classical.em (i = K) with y | y
    · subst y
      rw [if_pos rfl, if_pos rfl, a4, b4, u_s, u_s]
      refine ⟨hq, rfl, rfl, fun z v hv => ⟨(b5 v (by omega)).trans (m1 z v hv), (a5 v (by omega)).trans (s1 z v hv)⟩, fun z => ⟨fun v hv => (b5 v hv).trans (m2 z v), (a5 0 (by omega)).trans (s2 z)⟩, fun z => ?_⟩
      rw [z]
      exact h.1.2.2.2
    · rw [if_neg y, if_neg y]
      have hi' : i < K := by omega
      obtain ⟨c1, c2, c3, c4, c5, c6⟩ := k6 i hi'
      have hne : (o + i) % 10 ≠ (o + K) % 10 := by omega
      have e2 : ∀ v, v < 4 → σ'.2.2.2 2 ((o + i) % 10 * 4 + v) = σ.2.2.2 2 ((o + i) % 10 * 4 + v) := fun v hv => a6 _ (fun v' hv' => by omega)
      refine ⟨c1, ?_, ?_, fun z v hv => ⟨(b6 _ (by omega)).trans (c4 z v hv).1, (e2 v (by omega)).trans (c4 z v hv).2⟩, fun z => ⟨fun v hv => (b6 _ (by omega)).trans ((c5 z).1 v hv), (e2 0 (by omega)).trans (c5 z).2⟩, c6⟩
      · rw [b4, u_n y]; exact c2
      · rw [a4, u_n hne]; exact c3
theorem keep_ok (hN : 4000000 ≤ N) (h : CM c τ) (h' : CS c σ) (hk : KP c K o r w σ τ) (hq : VR c q) : ∃ σ' τ', X0_keepRow N (nI q) σ = some σ' ∧ X7_keep N (nI q) τ = some τ' ∧ FR [9, 10] [] [2] [2] σ σ' ∧ FR [4, 9] [] [1] [1] τ τ' ∧ τ'.1 9 = 0 ∧ ∃ K o r w, KP c K o r w σ' τ' := by
  obtain ⟨σ1, τ1, K1, o1, r1, w1, a1, a2, a3, a4, a5, a6⟩ := keep_1 hN h.1 (nI q) hk
  obtain ⟨σ', τ', b1, b2, b3, b4, b5, b6⟩ := keep_2 hN (h.fr a4 (by decide)) (h'.fr a3 (by decide)) a2 a1 hq
  exact ⟨σ', τ', a5.trans b1, a6.trans b2, (a3.mo (by decide)).tr (b3.mo (by decide)), (a4.mo (by decide)).tr (b4.mo (by decide)), b5, b6⟩
end KEEP
