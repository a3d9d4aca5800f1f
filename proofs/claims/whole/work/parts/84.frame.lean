/-! 84: what a method leaves alone; rows that are filled and marked; unions over a set -/
def FR (i j a b : List Nat) (σ σ' : St) : Prop := (∀ k, k ∉ i → σ'.1 k = σ.1 k) ∧ (∀ k, k ∉ j → σ'.2.1 k = σ.2.1 k) ∧ (∀ k, k ∉ a → σ'.2.2.1 k = σ.2.2.1 k) ∧ (∀ k, k ∉ b → σ'.2.2.2 k = σ.2.2.2 k)
section FRAME
variable {di dj da db di' dj' da' db' : List Nat} {σ σ1 σ2 : St} {c : Ck} {N : Nat}
theorem FR.rf : FR di dj da db σ σ := ⟨fun _ _ => rfl, fun _ _ => rfl, fun _ _ => rfl, fun _ _ => rfl⟩
theorem FR.tr (h : FR di dj da db σ σ1) (h' : FR di dj da db σ1 σ2) : FR di dj da db σ σ2 := ⟨fun k q => (h'.1 k q).trans (h.1 k q), fun k q => (h'.2.1 k q).trans (h.2.1 k q), fun k q => (h'.2.2.1 k q).trans (h.2.2.1 k q), fun k q => (h'.2.2.2 k q).trans (h.2.2.2 k q)⟩
theorem FR.mo (h : FR di dj da db σ σ1) (d : (∀ x ∈ di, x ∈ di') ∧ (∀ x ∈ dj, x ∈ dj') ∧ (∀ x ∈ da, x ∈ da') ∧ (∀ x ∈ db, x ∈ db')) : FR di' dj' da' db' σ σ1 := ⟨fun k q => h.1 k (fun z => q (d.1 k z)), fun k q => h.2.1 k (fun z => q (d.2.1 k z)), fun k q => h.2.2.1 k (fun z => q (d.2.2.1 k z)), fun k q => h.2.2.2 k (fun z => q (d.2.2.2 k z))⟩
theorem up_ne {α : Type} {f : Nat → α} {k q : Nat} {v : α} (h : q ≠ k) : va_up f k v q = f q := if_neg h
theorem FR.i {k : Nat} {v : Int32} (h : FR di dj da db σ σ1) (m : k ∈ di) : FR di dj da db σ (si σ1 k v) := ⟨fun q z => (up_ne (fun (e : q = k) => z (by rw [e]; exact m))).trans (h.1 q z), h.2.1, h.2.2.1, h.2.2.2⟩
theorem FR.j {k : Nat} {v : Int64} (h : FR di dj da db σ σ1) (m : k ∈ dj) : FR di dj da db σ (sj σ1 k v) := ⟨h.1, fun q z => (up_ne (fun (e : q = k) => z (by rw [e]; exact m))).trans (h.2.1 q z), h.2.2.1, h.2.2.2⟩
theorem FR.a {k x : Nat} {v : Int32} (h : FR di dj da db σ σ1) (m : k ∈ da) : FR di dj da db σ (sa σ1 k x v) := ⟨h.1, h.2.1, fun q z => (up_ne (fun (e : q = k) => z (by rw [e]; exact m))).trans (h.2.2.1 q z), h.2.2.2⟩
theorem FR.A {k : Nat} {f : Nat → Int32} (h : FR di dj da db σ σ1) (m : k ∈ da) : FR di dj da db σ (sA σ1 k f) := ⟨h.1, h.2.1, fun q z => (up_ne (fun (e : q = k) => z (by rw [e]; exact m))).trans (h.2.2.1 q z), h.2.2.2⟩
theorem FR.b {k x : Nat} {v : Int64} (h : FR di dj da db σ σ1) (m : k ∈ db) : FR di dj da db σ (sb σ1 k x v) := ⟨h.1, h.2.1, h.2.2.1, fun q z => (up_ne (fun (e : q = k) => z (by rw [e]; exact m))).trans (h.2.2.2 q z)⟩
theorem CM.fr (h : CM c σ) (f : FR di dj da db σ σ1) (d : 1 ∉ di ∧ 2 ∉ di ∧ 0 ∉ dj ∧ 1 ∉ dj ∧ 0 ∉ db) : CM c σ1 := by
  unfold CM
  rw [f.1 1 d.1, f.1 2 d.2.1, f.2.1 0 d.2.2.1, f.2.1 1 d.2.2.2.1, f.2.2.2 0 d.2.2.2.2]
  exact h
theorem CS.fr (h : CS c σ) (f : FR di dj da db σ σ1) (d : (5 ∉ di ∧ 6 ∉ di ∧ 7 ∉ di ∧ 8 ∉ di) ∧ 0 ∉ dj ∧ 1 ∉ db) : CS c σ1 := by
  unfold CS
  rw [f.1 5 d.1.1, f.1 6 d.1.2.1, f.1 7 d.1.2.2.1, f.1 8 d.1.2.2.2, f.2.1 0 d.2.1, f.2.2.2 1 d.2.2]
  exact h
theorem u_s {f : Nat → Int32} {k : Nat} {v : Int32} : upd f k v k = v := if_pos rfl
theorem u_n {f : Nat → Int32} {k q : Nat} {v : Int32} (h : q ≠ k) : upd f k v q = f q := if_neg h
theorem v_s {f : Nat → Int64} {k : Nat} {v : Int64} : vp_updL f k v k = v := if_pos rfl
theorem v_n {f : Nat → Int64} {k q : Nat} {v : Int64} (h : q ≠ k) : vp_updL f k v q = f q := if_neg h
theorem J7_fill_d0a16_a15_ok (hN : 4000000 ≤ N) (v : Int64) (σ : St) : ∃ σ', J7_fill_d0a16_a15 N v σ = some σ' ∧ FR [] [] [] [4] σ σ' ∧ ∀ t, t < 64 → σ'.2.2.2 4 t = v := by
  unfold J7_fill_d0a16_a15
  refine wf (fun n x s => J7_fill_d0a16_a15_6 (fun σ => J7_fill_d0a16_a15_22 σ) v (nI 64) n (nI x) s) 64 (fun x s => FR [] [] [] [4] σ s ∧ ∀ t, t < x → s.2.2.2 4 t = v) (fun r => ∃ σ', r = some σ' ∧ FR [] [] [] [4] σ σ' ∧ ∀ t, t < 64 → σ'.2.2.2 4 t = v) ?_ ?_ N 0 σ (by omega) ⟨FR.rf, fun t h => by omega⟩ (by omega)
  · rintro n x s hx ⟨h1, h2⟩
    refine Or.inr ⟨sb s 4 x v, ⟨h1.b (by decide), fun t ht' => ?_⟩, ?_⟩
    · show vp_updL (s.2.2.2 4) x v t = v
      rcases Nat.lt_or_ge t x with q | q
      · rw [v_n (by omega)]; exact h2 t q
      · have : t = x := by omega
        subst this; exact v_s
    · show J7_fill_d0a16_a15_6 _ _ _ (n + 1) _ _ = J7_fill_d0a16_a15_6 _ _ _ n _ _
      simp (disch := omega) only [J7_fill_d0a16_a15_6, J7_fill_d0a16_a15_6b, fa_lit, nI_leI, nI_ltI, nI_eq, nI_add, pk_mul, nI_clamp, bd, nm, gd_in, gd_bI, gd_b0, gd_b1, if_pos, if_neg, bI_n0, bI_n1, reduceIte, reduceCtorEq, Nat.add_zero]
  · rintro n s ⟨h1, h2⟩
    refine ⟨s, ?_, h1, h2⟩
    show J7_fill_d0a16_a15_6 _ _ _ (n + 1) _ _ = _
    simp (disch := omega) only [J7_fill_d0a16_a15_6, J7_fill_d0a16_a15_6b, J7_fill_d0a16_a15_22, fa_lit, nI_leI, nI_ltI, nI_eq, nI_add, pk_mul, nI_clamp, bd, nm, gd_in, gd_bI, gd_b0, gd_b1, if_pos, if_neg, bI_n0, bI_n1, reduceIte, reduceCtorEq, Nat.add_zero]
theorem J7_fill_53178_a16_ok (hN : 4000000 ≤ N) (v : Int32) (σ : St) : ∃ σ', J7_fill_53178_a16 N v σ = some σ' ∧ FR [] [] [4] [] σ σ' ∧ ∀ t, t < 64 → σ'.2.2.1 4 t = v := by
  unfold J7_fill_53178_a16
  refine wf (fun n x s => J7_fill_53178_a16_5 (fun σ => J7_fill_53178_a16_20 σ) v (nI 64) n (nI x) s) 64 (fun x s => FR [] [] [4] [] σ s ∧ ∀ t, t < x → s.2.2.1 4 t = v) (fun r => ∃ σ', r = some σ' ∧ FR [] [] [4] [] σ σ' ∧ ∀ t, t < 64 → σ'.2.2.1 4 t = v) ?_ ?_ N 0 σ (by omega) ⟨FR.rf, fun t h => by omega⟩ (by omega)
  · rintro n x s hx ⟨h1, h2⟩
    refine Or.inr ⟨sa s 4 x v, ⟨h1.a (by decide), fun t ht' => ?_⟩, ?_⟩
    · show upd (s.2.2.1 4) x v t = v
      rcases Nat.lt_or_ge t x with q | q
      · rw [u_n (by omega)]; exact h2 t q
      · have : t = x := by omega
        subst this; exact u_s
    · show J7_fill_53178_a16_5 _ _ _ (n + 1) _ _ = J7_fill_53178_a16_5 _ _ _ n _ _
      simp (disch := omega) only [J7_fill_53178_a16_5, J7_fill_53178_a16_5b, fa_lit, nI_leI, nI_ltI, nI_eq, nI_add, pk_mul, nI_clamp, bd, nm, gd_in, gd_bI, gd_b0, gd_b1, if_pos, if_neg, bI_n0, bI_n1, reduceIte, reduceCtorEq, Nat.add_zero]
  · rintro n s ⟨h1, h2⟩
    refine ⟨s, ?_, h1, h2⟩
    show J7_fill_53178_a16_5 _ _ _ (n + 1) _ _ = _
    simp (disch := omega) only [J7_fill_53178_a16_5, J7_fill_53178_a16_5b, J7_fill_53178_a16_20, fa_lit, nI_leI, nI_ltI, nI_eq, nI_add, pk_mul, nI_clamp, bd, nm, gd_in, gd_bI, gd_b0, gd_b1, if_pos, if_neg, bI_n0, bI_n1, reduceIte, reduceCtorEq, Nat.add_zero]
theorem J7_fill_53178_a17_ok (hN : 4000000 ≤ N) (v : Int32) (σ : St) : ∃ σ', J7_fill_53178_a17 N v σ = some σ' ∧ FR [] [] [5] [] σ σ' ∧ ∀ t, t < 64 → σ'.2.2.1 5 t = v := by
  unfold J7_fill_53178_a17
  refine wf (fun n x s => J7_fill_53178_a17_5 (fun σ => J7_fill_53178_a17_20 σ) v (nI 64) n (nI x) s) 64 (fun x s => FR [] [] [5] [] σ s ∧ ∀ t, t < x → s.2.2.1 5 t = v) (fun r => ∃ σ', r = some σ' ∧ FR [] [] [5] [] σ σ' ∧ ∀ t, t < 64 → σ'.2.2.1 5 t = v) ?_ ?_ N 0 σ (by omega) ⟨FR.rf, fun t h => by omega⟩ (by omega)
  · rintro n x s hx ⟨h1, h2⟩
    refine Or.inr ⟨sa s 5 x v, ⟨h1.a (by decide), fun t ht' => ?_⟩, ?_⟩
    · show upd (s.2.2.1 5) x v t = v
      rcases Nat.lt_or_ge t x with q | q
      · rw [u_n (by omega)]; exact h2 t q
      · have : t = x := by omega
        subst this; exact u_s
    · show J7_fill_53178_a17_5 _ _ _ (n + 1) _ _ = J7_fill_53178_a17_5 _ _ _ n _ _
      simp (disch := omega) only [J7_fill_53178_a17_5, J7_fill_53178_a17_5b, fa_lit, nI_leI, nI_ltI, nI_eq, nI_add, pk_mul, nI_clamp, bd, nm, gd_in, gd_bI, gd_b0, gd_b1, if_pos, if_neg, bI_n0, bI_n1, reduceIte, reduceCtorEq, Nat.add_zero]
  · rintro n s ⟨h1, h2⟩
    refine ⟨s, ?_, h1, h2⟩
    show J7_fill_53178_a17_5 _ _ _ (n + 1) _ _ = _
    simp (disch := omega) only [J7_fill_53178_a17_5, J7_fill_53178_a17_5b, J7_fill_53178_a17_20, fa_lit, nI_leI, nI_ltI, nI_eq, nI_add, pk_mul, nI_clamp, bd, nm, gd_in, gd_bI, gd_b0, gd_b1, if_pos, if_neg, bI_n0, bI_n1, reduceIte, reduceCtorEq, Nat.add_zero]
theorem J7_fill_d0a16_a20_ok (hN : 4000000 ≤ N) (v : Int64) (σ : St) : ∃ σ', J7_fill_d0a16_a20 N v σ = some σ' ∧ FR [] [] [] [5] σ σ' ∧ ∀ t, t < 70 → σ'.2.2.2 5 t = v := by
  unfold J7_fill_d0a16_a20
  refine wf (fun n x s => J7_fill_d0a16_a20_6 (fun σ => J7_fill_d0a16_a20_22 σ) v (nI 70) n (nI x) s) 70 (fun x s => FR [] [] [] [5] σ s ∧ ∀ t, t < x → s.2.2.2 5 t = v) (fun r => ∃ σ', r = some σ' ∧ FR [] [] [] [5] σ σ' ∧ ∀ t, t < 70 → σ'.2.2.2 5 t = v) ?_ ?_ N 0 σ (by omega) ⟨FR.rf, fun t h => by omega⟩ (by omega)
  · rintro n x s hx ⟨h1, h2⟩
    refine Or.inr ⟨sb s 5 x v, ⟨h1.b (by decide), fun t ht' => ?_⟩, ?_⟩
    · show vp_updL (s.2.2.2 5) x v t = v
      rcases Nat.lt_or_ge t x with q | q
      · rw [v_n (by omega)]; exact h2 t q
      · have : t = x := by omega
        subst this; exact v_s
    · show J7_fill_d0a16_a20_6 _ _ _ (n + 1) _ _ = J7_fill_d0a16_a20_6 _ _ _ n _ _
      simp (disch := omega) only [J7_fill_d0a16_a20_6, J7_fill_d0a16_a20_6b, fa_lit, nI_leI, nI_ltI, nI_eq, nI_add, pk_mul, nI_clamp, bd, nm, gd_in, gd_bI, gd_b0, gd_b1, if_pos, if_neg, bI_n0, bI_n1, reduceIte, reduceCtorEq, Nat.add_zero]
  · rintro n s ⟨h1, h2⟩
    refine ⟨s, ?_, h1, h2⟩
    show J7_fill_d0a16_a20_6 _ _ _ (n + 1) _ _ = _
    simp (disch := omega) only [J7_fill_d0a16_a20_6, J7_fill_d0a16_a20_6b, J7_fill_d0a16_a20_22, fa_lit, nI_leI, nI_ltI, nI_eq, nI_add, pk_mul, nI_clamp, bd, nm, gd_in, gd_bI, gd_b0, gd_b1, if_pos, if_neg, bI_n0, bI_n1, reduceIte, reduceCtorEq, Nat.add_zero]
theorem J7_fill_d0a16_a21_ok (hN : 4000000 ≤ N) (v : Int64) (σ : St) : ∃ σ', J7_fill_d0a16_a21 N v σ = some σ' ∧ FR [] [] [] [6] σ σ' ∧ ∀ t, t < 70 → σ'.2.2.2 6 t = v := by
  unfold J7_fill_d0a16_a21
  refine wf (fun n x s => J7_fill_d0a16_a21_6 (fun σ => J7_fill_d0a16_a21_22 σ) v (nI 70) n (nI x) s) 70 (fun x s => FR [] [] [] [6] σ s ∧ ∀ t, t < x → s.2.2.2 6 t = v) (fun r => ∃ σ', r = some σ' ∧ FR [] [] [] [6] σ σ' ∧ ∀ t, t < 70 → σ'.2.2.2 6 t = v) ?_ ?_ N 0 σ (by omega) ⟨FR.rf, fun t h => by omega⟩ (by omega)
  · rintro n x s hx ⟨h1, h2⟩
    refine Or.inr ⟨sb s 6 x v, ⟨h1.b (by decide), fun t ht' => ?_⟩, ?_⟩
    · show vp_updL (s.2.2.2 6) x v t = v
      rcases Nat.lt_or_ge t x with q | q
      · rw [v_n (by omega)]; exact h2 t q
      · have : t = x := by omega
        subst this; exact v_s
    · show J7_fill_d0a16_a21_6 _ _ _ (n + 1) _ _ = J7_fill_d0a16_a21_6 _ _ _ n _ _
      simp (disch := omega) only [J7_fill_d0a16_a21_6, J7_fill_d0a16_a21_6b, fa_lit, nI_leI, nI_ltI, nI_eq, nI_add, pk_mul, nI_clamp, bd, nm, gd_in, gd_bI, gd_b0, gd_b1, if_pos, if_neg, bI_n0, bI_n1, reduceIte, reduceCtorEq, Nat.add_zero]
  · rintro n s ⟨h1, h2⟩
    refine ⟨s, ?_, h1, h2⟩
    show J7_fill_d0a16_a21_6 _ _ _ (n + 1) _ _ = _
    simp (disch := omega) only [J7_fill_d0a16_a21_6, J7_fill_d0a16_a21_6b, J7_fill_d0a16_a21_22, fa_lit, nI_leI, nI_ltI, nI_eq, nI_add, pk_mul, nI_clamp, bd, nm, gd_in, gd_bI, gd_b0, gd_b1, if_pos, if_neg, bI_n0, bI_n1, reduceIte, reduceCtorEq, Nat.add_zero]
theorem X2_mark_a16_ok (hN : 4000000 ≤ N) (x : Int64) (w : Int32) (σ : St) : ∃ σ', X2_mark_a16 N x w σ = some σ' ∧ FR [] [] [4] [] σ σ' ∧ ∀ t, t < 64 → σ'.2.2.1 4 t = if ht x t = true then w else σ.2.2.1 4 t := by
  unfold X2_mark_a16
  refine wf (fun n i s => X2_mark_a16_3 (fun σ => X2_mark_a16_37 σ) x w n (nI i) s) 64 (fun i s => FR [] [] [4] [] σ s ∧ (∀ t, t < i → s.2.2.1 4 t = if ht x t = true then w else σ.2.2.1 4 t) ∧ ∀ t, i ≤ t → s.2.2.1 4 t = σ.2.2.1 4 t) (fun r => ∃ σ', r = some σ' ∧ FR [] [] [4] [] σ σ' ∧ ∀ t, t < 64 → σ'.2.2.1 4 t = if ht x t = true then w else σ.2.2.1 4 t) ?_ ?_ N 0 σ (by omega) ⟨FR.rf, fun t h => by omega, fun _ _ => rfl⟩ (by omega)
  · rintro n i s hi ⟨h1, h2, h3⟩
    cases e : ht x i
    · refine Or.inr ⟨s, ⟨h1, fun t ht' => ?_, fun t ht' => h3 t (by omega)⟩, ?_⟩
      · rcases Nat.lt_or_ge t i with q | q
        · exact h2 t q
        · have : t = i := by omega
          subst this; rw [e, h3 t (by omega)]; rfl
      · show X2_mark_a16_3 _ _ _ (n + 1) _ _ = X2_mark_a16_3 _ _ _ n _ _
        simp (disch := omega) only [X2_mark_a16_3, X2_mark_a16_3b, X6_contains_ok, e, fa_lit, nI_leI, nI_ltI, nI_eq, nI_add, pk_mul, nI_clamp, bd, nm, gd_in, gd_bI, gd_b0, gd_b1, if_pos, if_neg, bI_n0, bI_n1, reduceIte, reduceCtorEq, Nat.add_zero]
    · refine Or.inr ⟨sa s 4 i w, ⟨h1.a (by decide), fun t ht' => ?_, fun t ht' => (u_n (by omega)).trans (h3 t (by omega))⟩, ?_⟩
      · show upd (s.2.2.1 4) i w t = _
        rcases Nat.lt_or_ge t i with q | q
        · rw [u_n (by omega)]; exact h2 t q
        · have : t = i := by omega
          subst this; rw [e, u_s]; rfl
      · show X2_mark_a16_3 _ _ _ (n + 1) _ _ = X2_mark_a16_3 _ _ _ n _ _
        simp (disch := omega) only [X2_mark_a16_3, X2_mark_a16_3b, X6_contains_ok, e, fa_lit, nI_leI, nI_ltI, nI_eq, nI_add, pk_mul, nI_clamp, bd, nm, gd_in, gd_bI, gd_b0, gd_b1, if_pos, if_neg, bI_n0, bI_n1, reduceIte, reduceCtorEq, Nat.add_zero]
  · rintro n s ⟨h1, h2, _⟩
    refine ⟨s, ?_, h1, h2⟩
    show X2_mark_a16_3 _ _ _ (n + 1) _ _ = _
    simp (disch := omega) only [X2_mark_a16_3, X2_mark_a16_3b, X2_mark_a16_37, fa_lit, nI_leI, nI_ltI, nI_eq, nI_add, pk_mul, nI_clamp, bd, nm, gd_in, gd_bI, gd_b0, gd_b1, if_pos, if_neg, bI_n0, bI_n1, reduceIte, reduceCtorEq, Nat.add_zero]
theorem X2_mark_a17_ok (hN : 4000000 ≤ N) (x : Int64) (w : Int32) (σ : St) : ∃ σ', X2_mark_a17 N x w σ = some σ' ∧ FR [] [] [5] [] σ σ' ∧ ∀ t, t < 64 → σ'.2.2.1 5 t = if ht x t = true then w else σ.2.2.1 5 t := by
  unfold X2_mark_a17
  refine wf (fun n i s => X2_mark_a17_3 (fun σ => X2_mark_a17_37 σ) x w n (nI i) s) 64 (fun i s => FR [] [] [5] [] σ s ∧ (∀ t, t < i → s.2.2.1 5 t = if ht x t = true then w else σ.2.2.1 5 t) ∧ ∀ t, i ≤ t → s.2.2.1 5 t = σ.2.2.1 5 t) (fun r => ∃ σ', r = some σ' ∧ FR [] [] [5] [] σ σ' ∧ ∀ t, t < 64 → σ'.2.2.1 5 t = if ht x t = true then w else σ.2.2.1 5 t) ?_ ?_ N 0 σ (by omega) ⟨FR.rf, fun t h => by omega, fun _ _ => rfl⟩ (by omega)
  · rintro n i s hi ⟨h1, h2, h3⟩
    cases e : ht x i
    · refine Or.inr ⟨s, ⟨h1, fun t ht' => ?_, fun t ht' => h3 t (by omega)⟩, ?_⟩
      · rcases Nat.lt_or_ge t i with q | q
        · exact h2 t q
        · have : t = i := by omega
          subst this; rw [e, h3 t (by omega)]; rfl
      · show X2_mark_a17_3 _ _ _ (n + 1) _ _ = X2_mark_a17_3 _ _ _ n _ _
        simp (disch := omega) only [X2_mark_a17_3, X2_mark_a17_3b, X6_contains_ok, e, fa_lit, nI_leI, nI_ltI, nI_eq, nI_add, pk_mul, nI_clamp, bd, nm, gd_in, gd_bI, gd_b0, gd_b1, if_pos, if_neg, bI_n0, bI_n1, reduceIte, reduceCtorEq, Nat.add_zero]
    · refine Or.inr ⟨sa s 5 i w, ⟨h1.a (by decide), fun t ht' => ?_, fun t ht' => (u_n (by omega)).trans (h3 t (by omega))⟩, ?_⟩
      · show upd (s.2.2.1 5) i w t = _
        rcases Nat.lt_or_ge t i with q | q
        · rw [u_n (by omega)]; exact h2 t q
        · have : t = i := by omega
          subst this; rw [e, u_s]; rfl
      · show X2_mark_a17_3 _ _ _ (n + 1) _ _ = X2_mark_a17_3 _ _ _ n _ _
        simp (disch := omega) only [X2_mark_a17_3, X2_mark_a17_3b, X6_contains_ok, e, fa_lit, nI_leI, nI_ltI, nI_eq, nI_add, pk_mul, nI_clamp, bd, nm, gd_in, gd_bI, gd_b0, gd_b1, if_pos, if_neg, bI_n0, bI_n1, reduceIte, reduceCtorEq, Nat.add_zero]
  · rintro n s ⟨h1, h2, _⟩
    refine ⟨s, ?_, h1, h2⟩
    show X2_mark_a17_3 _ _ _ (n + 1) _ _ = _
    simp (disch := omega) only [X2_mark_a17_3, X2_mark_a17_3b, X2_mark_a17_37, fa_lit, nI_leI, nI_ltI, nI_eq, nI_add, pk_mul, nI_clamp, bd, nm, gd_in, gd_bI, gd_b0, gd_b1, if_pos, if_neg, bI_n0, bI_n1, reduceIte, reduceCtorEq, Nat.add_zero]
theorem pc_pos {x : Int64} (h : x ≠ 0) : 0 < pc x := by
  obtain ⟨i, hi, h1⟩ := h_nz h
  have := pc_lt (x := 0) (y := x) (fun q z => by rw [h_0] at z; cases z) (h_0 i) h1
  omega
theorem pc_rest {x : Int64} (h : x ≠ 0) : pc (x &&& (x - 1)) < pc x := by
  obtain ⟨a, b, _⟩ := ls_ok h
  refine pc_lt (fun i z => ?_) (i := ls x) ?_ b
  · rw [h_rest, Bool.and_eq_true] at z; exact z.1
  · rw [h_rest]; simp
def uni (g : Nat → Int64) (x : Int64) : Int64 := mk64 (fun t => ax (fun s => ht x s && ht (g s) t) 64)
theorem li_ok {x : Int64} (h : x ≠ 0) : li x = nI (ls x) := if_neg h
theorem X2_unionOver_a14_ok (hN : 4000000 ≤ N) (x : Int64) : X2_unionOver_a14 N σ x = some (uni (σ.2.2.2 3) x) := by
  unfold X2_unionOver_a14
  refine wl (fun n (p : Int64 × Int64 × Nat) => X2_unionOver_a14_8 (fun v3 => X2_unionOver_a14_63 σ v3) σ n p.1 p.2.1 (nI p.2.2)) (fun p => 64 - p.2.2) (fun p => p.1 = mk64 (fun t => ax (fun s => (ht x s && !ht p.2.1 s) && ht (σ.2.2.2 3 s) t) 64) ∧ (∀ i, ht p.2.1 i = true → ht x i = true) ∧ p.2.2 + pc p.2.1 ≤ 64) (fun r => r = some (uni (σ.2.2.2 3) x)) ?_ N (0, x, 0) ⟨h_ext (fun i hi => ?_), fun i h => h, ?_⟩ (by show 64 - 0 < N; omega)
  · rintro n ⟨y, r, k⟩ ⟨h1, h2, h3⟩
    dsimp only at h1 h2 h3
    subst h1
    rcases Classical.em (r = 0) with hr | hr
    · subst hr
      refine Or.inl ?_
      show X2_unionOver_a14_8 _ σ (n + 1) _ _ _ = _
      have e : mk64 (fun t => ax (fun s => (ht x s && !ht 0 s) && ht (σ.2.2.2 3 s) t) 64) = uni (σ.2.2.2 3) x := mk_ext (fun t _ => ax_congr (fun s _ => by rw [h_0]; simp))
      rcases Nat.lt_or_ge k 64 with q | q
      · simp only [X2_unionOver_a14_8, X2_unionOver_a14_8b, X2_unionOver_a14_63, e, if_true, fa_lit, ite_self]
      · simp only [X2_unionOver_a14_8, X2_unionOver_a14_8b, X2_unionOver_a14_63, e, if_true, fa_lit, ite_self]
    · refine Or.inr ⟨(mk64 (fun t => ax (fun s => (ht x s && !ht (r &&& (r - 1)) s) && ht (σ.2.2.2 3 s) t) 64), r &&& (r - 1), k + 1), ⟨rfl, fun i hi => ?_, ?_⟩, ?_, ?_⟩
      · dsimp only at hi
        rw [h_rest, Bool.and_eq_true] at hi
        exact h2 i hi.1
      · have := pc_rest hr
        dsimp only
        omega
      · have := pc_pos hr
        show 64 - (k + 1) < 64 - k
        omega
      · show X2_unionOver_a14_8 _ σ (n + 1) _ _ _ = X2_unionOver_a14_8 _ σ n _ _ _
        have hp := pc_pos hr
        obtain ⟨l1, l2, l3⟩ := ls_ok hr
        have e : mk64 (fun t => ax (fun s => (ht x s && !ht r s) && ht (σ.2.2.2 3 s) t) 64) ||| σ.2.2.2 3 (ls r) = mk64 (fun t => ax (fun s => (ht x s && !ht (r &&& (r - 1)) s) && ht (σ.2.2.2 3 s) t) 64) := by
          apply h_ext
          intro t ht'
          rw [h_or, h_mk' _ ht', h_mk' _ ht', Bool.eq_iff_iff, Bool.or_eq_true, ax_t, ax_t]
          constructor
          · rintro (⟨s, q1, q2⟩ | q)
            · refine ⟨s, q1, ?_⟩
              rw [h_rest]
              revert q2
              cases ht x s <;> cases ht r s <;> cases ht (σ.2.2.2 3 s) t <;> simp
            · refine ⟨ls r, l1, ?_⟩
              rw [h_rest, q, h2 _ l2]
              simp
          · rintro ⟨s, q1, q2⟩
            rw [h_rest] at q2
            rcases Classical.em (s = ls r) with z | z
            · subst z
              refine Or.inr ?_
              revert q2
              cases ht (σ.2.2.2 3 (ls r)) t <;> simp
            · refine Or.inl ⟨s, q1, ?_⟩
              revert q2
              cases ht x s <;> cases ht r s <;> cases ht (σ.2.2.2 3 s) t <;> simp [z]
        simp (disch := omega) only [X2_unionOver_a14_8, X2_unionOver_a14_8b, X2_unionOver_a14_48, X6_leastOf_ok, li_ok hr, hr, e, fa_lit, nI_leI, nI_ltI, nI_eq, nI_add, pk_mul, nI_clamp, bd, nm, gd_in, gd_bI, gd_b0, gd_b1, if_pos, if_neg, bI_n0, bI_n1, reduceIte, reduceCtorEq, Nat.add_zero]
  · dsimp only
    rw [h_0, h_mk' _ hi]
    symm
    rw [ax_f]
    intro s _
    cases ht x s <;> simp
  · have := pc_le x
    dsimp only
    omega
theorem X2_unionOver_a15_ok (hN : 4000000 ≤ N) (x : Int64) : X2_unionOver_a15 N σ x = some (uni (σ.2.2.2 4) x) := by
  unfold X2_unionOver_a15
  refine wl (fun n (p : Int64 × Int64 × Nat) => X2_unionOver_a15_8 (fun v3 => X2_unionOver_a15_63 σ v3) σ n p.1 p.2.1 (nI p.2.2)) (fun p => 64 - p.2.2) (fun p => p.1 = mk64 (fun t => ax (fun s => (ht x s && !ht p.2.1 s) && ht (σ.2.2.2 4 s) t) 64) ∧ (∀ i, ht p.2.1 i = true → ht x i = true) ∧ p.2.2 + pc p.2.1 ≤ 64) (fun r => r = some (uni (σ.2.2.2 4) x)) ?_ N (0, x, 0) ⟨h_ext (fun i hi => ?_), fun i h => h, ?_⟩ (by show 64 - 0 < N; omega)
  · rintro n ⟨y, r, k⟩ ⟨h1, h2, h3⟩
    dsimp only at h1 h2 h3
    subst h1
    rcases Classical.em (r = 0) with hr | hr
    · subst hr
      refine Or.inl ?_
      show X2_unionOver_a15_8 _ σ (n + 1) _ _ _ = _
      have e : mk64 (fun t => ax (fun s => (ht x s && !ht 0 s) && ht (σ.2.2.2 4 s) t) 64) = uni (σ.2.2.2 4) x := mk_ext (fun t _ => ax_congr (fun s _ => by rw [h_0]; simp))
      rcases Nat.lt_or_ge k 64 with q | q
      · simp only [X2_unionOver_a15_8, X2_unionOver_a15_8b, X2_unionOver_a15_63, e, if_true, fa_lit, ite_self]
      · simp only [X2_unionOver_a15_8, X2_unionOver_a15_8b, X2_unionOver_a15_63, e, if_true, fa_lit, ite_self]
    · refine Or.inr ⟨(mk64 (fun t => ax (fun s => (ht x s && !ht (r &&& (r - 1)) s) && ht (σ.2.2.2 4 s) t) 64), r &&& (r - 1), k + 1), ⟨rfl, fun i hi => ?_, ?_⟩, ?_, ?_⟩
      · dsimp only at hi
        rw [h_rest, Bool.and_eq_true] at hi
        exact h2 i hi.1
      · have := pc_rest hr
        dsimp only
        omega
      · have := pc_pos hr
        show 64 - (k + 1) < 64 - k
        omega
      · show X2_unionOver_a15_8 _ σ (n + 1) _ _ _ = X2_unionOver_a15_8 _ σ n _ _ _
        have hp := pc_pos hr
        obtain ⟨l1, l2, l3⟩ := ls_ok hr
        have e : mk64 (fun t => ax (fun s => (ht x s && !ht r s) && ht (σ.2.2.2 4 s) t) 64) ||| σ.2.2.2 4 (ls r) = mk64 (fun t => ax (fun s => (ht x s && !ht (r &&& (r - 1)) s) && ht (σ.2.2.2 4 s) t) 64) := by
          apply h_ext
          intro t ht'
          rw [h_or, h_mk' _ ht', h_mk' _ ht', Bool.eq_iff_iff, Bool.or_eq_true, ax_t, ax_t]
          constructor
          · rintro (⟨s, q1, q2⟩ | q)
            · refine ⟨s, q1, ?_⟩
              rw [h_rest]
              revert q2
              cases ht x s <;> cases ht r s <;> cases ht (σ.2.2.2 4 s) t <;> simp
            · refine ⟨ls r, l1, ?_⟩
              rw [h_rest, q, h2 _ l2]
              simp
          · rintro ⟨s, q1, q2⟩
            rw [h_rest] at q2
            rcases Classical.em (s = ls r) with z | z
            · subst z
              refine Or.inr ?_
              revert q2
              cases ht (σ.2.2.2 4 (ls r)) t <;> simp
            · refine Or.inl ⟨s, q1, ?_⟩
              revert q2
              cases ht x s <;> cases ht r s <;> cases ht (σ.2.2.2 4 s) t <;> simp [z]
        simp (disch := omega) only [X2_unionOver_a15_8, X2_unionOver_a15_8b, X2_unionOver_a15_48, X6_leastOf_ok, li_ok hr, hr, e, fa_lit, nI_leI, nI_ltI, nI_eq, nI_add, pk_mul, nI_clamp, bd, nm, gd_in, gd_bI, gd_b0, gd_b1, if_pos, if_neg, bI_n0, bI_n1, reduceIte, reduceCtorEq, Nat.add_zero]
  · dsimp only
    rw [h_0, h_mk' _ hi]
    symm
    rw [ax_f]
    intro s _
    cases ht x s <;> simp
  · have := pc_le x
    dsimp only
    omega
end FRAME
