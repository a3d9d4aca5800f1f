/-! a6: cubes in rows, frames, what is asked of a proof -/
def CLs (c : Ck) (n : Nat) (m w l : Nat → Nat) (σ : St) : Prop := ∀ i, i < n → (m i < ns c ∧ w i < 64 ∧ w i &&& m i = w i ∧ l i ≤ 67) ∧ σ.2.2.1 9 i = nI (m i) ∧ σ.2.2.1 10 i = nI (w i) ∧ σ.2.2.1 11 i = nI (l i) ∧ σ.2.2.2 9 i = cu c (m i) (w i)
def CLm (c : Ck) (n : Nat) (m w l : Nat → Nat) (τ : St) : Prop := ∀ i, i < n → (m i < ns c ∧ w i < 64 ∧ w i &&& m i = w i ∧ l i ≤ 67) ∧ τ.2.2.1 6 i = nI (m i) ∧ τ.2.2.1 7 i = nI (w i) ∧ τ.2.2.1 8 i = nI (l i)
def fr0 (c : Ck) (m w : Nat → Nat) (q : Nat → Bool) (n : Nat) : Int64 := mk64 (fun s => decide (s < ns c) && !ax (fun i => q i && ht (cu c (m i) (w i)) s) n)
def un0 (c : Ck) (m w : Nat → Nat) (q : Nat → Bool) (n : Nat) : Int64 := mk64 (fun s => ax (fun i => q i && ht (cu c (m i) (w i)) s) n)
def updB (o : Nat → Bool) (i : Nat) (b : Bool) : Nat → Bool := fun j => if j = i then b else o j
def shS (c : Ck) (n : Nat) (m w l : Nat → Nat) (e : Nat) (o : Nat → Bool) : Int64 := fr0 c m w (fun j => decide (e < l j) && !o j) n
def shT (c : Ck) (n : Nat) (m w l : Nat → Nat) (e : Nat) (o : Nat → Bool) : Bool := decide (sucs c (shS c n m w l e o) &&& (shS c n m w l e o ^^^ (-1)) = 0) && decide (shS c n m w l e o &&& bad c = 0)
def shO (c : Ck) (n : Nat) (m w l : Nat → Nat) (e : Nat) : Nat → (Nat → Bool) × Nat
  | 0 => (fun _ => false, 0)
  | i + 1 => if l i ≤ e then shO c n m w l e i else if shT c n m w l e (updB (shO c n m w l e i).1 i true) = true then (updB (shO c n m w l e i).1 i true, (shO c n m w l e i).2) else (updB (shO c n m w l e i).1 i false, (shO c n m w l e i).2 + 1)
section CUBES
variable {c : Ck} {σ τ σ' τ' : St} {N n e k : Nat} {m w l : Nat → Nat} {q : Nat → Bool}
theorem CLs.fr {di dj da db : List Nat} (h : CLs c n m w l σ) (f : FR di dj da db σ σ') (d : (9 ∉ da ∧ 10 ∉ da ∧ 11 ∉ da) ∧ 9 ∉ db) : CLs c n m w l σ' := by
  unfold CLs
  rw [f.2.2.1 9 d.1.1, f.2.2.1 10 d.1.2.1, f.2.2.1 11 d.1.2.2, f.2.2.2 9 d.2]
  exact h
theorem CLm.fr {di dj da db : List Nat} (h : CLm c n m w l τ) (f : FR di dj da db τ τ') (d : 6 ∉ da ∧ 7 ∉ da ∧ 8 ∉ da) : CLm c n m w l τ' := by
  unfold CLm
  rw [f.2.2.1 6 d.1, f.2.2.1 7 d.2.1, f.2.2.1 8 d.2.2]
  exact h
theorem PRF.o (h : PRF c σ τ) : (τ.1 10 = 0 ∨ τ.1 10 = 1) ∧ σ.1 15 = τ.1 10 ∧ σ.1 17 = τ.1 13 ∧ σ.1 18 = τ.1 14 ∧ σ.1 19 = τ.1 15 ∧ σ.1 20 = τ.1 16 ∧ ∃ (k n e : Nat) (m w l : Nat → Nat), k ≤ 67 ∧ n ≤ 729 ∧ e ≤ 67 ∧ σ.1 16 = nI k ∧ τ.1 11 = nI k ∧ σ.1 23 = nI n ∧ τ.1 12 = nI n ∧ σ.1 21 = nI e ∧ τ.1 17 = nI e ∧ CLs c n m w l σ ∧ CLm c n m w l τ ∧ ∀ L, L ≤ k → σ.2.2.2 5 L = frm c n m w l L := by
  obtain ⟨a1, a2, a3, a4, a5, a6, k, n, e, m, w, l, b1, b2, b3, b4, b5, b6, b7, b8, b9, b10, b11⟩ := h
  refine ⟨a1, a2, a3, a4, a5, a6, k, n, e, m, w, l, b1, b2, b3, b4, b5, b6, b7, b8, b9, fun i hi => ?_, fun i hi => ?_, b11⟩
  · obtain ⟨x1, x2, x3, x4, x5, x6, x7, x8, x9, x10, x11⟩ := b10 i hi
    exact ⟨⟨x1, x2, x3, x4⟩, x5, x7, x9, x11⟩
  · obtain ⟨x1, x2, x3, x4, x5, x6, x7, x8, x9, x10, x11⟩ := b10 i hi
    exact ⟨⟨x1, x2, x3, x4⟩, x6, x8, x10⟩
theorem fr0_0 : fr0 c m w q 0 = al c := mk_ext (fun i _ => by show (_ && !false) = _; rw [Bool.not_false, Bool.and_true]; rfl)
theorem fr0_t (hq : q n = true) : fr0 c m w q (n + 1) = fr0 c m w q n &&& (cu c (m n) (w n) ^^^ (-1)) := h_ext (fun i hi => by
  rw [h_and, h_not _ hi, fr0, fr0, h_mk' _ hi, h_mk' _ hi, ax, hq, Bool.true_and]
  cases ht (cu c (m n) (w n)) i <;> cases ax (fun j => q j && ht (cu c (m j) (w j)) i) n <;> cases decide (i < ns c) <;> rfl)
theorem fr0_f (hq : q n = false) : fr0 c m w q (n + 1) = fr0 c m w q n &&& (-1) := h_ext (fun i hi => by
  rw [h_and, h_m1 i hi, fr0, fr0, h_mk' _ hi, h_mk' _ hi, ax, hq, Bool.false_and, Bool.or_false, Bool.and_true])
theorem un0_0 : un0 c m w q 0 = 0 := h_ext (fun i hi => by rw [un0, h_mk' _ hi, h_0]; rfl)
theorem un0_t (hq : q n = true) : un0 c m w q (n + 1) = un0 c m w q n ||| cu c (m n) (w n) := h_ext (fun i hi => by
  rw [h_or, un0, un0, h_mk' _ hi, h_mk' _ hi, ax, hq, Bool.true_and])
theorem un0_f (hq : q n = false) : un0 c m w q (n + 1) = un0 c m w q n := h_ext (fun i hi => by
  rw [un0, un0, h_mk' _ hi, h_mk' _ hi, ax, hq, Bool.false_and, Bool.or_false])
theorem fr0_un (h : okC c) : al c &&& (un0 c m w q n ^^^ (-1)) = fr0 c m w q n := h_ext (fun i hi => by
  rw [h_and, h_not _ hi, h_al h, fr0, un0, h_mk' _ hi, h_mk' _ hi])
theorem fr0_l (h : okC c) (s : Nat) (hs : ht (fr0 c m w q n) s = true) : s < ns c := by
  rw [fr0, h_mk' _ (h_lt hs), Bool.and_eq_true, decide_eq_true_eq] at hs
  exact hs.1
theorem fr0_cg {q' : Nat → Bool} (hq : ∀ i, i < n → q i = q' i) : fr0 c m w q n = fr0 c m w q' n := mk_ext (fun i _ => by
  rw [ax_congr (fun j hj => by rw [hq j hj])])
theorem un0_cg {q' : Nat → Bool} (hq : ∀ i, i < n → q i = q' i) : un0 c m w q n = un0 c m w q' n := mk_ext (fun i _ => by
  rw [ax_congr (fun j hj => by rw [hq j hj])])
theorem cnt_t {p : Nat → Bool} {i : Nat} (h : p i = true) : cnt p (i + 1) = cnt p i + 1 := by rw [cnt, h]
theorem cnt_f {p : Nat → Bool} {i : Nat} (h : p i = false) : cnt p (i + 1) = cnt p i := by rw [cnt, h]; rfl
theorem X7_cubeAt_ok (hN : 4000000 ≤ N) (h : CM c τ) (hl : CLm c n m w l τ) (hn : n ≤ 1000) {i : Nat} (hi : i < n) : X7_cubeAt N τ (nI i) = some (cu c (m i) (w i)) := by
  obtain ⟨⟨_, a1, _⟩, a2, a3, _⟩ := hl i hi
  simp (disch := omega) only [X7_cubeAt, a2, a3, X7_cubeSet_ok hN h a1, fa_lit, nI_leI, nI_ltI, nI_eq, nI_add, pk_mul, nI_clamp, bd, nm, gd_in, gd_bI, gd_b0, gd_b1, if_pos, if_neg, bI_n0, bI_n1, reduceIte, reduceCtorEq, Nat.add_zero]
theorem X7_frameOf_ok (hN : 4000000 ≤ N) (h : CM c τ) (hl : CLm c n m w l τ) (hn : n ≤ 1000) (h12 : τ.1 12 = nI n) {L : Nat} (hL : L ≤ 1000) : X7_frameOf N τ (nI L) = some (frm c n m w l L) := by
  cases L with
  | zero => exact congrArg some h.2.2.2.2.1
  | succ L =>
    have e0 : ¬ nI (L + 1) = 0 := nI_ne0 (by omega) (by omega)
    have e1 : frm c n m w l (L + 1) = fr0 c m w (fun i => decide (L + 1 ≤ l i)) n := rfl
    rw [X7_frameOf, if_neg e0, X7_all_ok h, e1]
    show X7_frameOf_17 N (fun v2 => X7_frameOf_62 τ v2) τ (nI (L + 1)) N (al c) (nI 0) = _
    refine wf (fun f i a => X7_frameOf_17 N (fun v2 => X7_frameOf_62 τ v2) τ (nI (L + 1)) f a (nI i)) n (fun i a => a = fr0 c m w (fun i => decide (L + 1 ≤ l i)) i) (fun r => r = some (fr0 c m w (fun i => decide (L + 1 ≤ l i)) n)) ?_ ?_ N 0 _ (by omega) fr0_0.symm (by omega)
    · rintro f i a hi rfl
      refine Or.inr ⟨_, rfl, ?_⟩
      show X7_frameOf_17 N _ τ _ (f + 1) _ _ = X7_frameOf_17 N _ τ _ f _ _
      obtain ⟨⟨_, _, _, a4⟩, _, _, a5⟩ := hl i hi
      have hc := X7_cubeAt_ok hN h hl hn hi
      rcases Nat.lt_or_ge (l i) (L + 1) with z | z
      · rw [fr0_f (show decide (L + 1 ≤ l i) = false from decide_eq_false (by omega))]
        simp (disch := omega) only [X7_frameOf_17, X7_frameOf_17b, h12, a5, fa_lit, nI_leI, nI_ltI, nI_eq, nI_add, pk_mul, nI_clamp, bd, nm, gd_in, gd_bI, gd_b0, gd_b1, if_pos, if_neg, bI_n0, bI_n1, reduceIte, reduceCtorEq, Nat.add_zero]
      · rw [fr0_t (show decide (L + 1 ≤ l i) = true from decide_eq_true z)]
        simp (disch := omega) only [X7_frameOf_17, X7_frameOf_17b, h12, a5, hc, fa_lit, nI_leI, nI_ltI, nI_eq, nI_add, pk_mul, nI_clamp, bd, nm, gd_in, gd_bI, gd_b0, gd_b1, if_pos, if_neg, bI_n0, bI_n1, reduceIte, reduceCtorEq, Nat.add_zero]
    · rintro f a rfl
      show X7_frameOf_17 N _ τ _ (f + 1) _ _ = _
      simp (disch := omega) only [X7_frameOf_17, X7_frameOf_17b, h12, X7_frameOf_62, fa_lit, nI_leI, nI_ltI, nI_eq, nI_add, pk_mul, nI_clamp, bd, nm, gd_in, gd_bI, gd_b0, gd_b1, if_pos, if_neg, bI_n0, bI_n1, reduceIte, reduceCtorEq, Nat.add_zero]
theorem X7_isCertified_ok (hl : CLm c n m w l τ) (hn : n ≤ 1000) (h10 : τ.1 10 = 0) (h17 : τ.1 17 = nI e) (he : e ≤ 1000) {i : Nat} (hi : i < n) : X7_isCertified τ (nI i) = some (bI (decide (e < l i))) := by
  obtain ⟨⟨_, _, _, a4⟩, _, _, a5⟩ := hl i hi
  rw [X7_isCertified, if_pos h10]
  rcases Nat.lt_or_ge e (l i) with z | z
  · rw [decide_eq_true z]
    simp (disch := omega) only [a5, h17, fa_lit, nI_leI, nI_ltI, nI_eq, nI_add, pk_mul, nI_clamp, bd, nm, gd_in, gd_bI, gd_b0, gd_b1, if_pos, if_neg, bI_n0, bI_n1, reduceIte, reduceCtorEq, Nat.add_zero]
    rfl
  · rw [decide_eq_false (by omega)]
    simp (disch := omega) only [a5, h17, fa_lit, nI_leI, nI_ltI, nI_eq, nI_add, pk_mul, nI_clamp, bd, nm, gd_in, gd_bI, gd_b0, gd_b1, if_pos, if_neg, bI_n0, bI_n1, reduceIte, reduceCtorEq, Nat.add_zero]
    rfl
theorem X7_certified_ok (hN : 4000000 ≤ N) (hl : CLm c n m w l τ) (hn : n ≤ 1000) (h12 : τ.1 12 = nI n) (h10 : τ.1 10 = 0) (h17 : τ.1 17 = nI e) (he : e ≤ 1000) : X7_certified N τ = some (nI (cnt (fun i => decide (e < l i)) n)) := by
  unfold X7_certified
  refine wf (fun f i a => X7_certified_4 (fun v1 => X7_certified_34 τ v1) τ f a (nI i)) n (fun i a => a = nI (cnt (fun i => decide (e < l i)) i)) (fun r => r = some (nI (cnt (fun i => decide (e < l i)) n))) ?_ ?_ N 0 0 (by omega) rfl (by omega)
  · rintro f i a hi rfl
    refine Or.inr ⟨_, rfl, ?_⟩
    show X7_certified_4 _ τ (f + 1) _ _ = X7_certified_4 _ τ f _ _
    have hc := X7_isCertified_ok hl hn h10 h17 he hi
    cases z : decide (e < l i)
    · rw [z] at hc
      rw [cnt_f (p := fun i => decide (e < l i)) z]
      simp (disch := omega) only [X7_certified_4, X7_certified_4b, h12, hc, fa_lit, nI_leI, nI_ltI, nI_eq, nI_add, pk_mul, nI_clamp, bd, nm, gd_in, gd_bI, gd_b0, gd_b1, if_pos, if_neg, bI_n0, bI_n1, reduceIte, reduceCtorEq, Nat.add_zero]
    · rw [z] at hc
      rw [cnt_t (p := fun i => decide (e < l i)) z]
      simp (disch := omega) only [X7_certified_4, X7_certified_4b, h12, hc, fa_lit, nI_leI, nI_ltI, nI_eq, nI_add, pk_mul, nI_clamp, bd, nm, gd_in, gd_bI, gd_b0, gd_b1, if_pos, if_neg, bI_n0, bI_n1, reduceIte, reduceCtorEq, Nat.add_zero]
  · rintro f a rfl
    show X7_certified_4 _ τ (f + 1) _ _ = _
    simp (disch := omega) only [X7_certified_4, X7_certified_4b, h12, X7_certified_34, fa_lit, nI_leI, nI_ltI, nI_eq, nI_add, pk_mul, nI_clamp, bd, nm, gd_in, gd_bI, gd_b0, gd_b1, if_pos, if_neg, bI_n0, bI_n1, reduceIte, reduceCtorEq, Nat.add_zero]
theorem X7_certified_1 (hN : 4000000 ≤ N) (hn : n ≤ 1000) (h12 : τ.1 12 = nI n) (h10 : ¬ τ.1 10 = 0) : X7_certified N τ = some 0 := by
  have hc : ∀ x, X7_isCertified τ x = some (nI 0) := fun x => if_neg h10
  unfold X7_certified
  refine wf (fun f i (_ : Unit) => X7_certified_4 (fun v1 => X7_certified_34 τ v1) τ f (nI 0) (nI i)) n (fun i a => True) (fun r => r = some 0) ?_ ?_ N 0 () (by omega) trivial (by omega)
  · rintro f i a hi -
    refine Or.inr ⟨(), trivial, ?_⟩
    show X7_certified_4 _ τ (f + 1) _ _ = X7_certified_4 _ τ f _ _
    simp (disch := omega) only [X7_certified_4, X7_certified_4b, h12, hc, fa_lit, nI_leI, nI_ltI, nI_eq, nI_add, pk_mul, nI_clamp, bd, nm, gd_in, gd_bI, gd_b0, gd_b1, if_pos, if_neg, bI_n0, bI_n1, reduceIte, reduceCtorEq, Nat.add_zero]
  · rintro f a -
    show X7_certified_4 _ τ (f + 1) _ _ = _
    simp (disch := omega) only [X7_certified_4, X7_certified_4b, h12, X7_certified_34, fa_lit, nI_leI, nI_ltI, nI_eq, nI_add, pk_mul, nI_clamp, bd, nm, gd_in, gd_bI, gd_b0, gd_b1, if_pos, if_neg, bI_n0, bI_n1, reduceIte, reduceCtorEq, Nat.add_zero]
theorem X1_countAbove_ok (hN : 4000000 ≤ N) (hl : CLs c n m w l σ) (hn : n ≤ 729) (h23 : σ.1 23 = nI n) (he : e ≤ 1000) : X1_countAbove N σ (nI e) = some (nI (cnt (fun i => decide (e < l i)) n)) := by
  unfold X1_countAbove
  refine wf (fun f i a => X1_countAbove_4 (fun v2 => X1_countAbove_38 σ v2) σ (nI e) f a (nI i)) n (fun i a => a = nI (cnt (fun i => decide (e < l i)) i)) (fun r => r = some (nI (cnt (fun i => decide (e < l i)) n))) ?_ ?_ N 0 0 (by omega) rfl (by omega)
  · rintro f i a hi rfl
    refine Or.inr ⟨_, rfl, ?_⟩
    show X1_countAbove_4 _ σ _ (f + 1) _ _ = X1_countAbove_4 _ σ _ f _ _
    obtain ⟨⟨_, _, _, a4⟩, _, _, a5, _⟩ := hl i hi
    rcases Nat.lt_or_ge e (l i) with z | z
    · rw [cnt_t (p := fun i => decide (e < l i)) (decide_eq_true z)]
      simp (disch := omega) only [X1_countAbove_4, X1_countAbove_4b, h23, a5, fa_lit, nI_leI, nI_ltI, nI_eq, nI_add, pk_mul, nI_clamp, bd, nm, gd_in, gd_bI, gd_b0, gd_b1, if_pos, if_neg, bI_n0, bI_n1, reduceIte, reduceCtorEq, Nat.add_zero]
    · rw [cnt_f (p := fun i => decide (e < l i)) (decide_eq_false (by omega))]
      simp (disch := omega) only [X1_countAbove_4, X1_countAbove_4b, h23, a5, fa_lit, nI_leI, nI_ltI, nI_eq, nI_add, pk_mul, nI_clamp, bd, nm, gd_in, gd_bI, gd_b0, gd_b1, if_pos, if_neg, bI_n0, bI_n1, reduceIte, reduceCtorEq, Nat.add_zero]
  · rintro f a rfl
    show X1_countAbove_4 _ σ _ (f + 1) _ _ = _
    simp (disch := omega) only [X1_countAbove_4, X1_countAbove_4b, h23, X1_countAbove_38, fa_lit, nI_leI, nI_ltI, nI_eq, nI_add, pk_mul, nI_clamp, bd, nm, gd_in, gd_bI, gd_b0, gd_b1, if_pos, if_neg, bI_n0, bI_n1, reduceIte, reduceCtorEq, Nat.add_zero]
theorem X1_unionAbove_ok (hN : 4000000 ≤ N) (hl : CLs c n m w l σ) (hn : n ≤ 729) (h23 : σ.1 23 = nI n) (he : e ≤ 1000) : X1_unionAbove N σ (nI e) = some (un0 c m w (fun i => decide (e < l i)) n) := by
  unfold X1_unionAbove
  refine wf (fun f i a => X1_unionAbove_5 (fun v2 => X1_unionAbove_49 σ v2) σ (nI e) f a (nI i)) n (fun i a => a = un0 c m w (fun i => decide (e < l i)) i) (fun r => r = some (un0 c m w (fun i => decide (e < l i)) n)) ?_ ?_ N 0 0 (by omega) un0_0.symm (by omega)
  · rintro f i a hi rfl
    refine Or.inr ⟨_, rfl, ?_⟩
    show X1_unionAbove_5 _ σ _ (f + 1) _ _ = X1_unionAbove_5 _ σ _ f _ _
    obtain ⟨⟨_, _, _, a4⟩, _, _, a5, a6⟩ := hl i hi
    rcases Nat.lt_or_ge e (l i) with z | z
    · rw [un0_t (q := fun i => decide (e < l i)) (decide_eq_true z)]
      simp (disch := omega) only [X1_unionAbove_5, X1_unionAbove_5b, h23, a5, a6, fa_lit, nI_leI, nI_ltI, nI_eq, nI_add, pk_mul, nI_clamp, bd, nm, gd_in, gd_bI, gd_b0, gd_b1, if_pos, if_neg, bI_n0, bI_n1, reduceIte, reduceCtorEq, Nat.add_zero]
    · rw [un0_f (q := fun i => decide (e < l i)) (decide_eq_false (by omega))]
      simp (disch := omega) only [X1_unionAbove_5, X1_unionAbove_5b, h23, a5, fa_lit, nI_leI, nI_ltI, nI_eq, nI_add, pk_mul, nI_clamp, bd, nm, gd_in, gd_bI, gd_b0, gd_b1, if_pos, if_neg, bI_n0, bI_n1, reduceIte, reduceCtorEq, Nat.add_zero]
  · rintro f a rfl
    show X1_unionAbove_5 _ σ _ (f + 1) _ _ = _
    simp (disch := omega) only [X1_unionAbove_5, X1_unionAbove_5b, h23, X1_unionAbove_49, fa_lit, nI_leI, nI_ltI, nI_eq, nI_add, pk_mul, nI_clamp, bd, nm, gd_in, gd_bI, gd_b0, gd_b1, if_pos, if_neg, bI_n0, bI_n1, reduceIte, reduceCtorEq, Nat.add_zero]
/-- numbers of a proof -/
theorem prn_ok (hN : 4000000 ≤ N) (hp : PRF c σ τ) {v : Nat} (hv : v < 8) : ∃ r, X7_proofNow N τ (nI v) = some r ∧ X4_number N σ (nI v) = some r := by
  obtain ⟨a1, a2, a3, a4, a5, a6, k, n, e, m, w, l, b1, b2, b3, b4, b5, b6, b7, b8, b9, b10, b11, _⟩ := hp.o
  have hv8 : v = 0 ∨ v = 1 ∨ v = 2 ∨ v = 3 ∨ v = 4 ∨ v = 5 ∨ v = 6 ∨ v = 7 := by omega
  rcases hv8 with rfl | rfl | rfl | rfl | rfl | rfl | rfl | rfl
  · exact ⟨τ.1 10, by simp (disch := omega) only [X7_proofNow, fa_lit, nI_leI, nI_ltI, nI_eq, nI_add, pk_mul, nI_clamp, bd, nm, gd_in, gd_bI, gd_b0, gd_b1, if_pos, if_neg, bI_n0, bI_n1, reduceIte, reduceCtorEq, Nat.add_zero], by simp (disch := omega) only [X4_number, a2, fa_lit, nI_leI, nI_ltI, nI_eq, nI_add, pk_mul, nI_clamp, bd, nm, gd_in, gd_bI, gd_b0, gd_b1, if_pos, if_neg, bI_n0, bI_n1, reduceIte, reduceCtorEq, Nat.add_zero]⟩
  · exact ⟨nI k, by simp (disch := omega) only [X7_proofNow, b5, fa_lit, nI_leI, nI_ltI, nI_eq, nI_add, pk_mul, nI_clamp, bd, nm, gd_in, gd_bI, gd_b0, gd_b1, if_pos, if_neg, bI_n0, bI_n1, reduceIte, reduceCtorEq, Nat.add_zero], by simp (disch := omega) only [X4_number, b4, fa_lit, nI_leI, nI_ltI, nI_eq, nI_add, pk_mul, nI_clamp, bd, nm, gd_in, gd_bI, gd_b0, gd_b1, if_pos, if_neg, bI_n0, bI_n1, reduceIte, reduceCtorEq, Nat.add_zero]⟩
  · exact ⟨nI n, by simp (disch := omega) only [X7_proofNow, b7, fa_lit, nI_leI, nI_ltI, nI_eq, nI_add, pk_mul, nI_clamp, bd, nm, gd_in, gd_bI, gd_b0, gd_b1, if_pos, if_neg, bI_n0, bI_n1, reduceIte, reduceCtorEq, Nat.add_zero], by simp (disch := omega) only [X4_number, b6, fa_lit, nI_leI, nI_ltI, nI_eq, nI_add, pk_mul, nI_clamp, bd, nm, gd_in, gd_bI, gd_b0, gd_b1, if_pos, if_neg, bI_n0, bI_n1, reduceIte, reduceCtorEq, Nat.add_zero]⟩
  · exact ⟨τ.1 13, by simp (disch := omega) only [X7_proofNow, fa_lit, nI_leI, nI_ltI, nI_eq, nI_add, pk_mul, nI_clamp, bd, nm, gd_in, gd_bI, gd_b0, gd_b1, if_pos, if_neg, bI_n0, bI_n1, reduceIte, reduceCtorEq, Nat.add_zero], by simp (disch := omega) only [X4_number, a3, fa_lit, nI_leI, nI_ltI, nI_eq, nI_add, pk_mul, nI_clamp, bd, nm, gd_in, gd_bI, gd_b0, gd_b1, if_pos, if_neg, bI_n0, bI_n1, reduceIte, reduceCtorEq, Nat.add_zero]⟩
  · exact ⟨τ.1 14, by simp (disch := omega) only [X7_proofNow, fa_lit, nI_leI, nI_ltI, nI_eq, nI_add, pk_mul, nI_clamp, bd, nm, gd_in, gd_bI, gd_b0, gd_b1, if_pos, if_neg, bI_n0, bI_n1, reduceIte, reduceCtorEq, Nat.add_zero], by simp (disch := omega) only [X4_number, a4, fa_lit, nI_leI, nI_ltI, nI_eq, nI_add, pk_mul, nI_clamp, bd, nm, gd_in, gd_bI, gd_b0, gd_b1, if_pos, if_neg, bI_n0, bI_n1, reduceIte, reduceCtorEq, Nat.add_zero]⟩
  · exact ⟨τ.1 15, by simp (disch := omega) only [X7_proofNow, fa_lit, nI_leI, nI_ltI, nI_eq, nI_add, pk_mul, nI_clamp, bd, nm, gd_in, gd_bI, gd_b0, gd_b1, if_pos, if_neg, bI_n0, bI_n1, reduceIte, reduceCtorEq, Nat.add_zero], by simp (disch := omega) only [X4_number, a5, fa_lit, nI_leI, nI_ltI, nI_eq, nI_add, pk_mul, nI_clamp, bd, nm, gd_in, gd_bI, gd_b0, gd_b1, if_pos, if_neg, bI_n0, bI_n1, reduceIte, reduceCtorEq, Nat.add_zero]⟩
  · exact ⟨τ.1 16, by simp (disch := omega) only [X7_proofNow, fa_lit, nI_leI, nI_ltI, nI_eq, nI_add, pk_mul, nI_clamp, bd, nm, gd_in, gd_bI, gd_b0, gd_b1, if_pos, if_neg, bI_n0, bI_n1, reduceIte, reduceCtorEq, Nat.add_zero], by simp (disch := omega) only [X4_number, a6, fa_lit, nI_leI, nI_ltI, nI_eq, nI_add, pk_mul, nI_clamp, bd, nm, gd_in, gd_bI, gd_b0, gd_b1, if_pos, if_neg, bI_n0, bI_n1, reduceIte, reduceCtorEq, Nat.add_zero]⟩
  · rcases a1 with z | z
    · have z2 : σ.1 15 = nI 0 := a2.trans z
      have x1 := X7_certified_ok hN b11 (by omega) b7 z b9 (by omega)
      have x2 := X1_countAbove_ok hN b10 b2 b6 (e := e) (by omega)
      exact ⟨nI (cnt (fun i => decide (e < l i)) n), by simp (disch := omega) only [X7_proofNow, x1, fa_lit, nI_leI, nI_ltI, nI_eq, nI_add, pk_mul, nI_clamp, bd, nm, gd_in, gd_bI, gd_b0, gd_b1, if_pos, if_neg, bI_n0, bI_n1, reduceIte, reduceCtorEq, Nat.add_zero], by simp (disch := omega) only [X4_number, z2, b8, x2, fa_lit, nI_leI, nI_ltI, nI_eq, nI_add, pk_mul, nI_clamp, bd, nm, gd_in, gd_bI, gd_b0, gd_b1, if_pos, if_neg, bI_n0, bI_n1, reduceIte, reduceCtorEq, Nat.add_zero]⟩
    · have z1 : ¬ τ.1 10 = 0 := by rw [z]; decide
      have z2 : σ.1 15 = nI 1 := a2.trans z
      have x1 := X7_certified_1 hN (by omega) b7 z1
      exact ⟨0, by simp (disch := omega) only [X7_proofNow, x1, fa_lit, nI_leI, nI_ltI, nI_eq, nI_add, pk_mul, nI_clamp, bd, nm, gd_in, gd_bI, gd_b0, gd_b1, if_pos, if_neg, bI_n0, bI_n1, reduceIte, reduceCtorEq, Nat.add_zero], by simp (disch := omega) only [X4_number, z2, fa_lit, nI_leI, nI_ltI, nI_eq, nI_add, pk_mul, nI_clamp, bd, nm, gd_in, gd_bI, gd_b0, gd_b1, if_pos, if_neg, bI_n0, bI_n1, reduceIte, reduceCtorEq, Nat.add_zero]⟩
theorem frs_ok (hN : 4000000 ≤ N) (h : CM c τ) (hp : PRF c σ τ) : ∃ k, k ≤ 67 ∧ σ.1 16 = nI k ∧ τ.1 11 = nI k ∧ ∀ L, L ≤ k → ∃ x, X7_frameOf N τ (nI L) = some x ∧ X4_frameAt σ (nI L) = some x := by
  obtain ⟨a1, a2, a3, a4, a5, a6, k, n, e, m, w, l, b1, b2, b3, b4, b5, b6, b7, b8, b9, b10, b11, b12⟩ := hp.o
  refine ⟨k, b1, b4, b5, fun L hL => ⟨_, X7_frameOf_ok hN h b11 (by omega) b7 (by omega), ?_⟩⟩
  have x := b12 L hL
  simp (disch := omega) only [X4_frameAt, x, fa_lit, nI_leI, nI_ltI, nI_eq, nI_add, pk_mul, nI_clamp, bd, nm, gd_in, gd_bI, gd_b0, gd_b1, if_pos, if_neg, bI_n0, bI_n1, reduceIte, reduceCtorEq, Nat.add_zero]
theorem cbs_ok (hp : PRF c σ τ) : ∃ n, n ≤ 729 ∧ σ.1 23 = nI n ∧ τ.1 12 = nI n ∧ ∀ i, i < n → X1_number σ (nI i) (nI 0) = some (τ.2.2.1 6 i) ∧ X1_number σ (nI i) (nI 1) = some (τ.2.2.1 7 i) ∧ X1_number σ (nI i) (nI 2) = some (τ.2.2.1 8 i) := by
  obtain ⟨a1, a2, a3, a4, a5, a6, k, n, e, m, w, l, b1, b2, b3, b4, b5, b6, b7, b8, b9, b10, b11, b12⟩ := hp.o
  refine ⟨n, b2, b6, b7, fun i hi => ?_⟩
  obtain ⟨_, x1, x2, x3, _⟩ := b10 i hi
  obtain ⟨_, y1, y2, y3⟩ := b11 i hi
  refine ⟨?_, ?_, ?_⟩
  · simp (disch := omega) only [X1_number, x1, y1, fa_lit, nI_leI, nI_ltI, nI_eq, nI_add, pk_mul, nI_clamp, bd, nm, gd_in, gd_bI, gd_b0, gd_b1, if_pos, if_neg, bI_n0, bI_n1, reduceIte, reduceCtorEq, Nat.add_zero]
  · simp (disch := omega) only [X1_number, x2, y2, fa_lit, nI_leI, nI_ltI, nI_eq, nI_add, pk_mul, nI_clamp, bd, nm, gd_in, gd_bI, gd_b0, gd_b1, if_pos, if_neg, bI_n0, bI_n1, reduceIte, reduceCtorEq, Nat.add_zero]
  · simp (disch := omega) only [X1_number, x3, y3, fa_lit, nI_leI, nI_ltI, nI_eq, nI_add, pk_mul, nI_clamp, bd, nm, gd_in, gd_bI, gd_b0, gd_b1, if_pos, if_neg, bI_n0, bI_n1, reduceIte, reduceCtorEq, Nat.add_zero]
theorem Op_proof_ok (hN : 4000000 ≤ N) (h : RC c σ τ) : Op_proof N Rl σ τ := by
  intro v1
  rcases pk_ix v1 (n := 8) (by omega) with q | q | ⟨v, hv, rfl⟩
  · refine ⟨0, si τ 0 1, ?_, Or.inr ⟨1, 1, σ, ⟨rfl, rfl⟩, ?_, rfl, ⟨c, h.th 1⟩⟩⟩
    · simp only [X7_proof, X7_proof_16, bd, nm, si0, p10, p1, reduceIte, wi_neg q]
    · simp only [X6_proof_t, if_pos q, X6_proof_t_10]
  · obtain ⟨a1, a2, a3⟩ := wi_big (by omega) (by omega) q
    have a1' : X7_within v1 0 7 = some 0 := a1
    have a3' : ¬ v1 < 8 := a3
    refine ⟨0, si τ 0 1, ?_, Or.inr ⟨1, 1, σ, ⟨rfl, rfl⟩, ?_, rfl, ⟨c, h.th 1⟩⟩⟩
    · simp only [X7_proof, X7_proof_16, bd, nm, si0, p10, p1, reduceIte, a1']
    · simp only [X6_proof_t, if_neg a2, if_neg a3', X6_proof_t_10]
  · have w2 : X7_within (nI v) 0 7 = some 1 := by have z := wi_in hv (by omega); rwa [show (nI 8 - 1 : Int32) = 7 by decide] at z
    have q1 : ¬ nI v < 0 := nI_pos (by omega)
    have q2 : nI v < 8 := (nI_ltI (b := 8) (by omega) (by omega)).mpr (by omega)
    have hm := h.th 0
    rcases hm.2.2.2.2.2 with ⟨y1, y2⟩ | ⟨y1, y2, y3⟩
    · refine ⟨-1, si τ 0 0, ?_, Or.inl ⟨σ, ?_, rfl, ⟨c, hm⟩⟩⟩
      · simp only [X7_proof, w2, bd, nm, p10, X7_proof_16, si0, p0, reduceIte, y2]
      · simp only [X6_proof, if_neg q1, if_pos q2, y1, reduceIte, rmap]
    · obtain ⟨r, r1, r2⟩ := prn_ok hN y3 hv
      have z1 : ¬ σ.1 14 = 0 := by rw [y1]; decide
      have z2 : ¬ (si τ 0 0).1 9 = 0 := by rw [y2]; decide
      refine ⟨r, si τ 0 0, ?_, Or.inl ⟨σ, ?_, rfl, ⟨c, hm⟩⟩⟩
      · simp only [X7_proof, w2, bd, nm, p10, X7_proof_16, si0, p0, reduceIte, if_neg z2, r1]
      · simp only [X6_proof, if_neg q1, if_pos q2, if_neg z1, bd, r2, rmap]
theorem Op_frame_ok (hN : 4000000 ≤ N) (h : RC c σ τ) : Op_frame N Rl σ τ := by
  intro v1
  rcases h.2.2.2.2.2 with ⟨y1, y2⟩ | ⟨y1, y2, y3⟩
  · refine ⟨0, si τ 0 1, ?_, Or.inr ⟨2, 1, σ, Or.inl ⟨rfl, rfl⟩, ?_, rfl, ⟨c, h.th 1⟩⟩⟩
    · simp only [X7_frame, X7_frame_29, bd, nm, si0, p1, reduceIte, y2]
    · simp only [X6_frame_t, X6_requireProof_t, y1, reduceIte, tb]
  · have hm := h.th 0
    have z1 : ¬ σ.1 14 = 0 := by rw [y1]; decide
    have z2 : ¬ τ.1 9 = 0 := by rw [y2]; decide
    rcases hm.2.2.2.2.2 with ⟨y4, _⟩ | ⟨_, _, y4⟩
    · exact absurd y4 z1
    obtain ⟨k, k1, k2, k3, k4⟩ := frs_ok hN hm.1 y4
    have k3' : τ.1 11 = nI k := k3
    have r1 : X6_requireProof σ = some σ := if_neg z1
    have r2 : X6_requireProof_t σ = none := if_neg z1
    by_cases q1 : v1 < 0
    · refine ⟨0, si τ 0 2, ?_, Or.inr ⟨3, 2, σ, Or.inr ⟨rfl, rfl⟩, ?_, rfl, ⟨c, h.th 2⟩⟩⟩
      · simp only [X7_frame, X7_frame_29, bd, nm, si0, p2, reduceIte, if_neg z2, wi_neg q1]
      · simp only [X6_frame_t, r1, r2, tb, bd, if_pos q1, X6_frame_t_19]
    · by_cases q2 : v1 ≤ nI k
      · have q3 : ¬ nI k < v1 := by rw [le_i] at q2; rw [lt_i]; omega
        have w1 : X7_within v1 0 (nI k) = some 1 := by rw [X7_within, if_neg q1, if_neg q3]
        obtain ⟨L, _, hL, rfl⟩ := rng_i (a := 0) (b := k) (by omega) (by omega) q1 q3
        obtain ⟨x, x1, x2⟩ := k4 L hL
        refine ⟨x, si τ 0 0, ?_, Or.inl ⟨σ, ?_, rfl, ⟨c, hm⟩⟩⟩
        · simp only [X7_frame, X7_frame_29, bd, nm, si0, p0, p10, reduceIte, if_neg z2, k3', w1, x1]
        · simp only [X6_frame, r1, bd, if_neg q1, k2, if_pos q2, x2]
      · have q3 : nI k < v1 := by rw [le_i] at q2; rw [lt_i]; omega
        have w1 : X7_within v1 0 (nI k) = some 0 := by rw [X7_within, if_neg q1, if_pos q3]
        refine ⟨0, si τ 0 2, ?_, Or.inr ⟨3, 2, σ, Or.inr ⟨rfl, rfl⟩, ?_, rfl, ⟨c, h.th 2⟩⟩⟩
        · simp only [X7_frame, X7_frame_29, bd, nm, si0, p2, reduceIte, if_neg z2, k3', w1]
        · simp only [X6_frame_t, r1, r2, tb, bd, if_neg q1, k2, if_neg q2, X6_frame_t_19]
theorem Op_cube_ok (hN : 4000000 ≤ N) (h : RC c σ τ) : Op_cube N Rl σ τ := by
  intro v1 v2
  rcases h.2.2.2.2.2 with ⟨y1, y2⟩ | ⟨y1, y2, y3⟩
  · refine ⟨0, si τ 0 1, ?_, Or.inr ⟨2, 1, σ, Or.inl ⟨rfl, rfl⟩, ?_, rfl, ⟨c, h.th 1⟩⟩⟩
    · simp only [X7_cube, X7_cube_44, bd, nm, si0, p1, reduceIte, y2]
    · simp only [X6_cube_t, X6_requireProof_t, y1, reduceIte, tb]
  · have hm := h.th 0
    have z1 : ¬ σ.1 14 = 0 := by rw [y1]; decide
    have z2 : ¬ τ.1 9 = 0 := by rw [y2]; decide
    obtain ⟨n, n1, n2, n3, n4⟩ := cbs_ok y3
    have r1 : X6_requireProof σ = some σ := if_neg z1
    have r2 : X6_requireProof_t σ = none := if_neg z1
    rcases pk_ix v1 (n := n) (by omega) with q | q | ⟨i, hi, rfl⟩
    · refine ⟨0, si τ 0 2, ?_, Or.inr ⟨3, 2, σ, Or.inr (Or.inl ⟨rfl, rfl⟩), ?_, rfl, ⟨c, h.th 2⟩⟩⟩
      · simp only [X7_cube, X7_cube_44, bd, nm, si0, p2, reduceIte, if_neg z2, wi_neg q]
      · simp only [X6_cube_t, r1, r2, tb, bd, if_pos q, X6_cube_t_22]
    · have q4 : ¬ v1 < 0 := by rw [le_i, nI_toInt (by omega)] at q; rw [lt_i, z_i]; omega
      have q5 : ¬ v1 < nI n := by rw [le_i] at q; rw [lt_i]; omega
      have w1 : X7_within v1 0 (nI n - 1) = some 0 := by
        cases n with
        | zero =>
          rw [X7_within, if_neg q4, if_pos]
          rw [lt_i, show (nI 0 - 1 : Int32).toInt = -1 by decide]
          rw [lt_i, z_i] at q4
          omega
        | succ n => exact (wi_big (by omega) (by omega) q).1
      refine ⟨0, si τ 0 2, ?_, Or.inr ⟨3, 2, σ, Or.inr (Or.inl ⟨rfl, rfl⟩), ?_, rfl, ⟨c, h.th 2⟩⟩⟩
      · simp only [X7_cube, X7_cube_44, bd, nm, si0, p2, reduceIte, if_neg z2, n3, w1]
      · simp only [X6_cube_t, r1, r2, tb, bd, if_neg q4, n2, if_neg q5, X6_cube_t_22]
    · have q4 : ¬ nI i < 0 := nI_pos (by omega)
      have q5 : nI i < nI n := (nI_ltI (by omega) (by omega)).mpr hi
      have w1 := wi_in hi (by omega)
      rcases pk_ix v2 (n := 3) (by omega) with q | q | ⟨v, hv, rfl⟩
      · refine ⟨0, si τ 0 3, ?_, Or.inr ⟨1, 3, σ, Or.inr (Or.inr ⟨rfl, rfl⟩), ?_, rfl, ⟨c, h.th 3⟩⟩⟩
        · simp only [X7_cube, X7_cube_44, bd, nm, si0, p3, p10, reduceIte, if_neg z2, n3, w1, wi_neg q]
        · simp only [X6_cube_t, r1, r2, tb, bd, if_neg q4, n2, if_pos q5, if_pos q, X6_cube_t_42]
      · obtain ⟨a1, a2, _⟩ := wi_big (by omega) (by omega) q
        have a1' : X7_within v2 0 2 = some 0 := a1
        have a3' : ¬ v2 ≤ 2 := by
          rw [le_i, show (2 : Int32).toInt = 2 by decide]
          rw [le_i, show (nI 3 : Int32).toInt = 3 by decide] at q
          omega
        refine ⟨0, si τ 0 3, ?_, Or.inr ⟨1, 3, σ, Or.inr (Or.inr ⟨rfl, rfl⟩), ?_, rfl, ⟨c, h.th 3⟩⟩⟩
        · simp only [X7_cube, X7_cube_44, bd, nm, si0, p3, p10, reduceIte, if_neg z2, n3, w1, a1']
        · simp only [X6_cube_t, r1, r2, tb, bd, if_neg q4, n2, if_pos q5, if_neg a2, if_neg a3', X6_cube_t_42]
      · have w2 : X7_within (nI v) 0 2 = some 1 := by have z := wi_in hv (by omega); rwa [show (nI 3 - 1 : Int32) = 2 by decide] at z
        have q6 : ¬ nI v < 0 := nI_pos (by omega)
        have q7 : nI v ≤ 2 := (nI_leI (b := 2) (by omega) (by omega)).mpr (by omega)
        obtain ⟨m1, m2, m3⟩ := n4 i hi
        have g : ∀ {β : Type} (x : Option β), gd (inb (nI i) 1024) x = x := fun x => gd_in (by omega) (by omega)
        have cl : (nI i).toNatClampNeg = i := nI_clamp (by omega)
        have hv3 : v = 0 ∨ v = 1 ∨ v = 2 := by omega
        rcases hv3 with rfl | rfl | rfl
        · refine ⟨τ.2.2.1 6 i, si τ 0 0, ?_, Or.inl ⟨σ, ?_, rfl, ⟨c, hm⟩⟩⟩
          · have x1 : nI 0 = 0 := rfl
            simp only [X7_cube, X7_cube_44, bd, nm, si0, p0, p10, reduceIte, if_neg z2, n3, w1, w2, if_pos x1, g, cl, si_a]
          · simp only [X6_cube, r1, bd, if_neg q4, n2, if_pos q5, if_neg q6, if_pos q7, m1]
        · refine ⟨τ.2.2.1 7 i, si τ 0 0, ?_, Or.inl ⟨σ, ?_, rfl, ⟨c, hm⟩⟩⟩
          · have x1 : ¬ nI 1 = 0 := by decide
            have x2 : nI 1 = 1 := rfl
            simp only [X7_cube, X7_cube_44, bd, nm, si0, p0, p10, reduceIte, if_neg z2, n3, w1, w2, if_neg x1, if_pos x2, g, cl, si_a]
          · simp only [X6_cube, r1, bd, if_neg q4, n2, if_pos q5, if_neg q6, if_pos q7, m2]
        · refine ⟨τ.2.2.1 8 i, si τ 0 0, ?_, Or.inl ⟨σ, ?_, rfl, ⟨c, hm⟩⟩⟩
          · have x1 : ¬ nI 2 = 0 := by decide
            have x2 : ¬ nI 2 = 1 := by decide
            simp only [X7_cube, X7_cube_44, bd, nm, si0, p0, p10, reduceIte, if_neg z2, n3, w1, w2, if_neg x1, if_neg x2, g, cl, si_a]
          · simp only [X6_cube, r1, bd, if_neg q4, n2, if_pos q5, if_neg q6, if_pos q7, m3]
end CUBES
