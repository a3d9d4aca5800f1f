/-! 94: reading a formula, in both programs -/
theorem si_s {σ : St} {k : Nat} {v : Int32} : (si σ k v).1 k = v := if_pos rfl
theorem si_n {σ : St} {k q : Nat} {v : Int32} (h : q ≠ k) : (si σ k v).1 q = σ.1 q := if_neg h
theorem si_j {σ : St} {k : Nat} {v : Int32} : (si σ k v).2.1 = σ.2.1 := rfl
theorem si_a {σ : St} {k : Nat} {v : Int32} : (si σ k v).2.2.1 = σ.2.2.1 := rfl
theorem si_b {σ : St} {k : Nat} {v : Int32} : (si σ k v).2.2.2 = σ.2.2.2 := rfl
theorem sa_i {σ : St} {k x : Nat} {v : Int32} : (sa σ k x v).1 = σ.1 := rfl
theorem sa_j {σ : St} {k x : Nat} {v : Int32} : (sa σ k x v).2.1 = σ.2.1 := rfl
theorem sa_b {σ : St} {k x : Nat} {v : Int32} : (sa σ k x v).2.2.2 = σ.2.2.2 := rfl
theorem sa_s {σ : St} {k x : Nat} {v : Int32} : (sa σ k x v).2.2.1 k = upd (σ.2.2.1 k) x v := if_pos rfl
theorem sa_n {σ : St} {k q x : Nat} {v : Int32} (h : q ≠ k) : (sa σ k x v).2.2.1 q = σ.2.2.1 q := if_neg h
theorem sb_i {σ : St} {k x : Nat} {v : Int64} : (sb σ k x v).1 = σ.1 := rfl
theorem sb_j {σ : St} {k x : Nat} {v : Int64} : (sb σ k x v).2.1 = σ.2.1 := rfl
theorem sb_a {σ : St} {k x : Nat} {v : Int64} : (sb σ k x v).2.2.1 = σ.2.2.1 := rfl
theorem sb_s {σ : St} {k x : Nat} {v : Int64} : (sb σ k x v).2.2.2 k = vp_updL (σ.2.2.2 k) x v := if_pos rfl
theorem sb_n {σ : St} {k q x : Nat} {v : Int64} (h : q ≠ k) : (sb σ k x v).2.2.2 q = σ.2.2.2 q := if_neg h
theorem sj_i {σ : St} {k : Nat} {v : Int64} : (sj σ k v).1 = σ.1 := rfl
theorem sj_s {σ : St} {k : Nat} {v : Int64} : (sj σ k v).2.1 k = v := if_pos rfl
theorem sj_n {σ : St} {k q : Nat} {v : Int64} (h : q ≠ k) : (sj σ k v).2.1 q = σ.2.1 q := if_neg h
theorem sj_a {σ : St} {k : Nat} {v : Int64} : (sj σ k v).2.2.1 = σ.2.2.1 := rfl
theorem sj_b {σ : St} {k : Nat} {v : Int64} : (sj σ k v).2.2.2 = σ.2.2.2 := rfl
def isopN (b i a : Nat) : Bool := decide (a = 48) || decide (a = 49) || (decide (97 ≤ a) && decide (a < 97 + b)) || (decide (120 ≤ a) && decide (a < 120 + i))
def isnm (b i a : Nat) : Bool := (decide (97 ≤ a) && decide (a < 97 + b)) || (decide (120 ≤ a) && decide (a < 120 + i))
def isbn (a : Nat) : Bool := decide (a = 124) || decide (a = 94) || decide (a = 38)
def rdN (b i a : Nat) (p : Bool × Nat) : Option (Bool × Nat) := match p.1 with
  | true => if a = 41 then (if p.2 = 0 then none else some (true, p.2 - 1)) else if isbn a = true then some (false, p.2) else none
  | false => if a = 40 then some (false, p.2 + 1) else if a = 33 then some (false, p.2) else if isopN b i a = true then some (true, p.2) else none
def rdS (c : Ck) (t : Nat → Nat) : Nat → Option (Bool × Nat)
  | 0 => some (false, 0)
  | i + 1 => match rdS c t i with
    | some p => rdN c.1 c.2.1 (t i) p
    | none => none
def FE (c : Ck) (t : Nat → Nat) (L r : Nat) : Prop := r ≤ L ∧ rdS c t r ≠ none ∧ (r < L → rdS c t (r + 1) = none)
def isF (c : Ck) (t : Nat → Nat) (L : Nat) : Bool := decide (rdS c t L = some (true, 0))
def hasI (t : Nat → Nat) (L : Nat) : Bool := ax (fun i => decide (t i = 120) || decide (t i = 121)) L
def pln (c : Ck) (t : Nat → Nat) (L : Nat) : Bool := isF c t L && !hasI t L
theorem isop_k : ∀ a, a < 127 → ∀ b, b < 7 → ∀ i, i < 3 → X3_isOperand (nI a) (nI b) (nI i) = some (bI (isopN b i a)) := by decide +kernel
theorem bin_k : ∀ a, a < 127 → X7_isSign (nI a) = some (bI (isbn a)) := by decide +kernel
theorem inm_k : ∀ a, a < 127 → X3_isInputName (nI a) (nI 2) = some (bI (decide (a = 120) || decide (a = 121))) := by decide +kernel
def stt (x y : Int32) : St := (fun k => match k with
  | 1 => x
  | _ => y, fun _ => 0, fun _ _ => 0, fun _ _ => 0)
theorem isnm_k : ∀ a, a < 127 → ∀ b, b < 7 → ∀ i, i < 3 → X7_isName (stt (nI b) (nI i)) (nI a) = some (bI (isnm b i a)) := by decide +kernel
theorem isnm_st (τ : St) (v : Int32) : X7_isName τ v = X7_isName (stt (τ.1 1) (τ.1 2)) v := rfl
theorem isnm_x (a : Nat) (_ : a < 127) (b : Nat) (hb : b < 7) (i : Nat) (hi : i < 3) (h : isnm b i a = true) : a ≠ 48 ∧ a ≠ 49 ∧ a ≠ 40 ∧ a ≠ 33 ∧ a ≠ 41 ∧ isopN b i a = true := by
  have h' := h
  rw [isnm, Bool.or_eq_true, Bool.and_eq_true, Bool.and_eq_true, decide_eq_true_eq, decide_eq_true_eq, decide_eq_true_eq, decide_eq_true_eq] at h'
  refine ⟨by omega, by omega, by omega, by omega, by omega, ?_⟩
  unfold isnm at h
  rw [isopN, Bool.or_assoc, h, Bool.or_true]
theorem isnm_y : ∀ a, a < 127 → ∀ b, b < 7 → ∀ i, i < 3 → isnm b i a = false → isopN b i a = (decide (a = 48) || decide (a = 49)) := by decide +kernel
theorem isbn_x : ∀ a, a < 127 → isbn a = true → a ≠ 41 := by decide +kernel
theorem isbn_41 : isbn 41 = false := by decide
section READ
variable {c : Ck} {t : Nat → Nat} {L : Nat} {σ τ : St} {N : Nat}
theorem rdS_n {i : Nat} (h : rdS c t i = none) : ∀ j, i ≤ j → rdS c t j = none := by
  intro j
  induction j with
  | zero => intro hj; have : i = 0 := by omega
            subst this; exact h
  | succ j ih =>
    intro hj
    rcases Nat.lt_or_ge j i with q | q
    · have : i = j + 1 := by omega
      subst this; exact h
    · rw [rdS, ih q]
theorem rdS_s {i j : Nat} (h : rdS c t j ≠ none) (hi : i ≤ j) : ∃ p, rdS c t i = some p := by
  cases e : rdS c t i with
  | none => exact absurd (rdS_n e j hi) h
  | some p => exact ⟨p, rfl⟩
theorem rdN_le {b i a : Nat} {p q : Bool × Nat} (h : rdN b i a p = some q) : q.2 ≤ p.2 + 1 := by
  obtain ⟨ov, op⟩ := p
  cases ov
  · simp only [rdN] at h
    split at h
    · cases h; exact Nat.le_refl _
    · split at h
      · cases h; dsimp only; omega
      · split at h
        · cases h; dsimp only; omega
        · cases h
  · simp only [rdN] at h
    split at h
    · split at h
      · cases h
      · cases h; dsimp only; omega
    · split at h
      · cases h; dsimp only; omega
      · cases h
theorem rdS_le : ∀ i p, rdS c t i = some p → p.2 ≤ i := by
  intro i
  induction i with
  | zero => intro p h; cases h; exact Nat.le_refl _
  | succ i ih =>
    intro p h
    rw [rdS] at h
    cases e : rdS c t i with
    | none => rw [e] at h; cases h
    | some q =>
      rw [e] at h
      have := rdN_le h
      have := ih q e
      omega
theorem FE.u {r r' : Nat} (h : FE c t L r) (h' : FE c t L r') : r = r' := by
  rcases Nat.lt_trichotomy r r' with q | q | q
  · exact absurd (rdS_n (h.2.2 (by have := h'.1; omega)) r' q) h'.2.1
  · exact q
  · exact absurd (rdS_n (h'.2.2 (by have := h.1; omega)) r q) h.2.1
theorem X3_read_ok (hN : 4000000 ≤ N) (hb : c.1 < 7) (hi' : c.2.1 < 3) (hL : L ≤ 60) (h0 : σ.1 0 = nI L) (ht : ∀ i, i < L → t i < 127 ∧ σ.2.2.1 0 i = nI (t i)) : ∃ r σ', X3_read N (nI c.1) (nI c.2.1) σ = some (nI r, σ') ∧ FR [3, 4] [] [] [] σ σ' ∧ FE c t L r ∧ (r = L → ∃ ov op, rdS c t L = some (ov, op) ∧ σ'.1 3 = bI (!ov) ∧ σ'.1 4 = nI op) := by
  unfold X3_read
  show ∃ r σ', X3_read_12 (fun v3 σ => X3_read_58 v3 σ) (fun σ => X3_read_66 σ) (nI c.1) (nI c.2.1) N (nI 0) (si (si σ 3 1) 4 0) = some (nI r, σ') ∧ _
  refine wf (fun n i u => X3_read_12 (fun v3 σ => X3_read_58 v3 σ) (fun σ => X3_read_66 σ) (nI c.1) (nI c.2.1) n (nI i) u) L (fun i u => FR [3, 4] [] [] [] σ u ∧ ∃ ov op, rdS c t i = some (ov, op) ∧ u.1 3 = bI (!ov) ∧ u.1 4 = nI op) (fun r' => ∃ r σ', r' = some (nI r, σ') ∧ FR [3, 4] [] [] [] σ σ' ∧ FE c t L r ∧ (r = L → ∃ ov op, rdS c t L = some (ov, op) ∧ σ'.1 3 = bI (!ov) ∧ σ'.1 4 = nI op)) ?_ ?_ N 0 _ (by omega) ⟨(FR.rf.i (by decide)).i (by decide), false, 0, rfl, rfl, rfl⟩ (by omega)
  · rintro n i u hi ⟨hf, ov, op, ho, e3, e4⟩
    obtain ⟨hc1, hc2⟩ := ht i hi
    have hc : u.2.2.1 0 i = nI (t i) := by rw [hf.2.2.1 0 (by decide)]; exact hc2
    have hl : u.1 0 = nI L := by rw [hf.1 0 (by decide)]; exact h0
    have hop := rdS_le i _ ho
    dsimp only at hop
    have bad : ∀ s', X3_read_12 (fun v3 σ => X3_read_58 v3 σ) (fun σ => X3_read_66 σ) (nI c.1) (nI c.2.1) (n + 1) (nI i) u = some (nI i, s') → FR [3, 4] [] [] [] σ s' → rdS c t (i + 1) = none → ∃ r σ', X3_read_12 (fun v3 σ => X3_read_58 v3 σ) (fun σ => X3_read_66 σ) (nI c.1) (nI c.2.1) (n + 1) (nI i) u = some (nI r, σ') ∧ FR [3, 4] [] [] [] σ σ' ∧ FE c t L r ∧ (r = L → ∃ ov op, rdS c t L = some (ov, op) ∧ σ'.1 3 = bI (!ov) ∧ σ'.1 4 = nI op) := fun s' a1 a2 a3 => ⟨i, s', a1, a2, ⟨by omega, by rw [ho]; simp, fun _ => a3⟩, fun z => by omega⟩
    have nxt : ∀ p, rdN c.1 c.2.1 (t i) (ov, op) = p → rdS c t (i + 1) = p := fun p z => by rw [rdS, ho]; exact z
    cases ov
    · have e3' : u.1 3 = nI 1 := e3
      have ek := isop_k (t i) hc1 c.1 hb c.2.1 hi'
      rcases Classical.em (t i = 40) with z | z
      · refine Or.inr ⟨si u 4 (nI (op + 1)), ⟨hf.i (by decide), false, op + 1, nxt _ (by simp [rdN, z]), e3, rfl⟩, ?_⟩
        show X3_read_12 _ _ _ _ (n + 1) _ _ = X3_read_12 _ _ _ _ n _ _
        rw [z] at hc
        simp (disch := omega) only [X3_read_12, X3_read_12b, hl, X3_codeAt, hc, e3', X3_takesOperand, e4, fa_lit, nI_leI, nI_ltI, nI_eq, nI_add, pk_mul, nI_clamp, bd, nm, gd_in, gd_bI, gd_b0, gd_b1, if_pos, if_neg, bI_n0, bI_n1, reduceIte, reduceCtorEq, Nat.add_zero]
      · rcases Classical.em (t i = 33) with z2 | z2
        · refine Or.inr ⟨u, ⟨hf, false, op, nxt _ (by simp [rdN, z2]), e3, e4⟩, ?_⟩
          show X3_read_12 _ _ _ _ (n + 1) _ _ = X3_read_12 _ _ _ _ n _ _
          rw [z2] at hc
          simp (disch := omega) only [X3_read_12, X3_read_12b, hl, X3_codeAt, hc, e3', X3_takesOperand, e4, fa_lit, nI_leI, nI_ltI, nI_eq, nI_add, pk_mul, nI_clamp, bd, nm, gd_in, gd_bI, gd_b0, gd_b1, if_pos, if_neg, bI_n0, bI_n1, reduceIte, reduceCtorEq, Nat.add_zero]
        · cases e : isopN c.1 c.2.1 (t i)
          · refine Or.inl (bad (si u 3 (nI 0)) ?_ (hf.i (by decide)) (nxt _ (by simp [rdN, z, z2, e])))
            simp (disch := omega) only [X3_read_12, X3_read_12b, hl, X3_codeAt, hc, e3', X3_takesOperand, e4, ek, e, X3_read_58, fa_lit, nI_leI, nI_ltI, nI_eq, nI_add, pk_mul, nI_clamp, bd, nm, gd_in, gd_bI, gd_b0, gd_b1, if_pos, if_neg, bI_n0, bI_n1, reduceIte, reduceCtorEq, Nat.add_zero]
          · refine Or.inr ⟨si u 3 (nI 0), ⟨hf.i (by decide), true, op, nxt _ (by simp [rdN, z, z2, e]), rfl, e4⟩, ?_⟩
            show X3_read_12 _ _ _ _ (n + 1) _ _ = X3_read_12 _ _ _ _ n _ _
            simp (disch := omega) only [X3_read_12, X3_read_12b, hl, X3_codeAt, hc, e3', X3_takesOperand, e4, ek, e, fa_lit, nI_leI, nI_ltI, nI_eq, nI_add, pk_mul, nI_clamp, bd, nm, gd_in, gd_bI, gd_b0, gd_b1, if_pos, if_neg, bI_n0, bI_n1, reduceIte, reduceCtorEq, Nat.add_zero]
    · have e3' : u.1 3 = nI 0 := e3
      rcases Classical.em (t i = 41) with z | z
      · rw [z] at hc
        rcases Classical.em (op = 0) with z2 | z2
        · subst z2
          refine Or.inl (bad (si u 4 (nI 0 - nI 1)) ?_ (hf.i (by decide)) (nxt _ (by simp [rdN, z])))
          have e5 : (nI 0 - nI 1 : Int32) < nI 0 := by decide
          simp (disch := omega) only [X3_read_12, X3_read_12b, hl, X3_codeAt, hc, e3', X3_takesOperator, e4, si_s, e5, X3_read_58, fa_lit, nI_leI, nI_ltI, nI_eq, nI_add, pk_mul, nI_clamp, bd, nm, gd_in, gd_bI, gd_b0, gd_b1, if_pos, if_neg, bI_n0, bI_n1, reduceIte, reduceCtorEq, Nat.add_zero]
        · refine Or.inr ⟨si u 4 (nI (op - 1)), ⟨hf.i (by decide), true, op - 1, nxt _ (by simp [rdN, z, z2]), e3, rfl⟩, ?_⟩
          show X3_read_12 _ _ _ _ (n + 1) _ _ = X3_read_12 _ _ _ _ n _ _
          simp (disch := omega) only [X3_read_12, X3_read_12b, hl, X3_codeAt, hc, e3', X3_takesOperator, e4, si_s, pk_sub, fa_lit, nI_leI, nI_ltI, nI_eq, nI_add, pk_mul, nI_clamp, bd, nm, gd_in, gd_bI, gd_b0, gd_b1, if_pos, if_neg, bI_n0, bI_n1, reduceIte, reduceCtorEq, Nat.add_zero]
      · cases e : isbn (t i)
        · have e5 : t i ≠ 124 ∧ t i ≠ 94 ∧ t i ≠ 38 := by simpa [isbn, and_assoc] using e
          obtain ⟨f1, f2, f3⟩ := e5
          refine Or.inl (bad (si u 3 (nI 1)) ?_ (hf.i (by decide)) (nxt _ (by simp [rdN, z, e])))
          simp (disch := omega) only [X3_read_12, X3_read_12b, hl, X3_codeAt, hc, e3', X3_takesOperator, e4, X3_read_58, fa_lit, nI_leI, nI_ltI, nI_eq, nI_add, pk_mul, nI_clamp, bd, nm, gd_in, gd_bI, gd_b0, gd_b1, if_pos, if_neg, bI_n0, bI_n1, reduceIte, reduceCtorEq, Nat.add_zero]
        · have e5 : (t i = 124 ∨ t i = 94) ∨ t i = 38 := by simpa [isbn] using e
          refine Or.inr ⟨si u 3 (nI 1), ⟨hf.i (by decide), false, op, nxt _ (by simp [rdN, z, e]), rfl, e4⟩, ?_⟩
          show X3_read_12 _ _ _ _ (n + 1) _ _ = X3_read_12 _ _ _ _ n _ _
          rcases e5 with (f | f) | f
          · rw [f] at hc
            simp (disch := omega) only [X3_read_12, X3_read_12b, hl, X3_codeAt, hc, e3', X3_takesOperator, e4, fa_lit, nI_leI, nI_ltI, nI_eq, nI_add, pk_mul, nI_clamp, bd, nm, gd_in, gd_bI, gd_b0, gd_b1, if_pos, if_neg, bI_n0, bI_n1, reduceIte, reduceCtorEq, Nat.add_zero]
          · rw [f] at hc
            simp (disch := omega) only [X3_read_12, X3_read_12b, hl, X3_codeAt, hc, e3', X3_takesOperator, e4, fa_lit, nI_leI, nI_ltI, nI_eq, nI_add, pk_mul, nI_clamp, bd, nm, gd_in, gd_bI, gd_b0, gd_b1, if_pos, if_neg, bI_n0, bI_n1, reduceIte, reduceCtorEq, Nat.add_zero]
          · rw [f] at hc
            simp (disch := omega) only [X3_read_12, X3_read_12b, hl, X3_codeAt, hc, e3', X3_takesOperator, e4, fa_lit, nI_leI, nI_ltI, nI_eq, nI_add, pk_mul, nI_clamp, bd, nm, gd_in, gd_bI, gd_b0, gd_b1, if_pos, if_neg, bI_n0, bI_n1, reduceIte, reduceCtorEq, Nat.add_zero]
  · rintro n u ⟨hf, ov, op, ho, e3, e4⟩
    have hl : u.1 0 = nI L := by rw [hf.1 0 (by decide)]; exact h0
    refine ⟨L, u, ?_, hf, ⟨Nat.le_refl _, by rw [ho]; simp, fun z => by omega⟩, fun _ => ⟨ov, op, ho, e3, e4⟩⟩
    show X3_read_12 _ _ _ _ (n + 1) _ _ = _
    simp (disch := omega) only [X3_read_12, X3_read_12b, hl, X3_read_66, fa_lit, nI_leI, nI_ltI, nI_eq, nI_add, pk_mul, nI_clamp, bd, nm, gd_in, gd_bI, gd_b0, gd_b1, if_pos, if_neg, bI_n0, bI_n1, reduceIte, reduceCtorEq, Nat.add_zero]
theorem X7_read_ok (hN : 4000000 ≤ N) (hb : c.1 < 7) (hi' : c.2.1 < 3) (hB : τ.1 1 = nI c.1) (hI : τ.1 2 = nI c.2.1) (hL : L ≤ 60) (h0 : τ.1 3 = nI L) (ht : ∀ i, i < L → t i < 127 ∧ τ.2.2.1 0 i = nI (t i)) : ∃ r τ', X7_read N τ = some (nI r, τ') ∧ FR [5, 6] [] [] [] τ τ' ∧ FE c t L r ∧ (r = L → ∃ ov op, rdS c t L = some (ov, op) ∧ τ'.1 6 = bI ov ∧ τ'.1 5 = nI op) := by
  unfold X7_read
  show ∃ r τ', X7_read_14 (fun v1 σ => X7_read_95 v1 σ) N (nI 0) (bI true) (si (si τ 5 0) 6 0) = some (nI r, τ') ∧ _
  refine wl (fun n (p : Nat × Bool × St) => X7_read_14 (fun v1 σ => X7_read_95 v1 σ) n (nI p.1) (bI p.2.1) p.2.2) (fun p => 2 * (L - p.1) + (match p.2.1 with | true => 1 | false => 0)) (fun p => p.1 ≤ L ∧ FR [5, 6] [] [] [] τ p.2.2 ∧ (p.2.1 = true → ∃ ov op, rdS c t p.1 = some (ov, op) ∧ p.2.2.1 6 = bI ov ∧ p.2.2.1 5 = nI op) ∧ (p.2.1 = false → p.1 < L ∧ FE c t L p.1)) (fun r' => ∃ r τ', r' = some (nI r, τ') ∧ FR [5, 6] [] [] [] τ τ' ∧ FE c t L r ∧ (r = L → ∃ ov op, rdS c t L = some (ov, op) ∧ τ'.1 6 = bI ov ∧ τ'.1 5 = nI op)) ?_ N (0, true, si (si τ 5 0) 6 0) ⟨Nat.zero_le _, (FR.rf.i (by decide)).i (by decide), fun _ => ⟨false, 0, rfl, rfl, rfl⟩, fun z => (by cases z)⟩ (by show 2 * (L - 0) + 1 < N; omega)
  rintro n ⟨i, al, u⟩ ⟨hi1, hf, hA, hD⟩
  dsimp only at hi1 hf hA hD ⊢
  have hl : u.1 3 = nI L := by rw [hf.1 3 (by decide)]; exact h0
  cases al
  · obtain ⟨d1, d2⟩ := hD rfl
    refine Or.inl ⟨i, u, ?_, hf, d2, fun z => by omega⟩
    simp (disch := omega) only [X7_read_14, X7_read_14b, hl, X7_read_95, fa_lit, nI_leI, nI_ltI, nI_eq, nI_add, pk_mul, nI_clamp, bd, nm, gd_in, gd_bI, gd_b0, gd_b1, if_pos, if_neg, bI_n0, bI_n1, reduceIte, reduceCtorEq, Nat.add_zero]
  · obtain ⟨ov, op, ho, e6, e5⟩ := hA rfl
    rcases Nat.lt_or_ge i L with hi | hi
    · obtain ⟨hc1, hc2⟩ := ht i hi
      have hc : u.2.2.1 0 i = nI (t i) := by rw [hf.2.2.1 0 (by decide)]; exact hc2
      have hop := rdS_le i _ ho
      dsimp only at hop
      have nxt : ∀ p, rdN c.1 c.2.1 (t i) (ov, op) = p → rdS c t (i + 1) = p := fun p z => by rw [rdS, ho]; exact z
      refine Or.inr ?_
      have bad : ∀ s', X7_read_14 (fun v1 σ => X7_read_95 v1 σ) (n + 1) (nI i) (bI true) u = X7_read_14 (fun v1 σ => X7_read_95 v1 σ) n (nI i) (bI false) s' → FR [5, 6] [] [] [] τ s' → rdS c t (i + 1) = none → ∃ a' : Nat × Bool × St, (a'.1 ≤ L ∧ FR [5, 6] [] [] [] τ a'.2.2 ∧ (a'.2.1 = true → ∃ ov op, rdS c t a'.1 = some (ov, op) ∧ a'.2.2.1 6 = bI ov ∧ a'.2.2.1 5 = nI op) ∧ (a'.2.1 = false → a'.1 < L ∧ FE c t L a'.1)) ∧ (2 * (L - a'.1) + (match a'.2.1 with | true => 1 | false => 0)) < 2 * (L - i) + 1 ∧ X7_read_14 (fun v1 σ => X7_read_95 v1 σ) (n + 1) (nI i) (bI true) u = X7_read_14 (fun v1 σ => X7_read_95 v1 σ) n (nI a'.1) (bI a'.2.1) a'.2.2 := fun s' a1 a2 a3 => ⟨(i, false, s'), ⟨hi1, a2, fun z => (by cases z), fun _ => ⟨hi, ⟨hi1, by rw [ho]; simp, fun _ => a3⟩⟩⟩, by dsimp only; omega, a1⟩
      have good : ∀ s' ov' op', X7_read_14 (fun v1 σ => X7_read_95 v1 σ) (n + 1) (nI i) (bI true) u = X7_read_14 (fun v1 σ => X7_read_95 v1 σ) n (nI (i + 1)) (bI true) s' → FR [5, 6] [] [] [] τ s' → rdS c t (i + 1) = some (ov', op') → s'.1 6 = bI ov' → s'.1 5 = nI op' → ∃ a' : Nat × Bool × St, (a'.1 ≤ L ∧ FR [5, 6] [] [] [] τ a'.2.2 ∧ (a'.2.1 = true → ∃ ov op, rdS c t a'.1 = some (ov, op) ∧ a'.2.2.1 6 = bI ov ∧ a'.2.2.1 5 = nI op) ∧ (a'.2.1 = false → a'.1 < L ∧ FE c t L a'.1)) ∧ (2 * (L - a'.1) + (match a'.2.1 with | true => 1 | false => 0)) < 2 * (L - i) + 1 ∧ X7_read_14 (fun v1 σ => X7_read_95 v1 σ) (n + 1) (nI i) (bI true) u = X7_read_14 (fun v1 σ => X7_read_95 v1 σ) n (nI a'.1) (bI a'.2.1) a'.2.2 := fun s' ov' op' a1 a2 a3 a4 a5 => ⟨(i + 1, true, s'), ⟨hi, a2, fun _ => ⟨ov', op', a3, a4, a5⟩, fun z => (by cases z)⟩, by dsimp only; omega, a1⟩
      have t1 : bI true = nI 1 := rfl
      have t0 : bI false = nI 0 := rfl
      cases ov
      · have e6' : u.1 6 = nI 0 := e6
        have hnm : X7_isName u (nI (t i)) = some (bI (isnm c.1 c.2.1 (t i))) := by
          rw [isnm_st, hf.1 1 (by decide), hf.1 2 (by decide), hB, hI]
          exact isnm_k (t i) hc1 c.1 hb c.2.1 hi'
        cases e : isnm c.1 c.2.1 (t i)
        · have ey := isnm_y (t i) hc1 c.1 hb c.2.1 hi' e
          rcases Classical.em (t i = 48) with z | z
          · refine good (si (si u 6 (nI 1)) 5 (nI (op + 0))) true op ?_ ((hf.i (by decide)).i (by decide)) (nxt _ (by simp [rdN, z, show isopN c.1 c.2.1 48 = true by rw [← z, ey, z]; rfl])) rfl rfl
            rw [t1]
            simp (disch := omega) only [X7_read_14, X7_read_14b, hl, e6', X7_read_56, hc, X7_takes, hnm, e, X7_takes_81, si_n, e5, X7_takes_100, si_s, X7_read_79, fa_lit, nI_leI, nI_ltI, nI_eq, nI_add, pk_mul, nI_clamp, bd, nm, gd_in, gd_bI, gd_b0, gd_b1, if_pos, if_neg, bI_n0, bI_n1, reduceIte, reduceCtorEq, Nat.add_zero]
          · rcases Classical.em (t i = 49) with z2 | z2
            · refine good (si (si u 6 (nI 1)) 5 (nI (op + 0))) true op ?_ ((hf.i (by decide)).i (by decide)) (nxt _ (by simp [rdN, z2, show isopN c.1 c.2.1 49 = true by rw [← z2, ey, z2]; rfl])) rfl rfl
              rw [t1]
              simp (disch := omega) only [X7_read_14, X7_read_14b, hl, e6', X7_read_56, hc, X7_takes, hnm, e, X7_takes_81, si_n, e5, X7_takes_100, si_s, X7_read_79, fa_lit, nI_leI, nI_ltI, nI_eq, nI_add, pk_mul, nI_clamp, bd, nm, gd_in, gd_bI, gd_b0, gd_b1, if_pos, if_neg, bI_n0, bI_n1, reduceIte, reduceCtorEq, Nat.add_zero]
            · have ez : isopN c.1 c.2.1 (t i) = false := by rw [ey, decide_eq_false z, decide_eq_false z2]; rfl
              rcases Classical.em (t i = 40) with z3 | z3
              · refine good (si (si u 6 (nI 0)) 5 (nI (op + 1))) false (op + 1) ?_ ((hf.i (by decide)).i (by decide)) (nxt _ (by simp [rdN, z3])) rfl rfl
                rw [t1]
                simp (disch := omega) only [X7_read_14, X7_read_14b, hl, e6', X7_read_56, hc, X7_takes, hnm, e, X7_takes_81, si_n, e5, X7_takes_100, si_s, X7_read_79, fa_lit, nI_leI, nI_ltI, nI_eq, nI_add, pk_mul, nI_clamp, bd, nm, gd_in, gd_bI, gd_b0, gd_b1, if_pos, if_neg, bI_n0, bI_n1, reduceIte, reduceCtorEq, Nat.add_zero]
              · rcases Classical.em (t i = 33) with z4 | z4
                · refine good (si (si u 6 (nI 0)) 5 (nI (op + 0))) false op ?_ ((hf.i (by decide)).i (by decide)) (nxt _ (by simp [rdN, z4])) rfl rfl
                  rw [t1]
                  simp (disch := omega) only [X7_read_14, X7_read_14b, hl, e6', X7_read_56, hc, X7_takes, hnm, e, X7_takes_81, si_n, e5, X7_takes_100, si_s, X7_read_79, fa_lit, nI_leI, nI_ltI, nI_eq, nI_add, pk_mul, nI_clamp, bd, nm, gd_in, gd_bI, gd_b0, gd_b1, if_pos, if_neg, bI_n0, bI_n1, reduceIte, reduceCtorEq, Nat.add_zero]
                · refine bad (si (si u 6 (nI 0)) 5 (nI (op + 0))) ?_ ((hf.i (by decide)).i (by decide)) (nxt _ (by simp [rdN, z3, z4, ez]))
                  rw [t1, t0]
                  simp (disch := omega) only [X7_read_14, X7_read_14b, hl, e6', X7_read_56, hc, X7_takes, hnm, e, X7_takes_81, si_n, e5, X7_takes_100, si_s, X7_read_79, fa_lit, nI_leI, nI_ltI, nI_eq, nI_add, pk_mul, nI_clamp, bd, nm, gd_in, gd_bI, gd_b0, gd_b1, if_pos, if_neg, bI_n0, bI_n1, reduceIte, reduceCtorEq, Nat.add_zero]
        · obtain ⟨x1, x2, x3, x4, x5, x6⟩ := isnm_x (t i) hc1 c.1 hb c.2.1 hi' e
          refine good (si (si u 6 (nI 1)) 5 (nI (op + 0))) true op ?_ ((hf.i (by decide)).i (by decide)) (nxt _ (by simp [rdN, x3, x4, x6])) rfl rfl
          rw [t1]
          simp (disch := omega) only [X7_read_14, X7_read_14b, hl, e6', X7_read_56, hc, X7_takes, hnm, e, X7_takes_81, si_n, e5, X7_takes_100, si_s, X7_read_79, fa_lit, nI_leI, nI_ltI, nI_eq, nI_add, pk_mul, nI_clamp, bd, nm, gd_in, gd_bI, gd_b0, gd_b1, if_pos, if_neg, bI_n0, bI_n1, reduceIte, reduceCtorEq, Nat.add_zero]
      · have e6' : u.1 6 = nI 1 := e6
        have hbn := bin_k (t i) hc1
        rcases Classical.em (t i = 41) with z | z
        · have hb41 : X7_isSign (nI 41) = some (nI 0) := by decide
          rw [z] at hc
          rcases Classical.em (op = 0) with z2 | z2
          · subst z2
            refine bad (si (si u 6 (nI 1)) 5 (nI 0)) ?_ ((hf.i (by decide)).i (by decide)) (nxt _ (by simp [rdN, z]))
            rw [t1, t0]
            simp (disch := omega) only [X7_read_14, X7_read_14b, hl, e6', X7_read_56, hc, X7_takes, hb41, X7_takes_20, si_n, e5, X7_takes_46, si_s, X7_read_79, pk_sub, fa_lit, nI_leI, nI_ltI, nI_eq, nI_add, pk_mul, nI_clamp, bd, nm, gd_in, gd_bI, gd_b0, gd_b1, if_pos, if_neg, bI_n0, bI_n1, reduceIte, reduceCtorEq, Nat.add_zero]
          · refine good (si (si u 6 (nI 1)) 5 (nI (op - 1))) true (op - 1) ?_ ((hf.i (by decide)).i (by decide)) (nxt _ (by simp [rdN, z, z2])) rfl rfl
            rw [t1]
            simp (disch := omega) only [X7_read_14, X7_read_14b, hl, e6', X7_read_56, hc, X7_takes, hb41, X7_takes_20, si_n, e5, X7_takes_46, si_s, X7_read_79, pk_sub, fa_lit, nI_leI, nI_ltI, nI_eq, nI_add, pk_mul, nI_clamp, bd, nm, gd_in, gd_bI, gd_b0, gd_b1, if_pos, if_neg, bI_n0, bI_n1, reduceIte, reduceCtorEq, Nat.add_zero]
        · cases e : isbn (t i)
          · refine bad (si (si u 6 (nI 1)) 5 (nI (op - 0))) ?_ ((hf.i (by decide)).i (by decide)) (nxt _ (by simp [rdN, z, e]))
            rw [t1, t0]
            simp (disch := omega) only [X7_read_14, X7_read_14b, hl, e6', X7_read_56, hc, X7_takes, hbn, e, X7_takes_20, si_n, e5, X7_takes_46, si_s, X7_read_79, pk_sub, fa_lit, nI_leI, nI_ltI, nI_eq, nI_add, pk_mul, nI_clamp, bd, nm, gd_in, gd_bI, gd_b0, gd_b1, if_pos, if_neg, bI_n0, bI_n1, reduceIte, reduceCtorEq, Nat.add_zero]
          · refine good (si (si u 6 (nI 0)) 5 (nI (op - 0))) false op ?_ ((hf.i (by decide)).i (by decide)) (nxt _ (by simp [rdN, z, e])) rfl rfl
            rw [t1]
            simp (disch := omega) only [X7_read_14, X7_read_14b, hl, e6', X7_read_56, hc, X7_takes, hbn, e, X7_takes_20, si_n, e5, X7_takes_46, si_s, X7_read_79, pk_sub, fa_lit, nI_leI, nI_ltI, nI_eq, nI_add, pk_mul, nI_clamp, bd, nm, gd_in, gd_bI, gd_b0, gd_b1, if_pos, if_neg, bI_n0, bI_n1, reduceIte, reduceCtorEq, Nat.add_zero]
    · have : i = L := by omega
      subst this
      refine Or.inl ⟨i, u, ?_, hf, ⟨Nat.le_refl _, by rw [ho]; simp, fun z => by omega⟩, fun _ => ⟨ov, op, ho, e6, e5⟩⟩
      simp (disch := omega) only [X7_read_14, X7_read_14b, hl, X7_read_95, fa_lit, nI_leI, nI_ltI, nI_eq, nI_add, pk_mul, nI_clamp, bd, nm, gd_in, gd_bI, gd_b0, gd_b1, if_pos, if_neg, bI_n0, bI_n1, reduceIte, reduceCtorEq, Nat.add_zero]
theorem X3_isFormula_ok (hN : 4000000 ≤ N) (hb : c.1 < 7) (hi' : c.2.1 < 3) (hL : L ≤ 60) (h0 : σ.1 0 = nI L) (ht : ∀ i, i < L → t i < 127 ∧ σ.2.2.1 0 i = nI (t i)) : ∃ σ', X3_isFormula N (nI c.1) (nI c.2.1) σ = some (bI (isF c t L), σ') ∧ FR [3, 4] [] [] [] σ σ' := by
  obtain ⟨r, σ', e, hf, he, hr⟩ := X3_read_ok (c := c) (t := t) hN hb hi' hL h0 ht
  have hl : σ'.1 0 = nI L := by rw [hf.1 0 (by decide)]; exact h0
  refine ⟨σ', ?_, hf⟩
  unfold X3_isFormula
  rw [e]
  rcases Nat.lt_or_ge r L with q | q
  · have : isF c t L = false := by rw [isF, rdS_n (he.2.2 q) L q]; rfl
    rw [this]
    simp (disch := omega) only [hl, fa_lit, nI_leI, nI_ltI, nI_eq, nI_add, pk_mul, nI_clamp, bd, nm, gd_in, gd_bI, gd_b0, gd_b1, if_pos, if_neg, bI_n0, bI_n1, reduceIte, reduceCtorEq, Nat.add_zero]
    rfl
  · have : r = L := by have := he.1; omega
    subst this
    obtain ⟨ov, op, h1, h2, h3⟩ := hr rfl
    have hop := rdS_le r _ h1
    dsimp only at hop
    cases ov
    · have h2' : σ'.1 3 = nI 1 := h2
      have : isF c t r = false := by rw [isF, h1]; simp
      rw [this]
      simp (disch := omega) only [hl, h2', fa_lit, nI_leI, nI_ltI, nI_eq, nI_add, pk_mul, nI_clamp, bd, nm, gd_in, gd_bI, gd_b0, gd_b1, if_pos, if_neg, bI_n0, bI_n1, reduceIte, reduceCtorEq, Nat.add_zero]
      rfl
    · have h2' : σ'.1 3 = nI 0 := h2
      rcases Nat.eq_zero_or_pos op with z | z
      · subst z
        have : isF c t r = true := by rw [isF, h1]; rfl
        rw [this]
        simp (disch := omega) only [hl, h2', h3, fa_lit, nI_leI, nI_ltI, nI_eq, nI_add, pk_mul, nI_clamp, bd, nm, gd_in, gd_bI, gd_b0, gd_b1, if_pos, if_neg, bI_n0, bI_n1, reduceIte, reduceCtorEq, Nat.add_zero]
        rfl
      · have : isF c t r = false := by rw [isF, h1]; simp; omega
        rw [this]
        simp (disch := omega) only [hl, h2', h3, fa_lit, nI_leI, nI_ltI, nI_eq, nI_add, pk_mul, nI_clamp, bd, nm, gd_in, gd_bI, gd_b0, gd_b1, if_pos, if_neg, bI_n0, bI_n1, reduceIte, reduceCtorEq, Nat.add_zero]
        rfl
theorem X7_isFormula_ok (hN : 4000000 ≤ N) (hb : c.1 < 7) (hi' : c.2.1 < 3) (hB : τ.1 1 = nI c.1) (hI : τ.1 2 = nI c.2.1) (hL : L ≤ 60) (h0 : τ.1 3 = nI L) (ht : ∀ i, i < L → t i < 127 ∧ τ.2.2.1 0 i = nI (t i)) : ∃ τ', X7_isFormula N τ = some (bI (isF c t L), τ') ∧ FR [5, 6] [] [] [] τ τ' := by
  obtain ⟨r, τ', e, hf, he, hr⟩ := X7_read_ok (c := c) (t := t) hN hb hi' hB hI hL h0 ht
  have hl : τ'.1 3 = nI L := by rw [hf.1 3 (by decide)]; exact h0
  refine ⟨τ', ?_, hf⟩
  unfold X7_isFormula
  rw [e]
  rcases Nat.lt_or_ge r L with q | q
  · have : isF c t L = false := by rw [isF, rdS_n (he.2.2 q) L q]; rfl
    rw [this]
    simp (disch := omega) only [hl, fa_lit, nI_leI, nI_ltI, nI_eq, nI_add, pk_mul, nI_clamp, bd, nm, gd_in, gd_bI, gd_b0, gd_b1, if_pos, if_neg, bI_n0, bI_n1, reduceIte, reduceCtorEq, Nat.add_zero]
    rfl
  · have : r = L := by have := he.1; omega
    subst this
    obtain ⟨ov, op, h1, h2, h3⟩ := hr rfl
    have hop := rdS_le r _ h1
    dsimp only at hop
    cases ov
    · have h2' : τ'.1 6 = nI 0 := h2
      have : isF c t r = false := by rw [isF, h1]; simp
      rw [this]
      simp (disch := omega) only [hl, h2', fa_lit, nI_leI, nI_ltI, nI_eq, nI_add, pk_mul, nI_clamp, bd, nm, gd_in, gd_bI, gd_b0, gd_b1, if_pos, if_neg, bI_n0, bI_n1, reduceIte, reduceCtorEq, Nat.add_zero]
      rfl
    · have h2' : τ'.1 6 = nI 1 := h2
      rcases Nat.eq_zero_or_pos op with z | z
      · subst z
        have : isF c t r = true := by rw [isF, h1]; rfl
        rw [this]
        simp (disch := omega) only [hl, h2', h3, fa_lit, nI_leI, nI_ltI, nI_eq, nI_add, pk_mul, nI_clamp, bd, nm, gd_in, gd_bI, gd_b0, gd_b1, if_pos, if_neg, bI_n0, bI_n1, reduceIte, reduceCtorEq, Nat.add_zero]
        rfl
      · have : isF c t r = false := by rw [isF, h1]; simp; omega
        rw [this]
        simp (disch := omega) only [hl, h2', h3, fa_lit, nI_leI, nI_ltI, nI_eq, nI_add, pk_mul, nI_clamp, bd, nm, gd_in, gd_bI, gd_b0, gd_b1, if_pos, if_neg, bI_n0, bI_n1, reduceIte, reduceCtorEq, Nat.add_zero]
        rfl
theorem X3_hasInputName_ok (hN : 4000000 ≤ N) (hL : L ≤ 60) (h0 : σ.1 0 = nI L) (ht : ∀ i, i < L → t i < 127 ∧ σ.2.2.1 0 i = nI (t i)) : X3_hasInputName N σ = some (bI (hasI t L)) := by
  unfold X3_hasInputName
  refine wf (fun n i (u : Unit) => X3_hasInputName_2 (X3_hasInputName_22 σ) (X3_hasInputName_30 σ) σ n (nI i)) L (fun i _ => hasI t i = false) (fun r => r = some (bI (hasI t L))) ?_ ?_ N 0 () (by omega) rfl (by omega)
  · rintro n i u hi e
    obtain ⟨hc1, hc⟩ := ht i hi
    have hk := inm_k (t i) hc1
    cases e2 : (decide (t i = 120) || decide (t i = 121))
    · refine Or.inr ⟨(), ?_, ?_⟩
      · unfold hasI at e ⊢
        rw [ax, e, e2]; rfl
      · show X3_hasInputName_2 _ _ σ (n + 1) _ = X3_hasInputName_2 _ _ σ n _
        simp (disch := omega) only [X3_hasInputName_2, X3_hasInputName_2b, h0, X3_codeAt, hc, hk, e2, fa_lit, nI_leI, nI_ltI, nI_eq, nI_add, pk_mul, nI_clamp, bd, nm, gd_in, gd_bI, gd_b0, gd_b1, if_pos, if_neg, bI_n0, bI_n1, reduceIte, reduceCtorEq, Nat.add_zero]
    · refine Or.inl ?_
      have e3 : hasI t L = true := ax_t.mpr ⟨i, hi, e2⟩
      rw [e3]
      show X3_hasInputName_2 _ _ σ (n + 1) _ = _
      simp (disch := omega) only [X3_hasInputName_2, X3_hasInputName_2b, h0, X3_codeAt, hc, hk, e2, X3_hasInputName_22, fa_lit, nI_leI, nI_ltI, nI_eq, nI_add, pk_mul, nI_clamp, bd, nm, gd_in, gd_bI, gd_b0, gd_b1, if_pos, if_neg, bI_n0, bI_n1, reduceIte, reduceCtorEq, Nat.add_zero]
      rfl
  · rintro n u e
    rw [e]
    show X3_hasInputName_2 _ _ σ (n + 1) _ = _
    simp (disch := omega) only [X3_hasInputName_2, X3_hasInputName_2b, h0, X3_hasInputName_30, fa_lit, nI_leI, nI_ltI, nI_eq, nI_add, pk_mul, nI_clamp, bd, nm, gd_in, gd_bI, gd_b0, gd_b1, if_pos, if_neg, bI_n0, bI_n1, reduceIte, reduceCtorEq, Nat.add_zero]
    rfl
theorem X7_hasInputs_ok (hN : 4000000 ≤ N) (hL : L ≤ 60) (h0 : τ.1 3 = nI L) (ht : ∀ i, i < L → t i < 127 ∧ τ.2.2.1 0 i = nI (t i)) : X7_hasInputs N τ = some (bI (hasI t L)) := by
  unfold X7_hasInputs
  refine wf (fun n i a => X7_hasInputs_4 (fun v1 => X7_hasInputs_50 τ v1) τ n a (nI i)) L (fun i a => a = bI (hasI t i)) (fun r => r = some (bI (hasI t L))) ?_ ?_ N 0 _ (by omega) rfl (by omega)
  · rintro n i a hi rfl
    refine Or.inr ⟨_, rfl, ?_⟩
    obtain ⟨hc1, hc⟩ := ht i hi
    show X7_hasInputs_4 _ τ (n + 1) _ _ = X7_hasInputs_4 _ τ n _ _
    have e : hasI t (i + 1) = (hasI t i || (decide (t i = 120) || decide (t i = 121))) := rfl
    rw [e]
    cases e2 : hasI t i
    · rcases Classical.em (t i = 120) with z | z
      · rw [decide_eq_true z]
        rw [z] at hc
        simp (disch := omega) only [X7_hasInputs_4, X7_hasInputs_4b, h0, hc, fa_lit, nI_leI, nI_ltI, nI_eq, nI_add, pk_mul, nI_clamp, bd, nm, gd_in, gd_bI, gd_b0, gd_b1, if_pos, if_neg, bI_n0, bI_n1, reduceIte, reduceCtorEq, Nat.add_zero]
        rfl
      · rcases Classical.em (t i = 121) with z2 | z2
        · rw [decide_eq_true z2, decide_eq_false z]
          rw [z2] at hc
          simp (disch := omega) only [X7_hasInputs_4, X7_hasInputs_4b, h0, hc, fa_lit, nI_leI, nI_ltI, nI_eq, nI_add, pk_mul, nI_clamp, bd, nm, gd_in, gd_bI, gd_b0, gd_b1, if_pos, if_neg, bI_n0, bI_n1, reduceIte, reduceCtorEq, Nat.add_zero]
          rfl
        · rw [decide_eq_false z2, decide_eq_false z]
          simp (disch := omega) only [X7_hasInputs_4, X7_hasInputs_4b, h0, hc, fa_lit, nI_leI, nI_ltI, nI_eq, nI_add, pk_mul, nI_clamp, bd, nm, gd_in, gd_bI, gd_b0, gd_b1, if_pos, if_neg, bI_n0, bI_n1, reduceIte, reduceCtorEq, Nat.add_zero]
          rfl
    · simp (disch := omega) only [X7_hasInputs_4, X7_hasInputs_4b, h0, fa_lit, nI_leI, nI_ltI, nI_eq, nI_add, pk_mul, nI_clamp, bd, nm, gd_in, gd_bI, gd_b0, gd_b1, if_pos, if_neg, bI_n0, bI_n1, reduceIte, reduceCtorEq, Nat.add_zero]
      rfl
  · rintro n a rfl
    show X7_hasInputs_4 _ τ (n + 1) _ _ = _
    simp (disch := omega) only [X7_hasInputs_4, X7_hasInputs_4b, h0, X7_hasInputs_50, fa_lit, nI_leI, nI_ltI, nI_eq, nI_add, pk_mul, nI_clamp, bd, nm, gd_in, gd_bI, gd_b0, gd_b1, if_pos, if_neg, bI_n0, bI_n1, reduceIte, reduceCtorEq, Nat.add_zero]
end READ
