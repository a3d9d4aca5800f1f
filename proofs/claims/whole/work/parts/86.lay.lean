/-! 86: layers of a search; how far states are -/
def lay (F : Int64 → Int64) (x : Int64) : Nat → Int64 × Int64
  | 0 => (0, x)
  | j + 1 => ((lay F x j).1 ||| (lay F x j).2, F (lay F x j).2 &&& (((lay F x j).1 ||| (lay F x j).2) ^^^ (-1)))
def far (F : Int64 → Int64) (x : Int64) : Nat → Nat → Int32
  | 0, _ => -1
  | j + 1, s => if ht (lay F x j).2 s = true then nI j else far F x j s
def dpt (F : Int64 → Int64) (x : Int64) : Nat → Int32
  | 0 => -1
  | j + 1 => if (lay F x j).2 = 0 then dpt F x j else nI j
section LAY
variable {F : Int64 → Int64} {x : Int64}
theorem lay_z (h0 : F 0 = 0) {j : Nat} (h : (lay F x j).2 = 0) : ∀ k, j ≤ k → (lay F x k).2 = 0 ∧ (lay F x k).1 = (lay F x j).1 ∧ (∀ s, far F x k s = far F x j s) ∧ dpt F x k = dpt F x j := by
  intro k
  induction k with
  | zero => intro hk; have : j = 0 := by omega
            subst this; exact ⟨h, rfl, fun _ => rfl, rfl⟩
  | succ k ih =>
    intro hk
    rcases Nat.lt_or_ge k j with q | q
    · have : j = k + 1 := by omega
      subst this; exact ⟨h, rfl, fun _ => rfl, rfl⟩
    · obtain ⟨a, b, c, d⟩ := ih q
      have e : (lay F x (k + 1)).2 = F (lay F x k).2 &&& (((lay F x k).1 ||| (lay F x k).2) ^^^ (-1)) := rfl
      have e1 : (lay F x (k + 1)).1 = (lay F x k).1 ||| (lay F x k).2 := rfl
      refine ⟨?_, ?_, fun s => ?_, ?_⟩
      · rw [e, a, h0]; exact h_ext (fun i _ => by rw [h_and, h_0]; rfl)
      · rw [e1, a, b]; exact h_ext (fun i _ => by rw [h_or, h_0, Bool.or_false])
      · rw [far, a, h_0]; simpa using c s
      · rw [dpt, if_pos a]; exact d
theorem lay_d {s : Nat} : ∀ j i, i < j → ht (lay F x i).2 s = true → ht (lay F x j).1 s = true := by
  intro j
  induction j with
  | zero => intro i hi; omega
  | succ j ih =>
    intro i hi h
    show ht ((lay F x j).1 ||| (lay F x j).2) s = true
    rw [h_or, Bool.or_eq_true]
    rcases Nat.lt_or_ge i j with q | q
    · exact Or.inl (ih i q h)
    · have : i = j := by omega
      subst this; exact Or.inr h
theorem lay_n {s j : Nat} (h : ht (lay F x j).2 s = true) : ht (lay F x j).1 s = false := by
  cases j with
  | zero => exact h_0 s
  | succ j =>
    have hs := h_lt h
    have h' : ht (F (lay F x j).2 &&& (((lay F x j).1 ||| (lay F x j).2) ^^^ (-1))) s = true := h
    rw [h_and, h_not _ hs, Bool.and_eq_true, Bool.not_eq_true'] at h'
    exact h'.2
theorem lay_u {s i j : Nat} (h1 : ht (lay F x i).2 s = true) (h2 : ht (lay F x j).2 s = true) : i = j := by
  rcases Nat.lt_trichotomy i j with q | q | q
  · have := lay_d j i q h1
    rw [lay_n h2] at this; cases this
  · exact q
  · have := lay_d i j q h2
    rw [lay_n h1] at this; cases this
theorem lay_pc : ∀ j, (∀ i, i < j → (lay F x i).2 ≠ 0) → j ≤ pc (lay F x j).1 := by
  intro j
  induction j with
  | zero => intro _; omega
  | succ j ih =>
    intro h
    have h1 := ih (fun i hi => h i (by omega))
    obtain ⟨s, hs, h2⟩ := h_nz (h j (by omega))
    have := pc_lt (x := (lay F x j).1) (y := (lay F x (j + 1)).1) (fun i hi => by
      show ht ((lay F x j).1 ||| (lay F x j).2) i = true
      rw [h_or, hi]; rfl) (lay_n h2) (lay_d (j + 1) j (by omega) h2)
    omega
theorem lay_64 (h0 : F 0 = 0) : (lay F x 64).2 = 0 := by
  rcases Classical.em ((lay F x 64).2 = 0) with h | h
  · exact h
  · have := lay_pc (F := F) (x := x) 65 (fun i hi e => h (lay_z h0 e 64 (by omega)).1)
    have := pc_le (lay F x 65).1
    omega
theorem far_c (s : Nat) : ∀ j, (far F x j s = -1 ∧ ∀ i, i < j → ht (lay F x i).2 s = false) ∨ ∃ i, i < j ∧ far F x j s = nI i ∧ ht (lay F x i).2 s = true := by
  intro j
  induction j with
  | zero => exact Or.inl ⟨rfl, fun i hi => by omega⟩
  | succ j ih =>
    rw [far]
    cases e : ht (lay F x j).2 s
    · rcases ih with ⟨a, b⟩ | ⟨i, a, b, d⟩
      · refine Or.inl ⟨by simpa using a, fun i hi => ?_⟩
        rcases Nat.lt_or_ge i j with q | q
        · exact b i q
        · have : i = j := by omega
          subst this; exact e
      · exact Or.inr ⟨i, by omega, by simpa using b, d⟩
    · exact Or.inr ⟨j, by omega, by simp, e⟩
theorem far_e {s i j : Nat} (hi : i < j) (h : ht (lay F x i).2 s = true) : far F x j s = nI i := by
  rcases far_c (F := F) (x := x) s j with ⟨a, b⟩ | ⟨k, a, b, d⟩
  · rw [b i hi] at h; cases h
  · rw [b, lay_u h d]
theorem met_c {s : Nat} : ∀ j, ht (lay F x j).1 s = true ↔ ∃ i, i < j ∧ ht (lay F x i).2 s = true := by
  intro j
  induction j with
  | zero => exact ⟨fun h => (by rw [show (lay F x 0).1 = 0 from rfl, h_0] at h; cases h), fun ⟨i, h, _⟩ => by omega⟩
  | succ j ih =>
    show ht ((lay F x j).1 ||| (lay F x j).2) s = true ↔ _
    rw [h_or, Bool.or_eq_true, ih]
    refine ⟨fun h => h.elim (fun ⟨i, a, b⟩ => ⟨i, by omega, b⟩) (fun h => ⟨j, by omega, h⟩), fun ⟨i, a, b⟩ => ?_⟩
    rcases Nat.lt_or_ge i j with q | q
    · exact Or.inl ⟨i, q, b⟩
    · have : i = j := by omega
      subst this; exact Or.inr b
theorem lay_s {P : Nat → Prop} (hx : ∀ s, ht x s = true → P s) (hF : ∀ y s, ht (F y) s = true → P s) : ∀ j s, ht (lay F x j).2 s = true → P s := by
  intro j s h
  cases j with
  | zero => exact hx s h
  | succ j =>
    have h' : ht (F (lay F x j).2 &&& (((lay F x j).1 ||| (lay F x j).2) ^^^ (-1))) s = true := h
    rw [h_and, Bool.and_eq_true] at h'
    exact hF _ s h'.1
theorem nI_nm1 {j : Nat} (h : j < 2147483648) : nI j ≠ -1 := fun e => by
  have := nI_toInt h
  rw [e] at this
  have : (-1 : Int32).toInt = -1 := by decide
  omega
end LAY
section FAR
variable {c : Ck} {τ σ : St} {N : Nat}
theorem sucs_0 (h : okC c) : sucs c 0 = 0 := h_z.mpr (fun i _ => by
  cases e : ht (sucs c 0) i
  · rfl
  · obtain ⟨s, v, _, _, h3, _⟩ := (h_sucs h).mp e
    rw [h_0] at h3; cases h3)
theorem bef_0 (h : okC c) : bef c 0 = 0 := h_z.mpr (fun i _ => by
  cases e : ht (bef c 0) i
  · rfl
  · obtain ⟨_, v, _, h3⟩ := (h_bef h).mp e
    rw [h_0] at h3; cases h3)
theorem sucs_l (h : okC c) (y : Int64) (s : Nat) (e : ht (sucs c y) s = true) : s < ns c := by
  obtain ⟨q, v, _, _, _, h3⟩ := (h_sucs h).mp e
  rw [← h3]; exact nx_lt c q v
theorem bef_l (h : okC c) (y : Int64) (s : Nat) (e : ht (bef c y) s = true) : s < ns c := ((h_bef h).mp e).1
theorem bad_l (h : okC c) (s : Nat) (e : ht (bad c) s = true) : s < ns c := by
  rw [h_bad h, Bool.and_eq_true, decide_eq_true_eq] at e; exact e.1
def FB (c : Ck) (b : Bool) : Int64 → Int64 := match b with
  | true => bef c
  | false => sucs c
theorem FB_0 (h : okC c) (b : Bool) : FB c b 0 = 0 := by cases b; exact sucs_0 h; exact bef_0 h
theorem FB_l (h : okC c) (b : Bool) (y : Int64) (s : Nat) (e : ht (FB c b y) s = true) : s < ns c := by cases b; exact sucs_l h y s e; exact bef_l h y s e
theorem X7_layFar_43_ok (hN : 4000000 ≤ N) (h : CM c τ) (k : Int64 → Int64 → Int32 → St → Option St) (w : Int32) (y z : Int64) (d : Int32) : ∃ τ', X7_layFar_43 k w y z d N (nI 0) τ = k y z d τ' ∧ FR [] [] [3] [] τ τ' ∧ ∀ s, s < 64 → τ'.2.2.1 3 s = if s < ns c ∧ ht z s = true then d else τ.2.2.1 3 s := by
  have h64 := ns_le h.1
  refine wf (fun n i s => X7_layFar_43 k w y z d n (nI i) s) (ns c) (fun i s => FR [] [] [3] [] τ s ∧ ∀ t, t < 64 → s.2.2.1 3 t = if t < i ∧ ht z t = true then d else τ.2.2.1 3 t) (fun r => ∃ τ', r = k y z d τ' ∧ FR [] [] [3] [] τ τ' ∧ ∀ s, s < 64 → τ'.2.2.1 3 s = if s < ns c ∧ ht z s = true then d else τ.2.2.1 3 s) ?_ ?_ N 0 τ (by omega) ⟨FR.rf, fun t _ => by rw [if_neg (by omega)]⟩ (by omega)
  · rintro n i s hi ⟨h1, h2⟩
    have hs := h.fr h1 (by decide)
    cases e : ht z i
    · refine Or.inr ⟨sa s 3 i (s.2.2.1 3 i), ⟨h1.a (by decide), fun t ht' => ?_⟩, ?_⟩
      · have e1 : upd (s.2.2.1 3) i (s.2.2.1 3 i) t = s.2.2.1 3 t := by
          rcases Classical.em (t = i) with q | q
          · subst q; exact u_s
          · exact u_n q
        refine (show _ = upd (s.2.2.1 3) i (s.2.2.1 3 i) t from rfl).trans (e1.trans ((h2 t ht').trans ?_))
        rcases Classical.em (t = i) with q | q
        · subst q; simp [e]
        · have : t < i + 1 ↔ t < i := by omega
          simp [this]
      · show X7_layFar_43 _ _ _ _ _ (n + 1) _ _ = X7_layFar_43 _ _ _ _ _ n _ _
        simp (disch := omega) only [X7_layFar_43, X7_layFar_43b, X7_states_ok hs, X7_has_ok, e, X7_layFar_80, fa_lit, nI_leI, nI_ltI, nI_eq, nI_add, pk_mul, nI_clamp, bd, nm, gd_in, gd_bI, gd_b0, gd_b1, if_pos, if_neg, bI_n0, bI_n1, reduceIte, reduceCtorEq, Nat.add_zero]
    · refine Or.inr ⟨sa s 3 i d, ⟨h1.a (by decide), fun t ht' => ?_⟩, ?_⟩
      · show upd (s.2.2.1 3) i d t = _
        rcases Classical.em (t = i) with q | q
        · subst q; rw [u_s]; simp [e]
        · have : t < i + 1 ↔ t < i := by omega
          rw [u_n q, h2 t ht']; simp [this]
      · show X7_layFar_43 _ _ _ _ _ (n + 1) _ _ = X7_layFar_43 _ _ _ _ _ n _ _
        simp (disch := omega) only [X7_layFar_43, X7_layFar_43b, X7_states_ok hs, X7_has_ok, e, X7_layFar_80, fa_lit, nI_leI, nI_ltI, nI_eq, nI_add, pk_mul, nI_clamp, bd, nm, gd_in, gd_bI, gd_b0, gd_b1, if_pos, if_neg, bI_n0, bI_n1, reduceIte, reduceCtorEq, Nat.add_zero]
  · rintro n s ⟨h1, h2⟩
    have hs := h.fr h1 (by decide)
    refine ⟨s, ?_, h1, h2⟩
    show X7_layFar_43 _ _ _ _ _ (n + 1) _ _ = _
    simp (disch := omega) only [X7_layFar_43, X7_layFar_43b, X7_states_ok hs, fa_lit, nI_leI, nI_ltI, nI_eq, nI_add, pk_mul, nI_clamp, bd, nm, gd_in, gd_bI, gd_b0, gd_b1, if_pos, if_neg, bI_n0, bI_n1, reduceIte, reduceCtorEq, Nat.add_zero]
theorem X7_layFar_ok (hN : 4000000 ≤ N) (h : CM c τ) (b : Bool) {x : Int64} (hx : ∀ s, ht x s = true → s < ns c) : ∃ τ', X7_layFar N x (bI b) τ = some τ' ∧ FR [] [] [3] [] τ τ' ∧ ∀ s, s < 64 → τ'.2.2.1 3 s = far (FB c b) x 64 s := by
  have h64 := ns_le h.1
  unfold X7_layFar
  refine wf (fun n i s => X7_layFar_3 (fun v1 v3 σ => X7_layFar_24 N v1 v3 σ) x (bI b) n (nI i) s) 64 (fun i s => FR [] [] [3] [] τ s ∧ ∀ t, t < i → s.2.2.1 3 t = -1) (fun r => ∃ τ', r = some τ' ∧ FR [] [] [3] [] τ τ' ∧ ∀ s, s < 64 → τ'.2.2.1 3 s = far (FB c b) x 64 s) ?_ ?_ N 0 τ (by omega) ⟨FR.rf, fun t _ => by omega⟩ (by omega)
  · rintro n i s hi ⟨h1, h2⟩
    refine Or.inr ⟨sa s 3 i (-1), ⟨h1.a (by decide), fun t ht' => ?_⟩, ?_⟩
    · show upd (s.2.2.1 3) i (-1) t = _
      rcases Nat.lt_or_ge t i with q | q
      · rw [u_n (by omega)]; exact h2 t q
      · have : t = i := by omega
        subst this; exact u_s
    · show X7_layFar_3 _ _ _ (n + 1) _ _ = X7_layFar_3 _ _ _ n _ _
      simp (disch := omega) only [X7_layFar_3, X7_layFar_3b, fa_lit, nI_leI, nI_ltI, nI_eq, nI_add, pk_mul, nI_clamp, bd, nm, gd_in, gd_bI, gd_b0, gd_b1, if_pos, if_neg, bI_n0, bI_n1, reduceIte, reduceCtorEq, Nat.add_zero]
  · rintro n s ⟨h1, h2⟩
    show ∃ τ', X7_layFar_3 _ _ _ (n + 1) _ _ = some τ' ∧ _
    simp (disch := omega) only [X7_layFar_3, X7_layFar_3b, X7_layFar_24, fa_lit, nI_leI, nI_ltI, nI_eq, nI_add, pk_mul, nI_clamp, bd, nm, gd_in, gd_bI, gd_b0, gd_b1, if_pos, if_neg, bI_n0, bI_n1, reduceIte, reduceCtorEq, Nat.add_zero]
    refine wl (fun n (p : Nat × St) => X7_layFar_33 N (fun σ => X7_layFar_128 σ) (bI b) n (lay (FB c b) x p.1).1 (lay (FB c b) x p.1).2 (nI p.1) p.2) (fun p => 65 - p.1) (fun p => p.1 ≤ 64 ∧ FR [] [] [3] [] τ p.2 ∧ ∀ s, s < 64 → p.2.2.2.1 3 s = far (FB c b) x p.1 s) (fun r => ∃ τ', r = some τ' ∧ FR [] [] [3] [] τ τ' ∧ ∀ s, s < 64 → τ'.2.2.1 3 s = far (FB c b) x 64 s) ?_ N (0, s) ⟨by show 0 ≤ 64; omega, h1, h2⟩ (by show 65 - 0 < N; omega)
    rintro m ⟨j, u⟩ ⟨q1, q2, q3⟩
    dsimp only at q1 q2 q3 ⊢
    have hu := h.fr q2 (by decide)
    rcases Classical.em ((lay (FB c b) x j).2 = 0) with e | e
    · refine Or.inl ⟨u, ?_, q2, fun s hs => (q3 s hs).trans ((lay_z (FB_0 h.1 b) e 64 q1).2.2.1 s).symm⟩
      simp only [X7_layFar_33, X7_layFar_33b, if_pos e, X7_layFar_128]
    · refine Or.inr ?_
      have hj : j < 64 := by
        rcases Nat.lt_or_ge j 64 with q | q
        · exact q
        · have : j = 64 := by omega
          subst this; exact absurd (lay_64 (FB_0 h.1 b)) e
      obtain ⟨u', k1, k2, k3⟩ := X7_layFar_43_ok hN hu (fun v4 v6 v8 σ => X7_layFar_87 N (fun v4 v6 v8 σ => X7_layFar_33 N (fun σ => X7_layFar_128 σ) (bI b) m v4 v6 v8 σ) (bI b) v4 v6 v8 σ) (bI b) (lay (FB c b) x j).1 (lay (FB c b) x j).2 (nI j)
      have hu' := hu.fr k2 (by decide)
      refine ⟨(j + 1, u'), ⟨hj, q2.tr k2, fun s hs => ?_⟩, by dsimp only; omega, ?_⟩
      · dsimp only
        rw [k3 s hs, far, q3 s hs]
        cases e2 : ht (lay (FB c b) x j).2 s
        · simp
        · have := lay_s hx (FB_l h.1 b) j s e2
          simp [this]
      · rw [X7_layFar_33, X7_layFar_33b, if_neg e]
        refine k1.trans ?_
        cases b
        · simp (disch := omega) only [X7_layFar_87, X7_successors_ok hN hu', fa_lit, nI_leI, nI_ltI, nI_eq, nI_add, pk_mul, nI_clamp, bd, nm, gd_in, gd_bI, gd_b0, gd_b1, if_pos, if_neg, bI_n0, bI_n1, reduceIte, reduceCtorEq, Nat.add_zero]
          rfl
        · simp (disch := omega) only [X7_layFar_87, X7_before_ok hN hu', fa_lit, nI_leI, nI_ltI, nI_eq, nI_add, pk_mul, nI_clamp, bd, nm, gd_in, gd_bI, gd_b0, gd_b1, if_pos, if_neg, bI_n0, bI_n1, reduceIte, reduceCtorEq, Nat.add_zero]
          rfl
end FAR
