/-! a2: the shortest run -/
def sg (t : Nat) : Int64 := (1 : Int64) <<< ((nI t).toInt64 &&& 63)
theorem h_sg {k : Nat} (hk : k < 64) (i : Nat) : ht (sg k) i = decide (i = k) := h_1 hk i
theorem lst_u {p : Nat → Bool} {m j : Nat} (h1 : j < m) (h2 : p j = true) (h3 : ∀ i, i < j → p i = false) : lst p 0 m = j := by
  obtain ⟨a, b, d, e⟩ := lst_ok p m 0
  rcases Nat.lt_trichotomy (lst p 0 m) j with q | q | q
  · have := e (by omega)
    rw [h3 _ q] at this; cases this
  · exact q
  · have := d j (by omega) q
    rw [h2] at this; cases this
theorem lst_e {p : Nat → Bool} {m : Nat} (h : ∃ j, j < m ∧ p j = true) : lst p 0 m < m ∧ p (lst p 0 m) = true ∧ ∀ i, i < lst p 0 m → p i = false := by
  obtain ⟨a, b, d, e⟩ := lst_ok p m 0
  obtain ⟨j, h1, h2⟩ := h
  have hl : lst p 0 m < m := by
    rcases Nat.lt_or_ge (lst p 0 m) m with q | q
    · exact q
    · have := d j (by omega) (by omega)
      rw [h2] at this; cases this
  exact ⟨hl, e (by omega), fun i hi => d i (by omega) hi⟩
def lsd (c : Ck) (x : Int64) (d : Int32) : Nat := lst (fun s => ht x s && decide (dis c s = d)) 0 64
def srn (c : Ck) (R : Nat) : Nat → Nat
  | 0 => lsd c c.2.2.2.1 (nI R)
  | k + 1 => lsd c (sucs c (sg (srn c R k))) (nI (R - (k + 1)))
def lin (c : Ck) (s : Nat) (x : Int64) : Nat := lst (fun v => ht x (nx c s v)) 0 (nv c)
section SHORT
variable {c : Ck} {σ τ : St} {N : Nat}
theorem lsd_ok {x : Int64} {d : Int32} (h : ∃ s, ht x s = true ∧ dis c s = d) : lsd c x d < 64 ∧ ht x (lsd c x d) = true ∧ dis c (lsd c x d) = d ∧ ∀ i, i < lsd c x d → (ht x i && decide (dis c i = d)) = false := by
  obtain ⟨s, h1, h2⟩ := h
  obtain ⟨a, b, e⟩ := lst_e (p := fun s => ht x s && decide (dis c s = d)) (m := 64) ⟨s, h_lt h1, by rw [h1, h2]; simp⟩
  rw [Bool.and_eq_true, decide_eq_true_eq] at b
  exact ⟨a, b.1, b.2, e⟩
theorem lsd_u {x : Int64} {d : Int32} {s : Nat} (h1 : ht x s = true) (h2 : dis c s = d) (h3 : ∀ i, i < s → ¬ (ht x i = true ∧ dis c i = d)) : lsd c x d = s := by
  refine lst_u (h_lt h1) (by rw [h1, h2]; simp) (fun i hi => ?_)
  cases e : (ht x i && decide (dis c i = d))
  · rfl
  · rw [Bool.and_eq_true, decide_eq_true_eq] at e
    exact absurd e (h3 i hi)
theorem dis_c (s : Nat) : dis c s = -1 ∨ ∃ d, d < 64 ∧ dis c s = nI d ∧ ht (lay (FB c true) (bad c) d).2 s = true := by
  rcases far_c (F := FB c true) (x := bad c) s 64 with ⟨a, _⟩ | ⟨d, a, b, e⟩
  · exact Or.inl a
  · exact Or.inr ⟨d, a, b, e⟩
theorem dis_nx (h : okC c) {s d : Nat} (hd : d + 1 < 64) (e : dis c s = nI (d + 1)) : s < ns c ∧ ∃ v, v < nv c ∧ dis c (nx c s v) = nI d := by
  rcases dis_c (c := c) s with a | ⟨d', a, b, f⟩
  · rw [a] at e; exact absurd e.symm (nI_nm1 (by omega))
  · rw [b, nI_eq (by omega) (by omega)] at e
    subst e
    have f' : ht (bef c (lay (FB c true) (bad c) d).2 &&& (((lay (FB c true) (bad c) d).1 ||| (lay (FB c true) (bad c) d).2) ^^^ (-1))) s = true := f
    rw [h_and, Bool.and_eq_true] at f'
    obtain ⟨g1, v, g2, g3⟩ := (h_bef h).mp f'.1
    exact ⟨g1, v, g2, far_e (by omega) g3⟩
theorem rlf_c {x : Int64} {f : Nat → Int32} : ∀ n, rlf x f n = -1 ∨ ∃ s, s < n ∧ ht x s = true ∧ f s ≠ -1 ∧ rlf x f n = f s := by
  intro n
  induction n with
  | zero => exact Or.inl rfl
  | succ n ih =>
    rw [rlf]
    by_cases q : ht x n = true ∧ f n ≠ -1 ∧ (rlf x f n = -1 ∨ ¬ rlf x f n ≤ f n)
    · rw [if_pos q]
      exact Or.inr ⟨n, by omega, q.1, q.2.1, rfl⟩
    · rw [if_neg q]
      exact ih.imp id (fun ⟨s, a, b⟩ => ⟨s, by omega, b⟩)
theorem rlc_c : rlc c = -1 ∨ ∃ R, R < 64 ∧ rlc c = nI R ∧ ∃ s, ht c.2.2.2.1 s = true ∧ dis c s = nI R := by
  rcases rlf_c (x := c.2.2.2.1) (f := dis c) (ns c) with a | ⟨s, a, b, d, e⟩
  · exact Or.inl a
  · rcases dis_c (c := c) s with z | ⟨R, z1, z2, _⟩
    · exact absurd z d
    · exact Or.inr ⟨R, z1, e.trans z2, s, b, z2⟩
theorem h_ss (h : okC c) {s t : Nat} (hs : s < ns c) : ht (sucs c (sg s)) t = true ↔ ∃ v, v < nv c ∧ nx c s v = t := by
  have := ns_le h
  rw [h_sucs h]
  constructor
  · rintro ⟨q, v, h1, h2, h3, h4⟩
    rw [h_sg (by omega), decide_eq_true_eq] at h3
    subst h3
    exact ⟨v, h2, h4⟩
  · rintro ⟨v, h1, h2⟩
    exact ⟨s, v, hs, h1, by rw [h_sg (by omega)]; simp, h2⟩
theorem srn_ok (h : okC c) {R : Nat} (hR : R < 64) (he : ∃ s, ht c.2.2.2.1 s = true ∧ dis c s = nI R) : ∀ k, k ≤ R → srn c R k < ns c ∧ dis c (srn c R k) = nI (R - k) := by
  intro k
  induction k with
  | zero =>
    intro _
    obtain ⟨a, b, d, e⟩ := lsd_ok he
    exact ⟨h.2.2.2 _ b, d⟩
  | succ k ih =>
    intro hk
    obtain ⟨a, b⟩ := ih (by omega)
    rw [show R - k = (R - (k + 1)) + 1 by omega] at b
    obtain ⟨_, v, h1, h2⟩ := dis_nx h (by omega) b
    obtain ⟨e1, e2, e3, e4⟩ := lsd_ok (c := c) (x := sucs c (sg (srn c R k))) (d := nI (R - (k + 1))) ⟨nx c (srn c R k) v, (h_ss h a).mpr ⟨v, h1, rfl⟩, h2⟩
    exact ⟨sucs_l h _ _ e2, e3⟩
theorem X7_leastAt_ok (hN : 4000000 ≤ N) (hd : ∀ s, s < 64 → τ.2.2.1 3 s = dis c s) {x : Int64} {d : Nat} (hd64 : d < 64) (he : ∃ s, ht x s = true ∧ dis c s = nI d) : X7_leastAt N τ x (nI d) = some (nI (lsd c x (nI d))) := by
  obtain ⟨a, b, e, f⟩ := lsd_ok he
  unfold X7_leastAt
  refine wf (fun n i (_ : Unit) => X7_leastAt_3 (fun v4 => X7_leastAt_29 τ v4) τ x (nI d) n (nI i)) (lsd c x (nI d)) (fun _ _ => True) (fun r => r = some (nI (lsd c x (nI d)))) ?_ ?_ N 0 () (by omega) trivial (by omega)
  · rintro n i u hi -
    refine Or.inr ⟨(), trivial, ?_⟩
    show X7_leastAt_3 _ τ _ _ (n + 1) _ = X7_leastAt_3 _ τ _ _ n _
    have hf := f i hi
    have hdi := hd i (by omega)
    cases e2 : ht x i
    · simp (disch := omega) only [X7_leastAt_3, X7_leastAt_3b, X7_has_ok, e2, fa_lit, nI_leI, nI_ltI, nI_eq, nI_add, pk_mul, nI_clamp, bd, nm, gd_in, gd_bI, gd_b0, gd_b1, if_pos, if_neg, bI_n0, bI_n1, reduceIte, reduceCtorEq, Nat.add_zero]
    · rw [e2, Bool.true_and, decide_eq_false_iff_not] at hf
      simp (disch := omega) only [X7_leastAt_3, X7_leastAt_3b, X7_has_ok, e2, hdi, hf, fa_lit, nI_leI, nI_ltI, nI_eq, nI_add, pk_mul, nI_clamp, bd, nm, gd_in, gd_bI, gd_b0, gd_b1, if_pos, if_neg, bI_n0, bI_n1, reduceIte, reduceCtorEq, Nat.add_zero]
  · rintro n u -
    show X7_leastAt_3 _ τ _ _ (n + 1) _ = _
    have hdi := hd _ a
    simp (disch := omega) only [X7_leastAt_3, X7_leastAt_3b, X7_has_ok, b, hdi, e, X7_leastAt_29, fa_lit, nI_leI, nI_ltI, nI_eq, nI_add, pk_mul, nI_clamp, bd, nm, gd_in, gd_bI, gd_b0, gd_b1, if_pos, if_neg, bI_n0, bI_n1, reduceIte, reduceCtorEq, Nat.add_zero]
theorem X7_runState_ok (hN : 4000000 ≤ N) (h : CM c τ) (hd : ∀ s, s < 64 → τ.2.2.1 3 s = dis c s) {R k : Nat} (hR : R < 64) (he : ∃ s, ht c.2.2.2.1 s = true ∧ dis c s = nI R) (hk : k ≤ R) : X7_runState N τ (nI R) (nI k) = some (nI (srn c R k)) := by
  have e0 : X7_leastAt N τ (τ.2.1 0) (nI R) = some (nI (srn c R 0)) := by rw [h.2.2.2.2.1]; exact X7_leastAt_ok hN hd hR he
  unfold X7_runState
  rw [e0]
  show X7_runState_13 N (fun v3 => X7_runState_41 τ v3) τ (nI R) (nI k) N (nI (srn c R 0)) (nI 1) = _
  refine wf (fun n i a => X7_runState_13 N (fun v3 => X7_runState_41 τ v3) τ (nI R) (nI k) n a (nI i)) (k + 1) (fun i a => 1 ≤ i ∧ a = nI (srn c R (i - 1))) (fun r => r = some (nI (srn c R k))) ?_ ?_ N 1 _ (by omega) ⟨Nat.le_refl _, rfl⟩ (by omega)
  · rintro n i a hi ⟨h1, rfl⟩
    refine Or.inr ⟨nI (srn c R i), ⟨by omega, by rw [Nat.add_sub_cancel]⟩, ?_⟩
    show X7_runState_13 N _ τ _ _ (n + 1) _ _ = X7_runState_13 N _ τ _ _ n _ _
    obtain ⟨j, rfl⟩ : ∃ j, i = j + 1 := ⟨i - 1, by omega⟩
    rw [Nat.add_sub_cancel]
    obtain ⟨a1, a2⟩ := srn_ok h.1 hR he j (by omega)
    rw [show R - j = (R - (j + 1)) + 1 by omega] at a2
    obtain ⟨_, v, h1, h2⟩ := dis_nx h.1 (by omega) a2
    have el := X7_leastAt_ok hN hd (x := sucs c (sg (srn c R j))) (d := R - (j + 1)) (by omega) ⟨nx c (srn c R j) v, (h_ss h.1 a1).mpr ⟨v, h1, rfl⟩, h2⟩
    have es := X7_successors_ok hN h (sg (srn c R j))
    unfold sg at es el
    simp (disch := omega) only [X7_runState_13, X7_runState_13b, es, pk_sub, el, fa_lit, nI_leI, nI_ltI, nI_eq, nI_add, pk_mul, nI_clamp, bd, nm, gd_in, gd_bI, gd_b0, gd_b1, if_pos, if_neg, bI_n0, bI_n1, reduceIte, reduceCtorEq, Nat.add_zero]
    rfl
  · rintro n a ⟨h1, rfl⟩
    show X7_runState_13 N _ τ _ _ (n + 1) _ _ = _
    rw [Nat.add_sub_cancel]
    simp (disch := omega) only [X7_runState_13, X7_runState_13b, X7_runState_41, fa_lit, nI_leI, nI_ltI, nI_eq, nI_add, pk_mul, nI_clamp, bd, nm, gd_in, gd_bI, gd_b0, gd_b1, if_pos, if_neg, bI_n0, bI_n1, reduceIte, reduceCtorEq, Nat.add_zero]
theorem X7_inputTo_ok (hN : 4000000 ≤ N) (h : CM c τ) {s t : Nat} (hs : s < ns c) (ht' : t < 64) (he : ∃ v, v < nv c ∧ nx c s v = t) : X7_inputTo N τ (nI s) (nI t) = some (nI (lin c s (sg t))) := by
  have h64 := ns_le h.1
  have h4 := nv_le h.1
  obtain ⟨a, b, d⟩ := lst_e (p := fun v => ht (sg t) (nx c s v)) (m := nv c) (he.elim (fun v hv => ⟨v, hv.1, by rw [h_sg ht', hv.2]; simp⟩))
  rw [h_sg ht', decide_eq_true_eq] at b
  have a' : lin c s (sg t) < nv c := a
  have b' : nx c s (lin c s (sg t)) = t := b
  unfold X7_inputTo
  refine wf (fun n i (_ : Unit) => X7_inputTo_2 N (fun v3 => X7_inputTo_18 τ v3) τ (nI s) (nI t) n (nI i)) (lin c s (sg t)) (fun _ _ => True) (fun r => r = some (nI (lin c s (sg t)))) ?_ ?_ N 0 () (by omega) trivial (by omega)
  · rintro n i u hi -
    refine Or.inr ⟨(), trivial, ?_⟩
    show X7_inputTo_2 N _ τ _ _ (n + 1) _ = X7_inputTo_2 N _ τ _ _ n _
    have hf := d i hi
    rw [h_sg ht', decide_eq_false_iff_not] at hf
    have hn := nx_64 h.1 s i
    simp (disch := omega) only [X7_inputTo_2, X7_inputTo_2b, X7_successorOf_ok hN h, fa_lit, nI_leI, nI_ltI, nI_eq, nI_add, pk_mul, nI_clamp, bd, nm, gd_in, gd_bI, gd_b0, gd_b1, if_pos, if_neg, bI_n0, bI_n1, reduceIte, reduceCtorEq, Nat.add_zero]
  · rintro n u -
    show X7_inputTo_2 N _ τ _ _ (n + 1) _ = _
    have es := X7_successorOf_ok hN h (s := s) (v := lin c s (sg t)) (by omega) a'
    rw [b'] at es
    simp (disch := omega) only [X7_inputTo_2, X7_inputTo_2b, es, X7_inputTo_18, fa_lit, nI_leI, nI_ltI, nI_eq, nI_add, pk_mul, nI_clamp, bd, nm, gd_in, gd_bI, gd_b0, gd_b1, if_pos, if_neg, bI_n0, bI_n1, reduceIte, reduceCtorEq, Nat.add_zero]
theorem X2_leastInputInto_ok (hN : 4000000 ≤ N) (h : CS c σ) (f : F3 c σ) {s : Nat} (hs : s < ns c) {x : Int64} (he : ∃ v, v < nv c ∧ ht x (nx c s v) = true) : X2_leastInputInto N σ (nI s) x = some (nI (lin c s x)) := by
  have h64 := ns_le h.1
  have h4 := nv_le h.1
  obtain ⟨a, b, d⟩ := lst_e (p := fun v => ht x (nx c s v)) (m := nv c) he
  have a' : lin c s x < nv c := a
  have b' : ht x (nx c s (lin c s x)) = true := b
  unfold X2_leastInputInto
  refine wf (fun n i (_ : Unit) => X2_leastInputInto_3 (fun v4 => X2_leastInputInto_29 σ v4) (X2_leastInputInto_38 σ) σ (nI s) x n (nI i)) (lin c s x) (fun _ _ => True) (fun r => r = some (nI (lin c s x))) ?_ ?_ N 0 () (by omega) trivial (by omega)
  · rintro n i u hi -
    refine Or.inr ⟨(), trivial, ?_⟩
    show X2_leastInputInto_3 _ _ σ _ _ (n + 1) _ = X2_leastInputInto_3 _ _ σ _ _ n _
    have hf : ht x (nx c s i) = false := d i hi
    have hn := nx_64 h.1 s i
    simp (disch := omega) only [X2_leastInputInto_3, X2_leastInputInto_3b, h.2.2.2.2.1, X2_nextOf_ok h.1 f, hs, X6_contains_ok, hf, fa_lit, nI_leI, nI_ltI, nI_eq, nI_add, pk_mul, nI_clamp, bd, nm, gd_in, gd_bI, gd_b0, gd_b1, if_pos, if_neg, bI_n0, bI_n1, reduceIte, reduceCtorEq, Nat.add_zero]
  · rintro n u -
    show X2_leastInputInto_3 _ _ σ _ _ (n + 1) _ = _
    have hn := nx_64 h.1 s (lin c s x)
    simp (disch := omega) only [X2_leastInputInto_3, X2_leastInputInto_3b, h.2.2.2.2.1, X2_nextOf_ok h.1 f, hs, X6_contains_ok, b', X2_leastInputInto_29, fa_lit, nI_leI, nI_ltI, nI_eq, nI_add, pk_mul, nI_clamp, bd, nm, gd_in, gd_bI, gd_b0, gd_b1, if_pos, if_neg, bI_n0, bI_n1, reduceIte, reduceCtorEq, Nat.add_zero]
theorem X2_leastNearer_ok (hN : 4000000 ≤ N) (h : CS c σ) (f : FSH c σ) {s d : Nat} (hd : d + 1 < 64) (e : dis c s = nI (d + 1)) : X2_leastNearer N σ (nI s) = some (nI (lsd c (sucs c (sg s)) (nI d))) := by
  have h64 := ns_le h.1
  have h4 := nv_le h.1
  obtain ⟨hs, v1, hv1, hd1⟩ := dis_nx h.1 hd e
  have eds : σ.2.2.1 5 s = nI (d + 1) := (f.2.2.1 s (by omega)).trans e
  have ed0 : X2_distanceOf σ (nI s) = some (nI (d + 1)) := by simp (disch := omega) only [X2_distanceOf, eds, fa_lit, nI_leI, nI_ltI, nI_eq, nI_add, pk_mul, nI_clamp, bd, nm, gd_in, gd_bI, gd_b0, gd_b1, if_pos, if_neg, bI_n0, bI_n1, reduceIte, reduceCtorEq, Nat.add_zero]
  unfold X2_leastNearer
  refine wf (fun n i a => X2_leastNearer_4 (fun v2 => X2_leastNearer_71 σ v2) σ (nI s) n a (nI i)) (nv c) (fun i a => (a = -1 ∧ ∀ v, v < i → dis c (nx c s v) ≠ nI d) ∨ ∃ v0, v0 < i ∧ a = nI (nx c s v0) ∧ dis c (nx c s v0) = nI d ∧ ∀ v, v < i → dis c (nx c s v) = nI d → nx c s v0 ≤ nx c s v) (fun r => r = some (nI (lsd c (sucs c (sg s)) (nI d)))) ?_ ?_ N 0 _ (by omega) (Or.inl ⟨rfl, fun v hv => by omega⟩) (by omega)
  · rintro n i a hi hI
    refine Or.inr ?_
    show ∃ a', _ ∧ X2_leastNearer_4 _ σ _ (n + 1) _ _ = X2_leastNearer_4 _ σ _ n _ _
    have hn := nx_64 h.1 s i
    have edi : X2_distanceOf σ (nI (nx c s i)) = some (dis c (nx c s i)) := by simp (disch := omega) only [X2_distanceOf, f.2.2.1 _ hn, fa_lit, nI_leI, nI_ltI, nI_eq, nI_add, pk_mul, nI_clamp, bd, nm, gd_in, gd_bI, gd_b0, gd_b1, if_pos, if_neg, bI_n0, bI_n1, reduceIte, reduceCtorEq, Nat.add_zero]
    rcases Classical.em (dis c (nx c s i) = nI d) with z | z
    · rcases hI with ⟨rfl, hA⟩ | ⟨v0, b1, rfl, b3, b4⟩
      · refine ⟨nI (nx c s i), Or.inr ⟨i, by omega, rfl, z, fun v hv hz => ?_⟩, ?_⟩
        · rcases Nat.lt_or_ge v i with y | y
          · exact absurd hz (hA v y)
          · have : v = i := by omega
            subst this; exact Nat.le_refl _
        · simp (disch := omega) only [X2_leastNearer_4, X2_leastNearer_4b, h.2.2.2.2.1, X2_nextOf_ok h.1 f.1, hs, edi, ed0, pk_sub, Nat.add_sub_cancel, z, X2_leastNearer_44, fa_lit, nI_leI, nI_ltI, nI_eq, nI_add, pk_mul, nI_clamp, bd, nm, gd_in, gd_bI, gd_b0, gd_b1, if_pos, if_neg, bI_n0, bI_n1, reduceIte, reduceCtorEq, Nat.add_zero]
      · have zn : ¬ nI (nx c s v0) = -nI 1 := nI_nm1 (by have := nx_64 h.1 s v0; omega)
        have hn0 := nx_64 h.1 s v0
        rcases Nat.lt_or_ge (nx c s i) (nx c s v0) with y | y
        · refine ⟨nI (nx c s i), Or.inr ⟨i, by omega, rfl, z, fun v hv hz => ?_⟩, ?_⟩
          · rcases Nat.lt_or_ge v i with y2 | y2
            · have := b4 v y2 hz; omega
            · have : v = i := by omega
              subst this; exact Nat.le_refl _
          · simp (disch := omega) only [X2_leastNearer_4, X2_leastNearer_4b, h.2.2.2.2.1, X2_nextOf_ok h.1 f.1, hs, edi, ed0, pk_sub, Nat.add_sub_cancel, z, X2_leastNearer_44, zn, fa_lit, nI_leI, nI_ltI, nI_eq, nI_add, pk_mul, nI_clamp, bd, nm, gd_in, gd_bI, gd_b0, gd_b1, if_pos, if_neg, bI_n0, bI_n1, reduceIte, reduceCtorEq, Nat.add_zero]
        · refine ⟨nI (nx c s v0), Or.inr ⟨v0, by omega, rfl, b3, fun v hv hz => ?_⟩, ?_⟩
          · rcases Nat.lt_or_ge v i with y2 | y2
            · exact b4 v y2 hz
            · have : v = i := by omega
              subst this; exact y
          · simp (disch := omega) only [X2_leastNearer_4, X2_leastNearer_4b, h.2.2.2.2.1, X2_nextOf_ok h.1 f.1, hs, edi, ed0, pk_sub, Nat.add_sub_cancel, z, X2_leastNearer_44, zn, fa_lit, nI_leI, nI_ltI, nI_eq, nI_add, pk_mul, nI_clamp, bd, nm, gd_in, gd_bI, gd_b0, gd_b1, if_pos, if_neg, bI_n0, bI_n1, reduceIte, reduceCtorEq, Nat.add_zero]
    · refine ⟨a, ?_, ?_⟩
      · rcases hI with ⟨p, q⟩ | ⟨v0, b1, b2, b3, b4⟩
        · refine Or.inl ⟨p, fun v hv => ?_⟩
          rcases Nat.lt_or_ge v i with y | y
          · exact q v y
          · have : v = i := by omega
            subst this; exact z
        · refine Or.inr ⟨v0, by omega, b2, b3, fun v hv hz => ?_⟩
          rcases Nat.lt_or_ge v i with y | y
          · exact b4 v y hz
          · have : v = i := by omega
            subst this; exact absurd hz z
      · simp (disch := omega) only [X2_leastNearer_4, X2_leastNearer_4b, h.2.2.2.2.1, X2_nextOf_ok h.1 f.1, hs, edi, ed0, pk_sub, Nat.add_sub_cancel, z, X2_leastNearer_44, fa_lit, nI_leI, nI_ltI, nI_eq, nI_add, pk_mul, nI_clamp, bd, nm, gd_in, gd_bI, gd_b0, gd_b1, if_pos, if_neg, bI_n0, bI_n1, reduceIte, reduceCtorEq, Nat.add_zero]
  · rintro n a hI
    show X2_leastNearer_4 _ σ _ (n + 1) _ _ = _
    rcases hI with ⟨_, hA⟩ | ⟨v0, b1, rfl, b3, b4⟩
    · exact absurd hd1 (hA v1 hv1)
    · have el : lsd c (sucs c (sg s)) (nI d) = nx c s v0 := by
        refine lsd_u ((h_ss h.1 hs).mpr ⟨v0, b1, rfl⟩) b3 (fun t ht' hz => ?_)
        obtain ⟨v, g1, g2⟩ := (h_ss h.1 hs).mp hz.1
        have := b4 v g1 (by rw [g2]; exact hz.2)
        omega
      rw [el]
      simp (disch := omega) only [X2_leastNearer_4, X2_leastNearer_4b, h.2.2.2.2.1, X2_leastNearer_71, fa_lit, nI_leI, nI_ltI, nI_eq, nI_add, pk_mul, nI_clamp, bd, nm, gd_in, gd_bI, gd_b0, gd_b1, if_pos, if_neg, bI_n0, bI_n1, reduceIte, reduceCtorEq, Nat.add_zero]
theorem X2_stateOfShortestRun_ok (hN : 4000000 ≤ N) (h : CS c σ) (f : FSH c σ) {R k : Nat} (hR : R < 64) (hr : rlc c = nI R) (he : ∃ s, ht c.2.2.2.1 s = true ∧ dis c s = nI R) (hk : k ≤ R) : X2_stateOfShortestRun N σ (nI k) = some (nI (srn c R k)) := by
  have e12 : σ.1 12 = nI R := f.2.2.2.2.2.1.trans hr
  obtain ⟨s0, w1, w2⟩ := he
  have w3 := h_lt w1
  unfold X2_stateOfShortestRun
  rw [show (63 : Int32) = nI 64 + (-1) by decide]
  refine wl (fun n (p : Nat × Int32) => X2_stateOfShortestRun_5 (fun v1 v2 => X2_stateOfShortestRun_44 N σ v1 v2) σ (nI k) n p.2 (nI p.1 + (-1))) (fun p => p.1) (fun p => p.1 ≤ 64 ∧ ((p.2 = -1 ∧ ∀ s, p.1 ≤ s → s < 64 → ¬ (ht c.2.2.2.1 s = true ∧ dis c s = nI R)) ∨ ∃ s, p.1 ≤ s ∧ p.2 = nI s ∧ ht c.2.2.2.1 s = true ∧ dis c s = nI R ∧ ∀ s', p.1 ≤ s' → s' < s → ¬ (ht c.2.2.2.1 s' = true ∧ dis c s' = nI R))) (fun r => r = some (nI (srn c R k))) ?_ N (64, -1) ⟨Nat.le_refl _, Or.inl ⟨rfl, fun s z1 z2 => absurd z2 (by dsimp only at z1; omega)⟩⟩ (by dsimp only; omega)
  rintro n ⟨m, a⟩ ⟨q1, q2⟩
  dsimp only at q1 q2 ⊢
  cases m with
  | zero =>
    refine Or.inl ?_
    rcases q2 with ⟨_, qA⟩ | ⟨s, b1, rfl, b3, b4, b5⟩
    · exact absurd ⟨w1, w2⟩ (qA s0 (Nat.zero_le _) w3)
    · have el : srn c R 0 = s := lsd_u b3 b4 (fun i hi => b5 i (Nat.zero_le _) hi)
      rw [← el]
      have en : (nI 0 + -1 : Int32) < 0 := by decide
      rw [X2_stateOfShortestRun_5, X2_stateOfShortestRun_5b, if_pos en, X2_stateOfShortestRun_44]
      refine wf (fun n i a => X2_stateOfShortestRun_46 N (fun v2 => X2_stateOfShortestRun_68 σ v2) σ (nI k) n a (nI i)) k (fun i a => a = nI (srn c R i)) (fun r => r = some (nI (srn c R k))) ?_ ?_ N 0 _ (by omega) rfl (by omega)
      · rintro n i a hi rfl
        refine Or.inr ⟨_, rfl, ?_⟩
        show X2_stateOfShortestRun_46 N _ σ _ (n + 1) _ _ = X2_stateOfShortestRun_46 N _ σ _ n _ _
        obtain ⟨a1, a2⟩ := srn_ok h.1 hR ⟨s0, w1, w2⟩ i (by omega)
        rw [show R - i = (R - (i + 1)) + 1 by omega] at a2
        have h64 := ns_le h.1
        have zn : ¬ nI (srn c R i) = -nI 1 := nI_nm1 (by omega)
        have el := X2_leastNearer_ok hN h f (by omega) a2
        simp (disch := omega) only [X2_stateOfShortestRun_46, X2_stateOfShortestRun_46b, zn, el, fa_lit, nI_leI, nI_ltI, nI_eq, nI_add, pk_mul, nI_clamp, bd, nm, gd_in, gd_bI, gd_b0, gd_b1, if_pos, if_neg, bI_n0, bI_n1, reduceIte, reduceCtorEq, Nat.add_zero]
        rfl
      · rintro n a rfl
        show X2_stateOfShortestRun_46 N _ σ _ (n + 1) _ _ = _
        simp (disch := omega) only [X2_stateOfShortestRun_46, X2_stateOfShortestRun_46b, X2_stateOfShortestRun_68, fa_lit, nI_leI, nI_ltI, nI_eq, nI_add, pk_mul, nI_clamp, bd, nm, gd_in, gd_bI, gd_b0, gd_b1, if_pos, if_neg, bI_n0, bI_n1, reduceIte, reduceCtorEq, Nat.add_zero]
  | succ m =>
    refine Or.inr ?_
    have ed := (f.2.2.1 m (by omega))
    rcases Classical.em (ht c.2.2.2.1 m = true ∧ dis c m = nI R) with z | z
    · refine ⟨(m, nI m), ⟨by dsimp only; omega, Or.inr ⟨m, Nat.le_refl _, rfl, z.1, z.2, fun s' y1 y2 => absurd y2 (by dsimp only at y1; omega)⟩⟩, by dsimp only; omega, ?_⟩
      dsimp only
      rw [pk_m1]
      rw [z.2] at ed
      rw [X2_stateOfShortestRun_5, X2_stateOfShortestRun_5b, if_neg (nI_pos (by omega)), X0_initial_ok h, bd, X6_contains_ok _ (by omega), bd, z.1, if_neg (by decide), gd_in (by omega) (by omega), nI_clamp (by omega), ed, e12, if_pos rfl]
      rfl
    · refine ⟨(m, a), ⟨by dsimp only; omega, ?_⟩, by dsimp only; omega, ?_⟩
      · rcases q2 with ⟨y1, y2⟩ | ⟨s, b1, b2, b3, b4, b5⟩
        · refine Or.inl ⟨y1, fun s y3 y4 => ?_⟩
          rcases Classical.em (s = m) with y | y
          · subst y; exact z
          · exact y2 s (by dsimp only at y3; omega) y4
        · refine Or.inr ⟨s, by dsimp only; omega, b2, b3, b4, fun s' y3 y4 => ?_⟩
          rcases Classical.em (s' = m) with y | y
          · subst y; exact z
          · exact b5 s' (by dsimp only at y3; omega) y4
      · dsimp only
        rw [pk_m1]
        rw [X2_stateOfShortestRun_5, X2_stateOfShortestRun_5b, if_neg (nI_pos (by omega)), X0_initial_ok h, bd, X6_contains_ok _ (by omega), bd]
        cases e : ht c.2.2.2.1 m
        · rw [if_pos (by decide)]; rfl
        · have z2 : ¬ dis c m = nI R := fun y => z ⟨e, y⟩
          rw [if_neg (by decide), gd_in (by omega) (by omega), nI_clamp (by omega), ed, e12, if_neg z2]
          rfl
end SHORT
