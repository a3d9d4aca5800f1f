/-! a5: least and greatest sets under the step back: modal -/
def sbs (x y : Int64) : Prop := ∀ i, ht x i = true → ht y i = true
theorem sbs_a {x y : Int64} (h : sbs x y) (h' : sbs y x) : x = y := h_ext (fun i _ => by
  cases a : ht x i
  · cases b : ht y i
    · rfl
    · rw [h' i b] at a; cases a
  · exact (h i a).symm)
theorem sbs_pc {x y : Int64} (h : sbs x y) (hn : y ≠ x) : pc x < pc y := by
  rcases Nat.lt_or_ge (pc x) (pc y) with q | q
  · exact q
  · exfalso
    apply hn
    refine sbs_a (fun i hi => ?_) h
    cases a : ht x i
    · exact absurd (pc_lt h a hi) (by omega)
    · rfl
def RR (c : Ck) (x y : Int64) : Prop := sbs x y ∧ sbs (bef c y) y ∧ ∀ z, sbs x z → sbs (bef c z) z → sbs y z
def SS (c : Ck) (x y : Int64) : Prop := sbs y x ∧ sbs y (bef c y) ∧ ∀ z, sbs z x → sbs z (bef c z) → sbs z y
theorem RR_u {c : Ck} {x y z : Int64} (h : RR c x y) (h' : RR c x z) : y = z := sbs_a (h.2.2 z h'.1 h'.2.1) (h'.2.2 y h.1 h.2.1)
theorem SS_u {c : Ck} {x y z : Int64} (h : SS c x y) (h' : SS c x z) : y = z := sbs_a (h'.2.2 y h.1 h.2.1) (h.2.2 z h'.1 h'.2.1)
section MODAL
variable {c : Ck} {σ τ : St} {N : Nat}
theorem bef_mono (h : okC c) {x y : Int64} (e : sbs x y) : sbs (bef c x) (bef c y) := fun i hi => by
  rw [h_bef h] at hi ⊢
  obtain ⟨a, v, b, d⟩ := hi
  exact ⟨a, v, b, e _ d⟩
theorem bef_or (h : okC c) (x y : Int64) : sbs (bef c (x ||| y)) (bef c x ||| bef c y) := fun i hi => by
  rw [h_bef h] at hi
  obtain ⟨a, v, b, d⟩ := hi
  rw [h_or, Bool.or_eq_true] at d ⊢
  rw [h_bef h, h_bef h]
  exact d.imp (fun z => ⟨a, v, b, z⟩) (fun z => ⟨a, v, b, z⟩)
theorem X2_reach_ok (hN : 4000000 ≤ N) (h : okC c) (f : F3 c σ) (x : Int64) : ∃ y, X2_statesThatCanReach N σ x = some y ∧ RR c x y := by
  unfold X2_statesThatCanReach
  refine wf (fun n i (p : Int64 × Int64) => X2_statesThatCanReach_8 N (fun v3 => X2_statesThatCanReach_47 σ v3) σ n p.1 p.2 (nI i)) 64 (fun i p => sbs x p.1 ∧ sbs (bef c p.1) (p.1 ||| bef c p.2) ∧ (∀ z, sbs x z → sbs (bef c z) z → sbs p.1 z) ∧ sbs p.2 p.1 ∧ (p.2 ≠ 0 → i + 1 ≤ pc p.1)) (fun r => ∃ y, r = some y ∧ RR c x y) ?_ ?_ N 0 (x, x) (by omega) ⟨fun i hi => hi, fun i hi => by rw [h_or]; dsimp only at hi ⊢; rw [hi]; simp, fun z a _ => a, fun i hi => hi, fun hn => pc_pos hn⟩ (by omega)
  · rintro n i ⟨u, w⟩ hi ⟨q1, q2, q3, q4, q5⟩
    dsimp only at q1 q2 q3 q4 q5 ⊢
    by_cases e : w = 0
    · left
      refine ⟨u, ?_, q1, ?_, q3⟩
      · simp (disch := omega) only [X2_statesThatCanReach_8, X2_statesThatCanReach_8b, e, X2_statesThatCanReach_47, fa_lit, nI_leI, nI_ltI, nI_eq, nI_add, pk_mul, nI_clamp, bd, nm, gd_in, gd_bI, gd_b0, gd_b1, if_pos, if_neg, bI_n0, bI_n1, reduceIte, reduceCtorEq, Nat.add_zero]
      · intro j hj
        have z := q2 j hj
        rw [h_or, e, bef_0 h, h_0, Bool.or_false] at z
        exact z
    · right
      refine ⟨(u ||| (bef c w &&& (u ^^^ (-1))), bef c w &&& (u ^^^ (-1))), ⟨?_, ?_, ?_, ?_, ?_⟩, ?_⟩
      · intro j hj; dsimp only; rw [h_or, q1 j hj]; rfl
      · intro j hj
        dsimp only at hj ⊢
        have z := bef_or h _ _ j hj
        rw [h_or, Bool.or_eq_true] at z
        rw [h_or, h_or, Bool.or_eq_true, Bool.or_eq_true]
        rcases z with z | z
        · have z' := q2 j z
          rw [h_or, Bool.or_eq_true] at z'
          rcases z' with z' | z'
          · exact Or.inl (Or.inl z')
          · have hj := h_lt z'
            cases a : ht u j
            · exact Or.inl (Or.inr (by rw [h_and, z', h_not _ hj, a]; rfl))
            · exact Or.inl (Or.inl rfl)
        · exact Or.inr z
      · intro z z1 z2 j hj
        dsimp only at hj
        rw [h_or, Bool.or_eq_true, h_and, Bool.and_eq_true] at hj
        rcases hj with hj | hj
        · exact q3 z z1 z2 j hj
        · exact z2 j (bef_mono h (fun k hk => q3 z z1 z2 k (q4 k hk)) j hj.1)
      · intro j hj; dsimp only at hj ⊢; rw [h_or, hj]; simp
      · intro hn
        dsimp only at hn ⊢
        have := q5 e
        obtain ⟨j, hj, hj2⟩ := h_nz hn
        have z : pc u < pc (u ||| (bef c w &&& (u ^^^ (-1)))) := by
          refine pc_lt (fun k hk => by rw [h_or, hk]; rfl) (i := j) ?_ (by rw [h_or, hj2]; simp)
          rw [h_and, h_not _ hj, Bool.and_eq_true] at hj2
          revert hj2
          cases ht u j <;> simp
        omega
      · show X2_statesThatCanReach_8 N _ σ (n + 1) _ _ _ = X2_statesThatCanReach_8 N _ σ n _ _ _
        simp (disch := omega) only [X2_statesThatCanReach_8, X2_statesThatCanReach_8b, X2_predecessorsOf_ok hN h f, e, fa_lit, nI_leI, nI_ltI, nI_eq, nI_add, pk_mul, nI_clamp, bd, nm, gd_in, gd_bI, gd_b0, gd_b1, if_pos, if_neg, bI_n0, bI_n1, reduceIte, reduceCtorEq, Nat.add_zero]
  · rintro n ⟨u, w⟩ ⟨q1, q2, q3, q4, q5⟩
    dsimp only at q1 q2 q3 q4 q5 ⊢
    have e : w = 0 := by
      by_cases e : w = 0
      · exact e
      · have := q5 e
        have := pc_le u
        omega
    refine ⟨u, ?_, q1, ?_, q3⟩
    · simp (disch := omega) only [X2_statesThatCanReach_8, X2_statesThatCanReach_8b, X2_statesThatCanReach_47, fa_lit, nI_leI, nI_ltI, nI_eq, nI_add, pk_mul, nI_clamp, bd, nm, gd_in, gd_bI, gd_b0, gd_b1, if_pos, if_neg, bI_n0, bI_n1, reduceIte, reduceCtorEq, Nat.add_zero]
    · intro j hj
      have z := q2 j hj
      rw [h_or, e, bef_0 h, h_0, Bool.or_false] at z
      exact z
theorem X2_stay_ok (hN : 4000000 ≤ N) (h : okC c) (f : F3 c σ) (x : Int64) : ∃ y, X2_statesThatCanStayIn N σ x = some y ∧ SS c x y := by
  unfold X2_statesThatCanStayIn
  refine wf (fun n i (p : Int64 × Bool) => X2_statesThatCanStayIn_8 N (fun v3 => X2_statesThatCanStayIn_52 σ v3) σ n p.1 (bI p.2) (nI i)) 65 (fun i p => sbs p.1 x ∧ (∀ z, sbs z x → sbs z (bef c z) → sbs z p.1) ∧ (p.2 = false → sbs p.1 (bef c p.1)) ∧ (p.2 = true → i + pc p.1 ≤ 64)) (fun r => ∃ y, r = some y ∧ SS c x y) ?_ ?_ N 0 (x, true) (by omega) ⟨fun i hi => hi, fun z a _ => a, fun e => (by cases e), fun _ => by have := pc_le x; dsimp only; omega⟩ (by omega)
  · rintro n i ⟨u, b⟩ hi ⟨q1, q2, q3, q4⟩
    dsimp only at q1 q2 q3 q4 ⊢
    cases b
    · left
      refine ⟨u, ?_, q1, q3 rfl, q2⟩
      simp (disch := omega) only [X2_statesThatCanStayIn_8, X2_statesThatCanStayIn_8b, X2_statesThatCanStayIn_52, ite_self, fa_lit, nI_leI, nI_ltI, nI_eq, nI_add, pk_mul, nI_clamp, bd, nm, gd_in, gd_bI, gd_b0, gd_b1, if_pos, if_neg, bI_n0, bI_n1, reduceIte, reduceCtorEq, Nat.add_zero]
    · right
      have hP := X2_predecessorsOf_ok hN h f u
      have i2 : ∀ z, sbs z x → sbs z (bef c z) → sbs z (u &&& bef c u) := fun z z1 z2 j hj => by
        rw [h_and, q2 z z1 z2 j hj, bef_mono h (q2 z z1 z2) j (z2 j hj)]; rfl
      by_cases e : u &&& bef c u = u
      · refine ⟨(u, false), ⟨q1, q2, fun _ j hj => ?_, fun z => by cases z⟩, ?_⟩
        · dsimp only at hj ⊢
          rw [← e, h_and, Bool.and_eq_true] at hj
          exact hj.2
        · show X2_statesThatCanStayIn_8 N _ σ (n + 1) _ _ _ = X2_statesThatCanStayIn_8 N _ σ n _ _ _
          have q : ¬ 64 < i := by omega
          simp (disch := omega) only [X2_statesThatCanStayIn_8, X2_statesThatCanStayIn_8b, hP, e, fa_lit, nI_leI, nI_ltI, nI_eq, nI_add, pk_mul, nI_clamp, bd, nm, gd_in, gd_bI, gd_b0, gd_b1, if_pos, if_neg, bI_n0, bI_n1, reduceIte, reduceCtorEq, Nat.add_zero]
          rfl
      · have := q4 rfl
        have z : pc (u &&& bef c u) < pc u := sbs_pc (fun j hj => by rw [h_and, Bool.and_eq_true] at hj; exact hj.1) (fun z => e z.symm)
        refine ⟨(u &&& bef c u, true), ⟨fun j hj => ?_, i2, fun z => (by cases z), fun _ => by dsimp only; omega⟩, ?_⟩
        · dsimp only at hj
          rw [h_and, Bool.and_eq_true] at hj
          exact q1 j hj.1
        · show X2_statesThatCanStayIn_8 N _ σ (n + 1) _ _ _ = X2_statesThatCanStayIn_8 N _ σ n _ _ _
          have q : ¬ 64 < i := by omega
          simp (disch := omega) only [X2_statesThatCanStayIn_8, X2_statesThatCanStayIn_8b, hP, e, fa_lit, nI_leI, nI_ltI, nI_eq, nI_add, pk_mul, nI_clamp, bd, nm, gd_in, gd_bI, gd_b0, gd_b1, if_pos, if_neg, bI_n0, bI_n1, reduceIte, reduceCtorEq, Nat.add_zero]
          rfl
  · rintro n ⟨u, b⟩ ⟨q1, q2, q3, q4⟩
    dsimp only at q1 q2 q3 q4 ⊢
    cases b
    · refine ⟨u, ?_, q1, q3 rfl, q2⟩
      simp (disch := omega) only [X2_statesThatCanStayIn_8, X2_statesThatCanStayIn_8b, X2_statesThatCanStayIn_52, fa_lit, nI_leI, nI_ltI, nI_eq, nI_add, pk_mul, nI_clamp, bd, nm, gd_in, gd_bI, gd_b0, gd_b1, if_pos, if_neg, bI_n0, bI_n1, reduceIte, reduceCtorEq, Nat.add_zero]
    · have := q4 rfl
      omega
theorem modal_loop (hN : 4000000 ≤ N) {k : Int32} {x : Int64} (G : Int64 → Int64) (hG : ∀ n, X7_modalStep N τ k x n = some (G n)) (P : Int64 → Prop) (μ : Int64 → Nat) (hP : ∀ n, P n → P (G n)) (hμ : ∀ n, P n → G n ≠ n → μ (G n) < μ n) (h64 : ∀ n, μ n ≤ 64) {y : Int64} (hy : P y) : ∃ z, X7_modalNow_41 N (fun v4 σ => X7_modalNow_66 v4 σ) k x N y (G y) τ = some (z, τ) ∧ P z ∧ G z = z := by
  refine wl (fun n u => X7_modalNow_41 N (fun v4 σ => X7_modalNow_66 v4 σ) k x n u (G u) τ) μ P (fun r => ∃ z, r = some (z, τ) ∧ P z ∧ G z = z) ?_ N y hy (by have := h64 y; omega)
  intro n u hu
  by_cases e : G u = u
  · left
    refine ⟨u, ?_, hu, e⟩
    rw [X7_modalNow_41, X7_modalNow_41b, if_pos e]
    rfl
  · right
    refine ⟨G u, hP u hu, hμ u hu e, ?_⟩
    rw [X7_modalNow_41, X7_modalNow_41b, if_neg e, hG]
    rfl
theorem X7_allBefore_ok (hN : 4000000 ≤ N) (h : CM c τ) (x : Int64) : X7_allBefore N τ x = some (cm c (bef c (cm c x))) := by
  have k1 : X7_before N τ (al c &&& (x ^^^ (-1))) = some (bef c (cm c x)) := X7_before_ok hN h (cm c x)
  simp only [X7_allBefore, bd, X7_all_ok h, k1]
  rfl
theorem cm_t (h : okC c) {x : Int64} {i : Nat} : ht (cm c x) i = true ↔ i < ns c ∧ ht x i = false := by
  rw [h_cm h, Bool.and_eq_true, decide_eq_true_eq]
  cases ht x i <;> simp
theorem cm_l (h : okC c) {x : Int64} : ∀ s, ht (cm c x) s = true → s < ns c := fun s hs => ((cm_t h).mp hs).1
theorem cm_cm (h : okC c) {x : Int64} (hx : ∀ s, ht x s = true → s < ns c) : cm c (cm c x) = x := sbs_a (fun i hi => by
    rw [cm_t h] at hi
    cases a : ht x i
    · rw [(cm_t h).mpr ⟨hi.1, a⟩] at hi
      exact absurd hi.2 (by simp)
    · rfl) (fun i hi => by
    rw [cm_t h]
    refine ⟨hx i hi, ?_⟩
    cases a : ht (cm c x) i
    · rfl
    · rw [cm_t h] at a
      rw [hi] at a
      exact absurd a.2 (by simp))
theorem cm_anti (h : okC c) {x y : Int64} (e : sbs x y) : sbs (cm c y) (cm c x) := fun i hi => by
  rw [cm_t h] at hi ⊢
  refine ⟨hi.1, ?_⟩
  cases a : ht x i
  · rfl
  · rw [e i a] at hi
    exact absurd hi.2 (by simp)
/-- the reference's four searches -/
theorem X7_modal2 (hN : 4000000 ≤ N) (h : CM c τ) {x : Int64} : ∃ z, X7_modalNow_41 N (fun v4 σ => X7_modalNow_66 v4 σ) 2 x N x (x ||| bef c x) τ = some (z, τ) ∧ RR c x z := by
  have hG : ∀ n, X7_modalStep N τ 2 x n = some (x ||| bef c n) := fun n => by
    simp only [X7_modalStep, reduceIte, bd, X7_before_ok hN h]
  obtain ⟨z, a, b, d⟩ := modal_loop hN (fun n => x ||| bef c n) hG (fun n => sbs n (x ||| bef c n) ∧ sbs x n ∧ ∀ z, sbs x z → sbs (bef c z) z → sbs n z) (fun n => 64 - pc n) (fun n q => ⟨fun i hi => by
      rw [h_or, Bool.or_eq_true] at hi ⊢
      exact hi.imp id (bef_mono h.1 q.1 i), fun i hi => by rw [h_or, hi]; rfl, fun z z1 z2 i hi => by
      rw [h_or, Bool.or_eq_true] at hi
      exact hi.elim (z1 i) (fun w => z2 i (bef_mono h.1 (q.2.2 z z1 z2) i w))⟩) (fun n q e => by
      have := sbs_pc q.1 e
      have := pc_le (x ||| bef c n)
      omega) (fun n => by omega) (y := x) ⟨fun i hi => by rw [h_or, hi]; rfl, fun i hi => hi, fun z a _ => a⟩
  refine ⟨z, a, b.2.1, fun i hi => ?_, b.2.2⟩
  rw [← d, h_or, hi]
  simp
theorem X7_modal4 (hN : 4000000 ≤ N) (h : CM c τ) {x : Int64} : ∃ z, X7_modalNow_41 N (fun v4 σ => X7_modalNow_66 v4 σ) 4 x N x (x &&& bef c x) τ = some (z, τ) ∧ SS c x z := by
  have hG : ∀ n, X7_modalStep N τ 4 x n = some (x &&& bef c n) := fun n => by
    rw [X7_modalStep, if_neg (by decide), if_neg (by decide), if_pos rfl, X7_before_ok hN h]
    rfl
  obtain ⟨z, a, b, d⟩ := modal_loop hN (fun n => x &&& bef c n) hG (fun n => sbs (x &&& bef c n) n ∧ sbs n x ∧ ∀ z, sbs z x → sbs z (bef c z) → sbs z n) (fun n => pc n) (fun n q => ⟨fun i hi => by
      rw [h_and, Bool.and_eq_true] at hi ⊢
      exact ⟨hi.1, bef_mono h.1 q.1 i hi.2⟩, fun i hi => by rw [h_and, Bool.and_eq_true] at hi; exact hi.1, fun z z1 z2 i hi => by
      rw [h_and, z1 i hi, bef_mono h.1 (q.2.2 z z1 z2) i (z2 i hi)]; rfl⟩) (fun n q e => sbs_pc q.1 (fun w => e w.symm)) (fun n => pc_le n) (y := x) ⟨fun i hi => by rw [h_and, Bool.and_eq_true] at hi; exact hi.1, fun i hi => hi, fun z a _ => a⟩
  refine ⟨z, a, b.2.1, fun i hi => ?_, b.2.2⟩
  rw [← d, h_and, Bool.and_eq_true] at hi
  exact hi.2
theorem X7_modal5 (hN : 4000000 ≤ N) (h : CM c τ) {x : Int64} (hx : ∀ s, ht x s = true → s < ns c) : ∃ z, X7_modalNow_41 N (fun v4 σ => X7_modalNow_66 v4 σ) 5 x N x (x &&& cm c (bef c (cm c x))) τ = some (cm c z, τ) ∧ RR c (cm c x) z := by
  have hG : ∀ n, X7_modalStep N τ 5 x n = some (x &&& cm c (bef c (cm c n))) := fun n => by
    rw [X7_modalStep, if_neg (by decide), if_neg (by decide), if_neg (by decide), X7_allBefore_ok hN h]
    rfl
  have mo : ∀ {u w : Int64}, sbs u w → sbs (cm c (bef c (cm c u))) (cm c (bef c (cm c w))) := fun e => cm_anti h.1 (bef_mono h.1 (cm_anti h.1 e))
  obtain ⟨z, a, b, d⟩ := modal_loop hN (fun n => x &&& cm c (bef c (cm c n))) hG (fun n => sbs (x &&& cm c (bef c (cm c n))) n ∧ sbs n x ∧ ∀ z, sbs (cm c x) z → sbs (bef c z) z → sbs (cm c n) z) (fun n => pc n) (fun n q => ⟨fun i hi => by
      rw [h_and, Bool.and_eq_true] at hi ⊢
      exact ⟨hi.1, mo q.1 i hi.2⟩, fun i hi => by rw [h_and, Bool.and_eq_true] at hi; exact hi.1, fun z z1 z2 i hi => by
      rw [cm_t h.1, h_and] at hi
      obtain ⟨hi1, hi2⟩ := hi
      cases a : ht x i
      · exact z1 i ((cm_t h.1).mpr ⟨hi1, a⟩)
      · rw [a, Bool.true_and, h_cm h.1, decide_eq_true hi1, Bool.true_and] at hi2
        refine z2 i (bef_mono h.1 (q.2.2 z z1 z2) i ?_)
        revert hi2
        cases ht (bef c (cm c n)) i <;> simp⟩) (fun n q e => sbs_pc q.1 (fun w => e w.symm)) (fun n => pc_le n) (y := x) ⟨fun i hi => by rw [h_and, Bool.and_eq_true] at hi; exact hi.1, fun i hi => hi, fun z a _ => a⟩
  have hz : ∀ s, ht z s = true → s < ns c := fun s hs => hx s (b.2.1 s hs)
  refine ⟨cm c z, by rw [cm_cm h.1 hz]; exact a, cm_anti h.1 b.2.1, fun i hi => ?_, b.2.2⟩
  rw [cm_t h.1]
  refine ⟨bef_l h.1 _ i hi, ?_⟩
  cases e : ht z i
  · rfl
  · rw [← d, h_and, Bool.and_eq_true, cm_t h.1, hi] at e
    exact absurd e.2.2 (by simp)
theorem X7_modal3 (hN : 4000000 ≤ N) (h : CM c τ) {x : Int64} (hx : ∀ s, ht x s = true → s < ns c) : ∃ z, X7_modalNow_41 N (fun v4 σ => X7_modalNow_66 v4 σ) 3 x N x (x ||| cm c (bef c (cm c x))) τ = some (cm c z, τ) ∧ SS c (cm c x) z := by
  have hG : ∀ n, X7_modalStep N τ 3 x n = some (x ||| cm c (bef c (cm c n))) := fun n => by
    rw [X7_modalStep, if_neg (by decide), if_pos rfl, X7_allBefore_ok hN h]
    rfl
  have mo : ∀ {u w : Int64}, sbs u w → sbs (cm c (bef c (cm c u))) (cm c (bef c (cm c w))) := fun e => cm_anti h.1 (bef_mono h.1 (cm_anti h.1 e))
  obtain ⟨z, a, b, d⟩ := modal_loop hN (fun n => x ||| cm c (bef c (cm c n))) hG (fun n => sbs n (x ||| cm c (bef c (cm c n))) ∧ (sbs x n ∧ ∀ s, ht n s = true → s < ns c) ∧ ∀ z, sbs z (cm c x) → sbs z (bef c z) → sbs z (cm c n)) (fun n => 64 - pc n) (fun n q => ⟨fun i hi => by
      rw [h_or, Bool.or_eq_true] at hi ⊢
      exact hi.imp id (mo q.1 i), ⟨fun i hi => by rw [h_or, hi]; rfl, fun i hi => by
      rw [h_or, Bool.or_eq_true] at hi
      exact hi.elim (hx i) (cm_l h.1 i)⟩, fun z z1 z2 i hi => by
      have w1 := z1 i hi
      have w2 := bef_mono h.1 (q.2.2 z z1 z2) i (z2 i hi)
      rw [cm_t h.1] at w1 ⊢
      refine ⟨w1.1, ?_⟩
      rw [h_or, w1.2, h_cm h.1, w2]
      simp⟩) (fun n q e => by
      have := sbs_pc q.1 e
      have := pc_le (x ||| cm c (bef c (cm c n)))
      omega) (fun n => by omega) (y := x) ⟨fun i hi => by rw [h_or, hi]; rfl, ⟨fun i hi => hi, hx⟩, fun z a _ => a⟩
  refine ⟨cm c z, by rw [cm_cm h.1 b.2.1.2]; exact a, cm_anti h.1 b.2.1.1, fun i hi => ?_, b.2.2⟩
  have hi' := (cm_t h.1).mp hi
  rw [← d, h_or] at hi'
  obtain ⟨w1, w2⟩ := hi'
  rw [h_cm h.1, decide_eq_true w1] at w2
  revert w2
  cases ht (bef c (cm c z)) i <;> simp
theorem Op_modal_ok (hN : 4000000 ≤ N) (h : RC c σ τ) : Op_modal N Rl σ τ := by
  intro v1
  have h64 := ns_le h.1.1
  rcases pk_ix v1 (n := 6) (by omega) with q | q | ⟨v, hv, rfl⟩
  · refine ⟨0, si τ 0 1, ?_, Or.inr ⟨1, 1, σ, Or.inl ⟨rfl, rfl⟩, ?_, rfl, ⟨c, h.th 1⟩⟩⟩
    · simp only [X7_modal, X7_modal_26, bd, nm, si0, p10, p1, reduceIte, wi_neg q]
    · simp only [X6_modal_t, if_pos q, X6_modal_t_9]
  · obtain ⟨a1, a2, _⟩ := wi_big (by omega) (by omega) q
    have a1' : X7_within v1 0 5 = some 0 := a1
    have a3' : ¬ v1 ≤ 5 := by
      rw [le_i, show (5 : Int32).toInt = 5 by decide]
      rw [le_i, show (nI 6 : Int32).toInt = 6 by decide] at q
      omega
    refine ⟨0, si τ 0 1, ?_, Or.inr ⟨1, 1, σ, Or.inl ⟨rfl, rfl⟩, ?_, rfl, ⟨c, h.th 1⟩⟩⟩
    · simp only [X7_modal, X7_modal_26, bd, nm, si0, p10, p1, reduceIte, a1']
    · simp only [X6_modal_t, if_neg a2, if_neg a3', X6_modal_t_9]
  · have w2 : X7_within (nI v) 0 5 = some 1 := by have z := wi_in hv (by omega); rwa [show (nI 6 - 1 : Int32) = 5 by decide] at z
    have w3 : X7_within (nI v) (nI 0) (nI 5) = some (nI 1) := w2
    have q1 : ¬ nI v < 0 := nI_pos (by omega)
    have q2 : nI v ≤ 5 := (nI_leI (b := 5) (by omega) (by omega)).mpr (by omega)
    obtain ⟨b, x, σ1, τ1, e1, hr, n1, y1⟩ := ask_ok hN h
    cases b
    · have n1' := n1 rfl
      refine ⟨0, si τ1 0 2, ?_, Or.inr ⟨2, 2, σ1, Or.inr ⟨rfl, rfl⟩, ?_, rfl, ⟨c, hr.th 2⟩⟩⟩
      · simp (disch := omega) only [X7_modal, w3, e1, X7_modal_26, si_s, fa_lit, nI_leI, nI_ltI, nI_eq, nI_add, pk_mul, nI_clamp, bd, nm, gd_in, gd_bI, gd_b0, gd_b1, if_pos, if_neg, bI_n0, bI_n1, reduceIte, reduceCtorEq, Nat.add_zero]
      · simp only [X6_modal_t, if_neg q1, if_pos q2, n1', tb]
    · obtain ⟨z1, z2, σ2, σ3, σ4, τ2, z3, z4, _, _, z5, z6, z7, z8⟩ := y1 rfl
      have e1' : X7_isPlain N τ = some (1, τ1) := e1
      have ea : σ4.2.1 0 = al c := z7.2.1.2.2.2.2.2.1
      have kb : ∀ y, X7_before N τ2 y = some (bef c y) := X7_before_ok hN z7.1
      have kp : ∀ y, X2_predecessorsOf N σ4 y = some (bef c y) := X2_predecessorsOf_ok hN h.1.1 z8.1
      have hv6 : v = 0 ∨ v = 1 ∨ v = 2 ∨ v = 3 ∨ v = 4 ∨ v = 5 := by omega
      rcases hv6 with rfl | rfl | rfl | rfl | rfl | rfl
      · refine ⟨bef c x, τ2, ?_, Or.inl ⟨σ4, ?_, z4, ⟨c, z7⟩⟩⟩
        · have r1 : ¬ (2 : Int32) ≤ nI 0 := by decide
          have r2 : nI 0 = 0 := rfl
          simp only [X7_modal, w2, bd, nm, p10, e1', X7_modal_26, si0, p0, reduceIte, X7_modalNow, z3, if_neg r1, if_pos r2, kb]
        · have r2 : nI 0 = (0 : Int32) := rfl
          simp only [X6_modal, if_neg q1, if_pos q2, bd, nm, z1, z5, z6, if_pos r2, kp]
      · refine ⟨cm c (bef c (cm c x)), τ2, ?_, Or.inl ⟨σ4, ?_, z4, ⟨c, z7⟩⟩⟩
        · have r1 : ¬ (2 : Int32) ≤ nI 1 := by decide
          have r2 : ¬ nI 1 = 0 := by decide
          simp only [X7_modal, w2, bd, nm, p10, e1', X7_modal_26, si0, p0, reduceIte, X7_modalNow, z3, if_neg r1, if_neg r2, X7_allBefore_ok hN z7.1]
        · have r2 : ¬ nI 1 = (0 : Int32) := by decide
          have r3 : nI 1 = (1 : Int32) := rfl
          simp only [X6_modal, if_neg q1, if_pos q2, bd, nm, z1, z5, z6, if_neg r2, if_pos r3, kp, ea]
          rfl
      · obtain ⟨y, a1, a2⟩ := X7_modal2 hN z7.1 (x := x)
        obtain ⟨y', b1, b2⟩ := X2_reach_ok hN h.1.1 z8.1 x
        have := RR_u a2 b2
        subst this
        have r1 : (2 : Int32) ≤ nI 2 := by decide
        have st : X7_modalStep N τ2 (nI 2) x x = some (x ||| bef c x) := by
          rw [X7_modalStep, if_pos (show nI 2 = (2 : Int32) from rfl), kb]; rfl
        have a1' : X7_modalNow_41 N (fun v4 σ => X7_modalNow_66 v4 σ) (nI 2) x N x (x ||| bef c x) τ2 = some (y, τ2) := a1
        refine ⟨y, τ2, ?_, Or.inl ⟨σ4, ?_, z4, ⟨c, z7⟩⟩⟩
        · simp only [X7_modal, w2, bd, nm, p10, e1', X7_modal_26, si0, p0, reduceIte, X7_modalNow, z3, if_pos r1, st, a1']
        · have r2 : ¬ nI 2 = (0 : Int32) := by decide
          have r3 : ¬ nI 2 = (1 : Int32) := by decide
          have r4 : nI 2 = (2 : Int32) := rfl
          simp only [X6_modal, if_neg q1, if_pos q2, bd, nm, z1, z5, z6, if_neg r2, if_neg r3, if_pos r4, b1]
      · obtain ⟨y, a1, a2⟩ := X7_modal3 hN z7.1 z2
        obtain ⟨y', b1, b2⟩ := X2_stay_ok hN h.1.1 z8.1 (cm c x)
        have := SS_u a2 b2
        subst this
        have r1 : (2 : Int32) ≤ nI 3 := by decide
        have st : X7_modalStep N τ2 (nI 3) x x = some (x ||| cm c (bef c (cm c x))) := by
          rw [X7_modalStep, if_neg (by decide), if_pos (show nI 3 = (3 : Int32) from rfl), X7_allBefore_ok hN z7.1]; rfl
        have a1' : X7_modalNow_41 N (fun v4 σ => X7_modalNow_66 v4 σ) (nI 3) x N x (x ||| cm c (bef c (cm c x))) τ2 = some (cm c y, τ2) := a1
        have b1' : X2_statesThatCanStayIn N σ4 (al c &&& (x ^^^ (-1))) = some y := b1
        refine ⟨cm c y, τ2, ?_, Or.inl ⟨σ4, ?_, z4, ⟨c, z7⟩⟩⟩
        · simp only [X7_modal, w2, bd, nm, p10, e1', X7_modal_26, si0, p0, reduceIte, X7_modalNow, z3, if_pos r1, st, a1']
        · have r2 : ¬ nI 3 = (0 : Int32) := by decide
          have r3 : ¬ nI 3 = (1 : Int32) := by decide
          have r4 : ¬ nI 3 = (2 : Int32) := by decide
          have r5 : nI 3 = (3 : Int32) := rfl
          simp only [X6_modal, if_neg q1, if_pos q2, bd, nm, z1, z5, z6, if_neg r2, if_neg r3, if_neg r4, if_pos r5, ea, b1']
          rfl
      · obtain ⟨y, a1, a2⟩ := X7_modal4 hN z7.1 (x := x)
        obtain ⟨y', b1, b2⟩ := X2_stay_ok hN h.1.1 z8.1 x
        have := SS_u a2 b2
        subst this
        have r1 : (2 : Int32) ≤ nI 4 := by decide
        have st : X7_modalStep N τ2 (nI 4) x x = some (x &&& bef c x) := by
          rw [X7_modalStep, if_neg (by decide), if_neg (by decide), if_pos (show nI 4 = (4 : Int32) from rfl), kb]; rfl
        have a1' : X7_modalNow_41 N (fun v4 σ => X7_modalNow_66 v4 σ) (nI 4) x N x (x &&& bef c x) τ2 = some (y, τ2) := a1
        refine ⟨y, τ2, ?_, Or.inl ⟨σ4, ?_, z4, ⟨c, z7⟩⟩⟩
        · simp only [X7_modal, w2, bd, nm, p10, e1', X7_modal_26, si0, p0, reduceIte, X7_modalNow, z3, if_pos r1, st, a1']
        · have r2 : ¬ nI 4 = (0 : Int32) := by decide
          have r3 : ¬ nI 4 = (1 : Int32) := by decide
          have r4 : ¬ nI 4 = (2 : Int32) := by decide
          have r5 : ¬ nI 4 = (3 : Int32) := by decide
          have r6 : nI 4 = (4 : Int32) := rfl
          simp only [X6_modal, if_neg q1, if_pos q2, bd, nm, z1, z5, z6, if_neg r2, if_neg r3, if_neg r4, if_neg r5, if_pos r6, b1]
      · obtain ⟨y, a1, a2⟩ := X7_modal5 hN z7.1 z2
        obtain ⟨y', b1, b2⟩ := X2_reach_ok hN h.1.1 z8.1 (cm c x)
        have := RR_u a2 b2
        subst this
        have r1 : (2 : Int32) ≤ nI 5 := by decide
        have st : X7_modalStep N τ2 (nI 5) x x = some (x &&& cm c (bef c (cm c x))) := by
          rw [X7_modalStep, if_neg (by decide), if_neg (by decide), if_neg (by decide), X7_allBefore_ok hN z7.1]; rfl
        have a1' : X7_modalNow_41 N (fun v4 σ => X7_modalNow_66 v4 σ) (nI 5) x N x (x &&& cm c (bef c (cm c x))) τ2 = some (cm c y, τ2) := a1
        have b1' : X2_statesThatCanReach N σ4 (al c &&& (x ^^^ (-1))) = some y := b1
        refine ⟨cm c y, τ2, ?_, Or.inl ⟨σ4, ?_, z4, ⟨c, z7⟩⟩⟩
        · simp only [X7_modal, w2, bd, nm, p10, e1', X7_modal_26, si0, p0, reduceIte, X7_modalNow, z3, if_pos r1, st, a1']
        · have r2 : ¬ nI 5 = (0 : Int32) := by decide
          have r3 : ¬ nI 5 = (1 : Int32) := by decide
          have r4 : ¬ nI 5 = (2 : Int32) := by decide
          have r5 : ¬ nI 5 = (3 : Int32) := by decide
          have r6 : ¬ nI 5 = (4 : Int32) := by decide
          simp only [X6_modal, if_neg q1, if_pos q2, bd, nm, z1, z5, z6, if_neg r2, if_neg r3, if_neg r4, if_neg r5, if_neg r6, ea, b1']
          rfl
end MODAL
