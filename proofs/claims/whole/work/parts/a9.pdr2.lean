/-! a9: the two programs' steps on cubes: widening, levels, dropping, putting, moving -/
def bkB (c : Ck) (x f : Int64) : Bool := decide (bef c x &&& f &&& (x ^^^ (-1)) = 0)
theorem bkB_i {c : Ck} {x f : Int64} : bkB c x f = true ↔ blk c x f := decide_eq_true_iff
def lsm (M b : Nat) : Nat := M &&& (63 ^^^ 2 ^ b)
theorem lsm_k : ∀ M, M < 64 → ∀ b, b < 6 → nI M &&& (((1 : Int32) <<< (nI b &&& 31)) ^^^ (-1 : Int32)) = nI (lsm M b) := by decide +kernel
theorem lsm_le (M b : Nat) : lsm M b ≤ M := Nat.and_le_left
/-- widening: the mask and how many bits were left out -/
def gmk (c : Ck) (s : Nat) (f : Int64) : Nat → Nat × Nat
  | 0 => (ns c - 1, 0)
  | b + 1 => if cu c (lsm (gmk c s f b).1 b) (s &&& lsm (gmk c s f b).1 b) &&& c.2.2.2.1 = 0 ∧ bkB c (cu c (lsm (gmk c s f b).1 b) (s &&& lsm (gmk c s f b).1 b)) f = true then (lsm (gmk c s f b).1 b, (gmk c s f b).2 + 1) else gmk c s f b
def tol (c : Ck) (n : Nat) (m w l : Nat → Nat) (x : Int64) (k L : Nat) : Nat := lst (fun t => !bkB c x (frm c n m w l t)) L (k - L)
section PDR2
variable {c : Ck} {σ τ σ' τ' : St} {N k n : Nat} {m w l : Nat → Nat} {kp : Nat → Bool} {O : Nat → Int64} {x : Int64} {L s M : Nat}
theorem cu_all (h : okC c) (hs : s < ns c) : cu c (ns c - 1) (s &&& (ns c - 1)) = sg s := h_ext (fun i hi => by
  have e : ∀ j, j < ns c → j &&& (ns c - 1) = j := fun j hj => by
    unfold ns at hj ⊢
    rw [Nat.and_two_pow_sub_one_eq_mod, Nat.mod_eq_of_lt hj]
  have h64 := ns_le h
  rw [h_sg (by omega), e s hs]
  rw [Bool.eq_iff_iff, h_cu h, decide_eq_true_eq]
  constructor
  · rintro ⟨h1, h2⟩
    rw [e i h1] at h2
    exact h2
  · intro z
    subst z
    exact ⟨hs, e i hs⟩)
theorem gmk_t {f : Int64} {b : Nat} (h1 : cu c (lsm (gmk c s f b).1 b) (s &&& lsm (gmk c s f b).1 b) &&& c.2.2.2.1 = 0) (h2 : bkB c (cu c (lsm (gmk c s f b).1 b) (s &&& lsm (gmk c s f b).1 b)) f = true) : gmk c s f (b + 1) = (lsm (gmk c s f b).1 b, (gmk c s f b).2 + 1) := by rw [gmk, if_pos ⟨h1, h2⟩]
theorem gmk_f {f : Int64} {b : Nat} (h : ¬ (cu c (lsm (gmk c s f b).1 b) (s &&& lsm (gmk c s f b).1 b) &&& c.2.2.2.1 = 0 ∧ bkB c (cu c (lsm (gmk c s f b).1 b) (s &&& lsm (gmk c s f b).1 b)) f = true)) : gmk c s f (b + 1) = gmk c s f b := by rw [gmk, if_neg h]
theorem gmk_ok (h : okC c) (hs : s < ns c) (hi : ht c.2.2.2.1 s = false) {f : Int64} (hb : blk c (sg s) f) : ∀ b, (gmk c s f b).1 < ns c ∧ cu c (gmk c s f b).1 (s &&& (gmk c s f b).1) &&& c.2.2.2.1 = 0 ∧ blk c (cu c (gmk c s f b).1 (s &&& (gmk c s f b).1)) f := by
  have h64 := ns_le h
  intro b
  induction b with
  | zero =>
    refine ⟨by show ns c - 1 < ns c; omega, ?_, ?_⟩
    · show cu c (ns c - 1) (s &&& (ns c - 1)) &&& _ = 0
      rw [cu_all h hs, an_z]
      intro i h1
      rw [h_sg (by omega), decide_eq_true_eq] at h1
      rw [h1]; exact hi
    · show blk c (cu c (ns c - 1) (s &&& (ns c - 1))) f
      rw [cu_all h hs]
      exact hb
  | succ b ih =>
    by_cases z : cu c (lsm (gmk c s f b).1 b) (s &&& lsm (gmk c s f b).1 b) &&& c.2.2.2.1 = 0 ∧ bkB c (cu c (lsm (gmk c s f b).1 b) (s &&& lsm (gmk c s f b).1 b)) f = true
    · rw [gmk_t z.1 z.2]
      exact ⟨Nat.lt_of_le_of_lt (lsm_le _ _) ih.1, z.1, bkB_i.mp z.2⟩
    · rw [gmk_f z]
      exact ih
theorem gmk_64 (h : okC c) {f : Int64} : ∀ b, (gmk c s f b).1 < 64 := by
  have h64 := ns_le h
  intro b
  induction b with
  | zero => show ns c - 1 < 64; omega
  | succ b ih =>
    by_cases z : cu c (lsm (gmk c s f b).1 b) (s &&& lsm (gmk c s f b).1 b) &&& c.2.2.2.1 = 0 ∧ bkB c (cu c (lsm (gmk c s f b).1 b) (s &&& lsm (gmk c s f b).1 b)) f = true
    · rw [gmk_t z.1 z.2]
      exact Nat.lt_of_le_of_lt (lsm_le _ _) ih
    · rw [gmk_f z]
      exact ih
theorem gmk_ns (h : okC c) {f : Int64} : ∀ b, (gmk c s f b).1 < ns c := by
  have h64 := ns_le h
  intro b
  induction b with
  | zero => show ns c - 1 < ns c; omega
  | succ b ih =>
    by_cases z : cu c (lsm (gmk c s f b).1 b) (s &&& lsm (gmk c s f b).1 b) &&& c.2.2.2.1 = 0 ∧ bkB c (cu c (lsm (gmk c s f b).1 b) (s &&& lsm (gmk c s f b).1 b)) f = true
    · rw [gmk_t z.1 z.2]
      exact Nat.lt_of_le_of_lt (lsm_le _ _) ih
    · rw [gmk_f z]
      exact ih
theorem X7_isBlocked_ok (hN : 4000000 ≤ N) (h : CM c τ) (hl : CLm c n m w l τ) (hn : n ≤ 1000) (h12 : τ.1 12 = nI n) (hL : L ≤ 1000) : X7_isBlocked N τ x (nI L) = some (bI (bkB c x (frm c n m w l L))) := by
  rw [X7_isBlocked, X7_before_ok hN h, bd, X7_frameOf_ok hN h hl hn h12 hL, bd]
  unfold bkB
  by_cases e : bef c x &&& frm c n m w l L &&& (x ^^^ (-1)) = 0
  · rw [if_pos e, decide_eq_true e]; rfl
  · rw [if_neg e, decide_eq_false e]; rfl
theorem and3 (a b d : Int64) : b &&& d &&& a = a &&& b &&& d := h_ext (fun i _ => by
  rw [h_and, h_and, h_and, h_and]
  cases ht a i <;> cases ht b i <;> cases ht d i <;> rfl)
theorem X4_isBlocked_ok (hN : 4000000 ≤ N) (h : CS c σ) {f : Int64} (hL : L < 70) (hf : σ.2.2.2 5 L = f) (hM : M < ns c) (hs : s < 64) : X4_isBlocked N σ (nI M) (nI s) (nI L) = some (bI (bkB c (cu c M (s &&& M)) f)) := by
  have h64 := ns_le h.1
  have e1 : X4_frameAt σ (nI L) = some f := by simp (disch := omega) only [X4_frameAt, hf, fa_lit, nI_leI, nI_ltI, nI_eq, nI_add, pk_mul, nI_clamp, bd, nm, gd_in, gd_bI, gd_b0, gd_b1, if_pos, if_neg, bI_n0, bI_n1, reduceIte, reduceCtorEq, Nat.add_zero]
  rw [X4_isBlocked, e1, bd, X0_statesInCube_ok hN h (by omega) hs, bd, nm, X0_predecessorsOfCube_ok hN h hM hs, bd, and3]
  unfold bkB
  by_cases e : bef c (cu c M (s &&& M)) &&& f &&& (cu c M (s &&& M) ^^^ (-1)) = 0
  · rw [if_pos e, decide_eq_true e]; rfl
  · rw [if_neg e, decide_eq_false e]; rfl
theorem ad1 (a : Int32) (j : Nat) : a + nI j + 1 = a + nI (j + 1) := by rw [Int32.add_assoc, nI_1]
theorem X7_generalized_ok (hN : 4000000 ≤ N) (h : CM c τ) (hl : CLm c n m w l τ) (hn : n ≤ 1000) (h12 : τ.1 12 = nI n) (hL1 : 1 ≤ L) (hL : L ≤ 1000) (hs : s < 64) : ∃ τ', X7_generalized N (nI s) (nI L) τ = some (nI (gmk c s (frm c n m w l (L - 1)) c.1).1, τ') ∧ FR [15] [] [] [] τ τ' ∧ τ'.1 15 = τ.1 15 + nI (gmk c s (frm c n m w l (L - 1)) c.1).2 := by
  have h64 := ns_le h.1
  have h6 := h.1.2.1
  have e0 : X7_generalized N (nI s) (nI L) τ = X7_generalized_10 N (fun v3 σ => X7_generalized_84 v3 σ) (nI s) (nI L) N (nI (gmk c s (frm c n m w l (L - 1)) 0).1) (nI 0) τ := by
    rw [X7_generalized, X7_states_ok h, bd, nm]
    show X7_generalized_10 N _ _ _ N (nI (ns c) - nI 1) _ _ = _
    rw [pk_sub (by omega)]
    rfl
  rw [e0]
  refine wf (fun f b u => X7_generalized_10 N (fun v3 σ => X7_generalized_84 v3 σ) (nI s) (nI L) f (nI (gmk c s (frm c n m w l (L - 1)) b).1) (nI b) u) c.1 (fun b u => FR [15] [] [] [] τ u ∧ u.1 15 = τ.1 15 + nI (gmk c s (frm c n m w l (L - 1)) b).2) (fun r => ∃ τ', r = some (nI (gmk c s (frm c n m w l (L - 1)) c.1).1, τ') ∧ FR [15] [] [] [] τ τ' ∧ τ'.1 15 = τ.1 15 + nI (gmk c s (frm c n m w l (L - 1)) c.1).2) ?_ ?_ N 0 τ (by omega) ⟨FR.rf, by show _ = τ.1 15 + 0; rw [Int32.add_zero]⟩ (by omega)
  · rintro f b u hb ⟨q1, q2⟩
    have hu := h.fr q1 (by decide)
    have hlu := hl.fr q1 (by decide)
    have u12 : u.1 12 = nI n := (q1.1 12 (by decide)).trans h12
    have g64 := gmk_64 (s := s) h.1 (f := frm c n m w l (L - 1)) b
    have hc : ¬ u.1 1 ≤ nI b := by rw [hu.2.1, nI_leI (by omega) (by omega)]; omega
    have e1 := lsm_k _ g64 b (by omega)
    have l64 : lsm (gmk c s (frm c n m w l (L - 1)) b).1 b < 64 := Nat.lt_of_le_of_lt (lsm_le _ _) g64
    have sl : s &&& lsm (gmk c s (frm c n m w l (L - 1)) b).1 b < 64 := Nat.lt_of_le_of_lt Nat.and_le_left hs
    have e2 := X7_cubeSet_ok hN hu (m := lsm (gmk c s (frm c n m w l (L - 1)) b).1 b) sl
    have e3 : nI L - 1 = nI (L - 1) := pk_sub hL1
    have e4 := X7_isBlocked_ok hN hu hlu hn u12 (x := cu c (lsm (gmk c s (frm c n m w l (L - 1)) b).1 b) (s &&& lsm (gmk c s (frm c n m w l (L - 1)) b).1 b)) (L := L - 1) (by omega)
    have ei : u.2.1 0 = c.2.2.2.1 := hu.2.2.2.2.1
    right
    by_cases z1 : cu c (lsm (gmk c s (frm c n m w l (L - 1)) b).1 b) (s &&& lsm (gmk c s (frm c n m w l (L - 1)) b).1 b) &&& c.2.2.2.1 = 0
    · cases z2 : bkB c (cu c (lsm (gmk c s (frm c n m w l (L - 1)) b).1 b) (s &&& lsm (gmk c s (frm c n m w l (L - 1)) b).1 b)) (frm c n m w l (L - 1))
      · rw [z2] at e4
        have e4' : X7_isBlocked N u (cu c (lsm (gmk c s (frm c n m w l (L - 1)) b).1 b) (s &&& lsm (gmk c s (frm c n m w l (L - 1)) b).1 b)) (nI (L - 1)) = some 0 := e4
        have gs : gmk c s (frm c n m w l (L - 1)) (b + 1) = gmk c s (frm c n m w l (L - 1)) b := gmk_f (fun z => by rw [z2] at z; exact absurd z.2 (by decide))
        rw [gs]
        refine ⟨u, ⟨q1, q2⟩, ?_⟩
        skip
        rw [X7_generalized_10, X7_generalized_10b, if_neg hc, e1, nm, fa_and, e2, bd, ei, if_pos z1, e3, e4', bd, if_pos rfl, nm, nI_1]
      · rw [z2] at e4
        have e4' : X7_isBlocked N u (cu c (lsm (gmk c s (frm c n m w l (L - 1)) b).1 b) (s &&& lsm (gmk c s (frm c n m w l (L - 1)) b).1 b)) (nI (L - 1)) = some 1 := e4
        have gs := gmk_t z1 z2
        rw [gs]
        refine ⟨si u 15 (u.1 15 + 1), ⟨q1.i (by decide), by rw [si_s, q2, ad1]⟩, ?_⟩
        dsimp only
        rw [X7_generalized_10, X7_generalized_10b, if_neg hc, e1, nm, fa_and, e2, bd, ei, if_pos z1, e3, e4', bd, if_neg (by decide), nm, nm, nI_1]
    · have gs : gmk c s (frm c n m w l (L - 1)) (b + 1) = gmk c s (frm c n m w l (L - 1)) b := gmk_f (fun z => z1 z.1)
      rw [gs]
      refine ⟨u, ⟨q1, q2⟩, ?_⟩
      skip
      rw [X7_generalized_10, X7_generalized_10b, if_neg hc, e1, nm, fa_and, e2, bd, ei, if_neg z1, nm, nI_1]
  · rintro f u ⟨q1, q2⟩
    have hu := h.fr q1 (by decide)
    have hc : u.1 1 ≤ nI c.1 := by rw [hu.2.1, nI_leI (by omega) (by omega)]; omega
    refine ⟨u, ?_, q1, q2⟩
    skip
    rw [X7_generalized_10, X7_generalized_10b, if_pos hc]
    rfl
theorem X4_generalize_ok (hN : 4000000 ≤ N) (h : CS c σ) {g : Int64} (hL1 : 1 ≤ L) (hL : L < 70) (hf : σ.2.2.2 5 (L - 1) = g) (hs : s < 64) : ∃ σ', X4_generalize N (nI s) (nI L) σ = some (nI (gmk c s g c.1).1, σ') ∧ FR [19] [] [] [] σ σ' ∧ σ'.1 19 = σ.1 19 + nI (gmk c s g c.1).2 := by
  have h64 := ns_le h.1
  have h6 := h.1.2.1
  have e0 : X4_generalize N (nI s) (nI L) σ = X4_generalize_13 N (fun v3 σ => X4_generalize_102 v3 σ) (nI s) (nI L) N (nI (gmk c s g 0).1) (nI 0) σ := by
    rw [X4_generalize, nm, h.2.2.2.1]
    show X4_generalize_13 N _ _ _ N (nI (ns c) - nI 1) _ _ = _
    rw [pk_sub (by omega)]
    rfl
  rw [e0]
  refine wf (fun f b u => X4_generalize_13 N (fun v3 σ => X4_generalize_102 v3 σ) (nI s) (nI L) f (nI (gmk c s g b).1) (nI b) u) c.1 (fun b u => FR [19] [] [] [] σ u ∧ u.1 19 = σ.1 19 + nI (gmk c s g b).2) (fun r => ∃ σ', r = some (nI (gmk c s g c.1).1, σ') ∧ FR [19] [] [] [] σ σ' ∧ σ'.1 19 = σ.1 19 + nI (gmk c s g c.1).2) ?_ ?_ N 0 σ (by omega) ⟨FR.rf, by show _ = σ.1 19 + 0; rw [Int32.add_zero]⟩ (by omega)
  · rintro f b u hb ⟨q1, q2⟩
    have hu := h.fr q1 (by decide)
    have g64 := gmk_64 (s := s) h.1 (f := g) b
    have gns := gmk_ns (s := s) h.1 (f := g) b
    have hc : ¬ u.1 5 ≤ nI b := by rw [hu.2.1, nI_leI (by omega) (by omega)]; omega
    have e1 := lsm_k _ g64 b (by omega)
    have l64 : lsm (gmk c s g b).1 b < 64 := Nat.lt_of_le_of_lt (lsm_le _ _) g64
    have lns : lsm (gmk c s g b).1 b < ns c := Nat.lt_of_le_of_lt (lsm_le _ _) gns
    have e2 := X0_statesInCube_ok hN hu l64 hs
    have e3 : nI L - 1 = nI (L - 1) := pk_sub hL1
    have e4 := X4_isBlocked_ok hN hu (L := L - 1) (f := g) (by omega) (by rw [q1.2.2.2 5 (by decide)]; exact hf) lns hs
    have ei := X0_initial_ok hu
    right
    by_cases z1 : cu c (lsm (gmk c s g b).1 b) (s &&& lsm (gmk c s g b).1 b) &&& c.2.2.2.1 = 0
    · cases z2 : bkB c (cu c (lsm (gmk c s g b).1 b) (s &&& lsm (gmk c s g b).1 b)) g
      · rw [z2] at e4
        have e4' : X4_isBlocked N u (nI (lsm (gmk c s g b).1 b)) (nI s) (nI (L - 1)) = some 0 := e4
        have gs : gmk c s g (b + 1) = gmk c s g b := gmk_f (fun z => by rw [z2] at z; exact absurd z.2 (by decide))
        rw [gs]
        refine ⟨u, ⟨q1, q2⟩, ?_⟩
        skip
        rw [X4_generalize_13, X4_generalize_13b, if_neg hc, e1, nm, e2, bd, ei, bd, if_pos z1, X4_generalize_63, if_neg (by decide), e3, e4', bd, if_pos rfl, nm, nI_1]
      · rw [z2] at e4
        have e4' : X4_isBlocked N u (nI (lsm (gmk c s g b).1 b)) (nI s) (nI (L - 1)) = some 1 := e4
        have gs := gmk_t z1 z2
        rw [gs]
        refine ⟨si u 19 (u.1 19 + 1), ⟨q1.i (by decide), by rw [si_s, q2, ad1]⟩, ?_⟩
        dsimp only
        rw [X4_generalize_13, X4_generalize_13b, if_neg hc, e1, nm, e2, bd, ei, bd, if_pos z1, X4_generalize_63, if_neg (by decide), e3, e4', bd, if_neg (by decide), nm, nm, nI_1]
    · have gs : gmk c s g (b + 1) = gmk c s g b := gmk_f (fun z => z1 z.1)
      rw [gs]
      refine ⟨u, ⟨q1, q2⟩, ?_⟩
      skip
      rw [X4_generalize_13, X4_generalize_13b, if_neg hc, e1, nm, e2, bd, ei, bd, if_neg z1, X4_generalize_63, if_pos rfl, nm, nI_1]
  · rintro f u ⟨q1, q2⟩
    have hu := h.fr q1 (by decide)
    have hc : u.1 5 ≤ nI c.1 := by rw [hu.2.1, nI_leI (by omega) (by omega)]; omega
    refine ⟨u, ?_, q1, q2⟩
    skip
    rw [X4_generalize_13, X4_generalize_13b, if_pos hc]
    rfl
theorem tol_ok (hL : L ≤ k) : L ≤ tol c n m w l x k L ∧ tol c n m w l x k L ≤ k ∧ (∀ t, L ≤ t → t < tol c n m w l x k L → bkB c x (frm c n m w l t) = true) ∧ (tol c n m w l x k L < k → bkB c x (frm c n m w l (tol c n m w l x k L)) = false) := by
  obtain ⟨a1, a2, a3, a4⟩ := lst_ok (fun t => !bkB c x (frm c n m w l t)) (k - L) L
  refine ⟨a1, by unfold tol; omega, fun t h1 h2 => ?_, fun h1 => ?_⟩
  · have := a3 t h1 h2
    revert this
    cases bkB c x (frm c n m w l t) <;> simp
  · have := a4 (by unfold tol at h1; omega)
    unfold tol
    revert this
    cases bkB c x (frm c n m w l (lst (fun t => !bkB c x (frm c n m w l t)) L (k - L))) <;> simp
theorem X7_lvl_ok (hN : 4000000 ≤ N) (h : CM c τ) (hl : CLm c n m w l τ) (hn : n ≤ 1000) (h12 : τ.1 12 = nI n) (h11 : τ.1 11 = nI k) (hk : k ≤ 67) (hL : L ≤ k) (v1 v3 : Int32) : X7_addCube_20 N (fun v1 v3 v4 v6 σ => X7_addCube_46 N v1 v3 v4 v6 σ) v1 v3 x N (nI L) τ = X7_addCube_46 N v1 v3 x (nI (tol c n m w l x k L)) τ := by
  obtain ⟨a1, a2, a3, a4⟩ := tol_ok (c := c) (n := n) (m := m) (w := w) (l := l) (x := x) hL
  refine wf (fun f i (_ : Unit) => X7_addCube_20 N (fun v1 v3 v4 v6 σ => X7_addCube_46 N v1 v3 v4 v6 σ) v1 v3 x f (nI i) τ) (tol c n m w l x k L) (fun i _ => L ≤ i) (fun r => r = X7_addCube_46 N v1 v3 x (nI (tol c n m w l x k L)) τ) ?_ ?_ N L () a1 (Nat.le_refl _) (by omega)
  · rintro f i u hi hLi
    refine Or.inr ⟨(), by omega, ?_⟩
    show X7_addCube_20 N _ _ _ _ (f + 1) _ _ = X7_addCube_20 N _ _ _ _ f _ _
    have e := X7_isBlocked_ok hN h hl hn h12 (x := x) (L := i) (by omega)
    rw [a3 i hLi hi] at e
    simp (disch := omega) only [X7_addCube_20, X7_addCube_20b, h11, e, fa_lit, nI_leI, nI_ltI, nI_eq, nI_add, pk_mul, nI_clamp, bd, nm, gd_in, gd_bI, gd_b0, gd_b1, if_pos, if_neg, bI_n0, bI_n1, reduceIte, reduceCtorEq, Nat.add_zero]
  · rintro f u hLi
    show X7_addCube_20 N _ _ _ _ (f + 1) _ _ = _
    rcases Nat.lt_or_ge (tol c n m w l x k L) k with z | z
    · have e := X7_isBlocked_ok hN h hl hn h12 (x := x) (L := tol c n m w l x k L) (by omega)
      rw [a4 z] at e
      simp (disch := omega) only [X7_addCube_20, X7_addCube_20b, h11, e, fa_lit, nI_leI, nI_ltI, nI_eq, nI_add, pk_mul, nI_clamp, bd, nm, gd_in, gd_bI, gd_b0, gd_b1, if_pos, if_neg, bI_n0, bI_n1, reduceIte, reduceCtorEq, Nat.add_zero]
    · simp (disch := omega) only [X7_addCube_20, X7_addCube_20b, h11, fa_lit, nI_leI, nI_ltI, nI_eq, nI_add, pk_mul, nI_clamp, bd, nm, gd_in, gd_bI, gd_b0, gd_b1, if_pos, if_neg, bI_n0, bI_n1, reduceIte, reduceCtorEq, Nat.add_zero]
theorem X4_lvl_ok (hN : 4000000 ≤ N) (h : CS c σ) (hf : ∀ L, L ≤ k → σ.2.2.2 5 L = frm c n m w l L) (h16 : σ.1 16 = nI k) (hk : k ≤ 67) (hL : L ≤ k) (hM : M < ns c) (hs : s < 64) : X4_addCube_6 N (fun v1 v2 v4 σ => X4_addCube_42 N v1 v2 v4 σ) (nI M) (nI s) N (nI L) 0 σ = X4_addCube_42 N (nI M) (nI s) (nI (tol c n m w l (cu c M (s &&& M)) k L)) σ := by
  obtain ⟨a1, a2, a3, a4⟩ := tol_ok (c := c) (n := n) (m := m) (w := w) (l := l) (x := cu c M (s &&& M)) hL
  have e0 : (0 : Int32) = nI (L - L) := by rw [Nat.sub_self]; rfl
  rw [e0]
  refine wf (fun f i (_ : Unit) => X4_addCube_6 N (fun v1 v2 v4 σ => X4_addCube_42 N v1 v2 v4 σ) (nI M) (nI s) f (nI i) (nI (i - L)) σ) (tol c n m w l (cu c M (s &&& M)) k L) (fun i _ => L ≤ i) (fun r => r = X4_addCube_42 N (nI M) (nI s) (nI (tol c n m w l (cu c M (s &&& M)) k L)) σ) ?_ ?_ N L () a1 (Nat.le_refl _) (by omega)
  · rintro f i u hi hLi
    refine Or.inr ⟨(), by omega, ?_⟩
    show X4_addCube_6 N _ _ _ (f + 1) _ _ _ = X4_addCube_6 N _ _ _ f _ _ _
    have e := X4_isBlocked_ok hN h (L := i) (by omega) (hf i (by omega)) hM hs
    rw [a3 i hLi hi] at e
    rw [show i + 1 - L = i - L + 1 by omega]
    simp (disch := omega) only [X4_addCube_6, X4_addCube_6b, h16, e, fa_lit, nI_leI, nI_ltI, nI_eq, nI_add, pk_mul, nI_clamp, bd, nm, gd_in, gd_bI, gd_b0, gd_b1, if_pos, if_neg, bI_n0, bI_n1, reduceIte, reduceCtorEq, Nat.add_zero]
  · rintro f u hLi
    show X4_addCube_6 N _ _ _ (f + 1) _ _ _ = _
    rcases Nat.lt_or_ge (tol c n m w l (cu c M (s &&& M)) k L) k with z | z
    · have e := X4_isBlocked_ok hN h (L := tol c n m w l (cu c M (s &&& M)) k L) (by omega) (hf _ (by omega)) hM hs
      rw [a4 z] at e
      simp (disch := omega) only [X4_addCube_6, X4_addCube_6b, h16, e, fa_lit, nI_leI, nI_ltI, nI_eq, nI_add, pk_mul, nI_clamp, bd, nm, gd_in, gd_bI, gd_b0, gd_b1, if_pos, if_neg, bI_n0, bI_n1, reduceIte, reduceCtorEq, Nat.add_zero]
    · simp (disch := omega) only [X4_addCube_6, X4_addCube_6b, h16, fa_lit, nI_leI, nI_ltI, nI_eq, nI_add, pk_mul, nI_clamp, bd, nm, gd_in, gd_bI, gd_b0, gd_b1, if_pos, if_neg, bI_n0, bI_n1, reduceIte, reduceCtorEq, Nat.add_zero]
def kpB (c : Ck) (m w l : Nat → Nat) (t : Nat) (x : Int64) (i : Nat) : Bool := !(decide (l i ≤ t) && decide (cu c (m i) (w i) &&& (x ^^^ (-1)) = 0))
theorem kpB_f {t i : Nat} (h : kpB c m w l t x i = false) : l i ≤ t ∧ cu c (m i) (w i) &&& (x ^^^ (-1)) = 0 := by
  unfold kpB at h
  rw [Bool.not_eq_false', Bool.and_eq_true, decide_eq_true_eq, decide_eq_true_eq] at h
  exact h
theorem kpB_t {t i : Nat} (h : kpB c m w l t x i = true) : t < l i ∨ (l i ≤ t ∧ ¬ cu c (m i) (w i) &&& (x ^^^ (-1)) = 0) := by
  unfold kpB at h
  rw [Bool.not_eq_true', Bool.and_eq_false_iff, decide_eq_false_iff_not, decide_eq_false_iff_not] at h
  rcases Nat.lt_or_ge t (l i) with z | z
  · exact Or.inl z
  · exact Or.inr ⟨z, h.resolve_left (by omega)⟩
theorem kpB_iff {t i : Nat} : kpB c m w l t x i = false ↔ l i ≤ t ∧ sbs (cu c (m i) (w i)) x := by
  unfold kpB
  rw [Bool.not_eq_false', Bool.and_eq_true, decide_eq_true_eq, decide_eq_true_eq, an_z]
  refine and_congr Iff.rfl ⟨fun h j hj => ?_, fun h j hj => ?_⟩
  · have := h j hj
    rw [h_not _ (h_lt hj)] at this
    revert this
    cases ht x j <;> simp
  · rw [h_not _ (h_lt hj), h j hj]; rfl
theorem X7_dropCubes_ok (hN : 4000000 ≤ N) (h : CM c τ) (hl : CLm c n m w l τ) (hn : n ≤ 1000) (h12 : τ.1 12 = nI n) {t : Nat} (ht' : t ≤ 1000) : ∃ τ', X7_dropCubes N x (nI t) τ = some τ' ∧ FR [12] [] [6, 7, 8] [] τ τ' ∧ τ'.1 12 = nI (dri (kpB c m w l t x) n).1 ∧ ∀ j, j < (dri (kpB c m w l t x) n).1 → τ'.2.2.1 6 j = nI (m ((dri (kpB c m w l t x) n).2 j)) ∧ τ'.2.2.1 7 j = nI (w ((dri (kpB c m w l t x) n).2 j)) ∧ τ'.2.2.1 8 j = nI (l ((dri (kpB c m w l t x) n).2 j)) := by
  unfold X7_dropCubes
  refine wf (fun f i (a : Int32 × St) => X7_dropCubes_6 N (fun v4 σ => X7_dropCubes_106 v4 σ) x (nI t) f a.1 (nI i) a.2) n (fun i a => a.1 = nI (dri (kpB c m w l t x) i).1 ∧ FR [] [] [6, 7, 8] [] τ a.2 ∧ (∀ j, j < (dri (kpB c m w l t x) i).1 → a.2.2.2.1 6 j = nI (m ((dri (kpB c m w l t x) i).2 j)) ∧ a.2.2.2.1 7 j = nI (w ((dri (kpB c m w l t x) i).2 j)) ∧ a.2.2.2.1 8 j = nI (l ((dri (kpB c m w l t x) i).2 j))) ∧ ∀ j, i ≤ j → a.2.2.2.1 6 j = τ.2.2.1 6 j ∧ a.2.2.2.1 7 j = τ.2.2.1 7 j ∧ a.2.2.2.1 8 j = τ.2.2.1 8 j) (fun r => ∃ τ', r = some τ' ∧ FR [12] [] [6, 7, 8] [] τ τ' ∧ τ'.1 12 = nI (dri (kpB c m w l t x) n).1 ∧ ∀ j, j < (dri (kpB c m w l t x) n).1 → τ'.2.2.1 6 j = nI (m ((dri (kpB c m w l t x) n).2 j)) ∧ τ'.2.2.1 7 j = nI (w ((dri (kpB c m w l t x) n).2 j)) ∧ τ'.2.2.1 8 j = nI (l ((dri (kpB c m w l t x) n).2 j))) ?_ ?_ N 0 (0, τ) (by omega) ⟨rfl, FR.rf, fun j hj => absurd hj (Nat.not_lt_zero _), fun j _ => ⟨rfl, rfl, rfl⟩⟩ (by omega)
  · rintro f i ⟨a, u⟩ hi ⟨q1, q2, q3, q4⟩
    dsimp only at q1 q2 q3 q4 ⊢
    subst q1
    have hu := h.fr q2 (by decide)
    have u12 : u.1 12 = nI n := (q2.1 12 (by decide)).trans h12
    obtain ⟨⟨_, b2, _, b4⟩, b6, b7, b8⟩ := hl i hi
    have e6 : u.2.2.1 6 i = nI (m i) := (q4 i (Nat.le_refl _)).1.trans b6
    have e7 : u.2.2.1 7 i = nI (w i) := (q4 i (Nat.le_refl _)).2.1.trans b7
    have e8 : u.2.2.1 8 i = nI (l i) := (q4 i (Nat.le_refl _)).2.2.trans b8
    have ca : X7_cubeAt N u (nI i) = some (cu c (m i) (w i)) := by simp (disch := omega) only [X7_cubeAt, e6, e7, X7_cubeSet_ok hN hu b2, fa_lit, nI_leI, nI_ltI, nI_eq, nI_add, pk_mul, nI_clamp, bd, nm, gd_in, gd_bI, gd_b0, gd_b1, if_pos, if_neg, bI_n0, bI_n1, reduceIte, reduceCtorEq, Nat.add_zero]
    have hq := (dri_ok (kpB c m w l t x) i).1
    right
    cases e : kpB c m w l t x i
    · obtain ⟨z1, z2⟩ := kpB_f e
      rw [dri_f e]
      refine ⟨(nI (dri (kpB c m w l t x) i).1, u), ⟨rfl, q2, q3, fun j hj => q4 j (by omega)⟩, ?_⟩
      show X7_dropCubes_6 N _ _ _ (f + 1) _ _ _ = X7_dropCubes_6 N _ _ _ f _ _ _
      simp (disch := omega) only [X7_dropCubes_6, X7_dropCubes_6b, u12, e8, ca, z2, X7_dropCubes_48, fa_lit, nI_leI, nI_ltI, nI_eq, nI_add, pk_mul, nI_clamp, bd, nm, gd_in, gd_bI, gd_b0, gd_b1, if_pos, if_neg, bI_n0, bI_n1, reduceIte, reduceCtorEq, Nat.add_zero]
    · rw [dri_t e]
      generalize dri (kpB c m w l t x) i = d at q3 hq
      refine ⟨(nI (d.1 + 1), sa (sa (sa u 6 d.1 (nI (m i))) 7 d.1 (nI (w i))) 8 d.1 (nI (l i))), ⟨rfl, ((q2.a (by decide)).a (by decide)).a (by decide), fun j hj => ?_, fun j hj => ?_⟩, ?_⟩
      · dsimp only at hj ⊢
        rw [sa_n (by decide), sa_n (by decide), sa_s, sa_n (k := 8) (q := 7) (by decide), sa_s, sa_n (k := 6) (q := 7) (by decide), sa_s, sa_n (k := 7) (q := 8) (by decide), sa_n (k := 6) (q := 8) (by decide)]
        by_cases y : j = d.1
        · rw [if_pos y, y, u_s, u_s, u_s]; exact ⟨rfl, rfl, rfl⟩
        · rw [if_neg y, u_n y, u_n y, u_n y]; exact q3 j (by omega)
      · dsimp only at hj ⊢
        rw [sa_n (by decide), sa_n (by decide), sa_s, sa_n (k := 8) (q := 7) (by decide), sa_s, sa_n (k := 6) (q := 7) (by decide), sa_s, sa_n (k := 7) (q := 8) (by decide), sa_n (k := 6) (q := 8) (by decide)]
        rw [u_n (by omega), u_n (by omega), u_n (by omega)]
        exact q4 j (by omega)
      · show X7_dropCubes_6 N _ _ _ (f + 1) _ _ _ = X7_dropCubes_6 N _ _ _ f _ _ _
        rcases kpB_t e with z | ⟨z1, z2⟩
        · simp (disch := omega) only [X7_dropCubes_6, X7_dropCubes_6b, u12, e8, X7_dropCubes_48, sa_n, e6, e7, fa_lit, nI_leI, nI_ltI, nI_eq, nI_add, pk_mul, nI_clamp, bd, nm, gd_in, gd_bI, gd_b0, gd_b1, if_pos, if_neg, bI_n0, bI_n1, reduceIte, reduceCtorEq, Nat.add_zero]
        · simp (disch := omega) only [X7_dropCubes_6, X7_dropCubes_6b, u12, e8, ca, z2, X7_dropCubes_48, sa_n, e6, e7, fa_lit, nI_leI, nI_ltI, nI_eq, nI_add, pk_mul, nI_clamp, bd, nm, gd_in, gd_bI, gd_b0, gd_b1, if_pos, if_neg, bI_n0, bI_n1, reduceIte, reduceCtorEq, Nat.add_zero]
  · rintro f ⟨a, u⟩ ⟨q1, q2, q3, q4⟩
    dsimp only at q1 q2 q3 q4 ⊢
    subst q1
    have u12 : u.1 12 = nI n := (q2.1 12 (by decide)).trans h12
    have q2' : FR [12] [] [6, 7, 8] [] τ u := q2.mo (by decide)
    refine ⟨si u 12 (nI (dri (kpB c m w l t x) n).1), ?_, q2'.i (by decide), si_s, q3⟩
    simp (disch := omega) only [X7_dropCubes_6, X7_dropCubes_6b, u12, X7_dropCubes_106, fa_lit, nI_leI, nI_ltI, nI_eq, nI_add, pk_mul, nI_clamp, bd, nm, gd_in, gd_bI, gd_b0, gd_b1, if_pos, if_neg, bI_n0, bI_n1, reduceIte, reduceCtorEq, Nat.add_zero]
theorem X1_removeCovered_ok (hN : 4000000 ≤ N) (hl : CLs c n m w l σ) (hn : n ≤ 729) (h23 : σ.1 23 = nI n) {t : Nat} (ht' : t ≤ 1000) : ∃ σ', X1_removeCovered N x (nI t) σ = some σ' ∧ FR [23] [] [9, 10, 11] [9] σ σ' ∧ σ'.1 23 = nI (dri (kpB c m w l t x) n).1 ∧ ∀ j, j < (dri (kpB c m w l t x) n).1 → σ'.2.2.1 9 j = nI (m ((dri (kpB c m w l t x) n).2 j)) ∧ σ'.2.2.1 10 j = nI (w ((dri (kpB c m w l t x) n).2 j)) ∧ σ'.2.2.1 11 j = nI (l ((dri (kpB c m w l t x) n).2 j)) ∧ σ'.2.2.2 9 j = cu c (m ((dri (kpB c m w l t x) n).2 j)) (w ((dri (kpB c m w l t x) n).2 j)) := by
  unfold X1_removeCovered
  refine wf (fun f i (a : Int32 × St) => X1_removeCovered_6 (fun v4 σ => X1_removeCovered_136 v4 σ) x (nI t) f a.1 (nI i) a.2) n (fun i a => a.1 = nI (dri (kpB c m w l t x) i).1 ∧ FR [] [] [9, 10, 11] [9] σ a.2 ∧ (∀ j, j < (dri (kpB c m w l t x) i).1 → a.2.2.2.1 9 j = nI (m ((dri (kpB c m w l t x) i).2 j)) ∧ a.2.2.2.1 10 j = nI (w ((dri (kpB c m w l t x) i).2 j)) ∧ a.2.2.2.1 11 j = nI (l ((dri (kpB c m w l t x) i).2 j)) ∧ a.2.2.2.2 9 j = cu c (m ((dri (kpB c m w l t x) i).2 j)) (w ((dri (kpB c m w l t x) i).2 j))) ∧ ∀ j, i ≤ j → a.2.2.2.1 9 j = σ.2.2.1 9 j ∧ a.2.2.2.1 10 j = σ.2.2.1 10 j ∧ a.2.2.2.1 11 j = σ.2.2.1 11 j ∧ a.2.2.2.2 9 j = σ.2.2.2 9 j) (fun r => ∃ σ', r = some σ' ∧ FR [23] [] [9, 10, 11] [9] σ σ' ∧ σ'.1 23 = nI (dri (kpB c m w l t x) n).1 ∧ ∀ j, j < (dri (kpB c m w l t x) n).1 → σ'.2.2.1 9 j = nI (m ((dri (kpB c m w l t x) n).2 j)) ∧ σ'.2.2.1 10 j = nI (w ((dri (kpB c m w l t x) n).2 j)) ∧ σ'.2.2.1 11 j = nI (l ((dri (kpB c m w l t x) n).2 j)) ∧ σ'.2.2.2 9 j = cu c (m ((dri (kpB c m w l t x) n).2 j)) (w ((dri (kpB c m w l t x) n).2 j))) ?_ ?_ N 0 (0, σ) (by omega) ⟨rfl, FR.rf, fun j hj => absurd hj (Nat.not_lt_zero _), fun j _ => ⟨rfl, rfl, rfl, rfl⟩⟩ (by omega)
  · rintro f i ⟨a, u⟩ hi ⟨q1, q2, q3, q4⟩
    dsimp only at q1 q2 q3 q4 ⊢
    subst q1
    have u23 : u.1 23 = nI n := (q2.1 23 (by decide)).trans h23
    obtain ⟨⟨_, b2, _, b4⟩, b6, b7, b8, b9⟩ := hl i hi
    have e6 : u.2.2.1 9 i = nI (m i) := (q4 i (Nat.le_refl _)).1.trans b6
    have e7 : u.2.2.1 10 i = nI (w i) := (q4 i (Nat.le_refl _)).2.1.trans b7
    have e8 : u.2.2.1 11 i = nI (l i) := (q4 i (Nat.le_refl _)).2.2.1.trans b8
    have e9 : u.2.2.2 9 i = cu c (m i) (w i) := (q4 i (Nat.le_refl _)).2.2.2.trans b9
    have hq := (dri_ok (kpB c m w l t x) i).1
    right
    cases e : kpB c m w l t x i
    · obtain ⟨z1, z2⟩ := kpB_f e
      rw [dri_f e]
      refine ⟨(nI (dri (kpB c m w l t x) i).1, u), ⟨rfl, q2, q3, fun j hj => q4 j (by omega)⟩, ?_⟩
      show X1_removeCovered_6 _ _ _ (f + 1) _ _ _ = X1_removeCovered_6 _ _ _ f _ _ _
      simp (disch := omega) only [X1_removeCovered_6, X1_removeCovered_6b, u23, e8, e9, z2, X1_removeCovered_57, fa_lit, nI_leI, nI_ltI, nI_eq, nI_add, pk_mul, nI_clamp, bd, nm, gd_in, gd_bI, gd_b0, gd_b1, if_pos, if_neg, bI_n0, bI_n1, reduceIte, reduceCtorEq, Nat.add_zero]
    · rw [dri_t e]
      generalize dri (kpB c m w l t x) i = d at q3 hq
      refine ⟨(nI (d.1 + 1), sb (sa (sa (sa u 9 d.1 (nI (m i))) 10 d.1 (nI (w i))) 11 d.1 (nI (l i))) 9 d.1 (cu c (m i) (w i))), ⟨rfl, (((q2.a (by decide)).a (by decide)).a (by decide)).b (by decide), fun j hj => ?_, fun j hj => ?_⟩, ?_⟩
      · dsimp only at hj ⊢
        rw [sb_a, sb_s, sa_b, sa_b, sa_b, sa_n (k := 11) (q := 9) (by decide), sa_n (k := 10) (q := 9) (by decide), sa_s, sa_n (k := 11) (q := 10) (by decide), sa_s, sa_n (k := 9) (q := 10) (by decide), sa_s, sa_n (k := 10) (q := 11) (by decide), sa_n (k := 9) (q := 11) (by decide)]
        by_cases y : j = d.1
        · rw [if_pos y, y, u_s, u_s, u_s, v_s]; exact ⟨rfl, rfl, rfl, rfl⟩
        · rw [if_neg y, u_n y, u_n y, u_n y, v_n y]; exact q3 j (by omega)
      · dsimp only at hj ⊢
        rw [sb_a, sb_s, sa_b, sa_b, sa_b, sa_n (k := 11) (q := 9) (by decide), sa_n (k := 10) (q := 9) (by decide), sa_s, sa_n (k := 11) (q := 10) (by decide), sa_s, sa_n (k := 9) (q := 10) (by decide), sa_s, sa_n (k := 10) (q := 11) (by decide), sa_n (k := 9) (q := 11) (by decide)]
        rw [u_n (by omega), u_n (by omega), u_n (by omega), v_n (by omega)]
        exact q4 j (by omega)
      · show X1_removeCovered_6 _ _ _ (f + 1) _ _ _ = X1_removeCovered_6 _ _ _ f _ _ _
        rcases kpB_t e with z | ⟨z1, z2⟩
        · simp (disch := omega) only [X1_removeCovered_6, X1_removeCovered_6b, u23, e8, X1_removeCovered_57, sa_n, sa_b, e6, e7, e9, fa_lit, nI_leI, nI_ltI, nI_eq, nI_add, pk_mul, nI_clamp, bd, nm, gd_in, gd_bI, gd_b0, gd_b1, if_pos, if_neg, bI_n0, bI_n1, reduceIte, reduceCtorEq, Nat.add_zero]
        · simp (disch := omega) only [X1_removeCovered_6, X1_removeCovered_6b, u23, e8, e9, z2, X1_removeCovered_57, sa_n, sa_b, e6, e7, fa_lit, nI_leI, nI_ltI, nI_eq, nI_add, pk_mul, nI_clamp, bd, nm, gd_in, gd_bI, gd_b0, gd_b1, if_pos, if_neg, bI_n0, bI_n1, reduceIte, reduceCtorEq, Nat.add_zero]
  · rintro f ⟨a, u⟩ ⟨q1, q2, q3, q4⟩
    dsimp only at q1 q2 q3 q4 ⊢
    subst q1
    have u23 : u.1 23 = nI n := (q2.1 23 (by decide)).trans h23
    have q2' : FR [23] [] [9, 10, 11] [9] σ u := q2.mo (by decide)
    refine ⟨si u 23 (nI (dri (kpB c m w l t x) n).1), ?_, q2'.i (by decide), si_s, q3⟩
    simp (disch := omega) only [X1_removeCovered_6, X1_removeCovered_6b, u23, X1_removeCovered_136, fa_lit, nI_leI, nI_ltI, nI_eq, nI_add, pk_mul, nI_clamp, bd, nm, gd_in, gd_bI, gd_b0, gd_b1, if_pos, if_neg, bI_n0, bI_n1, reduceIte, reduceCtorEq, Nat.add_zero]
end PDR2
