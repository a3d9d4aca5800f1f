/-! c0: elimination of clauses -/
def cx (c : Ck) (x : Nat) : Int64 := cu c (x / 64) (x % 64)
def vld (W x : Nat) : Bool := decide (1 ≤ onz (x / 64)) && decide (onz (x / 64) ≤ W) && decide ((x % 64) &&& (x / 64) = x % 64)
def oS (c : Ck) (Q : Nat → Bool) (n : Nat) : Int64 := mk64 (fun s => decide (s < ns c) && !ax (fun x => Q x && ht (cx c x) s) n)
theorem sbm_k : ∀ v, v < 64 → ∀ m, m < 64 → decide (v &&& (63 ^^^ m) = 0) = decide (v &&& m = v) := by decide +kernel
theorem cnt729 : cnt (fun t => decide (1 ≤ onz (b3 dg1 t)) && decide (onz (b3 dg1 t) ≤ 3)) 729 ≤ 232 := by decide +kernel
def CRl (c : Ck) (Q : Nat → Bool) (n : Nat) (ix : Nat → Nat) (σ : St) : Prop := n ≤ 232 ∧ σ.1 22 = nI n ∧ (∀ j, j < n → ix j < 64 * ns c ∧ Q (ix j) = true ∧ σ.2.2.2 8 j = cx c (ix j)) ∧ (∀ x, x < 64 * ns c → Q x = true → ∃ j, j < n ∧ ix j = x) ∧ ∀ i j, i < n → j < n → ix i = ix j → i = j
section ELIM
variable {c : Ck} {σ τ : St} {N W n : Nat} {Q g : Nat → Bool} {ix : Nat → Nat}
theorem cl232 (h : okC c) (hW : W ≤ 3) (h1 : ∀ j, j < n → ix j < 64 * ns c ∧ vld W (ix j) = true) (h2 : ∀ i j, i < n → j < n → ix i = ix j → i = j) : n ≤ 232 := by
  have h64 := ns_le h
  have key : ∀ j, j < n → ix j / 64 < 64 ∧ ix j % 64 < 64 ∧ (ix j % 64) &&& (ix j / 64) = ix j % 64 ∧ 1 ≤ onz (ix j / 64) ∧ onz (ix j / 64) ≤ 3 := fun j hj => by
    obtain ⟨a1, a2⟩ := h1 j hj
    unfold vld at a2
    rw [Bool.and_eq_true, Bool.and_eq_true, decide_eq_true_eq, decide_eq_true_eq, decide_eq_true_eq] at a2
    exact ⟨by omega, by omega, a2.2, a2.1.1, by omega⟩
  have a := pig (f := fun i => trn (ix i / 64) (ix i % 64)) (M := 729) n (fun t => decide (1 ≤ onz (b3 dg1 t)) && decide (onz (b3 dg1 t) ≤ 3)) (fun i hi => by
    obtain ⟨k1, k2, k3, k4, k5⟩ := key i hi
    obtain ⟨t1, t2, t3⟩ := trn_k _ k1 _ k2 k3
    refine ⟨t1, ?_⟩
    rw [t2, decide_eq_true k4, decide_eq_true k5]; rfl) (fun i j hi hj e => by
    obtain ⟨k1, k2, k3, _⟩ := key i hi
    obtain ⟨l1, l2, l3, _⟩ := key j hj
    have x := trn_k _ k1 _ k2 k3
    have y := trn_k _ l1 _ l2 l3
    rw [e] at x
    have z1 := x.2.1.symm.trans y.2.1
    have z2 := x.2.2.symm.trans y.2.2
    exact h2 i j hi hj (by omega))
  have := cnt729
  omega
theorem oS_l (s : Nat) (hs : ht (oS c Q n) s = true) : s < ns c := by
  rw [oS, h_mk' _ (h_lt hs), Bool.and_eq_true, decide_eq_true_eq] at hs
  exact hs.1
theorem oS_cg {Q' : Nat → Bool} (hq : ∀ x, x < n → Q x = Q' x) : oS c Q n = oS c Q' n := mk_ext (fun s _ => by
  rw [ax_congr (fun x hx => by rw [hq x hx])])
theorem oS_0 : oS c Q 0 = al c := mk_ext (fun i _ => by show (_ && !false) = _; rw [Bool.not_false, Bool.and_true]; rfl)
theorem oS_t (hq : Q n = true) : oS c Q (n + 1) = oS c Q n &&& (cx c n ^^^ (-1)) := h_ext (fun i hi => by
  rw [h_and, h_not _ hi, oS, oS, h_mk' _ hi, h_mk' _ hi, ax, hq, Bool.true_and]
  cases ht (cx c n) i <;> cases ax (fun j => Q j && ht (cx c j) i) n <;> cases decide (i < ns c) <;> rfl)
theorem oS_f (hq : Q n = false) : oS c Q (n + 1) = oS c Q n &&& (-1) := h_ext (fun i hi => by
  rw [h_and, h_m1 i hi, oS, oS, h_mk' _ hi, h_mk' _ hi, ax, hq, Bool.false_and, Bool.or_false, Bool.and_true])
/-! the reference -/
theorem X7_isLeft_ok (hN : 4000000 ≤ N) (hg : ∀ x, x < 4096 → τ.2.2.1 12 x = bI (g x)) (hW : W ≤ 3) {x : Nat} (hx : x < 4096) : X7_isLeft N τ (nI (x / 64)) (nI (x % 64)) (nI W) = some (bI (vld W x && !g x)) := by
  have m64 : x / 64 < 64 := by omega
  have v64 : x % 64 < 64 := by omega
  have l1 := onz_6 (x / 64)
  have wi : X7_within (nI (onz (x / 64))) 1 (nI W) = some (bI (decide (1 ≤ onz (x / 64)) && decide (onz (x / 64) ≤ W))) := by
    rw [X7_within]
    rcases Nat.lt_or_ge (onz (x / 64)) 1 with q | q
    · rw [if_pos (show nI (onz (x / 64)) < 1 from nI_lt (b := 1) q (by omega)), decide_eq_false (show ¬ 1 ≤ onz (x / 64) by omega)]; rfl
    · rw [if_neg (show ¬ nI (onz (x / 64)) < 1 from nI_nlt (b := 1) q (by omega)), decide_eq_true q]
      rcases Nat.lt_or_ge W (onz (x / 64)) with q2 | q2
      · rw [if_pos (nI_lt q2 (by omega)), decide_eq_false (show ¬ onz (x / 64) ≤ W by omega)]; rfl
      · rw [if_neg (nI_nlt q2 (by omega)), decide_eq_true q2]; rfl
  have sb' := sbm_k _ v64 _ m64
  rw [X7_isLeft, X7_ones_ok hN m64, bd, wi, bd]
  unfold vld
  cases q1 : (decide (1 ≤ onz (x / 64)) && decide (onz (x / 64) ≤ W))
  · rw [if_pos (show bI false = 0 from rfl)]; rfl
  · rw [if_neg (show ¬ bI true = 0 by decide), lsg_k _ v64 _ m64]
    by_cases q2 : (x % 64) &&& (63 ^^^ (x / 64)) = 0
    · rw [decide_eq_true q2] at sb'
      have ex : (64 : Int32) * nI (x / 64) + nI (x % 64) = nI x := by
        rw [show (64 : Int32) = nI 64 from rfl, pk_mul, nI_add, show 64 * (x / 64) + x % 64 = x by omega]
      rw [if_pos (by rw [q2]; rfl), ex, gd_in hx (by omega), nI_clamp (by omega), hg x hx, ← sb']
      cases g x
      · rw [if_pos (show bI false = 0 from rfl)]; rfl
      · rw [if_neg (show ¬ bI true = 0 by decide)]; rfl
    · rw [decide_eq_false q2] at sb'
      have l2 : (x % 64) &&& (63 ^^^ (x / 64)) ≤ x % 64 := Nat.and_le_left
      rw [if_neg (nI_ne0 (by omega) (by omega)), ← sb']
      rfl
theorem dv64 {x : Nat} (hx : x < 4096) : nI x / 64 = nI (x / 64) ∧ nI x - nI x / 64 * 64 = nI (x % 64) := by
  have a : nI x / nI 64 = nI (x / 64) := pk_div (by omega) (by omega) (by omega)
  have b : nI x - nI x / nI 64 * nI 64 = nI (x % 64) := pk_rem (by omega) (by omega) (by omega)
  exact ⟨a, b⟩
theorem X7_outside_ok (hN : 4000000 ≤ N) (h : CM c τ) (hg : ∀ x, x < 4096 → τ.2.2.1 12 x = bI (g x)) (hW : W ≤ 3) (hQ : ∀ x, x < 64 * ns c → Q x = (vld W x && !g x)) : X7_outside N τ (nI W) = some (oS c Q (64 * ns c)) := by
  have h64 := ns_le h.1
  have e0 : X7_outside N τ (nI W) = X7_outside_8 N (fun v2 => X7_outside_71 τ v2) τ (nI W) N (al c) (nI 0) := by rw [X7_outside, X7_all_ok h]; rfl
  have es : (64 : Int32) * nI (ns c) = nI (64 * ns c) := pk_mul 64 (ns c)
  rw [e0]
  refine wf (fun f x a => X7_outside_8 N (fun v2 => X7_outside_71 τ v2) τ (nI W) f a (nI x)) (64 * ns c) (fun x a => a = oS c Q x) (fun r => r = some (oS c Q (64 * ns c))) ?_ ?_ N 0 _ (by omega) oS_0.symm (by omega)
  · rintro f x a hx rfl
    refine Or.inr ⟨_, rfl, ?_⟩
    have cc : ¬ nI (64 * ns c) ≤ nI x := nI_ge (by omega) (by omega)
    obtain ⟨d1, d2⟩ := dv64 (x := x) (by omega)
    have el := X7_isLeft_ok hN hg hW (x := x) (by omega)
    rw [← hQ x hx] at el
    show X7_outside_8 N _ τ _ (f + 1) _ _ = X7_outside_8 N _ τ _ f _ _
    cases e : Q x
    · rw [e] at el
      rw [oS_f e, X7_outside_8, X7_outside_8b, X7_states_ok h, bd, es, if_neg cc, d2, d1, el, bd, if_pos (show bI false = 0 from rfl), nm, nm, nI_1]
    · rw [e] at el
      have ec := X7_cubeSet_ok hN h (m := x / 64) (w := x % 64) (by omega)
      rw [oS_t e, X7_outside_8, X7_outside_8b, X7_states_ok h, bd, es, if_neg cc, d2, d1, el, bd, if_neg (show ¬ bI true = 0 by decide), ec, bd, nm, nm, nI_1]
      rfl
  · rintro f a rfl
    have cc : nI (64 * ns c) ≤ nI (64 * ns c) := nI_le (Nat.le_refl _) (by omega)
    show X7_outside_8 N _ τ _ (f + 1) _ _ = _
    rw [X7_outside_8, X7_outside_8b, X7_states_ok h, bd, es, if_pos cc]
    rfl
theorem X7_discards_ok (hN : 4000000 ≤ N) (h : CM c τ) (hg : ∀ x, x < 4096 → τ.2.2.1 12 x = bI (g x)) (hW : W ≤ 3) (hQ : ∀ x, x < 64 * ns c → Q x = (vld W x && !g x)) (R : Int64) : ∃ (τ' : St) (g' : Nat → Bool), X7_discards N (nI W) R τ = some (bI (ax (fun x => Q x && !decide (cx c x &&& R = 0)) (64 * ns c)), τ') ∧ FR [] [] [12] [] τ τ' ∧ (∀ x, x < 4096 → τ'.2.2.1 12 x = bI (g' x)) ∧ ∀ x, x < 64 * ns c → (Q x && decide (cx c x &&& R = 0)) = (vld W x && !g' x) := by
  have h64 := ns_le h.1
  have es : (64 : Int32) * nI (ns c) = nI (64 * ns c) := pk_mul 64 (ns c)
  unfold X7_discards
  refine wf (fun f x (u : St × (Nat → Bool)) => X7_discards_6 N (fun v4 σ => X7_discards_114 v4 σ) (nI W) R f (bI (ax (fun x => Q x && !decide (cx c x &&& R = 0)) x)) (nI x) u.1) (64 * ns c) (fun x u => FR [] [] [12] [] τ u.1 ∧ (∀ y, y < 4096 → u.1.2.2.1 12 y = bI (u.2 y)) ∧ (∀ y, y < x → (Q y && decide (cx c y &&& R = 0)) = (vld W y && !u.2 y)) ∧ ∀ y, x ≤ y → u.2 y = g y) (fun r => ∃ (τ' : St) (g' : Nat → Bool), r = some (bI (ax (fun x => Q x && !decide (cx c x &&& R = 0)) (64 * ns c)), τ') ∧ FR [] [] [12] [] τ τ' ∧ (∀ x, x < 4096 → τ'.2.2.1 12 x = bI (g' x)) ∧ ∀ x, x < 64 * ns c → (Q x && decide (cx c x &&& R = 0)) = (vld W x && !g' x)) ?_ ?_ N 0 (τ, g) (by omega) ⟨FR.rf, hg, fun y hy => by omega, fun y _ => rfl⟩ (by omega)
  · rintro f x ⟨u, g1⟩ hx ⟨q1, q2, q3, q4⟩
    dsimp only at q1 q2 q3 q4 ⊢
    right
    have hu := h.fr q1 (by decide)
    have cc : ¬ nI (64 * ns c) ≤ nI x := nI_ge (by omega) (by omega)
    obtain ⟨d1, d2⟩ := dv64 (x := x) (by omega)
    have el := X7_isLeft_ok hN q2 hW (x := x) (by omega)
    have gx := q4 x (Nat.le_refl _)
    rw [gx, ← hQ x hx] at el
    have ux := q2 x (by omega)
    rw [gx] at ux
    have gi : ∀ {β : Type} (y : Option β), gd (inb (nI x) 4096) y = y := fun y => gd_in (by omega) (by omega)
    have ec := X7_cubeSet_ok hN hu (m := x / 64) (w := x % 64) (by omega)
    -- the state behind this turn
    have st : ∀ (k6 : Int32 → Int32 → St → Option (Int32 × St)) (b goes : Bool) (v4 : Int32), v4 = bI b → X7_discards_62 k6 (nI W) R v4 (nI x) (bI goes) u = k6 (bI (b || goes)) (nI (x + 1)) (sa u 12 x (bI (g x || goes))) := fun k6 b goes v4 hv4 => by
      subst hv4
      rw [X7_discards_62, gi, nI_clamp (by omega), ux]
      have r90 : ∀ w : Bool, X7_discards_90 k6 (nI W) R (bI b) (nI x) (bI goes) (bI w) (nI x) u = k6 (bI (b || goes)) (nI (x + 1)) (sa u 12 x (bI w)) := fun w => by
        rw [X7_discards_90, gi, gd_bI, nI_clamp (by omega), nm]
        cases b
        · rw [if_pos (show bI false = 0 from rfl)]
          cases goes
          · rw [if_pos (show bI false = 0 from rfl), nm, nI_1]; rfl
          · rw [if_neg (show ¬ bI true = 0 by decide), nm, nI_1]; rfl
        · rw [if_neg (show ¬ bI true = 0 by decide), nm, nI_1]; rfl
      cases g x
      · rw [if_pos (show bI false = 0 from rfl)]
        cases goes
        · rw [if_pos (show bI false = 0 from rfl)]; exact r90 false
        · rw [if_neg (show ¬ bI true = 0 by decide)]; exact r90 true
      · rw [if_neg (show ¬ bI true = 0 by decide)]; exact r90 true
    have main : ∀ goes : Bool, goes = (Q x && !decide (cx c x &&& R = 0)) → (∀ k6 k114 : Int32 → Int32 → St → Option (Int32 × St), True) → X7_discards_6 N (fun v4 σ => X7_discards_114 v4 σ) (nI W) R (f + 1) (bI (ax (fun x => Q x && !decide (cx c x &&& R = 0)) x)) (nI x) u = X7_discards_6 N (fun v4 σ => X7_discards_114 v4 σ) (nI W) R f (bI (ax (fun x => Q x && !decide (cx c x &&& R = 0)) (x + 1))) (nI (x + 1)) (sa u 12 x (bI (g x || goes))) := fun goes hgo _ => by
      have fin := st (fun v4 v5 σ => X7_discards_6 N (fun v4 σ => X7_discards_114 v4 σ) (nI W) R f v4 v5 σ) (ax (fun x => Q x && !decide (cx c x &&& R = 0)) x) goes _ rfl
      rw [X7_discards_6, X7_discards_6b, X7_states_ok hu, bd, es, if_neg cc, d2, d1, el, bd]
      have ea : ax (fun x => Q x && !decide (cx c x &&& R = 0)) (x + 1) = (ax (fun x => Q x && !decide (cx c x &&& R = 0)) x || goes) := by rw [ax, ← hgo]
      rw [ea]
      cases e : Q x
      · rw [e] at hgo
        have hgo' : goes = false := hgo
        subst hgo'
        rw [if_pos (show bI false = 0 from rfl)]
        exact fin
      · rw [e] at hgo
        rw [if_neg (show ¬ bI true = 0 by decide), ec, bd]
        by_cases z : cx c x &&& R = 0
        · rw [decide_eq_true z] at hgo
          have hgo' : goes = false := hgo
          subst hgo'
          rw [if_pos (show cu c (x / 64) (x % 64) &&& R = 0 from z)]
          exact fin
        · rw [decide_eq_false z] at hgo
          have hgo' : goes = true := hgo
          subst hgo'
          rw [if_neg (show ¬ cu c (x / 64) (x % 64) &&& R = 0 from z)]
          exact fin
    refine ⟨(sa u 12 x (bI (g x || (Q x && !decide (cx c x &&& R = 0)))), updB g1 x (g x || (Q x && !decide (cx c x &&& R = 0)))), ⟨q1.a (by decide), fun y hy => ?_, fun y hy => ?_, fun y hy => ?_⟩, ?_⟩
    · dsimp only
      rw [sa_s]
      exact bI_up q2 rfl y hy
    · dsimp only
      by_cases z : y = x
      · subst z
        rw [updB_s, hQ y hx]
        cases vld W y <;> cases g y <;> cases decide (cx c y &&& R = 0) <;> rfl
      · rw [updB_n z]
        exact q3 y (by omega)
    · dsimp only
      rw [updB_n (by omega)]
      exact q4 y (by omega)
    · exact main _ rfl (fun _ _ => trivial)
  · rintro f ⟨u, g1⟩ ⟨q1, q2, q3, q4⟩
    dsimp only at q1 q2 q3 q4 ⊢
    have hu := h.fr q1 (by decide)
    have cc : nI (64 * ns c) ≤ nI (64 * ns c) := nI_le (Nat.le_refl _) (by omega)
    refine ⟨u, g1, ?_, q1, q2, q3⟩
    rw [X7_discards_6, X7_discards_6b, X7_states_ok hu, bd, es, if_pos cc, X7_discards_114, gd_bI]
/-! the class -/
theorem CRl.fr {σ' : St} {di dj da db : List Nat} (h : CRl c Q n ix σ) (f : FR di dj da db σ σ') (d : 22 ∉ di ∧ 8 ∉ db) : CRl c Q n ix σ' := by
  unfold CRl
  rw [f.1 22 d.1, f.2.2.2 8 d.2]
  exact h
theorem X5_without_ok (hN : 4000000 ≤ N) (h : CS c σ) (hr : CRl c Q n ix σ) : X5_statesWithoutClause N σ = some (oS c Q (64 * ns c)) := by
  have h64 := ns_le h.1
  obtain ⟨r1, r2, r3, r4, r5⟩ := hr
  unfold X5_statesWithoutClause
  refine wf (fun f i a => X5_statesWithoutClause_4 (fun v1 => X5_statesWithoutClause_34 σ v1) σ f a (nI i)) n (fun i a => ∀ s, ht a s = true ↔ ∃ j, j < i ∧ ht (cx c (ix j)) s = true) (fun r => r = some (oS c Q (64 * ns c))) ?_ ?_ N 0 0 (by omega) (fun s => ⟨fun z => (by rw [h_0] at z; cases z), fun ⟨j, j1, _⟩ => by omega⟩) (by omega)
  · rintro f i a hi hI
    have e8 := (r3 i hi).2.2
    refine Or.inr ⟨a ||| cx c (ix i), fun s => ?_, ?_⟩
    · rw [h_or, Bool.or_eq_true, hI s]
      constructor
      · rintro (⟨j, j1, j2⟩ | z)
        · exact ⟨j, by omega, j2⟩
        · exact ⟨i, by omega, z⟩
      · rintro ⟨j, j1, j2⟩
        rcases Nat.lt_or_ge j i with y | y
        · exact Or.inl ⟨j, y, j2⟩
        · have : j = i := by omega
          subst this; exact Or.inr j2
    · show X5_statesWithoutClause_4 _ σ (f + 1) _ _ = X5_statesWithoutClause_4 _ σ f _ _
      simp (disch := omega) only [X5_statesWithoutClause_4, X5_statesWithoutClause_4b, r2, e8, fa_lit, nI_leI, nI_ltI, nI_eq, nI_add, pk_mul, nI_clamp, bd, nm, gd_in, gd_bI, gd_b0, gd_b1, if_pos, if_neg, bI_n0, bI_n1, reduceIte, reduceCtorEq, Nat.add_zero]
  · rintro f a hI
    show X5_statesWithoutClause_4 _ σ (f + 1) _ _ = _
    have ea := h.2.2.2.2.2.1
    have eq : al c &&& (a ^^^ (-1)) = oS c Q (64 * ns c) := by
      apply h_ext
      intro s hs
      rw [h_and, h_not _ hs, h_al h.1, oS, h_mk' _ hs]
      congr 2
      rw [Bool.eq_iff_iff, hI s, ax_t]
      constructor
      · rintro ⟨j, j1, j2⟩
        obtain ⟨x1, x2, _⟩ := r3 j j1
        exact ⟨ix j, x1, by rw [x2, j2]; rfl⟩
      · rintro ⟨x, x1, x2⟩
        rw [Bool.and_eq_true] at x2
        obtain ⟨j, j1, j2⟩ := r4 x x1 x2.1
        exact ⟨j, j1, by rw [j2]; exact x2.2⟩
    simp (disch := omega) only [X5_statesWithoutClause_4, X5_statesWithoutClause_4b, r2, X5_statesWithoutClause_34, ea, eq, fa_lit, nI_leI, nI_ltI, nI_eq, nI_add, pk_mul, nI_clamp, bd, nm, gd_in, gd_bI, gd_b0, gd_b1, if_pos, if_neg, bI_n0, bI_n1, reduceIte, reduceCtorEq, Nat.add_zero]
theorem dri_lt {kp : Nat → Bool} : ∀ i, (dri kp i).1 < i ↔ ∃ j, j < i ∧ kp j = false := by
  intro i
  induction i with
  | zero => exact ⟨fun z => absurd z (Nat.not_lt_zero _), fun ⟨j, j1, _⟩ => by omega⟩
  | succ i ih =>
    have a := (dri_ok kp i).1
    cases e : kp i
    · rw [dri_f e]
      exact ⟨fun _ => ⟨i, by omega, e⟩, fun _ => by omega⟩
    · rw [dri_t e]
      dsimp only
      constructor
      · intro z
        obtain ⟨j, j1, j2⟩ := ih.mp (by omega)
        exact ⟨j, by omega, j2⟩
      · rintro ⟨j, j1, j2⟩
        have : j < i := by
          rcases Nat.lt_or_ge j i with y | y
          · exact y
          · have : j = i := by omega
            subst this; rw [e] at j2; cases j2
        have := ih.mpr ⟨j, this, j2⟩
        omega
theorem X5_discard_ok (hN : 4000000 ≤ N) (hr : CRl c Q n ix σ) (R : Int64) : ∃ (σ' : St) (n' : Nat) (ix' : Nat → Nat), X5_discardClauses N R σ = some (bI (ax (fun x => Q x && !decide (cx c x &&& R = 0)) (64 * ns c)), σ') ∧ FR [22] [] [] [8] σ σ' ∧ CRl c (fun x => Q x && decide (cx c x &&& R = 0)) n' ix' σ' ∧ n' ≤ n ∧ (ax (fun x => Q x && !decide (cx c x &&& R = 0)) (64 * ns c) = true → n' < n) := by
  obtain ⟨r1, r2, r3, r4, r5⟩ := hr
  obtain ⟨d1, d2, d3, d4⟩ := dri_ok (fun j => decide (cx c (ix j) &&& R = 0)) n
  have dl := dri_lt (kp := fun j => decide (cx c (ix j) &&& R = 0)) n
  have fl : ax (fun x => Q x && !decide (cx c x &&& R = 0)) (64 * ns c) = decide ((dri (fun j => decide (cx c (ix j) &&& R = 0)) n).1 < n) := by
    rw [Bool.eq_iff_iff, decide_eq_true_eq, dl, ax_t]
    constructor
    · rintro ⟨x, x1, x2⟩
      rw [Bool.and_eq_true, Bool.not_eq_true'] at x2
      obtain ⟨j, j1, j2⟩ := r4 x x1 x2.1
      exact ⟨j, j1, by rw [j2]; exact x2.2⟩
    · rintro ⟨j, j1, j2⟩
      obtain ⟨x1, x2, _⟩ := r3 j j1
      exact ⟨ix j, x1, by rw [x2, j2]; rfl⟩
  have cr : ∀ (σ' : St), σ'.1 22 = nI (dri (fun j => decide (cx c (ix j) &&& R = 0)) n).1 → (∀ j, j < (dri (fun j => decide (cx c (ix j) &&& R = 0)) n).1 → σ'.2.2.2 8 j = cx c (ix ((dri (fun j => decide (cx c (ix j) &&& R = 0)) n).2 j))) → CRl c (fun x => Q x && decide (cx c x &&& R = 0)) (dri (fun j => decide (cx c (ix j) &&& R = 0)) n).1 (fun j => ix ((dri (fun j => decide (cx c (ix j) &&& R = 0)) n).2 j)) σ' := fun σ' e1 e2 => by
    refine ⟨by omega, e1, fun j hj => ?_, fun x x1 x2 => ?_, fun i j hi hj e => ?_⟩
    · obtain ⟨y1, y2⟩ := d2 j hj
      obtain ⟨z1, z2, z3⟩ := r3 _ y1
      exact ⟨z1, by dsimp only; rw [z2, y2]; rfl, e2 j hj⟩
    · rw [Bool.and_eq_true] at x2
      obtain ⟨j, j1, j2⟩ := r4 x x1 x2.1
      obtain ⟨j', k1, k2⟩ := d4 j j1 (by rw [j2]; exact x2.2)
      exact ⟨j', k1, by dsimp only; rw [k2]; exact j2⟩
    · exact d3 i j hi hj (r5 _ _ (d2 i hi).1 (d2 j hj).1 e)
  suffices hs : ∃ σ' : St, X5_discardClauses N R σ = some (bI (decide ((dri (fun j => decide (cx c (ix j) &&& R = 0)) n).1 < n)), σ') ∧ FR [22] [] [] [8] σ σ' ∧ σ'.1 22 = nI (dri (fun j => decide (cx c (ix j) &&& R = 0)) n).1 ∧ ∀ j, j < (dri (fun j => decide (cx c (ix j) &&& R = 0)) n).1 → σ'.2.2.2 8 j = cx c (ix ((dri (fun j => decide (cx c (ix j) &&& R = 0)) n).2 j)) by
    obtain ⟨σ', s1, s2, s3, s4⟩ := hs
    refine ⟨σ', _, _, by rw [fl]; exact s1, s2, cr σ' s3 s4, d1, fun z => ?_⟩
    rw [fl, decide_eq_true_eq] at z
    exact z
  unfold X5_discardClauses
  refine wf (fun f i (a : Int32 × St) => X5_discardClauses_5 (fun v3 σ => X5_discardClauses_64 v3 σ) R f a.1 (nI i) a.2) n (fun i a => a.1 = nI (dri (fun j => decide (cx c (ix j) &&& R = 0)) i).1 ∧ FR [22] [] [] [8] σ a.2 ∧ a.2.1 22 = nI n ∧ (∀ j, j < (dri (fun j => decide (cx c (ix j) &&& R = 0)) i).1 → a.2.2.2.2 8 j = cx c (ix ((dri (fun j => decide (cx c (ix j) &&& R = 0)) i).2 j))) ∧ ∀ j, i ≤ j → a.2.2.2.2 8 j = σ.2.2.2 8 j) (fun r => ∃ σ' : St, r = some (bI (decide ((dri (fun j => decide (cx c (ix j) &&& R = 0)) n).1 < n)), σ') ∧ FR [22] [] [] [8] σ σ' ∧ σ'.1 22 = nI (dri (fun j => decide (cx c (ix j) &&& R = 0)) n).1 ∧ ∀ j, j < (dri (fun j => decide (cx c (ix j) &&& R = 0)) n).1 → σ'.2.2.2 8 j = cx c (ix ((dri (fun j => decide (cx c (ix j) &&& R = 0)) n).2 j))) ?_ ?_ N 0 (0, σ) (by omega) ⟨rfl, FR.rf, r2, fun j hj => absurd hj (Nat.not_lt_zero _), fun j _ => rfl⟩ (by omega)
  · rintro f i ⟨a, u⟩ hi ⟨q1, q2, q3, q4, q5⟩
    dsimp only at q1 q2 q3 q4 q5 ⊢
    subst q1
    right
    have e8 : u.2.2.2 8 i = cx c (ix i) := (q5 i (Nat.le_refl _)).trans (r3 i hi).2.2
    have hq := (dri_ok (fun j => decide (cx c (ix j) &&& R = 0)) i).1
    by_cases z : cx c (ix i) &&& R = 0
    · rw [dri_t (kp := fun j => decide (cx c (ix j) &&& R = 0)) (decide_eq_true z)]
      generalize dri (fun j => decide (cx c (ix j) &&& R = 0)) i = d at q4 hq
      refine ⟨(nI (d.1 + 1), sb u 8 d.1 (cx c (ix i))), ⟨rfl, q2.b (by decide), q3, fun j hj => ?_, fun j hj => ?_⟩, ?_⟩
      · dsimp only at hj ⊢
        rw [sb_s]
        by_cases y : j = d.1
        · rw [if_pos y, y, v_s]
        · rw [if_neg y, v_n y]; exact q4 j (by omega)
      · dsimp only at hj ⊢
        rw [sb_s, v_n (by omega)]
        exact q5 j (by omega)
      · show X5_discardClauses_5 _ _ (f + 1) _ _ _ = X5_discardClauses_5 _ _ f _ _ _
        simp (disch := omega) only [X5_discardClauses_5, X5_discardClauses_5b, q3, e8, z, fa_lit, nI_leI, nI_ltI, nI_eq, nI_add, pk_mul, nI_clamp, bd, nm, gd_in, gd_bI, gd_b0, gd_b1, if_pos, if_neg, bI_n0, bI_n1, reduceIte, reduceCtorEq, Nat.add_zero]
    · rw [dri_f (kp := fun j => decide (cx c (ix j) &&& R = 0)) (decide_eq_false z)]
      refine ⟨(nI (dri (fun j => decide (cx c (ix j) &&& R = 0)) i).1, u), ⟨rfl, q2, q3, q4, fun j hj => q5 j (by omega)⟩, ?_⟩
      show X5_discardClauses_5 _ _ (f + 1) _ _ _ = X5_discardClauses_5 _ _ f _ _ _
      simp (disch := omega) only [X5_discardClauses_5, X5_discardClauses_5b, q3, e8, z, fa_lit, nI_leI, nI_ltI, nI_eq, nI_add, pk_mul, nI_clamp, bd, nm, gd_in, gd_bI, gd_b0, gd_b1, if_pos, if_neg, bI_n0, bI_n1, reduceIte, reduceCtorEq, Nat.add_zero]
  · rintro f ⟨a, u⟩ ⟨q1, q2, q3, q4, q5⟩
    dsimp only at q1 q2 q3 q4 q5 ⊢
    subst q1
    refine ⟨si u 22 (nI (dri (fun j => decide (cx c (ix j) &&& R = 0)) n).1), ?_, q2.i (by decide), si_s, q4⟩
    generalize dri (fun j => decide (cx c (ix j) &&& R = 0)) n = d at d1
    rcases Nat.lt_or_ge d.1 n with y | y
    · rw [decide_eq_true y]
      (simp (disch := omega) only [X5_discardClauses_5, X5_discardClauses_5b, q3, X5_discardClauses_64, X5_discardClauses_77, fa_lit, nI_leI, nI_ltI, nI_eq, nI_add, pk_mul, nI_clamp, bd, nm, gd_in, gd_bI, gd_b0, gd_b1, if_pos, if_neg, bI_n0, bI_n1, reduceIte, reduceCtorEq, Nat.add_zero]) <;> rfl
    · rw [decide_eq_false (show ¬ d.1 < n by omega)]
      (simp (disch := omega) only [X5_discardClauses_5, X5_discardClauses_5b, q3, X5_discardClauses_64, X5_discardClauses_77, fa_lit, nI_leI, nI_ltI, nI_eq, nI_add, pk_mul, nI_clamp, bd, nm, gd_in, gd_bI, gd_b0, gd_b1, if_pos, if_neg, bI_n0, bI_n1, reduceIte, reduceCtorEq, Nat.add_zero]) <;> rfl
end ELIM
