/-! b6: the least cone -/
def onz (s : Nat) : Nat := cnt (fun b => s.testBit b) 6
theorem bc6 : ∀ m, m < 64 → J6_bitCount_0f7a4 (nI m) = some (nI (onz m)) := by decide +kernel
theorem onz_6 (s : Nat) : onz s ≤ 6 := cnt_le _ _
theorem onz_top : ∀ b, b < 7 → ∀ s, s < 64 → 2 ^ b ≤ s ∨ onz s < b ∨ (onz s = b ∧ s = 2 ^ b - 1) := by decide +kernel
theorem onz_all : ∀ b, b < 7 → onz (2 ^ b - 1) = b := by decide +kernel
theorem nmk_all : ∀ b, b < 7 → (2 ^ b - 1) &&& (63 ^^^ (2 ^ b - 1)) = 0 := by decide +kernel
theorem nmk_0 : ∀ b, b < 7 → (2 ^ b - 1) &&& (63 ^^^ 0) = 2 ^ b - 1 := by decide +kernel
def cP (c : Ck) (s : Nat) : Bool := sfe c (nmk c (nmk c s))
def cnp (c : Ck) (r : Int32) : Prop := (r = -1 ∧ ∀ s, s < ns c → cP c s = false) ∨ ∃ q, q < ns c ∧ r = nI q ∧ cP c q = true ∧ ∀ s, s < ns c → cP c s = true → onz q < onz s ∨ (onz q = onz s ∧ q ≤ s)
section CONE
variable {c : Ck} {σ τ : St} {N M M' : Nat}
theorem cnp_u {r r' : Int32} (h : cnp c r) (h' : cnp c r') : r = r' := by
  rcases h with ⟨a1, a2⟩ | ⟨q, a1, a2, a3, a4⟩
  · rcases h' with ⟨b1, b2⟩ | ⟨q', b1, b2, b3, b4⟩
    · rw [a1, b1]
    · rw [a2 q' b1] at b3; cases b3
  · rcases h' with ⟨b1, b2⟩ | ⟨q', b1, b2, b3, b4⟩
    · rw [b2 q a1] at a3; cases a3
    · have x := a4 q' b1 b3
      have y := b4 q a1 a3
      have : q = q' := by omega
      rw [a2, b2, this]
theorem sfe_m (h : okC c) (hM : ∀ t u, t < ns c → u < ns c → t &&& M' = u &&& M' → t &&& M = u &&& M) (hs : sfe c M = true) : sfe c M' = true := by
  have f0 := fre_0 (M := M) h
  have key : ∀ j t, ht (lay (fre c M') c.2.2.2.1 j).2 t = true → ht (lay (fre c M) c.2.2.2.1 64).1 t = true := by
    intro j
    induction j with
    | zero =>
      intro t ht'
      have z : ht c.2.2.2.1 t = true := ht'
      exact (met_c 64).mpr ⟨0, by omega, z⟩
    | succ j ih =>
      intro t ht'
      have z : ht (fre c M' (lay (fre c M') c.2.2.2.1 j).2) t = true := by
        have q : ht (fre c M' (lay (fre c M') c.2.2.2.1 j).2 &&& (((lay (fre c M') c.2.2.2.1 j).1 ||| (lay (fre c M') c.2.2.2.1 j).2) ^^^ (-1))) t = true := ht'
        rw [h_and, Bool.and_eq_true] at q
        exact q.1
      obtain ⟨z1, s, v, z2, z3, z4, z5⟩ := (h_fre h).mp z
      obtain ⟨i, i1, i2⟩ := (met_c 64).mp (ih s z4)
      have w : ht (fre c M (lay (fre c M) c.2.2.2.1 i).2) t = true := (h_fre h).mpr ⟨z1, s, v, z2, z3, i2, hM t _ z1 (nx_lt _ _ _) z5⟩
      cases e : ht ((lay (fre c M) c.2.2.2.1 i).1 ||| (lay (fre c M) c.2.2.2.1 i).2) t
      · have e2 : ht (lay (fre c M) c.2.2.2.1 (i + 1)).2 t = true := by
          show ht (fre c M (lay (fre c M) c.2.2.2.1 i).2 &&& (((lay (fre c M) c.2.2.2.1 i).1 ||| (lay (fre c M) c.2.2.2.1 i).2) ^^^ (-1))) t = true
          rw [h_and, w, h_not _ (h_lt w), e]; rfl
        rcases Nat.lt_or_ge (i + 1) 64 with y | y
        · exact (met_c 64).mpr ⟨i + 1, y, e2⟩
        · have : i + 1 = 64 := by omega
          rw [this, lay_64 f0, h_0] at e2; cases e2
      · rw [h_or, Bool.or_eq_true] at e
        rcases e with e | e
        · obtain ⟨j', j1, j2⟩ := (met_c i).mp e
          exact (met_c 64).mpr ⟨j', by omega, j2⟩
        · exact (met_c 64).mpr ⟨i, i1, e⟩
  unfold sfe at hs ⊢
  rw [decide_eq_true_eq, an_z] at hs ⊢
  intro t ht'
  obtain ⟨j, _, j2⟩ := (met_c 64).mp ht'
  exact hs t (key j t j2)
theorem cP_top (h : okC c) {s : Nat} (hs : cP c s = true) : sfe c (nmk c 0) = true := by
  have h6 := h.2.1
  refine sfe_m h (fun t u h1 h2 e => ?_) hs
  have e0 : nmk c 0 = 2 ^ c.1 - 1 := nmk_0 c.1 (by omega)
  rw [e0, Nat.and_two_pow_sub_one_eq_mod, Nat.and_two_pow_sub_one_eq_mod, Nat.mod_eq_of_lt (show t < 2 ^ c.1 from h1), Nat.mod_eq_of_lt (show u < 2 ^ c.1 from h2)] at e
  rw [e]
theorem cP_all (h : okC c) : cP c (ns c - 1) = sfe c (nmk c 0) := by
  have h6 := h.2.1
  unfold cP
  rw [show nmk c (ns c - 1) = 0 from nmk_all c.1 (by omega)]
theorem X7_ones_ok (hN : 4000000 ≤ N) {m : Nat} (hm : m < 64) : X7_ones N (nI m) = some (nI (onz m)) := by
  unfold X7_ones
  refine wf (fun f b a => X7_ones_4 (fun v1 => X7_ones_24 v1) (nI m) f a (nI b)) 6 (fun b a => a = nI (cnt (fun b => m.testBit b) b)) (fun r => r = some (nI (onz m))) ?_ ?_ N 0 0 (by omega) rfl (by omega)
  · rintro f b a hb rfl
    refine Or.inr ⟨_, rfl, ?_⟩
    show X7_ones_4 _ _ (f + 1) _ _ = X7_ones_4 _ _ f _ _
    have h6 : ¬ (6 : Int32) ≤ nI b := nI_ge (b := 6) (by omega) (by omega)
    cases e : m.testBit b
    · rw [cnt_f (p := fun b => m.testBit b) e, X7_ones_4, X7_ones_4b, if_neg h6, tbi m hm b hb, e, nm, nm, nI_1, show bI false = nI 0 from rfl, nI_add, Nat.add_zero]
    · rw [cnt_t (p := fun b => m.testBit b) e, X7_ones_4, X7_ones_4b, if_neg h6, tbi m hm b hb, e, nm, nm, nI_1, show bI true = nI 1 from rfl, nI_add]
  · rintro f a rfl
    show X7_ones_4 _ _ (f + 1) _ _ = _
    have h6 : (6 : Int32) ≤ nI 6 := by decide
    rw [X7_ones_4, X7_ones_4b, if_pos h6]
    rfl
theorem X7_coneNow_ok (hN : 4000000 ≤ N) (h : CM c τ) : ∃ r, X7_coneNow N τ = some r ∧ cnp c r := by
  have h64 := ns_le h.1
  have e1 : nI (ns c) - 1 = nI (ns c - 1) := pk_sub (b := 1) (by omega)
  unfold X7_coneNow
  refine wf (fun f i a => X7_coneNow_4 N (fun v1 => X7_coneNow_67 τ v1) τ f a (nI i)) (ns c) (fun i a => (a = -1 ∧ ∀ s, s < i → cP c s = false) ∨ ∃ q, q < i ∧ a = nI q ∧ cP c q = true ∧ ∀ s, s < i → cP c s = true → onz q < onz s ∨ (onz q = onz s ∧ q ≤ s)) (fun r => ∃ r', r = some r' ∧ cnp c r') ?_ ?_ N 0 (-1) (by omega) (Or.inl ⟨rfl, fun s hs => by omega⟩) (by omega)
  · rintro f i a hi hI
    right
    have c1 : ¬ nI (ns c) ≤ nI i := nI_ge (by omega) (by omega)
    have es : X7_isSafe N τ (nI (nmk c i)) = some (bI (cP c i)) := X7_isSafe_ok hN h (by have := nmk_lt h.1 i; omega)
    have ek : nI (ns c - 1) &&& (nI i ^^^ (-1)) = nI (nmk c i) := lsg_k _ (by omega) _ (by omega)
    have r33 : ∀ (a : Int32) (K : Int32 → Int32 → Option Int32), X7_coneNow_33 N K τ a (nI i) 1 = if cP c i = true then K (nI i) (nI (i + 1)) else K a (nI (i + 1)) := fun a K => by
      rw [X7_coneNow_33, if_neg (by decide), X7_states_ok h, bd, e1, ek, es, bd]
      cases cP c i
      · rw [if_pos (show bI false = 0 from rfl), nm, nI_1]; rfl
      · rw [if_neg (show ¬ bI true = 0 by decide), nm, nI_1]; rfl
    rcases hI with ⟨rfl, b2⟩ | ⟨q, b1, rfl, b3, b4⟩
    · cases e : cP c i
      · refine ⟨-1, Or.inl ⟨rfl, fun s hs => ?_⟩, ?_⟩
        · rcases Nat.lt_or_ge s i with z | z
          · exact b2 s z
          · have : s = i := by omega
            subst this; exact e
        · show X7_coneNow_4 N _ τ (f + 1) _ _ = X7_coneNow_4 N _ τ f _ _
          rw [X7_coneNow_4, X7_coneNow_4b, X7_states_ok h, bd, if_neg c1, if_pos rfl, r33, e]
          rfl
      · refine ⟨nI i, Or.inr ⟨i, by omega, rfl, e, fun s hs h2 => ?_⟩, ?_⟩
        · rcases Nat.lt_or_ge s i with z | z
          · rw [b2 s z] at h2; cases h2
          · have : s = i := by omega
            subst this; exact Or.inr ⟨rfl, Nat.le_refl _⟩
        · show X7_coneNow_4 N _ τ (f + 1) _ _ = X7_coneNow_4 N _ τ f _ _
          rw [X7_coneNow_4, X7_coneNow_4b, X7_states_ok h, bd, if_neg c1, if_pos rfl, r33, e]
          rfl
    · have qn : ¬ nI q = -1 := nI_nm1 (by omega)
      have o1 := X7_ones_ok hN (m := i) (by omega)
      have o2 := X7_ones_ok hN (m := q) (by omega)
      have l1 := onz_6 i
      have l2 := onz_6 q
      rcases Nat.lt_or_ge (onz i) (onz q) with z | z
      · have c2 : ¬ nI (onz q) ≤ nI (onz i) := nI_ge z (by omega)
        cases e : cP c i
        · refine ⟨nI q, Or.inr ⟨q, by omega, rfl, b3, fun s hs h2 => ?_⟩, ?_⟩
          · rcases Nat.lt_or_ge s i with y | y
            · exact b4 s y h2
            · have : s = i := by omega
              subst this; rw [e] at h2; cases h2
          · show X7_coneNow_4 N _ τ (f + 1) _ _ = X7_coneNow_4 N _ τ f _ _
            rw [X7_coneNow_4, X7_coneNow_4b, X7_states_ok h, bd, if_neg c1, if_neg qn, o1, bd, o2, bd, if_neg c2, r33, e]
            rfl
        · refine ⟨nI i, Or.inr ⟨i, by omega, rfl, e, fun s hs h2 => ?_⟩, ?_⟩
          · rcases Nat.lt_or_ge s i with y | y
            · have := b4 s y h2; omega
            · have : s = i := by omega
              subst this; exact Or.inr ⟨rfl, Nat.le_refl _⟩
          · show X7_coneNow_4 N _ τ (f + 1) _ _ = X7_coneNow_4 N _ τ f _ _
            rw [X7_coneNow_4, X7_coneNow_4b, X7_states_ok h, bd, if_neg c1, if_neg qn, o1, bd, o2, bd, if_neg c2, r33, e]
            rfl
      · have c2 : nI (onz q) ≤ nI (onz i) := nI_le z (by omega)
        refine ⟨nI q, Or.inr ⟨q, by omega, rfl, b3, fun s hs h2 => ?_⟩, ?_⟩
        · rcases Nat.lt_or_ge s i with y | y
          · exact b4 s y h2
          · have : s = i := by omega
            subst this; omega
        · show X7_coneNow_4 N _ τ (f + 1) _ _ = X7_coneNow_4 N _ τ f _ _
          rw [X7_coneNow_4, X7_coneNow_4b, X7_states_ok h, bd, if_neg c1, if_neg qn, o1, bd, o2, bd, if_pos c2, X7_coneNow_33, if_pos rfl, nm, nI_1]
  · rintro f a hI
    have c1 : nI (ns c) ≤ nI (ns c) := nI_le (Nat.le_refl _) (by omega)
    refine ⟨a, ?_, hI⟩
    show X7_coneNow_4 N _ τ (f + 1) _ _ = _
    rw [X7_coneNow_4, X7_coneNow_4b, X7_states_ok h, bd, if_pos c1]
    rfl
theorem X5_cone_35 (hN : 4000000 ≤ N) (h : CS c σ) (f3 : F3 c σ) {z : Nat} (hz : z ≤ 6) (k66 k74 : Int32 → Option Int32) : (∃ j, j < ns c ∧ X5_smallestCone_35 N k66 k74 σ (nI (ns c - 1)) (nI z) N (nI 0) = k66 (nI j) ∧ onz j = z ∧ cP c j = true ∧ ∀ s, s < j → ¬ (onz s = z ∧ cP c s = true)) ∨ (X5_smallestCone_35 N k66 k74 σ (nI (ns c - 1)) (nI z) N (nI 0) = k74 (nI z) ∧ ∀ s, s < ns c → ¬ (onz s = z ∧ cP c s = true)) := by
  have h64 := ns_le h.1
  refine wf (fun f i (_ : Unit) => X5_smallestCone_35 N k66 k74 σ (nI (ns c - 1)) (nI z) f (nI i)) (ns c) (fun i _ => ∀ s, s < i → ¬ (onz s = z ∧ cP c s = true)) (fun r => (∃ j, j < ns c ∧ r = k66 (nI j) ∧ onz j = z ∧ cP c j = true ∧ ∀ s, s < j → ¬ (onz s = z ∧ cP c s = true)) ∨ (r = k74 (nI z) ∧ ∀ s, s < ns c → ¬ (onz s = z ∧ cP c s = true))) ?_ ?_ N 0 () (by omega) (fun s hs => by omega) (by omega)
  · rintro f i u hi hI
    have c1 : ¬ nI (ns c) ≤ nI i := nI_ge (by omega) (by omega)
    have es : X5_staysGood N σ (nI (nmk c i)) = some (bI (cP c i)) := X5_staysGood_ok hN h f3 (by have := nmk_lt h.1 i; omega)
    have ek : nI (ns c - 1) &&& (nI i ^^^ (-1)) = nI (nmk c i) := lsg_k _ (by omega) _ (by omega)
    have eb := bc6 i (by omega)
    have l1 := onz_6 i
    by_cases q : onz i = z
    · have q' : nI (onz i) = nI z := by rw [q]
      cases e : cP c i
      · right
        refine ⟨(), fun s hs => ?_, ?_⟩
        · rcases Nat.lt_or_ge s i with y | y
          · exact hI s y
          · have : s = i := by omega
            subst this; rw [e]; exact fun w => by cases w.2
        · show X5_smallestCone_35 N _ _ σ _ _ (f + 1) _ = X5_smallestCone_35 N _ _ σ _ _ f _
          rw [e] at es
          rw [X5_smallestCone_35, X5_smallestCone_35b, h.2.2.2.1, if_neg c1, eb, bd, if_pos q', ek, es, bd, if_pos (show bI false = 0 from rfl), nm, nI_1]
      · left
        refine Or.inl ⟨i, hi, ?_, q, e, hI⟩
        show X5_smallestCone_35 N _ _ σ _ _ (f + 1) _ = _
        rw [e] at es
        rw [X5_smallestCone_35, X5_smallestCone_35b, h.2.2.2.1, if_neg c1, eb, bd, if_pos q', ek, es, bd, if_neg (show ¬ bI true = 0 by decide)]
    · have q' : ¬ nI (onz i) = nI z := by rw [nI_eq (by omega) (by omega)]; exact q
      right
      refine ⟨(), fun s hs => ?_, ?_⟩
      · rcases Nat.lt_or_ge s i with y | y
        · exact hI s y
        · have : s = i := by omega
          subst this; exact fun w => q w.1
      · show X5_smallestCone_35 N _ _ σ _ _ (f + 1) _ = X5_smallestCone_35 N _ _ σ _ _ f _
        rw [X5_smallestCone_35, X5_smallestCone_35b, h.2.2.2.1, if_neg c1, eb, bd, if_neg q', nm, nI_1]
  · rintro f u hI
    have c1 : nI (ns c) ≤ nI (ns c) := nI_le (Nat.le_refl _) (by omega)
    refine Or.inr ⟨?_, hI⟩
    show X5_smallestCone_35 N _ _ σ _ _ (f + 1) _ = _
    rw [X5_smallestCone_35, X5_smallestCone_35b, h.2.2.2.1, if_pos c1]
theorem X5_smallestCone_ok (hN : 4000000 ≤ N) (h : CS c σ) (f3 : F3 c σ) : ∃ r, X5_smallestCone N σ = some r ∧ cnp c r := by
  have h64 := ns_le h.1
  have h6 := h.1.2.1
  have e1 : nI (ns c) - 1 = nI (ns c - 1) := pk_sub (b := 1) (by omega)
  have es : X5_staysGood N σ 0 = some (bI (sfe c (nmk c 0))) := X5_staysGood_ok hN h f3 (g := 0) (by omega)
  have e0 : X5_smallestCone N σ = if bI (sfe c (nmk c 0)) = 0 then some (-1) else X5_smallestCone_22 N (fun v3 => X5_smallestCone_66 σ v3) (fun v1 => X5_smallestCone_80 σ v1) σ (nI (ns c - 1)) N (nI 0) := by
    rw [X5_smallestCone, h.2.2.2.1, e1, nm, es, bd]
    rfl
  rw [e0]
  cases e : sfe c (nmk c 0)
  · refine ⟨-1, by rw [if_pos (show bI false = 0 from rfl)], Or.inl ⟨rfl, fun s hs => ?_⟩⟩
    cases e2 : cP c s
    · rfl
    · rw [cP_top h.1 e2] at e; cases e
  · rw [if_neg (show ¬ bI true = 0 by decide)]
    refine wf (fun f z (_ : Unit) => X5_smallestCone_22 N (fun v3 => X5_smallestCone_66 σ v3) (fun v1 => X5_smallestCone_80 σ v1) σ (nI (ns c - 1)) f (nI z)) c.1 (fun z _ => ∀ s, s < ns c → cP c s = true → z ≤ onz s) (fun r => ∃ r', r = some r' ∧ cnp c r') ?_ ?_ N 0 () (by omega) (fun s _ _ => by omega) (by omega)
    · rintro f z u hz hI
      have c1 : ¬ nI c.1 ≤ nI z := nI_ge (by omega) (by omega)
      rcases X5_cone_35 hN h f3 (z := z) (by omega) (fun v3 => X5_smallestCone_66 σ v3) (fun v2 => X5_smallestCone_74 (fun v2 => X5_smallestCone_22 N (fun v3 => X5_smallestCone_66 σ v3) (fun v1 => X5_smallestCone_80 σ v1) σ (nI (ns c - 1)) f v2) σ (nI (ns c - 1)) v2) with ⟨j, j1, j2, j3, j4, j5⟩ | ⟨j1, j2⟩
      · left
        refine ⟨nI j, ?_, Or.inr ⟨j, j1, rfl, j4, fun s hs h2 => ?_⟩⟩
        · show X5_smallestCone_22 N _ _ σ _ (f + 1) _ = _
          rw [X5_smallestCone_22, X5_smallestCone_22b, h.2.1, if_neg c1]
          exact j2
        · have := hI s hs h2
          rcases Nat.lt_or_ge z (onz s) with y | y
          · exact Or.inl (by omega)
          · refine Or.inr ⟨by omega, ?_⟩
            rcases Nat.lt_or_ge s j with w | w
            · exact absurd ⟨by omega, h2⟩ (j5 s w)
            · exact w
      · right
        refine ⟨(), fun s hs h2 => ?_, ?_⟩
        · have := hI s hs h2
          rcases Nat.lt_or_ge z (onz s) with y | y
          · exact y
          · exact absurd ⟨by omega, h2⟩ (j2 s hs)
        · show X5_smallestCone_22 N _ _ σ _ (f + 1) _ = X5_smallestCone_22 N _ _ σ _ f _
          rw [X5_smallestCone_22, X5_smallestCone_22b, h.2.1, if_neg c1]
          refine Eq.trans j1 ?_
          show X5_smallestCone_74 _ σ _ _ = _
          rw [X5_smallestCone_74, nm, nI_1]
    · rintro f u hI
      have c1 : nI c.1 ≤ nI c.1 := nI_le (Nat.le_refl _) (by omega)
      refine ⟨nI (ns c - 1), ?_, Or.inr ⟨ns c - 1, by omega, rfl, by rw [cP_all h.1, e], fun s hs h2 => ?_⟩⟩
      · show X5_smallestCone_22 N _ _ σ _ (f + 1) _ = _
        rw [X5_smallestCone_22, X5_smallestCone_22b, h.2.1, if_pos c1]
        rfl
      · have a1 := hI s hs h2
        have a2 : onz (ns c - 1) = c.1 := onz_all c.1 (by omega)
        have hs' : s < 2 ^ c.1 := hs
        rcases onz_top c.1 (by omega) s (by omega) with y | y | y
        · omega
        · omega
        · exact Or.inr ⟨by omega, by rw [y.2]; exact Nat.le_refl _⟩
theorem Op_leastCone_ok (hN : 4000000 ≤ N) (h : RC c σ τ) : Op_leastCone N Rl σ τ := by
  have hm := h.th 0
  obtain ⟨σ1, d1, d2, d3, d4⟩ := h.refresh hN
  obtain ⟨r, r1, r2⟩ := X7_coneNow_ok hN hm.1
  obtain ⟨r', r3, r4⟩ := X5_smallestCone_ok hN d2.2.1 d4.1
  have := cnp_u r2 r4
  subst this
  refine ⟨r, σ1, si τ 0 0, ?_, ?_, ⟨c, d2.th 0⟩⟩
  · simp only [X6_leastCone, d1, bd, r3]
  · simp only [X7_leastCone, nm, r1, bd]
end CONE
