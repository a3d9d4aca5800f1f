/-! b8: induction in the class -/
section IND2
variable {c : Ck} {σ τ : St} {N K : Nat} {b : Bool}
theorem X5_startsAt_ok (hK : K ≤ 6) (hst : ∀ j, j ≤ K → σ.2.2.2 7 j = ldS c j) {j : Nat} (hj : j ≤ K) : X5_startsAt σ (nI j) = some (ldS c j) := by
  have := hst j hj
  simp (disch := omega) only [X5_startsAt, this, fa_lit, nI_leI, nI_ltI, nI_eq, nI_add, pk_mul, nI_clamp, bd, nm, gd_in, gd_bI, gd_b0, gd_b1, if_pos, if_neg, bI_n0, bI_n1, reduceIte, reduceCtorEq, Nat.add_zero]
theorem X5_goes_ok (hN : 4000000 ≤ N) (h : CS c σ) (f3 : F3 c σ) (hK : K ≤ 6) (hst : ∀ j, j ≤ K → σ.2.2.2 7 j = ldS c j) : ∀ j d s u, j ≤ K → j < d → ht (ldS c j) s = true → (1 ≤ j → ∀ t, ht u t = true → ht (bad c) t = false) → X5_goesOnSimply N σ d (nI s) (nI j) u = some (bI (SPb c j s u)) := by
  have h64 := ns_le h.1
  have h4 := nv_le h.1
  intro j
  induction j with
  | zero =>
    intro d s u _ hd _ _
    obtain ⟨d, rfl⟩ : ∃ e, d = e + 1 := ⟨d - 1, by omega⟩
    rw [X5_goesOnSimply, X5_goesOnSimplyB, if_neg (by decide)]
    rfl
  | succ j ih =>
    intro d s u hjK hd hs hu
    obtain ⟨d, rfl⟩ : ∃ e, d = e + 1 := ⟨d - 1, by omega⟩
    cases j with
    | zero =>
      rw [X5_goesOnSimply, X5_goesOnSimplyB, if_neg (by decide), SPb_1 h.1 hs (hu (by omega))]
      rfl
    | succ i =>
      have hsn := ldS_l h.1 _ s hs
      have c1 : (1 : Int32) < nI (i + 1 + 1) := nI_lt (a := 1) (by omega) (by omega)
      have e1 : nI (i + 1 + 1) - 1 = nI (i + 1) := pk_sub (b := 1) (by omega)
      rw [X5_goesOnSimply, X5_goesOnSimplyB, if_pos c1, e1, X5_startsAt_ok hK hst (show i + 1 ≤ K by omega), bd, nm]
      have e8 := h.2.2.2.2.1
      refine wf (fun f v a => X5_goesOnSimply_25 (fun v1 v2 v3 => X5_goesOnSimply N σ d v1 v2 v3) (X5_goesOnSimply_90 (fun v1 v2 v3 => X5_goesOnSimply N σ d v1 v2 v3) σ) (X5_goesOnSimply_98 (fun v1 v2 v3 => X5_goesOnSimply N σ d v1 v2 v3) σ) σ (nI s) (nI (i + 1 + 1)) u f a (nI v)) (nv c) (fun v a => (∀ t, ht a t = true → ht (ldS c (i + 1)) t = true ∧ ht u t = false) ∧ (∀ t, ht (ldS c (i + 1)) t = true → ht u t = false → ht a t = false → ∃ v', v' < v ∧ nx c s v' = t) ∧ ∀ v', v' < v → (ht (ldS c (i + 1)) (nx c s v') && !ht u (nx c s v') && SPb c (i + 1) (nx c s v') (u ||| sg (nx c s v'))) = false) (fun r => r = some (bI (SPb c (i + 1 + 1) s u))) ?_ ?_ N 0 _ (by omega) ?_ (by omega)
      · rintro f v a hv ⟨q1, q2, q3⟩
        have c8 : ¬ nI (nv c) ≤ nI v := nI_ge (by omega) (by omega)
        have hn := nx_64 h.1 s v
        have en := X2_nextOf_ok h.1 f3 hsn hv
        cases e : ht a (nx c s v)
        · right
          have tv : (ht (ldS c (i + 1)) (nx c s v) && !ht u (nx c s v) && SPb c (i + 1) (nx c s v) (u ||| sg (nx c s v))) = false := by
            cases z1 : ht (ldS c (i + 1)) (nx c s v)
            · rfl
            · cases z2 : ht u (nx c s v)
              · obtain ⟨v', v1, v2⟩ := q2 _ z1 z2 e
                have := q3 v' v1
                rw [v2, z1, z2] at this
                exact this
              · rfl
          refine ⟨a, ⟨q1, fun t t1 t2 t3 => ?_, fun v' hv' => ?_⟩, ?_⟩
          · obtain ⟨v', v1, v2⟩ := q2 t t1 t2 t3
            exact ⟨v', by omega, v2⟩
          · rcases Nat.lt_or_ge v' v with y | y
            · exact q3 v' y
            · have : v' = v := by omega
              subst this; exact tv
          · show X5_goesOnSimply_25 _ _ _ σ _ _ _ (f + 1) _ _ = X5_goesOnSimply_25 _ _ _ σ _ _ _ f _ _
            rw [X5_goesOnSimply_25, X5_goesOnSimply_25b, e8, if_neg c8, en, bd, X6_contains_ok _ hn, bd, e, if_pos (show bI false = 0 from rfl), nm, nI_1]
        · obtain ⟨z1, z2⟩ := q1 _ e
          have er : X5_goesOnSimply N σ d (nI (nx c s v)) (nI (i + 1)) (u ||| ((1 : Int64) <<< ((nI (nx c s v)).toInt64 &&& 63))) = some (bI (SPb c (i + 1) (nx c s v) (u ||| sg (nx c s v)))) := ih d (nx c s v) (u ||| sg (nx c s v)) (by omega) (by omega) z1 (fun _ t ht' => by
            rw [h_or, Bool.or_eq_true, h_sg hn, decide_eq_true_eq] at ht'
            rcases ht' with y | y
            · exact hu (by omega) t y
            · rw [y]; exact ldS_g h.1 (by omega) z1)
          cases z3 : SPb c (i + 1) (nx c s v) (u ||| sg (nx c s v))
          · right
            rw [z3] at er
            refine ⟨a &&& (sg (nx c s v) ^^^ (-1)), ⟨fun t ht' => ?_, fun t t1 t2 t3 => ?_, fun v' hv' => ?_⟩, ?_⟩
            · rw [h_and, Bool.and_eq_true] at ht'
              exact q1 t ht'.1
            · rw [h_and] at t3
              cases y : ht a t
              · obtain ⟨v', v1, v2⟩ := q2 t t1 t2 y
                exact ⟨v', by omega, v2⟩
              · rw [y, Bool.true_and, h_not _ (h_lt y), h_sg hn] at t3
                refine ⟨v, by omega, ?_⟩
                have : decide (t = nx c s v) = true := by revert t3; cases decide (t = nx c s v) <;> simp
                exact (of_decide_eq_true this).symm
            · rcases Nat.lt_or_ge v' v with y | y
              · exact q3 v' y
              · have : v' = v := by omega
                subst this; rw [z3, Bool.and_false]
            · show X5_goesOnSimply_25 _ _ _ σ _ _ _ (f + 1) _ _ = X5_goesOnSimply_25 _ _ _ σ _ _ _ f _ _
              rw [X5_goesOnSimply_25, X5_goesOnSimply_25b, e8, if_neg c8, en, bd, X6_contains_ok _ hn, bd, e, if_neg (show ¬ bI true = 0 by decide), nm, e1, er, bd, if_pos (show bI false = 0 from rfl), nm, nI_1]
              rfl
          · left
            rw [z3] at er
            have sp : SPb c (i + 1 + 1) s u = true := ax_t.mpr ⟨v, hv, by rw [z1, z2, z3]; rfl⟩
            show X5_goesOnSimply_25 _ _ _ σ _ _ _ (f + 1) _ _ = _
            rw [X5_goesOnSimply_25, X5_goesOnSimply_25b, e8, if_neg c8, en, bd, X6_contains_ok _ hn, bd, e, if_neg (show ¬ bI true = 0 by decide), nm, e1, er, bd, if_neg (show ¬ bI true = 0 by decide), sp]
            rfl
      · rintro f a ⟨q1, q2, q3⟩
        have c8 : nI (nv c) ≤ nI (nv c) := nI_le (Nat.le_refl _) (by omega)
        have sp : SPb c (i + 1 + 1) s u = false := ax_f.mpr q3
        show X5_goesOnSimply_25 _ _ _ σ _ _ _ (f + 1) _ _ = _
        rw [X5_goesOnSimply_25, X5_goesOnSimply_25b, e8, if_pos c8, sp]
        rfl
      · refine ⟨fun t ht' => ?_, fun t t1 t2 t3 => ?_, fun v' hv' => by omega⟩
        · rw [h_and, Bool.and_eq_true] at ht'
          refine ⟨ht'.1, ?_⟩
          have := ht'.2
          rw [h_not _ (h_lt ht'.1)] at this
          revert this
          cases ht u t <;> simp
        · rw [h_and, t1, h_not _ (h_lt t1), t2] at t3
          cases t3
theorem X5_hasSimple_ok (hN : 4000000 ≤ N) (h : CS c σ) (f3 : F3 c σ) (hK : K ≤ 6) (hst : ∀ j, j ≤ K → σ.2.2.2 7 j = ldS c j) : X5_hasSimpleSequence N σ (nI K) = some (bI (Lkb c true K)) := by
  have h64 := ns_le h.1
  have e7 := h.2.2.2.1
  unfold X5_hasSimpleSequence
  refine wf (fun f i (_ : Unit) => X5_hasSimpleSequence_2 N (X5_hasSimpleSequence_37 σ) (X5_hasSimpleSequence_45 σ) σ (nI K) f (nI i)) (ns c) (fun i _ => ∀ s, s < i → (ht (ldS c K) s && (!true || SPb c K s (sg s))) = false) (fun r => r = some (bI (Lkb c true K))) ?_ ?_ N 0 () (by omega) (fun s hs => by omega) (by omega)
  · rintro f i u hi hI
    have c7 : ¬ nI (ns c) ≤ nI i := nI_ge (by omega) (by omega)
    cases e : ht (ldS c K) i
    · right
      refine ⟨(), fun s hs => ?_, ?_⟩
      · rcases Nat.lt_or_ge s i with y | y
        · exact hI s y
        · have : s = i := by omega
          subst this; rw [e]; rfl
      · show X5_hasSimpleSequence_2 N _ _ σ _ (f + 1) _ = X5_hasSimpleSequence_2 N _ _ σ _ f _
        rw [X5_hasSimpleSequence_2, X5_hasSimpleSequence_2b, e7, if_neg c7, X5_startsAt_ok hK hst (Nat.le_refl _), bd, X6_contains_ok _ (by omega), bd, e, if_pos (show bI false = 0 from rfl), nm, nI_1]
    · have eg : X5_goesOnSimply N σ 8 (nI i) (nI K) ((1 : Int64) <<< ((nI i).toInt64 &&& 63)) = some (bI (SPb c K i (sg i))) := X5_goes_ok hN h f3 hK hst K 8 i (sg i) (Nat.le_refl _) (by omega) e (fun hk t ht' => by
        rw [h_sg (by omega), decide_eq_true_eq] at ht'
        rw [ht']; exact ldS_g h.1 hk e)
      cases z : SPb c K i (sg i)
      · right
        rw [z] at eg
        refine ⟨(), fun s hs => ?_, ?_⟩
        · rcases Nat.lt_or_ge s i with y | y
          · exact hI s y
          · have : s = i := by omega
            subst this; rw [e, z]; rfl
        · show X5_hasSimpleSequence_2 N _ _ σ _ (f + 1) _ = X5_hasSimpleSequence_2 N _ _ σ _ f _
          rw [X5_hasSimpleSequence_2, X5_hasSimpleSequence_2b, e7, if_neg c7, X5_startsAt_ok hK hst (Nat.le_refl _), bd, X6_contains_ok _ (by omega), bd, e, if_neg (show ¬ bI true = 0 by decide), eg, bd, if_pos (show bI false = 0 from rfl), nm, nI_1]
      · left
        rw [z] at eg
        have lk : Lkb c true K = true := ax_t.mpr ⟨i, hi, by rw [e, z]; rfl⟩
        show X5_hasSimpleSequence_2 N _ _ σ _ (f + 1) _ = _
        rw [X5_hasSimpleSequence_2, X5_hasSimpleSequence_2b, e7, if_neg c7, X5_startsAt_ok hK hst (Nat.le_refl _), bd, X6_contains_ok _ (by omega), bd, e, if_neg (show ¬ bI true = 0 by decide), eg, bd, if_neg (show ¬ bI true = 0 by decide), lk]
        rfl
  · rintro f u hI
    have c7 : nI (ns c) ≤ nI (ns c) := nI_le (Nat.le_refl _) (by omega)
    have lk : Lkb c true K = false := ax_f.mpr hI
    show X5_hasSimpleSequence_2 N _ _ σ _ (f + 1) _ = _
    rw [X5_hasSimpleSequence_2, X5_hasSimpleSequence_2b, e7, if_pos c7, lk]
    rfl
theorem X5_leastInduction_ok (hN : 4000000 ≤ N) (h : CS c σ) (f3 : F3 c σ) (h12 : σ.1 12 = rlc c) : ∃ σ', X5_leastInduction N (bI b) σ = some (inR c b, σ') ∧ FR [] [] [] [7] σ σ' := by
  have h64 := ns_le h.1
  have e0 : X5_leastInduction N (bI b) σ = X5_leastInduction_10 N (fun σ => X5_leastInduction_26 σ) (fun v3 σ => X5_leastInduction_94 v3 σ) (fun σ => X5_leastInduction_102 σ) (bI b) (rlc c) N (nI 0) σ := by
    rw [X5_leastInduction, nm, h12]; rfl
  rw [e0]
  refine wf (fun f i u => X5_leastInduction_10 N (fun σ => X5_leastInduction_26 σ) (fun v3 σ => X5_leastInduction_94 v3 σ) (fun σ => X5_leastInduction_102 σ) (bI b) (rlc c) f (nI i) u) 7 (fun i u => FR [] [] [] [7] σ u ∧ (∀ j, j < i → u.2.2.2 7 j = ldS c j) ∧ ∀ j, j < i → Lkb c b j = true) (fun r => ∃ σ', r = some (inR c b, σ') ∧ FR [] [] [] [7] σ σ') ?_ ?_ N 0 σ (by omega) ⟨FR.rf, fun j hj => by omega, fun j hj => by omega⟩ (by omega)
  · rintro f i u hi ⟨q1, q2, q3⟩
    have c6 : ¬ (6 : Int32) < nI i := nI_nlt (a := 6) (by omega) (by omega)
    have hu := h.fr q1 (by decide)
    have fu := f3.fr q1 (by decide)
    by_cases z : ∃ R, R < i ∧ rlc c = nI R
    · left
      obtain ⟨R, r1, r2⟩ := z
      have n1 : ¬ rlc c = -1 := by rw [r2]; exact nI_nm1 (by omega)
      have n2 : ¬ nI i ≤ rlc c := by rw [r2]; exact nI_ge r1 (by omega)
      refine ⟨u, ?_, q1⟩
      show X5_leastInduction_10 N _ _ _ _ _ (f + 1) _ _ = _
      rw [X5_leastInduction_10, X5_leastInduction_10b, if_neg c6, if_neg n1, if_neg n2, inR_2 (by omega) q3 ((hit_k h.1 (by omega)).mp ⟨R, r1, r2⟩)]
      rfl
    · have nh : ∀ j, j < i → htB c j = false := fun j hj => by
        cases y : htB c j
        · rfl
        · exact absurd ((hit_k h.1 (by omega)).mpr ⟨j, hj, y⟩) z
      have e28 : X5_leastInduction_10 N (fun σ => X5_leastInduction_26 σ) (fun v3 σ => X5_leastInduction_94 v3 σ) (fun σ => X5_leastInduction_102 σ) (bI b) (rlc c) (f + 1) (nI i) u = X5_leastInduction_28 N (fun v3 σ => X5_leastInduction_10 N (fun σ => X5_leastInduction_26 σ) (fun v3 σ => X5_leastInduction_94 v3 σ) (fun σ => X5_leastInduction_102 σ) (bI b) (rlc c) f v3 σ) (fun v3 σ => X5_leastInduction_94 v3 σ) (bI b) (rlc c) (nI i) u := by
        rw [X5_leastInduction_10, X5_leastInduction_10b, if_neg c6]
        rcases rlc_c (c := c) with y | ⟨R, y1, y2, _⟩
        · rw [if_pos y]
        · have n1 : ¬ rlc c = -1 := by rw [y2]; exact nI_nm1 (by omega)
          have n2 : nI i ≤ rlc c := by
            rw [y2]
            refine nI_le ?_ (by omega)
            rcases Nat.lt_or_ge R i with w | w
            · exact absurd ⟨R, w, y2⟩ z
            · exact w
          rw [if_neg n1, if_pos n2]
      have e70 : ∀ (k10 k94 : Int32 → St → Option (Int32 × St)), X5_leastInduction_28 N k10 k94 (bI b) (rlc c) (nI i) u = X5_leastInduction_70 N k10 k94 (bI b) (rlc c) (nI i) (ldS c i) (nI i) u := fun k10 k94 => by
        cases i with
        | zero =>
          rw [X5_leastInduction_28, if_pos (show nI 0 = (0 : Int32) from rfl), X0_bad_ok hu]
          rfl
        | succ i =>
          have n0 : ¬ nI (i + 1) = 0 := nI_ne0 (by omega) (by omega)
          have e1 : nI (i + 1) - 1 = nI i := nI_pred i
          rw [X5_leastInduction_28, if_neg n0, X0_good_ok hu, bd, e1, gd_in (by omega) (by omega), nI_clamp (by omega), q2 i (by omega), X2_predecessorsOf_ok hN h.1 fu, bd]
          rfl
      have gi : ∀ {β : Type} (y : Option β), gd (inb (nI i) 7) y = y := fun y => gd_in (by omega) (by omega)
      have f2 : FR [] [] [] [7] σ (sb u 7 i (ldS c i)) := q1.b (by decide)
      have st : ∀ j, j ≤ i → (sb u 7 i (ldS c i)).2.2.2 7 j = ldS c j := fun j hj => by
        rw [sb_s]
        by_cases y : j = i
        · rw [y, v_s]
        · rw [v_n y]; exact q2 j (by omega)
      have rd : (sb u 7 i (ldS c i)).2.2.2 7 i = ldS c i := st i (Nat.le_refl _)
      by_cases z0 : ldS c i = 0
      · left
        refine ⟨sb u 7 i (ldS c i), ?_, f2⟩
        show X5_leastInduction_10 N _ _ _ _ _ (f + 1) _ _ = _
        rw [e28, e70, X5_leastInduction_70, gi, nI_clamp (by omega), nm, gi, rd, if_pos z0, inR_1 hi q3 nh (Lkb_f h.1 z0)]
        rfl
      · cases b
        · right
          refine ⟨sb u 7 i (ldS c i), ⟨f2, fun j hj => st j (by omega), fun j hj => ?_⟩, ?_⟩
          · rcases Nat.lt_or_ge j i with y | y
            · exact q3 j y
            · have : j = i := by omega
              subst this; exact Lkb_n h.1 z0
          · show X5_leastInduction_10 N _ _ _ _ _ (f + 1) _ _ = X5_leastInduction_10 N _ _ _ _ _ f _ _
            rw [e28, e70, X5_leastInduction_70, gi, nI_clamp (by omega), nm, gi, rd, if_neg z0, if_pos (show bI false = 0 from rfl), nm, nI_1]
        · have hs := X5_hasSimple_ok hN (h.fr f2 (by decide)) (f3.fr f2 (by decide)) (K := i) (by omega) st
          cases z1 : Lkb c true i
          · left
            rw [z1] at hs
            refine ⟨sb u 7 i (ldS c i), ?_, f2⟩
            show X5_leastInduction_10 N _ _ _ _ _ (f + 1) _ _ = _
            rw [e28, e70, X5_leastInduction_70, gi, nI_clamp (by omega), nm, gi, rd, if_neg z0, if_neg (show ¬ bI true = 0 by decide), hs, bd, if_pos (show bI false = 0 from rfl), inR_1 hi q3 nh z1]
            rfl
          · right
            rw [z1] at hs
            refine ⟨sb u 7 i (ldS c i), ⟨f2, fun j hj => st j (by omega), fun j hj => ?_⟩, ?_⟩
            · rcases Nat.lt_or_ge j i with y | y
              · exact q3 j y
              · have : j = i := by omega
                subst this; exact z1
            · show X5_leastInduction_10 N _ _ _ _ _ (f + 1) _ _ = X5_leastInduction_10 N _ _ _ _ _ f _ _
              rw [e28, e70, X5_leastInduction_70, gi, nI_clamp (by omega), nm, gi, rd, if_neg z0, if_neg (show ¬ bI true = 0 by decide), hs, bd, if_neg (show ¬ bI true = 0 by decide), nm, nI_1]
  · rintro f u ⟨q1, q2, q3⟩
    have c6 : (6 : Int32) < nI 7 := by decide
    refine ⟨u, ?_, q1⟩
    show X5_leastInduction_10 N _ _ _ _ _ (f + 1) _ _ = _
    rw [X5_leastInduction_10, X5_leastInduction_10b, if_pos c6, inR_3 q3]
    rfl
end IND2
