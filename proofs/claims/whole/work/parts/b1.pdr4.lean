/-! b1: obligations until there are none: the two loops agree -/
def lowI (O : Nat → Int64) (k : Nat) : Int32 := if low O k ≤ k then nI (low O k) else -1
section PDR4
variable {c : Ck} {σ τ σ' τ' : St} {N k n n' : Nat} {m w l m' w' l' : Nat → Nat} {O O' : Nat → Int64} {x : Int64} {L s M t : Nat}
theorem X7_lowestLevel_ok (hN : 4000000 ≤ N) (hk : k ≤ 67) (h11 : τ.1 11 = nI k) (ho : ∀ j, j < 70 → τ.2.2.2 3 j = O j) : X7_lowestLevel N τ = some (lowI O k) := by
  obtain ⟨a1, a2, a3⟩ := low_ok (O := O) (k := k)
  unfold X7_lowestLevel
  refine wf (fun f i (_ : Unit) => X7_lowestLevel_2 (fun v1 => X7_lowestLevel_27 τ v1) τ f (nI i)) (low O k) (fun _ _ => True) (fun r => r = some (lowI O k)) ?_ ?_ N 0 () (by omega) trivial (by omega)
  · rintro f i u hi -
    refine Or.inr ⟨(), trivial, ?_⟩
    show X7_lowestLevel_2 _ τ (f + 1) _ = X7_lowestLevel_2 _ τ f _
    have e : τ.2.2.2 3 i = 0 := (ho i (by omega)).trans (a2 i hi)
    simp (disch := omega) only [X7_lowestLevel_2, X7_lowestLevel_2b, h11, e, fa_lit, nI_leI, nI_ltI, nI_eq, nI_add, pk_mul, nI_clamp, bd, nm, gd_in, gd_bI, gd_b0, gd_b1, if_pos, if_neg, bI_n0, bI_n1, reduceIte, reduceCtorEq, Nat.add_zero]
  · rintro f u -
    show X7_lowestLevel_2 _ τ (f + 1) _ = _
    unfold lowI
    rcases Nat.lt_or_ge k (low O k) with z | z
    · rw [if_neg (by omega)]
      simp (disch := omega) only [X7_lowestLevel_2, X7_lowestLevel_2b, h11, X7_lowestLevel_27, fa_lit, nI_leI, nI_ltI, nI_eq, nI_add, pk_mul, nI_clamp, bd, nm, gd_in, gd_bI, gd_b0, gd_b1, if_pos, if_neg, bI_n0, bI_n1, reduceIte, reduceCtorEq, Nat.add_zero]
    · rw [if_pos z]
      have e : ¬ τ.2.2.2 3 (low O k) = 0 := by rw [ho _ (by omega)]; exact a3 z
      simp (disch := omega) only [X7_lowestLevel_2, X7_lowestLevel_2b, h11, e, X7_lowestLevel_27, fa_lit, nI_leI, nI_ltI, nI_eq, nI_add, pk_mul, nI_clamp, bd, nm, gd_in, gd_bI, gd_b0, gd_b1, if_pos, if_neg, bI_n0, bI_n1, reduceIte, reduceCtorEq, Nat.add_zero]
theorem X4_lowestObliged_ok (hN : 4000000 ≤ N) (hk : k ≤ 67) (h16 : σ.1 16 = nI k) (ho : ∀ j, j < 70 → σ.2.2.2 6 j = O j) : X4_lowestObliged N σ = some (lowI O k) := by
  obtain ⟨a1, a2, a3⟩ := low_ok (O := O) (k := k)
  unfold X4_lowestObliged
  refine wf (fun f i (_ : Unit) => X4_lowestObliged_2 (fun v1 => X4_lowestObliged_27 σ v1) (X4_lowestObliged_35 σ) σ f (nI i)) (low O k) (fun _ _ => True) (fun r => r = some (lowI O k)) ?_ ?_ N 0 () (by omega) trivial (by omega)
  · rintro f i u hi -
    refine Or.inr ⟨(), trivial, ?_⟩
    show X4_lowestObliged_2 _ _ σ (f + 1) _ = X4_lowestObliged_2 _ _ σ f _
    have e : σ.2.2.2 6 i = 0 := (ho i (by omega)).trans (a2 i hi)
    simp (disch := omega) only [X4_lowestObliged_2, X4_lowestObliged_2b, h16, e, fa_lit, nI_leI, nI_ltI, nI_eq, nI_add, pk_mul, nI_clamp, bd, nm, gd_in, gd_bI, gd_b0, gd_b1, if_pos, if_neg, bI_n0, bI_n1, reduceIte, reduceCtorEq, Nat.add_zero]
  · rintro f u -
    show X4_lowestObliged_2 _ _ σ (f + 1) _ = _
    unfold lowI
    rcases Nat.lt_or_ge k (low O k) with z | z
    · rw [if_neg (by omega)]
      simp (disch := omega) only [X4_lowestObliged_2, X4_lowestObliged_2b, h16, X4_lowestObliged_35, fa_lit, nI_leI, nI_ltI, nI_eq, nI_add, pk_mul, nI_clamp, bd, nm, gd_in, gd_bI, gd_b0, gd_b1, if_pos, if_neg, bI_n0, bI_n1, reduceIte, reduceCtorEq, Nat.add_zero]
    · rw [if_pos z]
      have e : ¬ σ.2.2.2 6 (low O k) = 0 := by rw [ho _ (by omega)]; exact a3 z
      simp (disch := omega) only [X4_lowestObliged_2, X4_lowestObliged_2b, h16, e, X4_lowestObliged_27, fa_lit, nI_leI, nI_ltI, nI_eq, nI_add, pk_mul, nI_clamp, bd, nm, gd_in, gd_bI, gd_b0, gd_b1, if_pos, if_neg, bI_n0, bI_n1, reduceIte, reduceCtorEq, Nat.add_zero]
theorem handle_ok (hN : 4000000 ≤ N) (hr : RP c k n m w l O σ τ) (hp : PI c k n m w l) (ho : OI c k O) (hL : low O k = L) (hLk : L ≤ k) (hs : ls (O L) = s) : ∃ (b : Bool) (σ' τ' : St), X4_handle N (nI s) (nI L) σ = some (bI b, σ') ∧ X7_handle N (nI s) (nI L) τ = some (bI b, τ') ∧ FR [17, 18, 19, 23] [] [9, 10, 11] [5, 6, 9] σ σ' ∧ FR [12, 13, 14, 15] [] [6, 7, 8] [3] τ τ' ∧ ∃ (n' : Nat) (m' w' l' : Nat → Nat) (O' : Nat → Int64), RP c k n' m' w' l' O' σ' τ' ∧ (b = false → PI c k n' m' w' l' ∧ OI c k O' ∧ mu (frm c n' m' w' l') O' k < mu (frm c n m w l) O k) := by
  have nz : O L ≠ 0 := by
    have := (low_ok (O := O) (k := k)).2.2 (by omega)
    rw [hL] at this; exact this
  have h0 : ∀ j, j < L → O j = 0 := fun j hj => (low_ok (O := O) (k := k)).2.1 j (by omega)
  obtain ⟨s1, s2, _⟩ := ls_ok nz
  rw [hs] at s1 s2
  have hsn := ho.2.2 L s s2
  have hr1 : RP c k n m w l O (si σ 17 (σ.1 17 + nI 1)) (si τ 13 (τ.1 13 + nI 1)) := hr.h
  have f1 : FR [17, 18, 19, 23] [] [9, 10, 11] [5, 6, 9] σ (si σ 17 (σ.1 17 + nI 1)) := FR.rf.i (by decide)
  have g1 : FR [12, 13, 14, 15] [] [6, 7, 8] [3] τ (si τ 13 (τ.1 13 + nI 1)) := FR.rf.i (by decide)
  have hr1' := hr1
  have e4 : X4_handle N (nI s) (nI L) σ = X4_handle N (nI s) (nI L) σ := rfl
  obtain ⟨a1, a2, a3, a4, a5, a6, a7, a8, a9, a10, a11⟩ := hr1
  have h64 := ns_le a1.1
  have ei := X0_initial_ok a2
  have em : (si τ 13 (τ.1 13 + nI 1)).2.1 0 = c.2.2.2.1 := a1.2.2.2.2.1
  cases hi : ht c.2.2.2.1 s
  · have hL1 : 1 ≤ L := by
      rcases Nat.lt_or_ge 0 L with z | z
      · exact z
      · have : L = 0 := by omega
        subst this
        rw [ho.2.1 s s2] at hi; cases hi
    have ef := X7_frameOf_ok hN a1 a8 (by omega) a6.2 (L := L) (by omega)
    have ec : X4_frameAt (si σ 17 (σ.1 17 + nI 1)) (nI L) = some (frm c n m w l L) := by
      have := a9 L hLk
      simp (disch := omega) only [X4_frameAt, this, fa_lit, nI_leI, nI_ltI, nI_eq, nI_add, pk_mul, nI_clamp, bd, nm, gd_in, gd_bI, gd_b0, gd_b1, if_pos, if_neg, bI_n0, bI_n1, reduceIte, reduceCtorEq, Nat.add_zero]
    cases hf : ht (frm c n m w l L) s
    · obtain ⟨σ2, τ2, m1, m2, m3, m4, m5⟩ := move_ok (s := s) hr1' hLk
      refine ⟨false, σ2, τ2, ?_, ?_, f1.tr (m3.mo (by decide)), g1.tr (m4.mo (by decide)), n, m, w, l, mvO O k L s, m5, fun _ => ⟨hp, OI_mv ho hsn h64.2 hL1 hLk, mu_up (mA_mv (fun j i hi => hi) s1 hLk h0 s2 hf)⟩⟩
      · (simp (disch := omega) only [X4_handle, ei, X6_contains_ok, hi, ec, hf, m1, fa_lit, nI_leI, nI_ltI, nI_eq, nI_add, pk_mul, nI_clamp, bd, nm, gd_in, gd_bI, gd_b0, gd_b1, if_pos, if_neg, bI_n0, bI_n1, reduceIte, reduceCtorEq, Nat.add_zero]) <;> rfl
      · (simp (disch := omega) only [X7_handle, em, X7_has_ok, hi, ef, hf, m2, fa_lit, nI_leI, nI_ltI, nI_eq, nI_add, pk_mul, nI_clamp, bd, nm, gd_in, gd_bI, gd_b0, gd_b1, if_pos, if_neg, bI_n0, bI_n1, reduceIte, reduceCtorEq, Nat.add_zero]) <;> rfl
    · have e7 : (si σ 17 (σ.1 17 + nI 1)).1 7 = nI (ns c) := a2.2.2.2.1
      have ep : X0_predecessorsOfCube N (si σ 17 (σ.1 17 + nI 1)) (nI (ns c - 1)) (nI s) = some (bef c (sg s)) := by
        rw [X0_predecessorsOfCube_ok hN a2 (by omega) s1, cu_all a1.1 hsn]
      have eb : X7_before N (si τ 13 (τ.1 13 + nI 1)) ((1 : Int64) <<< ((nI s).toInt64 &&& 63)) = some (bef c (sg s)) := X7_before_ok hN a1 (sg s)
      have ef' := X7_frameOf_ok hN a1 a8 (by omega) a6.2 (L := L - 1) (by omega)
      have ec' : X4_frameAt (si σ 17 (σ.1 17 + nI 1)) (nI (L - 1)) = some (frm c n m w l (L - 1)) := by
        have := a9 (L - 1) (by omega)
        simp (disch := omega) only [X4_frameAt, this, fa_lit, nI_leI, nI_ltI, nI_eq, nI_add, pk_mul, nI_clamp, bd, nm, gd_in, gd_bI, gd_b0, gd_b1, if_pos, if_neg, bI_n0, bI_n1, reduceIte, reduceCtorEq, Nat.add_zero]
      by_cases hP : bef c (sg s) &&& frm c n m w l (L - 1) &&& (sg s ^^^ (-1)) = 0
      · obtain ⟨M, σ1, σ2, τ2, n', m', w', l', k1, k2, k3, k4, k5, k6, k7, k8, k9⟩ := add_ok hN hr1' hp hL1 hLk hsn hi hf hP
        obtain ⟨σ3, τ3, m1, m2, m3, m4, m5⟩ := move_ok (s := s) k6 hLk
        have hP' : bef c (sg s) &&& frm c n m w l (L - 1) &&& (((1 : Int64) <<< ((nI s).toInt64 &&& 63)) ^^^ (-1)) = 0 := hP
        have el : X7_least N (bef c (sg s) &&& frm c n m w l (L - 1) &&& (((1 : Int64) <<< ((nI s).toInt64 &&& 63)) ^^^ (-1))) = some (-nI 1) := by rw [X7_least_ok hN, hP']; rfl
        refine ⟨false, σ3, τ3, ?_, ?_, (f1.tr (k4.mo (by decide))).tr (m3.mo (by decide)), (g1.tr (k5.mo (by decide))).tr (m4.mo (by decide)), n', m', w', l', mvO O k L s, m5, fun _ => ⟨k7, OI_mv ho hsn h64.2 hL1 hLk, mu_up (mA_mv k8 s1 hLk h0 s2 k9)⟩⟩
        · (simp (disch := omega) only [X4_handle, ei, X6_contains_ok, hi, ec, hf, e7, pk_sub, ep, ec', hP', k1, k2, m1, fa_lit, nI_leI, nI_ltI, nI_eq, nI_add, pk_mul, nI_clamp, bd, nm, gd_in, gd_bI, gd_b0, gd_b1, if_pos, if_neg, bI_n0, bI_n1, reduceIte, reduceCtorEq, Nat.add_zero]) <;> rfl
        · (simp (disch := omega) only [X7_handle, em, X7_has_ok, hi, ef, hf, eb, pk_sub, ef', el, k3, m2, fa_lit, nI_leI, nI_ltI, nI_eq, nI_add, pk_mul, nI_clamp, bd, nm, gd_in, gd_bI, gd_b0, gd_b1, if_pos, if_neg, bI_n0, bI_n1, reduceIte, reduceCtorEq, Nat.add_zero]) <;> rfl
      · obtain ⟨t1, t2, _⟩ := ls_ok hP
        have hP' : ¬ bef c (sg s) &&& frm c n m w l (L - 1) &&& (((1 : Int64) <<< ((nI s).toInt64 &&& 63)) ^^^ (-1)) = 0 := hP
        have el : X7_least N (bef c (sg s) &&& frm c n m w l (L - 1) &&& (((1 : Int64) <<< ((nI s).toInt64 &&& 63)) ^^^ (-1))) = some (nI (ls (bef c (sg s) &&& frm c n m w l (L - 1) &&& (sg s ^^^ (-1))))) := by rw [X7_least_ok hN, li_ok hP']; rfl
        have el' : X6_leastOf (bef c (sg s) &&& frm c n m w l (L - 1) &&& (((1 : Int64) <<< ((nI s).toInt64 &&& 63)) ^^^ (-1))) = some (nI (ls (bef c (sg s) &&& frm c n m w l (L - 1) &&& (sg s ^^^ (-1))))) := by rw [X6_leastOf_ok, li_ok hP']; rfl
        generalize ls (bef c (sg s) &&& frm c n m w l (L - 1) &&& (sg s ^^^ (-1))) = t at t1 t2 el el'
        rw [h_and, h_and, Bool.and_eq_true, Bool.and_eq_true] at t2
        have zn : ¬ nI t = -nI 1 := nI_nm1 (by omega)
        have hr2 := ad_ok (L := L - 1) (s := t) hr1' (by omega)
        have tn : t < ns c := bef_l a1.1 _ t t2.1.1
        have lw : low (adO O (L - 1) t) k ≤ L - 1 := low_le (fun z => by
          unfold adO at z
          rw [if_pos rfl] at z
          have := h_z.mp z t t1
          rw [h_or, h_sg t1] at this
          simp at this)
        refine ⟨false, _, _, ?_, ?_, f1.tr (FR.rf.b (by decide)), g1.tr (FR.rf.b (by decide)), n, m, w, l, adO O (L - 1) t, hr2, fun _ => ⟨hp, OI_ad ho tn h64.2 (by omega) (fun z => by rw [z] at t2; exact t2.1.2), mu_dn (mA_ad (fun j j' hj => frm_m a1.1 hp hj) t1 t2.1.2) (by omega)⟩⟩
        · unfold sg
          (simp (disch := omega) only [X4_handle, ei, X6_contains_ok, hi, ec, hf, e7, pk_sub, ep, ec', hP', el', X4_oblige, fa_lit, nI_leI, nI_ltI, nI_eq, nI_add, pk_mul, nI_clamp, bd, nm, gd_in, gd_bI, gd_b0, gd_b1, if_pos, if_neg, bI_n0, bI_n1, reduceIte, reduceCtorEq, Nat.add_zero]) <;> rfl
        · unfold sg
          (simp (disch := omega) only [X7_handle, em, X7_has_ok, hi, ef, hf, eb, pk_sub, ef', el, zn, fa_lit, nI_leI, nI_ltI, nI_eq, nI_add, pk_mul, nI_clamp, bd, nm, gd_in, gd_bI, gd_b0, gd_b1, if_pos, if_neg, bI_n0, bI_n1, reduceIte, reduceCtorEq, Nat.add_zero]) <;> rfl
  · refine ⟨true, _, _, ?_, ?_, f1, g1, n, m, w, l, O, hr1', fun z => by cases z⟩
    · (simp (disch := omega) only [X4_handle, ei, X6_contains_ok, hi, fa_lit, nI_leI, nI_ltI, nI_eq, nI_add, pk_mul, nI_clamp, bd, nm, gd_in, gd_bI, gd_b0, gd_b1, if_pos, if_neg, bI_n0, bI_n1, reduceIte, reduceCtorEq, Nat.add_zero]) <;> rfl
    · (simp (disch := omega) only [X7_handle, em, X7_has_ok, hi, fa_lit, nI_leI, nI_ltI, nI_eq, nI_add, pk_mul, nI_clamp, bd, nm, gd_in, gd_bI, gd_b0, gd_b1, if_pos, if_neg, bI_n0, bI_n1, reduceIte, reduceCtorEq, Nat.add_zero]) <;> rfl
theorem phase_ok (hN : 4000000 ≤ N) (k : Nat) : ∀ (M : Nat) (σ τ : St) (n : Nat) (m w l : Nat → Nat) (O : Nat → Int64), RP c k n m w l O σ τ → PI c k n m w l → OI c k O → mu (frm c n m w l) O k < M → ∀ t fc fi fo, t + M ≤ 1000000 → M + 2 ≤ fc → M + 2 ≤ fi → M + 2 ≤ fo → ∃ (b : Bool) (σ' τ' : St), X4_reachesInitialState_2 N (fun σ => X4_reachesInitialState_43 σ) (fun σ => X4_reachesInitialState_73 σ) (fun σ => X4_reachesInitialState_81 σ) fc (nI t) σ = some (bI b, σ') ∧ X7_blocks_59 N (fun v1 σ => X7_blocks_91 (fun v1 σ => X7_blocks_2 N (fun v1 σ => X7_blocks_94 v1 σ) fo v1 σ) v1 σ) fi 0 (lowI O k) τ = some (bI b, τ') ∧ FR [17, 18, 19, 23] [] [9, 10, 11] [5, 6, 9] σ σ' ∧ FR [12, 13, 14, 15] [] [6, 7, 8] [3] τ τ' ∧ ∃ (n' : Nat) (m' w' l' : Nat → Nat) (O' : Nat → Int64), RP c k n' m' w' l' O' σ' τ' ∧ (b = false → PI c k n' m' w' l' ∧ ∀ L, O' L = 0) := by
  intro M
  induction M with
  | zero => intro σ τ n m w l O _ _ _ h; omega
  | succ M ih =>
    intro σ τ n m w l O hr hp ho hmu t fc fi fo ht1 hfc hfi hfo
    obtain ⟨fc, rfl⟩ : ∃ f, fc = f + 1 := ⟨fc - 1, by omega⟩
    obtain ⟨fi, rfl⟩ : ∃ f, fi = f + 1 := ⟨fi - 1, by omega⟩
    have hr' := hr
    obtain ⟨a1, a2, a3, a4, a5, a6, a7, a8, a9, a10, a11⟩ := hr
    have h64 := ns_le a1.1
    have tt : ¬ (1000000 : Int32) ≤ nI t := nI_ge (b := 1000000) (by omega) (by omega)
    have lo := X4_lowestObliged_ok hN a3 a5.1 (fun j hj => (a10 j hj).1)
    rcases Nat.lt_or_ge k (low O k) with z | z
    · have eI : lowI O k = -1 := if_neg (by omega)
      have oz : ∀ L, O L = 0 := fun L => by
        rcases Nat.lt_or_ge k L with y | y
        · exact ho.1 L y
        · exact (low_ok (O := O) (k := k)).2.1 L (by omega)
      rw [eI] at lo ⊢
      obtain ⟨fo, rfl⟩ : ∃ f, fo = f + 1 := ⟨fo - 1, by omega⟩
      have ec : X4_frameAt σ (nI k) = some (frm c n m w l k) := by
        have := a9 k (Nat.le_refl _)
        simp (disch := omega) only [X4_frameAt, this, fa_lit, nI_leI, nI_ltI, nI_eq, nI_add, pk_mul, nI_clamp, bd, nm, gd_in, gd_bI, gd_b0, gd_b1, if_pos, if_neg, bI_n0, bI_n1, reduceIte, reduceCtorEq, Nat.add_zero]
      have ef := X7_frameOf_ok hN a1 a8 (by omega) a6.2 (L := k) (by omega)
      by_cases hz : frm c n m w l k &&& bad c = 0
      · refine ⟨false, σ, τ, ?_, ?_, FR.rf, FR.rf, n, m, w, l, O, hr', fun _ => ⟨hp, oz⟩⟩
        · have l1 : X6_leastOf (frm c n m w l k &&& bad c) = some (-1) := by rw [X6_leastOf_ok, hz]; rfl
          rw [X4_reachesInitialState_2, X4_reachesInitialState_2b, if_neg tt, lo, bd, if_pos rfl, a5.1, ec, bd, X0_bad_ok a2, bd, l1, bd, if_pos rfl]
          rfl
        · rw [X7_blocks_59, X7_blocks_59b, if_pos rfl, X7_blocks_91, X7_blocks_2, X7_blocks_2b, if_pos rfl, a5.2, ef, bd, X7_bad_ok a1, bd, if_pos hz]
          rfl
      · obtain ⟨t1, t2, _⟩ := ls_ok hz
        have l1 : X6_leastOf (frm c n m w l k &&& bad c) = some (nI (ls (frm c n m w l k &&& bad c))) := by rw [X6_leastOf_ok, li_ok hz]
        have l2 : X7_least N (frm c n m w l k &&& bad c) = some (nI (ls (frm c n m w l k &&& bad c))) := by rw [X7_least_ok hN, li_ok hz]
        generalize ls (frm c n m w l k &&& bad c) = s at t1 t2 l1 l2
        rw [h_and, Bool.and_eq_true] at t2
        have zn : ¬ nI s = -1 := nI_nm1 (by omega)
        have hr2 := ad_ok (L := k) (s := s) hr' (Nat.le_refl _)
        have sn : s < ns c := bad_l a1.1 s t2.2
        have lw : low (adO O k s) k ≤ k := low_le (fun z => by
          unfold adO at z
          rw [if_pos rfl] at z
          have := h_z.mp z s t1
          rw [h_or, h_sg t1] at this
          simp at this)
        have hk1 : k = 0 → ht c.2.2.2.1 s = true := fun z => by subst z; exact t2.1
        obtain ⟨b, σ', τ', y1, y2, y3, y4, y5⟩ := ih _ _ n m w l (adO O k s) hr2 hp (OI_ad ho sn h64.2 (Nat.le_refl _) hk1) (by
          have := mu_dn (mA_ad (k := k) (O := O) (F := frm c n m w l) (fun j j' hj => frm_m a1.1 hp hj) t1 t2.1) (show low (adO O k s) k < low O k by omega)
          omega) (t + 1) fc N fo (by omega) (by omega) (by omega) (by omega)
        have f0 : FR [17, 18, 19, 23] [] [9, 10, 11] [5, 6, 9] σ (sb σ 6 k (σ.2.2.2 6 k ||| sg s)) := FR.rf.b (by decide)
        have g0 : FR [12, 13, 14, 15] [] [6, 7, 8] [3] τ (sb τ 3 k (τ.2.2.2 3 k ||| sg s)) := FR.rf.b (by decide)
        refine ⟨b, σ', τ', ?_, ?_, f0.tr y3, g0.tr y4, y5⟩
        · have eo : X4_oblige (nI s) (nI k) σ = some (sb σ 6 k (σ.2.2.2 6 k ||| sg s)) := by
            unfold sg
            simp (disch := omega) only [X4_oblige, fa_lit, nI_leI, nI_ltI, nI_eq, nI_add, pk_mul, nI_clamp, bd, nm, gd_in, gd_bI, gd_b0, gd_b1, if_pos, if_neg, bI_n0, bI_n1, reduceIte, reduceCtorEq, Nat.add_zero]
          rw [X4_reachesInitialState_2, X4_reachesInitialState_2b, if_neg tt, lo, bd, if_pos rfl, a5.1, ec, bd, X0_bad_ok a2, bd, l1, bd, if_neg zn, eo, bd, nm, nI_1]
          exact y1
        · have lo2 := X7_lowestLevel_ok hN hr2.2.2.1 hr2.2.2.2.2.1.2 (fun j hj => (hr2.2.2.2.2.2.2.2.2.2.1 j hj).2)
          have gk : ∀ {β : Type} (y : Option β), gd (inb (nI k) 128) y = y := fun y => gd_in (by omega) (by omega)
          rw [X7_blocks_59, X7_blocks_59b, if_pos rfl, X7_blocks_91, X7_blocks_2, X7_blocks_2b, if_pos rfl, a5.2, ef, bd, X7_bad_ok a1, bd, if_neg hz, gk, bd, bd, l2, bd, gk, nI_clamp (by omega), nm]
          show bd (X7_lowestLevel N (sb τ 3 k (τ.2.2.2 3 k ||| sg s))) _ = _
          rw [lo2, bd]
          exact y2
    · have eI : lowI O k = nI (low O k) := if_pos z
      have nz := (low_ok (O := O) (k := k)).2.2 z
      obtain ⟨b, σ', τ', x1, x2, x3, x4, n', m', w', l', O', x5, x6⟩ := handle_ok hN hr' hp ho rfl z rfl
      have zn : ¬ nI (low O k) = -1 := nI_nm1 (by omega)
      have oa : X4_obligedAt σ (nI (low O k)) = some (O (low O k)) := by
        have := (a10 (low O k) (by omega)).1
        simp (disch := omega) only [X4_obligedAt, this, fa_lit, nI_leI, nI_ltI, nI_eq, nI_add, pk_mul, nI_clamp, bd, nm, gd_in, gd_bI, gd_b0, gd_b1, if_pos, if_neg, bI_n0, bI_n1, reduceIte, reduceCtorEq, Nat.add_zero]
      have l1 : X6_leastOf (O (low O k)) = some (nI (ls (O (low O k)))) := by rw [X6_leastOf_ok, li_ok nz]
      have l2 : X7_least N (τ.2.2.2 3 (low O k)) = some (nI (ls (O (low O k)))) := by rw [(a10 (low O k) (by omega)).2, X7_least_ok hN, li_ok nz]
      have lo2 := X7_lowestLevel_ok hN x5.2.2.1 x5.2.2.2.2.1.2 (fun j hj => (x5.2.2.2.2.2.2.2.2.2.1 j hj).2)
      have gk : ∀ {β : Type} (y : Option β), gd (inb (nI (low O k)) 128) y = y := fun y => gd_in (by omega) (by omega)
      rw [eI] at lo ⊢
      cases b
      · obtain ⟨p1, p2, p3⟩ := x6 rfl
        obtain ⟨b, σ2, τ2, y1, y2, y3, y4, y5⟩ := ih σ' τ' n' m' w' l' O' x5 p1 p2 (by omega) (t + 1) fc fi fo (by omega) (by omega) (by omega) (by omega)
        refine ⟨b, σ2, τ2, ?_, ?_, x3.tr y3, x4.tr y4, y5⟩
        · rw [X4_reachesInitialState_2, X4_reachesInitialState_2b, if_neg tt, lo, bd, if_neg zn, oa, bd, l1, bd, x1, bd, if_pos (show bI false = 0 from rfl), nm, nI_1]
          exact y1
        · rw [X7_blocks_59, X7_blocks_59b, if_neg zn, if_pos rfl, gk, nI_clamp (by omega), l2, bd, x2, bd, lo2, bd]
          exact y2
      · refine ⟨true, σ', τ', ?_, ?_, x3, x4, n', m', w', l', O', x5, fun y => by cases y⟩
        · rw [X4_reachesInitialState_2, X4_reachesInitialState_2b, if_neg tt, lo, bd, if_neg zn, oa, bd, l1, bd, x1, bd, if_neg (show ¬ bI true = 0 by decide)]
          rfl
        · obtain ⟨fi, rfl⟩ : ∃ f, fi = f + 1 := ⟨fi - 1, by omega⟩
          obtain ⟨fo, rfl⟩ : ∃ f, fo = f + 1 := ⟨fo - 1, by omega⟩
          rw [X7_blocks_59, X7_blocks_59b, if_neg zn, if_pos rfl, gk, nI_clamp (by omega), l2, bd, x2, bd, lo2, bd]
          have e1 : ¬ bI true = 0 := by decide
          show X7_blocks_59 N _ (fi + 1) (bI true) (lowI O' k) τ' = _
          rw [X7_blocks_59, X7_blocks_59b, if_neg e1, ite_self, X7_blocks_91, X7_blocks_2, X7_blocks_2b, if_neg e1, X7_blocks_94, gd_bI]
theorem blocks_ok (hN : 4000000 ≤ N) (hr : RP c k n m w l (fun _ => 0) σ τ) (hp : PI c k n m w l) : ∃ (b : Bool) (σ' τ' : St), X4_reachesInitialState N σ = some (bI b, σ') ∧ X7_blocks N τ = some (bI b, τ') ∧ FR [17, 18, 19, 23] [] [9, 10, 11] [5, 6, 9] σ σ' ∧ FR [12, 13, 14, 15] [] [6, 7, 8] [3] τ τ' ∧ ∃ (n' : Nat) (m' w' l' : Nat → Nat) (O' : Nat → Int64), RP c k n' m' w' l' O' σ' τ' ∧ (b = false → PI c k n' m' w' l' ∧ ∀ L, O' L = 0) := by
  have hk := hr.2.2.1
  have ho : OI c k (fun _ => 0) := ⟨fun _ _ => rfl, fun s hs => (by have z : ht (0 : Int64) s = true := hs; rw [h_0] at z; cases z), fun L s hs => (by have z : ht (0 : Int64) s = true := hs; rw [h_0] at z; cases z)⟩
  obtain ⟨b, σ', τ', y1, y2, y3⟩ := phase_ok hN k (mu (frm c n m w l) (fun _ => 0) k + 1) σ τ n m w l (fun _ => 0) hr hp ho (by omega) 0 N N N (by have := mu_le (F := frm c n m w l) (O := fun _ => 0) hk; omega) (by have := mu_le (F := frm c n m w l) (O := fun _ => 0) hk; omega) (by have := mu_le (F := frm c n m w l) (O := fun _ => 0) hk; omega) (by have := mu_le (F := frm c n m w l) (O := fun _ => 0) hk; omega)
  refine ⟨b, σ', τ', y1, ?_, y3⟩
  have eI : lowI (fun _ => 0) k = -1 := if_neg (fun z => (low_ok (O := fun _ => 0) (k := k)).2.2 z rfl)
  obtain ⟨f, hf⟩ : ∃ f, N = f + 1 := ⟨N - 1, by omega⟩
  rw [eI] at y2
  rw [← y2]
  have : ∀ g, X7_blocks_59 N g N 0 (-1) τ = g 0 τ := fun g => by
    rw [hf, X7_blocks_59, X7_blocks_59b, if_pos rfl]
  rw [this]
  rfl
end PDR4
