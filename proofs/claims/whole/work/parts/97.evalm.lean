/-! 97: a formula's value, in the reference -/
theorem an_and (x y m : Int64) : (x &&& m) &&& (y &&& m) = (x &&& y) &&& m := h_ext (fun i _ => by
  rw [h_and, h_and, h_and, h_and, h_and]
  cases ht x i <;> cases ht y i <;> cases ht m i <;> rfl)
theorem an_xor (x y m : Int64) : (x &&& m) ^^^ (y &&& m) = (x ^^^ y) &&& m := h_ext (fun i _ => by
  rw [h_xor, h_and, h_and, h_and, h_xor]
  cases ht x i <;> cases ht y i <;> cases ht m i <;> rfl)
theorem an_or (x y m : Int64) : (x &&& m) ||| (y &&& m) = (x ||| y) &&& m := h_ext (fun i _ => by
  rw [h_or, h_and, h_and, h_and, h_or]
  cases ht x i <;> cases ht y i <;> cases ht m i <;> rfl)
theorem an_not (x m : Int64) : m &&& ((x &&& m) ^^^ (-1)) = (x ^^^ (-1)) &&& m := h_ext (fun i hi => by
  rw [h_and, h_not _ hi, h_and, h_and, h_not _ hi]
  cases ht x i <;> cases ht m i <;> rfl)
theorem an_m1 (m : Int64) : (-1 : Int64) &&& m = m := h_ext (fun i hi => by rw [h_and, h_m1 i hi, Bool.true_and])
theorem an_0 (m : Int64) : (0 : Int64) &&& m = 0 := h_ext (fun i hi => by rw [h_and, h_0, Bool.false_and])
def RM (c : Ck) (f : Nat → Int64) : List (Nat → Int64) → Prop
  | [] => True
  | x :: vs => (∀ v, v < 4 → f (4 * vs.length + v) = x v &&& al c) ∧ RM c f vs
def SM (c : Ck) (gs : List Nat) (vs : List (Nat → Int64)) (τ : St) : Prop := τ.1 8 = nI gs.length ∧ τ.1 7 = nI vs.length ∧ RS (τ.2.2.1 2) gs ∧ RM c (τ.2.2.2 2) vs
section EVAL
variable {c : Ck} {t : Nat → Nat} {L : Nat} {σ τ : St} {N : Nat}
theorem RM_cg {f f' : Nat → Int64} : ∀ vs : List (Nat → Int64), (∀ q, q < 4 * vs.length → f' q = f q) → RM c f vs → RM c f' vs := by
  intro vs
  induction vs with
  | nil => intro _ _; trivial
  | cons x vs ih =>
    intro h1 h2
    rw [List.length_cons] at h1
    exact ⟨fun v hv => (h1 _ (by omega)).trans (h2.1 v hv), ih (fun q hq => h1 q (by omega)) h2.2⟩
theorem X7_joined_ok {g : Nat} (hg : g < 127) (l r : Nat → Int64) (v : Nat) : X7_joined (nI g) (l v &&& al c) (r v &&& al c) = some (jn g l r v &&& al c) := by
  unfold jn
  by_cases q : g = 38
  · rw [if_pos q, ← an_and]
    simp (disch := omega) only [X7_joined, fa_lit, nI_leI, nI_ltI, nI_eq, nI_add, pk_mul, nI_clamp, bd, nm, gd_in, gd_bI, gd_b0, gd_b1, if_pos, if_neg, bI_n0, bI_n1, reduceIte, reduceCtorEq, Nat.add_zero]
  · by_cases q2 : g = 94
    · rw [if_neg q, if_pos q2, ← an_xor]
      simp (disch := omega) only [X7_joined, fa_lit, nI_leI, nI_ltI, nI_eq, nI_add, pk_mul, nI_clamp, bd, nm, gd_in, gd_bI, gd_b0, gd_b1, if_pos, if_neg, bI_n0, bI_n1, reduceIte, reduceCtorEq, Nat.add_zero]
    · rw [if_neg q, if_neg q2, ← an_or]
      simp (disch := omega) only [X7_joined, fa_lit, nI_leI, nI_ltI, nI_eq, nI_add, pk_mul, nI_clamp, bd, nm, gd_in, gd_bI, gd_b0, gd_b1, if_pos, if_neg, bI_n0, bI_n1, reduceIte, reduceCtorEq, Nat.add_zero]
theorem X7_nameSet_ok (hN : 4000000 ≤ N) (h : CM c τ) {a v : Nat} (ha : a < 127) (hv : v < 4) (ho : isopN c.1 c.2.1 a = true) : X7_nameSet N τ (nI a) (nI v) = some (opv a v &&& al c) := by
  have hb := h.1.2.1
  have hi := h.1.2.2.1
  by_cases q : a = 48
  · subst q
    rw [show opv 48 v = 0 by simp [opv], an_0]
    simp (disch := omega) only [X7_nameSet, X7_nameSet_12, fa_lit, nI_leI, nI_ltI, nI_eq, nI_add, pk_mul, nI_clamp, bd, nm, gd_in, gd_bI, gd_b0, gd_b1, if_pos, if_neg, bI_n0, bI_n1, reduceIte, reduceCtorEq, Nat.add_zero]
  · by_cases q2 : a = 49
    · subst q2
      rw [show opv 49 v = -1 by simp [opv], an_m1]
      simp (disch := omega) only [X7_nameSet, X7_nameSet_12, X7_all_ok h, fa_lit, nI_leI, nI_ltI, nI_eq, nI_add, pk_mul, nI_clamp, bd, nm, gd_in, gd_bI, gd_b0, gd_b1, if_pos, if_neg, bI_n0, bI_n1, reduceIte, reduceCtorEq, Nat.add_zero]
    · by_cases q3 : a = 120 ∨ a = 121
      · have e : opv a v = if v.testBit (a - 120) = true then -1 else 0 := by
          unfold opv
          rw [if_neg (by omega), if_pos q3]
        have tv : (nI v >>> (nI (a - 120) &&& nI 31)) &&& nI 1 = bI (v.testBit (a - 120)) := tbi v (by omega) (a - 120) (by omega)
        rw [e]
        rcases q3 with q3 | q3
        · subst q3
          cases e2 : v.testBit (120 - 120)
          · rw [if_neg (by simp), an_0]
            rw [e2] at tv
            simp (disch := omega) only [X7_nameSet, X7_nameSet_39, pk_sub, tv, fa_lit, nI_leI, nI_ltI, nI_eq, nI_add, pk_mul, nI_clamp, bd, nm, gd_in, gd_bI, gd_b0, gd_b1, if_pos, if_neg, bI_n0, bI_n1, reduceIte, reduceCtorEq, Nat.add_zero]
          · rw [if_pos rfl, an_m1]
            rw [e2] at tv
            simp (disch := omega) only [X7_nameSet, X7_nameSet_39, pk_sub, tv, X7_all_ok h, fa_lit, nI_leI, nI_ltI, nI_eq, nI_add, pk_mul, nI_clamp, bd, nm, gd_in, gd_bI, gd_b0, gd_b1, if_pos, if_neg, bI_n0, bI_n1, reduceIte, reduceCtorEq, Nat.add_zero]
        · subst q3
          cases e2 : v.testBit (121 - 120)
          · rw [if_neg (by simp), an_0]
            rw [e2] at tv
            simp (disch := omega) only [X7_nameSet, X7_nameSet_39, pk_sub, tv, fa_lit, nI_leI, nI_ltI, nI_eq, nI_add, pk_mul, nI_clamp, bd, nm, gd_in, gd_bI, gd_b0, gd_b1, if_pos, if_neg, bI_n0, bI_n1, reduceIte, reduceCtorEq, Nat.add_zero]
          · rw [if_pos rfl, an_m1]
            rw [e2] at tv
            simp (disch := omega) only [X7_nameSet, X7_nameSet_39, pk_sub, tv, X7_all_ok h, fa_lit, nI_leI, nI_ltI, nI_eq, nI_add, pk_mul, nI_clamp, bd, nm, gd_in, gd_bI, gd_b0, gd_b1, if_pos, if_neg, bI_n0, bI_n1, reduceIte, reduceCtorEq, Nat.add_zero]
      · have q4 : 97 ≤ a ∧ a < 97 + c.1 := by
          unfold isopN at ho
          rw [Bool.or_eq_true, Bool.or_eq_true, Bool.or_eq_true, Bool.and_eq_true, Bool.and_eq_true, decide_eq_true_eq, decide_eq_true_eq, decide_eq_true_eq, decide_eq_true_eq, decide_eq_true_eq, decide_eq_true_eq] at ho
          omega
        have e : opv a v = swb (a - 97) := by unfold opv; rw [if_pos (by omega)]
        have e2 : swb (a - 97) &&& al c = bset c (a - 97) := h_ext (fun i hi => by
          rw [h_and, h_swb (a - 97) (by omega) i hi, h_al h.1, bset, h_mk' _ hi, Bool.and_comm])
        rw [e, e2]
        simp (disch := omega) only [X7_nameSet, pk_sub, X7_bitSet_ok hN h, fa_lit, nI_leI, nI_ltI, nI_eq, nI_add, pk_mul, nI_clamp, bd, nm, gd_in, gd_bI, gd_b0, gd_b1, if_pos, if_neg, bI_n0, bI_n1, reduceIte, reduceCtorEq, Nat.add_zero]
theorem X7_pushOperand_ok (hN : 4000000 ≤ N) (h : CM c τ) {gs : List Nat} {vs : List (Nat → Int64)} (hs : SM c gs vs τ) (hl : vs.length < 60) {a : Nat} (ha : a < 127) (ho : isopN c.1 c.2.1 a = true) : ∃ τ', X7_pushOperand N (nI a) τ = some τ' ∧ FR [7, 8] [] [2] [2] τ τ' ∧ SM c gs (opv a :: vs) τ' := by
  obtain ⟨s1, s2, s3, s4⟩ := hs
  unfold X7_pushOperand
  refine wf (fun n i u => X7_pushOperand_2 N (fun σ => X7_pushOperand_32 σ) (nI a) n (nI i) u) 4 (fun i u => FR [] [] [] [2] τ u ∧ (∀ q, q < 4 * vs.length → u.2.2.2 2 q = τ.2.2.2 2 q) ∧ ∀ v, v < i → u.2.2.2 2 (4 * vs.length + v) = opv a v &&& al c) (fun r => ∃ τ', r = some τ' ∧ FR [7, 8] [] [2] [2] τ τ' ∧ SM c gs (opv a :: vs) τ') ?_ ?_ N 0 τ (by omega) ⟨FR.rf, fun _ _ => rfl, fun v hv => by omega⟩ (by omega)
  · rintro n i u hi ⟨hf, h1, h2⟩
    have hu := h.fr hf (by decide)
    have e7 : u.1 7 = nI vs.length := by rw [hf.1 7 (by decide)]; exact s2
    refine Or.inr ⟨sb u 2 (4 * vs.length + i) (opv a i &&& al c), ⟨hf.b (by decide), fun q hq => (v_n (by omega)).trans (h1 q hq), fun v hv => ?_⟩, ?_⟩
    · rcases Nat.lt_or_ge v i with q | q
      · exact (v_n (by omega)).trans (h2 v q)
      · have : v = i := by omega
        subst this; exact v_s
    · show X7_pushOperand_2 N _ _ (n + 1) _ _ = X7_pushOperand_2 N _ _ n _ _
      simp (disch := omega) only [X7_pushOperand_2, X7_pushOperand_2b, X7_nameSet_ok hN hu ha hi ho, e7, fa_lit, nI_leI, nI_ltI, nI_eq, nI_add, pk_mul, nI_clamp, bd, nm, gd_in, gd_bI, gd_b0, gd_b1, if_pos, if_neg, bI_n0, bI_n1, reduceIte, reduceCtorEq, Nat.add_zero]
  · rintro n u ⟨hf, h1, h2⟩
    have e7 : u.1 7 = nI vs.length := by rw [hf.1 7 (by decide)]; exact s2
    refine ⟨si u 7 (nI (vs.length + 1)), ?_, (hf.mo (by decide)).i (by decide), ?_, rfl, ?_, h2, RM_cg vs h1 s4⟩
    · show X7_pushOperand_2 N _ _ (n + 1) _ _ = _
      simp (disch := omega) only [X7_pushOperand_2, X7_pushOperand_2b, X7_pushOperand_32, e7, fa_lit, nI_leI, nI_ltI, nI_eq, nI_add, pk_mul, nI_clamp, bd, nm, gd_in, gd_bI, gd_b0, gd_b1, if_pos, if_neg, bI_n0, bI_n1, reduceIte, reduceCtorEq, Nat.add_zero]
    · exact (hf.1 8 (by decide)).trans s1
    · show RS (u.2.2.1 2) gs
      rw [hf.2.2.1 2 (by decide)]; exact s3
theorem X7_pushSign_ok {gs : List Nat} {vs : List (Nat → Int64)} (hs : SM c gs vs τ) (hl : gs.length < 60) (g : Nat) : ∃ τ', X7_pushSign (nI g) τ = some τ' ∧ FR [7, 8] [] [2] [2] τ τ' ∧ SM c (g :: gs) vs τ' := by
  obtain ⟨h1, h2, h3, h4⟩ := hs
  refine ⟨si (sa τ 2 gs.length (nI g)) 8 (nI (gs.length + 1)), ?_, (FR.rf.a (by decide)).i (by decide), rfl, h2, ⟨u_s, RS_up gs h3 (Nat.le_refl _)⟩, h4⟩
  simp (disch := omega) only [X7_pushSign, h1, sa_i, fa_lit, nI_leI, nI_ltI, nI_eq, nI_add, pk_mul, nI_clamp, bd, nm, gd_in, gd_bI, gd_b0, gd_b1, if_pos, if_neg, bI_n0, bI_n1, reduceIte, reduceCtorEq, Nat.add_zero]
theorem X7_doSign_not (hN : 4000000 ≤ N) (h : CM c τ) {gs : List Nat} {x : Nat → Int64} {vs : List (Nat → Int64)} (hs : SM c (33 :: gs) (x :: vs) τ) (hl : gs.length + vs.length < 60) : ∃ τ', X7_doSign N τ = some τ' ∧ FR [7, 8] [] [2] [2] τ τ' ∧ SM c gs (ng (x :: vs)) τ' := by
  obtain ⟨s1, s2, s3, s4⟩ := hs
  rw [List.length_cons] at s1 s2
  have hx : ∀ v, 4 * (vs.length + 1) - 4 + v = 4 * vs.length + v := fun v => by omega
  have es : τ.2.2.1 2 gs.length = nI 33 := s3.1
  have hfz : FR [7, 8] [] [2] [2] τ (si τ 8 (nI gs.length)) := FR.rf.i (by decide)
  simp (disch := omega) only [X7_doSign, s1, pk_sub, Nat.add_sub_cancel, si_s, si_a, es, fa_lit, nI_leI, nI_ltI, nI_eq, nI_add, pk_mul, nI_clamp, bd, nm, gd_in, gd_bI, gd_b0, gd_b1, if_pos, if_neg, bI_n0, bI_n1, reduceIte, reduceCtorEq, Nat.add_zero]
  refine wf (fun n i u => X7_doSign_22 (fun v1 σ => X7_doSign_78 N v1 σ) (nI 33) n (nI i) u) 4 (fun i u => FR [] [] [] [2] (si τ 8 (nI gs.length)) u ∧ (∀ q, q < 4 * vs.length → u.2.2.2 2 q = τ.2.2.2 2 q) ∧ (∀ v, v < i → u.2.2.2 2 (4 * vs.length + v) = (x v ^^^ (-1)) &&& al c) ∧ ∀ v, i ≤ v → v < 4 → u.2.2.2 2 (4 * vs.length + v) = x v &&& al c) (fun r => ∃ τ', r = some τ' ∧ FR [7, 8] [] [2] [2] τ τ' ∧ SM c gs (ng (x :: vs)) τ') ?_ ?_ N 0 _ (by omega) ⟨FR.rf, fun _ _ => rfl, fun v hv => by omega, fun v _ hv => s4.1 v hv⟩ (by omega)
  · rintro n i u hi ⟨hf, h1, h2, h3⟩
    have hu := (h.fr hfz (by decide)).fr hf (by decide)
    have e7 : u.1 7 = nI (vs.length + 1) := by rw [hf.1 7 (by decide)]; exact s2
    have e3 := h3 i (Nat.le_refl _) hi
    refine Or.inr ⟨sb u 2 (4 * vs.length + i) ((x i ^^^ (-1)) &&& al c), ⟨hf.b (by decide), fun q hq => (v_n (by omega)).trans (h1 q hq), fun v hv => ?_, fun v hv hv4 => (v_n (by omega)).trans (h3 v (by omega) hv4)⟩, ?_⟩
    · rcases Nat.lt_or_ge v i with q | q
      · exact (v_n (by omega)).trans (h2 v q)
      · have : v = i := by omega
        subst this; exact v_s
    · show X7_doSign_22 _ _ (n + 1) _ _ = X7_doSign_22 _ _ n _ _
      simp (disch := omega) only [X7_doSign_22, X7_doSign_22b, X7_all_ok hu, e7, pk_sub, hx, e3, an_not, fa_lit, nI_leI, nI_ltI, nI_eq, nI_add, pk_mul, nI_clamp, bd, nm, gd_in, gd_bI, gd_b0, gd_b1, if_pos, if_neg, bI_n0, bI_n1, reduceIte, reduceCtorEq, Nat.add_zero]
  · rintro n u ⟨hf, h1, h2, h3⟩
    have e7 : u.1 7 = nI (vs.length + 1) := by rw [hf.1 7 (by decide)]; exact s2
    refine ⟨si u 7 (nI (vs.length + 1)), ?_, (hfz.tr (hf.mo (by decide))).i (by decide), ?_, rfl, ?_, h2, RM_cg vs h1 s4.2⟩
    · show X7_doSign_22 _ _ (n + 1) _ _ = _
      have e0 : X7_doSign_80 (fun v1 σ => X7_doSign_148 v1 σ) (nI 33) N (nI 0) u = X7_doSign_148 (nI 33) u := by
        obtain ⟨M, rfl⟩ : ∃ M, N = M + 1 := ⟨N - 1, by omega⟩
        simp (disch := omega) only [X7_doSign_80, X7_doSign_80b, fa_lit, nI_leI, nI_ltI, nI_eq, nI_add, pk_mul, nI_clamp, bd, nm, gd_in, gd_bI, gd_b0, gd_b1, if_pos, if_neg, bI_n0, bI_n1, reduceIte, reduceCtorEq, Nat.add_zero]
      simp (disch := omega) only [X7_doSign_22, X7_doSign_22b, X7_doSign_78, fa_lit, nI_leI, nI_ltI, nI_eq, nI_add, pk_mul, nI_clamp, bd, nm, gd_in, gd_bI, gd_b0, gd_b1, if_pos, if_neg, bI_n0, bI_n1, reduceIte, reduceCtorEq, Nat.add_zero]
      rw [e0]
      simp (disch := omega) only [X7_doSign_148, X7_doSign_164, e7, pk_sub, Nat.sub_zero, fa_lit, nI_leI, nI_ltI, nI_eq, nI_add, pk_mul, nI_clamp, bd, nm, gd_in, gd_bI, gd_b0, gd_b1, if_pos, if_neg, bI_n0, bI_n1, reduceIte, reduceCtorEq, Nat.add_zero]
    · exact (hf.1 8 (by decide)).trans rfl
    · show RS (u.2.2.1 2) gs
      rw [hf.2.2.1 2 (by decide)]; exact s3.2
theorem X7_doSign_bin (hN : 4000000 ≤ N) (h : CM c τ) {g : Nat} {gs : List Nat} {r l : Nat → Int64} {vs : List (Nat → Int64)} (hs : SM c (g :: gs) (r :: l :: vs) τ) (hl : gs.length + vs.length < 58) (hg : 1 ≤ st3 g) : ∃ τ', X7_doSign N τ = some τ' ∧ FR [7, 8] [] [2] [2] τ τ' ∧ SM c gs (jn g l r :: vs) τ' := by
  obtain ⟨s1, s2, s3, s4⟩ := hs
  rw [List.length_cons] at s1 s2
  rw [List.length_cons] at s2
  have hg1 := st3_v hg
  have hg2 : g < 127 := by omega
  have hg3 : g ≠ 33 := by omega
  have hx : ∀ v, 4 * (vs.length + 1 + 1) - 8 + v = 4 * vs.length + v := fun v => by omega
  have hy : ∀ v, 4 * (vs.length + 1 + 1) - 4 + v = 4 * vs.length + 4 + v := fun v => by omega
  have es : τ.2.2.1 2 gs.length = nI g := s3.1
  have hfz : FR [7, 8] [] [2] [2] τ (si τ 8 (nI gs.length)) := FR.rf.i (by decide)
  have sr : ∀ v, v < 4 → τ.2.2.2 2 (4 * vs.length + 4 + v) = r v &&& al c := fun v hv => by
    have := s4.1 v hv
    rw [List.length_cons] at this
    rw [← this]
    congr 1
  have sl := s4.2.1
  obtain ⟨M, hM⟩ : ∃ M, N = M + 1 := ⟨N - 1, by omega⟩
  have e0 : X7_doSign_22 (fun v1 σ => X7_doSign_78 N v1 σ) (nI g) N (nI 0) (si τ 8 (nI gs.length)) = X7_doSign_78 N (nI g) (si τ 8 (nI gs.length)) := by
    conv => lhs; arg 3; rw [hM]
    simp (disch := omega) only [X7_doSign_22, X7_doSign_22b, fa_lit, nI_leI, nI_ltI, nI_eq, nI_add, pk_mul, nI_clamp, bd, nm, gd_in, gd_bI, gd_b0, gd_b1, if_pos, if_neg, bI_n0, bI_n1, reduceIte, reduceCtorEq, Nat.add_zero]
  simp (disch := omega) only [X7_doSign, s1, pk_sub, Nat.add_sub_cancel, si_s, si_a, es, fa_lit, nI_leI, nI_ltI, nI_eq, nI_add, pk_mul, nI_clamp, bd, nm, gd_in, gd_bI, gd_b0, gd_b1, if_pos, if_neg, bI_n0, bI_n1, reduceIte, reduceCtorEq, Nat.add_zero]
  rw [e0]
  simp (disch := omega) only [X7_doSign_78, fa_lit, nI_leI, nI_ltI, nI_eq, nI_add, pk_mul, nI_clamp, bd, nm, gd_in, gd_bI, gd_b0, gd_b1, if_pos, if_neg, bI_n0, bI_n1, reduceIte, reduceCtorEq, Nat.add_zero]
  refine wf (fun n i u => X7_doSign_80 (fun v1 σ => X7_doSign_148 v1 σ) (nI g) n (nI i) u) 4 (fun i u => FR [] [] [] [2] (si τ 8 (nI gs.length)) u ∧ (∀ q, q < 4 * vs.length → u.2.2.2 2 q = τ.2.2.2 2 q) ∧ (∀ v, v < i → u.2.2.2 2 (4 * vs.length + v) = jn g l r v &&& al c) ∧ (∀ v, i ≤ v → v < 4 → u.2.2.2 2 (4 * vs.length + v) = l v &&& al c) ∧ ∀ v, v < 4 → u.2.2.2 2 (4 * vs.length + 4 + v) = r v &&& al c) (fun r' => ∃ τ', r' = some τ' ∧ FR [7, 8] [] [2] [2] τ τ' ∧ SM c gs (jn g l r :: vs) τ') ?_ ?_ N 0 _ (by omega) ⟨FR.rf, fun _ _ => rfl, fun v hv => by omega, fun v _ hv => sl v hv, sr⟩ (by omega)
  · rintro n i u hi ⟨hf, h1, h2, h3, h4⟩
    have e7 : u.1 7 = nI (vs.length + 1 + 1) := by rw [hf.1 7 (by decide)]; exact s2
    have e3 := h3 i (Nat.le_refl _) hi
    have e4 := h4 i hi
    refine Or.inr ⟨sb u 2 (4 * vs.length + i) (jn g l r i &&& al c), ⟨hf.b (by decide), fun q hq => (v_n (by omega)).trans (h1 q hq), fun v hv => ?_, fun v hv hv4 => (v_n (by omega)).trans (h3 v (by omega) hv4), fun v hv => (v_n (by omega)).trans (h4 v hv)⟩, ?_⟩
    · rcases Nat.lt_or_ge v i with q | q
      · exact (v_n (by omega)).trans (h2 v q)
      · have : v = i := by omega
        subst this; exact v_s
    · show X7_doSign_80 _ _ (n + 1) _ _ = X7_doSign_80 _ _ n _ _
      have ej := X7_joined_ok (c := c) hg2 l r i
      simp (disch := omega) only [X7_doSign_80, X7_doSign_80b, e7, pk_sub, hx, hy, e3, e4, ej, fa_lit, nI_leI, nI_ltI, nI_eq, nI_add, pk_mul, nI_clamp, bd, nm, gd_in, gd_bI, gd_b0, gd_b1, if_pos, if_neg, bI_n0, bI_n1, reduceIte, reduceCtorEq, Nat.add_zero]
  · rintro n u ⟨hf, h1, h2, h3, h4⟩
    have e7 : u.1 7 = nI (vs.length + 1 + 1) := by rw [hf.1 7 (by decide)]; exact s2
    refine ⟨si u 7 (nI (vs.length + 1)), ?_, (hfz.tr (hf.mo (by decide))).i (by decide), ?_, rfl, ?_, h2, RM_cg vs h1 s4.2.2⟩
    · show X7_doSign_80 _ _ (n + 1) _ _ = _
      simp (disch := omega) only [X7_doSign_80, X7_doSign_80b, X7_doSign_148, X7_doSign_164, e7, pk_sub, Nat.add_sub_cancel, fa_lit, nI_leI, nI_ltI, nI_eq, nI_add, pk_mul, nI_clamp, bd, nm, gd_in, gd_bI, gd_b0, gd_b1, if_pos, if_neg, bI_n0, bI_n1, reduceIte, reduceCtorEq, Nat.add_zero]
    · exact (hf.1 8 (by decide)).trans rfl
    · show RS (u.2.2.1 2) gs
      rw [hf.2.2.1 2 (by decide)]; exact s3.2
def bnd (a : Nat) : Nat := if a = 33 then 4 else st3 a
theorem bnd_k : ∀ a, a < 127 → X7_binds (nI a) = some (nI (bnd a)) := by decide +kernel
theorem X7_doSigns_bin (hN : 4000000 ≤ N) (h : CM c τ) {b : Nat} (hb : 1 ≤ b) (hb3 : b ≤ 3) {gs : List Nat} {vs : List (Nat → Int64)} (hs : SM c gs vs τ) (hg : adj gs) (hn : ntp gs) (hl : gs.length + vs.length ≤ 60) (hv : vs.length = nbn gs + 1) : ∃ τ', X7_doSigns N (nI b) τ = some τ' ∧ FR [7, 8] [] [2] [2] τ τ' ∧ SM c (ps b gs vs).1 (ps b gs vs).2 τ' := by
  unfold X7_doSigns
  refine wl (fun n (p : List Nat × List (Nat → Int64) × St) => X7_doSigns_0 N (fun σ => X7_doSigns_32 σ) (nI b) n p.2.2) (fun p => p.1.length) (fun p => p.1.length + p.2.1.length ≤ 60 ∧ adj p.1 ∧ ntp p.1 ∧ p.2.1.length = nbn p.1 + 1 ∧ SM c p.1 p.2.1 p.2.2 ∧ FR [7, 8] [] [2] [2] τ p.2.2 ∧ ps b p.1 p.2.1 = ps b gs vs) (fun r => ∃ τ', r = some τ' ∧ FR [7, 8] [] [2] [2] τ τ' ∧ SM c (ps b gs vs).1 (ps b gs vs).2 τ') ?_ N (gs, vs, τ) ⟨hl, hg, hn, hv, hs, FR.rf, rfl⟩ (by dsimp only; omega)
  rintro n ⟨gs1, vs1, u⟩ ⟨q2, q3, qn, q4, q5, q6, q7⟩
  dsimp only at q2 q3 qn q4 q5 q6 q7 ⊢
  cases gs1 with
  | nil =>
    refine Or.inl ⟨u, ?_, q6, ?_⟩
    · have h1 : u.1 8 = nI 0 := q5.1
      simp (disch := omega) only [X7_doSigns_0, X7_doSigns_0b, h1, X7_doSigns_32, fa_lit, nI_leI, nI_ltI, nI_eq, nI_add, pk_mul, nI_clamp, bd, nm, gd_in, gd_bI, gd_b0, gd_b1, if_pos, if_neg, bI_n0, bI_n1, reduceIte, reduceCtorEq, Nat.add_zero]
    · rw [← q7]; exact q5
  | cons g gs2 =>
    rw [List.length_cons] at q2
    have e8 : u.1 8 = nI (gs2.length + 1) := q5.1
    have e2 : u.2.2.1 2 gs2.length = nI g := q5.2.2.1.1
    have hg2 := okg_lt q3.2.2
    have hn2 : g ≠ 33 := qn
    have es := bnd_k g hg2
    have eb : bnd g = st3 g := if_neg hn2
    rw [eb] at es
    have h3 := st3_3 g
    by_cases z : b ≤ st3 g
    · refine Or.inr ?_
      have z1 : 1 ≤ st3 g := by omega
      rw [nbn, if_pos z1] at q4
      obtain ⟨r, l, vs2, rfl, e⟩ := two_l q4
      rw [List.length_cons, List.length_cons] at q2
      obtain ⟨u1, a1, a2, a3⟩ := X7_doSign_bin hN (h.fr q6 (by decide)) q5 (by omega) z1
      refine ⟨(gs2, jn g l r :: vs2, u1), ⟨by dsimp only; rw [List.length_cons]; omega, q3.2.1, q3.1 z1, by dsimp only; rw [List.length_cons, e], a3, q6.tr a2, ?_⟩, by dsimp only; rw [List.length_cons]; omega, ?_⟩
      · dsimp only
        rw [← q7, ps, if_pos z, ap]
      · dsimp only
        simp (disch := omega) only [X7_doSigns_0, X7_doSigns_0b, e8, pk_sub, Nat.add_sub_cancel, e2, es, a1, fa_lit, nI_leI, nI_ltI, nI_eq, nI_add, pk_mul, nI_clamp, bd, nm, gd_in, gd_bI, gd_b0, gd_b1, if_pos, if_neg, bI_n0, bI_n1, reduceIte, reduceCtorEq, Nat.add_zero]
    · refine Or.inl ⟨u, ?_, q6, ?_⟩
      · simp (disch := omega) only [X7_doSigns_0, X7_doSigns_0b, e8, pk_sub, Nat.add_sub_cancel, e2, es, X7_doSigns_32, fa_lit, nI_leI, nI_ltI, nI_eq, nI_add, pk_mul, nI_clamp, bd, nm, gd_in, gd_bI, gd_b0, gd_b1, if_pos, if_neg, bI_n0, bI_n1, reduceIte, reduceCtorEq, Nat.add_zero]
      · rw [← q7, ps, if_neg z]; exact q5
theorem X7_doSigns_not (hN : 4000000 ≤ N) (h : CM c τ) {gs : List Nat} {vs : List (Nat → Int64)} (hs : SM c gs vs τ) (hg : adj gs) (hl : gs.length + vs.length ≤ 60) (hv : vs.length = nbn gs + 1) : ∃ τ', X7_doSigns N (nI 4) τ = some τ' ∧ FR [7, 8] [] [2] [2] τ τ' ∧ SM c (pn gs vs).1 (pn gs vs).2 τ' := by
  unfold X7_doSigns
  refine wl (fun n (p : List Nat × List (Nat → Int64) × St) => X7_doSigns_0 N (fun σ => X7_doSigns_32 σ) (nI 4) n p.2.2) (fun p => p.1.length) (fun p => p.1.length + p.2.1.length ≤ 60 ∧ adj p.1 ∧ p.2.1.length = nbn p.1 + 1 ∧ SM c p.1 p.2.1 p.2.2 ∧ FR [7, 8] [] [2] [2] τ p.2.2 ∧ pn p.1 p.2.1 = pn gs vs) (fun r => ∃ τ', r = some τ' ∧ FR [7, 8] [] [2] [2] τ τ' ∧ SM c (pn gs vs).1 (pn gs vs).2 τ') ?_ N (gs, vs, τ) ⟨hl, hg, hv, hs, FR.rf, rfl⟩ (by dsimp only; omega)
  rintro n ⟨gs1, vs1, u⟩ ⟨q2, q3, q4, q5, q6, q7⟩
  dsimp only at q2 q3 q4 q5 q6 q7 ⊢
  cases gs1 with
  | nil =>
    refine Or.inl ⟨u, ?_, q6, ?_⟩
    · have h1 : u.1 8 = nI 0 := q5.1
      simp (disch := omega) only [X7_doSigns_0, X7_doSigns_0b, h1, X7_doSigns_32, fa_lit, nI_leI, nI_ltI, nI_eq, nI_add, pk_mul, nI_clamp, bd, nm, gd_in, gd_bI, gd_b0, gd_b1, if_pos, if_neg, bI_n0, bI_n1, reduceIte, reduceCtorEq, Nat.add_zero]
    · rw [← q7]; exact q5
  | cons g gs2 =>
    rw [List.length_cons] at q2
    have e8 : u.1 8 = nI (gs2.length + 1) := q5.1
    have e2 : u.2.2.1 2 gs2.length = nI g := q5.2.2.1.1
    have hg2 := okg_lt q3.2.2
    have es := bnd_k g hg2
    by_cases z : g = 33
    · refine Or.inr ?_
      subst z
      rw [nbn, if_neg (by rw [st3_33]; omega)] at q4
      obtain ⟨r, vs2, rfl, e⟩ := one_l q4
      rw [List.length_cons] at q2
      obtain ⟨u1, a1, a2, a3⟩ := X7_doSign_not hN (h.fr q6 (by decide)) q5 (by omega)
      have es' : X7_binds (nI 33) = some (nI 4) := es
      refine ⟨(gs2, ng (r :: vs2), u1), ⟨by dsimp only; rw [ng, List.length_cons]; omega, q3.2.1, by dsimp only; rw [ng, List.length_cons, e], a3, q6.tr a2, ?_⟩, by dsimp only; rw [List.length_cons]; omega, ?_⟩
      · dsimp only
        rw [← q7, pn, if_pos rfl]
      · dsimp only
        simp (disch := omega) only [X7_doSigns_0, X7_doSigns_0b, e8, pk_sub, Nat.add_sub_cancel, e2, es', a1, fa_lit, nI_leI, nI_ltI, nI_eq, nI_add, pk_mul, nI_clamp, bd, nm, gd_in, gd_bI, gd_b0, gd_b1, if_pos, if_neg, bI_n0, bI_n1, reduceIte, reduceCtorEq, Nat.add_zero]
    · have eb : bnd g = st3 g := if_neg z
      rw [eb] at es
      have h3 := st3_3 g
      refine Or.inl ⟨u, ?_, q6, ?_⟩
      · simp (disch := omega) only [X7_doSigns_0, X7_doSigns_0b, e8, pk_sub, Nat.add_sub_cancel, e2, es, X7_doSigns_32, fa_lit, nI_leI, nI_ltI, nI_eq, nI_add, pk_mul, nI_clamp, bd, nm, gd_in, gd_bI, gd_b0, gd_b1, if_pos, if_neg, bI_n0, bI_n1, reduceIte, reduceCtorEq, Nat.add_zero]
      · rw [← q7, pn, if_neg z]; exact q5
theorem X7_evaluate_ok (hN : 4000000 ≤ N) (h : CM c τ) (hL : L ≤ 60) (h0 : τ.1 3 = nI L) (ht : ∀ i, i < L → t i < 127 ∧ τ.2.2.1 0 i = nI (t i)) (hF : isF c t L = true) : ∃ τ', X7_evaluate N τ = some τ' ∧ FR [7, 8] [] [2] [2] τ τ' ∧ ∀ v, v < 4 → τ'.2.2.2 2 v = vlF t L v &&& al c := by
  have hb : c.1 < 7 := by have := h.1.2.1; omega
  have hi' : c.2.1 < 3 := by have := h.1.2.2.1; omega
  have hF' : rdS c t L = some (true, 0) := of_decide_eq_true hF
  have hE := EI_ok (c := c) hb hi' (fun i hi => (ht i hi).1)
  unfold X7_evaluate
  show ∃ τ', X7_evaluate_12 N (fun σ => X7_evaluate_115 N σ) N (nI 0) (si (si τ 7 0) 8 0) = some τ' ∧ _
  refine wf (fun n i u => X7_evaluate_12 N (fun σ => X7_evaluate_115 N σ) n (nI i) u) L (fun i u => FR [7, 8] [] [2] [2] τ u ∧ SM c (evS t i).1 (evS t i).2 u) (fun r => ∃ τ', r = some τ' ∧ FR [7, 8] [] [2] [2] τ τ' ∧ ∀ v, v < 4 → τ'.2.2.2 2 v = vlF t L v &&& al c) ?_ ?_ N 0 _ (by omega) ⟨(FR.rf.i (by decide)).i (by decide), rfl, rfl, trivial, trivial⟩ (by omega)
  · rintro n i u hi ⟨hf, hs⟩
    have hu := h.fr hf (by decide)
    obtain ⟨hc1, hc2⟩ := ht i hi
    have hc : u.2.2.1 0 i = nI (t i) := by rw [hf.2.2.1 0 (by decide)]; exact hc2
    have hl : u.1 3 = nI L := by rw [hf.1 3 (by decide)]; exact h0
    obtain ⟨⟨ov, op⟩, ho⟩ := rdS_s (c := c) (t := t) (i := i) (j := L) (by rw [hF']; simp) (by omega)
    obtain ⟨⟨ov', op'⟩, ho'⟩ := rdS_s (c := c) (t := t) (i := i + 1) (j := L) (by rw [hF']; simp) (by omega)
    have hEi := hE i (by omega) ov op ho
    obtain ⟨h1, h2, h3, h4, h5⟩ := hEi
    have hstep : rdN c.1 c.2.1 (t i) (ov, op) = some (ov', op') := by rw [rdS, ho] at ho'; exact ho'
    have bk := bin_k (t i) hc1
    have sk := bnd_k (t i) hc1
    refine Or.inr ?_
    show ∃ a', _ ∧ X7_evaluate_12 N _ (n + 1) _ _ = X7_evaluate_12 N _ n _ _
    rw [evS, ev]
    cases ov
    · dsimp only at h3
      simp only [rdN] at hstep
      by_cases q : t i = 40
      · obtain ⟨u1, a1, a2, a3⟩ := X7_pushSign_ok hs (by omega) (t i)
        rw [if_pos (Or.inl q)]
        refine ⟨u1, ⟨hf.tr a2, a3⟩, ?_⟩
        simp (disch := omega) only [X7_evaluate_12, X7_evaluate_12b, hl, hc, X7_evaluate_39, a1, fa_lit, nI_leI, nI_ltI, nI_eq, nI_add, pk_mul, nI_clamp, bd, nm, gd_in, gd_bI, gd_b0, gd_b1, if_pos, if_neg, bI_n0, bI_n1, reduceIte, reduceCtorEq, Nat.add_zero]
      · by_cases q2 : t i = 33
        · obtain ⟨u1, a1, a2, a3⟩ := X7_pushSign_ok hs (by omega) (t i)
          rw [if_pos (Or.inr q2)]
          refine ⟨u1, ⟨hf.tr a2, a3⟩, ?_⟩
          simp (disch := omega) only [X7_evaluate_12, X7_evaluate_12b, hl, hc, X7_evaluate_39, a1, fa_lit, nI_leI, nI_ltI, nI_eq, nI_add, pk_mul, nI_clamp, bd, nm, gd_in, gd_bI, gd_b0, gd_b1, if_pos, if_neg, bI_n0, bI_n1, reduceIte, reduceCtorEq, Nat.add_zero]
        · rw [if_neg q, if_neg q2] at hstep
          by_cases q3 : isopN c.1 c.2.1 (t i) = true
          · obtain ⟨x1, x2, x3, x4⟩ := isop_x (t i) hc1 c.1 hb c.2.1 hi' q3
            rw [if_neg (by omega), if_neg x3, if_neg (by omega)]
            obtain ⟨u1, a1, a2, a3⟩ := X7_pushOperand_ok hN hu hs (by omega) hc1 q3
            obtain ⟨u2, b1, b2, b3⟩ := X7_doSigns_not hN (hu.fr a2 (by decide)) a3 h1 (by rw [List.length_cons]; omega) (by rw [List.length_cons, h3])
            refine ⟨u2, ⟨(hf.tr a2).tr b2, b3⟩, ?_⟩
            have e : isbn (t i) = false := by
              cases e : isbn (t i)
              · rfl
              · have := (st3_b (t i) hc1).mp e
                omega
            rw [e] at bk
            simp (disch := omega) only [X7_evaluate_12, X7_evaluate_12b, hl, hc, bk, a1, b1, fa_lit, nI_leI, nI_ltI, nI_eq, nI_add, pk_mul, nI_clamp, bd, nm, gd_in, gd_bI, gd_b0, gd_b1, if_pos, if_neg, bI_n0, bI_n1, reduceIte, reduceCtorEq, Nat.add_zero]
          · rw [if_neg q3] at hstep; cases hstep
    · dsimp only at h3
      simp only [rdN] at hstep
      by_cases q : t i = 41
      · rw [if_pos q] at hstep
        by_cases q2 : op = 0
        · rw [if_pos q2] at hstep; cases hstep
        · have hop : op = (op - 1) + 1 := by omega
          obtain ⟨gs', b1, b2, b3, b4, b5⟩ := ps_40 (op := op - 1) (i := i) (p := evS t i) (by rw [← hop]; exact ⟨h1, h2, h3, h4, h5⟩)
          obtain ⟨u1, d1, d2, d3⟩ := X7_doSigns_bin hN hu (Nat.le_refl 1) (by omega) hs h1 (h2 rfl) (by omega) h3
          rw [b1] at d3
          have e8 : u1.1 8 = nI (gs'.length + 1) := d3.1
          have e2 : FR [7, 8] [] [2] [2] u1 (si u1 8 (nI gs'.length)) := FR.rf.i (by decide)
          have e3 : SM c gs' (ps 1 (evS t i).1 (evS t i).2).2 (si u1 8 (nI gs'.length)) := ⟨rfl, d3.2.1, d3.2.2.1.2, d3.2.2.2⟩
          obtain ⟨u3, f1, f2, f3⟩ := X7_doSigns_not hN ((hu.fr d2 (by decide)).fr e2 (by decide)) e3 b2 (by omega) b3
          rw [if_neg (by omega), if_pos q, b1, List.tail_cons]
          refine ⟨u3, ⟨((hf.tr d2).tr e2).tr f2, f3⟩, ?_⟩
          rw [q] at hc
          simp (disch := omega) only [X7_evaluate_12, X7_evaluate_12b, hl, hc, d1, e8, pk_sub, Nat.add_sub_cancel, f1, fa_lit, nI_leI, nI_ltI, nI_eq, nI_add, pk_mul, nI_clamp, bd, nm, gd_in, gd_bI, gd_b0, gd_b1, if_pos, if_neg, bI_n0, bI_n1, reduceIte, reduceCtorEq, Nat.add_zero]
      · rw [if_neg q] at hstep
        by_cases q2 : isbn (t i) = true
        · have q3 := (st3_b (t i) hc1).mp q2
          have q4 := st3_v q3
          have q5 := st3_3 (t i)
          obtain ⟨⟨a1, a2, a3, a4, a6⟩, _⟩ := ps_top (i := i) q3 ⟨h1, h2, h3, h4, h5⟩
          obtain ⟨u1, d1, d2, d3⟩ := X7_doSigns_bin hN hu q3 q5 hs h1 (h2 rfl) (by omega) h3
          obtain ⟨u2, e1, e2, e3⟩ := X7_pushSign_ok d3 (by dsimp only at a3; omega) (t i)
          rw [if_neg (by omega), if_neg q, if_pos q3]
          refine ⟨u2, ⟨(hf.tr d2).tr e2, e3⟩, ?_⟩
          have eb : bnd (t i) = st3 (t i) := if_neg (by omega)
          rw [eb] at sk
          rw [q2] at bk
          simp (disch := omega) only [X7_evaluate_12, X7_evaluate_12b, hl, hc, bk, sk, d1, e1, fa_lit, nI_leI, nI_ltI, nI_eq, nI_add, pk_mul, nI_clamp, bd, nm, gd_in, gd_bI, gd_b0, gd_b1, if_pos, if_neg, bI_n0, bI_n1, reduceIte, reduceCtorEq, Nat.add_zero]
        · rw [if_neg q2] at hstep; cases hstep
  · rintro n u ⟨hf, hs⟩
    have hu := h.fr hf (by decide)
    have hl : u.1 3 = nI L := by rw [hf.1 3 (by decide)]; exact h0
    have hEi := hE L (Nat.le_refl _) true 0 hF'
    obtain ⟨u1, d1, d2, d3⟩ := X7_doSigns_bin hN hu (Nat.le_refl 1) (by omega) hs hEi.1 (hEi.2.1 rfl) (by have := hEi.2.2.2.2; omega) hEi.2.2.1
    obtain ⟨p1, x, p2⟩ := ps_nil hEi
    rw [p1, p2] at d3
    refine ⟨u1, ?_, hf.tr d2, fun v hv => ?_⟩
    · show X7_evaluate_12 N _ (n + 1) _ _ = _
      simp (disch := omega) only [X7_evaluate_12, X7_evaluate_12b, hl, X7_evaluate_115, d1, fa_lit, nI_leI, nI_ltI, nI_eq, nI_add, pk_mul, nI_clamp, bd, nm, gd_in, gd_bI, gd_b0, gd_b1, if_pos, if_neg, bI_n0, bI_n1, reduceIte, reduceCtorEq, Nat.add_zero]
    · have ex : vlF t L v = x v := by unfold vlF; rw [p2]; rfl
      have := d3.2.2.2.1 v hv
      rw [List.length_nil, Nat.mul_zero, Nat.zero_add] at this
      rw [ex]; exact this
end EVAL
