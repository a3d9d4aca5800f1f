/-! b5: bits set free: isSafeWithFree -/
theorem h_s64 : ∀ k, k < 64 → ((((nI k).toInt64 &&& 63).toBitVec).smod 64).toNat = k := by decide +kernel
theorem h_shl (w : Int64) {k t : Nat} (hk : k < 64) (ht' : t < 64) : ht (w <<< ((nI k).toInt64 &&& 63)) t = (decide (k ≤ t) && ht w (t - k)) := by
  have e : (w <<< ((nI k).toInt64 &&& 63)).toBitVec = w.toBitVec <<< k := by
    show w.toBitVec <<< (((nI k).toInt64 &&& 63).toBitVec.smod 64) = _
    rw [BitVec.shiftLeft_eq', h_s64 k hk]
  unfold ht
  rw [e, BitVec.getLsbD_shiftLeft, decide_eq_true ht', Bool.true_and]
  rcases Nat.lt_or_ge t k with q | q
  · rw [decide_eq_true q, decide_eq_false (show ¬ k ≤ t by omega)]; rfl
  · rw [decide_eq_false (show ¬ t < k by omega), decide_eq_true q]; rfl
theorem h_shr (w : Int64) {k t : Nat} (hk : k < 64) : ht ((w.toUInt64 >>> ((nI k).toInt64.toUInt64 &&& Int64.toUInt64 63)).toInt64) t = ht w (k + t) := by
  have e : ((w.toUInt64 >>> ((nI k).toInt64.toUInt64 &&& Int64.toUInt64 63)).toInt64).toBitVec = w.toBitVec >>> k := by
    show w.toBitVec >>> (((nI k).toInt64.toUInt64 &&& Int64.toUInt64 63).toBitVec % 64) = w.toBitVec >>> k
    rw [BitVec.ushiftRight_eq', h_s63 k hk]
  unfold ht
  rw [e, BitVec.getLsbD_ushiftRight]
theorem fl_k1 : ∀ b, b < 6 → ∀ t, t < 64 → t.testBit b = true ∨ (2 ^ b + t = t ^^^ 2 ^ b ∧ t ^^^ 2 ^ b < 64 ∧ (t ^^^ 2 ^ b).testBit b = true ∧ (t < 2 ^ b ∨ (t - 2 ^ b).testBit b = true)) := by decide +kernel
theorem fl_k2 : ∀ b, b < 6 → ∀ t, t < 64 → t.testBit b = false ∨ (2 ^ b ≤ t ∧ t - 2 ^ b = t ^^^ 2 ^ b ∧ t ^^^ 2 ^ b < 64 ∧ (t ^^^ 2 ^ b).testBit b = false ∧ (2 ^ b + t).testBit b = false) := by decide +kernel
theorem p2_64 : ∀ b, b < 6 → 2 ^ b < 64 := by decide
/-- one bit set free -/
theorem wd_b (x : Int64) {b t : Nat} (hb : b < 6) (ht' : t < 64) : ht (x ||| ((((x &&& swb b).toUInt64 >>> ((nI (2 ^ b)).toInt64.toUInt64 &&& Int64.toUInt64 63)).toInt64) ||| ((x &&& (swb b ^^^ (-1))) <<< ((nI (2 ^ b)).toInt64 &&& 63)))) t = (ht x t || ht x (t ^^^ 2 ^ b)) := by
  have hp := p2_64 b hb
  rw [h_or, h_or, h_shr _ hp, h_shl _ hp ht', h_and, h_and]
  cases e : t.testBit b
  · obtain ⟨a1, a2, a3, a4⟩ := (fl_k1 b hb t ht').resolve_left (by rw [e]; decide)
    rw [a1, h_swb b hb _ a2, a3, Bool.and_true]
    by_cases q : 2 ^ b ≤ t
    · have q3 : t - 2 ^ b < 64 := Nat.lt_of_le_of_lt (Nat.sub_le _ _) ht'
      rw [h_not _ q3, h_swb b hb _ q3, a4.resolve_left (fun z => Nat.not_le.mpr z q)]
      simp
    · rw [decide_eq_false q]
      simp
  · obtain ⟨a1, a2, a3, a4, a5⟩ := (fl_k2 b hb t ht').resolve_left (by rw [e]; decide)
    have z : (ht x (2 ^ b + t) && ht (swb b) (2 ^ b + t)) = false := by
      rcases Nat.lt_or_ge (2 ^ b + t) 64 with q | q
      · rw [h_swb b hb _ q, a5, Bool.and_false]
      · rw [h_big _ q]; rfl
    rw [z, decide_eq_true a1, a2, h_not _ a3, h_swb b hb _ a3, a4]
    simp
theorem lsg_k : ∀ m, m < 64 → ∀ g, g < 64 → nI m &&& (nI g ^^^ (-1)) = nI (m &&& (63 ^^^ g)) := by decide +kernel
def nmk (c : Ck) (g : Nat) : Nat := (ns c - 1) &&& (63 ^^^ g)
def fre (c : Ck) (M : Nat) (x : Int64) : Int64 := mk64 (fun t => decide (t < ns c) && ax (fun s => ht x s && ax (fun v => decide (t &&& M = nx c s v &&& M)) (nv c)) (ns c))
def sfe (c : Ck) (M : Nat) : Bool := decide ((lay (fre c M) c.2.2.2.1 64).1 &&& bad c = 0)
section FREE
variable {c : Ck} {σ τ : St} {N M g : Nat}
theorem nmk_lt (h : okC c) (g : Nat) : nmk c g < ns c := by
  have h64 := ns_le h
  exact Nat.lt_of_le_of_lt Nat.and_le_left (by omega)
theorem h_fre (h : okC c) {x : Int64} {t : Nat} : ht (fre c M x) t = true ↔ t < ns c ∧ ∃ s v, s < ns c ∧ v < nv c ∧ ht x s = true ∧ t &&& M = nx c s v &&& M := by
  have h64 := ns_le h
  constructor
  · intro z
    rw [fre, h_mk' _ (h_lt z), Bool.and_eq_true, decide_eq_true_eq, ax_t] at z
    obtain ⟨z1, s, z2, z3⟩ := z
    rw [Bool.and_eq_true, ax_t] at z3
    obtain ⟨z4, v, z5, z6⟩ := z3
    exact ⟨z1, s, v, z2, z5, z4, of_decide_eq_true z6⟩
  · rintro ⟨z1, s, v, z2, z3, z4, z5⟩
    rw [fre, h_mk' _ (by omega), Bool.and_eq_true, decide_eq_true_eq, ax_t]
    refine ⟨z1, s, z2, ?_⟩
    rw [Bool.and_eq_true, ax_t]
    exact ⟨z4, v, z3, decide_eq_true z5⟩
theorem fre_0 (h : okC c) : fre c M 0 = 0 := h_z.mpr (fun i _ => by
  cases e : ht (fre c M 0) i
  · rfl
  · obtain ⟨_, s, v, _, _, z, _⟩ := (h_fre h).mp e
    rw [h_0] at z; cases z)
theorem X7_isSafe_37_ok (hN : 4000000 ≤ N) (h : CM c τ) (hM : M < 64) (y x : Int64) (K : Int64 → Int64 → Option Int32) : X7_isSafe_37 N K τ (nI M) y x N 0 (nI 0) = K y (fre c M x) := by
  have h64 := ns_le h.1
  have h4 := nv_le h.1
  refine wf (fun n i a => X7_isSafe_37 N K τ (nI M) y x n a (nI i)) (ns c) (fun i a => a = mk64 (fun t => decide (t < ns c) && ax (fun s => ht x s && ax (fun v => decide (t &&& M = nx c s v &&& M)) (nv c)) i)) (fun r => r = K y (fre c M x)) ?_ ?_ N 0 0 (by omega) (h_ext (fun i hi => by rw [h_mk' _ hi, h_0]; simp [ax])) (by omega)
  · rintro n i a hi rfl
    refine Or.inr ⟨_, rfl, ?_⟩
    show X7_isSafe_37 N _ τ _ _ _ (n + 1) _ _ = X7_isSafe_37 N _ τ _ _ _ n _ _
    simp (disch := omega) only [X7_isSafe_37, X7_isSafe_37b, X7_states_ok h, fa_lit, nI_leI, nI_ltI, nI_eq, nI_add, pk_mul, nI_clamp, bd, nm, gd_in, gd_bI, gd_b0, gd_b1, if_pos, if_neg, bI_n0, bI_n1, reduceIte, reduceCtorEq, Nat.add_zero]
    refine wf (fun f j a => X7_isSafe_49 N (fun v7 v9 => X7_isSafe_94 (fun v7 v9 => X7_isSafe_37 N K τ (nI M) y x n v7 v9) τ (nI M) y x v7 v9) τ (nI M) y x (nI i) f a (nI j)) (nv c) (fun j a => a = mk64 (fun t => decide (t < ns c) && (ax (fun s => ht x s && ax (fun v => decide (t &&& M = nx c s v &&& M)) (nv c)) i || (ht x i && ax (fun v => decide (t &&& M = nx c i v &&& M)) j)))) (fun r => r = X7_isSafe_37 N K τ (nI M) y x n (mk64 (fun t => decide (t < ns c) && ax (fun s => ht x s && ax (fun v => decide (t &&& M = nx c s v &&& M)) (nv c)) (i + 1))) (nI (i + 1))) ?_ ?_ N 0 _ (by omega) (mk_ext (fun t _ => by simp [ax])) (by omega)
    · rintro f j a hj rfl
      cases e : ht x i
      · refine Or.inl ?_
        show X7_isSafe_49 N _ τ _ _ _ _ (f + 1) _ _ = _
        simp (disch := omega) only [X7_isSafe_49, X7_isSafe_49b, X7_values_ok h, X7_has_ok, e, X7_isSafe_94, fa_lit, nI_leI, nI_ltI, nI_eq, nI_add, pk_mul, nI_clamp, bd, nm, gd_in, gd_bI, gd_b0, gd_b1, if_pos, if_neg, bI_n0, bI_n1, reduceIte, reduceCtorEq, Nat.add_zero]
        congr 1
        apply mk_ext
        intro t _
        rw [ax, e, Bool.false_and, Bool.false_and]
      · refine Or.inr ⟨_, rfl, ?_⟩
        show X7_isSafe_49 N _ τ _ _ _ _ (f + 1) _ _ = X7_isSafe_49 N _ τ _ _ _ _ f _ _
        have hn := nx_64 h.1 i j
        have hc := X7_cubeSet_ok hN h (m := M) (w := nx c i j &&& M) (Nat.lt_of_le_of_lt Nat.and_le_left hn)
        simp (disch := omega) only [X7_isSafe_49, X7_isSafe_49b, X7_values_ok h, X7_has_ok, e, X7_successorOf_ok hN h, fa_and, hc, fa_lit, nI_leI, nI_ltI, nI_eq, nI_add, pk_mul, nI_clamp, bd, nm, gd_in, gd_bI, gd_b0, gd_b1, if_pos, if_neg, bI_n0, bI_n1, reduceIte, reduceCtorEq, Nat.add_zero]
        congr 1
        apply h_ext
        intro t ht'
        rw [h_or, h_mk' _ ht', h_mk' _ ht', ax, cu, h_mk' _ ht']
        generalize ax (fun s => ht x s && ax (fun v => decide (t &&& M = nx c s v &&& M)) (nv c)) i = A
        generalize ax (fun v => decide (t &&& M = nx c i v &&& M)) j = B
        cases A <;> cases B <;> cases decide (t < ns c) <;> cases decide (t &&& M = nx c i j &&& M) <;> rfl
    · rintro f a rfl
      show X7_isSafe_49 N _ τ _ _ _ _ (f + 1) _ _ = _
      simp (disch := omega) only [X7_isSafe_49, X7_isSafe_49b, X7_values_ok h, X7_isSafe_94, fa_lit, nI_leI, nI_ltI, nI_eq, nI_add, pk_mul, nI_clamp, bd, nm, gd_in, gd_bI, gd_b0, gd_b1, if_pos, if_neg, bI_n0, bI_n1, reduceIte, reduceCtorEq, Nat.add_zero]
      rfl
  · rintro n a rfl
    show X7_isSafe_37 N _ τ _ _ _ (n + 1) _ _ = _
    simp (disch := omega) only [X7_isSafe_37, X7_isSafe_37b, X7_states_ok h, fa_lit, nI_leI, nI_ltI, nI_eq, nI_add, pk_mul, nI_clamp, bd, nm, gd_in, gd_bI, gd_b0, gd_b1, if_pos, if_neg, bI_n0, bI_n1, reduceIte, reduceCtorEq, Nat.add_zero]
    rfl
theorem X7_isSafe_ok (hN : 4000000 ≤ N) (h : CM c τ) (hg : g < 64) : X7_isSafe N τ (nI g) = some (bI (sfe c (nmk c g))) := by
  have h64 := ns_le h.1
  have hM : nmk c g < 64 := by have := nmk_lt h.1 g; omega
  have e1 : nI (ns c) - 1 = nI (ns c - 1) := pk_sub (b := 1) (by omega)
  have e0 : X7_isSafe N τ (nI g) = X7_isSafe_19 N (fun v3 => X7_isSafe_113 τ v3) τ (nI (nmk c g)) N (lay (fre c (nmk c g)) c.2.2.2.1 0).1 (lay (fre c (nmk c g)) c.2.2.2.1 0).2 := by
    rw [X7_isSafe, X7_states_ok h, bd, nm, nm, e1, lsg_k _ (by omega) _ hg, h.2.2.2.2.1]
    rfl
  rw [e0]
  have fin : ∀ j, j ≤ 64 → (lay (fre c (nmk c g)) c.2.2.2.1 j).2 = 0 → X7_isSafe_113 τ (lay (fre c (nmk c g)) c.2.2.2.1 j).1 = some (bI (sfe c (nmk c g))) := fun j hj hz => by
    have z := (lay_z (x := c.2.2.2.1) (fre_0 (M := nmk c g) h.1) hz 64 hj).2.1
    rw [X7_isSafe_113, X7_bad_ok h, bd, sfe, z]
    by_cases q : (lay (fre c (nmk c g)) c.2.2.2.1 j).1 &&& bad c = 0
    · rw [if_pos q, decide_eq_true q]; rfl
    · rw [if_neg q, decide_eq_false q]; rfl
  refine wf (fun f j (_ : Unit) => X7_isSafe_19 N (fun v3 => X7_isSafe_113 τ v3) τ (nI (nmk c g)) f (lay (fre c (nmk c g)) c.2.2.2.1 j).1 (lay (fre c (nmk c g)) c.2.2.2.1 j).2) 64 (fun _ _ => True) (fun r => r = some (bI (sfe c (nmk c g)))) ?_ ?_ N 0 () (by omega) trivial (by omega)
  · rintro f j u hj -
    by_cases q : (lay (fre c (nmk c g)) c.2.2.2.1 j).2 = 0
    · left
      show X7_isSafe_19 N _ τ _ (f + 1) _ _ = _
      rw [X7_isSafe_19, X7_isSafe_19b, if_pos q]
      exact fin j (by omega) q
    · right
      refine ⟨(), trivial, ?_⟩
      show X7_isSafe_19 N _ τ _ (f + 1) _ _ = X7_isSafe_19 N _ τ _ f _ _
      rw [X7_isSafe_19, X7_isSafe_19b, if_neg q, nm]
      have := X7_isSafe_37_ok hN h hM ((lay (fre c (nmk c g)) c.2.2.2.1 j).1 ||| (lay (fre c (nmk c g)) c.2.2.2.1 j).2) (lay (fre c (nmk c g)) c.2.2.2.1 j).2 (fun v3 v7 => X7_isSafe_100 (fun v3 v5 => X7_isSafe_19 N (fun v3 => X7_isSafe_113 τ v3) τ (nI (nmk c g)) f v3 v5) τ (nI (nmk c g)) v3 v7)
      exact this
  · rintro f u -
    have q := lay_64 (x := c.2.2.2.1) (fre_0 (M := nmk c g) h.1)
    show X7_isSafe_19 N _ τ _ (f + 1) _ _ = _
    rw [X7_isSafe_19, X7_isSafe_19b, if_pos q]
    exact fin 64 (Nat.le_refl _) q
/-- agreeing on the bits that are not free -/
theorem agr (h : okC c) (hg : g < 64) {t s : Nat} (ht' : t < ns c) (hs : s < ns c) : (t &&& nmk c g = s &&& nmk c g) ↔ ∀ i, i < 6 → (i < c.1 ∧ g.testBit i = true) ∨ t.testBit i = s.testBit i := by
  have h6 := h.2.1
  have hb : ∀ i, (nmk c g).testBit i = (decide (i < c.1) && (decide (i < 6) ^^ g.testBit i)) := fun i => by
    unfold nmk ns
    rw [Nat.testBit_and, Nat.testBit_two_pow_sub_one, Nat.testBit_xor, show 63 = 2 ^ 6 - 1 from rfl, Nat.testBit_two_pow_sub_one]
  constructor
  · intro e i hi
    have z : (t &&& nmk c g).testBit i = (s &&& nmk c g).testBit i := by rw [e]
    rw [Nat.testBit_and, Nat.testBit_and, hb, decide_eq_true hi] at z
    rcases Nat.lt_or_ge i c.1 with q | q
    · rw [decide_eq_true q] at z
      cases e2 : g.testBit i
      · rw [e2] at z
        right
        simpa using z
      · exact Or.inl ⟨q, rfl⟩
    · right
      have p : 2 ^ c.1 ≤ 2 ^ i := Nat.pow_le_pow_right (by omega) q
      unfold ns at ht' hs
      rw [Nat.testBit_lt_two_pow (by omega), Nat.testBit_lt_two_pow (by omega)]
  · intro e
    apply Nat.eq_of_testBit_eq
    intro i
    rw [Nat.testBit_and, Nat.testBit_and, hb]
    rcases Nat.lt_or_ge i 6 with q | q
    · rcases e i q with z | z
      · rw [decide_eq_true q, z.2]; simp
      · rw [z]
    · rw [decide_eq_false (show ¬ i < c.1 by omega)]; simp
theorem X5_withFreeBits_ok (hN : 4000000 ≤ N) (h : CS c σ) (hg : g < 64) {x : Int64} (hx : ∀ s, ht x s = true → s < ns c) : ∃ y, X5_withFreeBits N σ x (nI g) = some y ∧ ∀ t, ht y t = true ↔ t < ns c ∧ ∃ s, ht x s = true ∧ t &&& nmk c g = s &&& nmk c g := by
  have h64 := ns_le h.1
  have h6 := h.1.2.1
  unfold X5_withFreeBits
  refine wf (fun f b a => X5_withFreeBits_6 (fun v4 => X5_withFreeBits_88 σ v4) σ (nI g) f a (nI b)) c.1 (fun b a => ∀ t, ht a t = true ↔ t < ns c ∧ ∃ s, ht x s = true ∧ ∀ i, i < 6 → (i < b ∧ g.testBit i = true) ∨ t.testBit i = s.testBit i) (fun r => ∃ y, r = some y ∧ ∀ t, ht y t = true ↔ t < ns c ∧ ∃ s, ht x s = true ∧ t &&& nmk c g = s &&& nmk c g) ?_ ?_ N 0 x (by omega) ?_ (by omega)
  · rintro f b a hb hI
    right
    have e5 := h.2.1
    have et := tbi g hg b (by omega)
    have e1 : ¬ nI c.1 ≤ nI b := nI_ge (by omega) (by omega)
    have e6 : ¬ (6 : Int32) ≤ nI b := nI_ge (b := 6) (by omega) (by omega)
    cases e : g.testBit b
    · refine ⟨a, fun t => ?_, ?_⟩
      · rw [hI t]
        refine and_congr Iff.rfl ⟨?_, ?_⟩
        · rintro ⟨s, s1, s2⟩
          exact ⟨s, s1, fun i hi => (s2 i hi).imp (fun z => ⟨by omega, z.2⟩) id⟩
        · rintro ⟨s, s1, s2⟩
          refine ⟨s, s1, fun i hi => ?_⟩
          rcases s2 i hi with z | z
          · by_cases q : i = b
            · subst q; rw [e] at z; exact absurd z.2 (by decide)
            · exact Or.inl ⟨by omega, z.2⟩
          · exact Or.inr z
      · show X5_withFreeBits_6 _ σ _ (f + 1) _ _ = X5_withFreeBits_6 _ σ _ f _ _
        rw [e] at et
        rw [X5_withFreeBits_6, X5_withFreeBits_6b, e5, if_neg e1, if_neg e6, et, if_pos (show bI false = 0 from rfl), nm, nI_1]
    · have sh := sh1 b (by omega)
      have gi : ∀ {β : Type} (y : Option β), gd (inb (nI b) 6) y = y := fun y => gd_in (by omega) (by omega)
      refine ⟨a ||| ((((a &&& swb b).toUInt64 >>> ((nI (2 ^ b)).toInt64.toUInt64 &&& Int64.toUInt64 63)).toInt64) ||| ((a &&& (swb b ^^^ (-1))) <<< ((nI (2 ^ b)).toInt64 &&& 63))), fun t => ?_, ?_⟩
      · have pb : 2 ^ b < 2 ^ c.1 := Nat.pow_lt_pow_right (by omega) hb
        have xb : ∀ u, u < ns c → u ^^^ 2 ^ b < ns c := fun u hu => Nat.xor_lt_two_pow hu pb
        have xx : ∀ u, u ^^^ 2 ^ b ^^^ 2 ^ b = u := fun u => by rw [Nat.xor_assoc, Nat.xor_self, Nat.xor_zero]
        have bx : ∀ u i, i ≠ b → (u ^^^ 2 ^ b).testBit i = u.testBit i := fun u i hi => by
          rw [Nat.testBit_xor, Nat.testBit_two_pow, decide_eq_false (fun z => hi z.symm), Bool.xor_false]
        have bb : ∀ u, (u ^^^ 2 ^ b).testBit b = !u.testBit b := fun u => by
          rw [Nat.testBit_xor, Nat.testBit_two_pow, decide_eq_true rfl, Bool.xor_true]
        constructor
        · intro z
          rw [wd_b a (by omega) (h_lt z), Bool.or_eq_true, hI, hI] at z
          rcases z with ⟨z1, s, s1, s2⟩ | ⟨z1, s, s1, s2⟩
          · exact ⟨z1, s, s1, fun i hi => (s2 i hi).imp (fun z => ⟨by omega, z.2⟩) id⟩
          · refine ⟨by have := xb _ z1; rw [xx] at this; exact this, s, s1, fun i hi => ?_⟩
            by_cases q : i = b
            · subst q; exact Or.inl ⟨by omega, e⟩
            · rw [← bx t i q]
              exact (s2 i hi).imp (fun z => ⟨by omega, z.2⟩) id
        · rintro ⟨z1, s, s1, s2⟩
          rw [wd_b a (by omega) (by omega), Bool.or_eq_true, hI, hI]
          by_cases q : t.testBit b = s.testBit b
          · refine Or.inl ⟨z1, s, s1, fun i hi => ?_⟩
            by_cases q2 : i = b
            · subst q2; exact Or.inr q
            · exact (s2 i hi).imp (fun z => ⟨by omega, z.2⟩) id
          · refine Or.inr ⟨xb t z1, s, s1, fun i hi => ?_⟩
            by_cases q2 : i = b
            · subst q2
              right
              rw [bb]
              revert q
              cases t.testBit i <;> cases s.testBit i <;> simp
            · rw [bx t i q2]
              exact (s2 i hi).imp (fun z => ⟨by omega, z.2⟩) id
      · show X5_withFreeBits_6 _ σ _ (f + 1) _ _ = X5_withFreeBits_6 _ σ _ f _ _
        rw [e] at et
        rw [X5_withFreeBits_6, X5_withFreeBits_6b, e5, if_neg e1, if_neg e6, et, if_neg (show ¬ bI true = 0 by decide), nm, sh, gi, nm, gi, nm, nm, nm, nI_1, nI_clamp (by omega)]
  · rintro f a hI
    refine ⟨a, ?_, fun t => ?_⟩
    · have e1 : nI c.1 ≤ nI c.1 := nI_le (Nat.le_refl _) (by omega)
      show X5_withFreeBits_6 _ σ _ (f + 1) _ _ = _
      rw [X5_withFreeBits_6, X5_withFreeBits_6b, h.2.1, if_pos e1]
      rfl
    · rw [hI t]
      constructor
      · rintro ⟨z1, s, s1, s2⟩
        exact ⟨z1, s, s1, (agr h.1 hg z1 (hx s s1)).mpr s2⟩
      · rintro ⟨z1, s, s1, s2⟩
        exact ⟨z1, s, s1, (agr h.1 hg z1 (hx s s1)).mp s2⟩
  · intro t
    constructor
    · intro z
      exact ⟨hx t z, t, z, fun i _ => Or.inr rfl⟩
    · rintro ⟨z1, s, s1, s2⟩
      have : t = s := by
        apply Nat.eq_of_testBit_eq
        intro i
        rcases Nat.lt_or_ge i 6 with q | q
        · exact (s2 i q).resolve_left (fun z => by omega)
        · have hs := hx s s1
          have p : 2 ^ 6 ≤ 2 ^ i := Nat.pow_le_pow_right (by omega) q
          rw [Nat.testBit_lt_two_pow (by omega), Nat.testBit_lt_two_pow (by omega)]
      rw [this]; exact s1
theorem free_suc (hN : 4000000 ≤ N) (h : CS c σ) (hg : g < 64) (x : Int64) : X5_withFreeBits N σ (sucs c x) (nI g) = some (fre c (nmk c g) x) := by
  obtain ⟨y, a, b⟩ := X5_withFreeBits_ok hN h hg (x := sucs c x) (fun s hs => sucs_l h.1 x s hs)
  rw [a]
  congr 1
  apply h_ext
  intro t _
  rw [Bool.eq_iff_iff, b t, h_fre h.1]
  refine and_congr Iff.rfl ⟨?_, ?_⟩
  · rintro ⟨u, u1, u2⟩
    obtain ⟨s, v, z1, z2, z3, z4⟩ := (h_sucs h.1).mp u1
    exact ⟨s, v, z1, z2, z3, by rw [z4]; exact u2⟩
  · rintro ⟨s, v, z1, z2, z3, z4⟩
    exact ⟨nx c s v, (h_sucs h.1).mpr ⟨s, v, z1, z2, z3, rfl⟩, z4⟩
theorem X5_staysGood_ok (hN : 4000000 ≤ N) (h : CS c σ) (f3 : F3 c σ) (hg : g < 64) : X5_staysGood N σ (nI g) = some (bI (sfe c (nmk c g))) := by
  have h64 := ns_le h.1
  have f0 := fre_0 (M := nmk c g) h.1
  have e0 : X5_staysGood N σ (nI g) = X5_staysGood_14 N (X5_staysGood_43 σ) (X5_staysGood_78 σ) σ (nI g) N ((lay (fre c (nmk c g)) c.2.2.2.1 0).1 ||| (lay (fre c (nmk c g)) c.2.2.2.1 0).2) (lay (fre c (nmk c g)) c.2.2.2.1 0).2 (nI 0) := by
    have z : (lay (fre c (nmk c g)) c.2.2.2.1 0).1 ||| (lay (fre c (nmk c g)) c.2.2.2.1 0).2 = c.2.2.2.1 := h_ext (fun i _ => by
      show ht (0 ||| c.2.2.2.1) i = _
      rw [h_or, h_0, Bool.false_or])
    rw [z, X5_staysGood, X0_initial_ok h]
    rfl
  rw [e0]
  have sub : ∀ j s, ht (lay (fre c (nmk c g)) c.2.2.2.1 j).2 s = true → s < ns c := lay_s (P := fun s => s < ns c) h.1.2.2.2 (fun y s hs => ((h_fre h.1).mp hs).1)
  have fin : ∀ j, j ≤ 64 → (lay (fre c (nmk c g)) c.2.2.2.1 j).2 = 0 → (∀ i, i < j → (lay (fre c (nmk c g)) c.2.2.2.1 i).2 &&& bad c = 0) → sfe c (nmk c g) = true := fun j hj hz hI => by
    have z := (lay_z (x := c.2.2.2.1) f0 hz 64 hj).2.1
    unfold sfe
    rw [z, decide_eq_true_eq, an_z]
    intro s hs
    obtain ⟨i, i1, i2⟩ := (met_c j).mp hs
    exact an_z.mp (hI i i1) s i2
  refine wf (fun f j (_ : Unit) => X5_staysGood_14 N (X5_staysGood_43 σ) (X5_staysGood_78 σ) σ (nI g) f ((lay (fre c (nmk c g)) c.2.2.2.1 j).1 ||| (lay (fre c (nmk c g)) c.2.2.2.1 j).2) (lay (fre c (nmk c g)) c.2.2.2.1 j).2 (nI j)) 64 (fun j _ => ∀ i, i < j → (lay (fre c (nmk c g)) c.2.2.2.1 i).2 &&& bad c = 0) (fun r => r = some (bI (sfe c (nmk c g)))) ?_ ?_ N 0 () (by omega) (fun i hi => by omega) (by omega)
  · rintro f j u hj hI
    have t1 : ¬ (64 : Int32) < nI j := nI_nlt (a := 64) (by omega) (by omega)
    by_cases q : (lay (fre c (nmk c g)) c.2.2.2.1 j).2 = 0
    · left
      show X5_staysGood_14 N _ _ σ _ (f + 1) _ _ _ = _
      rw [X5_staysGood_14, X5_staysGood_14b, if_neg t1, if_pos q, fin j (by omega) q hI]
      rfl
    · by_cases q2 : (lay (fre c (nmk c g)) c.2.2.2.1 j).2 &&& bad c = 0
      · right
        refine ⟨(), fun i hi => ?_, ?_⟩
        · rcases Nat.lt_or_ge i j with z | z
          · exact hI i z
          · have : i = j := by omega
            subst this; exact q2
        · show X5_staysGood_14 N _ _ σ _ (f + 1) _ _ _ = X5_staysGood_14 N _ _ σ _ f _ _ _
          rw [X5_staysGood_14, X5_staysGood_14b, if_neg t1, if_neg q, X0_bad_ok h, bd, if_pos q2, X2_successorsOf_ok hN h.1 f3 (sub j), bd, free_suc hN h hg, bd, nm, nm, nm, nI_1]
          rfl
      · left
        have z : sfe c (nmk c g) = false := by
          unfold sfe
          rw [decide_eq_false_iff_not]
          intro z
          apply q2
          rw [an_z] at z ⊢
          intro s hs
          exact z s ((met_c 64).mpr ⟨j, hj, hs⟩)
        show X5_staysGood_14 N _ _ σ _ (f + 1) _ _ _ = _
        rw [X5_staysGood_14, X5_staysGood_14b, if_neg t1, if_neg q, X0_bad_ok h, bd, if_neg q2, z]
        rfl
  · rintro f u hI
    have t1 : ¬ (64 : Int32) < nI 64 := by decide
    have q := lay_64 (x := c.2.2.2.1) f0
    show X5_staysGood_14 N _ _ σ _ (f + 1) _ _ _ = _
    rw [X5_staysGood_14, X5_staysGood_14b, if_neg t1, if_pos q, fin 64 (Nat.le_refl _) q hI]
    rfl
theorem Op_isSafeWithFree_ok (hN : 4000000 ≤ N) (h : RC c σ τ) : Op_isSafeWithFree N Rl σ τ := by
  intro v1
  have h64 := ns_le h.1.1
  have h7 := h.2.1.2.2.2.1
  rcases pk_ix v1 (n := ns c) (by omega) with q | q | ⟨g, hg, rfl⟩
  · refine ⟨0, si τ 0 1, ?_, Or.inr ⟨1, 1, σ, ⟨rfl, rfl⟩, ?_, rfl, ⟨c, h.th 1⟩⟩⟩
    · simp only [X7_isSafeWithFree, X7_isSafeWithFree_20, bd, nm, si0, p10, reduceIte, X7_states_ok h.1, wi_neg q]
    · simp only [X6_isSafeWithFree_t, if_pos q, X6_isSafeWithFree_t_15]
  · obtain ⟨a1, a2, a3⟩ := wi_big (by omega) (by omega) q
    refine ⟨0, si τ 0 1, ?_, Or.inr ⟨1, 1, σ, ⟨rfl, rfl⟩, ?_, rfl, ⟨c, h.th 1⟩⟩⟩
    · simp only [X7_isSafeWithFree, X7_isSafeWithFree_20, bd, nm, si0, p10, reduceIte, X7_states_ok h.1, a1]
    · simp only [X6_isSafeWithFree_t, if_neg a2, h7, if_neg a3, X6_isSafeWithFree_t_15]
  · have w1 := wi_in hg (by omega)
    have q1 : ¬ nI g < 0 := nI_pos (by omega)
    have q2 : nI g < nI (ns c) := (nI_ltI (by omega) (by omega)).mpr hg
    have hm := h.th 0
    obtain ⟨σ1, d1, d2, d3, d4⟩ := h.refresh hN
    have x1 := X7_isSafe_ok hN hm.1 (g := g) (by omega)
    have x2 := X5_staysGood_ok hN d2.2.1 d4.1 (g := g) (by omega)
    refine ⟨bI (sfe c (nmk c g)), si τ 0 0, ?_, Or.inl ⟨σ1, ?_, rfl, ⟨c, d2.th 0⟩⟩⟩
    · simp only [X7_isSafeWithFree, X7_isSafeWithFree_20, bd, nm, si0, p10, reduceIte, X7_states_ok h.1, w1, x1]
      cases sfe c (nmk c g)
      · rfl
      · rfl
    · simp only [X6_isSafeWithFree, if_neg q1, h7, if_pos q2, d1, bd, x2, gd_bI]
end FREE
