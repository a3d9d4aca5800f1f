/-! 82: circuits; the two programs' answers about states, successors, cubes -/
abbrev Ck : Type := Nat × Nat × (Nat → Nat → Int64) × Int64 × Int64
def ns (c : Ck) : Nat := 2 ^ c.1
def nv (c : Ck) : Nat := 2 ^ c.2.1
def okC (c : Ck) : Prop := 1 ≤ c.1 ∧ c.1 ≤ 6 ∧ c.2.1 ≤ 2 ∧ ∀ i, ht c.2.2.2.1 i = true → i < ns c
theorem p2_6 : ∀ n, n < 7 → 1 ≤ 2 ^ n ∧ 2 ^ n ≤ 64 := by decide
theorem p2_2 : ∀ n, n < 3 → 1 ≤ 2 ^ n ∧ 2 ^ n ≤ 4 := by decide
theorem p2_62 : ∀ n, n < 7 → 1 ≤ n → 2 ≤ 2 ^ n := by decide
theorem ns_le {c : Ck} (h : okC c) : 2 ≤ ns c ∧ ns c ≤ 64 := ⟨p2_62 c.1 (by have := h.2.1; omega) h.1, (p2_6 c.1 (by have := h.2.1; omega)).2⟩
theorem nv_le {c : Ck} (h : okC c) : 1 ≤ nv c ∧ nv c ≤ 4 := p2_2 c.2.1 (by have := h.2.2.1; omega)
def alN (nb : Nat) : Int64 := mk64 (fun i => decide (i < 2 ^ nb))
def al (c : Ck) : Int64 := alN c.1
theorem h_al {c : Ck} (h : okC c) (i : Nat) : ht (al c) i = decide (i < ns c) := by
  have := (ns_le h).2
  show ht (mk64 _) i = _
  rw [h_mk]
  show (decide (i < 64) && decide (i < ns c)) = _
  rcases Nat.lt_or_ge i (ns c) with q | q
  · rw [decide_eq_true q, decide_eq_true (by omega)]; rfl
  · rw [decide_eq_false (show ¬ i < ns c by omega), Bool.and_false]
def ax (p : Nat → Bool) : Nat → Bool
  | 0 => false
  | n + 1 => ax p n || p n
theorem ax_t {p : Nat → Bool} : ∀ {n : Nat}, ax p n = true ↔ ∃ i, i < n ∧ p i = true := by
  intro n
  induction n with
  | zero => simp [ax]
  | succ n ih =>
    rw [ax, Bool.or_eq_true, ih]
    refine ⟨fun h => h.elim (fun ⟨i, h1, h2⟩ => ⟨i, by omega, h2⟩) (fun h => ⟨n, by omega, h⟩), fun ⟨i, h1, h2⟩ => ?_⟩
    rcases Nat.lt_or_ge i n with q | q
    · exact Or.inl ⟨i, q, h2⟩
    · have : i = n := by omega
      subst this; exact Or.inr h2
theorem ax_f {p : Nat → Bool} {n : Nat} : ax p n = false ↔ ∀ i, i < n → p i = false := by
  rw [← Bool.not_eq_true, ax_t]
  exact ⟨fun h i hi => by cases e : p i; rfl; exact absurd ⟨i, hi, e⟩ h, fun h ⟨i, hi, e⟩ => by rw [h i hi] at e; cases e⟩
theorem ax_congr {p q : Nat → Bool} {n : Nat} (h : ∀ i, i < n → p i = q i) : ax p n = ax q n := by
  induction n with
  | zero => rfl
  | succ n ih => rw [ax, ax, ih (fun i hi => h i (by omega)), h n (by omega)]
def stp (c : Ck) (s v : Nat) : Nat → Nat
  | 0 => 0
  | b + 1 => stp c s v b + (match ht (c.2.2.1 b v) s with
    | true => 2 ^ b
    | false => 0)
def nx (c : Ck) (s v : Nat) : Nat := stp c s v c.1
theorem stp_lt (c : Ck) (s v : Nat) : ∀ b, stp c s v b < 2 ^ b := by
  intro b
  induction b with
  | zero => exact Nat.one_pos
  | succ b ih =>
    rw [stp, Nat.pow_succ]
    cases ht (c.2.2.1 b v) s <;> dsimp only <;> (generalize 2 ^ b = z at *; omega)
theorem nx_lt (c : Ck) (s v : Nat) : nx c s v < ns c := stp_lt c s v c.1
theorem nx_64 {c : Ck} (h : okC c) (s v : Nat) : nx c s v < 64 := Nat.lt_of_lt_of_le (nx_lt c s v) (ns_le h).2
theorem or_p2 {x b : Nat} (h : x < 2 ^ b) : x ||| 2 ^ b = x + 2 ^ b := by
  have := Nat.two_pow_add_eq_or_of_lt h 1
  rw [Nat.mul_one] at this
  rw [Nat.or_comm, ← this, Nat.add_comm]
theorem stp_bit (c : Ck) (s v : Nat) : ∀ n b, (stp c s v n).testBit b = (decide (b < n) && ht (c.2.2.1 b v) s) := by
  intro n
  induction n with
  | zero => intro b; simp [stp]
  | succ n ih =>
    intro b
    rw [stp]
    cases e : ht (c.2.2.1 n v) s
    · dsimp only
      rw [Nat.add_zero, ih]
      rcases Nat.lt_trichotomy b n with q | q | q
      · rw [decide_eq_true q, decide_eq_true (show b < n + 1 by omega)]
      · subst q; rw [e, Bool.and_false, Bool.and_false]
      · rw [decide_eq_false (show ¬ b < n by omega), decide_eq_false (show ¬ b < n + 1 by omega)]
    · dsimp only
      rw [← or_p2 (stp_lt c s v n), Nat.testBit_or, ih, Nat.testBit_two_pow]
      rcases Nat.lt_trichotomy b n with q | q | q
      · rw [decide_eq_true q, decide_eq_true (show b < n + 1 by omega), decide_eq_false (show ¬ n = b by omega), Bool.or_false]
      · subst q; rw [e]; simp
      · rw [decide_eq_false (show ¬ b < n by omega), decide_eq_false (show ¬ b < n + 1 by omega), decide_eq_false (show ¬ n = b by omega)]; rfl
def sucs (c : Ck) (x : Int64) : Int64 := mk64 (fun t => ax (fun s => ht x s && ax (fun v => decide (nx c s v = t)) (nv c)) (ns c))
def bef (c : Ck) (x : Int64) : Int64 := mk64 (fun s => decide (s < ns c) && ax (fun v => ht x (nx c s v)) (nv c))
def bad (c : Ck) : Int64 := al c &&& (c.2.2.2.2 ^^^ (-1))
theorem h_sucs {c : Ck} (h : okC c) {x : Int64} {t : Nat} : ht (sucs c x) t = true ↔ ∃ s v, s < ns c ∧ v < nv c ∧ ht x s = true ∧ nx c s v = t := by
  unfold sucs
  rw [h_mk, Bool.and_eq_true, decide_eq_true_eq, ax_t]
  constructor
  · rintro ⟨_, s, h1, h2⟩
    rw [Bool.and_eq_true, ax_t] at h2
    obtain ⟨h3, v, h4, h5⟩ := h2
    exact ⟨s, v, h1, h4, h3, of_decide_eq_true h5⟩
  · rintro ⟨s, v, h1, h2, h3, h4⟩
    refine ⟨h4 ▸ nx_64 h s v, s, h1, ?_⟩
    rw [Bool.and_eq_true, ax_t]
    exact ⟨h3, v, h2, decide_eq_true h4⟩
theorem h_bef {c : Ck} (h : okC c) {x : Int64} {s : Nat} : ht (bef c x) s = true ↔ s < ns c ∧ ∃ v, v < nv c ∧ ht x (nx c s v) = true := by
  have := (ns_le h).2
  unfold bef
  rw [h_mk, Bool.and_eq_true, decide_eq_true_eq, Bool.and_eq_true, decide_eq_true_eq, ax_t]
  exact ⟨fun ⟨_, h1, h2⟩ => ⟨h1, h2⟩, fun ⟨h1, h2⟩ => ⟨by omega, h1, h2⟩⟩
theorem h_bad {c : Ck} (h : okC c) (i : Nat) : ht (bad c) i = (decide (i < ns c) && !ht c.2.2.2.2 i) := by
  have := (ns_le h).2
  unfold bad
  rw [h_and, h_al h]
  rcases Nat.lt_or_ge i (ns c) with q | q
  · rw [h_not _ (by omega)]
  · rw [decide_eq_false (by omega)]; rfl
theorem tbi : ∀ s, s < 64 → ∀ b, b < 6 → ((nI s >>> (nI b &&& 31)) &&& 1) = bI (s.testBit b) := by decide +kernel
/-! the reference over a circuit -/
def CM (c : Ck) (τ : St) : Prop := okC c ∧ τ.1 1 = nI c.1 ∧ τ.1 2 = nI c.2.1 ∧ (∀ b v, b < c.1 → v < nv c → τ.2.2.2 0 (4 * b + v) = c.2.2.1 b v) ∧ τ.2.1 0 = c.2.2.2.1 ∧ τ.2.1 1 = c.2.2.2.2
section CKT
variable {c : Ck} {τ σ : St} {N : Nat}
theorem X7_states_ok (h : CM c τ) : X7_states τ = some (nI (ns c)) := by
  unfold X7_states
  rw [h.2.1, sh1 c.1 (by have := h.1.2.1; omega)]
  rfl
theorem X7_values_ok (h : CM c τ) : X7_values τ = some (nI (nv c)) := by
  unfold X7_values
  rw [h.2.2.1, sh1 c.2.1 (by have := h.1.2.2.1; omega)]
  rfl
theorem all_k : ∀ nb, nb < 7 → (if nI nb = (6 : Int32) then (-1 : Int64) else ((1 : Int64) <<< ((nI (2 ^ nb)).toInt64 &&& 63)) - (1 : Int64)) = alN nb := by decide +kernel
theorem X7_all_ok (h : CM c τ) : X7_all τ = some (al c) := by
  unfold X7_all
  rw [X7_states_ok h, h.2.1]
  have e := all_k c.1 (by have := h.1.2.1; omega)
  unfold al
  rw [← e]
  show _ = some (if nI c.1 = 6 then _ else _)
  by_cases q : nI c.1 = 6
  · rw [if_pos q, if_pos q]
  · rw [if_neg q, if_neg q]; rfl
theorem X7_bad_ok (h : CM c τ) : X7_bad τ = some (bad c) := by
  unfold X7_bad bad
  rw [X7_all_ok h, h.2.2.2.2.2]
  rfl
def bset (c : Ck) (b : Nat) : Int64 := mk64 (fun s => decide (s < ns c) && s.testBit b)
theorem mk_ext {p q : Nat → Bool} (h : ∀ i, i < 64 → p i = q i) : mk64 p = mk64 q := h_ext (fun i hi => by rw [h_mk' p hi, h_mk' q hi, h i hi])
theorem lt_suc (s i : Nat) : decide (s < i + 1) = (decide (s < i) || decide (s = i)) := by
  rcases Nat.lt_trichotomy s i with q | q | q
  · rw [decide_eq_true q, decide_eq_true (show s < i + 1 by omega)]; rfl
  · subst q; simp
  · rw [decide_eq_false (show ¬ s < i by omega), decide_eq_false (show ¬ s < i + 1 by omega), decide_eq_false (show ¬ s = i by omega)]; rfl
theorem X7_bitSet_ok (hN : 4000000 ≤ N) (h : CM c τ) {b : Nat} (hb : b < 6) : X7_bitSet N τ (nI b) = some (bset c b) := by
  have h64 := ns_le h.1
  unfold X7_bitSet
  refine wf (fun n i a => X7_bitSet_5 (fun v2 => X7_bitSet_41 τ v2) τ (nI b) n a (nI i)) (ns c) (fun i a => a = mk64 (fun s => decide (s < i) && s.testBit b)) (fun r => r = some (bset c b)) ?_ ?_ N 0 0 (by omega) (h_ext (fun i hi => by rw [h_mk' _ hi, h_0]; simp)) (by omega)
  · rintro n i a hi rfl
    refine Or.inr ⟨_, rfl, ?_⟩
    show X7_bitSet_5 _ τ _ (n + 1) _ _ = X7_bitSet_5 _ τ _ n _ _
    have e2 : mk64 (fun s => decide (s < i + 1) && s.testBit b) = mk64 (fun s => decide (s < i) && s.testBit b) ||| (match i.testBit b with
      | true => (1 : Int64) <<< ((nI i).toInt64 &&& 63)
      | false => 0) := by
      apply h_ext
      intro j hj
      rw [h_or, h_mk' _ hj, h_mk' _ hj, lt_suc]
      cases e : i.testBit b
      · dsimp only
        rw [h_0]
        rcases Classical.em (j = i) with q | q
        · subst q; simp [e]
        · simp [q]
      · dsimp only
        rw [h_1 (by omega)]
        rcases Classical.em (j = i) with q | q
        · subst q; simp [e]
        · simp [q]
    rw [e2]
    cases e : i.testBit b
    · simp (disch := omega) only [X7_bitSet_5, X7_bitSet_5b, X7_states_ok h, fa_lit, nI_leI, nI_ltI, nI_eq, nI_add, pk_mul, nI_clamp, bd, nm, gd_in, gd_bI, gd_b0, gd_b1, if_pos, if_neg, bI_n0, bI_n1, reduceIte, reduceCtorEq, Nat.add_zero]
      rw [← fa_lit 31, ← fa_lit 1, tbi i (by omega) b hb, e]
      simp (disch := omega) only [fa_lit, nI_leI, nI_ltI, nI_eq, nI_add, pk_mul, nI_clamp, bd, nm, gd_in, gd_bI, gd_b0, gd_b1, if_pos, if_neg, bI_n0, bI_n1, reduceIte, reduceCtorEq, Nat.add_zero]
    · simp (disch := omega) only [X7_bitSet_5, X7_bitSet_5b, X7_states_ok h, fa_lit, nI_leI, nI_ltI, nI_eq, nI_add, pk_mul, nI_clamp, bd, nm, gd_in, gd_bI, gd_b0, gd_b1, if_pos, if_neg, bI_n0, bI_n1, reduceIte, reduceCtorEq, Nat.add_zero]
      rw [← fa_lit 31, ← fa_lit 1, tbi i (by omega) b hb, e]
      simp (disch := omega) only [fa_lit, nI_leI, nI_ltI, nI_eq, nI_add, pk_mul, nI_clamp, bd, nm, gd_in, gd_bI, gd_b0, gd_b1, if_pos, if_neg, bI_n0, bI_n1, reduceIte, reduceCtorEq, Nat.add_zero]
  · rintro n a rfl
    show X7_bitSet_5 _ τ _ (n + 1) _ _ = _
    simp (disch := omega) only [X7_bitSet_5, X7_bitSet_5b, X7_bitSet_41, X7_states_ok h, fa_lit, nI_leI, nI_ltI, nI_eq, nI_add, pk_mul, nI_clamp, bd, nm, gd_in, gd_bI, gd_b0, gd_b1, if_pos, if_neg, bI_n0, bI_n1, reduceIte, reduceCtorEq, Nat.add_zero]
    rfl
theorem or_stp {x b : Nat} (h : x < 2 ^ b) : nI x ||| nI (2 ^ b) = nI (x + 2 ^ b) := by rw [fa_or, or_p2 h]
theorem X7_successorOf_ok (hN : 4000000 ≤ N) (h : CM c τ) {s v : Nat} (hs : s < 64) (hv : v < nv c) : X7_successorOf N τ (nI s) (nI v) = some (nI (nx c s v)) := by
  have h64 := ns_le h.1
  have h4 := nv_le h.1
  have h6 := h.1.2.1
  unfold X7_successorOf
  refine wf (fun n i a => X7_successorOf_5 (fun v3 => X7_successorOf_49 τ v3) τ (nI s) (nI v) n a (nI i)) c.1 (fun i a => a = nI (stp c s v i)) (fun r => r = some (nI (nx c s v))) ?_ ?_ N 0 0 (by omega) rfl (by omega)
  · rintro n i a hi rfl
    refine Or.inr ⟨_, rfl, ?_⟩
    show X7_successorOf_5 _ τ _ _ (n + 1) _ _ = X7_successorOf_5 _ τ _ _ n _ _
    have e3 := h.2.2.2.1 i v hi hv
    rw [stp]
    cases e : ht (c.2.2.1 i v) s
    · simp (disch := omega) only [X7_successorOf_5, X7_successorOf_5b, h.2.1, e3, X7_has_ok, e, fa_lit, nI_leI, nI_ltI, nI_eq, nI_add, pk_mul, nI_clamp, bd, nm, gd_in, gd_bI, gd_b0, gd_b1, if_pos, if_neg, bI_n0, bI_n1, reduceIte, reduceCtorEq, Nat.add_zero]
      rw [fa_or, Nat.or_zero]
    · simp (disch := omega) only [X7_successorOf_5, X7_successorOf_5b, h.2.1, e3, X7_has_ok, e, fa_lit, nI_leI, nI_ltI, nI_eq, nI_add, pk_mul, nI_clamp, bd, nm, gd_in, gd_bI, gd_b0, gd_b1, if_pos, if_neg, bI_n0, bI_n1, reduceIte, reduceCtorEq, Nat.add_zero]
      rw [← fa_lit 31, ← fa_lit 1, sh1 i (by omega), or_stp (stp_lt c s v i)]
  · rintro n a rfl
    show X7_successorOf_5 _ τ _ _ (n + 1) _ _ = _
    simp (disch := omega) only [X7_successorOf_5, X7_successorOf_5b, h.2.1, fa_lit, nI_leI, nI_ltI, nI_eq, nI_add, pk_mul, nI_clamp, bd, nm, gd_in, gd_bI, gd_b0, gd_b1, if_pos, if_neg, bI_n0, bI_n1, reduceIte, reduceCtorEq, Nat.add_zero]
    rfl
end CKT
