/-! HALF B, the pure programs held against each other. 80: sets of states by their bits, counts, the loop row -/
theorem gd_t {β : Type} {c : Prop} [Decidable c] {x : Option β} (h : c) : gd c x = x := if_pos h
/-- a loop by a measure: its exit, or a step to less -/
theorem wl {A R : Type} (L : Nat → A → R) (μ : A → Nat) (I : A → Prop) (J : R → Prop) (hs : ∀ n a, I a → J (L (n + 1) a) ∨ ∃ a', I a' ∧ μ a' < μ a ∧ L (n + 1) a = L n a') : ∀ n a, I a → μ a < n → J (L n a) := by
  intro n
  induction n with
  | zero => intro a _ h; omega
  | succ n ih =>
    intro a ha hn
    rcases hs n a ha with h | ⟨a', h1, h2, h3⟩
    · exact h
    · rw [h3]; exact ih a' h1 (by omega)
/-- a loop by its counter -/
theorem wf {A R : Type} (L : Nat → Nat → A → R) (e : Nat) (I : Nat → A → Prop) (J : R → Prop) (hs : ∀ n i a, i < e → I i a → J (L (n + 1) i a) ∨ ∃ a', I (i + 1) a' ∧ L (n + 1) i a = L n (i + 1) a') (hx : ∀ n a, I e a → J (L (n + 1) e a)) : ∀ n i a, i ≤ e → I i a → e < n + i → J (L n i a) := by
  intro n
  induction n with
  | zero => intro i a h1 _ h; omega
  | succ n ih =>
    intro i a hi ha hn
    rcases Nat.lt_or_ge i e with h | h
    · rcases hs n i a h ha with h4 | ⟨a', h1, h3⟩
      · exact h4
      · rw [h3]; exact ih (i + 1) a' h h1 (by omega)
    · have : i = e := by omega
      subst this
      exact hx n a ha
def bI (b : Bool) : Int32 := match b with
  | true => 1
  | false => 0
theorem bI_0 (b : Bool) : (bI b = 0) ↔ b = false := by cases b <;> decide
theorem bI_1 (b : Bool) : (bI b = 1) ↔ b = true := by cases b <;> decide
theorem bI_n0 (b : Bool) : (bI b = nI 0) ↔ b = false := by cases b <;> decide
theorem bI_n1 (b : Bool) : (bI b = nI 1) ↔ b = true := by cases b <;> decide
theorem bI_isb (b : Bool) : isb (bI b) := by cases b <;> decide
theorem gd_in {β : Type} {n K : Nat} {x : Option β} (h : n < K) (hK : K < 2147483648) : gd (inb (nI n) K) x = x := if_pos ⟨by rw [nI_toInt (by omega)]; omega, by rw [nI_toInt (by omega)]; omega⟩
theorem gd_bI {β : Type} {b : Bool} {x : Option β} : gd (isb (bI b)) x = x := if_pos (bI_isb b)
theorem gd_b0 {β : Type} {x : Option β} : gd (isb (nI 0)) x = x := rfl
theorem gd_b1 {β : Type} {x : Option β} : gd (isb (nI 1)) x = x := rfl
theorem fa_lit (n : Nat) : (OfNat.ofNat n : Int32) = nI n := rfl
theorem fa_or (a b : Nat) : nI a ||| nI b = nI (a ||| b) := by
  apply Int32.toBitVec_inj.1
  show BitVec.ofNat 32 a ||| BitVec.ofNat 32 b = BitVec.ofNat 32 (a ||| b)
  apply BitVec.eq_of_getLsbD_eq
  intro i hi
  simp [hi]
theorem fa_and (a b : Nat) : nI a &&& nI b = nI (a &&& b) := by
  apply Int32.toBitVec_inj.1
  show BitVec.ofNat 32 a &&& BitVec.ofNat 32 b = BitVec.ofNat 32 (a &&& b)
  apply BitVec.eq_of_getLsbD_eq
  intro i hi
  simp [hi]
/-- 1 << k -/
theorem sh1 : ∀ k, k < 31 → ((1 : Int32) <<< (nI k &&& 31)) = nI (2 ^ k) := by decide +kernel
def ht (x : Int64) (i : Nat) : Bool := x.toBitVec.getLsbD i
theorem h_ext {x y : Int64} (h : ∀ i, i < 64 → ht x i = ht y i) : x = y := Int64.toBitVec_inj.mp (BitVec.eq_of_getLsbD_eq (fun i hi => h i hi))
theorem h_or (x y : Int64) (i : Nat) : ht (x ||| y) i = (ht x i || ht y i) := by unfold ht; rw [Int64.toBitVec_or, BitVec.getLsbD_or]
theorem h_and (x y : Int64) (i : Nat) : ht (x &&& y) i = (ht x i && ht y i) := by unfold ht; rw [Int64.toBitVec_and, BitVec.getLsbD_and]
theorem h_xor (x y : Int64) (i : Nat) : ht (x ^^^ y) i = (ht x i ^^ ht y i) := by unfold ht; rw [Int64.toBitVec_xor, BitVec.getLsbD_xor]
theorem h_big (x : Int64) {i : Nat} (h : 64 ≤ i) : ht x i = false := BitVec.getLsbD_of_ge _ _ h
theorem h_lt {x : Int64} {i : Nat} (h : ht x i = true) : i < 64 := by
  rcases Nat.lt_or_ge i 64 with q | q
  · exact q
  · rw [h_big x q] at h; cases h
theorem h_m1 : ∀ i, i < 64 → ht (-1) i = true := by decide +kernel
theorem h_0 (i : Nat) : ht 0 i = false := BitVec.getLsbD_zero
theorem h_not (x : Int64) {i : Nat} (hi : i < 64) : ht (x ^^^ (-1)) i = !ht x i := by rw [h_xor, h_m1 i hi]; cases ht x i <;> rfl
theorem h_1l : ∀ k, k < 64 → ∀ i, i < 64 → ht ((1 : Int64) <<< ((nI k).toInt64 &&& 63)) i = decide (i = k) := by decide +kernel
theorem h_1 {k : Nat} (hk : k < 64) (i : Nat) : ht ((1 : Int64) <<< ((nI k).toInt64 &&& 63)) i = decide (i = k) := by
  rcases Nat.lt_or_ge i 64 with q | q
  · exact h_1l k hk i q
  · rw [h_big _ q, decide_eq_false (by omega)]
theorem h_z {x : Int64} : x = 0 ↔ ∀ i, i < 64 → ht x i = false := ⟨fun h i _ => by rw [h]; exact h_0 i, fun h => h_ext (fun i hi => by rw [h i hi, h_0])⟩
theorem h_nz {x : Int64} (h : x ≠ 0) : ∃ i, i < 64 ∧ ht x i = true := by
  rcases Classical.em (∃ i, i < 64 ∧ ht x i = true) with q | q
  · exact q
  · refine absurd (h_z.mpr (fun i hi => ?_)) h
    cases e : ht x i
    · rfl
    · exact absurd ⟨i, hi, e⟩ q
theorem h_s63 : ∀ k, k < 64 → (((nI k).toInt64.toUInt64 &&& Int64.toUInt64 63).toBitVec % 64).toNat = k := by decide +kernel
theorem h_bit (w : Int64) {j : Nat} (hj : j < 64) : ((w.toUInt64 >>> ((nI j).toInt64.toUInt64 &&& Int64.toUInt64 63)).toInt64 &&& (1 : Int64)) = if ht w j = true then 1 else 0 := by
  have e : ((w.toUInt64 >>> ((nI j).toInt64.toUInt64 &&& Int64.toUInt64 63)).toInt64).toBitVec = w.toBitVec >>> j := by
    show w.toBitVec >>> (((nI j).toInt64.toUInt64 &&& Int64.toUInt64 63).toBitVec % 64) = w.toBitVec >>> j
    rw [BitVec.ushiftRight_eq', h_s63 j hj]
  apply Int64.toBitVec_inj.mp
  rw [Int64.toBitVec_and, e]
  show (w.toBitVec >>> j &&& 1#64) = _
  rw [BitVec.and_one_eq_setWidth_ofBool_getLsbD, BitVec.getLsbD_ushiftRight, Nat.add_zero]
  unfold ht
  cases hb : w.toBitVec.getLsbD j
  · decide
  · decide
theorem X7_has_ok (v : Int64) {s : Nat} (hs : s < 64) : X7_has v (nI s) = some (bI (ht v s)) := by
  unfold X7_has
  rw [h_bit v hs]
  cases ht v s <;> rfl
theorem X6_contains_ok (v : Int64) {s : Nat} (hs : s < 64) : X6_contains v (nI s) = some (bI (ht v s)) := by
  unfold X6_contains
  rw [h_bit v hs]
  cases ht v s <;> rfl
/-! the set of a predicate -/
def mkN (p : Nat → Bool) : Nat → Int64
  | 0 => 0
  | n + 1 => mkN p n ||| (match p n with
    | true => (1 : Int64) <<< ((nI n).toInt64 &&& 63)
    | false => 0)
theorem h_mkN (p : Nat → Bool) : ∀ n, n ≤ 64 → ∀ i, ht (mkN p n) i = (decide (i < n) && p i) := by
  intro n
  induction n with
  | zero => intro _ i; simp [mkN, h_0]
  | succ n ih =>
    intro hn i
    rw [mkN, h_or, ih (by omega) i]
    rcases Nat.lt_trichotomy i n with h | h | h
    · have e2 : i < n + 1 := by omega
      cases p n
      · simp [h, e2, h_0]
      · rw [h_1 (by omega)]; simp [h, e2]; omega
    · subst h
      cases e : p i
      · simp [h_0]
      · rw [h_1 (by omega)]; simp
    · have e1 : ¬ i < n := by omega
      have e2 : ¬ i < n + 1 := by omega
      cases p n
      · simp [e1, e2, h_0]
      · rw [h_1 (by omega)]; simp [e1, e2]; omega
def mk64 (p : Nat → Bool) : Int64 := mkN p 64
theorem h_mk (p : Nat → Bool) (i : Nat) : ht (mk64 p) i = (decide (i < 64) && p i) := h_mkN p 64 (Nat.le_refl _) i
theorem h_mk' (p : Nat → Bool) {i : Nat} (h : i < 64) : ht (mk64 p) i = p i := by rw [h_mk, decide_eq_true h, Bool.true_and]
/-! counts -/
def cnt (p : Nat → Bool) : Nat → Nat
  | 0 => 0
  | n + 1 => cnt p n + (match p n with
    | true => 1
    | false => 0)
theorem cnt_le (p : Nat → Bool) : ∀ n, cnt p n ≤ n := by
  intro n
  induction n with
  | zero => exact Nat.le_refl _
  | succ n ih => rw [cnt]; cases p n <;> dsimp only <;> omega
theorem cnt_mono {p q : Nat → Bool} : ∀ n, (∀ i, i < n → p i = true → q i = true) → cnt p n ≤ cnt q n := by
  intro n
  induction n with
  | zero => intro _; exact Nat.le_refl _
  | succ n ih =>
    intro h
    have h1 := ih (fun i hi => h i (by omega))
    have h2 := h n (by omega)
    rw [cnt, cnt]
    cases e1 : p n <;> cases e2 : q n <;> dsimp only <;> first | omega | (rw [e1, e2] at h2; exact absurd (h2 rfl) (by decide))
theorem cnt_lt {p q : Nat → Bool} : ∀ n, (∀ i, i < n → p i = true → q i = true) → (∃ i, i < n ∧ p i = false ∧ q i = true) → cnt p n < cnt q n := by
  intro n
  induction n with
  | zero => intro _ ⟨i, hi, _⟩; omega
  | succ n ih =>
    intro h ⟨i, hi, h3, h4⟩
    have h2 := h n (by omega)
    rw [cnt, cnt]
    rcases Nat.lt_or_ge i n with q1 | q1
    · have h1 := ih (fun i hi => h i (by omega)) ⟨i, q1, h3, h4⟩
      cases e1 : p n <;> cases e2 : q n <;> dsimp only <;> first | omega | (rw [e1, e2] at h2; exact absurd (h2 rfl) (by decide))
    · have : i = n := by omega
      subst this
      have h1 := cnt_mono i (fun j hj => h j (by omega))
      rw [h3, h4]; dsimp only; omega
theorem cnt_congr {p q : Nat → Bool} : ∀ n, (∀ i, i < n → p i = q i) → cnt p n = cnt q n := by
  intro n
  induction n with
  | zero => intro _; rfl
  | succ n ih => intro h; rw [cnt, cnt, ih (fun i hi => h i (by omega)), h n (by omega)]
/-- how many states a set has -/
def pc (x : Int64) : Nat := cnt (ht x) 64
theorem pc_le (x : Int64) : pc x ≤ 64 := cnt_le _ _
theorem pc_lt {x y : Int64} (h : ∀ i, ht x i = true → ht y i = true) {i : Nat} (h1 : ht x i = false) (h2 : ht y i = true) : pc x < pc y := cnt_lt 64 (fun i _ => h i) ⟨i, h_lt h2, h1, h2⟩
theorem pc_mono {x y : Int64} (h : ∀ i, ht x i = true → ht y i = true) : pc x ≤ pc y := cnt_mono 64 (fun i _ => h i)
/-! the least one -/
def lst (p : Nat → Bool) : Nat → Nat → Nat
  | i, 0 => i
  | i, m + 1 => match p i with
    | true => i
    | false => lst p (i + 1) m
theorem lst_ok (p : Nat → Bool) : ∀ m i, i ≤ lst p i m ∧ lst p i m ≤ i + m ∧ (∀ j, i ≤ j → j < lst p i m → p j = false) ∧ (lst p i m < i + m → p (lst p i m) = true) := by
  intro m
  induction m with
  | zero => intro i; exact ⟨Nat.le_refl _, Nat.le_refl _, fun j h1 h2 => absurd h2 (by rw [lst]; omega), fun h => absurd h (by rw [lst]; omega)⟩
  | succ m ih =>
    intro i
    rw [lst]
    cases e : p i
    · obtain ⟨a, b, c, d⟩ := ih (i + 1)
      refine ⟨by dsimp only; omega, by dsimp only; omega, fun j h1 h2 => ?_, fun h => d (by dsimp only at h; omega)⟩
      rcases Nat.lt_or_ge i j with q | q
      · exact c j q h2
      · have : j = i := by omega
        subst this; exact e
    · exact ⟨Nat.le_refl _, by dsimp only; omega, fun j h1 h2 => absurd h2 (by dsimp only; omega), fun _ => e⟩
def ls (x : Int64) : Nat := lst (ht x) 0 64
theorem ls_ok {x : Int64} (h : x ≠ 0) : ls x < 64 ∧ ht x (ls x) = true ∧ ∀ j, j < ls x → ht x j = false := by
  obtain ⟨a, b, c, d⟩ := lst_ok (ht x) 64 0
  obtain ⟨i, hi, hx⟩ := h_nz h
  have h1 : ls x < 64 := by
    rcases Nat.lt_or_ge (ls x) 64 with q | q
    · exact q
    · have := c i (by omega) (by have : lst (ht x) 0 64 = ls x := rfl; omega)
      rw [this] at hx; cases hx
  exact ⟨h1, d (by have : lst (ht x) 0 64 = ls x := rfl; omega), fun j hj => c j (by omega) hj⟩
theorem ls_u {x : Int64} {j : Nat} (h1 : ht x j = true) (h2 : ∀ i, i < j → ht x i = false) : ls x = j := by
  have hx : x ≠ 0 := fun e => by rw [e, h_0] at h1; cases h1
  obtain ⟨a, b, c⟩ := ls_ok hx
  rcases Nat.lt_trichotomy (ls x) j with q | q | q
  · rw [h2 _ q] at b; cases b
  · exact q
  · rw [c _ q] at h1; cases h1
/-- the least state as an answer -/
def li (x : Int64) : Int32 := if x = 0 then -1 else nI (ls x)
theorem X7_size_ok {N : Nat} (hN : 4000000 ≤ N) (x : Int64) : X7_size N x = some (nI (pc x)) := by
  unfold X7_size
  refine wf (fun n i a => X7_size_4 (fun v2 => X7_size_32 v2) x n a (nI i)) 64 (fun i a => a = nI (cnt (ht x) i)) (fun r => r = some (nI (pc x))) ?_ ?_ N 0 0 (by omega) rfl (by omega)
  · rintro n i a hi rfl
    refine Or.inr ⟨_, rfl, ?_⟩
    show X7_size_4 _ x (n + 1) _ _ = X7_size_4 _ x n _ _
    cases e : ht x i
    · simp (disch := omega) only [X7_size_4, X7_size_4b, X7_has_ok, cnt, e, fa_lit, nI_leI, nI_ltI, nI_eq, nI_add, pk_mul, nI_clamp, bd, nm, gd_in, gd_bI, gd_b0, gd_b1, if_pos, if_neg, bI_n0, bI_n1, reduceIte, reduceCtorEq, Nat.add_zero]
    · simp (disch := omega) only [X7_size_4, X7_size_4b, X7_has_ok, cnt, e, fa_lit, nI_leI, nI_ltI, nI_eq, nI_add, pk_mul, nI_clamp, bd, nm, gd_in, gd_bI, gd_b0, gd_b1, if_pos, if_neg, bI_n0, bI_n1, reduceIte, reduceCtorEq, Nat.add_zero]
  · rintro n a rfl
    show X7_size_4 _ x (n + 1) _ _ = _
    simp (disch := omega) only [X7_size_4, X7_size_4b, X7_size_32, fa_lit, nI_leI, nI_ltI, nI_eq, nI_add, pk_mul, nI_clamp, bd, nm, gd_in, gd_bI, gd_b0, gd_b1, if_pos, if_neg, bI_n0, bI_n1, reduceIte, reduceCtorEq, Nat.add_zero]
    rfl
theorem X7_least_ok {N : Nat} (hN : 4000000 ≤ N) (x : Int64) : X7_least N x = some (li x) := by
  unfold X7_least
  refine wf (fun n i (a : Unit) => X7_least_2 (fun v2 => X7_least_22 v2) x n (nI i)) 64 (fun i a => ∀ j, j < i → ht x j = false) (fun r => r = some (li x)) ?_ ?_ N 0 () (by omega) (fun j hj => by omega) (by omega)
  · intro n i a hi h
    show X7_least_2 _ x (n + 1) _ = _ ∨ ∃ a', _ ∧ X7_least_2 _ x (n + 1) _ = X7_least_2 _ x n _
    cases e : ht x i
    · refine Or.inr ⟨(), fun j hj => ?_, ?_⟩
      · rcases Nat.lt_or_ge j i with q | q
        · exact h j q
        · have : j = i := by omega
          subst this; exact e
      · simp (disch := omega) only [X7_least_2, X7_least_2b, X7_has_ok, e, fa_lit, nI_leI, nI_ltI, nI_eq, nI_add, pk_mul, nI_clamp, bd, nm, gd_in, gd_bI, gd_b0, gd_b1, if_pos, if_neg, bI_n0, bI_n1, reduceIte, reduceCtorEq, Nat.add_zero]
    · refine Or.inl ?_
      have h1 : li x = nI i := by
        unfold li
        rw [if_neg (fun q => by rw [q, h_0] at e; cases e), ls_u e h]
      simp (disch := omega) only [X7_least_2, X7_least_2b, X7_has_ok, X7_least_22, e, h1, fa_lit, nI_leI, nI_ltI, nI_eq, nI_add, pk_mul, nI_clamp, bd, nm, gd_in, gd_bI, gd_b0, gd_b1, if_pos, if_neg, bI_n0, bI_n1, reduceIte, reduceCtorEq, Nat.add_zero]
  · intro n a h
    show X7_least_2 _ x (n + 1) _ = _
    have h1 : li x = -1 := by unfold li; rw [if_pos (h_z.mpr h)]
    rw [h1]
    simp (disch := omega) only [X7_least_2, X7_least_2b, X7_has_ok, X7_least_22, fa_lit, nI_leI, nI_ltI, nI_eq, nI_add, pk_mul, nI_clamp, bd, nm, gd_in, gd_bI, gd_b0, gd_b1, if_pos, if_neg, bI_n0, bI_n1, reduceIte, reduceCtorEq, Nat.add_zero]
theorem h_neg (x : Int64) {i : Nat} (hi : i < 64) : ht (-x) i = (ht x i ^^ decide (∃ j, j < i ∧ ht x j = true)) := by
  unfold ht
  rw [Int64.toBitVec_neg, BitVec.getLsbD_neg, decide_eq_true hi, Bool.true_and]
theorem h_pred (x : Int64) {i : Nat} (hi : i < 64) : ht (x - 1) i = !(ht x i ^^ decide (∃ j, j < i ∧ ht x j = true)) := by
  rw [← h_neg x hi]
  unfold ht
  rw [Int64.toBitVec_neg, Int64.toBitVec_sub]
  show (x.toBitVec - 1#64).getLsbD i = _
  rw [← BitVec.not_neg, BitVec.getLsbD_not, decide_eq_true hi, Bool.true_and]
/-- without its least one -/
theorem h_rest (x : Int64) (i : Nat) : ht (x &&& (x - 1)) i = (ht x i && !decide (i = ls x)) := by
  rcases Nat.lt_or_ge i 64 with hi | hi
  · rw [h_and, h_pred x hi]
    cases e : ht x i
    · simp
    · have hx : x ≠ 0 := fun q => by rw [q, h_0] at e; cases e
      obtain ⟨a, b, c⟩ := ls_ok hx
      rcases Classical.em (i = ls x) with q | q
      · have : ¬ ∃ j, j < i ∧ ht x j = true := fun ⟨j, h1, h2⟩ => by rw [c j (by omega)] at h2; cases h2
        simp [q, this]
        subst q
        exact fun j h1 => by rw [c j h1]
      · have : ls x < i := by
          rcases Nat.lt_trichotomy (ls x) i with z | z | z
          · exact z
          · exact absurd z.symm q
          · rw [c i z] at e; cases e
        simp [q]
        exact ⟨ls x, this, b⟩
  · rw [h_big _ hi, h_big _ hi]; rfl
theorem h_least {x : Int64} (h : x ≠ 0) : x &&& (-x) = (1 : Int64) <<< ((nI (ls x)).toInt64 &&& 63) := by
  obtain ⟨a, b, c⟩ := ls_ok h
  apply h_ext
  intro i hi
  rw [h_1 a, h_and, h_neg x hi]
  rcases Nat.lt_trichotomy i (ls x) with q | q | q
  · rw [c i q, Bool.false_and, decide_eq_false (show ¬ i = ls x by omega)]
  · have : ¬ ∃ j, j < i ∧ ht x j = true := fun ⟨j, h1, h2⟩ => by rw [c j (by omega)] at h2; cases h2
    rw [decide_eq_false this, decide_eq_true q, q, b]; rfl
  · have : ∃ j, j < i ∧ ht x j = true := ⟨ls x, q, b⟩
    rw [decide_eq_true this, decide_eq_false (by omega)]
    cases ht x i <;> rfl
theorem bc_pow : ∀ k, k < 64 → J13_bitCount_95d88 (((1 : Int64) <<< ((nI k).toInt64 &&& 63)) - 1) = some (nI k) := by decide +kernel
theorem X6_leastOf_ok (x : Int64) : X6_leastOf x = some (li x) := by
  unfold X6_leastOf li
  rcases Classical.em (x = 0) with h | h
  · rw [if_pos h, if_pos h]
  · rw [if_neg h, if_neg h, h_least h, bc_pow _ (ls_ok h).1]; rfl
