/-! b7: induction, what is asked; runs of a length that meet a bad state -/
def ldS (c : Ck) : Nat → Int64
  | 0 => bad c
  | j + 1 => c.2.2.2.2 &&& bef c (ldS c j)
def itS (c : Ck) (y : Int64) : Nat → Int64
  | 0 => y
  | j + 1 => sucs c (itS c y j)
def htB (c : Ck) (j : Nat) : Bool := !decide (itS c c.2.2.2.1 j &&& bad c = 0)
def SPb (c : Ck) : Nat → Nat → Int64 → Bool
  | 0, _, _ => true
  | j + 1, s, u => ax (fun v => ht (ldS c j) (nx c s v) && !ht u (nx c s v) && SPb c j (nx c s v) (u ||| sg (nx c s v))) (nv c)
def Lkb (c : Ck) (b : Bool) (k : Nat) : Bool := ax (fun s => ht (ldS c k) s && (!b || SPb c k s (sg s))) (ns c)
def inR (c : Ck) (b : Bool) : Int32 := if lst (fun j => !Lkb c b j || htB c j) 0 7 < 7 ∧ Lkb c b (lst (fun j => !Lkb c b j || htB c j) 0 7) = false then nI (lst (fun j => !Lkb c b j || htB c j) 0 7) else -1
section IND1
variable {c : Ck} {σ τ : St} {N : Nat} {b : Bool}
theorem inR_1 {i : Nat} (hi : i < 7) (h1 : ∀ j, j < i → Lkb c b j = true) (h2 : ∀ j, j < i → htB c j = false) (h3 : Lkb c b i = false) : inR c b = nI i := by
  have e : lst (fun j => !Lkb c b j || htB c j) 0 7 = i := lst_u hi (by rw [h3]; rfl) (fun j hj => by rw [h1 j hj, h2 j hj]; rfl)
  unfold inR
  rw [e, if_pos ⟨hi, h3⟩]
theorem inR_2 {i : Nat} (hi : i ≤ 7) (h1 : ∀ j, j < i → Lkb c b j = true) (h2 : ∃ j, j < i ∧ htB c j = true) : inR c b = -1 := by
  obtain ⟨j, j1, j2⟩ := h2
  obtain ⟨_, a2, a3, _⟩ := lst_ok (fun j => !Lkb c b j || htB c j) 7 0
  unfold inR
  rw [if_neg]
  rintro ⟨z1, z2⟩
  rcases Nat.lt_or_ge j (lst (fun j => !Lkb c b j || htB c j) 0 7) with q | q
  · have := a3 j (by omega) q
    rw [j2, Bool.or_true] at this; cases this
  · rw [h1 _ (by omega)] at z2; cases z2
theorem inR_3 (h1 : ∀ j, j < 7 → Lkb c b j = true) : inR c b = -1 := by
  unfold inR
  rw [if_neg]
  rintro ⟨z1, z2⟩
  rw [h1 _ z1] at z2; cases z2
theorem itS_s (y : Int64) : ∀ j, itS c (sucs c y) j = itS c y (j + 1) := by
  intro j
  induction j with
  | zero => rfl
  | succ j ih => rw [itS, ih]; rfl
theorem rlf_le {x : Int64} {f : Nat → Int32} : ∀ n s, s < n → ht x s = true → f s ≠ -1 → rlf x f n ≠ -1 ∧ (rlf x f n).toInt ≤ (f s).toInt := by
  intro n
  induction n with
  | zero => intro s hs; omega
  | succ n ih =>
    intro s hs h1 h2
    rw [rlf]
    rcases Nat.lt_or_ge s n with q | q
    · obtain ⟨a1, a2⟩ := ih s q h1 h2
      by_cases z : ht x n = true ∧ f n ≠ -1 ∧ (rlf x f n = -1 ∨ ¬ rlf x f n ≤ f n)
      · rw [if_pos z]
        refine ⟨z.2.1, ?_⟩
        have := z.2.2.resolve_left a1
        rw [le_i] at this
        omega
      · rw [if_neg z]
        exact ⟨a1, a2⟩
    · have : s = n := by omega
      subst this
      by_cases z : ht x s = true ∧ f s ≠ -1 ∧ (rlf x f s = -1 ∨ ¬ rlf x f s ≤ f s)
      · rw [if_pos z]
        exact ⟨h2, Int.le_refl _⟩
      · rw [if_neg z]
        have z1 : ¬ rlf x f s = -1 := fun y => z ⟨h1, h2, Or.inl y⟩
        have z2 : rlf x f s ≤ f s := Classical.byContradiction (fun y => z ⟨h1, h2, Or.inr y⟩)
        rw [le_i] at z2
        exact ⟨z1, z2⟩
theorem dis_fw (h : okC c) : ∀ d s y, d < 64 → dis c s = nI d → ht y s = true → ∃ t, ht (itS c y d) t = true ∧ ht (bad c) t = true := by
  intro d
  induction d with
  | zero =>
    intro s y _ e hs
    rcases dis_c (c := c) s with z | ⟨d', z1, z2, z3⟩
    · rw [z] at e; exact absurd e.symm (nI_nm1 (by omega))
    · rw [e, nI_eq (by omega) (by omega)] at z2
      subst z2
      exact ⟨s, hs, z3⟩
  | succ d ih =>
    intro s y hd e hs
    obtain ⟨a1, v, a2, a3⟩ := dis_nx h hd e
    obtain ⟨t, t1, t2⟩ := ih (nx c s v) (sucs c y) (by omega) a3 ((h_sucs h).mpr ⟨s, v, a1, a2, hs, rfl⟩)
    rw [itS_s] at t1
    exact ⟨t, t1, t2⟩
theorem dis_bk (h : okC c) {s v d : Nat} (hs : s < ns c) (hv : v < nv c) (hd : d < 64) (e : dis c (nx c s v) = nI d) : ∃ d', d' ≤ d + 1 ∧ d' < 64 ∧ dis c s = nI d' := by
  rcases dis_c (c := c) (nx c s v) with z | ⟨d', z1, z2, z3⟩
  · rw [z] at e; exact absurd e.symm (nI_nm1 (by omega))
  · rw [e, nI_eq (by omega) (by omega)] at z2
    subst z2
    have w : ht (bef c (lay (FB c true) (bad c) d).2) s = true := (h_bef h).mpr ⟨hs, v, hv, z3⟩
    cases q : ht ((lay (FB c true) (bad c) d).1 ||| (lay (FB c true) (bad c) d).2) s
    · have e2 : ht (lay (FB c true) (bad c) (d + 1)).2 s = true := by
        show ht (bef c (lay (FB c true) (bad c) d).2 &&& (((lay (FB c true) (bad c) d).1 ||| (lay (FB c true) (bad c) d).2) ^^^ (-1))) s = true
        rw [h_and, w, h_not _ (h_lt w), q]; rfl
      rcases Nat.lt_or_ge (d + 1) 64 with y | y
      · exact ⟨d + 1, Nat.le_refl _, y, far_e y e2⟩
      · have : d + 1 = 64 := by omega
        rw [this, lay_64 (FB_0 h true), h_0] at e2; cases e2
    · rw [h_or, Bool.or_eq_true] at q
      rcases q with q | q
      · obtain ⟨i, i1, i2⟩ := (met_c d).mp q
        exact ⟨i, by omega, by omega, far_e (by omega) i2⟩
      · exact ⟨d, by omega, hd, far_e hd q⟩
theorem dis_rn (h : okC c) : ∀ j y t, ht (itS c y j) t = true → ht (bad c) t = true → ∃ s d, ht y s = true ∧ d ≤ j ∧ d < 64 ∧ dis c s = nI d := by
  intro j
  induction j with
  | zero =>
    intro y t h1 h2
    exact ⟨t, 0, h1, Nat.le_refl _, by omega, far_e (i := 0) (by omega) h2⟩
  | succ j ih =>
    intro y t h1 h2
    rw [← itS_s] at h1
    obtain ⟨s', d, a1, a2, a3, a4⟩ := ih (sucs c y) t h1 h2
    obtain ⟨s, v, b1, b2, b3, b4⟩ := (h_sucs h).mp a1
    subst b4
    obtain ⟨d', e1, e2, e3⟩ := dis_bk h b1 b2 a3 a4
    exact ⟨s, d', b3, by omega, e2, e3⟩
theorem htB_i {j : Nat} : htB c j = true ↔ ∃ t, ht (itS c c.2.2.2.1 j) t = true ∧ ht (bad c) t = true := by
  unfold htB
  rw [Bool.not_eq_true', decide_eq_false_iff_not]
  constructor
  · intro z
    obtain ⟨t, _, t2⟩ := h_nz z
    rw [h_and, Bool.and_eq_true] at t2
    exact ⟨t, t2⟩
  · rintro ⟨t, t1, t2⟩ z
    have := an_z.mp z t t1
    rw [t2] at this; cases this
theorem hit_k (h : okC c) {k : Nat} (hk : k ≤ 7) : (∃ R, R < k ∧ rlc c = nI R) ↔ ∃ j, j < k ∧ htB c j = true := by
  constructor
  · rintro ⟨R, r1, r2⟩
    rcases rlc_c (c := c) with z | ⟨R', x1, x2, s, x3, x4⟩
    · rw [z] at r2; exact absurd r2.symm (nI_nm1 (by omega))
    · rw [r2, nI_eq (by omega) (by omega)] at x2
      subst x2
      exact ⟨R, r1, htB_i.mpr (dis_fw h R s _ x1 x4 x3)⟩
  · rintro ⟨j, j1, j2⟩
    obtain ⟨t, t1, t2⟩ := htB_i.mp j2
    obtain ⟨s, d, a1, a2, a3, a4⟩ := dis_rn h j _ t t1 t2
    have hs := h.2.2.2 s a1
    obtain ⟨b1, b2⟩ := rlf_le (x := c.2.2.2.1) (f := dis c) (ns c) s hs a1 (by rw [a4]; exact nI_nm1 (by omega))
    rcases rlc_c (c := c) with z | ⟨R', x1, x2, _⟩
    · exact absurd z b1
    · have b2' : (rlc c).toInt ≤ (dis c s).toInt := b2
      rw [x2, a4, nI_toInt (by omega), nI_toInt (by omega)] at b2'
      exact ⟨R', by omega, x2⟩
theorem ldS_l (h : okC c) : ∀ k s, ht (ldS c k) s = true → s < ns c := by
  intro k
  cases k with
  | zero => exact bad_l h
  | succ k =>
    intro s hs
    have z : ht (c.2.2.2.2 &&& bef c (ldS c k)) s = true := hs
    rw [h_and, Bool.and_eq_true] at z
    exact bef_l h _ s z.2
theorem ldS_g (h : okC c) {k s : Nat} (hk : 1 ≤ k) (hs : ht (ldS c k) s = true) : ht (bad c) s = false := by
  obtain ⟨k, rfl⟩ : ∃ j, k = j + 1 := ⟨k - 1, by omega⟩
  have z : ht (c.2.2.2.2 &&& bef c (ldS c k)) s = true := hs
  rw [h_and, Bool.and_eq_true] at z
  rw [h_bad h, z.1]
  simp
theorem ldS_n (h : okC c) {k s : Nat} (hs : ht (ldS c (k + 1)) s = true) : ∃ v, v < nv c ∧ ht (ldS c k) (nx c s v) = true := by
  have z : ht (c.2.2.2.2 &&& bef c (ldS c k)) s = true := hs
  rw [h_and, Bool.and_eq_true, h_bef h] at z
  exact z.2.2
theorem SPb_1 (h : okC c) {s : Nat} {u : Int64} (hs : ht (ldS c 1) s = true) (hu : ∀ t, ht u t = true → ht (bad c) t = false) : SPb c 1 s u = true := by
  obtain ⟨v, v1, v2⟩ := ldS_n h hs
  show ax _ (nv c) = true
  rw [ax_t]
  refine ⟨v, v1, ?_⟩
  have z : ht u (nx c s v) = false := by
    cases e : ht u (nx c s v)
    · rfl
    · have v2' : ht (bad c) (nx c s v) = true := v2
      rw [hu _ e] at v2'; cases v2'
  rw [v2, z]; rfl
theorem Lkb_f (h : okC c) {k : Nat} (hk : ldS c k = 0) : Lkb c b k = false := ax_f.mpr (fun s _ => by rw [hk, h_0]; rfl)
theorem Lkb_n (h : okC c) {k : Nat} (hk : ldS c k ≠ 0) : Lkb c false k = true := by
  obtain ⟨s, _, s2⟩ := h_nz hk
  exact ax_t.mpr ⟨s, ldS_l h k s s2, by rw [s2]; rfl⟩
end IND1
