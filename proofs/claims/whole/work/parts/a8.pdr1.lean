/-! a8: frames of cubes, pure facts: what a new cube does, how many there can be, the measure of the obligations -/
def PI (c : Ck) (k n : Nat) (m w l : Nat → Nat) : Prop := (∀ i, i < n → (1 ≤ l i ∧ l i ≤ k) ∧ (m i < ns c ∧ w i < 64 ∧ w i &&& m i = w i) ∧ (∀ s, ht (cu c (m i) (w i)) s = true → ht c.2.2.2.1 s = false) ∧ ∀ L, L < l i → bef c (cu c (m i) (w i)) &&& frm c n m w l L = 0) ∧ ∀ i j, i < n → j < n → m i = m j → w i = w j → i = j
def dri (kp : Nat → Bool) : Nat → Nat × (Nat → Nat)
  | 0 => (0, fun j => j)
  | i + 1 => if kp i = true then ((dri kp i).1 + 1, fun j => if j = (dri kp i).1 then i else (dri kp i).2 j) else dri kp i
theorem dri_t {kp : Nat → Bool} {i : Nat} (h : kp i = true) : dri kp (i + 1) = ((dri kp i).1 + 1, fun j => if j = (dri kp i).1 then i else (dri kp i).2 j) := by rw [dri, if_pos h]
theorem dri_f {kp : Nat → Bool} {i : Nat} (h : kp i = false) : dri kp (i + 1) = dri kp i := by rw [dri, if_neg (by rw [h]; decide)]
theorem dri_ok (kp : Nat → Bool) : ∀ i, (dri kp i).1 ≤ i ∧ (∀ j, j < (dri kp i).1 → (dri kp i).2 j < i ∧ kp ((dri kp i).2 j) = true) ∧ (∀ j j', j < (dri kp i).1 → j' < (dri kp i).1 → (dri kp i).2 j = (dri kp i).2 j' → j = j') ∧ ∀ i', i' < i → kp i' = true → ∃ j, j < (dri kp i).1 ∧ (dri kp i).2 j = i' := by
  intro i
  induction i with
  | zero => exact ⟨Nat.le_refl _, fun j hj => absurd hj (Nat.not_lt_zero _), fun j j' hj => absurd hj (Nat.not_lt_zero _), fun i' hi => absurd hi (Nat.not_lt_zero _)⟩
  | succ i ih =>
    obtain ⟨a1, a2, a3, a4⟩ := ih
    cases e : kp i
    · rw [dri_f e]
      refine ⟨by omega, fun j hj => ⟨by have := (a2 j hj).1; omega, (a2 j hj).2⟩, a3, fun i' hi' hk => ?_⟩
      rcases Nat.lt_or_ge i' i with q | q
      · exact a4 i' q hk
      · have : i' = i := by omega
        subst this
        rw [e] at hk; cases hk
    · rw [dri_t e]
      dsimp only
      refine ⟨by omega, fun j hj => ?_, fun j j' hj hj' => ?_, fun i' hi' hk => ?_⟩
      · by_cases q : j = (dri kp i).1
        · rw [if_pos q]; exact ⟨by omega, e⟩
        · rw [if_neg q]
          have := a2 j (by omega)
          exact ⟨by omega, this.2⟩
      · by_cases q : j = (dri kp i).1
        · by_cases q' : j' = (dri kp i).1
          · intro _; omega
          · rw [if_pos q, if_neg q']
            intro z
            have := (a2 j' (by omega)).1
            omega
        · by_cases q' : j' = (dri kp i).1
          · rw [if_neg q, if_pos q']
            intro z
            have := (a2 j (by omega)).1
            omega
          · rw [if_neg q, if_neg q']
            exact a3 j j' (by omega) (by omega)
      · rcases Nat.lt_or_ge i' i with q | q
        · obtain ⟨j, b1, b2⟩ := a4 i' q hk
          exact ⟨j, by omega, by rw [if_neg (by omega)]; exact b2⟩
        · exact ⟨(dri kp i).1, by omega, by rw [if_pos rfl]; omega⟩
theorem pig {f : Nat → Nat} {M : Nat} : ∀ (n : Nat) (p : Nat → Bool), (∀ i, i < n → f i < M ∧ p (f i) = true) → (∀ i j, i < n → j < n → f i = f j → i = j) → n ≤ cnt p M := by
  intro n
  induction n with
  | zero => intro p _ _; omega
  | succ n ih =>
    intro p h1 h2
    have a := ih (fun x => p x && !decide (x = f n)) (fun i hi => ⟨(h1 i (by omega)).1, by
      have : ¬ f i = f n := fun z => by have := h2 i n (by omega) (by omega) z; omega
      rw [(h1 i (by omega)).2, decide_eq_false this]; rfl⟩) (fun i j hi hj => h2 i j (by omega) (by omega))
    have b : cnt (fun x => p x && !decide (x = f n)) M < cnt p M := cnt_lt M (fun i _ hi => by rw [Bool.and_eq_true] at hi; exact hi.1) ⟨f n, (h1 n (by omega)).1, by simp, (h1 n (by omega)).2⟩
    omega
def dg3 (m w b : Nat) : Nat := if m.testBit b = true then (if w.testBit b = true then 2 else 1) else 0
def trn (m w : Nat) : Nat := dg3 m w 0 + 3 * (dg3 m w 1 + 3 * (dg3 m w 2 + 3 * (dg3 m w 3 + 3 * (dg3 m w 4 + 3 * dg3 m w 5))))
def b3 (f : Nat → Nat) (t : Nat) : Nat := f (t % 3) + 2 * f (t / 3 % 3) + 4 * f (t / 9 % 3) + 8 * f (t / 27 % 3) + 16 * f (t / 81 % 3) + 32 * f (t / 243 % 3)
def dg1 (d : Nat) : Nat := if d = 0 then 0 else 1
def dg2 (d : Nat) : Nat := if d = 2 then 1 else 0
theorem trn_k : ∀ m, m < 64 → ∀ w, w < 64 → w &&& m = w → trn m w < 729 ∧ b3 dg1 (trn m w) = m ∧ b3 dg2 (trn m w) = w := by decide +kernel
section PDR
variable {c : Ck} {k n : Nat} {m w l : Nat → Nat} {kp : Nat → Bool}
theorem n729 (h : okC c) (hp : ∀ i, i < n → m i < ns c ∧ w i < 64 ∧ w i &&& m i = w i) (hd : ∀ i j, i < n → j < n → m i = m j → w i = w j → i = j) : n ≤ 729 := by
  have h64 := ns_le h
  have a := pig (f := fun i => trn (m i) (w i)) (M := 729) n (fun _ => true) (fun i hi => ⟨(trn_k _ (by have := (hp i hi).1; omega) _ (hp i hi).2.1 (hp i hi).2.2).1, rfl⟩) (fun i j hi hj e => by
    have x := trn_k _ (by have := (hp i hi).1; omega) _ (hp i hi).2.1 (hp i hi).2.2
    have y := trn_k _ (by have := (hp j hj).1; omega) _ (hp j hj).2.1 (hp j hj).2.2
    rw [e] at x
    exact hd i j hi hj (x.2.1.symm.trans y.2.1) (x.2.2.symm.trans y.2.2))
  have b := cnt_le (fun _ => true) 729
  omega
theorem h_frm (h : okC c) {L : Nat} (hL : 1 ≤ L) {s : Nat} : ht (frm c n m w l L) s = true ↔ s < ns c ∧ ∀ i, i < n → L ≤ l i → ht (cu c (m i) (w i)) s = false := by
  cases L with
  | zero => omega
  | succ L =>
    show ht (fr0 c m w (fun i => decide (L + 1 ≤ l i)) n) s = true ↔ _
    constructor
    · intro hs
      rw [fr0, h_mk' _ (h_lt hs), Bool.and_eq_true, decide_eq_true_eq, Bool.not_eq_true', ax_f] at hs
      refine ⟨hs.1, fun i hi hl => ?_⟩
      have := hs.2 i hi
      rw [decide_eq_true hl, Bool.true_and] at this
      exact this
    · rintro ⟨h1, h2⟩
      rw [fr0, h_mk' _ (by have := (ns_le h).2; omega), Bool.and_eq_true, decide_eq_true_eq, Bool.not_eq_true', ax_f]
      refine ⟨h1, fun i hi => ?_⟩
      by_cases hl : L + 1 ≤ l i
      · rw [h2 i hi hl, Bool.and_false]
      · rw [decide_eq_false hl, Bool.false_and]
theorem frm_m (h : okC c) (hp : PI c k n m w l) {L L' : Nat} (hL : L ≤ L') : sbs (frm c n m w l L) (frm c n m w l L') := fun s hs => by
  rcases Nat.lt_or_ge 0 L with z | z
  · rw [h_frm h (by omega)] at hs ⊢
    exact ⟨hs.1, fun i hi hl => hs.2 i hi (by omega)⟩
  · have : L = 0 := by omega
    subst this
    rcases Nat.lt_or_ge 0 L' with z' | z'
    · have hs' : ht c.2.2.2.1 s = true := hs
      rw [h_frm h (by omega)]
      refine ⟨h.2.2.2 s hs', fun i hi _ => ?_⟩
      cases e : ht (cu c (m i) (w i)) s
      · rfl
      · rw [(hp.1 i hi).2.2.1 s e] at hs'; cases hs'
    · have : L' = 0 := by omega
      subst this
      exact hs
theorem an_z {x y : Int64} : x &&& y = 0 ↔ ∀ i, ht x i = true → ht y i = false := by
  rw [h_z]
  constructor
  · intro h i hi
    have := h i (h_lt hi)
    rw [h_and, hi, Bool.true_and] at this
    exact this
  · intro h i _
    rw [h_and]
    cases e : ht x i
    · rfl
    · rw [h i e]; rfl
/-- a cube under way stays clear of a frame, outside itself -/
def blk (c : Ck) (x f : Int64) : Prop := bef c x &&& f &&& (x ^^^ (-1)) = 0
theorem blk_i {x f : Int64} : blk c x f ↔ ∀ i, ht (bef c x) i = true → ht f i = true → ht x i = true := by
  unfold blk
  rw [an_z]
  constructor
  · intro h i h1 h2
    have := h i (by rw [h_and, h1, h2]; rfl)
    rw [h_not _ (h_lt h1)] at this
    revert this
    cases ht x i <;> simp
  · intro h i hi
    rw [h_and, Bool.and_eq_true] at hi
    rw [h_not _ (h_lt hi.1), h i hi.1 hi.2]; rfl
def nwF (m : Nat → Nat) (ix : Nat → Nat) (q M : Nat) : Nat → Nat := fun j => if j = q then M else m (ix j)
theorem nwF_s {ix : Nat → Nat} {q M : Nat} : nwF m ix q M q = M := if_pos rfl
theorem nwF_n {ix : Nat → Nat} {q M j : Nat} (h : j ≠ q) : nwF m ix q M j = m (ix j) := if_neg h
/-- the frames behind a new cube -/
theorem frm_new (h : okC c) {M W t L : Nat} (hk : ∀ i, i < n → kp i = false → l i ≤ t ∧ sbs (cu c (m i) (w i)) (cu c M W)) (hL : 1 ≤ L) {s : Nat} : ht (frm c ((dri kp n).1 + 1) (nwF m (dri kp n).2 (dri kp n).1 M) (nwF w (dri kp n).2 (dri kp n).1 W) (nwF l (dri kp n).2 (dri kp n).1 t) L) s = true ↔ ht (frm c n m w l L) s = true ∧ (L ≤ t → ht (cu c M W) s = false) := by
  obtain ⟨a1, a2, a3, a4⟩ := dri_ok kp n
  rw [h_frm h hL, h_frm h hL]
  constructor
  · rintro ⟨h1, h2⟩
    have hx : L ≤ t → ht (cu c M W) s = false := fun z => by
      have := h2 (dri kp n).1 (by omega)
      rw [nwF_s, nwF_s, nwF_s] at this
      exact this z
    refine ⟨⟨h1, fun i hi hl => ?_⟩, hx⟩
    cases e : kp i
    · obtain ⟨b1, b2⟩ := hk i hi e
      cases e2 : ht (cu c (m i) (w i)) s
      · rfl
      · have := b2 s e2
        rw [hx (by omega)] at this; cases this
    · obtain ⟨j, b1, b2⟩ := a4 i hi e
      have := h2 j (by omega)
      rw [nwF_n (by omega), nwF_n (by omega), nwF_n (by omega), b2] at this
      exact this hl
  · rintro ⟨⟨h1, h2⟩, h3⟩
    refine ⟨h1, fun j hj => ?_⟩
    by_cases e : j = (dri kp n).1
    · subst e
      rw [nwF_s, nwF_s, nwF_s]
      exact h3
    · rw [nwF_n e, nwF_n e, nwF_n e]
      exact h2 _ (a2 j (by omega)).1
theorem PI_new (h : okC c) (hp : PI c k n m w l) {M W t L s : Nat} (hkp : ∀ i, i < n → (kp i = false ↔ l i ≤ t ∧ sbs (cu c (m i) (w i)) (cu c M W))) (hM : M < ns c) (hW : W < 64) (hWM : W &&& M = W) (hi : ∀ s, ht (cu c M W) s = true → ht c.2.2.2.1 s = false) (hL : 1 ≤ L) (hLt : L ≤ t) (htk : t ≤ k) (hb : ∀ u, L - 1 ≤ u → u < t → blk c (cu c M W) (frm c n m w l u)) (hs : ht (cu c M W) s = true) (hsf : ht (frm c n m w l L) s = true) : PI c k ((dri kp n).1 + 1) (nwF m (dri kp n).2 (dri kp n).1 M) (nwF w (dri kp n).2 (dri kp n).1 W) (nwF l (dri kp n).2 (dri kp n).1 t) := by
  obtain ⟨a1, a2, a3, a4⟩ := dri_ok kp n
  have hk : ∀ i, i < n → kp i = false → l i ≤ t ∧ sbs (cu c (m i) (w i)) (cu c M W) := fun i hi e => (hkp i hi).mp e
  have sub : ∀ L', sbs (frm c ((dri kp n).1 + 1) (nwF m (dri kp n).2 (dri kp n).1 M) (nwF w (dri kp n).2 (dri kp n).1 W) (nwF l (dri kp n).2 (dri kp n).1 t) L') (frm c n m w l L') := fun L' s' hs' => by
    rcases Nat.lt_or_ge 0 L' with z | z
    · exact ((frm_new h hk (by omega)).mp hs').1
    · have : L' = 0 := by omega
      subst this
      exact hs'
  constructor
  · intro j hj
    by_cases e : j = (dri kp n).1
    · subst e
      rw [nwF_s, nwF_s, nwF_s]
      refine ⟨⟨by omega, htk⟩, ⟨hM, hW, hWM⟩, hi, fun u hu => an_z.mpr (fun s' hs' => ?_)⟩
      cases e2 : ht (frm c ((dri kp n).1 + 1) (nwF m (dri kp n).2 (dri kp n).1 M) (nwF w (dri kp n).2 (dri kp n).1 W) (nwF l (dri kp n).2 (dri kp n).1 t) u) s'
      · rfl
      · exfalso
        have e3 := sub u s' e2
        have e4 : ht (cu c M W) s' = true := by
          rcases Nat.lt_or_ge u (L - 1) with z | z
          · exact blk_i.mp (hb (L - 1) (Nat.le_refl _) (by omega)) s' hs' (frm_m h hp (by omega) s' e3)
          · exact blk_i.mp (hb u z hu) s' hs' e3
        rcases Nat.lt_or_ge 0 u with z | z
        · have := ((frm_new h hk (by omega)).mp e2).2 (by omega)
          rw [this] at e4; cases e4
        · have : u = 0 := by omega
          subst this
          have e3' : ht c.2.2.2.1 s' = true := e3
          rw [hi s' e4] at e3'; cases e3'
    · have b := (a2 j (by omega)).1
      rw [nwF_n e, nwF_n e, nwF_n e]
      obtain ⟨x1, x2, x3, x4⟩ := hp.1 _ b
      refine ⟨x1, x2, x3, fun u hu => an_z.mpr (fun s' hs' => ?_)⟩
      cases e2 : ht (frm c ((dri kp n).1 + 1) (nwF m (dri kp n).2 (dri kp n).1 M) (nwF w (dri kp n).2 (dri kp n).1 W) (nwF l (dri kp n).2 (dri kp n).1 t) u) s'
      · rfl
      · have := an_z.mp (x4 u hu) s' hs'
        rw [sub u s' e2] at this; cases this
  · have key : ∀ j, j < (dri kp n).1 → m ((dri kp n).2 j) = M → w ((dri kp n).2 j) = W → False := fun j hj e1 e2 => by
      obtain ⟨b1, b2⟩ := a2 j hj
      have b3 : ¬ (l ((dri kp n).2 j) ≤ t) := fun z => by
        have := (hkp _ b1).mpr ⟨z, by rw [e1, e2]; exact fun i hi => hi⟩
        rw [b2] at this; cases this
      have := ((h_frm h hL).mp hsf).2 _ b1 (by omega)
      rw [e1, e2, hs] at this; cases this
    intro i j hi' hj
    by_cases e1 : i = (dri kp n).1
    · by_cases e2 : j = (dri kp n).1
      · intro _ _; omega
      · subst e1
        rw [nwF_s, nwF_n e2, nwF_s, nwF_n e2]
        intro z1 z2
        exact absurd (key j (by omega) z1.symm z2.symm) id
    · by_cases e2 : j = (dri kp n).1
      · subst e2
        rw [nwF_s, nwF_n e1, nwF_s, nwF_n e1]
        intro z1 z2
        exact absurd (key i (by omega) z1 z2) id
      · rw [nwF_n e1, nwF_n e2, nwF_n e1, nwF_n e2]
        intro z1 z2
        exact a3 i j (by omega) (by omega) (hp.2 _ _ (a2 i (by omega)).1 (a2 j (by omega)).1 z1 z2)
end PDR
/-! the measure -/
def low (O : Nat → Int64) (k : Nat) : Nat := lst (fun L => decide (O L ≠ 0)) 0 (k + 1)
def pA (F O : Nat → Int64) (p : Nat) : Bool := ht (F (p / 64)) (p % 64) || ax (fun L => ht (O L) (p % 64)) (p / 64 + 1)
def mA (F O : Nat → Int64) (k : Nat) : Nat := cnt (pA F O) (64 * (k + 1))
def mu (F O : Nat → Int64) (k : Nat) : Nat := mA F O k * (k + 2) + low O k
section MU
variable {F F' O O' : Nat → Int64} {k L s : Nat}
theorem low_ok : low O k ≤ k + 1 ∧ (∀ j, j < low O k → O j = 0) ∧ (low O k ≤ k → O (low O k) ≠ 0) := by
  obtain ⟨a1, a2, a3, a4⟩ := lst_ok (fun L => decide (O L ≠ 0)) (k + 1) 0
  refine ⟨by unfold low; omega, fun j hj => ?_, fun hl => ?_⟩
  · have := a3 j (by omega) hj
    rw [decide_eq_false_iff_not] at this
    exact Classical.byContradiction this
  · have := a4 (by unfold low at hl; omega)
    rw [decide_eq_true_eq] at this
    exact this
theorem low_le {j : Nat} (h : O j ≠ 0) : low O k ≤ j := by
  rcases Nat.lt_or_ge j (low O k) with z | z
  · exact absurd (low_ok.2.1 j z) h
  · exact z
theorem low_u (hL : L ≤ k) (h : O L ≠ 0) (h0 : ∀ j, j < L → O j = 0) : low O k = L := by
  have a := low_le (k := k) h
  rcases Nat.lt_or_ge (low O k) L with z | z
  · exact absurd (h0 _ z) (low_ok.2.2 (by omega))
  · omega
theorem mA_le : mA F O k ≤ 64 * (k + 1) := cnt_le _ _
theorem mu_le (hk : k ≤ 67) : mu F O k < 400000 := by
  have a := mA_le (F := F) (O := O) (k := k)
  have b := (low_ok (O := O) (k := k)).1
  have d : mA F O k * (k + 2) ≤ 4352 * 69 := Nat.mul_le_mul (by omega) (by omega)
  unfold mu
  omega
theorem mu_dn (h1 : mA F' O' k ≤ mA F O k) (h2 : low O' k < low O k) : mu F' O' k < mu F O k := by
  have d : mA F' O' k * (k + 2) ≤ mA F O k * (k + 2) := Nat.mul_le_mul h1 (Nat.le_refl _)
  unfold mu
  omega
theorem mu_up (h1 : mA F' O' k < mA F O k) : mu F' O' k < mu F O k := by
  have d : (mA F' O' k + 1) * (k + 2) ≤ mA F O k * (k + 2) := Nat.mul_le_mul h1 (Nat.le_refl _)
  have b := (low_ok (O := O') (k := k)).1
  rw [Nat.add_mul] at d
  unfold mu
  omega
def adO (O : Nat → Int64) (J t : Nat) : Nat → Int64 := fun j => if j = J then O J ||| sg t else O j
def mvO (O : Nat → Int64) (k L s : Nat) : Nat → Int64 := fun j => if j = L then O L &&& (sg s ^^^ (-1)) else if j = L + 1 ∧ L < k then O (L + 1) ||| sg s else O j
theorem mA_ad (hF : ∀ j j', j ≤ j' → sbs (F j) (F j')) (hs : s < 64) (h : ht (F L) s = true) : mA F (adO O L s) k ≤ mA F O k := by
  refine cnt_mono _ (fun p _ hp => ?_)
  unfold pA at hp ⊢
  rw [Bool.or_eq_true, ax_t] at hp ⊢
  rcases hp with z | ⟨j, z1, z2⟩
  · exact Or.inl z
  · unfold adO at z2
    by_cases e : j = L
    · rw [if_pos e, h_or, Bool.or_eq_true, h_sg hs, decide_eq_true_eq] at z2
      subst e
      rcases z2 with z2 | z2
      · exact Or.inr ⟨j, z1, z2⟩
      · rw [z2]
        exact Or.inl (hF j _ (by omega) s h)
    · rw [if_neg e] at z2
      exact Or.inr ⟨j, z1, z2⟩
theorem mA_mv (hF : ∀ j, sbs (F' j) (F j)) (hs : s < 64) (hL : L ≤ k) (h0 : ∀ j, j < L → O j = 0) (h1 : ht (O L) s = true) (h2 : ht (F' L) s = false) : mA F' (mvO O k L s) k < mA F O k := by
  refine cnt_lt _ (fun p _ hp => ?_) ⟨64 * L + s, by omega, ?_, ?_⟩
  · unfold pA at hp ⊢
    rw [Bool.or_eq_true, ax_t] at hp ⊢
    rcases hp with z | ⟨j, z1, z2⟩
    · exact Or.inl (hF _ _ z)
    · unfold mvO at z2
      by_cases e : j = L
      · rw [if_pos e, h_and, Bool.and_eq_true] at z2
        subst e
        exact Or.inr ⟨j, z1, z2.1⟩
      · rw [if_neg e] at z2
        by_cases e2 : j = L + 1 ∧ L < k
        · rw [if_pos e2, h_or, Bool.or_eq_true, h_sg hs, decide_eq_true_eq] at z2
          rcases z2 with z2 | z2
          · exact Or.inr ⟨L + 1, by omega, z2⟩
          · rw [z2]
            exact Or.inr ⟨L, by omega, h1⟩
        · rw [if_neg e2] at z2
          exact Or.inr ⟨j, z1, z2⟩
  · unfold pA
    have e1 : (64 * L + s) / 64 = L := by omega
    have e2 : (64 * L + s) % 64 = s := by omega
    rw [e1, e2, h2, Bool.false_or, ax_f]
    intro j hj
    unfold mvO
    by_cases e : j = L
    · rw [if_pos e, h_and, h_not _ hs, h_sg hs]; simp
    · rw [if_neg e, if_neg (by omega), h0 j (by omega), h_0]
  · unfold pA
    have e1 : (64 * L + s) / 64 = L := by omega
    have e2 : (64 * L + s) % 64 = s := by omega
    rw [e1, e2, Bool.or_eq_true, ax_t]
    exact Or.inr ⟨L, by omega, h1⟩
end MU
