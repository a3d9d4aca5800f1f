/-! 91: the relation of the two programs' states -/
def BF (L : Nat) (t : Nat → Nat) (σ τ : St) : Prop := L ≤ 60 ∧ σ.1 0 = nI L ∧ τ.1 3 = nI L ∧ ∀ i, i < L → (33 ≤ t i ∧ t i ≤ 126) ∧ σ.2.2.1 0 i = nI (t i) ∧ τ.2.2.1 0 i = nI (t i)
def KP (c : Ck) (K o : Nat) (r : Nat → Nat) (w : Nat → Nat → Int64) (σ τ : St) : Prop := K ≤ 10 ∧ o < 10 ∧ σ.1 10 = nI K ∧ τ.1 4 = nI K ∧ σ.1 9 = nI o ∧ ∀ i, i < K → (r i < c.1 ∨ r i = 6 ∨ r i = 7) ∧ τ.2.2.1 1 i = nI (r i) ∧ σ.2.2.1 2 ((o + i) % 10) = nI (r i) ∧ (r i < 6 → ∀ v, v < nv c → τ.2.2.2 1 (4 * i + v) = w i v ∧ σ.2.2.2 2 ((o + i) % 10 * 4 + v) = w i v) ∧ (6 ≤ r i → (∀ v, v < 4 → τ.2.2.2 1 (4 * i + v) = w i 0) ∧ σ.2.2.2 2 ((o + i) % 10 * 4) = w i 0) ∧ (r i = 6 → ∀ s, ht (w i 0) s = true → s < ns c)
/-- the frames of a proof -/
def frm (c : Ck) (n : Nat) (m w l : Nat → Nat) (L : Nat) : Int64 := match L with
  | 0 => c.2.2.2.1
  | L + 1 => mk64 (fun s => decide (s < ns c) && !ax (fun i => decide (L + 1 ≤ l i) && ht (cu c (m i) (w i)) s) n)
def PRF (c : Ck) (σ τ : St) : Prop := (τ.1 10 = 0 ∨ τ.1 10 = 1) ∧ σ.1 15 = τ.1 10 ∧ σ.1 17 = τ.1 13 ∧ σ.1 18 = τ.1 14 ∧ σ.1 19 = τ.1 15 ∧ σ.1 20 = τ.1 16 ∧ ∃ (k n e : Nat) (m w l : Nat → Nat), k ≤ 67 ∧ n ≤ 729 ∧ e ≤ 67 ∧ σ.1 16 = nI k ∧ τ.1 11 = nI k ∧ σ.1 23 = nI n ∧ τ.1 12 = nI n ∧ σ.1 21 = nI e ∧ τ.1 17 = nI e ∧ (∀ i, i < n → m i < ns c ∧ w i < 64 ∧ w i &&& m i = w i ∧ l i ≤ 67 ∧ σ.2.2.1 9 i = nI (m i) ∧ τ.2.2.1 6 i = nI (m i) ∧ σ.2.2.1 10 i = nI (w i) ∧ τ.2.2.1 7 i = nI (w i) ∧ σ.2.2.1 11 i = nI (l i) ∧ τ.2.2.1 8 i = nI (l i) ∧ σ.2.2.2 9 i = cu c (m i) (w i)) ∧ ∀ L, L ≤ k → σ.2.2.2 5 L = frm c n m w l L
def PR (c : Ck) (σ τ : St) : Prop := (σ.1 14 = 0 ∧ τ.1 9 = 0) ∨ (σ.1 14 = 1 ∧ τ.1 9 = 1 ∧ PRF c σ τ)
def RC (c : Ck) (σ τ : St) : Prop := CM c τ ∧ CS c σ ∧ (∃ L t, BF L t σ τ) ∧ (∃ K o r w, KP c K o r w σ τ) ∧ (σ.1 13 = 0 ∨ (σ.1 13 = 1 ∧ FSH c σ)) ∧ PR c σ τ
def Rl (σ τ : St) : Prop := ∃ c, RC c σ τ
section REL
variable {c : Ck} {σ σ' τ τ' : St} {N : Nat} {di dj da db mi mj ma mb : List Nat}
theorem BF.fr {L : Nat} {t : Nat → Nat} (h : BF L t σ τ) (f : FR di dj da db σ σ') (g : FR mi mj ma mb τ τ') (d : 0 ∉ di ∧ 0 ∉ da ∧ 3 ∉ mi ∧ 0 ∉ ma) : BF L t σ' τ' := by
  unfold BF
  rw [f.1 0 d.1, f.2.2.1 0 d.2.1, g.1 3 d.2.2.1, g.2.2.1 0 d.2.2.2]
  exact h
theorem KP.fr {K o : Nat} {r : Nat → Nat} {w : Nat → Nat → Int64} (h : KP c K o r w σ τ) (f : FR di dj da db σ σ') (g : FR mi mj ma mb τ τ') (d : (9 ∉ di ∧ 10 ∉ di ∧ 2 ∉ da ∧ 2 ∉ db) ∧ 4 ∉ mi ∧ 1 ∉ ma ∧ 1 ∉ mb) : KP c K o r w σ' τ' := by
  unfold KP
  rw [f.1 9 d.1.1, f.1 10 d.1.2.1, f.2.2.1 2 d.1.2.2.1, f.2.2.2 2 d.1.2.2.2, g.1 4 d.2.1, g.2.2.1 1 d.2.2.1, g.2.2.2 1 d.2.2.2]
  exact h
theorem PRF.fr (h : PRF c σ τ) (f : FR di dj da db σ σ') (g : FR mi mj ma mb τ τ') (d : (∀ k, k ∈ [15, 16, 17, 18, 19, 20, 21, 23] → k ∉ di) ∧ (∀ k, k ∈ [9, 10, 11] → k ∉ da) ∧ (∀ k, k ∈ [5, 9] → k ∉ db) ∧ (∀ k, k ∈ [10, 11, 12, 13, 14, 15, 16, 17] → k ∉ mi) ∧ (∀ k, k ∈ [6, 7, 8] → k ∉ ma)) : PRF c σ' τ' := by
  obtain ⟨d1, d2, d3, d4, d5⟩ := d
  unfold PRF
  rw [f.1 15 (d1 _ (by decide)), f.1 16 (d1 _ (by decide)), f.1 17 (d1 _ (by decide)), f.1 18 (d1 _ (by decide)), f.1 19 (d1 _ (by decide)), f.1 20 (d1 _ (by decide)), f.1 21 (d1 _ (by decide)), f.1 23 (d1 _ (by decide)), f.2.2.1 9 (d2 _ (by decide)), f.2.2.1 10 (d2 _ (by decide)), f.2.2.1 11 (d2 _ (by decide)), f.2.2.2 5 (d3 _ (by decide)), f.2.2.2 9 (d3 _ (by decide)), g.1 10 (d4 _ (by decide)), g.1 11 (d4 _ (by decide)), g.1 12 (d4 _ (by decide)), g.1 13 (d4 _ (by decide)), g.1 14 (d4 _ (by decide)), g.1 15 (d4 _ (by decide)), g.1 16 (d4 _ (by decide)), g.1 17 (d4 _ (by decide)), g.2.2.1 6 (d5 _ (by decide)), g.2.2.1 7 (d5 _ (by decide)), g.2.2.1 8 (d5 _ (by decide))]
  exact h
theorem PR.fr (h : PR c σ τ) (f : FR di dj da db σ σ') (g : FR mi mj ma mb τ τ') (d : (14 ∉ di ∧ 9 ∉ mi) ∧ (∀ k, k ∈ [15, 16, 17, 18, 19, 20, 21, 23] → k ∉ di) ∧ (∀ k, k ∈ [9, 10, 11] → k ∉ da) ∧ (∀ k, k ∈ [5, 9] → k ∉ db) ∧ (∀ k, k ∈ [10, 11, 12, 13, 14, 15, 16, 17] → k ∉ mi) ∧ (∀ k, k ∈ [6, 7, 8] → k ∉ ma)) : PR c σ' τ' := by
  unfold PR
  rw [f.1 14 d.1.1, g.1 9 d.1.2]
  exact h.imp id (fun z => ⟨z.1, z.2.1, z.2.2.fr f g d.2⟩)
/-- scratch fields alone have changed -/
theorem RC.sc (h : RC c σ τ) (f : FR [1, 2, 3, 4, 22] [] [1, 8] [0, 6, 7, 8] σ σ') (g : FR [0, 5, 6, 7, 8] [2] [2, 3, 4, 5, 9, 10, 11, 12] [2, 3, 4] τ τ') : RC c σ' τ' := by
  obtain ⟨h1, h2, ⟨L, t, h3⟩, ⟨K, o, r, w, h4⟩, h5, h6⟩ := h
  refine ⟨h1.fr g (by decide), h2.fr f (by decide), ⟨L, t, h3.fr f g (by decide)⟩, ⟨K, o, r, w, h4.fr f g (by decide)⟩, ?_, h6.fr f g (by decide)⟩
  rw [f.1 13 (by decide)]
  exact h5.imp id (fun z => ⟨z.1, z.2.fr f (by decide)⟩)
/-- a refresh -/
theorem RC.rf (h : RC c σ τ) (f : FR [11, 12, 13] [1] [3, 4, 5, 6, 7] [3, 4] σ σ') (e : σ'.1 13 = 1) (z : FSH c σ') : RC c σ' τ := by
  obtain ⟨h1, h2, ⟨L, t, h3⟩, ⟨K, o, r, w, h4⟩, h5, h6⟩ := h
  exact ⟨h1, h2.fr f (by decide), ⟨L, t, h3.fr f (FR.rf (di := []) (dj := []) (da := []) (db := [])) (by decide)⟩, ⟨K, o, r, w, h4.fr f (FR.rf (di := []) (dj := []) (da := []) (db := [])) (by decide)⟩, Or.inr ⟨e, z⟩, h6.fr f (FR.rf (di := []) (dj := []) (da := []) (db := [])) (by decide)⟩
theorem RC.refresh (hN : 4000000 ≤ N) (h : RC c σ τ) : ∃ σ', X2_refresh N σ = some σ' ∧ RC c σ' τ ∧ σ'.1 13 = 1 ∧ FSH c σ' := by
  obtain ⟨σ', a1, a2, a3, a4, a5⟩ := X2_refresh_ok hN h.2.1 h.2.2.2.2.1
  exact ⟨σ', a1, h.rf a2 a4 a5, a4, a5⟩
/-- thrown alone -/
theorem RC.th (h : RC c σ τ) (v : Int32) : RC c σ (si τ 0 v) := h.sc FR.rf (FR.rf.i (by decide))
end REL
/-! ranges -/
theorem le_i (a b : Int32) : a ≤ b ↔ a.toInt ≤ b.toInt := Int32.le_iff_toInt_le
theorem lt_i (a b : Int32) : a < b ↔ a.toInt < b.toInt := Int32.lt_iff_toInt_lt
theorem eq_i {a b : Int32} (h : a.toInt = b.toInt) : a = b := Int32.toInt_inj.mp h
theorem m1_i : (-1 : Int32).toInt = -1 := by decide
theorem z_i : (0 : Int32).toInt = 0 := by decide
theorem wi_neg {x u : Int32} (h : x < 0) : X7_within x 0 u = some 0 := if_pos h
theorem wi_big {x : Int32} {n : Nat} (h1 : 1 ≤ n) (h2 : n < 1073741824) (h : nI n ≤ x) : X7_within x 0 (nI n - 1) = some 0 ∧ ¬ x < 0 ∧ ¬ x < nI n := by
  have e : nI n - 1 = nI (n - 1) := by rw [show (1 : Int32) = nI 1 from rfl, pk_sub h1]
  rw [le_i, nI_toInt (by omega)] at h
  have a : ¬ x < 0 := by rw [lt_i, z_i]; omega
  refine ⟨?_, a, by rw [lt_i, nI_toInt (by omega)]; omega⟩
  unfold X7_within
  rw [if_neg a, e, if_pos (by rw [lt_i, nI_toInt (by omega)]; omega)]
theorem wi_in {j n : Nat} (h1 : j < n) (h2 : n < 1073741824) : X7_within (nI j) 0 (nI n - 1) = some 1 := by
  have e : nI n - 1 = nI (n - 1) := by rw [show (1 : Int32) = nI 1 from rfl, pk_sub (by omega)]
  unfold X7_within
  rw [if_neg (nI_pos (by omega)), e, if_neg (nI_nlt (by omega) (by omega))]
