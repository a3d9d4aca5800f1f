/-! 88: the classes of states that behave alike -/
def alk (c : Ck) (k : Nat → Nat) (s t : Nat) : Bool := decide (k s = k t) && !ax (fun v => !decide (k (nx c s v) = k (nx c t v))) (nv c)
def rfn (c : Ck) (k : Nat → Nat) (s : Nat) : Nat := lst (alk c k s) 0 s
def cl (c : Ck) : Nat → Nat → Nat
  | 0, s => match ht c.2.2.2.2 s with
    | true => ls c.2.2.2.2
    | false => ls (bad c)
  | j + 1, s => rfn c (cl c j) s
def chg (c : Ck) (j n : Nat) : Bool := ax (fun s => !decide (cl c (j + 1) s = cl c j s)) n
def KI (c : Ck) (k : Nat → Nat) : Prop := ∀ s, s < ns c → k s ≤ s ∧ k (k s) = k s
section CLS
variable {c : Ck} {k : Nat → Nat} {σ τ : St} {N : Nat}
theorem alk_i {s t : Nat} : alk c k s t = true ↔ k s = k t ∧ ∀ v, v < nv c → k (nx c s v) = k (nx c t v) := by
  unfold alk
  rw [Bool.and_eq_true, decide_eq_true_eq, Bool.not_eq_true', ax_f]
  refine and_congr_right (fun _ => ⟨fun h v hv => ?_, fun h v hv => ?_⟩)
  · have := h v hv
    rw [Bool.not_eq_false', decide_eq_true_eq] at this
    exact this
  · rw [Bool.not_eq_false', decide_eq_true_eq]; exact h v hv
theorem alk_r (s : Nat) : alk c k s s = true := alk_i.mpr ⟨rfl, fun _ _ => rfl⟩
theorem alk_s {s t : Nat} (h : alk c k s t = true) : alk c k t s = true := alk_i.mpr ⟨(alk_i.mp h).1.symm, fun v hv => ((alk_i.mp h).2 v hv).symm⟩
theorem alk_t {s t u : Nat} (h : alk c k s t = true) (h' : alk c k t u = true) : alk c k s u = true := alk_i.mpr ⟨(alk_i.mp h).1.trans (alk_i.mp h').1, fun v hv => ((alk_i.mp h).2 v hv).trans ((alk_i.mp h').2 v hv)⟩
theorem rfn_ok (s : Nat) : rfn c k s ≤ s ∧ alk c k s (rfn c k s) = true ∧ ∀ t, t < rfn c k s → alk c k s t = false := by
  obtain ⟨a, b, d, e⟩ := lst_ok (alk c k s) s 0
  rw [Nat.zero_add] at b e
  refine ⟨b, ?_, fun t ht' => d t (by omega) ht'⟩
  rcases Nat.lt_or_ge (rfn c k s) s with q | q
  · exact e q
  · have : rfn c k s = s := Nat.le_antisymm b q
    rw [this]; exact alk_r s
theorem rfn_u {s t : Nat} (h1 : alk c k s t = true) (h2 : ∀ u, u < t → alk c k s u = false) : rfn c k s = t := by
  obtain ⟨a, b, d⟩ := rfn_ok (c := c) (k := k) s
  rcases Nat.lt_trichotomy (rfn c k s) t with q | q | q
  · rw [h2 _ q] at b; cases b
  · exact q
  · rw [d _ q] at h1; cases h1
theorem rfn_rep {s t : Nat} (h : alk c k s t = true) : rfn c k t = rfn c k s := by
  obtain ⟨a, b, d⟩ := rfn_ok (c := c) (k := k) s
  refine rfn_u (alk_t (alk_s h) b) (fun u hu => ?_)
  cases e : alk c k t u
  · rfl
  · have := alk_t h e
    rw [d u hu] at this; cases this
theorem rfn_id (s : Nat) : rfn c k (rfn c k s) = rfn c k s := rfn_rep (rfn_ok s).2.1
theorem KI_rfn : KI c (rfn c k) := fun s _ => ⟨(rfn_ok s).1, rfn_id s⟩
theorem KI_cl (h : okC c) : ∀ j, KI c (cl c j) := by
  intro j
  cases j with
  | succ j => exact KI_rfn
  | zero =>
    intro s hs
    have key : ∀ x : Int64, ht x s = true → ls x ≤ s ∧ ht x (ls x) = true := fun x hx => by
      obtain ⟨a, b, d⟩ := ls_ok (x := x) (fun e => by rw [e, h_0] at hx; cases hx)
      refine ⟨?_, b⟩
      rcases Nat.lt_or_ge s (ls x) with q | q
      · rw [d s q] at hx; cases hx
      · exact q
    show (match ht c.2.2.2.2 s with | true => ls c.2.2.2.2 | false => ls (bad c)) ≤ s ∧ cl c 0 (match ht c.2.2.2.2 s with | true => ls c.2.2.2.2 | false => ls (bad c)) = (match ht c.2.2.2.2 s with | true => ls c.2.2.2.2 | false => ls (bad c))
    cases e : ht c.2.2.2.2 s
    · have hb : ht (bad c) s = true := by rw [h_bad h, e, decide_eq_true hs]; rfl
      obtain ⟨a, b⟩ := key _ hb
      refine ⟨a, ?_⟩
      rw [h_bad h, Bool.and_eq_true, Bool.not_eq_true'] at b
      dsimp only
      rw [cl, b.2]
    · obtain ⟨a, b⟩ := key _ e
      refine ⟨a, ?_⟩
      dsimp only
      rw [cl, b]
theorem rfn_cg {k' : Nat → Nat} (h : okC c) (e : ∀ s, s < ns c → k s = k' s) {s : Nat} (hs : s < ns c) : rfn c k s = rfn c k' s := by
  obtain ⟨a, b, d⟩ := rfn_ok (c := c) (k := k') s
  have key : ∀ t, t < ns c → alk c k s t = alk c k' s t := fun t ht' => by
    unfold alk
    rw [e s hs, e t ht']
    congr 2
    exact ax_congr (fun v _ => by rw [e _ (nx_lt c s v), e _ (nx_lt c t v)])
  exact rfn_u (by rw [key _ (by omega)]; exact b) (fun u hu => by rw [key u (by omega)]; exact d u hu)
theorem cl_st (h : okC c) {j : Nat} (hj : chg c j (ns c) = false) : ∀ m, j ≤ m → ∀ s, s < ns c → cl c m s = cl c j s := by
  intro m
  induction m with
  | zero => intro hm s _; have : j = 0 := by omega
            rw [this]
  | succ m ih =>
    intro hm s hs
    rcases Nat.lt_or_ge m j with q | q
    · have : j = m + 1 := by omega
      rw [this]
    · have e1 : cl c (m + 1) s = cl c (j + 1) s := rfn_cg h (fun t ht' => ih q t ht') hs
      rw [e1]
      have := ax_f.mp hj s hs
      rw [Bool.not_eq_false', decide_eq_true_eq] at this
      exact this
theorem cl_up (h : okC c) {j : Nat} (hj : chg c j (ns c) = true) : cnt (fun s => decide (cl c j s = s)) (ns c) < cnt (fun s => decide (cl c (j + 1) s = s)) (ns c) := by
  have hk := KI_cl h j
  refine cnt_lt _ (fun s hs e => ?_) ?_
  · rw [decide_eq_true_eq] at e ⊢
    obtain ⟨a, b, d⟩ := rfn_ok (c := c) (k := cl c j) s
    have e1 : cl c (j + 1) s = rfn c (cl c j) s := rfl
    rw [e1]
    have h1 := (alk_i.mp b).1
    have h2 := (hk (rfn c (cl c j) s) (by omega)).1
    omega
  · obtain ⟨s, hs, e⟩ := ax_t.mp hj
    rw [Bool.not_eq_true', decide_eq_false_iff_not] at e
    obtain ⟨a, b, d⟩ := rfn_ok (c := c) (k := cl c j) s
    have h1 := (alk_i.mp b).1
    refine ⟨rfn c (cl c j) s, by omega, decide_eq_false (fun z => e ?_), decide_eq_true (rfn_id s)⟩
    show rfn c (cl c j) s = _
    rw [h1, z]
theorem cl_rep (h : okC c) : ∀ m, (∀ j, j < m → chg c j (ns c) = true) → m ≤ cnt (fun s => decide (cl c m s = s)) (ns c) := by
  intro m
  induction m with
  | zero => intro _; omega
  | succ m ih =>
    intro hm
    have := ih (fun j hj => hm j (by omega))
    have := cl_up h (hm m (by omega))
    omega
/-- within 64 rounds it is over -/
theorem cl_end (h : okC c) : ∃ j, j ≤ 64 ∧ chg c j (ns c) = false ∧ ∀ i, i < j → chg c i (ns c) = true := by
  obtain ⟨a, b, d, e⟩ := lst_ok (fun j => !chg c j (ns c)) 65 0
  have h64 := ns_le h
  rw [Nat.zero_add] at b e
  have key : ∀ i, i < lst (fun j => !chg c j (ns c)) 0 65 → chg c i (ns c) = true := fun i hi => by
    have := d i (by omega) hi
    rw [Bool.not_eq_false'] at this
    exact this
  have hl : lst (fun j => !chg c j (ns c)) 0 65 < 65 := by
    rcases Nat.lt_or_ge (lst (fun j => !chg c j (ns c)) 0 65) 65 with q | q
    · exact q
    · have h1 := cl_rep h 65 (fun j hj => key j (by omega))
      have h2 := cnt_le (fun s => decide (cl c 65 s = s)) (ns c)
      omega
  have he := e hl
  rw [Bool.not_eq_true'] at he
  exact ⟨_, by omega, he, key⟩
def cls (c : Ck) (s : Nat) : Nat := cl c 64 s
theorem nI_d {a b : Nat} (ha : a < 64) (hb : b < 64) : (nI a = nI b) ↔ a = b := nI_eq (by omega) (by omega)
theorem X7_areAlike_ok (hN : 4000000 ≤ N) (h : CM c τ) (hk : ∀ s, s < ns c → k s < 64 ∧ τ.2.2.1 4 s = nI (k s)) {s t : Nat} (hs : s < ns c) (ht' : t < ns c) : X7_areAlike N τ (nI s) (nI t) = some (bI (alk c k s t)) := by
  have h64 := ns_le h.1
  have h4 := nv_le h.1
  have key : X7_areAlike_24 N (fun v3 => X7_areAlike_76 τ v3) τ (nI s) (nI t) N (bI (decide (k s = k t))) (nI 0) = some (bI (alk c k s t)) := by
    refine wf (fun n j a => X7_areAlike_24 N (fun v3 => X7_areAlike_76 τ v3) τ (nI s) (nI t) n a (nI j)) (nv c) (fun j a => a = bI (decide (k s = k t) && !ax (fun v => !decide (k (nx c s v) = k (nx c t v))) j)) (fun r => r = some (bI (alk c k s t))) ?_ ?_ N 0 _ (by omega) (by simp [ax]) (by omega)
    · rintro n j a hj rfl
      refine Or.inr ⟨_, rfl, ?_⟩
      show X7_areAlike_24 N _ τ _ _ (n + 1) _ _ = X7_areAlike_24 N _ τ _ _ n _ _
      have n1 := nx_64 h.1 s j
      have n2 := nx_64 h.1 t j
      have k1 := hk _ (nx_lt c s j)
      have k2 := hk _ (nx_lt c t j)
      rw [ax]
      cases e : (decide (k s = k t) && !ax (fun v => !decide (k (nx c s v) = k (nx c t v))) j)
      · have e' : (decide (k s = k t) && !(ax (fun v => !decide (k (nx c s v) = k (nx c t v))) j || !decide (k (nx c s j) = k (nx c t j)))) = false := by
          revert e
          cases decide (k s = k t) <;> cases ax (fun v => !decide (k (nx c s v) = k (nx c t v))) j <;> simp
        rw [e']
        simp (disch := omega) only [X7_areAlike_24, X7_areAlike_24b, X7_values_ok h, fa_lit, nI_leI, nI_ltI, nI_eq, nI_add, pk_mul, nI_clamp, bd, nm, gd_in, gd_bI, gd_b0, gd_b1, if_pos, if_neg, bI_n0, bI_n1, reduceIte, reduceCtorEq, Nat.add_zero]
        rfl
      · have e' : (decide (k s = k t) && !(ax (fun v => !decide (k (nx c s v) = k (nx c t v))) j || !decide (k (nx c s j) = k (nx c t j)))) = decide (k (nx c s j) = k (nx c t j)) := by
          revert e
          cases decide (k s = k t) <;> cases ax (fun v => !decide (k (nx c s v) = k (nx c t v))) j <;> simp
        rw [e']
        rcases Classical.em (k (nx c s j) = k (nx c t j)) with z | z
        · simp (disch := omega) only [X7_areAlike_24, X7_areAlike_24b, X7_values_ok h, X7_successorOf_ok hN h, k1.2, k2.2, z, fa_lit, nI_leI, nI_ltI, nI_eq, nI_add, pk_mul, nI_clamp, bd, nm, gd_in, gd_bI, gd_b0, gd_b1, if_pos, if_neg, bI_n0, bI_n1, reduceIte, reduceCtorEq, Nat.add_zero]
          simp
          rfl
        · have z' := mt (nI_d k1.1 k2.1).mp z
          simp (disch := omega) only [X7_areAlike_24, X7_areAlike_24b, X7_values_ok h, X7_successorOf_ok hN h, k1.2, k2.2, z', fa_lit, nI_leI, nI_ltI, nI_eq, nI_add, pk_mul, nI_clamp, bd, nm, gd_in, gd_bI, gd_b0, gd_b1, if_pos, if_neg, bI_n0, bI_n1, reduceIte, reduceCtorEq, Nat.add_zero]
          simp [z]
          rfl
    · rintro n a rfl
      show X7_areAlike_24 N _ τ _ _ (n + 1) _ _ = _
      simp (disch := omega) only [X7_areAlike_24, X7_areAlike_24b, X7_values_ok h, X7_areAlike_76, fa_lit, nI_leI, nI_ltI, nI_eq, nI_add, pk_mul, nI_clamp, bd, nm, gd_in, gd_bI, gd_b0, gd_b1, if_pos, if_neg, bI_n0, bI_n1, reduceIte, reduceCtorEq, Nat.add_zero]
      rfl
  have k1 := hk s hs
  have k2 := hk t ht'
  rcases Classical.em (k s = k t) with z | z
  · have z' := (nI_d k1.1 k2.1).mpr z
    rw [decide_eq_true z] at key
    simp (disch := omega) only [X7_areAlike, k1.2, k2.2, z', fa_lit, nI_leI, nI_ltI, nI_eq, nI_add, pk_mul, nI_clamp, bd, nm, gd_in, gd_bI, gd_b0, gd_b1, if_pos, if_neg, bI_n0, bI_n1, reduceIte, reduceCtorEq, Nat.add_zero]
    exact key
  · have z' := mt (nI_d k1.1 k2.1).mp z
    rw [decide_eq_false z] at key
    simp (disch := omega) only [X7_areAlike, k1.2, k2.2, z', fa_lit, nI_leI, nI_ltI, nI_eq, nI_add, pk_mul, nI_clamp, bd, nm, gd_in, gd_bI, gd_b0, gd_b1, if_pos, if_neg, bI_n0, bI_n1, reduceIte, reduceCtorEq, Nat.add_zero]
    exact key
theorem X2_goesAlike_ok (hN : 4000000 ≤ N) (h : CS c σ) (f : F3 c σ) (hk : ∀ s, s < ns c → k s < 64 ∧ σ.2.2.1 6 s = nI (k s)) {s t : Nat} (hs : s < ns c) (ht' : t < ns c) : X2_goesAlike N σ (nI s) (nI t) = some (bI (!ax (fun v => !decide (k (nx c s v) = k (nx c t v))) (nv c))) := by
  have h64 := ns_le h.1
  have h4 := nv_le h.1
  have kc : ∀ q, q < ns c → X2_classOf σ (nI q) = some (nI (k q)) := fun q hq => by
    simp (disch := omega) only [X2_classOf, (hk q hq).2, fa_lit, nI_leI, nI_ltI, nI_eq, nI_add, pk_mul, nI_clamp, bd, nm, gd_in, gd_bI, gd_b0, gd_b1, if_pos, if_neg, bI_n0, bI_n1, reduceIte, reduceCtorEq, Nat.add_zero]
  unfold X2_goesAlike
  refine wf (fun n j (a : Unit) => X2_goesAlike_2 (X2_goesAlike_36 σ) (X2_goesAlike_44 σ) σ (nI s) (nI t) n (nI j)) (nv c) (fun j a => ax (fun v => !decide (k (nx c s v) = k (nx c t v))) j = false) (fun r => r = some (bI (!ax (fun v => !decide (k (nx c s v) = k (nx c t v))) (nv c)))) ?_ ?_ N 0 () (by omega) rfl (by omega)
  · rintro n j a hj e
    have k1 := hk _ (nx_lt c s j)
    have k2 := hk _ (nx_lt c t j)
    rcases Classical.em (k (nx c s j) = k (nx c t j)) with z | z
    · refine Or.inr ⟨(), by rw [ax, e, decide_eq_true z]; rfl, ?_⟩
      show X2_goesAlike_2 _ _ σ _ _ (n + 1) _ = X2_goesAlike_2 _ _ σ _ _ n _
      simp (disch := omega) only [X2_goesAlike_2, X2_goesAlike_2b, h.2.2.2.2.1, X2_nextOf_ok h.1 f, kc _ (nx_lt c s j), kc _ (nx_lt c t j), hs, ht', z, fa_lit, nI_leI, nI_ltI, nI_eq, nI_add, pk_mul, nI_clamp, bd, nm, gd_in, gd_bI, gd_b0, gd_b1, if_pos, if_neg, bI_n0, bI_n1, reduceIte, reduceCtorEq, Nat.add_zero]
    · refine Or.inl ?_
      show X2_goesAlike_2 _ _ σ _ _ (n + 1) _ = _
      have z' := mt (nI_d k1.1 k2.1).mp z
      have e2 : ax (fun v => !decide (k (nx c s v) = k (nx c t v))) (nv c) = true := ax_t.mpr ⟨j, hj, by rw [decide_eq_false z]; rfl⟩
      rw [e2]
      simp (disch := omega) only [X2_goesAlike_2, X2_goesAlike_2b, h.2.2.2.2.1, X2_nextOf_ok h.1 f, kc _ (nx_lt c s j), kc _ (nx_lt c t j), hs, ht', z', X2_goesAlike_36, fa_lit, nI_leI, nI_ltI, nI_eq, nI_add, pk_mul, nI_clamp, bd, nm, gd_in, gd_bI, gd_b0, gd_b1, if_pos, if_neg, bI_n0, bI_n1, reduceIte, reduceCtorEq, Nat.add_zero]
      rfl
  · rintro n a e
    show X2_goesAlike_2 _ _ σ _ _ (n + 1) _ = _
    rw [e]
    simp (disch := omega) only [X2_goesAlike_2, X2_goesAlike_2b, h.2.2.2.2.1, X2_goesAlike_44, fa_lit, nI_leI, nI_ltI, nI_eq, nI_add, pk_mul, nI_clamp, bd, nm, gd_in, gd_bI, gd_b0, gd_b1, if_pos, if_neg, bI_n0, bI_n1, reduceIte, reduceCtorEq, Nat.add_zero]
    rfl
end CLS
