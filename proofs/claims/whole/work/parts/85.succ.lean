/-! 85: the class finds the successors -/
def sset (c : Ck) (s : Nat) : Int64 := mk64 (fun t => ax (fun v => decide (nx c s v = t)) (nv c))
def pset (c : Ck) (t : Nat) : Int64 := mk64 (fun s => decide (s < ns c) && ax (fun v => decide (nx c s v = t)) (nv c))
def F3 (c : Ck) (σ : St) : Prop := (∀ s v, s < ns c → v < nv c → σ.2.2.1 3 (s * 4 + v) = nI (nx c s v)) ∧ (∀ s, s < ns c → σ.2.2.2 3 s = sset c s) ∧ ∀ t, t < 64 → σ.2.2.2 4 t = pset c t
section SUCC
variable {c : Ck} {σ : St} {N : Nat}
theorem X2_findSuccessors_ok (hN : 4000000 ≤ N) (h : CS c σ) : ∃ σ', X2_findSuccessors N σ = some σ' ∧ FR [] [] [3] [3, 4] σ σ' ∧ F3 c σ' := by
  have h64 := ns_le h.1
  have h4 := nv_le h.1
  obtain ⟨σ1, e1, f1, g1⟩ := J7_fill_d0a16_a15_ok hN 0 σ
  unfold X2_findSuccessors
  rw [e1]
  show ∃ σ', X2_findSuccessors_10 N (fun σ => X2_findSuccessors_126 σ) N (nI 0) σ1 = some σ' ∧ _
  refine wf (fun n i s => X2_findSuccessors_10 N (fun σ => X2_findSuccessors_126 σ) n (nI i) s) (ns c) (fun i s => FR [] [] [3] [3, 4] σ s ∧ (∀ q v, q < i → v < nv c → s.2.2.1 3 (q * 4 + v) = nI (nx c q v)) ∧ (∀ q, q < i → s.2.2.2 3 q = sset c q) ∧ ∀ t, t < 64 → s.2.2.2 4 t = mk64 (fun q => decide (q < i) && ax (fun v => decide (nx c q v = t)) (nv c))) (fun r => ∃ σ', r = some σ' ∧ FR [] [] [3] [3, 4] σ σ' ∧ F3 c σ') ?_ ?_ N 0 σ1 (by omega) ⟨f1.mo (by decide), fun q v z => by omega, fun q z => by omega, fun t z => ?_⟩ (by omega)
  · rintro n i s hi ⟨hf, ha, hb, hc⟩
    have hs := h.fr hf (by decide)
    have key : ∃ s', (FR [] [] [3] [3, 4] σ s' ∧ (∀ q v, q < i + 1 → v < nv c → s'.2.2.1 3 (q * 4 + v) = nI (nx c q v)) ∧ (∀ q, q < i + 1 → s'.2.2.2 3 q = sset c q) ∧ ∀ t, t < 64 → s'.2.2.2 4 t = mk64 (fun q => decide (q < i + 1) && ax (fun v => decide (nx c q v = t)) (nv c))) ∧ X2_findSuccessors_10 N (fun σ => X2_findSuccessors_126 σ) (n + 1) (nI i) s = X2_findSuccessors_10 N (fun σ => X2_findSuccessors_126 σ) n (nI (i + 1)) s' := by
      simp (disch := omega) only [X2_findSuccessors_10, X2_findSuccessors_10b, hs.2.2.2.1, fa_lit, nI_leI, nI_ltI, nI_eq, nI_add, pk_mul, nI_clamp, bd, nm, gd_in, gd_bI, gd_b0, gd_b1, if_pos, if_neg, bI_n0, bI_n1, reduceIte, reduceCtorEq, Nat.add_zero]
      refine wf (fun m j (p : Int64 × St) => X2_findSuccessors_32 N (fun v1 v2 σ => X2_findSuccessors_113 (fun v1 σ => X2_findSuccessors_10 N (fun σ => X2_findSuccessors_126 σ) n v1 σ) v1 v2 σ) (nI i) m p.1 (nI j) p.2) (nv c) (fun j p => p.1 = mk64 (fun t => ax (fun v => decide (nx c i v = t)) j) ∧ FR [] [] [3] [3, 4] σ p.2 ∧ (∀ q v, q < i → v < nv c → p.2.2.2.1 3 (q * 4 + v) = nI (nx c q v)) ∧ (∀ v, v < j → p.2.2.2.1 3 (i * 4 + v) = nI (nx c i v)) ∧ (∀ q, q < i → p.2.2.2.2 3 q = sset c q) ∧ ∀ t, t < 64 → p.2.2.2.2 4 t = mk64 (fun q => (decide (q < i) && ax (fun v => decide (nx c q v = t)) (nv c)) || (decide (q = i) && ax (fun v => decide (nx c q v = t)) j))) (fun r => ∃ s', (FR [] [] [3] [3, 4] σ s' ∧ (∀ q v, q < i + 1 → v < nv c → s'.2.2.1 3 (q * 4 + v) = nI (nx c q v)) ∧ (∀ q, q < i + 1 → s'.2.2.2 3 q = sset c q) ∧ ∀ t, t < 64 → s'.2.2.2 4 t = mk64 (fun q => decide (q < i + 1) && ax (fun v => decide (nx c q v = t)) (nv c))) ∧ r = X2_findSuccessors_10 N (fun σ => X2_findSuccessors_126 σ) n (nI (i + 1)) s') ?_ ?_ N 0 (0, s) (by omega) ⟨h_ext (fun t z => by rw [h_0, h_mk' _ z]; rfl), hf, ha, fun v z => by omega, hb, fun t z => (hc t z).trans (mk_ext (fun q _ => by simp [ax]))⟩ (by omega)
      · rintro m j ⟨x, u⟩ hj ⟨q1, q2, q3, q4, q5, q6⟩
        dsimp only at q1 q2 q3 q4 q5 q6
        subst q1
        have hu := h.fr q2 (by decide)
        have hn := nx_64 h.1 i j
        refine Or.inr ⟨(mk64 (fun t => ax (fun v => decide (nx c i v = t)) (j + 1)), sb (sa u 3 (i * 4 + j) (nI (nx c i j))) 4 (nx c i j) (u.2.2.2 4 (nx c i j) ||| ((1 : Int64) <<< ((nI i).toInt64 &&& 63)))), ⟨rfl, (q2.a (by decide)).b (by decide), fun q v z1 z2 => ?_, fun v z => ?_, q5, fun t z => ?_⟩, ?_⟩
        · exact (u_n (by omega)).trans (q3 q v z1 z2)
        · rcases Nat.lt_or_ge v j with y | y
          · exact (u_n (by omega)).trans (q4 v y)
          · have : v = j := by omega
            subst this; exact u_s
        · show vp_updL (u.2.2.2 4) (nx c i j) _ t = _
          rcases Classical.em (t = nx c i j) with y | y
          · subst y
            rw [v_s, q6 _ z]
            apply h_ext
            intro r hr
            rw [h_or, h_mk' _ hr, h_mk' _ hr, h_1 (by omega), ax]
            rcases Classical.em (r = i) with w | w
            · subst w; simp
            · simp [w]
          · rw [v_n y, q6 t z]
            refine mk_ext (fun r hr => ?_)
            rw [ax]
            rcases Classical.em (r = i) with w | w
            · subst w
              have y' : ¬ nx c r j = t := fun e => y e.symm
              simp [y']
            · simp [w]
        · show X2_findSuccessors_32 N _ _ (m + 1) _ _ _ = X2_findSuccessors_32 N _ _ m _ _ _
          have e : mk64 (fun t => ax (fun v => decide (nx c i v = t)) j) ||| ((1 : Int64) <<< ((nI (nx c i j)).toInt64 &&& 63)) = mk64 (fun t => ax (fun v => decide (nx c i v = t)) (j + 1)) := by
            apply h_ext
            intro t ht'
            rw [h_or, h_1 hn, h_mk' _ ht', h_mk' _ ht', ax, decide_eq_decide.mpr (eq_comm (a := t))]
          simp (disch := omega) only [X2_findSuccessors_32, X2_findSuccessors_32b, hu.2.2.2.2.1, X0_step_ok hN hu, e, fa_lit, nI_leI, nI_ltI, nI_eq, nI_add, pk_mul, nI_clamp, bd, nm, gd_in, gd_bI, gd_b0, gd_b1, if_pos, if_neg, bI_n0, bI_n1, reduceIte, reduceCtorEq, Nat.add_zero]
          rfl
      · rintro m ⟨x, u⟩ ⟨q1, q2, q3, q4, q5, q6⟩
        dsimp only at q1 q2 q3 q4 q5 q6
        subst q1
        have hu := h.fr q2 (by decide)
        refine ⟨sb u 3 i (sset c i), ⟨q2.b (by decide), fun q v z1 z2 => ?_, fun q z => ?_, fun t z => ?_⟩, ?_⟩
        · rcases Nat.lt_or_ge q i with y | y
          · exact q3 q v y z2
          · have : q = i := by omega
            subst this; exact q4 v z2
        · rcases Nat.lt_or_ge q i with y | y
          · exact (v_n (by omega)).trans (q5 q y)
          · have : q = i := by omega
            subst this; exact v_s
        · exact (q6 t z).trans (mk_ext (fun q _ => by rw [lt_suc, Bool.and_or_distrib_right]))
        · show X2_findSuccessors_32 N _ _ (m + 1) _ _ _ = _
          simp (disch := omega) only [X2_findSuccessors_32, X2_findSuccessors_32b, hu.2.2.2.2.1, X2_findSuccessors_113, fa_lit, nI_leI, nI_ltI, nI_eq, nI_add, pk_mul, nI_clamp, bd, nm, gd_in, gd_bI, gd_b0, gd_b1, if_pos, if_neg, bI_n0, bI_n1, reduceIte, reduceCtorEq, Nat.add_zero]
          rfl
    obtain ⟨s', k1, k2⟩ := key
    exact Or.inr ⟨s', k1, k2⟩
  · rintro n s ⟨hf, ha, hb, hc⟩
    have hs := h.fr hf (by decide)
    refine ⟨s, ?_, hf, ha, hb, hc⟩
    show X2_findSuccessors_10 N _ (n + 1) _ _ = _
    simp (disch := omega) only [X2_findSuccessors_10, X2_findSuccessors_10b, hs.2.2.2.1, fa_lit, nI_leI, nI_ltI, nI_eq, nI_add, pk_mul, nI_clamp, bd, nm, gd_in, gd_bI, gd_b0, gd_b1, if_pos, if_neg, bI_n0, bI_n1, reduceIte, reduceCtorEq, Nat.add_zero]
    rfl
  · rw [g1 t z]
    apply h_ext
    intro r hr
    rw [h_0, h_mk' _ hr]; simp
theorem uni_suc (h : okC c) {g : Nat → Int64} (hg : ∀ s, s < ns c → g s = sset c s) {x : Int64} (hx : ∀ i, ht x i = true → i < ns c) : uni g x = sucs c x := by
  have := ns_le h
  unfold uni sucs
  refine mk_ext (fun t ht' => ?_)
  rw [Bool.eq_iff_iff, ax_t, ax_t]
  constructor
  · rintro ⟨s, q1, q2⟩
    rw [Bool.and_eq_true] at q2
    have hs := hx s q2.1
    rw [hg s hs, sset, h_mk' _ ht'] at q2
    exact ⟨s, hs, by rw [Bool.and_eq_true]; exact q2⟩
  · rintro ⟨s, q1, q2⟩
    rw [Bool.and_eq_true] at q2
    refine ⟨s, by omega, ?_⟩
    rw [hg s q1, sset, h_mk' _ ht', Bool.and_eq_true]
    exact q2
theorem uni_bef (h : okC c) {g : Nat → Int64} (hg : ∀ t, t < 64 → g t = pset c t) (x : Int64) : uni g x = bef c x := by
  have := ns_le h
  apply h_ext
  intro s hs
  rw [Bool.eq_iff_iff, h_bef h, uni, h_mk' _ hs, ax_t]
  constructor
  · rintro ⟨t, q1, q2⟩
    rw [hg t q1, pset, h_mk' _ hs, Bool.and_eq_true, Bool.and_eq_true, decide_eq_true_eq, ax_t] at q2
    obtain ⟨q3, q4, v, q5, q6⟩ := q2
    rw [decide_eq_true_eq] at q6
    exact ⟨q4, v, q5, by rw [q6]; exact q3⟩
  · rintro ⟨q1, v, q2, q3⟩
    refine ⟨nx c s v, nx_64 h s v, ?_⟩
    rw [hg _ (nx_64 h s v), pset, h_mk' _ hs, Bool.and_eq_true, Bool.and_eq_true, decide_eq_true_eq, ax_t]
    exact ⟨q3, q1, v, q2, decide_eq_true rfl⟩
theorem X2_successorsOf_ok (hN : 4000000 ≤ N) (h : okC c) (f : F3 c σ) {x : Int64} (hx : ∀ i, ht x i = true → i < ns c) : X2_successorsOf N σ x = some (sucs c x) := by
  unfold X2_successorsOf
  rw [X2_unionOver_a14_ok hN, uni_suc h f.2.1 hx]
  rfl
theorem X2_predecessorsOf_ok (hN : 4000000 ≤ N) (h : okC c) (f : F3 c σ) (x : Int64) : X2_predecessorsOf N σ x = some (bef c x) := by
  unfold X2_predecessorsOf
  rw [X2_unionOver_a15_ok hN, uni_bef h f.2.2]
  rfl
theorem X2_nextOf_ok (h : okC c) (f : F3 c σ) {s v : Nat} (hs : s < ns c) (hv : v < nv c) : X2_nextOf σ (nI s) (nI v) = some (nI (nx c s v)) := by
  have h64 := ns_le h
  have h4 := nv_le h
  have e := f.1 s v hs hv
  simp (disch := omega) only [X2_nextOf, e, fa_lit, nI_leI, nI_ltI, nI_eq, nI_add, pk_mul, nI_clamp, bd, nm, gd_in, gd_bI, gd_b0, gd_b1, if_pos, if_neg, bI_n0, bI_n1, reduceIte, reduceCtorEq, Nat.add_zero]
end SUCC
