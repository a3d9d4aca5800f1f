/-! b4: random runs: simulate -/
def sx (a : Nat) : Nat → Nat
  | 0 => a
  | i + 1 => (1103515245 * sx a i + 12345) % 2147483648
theorem sx_lt {a : Nat} (h : a < 2147483648) : ∀ i, sx a i < 2147483648 := by
  intro i
  cases i with
  | zero => exact h
  | succ i => exact Nat.mod_lt _ (by omega)
theorem sx_e (a : Nat) : (1103515245 : Int64) * lN a + 12345 = lN (1103515245 * a + 12345) := by
  rw [show (1103515245 : Int64) = lN 1103515245 from rfl, show (12345 : Int64) = lN 12345 from rfl, lN_mul, lN_add]
theorem sx_m {a : Nat} (h : a < 2147483648) : ((1103515245 : Int64) * lN a + 12345) - ((1103515245 : Int64) * lN a + 12345) / 2147483648 * 2147483648 = lN ((1103515245 * a + 12345) % 2147483648) := by
  rw [sx_e, show (2147483648 : Int64) = lN 2147483648 from rfl, pk_lRem (by omega) (by omega) (by omega)]
theorem sx_s (a : Nat) : ((1103515245 : Int64) * lN a + 12345) &&& 2147483647 = lN ((1103515245 * a + 12345) % 2147483648) := by
  rw [sx_e, show (2147483647 : Int64) = lN (2 ^ 31 - 1) from rfl, wb_and, Nat.and_two_pow_sub_one_eq_mod]
theorem sv_m {x V : Nat} (h : x < 2147483648) (h1 : 1 ≤ V) (h2 : V ≤ 4) : (lN x / 65536 - lN x / 65536 / (nI V).toInt64 * (nI V).toInt64).toInt32 = nI (x / 65536 % V) := by
  rw [nI_l (by omega), show (65536 : Int64) = lN 65536 from rfl, pk_lDiv (by omega) (by omega) (by omega), pk_lRem (by omega) (by omega) (by omega), lN_i]
theorem sv_s {x b : Nat} (h : x < 2147483648) (h2 : 1 ≤ 2 ^ b) : (((lN x).toUInt64 >>> ((16 : Int32).toInt64.toUInt64 &&& Int64.toUInt64 63)).toInt64).toInt32 &&& (nI (2 ^ b) - 1) = nI (x / 65536 % 2 ^ b) := by
  have e : ((lN x).toUInt64 >>> ((16 : Int32).toInt64.toUInt64 &&& Int64.toUInt64 63)).toInt64 = lN (x / 2 ^ 16) := wb_shr (k := 16) (by omega) (by omega)
  have e2 : nI (2 ^ b) - 1 = nI (2 ^ b - 1) := pk_sub h2
  rw [e, lN_i, e2, fa_and, Nat.and_two_pow_sub_one_eq_mod]
def ssm (c : Ck) (a : Nat) : Nat → Nat × Int64 × Int32
  | 0 => (ls c.2.2.2.1, sg (ls c.2.2.2.1), if ht c.2.2.2.2 (ls c.2.2.2.1) = true then -1 else 0)
  | i + 1 => (nx c (ssm c a i).1 (sx a (i + 1) / 65536 % nv c), (ssm c a i).2.1 ||| sg (nx c (ssm c a i).1 (sx a (i + 1) / 65536 % nv c)), if (ssm c a i).2.2 = -1 ∧ ht c.2.2.2.2 (nx c (ssm c a i).1 (sx a (i + 1) / 65536 % nv c)) = false then nI (i + 1) else (ssm c a i).2.2)
section SIM
variable {c : Ck} {σ τ : St} {N a : Nat}
theorem ssm_s (i : Nat) : ssm c a (i + 1) = (nx c (ssm c a i).1 (sx a (i + 1) / 65536 % nv c), (ssm c a i).2.1 ||| sg (nx c (ssm c a i).1 (sx a (i + 1) / 65536 % nv c)), if (ssm c a i).2.2 = -1 ∧ ht c.2.2.2.2 (nx c (ssm c a i).1 (sx a (i + 1) / 65536 % nv c)) = false then nI (i + 1) else (ssm c a i).2.2) := rfl
theorem ssm_lt (h : okC c) (h0 : c.2.2.2.1 ≠ 0) : ∀ i, (ssm c a i).1 < ns c := by
  intro i
  cases i with
  | zero => exact h.2.2.2 _ (ls_ok h0).2.1
  | succ i => exact nx_lt _ _ _
theorem X7_sim_ok (hN : 4000000 ≤ N) (h : CM c τ) (h0 : c.2.2.2.1 ≠ 0) (ha : a < 2147483648) {S : Nat} (hS : S ≤ 100) (v3 : Int32) (K : Int32 → Int32 → Int64 → Int32 → Option Int32) : X7_simulated_41 N K τ (nI S) v3 N (lN a) (nI (ssm c a 0).1) (ssm c a 0).2.1 (ssm c a 0).2.2 (nI 1) = K v3 (nI (ssm c a S).1) (ssm c a S).2.1 (ssm c a S).2.2 := by
  have h64 := ns_le h.1
  have h4 := nv_le h.1
  refine wf (fun f i (_ : Unit) => X7_simulated_41 N K τ (nI S) v3 f (lN (sx a i)) (nI (ssm c a i).1) (ssm c a i).2.1 (ssm c a i).2.2 (nI (i + 1))) S (fun _ _ => True) (fun r => r = K v3 (nI (ssm c a S).1) (ssm c a S).2.1 (ssm c a S).2.2) ?_ ?_ N 0 () (by omega) trivial (by omega)
  · rintro f i u hi -
    refine Or.inr ⟨(), trivial, ?_⟩
    have h1 : ¬ nI S < nI (i + 1) := nI_nlt (by omega) (by omega)
    have hx := sx_lt ha i
    have hx1 := sx_lt ha (i + 1)
    have hs := ssm_lt (a := a) h.1 h0 i
    have hv : sx a (i + 1) / 65536 % nv c < nv c := Nat.mod_lt _ (by omega)
    have gz : ¬ (nI (nv c)).toInt64 = 0 := by
      rw [nI_l (by omega), show (0 : Int64) = lN 0 from rfl, lN_eq (by omega) (by omega)]; omega
    have hn := nx_64 h.1 (ssm c a i).1 (sx a (i + 1) / 65536 % nv c)
    have es := X7_successorOf_ok hN h (s := (ssm c a i).1) (v := sx a (i + 1) / 65536 % nv c) (by omega) hv
    have eg : τ.2.1 1 = c.2.2.2.2 := h.2.2.2.2.2
    have e1 : lN ((1103515245 * sx a i + 12345) % 2147483648) = lN (sx a (i + 1)) := rfl
    show X7_simulated_41 N K τ (nI S) v3 (f + 1) (lN (sx a i)) (nI (ssm c a i).1) (ssm c a i).2.1 (ssm c a i).2.2 (nI (i + 1)) = X7_simulated_41 N K τ (nI S) v3 f (lN (sx a (i + 1))) (nI (ssm c a (i + 1)).1) (ssm c a (i + 1)).2.1 (ssm c a (i + 1)).2.2 (nI (i + 1 + 1))
    rw [X7_simulated_41, X7_simulated_41b, if_neg h1, nm, sx_m hx, e1, X7_values_ok h, bd, gd_t gz, sv_m hx1 h4.1 h4.2, es, bd, nm, ssm_s]
    dsimp only
    by_cases q : (ssm c a i).2.2 = -1
    · rw [if_pos q, eg, X7_has_ok _ hn, bd]
      cases e : ht c.2.2.2.2 (nx c (ssm c a i).1 (sx a (i + 1) / 65536 % nv c))
      · rw [if_pos (show bI false = 0 from rfl), nm, nI_1, if_pos ⟨q, rfl⟩]
        rfl
      · rw [if_neg (show ¬ bI true = 0 by decide), nm, nI_1, if_neg (fun z => by cases z.2)]
        rfl
    · rw [if_neg q, nm, nI_1, if_neg (fun z => q z.1)]
      rfl
  · rintro f u -
    have h1 : nI S < nI (S + 1) := nI_lt (by omega) (by omega)
    show X7_simulated_41 N K τ (nI S) v3 (f + 1) (lN (sx a S)) (nI (ssm c a S).1) (ssm c a S).2.1 (ssm c a S).2.2 (nI (S + 1)) = _
    rw [X7_simulated_41, X7_simulated_41b, if_pos h1]
theorem X5_sim_ok (hN : 4000000 ≤ N) (h : CS c σ) (h0 : c.2.2.2.1 ≠ 0) (ha : a < 2147483648) {S : Nat} (hS : S ≤ 100) (v3 : Int32) (K : Int32 → Int32 → Int64 → Int32 → Option Int32) : X5_simulateFrom_38 N K σ (nI S) v3 N (nI (ssm c a 0).1) (ssm c a 0).2.1 (ssm c a 0).2.2 (lN a) (nI 1) = K v3 (nI (ssm c a S).1) (ssm c a S).2.1 (ssm c a S).2.2 := by
  have h64 := ns_le h.1
  have h4 := nv_le h.1
  refine wf (fun f i (_ : Unit) => X5_simulateFrom_38 N K σ (nI S) v3 f (nI (ssm c a i).1) (ssm c a i).2.1 (ssm c a i).2.2 (lN (sx a i)) (nI (i + 1))) S (fun _ _ => True) (fun r => r = K v3 (nI (ssm c a S).1) (ssm c a S).2.1 (ssm c a S).2.2) ?_ ?_ N 0 () (by omega) trivial (by omega)
  · rintro f i u hi -
    refine Or.inr ⟨(), trivial, ?_⟩
    have h1 : ¬ nI S < nI (i + 1) := nI_nlt (by omega) (by omega)
    have hx1 := sx_lt ha (i + 1)
    have hs := ssm_lt (a := a) h.1 h0 i
    have hv : sx a (i + 1) / 65536 % nv c < nv c := Nat.mod_lt _ (by omega)
    have hn := nx_64 h.1 (ssm c a i).1 (sx a (i + 1) / 65536 % nv c)
    have es := X0_step_ok hN h (s := (ssm c a i).1) (v := sx a (i + 1) / 65536 % nv c) (by omega) hv
    have eb : ht (bad c) (nx c (ssm c a i).1 (sx a (i + 1) / 65536 % nv c)) = !ht c.2.2.2.2 (nx c (ssm c a i).1 (sx a (i + 1) / 65536 % nv c)) := by rw [h_bad h.1, decide_eq_true (nx_lt _ _ _), Bool.true_and]
    have e1 : lN ((1103515245 * sx a i + 12345) % 2147483648) = lN (sx a (i + 1)) := rfl
    have e2 : (((lN (sx a (i + 1))).toUInt64 >>> ((16 : Int32).toInt64.toUInt64 &&& Int64.toUInt64 63)).toInt64).toInt32 &&& (nI (nv c) - 1) = nI (sx a (i + 1) / 65536 % nv c) := sv_s hx1 h4.1
    show X5_simulateFrom_38 N K σ (nI S) v3 (f + 1) (nI (ssm c a i).1) (ssm c a i).2.1 (ssm c a i).2.2 (lN (sx a i)) (nI (i + 1)) = X5_simulateFrom_38 N K σ (nI S) v3 f (nI (ssm c a (i + 1)).1) (ssm c a (i + 1)).2.1 (ssm c a (i + 1)).2.2 (lN (sx a (i + 1))) (nI (i + 1 + 1))
    rw [X5_simulateFrom_38, X5_simulateFrom_38b, if_neg h1, nm, sx_s, e1, h.2.2.2.2.1, e2, es, bd, nm, ssm_s]
    dsimp only
    by_cases q : (ssm c a i).2.2 = -1
    · rw [if_pos q, X0_bad_ok h, bd, X6_contains_ok _ hn, bd, eb]
      cases e : ht c.2.2.2.2 (nx c (ssm c a i).1 (sx a (i + 1) / 65536 % nv c))
      · rw [if_neg (show ¬ bI (!false) = 0 by decide), nm, nI_1, if_pos ⟨q, rfl⟩]
        rfl
      · rw [if_pos (show bI (!true) = 0 from rfl), nm, nI_1, if_neg (fun z => by cases z.2)]
        rfl
    · rw [if_neg q, nm, nI_1, if_neg (fun z => q z.1)]
      rfl
  · rintro f u -
    have h1 : nI S < nI (S + 1) := nI_lt (by omega) (by omega)
    show X5_simulateFrom_38 N K σ (nI S) v3 (f + 1) (nI (ssm c a S).1) (ssm c a S).2.1 (ssm c a S).2.2 (lN (sx a S)) (nI (S + 1)) = _
    rw [X5_simulateFrom_38, X5_simulateFrom_38b, if_pos h1]
theorem Op_simulate_ok (hN : 4000000 ≤ N) (h : RC c σ τ) : Op_simulate N Rl σ τ := by
  intro v1 v2 v3
  have hm := h.th 0
  have no : ∀ (hy : X7_simulate N v1 v2 v3 τ = X7_simulate_42 N v1 v2 v3 1 τ) (hx : X6_simulate_t σ v1 v2 v3 = some (1, σ)), Ag Rl (rmap (X6_simulate N σ v1 v2 v3) σ) (X6_simulate_t σ v1 v2 v3) (fun k c => (k = 1 ∧ c = 1) ∨ (k = 2 ∧ c = 2)) (X7_simulate N v1 v2 v3 τ) := fun hy hx => by
    refine ⟨0, si τ 0 1, ?_, Or.inr ⟨1, 1, σ, Or.inl ⟨rfl, rfl⟩, hx, rfl, ⟨c, h.th 1⟩⟩⟩
    rw [hy]
    simp only [X7_simulate_42, nm, si0, p1, reduceIte]
  by_cases q1 : v1 < 0
  · refine no ?_ ?_
    · simp only [X7_simulate, wi_neg q1, bd, reduceIte]
    · simp only [X6_simulate_t, if_pos q1, X6_simulate_t_23]
  · by_cases q2 : 100 < v1
    · refine no ?_ ?_
      · have w : X7_within v1 0 100 = some 0 := by rw [X7_within, if_neg q1, if_pos q2]
        simp only [X7_simulate, w, bd, reduceIte]
      · simp only [X6_simulate_t, if_neg q1, if_pos q2, X6_simulate_t_23]
    · have w1 : X7_within v1 0 100 = some 1 := by rw [X7_within, if_neg q1, if_neg q2]
      by_cases q3 : v2 < 0
      · refine no ?_ ?_
        · simp only [X7_simulate, w1, bd, if_neg p10, if_pos q3]
        · simp only [X6_simulate_t, if_neg q1, if_neg q2, if_pos q3, X6_simulate_t_23]
      · by_cases q4 : v3 < 0
        · refine no ?_ ?_
          · simp only [X7_simulate, w1, bd, if_neg p10, if_neg q3, wi_neg q4, reduceIte]
          · simp only [X6_simulate_t, if_neg q1, if_neg q2, if_neg q3, if_pos q4, X6_simulate_t_23]
        · by_cases q5 : v3 ≤ 2
          · have q6 : ¬ 2 < v3 := by rw [le_i] at q5; rw [lt_i]; omega
            have w2 : X7_within v3 0 2 = some 1 := by rw [X7_within, if_neg q4, if_neg q6]
            have ei : τ.2.1 0 = c.2.2.2.1 := h.1.2.2.2.2.1
            by_cases h0 : c.2.2.2.1 = 0
            · have l1 : X6_leastOf c.2.2.2.1 = some (-1) := by rw [X6_leastOf_ok, h0]; rfl
              refine ⟨0, si τ 0 2, ?_, Or.inr ⟨2, 2, σ, Or.inr ⟨rfl, rfl⟩, ?_, rfl, ⟨c, h.th 2⟩⟩⟩
              · simp only [X7_simulate, w1, bd, if_neg p10, if_neg q3, w2, ei, if_pos h0, X7_simulate_42, nm, si0, p2, reduceIte]
              · simp only [X6_simulate_t, if_neg q1, if_neg q2, if_neg q3, if_neg q4, if_pos q5, X0_initial_ok h.2.1, bd, l1, reduceIte]
            · have l1 : X6_leastOf c.2.2.2.1 = some (nI (ls c.2.2.2.1)) := by rw [X6_leastOf_ok, li_ok h0]
              have l2 : X7_least N c.2.2.2.1 = some (nI (ls c.2.2.2.1)) := by rw [X7_least_ok hN, li_ok h0]
              obtain ⟨s1, s2, _⟩ := ls_ok h0
              have zn : ¬ nI (ls c.2.2.2.1) = -1 := nI_nm1 (by omega)
              obtain ⟨S, _, hS, rfl⟩ := rng_i (a := 0) (b := 100) (by omega) (by omega) q1 q2
              obtain ⟨a, ha, rfl⟩ := nI_of q3
              have el : (nI a).toInt64 = lN a := nI_l ha
              have x1 := X7_sim_ok hN hm.1 h0 (a := a) (by omega) hS v3 (fun v3 v6 v7 v9 => X7_simulated_126 N (si τ 0 0) v3 v6 v7 v9)
              have x2 := X5_sim_ok hN h.2.1 h0 (a := a) (by omega) hS v3 (fun v4 v5 v6 v8 => X5_simulateFrom_127 σ v4 v5 v6 v8)
              have ei' : (si τ 0 0).2.1 0 = c.2.2.2.1 := ei
              have eg' : (si τ 0 0).2.1 1 = c.2.2.2.2 := h.1.2.2.2.2.2
              have y1 : X7_simulated N (si τ 0 0) (nI S) (nI a) v3 = X7_simulated_126 N (si τ 0 0) v3 (nI (ssm c a S).1) (ssm c a S).2.1 (ssm c a S).2.2 := by
                rw [X7_simulated, nm, el, ei', l2, bd, nm, eg', X7_has_ok _ s1, bd]
                cases e : ht c.2.2.2.2 (ls c.2.2.2.1)
                · rw [if_pos (show bI false = 0 from rfl)]
                  have z : (ssm c a 0).2.2 = 0 := by show (if ht c.2.2.2.2 (ls c.2.2.2.1) = true then (-1 : Int32) else 0) = 0; rw [e]; rfl
                  rw [z] at x1
                  exact x1
                · rw [if_neg (show ¬ bI true = 0 by decide)]
                  have z : (ssm c a 0).2.2 = -1 := by show (if ht c.2.2.2.2 (ls c.2.2.2.1) = true then (-1 : Int32) else 0) = -1; rw [e]; rfl
                  rw [z] at x1
                  exact x1
              have y2 : X5_simulateFrom N σ (nI (ls c.2.2.2.1)) (nI S) (nI a) v3 = X5_simulateFrom_127 σ v3 (nI (ssm c a S).1) (ssm c a S).2.1 (ssm c a S).2.2 := by
                have eb : ht (bad c) (ls c.2.2.2.1) = !ht c.2.2.2.2 (ls c.2.2.2.1) := by rw [h_bad h.1.1, decide_eq_true (h.1.1.2.2.2 _ s2), Bool.true_and]
                rw [X5_simulateFrom, nm, X0_bad_ok h.2.1, bd, X6_contains_ok _ s1, bd, eb, el]
                cases e : ht c.2.2.2.2 (ls c.2.2.2.1)
                · rw [if_neg (show ¬ bI (!false) = 0 by decide), nm]
                  have z : (ssm c a 0).2.2 = 0 := by show (if ht c.2.2.2.2 (ls c.2.2.2.1) = true then (-1 : Int32) else 0) = 0; rw [e]; rfl
                  rw [z] at x2
                  exact x2
                · rw [if_pos (show bI (!true) = 0 from rfl), nm]
                  have z : (ssm c a 0).2.2 = -1 := by show (if ht c.2.2.2.2 (ls c.2.2.2.1) = true then (-1 : Int32) else 0) = -1; rw [e]; rfl
                  rw [z] at x2
                  exact x2
              have fin : ∃ r, X7_simulated_126 N (si τ 0 0) v3 (nI (ssm c a S).1) (ssm c a S).2.1 (ssm c a S).2.2 = some r ∧ X5_simulateFrom_127 σ v3 (nI (ssm c a S).1) (ssm c a S).2.1 (ssm c a S).2.2 = some r := by
                by_cases z1 : v3 = 0
                · exact ⟨_, by rw [X7_simulated_126, if_pos z1], by rw [X5_simulateFrom_127, if_pos z1]⟩
                · by_cases z2 : v3 = 1
                  · exact ⟨nI (pc (ssm c a S).2.1), by rw [X7_simulated_126, if_neg z1, if_pos z2, X7_size_ok hN]; rfl, by rw [X5_simulateFrom_127, if_neg z1, if_pos z2, bc_ok]; rfl⟩
                  · exact ⟨_, by rw [X7_simulated_126, if_neg z1, if_neg z2], by rw [X5_simulateFrom_127, if_neg z1, if_neg z2]⟩
              obtain ⟨r, r1, r2⟩ := fin
              refine ⟨r, si τ 0 0, ?_, Or.inl ⟨σ, ?_, rfl, ⟨c, hm⟩⟩⟩
              · simp only [X7_simulate, w1, bd, if_neg p10, if_neg q3, w2, ei, if_neg h0, X7_simulate_42, nm, si0, p0, reduceIte, y1, r1]
              · simp only [X6_simulate, if_neg q1, if_neg q2, if_neg q3, if_neg q4, if_pos q5, X0_initial_ok h.2.1, bd, l1, if_neg zn, y2, r2, rmap]
          · have q6 : 2 < v3 := by rw [le_i] at q5; rw [lt_i]; omega
            have w2 : X7_within v3 0 2 = some 0 := by rw [X7_within, if_neg q4, if_pos q6]
            refine no ?_ ?_
            · simp only [X7_simulate, w1, bd, if_neg p10, if_neg q3, w2, reduceIte]
            · simp only [X6_simulate_t, if_neg q1, if_neg q2, if_neg q3, if_neg q4, if_neg q5, X6_simulate_t_23]
end SIM
