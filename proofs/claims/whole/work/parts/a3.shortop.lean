/-! a3: the op shortest -/
section SHORT
variable {c : Ck} {σ τ : St} {N : Nat}
theorem Op_shortest_ok (hN : 4000000 ≤ N) (h : RC c σ τ) : Op_shortest N Rl σ τ := by
  intro v1 v2
  have h64 := ns_le h.1.1
  obtain ⟨σ1, a1, a2, a3, a4⟩ := h.refresh hN
  obtain ⟨τ1, b1, b2, b3⟩ := X7_runLength_ok hN h.1
  have hr1 : RC c σ1 τ1 := a2.sc FR.rf (b2.mo (by decide))
  have e12 : σ1.1 12 = rlc c := a4.2.2.2.2.2.1
  rcases rlc_c (c := c) with z | ⟨R, hR, hr, he⟩
  · rw [z] at b1 e12
    refine ⟨0, si τ1 0 1, ?_, Or.inr ⟨2, 1, σ1, Or.inl ⟨rfl, rfl⟩, ?_, rfl, ⟨c, hr1.th 1⟩⟩⟩
    · simp only [X7_shortest, b1, bd, if_true, X7_shortest_42, nm, si0, p1, reduceIte]
    · simp only [X6_shortest_t, a1, bd, nm, e12, if_true]
  · have zn : ¬ (nI R : Int32) = -1 := nI_nm1 (by omega)
    rw [hr] at b1 e12
    by_cases q1 : v1 < 0
    · refine ⟨0, si τ1 0 2, ?_, Or.inr ⟨3, 2, σ1, Or.inr (Or.inl ⟨rfl, rfl⟩), ?_, rfl, ⟨c, hr1.th 2⟩⟩⟩
      · simp only [X7_shortest, b1, bd, if_neg zn, wi_neg q1, X7_shortest_42, nm, si0, p2, reduceIte]
      · simp only [X6_shortest_t, a1, bd, nm, e12, if_neg zn, if_pos q1, X6_shortest_t_39]
    · by_cases q2 : v1 ≤ nI R
      · have q3 : ¬ nI R < v1 := by rw [le_i] at q2; rw [lt_i]; omega
        have w1 : X7_within v1 0 (nI R) = some 1 := by rw [X7_within, if_neg q1, if_neg q3]
        by_cases q4 : v2 < 0
        · refine ⟨0, si τ1 0 3, ?_, Or.inr ⟨1, 3, σ1, Or.inr (Or.inr ⟨rfl, rfl⟩), ?_, rfl, ⟨c, hr1.th 3⟩⟩⟩
          · simp only [X7_shortest, b1, bd, if_neg zn, w1, wi_neg q4, X7_shortest_42, nm, si0, p3, p10, reduceIte]
          · simp only [X6_shortest_t, a1, bd, nm, e12, if_neg zn, if_neg q1, if_pos q2, if_pos q4, X6_shortest_t_58]
        · by_cases q5 : v2 ≤ 1
          · have q6 : ¬ 1 < v2 := by rw [le_i] at q5; rw [lt_i]; omega
            have w2 : X7_within v2 0 1 = some 1 := by rw [X7_within, if_neg q4, if_neg q6]
            obtain ⟨k, _, k2, rfl⟩ := rng_i (a := 0) (b := R) (by omega) (by omega) q1 q3
            have hm := hr1.th 0
            have g1 := X2_stateOfShortestRun_ok hN hr1.2.1 a4 hR hr he k2
            have g2 := X7_runState_ok (τ := si τ1 0 0) hN hm.1 b3 hR he k2
            obtain ⟨s1, s2⟩ := srn_ok hm.1.1 hR he k k2
            by_cases q7 : v2 = 0
            · refine ⟨nI (srn c R k), si τ1 0 0, ?_, Or.inl ⟨σ1, ?_, rfl, ⟨c, hm⟩⟩⟩
              · simp only [X7_shortest, b1, bd, if_neg zn, w1, w2, X7_shortest_42, nm, si0, p0, p10, reduceIte, g2, if_pos q7]
              · simp only [X6_shortest, a1, bd, nm, e12, if_neg zn, if_neg q1, if_pos q2, if_neg q4, if_pos q5, g1, if_pos q7]
            · rcases Nat.lt_or_ge k R with y | y
              · have yn : ¬ (nI k : Int32) = nI R := fun z => by rw [nI_eq (by omega) (by omega)] at z; omega
                have g3 := X7_runState_ok (τ := si τ1 0 0) hN hm.1 b3 hR he (k := k + 1) y
                rw [show R - k = (R - (k + 1)) + 1 by omega] at s2
                have g4 := X2_leastNearer_ok hN hr1.2.1 a4 (by omega) s2
                obtain ⟨t1, t2⟩ := srn_ok hm.1.1 hR he (k + 1) y
                obtain ⟨_, v, u1, u2⟩ := dis_nx hm.1.1 (by omega) s2
                obtain ⟨e1, e2, e3, e4⟩ := lsd_ok (c := c) (x := sucs c (sg (srn c R k))) (d := nI (R - (k + 1))) ⟨nx c (srn c R k) v, (h_ss hm.1.1 s1).mpr ⟨v, u1, rfl⟩, u2⟩
                have ex := (h_ss hm.1.1 s1).mp e2
                have g5 := X7_inputTo_ok (τ := si τ1 0 0) hN hm.1 s1 (t := srn c R (k + 1)) (by omega) ex
                have g6 := X2_leastInputInto_ok hN hr1.2.1 a4.1 s1 (x := sg (srn c R (k + 1))) (ex.elim (fun v hv => ⟨v, hv.1, by rw [h_sg (by omega), hv.2]; simp; rfl⟩))
                have zs : ¬ (nI (srn c R (k + 1)) : Int32) = -1 := nI_nm1 (by omega)
                refine ⟨nI (lin c (srn c R k) (sg (srn c R (k + 1)))), si τ1 0 0, ?_, Or.inl ⟨σ1, ?_, rfl, ⟨c, hm⟩⟩⟩
                · have ek : (nI k + 1 : Int32) = nI (k + 1) := nI_1 k
                  simp only [X7_shortest, b1, bd, if_neg zn, w1, w2, X7_shortest_42, nm, si0, p0, p10, reduceIte, g2, if_neg q7, if_neg yn, ek, g3, g5]
                · have g4' : X2_leastNearer N σ1 (nI (srn c R k)) = some (nI (srn c R (k + 1))) := g4
                  have g6' : X2_leastInputInto N σ1 (nI (srn c R k)) ((1 : Int64) <<< ((nI (srn c R (k + 1))).toInt64 &&& 63)) = some (nI (lin c (srn c R k) (sg (srn c R (k + 1))))) := g6
                  simp only [X6_shortest, a1, bd, nm, e12, if_neg zn, if_neg q1, if_pos q2, if_neg q4, if_pos q5, g1, if_neg q7, if_neg yn, X2_inputToBadState, g4', if_neg zs, g6']
              · have : k = R := by omega
                subst this
                refine ⟨-1, si τ1 0 0, ?_, Or.inl ⟨σ1, ?_, rfl, ⟨c, hm⟩⟩⟩
                · simp only [X7_shortest, b1, bd, if_neg zn, w1, w2, X7_shortest_42, nm, si0, p0, p10, reduceIte, g2, if_neg q7]
                · simp only [X6_shortest, a1, bd, nm, e12, if_neg zn, if_neg q1, if_pos q2, if_neg q4, if_pos q5, g1, if_neg q7, reduceIte]
          · have q6 : 1 < v2 := by rw [le_i] at q5; rw [lt_i]; omega
            have w2 : X7_within v2 0 1 = some 0 := by rw [X7_within, if_neg q4, if_pos q6]
            refine ⟨0, si τ1 0 3, ?_, Or.inr ⟨1, 3, σ1, Or.inr (Or.inr ⟨rfl, rfl⟩), ?_, rfl, ⟨c, hr1.th 3⟩⟩⟩
            · simp only [X7_shortest, b1, bd, if_neg zn, w1, w2, X7_shortest_42, nm, si0, p3, p10, reduceIte]
            · simp only [X6_shortest_t, a1, bd, nm, e12, if_neg zn, if_neg q1, if_pos q2, if_neg q4, if_neg q5, X6_shortest_t_58]
      · have q3 : nI R < v1 := by rw [le_i] at q2; rw [lt_i]; omega
        have w1 : X7_within v1 0 (nI R) = some 0 := by rw [X7_within, if_neg q1, if_pos q3]
        refine ⟨0, si τ1 0 2, ?_, Or.inr ⟨3, 2, σ1, Or.inr (Or.inl ⟨rfl, rfl⟩), ?_, rfl, ⟨c, hr1.th 2⟩⟩⟩
        · simp only [X7_shortest, b1, bd, if_neg zn, w1, X7_shortest_42, nm, si0, p2, reduceIte]
        · simp only [X6_shortest_t, a1, bd, nm, e12, if_neg zn, if_neg q1, if_neg q2, X6_shortest_t_39]
end SHORT
