/-! c1: clauses collected; the op elimination -/
theorem onz_1 : ∀ m, m < 64 → m = 0 ∨ 1 ≤ onz m := by decide +kernel
def Q0 (c : Ck) (W x : Nat) : Bool := vld W x && decide (cx c x &&& c.2.2.2.1 = 0)
def Qb (c : Ck) (W B x : Nat) : Bool := Q0 c W x && decide (x < B)
section ELIM2
variable {c : Ck} {σ τ : St} {N W n m : Nat} {Q g : Nat → Bool} {ix : Nat → Nat}
theorem CRl.cg {Q' : Nat → Bool} (h : CRl c Q n ix σ) (e : ∀ x, x < 64 * ns c → Q x = Q' x) : CRl c Q' n ix σ := by
  obtain ⟨r1, r2, r3, r4, r5⟩ := h
  exact ⟨r1, r2, fun j hj => ⟨(r3 j hj).1, by rw [← e _ (r3 j hj).1]; exact (r3 j hj).2.1, (r3 j hj).2.2⟩, fun x x1 x2 => r4 x x1 (by rw [e x x1]; exact x2), r5⟩
theorem Qb_s {B : Nat} (h : Q0 c W B = false) (x : Nat) : Qb c W B x = Qb c W (B + 1) x := by
  unfold Qb
  by_cases q : x = B
  · rw [q, h]; rfl
  · rcases Nat.lt_or_ge x B with z | z
    · rw [decide_eq_true z, decide_eq_true (show x < B + 1 by omega)]
    · rw [decide_eq_false (show ¬ x < B by omega), decide_eq_false (show ¬ x < B + 1 by omega)]
theorem X5_collectOf_ok (hN : 4000000 ≤ N) (h : CS c σ) (hW : W ≤ 3) (hm1 : 1 ≤ m) (hm : m < ns c) (ho : onz m ≤ W) (hr : CRl c (Qb c W (64 * m)) n ix σ) : ∃ (σ' : St) (n' : Nat) (ix' : Nat → Nat), X5_collectClausesOf N (nI m) σ = some σ' ∧ FR [22] [] [] [8] σ σ' ∧ CRl c (Qb c W (64 * (m + 1))) n' ix' σ' := by
  have h64 := ns_le h.1
  have o1 : 1 ≤ onz m := (onz_1 m (by omega)).resolve_left (by omega)
  unfold X5_collectClausesOf
  refine wf (fun f v u => X5_collectClausesOf_2 N (fun σ => X5_collectClausesOf_94 σ) (nI m) f (nI v) u) (m + 1) (fun v u => FR [22] [] [] [8] σ u ∧ ∃ (n : Nat) (ix : Nat → Nat), CRl c (Qb c W (64 * m + v)) n ix u) (fun r => ∃ (σ' : St) (n' : Nat) (ix' : Nat → Nat), r = some σ' ∧ FR [22] [] [] [8] σ σ' ∧ CRl c (Qb c W (64 * (m + 1))) n' ix' σ') ?_ ?_ N 0 σ (by omega) ⟨FR.rf, n, ix, hr⟩ (by omega)
  · rintro f v u hv ⟨q1, n, ix, q2⟩
    have hu := h.fr q1 (by decide)
    have cc : ¬ nI m < nI v := nI_nlt (by omega) (by omega)
    have es := X0_statesInCube_ok hN hu (m := m) (w := v) (by omega) (by omega)
    have ek : nI v &&& (nI m ^^^ (-1)) = nI (v &&& (63 ^^^ m)) := lsg_k _ (by omega) _ (by omega)
    have sb' := sbm_k v (by omega) m (by omega)
    have d1 : (64 * m + v) / 64 = m := by omega
    have d2 : (64 * m + v) % 64 = v := by omega
    have vl : vld W (64 * m + v) = decide (v &&& m = v) := by
      unfold vld
      rw [d1, d2, decide_eq_true o1, decide_eq_true ho]; rfl
    right
    have skip : Q0 c W (64 * m + v) = false → X5_collectClausesOf_2 N (fun σ => X5_collectClausesOf_94 σ) (nI m) (f + 1) (nI v) u = X5_collectClausesOf_2 N (fun σ => X5_collectClausesOf_94 σ) (nI m) f (nI (v + 1)) u → ∃ a', (FR [22] [] [] [8] σ a' ∧ ∃ (n : Nat) (ix : Nat → Nat), CRl c (Qb c W (64 * m + (v + 1))) n ix a') ∧ X5_collectClausesOf_2 N (fun σ => X5_collectClausesOf_94 σ) (nI m) (f + 1) (nI v) u = X5_collectClausesOf_2 N (fun σ => X5_collectClausesOf_94 σ) (nI m) f (nI (v + 1)) a' := fun z1 z2 => ⟨u, ⟨q1, n, ix, q2.cg (fun x _ => Qb_s z1 x)⟩, z2⟩
    by_cases z : v &&& m = v
    · rw [decide_eq_true z, decide_eq_true_eq] at sb'
      have ec : cu c m (v &&& m) = cx c (64 * m + v) := by
        unfold cx
        rw [d1, d2, z]
      rw [ec] at es
      have c0 : nI (v &&& (63 ^^^ m)) = 0 := by rw [sb']; rfl
      by_cases z2 : cx c (64 * m + v) &&& c.2.2.2.1 = 0
      · have qt : Q0 c W (64 * m + v) = true := by
          unfold Q0
          rw [vl, decide_eq_true z, decide_eq_true z2]; rfl
        obtain ⟨r1, r2, r3, r4, r5⟩ := q2
        have nx' : ∀ j, j < n → ix j < 64 * m + v := fun j hj => by
          have := (r3 j hj).2.1
          unfold Qb at this
          rw [Bool.and_eq_true, decide_eq_true_eq] at this
          exact this.2
        have inj : ∀ i j, i < n + 1 → j < n + 1 → nwF ix id n (64 * m + v) i = nwF ix id n (64 * m + v) j → i = j := fun i j hi hj e => by
          by_cases e1 : i = n
          · by_cases e2 : j = n
            · omega
            · rw [e1, nwF_s, nwF_n e2] at e
              have := nx' j (by omega)
              dsimp only [id] at e
              omega
          · by_cases e2 : j = n
            · rw [e2, nwF_s, nwF_n e1] at e
              have := nx' i (by omega)
              dsimp only [id] at e
              omega
            · rw [nwF_n e1, nwF_n e2] at e
              exact r5 i j (by omega) (by omega) e
        have pr : ∀ j, j < n + 1 → nwF ix id n (64 * m + v) j < 64 * ns c ∧ Qb c W (64 * m + (v + 1)) (nwF ix id n (64 * m + v) j) = true := fun j hj => by
          by_cases e1 : j = n
          · rw [e1, nwF_s]
            refine ⟨by omega, ?_⟩
            unfold Qb
            rw [qt, decide_eq_true (by omega)]; rfl
          · rw [nwF_n e1]
            refine ⟨(r3 j (by omega)).1, ?_⟩
            have := (r3 j (by omega)).2.1
            show Qb c W (64 * m + (v + 1)) (ix j) = true
            unfold Qb at this ⊢
            rw [Bool.and_eq_true, decide_eq_true_eq] at this
            rw [this.1, decide_eq_true (by omega)]; rfl
        have b232 : n + 1 ≤ 232 := cl232 h.1 hW (ix := nwF ix id n (64 * m + v)) (fun j hj => ⟨(pr j hj).1, by
          have := (pr j hj).2
          unfold Qb Q0 at this
          rw [Bool.and_eq_true, Bool.and_eq_true] at this
          exact this.1.1⟩) inj
        refine ⟨si (sb u 8 n (cx c (64 * m + v))) 22 (nI (n + 1)), ⟨(q1.b (by decide)).i (by decide), n + 1, nwF ix id n (64 * m + v), b232, si_s, fun j hj => ⟨(pr j hj).1, (pr j hj).2, ?_⟩, fun x x1 x2 => ?_, inj⟩, ?_⟩
        · rw [si_b, sb_s]
          by_cases e1 : j = n
          · rw [e1, v_s, nwF_s]
          · rw [v_n e1, nwF_n e1]
            exact (r3 j (by omega)).2.2
        · by_cases e1 : x = 64 * m + v
          · exact ⟨n, by omega, by rw [nwF_s, e1]⟩
          · unfold Qb at x2
            rw [Bool.and_eq_true, decide_eq_true_eq] at x2
            obtain ⟨j, j1, j2⟩ := r4 x x1 (by unfold Qb; rw [x2.1, decide_eq_true (by omega)]; rfl)
            exact ⟨j, by omega, by rw [nwF_n (by omega)]; exact j2⟩
        · have g0 : ¬ u.1 22 < 0 := by rw [r2]; exact nI_pos (by omega)
          have g1 : ¬ (232 : Int32) ≤ u.1 22 := by rw [r2]; exact nI_ge (b := 232) (by omega) (by omega)
          show X5_collectClausesOf_2 N _ _ (f + 1) _ _ = X5_collectClausesOf_2 N _ _ f _ _
          rw [X5_collectClausesOf_2, X5_collectClausesOf_2b, if_neg cc, es, bd, ek, if_pos c0, X0_initial_ok hu, bd, if_pos z2, X5_collectClausesOf_44, if_neg (by decide), if_neg g0, if_neg g1, r2, gd_in (by omega) (by omega), nI_clamp (by omega), nm, nm, nm, sb_i, r2, nI_1, nI_1]
      · refine skip (by unfold Q0; rw [decide_eq_false z2, Bool.and_false]) ?_
        rw [X5_collectClausesOf_2, X5_collectClausesOf_2b, if_neg cc, es, bd, ek, if_pos c0, X0_initial_ok hu, bd, if_neg z2, X5_collectClausesOf_44, if_pos rfl, nm, nI_1]
    · rw [decide_eq_false z, decide_eq_false_iff_not] at sb'
      have l2 : v &&& (63 ^^^ m) ≤ v := Nat.and_le_left
      have c0 : ¬ nI (v &&& (63 ^^^ m)) = 0 := nI_ne0 (by omega) (by omega)
      refine skip (by unfold Q0; rw [vl, decide_eq_false z, Bool.false_and]) ?_
      rw [X5_collectClausesOf_2, X5_collectClausesOf_2b, if_neg cc, es, bd, ek, if_neg c0, X5_collectClausesOf_44, if_pos rfl, nm, nI_1]
  · rintro f u ⟨q1, n, ix, q2⟩
    have cc : nI m < nI (m + 1) := nI_lt (by omega) (by omega)
    refine ⟨u, n, ix, ?_, q1, q2.cg (fun x hx => ?_)⟩
    · show X5_collectClausesOf_2 N _ _ (f + 1) _ _ = _
      rw [X5_collectClausesOf_2, X5_collectClausesOf_2b, if_pos cc]
      rfl
    · unfold Qb
      rcases Nat.lt_or_ge x (64 * m + (m + 1)) with y | y
      · rw [decide_eq_true y, decide_eq_true (show x < 64 * (m + 1) by omega)]
      · rcases Nat.lt_or_ge x (64 * (m + 1)) with y2 | y2
        · have e1 : x / 64 = m := by omega
          have e2 : m < x % 64 := by omega
          have : Q0 c W x = false := by
            unfold Q0 vld
            have z : ¬ x % 64 &&& x / 64 = x % 64 := fun z => by
              have : x % 64 &&& x / 64 ≤ x / 64 := Nat.and_le_right
              omega
            rw [decide_eq_false z, Bool.and_false, Bool.false_and]
          rw [this]; rfl
        · rw [decide_eq_false (show ¬ x < 64 * m + (m + 1) by omega), decide_eq_false (show ¬ x < 64 * (m + 1) by omega)]
theorem X5_collect_ok (hN : 4000000 ≤ N) (h : CS c σ) (hW : W ≤ 3) : ∃ (σ' : St) (n' : Nat) (ix' : Nat → Nat), X5_collectClauses N (nI W) σ = some σ' ∧ FR [22] [] [] [8] σ σ' ∧ CRl c (Q0 c W) n' ix' σ' := by
  have h64 := ns_le h.1
  have e0 : X5_collectClauses N (nI W) σ = X5_collectClauses_7 N (fun σ => X5_collectClauses_37 σ) (nI W) N (nI 1) (si σ 22 (nI 0)) := rfl
  rw [e0]
  refine wf (fun f m u => X5_collectClauses_7 N (fun σ => X5_collectClauses_37 σ) (nI W) f (nI m) u) (ns c) (fun m u => 1 ≤ m ∧ FR [22] [] [] [8] σ u ∧ ∃ (n : Nat) (ix : Nat → Nat), CRl c (Qb c W (64 * m)) n ix u) (fun r => ∃ (σ' : St) (n' : Nat) (ix' : Nat → Nat), r = some σ' ∧ FR [22] [] [] [8] σ σ' ∧ CRl c (Q0 c W) n' ix' σ') ?_ ?_ N 1 _ (by omega) ⟨Nat.le_refl _, FR.rf.i (by decide), 0, fun _ => 0, by omega, si_s, fun j hj => by omega, fun x x1 x2 => ?_, fun i j hi => by omega⟩ (by omega)
  · rintro f m u hm ⟨q0, q1, n, ix, q2⟩
    have hu := h.fr q1 (by decide)
    have cc : ¬ nI (ns c) ≤ nI m := nI_ge (by omega) (by omega)
    have eb := bc6 m (by omega)
    have l1 := onz_6 m
    right
    rcases Nat.lt_or_ge W (onz m) with z | z
    · refine ⟨u, ⟨by omega, q1, n, ix, q2.cg (fun x hx => ?_)⟩, ?_⟩
      · unfold Qb
        rcases Nat.lt_or_ge x (64 * m) with y | y
        · rw [decide_eq_true y, decide_eq_true (show x < 64 * (m + 1) by omega)]
        · rcases Nat.lt_or_ge x (64 * (m + 1)) with y2 | y2
          · have e1 : x / 64 = m := by omega
            have : Q0 c W x = false := by
              unfold Q0 vld
              rw [e1, decide_eq_false (show ¬ onz m ≤ W by omega), Bool.and_false, Bool.false_and, Bool.false_and]
            rw [this]; rfl
          · rw [decide_eq_false (show ¬ x < 64 * m by omega), decide_eq_false (show ¬ x < 64 * (m + 1) by omega)]
      · show X5_collectClauses_7 N _ _ (f + 1) _ _ = X5_collectClauses_7 N _ _ f _ _
        rw [X5_collectClauses_7, X5_collectClauses_7b, hu.2.2.2.1, if_neg cc, eb, bd, if_pos (nI_lt z (by omega)), nm, nI_1]
    · obtain ⟨u', n', ix', x1, x2, x3⟩ := X5_collectOf_ok hN hu hW q0 hm z q2
      refine ⟨u', ⟨by omega, q1.tr x2, n', ix', x3⟩, ?_⟩
      show X5_collectClauses_7 N _ _ (f + 1) _ _ = X5_collectClauses_7 N _ _ f _ _
      rw [X5_collectClauses_7, X5_collectClauses_7b, hu.2.2.2.1, if_neg cc, eb, bd, if_neg (nI_nlt z (by omega)), x1, bd, nm, nI_1]
  · rintro f u ⟨q0, q1, n, ix, q2⟩
    have hu := h.fr q1 (by decide)
    have cc : nI (ns c) ≤ nI (ns c) := nI_le (Nat.le_refl _) (by omega)
    refine ⟨u, n, ix, ?_, q1, q2.cg (fun x hx => ?_)⟩
    · show X5_collectClauses_7 N _ _ (f + 1) _ _ = _
      rw [X5_collectClauses_7, X5_collectClauses_7b, hu.2.2.2.1, if_pos cc]
      rfl
    · unfold Qb
      rw [decide_eq_true hx, Bool.and_true]
  · exfalso
    unfold Qb Q0 vld at x2
    rw [Bool.and_eq_true, decide_eq_true_eq] at x2
    have e1 : x / 64 = 0 := by omega
    have o0 : onz 0 = 0 := by decide
    rw [e1, o0] at x2
    have := x2.1
    simp at this
theorem elim_loop (hN : 4000000 ≤ N) (f3 : F3 c σ) (hC : CS c σ) (hM : CM c τ) (hW : W ≤ 3) : ∀ (M : Nat) (u w : St) (Q g : Nat → Bool) (n : Nat) (ix : Nat → Nat) (r fc fm : Nat), n < M → FR [22] [] [] [8] σ u → FR [] [] [12] [] τ w → CRl c Q n ix u → (∀ x, x < 4096 → w.2.2.1 12 x = bI (g x)) → (∀ x, x < 64 * ns c → Q x = (vld W x && !g x)) → r + n ≤ 232 → M + 1 ≤ fc → M + 1 ≤ fm → ∃ (y : Int64) (u' w' : St), X5_eliminate_13 N (fun v2 σ => X5_eliminate_36 v2 σ) (fun v2 σ => X5_eliminate_49 v2 σ) fc (oS c Q (64 * ns c)) (nI r) u = some (y, u') ∧ X7_eliminationNow_34 N (fun v1 σ => X7_eliminationNow_56 N v1 σ) (nI W) fm 1 w = some (y, w') ∧ FR [22] [] [] [8] σ u' ∧ FR [] [] [12] [] τ w' := by
  intro M
  induction M with
  | zero => intro u w Q g n ix r fc fm h; omega
  | succ M ih =>
    intro u w Q g n ix r fc fm hn hu hw hr hg hQ hrn hfc hfm
    obtain ⟨fc, rfl⟩ : ∃ f, fc = f + 1 := ⟨fc - 1, by omega⟩
    obtain ⟨fm, rfl⟩ : ∃ f, fm = f + 1 := ⟨fm - 1, by omega⟩
    have cu' := hC.fr hu (by decide)
    have mw := hM.fr hw (by decide)
    have cc : ¬ (232 : Int32) < nI r := nI_nlt (a := 232) (by omega) (by omega)
    have e1 := X2_successorsOf_ok hN hC.1 (f3.fr hu (by decide)) (x := oS c Q (64 * ns c)) (fun s hs => oS_l s hs)
    obtain ⟨u1, n1, ix1, a1, a2, a3, a4, a5⟩ := X5_discard_ok hN hr (sucs c (oS c Q (64 * ns c)))
    have o1 := X7_outside_ok hN mw hg hW hQ
    have s1 := X7_successors_ok hN mw (oS c Q (64 * ns c))
    obtain ⟨w1, g1, b1, b2, b3, b4⟩ := X7_discards_ok hN mw hg hW hQ (sucs c (oS c Q (64 * ns c)))
    have hu1 := hu.tr a2
    have hw1 := hw.tr b2
    have em : X7_eliminationNow_34 N (fun v1 σ => X7_eliminationNow_56 N v1 σ) (nI W) (fm + 1) 1 w = X7_eliminationNow_34 N (fun v1 σ => X7_eliminationNow_56 N v1 σ) (nI W) fm (bI (ax (fun x => Q x && !decide (cx c x &&& sucs c (oS c Q (64 * ns c)) = 0)) (64 * ns c))) w1 := by
      rw [X7_eliminationNow_34, X7_eliminationNow_34b, if_neg (by decide), o1, bd, s1, bd, b1, bd]
    cases e : ax (fun x => Q x && !decide (cx c x &&& sucs c (oS c Q (64 * ns c)) = 0)) (64 * ns c)
    · rw [e] at a1 em
      obtain ⟨fm, rfl⟩ : ∃ f, fm = f + 1 := ⟨fm - 1, by omega⟩
      have same : ∀ x, x < 64 * ns c → (Q x && decide (cx c x &&& sucs c (oS c Q (64 * ns c)) = 0)) = Q x := fun x hx => by
        have := ax_f.mp e x hx
        revert this
        cases Q x <;> cases decide (cx c x &&& sucs c (oS c Q (64 * ns c)) = 0) <;> simp
      have o2 := X7_outside_ok hN (hM.fr hw1 (by decide)) b3 hW (fun x hx => b4 x hx)
      rw [oS_cg same] at o2
      refine ⟨oS c Q (64 * ns c), u1, w1, ?_, ?_, hu1, hw1⟩
      · rw [X5_eliminate_13, X5_eliminate_13b, if_neg cc, e1, bd, a1, bd, if_pos (show bI false = 0 from rfl)]
        rfl
      · rw [em, X7_eliminationNow_34, X7_eliminationNow_34b, if_pos (show bI false = 0 from rfl)]
        show X7_eliminationNow_56 N (nI W) w1 = _
        rw [X7_eliminationNow_56, o2, bd]
    · rw [e] at a1 em
      have lt := a5 e
      obtain ⟨y, u2, w2, k1, k2, k3, k4⟩ := ih u1 w1 (fun x => Q x && decide (cx c x &&& sucs c (oS c Q (64 * ns c)) = 0)) g1 n1 ix1 (r + 1) fc fm (by omega) hu1 hw1 a3 b3 b4 (by omega) (by omega) (by omega)
      have wo := X5_without_ok hN (hC.fr hu1 (by decide)) a3
      refine ⟨y, u2, w2, ?_, ?_, k3, k4⟩
      · rw [X5_eliminate_13, X5_eliminate_13b, if_neg cc, e1, bd, a1, bd, if_neg (show ¬ bI true = 0 by decide), wo, bd, nm, nI_1]
        exact k1
      · rw [em]
        exact k2
theorem X7_clear_ok (hN : 4000000 ≤ N) (K : Int32 → St → Option (Int64 × St)) (v1 : Int32) : ∃ u, X7_eliminationNow_2 K v1 N (nI 0) τ = K v1 u ∧ FR [] [] [12] [] τ u ∧ ∀ j, j < 4096 → u.2.2.1 12 j = 0 := by
  refine wf (fun f i u => X7_eliminationNow_2 K v1 f (nI i) u) 4096 (fun i u => FR [] [] [12] [] τ u ∧ ∀ j, j < i → u.2.2.1 12 j = 0) (fun r => ∃ u, r = K v1 u ∧ FR [] [] [12] [] τ u ∧ ∀ j, j < 4096 → u.2.2.1 12 j = 0) ?_ ?_ N 0 τ (by omega) ⟨FR.rf, fun j hj => by omega⟩ (by omega)
  · rintro f i u hi ⟨h1, h2⟩
    refine Or.inr ⟨sa u 12 i 0, ⟨h1.a (by decide), fun j hj => ?_⟩, ?_⟩
    · show upd (u.2.2.1 12) i 0 j = 0
      rcases Nat.lt_or_ge j i with q | q
      · rw [u_n (by omega)]; exact h2 j q
      · have : j = i := by omega
        subst this; exact u_s
    · show X7_eliminationNow_2 _ _ (f + 1) _ _ = X7_eliminationNow_2 _ _ f _ _
      simp (disch := omega) only [X7_eliminationNow_2, X7_eliminationNow_2b, fa_lit, nI_leI, nI_ltI, nI_eq, nI_add, pk_mul, nI_clamp, bd, nm, gd_in, gd_bI, gd_b0, gd_b1, if_pos, if_neg, bI_n0, bI_n1, reduceIte, reduceCtorEq, Nat.add_zero]
  · rintro f u ⟨h1, h2⟩
    refine ⟨u, ?_, h1, h2⟩
    show X7_eliminationNow_2 _ _ (f + 1) _ _ = _
    simp (disch := omega) only [X7_eliminationNow_2, X7_eliminationNow_2b, fa_lit, nI_leI, nI_ltI, nI_eq, nI_add, pk_mul, nI_clamp, bd, nm, gd_in, gd_bI, gd_b0, gd_b1, if_pos, if_neg, bI_n0, bI_n1, reduceIte, reduceCtorEq, Nat.add_zero]
/-- both programs, at one width -/
theorem elim_ok (hN : 4000000 ≤ N) (hC : CS c σ) (f3 : F3 c σ) (hM : CM c τ) (hW : W ≤ 3) : ∃ (y : Int64) (u w : St), X5_eliminate N (nI W) σ = some (y, u) ∧ X7_eliminationNow N (nI W) τ = some (y, w) ∧ FR [22] [] [] [8] σ u ∧ FR [] [] [12] [] τ w := by
  obtain ⟨u1, n, ix, a1, a2, a3⟩ := X5_collect_ok hN hC hW
  have wo := X5_without_ok hN (hC.fr a2 (by decide)) a3
  obtain ⟨w0, b1, b2, b3⟩ := X7_clear_ok hN (τ := τ) (fun v1 σ => X7_eliminationNow_22 N v1 σ) (nI W)
  have m0 := hM.fr b2 (by decide)
  obtain ⟨w1, g1, d1, d2, d3, d4⟩ := X7_discards_ok hN m0 (g := fun _ => false) (Q := vld W) b3 hW (fun x _ => by simp) c.2.2.2.1
  obtain ⟨y, u', w', k1, k2, k3, k4⟩ := elim_loop hN f3 hC hM hW (n + 1) u1 w1 (Q0 c W) g1 n ix 0 N N (by omega) a2 (b2.tr d2) a3 d3 d4 (by have := a3.1; omega) (by have := a3.1; omega) (by have := a3.1; omega)
  refine ⟨y, u', w', ?_, ?_, k3, k4⟩
  · rw [X5_eliminate, a1, bd, wo, bd]
    exact k1
  · have e0 : X7_eliminationNow N (nI W) τ = X7_eliminationNow_22 N (nI W) w0 := b1
    rw [e0, X7_eliminationNow_22, m0.2.2.2.2.1, d1, bd]
    exact k2
theorem Op_elimination_ok (hN : 4000000 ≤ N) (h : RC c σ τ) : Op_elimination N Rl σ τ := by
  intro v1
  have hm := h.th 0
  by_cases q1 : v1 < 1
  · refine ⟨0, si τ 0 1, ?_, Or.inr ⟨1, 1, σ, ⟨rfl, rfl⟩, ?_, rfl, ⟨c, h.th 1⟩⟩⟩
    · have w : X7_within v1 1 3 = some 0 := if_pos q1
      simp only [X7_elimination, w, bd, X7_elimination_15, nm, si0, p1, reduceIte]
    · simp only [X6_elimination_t, if_pos q1, X6_elimination_t_10]
  · by_cases q2 : v1 ≤ 3
    · have q3 : ¬ 3 < v1 := by rw [le_i] at q2; rw [lt_i]; omega
      have w : X7_within v1 1 3 = some 1 := by rw [X7_within, if_neg q1, if_neg q3]
      obtain ⟨W, _, hW, rfl⟩ := rng_i (a := 1) (b := 3) (by omega) (by omega) q1 q3
      obtain ⟨σ1, d1, d2, d3, d4⟩ := h.refresh hN
      obtain ⟨y, u, w', x1, x2, x3, x4⟩ := elim_ok hN d2.2.1 d4.1 hm.1 hW
      refine ⟨y, w', ?_, Or.inl ⟨u, ?_, (x4.1 0 (by decide)).trans rfl, ⟨c, (d2.th 0).sc (x3.mo (by decide)) (x4.mo (by decide))⟩⟩⟩
      · simp only [X7_elimination, w, bd, if_neg p10, X7_elimination_15, nm, si0, p0, reduceIte, x2]
      · simp only [X6_elimination, if_neg q1, if_pos q2, d1, bd, x1]
    · have q3 : 3 < v1 := by rw [le_i] at q2; rw [lt_i]; omega
      have w : X7_within v1 1 3 = some 0 := by rw [X7_within, if_neg q1, if_pos q3]
      refine ⟨0, si τ 0 1, ?_, Or.inr ⟨1, 1, σ, ⟨rfl, rfl⟩, ?_, rfl, ⟨c, h.th 1⟩⟩⟩
      · simp only [X7_elimination, w, bd, X7_elimination_15, nm, si0, p1, reduceIte]
      · simp only [X6_elimination_t, if_neg q1, if_neg q2, X6_elimination_t_10]
end ELIM2
