/-! b9: induction in the reference: a search with a path; the op induction -/
def tvb (c : Ck) (j s : Nat) (u : Int64) (v : Nat) : Bool := ht (ldS c j) (nx c s v) && !ht u (nx c s v) && SPb c j (nx c s v) (u ||| sg (nx c s v))
def TrP (c : Ck) (r s : Nat) (u : Int64) (v : Nat) : Prop := match r with
  | 0 => True
  | r + 1 => ∃ v', v ≤ v' ∧ v' < nv c ∧ tvb c r s u v' = true
def wW : Nat → Nat
  | 0 => 1
  | r + 1 => 4 * (1 + wW r) + 1
def bnW (r d : Nat) : Nat := match r with
  | 0 => 1
  | r + 1 => d * (1 + wW r) + 1
section IND3
variable {c : Ck} {σ τ : St} {N : Nat} {b : Bool}
theorem TrP_i {r s : Nat} {u : Int64} : TrP c r s u 0 ↔ SPb c r s u = true := by
  cases r with
  | zero => exact ⟨fun _ => rfl, fun _ => trivial⟩
  | succ r =>
    constructor
    · rintro ⟨v', _, v1, v2⟩
      exact ax_t.mpr ⟨v', v1, v2⟩
    · intro h
      obtain ⟨v', v1, v2⟩ := ax_t.mp h
      exact ⟨v', by omega, v1, v2⟩
theorem bnW_le {r d : Nat} (hd : d ≤ 4) : bnW r d ≤ wW r := by
  cases r with
  | zero => exact Nat.le_refl _
  | succ r =>
    show d * (1 + wW r) + 1 ≤ 4 * (1 + wW r) + 1
    have := Nat.mul_le_mul hd (Nat.le_refl (1 + wW r))
    omega
theorem wW_6 : ∀ r, r ≤ 6 → wW r ≤ 10921 := by decide
theorem X7_isOn_ok (hN : 4000000 ≤ N) {p : Nat → Nat} {A t : Nat} (hA : A ≤ 7) (ht' : t < 64) (hp : ∀ j, j < A → τ.2.2.1 10 j = nI (p j) ∧ p j < 64) : X7_isOn N τ (nI A) (nI t) = some (bI (ax (fun j => decide (p j = t)) A)) := by
  unfold X7_isOn
  refine wf (fun f i (_ : Unit) => X7_isOn_5 (fun v3 => X7_isOn_38 τ v3) τ (nI A) (nI t) f (bI (ax (fun j => decide (p j = t)) i)) (nI i)) A (fun _ _ => True) (fun r => r = some (bI (ax (fun j => decide (p j = t)) A))) ?_ ?_ N 0 () (by omega) trivial (by omega)
  · rintro f i u hi -
    refine Or.inr ⟨(), trivial, ?_⟩
    have cA : ¬ nI A ≤ nI i := nI_ge (by omega) (by omega)
    obtain ⟨h1, h2⟩ := hp i hi
    show X7_isOn_5 _ τ _ _ (f + 1) _ _ = X7_isOn_5 _ τ _ _ f _ _
    rw [ax]
    cases e : ax (fun j => decide (p j = t)) i
    · rw [X7_isOn_5, X7_isOn_5b, if_neg cA, if_pos (show bI false = 0 from rfl), gd_in (by omega) (by omega), nI_clamp (by omega), h1]
      by_cases q : p i = t
      · rw [if_pos (by rw [q]), nm, nI_1, decide_eq_true q]; rfl
      · rw [if_neg (by rw [nI_eq (by omega) (by omega)]; exact q), nm, nI_1, decide_eq_false q]; rfl
    · rw [X7_isOn_5, X7_isOn_5b, if_neg cA, if_neg (show ¬ bI true = 0 by decide), nm, nI_1]
      rfl
  · rintro f u -
    have cA : nI A ≤ nI A := nI_le (Nat.le_refl _) (by omega)
    show X7_isOn_5 _ τ _ _ (f + 1) _ _ = _
    rw [X7_isOn_5, X7_isOn_5b, if_pos cA, X7_isOn_38, gd_bI]
theorem dfs_ok (hN : 4000000 ≤ N) {S : Nat} (hS : S ≤ 6) (K : Int32 → Int32 → St → Option (Int32 × St)) : ∀ (r A v : Nat) (u : St) (p : Nat → Nat) (us : Int64), A + r = S → CM c u → (∀ j, j ≤ 6 → u.2.2.2 4 j = ldS c j) → (∀ j, j ≤ A → u.2.2.1 10 j = nI (p j) ∧ p j < ns c) → u.2.2.1 11 A = nI v → v ≤ nv c → (∀ t, t < 64 → (ht us t = true ↔ ∃ j, j ≤ A ∧ p j = t)) → ∃ (bb : Nat) (u' : St), bb ≤ bnW r (nv c - v) ∧ FR [] [] [10, 11] [] u u' ∧ ((TrP c r (p A) us v ∧ ∀ n, X7_isSimple_16 N K (nI S) (n + bb) (nI A) u = K (nI S) (nI S) u') ∨ (¬ TrP c r (p A) us v ∧ (∀ j, j < A → u'.2.2.1 10 j = u.2.2.1 10 j ∧ u'.2.2.1 11 j = u.2.2.1 11 j) ∧ ∀ n, X7_isSimple_16 N K (nI S) (n + bb) (nI A) u = X7_isSimple_16 N K (nI S) n (nI A + (-1)) u')) := by
  intro r
  induction r with
  | zero =>
    intro A v u p us hA hu hl hp hv hv4 hus
    have : A = S := by omega
    subst this
    refine ⟨1, u, Nat.le_refl _, FR.rf, Or.inl ⟨trivial, fun n => ?_⟩⟩
    rw [X7_isSimple_16, X7_isSimple_16b, if_neg (nI_pos (by omega)), if_pos (nI_le (Nat.le_refl _) (by omega))]
  | succ r ihr =>
    intro A v u p us hA hu hl hp hv hv4 hus
    have h64 := ns_le hu.1
    have h4 := nv_le hu.1
    have inner : ∀ (d v : Nat) (u : St), nv c - v = d → CM c u → (∀ j, j ≤ 6 → u.2.2.2 4 j = ldS c j) → (∀ j, j ≤ A → u.2.2.1 10 j = nI (p j) ∧ p j < ns c) → u.2.2.1 11 A = nI v → v ≤ nv c → ∃ (bb : Nat) (u' : St), bb ≤ d * (1 + wW r) + 1 ∧ FR [] [] [10, 11] [] u u' ∧ ((TrP c (r + 1) (p A) us v ∧ ∀ n, X7_isSimple_16 N K (nI S) (n + bb) (nI A) u = K (nI S) (nI S) u') ∨ (¬ TrP c (r + 1) (p A) us v ∧ (∀ j, j < A → u'.2.2.1 10 j = u.2.2.1 10 j ∧ u'.2.2.1 11 j = u.2.2.1 11 j) ∧ ∀ n, X7_isSimple_16 N K (nI S) (n + bb) (nI A) u = X7_isSimple_16 N K (nI S) n (nI A + (-1)) u')) := by
      intro d
      induction d with
      | zero =>
        intro v u hd hu hl hp hv hv4
        have : v = nv c := by omega
        subst this
        refine ⟨1, u, by omega, FR.rf, Or.inr ⟨fun ⟨v', z1, z2, _⟩ => by omega, fun j _ => ⟨rfl, rfl⟩, fun n => ?_⟩⟩
        rw [X7_isSimple_16, X7_isSimple_16b, if_neg (nI_pos (by omega)), if_neg (nI_ge (by omega) (by omega)), gd_in (by omega) (by omega), X7_values_ok hu, bd, nI_clamp (by omega), hv, if_pos rfl, nm]
      | succ d ihd =>
        intro v u hd hu hl hp hv hv4
        have hvn : v < nv c := by omega
        obtain ⟨pA, pA2⟩ := hp A (Nat.le_refl _)
        have es := X7_successorOf_ok hN hu (s := p A) (v := v) (by omega) hvn
        have hn := nx_64 hu.1 (p A) v
        have g0 : ∀ {β : Type} (y : Option β), gd (inb (nI A) 7) y = y := fun y => gd_in (by omega) (by omega)
        have gr : ∀ {β : Type} (y : Option β), gd (inb (nI r) 7) y = y := fun y => gd_in (by omega) (by omega)
        have ga : ∀ {β : Type} (y : Option β), gd (inb (nI (A + 1)) 7) y = y := fun y => gd_in (by omega) (by omega)
        have nv' : ¬ nI v = nI (nv c) := by rw [nI_eq (by omega) (by omega)]; omega
        have ei : nI S - nI A - 1 = nI r := by
          rw [pk_sub (by omega)]
          have : nI (S - A) - 1 = nI (S - A - 1) := pk_sub (b := 1) (by omega)
          rw [this, show S - A - 1 = r by omega]
        have f1 : FR [] [] [10, 11] [] u (sa u 11 A (nI (v + 1))) := FR.rf.a (by decide)
        have hu1 := hu.fr f1 (by decide)
        have hl1 : ∀ j, j ≤ 6 → (sa u 11 A (nI (v + 1))).2.2.2 4 j = ldS c j := hl
        have hp1 : ∀ j, j ≤ A → (sa u 11 A (nI (v + 1))).2.2.1 10 j = nI (p j) ∧ p j < ns c := by
          rw [sa_n (by decide)]; exact hp
        have hv1 : (sa u 11 A (nI (v + 1))).2.2.1 11 A = nI (v + 1) := by rw [sa_s, u_s]
        have lr := hl1 r (by omega)
        have eo := X7_isOn_ok hN (τ := sa u 11 A (nI (v + 1))) (p := p) (A := A + 1) (t := nx c (p A) v) (by omega) hn (fun j hj => ⟨(hp1 j (by omega)).1, by have := (hp1 j (by omega)).2; omega⟩)
        have ou : ht us (nx c (p A) v) = ax (fun j => decide (p j = nx c (p A) v)) (A + 1) := by
          rw [Bool.eq_iff_iff, hus _ hn, ax_t]
          constructor
          · rintro ⟨j, j1, j2⟩
            exact ⟨j, by omega, decide_eq_true j2⟩
          · rintro ⟨j, j1, j2⟩
            exact ⟨j, by omega, of_decide_eq_true j2⟩
        rw [← ou] at eo
        have head : ∀ n, X7_isSimple_16 N K (nI S) (n + 1) (nI A) u = bd (X7_has (ldS c r) (nI (nx c (p A) v))) (fun t13 => if t13 = 0 then X7_isSimple_16 N K (nI S) n (nI A) (sa u 11 A (nI (v + 1))) else bd (X7_isOn N (sa u 11 A (nI (v + 1))) (nI (A + 1)) (nI (nx c (p A) v))) (fun t15 => if t15 = 0 then X7_isSimple_16 N K (nI S) n (nI (A + 1)) (sa (sa (sa u 11 A (nI (v + 1))) 10 (A + 1) (nI (nx c (p A) v))) 11 (A + 1) (nI 0)) else X7_isSimple_16 N K (nI S) n (nI A) (sa u 11 A (nI (v + 1))))) := fun n => by
          rw [X7_isSimple_16, X7_isSimple_16b, if_neg (nI_pos (by omega)), if_neg (nI_ge (by omega) (by omega)), g0, X7_values_ok hu, bd, nI_clamp (by omega), hv, if_neg nv', g0, g0, pA, es, bd, g0, g0, nI_1, nm, ei, gr, nI_clamp (by omega), lr, nI_1]
          simp only [nm, ga, nI_clamp (show A + 1 < 2 ^ 31 by omega)]
          rfl
        have skip : (∀ n, X7_isSimple_16 N K (nI S) (n + 1) (nI A) u = X7_isSimple_16 N K (nI S) n (nI A) (sa u 11 A (nI (v + 1)))) → tvb c r (p A) us v = false → ∃ (bb : Nat) (u' : St), bb ≤ (d + 1) * (1 + wW r) + 1 ∧ FR [] [] [10, 11] [] u u' ∧ ((TrP c (r + 1) (p A) us v ∧ ∀ n, X7_isSimple_16 N K (nI S) (n + bb) (nI A) u = K (nI S) (nI S) u') ∨ (¬ TrP c (r + 1) (p A) us v ∧ (∀ j, j < A → u'.2.2.1 10 j = u.2.2.1 10 j ∧ u'.2.2.1 11 j = u.2.2.1 11 j) ∧ ∀ n, X7_isSimple_16 N K (nI S) (n + bb) (nI A) u = X7_isSimple_16 N K (nI S) n (nI A + (-1)) u')) := fun hst hf => by
          obtain ⟨bb, u', b1, b2, b3⟩ := ihd (v + 1) (sa u 11 A (nI (v + 1))) (by omega) hu1 hl1 hp1 hv1 (by omega)
          have tr : TrP c (r + 1) (p A) us v ↔ TrP c (r + 1) (p A) us (v + 1) := by
            constructor
            · rintro ⟨v', z1, z2, z3⟩
              refine ⟨v', ?_, z2, z3⟩
              rcases Nat.lt_or_ge v v' with y | y
              · exact y
              · have : v' = v := by omega
                subst this; rw [hf] at z3; cases z3
            · rintro ⟨v', z1, z2, z3⟩
              exact ⟨v', by omega, z2, z3⟩
          refine ⟨bb + 1, u', by rw [Nat.add_mul]; omega, f1.tr b2, ?_⟩
          rw [tr]
          rcases b3 with ⟨t1, t2⟩ | ⟨t1, t2, t3⟩
          · exact Or.inl ⟨t1, fun n => by rw [← Nat.add_assoc, hst]; exact t2 n⟩
          · refine Or.inr ⟨t1, fun j hj => ?_, fun n => by rw [← Nat.add_assoc, hst]; exact t3 n⟩
            obtain ⟨w1, w2⟩ := t2 j hj
            rw [w1, w2, sa_n (by decide), sa_s, u_n (by omega)]
            exact ⟨rfl, rfl⟩
        cases e1 : ht (ldS c r) (nx c (p A) v)
        · refine skip (fun n => ?_) (by unfold tvb; rw [e1]; rfl)
          rw [head, X7_has_ok _ hn, bd, e1, if_pos (show bI false = 0 from rfl)]
        · cases e2 : ht us (nx c (p A) v)
          · have hst : ∀ n, X7_isSimple_16 N K (nI S) (n + 1) (nI A) u = X7_isSimple_16 N K (nI S) n (nI (A + 1)) (sa (sa (sa u 11 A (nI (v + 1))) 10 (A + 1) (nI (nx c (p A) v))) 11 (A + 1) (nI 0)) := fun n => by
              rw [head, X7_has_ok _ hn, bd, e1, if_neg (show ¬ bI true = 0 by decide), eo, bd, e2, if_pos (show bI false = 0 from rfl)]
            have f3 : FR [] [] [10, 11] [] u (sa (sa (sa u 11 A (nI (v + 1))) 10 (A + 1) (nI (nx c (p A) v))) 11 (A + 1) (nI 0)) := (f1.a (by decide)).a (by decide)
            obtain ⟨bb, u4, b1, b2, b3⟩ := ihr (A + 1) 0 (sa (sa (sa u 11 A (nI (v + 1))) 10 (A + 1) (nI (nx c (p A) v))) 11 (A + 1) (nI 0)) (fun j => if j = A + 1 then nx c (p A) v else p j) (us ||| sg (nx c (p A) v)) (by omega) (hu.fr f3 (by decide)) hl (fun j hj => by
              rw [sa_n (k := 11) (q := 10) (by decide), sa_s]
              by_cases y : j = A + 1
              · rw [y, u_s, if_pos rfl]
                exact ⟨rfl, nx_lt _ _ _⟩
              · rw [u_n y, if_neg y]
                exact hp1 j (by omega)) (by rw [sa_s, u_s]) (by omega) (fun t ht' => by
              rw [h_or, Bool.or_eq_true, h_sg hn, decide_eq_true_eq, hus t ht']
              constructor
              · rintro (⟨j, j1, j2⟩ | j2)
                · exact ⟨j, by omega, by rw [if_neg (by omega)]; exact j2⟩
                · exact ⟨A + 1, Nat.le_refl _, by rw [if_pos rfl]; exact j2.symm⟩
              · rintro ⟨j, j1, j2⟩
                by_cases y : j = A + 1
                · rw [if_pos y] at j2
                  exact Or.inr j2.symm
                · rw [if_neg y] at j2
                  exact Or.inl ⟨j, by omega, j2⟩)
            have b1' : bb ≤ wW r := Nat.le_trans b1 (bnW_le (by omega))
            rw [if_pos rfl, TrP_i] at b3
            rcases b3 with ⟨t1, t2⟩ | ⟨t1, t2, t3⟩
            · refine ⟨bb + 1, u4, by rw [Nat.add_mul]; omega, f3.tr b2, Or.inl ⟨⟨v, Nat.le_refl _, hvn, ?_⟩, fun n => ?_⟩⟩
              · unfold tvb
                rw [e1, e2, t1]; rfl
              · rw [← Nat.add_assoc, hst]; exact t2 n
            · have hf : tvb c r (p A) us v = false := by
                unfold tvb
                cases y : SPb c r (nx c (p A) v) (us ||| sg (nx c (p A) v))
                · rw [Bool.and_false]
                · exact absurd y t1
              have f4 := f3.tr b2
              obtain ⟨b5, u5, k1, k2, k3⟩ := ihd (v + 1) u4 (by omega) (hu.fr f4 (by decide)) (fun j hj => by rw [f4.2.2.2 4 (by decide)]; exact hl j hj) (fun j hj => by
                rw [(t2 j (by omega)).1, sa_n (k := 11) (q := 10) (by decide), sa_s, u_n (by omega)]
                exact hp1 j hj) (by
                rw [(t2 A (by omega)).2, sa_s, u_n (by omega), sa_n (k := 10) (q := 11) (by decide), sa_s, u_s]) (by omega)
              have tr : TrP c (r + 1) (p A) us v ↔ TrP c (r + 1) (p A) us (v + 1) := by
                constructor
                · rintro ⟨v', z1, z2, z3⟩
                  refine ⟨v', ?_, z2, z3⟩
                  rcases Nat.lt_or_ge v v' with y | y
                  · exact y
                  · have : v' = v := by omega
                    subst this; rw [hf] at z3; cases z3
                · rintro ⟨v', z1, z2, z3⟩
                  exact ⟨v', by omega, z2, z3⟩
              have hall : ∀ n, X7_isSimple_16 N K (nI S) (n + (b5 + bb + 1)) (nI A) u = X7_isSimple_16 N K (nI S) (n + b5) (nI A) u4 := fun n => by
                rw [show n + (b5 + bb + 1) = (n + b5) + bb + 1 by omega, hst, t3, pk_m1]
              refine ⟨b5 + bb + 1, u5, by rw [Nat.add_mul]; omega, f4.tr k2, ?_⟩
              rw [tr]
              rcases k3 with ⟨w1, w2⟩ | ⟨w1, w2, w3⟩
              · exact Or.inl ⟨w1, fun n => by rw [hall]; exact w2 n⟩
              · refine Or.inr ⟨w1, fun j hj => ?_, fun n => by rw [hall]; exact w3 n⟩
                obtain ⟨y1, y2⟩ := w2 j hj
                obtain ⟨y3, y4⟩ := t2 j (by omega)
                rw [y1, y2, y3, y4, sa_n (k := 11) (q := 10) (by decide), sa_s, u_n (by omega), sa_n (k := 11) (q := 10) (by decide), sa_s, u_n (by omega), sa_n (k := 10) (q := 11) (by decide), sa_s, u_n (by omega)]
                exact ⟨rfl, rfl⟩
          · refine skip (fun n => ?_) (by unfold tvb; rw [e1, e2]; rfl)
            rw [head, X7_has_ok _ hn, bd, e1, if_neg (show ¬ bI true = 0 by decide), eo, bd, e2, if_neg (show ¬ bI true = 0 by decide)]
    exact inner (nv c - v) v u rfl hu hl hp hv hv4
theorem X7_isSimple_ok (hN : 4000000 ≤ N) (h : CM c τ) (hl : ∀ j, j ≤ 6 → τ.2.2.2 4 j = ldS c j) {k s : Nat} (hk : k ≤ 6) (hs : s < ns c) : ∃ τ', X7_isSimple N (nI s) (nI k) τ = some (bI (SPb c k s (sg s)), τ') ∧ FR [] [] [10, 11] [] τ τ' := by
  have h64 := ns_le h.1
  have h4 := nv_le h.1
  have f0 : FR [] [] [10, 11] [] τ (sa (sa τ 10 0 (nI s)) 11 0 (nI 0)) := (FR.rf.a (by decide)).a (by decide)
  obtain ⟨bb, u', b1, b2, b3⟩ := dfs_ok hN hk (fun v2 v3 σ => X7_isSimple_123 v2 v3 σ) k 0 0 (sa (sa τ 10 0 (nI s)) 11 0 (nI 0)) (fun _ => s) (sg s) (by omega) (h.fr f0 (by decide)) hl (fun j hj => by
    have : j = 0 := by omega
    subst this
    rw [sa_n (k := 11) (q := 10) (by decide), sa_s, u_s]
    exact ⟨rfl, hs⟩) (by rw [sa_s, u_s]) (by omega) (fun t ht' => by
    rw [h_sg (by omega), decide_eq_true_eq]
    exact ⟨fun z => ⟨0, Nat.le_refl _, z.symm⟩, fun ⟨_, _, z⟩ => z.symm⟩)
  have b1' : bb ≤ 10921 := Nat.le_trans (Nat.le_trans b1 (bnW_le (by omega))) (wW_6 k hk)
  have e0 : X7_isSimple N (nI s) (nI k) τ = X7_isSimple_16 N (fun v2 v3 σ => X7_isSimple_123 v2 v3 σ) (nI k) N (nI 0) (sa (sa τ 10 0 (nI s)) 11 0 (nI 0)) := by
    have g0 : ∀ {β : Type} (y : Option β), gd (inb (0 : Int32) 7) y = y := fun y => gd_in (n := 0) (by omega) (by omega)
    have cl : (0 : Int32).toNatClampNeg = 0 := by decide
    rw [X7_isSimple, g0, cl, nm, g0, nm]
    rfl
  rw [TrP_i] at b3
  rcases b3 with ⟨t1, t2⟩ | ⟨t1, t2, t3⟩
  · refine ⟨u', ?_, f0.tr b2⟩
    have := t2 (N - bb)
    rw [show N - bb + bb = N by omega] at this
    rw [e0, this, t1]
    show X7_isSimple_123 (nI k) (nI k) u' = _
    rw [X7_isSimple_123, if_pos rfl]
    rfl
  · have e : SPb c k s (sg s) = false := by
      cases y : SPb c k s (sg s)
      · rfl
      · exact absurd y t1
    refine ⟨u', ?_, f0.tr b2⟩
    have := t3 (N - bb)
    rw [show N - bb + bb = N by omega, show N - bb = N - bb - 1 + 1 by omega] at this
    rw [e0, this, e, X7_isSimple_16, X7_isSimple_16b, if_pos (by decide)]
    show X7_isSimple_123 (nI k) (-1) u' = _
    rw [X7_isSimple_123, if_neg (fun z => nI_nm1 (show k < 2147483648 by omega) z.symm)]
    rfl
theorem X7_leads_ok (hN : 4000000 ≤ N) (h : CM c τ) (hl : ∀ j, j ≤ 6 → τ.2.2.2 4 j = ldS c j) {k : Nat} (hk : k ≤ 6) : ∃ τ', X7_leads N (nI k) (bI b) τ = some (bI (Lkb c b k), τ') ∧ FR [] [] [10, 11] [] τ τ' := by
  have h64 := ns_le h.1
  unfold X7_leads
  refine wf (fun f i u => X7_leads_5 N (fun v3 σ => X7_leads_58 v3 σ) (nI k) (bI b) f (bI (ax (fun s => ht (ldS c k) s && (!b || SPb c k s (sg s))) i)) (nI i) u) (ns c) (fun _ u => FR [] [] [10, 11] [] τ u) (fun r => ∃ τ', r = some (bI (Lkb c b k), τ') ∧ FR [] [] [10, 11] [] τ τ') ?_ ?_ N 0 τ (by omega) FR.rf (by omega)
  · rintro f i u hi q1
    right
    have hu := h.fr q1 (by decide)
    have hlu : ∀ j, j ≤ 6 → u.2.2.2 4 j = ldS c j := by rw [q1.2.2.2 4 (by decide)]; exact hl
    have cs : ¬ nI (ns c) ≤ nI i := nI_ge (by omega) (by omega)
    have lk := hlu k hk
    show ∃ a', _ ∧ X7_leads_5 N _ _ _ (f + 1) _ _ _ = X7_leads_5 N _ _ _ f _ _ _
    rw [ax]
    cases e : ax (fun s => ht (ldS c k) s && (!b || SPb c k s (sg s))) i
    · cases e1 : ht (ldS c k) i
      · refine ⟨u, q1, ?_⟩
        rw [X7_leads_5, X7_leads_5b, X7_states_ok hu, bd, if_neg cs, if_pos (show bI false = 0 from rfl), gd_in (by omega) (by omega), nI_clamp (by omega), lk, X7_has_ok _ (by omega), bd, e1, if_pos (show bI false = 0 from rfl), nm, nI_1]
        rfl
      · cases b
        · refine ⟨u, q1, ?_⟩
          rw [X7_leads_5, X7_leads_5b, X7_states_ok hu, bd, if_neg cs, if_pos (show bI false = 0 from rfl), gd_in (by omega) (by omega), nI_clamp (by omega), lk, X7_has_ok _ (by omega), bd, e1, if_neg (show ¬ bI true = 0 by decide), if_pos (show bI false = 0 from rfl), nm, nI_1]
          rfl
        · obtain ⟨u1, x1, x2⟩ := X7_isSimple_ok hN hu hlu hk hi
          refine ⟨u1, q1.tr x2, ?_⟩
          rw [X7_leads_5, X7_leads_5b, X7_states_ok hu, bd, if_neg cs, if_pos (show bI false = 0 from rfl), gd_in (by omega) (by omega), nI_clamp (by omega), lk, X7_has_ok _ (by omega), bd, e1, if_neg (show ¬ bI true = 0 by decide), if_neg (show ¬ bI true = 0 by decide), x1, bd]
          cases e2 : SPb c k i (sg i)
          · rw [if_pos (show bI false = 0 from rfl), nm, nI_1]; rfl
          · rw [if_neg (show ¬ bI true = 0 by decide), nm, nI_1]; rfl
    · refine ⟨u, q1, ?_⟩
      rw [X7_leads_5, X7_leads_5b, X7_states_ok hu, bd, if_neg cs, if_neg (show ¬ bI true = 0 by decide), nm, nI_1]
      rfl
  · rintro f u q1
    have hu := h.fr q1 (by decide)
    have cs : nI (ns c) ≤ nI (ns c) := nI_le (Nat.le_refl _) (by omega)
    refine ⟨u, ?_, q1⟩
    show X7_leads_5 N _ _ _ (f + 1) _ _ _ = _
    rw [X7_leads_5, X7_leads_5b, X7_states_ok hu, bd, if_pos cs, X7_leads_58, gd_bI]
    rfl
theorem X7_inductionNow_ok (hN : 4000000 ≤ N) (h : CM c τ) : ∃ τ', X7_inductionNow N (bI b) τ = some (inR c b, τ') ∧ FR [] [] [10, 11] [4] τ τ' := by
  have h64 := ns_le h.1
  have e0 : X7_inductionNow N (bI b) τ = X7_inductionNow_12 N (fun v1 σ => X7_inductionNow_47 N v1 σ) (bI b) N (nI 1) (sb τ 4 0 (bad c)) := by
    have g0 : ∀ {β : Type} (y : Option β), gd (inb (0 : Int32) 7) y = y := fun y => gd_in (n := 0) (by omega) (by omega)
    have cl : (0 : Int32).toNatClampNeg = 0 := by decide
    rw [X7_inductionNow, X7_bad_ok h, bd, g0, cl, nm]
    rfl
  rw [e0]
  refine wf (fun f i u => X7_inductionNow_12 N (fun v1 σ => X7_inductionNow_47 N v1 σ) (bI b) f (nI i) u) 7 (fun i u => 1 ≤ i ∧ FR [] [] [10, 11] [4] τ u ∧ ∀ j, j < i → u.2.2.2 4 j = ldS c j) (fun r => ∃ τ', r = some (inR c b, τ') ∧ FR [] [] [10, 11] [4] τ τ') ?_ ?_ N 1 _ (by omega) ⟨Nat.le_refl _, FR.rf.b (by decide), fun j hj => ?_⟩ (by omega)
  · rintro f i u hi ⟨q0, q1, q2⟩
    right
    have hu := h.fr q1 (by decide)
    have c6 : ¬ (6 : Int32) < nI i := nI_nlt (a := 6) (by omega) (by omega)
    have e1 : nI i - 1 = nI (i - 1) := pk_sub (b := 1) q0
    have eg : u.2.1 1 = c.2.2.2.2 := hu.2.2.2.2.2
    have el : c.2.2.2.2 &&& bef c (ldS c (i - 1)) = ldS c i := by
      obtain ⟨k, rfl⟩ : ∃ j, i = j + 1 := ⟨i - 1, by omega⟩
      rfl
    refine ⟨sb u 4 i (ldS c i), ⟨by omega, q1.b (by decide), fun j hj => ?_⟩, ?_⟩
    · rw [sb_s]
      by_cases y : j = i
      · rw [y, v_s]
      · rw [v_n y]; exact q2 j (by omega)
    · show X7_inductionNow_12 N _ _ (f + 1) _ _ = X7_inductionNow_12 N _ _ f _ _
      rw [X7_inductionNow_12, X7_inductionNow_12b, if_neg c6, e1, gd_in (by omega) (by omega), nI_clamp (by omega), q2 (i - 1) (by omega), X7_before_ok hN hu, bd, gd_in (by omega) (by omega), nI_clamp (by omega), nm, eg, el, nm, nI_1]
  · rintro f u ⟨q0, q1, q2⟩
    have hu := h.fr q1 (by decide)
    have c6 : (6 : Int32) < nI 7 := by decide
    have e2 : X7_inductionNow_12 N (fun v1 σ => X7_inductionNow_47 N v1 σ) (bI b) (f + 1) (nI 7) u = X7_inductionNow_55 N (fun v4 σ => X7_inductionNow_72 v4 σ) (fun σ => X7_inductionNow_86 σ) (fun σ => X7_inductionNow_100 σ) (bI b) N (itS c c.2.2.2.1 0) (nI 0) u := by
      rw [X7_inductionNow_12, X7_inductionNow_12b, if_pos c6]
      show X7_inductionNow_47 N (bI b) u = _
      rw [X7_inductionNow_47, nm, hu.2.2.2.2.1]
      rfl
    rw [e2]
    refine wf (fun f i w => X7_inductionNow_55 N (fun v4 σ => X7_inductionNow_72 v4 σ) (fun σ => X7_inductionNow_86 σ) (fun σ => X7_inductionNow_100 σ) (bI b) f (itS c c.2.2.2.1 i) (nI i) w) 7 (fun i w => FR [] [] [10, 11] [4] τ w ∧ (∀ j, j ≤ 6 → w.2.2.2 4 j = ldS c j) ∧ ∀ j, j < i → Lkb c b j = true ∧ htB c j = false) (fun r => ∃ τ', r = some (inR c b, τ') ∧ FR [] [] [10, 11] [4] τ τ') ?_ ?_ N 0 u (by omega) ⟨q1, fun j hj => q2 j (by omega), fun j hj => by omega⟩ (by omega)
    · rintro f i w hi ⟨w1, w2, w3⟩
      have hw := h.fr w1 (by decide)
      have c6 : ¬ (6 : Int32) < nI i := nI_nlt (a := 6) (by omega) (by omega)
      obtain ⟨w', x1, x2⟩ := X7_leads_ok (b := b) hN hw w2 (k := i) (by omega)
      have w1' : FR [] [] [10, 11] [4] τ w' := w1.tr (x2.mo (by decide))
      have hw' := h.fr w1' (by decide)
      cases e : Lkb c b i
      · left
        rw [e] at x1
        refine ⟨w', ?_, w1'⟩
        show X7_inductionNow_55 N _ _ _ _ (f + 1) _ _ _ = _
        rw [X7_inductionNow_55, X7_inductionNow_55b, if_neg c6, x1, bd, if_pos (show bI false = 0 from rfl), inR_1 hi (fun j hj => (w3 j hj).1) (fun j hj => (w3 j hj).2) e]
        rfl
      · rw [e] at x1
        by_cases z : itS c c.2.2.2.1 i &&& bad c = 0
        · right
          refine ⟨w', ⟨w1', by rw [x2.2.2.2 4 (by decide)]; exact w2, fun j hj => ?_⟩, ?_⟩
          · rcases Nat.lt_or_ge j i with y | y
            · exact w3 j y
            · have : j = i := by omega
              subst this
              refine ⟨e, ?_⟩
              unfold htB
              rw [decide_eq_true z]; rfl
          · show X7_inductionNow_55 N _ _ _ _ (f + 1) _ _ _ = X7_inductionNow_55 N _ _ _ _ f _ _ _
            rw [X7_inductionNow_55, X7_inductionNow_55b, if_neg c6, x1, bd, if_neg (show ¬ bI true = 0 by decide), X7_bad_ok hw', bd, if_pos z, X7_successors_ok hN hw', bd, nm, nI_1]
            rfl
        · left
          have hb : htB c i = true := by
            unfold htB
            rw [decide_eq_false z]; rfl
          refine ⟨w', ?_, w1'⟩
          show X7_inductionNow_55 N _ _ _ _ (f + 1) _ _ _ = _
          rw [X7_inductionNow_55, X7_inductionNow_55b, if_neg c6, x1, bd, if_neg (show ¬ bI true = 0 by decide), X7_bad_ok hw', bd, if_neg z, inR_2 (i := i + 1) (by omega) (fun j hj => by
            rcases Nat.lt_or_ge j i with y | y
            · exact (w3 j y).1
            · have : j = i := by omega
              subst this; exact e) ⟨i, by omega, hb⟩]
          rfl
    · rintro f w ⟨w1, w2, w3⟩
      refine ⟨w, ?_, w1⟩
      show X7_inductionNow_55 N _ _ _ _ (f + 1) _ _ _ = _
      rw [X7_inductionNow_55, X7_inductionNow_55b, if_pos c6, inR_3 (fun j hj => (w3 j hj).1)]
      rfl
  · have : j = 0 := by omega
    subst this
    rw [sb_s, v_s]
    rfl
theorem isb_b {v : Int32} (h : isb v) : ∃ b, v = bI b := by
  rcases h with h | h
  · exact ⟨false, h⟩
  · exact ⟨true, h⟩
theorem Op_induction_ok (hN : 4000000 ≤ N) (h : RC c σ τ) : Op_induction N Rl σ τ := by
  intro v1 hv
  obtain ⟨b, rfl⟩ := isb_b hv
  have hm := h.th 0
  obtain ⟨σ1, d1, d2, d3, d4⟩ := h.refresh hN
  obtain ⟨τ2, x1, x2⟩ := X7_inductionNow_ok (b := b) hN hm.1
  obtain ⟨σ2, y1, y2⟩ := X5_leastInduction_ok (b := b) hN d2.2.1 d4.1 d4.2.2.2.2.2.1
  refine ⟨inR c b, σ2, τ2, ?_, ?_, ⟨c, (d2.th 0).sc (y2.mo (by decide)) (x2.mo (by decide))⟩⟩
  · simp only [X6_induction, d1, bd, y1]
  · simp only [X7_induction, nm, x1, bd]
end IND3
