/-! 96: a formula's value: signs that wait and values, as lists; the class -/
def st3 (a : Nat) : Nat := if a = 38 then 3 else if a = 94 then 2 else if a = 124 then 1 else 0
def opv (a v : Nat) : Int64 := if 97 ≤ a ∧ a < 103 then swb (a - 97) else if a = 120 ∨ a = 121 then (if v.testBit (a - 120) = true then -1 else 0) else if a = 49 then -1 else 0
def jn (g : Nat) (l r : Nat → Int64) : Nat → Int64 := fun v => if g = 38 then l v &&& r v else if g = 94 then l v ^^^ r v else l v ||| r v
def ng (vs : List (Nat → Int64)) : List (Nat → Int64) := match vs with
  | x :: vs => (fun v => x v ^^^ (-1)) :: vs
  | [] => []
def ap (g : Nat) (vs : List (Nat → Int64)) : List (Nat → Int64) := match vs with
  | r :: l :: vs => jn g l r :: vs
  | vs => vs
def ps (b : Nat) : List Nat → List (Nat → Int64) → List Nat × List (Nat → Int64)
  | [], vs => ([], vs)
  | g :: gs, vs => if b ≤ st3 g then ps b gs (ap g vs) else (g :: gs, vs)
def pn : List Nat → List (Nat → Int64) → List Nat × List (Nat → Int64)
  | [], vs => ([], vs)
  | g :: gs, vs => if g = 33 then pn gs (ng vs) else (g :: gs, vs)
def ev (a : Nat) (p : List Nat × List (Nat → Int64)) : List Nat × List (Nat → Int64) := if a = 40 ∨ a = 33 then (a :: p.1, p.2) else if a = 41 then pn (ps 1 p.1 p.2).1.tail (ps 1 p.1 p.2).2 else if 1 ≤ st3 a then (a :: (ps (st3 a) p.1 p.2).1, (ps (st3 a) p.1 p.2).2) else pn p.1 (opv a :: p.2)
def evS (t : Nat → Nat) : Nat → List Nat × List (Nat → Int64)
  | 0 => ([], [])
  | i + 1 => ev (t i) (evS t i)
def hdv (vs : List (Nat → Int64)) (v : Nat) : Int64 := match vs with
  | x :: _ => x v
  | [] => 0
def vlF (t : Nat → Nat) (L v : Nat) : Int64 := hdv (ps 1 (evS t L).1 (evS t L).2).2 v
def okg (g : Nat) : Prop := g = 33 ∨ g = 40 ∨ 1 ≤ st3 g
def nbn : List Nat → Nat
  | [] => 0
  | g :: gs => nbn gs + (if 1 ≤ st3 g then 1 else 0)
def n40 : List Nat → Nat
  | [] => 0
  | g :: gs => n40 gs + (if g = 40 then 1 else 0)
def ntp (gs : List Nat) : Prop := match gs with
  | [] => True
  | g :: _ => g ≠ 33
def adj : List Nat → Prop
  | [] => True
  | g :: gs => (1 ≤ st3 g → ntp gs) ∧ adj gs ∧ okg g
theorem st3_v {g : Nat} (h : 1 ≤ st3 g) : g = 38 ∨ g = 94 ∨ g = 124 := by
  unfold st3 at h
  by_cases a : g = 38
  · exact Or.inl a
  · by_cases b : g = 94
    · exact Or.inr (Or.inl b)
    · by_cases d : g = 124
      · exact Or.inr (Or.inr d)
      · simp [a, b, d] at h
theorem okg_lt {g : Nat} (h : okg g) : g < 127 := by
  rcases h with h | h | h
  · omega
  · omega
  · rcases st3_v h with h | h | h <;> omega
theorem okg_40 {g : Nat} (h : okg g) (h1 : ¬ 1 ≤ st3 g) (h2 : g ≠ 33) : g = 40 := by
  rcases h with h | h | h
  · exact absurd h h2
  · exact h
  · exact absurd h h1
theorem st3_40 : st3 40 = 0 := rfl
theorem st3_33 : st3 33 = 0 := rfl
theorem st3_3 (g : Nat) : st3 g ≤ 3 := by unfold st3; split; omega; split; omega; split; omega; omega
theorem st3_b : ∀ a, a < 127 → (isbn a = true ↔ 1 ≤ st3 a) := by decide +kernel
theorem isop_x (a : Nat) (_ : a < 127) (b : Nat) (hb : b < 7) (i : Nat) (hi : i < 3) (h : isopN b i a = true) : a ≠ 40 ∧ a ≠ 33 ∧ a ≠ 41 ∧ st3 a = 0 := by
  rw [isopN, Bool.or_eq_true, Bool.or_eq_true, Bool.or_eq_true, Bool.and_eq_true, Bool.and_eq_true, decide_eq_true_eq, decide_eq_true_eq, decide_eq_true_eq, decide_eq_true_eq, decide_eq_true_eq, decide_eq_true_eq] at h
  refine ⟨by omega, by omega, by omega, ?_⟩
  unfold st3
  rw [if_neg (by omega), if_neg (by omega), if_neg (by omega)]
theorem two_l {vs : List (Nat → Int64)} {n : Nat} (h : vs.length = n + 2) : ∃ r l vs', vs = r :: l :: vs' ∧ vs'.length = n := by
  match vs, h with
  | r :: l :: vs', h => exact ⟨r, l, vs', rfl, by simpa using h⟩
theorem one_l {vs : List (Nat → Int64)} {n : Nat} (h : vs.length = n + 1) : ∃ r vs', vs = r :: vs' ∧ vs'.length = n := by
  match vs, h with
  | r :: vs', h => exact ⟨r, vs', rfl, by simpa using h⟩
theorem ps_ok {b : Nat} (hb : 1 ≤ b) : ∀ gs vs, adj gs → ntp gs → vs.length = nbn gs + 1 → adj (ps b gs vs).1 ∧ ntp (ps b gs vs).1 ∧ (ps b gs vs).2.length = nbn (ps b gs vs).1 + 1 ∧ n40 (ps b gs vs).1 = n40 gs ∧ (∀ g gs', (ps b gs vs).1 = g :: gs' → st3 g < b) ∧ (ps b gs vs).1.length + (ps b gs vs).2.length ≤ gs.length + vs.length := by
  intro gs
  induction gs with
  | nil => intro vs h1 h2 h3; exact ⟨h1, h2, h3, rfl, fun g gs' e => (by cases e), Nat.le_refl _⟩
  | cons g gs ih =>
    intro vs h1 h2 h3
    rw [ps]
    by_cases q : b ≤ st3 g
    · rw [if_pos q]
      have q1 : 1 ≤ st3 g := by omega
      rw [nbn, if_pos q1] at h3
      obtain ⟨r, l, vs', rfl, e⟩ := two_l h3
      obtain ⟨a1, a2, a3, a4, a5, a6⟩ := ih (jn g l r :: vs') h1.2.1 (h1.1 q1) (by rw [List.length_cons, e])
      have q4 : g ≠ 40 := fun z => by rw [z, st3_40] at q1; omega
      refine ⟨a1, a2, a3, ?_, a5, ?_⟩
      · rw [n40, if_neg q4]; exact a4
      · refine Nat.le_trans a6 ?_
        rw [List.length_cons, List.length_cons, List.length_cons, List.length_cons]
        omega
    · rw [if_neg q]
      exact ⟨h1, h2, h3, rfl, fun g' gs' e => (by cases e; omega), Nat.le_refl _⟩
theorem pn_ok : ∀ gs vs, adj gs → vs.length = nbn gs + 1 → adj (pn gs vs).1 ∧ ntp (pn gs vs).1 ∧ (pn gs vs).2.length = nbn (pn gs vs).1 + 1 ∧ n40 (pn gs vs).1 = n40 gs ∧ (pn gs vs).1.length + (pn gs vs).2.length ≤ gs.length + vs.length := by
  intro gs
  induction gs with
  | nil => intro vs h1 h3; exact ⟨h1, trivial, h3, rfl, Nat.le_refl _⟩
  | cons g gs ih =>
    intro vs h1 h3
    rw [pn]
    by_cases q : g = 33
    · rw [if_pos q]
      subst q
      rw [nbn, if_neg (by rw [st3_33]; omega)] at h3
      obtain ⟨r, vs', rfl, e⟩ := one_l h3
      obtain ⟨a1, a2, a3, a4, a6⟩ := ih (ng (r :: vs')) h1.2.1 (by rw [ng, List.length_cons, e])
      refine ⟨a1, a2, a3, ?_, ?_⟩
      · rw [n40, if_neg (by omega)]; exact a4
      · refine Nat.le_trans a6 ?_
        rw [ng, List.length_cons, List.length_cons, List.length_cons]
        omega
    · rw [if_neg q]
      exact ⟨h1, q, h3, rfl, Nat.le_refl _⟩
def EI (ov : Bool) (op i : Nat) (p : List Nat × List (Nat → Int64)) : Prop := adj p.1 ∧ (ov = true → ntp p.1) ∧ p.2.length = nbn p.1 + (match ov with
  | true => 1
  | false => 0) ∧ n40 p.1 = op ∧ p.1.length + p.2.length ≤ i
section EVAL
variable {c : Ck} {t : Nat → Nat} {L : Nat} {σ τ : St} {N : Nat}
theorem ps_top {b op i : Nat} (hb : 1 ≤ b) {p : List Nat × List (Nat → Int64)} (h : EI true op i p) : EI true op i (ps b p.1 p.2) ∧ ∀ g gs', (ps b p.1 p.2).1 = g :: gs' → st3 g < b := by
  obtain ⟨h1, h2, h3, h4, h5⟩ := h
  obtain ⟨a1, a2, a3, a4, a5, a6⟩ := ps_ok hb p.1 p.2 h1 (h2 rfl) h3
  exact ⟨⟨a1, fun _ => a2, a3, a4.trans h4, by omega⟩, a5⟩
theorem ps_40 {op i : Nat} {p : List Nat × List (Nat → Int64)} (h : EI true (op + 1) i p) : ∃ gs', (ps 1 p.1 p.2).1 = 40 :: gs' ∧ adj gs' ∧ (ps 1 p.1 p.2).2.length = nbn gs' + 1 ∧ n40 gs' = op ∧ gs'.length + (ps 1 p.1 p.2).2.length + 1 ≤ i := by
  obtain ⟨⟨a1, a2, a3, a4, a6⟩, a5⟩ := ps_top (Nat.le_refl 1) h
  cases e : (ps 1 p.1 p.2).1 with
  | nil => rw [e, n40] at a4; omega
  | cons g gs' =>
    rw [e] at a1 a2 a3 a4 a6
    have e40 : g = 40 := okg_40 a1.2.2 (by have := a5 g gs' e; omega) (a2 rfl)
    subst e40
    refine ⟨gs', rfl, a1.2.1, ?_, ?_, ?_⟩
    · rw [nbn, if_neg (by rw [st3_40]; omega)] at a3; exact a3
    · rw [n40, if_pos rfl] at a4; omega
    · rw [List.length_cons] at a6; omega
theorem ps_nil {i : Nat} {p : List Nat × List (Nat → Int64)} (h : EI true 0 i p) : (ps 1 p.1 p.2).1 = [] ∧ ∃ x, (ps 1 p.1 p.2).2 = [x] := by
  obtain ⟨⟨a1, a2, a3, a4, a6⟩, a5⟩ := ps_top (Nat.le_refl 1) h
  cases e : (ps 1 p.1 p.2).1 with
  | nil =>
    rw [e] at a3
    obtain ⟨r, vs', e1, e2⟩ := one_l a3
    have : vs' = [] := List.eq_nil_of_length_eq_zero e2
    subst this
    exact ⟨rfl, r, e1⟩
  | cons g gs' =>
    rw [e] at a1 a2 a4
    have e40 : g = 40 := okg_40 a1.2.2 (by have := a5 g gs' e; omega) (a2 rfl)
    subst e40
    rw [n40, if_pos rfl] at a4
    omega
theorem EI_ok (hb : c.1 < 7) (hi' : c.2.1 < 3) (ht : ∀ i, i < L → t i < 127) : ∀ i, i ≤ L → ∀ ov op, rdS c t i = some (ov, op) → EI ov op i (evS t i) := by
  intro i
  induction i with
  | zero => intro _ ov op h; cases h; exact ⟨trivial, fun z => (by cases z), rfl, rfl, Nat.le_refl _⟩
  | succ i ih =>
    intro hi ov' op' h
    rw [rdS] at h
    cases e : rdS c t i with
    | none => rw [e] at h; cases h
    | some p =>
      obtain ⟨ov, op⟩ := p
      rw [e] at h
      dsimp only at h
      have hE := ih (by omega) ov op e
      obtain ⟨h1, h2, h3, h4, h5⟩ := hE
      rw [evS, ev]
      cases ov
      · simp only [rdN] at h
        by_cases q : t i = 40
        · rw [if_pos q] at h
          cases h
          rw [if_pos (Or.inl q), q]
          refine ⟨⟨fun z => absurd z (by rw [st3_40]; omega), h1, Or.inr (Or.inl rfl)⟩, fun z => (by cases z), ?_, ?_, ?_⟩
          · show _ = nbn (40 :: _) + 0
            rw [nbn, if_neg (by rw [st3_40]; omega)]; exact h3
          · show n40 (40 :: _) = _
            rw [n40, if_pos rfl, h4]
          · dsimp only; rw [List.length_cons]; omega
        · rw [if_neg q] at h
          by_cases q2 : t i = 33
          · rw [if_pos q2] at h
            cases h
            rw [if_pos (Or.inr q2), q2]
            refine ⟨⟨fun z => absurd z (by rw [st3_33]; omega), h1, Or.inl rfl⟩, fun z => (by cases z), ?_, ?_, ?_⟩
            · show _ = nbn (33 :: _) + 0
              rw [nbn, if_neg (by rw [st3_33]; omega)]; exact h3
            · show n40 (33 :: _) = _
              rw [n40, if_neg (by omega)]; exact h4
            · dsimp only; rw [List.length_cons]; omega
          · rw [if_neg q2] at h
            by_cases q3 : isopN c.1 c.2.1 (t i) = true
            · rw [if_pos q3] at h
              cases h
              obtain ⟨x1, x2, x3, x4⟩ := isop_x (t i) (ht i (by omega)) c.1 hb c.2.1 hi' q3
              rw [if_neg (by omega), if_neg x3, if_neg (by omega)]
              dsimp only at h3
              obtain ⟨a1, a2, a3, a4, a6⟩ := pn_ok (evS t i).1 (opv (t i) :: (evS t i).2) h1 (by rw [List.length_cons, h3])
              refine ⟨a1, fun _ => a2, a3, a4.trans h4, ?_⟩
              rw [List.length_cons] at a6
              omega
            · rw [if_neg q3] at h; cases h
      · simp only [rdN] at h
        by_cases q : t i = 41
        · rw [if_pos q] at h
          by_cases q2 : op = 0
          · rw [if_pos q2] at h; cases h
          · rw [if_neg q2] at h
            cases h
            have hop : op = (op - 1) + 1 := by omega
            obtain ⟨gs', b1, b2, b3, b4, b5⟩ := ps_40 (op := op - 1) (i := i) (p := evS t i) (by rw [← hop]; exact ⟨h1, h2, h3, h4, h5⟩)
            rw [if_neg (by omega), if_pos q, b1, List.tail_cons]
            obtain ⟨a1, a2, a3, a4, a6⟩ := pn_ok gs' (ps 1 (evS t i).1 (evS t i).2).2 b2 b3
            exact ⟨a1, fun _ => a2, a3, a4.trans b4, by omega⟩
        · rw [if_neg q] at h
          by_cases q2 : isbn (t i) = true
          · rw [if_pos q2] at h
            cases h
            have q3 := (st3_b (t i) (ht i (by omega))).mp q2
            have q4 := st3_v q3
            rw [if_neg (by omega), if_neg q, if_pos q3]
            obtain ⟨⟨a1, a2, a3, a4, a6⟩, _⟩ := ps_top (i := i) q3 ⟨h1, h2, h3, h4, h5⟩
            refine ⟨⟨fun _ => a2 rfl, a1, Or.inr (Or.inr q3)⟩, fun z => (by cases z), ?_, ?_, ?_⟩
            · show _ = nbn (t i :: _) + 0
              rw [nbn, if_pos q3]; exact a3
            · show n40 (t i :: _) = _
              rw [n40, if_neg (by omega)]; exact a4
            · dsimp only; rw [List.length_cons]; omega
          · rw [if_neg q2] at h; cases h
/-! rows that hold the lists -/
def RS (f : Nat → Int32) : List Nat → Prop
  | [] => True
  | g :: gs => f gs.length = nI g ∧ RS f gs
def RV (v : Nat) (f : Nat → Int64) : List (Nat → Int64) → Prop
  | [] => True
  | x :: vs => f vs.length = x v ∧ RV v f vs
theorem RS_up {f : Nat → Int32} {k : Nat} {x : Int32} : ∀ gs, RS f gs → gs.length ≤ k → RS (upd f k x) gs := by
  intro gs
  induction gs with
  | nil => intro _ _; trivial
  | cons g gs ih =>
    intro h hk
    rw [List.length_cons] at hk
    exact ⟨(u_n (by omega)).trans h.1, ih h.2 (by omega)⟩
theorem RV_up {v : Nat} {f : Nat → Int64} {k : Nat} {x : Int64} : ∀ vs, RV v f vs → vs.length ≤ k → RV v (vp_updL f k x) vs := by
  intro gs
  induction gs with
  | nil => intro _ _; trivial
  | cons g gs ih =>
    intro h hk
    rw [List.length_cons] at hk
    exact ⟨(v_n (by omega)).trans h.1, ih h.2 (by omega)⟩
def SR (v : Nat) (gs : List Nat) (vs : List (Nat → Int64)) (σ : St) : Prop := σ.1 1 = nI gs.length ∧ σ.1 2 = nI vs.length ∧ RS (σ.2.2.1 1) gs ∧ RV v (σ.2.2.2 0) vs
theorem stre_k : ∀ a, a < 127 → X3_strengthOf (nI a) = some (nI (st3 a)) := by decide +kernel
theorem opv_k : ∀ a, a < 127 → ∀ v, v < 4 → X3_operandValue (stt 0 0) (nI a) (nI v) = some (opv a v) := by decide +kernel
theorem X3_operandValue_ok {a v : Nat} (ha : a < 127) (hv : v < 4) : X3_operandValue σ (nI a) (nI v) = some (opv a v) := (show X3_operandValue σ (nI a) (nI v) = X3_operandValue (stt 0 0) (nI a) (nI v) from rfl).trans (opv_k a ha v hv)
theorem X3_pushValue_ok {v : Nat} {gs : List Nat} {vs : List (Nat → Int64)} (h : SR v gs vs σ) (hl : vs.length < 60) (x : Nat → Int64) {y : Int64} (hy : y = x v) : ∃ σ', X3_pushValue y σ = some σ' ∧ FR [1, 2] [] [1] [0] σ σ' ∧ SR v gs (x :: vs) σ' := by
  subst hy
  obtain ⟨h1, h2, h3, h4⟩ := h
  refine ⟨si (sb σ 0 vs.length (x v)) 2 (nI (vs.length + 1)), ?_, (FR.rf.b (by decide)).i (by decide), ?_, rfl, h3, v_s, RV_up vs h4 (Nat.le_refl _)⟩
  · simp (disch := omega) only [X3_pushValue, h2, sb_i, fa_lit, nI_leI, nI_ltI, nI_eq, nI_add, pk_mul, nI_clamp, bd, nm, gd_in, gd_bI, gd_b0, gd_b1, if_pos, if_neg, bI_n0, bI_n1, reduceIte, reduceCtorEq, Nat.add_zero]
  · exact h1
theorem X3_pushSign_ok {v : Nat} {gs : List Nat} {vs : List (Nat → Int64)} (h : SR v gs vs σ) (hl : gs.length < 60) (g : Nat) : ∃ σ', X3_pushSign (nI g) σ = some σ' ∧ FR [1, 2] [] [1] [0] σ σ' ∧ SR v (g :: gs) vs σ' := by
  obtain ⟨h1, h2, h3, h4⟩ := h
  refine ⟨si (sa σ 1 gs.length (nI g)) 1 (nI (gs.length + 1)), ?_, (FR.rf.a (by decide)).i (by decide), rfl, h2, ⟨u_s, RS_up gs h3 (Nat.le_refl _)⟩, h4⟩
  simp (disch := omega) only [X3_pushSign, h1, sa_i, fa_lit, nI_leI, nI_ltI, nI_eq, nI_add, pk_mul, nI_clamp, bd, nm, gd_in, gd_bI, gd_b0, gd_b1, if_pos, if_neg, bI_n0, bI_n1, reduceIte, reduceCtorEq, Nat.add_zero]
theorem X3_topSign_ok {v g : Nat} {gs : List Nat} {vs : List (Nat → Int64)} (h : SR v (g :: gs) vs σ) (hl : gs.length < 60) : X3_topSign σ = some (nI g) := by
  obtain ⟨h1, h2, h3, h4⟩ := h
  rw [List.length_cons] at h1
  simp (disch := omega) only [X3_topSign, h1, pk_sub, Nat.add_sub_cancel, h3.1, fa_lit, nI_leI, nI_ltI, nI_eq, nI_add, pk_mul, nI_clamp, bd, nm, gd_in, gd_bI, gd_b0, gd_b1, if_pos, if_neg, bI_n0, bI_n1, reduceIte, reduceCtorEq, Nat.add_zero]
theorem X3_popSign_ok {v g : Nat} {gs : List Nat} {vs : List (Nat → Int64)} (h : SR v (g :: gs) vs σ) (hl : gs.length < 60) : ∃ σ', X3_popSign σ = some (nI g, σ') ∧ FR [1, 2] [] [1] [0] σ σ' ∧ SR v gs vs σ' := by
  have ht := X3_topSign_ok h hl
  obtain ⟨h1, h2, h3, h4⟩ := h
  rw [List.length_cons] at h1
  refine ⟨si σ 1 (nI gs.length), ?_, FR.rf.i (by decide), rfl, h2, h3.2, h4⟩
  simp (disch := omega) only [X3_popSign, ht, h1, pk_sub, Nat.add_sub_cancel, fa_lit, nI_leI, nI_ltI, nI_eq, nI_add, pk_mul, nI_clamp, bd, nm, gd_in, gd_bI, gd_b0, gd_b1, if_pos, if_neg, bI_n0, bI_n1, reduceIte, reduceCtorEq, Nat.add_zero]
theorem X3_popValue_ok {v : Nat} {gs : List Nat} {x : Nat → Int64} {vs : List (Nat → Int64)} (h : SR v gs (x :: vs) σ) (hl : vs.length < 60) : ∃ σ', X3_popValue σ = some (x v, σ') ∧ FR [1, 2] [] [1] [0] σ σ' ∧ SR v gs vs σ' := by
  obtain ⟨h1, h2, h3, h4⟩ := h
  rw [List.length_cons] at h2
  refine ⟨si σ 2 (nI vs.length), ?_, FR.rf.i (by decide), h1, rfl, h3, h4.2⟩
  simp (disch := omega) only [X3_popValue, h2, pk_sub, Nat.add_sub_cancel, si_s, si_b, h4.1, fa_lit, nI_leI, nI_ltI, nI_eq, nI_add, pk_mul, nI_clamp, bd, nm, gd_in, gd_bI, gd_b0, gd_b1, if_pos, if_neg, bI_n0, bI_n1, reduceIte, reduceCtorEq, Nat.add_zero]
theorem X3_applySigns_ok (hN : 4000000 ≤ N) {v b : Nat} (hb : 1 ≤ b) (hb3 : b ≤ 3) {gs : List Nat} {vs : List (Nat → Int64)} (h : SR v gs vs σ) (hg : adj gs) (hl : gs.length + vs.length ≤ 60) (hv : vs.length = nbn gs + 1) : ∃ σ', X3_applySigns N (nI b) σ = some σ' ∧ FR [1, 2] [] [1] [0] σ σ' ∧ SR v (ps b gs vs).1 (ps b gs vs).2 σ' := by
  unfold X3_applySigns
  refine wl (fun n (p : Nat × List Nat × List (Nat → Int64) × St) => X3_applySigns_2 (fun σ => X3_applySigns_87 σ) (nI b) n (nI p.1) p.2.2.2) (fun p => p.2.1.length) (fun p => p.1 + p.2.1.length < 60 ∧ p.2.1.length + p.2.2.1.length ≤ 60 ∧ adj p.2.1 ∧ p.2.2.1.length = nbn p.2.1 + 1 ∧ SR v p.2.1 p.2.2.1 p.2.2.2 ∧ FR [1, 2] [] [1] [0] σ p.2.2.2 ∧ ps b p.2.1 p.2.2.1 = ps b gs vs) (fun r => ∃ σ', r = some σ' ∧ FR [1, 2] [] [1] [0] σ σ' ∧ SR v (ps b gs vs).1 (ps b gs vs).2 σ') ?_ N (0, gs, vs, σ) ⟨by dsimp only; omega, hl, hg, hv, h, FR.rf, rfl⟩ (by dsimp only; omega)
  rintro n ⟨k, gs1, vs1, u⟩ ⟨q1, q2, q3, q4, q5, q6, q7⟩
  dsimp only at q1 q2 q3 q4 q5 q6 q7 ⊢
  cases gs1 with
  | nil =>
    refine Or.inl ⟨u, ?_, q6, ?_⟩
    · have h1 : u.1 1 = nI 0 := q5.1
      have e0 : X3_strengthOf (nI 0) = some (nI 0) := stre_k 0 (by omega)
      rw [List.length_nil] at q1
      simp (disch := omega) only [X3_applySigns_2, X3_applySigns_2b, X3_topSign, h1, e0, X3_applySigns_87, fa_lit, nI_leI, nI_ltI, nI_eq, nI_add, pk_mul, nI_clamp, bd, nm, gd_in, gd_bI, gd_b0, gd_b1, if_pos, if_neg, bI_n0, bI_n1, reduceIte, reduceCtorEq, Nat.add_zero]
    · rw [← q7]; exact q5
  | cons g gs2 =>
    rw [List.length_cons] at q1 q2
    have et := X3_topSign_ok q5 (by omega)
    have es := stre_k g (okg_lt q3.2.2)
    have h3 := st3_3 g
    by_cases z : b ≤ st3 g
    · refine Or.inr ?_
      have z1 : 1 ≤ st3 g := by omega
      rw [nbn, if_pos z1] at q4
      obtain ⟨r, l, vs2, rfl, e⟩ := two_l q4
      rw [List.length_cons, List.length_cons] at q2
      obtain ⟨u1, a1, a2, a3⟩ := X3_popSign_ok q5 (by omega)
      obtain ⟨u2, b1, b2, b3⟩ := X3_popValue_ok a3 (by rw [List.length_cons]; omega)
      obtain ⟨u3, c1, c2, c3⟩ := X3_popValue_ok b3 (by omega)
      obtain ⟨u4, d1, d2, d3⟩ := X3_pushValue_ok c3 (by omega) (jn g l r) rfl
      refine ⟨(k + 1, gs2, jn g l r :: vs2, u4), ⟨by dsimp only; omega, by dsimp only; rw [List.length_cons]; omega, q3.2.1, by dsimp only; rw [List.length_cons, e], d3, (((q6.tr a2).tr b2).tr c2).tr d2, ?_⟩, by dsimp only; rw [List.length_cons]; omega, ?_⟩
      · dsimp only
        rw [← q7, ps, if_pos z, ap]
      · dsimp only
        rcases st3_v z1 with e38 | e38 | e38
        · subst e38
          have d1' : X3_pushValue (l v &&& r v) u3 = some u4 := d1
          simp (disch := omega) only [X3_applySigns_2, X3_applySigns_2b, et, es, a1, b1, c1, d1', fa_lit, nI_leI, nI_ltI, nI_eq, nI_add, pk_mul, nI_clamp, bd, nm, gd_in, gd_bI, gd_b0, gd_b1, if_pos, if_neg, bI_n0, bI_n1, reduceIte, reduceCtorEq, Nat.add_zero]
        · subst e38
          have d1' : X3_pushValue (l v ^^^ r v) u3 = some u4 := d1
          simp (disch := omega) only [X3_applySigns_2, X3_applySigns_2b, et, es, a1, b1, c1, d1', fa_lit, nI_leI, nI_ltI, nI_eq, nI_add, pk_mul, nI_clamp, bd, nm, gd_in, gd_bI, gd_b0, gd_b1, if_pos, if_neg, bI_n0, bI_n1, reduceIte, reduceCtorEq, Nat.add_zero]
        · subst e38
          have d1' : X3_pushValue (l v ||| r v) u3 = some u4 := d1
          simp (disch := omega) only [X3_applySigns_2, X3_applySigns_2b, et, es, a1, b1, c1, d1', fa_lit, nI_leI, nI_ltI, nI_eq, nI_add, pk_mul, nI_clamp, bd, nm, gd_in, gd_bI, gd_b0, gd_b1, if_pos, if_neg, bI_n0, bI_n1, reduceIte, reduceCtorEq, Nat.add_zero]
    · refine Or.inl ⟨u, ?_, q6, ?_⟩
      · simp (disch := omega) only [X3_applySigns_2, X3_applySigns_2b, et, es, X3_applySigns_87, fa_lit, nI_leI, nI_ltI, nI_eq, nI_add, pk_mul, nI_clamp, bd, nm, gd_in, gd_bI, gd_b0, gd_b1, if_pos, if_neg, bI_n0, bI_n1, reduceIte, reduceCtorEq, Nat.add_zero]
      · rw [← q7, ps, if_neg z]; exact q5
theorem X3_applyNots_ok (hN : 4000000 ≤ N) {v : Nat} {gs : List Nat} {vs : List (Nat → Int64)} (h : SR v gs vs σ) (hg : adj gs) (hl : gs.length + vs.length ≤ 60) (hv : vs.length = nbn gs + 1) : ∃ σ', X3_applyNots N σ = some σ' ∧ FR [1, 2] [] [1] [0] σ σ' ∧ SR v (pn gs vs).1 (pn gs vs).2 σ' := by
  unfold X3_applyNots
  refine wl (fun n (p : Nat × List Nat × List (Nat → Int64) × St) => X3_applyNots_2 (fun σ => X3_applyNots_40 σ) n (nI p.1) p.2.2.2) (fun p => p.2.1.length) (fun p => p.1 + p.2.1.length < 60 ∧ p.2.1.length + p.2.2.1.length ≤ 60 ∧ adj p.2.1 ∧ p.2.2.1.length = nbn p.2.1 + 1 ∧ SR v p.2.1 p.2.2.1 p.2.2.2 ∧ FR [1, 2] [] [1] [0] σ p.2.2.2 ∧ pn p.2.1 p.2.2.1 = pn gs vs) (fun r => ∃ σ', r = some σ' ∧ FR [1, 2] [] [1] [0] σ σ' ∧ SR v (pn gs vs).1 (pn gs vs).2 σ') ?_ N (0, gs, vs, σ) ⟨by dsimp only; omega, hl, hg, hv, h, FR.rf, rfl⟩ (by dsimp only; omega)
  rintro n ⟨k, gs1, vs1, u⟩ ⟨q1, q2, q3, q4, q5, q6, q7⟩
  dsimp only at q1 q2 q3 q4 q5 q6 q7 ⊢
  cases gs1 with
  | nil =>
    refine Or.inl ⟨u, ?_, q6, ?_⟩
    · have h1 : u.1 1 = nI 0 := q5.1
      rw [List.length_nil] at q1
      simp (disch := omega) only [X3_applyNots_2, X3_applyNots_2b, X3_topSign, h1, X3_applyNots_40, fa_lit, nI_leI, nI_ltI, nI_eq, nI_add, pk_mul, nI_clamp, bd, nm, gd_in, gd_bI, gd_b0, gd_b1, if_pos, if_neg, bI_n0, bI_n1, reduceIte, reduceCtorEq, Nat.add_zero]
    · rw [← q7]; exact q5
  | cons g gs2 =>
    rw [List.length_cons] at q1 q2
    have et := X3_topSign_ok q5 (by omega)
    have hg2 := okg_lt q3.2.2
    by_cases z : g = 33
    · refine Or.inr ?_
      subst z
      rw [nbn, if_neg (by rw [st3_33]; omega)] at q4
      obtain ⟨r, vs2, rfl, e⟩ := one_l q4
      rw [List.length_cons] at q2
      obtain ⟨u1, a1, a2, a3⟩ := X3_popSign_ok q5 (by omega)
      obtain ⟨u2, b1, b2, b3⟩ := X3_popValue_ok a3 (by omega)
      obtain ⟨u4, d1, d2, d3⟩ := X3_pushValue_ok b3 (by omega) (fun v => r v ^^^ (-1)) rfl
      refine ⟨(k + 1, gs2, (fun v => r v ^^^ (-1)) :: vs2, u4), ⟨by dsimp only; omega, by dsimp only; rw [List.length_cons]; omega, q3.2.1, by dsimp only; rw [List.length_cons, e], d3, ((q6.tr a2).tr b2).tr d2, ?_⟩, by dsimp only; rw [List.length_cons]; omega, ?_⟩
      · dsimp only
        rw [← q7, pn, if_pos rfl, ng]
      · dsimp only
        have d1' : X3_pushValue (r v ^^^ (-1)) u2 = some u4 := d1
        simp (disch := omega) only [X3_applyNots_2, X3_applyNots_2b, et, a1, b1, d1', fa_lit, nI_leI, nI_ltI, nI_eq, nI_add, pk_mul, nI_clamp, bd, nm, gd_in, gd_bI, gd_b0, gd_b1, if_pos, if_neg, bI_n0, bI_n1, reduceIte, reduceCtorEq, Nat.add_zero]
    · refine Or.inl ⟨u, ?_, q6, ?_⟩
      · simp (disch := omega) only [X3_applyNots_2, X3_applyNots_2b, et, X3_applyNots_40, fa_lit, nI_leI, nI_ltI, nI_eq, nI_add, pk_mul, nI_clamp, bd, nm, gd_in, gd_bI, gd_b0, gd_b1, if_pos, if_neg, bI_n0, bI_n1, reduceIte, reduceCtorEq, Nat.add_zero]
      · rw [← q7, pn, if_neg z]; exact q5
theorem X3_valueFor_ok (hN : 4000000 ≤ N) (hb : c.1 < 7) (hi' : c.2.1 < 3) (hL : L ≤ 60) (h0 : σ.1 0 = nI L) (ht : ∀ i, i < L → t i < 127 ∧ σ.2.2.1 0 i = nI (t i)) (hF : isF c t L = true) {v : Nat} (hv : v < 4) : ∃ σ', X3_valueFor N (nI v) σ = some (vlF t L v, σ') ∧ FR [1, 2] [] [1] [0] σ σ' := by
  have hF' : rdS c t L = some (true, 0) := of_decide_eq_true hF
  have hE := EI_ok (c := c) hb hi' (fun i hi => (ht i hi).1)
  unfold X3_valueFor
  show ∃ σ', X3_valueFor_12 N (fun σ => X3_valueFor_115 N σ) (nI v) N (nI 0) (si (si σ 1 0) 2 0) = some (vlF t L v, σ') ∧ _
  refine wf (fun n i u => X3_valueFor_12 N (fun σ => X3_valueFor_115 N σ) (nI v) n (nI i) u) L (fun i u => FR [1, 2] [] [1] [0] σ u ∧ SR v (evS t i).1 (evS t i).2 u) (fun r => ∃ σ', r = some (vlF t L v, σ') ∧ FR [1, 2] [] [1] [0] σ σ') ?_ ?_ N 0 _ (by omega) ⟨(FR.rf.i (by decide)).i (by decide), rfl, rfl, trivial, trivial⟩ (by omega)
  · rintro n i u hi ⟨hf, hs⟩
    obtain ⟨hc1, hc2⟩ := ht i hi
    have hc : u.2.2.1 0 i = nI (t i) := by rw [hf.2.2.1 0 (by decide)]; exact hc2
    have hl : u.1 0 = nI L := by rw [hf.1 0 (by decide)]; exact h0
    obtain ⟨⟨ov, op⟩, ho⟩ := rdS_s (c := c) (t := t) (i := i) (j := L) (by rw [hF']; simp) (by omega)
    obtain ⟨⟨ov', op'⟩, ho'⟩ := rdS_s (c := c) (t := t) (i := i + 1) (j := L) (by rw [hF']; simp) (by omega)
    have hEi := hE i (by omega) ov op ho
    obtain ⟨h1, h2, h3, h4, h5⟩ := hEi
    have hstep : rdN c.1 c.2.1 (t i) (ov, op) = some (ov', op') := by rw [rdS, ho] at ho'; exact ho'
    have s124 : X3_strengthOf (nI 124) = some (nI 1) := stre_k 124 (by omega)
    have sk := stre_k (t i) hc1
    refine Or.inr ?_
    show ∃ a', _ ∧ X3_valueFor_12 N _ _ (n + 1) _ _ = X3_valueFor_12 N _ _ n _ _
    rw [evS, ev]
    cases ov
    · dsimp only at h3
      simp only [rdN] at hstep
      by_cases q : t i = 40
      · obtain ⟨u1, a1, a2, a3⟩ := X3_pushSign_ok hs (by omega) (t i)
        rw [if_pos (Or.inl q)]
        refine ⟨u1, ⟨hf.tr a2, a3⟩, ?_⟩
        simp (disch := omega) only [X3_valueFor_12, X3_valueFor_12b, hl, X3_codeAt, hc, X3_valueFor_38, a1, fa_lit, nI_leI, nI_ltI, nI_eq, nI_add, pk_mul, nI_clamp, bd, nm, gd_in, gd_bI, gd_b0, gd_b1, if_pos, if_neg, bI_n0, bI_n1, reduceIte, reduceCtorEq, Nat.add_zero]
      · by_cases q2 : t i = 33
        · obtain ⟨u1, a1, a2, a3⟩ := X3_pushSign_ok hs (by omega) (t i)
          rw [if_pos (Or.inr q2)]
          refine ⟨u1, ⟨hf.tr a2, a3⟩, ?_⟩
          simp (disch := omega) only [X3_valueFor_12, X3_valueFor_12b, hl, X3_codeAt, hc, X3_valueFor_38, a1, fa_lit, nI_leI, nI_ltI, nI_eq, nI_add, pk_mul, nI_clamp, bd, nm, gd_in, gd_bI, gd_b0, gd_b1, if_pos, if_neg, bI_n0, bI_n1, reduceIte, reduceCtorEq, Nat.add_zero]
        · rw [if_neg q, if_neg q2] at hstep
          by_cases q3 : isopN c.1 c.2.1 (t i) = true
          · obtain ⟨x1, x2, x3, x4⟩ := isop_x (t i) hc1 c.1 hb c.2.1 hi' q3
            rw [if_neg (by omega), if_neg x3, if_neg (by omega)]
            obtain ⟨u1, a1, a2, a3⟩ := X3_pushValue_ok hs (by omega) (opv (t i)) rfl
            obtain ⟨u2, b1, b2, b3⟩ := X3_applyNots_ok hN a3 h1 (by rw [List.length_cons]; omega) (by rw [List.length_cons, h3])
            refine ⟨u2, ⟨(hf.tr a2).tr b2, b3⟩, ?_⟩
            rw [x4] at sk
            simp (disch := omega) only [X3_valueFor_12, X3_valueFor_12b, hl, X3_codeAt, hc, sk, X3_operandValue_ok hc1 hv, a1, b1, fa_lit, nI_leI, nI_ltI, nI_eq, nI_add, pk_mul, nI_clamp, bd, nm, gd_in, gd_bI, gd_b0, gd_b1, if_pos, if_neg, bI_n0, bI_n1, reduceIte, reduceCtorEq, Nat.add_zero]
          · rw [if_neg q3] at hstep; cases hstep
    · dsimp only at h3
      simp only [rdN] at hstep
      by_cases q : t i = 41
      · rw [if_pos q] at hstep
        by_cases q2 : op = 0
        · rw [if_pos q2] at hstep; cases hstep
        · have hop : op = (op - 1) + 1 := by omega
          obtain ⟨gs', b1, b2, b3, b4, b5⟩ := ps_40 (op := op - 1) (i := i) (p := evS t i) (by rw [← hop]; exact ⟨h1, h2, h3, h4, h5⟩)
          obtain ⟨u1, d1, d2, d3⟩ := X3_applySigns_ok hN (Nat.le_refl 1) (by omega) hs h1 (by omega) h3
          rw [b1] at d3
          obtain ⟨u2, e1, e2, e3⟩ := X3_popSign_ok d3 (by omega)
          obtain ⟨u3, f1, f2, f3⟩ := X3_applyNots_ok hN e3 b2 (by omega) b3
          rw [if_neg (by omega), if_pos q, b1, List.tail_cons]
          refine ⟨u3, ⟨((hf.tr d2).tr e2).tr f2, f3⟩, ?_⟩
          rw [q] at hc
          simp (disch := omega) only [X3_valueFor_12, X3_valueFor_12b, hl, X3_codeAt, hc, s124, d1, e1, f1, fa_lit, nI_leI, nI_ltI, nI_eq, nI_add, pk_mul, nI_clamp, bd, nm, gd_in, gd_bI, gd_b0, gd_b1, if_pos, if_neg, bI_n0, bI_n1, reduceIte, reduceCtorEq, Nat.add_zero]
      · rw [if_neg q] at hstep
        by_cases q2 : isbn (t i) = true
        · have q3 := (st3_b (t i) hc1).mp q2
          have q4 := st3_v q3
          have q5 := st3_3 (t i)
          obtain ⟨⟨a1, a2, a3, a4, a6⟩, _⟩ := ps_top (i := i) q3 ⟨h1, h2, h3, h4, h5⟩
          obtain ⟨u1, d1, d2, d3⟩ := X3_applySigns_ok hN q3 q5 hs h1 (by omega) h3
          obtain ⟨u2, e1, e2, e3⟩ := X3_pushSign_ok d3 (by dsimp only at a3; omega) (t i)
          rw [if_neg (by omega), if_neg q, if_pos q3]
          refine ⟨u2, ⟨(hf.tr d2).tr e2, e3⟩, ?_⟩
          simp (disch := omega) only [X3_valueFor_12, X3_valueFor_12b, hl, X3_codeAt, hc, sk, d1, e1, fa_lit, nI_leI, nI_ltI, nI_eq, nI_add, pk_mul, nI_clamp, bd, nm, gd_in, gd_bI, gd_b0, gd_b1, if_pos, if_neg, bI_n0, bI_n1, reduceIte, reduceCtorEq, Nat.add_zero]
        · rw [if_neg q2] at hstep; cases hstep
  · rintro n u ⟨hf, hs⟩
    have hl : u.1 0 = nI L := by rw [hf.1 0 (by decide)]; exact h0
    have hEi := hE L (Nat.le_refl _) true 0 hF'
    have s124 : X3_strengthOf (nI 124) = some (nI 1) := stre_k 124 (by omega)
    obtain ⟨u1, d1, d2, d3⟩ := X3_applySigns_ok hN (Nat.le_refl 1) (by omega) hs hEi.1 (by have := hEi.2.2.2.2; omega) hEi.2.2.1
    obtain ⟨p1, x, p2⟩ := ps_nil hEi
    rw [p1, p2] at d3
    obtain ⟨u2, e1, e2, e3⟩ := X3_popValue_ok d3 (by rw [List.length_nil]; omega)
    have ex : vlF t L v = x v := by unfold vlF; rw [p2]; rfl
    refine ⟨u2, ?_, (hf.tr d2).tr e2⟩
    rw [ex]
    show X3_valueFor_12 N _ _ (n + 1) _ _ = _
    simp (disch := omega) only [X3_valueFor_12, X3_valueFor_12b, hl, X3_valueFor_115, s124, d1, e1, fa_lit, nI_leI, nI_ltI, nI_eq, nI_add, pk_mul, nI_clamp, bd, nm, gd_in, gd_bI, gd_b0, gd_b1, if_pos, if_neg, bI_n0, bI_n1, reduceIte, reduceCtorEq, Nat.add_zero]
end EVAL
