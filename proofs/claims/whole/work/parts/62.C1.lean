/-- the cells of world C -/
def wC (a : Nat → Nat) (cA : Nat → ClassId) (σ : St) : va_W := [
  (a 2, .inr (0, [.ref (a 10), .ref (a 11), .ref (a 12), .int (σ.1 5), .int (σ.1 6), .int (σ.1 7), .int (σ.1 8), .long (σ.2.1 0), .int (σ.1 9), .int (σ.1 10)])),
  (a 10, .inl (cA 1, 32, .inr (.inl (σ.2.2.2 1)))),
  (a 11, .inl (cA 1, 40, .inr (.inl (σ.2.2.2 2)))),
  (a 12, .inl (cA 0, 10, .inl (σ.2.2.1 2)))]
theorem adrC (a : Nat → Nat) (cA : Nat → ClassId) : Adr (wC a cA) := fun _ _ => rfl
section ROWSC
variable {p : Program} {l : Launch} {e : Env} {R : Room} {s : State} {m : MethodId} {args : Array Value} {below : List Frame} {meth : Method} {c : Code} {H : Heap} {locs : List Loc} {Q : State → Prop} {cc : ByteArray} {nL rd : Nat} {own : String} {D : va_G} {a : Nat → Nat} {cA : Nat → ClassId} {A : Nat → Prop} {rest : List Value} {σ : St} {pc index : Nat} {ls : Array Slot} {E : (Nat → Prop) → State → Prop}
theorem gC_X0_tables (X : Cx p R s m args c cc nL rd own D (tyW cA) (wC a cA) E A) (hp : Pw D (wC a cA) A s.heap H locs σ) (hl : Cond.fieldLink own index "SafetyProver$Circuit" "tables" "[J" ∈ wsL_law) (hdg : decode cc pc = .ok (.getfield index, 3)) (kk : W p l e R s m args below meth c H locs 0 0 Q (F0 m (pc + 3) ls (.ref (a 10) :: rest))) : W p l e R s m args below meth c H locs 0 0 Q (F0 m pc ls (.ref (a 2) :: rest)) :=
  gf (q0 := 0) (ci := 0) (k := 0) (T := TX0) (N := 10) (C := RX0) (ref := "SafetyProver$Circuit") X hp rfl rfl (by decide) rfl inlX0 hl rfl hdg kk
theorem gC_X0_keptTables (X : Cx p R s m args c cc nL rd own D (tyW cA) (wC a cA) E A) (hp : Pw D (wC a cA) A s.heap H locs σ) (hl : Cond.fieldLink own index "SafetyProver$Circuit" "keptTables" "[J" ∈ wsL_law) (hdg : decode cc pc = .ok (.getfield index, 3)) (kk : W p l e R s m args below meth c H locs 0 0 Q (F0 m (pc + 3) ls (.ref (a 11) :: rest))) : W p l e R s m args below meth c H locs 0 0 Q (F0 m pc ls (.ref (a 2) :: rest)) :=
  gf (q0 := 0) (ci := 0) (k := 1) (T := TX0) (N := 10) (C := RX0) (ref := "SafetyProver$Circuit") X hp rfl rfl (by decide) rfl inlX0 hl rfl hdg kk
theorem gC_X0_keptRows (X : Cx p R s m args c cc nL rd own D (tyW cA) (wC a cA) E A) (hp : Pw D (wC a cA) A s.heap H locs σ) (hl : Cond.fieldLink own index "SafetyProver$Circuit" "keptRows" "[I" ∈ wsL_law) (hdg : decode cc pc = .ok (.getfield index, 3)) (kk : W p l e R s m args below meth c H locs 0 0 Q (F0 m (pc + 3) ls (.ref (a 12) :: rest))) : W p l e R s m args below meth c H locs 0 0 Q (F0 m pc ls (.ref (a 2) :: rest)) :=
  gf (q0 := 0) (ci := 0) (k := 2) (T := TX0) (N := 10) (C := RX0) (ref := "SafetyProver$Circuit") X hp rfl rfl (by decide) rfl inlX0 hl rfl hdg kk
theorem gC_X0_bits (X : Cx p R s m args c cc nL rd own D (tyW cA) (wC a cA) E A) (hp : Pw D (wC a cA) A s.heap H locs σ) (hl : Cond.fieldLink own index "SafetyProver$Circuit" "bits" "I" ∈ wsL_law) (hdg : decode cc pc = .ok (.getfield index, 3)) (kk : W p l e R s m args below meth c H locs 0 0 Q (F0 m (pc + 3) ls (.int (σ.1 5) :: rest))) : W p l e R s m args below meth c H locs 0 0 Q (F0 m pc ls (.ref (a 2) :: rest)) :=
  gf (q0 := 0) (ci := 0) (k := 3) (T := TX0) (N := 10) (C := RX0) (ref := "SafetyProver$Circuit") X hp rfl rfl (by decide) rfl inlX0 hl rfl hdg kk
theorem pC_X0_bits {v : Int32} (X : Cx p R s m args c cc nL rd own D (tyW cA) (wC a cA) E A) (hp : Pw D (wC a cA) A s.heap H locs σ) (hl : Cond.fieldLink own index "SafetyProver$Circuit" "bits" "I" ∈ wsL_law) (hdg : decode cc pc = .ok (.putfield index, 3)) (kk : ∀ (H : Heap) (locs : List Loc) (σ1 : St), σ1 = si σ 5 v → Pw D (wC a cA) A s.heap H locs σ1 → W p l e R s m args below meth c H locs 0 0 Q (F0 m (pc + 3) ls rest)) : W p l e R s m args below meth c H locs 0 0 Q (F0 m pc ls (.int v :: .ref (a 2) :: rest)) :=
  pf (q0 := 0) (ci := 0) (k := 3) (T := TX0) (N := 10) (C := RX0) (ref := "SafetyProver$Circuit") (ty := .int) (σ' := si σ 5 v) X hp rfl rfl (by decide) (Nat.le_of_ble_eq_true rfl) inlX0 tyX0_ok nmX0 hl rfl rfl rfl rfl rfl hdg rfl (fun H locs h => kk H locs _ rfl h)
theorem gC_X0_inputs (X : Cx p R s m args c cc nL rd own D (tyW cA) (wC a cA) E A) (hp : Pw D (wC a cA) A s.heap H locs σ) (hl : Cond.fieldLink own index "SafetyProver$Circuit" "inputs" "I" ∈ wsL_law) (hdg : decode cc pc = .ok (.getfield index, 3)) (kk : W p l e R s m args below meth c H locs 0 0 Q (F0 m (pc + 3) ls (.int (σ.1 6) :: rest))) : W p l e R s m args below meth c H locs 0 0 Q (F0 m pc ls (.ref (a 2) :: rest)) :=
  gf (q0 := 0) (ci := 0) (k := 4) (T := TX0) (N := 10) (C := RX0) (ref := "SafetyProver$Circuit") X hp rfl rfl (by decide) rfl inlX0 hl rfl hdg kk
theorem pC_X0_inputs {v : Int32} (X : Cx p R s m args c cc nL rd own D (tyW cA) (wC a cA) E A) (hp : Pw D (wC a cA) A s.heap H locs σ) (hl : Cond.fieldLink own index "SafetyProver$Circuit" "inputs" "I" ∈ wsL_law) (hdg : decode cc pc = .ok (.putfield index, 3)) (kk : ∀ (H : Heap) (locs : List Loc) (σ1 : St), σ1 = si σ 6 v → Pw D (wC a cA) A s.heap H locs σ1 → W p l e R s m args below meth c H locs 0 0 Q (F0 m (pc + 3) ls rest)) : W p l e R s m args below meth c H locs 0 0 Q (F0 m pc ls (.int v :: .ref (a 2) :: rest)) :=
  pf (q0 := 0) (ci := 0) (k := 4) (T := TX0) (N := 10) (C := RX0) (ref := "SafetyProver$Circuit") (ty := .int) (σ' := si σ 6 v) X hp rfl rfl (by decide) (Nat.le_of_ble_eq_true rfl) inlX0 tyX0_ok nmX0 hl rfl rfl rfl rfl rfl hdg rfl (fun H locs h => kk H locs _ rfl h)
theorem gC_X0_states (X : Cx p R s m args c cc nL rd own D (tyW cA) (wC a cA) E A) (hp : Pw D (wC a cA) A s.heap H locs σ) (hl : Cond.fieldLink own index "SafetyProver$Circuit" "states" "I" ∈ wsL_law) (hdg : decode cc pc = .ok (.getfield index, 3)) (kk : W p l e R s m args below meth c H locs 0 0 Q (F0 m (pc + 3) ls (.int (σ.1 7) :: rest))) : W p l e R s m args below meth c H locs 0 0 Q (F0 m pc ls (.ref (a 2) :: rest)) :=
  gf (q0 := 0) (ci := 0) (k := 5) (T := TX0) (N := 10) (C := RX0) (ref := "SafetyProver$Circuit") X hp rfl rfl (by decide) rfl inlX0 hl rfl hdg kk
theorem pC_X0_states {v : Int32} (X : Cx p R s m args c cc nL rd own D (tyW cA) (wC a cA) E A) (hp : Pw D (wC a cA) A s.heap H locs σ) (hl : Cond.fieldLink own index "SafetyProver$Circuit" "states" "I" ∈ wsL_law) (hdg : decode cc pc = .ok (.putfield index, 3)) (kk : ∀ (H : Heap) (locs : List Loc) (σ1 : St), σ1 = si σ 7 v → Pw D (wC a cA) A s.heap H locs σ1 → W p l e R s m args below meth c H locs 0 0 Q (F0 m (pc + 3) ls rest)) : W p l e R s m args below meth c H locs 0 0 Q (F0 m pc ls (.int v :: .ref (a 2) :: rest)) :=
  pf (q0 := 0) (ci := 0) (k := 5) (T := TX0) (N := 10) (C := RX0) (ref := "SafetyProver$Circuit") (ty := .int) (σ' := si σ 7 v) X hp rfl rfl (by decide) (Nat.le_of_ble_eq_true rfl) inlX0 tyX0_ok nmX0 hl rfl rfl rfl rfl rfl hdg rfl (fun H locs h => kk H locs _ rfl h)
theorem gC_X0_inputValues (X : Cx p R s m args c cc nL rd own D (tyW cA) (wC a cA) E A) (hp : Pw D (wC a cA) A s.heap H locs σ) (hl : Cond.fieldLink own index "SafetyProver$Circuit" "inputValues" "I" ∈ wsL_law) (hdg : decode cc pc = .ok (.getfield index, 3)) (kk : W p l e R s m args below meth c H locs 0 0 Q (F0 m (pc + 3) ls (.int (σ.1 8) :: rest))) : W p l e R s m args below meth c H locs 0 0 Q (F0 m pc ls (.ref (a 2) :: rest)) :=
  gf (q0 := 0) (ci := 0) (k := 6) (T := TX0) (N := 10) (C := RX0) (ref := "SafetyProver$Circuit") X hp rfl rfl (by decide) rfl inlX0 hl rfl hdg kk
theorem pC_X0_inputValues {v : Int32} (X : Cx p R s m args c cc nL rd own D (tyW cA) (wC a cA) E A) (hp : Pw D (wC a cA) A s.heap H locs σ) (hl : Cond.fieldLink own index "SafetyProver$Circuit" "inputValues" "I" ∈ wsL_law) (hdg : decode cc pc = .ok (.putfield index, 3)) (kk : ∀ (H : Heap) (locs : List Loc) (σ1 : St), σ1 = si σ 8 v → Pw D (wC a cA) A s.heap H locs σ1 → W p l e R s m args below meth c H locs 0 0 Q (F0 m (pc + 3) ls rest)) : W p l e R s m args below meth c H locs 0 0 Q (F0 m pc ls (.int v :: .ref (a 2) :: rest)) :=
  pf (q0 := 0) (ci := 0) (k := 6) (T := TX0) (N := 10) (C := RX0) (ref := "SafetyProver$Circuit") (ty := .int) (σ' := si σ 8 v) X hp rfl rfl (by decide) (Nat.le_of_ble_eq_true rfl) inlX0 tyX0_ok nmX0 hl rfl rfl rfl rfl rfl hdg rfl (fun H locs h => kk H locs _ rfl h)
theorem gC_X0_all (X : Cx p R s m args c cc nL rd own D (tyW cA) (wC a cA) E A) (hp : Pw D (wC a cA) A s.heap H locs σ) (hl : Cond.fieldLink own index "SafetyProver$Circuit" "all" "J" ∈ wsL_law) (hdg : decode cc pc = .ok (.getfield index, 3)) (kk : W p l e R s m args below meth c H locs 0 0 Q (F0 m (pc + 3) ls (.long (σ.2.1 0) :: rest))) : W p l e R s m args below meth c H locs 0 0 Q (F0 m pc ls (.ref (a 2) :: rest)) :=
  gf (q0 := 0) (ci := 0) (k := 7) (T := TX0) (N := 10) (C := RX0) (ref := "SafetyProver$Circuit") X hp rfl rfl (by decide) rfl inlX0 hl rfl hdg kk
theorem pC_X0_all {v : Int64} (X : Cx p R s m args c cc nL rd own D (tyW cA) (wC a cA) E A) (hp : Pw D (wC a cA) A s.heap H locs σ) (hl : Cond.fieldLink own index "SafetyProver$Circuit" "all" "J" ∈ wsL_law) (hdg : decode cc pc = .ok (.putfield index, 3)) (kk : ∀ (H : Heap) (locs : List Loc) (σ1 : St), σ1 = sj σ 0 v → Pw D (wC a cA) A s.heap H locs σ1 → W p l e R s m args below meth c H locs 0 0 Q (F0 m (pc + 3) ls rest)) : W p l e R s m args below meth c H locs 0 0 Q (F0 m pc ls (.long v :: .ref (a 2) :: rest)) :=
  pf (q0 := 0) (ci := 0) (k := 7) (T := TX0) (N := 10) (C := RX0) (ref := "SafetyProver$Circuit") (ty := .long) (σ' := sj σ 0 v) X hp rfl rfl (by decide) (Nat.le_of_ble_eq_true rfl) inlX0 tyX0_ok nmX0 hl rfl rfl rfl rfl rfl hdg rfl (fun H locs h => kk H locs _ rfl h)
theorem gC_X0_oldestKept (X : Cx p R s m args c cc nL rd own D (tyW cA) (wC a cA) E A) (hp : Pw D (wC a cA) A s.heap H locs σ) (hl : Cond.fieldLink own index "SafetyProver$Circuit" "oldestKept" "I" ∈ wsL_law) (hdg : decode cc pc = .ok (.getfield index, 3)) (kk : W p l e R s m args below meth c H locs 0 0 Q (F0 m (pc + 3) ls (.int (σ.1 9) :: rest))) : W p l e R s m args below meth c H locs 0 0 Q (F0 m pc ls (.ref (a 2) :: rest)) :=
  gf (q0 := 0) (ci := 0) (k := 8) (T := TX0) (N := 10) (C := RX0) (ref := "SafetyProver$Circuit") X hp rfl rfl (by decide) rfl inlX0 hl rfl hdg kk
theorem pC_X0_oldestKept {v : Int32} (X : Cx p R s m args c cc nL rd own D (tyW cA) (wC a cA) E A) (hp : Pw D (wC a cA) A s.heap H locs σ) (hl : Cond.fieldLink own index "SafetyProver$Circuit" "oldestKept" "I" ∈ wsL_law) (hdg : decode cc pc = .ok (.putfield index, 3)) (kk : ∀ (H : Heap) (locs : List Loc) (σ1 : St), σ1 = si σ 9 v → Pw D (wC a cA) A s.heap H locs σ1 → W p l e R s m args below meth c H locs 0 0 Q (F0 m (pc + 3) ls rest)) : W p l e R s m args below meth c H locs 0 0 Q (F0 m pc ls (.int v :: .ref (a 2) :: rest)) :=
  pf (q0 := 0) (ci := 0) (k := 8) (T := TX0) (N := 10) (C := RX0) (ref := "SafetyProver$Circuit") (ty := .int) (σ' := si σ 9 v) X hp rfl rfl (by decide) (Nat.le_of_ble_eq_true rfl) inlX0 tyX0_ok nmX0 hl rfl rfl rfl rfl rfl hdg rfl (fun H locs h => kk H locs _ rfl h)
theorem gC_X0_keptCount (X : Cx p R s m args c cc nL rd own D (tyW cA) (wC a cA) E A) (hp : Pw D (wC a cA) A s.heap H locs σ) (hl : Cond.fieldLink own index "SafetyProver$Circuit" "keptCount" "I" ∈ wsL_law) (hdg : decode cc pc = .ok (.getfield index, 3)) (kk : W p l e R s m args below meth c H locs 0 0 Q (F0 m (pc + 3) ls (.int (σ.1 10) :: rest))) : W p l e R s m args below meth c H locs 0 0 Q (F0 m pc ls (.ref (a 2) :: rest)) :=
  gf (q0 := 0) (ci := 0) (k := 9) (T := TX0) (N := 10) (C := RX0) (ref := "SafetyProver$Circuit") X hp rfl rfl (by decide) rfl inlX0 hl rfl hdg kk
theorem pC_X0_keptCount {v : Int32} (X : Cx p R s m args c cc nL rd own D (tyW cA) (wC a cA) E A) (hp : Pw D (wC a cA) A s.heap H locs σ) (hl : Cond.fieldLink own index "SafetyProver$Circuit" "keptCount" "I" ∈ wsL_law) (hdg : decode cc pc = .ok (.putfield index, 3)) (kk : ∀ (H : Heap) (locs : List Loc) (σ1 : St), σ1 = si σ 10 v → Pw D (wC a cA) A s.heap H locs σ1 → W p l e R s m args below meth c H locs 0 0 Q (F0 m (pc + 3) ls rest)) : W p l e R s m args below meth c H locs 0 0 Q (F0 m pc ls (.int v :: .ref (a 2) :: rest)) :=
  pf (q0 := 0) (ci := 0) (k := 9) (T := TX0) (N := 10) (C := RX0) (ref := "SafetyProver$Circuit") (ty := .int) (σ' := si σ 10 v) X hp rfl rfl (by decide) (Nat.le_of_ble_eq_true rfl) inlX0 tyX0_ok nmX0 hl rfl rfl rfl rfl rfl hdg rfl (fun H locs h => kk H locs _ rfl h)
theorem lC_X0_tables {i : Int32} (X : Cx p R s m args c cc nL rd own D (tyW cA) (wC a cA) E A) (hp : Pw D (wC a cA) A s.heap H locs σ) (hin : inb i 32) (hdg : decode cc pc = .ok (.laload, 1)) (kk : W p l e R s m args below meth c H locs 0 0 Q (F0 m (pc + 1) ls (.long (σ.2.2.2 1 i.toNatClampNeg) :: rest))) : W p l e R s m args below meth c H locs 0 0 Q (F0 m pc ls (.int i :: .ref (a 10) :: rest)) :=
  ldL (q0 := 1) (t0 := 1) X hp rfl rfl hin hdg kk
theorem sC_X0_tables {i : Int32} {v : Int64} (X : Cx p R s m args c cc nL rd own D (tyW cA) (wC a cA) E A) (hp : Pw D (wC a cA) A s.heap H locs σ) (hin : inb i 32) (hdg : decode cc pc = .ok (.lastore, 1)) (kk : ∀ (H : Heap) (locs : List Loc) (σ1 : St), σ1 = sb σ 1 i.toNatClampNeg v → Pw D (wC a cA) A s.heap H locs σ1 → W p l e R s m args below meth c H locs 0 0 Q (F0 m (pc + 1) ls rest)) : W p l e R s m args below meth c H locs 0 0 Q (F0 m pc ls (.long v :: .int i :: .ref (a 10) :: rest)) :=
  stL (q0 := 1) (t0 := 1) (σ' := sb σ 1 i.toNatClampNeg v) X hp rfl rfl hin hdg rfl (fun H locs h => kk H locs _ rfl h)
theorem nC_X0_tables (X : Cx p R s m args c cc nL rd own D (tyW cA) (wC a cA) E A) (hp : Pw D (wC a cA) A s.heap H locs σ) (hdg : decode cc pc = .ok (.arraylength, 1)) (kk : W p l e R s m args below meth c H locs 0 0 Q (F0 m (pc + 1) ls (.int 32 :: rest))) : W p l e R s m args below meth c H locs 0 0 Q (F0 m pc ls (.ref (a 10) :: rest)) :=
  va_alen X.1 X.2.1 X.2.2.2.2.2.1 hp.1 1 1 rfl rfl rfl hdg kk
theorem lC_X0_keptTables {i : Int32} (X : Cx p R s m args c cc nL rd own D (tyW cA) (wC a cA) E A) (hp : Pw D (wC a cA) A s.heap H locs σ) (hin : inb i 40) (hdg : decode cc pc = .ok (.laload, 1)) (kk : W p l e R s m args below meth c H locs 0 0 Q (F0 m (pc + 1) ls (.long (σ.2.2.2 2 i.toNatClampNeg) :: rest))) : W p l e R s m args below meth c H locs 0 0 Q (F0 m pc ls (.int i :: .ref (a 11) :: rest)) :=
  ldL (q0 := 2) (t0 := 1) X hp rfl rfl hin hdg kk
theorem sC_X0_keptTables {i : Int32} {v : Int64} (X : Cx p R s m args c cc nL rd own D (tyW cA) (wC a cA) E A) (hp : Pw D (wC a cA) A s.heap H locs σ) (hin : inb i 40) (hdg : decode cc pc = .ok (.lastore, 1)) (kk : ∀ (H : Heap) (locs : List Loc) (σ1 : St), σ1 = sb σ 2 i.toNatClampNeg v → Pw D (wC a cA) A s.heap H locs σ1 → W p l e R s m args below meth c H locs 0 0 Q (F0 m (pc + 1) ls rest)) : W p l e R s m args below meth c H locs 0 0 Q (F0 m pc ls (.long v :: .int i :: .ref (a 11) :: rest)) :=
  stL (q0 := 2) (t0 := 1) (σ' := sb σ 2 i.toNatClampNeg v) X hp rfl rfl hin hdg rfl (fun H locs h => kk H locs _ rfl h)
theorem nC_X0_keptTables (X : Cx p R s m args c cc nL rd own D (tyW cA) (wC a cA) E A) (hp : Pw D (wC a cA) A s.heap H locs σ) (hdg : decode cc pc = .ok (.arraylength, 1)) (kk : W p l e R s m args below meth c H locs 0 0 Q (F0 m (pc + 1) ls (.int 40 :: rest))) : W p l e R s m args below meth c H locs 0 0 Q (F0 m pc ls (.ref (a 11) :: rest)) :=
  va_alen X.1 X.2.1 X.2.2.2.2.2.1 hp.1 2 1 rfl rfl rfl hdg kk
theorem lC_X0_keptRows {i : Int32} (X : Cx p R s m args c cc nL rd own D (tyW cA) (wC a cA) E A) (hp : Pw D (wC a cA) A s.heap H locs σ) (hin : inb i 10) (hdg : decode cc pc = .ok (.iaload, 1)) (kk : W p l e R s m args below meth c H locs 0 0 Q (F0 m (pc + 1) ls (.int (σ.2.2.1 2 i.toNatClampNeg) :: rest))) : W p l e R s m args below meth c H locs 0 0 Q (F0 m pc ls (.int i :: .ref (a 12) :: rest)) :=
  ldI (q0 := 3) (t0 := 0) X hp rfl rfl hin hdg kk
theorem sC_X0_keptRows {i : Int32} {v : Int32} (X : Cx p R s m args c cc nL rd own D (tyW cA) (wC a cA) E A) (hp : Pw D (wC a cA) A s.heap H locs σ) (hin : inb i 10) (hdg : decode cc pc = .ok (.iastore, 1)) (kk : ∀ (H : Heap) (locs : List Loc) (σ1 : St), σ1 = sa σ 2 i.toNatClampNeg v → Pw D (wC a cA) A s.heap H locs σ1 → W p l e R s m args below meth c H locs 0 0 Q (F0 m (pc + 1) ls rest)) : W p l e R s m args below meth c H locs 0 0 Q (F0 m pc ls (.int v :: .int i :: .ref (a 12) :: rest)) :=
  stI (q0 := 3) (t0 := 0) (σ' := sa σ 2 i.toNatClampNeg v) X hp rfl rfl hin hdg rfl (fun H locs h => kk H locs _ rfl h)
theorem nC_X0_keptRows (X : Cx p R s m args c cc nL rd own D (tyW cA) (wC a cA) E A) (hp : Pw D (wC a cA) A s.heap H locs σ) (hdg : decode cc pc = .ok (.arraylength, 1)) (kk : W p l e R s m args below meth c H locs 0 0 Q (F0 m (pc + 1) ls (.int 10 :: rest))) : W p l e R s m args below meth c H locs 0 0 Q (F0 m pc ls (.ref (a 12) :: rest)) :=
  va_alen X.1 X.2.1 X.2.2.2.2.2.1 hp.1 3 0 rfl rfl rfl hdg kk
end ROWSC
set_option maxRecDepth 20000 in
set_option maxHeartbeats 4000000 in
theorem c_X0_putTable_C {l : Launch} {D : va_G} {a : Nat → Nat} {cA : Nat → ClassId} {t : Nat} {F : (Nat → Prop) → State → Prop} (hF : EOK F) {σ : St} {v1 : Int32} {v2 : Int32} {v3 : Int64} {σ' : St} (h : X0_putTable v1 v2 v3 σ = some σ') : MetV l yX0_putTable cX0_putTable 6 none 0 D (tyW cA) (wC a cA) (ES t F) [.ref (a 2), .int v1, .int v2, .long v3] σ σ' := by
  refine mkV (by decide) (adrC a cA) rfl (Nat.le_of_ble_eq_true rfl) ?_
  intro p e R s m args below meth c A Q ls X hR hp hl
  obtain ⟨hx, hb, -, hown, hts, -⟩ := id X
  unfold X0_putTable at h
  have hl := lv_sub (l' := [(0, .ref (a 2)), (1, .int v1), (2, .int v2), (3, .long v3)]) hl [0, 1, 2, 3] rfl
  refine lv_iload_n hx hb dX0_putTable_0 rfl (lv_at hl 1 rfl) ?_
  refine lv_iconst (v := 4) hx hb dX0_putTable_1 (by decide) ?_
  refine lv_imul hx hb dX0_putTable_2 ?_
  refine lv_iload_n hx hb dX0_putTable_3 rfl (lv_at hl 2 rfl) ?_
  refine lv_iadd hx hb dX0_putTable_4 ?_
  refine lv_topi (fun x1 ex1 => ?_)
  have h := nm_s h x1 ex1
  refine lv_istore (lv' := [(5, .int x1), (0, .ref (a 2)), (1, .int v1), (2, .int v2), (3, .long v3)]) hx hb dX0_putTable_5 hl (by decide) rfl (fun ls hl => ?_)
  refine lv_iload hx hb dX0_putTable_7 (lv_at hl 0 rfl) ?_
  refine lv_if_lt (tgt := 30) hx hb dX0_putTable_9 (by decide) (fun c2 => ?_) (fun c2 => ?_)
  · have h := it_p h c2
    exact hR _ _ _ _ _ dX0_putTable_30 hp (Option.some.inj h)
  · have h := it_n h c2
    refine lv_iload hx hb dX0_putTable_12 (lv_at hl 0 rfl) ?_
    refine lv_aload_n hx hb dX0_putTable_14 rfl (lv_at hl 1 rfl) ?_
    refine gC_X0_tables X hp tw_2_21 dX0_putTable_15 ?_
    refine nC_X0_tables X hp dX0_putTable_18 ?_
    refine lv_icmp_ge (tgt := 30) hx hb dX0_putTable_19 (by decide) (fun c3 => ?_) (fun c3 => ?_)
    · have h := it_p h c3
      exact hR _ _ _ _ _ dX0_putTable_30 hp (Option.some.inj h)
    · have h := it_n h c3
      refine lv_aload_n hx hb dX0_putTable_22 rfl (lv_at hl 1 rfl) ?_
      refine gC_X0_tables X hp tw_2_21 dX0_putTable_23 ?_
      refine lv_iload hx hb dX0_putTable_26 (lv_at hl 0 rfl) ?_
      refine lv_lload_n hx hb dX0_putTable_28 rfl (lv_at hl 4 rfl) ?_
      obtain ⟨g4, h⟩ := gd_s h
      refine sC_X0_tables X hp g4 dX0_putTable_29 (fun H locs σ5 eσ5 hp => ?_)
      have h := nm_s h σ5 eσ5
      exact hR _ _ _ _ _ dX0_putTable_30 hp (Option.some.inj h)
set_option maxRecDepth 20000 in
set_option maxHeartbeats 4000000 in
theorem c_X0_fillRow_C {l : Launch} {D : va_G} {a : Nat → Nat} {cA : Nat → ClassId} {t : Nat} {F : (Nat → Prop) → State → Prop} (hF : EOK F) {σ : St} {N : Nat} {v1 : Int32} {v2 : Int64} {σ' : St} (h : X0_fillRow N v1 v2 σ = some σ') : MetV l yX0_fillRow cX0_fillRow 5 none 1 D (tyW cA) (wC a cA) (ES t F) [.ref (a 2), .int v1, .long v2] σ σ' := by
  refine mkV (by decide) (adrC a cA) rfl (Nat.le_of_ble_eq_true rfl) ?_
  intro p e R s m args below meth c A Q ls X hR hp hl
  obtain ⟨hx, hb, -, hown, hts, -⟩ := id X
  have J_3 : ∀ (v1 : Int32) (v2 : Int64) (k23 : (St → Option (St))) (hk23 : ∀ (σ : St) (H : Heap) (locs : List Loc) (ls : Array Slot), Pw D (wC a cA) A s.heap H locs σ → lv_has ls 5 [(0, .ref (a 2))] → k23 σ = some σ' → W p l e R s m args below meth c H locs 0 0 Q (F0 m 23 ls [])) (n : Nat) (v4 : Int32) (σ : St) (H : Heap) (locs : List Loc) (ls : Array Slot), Pw D (wC a cA) A s.heap H locs σ → lv_has ls 5 [(0, .ref (a 2)), (1, .int v1), (2, .long v2), (4, .int v4)] → X0_fillRow_3 k23 v1 v2 n v4 σ = some σ' → W p l e R s m args below meth c H locs 0 0 Q (F0 m 3 ls []) := by
    intro v1 v2 k23 hk23 n
    induction n with
    | zero => intro v4 σ H locs ls hp hl h; exact nn_s (show (none : Option (St)) = some _ from h)
    | succ n ih =>
      intro v4 σ H locs ls hp hl h
      have h : X0_fillRow_3b (fun v4 σ => X0_fillRow_3 k23 v1 v2 n v4 σ) k23 v1 v2 v4 σ = some σ' := h
      unfold X0_fillRow_3b at h
      have hk3 := ih
      refine lv_iload hx hb dX0_fillRow_3 (lv_at hl 3 rfl) ?_
      refine lv_iconst (v := 4) hx hb dX0_fillRow_5 (by decide) ?_
      refine lv_icmp_ge (tgt := 23) hx hb dX0_fillRow_6 (by decide) (fun c1 => ?_) (fun c1 => ?_)
      · have h := it_p h c1
        exact hk23 σ _ _ _ hp (lv_sub hl [0] rfl) h
      · have h := it_n h c1
        refine lv_aload_n hx hb dX0_fillRow_9 rfl (lv_at hl 0 rfl) ?_
        refine lv_iload_n hx hb dX0_fillRow_10 rfl (lv_at hl 1 rfl) ?_
        refine lv_iload hx hb dX0_fillRow_11 (lv_at hl 3 rfl) ?_
        refine lv_lload_n hx hb dX0_fillRow_13 rfl (lv_at hl 2 rfl) ?_
        obtain ⟨t2, ht2, h⟩ := bd_s h
        refine cl_Vv X (eokS hF) (c_X0_putTable_C hF ht2) tw_3_16 mw_X0_putTable (by decide) hp 0 rfl rfl rfl hl.1 rfl (Nat.le_of_ble_eq_true rfl) dX0_fillRow_14 (fun H locs hp => ?_)
        obtain ⟨x3, ex3⟩ : ∃ z : Int32, z = v4 + (1 : Int32) := ⟨_, rfl⟩
        have h := nm_s h x3 ex3
        refine lv_iinc (v := x3) (lv' := [(4, .int x3), (0, .ref (a 2)), (1, .int v1), (2, .long v2)]) hx hb dX0_fillRow_17 hl (k := 3) rfl (by rw [ex3]; rfl) (by decide) rfl (fun ls hl => ?_)
        refine lv_goto (tgt := 3) hx hb dX0_fillRow_20 (by decide) ?_
        exact hk3 x3 t2 _ _ _ hp (lv_sub hl [1, 2, 3, 0] rfl) h
  have J_23 : ∀  (σ : St) (H : Heap) (locs : List Loc) (ls : Array Slot), Pw D (wC a cA) A s.heap H locs σ → lv_has ls 5 [(0, .ref (a 2))] → X0_fillRow_23 σ = some σ' → W p l e R s m args below meth c H locs 0 0 Q (F0 m 23 ls []) := by
    intro σ H locs ls hp hl h
    unfold X0_fillRow_23 at h
    exact hR _ _ _ _ _ dX0_fillRow_23 hp (Option.some.inj h)
  unfold X0_fillRow at h
  have hl := lv_sub (l' := [(0, .ref (a 2)), (1, .int v1), (2, .long v2)]) hl [0, 1, 2] rfl
  refine lv_iconst (v := 0) hx hb dX0_fillRow_0 (by decide) ?_
  refine lv_istore (lv' := [(4, .int (0 : Int32)), (0, .ref (a 2)), (1, .int v1), (2, .long v2)]) hx hb dX0_fillRow_1 hl (by decide) rfl (fun ls hl => ?_)
  exact J_3 v1 v2 _ (fun σ H locs ls hp hl h => J_23 σ _ _ _ hp hl h) _ (0 : Int32) σ _ _ _ hp (lv_sub hl [1, 2, 3, 0] rfl) h
set_option maxRecDepth 20000 in
set_option maxHeartbeats 4000000 in
theorem c_X0_restart_C {l : Launch} {D : va_G} {a : Nat → Nat} {cA : Nat → ClassId} {t : Nat} {F : (Nat → Prop) → State → Prop} (hF : EOK F) {σ : St} {N : Nat} {v1 : Int32} {v2 : Int32} {σ' : St} (h : X0_restart N v1 v2 σ = some σ') : MetV l yX0_restart cX0_restart 4 none 2 D (tyW cA) (wC a cA) (ES t F) [.ref (a 2), .int v1, .int v2] σ σ' := by
  refine mkV (by decide) (adrC a cA) rfl (Nat.le_of_ble_eq_true rfl) ?_
  intro p e R s m args below meth c A Q ls X hR hp hl
  obtain ⟨hx, hb, -, hown, hts, -⟩ := id X
  have J_63 : ∀  (k90 : (St → Option (St))) (hk90 : ∀ (σ : St) (H : Heap) (locs : List Loc) (ls : Array Slot), Pw D (wC a cA) A s.heap H locs σ → lv_has ls 4 [(0, .ref (a 2))] → k90 σ = some σ' → W p l e R s m args below meth c H locs 0 0 Q (F0 m 90 ls [])) (n : Nat) (v3 : Int32) (σ : St) (H : Heap) (locs : List Loc) (ls : Array Slot), Pw D (wC a cA) A s.heap H locs σ → lv_has ls 4 [(0, .ref (a 2)), (3, .int v3)] → X0_restart_63 N k90 n v3 σ = some σ' → W p l e R s m args below meth c H locs 0 0 Q (F0 m 63 ls []) := by
    intro k90 hk90 n
    induction n with
    | zero => intro v3 σ H locs ls hp hl h; exact nn_s (show (none : Option (St)) = some _ from h)
    | succ n ih =>
      intro v3 σ H locs ls hp hl h
      have h : X0_restart_63b N (fun v3 σ => X0_restart_63 N k90 n v3 σ) k90 v3 σ = some σ' := h
      unfold X0_restart_63b at h
      have hk63 := ih
      refine lv_iload_n hx hb dX0_restart_63 rfl (lv_at hl 1 rfl) ?_
      refine lv_bipush (v := 6) hx hb dX0_restart_64 (by decide) ?_
      refine lv_icmp_ge (tgt := 90) hx hb dX0_restart_66 (by decide) (fun c1 => ?_) (fun c1 => ?_)
      · have h := it_p h c1
        exact hk90 σ _ _ _ hp (lv_sub hl [0] rfl) h
      · have h := it_n h c1
        refine lv_aload_n hx hb dX0_restart_69 rfl (lv_at hl 0 rfl) ?_
        refine lv_iload_n hx hb dX0_restart_70 rfl (lv_at hl 1 rfl) ?_
        refine gsS X hp (List.mem_of_getElem? (i := 0) rfl) dX0_restart_71 ?_
        refine lv_iload_n hx hb dX0_restart_74 rfl (lv_at hl 1 rfl) ?_
        obtain ⟨g2, h⟩ := gd_s h
        refine lsS X hp g2 dX0_restart_75 ?_
        refine lv_aload_n hx hb dX0_restart_76 rfl (lv_at hl 0 rfl) ?_
        refine gC_X0_all X hp tw_3_9 dX0_restart_77 ?_
        refine lv_land hx hb dX0_restart_80 ?_
        obtain ⟨t3, ht3, h⟩ := bd_s h
        refine cl_Vv X (eokS hF) (c_X0_fillRow_C hF ht3) tw_3_12 mw_X0_fillRow (by decide) hp 0 rfl rfl rfl hl.1 rfl (Nat.le_of_ble_eq_true rfl) dX0_restart_81 (fun H locs hp => ?_)
        obtain ⟨x4, ex4⟩ : ∃ z : Int32, z = v3 + (1 : Int32) := ⟨_, rfl⟩
        have h := nm_s h x4 ex4
        refine lv_iinc (v := x4) (lv' := [(3, .int x4), (0, .ref (a 2))]) hx hb dX0_restart_84 hl (k := 1) rfl (by rw [ex4]; rfl) (by decide) rfl (fun ls hl => ?_)
        refine lv_goto (tgt := 63) hx hb dX0_restart_87 (by decide) ?_
        exact hk63 x4 t3 _ _ _ hp (lv_sub hl [1, 0] rfl) h
  have J_90 : ∀  (σ : St) (H : Heap) (locs : List Loc) (ls : Array Slot), Pw D (wC a cA) A s.heap H locs σ → lv_has ls 4 [(0, .ref (a 2))] → X0_restart_90 N σ = some σ' → W p l e R s m args below meth c H locs 0 0 Q (F0 m 90 ls []) := by
    intro σ H locs ls hp hl h
    unfold X0_restart_90 at h
    refine lv_aload_n hx hb dX0_restart_90 rfl (lv_at hl 0 rfl) ?_
    refine lv_bipush (v := 6) hx hb dX0_restart_91 (by decide) ?_
    refine lv_lconst (v := 1) hx hb dX0_restart_93 (by decide) ?_
    obtain ⟨t1, ht1, h⟩ := bd_s h
    refine cl_Vv X (eokS hF) (c_X0_fillRow_C hF ht1) tw_3_12 mw_X0_fillRow (by decide) hp 0 rfl rfl rfl hl.1 rfl (Nat.le_of_ble_eq_true rfl) dX0_restart_94 (fun H locs hp => ?_)
    refine lv_aload_n hx hb dX0_restart_97 rfl (lv_at hl 0 rfl) ?_
    refine lv_bipush (v := 7) hx hb dX0_restart_98 (by decide) ?_
    refine lv_aload_n hx hb dX0_restart_100 rfl (lv_at hl 0 rfl) ?_
    refine gC_X0_all X hp tw_3_9 dX0_restart_101 ?_
    obtain ⟨t2, ht2, h⟩ := bd_s h
    refine cl_Vv X (eokS hF) (c_X0_fillRow_C hF ht2) tw_3_12 mw_X0_fillRow (by decide) hp 0 rfl rfl rfl hl.1 rfl (Nat.le_of_ble_eq_true rfl) dX0_restart_104 (fun H locs hp => ?_)
    exact hR _ _ _ _ _ dX0_restart_107 hp (Option.some.inj h)
  have J_48 : ∀ (u0 : Int64) (σ : St) (H : Heap) (locs : List Loc) (ls : Array Slot), Pw D (wC a cA) A s.heap H locs σ → lv_has ls 4 [(0, .ref (a 2))] → X0_restart_48 N u0 σ = some σ' → W p l e R s m args below meth c H locs 0 0 Q (F0 m 48 ls [.long u0, .ref (a 2)]) := by
    intro u0 σ H locs ls hp hl h
    unfold X0_restart_48 at h
    refine pC_X0_all X hp tw_3_9 dX0_restart_48 (fun H locs σ1 eσ1 hp => ?_)
    have h := nm_s h σ1 eσ1
    refine lv_aload_n hx hb dX0_restart_51 rfl (lv_at hl 0 rfl) ?_
    refine lv_iconst (v := 0) hx hb dX0_restart_52 (by decide) ?_
    refine pC_X0_oldestKept X hp tw_3_10 dX0_restart_53 (fun H locs σ2 eσ2 hp => ?_)
    have h := nm_s h σ2 eσ2
    refine lv_aload_n hx hb dX0_restart_56 rfl (lv_at hl 0 rfl) ?_
    refine lv_iconst (v := 0) hx hb dX0_restart_57 (by decide) ?_
    refine pC_X0_keptCount X hp tw_3_11 dX0_restart_58 (fun H locs σ3 eσ3 hp => ?_)
    have h := nm_s h σ3 eσ3
    refine lv_iconst (v := 0) hx hb dX0_restart_61 (by decide) ?_
    refine lv_istore_n (lv' := [(3, .int (0 : Int32)), (0, .ref (a 2))]) hx hb dX0_restart_62 rfl hl (by decide) rfl (fun ls hl => ?_)
    exact J_63 _ (fun σ H locs ls hp hl h => J_90 σ _ _ _ hp hl h) _ (0 : Int32) σ3 _ _ _ hp (lv_sub hl [1, 0] rfl) h
  unfold X0_restart at h
  have hl := lv_sub (l' := [(0, .ref (a 2)), (1, .int v1), (2, .int v2)]) hl [0, 1, 2] rfl
  refine lv_aload_n hx hb dX0_restart_0 rfl (lv_at hl 0 rfl) ?_
  refine lv_iload_n hx hb dX0_restart_1 rfl (lv_at hl 1 rfl) ?_
  refine pC_X0_bits X hp tw_3_4 dX0_restart_2 (fun H locs σ1 eσ1 hp => ?_)
  have h := nm_s h σ1 eσ1
  refine lv_aload_n hx hb dX0_restart_5 rfl (lv_at hl 0 rfl) ?_
  refine lv_iload_n hx hb dX0_restart_6 rfl (lv_at hl 2 rfl) ?_
  refine pC_X0_inputs X hp tw_3_5 dX0_restart_7 (fun H locs σ2 eσ2 hp => ?_)
  have h := nm_s h σ2 eσ2
  refine lv_aload_n hx hb dX0_restart_10 rfl (lv_at hl 0 rfl) ?_
  refine lv_iconst (v := 1) hx hb dX0_restart_11 (by decide) ?_
  refine lv_iload_n hx hb dX0_restart_12 rfl (lv_at hl 1 rfl) ?_
  refine lv_ishl hx hb dX0_restart_13 ?_
  refine pC_X0_states X hp tw_3_6 dX0_restart_14 (fun H locs σ3 eσ3 hp => ?_)
  have h := nm_s h σ3 eσ3
  refine lv_aload_n hx hb dX0_restart_17 rfl (lv_at hl 0 rfl) ?_
  refine lv_iconst (v := 1) hx hb dX0_restart_18 (by decide) ?_
  refine lv_iload_n hx hb dX0_restart_19 rfl (lv_at hl 2 rfl) ?_
  refine lv_ishl hx hb dX0_restart_20 ?_
  refine pC_X0_inputValues X hp tw_3_7 dX0_restart_21 (fun H locs σ4 eσ4 hp => ?_)
  have h := nm_s h σ4 eσ4
  refine lv_aload_n hx hb dX0_restart_24 rfl (lv_at hl 0 rfl) ?_
  refine lv_aload_n hx hb dX0_restart_25 rfl (lv_at hl 0 rfl) ?_
  refine gC_X0_states X hp tw_3_6 dX0_restart_26 ?_
  refine lv_bipush (v := 64) hx hb dX0_restart_29 (by decide) ?_
  refine lv_icmp_lt (tgt := 40) hx hb dX0_restart_31 (by decide) (fun c5 => ?_) (fun c5 => ?_)
  · have h := it_p h c5
    refine lv_lconst (v := 1) hx hb dX0_restart_40 (by decide) ?_
    refine lv_aload_n hx hb dX0_restart_41 rfl (lv_at hl 0 rfl) ?_
    refine gC_X0_states X hp tw_3_6 dX0_restart_42 ?_
    refine lv_lshl hx hb dX0_restart_45 rfl ?_
    refine lv_lconst (v := 1) hx hb dX0_restart_46 (by decide) ?_
    refine lv_lsub hx hb dX0_restart_47 ?_
    exact J_48 (((1 : Int64) <<< ((σ4.1 7).toInt64 &&& 63)) - (1 : Int64)) σ4 _ _ _ hp (lv_sub hl [0] rfl) h
  · have h := it_n h c5
    refine lv_ldc2 hx hb hown (hts _ tw_3_8) dX0_restart_34 ?_
    refine lv_goto (tgt := 48) hx hb dX0_restart_37 (by decide) ?_
    exact J_48 (-1 : Int64) σ4 _ _ _ hp (lv_sub hl [0] rfl) h
