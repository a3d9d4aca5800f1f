/-! what a step of the law asks of the two pure programs -/
def rmap {α : Type} (x : Option α) (σ : St) : Option (α × St) := match x with
  | some r => some (r, σ)
  | none => none
theorem rmap_s {α : Type} {x : Option α} {σ σ' : St} {r : α} (h : rmap x σ = some (r, σ')) : x = some r ∧ σ' = σ := by
  cases x with
  | none => cases h
  | some q => cases h; exact ⟨rfl, rfl⟩
def Ag {α : Type} (Rel : St → St → Prop) (x : Option (α × St)) (xt : Option (Nat × St)) (cs : Nat → Int32 → Prop) (y : Option (α × St)) : Prop :=
  ∃ (b : α) (τ' : St), y = some (b, τ') ∧ ((∃ σ' : St, x = some (b, σ') ∧ τ'.1 0 = 0 ∧ Rel σ' τ') ∨ ∃ (k : Nat) (c : Int32) (σ' : St), cs k c ∧ xt = some (k, σ') ∧ τ'.1 0 = c ∧ Rel σ' τ')
def Dg {α : Type} (Rel : St → St → Prop) (x : Option (α × St)) (y : Option (α × St)) : Prop := ∃ (b : α) (σ' τ' : St), x = some (b, σ') ∧ y = some (b, τ') ∧ Rel σ' τ'
def Op_begin (N : Nat) (Rel : St → St → Prop) (σ τ : St) : Prop := ∀ v1 v2 : Int32, Ag Rel (X6_begin N v1 v2 σ) (X6_begin_t v1 v2 σ) (fun k c => (k = 1 ∧ c = 1)) (X7_begin N v1 v2 τ)
def Op_append (N : Nat) (Rel : St → St → Prop) (σ τ : St) : Prop := ∀ v1 : Int32, Ag Rel (X6_append v1 σ) (X6_append_t v1 σ) (fun k c => (k = 1 ∧ c = 1) ∨ (k = 2 ∧ c = 2)) (X7_append v1 τ)
def Op_clearBuffer (N : Nat) (Rel : St → St → Prop) (σ τ : St) : Prop := Dg Rel (X6_clearBuffer σ) (X7_clearBuffer τ)
def Op_firstError (N : Nat) (Rel : St → St → Prop) (σ τ : St) : Prop := Dg Rel (X6_firstError N σ) (X7_firstError N τ)
def Op_setNext (N : Nat) (Rel : St → St → Prop) (σ τ : St) : Prop := ∀ v1 : Int32, Ag Rel (X6_setNext N v1 σ) (X6_setNext_t N v1 σ) (fun k c => (k = 3 ∧ c = 1) ∨ (k = 2 ∧ c = 2)) (X7_setNext N v1 τ)
def Op_setInit (N : Nat) (Rel : St → St → Prop) (σ τ : St) : Prop := Ag Rel (X6_setInit N σ) (X6_setInit_t N σ) (fun k c => (k = 2 ∧ c = 1)) (X7_setInit N τ)
def Op_setProperty (N : Nat) (Rel : St → St → Prop) (σ τ : St) : Prop := Ag Rel (X6_setProperty N σ) (X6_setProperty_t N σ) (fun k c => (k = 2 ∧ c = 1)) (X7_setProperty N τ)
def Op_undo (N : Nat) (Rel : St → St → Prop) (σ τ : St) : Prop := Ag Rel (X6_undo N σ) (X6_undo_t σ) (fun k c => (k = 2 ∧ c = 1)) (X7_undo N τ)
def Op_successor (N : Nat) (Rel : St → St → Prop) (σ τ : St) : Prop := ∀ v1 v2 : Int32, Ag Rel (X6_successor N v1 v2 σ) (X6_successor_t v1 v2 σ) (fun k c => (k = 3 ∧ c = 1) ∨ (k = 1 ∧ c = 2)) (X7_successor N v1 v2 τ)
def Op_state (N : Nat) (Rel : St → St → Prop) (σ τ : St) : Prop := ∀ v1 v2 : Int32, Ag Rel (X6_state N v1 v2 σ) (X6_state_t v1 v2 σ) (fun k c => (k = 3 ∧ c = 1) ∨ (k = 1 ∧ c = 2)) (X7_state N v1 v2 τ)
def Op_system (N : Nat) (Rel : St → St → Prop) (σ τ : St) : Prop := ∀ v1 : Int32, Ag Rel (X6_system N v1 σ) (X6_system_t v1 σ) (fun k c => (k = 1 ∧ c = 1)) (X7_system N v1 τ)
def Op_shortest (N : Nat) (Rel : St → St → Prop) (σ τ : St) : Prop := ∀ v1 v2 : Int32, Ag Rel (X6_shortest N v1 v2 σ) (X6_shortest_t N v1 v2 σ) (fun k c => (k = 2 ∧ c = 1) ∨ (k = 3 ∧ c = 2) ∨ (k = 1 ∧ c = 3)) (X7_shortest N v1 v2 τ)
def Op_candidate (N : Nat) (Rel : St → St → Prop) (σ τ : St) : Prop := Ag Rel (X6_candidate N σ) (X6_candidate_t N σ) (fun k c => (k = 2 ∧ c = 1)) (X7_candidate N τ)
def Op_check (N : Nat) (Rel : St → St → Prop) (σ τ : St) : Prop := Ag Rel (X6_check N σ) (X6_check_t N σ) (fun k c => (k = 2 ∧ c = 1)) (X7_check N τ)
def Op_escape (N : Nat) (Rel : St → St → Prop) (σ τ : St) : Prop := ∀ v1 : Int32, Ag Rel (X6_escape N v1 σ) (X6_escape_t N v1 σ) (fun k c => (k = 1 ∧ c = 1) ∨ (k = 2 ∧ c = 2)) (X7_escape N v1 τ)
def Op_modal (N : Nat) (Rel : St → St → Prop) (σ τ : St) : Prop := ∀ v1 : Int32, Ag Rel (X6_modal N v1 σ) (X6_modal_t N v1 σ) (fun k c => (k = 1 ∧ c = 1) ∨ (k = 2 ∧ c = 2)) (X7_modal N v1 τ)
def Op_prove (N : Nat) (Rel : St → St → Prop) (σ τ : St) : Prop := Dg Rel (X6_prove N σ) (X7_prove N τ)
def Op_proof (N : Nat) (Rel : St → St → Prop) (σ τ : St) : Prop := ∀ v1 : Int32, Ag Rel (rmap (X6_proof N σ v1) σ) (X6_proof_t σ v1) (fun k c => (k = 1 ∧ c = 1)) (X7_proof N v1 τ)
def Op_frame (N : Nat) (Rel : St → St → Prop) (σ τ : St) : Prop := ∀ v1 : Int32, Ag Rel (X6_frame v1 σ) (X6_frame_t v1 σ) (fun k c => (k = 2 ∧ c = 1) ∨ (k = 3 ∧ c = 2)) (X7_frame N v1 τ)
def Op_cube (N : Nat) (Rel : St → St → Prop) (σ τ : St) : Prop := ∀ v1 v2 : Int32, Ag Rel (X6_cube v1 v2 σ) (X6_cube_t v1 v2 σ) (fun k c => (k = 2 ∧ c = 1) ∨ (k = 3 ∧ c = 2) ∨ (k = 1 ∧ c = 3)) (X7_cube v1 v2 τ)
def Op_certificate (N : Nat) (Rel : St → St → Prop) (σ τ : St) : Prop := Ag Rel (X6_certificate N σ) (X6_certificate_t σ) (fun k c => (k = 2 ∧ c = 1)) (X7_certificate N τ)
def Op_shrunken (N : Nat) (Rel : St → St → Prop) (σ τ : St) : Prop := Ag Rel (X6_shrunken N σ) (X6_shrunken_t σ) (fun k c => (k = 2 ∧ c = 1)) (X7_shrunken N τ)
def Op_induction (N : Nat) (Rel : St → St → Prop) (σ τ : St) : Prop := ∀ v1 : Int32, isb v1 → Dg Rel (X6_induction N v1 σ) (X7_induction N v1 τ)
def Op_elimination (N : Nat) (Rel : St → St → Prop) (σ τ : St) : Prop := ∀ v1 : Int32, Ag Rel (X6_elimination N v1 σ) (X6_elimination_t v1 σ) (fun k c => (k = 1 ∧ c = 1)) (X7_elimination N v1 τ)
def Op_isSafeWithFree (N : Nat) (Rel : St → St → Prop) (σ τ : St) : Prop := ∀ v1 : Int32, Ag Rel (X6_isSafeWithFree N v1 σ) (X6_isSafeWithFree_t v1 σ) (fun k c => (k = 1 ∧ c = 1)) (X7_isSafeWithFree N v1 τ)
def Op_leastCone (N : Nat) (Rel : St → St → Prop) (σ τ : St) : Prop := Dg Rel (X6_leastCone N σ) (X7_leastCone N τ)
def Op_simulate (N : Nat) (Rel : St → St → Prop) (σ τ : St) : Prop := ∀ v1 v2 v3 : Int32, Ag Rel (rmap (X6_simulate N σ v1 v2 v3) σ) (X6_simulate_t σ v1 v2 v3) (fun k c => (k = 1 ∧ c = 1) ∨ (k = 2 ∧ c = 2)) (X7_simulate N v1 v2 v3 τ)
def Op_digest (N : Nat) (Rel : St → St → Prop) (σ τ : St) : Prop := Dg Rel (X6_digest N σ) (X7_digest N τ)
/-- every step of the law, from related states -/
def Steps_ok (N : Nat) (Rel : St → St → Prop) : Prop := ∀ σ τ : St, Rel σ τ → Op_begin N Rel σ τ ∧ Op_append N Rel σ τ ∧ Op_clearBuffer N Rel σ τ ∧ Op_firstError N Rel σ τ ∧ Op_setNext N Rel σ τ ∧ Op_setInit N Rel σ τ ∧ Op_setProperty N Rel σ τ ∧ Op_undo N Rel σ τ ∧ Op_successor N Rel σ τ ∧ Op_state N Rel σ τ ∧ Op_system N Rel σ τ ∧ Op_shortest N Rel σ τ ∧ Op_candidate N Rel σ τ ∧ Op_check N Rel σ τ ∧ Op_escape N Rel σ τ ∧ Op_modal N Rel σ τ ∧ Op_prove N Rel σ τ ∧ Op_proof N Rel σ τ ∧ Op_frame N Rel σ τ ∧ Op_cube N Rel σ τ ∧ Op_certificate N Rel σ τ ∧ Op_shrunken N Rel σ τ ∧ Op_induction N Rel σ τ ∧ Op_elimination N Rel σ τ ∧ Op_isSafeWithFree N Rel σ τ ∧ Op_leastCone N Rel σ τ ∧ Op_simulate N Rel σ τ ∧ Op_digest N Rel σ τ
theorem hdd_L_begin : yL_begin.cls ≠ "java/lang/invoke/MethodHandle" ∧ yL_begin.cls ≠ "java/lang/invoke/VarHandle" ∧ (parseMethodDescriptor yL_begin.desc).map (fun d => d.parameters.length) = some 4 := by decide +kernel
theorem hdd_L_append : yL_append.cls ≠ "java/lang/invoke/MethodHandle" ∧ yL_append.cls ≠ "java/lang/invoke/VarHandle" ∧ (parseMethodDescriptor yL_append.desc).map (fun d => d.parameters.length) = some 3 := by decide +kernel
theorem hdd_L_setNext : yL_setNext.cls ≠ "java/lang/invoke/MethodHandle" ∧ yL_setNext.cls ≠ "java/lang/invoke/VarHandle" ∧ (parseMethodDescriptor yL_setNext.desc).map (fun d => d.parameters.length) = some 3 := by decide +kernel
theorem hdd_L_setInit : yL_setInit.cls ≠ "java/lang/invoke/MethodHandle" ∧ yL_setInit.cls ≠ "java/lang/invoke/VarHandle" ∧ (parseMethodDescriptor yL_setInit.desc).map (fun d => d.parameters.length) = some 2 := by decide +kernel
theorem hdd_L_setProperty : yL_setProperty.cls ≠ "java/lang/invoke/MethodHandle" ∧ yL_setProperty.cls ≠ "java/lang/invoke/VarHandle" ∧ (parseMethodDescriptor yL_setProperty.desc).map (fun d => d.parameters.length) = some 2 := by decide +kernel
theorem hdd_L_undo : yL_undo.cls ≠ "java/lang/invoke/MethodHandle" ∧ yL_undo.cls ≠ "java/lang/invoke/VarHandle" ∧ (parseMethodDescriptor yL_undo.desc).map (fun d => d.parameters.length) = some 2 := by decide +kernel
theorem hdd_L_successor : yL_successor.cls ≠ "java/lang/invoke/MethodHandle" ∧ yL_successor.cls ≠ "java/lang/invoke/VarHandle" ∧ (parseMethodDescriptor yL_successor.desc).map (fun d => d.parameters.length) = some 4 := by decide +kernel
theorem hdd_L_state : yL_state.cls ≠ "java/lang/invoke/MethodHandle" ∧ yL_state.cls ≠ "java/lang/invoke/VarHandle" ∧ (parseMethodDescriptor yL_state.desc).map (fun d => d.parameters.length) = some 4 := by decide +kernel
theorem hdd_L_system : yL_system.cls ≠ "java/lang/invoke/MethodHandle" ∧ yL_system.cls ≠ "java/lang/invoke/VarHandle" ∧ (parseMethodDescriptor yL_system.desc).map (fun d => d.parameters.length) = some 3 := by decide +kernel
theorem hdd_L_shortest : yL_shortest.cls ≠ "java/lang/invoke/MethodHandle" ∧ yL_shortest.cls ≠ "java/lang/invoke/VarHandle" ∧ (parseMethodDescriptor yL_shortest.desc).map (fun d => d.parameters.length) = some 4 := by decide +kernel
theorem hdd_L_candidate : yL_candidate.cls ≠ "java/lang/invoke/MethodHandle" ∧ yL_candidate.cls ≠ "java/lang/invoke/VarHandle" ∧ (parseMethodDescriptor yL_candidate.desc).map (fun d => d.parameters.length) = some 2 := by decide +kernel
theorem hdd_L_check : yL_check.cls ≠ "java/lang/invoke/MethodHandle" ∧ yL_check.cls ≠ "java/lang/invoke/VarHandle" ∧ (parseMethodDescriptor yL_check.desc).map (fun d => d.parameters.length) = some 2 := by decide +kernel
theorem hdd_L_escape : yL_escape.cls ≠ "java/lang/invoke/MethodHandle" ∧ yL_escape.cls ≠ "java/lang/invoke/VarHandle" ∧ (parseMethodDescriptor yL_escape.desc).map (fun d => d.parameters.length) = some 3 := by decide +kernel
theorem hdd_L_modal : yL_modal.cls ≠ "java/lang/invoke/MethodHandle" ∧ yL_modal.cls ≠ "java/lang/invoke/VarHandle" ∧ (parseMethodDescriptor yL_modal.desc).map (fun d => d.parameters.length) = some 3 := by decide +kernel
theorem hdd_L_proof : yL_proof.cls ≠ "java/lang/invoke/MethodHandle" ∧ yL_proof.cls ≠ "java/lang/invoke/VarHandle" ∧ (parseMethodDescriptor yL_proof.desc).map (fun d => d.parameters.length) = some 3 := by decide +kernel
theorem hdd_L_frame : yL_frame.cls ≠ "java/lang/invoke/MethodHandle" ∧ yL_frame.cls ≠ "java/lang/invoke/VarHandle" ∧ (parseMethodDescriptor yL_frame.desc).map (fun d => d.parameters.length) = some 3 := by decide +kernel
theorem hdd_L_cube : yL_cube.cls ≠ "java/lang/invoke/MethodHandle" ∧ yL_cube.cls ≠ "java/lang/invoke/VarHandle" ∧ (parseMethodDescriptor yL_cube.desc).map (fun d => d.parameters.length) = some 4 := by decide +kernel
theorem hdd_L_certificate : yL_certificate.cls ≠ "java/lang/invoke/MethodHandle" ∧ yL_certificate.cls ≠ "java/lang/invoke/VarHandle" ∧ (parseMethodDescriptor yL_certificate.desc).map (fun d => d.parameters.length) = some 2 := by decide +kernel
theorem hdd_L_shrunken : yL_shrunken.cls ≠ "java/lang/invoke/MethodHandle" ∧ yL_shrunken.cls ≠ "java/lang/invoke/VarHandle" ∧ (parseMethodDescriptor yL_shrunken.desc).map (fun d => d.parameters.length) = some 2 := by decide +kernel
theorem hdd_L_elimination : yL_elimination.cls ≠ "java/lang/invoke/MethodHandle" ∧ yL_elimination.cls ≠ "java/lang/invoke/VarHandle" ∧ (parseMethodDescriptor yL_elimination.desc).map (fun d => d.parameters.length) = some 3 := by decide +kernel
theorem hdd_L_isSafeWithFree : yL_isSafeWithFree.cls ≠ "java/lang/invoke/MethodHandle" ∧ yL_isSafeWithFree.cls ≠ "java/lang/invoke/VarHandle" ∧ (parseMethodDescriptor yL_isSafeWithFree.desc).map (fun d => d.parameters.length) = some 3 := by decide +kernel
theorem hdd_L_simulate : yL_simulate.cls ≠ "java/lang/invoke/MethodHandle" ∧ yL_simulate.cls ≠ "java/lang/invoke/VarHandle" ∧ (parseMethodDescriptor yL_simulate.desc).map (fun d => d.parameters.length) = some 5 := by decide +kernel
