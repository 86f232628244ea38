/-! the first land -/
def fC : List Nat := [6, 7, 12, 17, 18, 3]
def fB : List Nat := [0, 1, 0, 2, 0, 0]
def fF : List Nat := [3, 1000, 5, 4, 9, 6]
def fK : List Nat := [0, 1, 0, 2, 3, 1]
theorem raF_1 : raF.1 = -4 ∧ raF.2.1 = 5 ∧ raF.2.2.1 = 5 ∧ raF.2.2.2.2.2.2.2.1 = 6 ∧ raF.2.2.2.2.2.2.2.2.2.2.2.1 = 2 := by decide +kernel
theorem raF_2 : ∀ k, k < 6 → raF.2.2.2.1 k = nI (fC.getD k 0) ∧ raF.2.2.2.2.1 k = nI (fB.getD k 0) ∧ raF.2.2.2.2.2.1 k = nI (fF.getD k 0) ∧ raF.2.2.2.2.2.2.1 k = nI (fK.getD k 0) := by decide +kernel
theorem raF_3 : ∀ k, k < 2 → raF.2.2.2.2.2.2.2.2.1 k = nI (([4, 6] : List Nat).getD k 0) ∧ raF.2.2.2.2.2.2.2.2.2.1 k = nI (([2, 2] : List Nat).getD k 0) ∧ raF.2.2.2.2.2.2.2.2.2.2.1 k = nI (([2, 3] : List Nat).getD k 0) := by decide +kernel
theorem raF_n0 : ¬ raF.2.2.2.2.2.2.2.1 = 0 := by rw [raF_1.2.2.2.1]; decide
theorem raF_eq : raL (sgF 72) 72 200 0 (5, 5, (fun _ => 0), (fun _ => 0), (fun _ => 0), (fun _ => 0), 0, (fun _ => 0), (fun _ => 0), (fun _ => 0), 0, (fun _ => 0)) = raF := rfl
