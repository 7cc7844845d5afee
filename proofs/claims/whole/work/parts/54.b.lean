/-! classes of horses -/
def isA (kd k : Nat) : Bool := decide (kd = k) || (decide (k = 0)) || (decide (kd = 4) && decide (k = 1)) || (decide (kd = 5) && decide (k = 3))
theorem kind9 (q1 : Int32) (y : MS) (kd k : Nat) (h1 : kd < 6) (h2 : k < 6) : ∃ v, LX9_taken_33 y q1 (nI k) NF (nI kd) = some v ∧ (v = nI k ↔ isA kd k = true) := by
  have a : kd = 0 ∨ kd = 1 ∨ kd = 2 ∨ kd = 3 ∨ kd = 4 ∨ kd = 5 := by omega
  have b : k = 0 ∨ k = 1 ∨ k = 2 ∨ k = 3 ∨ k = 4 ∨ k = 5 := by omega
  rcases a with rfl | rfl | rfl | rfl | rfl | rfl <;> rcases b with rfl | rfl | rfl | rfl | rfl | rfl <;> exact ⟨_, rfl, by decide⟩
theorem kind8 (x : XS) (kd k : Nat) (h1 : kd < 6) (h2 : k < 6) : bs (LX1_isOfKind_7 x (nI k) NF (nI kd) 0) (fun a => some a) (fun _ => some false) = some (isA kd k) := by
  have a : kd = 0 ∨ kd = 1 ∨ kd = 2 ∨ kd = 3 ∨ kd = 4 ∨ kd = 5 := by omega
  have b : k = 0 ∨ k = 1 ∨ k = 2 ∨ k = 3 ∨ k = 4 ∨ k = 5 := by omega
  rcases a with rfl | rfl | rfl | rfl | rfl | rfl <;> rcases b with rfl | rfl | rfl | rfl | rfl | rfl <;> rfl
