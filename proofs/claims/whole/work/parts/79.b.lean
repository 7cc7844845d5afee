/-! the first rule's text, by trial -/
def b54 : Nat → Int32 := fun i => if i < 54 then chk 0 i else 32
def xs54 (M : Nat) : XS := (fun k i => if k = 4 ∧ i = 1 then nI M else 0, fun k i => if k = 5 then b54 i else 0, fun _ _ => none, fun _ => none, 0)
def sameT (a b : Option (Option Nat × XS)) : Bool := match a, b with
  | some (some _, z), some (some _, w) => decide (z.1 6 3 = 9 ∧ w.1 6 3 = 9 ∧ (∀ j : Nat, j < 3 → z.2.1 8 j = w.2.1 8 j) ∧ ∀ j : Nat, j < 9 → z.2.1 7 j = w.2.1 7 j)
  | _, _ => false
theorem first_same : sameT (fX4_read (xs54 54)) (fX4_read (xs54 56)) = true := by decide +kernel
