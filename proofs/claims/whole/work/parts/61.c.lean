/-! bits, by trial -/
theorem or10 : ∀ k : Nat, k < 1024 → ∀ h : Nat, h < 10 → nI k ||| ((1 : Int32) <<< (nI h &&& 31)) = nI (k ||| 2 ^ h) ∧ k ||| 2 ^ h < 1024 ∧ inF (nI k) h = k.testBit h ∧ (k.testBit h = false → many (k ||| 2 ^ h) = many k + 1) := by decide +kernel
