/-! what one was worth in a race -/
section RATED
variable {own : Nat → Nat} {n r t u : Nat} {x : XS} {y : MS}
/-- in the i-th race, of the k-th one, by a pound -/
def rated (y : MS) (i k : Nat) (b : Int32) : Int32 := fm y (y.2.1 18 (5 * i + k)).toNatClampNeg (y.2.1 15 i) (y.2.1 16 i) - (y.2.1 19 (5 * i + k) * b) / 10
theorem rated8 (h : RO own n r t u x y) {i p po pl k s : Nat} {fo fl : Nat → Int32} {sz : Int32} (hk : k < s) (hs : s ≤ 5) (e5 : x.2.2.2.1 p = some (.inl (3, [.int (y.2.1 15 i), .int (y.2.1 16 i), .int sz, .ref po, .ref pl]))) (e6 : x.2.2.2.1 po = some (.inr (5, fo))) (e7 : x.2.2.2.1 pl = some (.inr (5, fl))) (e8 : ∀ k, k < s → fo k = y.2.1 18 (5 * i + k) ∧ fl k = y.2.1 19 (5 * i + k)) (e9 : ∃ j, j < n ∧ y.2.1 18 (5 * i + k) = nI j) (b : Int32) : fX8_ratingIn x (some p) (nI k) b = some (rated y i k b) := by
  obtain ⟨j, hj, ej⟩ := e9
  unfold fX8_ratingIn rated
  simp only [Option.bind_some, dP_o (k := 3) e5 rfl, dP_o (k := 4) e5 rfl, dI_o (k := 0) e5 rfl, dI_o (k := 1) e5 rfl, dA_o e6 (ib_nI (show k < 5 by omega) (by decide)), dA_o e7 (ib_nI (show k < 5 by omega) (by decide)), cl_nI (show k < 2 ^ 31 by omega), (e8 k hk).1, (e8 k hk).2, ej, frm8 h hj, cln h hj]
theorem rated9 (h : RO own n r t u x y) {i k s : Nat} (hi : i < 24) (hk : k < s) (hs : s ≤ 5) (e9 : ∃ j, j < n ∧ y.2.1 18 (5 * i + k) = nI j) (b : Int32) : fX9_carriedIn y (nI i) (nI k) b = some (rated y i k b) := by
  obtain ⟨j, hj, ej⟩ := e9
  have hb : ib (nI i) 24 := ib_nI hi (by decide)
  have hb2 : ib (nI (5 * i + k)) 120 := ib_nI (by omega) (by decide)
  unfold fX9_carriedIn fX9_carries rated
  simp only [at5, if_pos hb, if_pos hb2, cl_nI (show 5 * i + k < 2 ^ 31 by omega), cl_nI (show i < 2 ^ 31 by omega), ej, frm9 h hj, Option.bind_some, cln h hj]
end RATED
