/-! a pound against what was told -/
section AGAINST
variable {own : Nat → Nat} {n r t u : Nat} {x : XS} {y : MS}
theorem ag_in (h : RO own n r t u x y) {i p po pl s : Nat} {fo fl : Nat → Int32} (q b : Int32) (hi : i < 24) (hs : s ≤ 5) (e5 : x.2.2.2.1 p = some (.inl (3, [.int (y.2.1 15 i), .int (y.2.1 16 i), .int (nI s), .ref po, .ref pl]))) (e6 : x.2.2.2.1 po = some (.inr (5, fo))) (e7 : x.2.2.2.1 pl = some (.inr (5, fl))) (es : y.2.1 17 i = nI s) (e8 : ∀ k, k < s → fo k = y.2.1 18 (5 * i + k) ∧ fl k = y.2.1 19 (5 * i + k)) (e9 : ∀ k, k < s → ∃ j, j < n ∧ y.2.1 18 (5 * i + k) = nI j) {a : Nat} (ha : a < s) : ∀ (k j : Nat) (A c : Int32) (f g : Nat), j + k = s → k < f → k < g → ∃ v, LX8_pairsAgainstIn_20 x p b (nI a) f c (nI j) = some v ∧ LX9_againstOf_49 y q b (nI i) (nI a) g (A + c) (nI j) = some (A + v) := by
  have hb24 : ib (nI i) 24 := ib_nI hi (by decide)
  intro k
  induction k with
  | zero =>
    intro j A c f g hk hf hg
    obtain ⟨f, rfl⟩ : ∃ z, f = z + 1 := ⟨f - 1, by omega⟩
    obtain ⟨g, rfl⟩ : ∃ z, g = z + 1 := ⟨g - 1, by omega⟩
    have e : j = s := by omega
    subst e
    refine ⟨c, ?_, ?_⟩
    · show BX8_pairsAgainstIn_20 x p b (nI a) _ c (nI j) = _
      unfold BX8_pairsAgainstIn_20
      rw [dI_o (k := 2) e5 rfl, Option.bind_some, if_pos (Int32.le_refl _)]
    · show BX9_againstOf_49 y q b (nI i) (nI a) _ (A + c) (nI j) = _
      unfold BX9_againstOf_49
      rw [if_pos hb24, cl_nI (show i < 2 ^ 31 by omega), es, if_pos (Int32.le_refl _)]
  | succ k ih =>
    intro j A c f g hk hf hg
    obtain ⟨f, rfl⟩ : ∃ z, f = z + 1 := ⟨f - 1, by omega⟩
    obtain ⟨g, rfl⟩ : ∃ z, g = z + 1 := ⟨g - 1, by omega⟩
    have hj : j < s := by omega
    have hlt : ¬ nI s ≤ nI j := by
      rw [nI_lei (by omega) (by omega)]
      omega
    have r1 := rated8 h (b := b) hj hs e5 e6 e7 e8 (e9 j hj)
    have r2 := rated8 h (b := b) ha hs e5 e6 e7 e8 (e9 a ha)
    have r3 := rated9 h (b := b) hi hj hs (e9 j hj)
    have r4 := rated9 h (b := b) hi ha hs (e9 a ha)
    show ∃ v, BX8_pairsAgainstIn_20 x p b (nI a) (LX8_pairsAgainstIn_20 x p b (nI a) f) c (nI j) = some v ∧ BX9_againstOf_49 y q b (nI i) (nI a) (LX9_againstOf_49 y q b (nI i) (nI a) g) (A + c) (nI j) = some (A + v)
    unfold BX8_pairsAgainstIn_20 BX9_againstOf_49
    rw [dI_o (k := 2) e5 rfl, Option.bind_some, if_neg hlt, if_pos hb24, cl_nI (show i < 2 ^ 31 by omega), es, if_neg hlt, r1, r2, r3, r4]
    simp only [Option.bind_some, lt, nI_1, Int32.add_zero]
    by_cases c1 : rated y i j b ≤ rated y i a b
    · rw [if_pos c1, if_pos c1]
      exact ih (j + 1) A c f g (by omega) (by omega) (by omega)
    · rw [if_neg c1, if_neg c1, Int32.add_assoc]
      exact ih (j + 1) A (c + 1) f g (by omega) (by omega) (by omega)
theorem ag_mid (h : RO own n r t u x y) {i p po pl s : Nat} {fo fl : Nat → Int32} (q b : Int32) (hi : i < 24) (hs : s ≤ 5) (e5 : x.2.2.2.1 p = some (.inl (3, [.int (y.2.1 15 i), .int (y.2.1 16 i), .int (nI s), .ref po, .ref pl]))) (e6 : x.2.2.2.1 po = some (.inr (5, fo))) (e7 : x.2.2.2.1 pl = some (.inr (5, fl))) (es : y.2.1 17 i = nI s) (e8 : ∀ k, k < s → fo k = y.2.1 18 (5 * i + k) ∧ fl k = y.2.1 19 (5 * i + k)) (e9 : ∀ k, k < s → ∃ j, j < n ∧ y.2.1 18 (5 * i + k) = nI j) : ∀ (k j : Nat) (A c : Int32) (f g : Nat), j + k = s → k < f → k < g → ∃ v, LX8_pairsAgainstIn_5 x (some p) b f c (nI j) = some v ∧ LX9_againstOf_31 y q b (nI i) g (A + c) (nI j) = some (A + v) := by
  have hb24 : ib (nI i) 24 := ib_nI hi (by decide)
  intro k
  induction k with
  | zero =>
    intro j A c f g hk hf hg
    obtain ⟨f, rfl⟩ : ∃ z, f = z + 1 := ⟨f - 1, by omega⟩
    obtain ⟨g, rfl⟩ : ∃ z, g = z + 1 := ⟨g - 1, by omega⟩
    have e : j = s := by omega
    subst e
    refine ⟨c, ?_, ?_⟩
    · show BX8_pairsAgainstIn_5 x (some p) b _ c (nI j) = _
      unfold BX8_pairsAgainstIn_5
      rw [Option.bind_some, dI_o (k := 2) e5 rfl, Option.bind_some, if_pos (Int32.le_refl _)]
    · show BX9_againstOf_31 y q b (nI i) _ (A + c) (nI j) = _
      unfold BX9_againstOf_31
      rw [if_pos hb24, cl_nI (show i < 2 ^ 31 by omega), es, if_pos (Int32.le_refl _)]
  | succ k ih =>
    intro j A c f g hk hf hg
    obtain ⟨f, rfl⟩ : ∃ z, f = z + 1 := ⟨f - 1, by omega⟩
    obtain ⟨g, rfl⟩ : ∃ z, g = z + 1 := ⟨g - 1, by omega⟩
    have hj : j < s := by omega
    have hlt : ¬ nI s ≤ nI j := by
      rw [nI_lei (by omega) (by omega)]
      omega
    obtain ⟨v, v1, v2⟩ := ag_in h q b hi hs e5 e6 e7 es e8 e9 hj (s - (j + 1)) (j + 1) A c NF NF (by omega) (by unfold NF; omega) (by unfold NF; omega)
    obtain ⟨w, w1, w2⟩ := ih (j + 1) A v f g (by omega) (by omega) (by omega)
    refine ⟨w, ?_, ?_⟩
    · show BX8_pairsAgainstIn_5 x (some p) b (LX8_pairsAgainstIn_5 x (some p) b f) c (nI j) = _
      unfold BX8_pairsAgainstIn_5
      rw [Option.bind_some, dI_o (k := 2) e5 rfl, Option.bind_some, if_neg hlt]
      simp only [lt, nI_1]
      rw [v1, Option.bind_some]
      exact w1
    · show BX9_againstOf_31 y q b (nI i) (LX9_againstOf_31 y q b (nI i) g) (A + c) (nI j) = _
      unfold BX9_againstOf_31
      rw [if_pos hb24, cl_nI (show i < 2 ^ 31 by omega), es, if_neg hlt]
      simp only [lt, nI_1]
      rw [v2, Option.bind_some]
      exact w2
theorem ag_out (h : RO own n r t u x y) (q b : Int32) : ∀ (k i : Nat) (acc : Int32) (f g : Nat), i + k = r → k < f → k < g → ∃ v, LX8_pairsAgainst_5 x q b f acc (nI i) = some v ∧ LX9_againstOf_5 y q b g acc (nI i) = some v := by
  have hr := h.r24
  intro k
  induction k with
  | zero =>
    intro i acc f g hk hf hg
    obtain ⟨f, rfl⟩ : ∃ z, f = z + 1 := ⟨f - 1, by omega⟩
    obtain ⟨g, rfl⟩ : ∃ z, g = z + 1 := ⟨g - 1, by omega⟩
    have e : i = r := by omega
    subst e
    refine ⟨acc, ?_, ?_⟩
    · show BX8_pairsAgainst_5 x q b _ acc (nI i) = _
      unfold BX8_pairsAgainst_5
      rw [h.R.ex, if_pos (Int32.le_refl _)]
    · show BX9_againstOf_5 y q b _ acc (nI i) = _
      unfold BX9_againstOf_5
      rw [h.R.ey, if_pos (Int32.le_refl _)]
  | succ k ih =>
    intro i acc f g hk hf hg
    obtain ⟨f, rfl⟩ : ∃ z, f = z + 1 := ⟨f - 1, by omega⟩
    obtain ⟨g, rfl⟩ : ∃ z, g = z + 1 := ⟨g - 1, by omega⟩
    have hi : i < r := by omega
    have hlt : ¬ nI r ≤ nI i := by
      rw [nI_lei (by omega) (by omega)]
      omega
    obtain ⟨p, po, pl, fo, fl, s, a1, a2, a3, a4, a5, a6, a7, a8, a9⟩ := ra8 h hi
    rw [a5] at a2
    obtain ⟨v, v1, v2⟩ := ag_mid h q b (show i < 24 by omega) a7 a2 a3 a4 a5 a8 (fun k hk => (a9 k hk).1) s 0 acc 0 NF NF (by omega) (by unfold NF; omega) (by unfold NF; omega)
    have v1 : LX8_pairsAgainstIn_5 x (some p) b NF 0 0 = some v := v1
    have v2 : LX9_againstOf_31 y q b (nI i) NF (acc + 0) 0 = some (acc + v) := v2
    rw [Int32.add_zero] at v2
    have hb24 : ib (nI i) 24 := ib_nI (by omega) (by decide)
    show ∃ v, BX8_pairsAgainst_5 x q b (LX8_pairsAgainst_5 x q b f) acc (nI i) = some v ∧ BX9_againstOf_5 y q b (LX9_againstOf_5 y q b g) acc (nI i) = some v
    unfold BX8_pairsAgainst_5 BX9_againstOf_5 fX8_pairsAgainstIn
    rw [h.R.ex, h.R.ey, if_neg hlt, if_neg hlt, a1, if_pos hb24, cl_nI (show i < 2 ^ 31 by omega)]
    simp only [Option.bind_some, oc, dI_o (k := 0) a2 rfl, lt, nI_1, v1, v2]
    by_cases c1 : y.2.1 15 i = q
    · rw [if_pos c1, if_pos c1]
      exact ih (i + 1) (acc + v) f g (by omega) (by omega) (by omega)
    · rw [if_neg c1, if_neg c1]
      exact ih (i + 1) acc f g (by omega) (by omega) (by omega)
theorem ag89 (h : RO own n r t u x y) (q b : Int32) : ∃ v, fX8_pairsAgainst x q b = some v ∧ fX9_againstOf y q b = some v := by
  have hr := h.r24
  obtain ⟨v, v1, v2⟩ := ag_out h q b r 0 0 NF NF (by omega) (by unfold NF; omega) (by unfold NF; omega)
  have v1 : LX8_pairsAgainst_5 x q b NF 0 0 = some v := v1
  have v2 : LX9_againstOf_5 y q b NF 0 0 = some v := v2
  unfold fX8_pairsAgainst fX9_againstOf
  rw [v1, v2]
  exact ⟨v, rfl, rfl⟩
theorem learnt_loop (h : RO own n r t u x y) (q : Int32) : ∀ (k i : Nat) (b few : Int32) (f g : Nat), i + k = 10 → k < f → k < g → fX9_againstOf y q b = some few → ∃ v, LX8_learnt_22 x q f b few (nI i) = some v ∧ LX9_learnt_14 y q g b (nI i) = some v := by
  intro k
  induction k with
  | zero =>
    intro i b few f g hk hf hg hw
    obtain ⟨f, rfl⟩ : ∃ z, f = z + 1 := ⟨f - 1, by omega⟩
    obtain ⟨g, rfl⟩ : ∃ z, g = z + 1 := ⟨g - 1, by omega⟩
    have e : i = 10 := by omega
    subst e
    refine ⟨b, ?_, ?_⟩
    · show BX8_learnt_22 x q _ b few (nI 10) = _
      unfold BX8_learnt_22
      rw [if_pos (by decide)]
    · show BX9_learnt_14 y q _ b (nI 10) = _
      unfold BX9_learnt_14
      rw [if_pos (by decide)]
  | succ k ih =>
    intro i b few f g hk hf hg hw
    obtain ⟨f, rfl⟩ : ∃ z, f = z + 1 := ⟨f - 1, by omega⟩
    obtain ⟨g, rfl⟩ : ∃ z, g = z + 1 := ⟨g - 1, by omega⟩
    have l1 : ¬ (9 : Int32) < nI i := by
      rw [show (9 : Int32) = nI 9 from rfl, nI_lti (by decide) (by omega)]
      omega
    have l2 : ¬ (10 : Int32) ≤ nI i := by
      rw [show (10 : Int32) = nI 10 from rfl, nI_lei (by decide) (by omega)]
      omega
    obtain ⟨v, v1, v2⟩ := ag89 h q (nI i)
    show ∃ v, BX8_learnt_22 x q (LX8_learnt_22 x q f) b few (nI i) = some v ∧ BX9_learnt_14 y q (LX9_learnt_14 y q g) b (nI i) = some v
    unfold BX8_learnt_22 BX9_learnt_14
    rw [if_neg l1, if_neg l2, v1, v2, hw]
    simp only [Option.bind_some, lt, nI_1]
    by_cases c : few ≤ v
    · rw [if_pos c, if_pos c]
      exact ih (i + 1) b few f g (by omega) (by omega) (by omega) hw
    · rw [if_neg c, if_neg c]
      exact ih (i + 1) (nI i) v f g (by omega) (by omega) (by omega) v2
end AGAINST
theorem s_against : ST16 Rl := by
  intro x y a1 a2 hr
  obtain ⟨own, n, r, t, u, h⟩ := id hr
  obtain ⟨v, v1, v2⟩ := ag89 h a1 a2
  unfold fX8_against fX9_against
  rw [gr8, gr9, in8, in9i (lo := 0) (hi := 9) (l := 0) (h := 9) rfl rfl, v1, v2]
  simp only [Option.bind_some, decide_eq_true_eq]
  repeat' split
  all_goals exact ⟨_, rfl, rfl, hr⟩
theorem s_learnt : ST17 Rl := by
  intro x y a1 hr
  obtain ⟨own, n, r, t, u, h⟩ := id hr
  obtain ⟨v, v1, v2⟩ := ag89 h a1 0
  obtain ⟨w, w1, w2⟩ := learnt_loop h a1 9 1 0 v NF NF (by omega) (by unfold NF; omega) (by unfold NF; omega) v2
  have w1 : LX8_learnt_22 x a1 NF 0 v 1 = some w := w1
  have w2 : LX9_learnt_14 y a1 NF 0 1 = some w := w2
  unfold fX8_learnt fX9_learnt
  rw [gr8, gr9, v1]
  simp only [Option.bind_some, decide_eq_true_eq]
  rw [w1, w2]
  repeat' split
  all_goals exact ⟨_, rfl, rfl, hr⟩
