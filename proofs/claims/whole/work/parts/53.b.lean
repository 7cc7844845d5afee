/-! races that were told -/
section RACES
variable {own : Nat → Nat} {n r t u : Nat} {x : XS} {y : MS}
theorem RO.r24 (h : RO own n r t u x y) : r ≤ 24 := h.R.le
theorem at5 (s i : Nat) : ((5 : Int32) * nI s) + nI i = nI (5 * s + i) := by
  rw [show (5 : Int32) = nI 5 from rfl, nI_ml, nI_ad]
/-- the i-th race on both sides: its cells, its size as a number -/
theorem ra8 (h : RO own n r t u x y) {i : Nat} (hi : i < r) : ∃ (p po pl : Nat) (fo fl : Nat → Int32) (s : Nat), fX8_raceAt x (nI i) = some (some p) ∧ x.2.2.2.1 p = some (.inl (3, [.int (y.2.1 15 i), .int (y.2.1 16 i), .int (y.2.1 17 i), .ref po, .ref pl])) ∧ x.2.2.2.1 po = some (.inr (5, fo)) ∧ x.2.2.2.1 pl = some (.inr (5, fl)) ∧ y.2.1 17 i = nI s ∧ 2 ≤ s ∧ s ≤ 5 ∧ (∀ k, k < s → fo k = y.2.1 18 (5 * i + k) ∧ fl k = y.2.1 19 (5 * i + k)) ∧ (∀ k, k < s → (∃ j, j < n ∧ y.2.1 18 (5 * i + k) = nI j) ∧ 0 ≤ y.2.1 19 (5 * i + k) ∧ y.2.1 19 (5 * i + k) ≤ 60) := by
  have hr := h.r24
  obtain ⟨p, po, pl, fo, fl, h1, h2, h3, h4, h5, h6, h7, h8⟩ := h.R.at' i hi
  have v := h.R.va i hi
  obtain ⟨s, hs, es⟩ := ix_of (n := 6) (by decide) (Int32.le_trans (by decide) v.sz0) (Int32.lt_of_le_of_lt v.sz1 (by decide))
  have s2 : 2 ≤ s := (nI_lei (a := 2) (by decide) (by omega)).mp (by rw [← es]; exact v.sz0)
  have lt5 : ∀ k, k < s → nI k < y.2.1 17 i := fun k hk => by
    rw [es, nI_lti (by omega) (by omega)]
    exact hk
  refine ⟨p, po, pl, fo, fl, s, ?_, h5, h6, h7, es, s2, by omega, fun k hk => h8 k (by omega) (lt5 k hk), fun k hk => ⟨v.or' k (lt5 k hk) (by omega), v.le k (lt5 k hk) (by omega)⟩⟩
  unfold fX8_raceAt
  rw [in8, h.R.ex, decide_eq_true (nI_prd (by omega) hi)]
  simp only [Option.bind_some, if_true, lt, cl_nI (show i < 2 ^ 31 by omega), h1]
  rw [if_pos (ib_nI (by omega) (by decide))]
theorem ra8n (h : RO own n r t u x y) {a : Int32} (c : ¬ (0 ≤ a ∧ a ≤ nI r - 1)) : fX8_raceAt x a = some none := by
  unfold fX8_raceAt
  rw [in8, h.R.ex, decide_eq_false c]
  rfl
theorem place_loop {i p po pl s : Nat} {fo : Nat → Int32} {gr da : Int32} (q : Int32) (hi : i < 24) (hs : s ≤ 5) (e5 : x.2.2.2.1 p = some (.inl (3, [.int gr, .int da, .int (nI s), .ref po, .ref pl]))) (e6 : x.2.2.2.1 po = some (.inr (5, fo))) (es : y.2.1 17 i = nI s) (e8 : ∀ k, k < s → fo k = y.2.1 18 (5 * i + k)) : ∀ (k j f g : Nat), j + k = s → k < f → k < g → ∃ res : Int32 ⊕ Unit, LX3_placeOf_2 x p q f (nI j) = some res ∧ LX9_placeIn_2 y (nI i) q g (nI j) = some res ∧ ∀ v, res = .inl v → ∃ l, j ≤ l ∧ l < s ∧ v = nI l ∧ y.2.1 18 (5 * i + l) = q := by
  intro k
  induction k with
  | zero =>
    intro j f g hk hf hg
    obtain ⟨f, rfl⟩ : ∃ z, f = z + 1 := ⟨f - 1, by omega⟩
    obtain ⟨g, rfl⟩ : ∃ z, g = z + 1 := ⟨g - 1, by omega⟩
    have e : j = s := by omega
    subst e
    refine ⟨.inr (), ?_, ?_, fun v hv => by cases hv⟩
    · show BX3_placeOf_2 x p q _ (nI j) = _
      unfold BX3_placeOf_2
      rw [dI_o (k := 2) e5 rfl]
      simp only [Option.bind_some]
      rw [if_pos (Int32.le_refl _)]
    · show BX9_placeIn_2 y (nI i) q _ (nI j) = _
      unfold BX9_placeIn_2
      rw [if_pos (ib_nI hi (by decide)), cl_nI (by omega), es, if_pos (Int32.le_refl _)]
  | succ k ih =>
    intro j f g hk hf hg
    obtain ⟨f, rfl⟩ : ∃ z, f = z + 1 := ⟨f - 1, by omega⟩
    obtain ⟨g, rfl⟩ : ∃ z, g = z + 1 := ⟨g - 1, by omega⟩
    have hlt : ¬ nI s ≤ nI j := by
      rw [nI_lei (by omega) (by omega)]
      omega
    have e8j : BX3_placeOf_2 x p q (LX3_placeOf_2 x p q f) (nI j) = if y.2.1 18 (5 * i + j) = q then some (.inl (nI j)) else LX3_placeOf_2 x p q f (nI (j + 1)) := by
      unfold BX3_placeOf_2
      rw [dI_o (k := 2) e5 rfl]
      simp only [Option.bind_some]
      rw [if_neg hlt, dP_o (k := 3) e5 rfl]
      simp only [Option.bind_some]
      rw [dA_o e6 (ib_nI (by omega) (by decide)), cl_nI (by omega), e8 j (by omega)]
      simp only [Option.bind_some, lt, nI_1]
    have e9j : BX9_placeIn_2 y (nI i) q (LX9_placeIn_2 y (nI i) q g) (nI j) = if y.2.1 18 (5 * i + j) = q then some (.inl (nI j)) else LX9_placeIn_2 y (nI i) q g (nI (j + 1)) := by
      unfold BX9_placeIn_2
      rw [if_pos (ib_nI hi (by decide)), cl_nI (by omega), es, if_neg hlt, at5, if_pos (ib_nI (by omega) (by decide)), cl_nI (by omega)]
      simp only [lt, nI_1]
    show ∃ res : Int32 ⊕ Unit, BX3_placeOf_2 x p q (LX3_placeOf_2 x p q f) (nI j) = some res ∧ BX9_placeIn_2 y (nI i) q (LX9_placeIn_2 y (nI i) q g) (nI j) = some res ∧ _
    rw [e8j, e9j]
    by_cases c : y.2.1 18 (5 * i + j) = q
    · rw [if_pos c, if_pos c]
      exact ⟨_, rfl, rfl, fun v hv => by cases hv; exact ⟨j, Nat.le_refl _, by omega, rfl, c⟩⟩
    · rw [if_neg c, if_neg c]
      obtain ⟨res, r1, r2, r3⟩ := ih (j + 1) f g (by omega) (by omega) (by omega)
      refine ⟨res, r1, r2, fun v hv => ?_⟩
      obtain ⟨l, l1, l2, l3, l4⟩ := r3 v hv
      exact ⟨l, by omega, l2, l3, l4⟩
/-- where one came in, or -1 -/
theorem place_at {i p po pl s : Nat} {fo : Nat → Int32} {gr da : Int32} (q : Int32) (hi : i < 24) (hs : s ≤ 5) (h2 : 2 ≤ s) (e5 : x.2.2.2.1 p = some (.inl (3, [.int gr, .int da, .int (nI s), .ref po, .ref pl]))) (e6 : x.2.2.2.1 po = some (.inr (5, fo))) (es : y.2.1 17 i = nI s) (e8 : ∀ k, k < s → fo k = y.2.1 18 (5 * i + k)) : ∃ v, fX3_placeOf x p q = some v ∧ fX9_placeIn y (nI i) q = some v ∧ (v = -1 ∨ ∃ l, l < s ∧ v = nI l) ∧ (v = 0 ↔ y.2.1 18 (5 * i) = q) := by
  obtain ⟨res, r1, r2, r3⟩ := place_loop (y := y) q hi hs e5 e6 es e8 s 0 NF NF (by omega) (by unfold NF; omega) (by unfold NF; omega)
  have r1' : LX3_placeOf_2 x p q NF 0 = some res := r1
  have r2' : LX9_placeIn_2 y (nI i) q NF 0 = some res := r2
  unfold fX3_placeOf fX9_placeIn
  rw [r1', r2']
  have first : y.2.1 18 (5 * i) = q → res = .inl 0 := by
    intro c
    have c' : y.2.1 18 (5 * i + 0) = q := c
    have := r2
    unfold NF at this
    change BX9_placeIn_2 y (nI i) q (LX9_placeIn_2 y (nI i) q 999) (nI 0) = some res at this
    unfold BX9_placeIn_2 at this
    rw [if_pos (ib_nI hi (by decide)), cl_nI (show i < 2 ^ 31 by omega), es, if_neg (by rw [nI_lei (by omega) (by omega)]; omega), at5, if_pos (ib_nI (by omega) (by decide)), cl_nI (show 5 * i + 0 < 2 ^ 31 by omega), if_pos c'] at this
    exact (Option.some.inj this).symm
  cases res with
  | inl v =>
    obtain ⟨l, -, l2, l3, l4⟩ := r3 v rfl
    refine ⟨v, rfl, rfl, Or.inr ⟨l, l2, l3⟩, fun z => ?_, fun c => ?_⟩
    · have : l = 0 := (nI_eqi (b := 0) (by omega) (by decide)).mp (l3.symm.trans z)
      subst this
      exact l4
    · have := first c
      injection this
  | inr v =>
    refine ⟨-1, rfl, rfl, Or.inl rfl, fun z => absurd z (by decide), fun c => ?_⟩
    have := first c
    cases this
theorem wins_loop (h : RO own n r t u x y) (q : Int32) : ∀ (k i : Nat) (acc : Int32) (f g : Nat), i + k = r → k < f → k < g → ∃ s, LX8_racesWon_4 x q f acc (nI i) = some s ∧ LX9_winsOf_4 y q g acc (nI i) = some s := by
  have hr := h.r24
  intro k
  induction k with
  | zero =>
    intro i acc f g hk hf hg
    obtain ⟨f, rfl⟩ : ∃ z, f = z + 1 := ⟨f - 1, by omega⟩
    obtain ⟨g, rfl⟩ : ∃ z, g = z + 1 := ⟨g - 1, by omega⟩
    have e : i = r := by omega
    subst e
    refine ⟨acc, ?_, ?_⟩
    · show BX8_racesWon_4 x q _ acc (nI i) = _
      unfold BX8_racesWon_4
      rw [h.R.ex, if_pos (Int32.le_refl _)]
    · show BX9_winsOf_4 y q _ acc (nI i) = _
      unfold BX9_winsOf_4
      rw [h.R.ey, if_pos (Int32.le_refl _)]
  | succ k ih =>
    intro i acc f g hk hf hg
    obtain ⟨f, rfl⟩ : ∃ z, f = z + 1 := ⟨f - 1, by omega⟩
    obtain ⟨g, rfl⟩ : ∃ z, g = z + 1 := ⟨g - 1, by omega⟩
    have hi : i < r := by omega
    have hlt : ¬ nI r ≤ nI i := by
      rw [nI_lei (by omega) (by omega)]
      omega
    obtain ⟨p, po, pl, fo, fl, s, a1, a2, a3, a4, a5, a6, a7, a8, a9⟩ := ra8 h hi
    rw [a5] at a2
    obtain ⟨v, v1, -, -, v3⟩ := place_at (y := y) q (by omega) a7 a6 a2 a3 a5 (fun k hk => (a8 k hk).1)
    have e8 : BX8_racesWon_4 x q (LX8_racesWon_4 x q f) acc (nI i) = LX8_racesWon_4 x q f (if y.2.1 18 (5 * i) = q then acc + 1 else acc) (nI (i + 1)) := by
      unfold BX8_racesWon_4
      rw [h.R.ex, if_neg hlt, a1]
      simp only [Option.bind_some, oc, dK_o a2, if_true, v1, lt, nI_1]
      by_cases c : y.2.1 18 (5 * i) = q
      · rw [if_pos (v3.mpr c), if_pos c]
      · rw [if_neg (fun z => c (v3.mp z)), if_neg c]
    have e9 : BX9_winsOf_4 y q (LX9_winsOf_4 y q g) acc (nI i) = LX9_winsOf_4 y q g (if y.2.1 18 (5 * i) = q then acc + 1 else acc) (nI (i + 1)) := by
      unfold BX9_winsOf_4
      have e50 : (5 : Int32) * nI i = nI (5 * i) := by
        rw [show (5 : Int32) = nI 5 from rfl, nI_ml]
      rw [h.R.ey, if_neg hlt, e50, if_pos (ib_nI (by omega) (by decide)), cl_nI (by omega)]
      simp only [lt, nI_1, Int32.add_zero]
      split
      · rfl
      · rfl
    obtain ⟨s, s1, s2⟩ := ih (i + 1) (if y.2.1 18 (5 * i) = q then acc + 1 else acc) f g (by omega) (by omega) (by omega)
    exact ⟨s, e8.trans s1, e9.trans s2⟩
/-- how often one won -/
theorem wins89 (h : RO own n r t u x y) (q : Int32) : ∃ w, fX8_racesWon x q = some w ∧ fX9_winsOf y q = some w := by
  have hr := h.r24
  obtain ⟨s, s1, s2⟩ := wins_loop h q r 0 0 NF NF (by omega) (by unfold NF; omega) (by unfold NF; omega)
  have s1 : LX8_racesWon_4 x q NF 0 0 = some s := s1
  have s2 : LX9_winsOf_4 y q NF 0 0 = some s := s2
  unfold fX8_racesWon fX9_winsOf
  rw [s1, s2]
  exact ⟨s, rfl, rfl⟩
end RACES
theorem s_raceTold : ST15 Rl := by
  intro x y a1 a2 hr
  obtain ⟨own, n, r, t, u, h⟩ := id hr
  have hr24 := h.r24
  unfold fX8_raceTold fX9_raceTold
  rw [h.R.ey, in9i (lo := 0) (hi := nI r - 1) (l := 0) rfl rfl]
  simp only [Option.bind_some, decide_eq_true_eq]
  by_cases c : 0 ≤ a1 ∧ a1 ≤ nI r - 1
  · obtain ⟨i, hi, rfl⟩ := pred_nI (by omega) c
    obtain ⟨p, po, pl, fo, fl, s, b1, b2, b3, b4, b5, b6, b7, b8, b9⟩ := ra8 h hi
    have hb : ib (nI i) 24 := ib_nI (by omega) (by decide)
    have hc : (nI i).toNatClampNeg = i := cl_nI (by omega)
    have e1 : nI s + 2 = nI (s + 2) := nI_ad s 2
    have e2 : (2 : Int32) + nI s = nI (s + 2) := by rw [Nat.add_comm]; exact nI_ad 2 s
    have e3 : nI s + 7 = nI (s + 7) := nI_ad s 7
    have e4 : (7 : Int32) + nI s = nI (s + 7) := by rw [Nat.add_comm]; exact nI_ad 7 s
    rw [b1]
    simp only [if_pos c, Option.bind_some, oc, dI_o (k := 0) b2 rfl, dI_o (k := 1) b2 rfl, dI_o (k := 2) b2 rfl, dP_o (k := 3) b2 rfl, dP_o (k := 4) b2 rfl, if_pos hb, hc, b5, in8, decide_eq_true_eq, e1, e2, e3, e4]
    rw [in9i (lo := 3) (hi := nI (s + 2)) (l := 3) rfl rfl, in9i (lo := 8) (hi := nI (s + 7)) (l := 8) rfl rfl]
    simp only [Option.bind_some, decide_eq_true_eq]
    by_cases c0 : a2 = 0
    · simp only [if_pos c0]
      exact ⟨_, rfl, rfl, hr⟩
    · by_cases c1 : a2 = 1
      · simp only [if_neg c0, if_pos c1]
        exact ⟨_, rfl, rfl, hr⟩
      · by_cases c2 : a2 = 2
        · simp only [if_neg c0, if_neg c1, if_pos c2]
          exact ⟨_, rfl, rfl, hr⟩
        · simp only [if_neg c0, if_neg c1, if_neg c2]
          by_cases c3 : 3 ≤ a2 ∧ a2 ≤ nI (s + 2)
          · obtain ⟨k, hk, rfl⟩ := ix_of (n := s + 3) (by omega) (Int32.le_trans (by decide) c3.1) (Int32.lt_of_le_of_lt c3.2 (nI_lt (by omega) (by omega)))
            have k3 : 3 ≤ k := (nI_lei (a := 3) (by decide) (by omega)).mp c3.1
            have q1 : nI k - 3 = nI (k - 3) := nI_sb (c := 3) k3
            have q2 : ((5 * nI i) + nI k) - 3 = nI (5 * i + (k - 3)) := by
              rw [at5, show (3 : Int32) = nI 3 from rfl, nI_sb (by omega)]
              congr 1
              omega
            rw [if_pos c3, if_pos c3, q1, q2, dA_o b3 (ib_nI (by omega) (by decide)), if_pos (ib_nI (by omega) (by decide)), cl_nI (show k - 3 < 2 ^ 31 by omega), cl_nI (show 5 * i + (k - 3) < 2 ^ 31 by omega), (b8 (k - 3) (by omega)).1]
            exact ⟨_, rfl, rfl, hr⟩
          · rw [if_neg c3, if_neg c3]
            by_cases c4 : 8 ≤ a2 ∧ a2 ≤ nI (s + 7)
            · obtain ⟨k, hk, rfl⟩ := ix_of (n := s + 8) (by omega) (Int32.le_trans (by decide) c4.1) (Int32.lt_of_le_of_lt c4.2 (nI_lt (by omega) (by omega)))
              have k3 : 8 ≤ k := (nI_lei (a := 8) (by decide) (by omega)).mp c4.1
              have q1 : nI k - 8 = nI (k - 8) := nI_sb (c := 8) k3
              have q2 : ((5 * nI i) + nI k) - 8 = nI (5 * i + (k - 8)) := by
                rw [at5, show (8 : Int32) = nI 8 from rfl, nI_sb (by omega)]
                congr 1
                omega
              rw [if_pos c4, if_pos c4, q1, q2, dA_o b4 (ib_nI (by omega) (by decide)), if_pos (ib_nI (by omega) (by decide)), cl_nI (show k - 8 < 2 ^ 31 by omega), cl_nI (show 5 * i + (k - 8) < 2 ^ 31 by omega), (b8 (k - 8) (by omega)).2]
              exact ⟨_, rfl, rfl, hr⟩
            · rw [if_neg c4, if_neg c4]
              exact ⟨_, rfl, rfl, hr⟩
  · rw [ra8n h c, if_neg c]
    exact ⟨_, rfl, rfl, hr⟩
