/-! horses by a sheet -/
theorem horse_row {x x' : XS} {r a b c : Int32} (e : fX8_horse x a b c = some (r, x')) : x'.2.2.1 10 = x.2.2.1 10 := by
  unfold fX8_horse at e
  rcases tobe8 a b c with ⟨-, q⟩ | ⟨-, q⟩
  · rw [q, Option.bind_some, if_pos rfl] at e
    by_cases c1 : x.1 0 1 < 10
    · rw [if_pos c1] at e
      have e0 : (xsN x (.inl (1, [.int 0, .int 0, .int 0, .int 0, .int 0, .int 0]))).2.2.2.1 x.2.2.2.2 = some (.inl (1, [.int 0, .int 0, .int 0, .int 0, .int 0, .int 0])) := if_pos rfl
      obtain ⟨x6, i0, i1, i2, i3, i4, i5, i6⟩ := hx_init e0 rfl a b (c / 1000) ((irm c 1000) / 10) (irm c 10)
      simp only [lt] at e
      rw [dK_o e0, if_pos rfl, i0, Option.bind_some] at e
      by_cases c2 : ib (x.1 0 1) 10
      · rw [if_pos c2, dK_o i5, if_pos rfl] at e
        have := (Prod.mk.inj (Option.some.inj e)).2
        rw [← this]
        show up2 x6.2.2.1 1 (x.1 0 1).toNatClampNeg (some x.2.2.2.2) 10 = _
        rw [up2_ne (by decide), i3]
        rfl
      · rw [if_neg c2] at e
        cases e
    · rw [if_neg c1] at e
      have := (Prod.mk.inj (Option.some.inj e)).2
      rw [← this]
  · rw [q, Option.bind_some, if_neg (by decide)] at e
    have := (Prod.mk.inj (Option.some.inj e)).2
    rw [← this]
theorem le_sub3 {m j i : Nat} (hm : m ≤ 40) (hj : j ≤ 10) (hi : i < 2 ^ 31) : nI i ≤ (nI m - (3 * nI j)) - 3 ↔ i + 3 * j + 3 ≤ m := by
  rw [show (3 : Int32) * nI j = nI (3 * j) from nI_ml 3 j, show (3 : Int32) = nI 3 from rfl, Int32.le_iff_toInt_le, Int32.toInt_sub, Int32.toInt_sub, nI_toInt hi, nI_toInt (show m < 2 ^ 31 by omega), nI_toInt (show 3 * j < 2 ^ 31 by omega), nI_toInt (show 3 < 2 ^ 31 by omega)]
  have e1 : ((m : Int) - (3 * j : Nat)).bmod (2 ^ 32) = (m : Int) - 3 * j := by
    rw [Int.bmod_def]
    omega
  rw [e1]
  have e2 : ((m : Int) - 3 * j - (3 : Nat)).bmod (2 ^ 32) = (m : Int) - 3 * j - 3 := by
    rw [Int.bmod_def]
    omega
  rw [e2]
  omega
theorem horses_loop {s i p N : Nat} (hs : s < 4) (hN : N ≤ 10) (hi : i < 2 ^ 31) : ∀ (k j f g : Nat) (acc : Int32) (x : XS) (y : MS), j + k = N → k < f → k < g → (j = 0 ∨ i + 3 * j ≤ 40) → Rl x y → x.2.2.1 10 s = some p → (∃ r x' y', LX8_horses_67 (nI N) p f acc (nI (i + 3 * j)) (nI j) x = some (.inl (r, x')) ∧ LX9_horses_75 (nI s) (nI i) (nI N) g acc (nI j) y = some (.inl (r, y')) ∧ Rl x' y') ∨ ∃ r x' y', LX8_horses_67 (nI N) p f acc (nI (i + 3 * j)) (nI j) x = some (.inr (r, x')) ∧ LX9_horses_75 (nI s) (nI i) (nI N) g acc (nI j) y = some (.inr (r, y')) ∧ Rl x' y' := by
  intro k
  induction k with
  | zero =>
    intro j f g acc x y hk hf hg hij hr hp
    obtain ⟨f, rfl⟩ : ∃ z, f = z + 1 := ⟨f - 1, by omega⟩
    obtain ⟨g, rfl⟩ : ∃ z, g = z + 1 := ⟨g - 1, by omega⟩
    have e : j = N := by omega
    subst e
    refine Or.inr ⟨acc, x, y, ?_, ?_, hr⟩
    · show BX8_horses_67 _ _ _ acc _ (nI j) x = _
      unfold BX8_horses_67
      rw [if_pos (Int32.le_refl _)]
    · show BX9_horses_75 _ _ _ _ acc (nI j) y = _
      unfold BX9_horses_75
      rw [if_pos (Int32.le_refl _)]
  | succ k ih =>
    intro j f g acc x y hk hf hg hij hr hp
    obtain ⟨f, rfl⟩ : ∃ z, f = z + 1 := ⟨f - 1, by omega⟩
    obtain ⟨g, rfl⟩ : ∃ z, g = z + 1 := ⟨g - 1, by omega⟩
    have hlt : ¬ nI N ≤ nI j := by
      rw [nI_lei (by omega) (by omega)]
      omega
    have hi0 : ¬ nI i < 0 := by
      rw [show (0 : Int32) = nI 0 from rfl, nI_lti hi (by decide)]
      omega
    obtain ⟨own, n, r, t, u, h⟩ := id hr
    rcases h.S.at' s hs with ⟨q1, q2⟩ | ⟨q1, a, ai, m, fi, q2, q3, q4, q5, q6, q7, q8, q9, q10, q11⟩
    · rw [q2] at hp
      cases hp
    · have e : a = p := Option.some.inj (q2.symm.trans hp)
      subst e
      have e8 : LX8_horses_67 (nI N) a (f + 1) acc (nI (i + 3 * j)) (nI j) x = BX8_horses_67 (nI N) a (LX8_horses_67 (nI N) a f) acc (nI (i + 3 * j)) (nI j) x := rfl
      have e9 : LX9_horses_75 (nI s) (nI i) (nI N) (g + 1) acc (nI j) y = BX9_horses_75 (nI s) (nI i) (nI N) (LX9_horses_75 (nI s) (nI i) (nI N) g) acc (nI j) y := rfl
      rw [e8, e9]
      unfold BX8_horses_67 BX9_horses_75
      rw [if_neg hlt, if_neg hlt, if_neg hi0, if_pos (ib_nI hs (by decide)), cl_nI (by omega), q8, dK_o q5, if_pos rfl]
      by_cases c : i + 3 * j + 3 ≤ m
      · have s1 : fX5_hasStretch x a (nI (i + 3 * j)) 3 = some true := by
          rcases str8 q5 q6 q7 (nI (i + 3 * j)) 3 with ⟨w1, w2⟩ | ⟨w1, w2⟩
          · exact w2
          · exact absurd ⟨i + 3 * j, 3, rfl, rfl, c⟩ w1
        have d0 : dA x ai (nI (i + 3 * j)) = some (y.2.1 29 (40 * s + i + 3 * j)) := by
          rw [dA_o q6 (ib_nI (by omega) (by omega)), cl_nI (by omega), q11 _ (by omega), Nat.add_assoc]
        have d1 : dA x ai (nI (i + 3 * j + 1)) = some (y.2.1 29 (40 * s + i + 3 * j + 1)) := by
          rw [dA_o q6 (ib_nI (by omega) (by omega)), cl_nI (by omega), q11 _ (by omega)]
          exact congrArg (fun z => some (y.2.1 29 z)) (by omega)
        have d2 : dA x ai (nI (i + 3 * j) + 2) = some (y.2.1 29 (40 * s + i + 3 * j + 2)) := by
          rw [show nI (i + 3 * j) + 2 = nI (i + 3 * j + 2) from nI_ad _ 2, dA_o q6 (ib_nI (by omega) (by omega)), cl_nI (by omega), q11 _ (by omega)]
          exact congrArg (fun z => some (y.2.1 29 z)) (by omega)
        have ea : ((40 : Int32) * nI s + nI i) + (3 * nI j) = nI (40 * s + i + 3 * j) := by
          rw [at40, show (3 : Int32) * nI j = nI (3 * j) from nI_ml 3 j, nI_ad]
        obtain ⟨res, x', y', h1, h2, hr'⟩ := s_horse x y (y.2.1 29 (40 * s + i + 3 * j)) (y.2.1 29 (40 * s + i + 3 * j + 1)) (y.2.1 29 (40 * s + i + 3 * j + 2)) hr
        have hp' : x'.2.2.1 10 s = some a := by
          rw [horse_row h1]
          exact q2
        rw [if_pos ((le_sub3 q7 (by omega) hi).mpr c), s1, Option.bind_some, if_pos rfl]
        simp only [dP_o (k := 1) q5 rfl, Option.bind_some, d0, d1, d2, ea, lt, nI_1]
        rw [show nI (40 * s + i + 3 * j) + 2 = nI (40 * s + i + 3 * j + 2) from nI_ad _ 2]
        rw [if_pos (ib_nI (by omega) (by decide)), if_pos (ib_nI (by omega) (by decide)), if_pos (ib_nI (by omega) (by decide)), cl_nI (by omega), cl_nI (by omega), cl_nI (by omega), h1, h2]
        simp only [bind2, Int32.add_zero]
        have e3 : nI (i + 3 * j) + 3 = nI (i + 3 * (j + 1)) := nI_ad _ 3
        rw [e3]
        by_cases cr : res < 0
        · rw [if_pos cr, if_pos cr]
          exact ih (j + 1) f g acc x' y' (by omega) (by omega) (by omega) (Or.inr (by omega)) hr' hp'
        · rw [if_neg cr, if_neg cr]
          exact ih (j + 1) f g (acc + 1) x' y' (by omega) (by omega) (by omega) (Or.inr (by omega)) hr' hp'
      · have s1 : fX5_hasStretch x a (nI (i + 3 * j)) 3 = some false := by
          rcases str8 q5 q6 q7 (nI (i + 3 * j)) 3 with ⟨w1, w2⟩ | ⟨w1, w2⟩
          · exfalso
            obtain ⟨i', c', z1, z2, z3⟩ := w1
            by_cases hj : i + 3 * j < 2 ^ 31
            · have := (nI_eqi hj (by omega)).mp z1
              have := (nI_eqi (a := 3) (by decide) (by omega)).mp z2
              omega
            · rcases hij with rfl | q
              · omega
              · omega
          · exact w2
        rw [if_neg (fun z => c ((le_sub3 q7 (by omega) hi).mp z)), s1, Option.bind_some, if_neg (by decide)]
        exact Or.inl ⟨-12, x, y, rfl, rfl, hr⟩
theorem s_horses : ST28 Rl := by
  intro x y a1 a2 a3 a4 hr
  obtain ⟨own, n, r, t, u, h⟩ := id hr
  unfold fX8_horses fX9_horses
  rw [sh8, sh9, in8, in8, in9i (lo := 0) (hi := 2) (l := 0) (h := 2) rfl rfl, in9i (lo := 0) (hi := 10) (l := 0) (h := 10) rfl rfl]
  simp only [Option.bind_some, decide_eq_true_eq]
  rcases of4 a1 with c | ⟨s, hs, rfl, c, hb, hc⟩
  · rw [if_neg c, if_neg c]
    exact ⟨_, _, _, rfl, rfl, hr⟩
  · simp only [if_pos c, if_pos hb, hc, lt]
    by_cases c2 : (0 : Int32) ≤ a2 ∧ a2 ≤ 2
    · by_cases c4 : (0 : Int32) ≤ a4 ∧ a4 ≤ 10
      · obtain ⟨N, hN, rfl⟩ := ix_of (n := 11) (by decide) c4.1 (Int32.lt_of_le_of_lt c4.2 (by decide))
        simp only [if_pos c2, if_pos c4]
        rcases h.S.at' s hs with ⟨q1, q2⟩ | ⟨q1, a, ai, m, f, q2, q3, q4, q5, q6, q7, q8, q9, q10, q11⟩
        · rw [if_pos q1, if_pos q1, q2]
          exact ⟨_, _, _, rfl, rfl, hr⟩
        · have n1 : ¬ y.2.1 26 s = 0 := by
            rw [q1]
            decide
          rw [if_neg n1, if_neg n1, q2]
          simp only [oc, dI_o (k := 0) q5 rfl, Option.bind_some]
          by_cases c3 : y.2.1 27 s = a2
          · rw [if_pos c3, if_pos c3]
            have key : (∃ r x' y', LX8_horses_67 (nI N) a 11 0 a3 0 x = some (.inl (r, x')) ∧ LX9_horses_75 (nI s) a3 (nI N) NF 0 0 y = some (.inl (r, y')) ∧ Rl x' y') ∨ ∃ r x' y', LX8_horses_67 (nI N) a 11 0 a3 0 x = some (.inr (r, x')) ∧ LX9_horses_75 (nI s) a3 (nI N) NF 0 0 y = some (.inr (r, y')) ∧ Rl x' y' := by
              rcases sg32 a3 with k3 | ⟨i, hi, rfl⟩
              · show (∃ r x' y', BX8_horses_67 (nI N) a (LX8_horses_67 (nI N) a 10) 0 a3 0 x = some (.inl (r, x')) ∧ BX9_horses_75 (nI s) a3 (nI N) (LX9_horses_75 (nI s) a3 (nI N) 999) 0 0 y = some (.inl (r, y')) ∧ Rl x' y') ∨ ∃ r x' y', BX8_horses_67 (nI N) a (LX8_horses_67 (nI N) a 10) 0 a3 0 x = some (.inr (r, x')) ∧ BX9_horses_75 (nI s) a3 (nI N) (LX9_horses_75 (nI s) a3 (nI N) 999) 0 0 y = some (.inr (r, y')) ∧ Rl x' y'
                unfold BX8_horses_67 BX9_horses_75
                by_cases c5 : nI N ≤ 0
                · rw [if_pos c5, if_pos c5]
                  exact Or.inr ⟨_, _, _, rfl, rfl, hr⟩
                · have s1 : fX5_hasStretch x a a3 3 = some false := by
                    unfold fX5_hasStretch
                    rw [if_pos k3]
                  rw [if_neg c5, if_neg c5, if_pos k3, dK_o q5, if_pos rfl, s1, Option.bind_some, if_neg (by decide)]
                  exact Or.inl ⟨_, _, _, rfl, rfl, hr⟩
              · exact horses_loop (i := i) hs (show N ≤ 10 by omega) hi N 0 11 NF 0 x y (by omega) (by omega) (by unfold NF; omega) (Or.inl rfl) hr q2
            rcases key with ⟨r', x', y', k1, k2, k3⟩ | ⟨r', x', y', k1, k2, k3⟩
            · rw [k1, k2]
              exact ⟨r', x', y', rfl, rfl, k3⟩
            · rw [k1, k2]
              exact ⟨r', x', y', rfl, rfl, k3⟩
          · rw [if_neg c3, if_neg c3]
            exact ⟨_, _, _, rfl, rfl, hr⟩
      · simp only [if_pos c2, if_neg c4]
        exact ⟨_, _, _, rfl, rfl, hr⟩
    · simp only [if_neg c2]
      exact ⟨_, _, _, rfl, rfl, hr⟩
