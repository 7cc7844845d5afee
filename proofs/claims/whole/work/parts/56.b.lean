theorem pair_loop {own : Nat → Nat} {n r t u : Nat} {x : XS} {y : MS} (h : RO own n r t u x y) (a b c : Int32) : ∀ (k i : Nat) (acc : Int32) (f g : Nat), i + k = r → k < f → k < g → ∃ s, LX8_pair_39 x a b c f acc (nI i) = some s ∧ LX9_pair_42 y a b c g acc (nI i) = some s := by
  have hr := h.r24
  intro k
  induction k with
  | zero =>
    intro i acc f g hk hf hg
    obtain ⟨f, rfl⟩ : ∃ z, f = z + 1 := ⟨f - 1, by omega⟩
    obtain ⟨g, rfl⟩ : ∃ z, g = z + 1 := ⟨g - 1, by omega⟩
    have e : i = r := by omega
    subst e
    refine ⟨acc, ?_, ?_⟩
    · show BX8_pair_39 x a b c _ acc (nI i) = _
      unfold BX8_pair_39
      rw [h.R.ex, if_pos (Int32.le_refl _)]
    · show BX9_pair_42 y a b c _ acc (nI i) = _
      unfold BX9_pair_42
      rw [h.R.ey, if_pos (Int32.le_refl _)]
  | succ k ih =>
    intro i acc f g hk hf hg
    obtain ⟨f, rfl⟩ : ∃ z, f = z + 1 := ⟨f - 1, by omega⟩
    obtain ⟨g, rfl⟩ : ∃ z, g = z + 1 := ⟨g - 1, by omega⟩
    have hi : i < r := by omega
    have hlt : ¬ nI r ≤ nI i := by
      rw [nI_lei (by omega) (by omega)]
      omega
    obtain ⟨p, po, pl, fo, fl, s, a1, a2, a3, a4, a5, a6, a7, a8, a9⟩ := ra8 h hi
    have v := h.R.va i hi
    obtain ⟨gr, hgr, egr⟩ := ix_of (n := 4) (by decide) v.gr0 (Int32.lt_of_le_of_lt v.gr1 (by decide))
    have a2' := a2
    rw [a5] at a2'
    obtain ⟨va, va1, va2, va3, -⟩ := place_at (y := y) a (by omega) a7 a6 a2' a3 a5 (fun k hk => (a8 k hk).1)
    obtain ⟨vb, vb1, vb2, vb3, -⟩ := place_at (y := y) b (by omega) a7 a6 a2' a3 a5 (fun k hk => (a8 k hk).1)
    obtain ⟨s0, l1, l2⟩ := ih (i + 1) acc f g (by omega) (by omega) (by omega)
    obtain ⟨s1, m1, m2⟩ := ih (i + 1) (acc + 1) f g (by omega) (by omega) (by omega)
    have hg3 : (0 : Int32) ≤ y.2.1 15 i ∧ y.2.1 15 i ≤ 3 := ⟨v.gr0, v.gr1⟩
    rw [egr] at hg3
    have hb24 : ib (nI i) 24 := ib_nI (by omega) (by decide)
    have hb4 : ib (nI gr) 4 := ib_nI hgr (by decide)
    show ∃ s, BX8_pair_39 x a b c (LX8_pair_39 x a b c f) acc (nI i) = some s ∧ BX9_pair_42 y a b c (LX9_pair_42 y a b c g) acc (nI i) = some s
    unfold BX8_pair_39 BX9_pair_42 fX8_countsForPair
    rw [h.R.ex, h.R.ey, if_neg hlt, if_neg hlt, a1, va2, vb2]
    simp only [Option.bind_some, oc, dK_o a2, if_true, va1, vb1, lt, nI_1, Int32.add_zero, if_pos hb24, cl_nI (show i < 2 ^ 31 by omega)]
    by_cases c1 : va = -1
    · simp only [if_pos c1, Option.bind_some, Bool.false_eq_true, if_false]
      exact ⟨s0, l1, l2⟩
    · by_cases c2 : vb = -1
      · simp only [if_neg c1, if_pos c2, Option.bind_some, Bool.false_eq_true, if_false]
        exact ⟨s0, l1, l2⟩
      · obtain ⟨la, hla, ela⟩ := va3.resolve_left c1
        obtain ⟨lb, hlb, elb⟩ := vb3.resolve_left c2
        have r1 := fun q => rated8 h (b := q) hla a7 a2 a3 a4 a8 (a9 la hla).1
        have r2 := fun q => rated8 h (b := q) hlb a7 a2 a3 a4 a8 (a9 lb hlb).1
        have r3 := fun q => rated9 h (b := q) (show i < 24 by omega) hla a7 (a9 la hla).1
        have r4 := fun q => rated9 h (b := q) (show i < 24 by omega) hlb a7 (a9 lb hlb).1
        have n1 : ¬ nI la = -1 := neg1_ne (by omega)
        have n2 : ¬ nI lb = -1 := neg1_ne (by omega)
        simp only [ela, elb, if_neg n1, if_neg n2, dI_o (k := 0) a2 rfl, Option.bind_some, gr8, decide_eq_true hg3, if_true, egr, if_pos hb4, cl_nI (show gr < 2 ^ 31 by omega), h.P.eq gr hgr, ela, elb, r1, r2, r3, r4]
        by_cases c3 : c = 0
        · simp only [if_pos c3, Option.bind_some, if_true]
          exact ⟨s1, m1, m2⟩
        · by_cases c4 : c = 1
          · simp only [if_neg c3, if_pos c4]
            by_cases c5 : nI lb ≤ nI la
            · simp only [if_pos c5, Option.bind_some, Bool.false_eq_true, if_false]
              exact ⟨s0, l1, l2⟩
            · simp only [if_neg c5, Option.bind_some, if_true]
              exact ⟨s1, m1, m2⟩
          · simp only [if_neg c3, if_neg c4]
            by_cases c5 : rated y i la (y.2.1 10 gr) ≤ rated y i lb (y.2.1 10 gr)
            · simp only [if_pos c5, Option.bind_some, Bool.false_eq_true, if_false]
              exact ⟨s0, l1, l2⟩
            · simp only [if_neg c5, Option.bind_some, if_true]
              exact ⟨s1, m1, m2⟩
theorem s_pair : ST18 Rl := by
  intro x y a1 a2 a3 hr
  obtain ⟨own, n, r, t, u, h⟩ := id hr
  have hr24 := h.r24
  obtain ⟨s, l1, l2⟩ := pair_loop h a1 a2 a3 r 0 0 NF NF (by omega) (by unfold NF; omega) (by unfold NF; omega)
  have l1 : LX8_pair_39 x a1 a2 a3 NF 0 0 = some s := l1
  have l2 : LX9_pair_42 y a1 a2 a3 NF 0 0 = some s := l2
  unfold fX8_pair fX9_pair
  rw [l1, l2, in9i (lo := 0) (hi := 2) (l := 0) (h := 2) rfl rfl]
  simp only [hs8 h, hs9 h, in8, Option.bind_some, decide_eq_true_eq]
  repeat' split
  all_goals exact ⟨_, rfl, rfl, hr⟩
