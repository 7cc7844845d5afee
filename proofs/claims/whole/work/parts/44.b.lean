theorem s_force : ST13 Rl := by
  intro x y a1 hr
  obtain ⟨own, n, r, t, u, h⟩ := id hr
  unfold fX8_force fX9_force
  rw [in8, h.T.ex, h.T.ey, in9i (lo := 0) (hi := nI t - 1) (l := 0) rfl rfl]
  simp only [Option.bind_some, decide_eq_true_eq, lt]
  by_cases c : (0 : Int32) ≤ a1 ∧ a1 ≤ nI t - 1
  · simp only [if_pos c]
    obtain ⟨i, hi, rfl⟩ := pred_nI (by have := h.T.le; omega) c
    refine ⟨_, xsS x 0 10 (nI i), msS y 0 4 (nI i), rfl, ?_, own, n, r, t, i, h.fr, h.H, h.P, h.R, h.A, h.I, h.S, h.T.l1, h.T.le, hi, h.T.ex, h.T.ey, rfl, rfl, h.T.at'⟩
    rw [h.T.eu, h.T.ev]
  · simp only [if_neg c]
    exact ⟨_, _, _, rfl, rfl, hr⟩
theorem lead8 {own : Nat → Nat} {n r t u : Nat} {x : XS} {y : MS} (h : RO own n r t u x y) {i : Nat} (hi : i < n) : fX8_leadOf x (nI i) = some (y.2.1 9 i) := by
  obtain ⟨p, h1, h2, h3, -⟩ := ha8 h hi
  unfold fX8_leadOf
  simp only [h1, Option.bind_some, oc, dI_o (k := 5) h3 rfl]
theorem sum_leads {own : Nat → Nat} {n r t u : Nat} {x : XS} {y : MS} (h : RO own n r t u x y) : ∀ (k i : Nat) (acc : Int32) (f g : Nat), i + k = n → k < f → k < g → ∃ s, LX8_sumOfLeads_4 x f acc (nI i) = some s ∧ LX9_count_76 y g acc (nI i) = some s := by
  have hn := h.n10
  intro k
  induction k with
  | zero =>
    intro i acc f g hk hf hg
    obtain ⟨f, rfl⟩ : ∃ z, f = z + 1 := ⟨f - 1, by omega⟩
    obtain ⟨g, rfl⟩ : ∃ z, g = z + 1 := ⟨g - 1, by omega⟩
    have e : i = n := by omega
    subst e
    refine ⟨acc, ?_, ?_⟩
    · show BX8_sumOfLeads_4 x _ acc (nI i) = some acc
      unfold BX8_sumOfLeads_4
      rw [if_pos (by rw [h.H.ex]; exact Int32.le_refl _)]
    · show BX9_count_76 y _ acc (nI i) = some acc
      unfold BX9_count_76
      rw [if_pos (by rw [h.H.ey]; exact Int32.le_refl _)]
  | succ k ih =>
    intro i acc f g hk hf hg
    obtain ⟨f, rfl⟩ : ∃ z, f = z + 1 := ⟨f - 1, by omega⟩
    obtain ⟨g, rfl⟩ : ∃ z, g = z + 1 := ⟨g - 1, by omega⟩
    have hi : i < n := by omega
    have hlt : ¬ nI n ≤ nI i := by
      rw [Int32.not_le]
      exact nI_lt hi (by omega)
    obtain ⟨s, e1, e2⟩ := ih (i + 1) (acc + y.2.1 9 i) f g (by omega) (by omega) (by omega)
    refine ⟨s, ?_, ?_⟩
    · show BX8_sumOfLeads_4 x _ acc (nI i) = some s
      unfold BX8_sumOfLeads_4
      rw [if_neg (by rw [h.H.ex]; exact hlt)]
      simp only [lead8 h hi, Option.bind_some, lt]
      rw [nI_1]
      exact e1
    · show BX9_count_76 y _ acc (nI i) = some s
      unfold BX9_count_76
      rw [if_neg (by rw [h.H.ey]; exact hlt), if_pos (ib10 h hi)]
      simp only [lt, cln h hi]
      rw [nI_1]
      exact e2
theorem s_count : ST24 Rl := by
  intro x y a1 hr
  obtain ⟨own, n, r, t, u, h⟩ := id hr
  obtain ⟨s, e1, e2⟩ := sum_leads h n 0 0 NF NF (by omega) (by have := h.n10; unfold NF; omega) (by have := h.n10; unfold NF; omega)
  have e1' : fX8_sumOfLeads x = some s := by
    unfold fX8_sumOfLeads
    rw [show (LX8_sumOfLeads_4 x NF 0 0) = some s from e1]
    rfl
  have e2' : LX9_count_76 y NF 0 0 = some s := e2
  obtain ⟨tn, -, q1, q2, -⟩ := h.A.ex
  unfold fX8_count fX9_count
  rw [e1', e2', h.H.ex, h.H.ey, h.R.ex, h.R.ey, h.T.ex, h.T.ey, h.T.eu, h.T.ev, h.P.es, q1, q2]
  simp only [Option.bind_some]
  repeat' split
  all_goals exact ⟨_, rfl, rfl, hr⟩
theorem s_set : ST1 Rl := by
  intro x y a1 a2 a3 hr
  obtain ⟨own, n, r, t, u, h⟩ := id hr
  unfold fX8_set fX9_set
  simp only [hs9 h, in8, Option.bind_some, decide_eq_true_eq]
  rw [in9i (lo := 0) (hi := 2) (l := 0) (h := 2) rfl rfl]
  rcases ho h a1 with c | ⟨i, hi, rfl, c⟩
  · simp only [ha8n h c, if_neg c, Option.bind_some, oc]
    exact ⟨_, _, _, rfl, rfl, hr⟩
  · obtain ⟨p, h1, h2, h3, h4⟩ := ha8 h hi
    have v := h.H.va i hi
    have hb := ib10 h hi
    simp only [h1, if_pos c, Option.bind_some, oc, decide_eq_true_eq, dI_o (k := 3) h3 rfl, dI_o (k := 4) h3 rfl, dI_o (k := 5) h3 rfl, if_pos hb, cln h hi, lt]
    have d3 : dPut x p 1 3 (.int a3) = some (xsD x p (hoD (y.2.1 4 i) (y.2.1 7 i) (y.2.1 8 i) a3 (y.2.1 6 i) (y.2.1 9 i))) := dPut_o h3 (Nat.le_of_ble_eq_true rfl)
    have d4 : dPut x p 1 4 (.int a3) = some (xsD x p (hoD (y.2.1 4 i) (y.2.1 7 i) (y.2.1 8 i) (y.2.1 5 i) a3 (y.2.1 9 i))) := dPut_o h3 (Nat.le_of_ble_eq_true rfl)
    have d5 : dPut x p 1 5 (.int a3) = some (xsD x p (hoD (y.2.1 4 i) (y.2.1 7 i) (y.2.1 8 i) (y.2.1 5 i) (y.2.1 6 i) a3)) := dPut_o h3 (Nat.le_of_ble_eq_true rfl)
    have same : ∀ (f : Nat → Int32) (j : Nat), f j = if j = i then f i else f j := by
      intro f j
      split
      · rename_i q
        rw [q]
      · rfl
    by_cases c0 : a2 = 0
    · subst c0
      simp only [show ¬ (0 : Int32) = 1 by decide, show ¬ (0 : Int32) = 2 by decide, show ((0 : Int32) ≤ 0 ∧ (0 : Int32) ≤ 2) by decide, if_true, if_false, and_self, Option.bind_some]
      rw [in9i (lo := 0) (hi := 99) (l := 0) (h := 99) rfl rfl]
      simp only [Option.bind_some, decide_eq_true_eq]
      by_cases c3 : (0 : Int32) ≤ a3 ∧ a3 ≤ 99
      · simp only [if_pos c3, d3, Option.bind_some]
        exact ⟨_, _, msA y 5 i a3, rfl, rfl, own, n, r, t, u, h.setH hi h4 h2 h3 ⟨v.kd0, v.kd1, v.no0, v.no1, v.gr0, v.gr1, c3.1, c3.2, v.ag0, v.ag1, v.ld0, v.ld1⟩ (kN.A (by decide)) (fun j => rfl) (same _) (same _)⟩
      · simp only [if_neg c3]
        exact ⟨_, _, _, rfl, rfl, hr⟩
    · by_cases c1 : a2 = 1
      · subst c1
        simp only [show ¬ (1 : Int32) = 0 by decide, show ¬ (1 : Int32) = 2 by decide, show ((0 : Int32) ≤ 1 ∧ (1 : Int32) ≤ 2) by decide, if_true, if_false, and_self, Option.bind_some]
        rw [in9i (lo := 2) (hi := 12) (l := 2) (h := 12) rfl rfl]
        simp only [Option.bind_some, decide_eq_true_eq]
        by_cases c3 : (2 : Int32) ≤ a3 ∧ a3 ≤ 12
        · simp only [if_pos c3, d4, Option.bind_some]
          exact ⟨_, _, msA y 6 i a3, rfl, rfl, own, n, r, t, u, h.setH hi h4 h2 h3 ⟨v.kd0, v.kd1, v.no0, v.no1, v.gr0, v.gr1, v.st0, v.st1, c3.1, c3.2, v.ld0, v.ld1⟩ (kN.A (by decide)) (same _) (fun j => rfl) (same _)⟩
        · simp only [if_neg c3]
          exact ⟨_, _, _, rfl, rfl, hr⟩
      · by_cases c2 : a2 = 2
        · subst c2
          simp only [show ¬ (2 : Int32) = 0 by decide, show ¬ (2 : Int32) = 1 by decide, show ((0 : Int32) ≤ 2 ∧ (2 : Int32) ≤ 2) by decide, if_true, if_false, and_self, Option.bind_some]
          rw [in9i (lo := 0) (hi := 60) (l := 0) (h := 60) rfl rfl]
          simp only [Option.bind_some, decide_eq_true_eq]
          by_cases c3 : (0 : Int32) ≤ a3 ∧ a3 ≤ 60
          · simp only [if_pos c3, d5, Option.bind_some]
            exact ⟨_, _, msA y 9 i a3, rfl, rfl, own, n, r, t, u, h.setH hi h4 h2 h3 ⟨v.kd0, v.kd1, v.no0, v.no1, v.gr0, v.gr1, v.st0, v.st1, v.ag0, v.ag1, c3.1, c3.2⟩ (kN.A (by decide)) (same _) (same _) (fun j => rfl)⟩
          · simp only [if_neg c3]
            exact ⟨_, _, _, rfl, rfl, hr⟩
        · have cn : ¬ ((0 : Int32) ≤ a2 ∧ a2 ≤ 2) := by
            intro q
            obtain ⟨g, hg, rfl⟩ := ix_of (n := 3) (by decide) q.1 (Int32.lt_of_le_of_lt q.2 (by decide))
            have : g = 0 ∨ g = 1 ∨ g = 2 := by omega
            rcases this with rfl | rfl | rfl
            · exact c0 rfl
            · exact c1 rfl
            · exact c2 rfl
          simp only [if_neg c0, if_neg c1, if_neg c2, if_neg cn]
          exact ⟨_, _, _, rfl, rfl, hr⟩
