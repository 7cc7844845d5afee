/-! classes of horses -/
def isA (kd k : Nat) : Bool := decide (kd = k) || (decide (k = 0)) || (decide (kd = 4) && decide (k = 1)) || (decide (kd = 5) && decide (k = 3))
theorem kind9 (q1 : Int32) (y : MS) (kd k : Nat) (h1 : kd < 6) (h2 : k < 6) : ∃ v, LX9_taken_33 y q1 (nI k) NF (nI kd) = some v ∧ (v = nI k ↔ isA kd k = true) := by
  have a : kd = 0 ∨ kd = 1 ∨ kd = 2 ∨ kd = 3 ∨ kd = 4 ∨ kd = 5 := by omega
  have b : k = 0 ∨ k = 1 ∨ k = 2 ∨ k = 3 ∨ k = 4 ∨ k = 5 := by omega
  rcases a with rfl | rfl | rfl | rfl | rfl | rfl <;> rcases b with rfl | rfl | rfl | rfl | rfl | rfl <;> exact ⟨_, rfl, by decide⟩
theorem kind8 (x : XS) (kd k : Nat) (h1 : kd < 6) (h2 : k < 6) : bs (LX1_isOfKind_7 x (nI k) NF (nI kd) 0) (fun a => some a) (fun _ => some false) = some (isA kd k) := by
  have a : kd = 0 ∨ kd = 1 ∨ kd = 2 ∨ kd = 3 ∨ kd = 4 ∨ kd = 5 := by omega
  have b : k = 0 ∨ k = 1 ∨ k = 2 ∨ k = 3 ∨ k = 4 ∨ k = 5 := by omega
  rcases a with rfl | rfl | rfl | rfl | rfl | rfl <;> rcases b with rfl | rfl | rfl | rfl | rfl | rfl <;> rfl
theorem s_taken : ST29 Rl := by
  intro x y a1 a2 hr
  obtain ⟨own, n, r, t, u, h⟩ := id hr
  have kk : fX1_isKind a2 = some (decide (0 ≤ a2 ∧ a2 ≤ 5)) := by
    unfold fX1_isKind
    by_cases c : a2 < 0
    · rw [if_pos c, decide_eq_false (ineg c _)]
    · rw [if_neg c]
      by_cases c1 : 6 ≤ a2
      · rw [if_pos c1, decide_eq_false]
        intro q
        exact absurd (Int32.le_trans c1 q.2) (by decide)
      · rw [if_neg c1, decide_eq_true]
        obtain ⟨g, hg, rfl⟩ := ix_of (n := 6) (by decide) (Int32.not_lt.mp c) (Int32.not_le.mp c1)
        exact ⟨Int32.not_lt.mp c, (nI_lei (b := 5) (by omega) (by decide)).mpr (by omega)⟩
  unfold fX8_taken fX9_taken
  rw [kk, in9i (lo := 0) (hi := 5) (l := 0) (h := 5) rfl rfl]
  simp only [Option.bind_some, decide_eq_true_eq, hs9 h]
  by_cases c : (0 : Int32) ≤ a2 ∧ a2 ≤ 5
  · obtain ⟨k, hk, rfl⟩ := ix_of (n := 6) (by decide) c.1 (Int32.lt_of_le_of_lt c.2 (by decide))
    simp only [if_pos c]
    rcases ho h a1 with c2 | ⟨i, hi, rfl, c2⟩
    · rw [ha8n h c2, if_neg c2]
      exact ⟨_, rfl, rfl, hr⟩
    · obtain ⟨p, h1, h2, h3, -⟩ := ha8 h hi
      have v := h.H.va i hi
      obtain ⟨kd, hkd, ekd⟩ := ix_of (n := 6) (by decide) v.kd0 (Int32.lt_of_le_of_lt v.kd1 (by decide))
      obtain ⟨w, w1, w2⟩ := kind9 (nI i) y kd k hkd hk
      have w3 := kind8 x kd k hkd hk
      have e8 : fX1_isOfKind x p (nI k) = some (isA kd k) := by
        unfold fX1_isOfKind
        rw [dI_o (k := 0) h3 rfl, ekd]
        exact w3
      rw [h1, if_pos c2]
      simp only [Option.bind_some, oc, dK_o h3, if_true, e8, dI_o (k := 1) h3 rfl, if_pos (ib10 h hi), cln h hi, lt, ekd, w1]
      by_cases q : isA kd k = true
      · rw [if_pos q, if_pos (w2.mpr q)]
        exact ⟨_, rfl, rfl, hr⟩
      · rw [if_neg q, if_neg (fun z => q (w2.mp z))]
        exact ⟨_, rfl, rfl, hr⟩
  · simp only [if_neg c]
    exact ⟨_, rfl, rfl, hr⟩
