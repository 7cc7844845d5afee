/-! the greatest and the least -/
def uv (F : Nat) (S : Nat → Nat) : Nat → Option (Nat × Nat × Nat)
  | 0 => none
  | i + 1 => if F.testBit i = true then some (match uv F S i with
    | none => (S i, S i, i)
    | some (a, b, c) => (if S i ≤ a then a else S i, if b ≤ S i then b else S i, if S i ≤ a then c else i)) else uv F S i
theorem uv_none {F : Nat} {S : Nat → Nat} : ∀ i, uv F S i = none → ∀ j, j < i → F.testBit j = false := by
  intro i
  induction i with
  | zero => intro _ j hj; omega
  | succ i ih =>
    intro h j hj
    have h : (if F.testBit i = true then _ else uv F S i) = none := h
    by_cases q : F.testBit i = true
    · rw [if_pos q] at h
      cases h
    · rw [if_neg q] at h
      by_cases q2 : j = i
      · rw [q2]
        cases q3 : F.testBit i
        · rfl
        · exact absurd q3 q
      · exact ih h j (by omega)
theorem uv_congr {F : Nat} {S S' : Nat → Nat} : ∀ i, (∀ j, j < i → S j = S' j) → uv F S i = uv F S' i := by
  intro i
  induction i with
  | zero => intro _; rfl
  | succ i ih =>
    intro h
    have e := ih (fun j hj => h j (by omega))
    unfold uv
    rw [e, h i (Nat.lt_succ_self i)]
theorem uv_in {F : Nat} {S : Nat → Nat} {i : Nat} (q : F.testBit i = true) : uv F S (i + 1) = some (match uv F S i with
    | none => (S i, S i, i)
    | some (a, b, c) => (if S i ≤ a then a else S i, if b ≤ S i then b else S i, if S i ≤ a then c else i)) := by
  show (if F.testBit i = true then _ else uv F S i) = _
  rw [if_pos q]
theorem uv_is {F : Nat} {S : Nat → Nat} {m : Nat} : ∀ i, (∀ j, j < i → F.testBit j = true → S j ≤ m) → ∀ a b c, uv F S i = some (a, b, c) → S c = a ∧ c < i ∧ F.testBit c = true ∧ b ≤ a ∧ a ≤ m := by
  intro i
  induction i with
  | zero => intro _ a b c h; cases h
  | succ i ih =>
    intro hm a b c h
    unfold uv at h
    by_cases q : F.testBit i = true
    · rw [if_pos q] at h
      have hi := hm i (Nat.lt_succ_self i) q
      have h := Option.some.inj h
      cases e : uv F S i with
      | none =>
        rw [e] at h
        injection h with h1 h
        injection h with h2 h3
        subst h1 h2 h3
        exact ⟨rfl, Nat.lt_succ_self i, q, Nat.le_refl _, hi⟩
      | some p =>
        obtain ⟨a', b', c'⟩ := p
        rw [e] at h
        obtain ⟨i1, i2, i3, i4, i5⟩ := ih (fun j hj => hm j (by omega)) a' b' c' e
        injection h with h1 h
        injection h with h2 h3
        by_cases w : S i ≤ a'
        · rw [if_pos w] at h1 h3
          subst h1 h3
          refine ⟨i1, by omega, i3, ?_, i5⟩
          rw [← h2]
          split <;> omega
        · rw [if_neg w] at h1 h3
          subst h1 h3
          refine ⟨rfl, Nat.lt_succ_self _, q, ?_, hi⟩
          rw [← h2]
          split <;> omega
    · rw [if_neg q] at h
      obtain ⟨i1, i2, i3, i4, i5⟩ := ih (fun j hj => hm j (by omega)) a b c h
      exact ⟨i1, by omega, i3, i4, i5⟩
def s89 (x z : XS) : Prop := z.1 = x.1 ∧ (∀ k, k ≠ 18 → k ≠ 19 → z.2.1 k = x.2.1 k) ∧ z.2.2 = x.2.2
theorem s89.rf (x : XS) : s89 x x := ⟨rfl, fun _ _ _ => rfl, rfl⟩
theorem s89.tr {a b c : XS} (h : s89 a b) (g : s89 b c) : s89 a c := ⟨g.1.trans h.1, fun k q p => (g.2.1 k q p).trans (h.2.1 k q p), g.2.2.trans h.2.2⟩
theorem s19.s89 {x z : XS} (h : s19 x z) : s89 x z := ⟨h.1, fun k _ p => h.2.1 k p, h.2.2⟩
theorem s89.A (x : XS) (i : Nat) (v : Int32) : s89 x (xsA x 18 i v) := ⟨rfl, fun _ q _ => up2_ne q, rfl⟩
theorem s89.kX {x z : XS} (h : s89 x z) : kX x z := ⟨fun k _ => by rw [h.1], by rw [h.1], by rw [h.1], fun k hk => h.2.1 k (ne_in (A := [18]) (by decide) hk (by decide)) (ne_in (A := [19]) (by decide) hk (by decide)), h.2.2⟩
def lgt (w w' : MS) : Prop := (∀ j, j ≠ 20 → w'.1 0 j = w.1 0 j) ∧ w'.2.1 = w.2.1
theorem lgt.rf (w : MS) : lgt w w := ⟨fun _ _ => rfl, rfl⟩
theorem lgt.tr {a b c : MS} (h : lgt a b) (g : lgt b c) : lgt a c := ⟨fun j q => (g.1 j q).trans (h.1 j q), g.2.trans h.2⟩
theorem lgs.lgt {w w' : MS} (h : lgs w w') : lgt w w' := ⟨fun j _ => by rw [h.1], h.2⟩
theorem lgt.S (w : MS) (v : Int32) : lgt w (msS w 0 20 v) := ⟨fun _ q => if_neg q, rfl⟩
theorem lgt.kM {w w' : MS} (h : lgt w w') : kM w w' := ⟨⟨fun k hk => h.1 k (ne_in (A := [20]) (by decide) hk (by decide)), fun _ _ => by rw [h.2]⟩, by rw [h.2], by rw [h.2], by rw [h.2]⟩
section UNEVEN
variable {own : Nat → Nat} {n r t u : Nat} {A : Nat → Int32} {F s : Nat} {z : XS} {w : MS}
theorem CZ.mv2 (c : CZ own n r t u A F s z w) {z' : XS} {w' : MS} (h : s89 z z') (g : lgt w w') : CZ own n r t u A F s z' w' := by
  refine ⟨c.R.keep h.kX (kM_rs9 A g.kM.1 g.kM.2.1 g.kM.2.2.1), by rw [h.1]; exact c.ff, by rw [h.1]; exact c.fs, by rw [g.1 15 (by decide)]; exact c.ws, c.s3, c.F1, c.F2, fun i hi ht => ?_, fun i hi => ?_⟩
  · rw [g.2, h.2.1 17 (by decide) (by decide)]
    exact c.B i hi ht
  · rw [h.2.1 17 (by decide) (by decide)]
    exact c.S i hi
/-- what the reference has at hand -/
def rel9 (w : MS) (u2 u4 : Int64) (p : Option (Nat × Nat × Nat)) : Prop := match p with
  | none => u2 = -1 ∧ u4 = -1
  | some (a, b, c) => u2 = nL a ∧ u4 = nL b ∧ w.1 0 20 = nI c
theorem out_tail (c : CZ own n r t u A F s z w) : ∀ (k i f : Nat), i + k = 10 → n ≤ i → k < f → LX0_shareOut_2 f (nI i) z = some z := by
  intro k
  induction k with
  | zero =>
    intro i f hk hi hf
    obtain ⟨f, rfl⟩ : ∃ z, f = z + 1 := ⟨f - 1, by omega⟩
    have e : i = 10 := by omega
    subst e
    show BX0_shareOut_2 _ (nI 10) z = _
    unfold BX0_shareOut_2
    rw [if_pos (by decide)]
  | succ k ih =>
    intro i f hk hi hf
    obtain ⟨f, rfl⟩ : ∃ z, f = z + 1 := ⟨f - 1, by omega⟩
    show BX0_shareOut_2 _ (nI i) z = _
    unfold BX0_shareOut_2
    rw [if_neg (by rw [show (10 : Int32) = nI 10 from rfl, nI_lei (by decide) (by omega)]; omega), c.runs (by omega), c.far hi, Option.bind_some, if_neg (by decide)]
    simp only [lt, nI_1]
    exact ih (i + 1) f (by omega) (by omega) (by omega)
theorem out_loop {M : Nat} (hM : 60 * (2 * s + 1) ^ many F ≤ M) (hM2 : M ≤ 5042100) : ∀ (k i fu gu : Nat) (u2 u4 : Int64) (z : XS) (w : MS) (S : Nat → Nat), i + k = n → 10 - i < fu → k < gu → CZ own n r t u A F s z w → (∀ j, j < i → F.testBit j = true → z.2.1 18 j = nI (S j) ∧ S j ≤ M) → rel9 w u2 u4 (uv F S i) → ∃ S' z' w' u2' u4', LX0_shareOut_2 fu (nI i) z = some z' ∧ LX9_unevenness_12 (nI F) gu u2 u4 (nI i) w = some (u2', u4', w') ∧ s89 z z' ∧ lgt w w' ∧ (∀ j, j < n → F.testBit j = true → z'.2.1 18 j = nI (S' j) ∧ S' j ≤ M) ∧ rel9 w' u2' u4' (uv F S' n) := by
  intro k
  induction k with
  | zero =>
    intro i fu gu u2 u4 z w S hk hf hg c hS hr
    obtain ⟨gu, rfl⟩ : ∃ z, gu = z + 1 := ⟨gu - 1, by omega⟩
    have hn := c.n10
    have e : i = n := by omega
    subst e
    have ey : w.1 0 13 = nI i := c.R.H.ey
    refine ⟨S, z, w, u2, u4, out_tail c (10 - i) i fu (by omega) (Nat.le_refl _) hf, ?_, s89.rf z, lgt.rf w, hS, hr⟩
    show BX9_unevenness_12 _ _ _ _ (nI i) w = _
    unfold BX9_unevenness_12
    rw [ey, if_pos (Int32.le_refl _)]
  | succ k ih =>
    intro i fu gu u2 u4 z w S hk hf hg c hS hr
    obtain ⟨fu, rfl⟩ : ∃ z, fu = z + 1 := ⟨fu - 1, by omega⟩
    obtain ⟨gu, rfl⟩ : ∃ z, gu = z + 1 := ⟨gu - 1, by omega⟩
    have hn := c.n10
    have hi : i < n := by omega
    have ey : w.1 0 13 = nI n := c.R.H.ey
    have hlt : ¬ nI n ≤ nI i := by
      rw [nI_lei (by omega) (by omega)]
      omega
    have l10 : ¬ (10 : Int32) ≤ nI i := by
      rw [show (10 : Int32) = nI 10 from rfl, nI_lei (by decide) (by omega)]
      omega
    show ∃ S' z' w' u2' u4', BX0_shareOut_2 (LX0_shareOut_2 fu) (nI i) z = some z' ∧ BX9_unevenness_12 (nI F) (LX9_unevenness_12 (nI F) gu) u2 u4 (nI i) w = some (u2', u4', w') ∧ _
    unfold BX0_shareOut_2 BX9_unevenness_12
    rw [if_neg l10, ey, if_neg hlt, c.runs (by omega), c.of hi]
    simp only [Option.bind_some, lt, nI_1]
    by_cases q : F.testBit i = true
    · obtain ⟨T, z1, w1, a1, a2, a3, a4, -, a5'⟩ := share89t c hi q
      have a5 : T ≤ M := Nat.le_trans a5' hM
      have c1 := c.mv a3 a4
      rw [if_pos q, if_pos q, a1, a2]
      simp only [bind2, if_pos (ib10 c.R hi), cln c.R hi]
      have hS1 : ∀ j, j < i + 1 → F.testBit j = true → (xsA z1 18 i (nI T)).2.1 18 j = nI ((fun j => if j = i then T else S j) j) ∧ (fun j => if j = i then T else S j) j ≤ M := by
        intro j hj ht
        show (if j = i then nI T else z1.2.1 18 j) = nI (if j = i then T else S j) ∧ (if j = i then T else S j) ≤ M
        by_cases q2 : j = i
        · rw [if_pos q2, if_pos q2]
          exact ⟨rfl, a5⟩
        · rw [if_neg q2, if_neg q2, a3.2.1 18 (by decide)]
          exact hS j (by omega) ht
      have hcg : uv F S i = uv F (fun j => if j = i then T else S j) i := uv_congr i (fun j hj => by
        show S j = if j = i then T else S j
        rw [if_neg (by omega)])
      have euv : uv F (fun j => if j = i then T else S j) (i + 1) = some (match uv F S i with
          | none => (T, T, i)
          | some (a, b, c) => (if T ≤ a then a else T, if b ≤ T then b else T, if T ≤ a then c else i)) := by
        rw [uv_in q, ← hcg]
        simp only [if_true]
      have fin : ∀ (v2 v4 : Int64) (w2 : MS), lgt w1 w2 → rel9 w2 v2 v4 (uv F (fun j => if j = i then T else S j) (i + 1)) → ∃ S' z' w' u2' u4', LX0_shareOut_2 fu (nI (i + 1)) (xsA z1 18 i (nI T)) = some z' ∧ LX9_unevenness_12 (nI F) gu v2 v4 (nI (i + 1)) w2 = some (u2', u4', w') ∧ s89 z z' ∧ lgt w w' ∧ (∀ j, j < n → F.testBit j = true → z'.2.1 18 j = nI (S' j) ∧ S' j ≤ M) ∧ rel9 w' u2' u4' (uv F S' n) := by
        intro v2 v4 w2 g1 g2
        obtain ⟨S', z', w', u2', u4', m1, m2, m3, m4, m5, m6⟩ := ih (i + 1) fu gu v2 v4 _ w2 _ (by omega) (by omega) (by omega) (c1.mv2 (s89.A _ _ _) g1) hS1 g2
        exact ⟨S', z', w', u2', u4', m1, m2, (a3.s89.tr (s89.A _ _ _)).tr m3, (a4.lgt.tr g1).tr m4, m5, m6⟩
      rw [euv] at fin
      cases e : uv F S i with
      | none =>
        rw [e] at hr fin
        obtain ⟨r1, r2⟩ := hr
        subst r1 r2
        have l1 : ¬ nL T ≤ -1 := by
          rw [Int64.le_iff_toInt_le, nL_toInt (by omega), show (-1 : Int64).toInt = -1 from rfl]
          omega
        rw [if_neg l1]
        simp only [if_pos (show (-1 : Int64) < 0 by decide)]
        exact fin (nL T) (nL T) (msS w1 0 20 (nI i)) (lgt.S _ _) ⟨rfl, rfl, rfl⟩
      | some p =>
        obtain ⟨a, b, c'⟩ := p
        rw [e] at hr fin
        obtain ⟨r1, r2, r3⟩ := hr
        subst r1 r2
        obtain ⟨i1, i2, i3, i4, i5⟩ := uv_is (m := M) i (fun j hj ht => (hS j hj ht).2) a b c' e
        have nb : ¬ nL b < 0 := by
          rw [show (0 : Int64) = nL 0 from rfl, nL_lti (by omega) (by decide)]
          omega
        have r3' : w1.1 0 20 = nI c' := by
          rw [a4.1]
          exact r3
        simp only [nL_lei (show T < 2 ^ 63 by omega) (show a < 2 ^ 63 by omega), nL_lei (show b < 2 ^ 63 by omega) (show T < 2 ^ 63 by omega), if_neg nb]
        by_cases w1' : T ≤ a
        · simp only [if_pos w1'] at fin ⊢
          by_cases w2' : b ≤ T
          · simp only [if_pos w2'] at fin ⊢
            exact fin (nL a) (nL b) w1 (lgt.rf _) ⟨rfl, rfl, r3'⟩
          · simp only [if_neg w2'] at fin ⊢
            exact fin (nL a) (nL T) w1 (lgt.rf _) ⟨rfl, rfl, r3'⟩
        · simp only [if_neg w1'] at fin ⊢
          by_cases w2' : b ≤ T
          · simp only [if_pos w2'] at fin ⊢
            exact fin (nL T) (nL b) (msS w1 0 20 (nI i)) (lgt.S _ _) ⟨rfl, rfl, rfl⟩
          · simp only [if_neg w2'] at fin ⊢
            exact fin (nL T) (nL T) (msS w1 0 20 (nI i)) (lgt.S _ _) ⟨rfl, rfl, rfl⟩
    · rw [if_neg q, if_neg q]
      refine ih (i + 1) fu gu u2 u4 z w S (by omega) (by omega) (by omega) c (fun j hj ht => ?_) ?_
      · by_cases q2 : j = i
        · rw [q2] at ht
          exact absurd ht q
        · exact hS j (by omega) ht
      · have : uv F S (i + 1) = uv F S i := by
          show (if F.testBit i = true then _ else uv F S i) = _
          rw [if_neg q]
        rw [this]
        exact hr
theorem gap_loop {S : Nat → Nat} {M : Nat} (hM2 : M ≤ 5042100) (c : CZ own n r t u A F s z w) (hS : ∀ j, j < n → F.testBit j = true → z.2.1 18 j = nI (S j) ∧ S j ≤ M) : ∀ (k i f : Nat) (u1 u2 : Int32), i + k = 10 → k < f → (match uv F S i with | none => u1 = 0 ∧ u2 = nI M | some (a, b, _) => u1 = nI a ∧ u2 = nI b) → ∃ v1 v2, LX0_gap_12 z f u1 u2 (nI i) = some (v1, v2) ∧ (match uv F S 10 with | none => v1 = 0 ∧ v2 = nI M | some (a, b, _) => v1 = nI a ∧ v2 = nI b) := by
  have hS' : ∀ j, F.testBit j = true → z.2.1 18 j = nI (S j) ∧ S j ≤ M := by
    intro j ht
    by_cases q : j < n
    · exact hS j q ht
    · rw [c.far (by omega)] at ht
      cases ht
  intro k
  induction k with
  | zero =>
    intro i f u1 u2 hk hf hm
    obtain ⟨f, rfl⟩ : ∃ z, f = z + 1 := ⟨f - 1, by omega⟩
    have e : i = 10 := by omega
    subst e
    refine ⟨u1, u2, ?_, hm⟩
    show BX0_gap_12 z _ u1 u2 (nI 10) = _
    unfold BX0_gap_12
    rw [if_pos (by decide)]
  | succ k ih =>
    intro i f u1 u2 hk hf hm
    obtain ⟨f, rfl⟩ : ∃ z, f = z + 1 := ⟨f - 1, by omega⟩
    show ∃ v1 v2, BX0_gap_12 z (LX0_gap_12 z f) u1 u2 (nI i) = some (v1, v2) ∧ _
    unfold BX0_gap_12
    have hb : ib (nI i) 10 := ib_nI (by omega) (by decide)
    have hc : (nI i).toNatClampNeg = i := cl_nI (by omega)
    rw [if_neg (by rw [show (10 : Int32) = nI 10 from rfl, nI_lei (by decide) (by omega)]; omega), c.runs (by omega), Option.bind_some]
    simp only [if_pos hb, hc, lt, nI_1]
    by_cases q : F.testBit i = true
    · obtain ⟨s1, s2⟩ := hS' i q
      rw [if_pos q, s1]
      refine ih (i + 1) f _ _ (by omega) (by omega) ?_
      have euv : uv F S (i + 1) = some (match uv F S i with
          | none => (S i, S i, i)
          | some (a, b, c) => (if S i ≤ a then a else S i, if b ≤ S i then b else S i, if S i ≤ a then c else i)) := by
        show (if F.testBit i = true then _ else uv F S i) = _
        rw [if_pos q]
      rw [euv]
      cases e : uv F S i with
      | none =>
        rw [e] at hm
        obtain ⟨m1, m2⟩ := hm
        subst m1 m2
        show (if 0 < nI (S i) then nI (S i) else 0) = nI (S i) ∧ (if nI (S i) < nI M then nI (S i) else nI M) = nI (S i)
        have t1 : (0 : Int32) < nI (S i) ↔ 0 < S i := nI_lti (a := 0) (by decide) (by omega)
        have t2 : nI (S i) < nI M ↔ S i < M := nI_lti (by omega) (by omega)
        refine ⟨?_, ?_⟩
        · by_cases w : 0 < S i
          · rw [if_pos (t1.mpr w)]
          · rw [if_neg (fun z => w (t1.mp z)), show S i = 0 by omega]
            rfl
        · by_cases w : S i < M
          · rw [if_pos (t2.mpr w)]
          · rw [if_neg (fun z => w (t2.mp z)), show S i = M by omega]
      | some p =>
        obtain ⟨a, b, c'⟩ := p
        rw [e] at hm
        obtain ⟨m1, m2⟩ := hm
        subst m1 m2
        obtain ⟨i1, i2, i3, i4, i5⟩ := uv_is (m := M) i (fun j hj ht => (hS' j ht).2) a b c' e
        show (if nI a < nI (S i) then nI (S i) else nI a) = nI (if S i ≤ a then a else S i) ∧ (if nI (S i) < nI b then nI (S i) else nI b) = nI (if b ≤ S i then b else S i)
        have t1 : nI a < nI (S i) ↔ a < S i := nI_lti (by omega) (by omega)
        have t2 : nI (S i) < nI b ↔ S i < b := nI_lti (by omega) (by omega)
        constructor
        · by_cases w : S i ≤ a
          · rw [if_neg (fun z => by have := t1.mp z; omega), if_pos w]
          · rw [if_pos (t1.mpr (by omega)), if_neg w]
        · by_cases w : b ≤ S i
          · rw [if_neg (fun z => by have := t2.mp z; omega), if_pos w]
          · rw [if_pos (t2.mpr (by omega)), if_neg w]
    · rw [if_neg q]
      refine ih (i + 1) f _ _ (by omega) (by omega) ?_
      have : uv F S (i + 1) = uv F S i := by
        show (if F.testBit i = true then _ else uv F S i) = _
        rw [if_neg q]
      rw [this]
      exact hm
theorem best_loop8 {S : Nat → Nat} (c : CZ own n r t u A F s z w) (hS : ∀ j, j < n → F.testBit j = true → z.2.1 18 j = nI (S j) ∧ S j ≤ 5042100) : ∀ (k i f : Nat) (u1 : Int32), i + k = 10 → k < f → (match uv F S i with | none => u1 = -1 | some (_, _, c) => u1 = nI c) → ∃ v1, LX0_likeliest_4 z f u1 (nI i) = some v1 ∧ (match uv F S 10 with | none => v1 = -1 | some (_, _, c) => v1 = nI c) := by
  have hS' : ∀ j, F.testBit j = true → z.2.1 18 j = nI (S j) ∧ S j ≤ 5042100 := by
    intro j ht
    by_cases q : j < n
    · exact hS j q ht
    · rw [c.far (by omega)] at ht
      cases ht
  intro k
  induction k with
  | zero =>
    intro i f u1 hk hf hm
    obtain ⟨f, rfl⟩ : ∃ z, f = z + 1 := ⟨f - 1, by omega⟩
    have e : i = 10 := by omega
    subst e
    refine ⟨u1, ?_, hm⟩
    show BX0_likeliest_4 z _ u1 (nI 10) = _
    unfold BX0_likeliest_4
    rw [if_pos (by decide)]
  | succ k ih =>
    intro i f u1 hk hf hm
    obtain ⟨f, rfl⟩ : ∃ z, f = z + 1 := ⟨f - 1, by omega⟩
    show ∃ v1, BX0_likeliest_4 z (LX0_likeliest_4 z f) u1 (nI i) = some v1 ∧ _
    unfold BX0_likeliest_4
    have hb : ib (nI i) 10 := ib_nI (by omega) (by decide)
    have hc : (nI i).toNatClampNeg = i := cl_nI (by omega)
    rw [if_neg (by rw [show (10 : Int32) = nI 10 from rfl, nI_lei (by decide) (by omega)]; omega), c.runs (by omega), Option.bind_some]
    simp only [if_pos hb, hc, lt, nI_1]
    by_cases q : F.testBit i = true
    · obtain ⟨s1, s2⟩ := hS' i q
      have euv : uv F S (i + 1) = some (match uv F S i with
          | none => (S i, S i, i)
          | some (a, b, c) => (if S i ≤ a then a else S i, if b ≤ S i then b else S i, if S i ≤ a then c else i)) := by
        show (if F.testBit i = true then _ else uv F S i) = _
        rw [if_pos q]
      rw [if_pos q, s1]
      cases e : uv F S i with
      | none =>
        rw [e] at hm euv
        rw [if_pos hm]
        exact ih (i + 1) f _ (by omega) (by omega) (by rw [euv])
      | some p =>
        obtain ⟨a, b, c'⟩ := p
        rw [e] at hm euv
        have hm : u1 = nI c' := hm
        subst hm
        obtain ⟨i1, i2, i3, i4, i5⟩ := uv_is (m := 5042100) i (fun j hj ht => (hS' j ht).2) a b c' e
        rw [if_neg (neg1_ne (by omega)), if_pos (ib_nI (show c' < 10 by omega) (by decide)), cl_nI (show c' < 2 ^ 31 by omega), (hS' c' i3).1, i1]
        have t1 : nI (S i) ≤ nI a ↔ S i ≤ a := nI_lei (by omega) (by omega)
        by_cases w : S i ≤ a
        · rw [if_pos (t1.mpr w)]
          exact ih (i + 1) f _ (by omega) (by omega) (by rw [euv]; show nI c' = nI (if S i ≤ a then c' else i); rw [if_pos w])
        · rw [if_neg (fun z => w (t1.mp z))]
          exact ih (i + 1) f _ (by omega) (by omega) (by rw [euv]; show nI i = nI (if S i ≤ a then c' else i); rw [if_neg w])
    · rw [if_neg q]
      refine ih (i + 1) f _ (by omega) (by omega) ?_
      have : uv F S (i + 1) = uv F S i := by
        show (if F.testBit i = true then _ else uv F S i) = _
        rw [if_neg q]
      rw [this]
      exact hm
theorem uv_far {S : Nat → Nat} (c : CZ own n r t u A F s z w) : ∀ d, uv F S (n + d) = uv F S n := by
  intro d
  induction d with
  | zero => rfl
  | succ d ih =>
    show (if F.testBit (n + d) = true then _ else uv F S (n + d)) = _
    rw [c.far (Nat.le_add_right _ _), if_neg (by decide), ih]
theorem uneven89 (c : CZ own n r t u A F s z w) (F0 : 1 ≤ F) : ∃ a b h z' w', fX0_shareOut z = some z' ∧ fX0_gap z' = some (nI (a - b)) ∧ fX0_likeliest z' = some (nI h) ∧ fX9_unevenness w (nI F) = some (nL (a - b), w') ∧ s89 z z' ∧ lgt w w' ∧ w'.1 0 20 = nI h ∧ h < n ∧ a ≤ 5042100 := by
  have hn := c.n10
  have hK := (casesX8 c).2
  have hM2 : 60 * (2 * s + 1) ^ many F ≤ 5042100 := by omega
  obtain ⟨S, z', w', u2, u4, l1, l2, l3, l4, l5, l6⟩ := out_loop (Nat.le_refl _) hM2 n 0 NF NF (-1) (-1) z w (fun _ => 0) (by omega) (by unfold NF; omega) (by unfold NF; omega) c (fun j hj => absurd hj (Nat.not_lt_zero j)) ⟨rfl, rfl⟩
  have l1 : LX0_shareOut_2 NF 0 z = some z' := l1
  have l2 : LX9_unevenness_12 (nI F) NF (-1) (-1) 0 w = some (u2, u4, w') := l2
  have c' := c.mv2 l3 l4
  have ef := uv_far (S := S) c (10 - n)
  rw [show n + (10 - n) = 10 by omega] at ef
  have l5' : ∀ j, j < n → F.testBit j = true → z'.2.1 18 j = nI (S j) ∧ S j ≤ 5042100 := fun j hj ht => And.intro (l5 j hj ht).1 (Nat.le_trans (l5 j hj ht).2 hM2)
  obtain ⟨g1, g2, g3, g4⟩ := gap_loop hM2 c' l5 10 0 NF 0 (nI (60 * (2 * s + 1) ^ many F)) (by omega) (by unfold NF; omega) ⟨rfl, rfl⟩
  obtain ⟨b1, b2, b3⟩ := best_loop8 c' l5' 10 0 NF (-1) (by omega) (by unfold NF; omega) rfl
  have g3 : LX0_gap_12 z' NF 0 (nI (60 * (2 * s + 1) ^ many F)) 0 = some (g1, g2) := g3
  have b2 : LX0_likeliest_4 z' NF (-1) 0 = some b1 := b2
  rw [ef] at g4 b3
  cases e : uv F S n with
  | none =>
    exfalso
    have h0 := uv_none n e
    have : F = 0 := by
      apply Nat.eq_of_testBit_eq
      intro i
      rw [Nat.zero_testBit]
      by_cases q : i < n
      · exact h0 i q
      · exact c.far (by omega)
    omega
  | some p =>
    obtain ⟨a, b, h⟩ := p
    rw [e] at l6 g4 b3
    obtain ⟨r1, r2, r3⟩ := l6
    obtain ⟨g5, g6⟩ := g4
    have b3 : b1 = nI h := b3
    subst r1 r2 g5 g6 b3
    obtain ⟨i1, i2, i3, i4, i5⟩ := uv_is (m := 5042100) n (fun j hj ht => (l5' j hj ht).2) a b h e
    refine ⟨a, b, h, z', w', ?_, ?_, ?_, ?_, l3, l4, r3, i2, i5⟩
    · unfold fX0_shareOut
      rw [l1]
      rfl
    · unfold fX0_gap
      rw [(casesX8 c').1, Option.bind_some, show (60 : Int32) * nI ((2 * s + 1) ^ many F) = nI (60 * (2 * s + 1) ^ many F) from nI_ml 60 _]
      simp only [lt]
      rw [g3]
      simp only [bind2, nI_sb i4]
    · unfold fX0_likeliest
      rw [b2, Option.bind_some]
      show some (if 0 < nI h then nI h else 0) = _
      have t1 : (0 : Int32) < nI h ↔ 0 < h := nI_lti (a := 0) (by decide) (by omega)
      by_cases q : 0 < h
      · rw [if_pos (t1.mpr q)]
      · rw [if_neg (fun z => q (t1.mp z)), show h = 0 by omega]
        rfl
    · unfold fX9_unevenness
      rw [l2]
      simp only [bind3, nL_sb i4]
end UNEVEN
theorem s_even : ST8 Rl := by
  intro x y a1 a2 a3 hr
  obtain ⟨own, n, r, t, u, h⟩ := id hr
  have hn := h.n10
  unfold fX8_even fX9_even
  rw [wh8, wh9, pt8, pt9]
  simp only [Option.bind_some, decide_eq_true_eq]
  rcases isField89 h a1 with ⟨⟨F, rfl, F0, F1, F2⟩, e1, e2⟩ | ⟨-, e1, e2⟩
  · rw [e1, e2]
    simp only [Option.bind_some, if_true]
    rcases of400 a2 with c | ⟨W, hW, rfl, c, ed, em⟩
    · rw [if_neg c, if_neg c]
      exact ⟨_, _, _, rfl, rfl, hr⟩
    · rw [if_pos c, if_pos c]
      by_cases c6 : 0 ≤ a3 ∧ a3 ≤ 1
      · rw [if_pos c6, if_pos c6]
        obtain ⟨s, z, w, p1, p2, cz, p3, p4, p5, p6, p7⟩ := post89 h hW F1 F2
        obtain ⟨a, b, hb, z', w', l1, l2, l3, l4, l5, l6, l7, l8, l9⟩ := uneven89 cz F0
        have cz' := cz.mv2 l5 l6
        obtain ⟨K, k1, k2, k3, k4⟩ := cases89 cz'
        obtain ⟨v, v1, v2⟩ := lowest89 (a := a - b) (b := 60 * K) (by omega) (by omega) (by omega) a3
        rw [← nI_ml 60 K] at v1
        rw [← nL_ml 60 K] at v2
        have v1 : fX8_inLowestTerms (nI (a - b)) (60 * nI K) a3 = some v := v1
        have v2 : fX9_lowest (nL (a - b)) (60 * nL K) a3 = some v := v2
        rw [p1, p2, Option.bind_some, Option.bind_some, l1, l4, Option.bind_some, l2, Option.bind_some]
        simp only [bind2, k1, k2, Option.bind_some, v1, v2]
        exact ⟨_, _, _, rfl, rfl, own, n, r, t, u, cz'.back (fun j hj => by rw [l6.2, p7 9 (by decide)])⟩
      · rw [if_neg c6, if_neg c6]
        exact ⟨_, _, _, rfl, rfl, hr⟩
  · rw [e1, e2]
    exact ⟨_, _, _, rfl, rfl, hr⟩
