/-! fields -/
theorem bits10 : ∀ k : Nat, k < 1024 → (fJ6_bitCount_0f7a4 (nI k)).isSome = true ∧ fJ6_bitCount_0f7a4 (nI k) = fX9_bitsOf (nI k) := by decide +kernel
theorem top10 : ∀ k : Nat, k < 11 → ((1 : Int32) <<< (nI k &&& 31)) - 1 = nI (2 ^ k - 1) := by decide
section FIELDS
variable {own : Nat → Nat} {n r t u : Nat} {x : XS} {y : MS}
/-- how many are in a field -/
def many (f : Nat) : Nat := ((List.range 10).filter (fun i => f.testBit i)).length
theorem many10 : ∀ k : Nat, k < 1024 → fX9_bitsOf (nI k) = some (nI (many k)) := by decide +kernel
def isF (n : Nat) (f : Int32) : Prop := ∃ k : Nat, f = nI k ∧ 1 ≤ k ∧ k < 2 ^ n ∧ many k ≤ 5
theorem many_le (k : Nat) : many k ≤ 10 := by
  have := List.length_filter_le (fun i => k.testBit i) (List.range 10)
  rw [List.length_range] at this
  exact this
theorem isField89 (h : RO own n r t u x y) (f : Int32) : (isF n f ∧ fX8_isField x f = some true ∧ fX9_isField y f = some true) ∨ (¬ isF n f ∧ fX8_isField x f = some false ∧ fX9_isField y f = some false) := by
  have hn := h.n10
  have hp : 2 ^ n ≤ 2 ^ 10 := Nat.pow_le_pow_right (by decide) hn
  have hp0 : 1 ≤ 2 ^ n := Nat.one_le_two_pow
  have e10 : (2 : Nat) ^ 10 = 1024 := by decide
  unfold fX8_isField fX9_isField
  rw [h.H.ex, h.H.ey, top10 n (by omega), in8, in9i (lo := 1) (hi := nI (2 ^ n - 1)) (l := 1) rfl rfl]
  simp only [Option.bind_some, decide_eq_true_eq]
  by_cases c : (1 : Int32) ≤ f ∧ f ≤ nI (2 ^ n - 1)
  · rw [if_pos c, if_pos c]
    rcases sg32 f with q | ⟨k, hk, rfl⟩
    · exact absurd (Int32.lt_of_le_of_lt c.1 q) (by decide)
    · have k1 : 1 ≤ k := (nI_lei (a := 1) (by decide) hk).mp c.1
      have k2 : k ≤ 2 ^ n - 1 := (nI_lei hk (by omega)).mp c.2
      rw [(bits10 k (by omega)).2, many10 k (by omega)]
      simp only [Option.bind_some]
      have hm := many_le k
      have l5 : (5 : Int32) < nI (many k) ↔ 5 < many k := nI_lti (a := 5) (by decide) (by omega)
      by_cases c5 : 5 < many k
      · rw [if_pos (l5.mpr c5)]
        refine Or.inr ⟨?_, rfl, rfl⟩
        rintro ⟨j, ej, j1, j2, j3⟩
        have : k = j := (nI_eqi hk (by omega)).mp ej
        subst this
        omega
      · rw [if_neg (fun z => c5 (l5.mp z))]
        exact Or.inl ⟨⟨k, rfl, k1, by omega, by omega⟩, rfl, rfl⟩
  · rw [if_neg c, if_neg c]
    refine Or.inr ⟨?_, rfl, rfl⟩
    rintro ⟨k, rfl, k1, k2, k3⟩
    exact c ⟨(nI_lei (a := 1) (by decide) (by omega)).mpr k1, (nI_lei (by omega) (by omega)).mpr (by omega)⟩
/-- the i-th is in the field -/
def inF (f : Int32) (i : Nat) : Bool := decide ((f >>> (nI i &&& 31)) &&& 1 = 1)
theorem isIn8 (h : RO own n r t u x y) (f : Int32) {i : Nat} (hi : i < n) : fX8_isIn x f (nI i) = some (inF f i) := by
  unfold fX8_isIn inF
  rw [hs8 h, decide_eq_true (nI_prd (by have := h.n10; omega) hi)]
  simp only [Option.bind_some, if_true]
  split
  · rename_i q
    rw [decide_eq_true q]
  · rename_i q
    rw [decide_eq_false q]
theorem isOf9 (h : RO own n r t u x y) (f : Int32) {i : Nat} (hi : i < n) : fX9_isOf y f (nI i) = some (inF f i) := by
  unfold fX9_isOf inF
  rw [hs9 h, decide_eq_true (nI_prd (by have := h.n10; omega) hi)]
  simp only [Option.bind_some, if_true]
  split
  · rename_i q
    rw [decide_eq_true q]
  · rename_i q
    rw [decide_eq_false q]
theorem isIn8n (h : RO own n r t u x y) (f : Int32) {a : Int32} (c : ¬ (0 ≤ a ∧ a ≤ nI n - 1)) : fX8_isIn x f a = some false := by
  unfold fX8_isIn
  rw [hs8 h, decide_eq_false c]
  rfl
theorem isOf9n (h : RO own n r t u x y) (f : Int32) {a : Int32} (c : ¬ (0 ≤ a ∧ a ≤ nI n - 1)) : fX9_isOf y f a = some false := by
  unfold fX9_isOf
  rw [hs9 h, decide_eq_false c]
  rfl
theorem gr8 (g : Int32) : fX8_isGround g = some (decide (0 ≤ g ∧ g ≤ 3)) := by
  unfold fX8_isGround
  rw [in8]
  rfl
theorem gr9 (g : Int32) : fX9_isGround g = some (decide (0 ≤ g ∧ g ≤ 3)) := by
  unfold fX9_isGround
  rw [in9i (lo := 0) (hi := 3) (l := 0) (h := 3) rfl rfl]
  rfl
theorem worth8 (h : RO own n r t u x y) (l : Int32) {g : Nat} (hg : g < 4) : fX8_worthOf x l (nI g) = some ((l * y.2.1 10 g) / 10) := by
  unfold fX8_worthOf
  have c : (0 : Int32) ≤ nI g ∧ nI g ≤ 3 := ⟨(nI_lei (a := 0) (by decide) (by omega)).mpr (Nat.zero_le _), (nI_lei (b := 3) (by omega) (by decide)).mpr (by omega)⟩
  rw [gr8, decide_eq_true c]
  simp only [Option.bind_some, if_true, if_pos (ib_nI hg (show 4 < 2 ^ 31 by decide)), cl_nI (show g < 2 ^ 31 by omega), h.P.eq g hg]
/-- what a lead is worth on a ground -/
def wth (y : MS) (g : Nat) (l : Int32) : Int32 := (l * y.2.1 10 g) / 10
theorem wth_nn (h : RO own n r t u x y) {g : Nat} (hg : g < 4) {l : Int32} (h0 : 0 ≤ l) (h1 : l ≤ 60) : ∃ w : Nat, wth y g l = nI w ∧ w ≤ 54 := by
  obtain ⟨a, ha, rfl⟩ := ix_of (n := 61) (by decide) h0 (Int32.lt_of_le_of_lt h1 (by decide))
  obtain ⟨p0, p1⟩ := h.P.p0 g hg
  obtain ⟨b, hb, e⟩ := ix_of (n := 10) (by decide) p0 (Int32.lt_of_le_of_lt p1 (by decide))
  refine ⟨a * b / 10, ?_, ?_⟩
  · unfold wth
    rw [e, nI_ml]
    exact nI_dv (c := 10) (by have : a * b ≤ 60 * 9 := Nat.mul_le_mul (by omega) (by omega); omega) (by decide)
  · have : a * b ≤ 60 * 9 := Nat.mul_le_mul (by omega) (by omega)
    omega
theorem imin_nI {a b : Nat} (ha : a < 2 ^ 31) (hb : b < 2 ^ 31) : imin (nI a) (nI b) = nI (min a b) := by
  unfold imin
  simp only [nI_lti hb ha]
  split
  · congr 1; omega
  · congr 1; omega
theorem neg1_ne {a : Nat} (ha : a < 2 ^ 31) : ¬ nI a = -1 := by
  intro q
  have := congrArg Int32.toInt q
  rw [nI_toInt ha, show (-1 : Int32).toInt = -1 from rfl] at this
  omega
theorem yards_loop (h : RO own n r t u x y) (f q3 : Int32) {g : Nat} (hg : g < 4) {h0 z0 : Nat} (hh0 : h0 < n) (hf0 : inF f h0 = true) (ez : wth y g (y.2.1 9 h0) = nI z0) (hz : z0 ≤ 54) : ∀ (k i : Nat) (b : Option Nat) (fu gu : Nat), i + k = n → k < fu → k < gu → (∀ q, b = some q → q ≤ 54) → (h0 < i → ∃ q, b = some q ∧ q ≤ z0) → ∃ s, LX8_yards_42 x f (nI g) q3 fu (nI (match b with | none => z0 | some q => min z0 q)) (nI i) = some s ∧ LX9_yards_33 y f (nI g) q3 gu (match b with | none => -1 | some q => nI q) (nI i) = some s := by
  have hn := h.n10
  intro k
  induction k with
  | zero =>
    intro i b fu gu hk hf hg2 hb hq
    obtain ⟨fu, rfl⟩ : ∃ z, fu = z + 1 := ⟨fu - 1, by omega⟩
    obtain ⟨gu, rfl⟩ : ∃ z, gu = z + 1 := ⟨gu - 1, by omega⟩
    have e : i = n := by omega
    subst e
    obtain ⟨q, rfl, q2⟩ := hq hh0
    refine ⟨nI q, ?_, ?_⟩
    · show BX8_yards_42 x _ _ _ _ _ (nI i) = _
      unfold BX8_yards_42
      rw [if_pos (by rw [h.H.ex]; exact Int32.le_refl _)]
      show some (nI (min z0 q)) = some (nI q)
      rw [Nat.min_eq_right q2]
    · show BX9_yards_33 y _ _ _ _ _ (nI i) = _
      unfold BX9_yards_33
      rw [if_pos (by rw [h.H.ey]; exact Int32.le_refl _)]
  | succ k ih =>
    intro i b fu gu hk hf hg2 hb hq
    obtain ⟨fu, rfl⟩ : ∃ z, fu = z + 1 := ⟨fu - 1, by omega⟩
    obtain ⟨gu, rfl⟩ : ∃ z, gu = z + 1 := ⟨gu - 1, by omega⟩
    have hi : i < n := by omega
    have hlt : ¬ nI n ≤ nI i := by
      rw [Int32.not_le]
      exact nI_lt hi (by omega)
    have v := h.H.va i hi
    obtain ⟨w, ew, hw54⟩ := wth_nn h hg v.ld0 v.ld1
    have e8 : ∀ a, BX8_yards_42 x f (nI g) q3 (LX8_yards_42 x f (nI g) q3 fu) a (nI i) = if inF f i = true then LX8_yards_42 x f (nI g) q3 fu (imin a (wth y g (y.2.1 9 i))) (nI (i + 1)) else LX8_yards_42 x f (nI g) q3 fu a (nI (i + 1)) := by
      intro a
      unfold BX8_yards_42
      rw [if_neg (by rw [h.H.ex]; exact hlt)]
      simp only [isIn8 h f hi, Option.bind_some, lead8 h hi, worth8 h _ hg, lt, nI_1]
      rfl
    have e9 : ∀ b, BX9_yards_33 y f (nI g) q3 (LX9_yards_33 y f (nI g) q3 gu) b (nI i) = if inF f i = true then (if b = -1 then LX9_yards_33 y f (nI g) q3 gu (wth y g (y.2.1 9 i)) (nI (i + 1)) else if b ≤ wth y g (y.2.1 9 i) then LX9_yards_33 y f (nI g) q3 gu b (nI (i + 1)) else LX9_yards_33 y f (nI g) q3 gu (wth y g (y.2.1 9 i)) (nI (i + 1))) else LX9_yards_33 y f (nI g) q3 gu b (nI (i + 1)) := by
      intro b
      unfold BX9_yards_33
      rw [if_neg (by rw [h.H.ey]; exact hlt), if_pos (ib10 h hi), if_pos (ib_nI hg (by decide))]
      simp only [isOf9 h f hi, Option.bind_some, lt, nI_1, cln h hi, cl_nI (show g < 2 ^ 31 by omega)]
      rfl
    show ∃ s, BX8_yards_42 x f (nI g) q3 (LX8_yards_42 x f (nI g) q3 fu) _ (nI i) = some s ∧ BX9_yards_33 y f (nI g) q3 (LX9_yards_33 y f (nI g) q3 gu) _ (nI i) = some s
    rw [e8, e9, ew]
    by_cases c : inF f i = true
    · rw [if_pos c, if_pos c]
      have hw0 : h0 = i → w = z0 := by
        rintro rfl
        have := ew.symm.trans ez
        exact (nI_eqi (by omega) (by omega)).mp this
      cases b with
      | none =>
        show ∃ s, LX8_yards_42 x f (nI g) q3 fu (imin (nI z0) (nI w)) (nI (i + 1)) = some s ∧ (if (-1 : Int32) = -1 then LX9_yards_33 y f (nI g) q3 gu (nI w) (nI (i + 1)) else _) = some s
        rw [if_pos rfl, imin_nI (by omega) (by omega)]
        refine ih (i + 1) (some w) fu gu (by omega) (by omega) (by omega) (fun q e => by cases e; exact hw54) (fun hlt2 => ?_)
        by_cases q : h0 < i
        · obtain ⟨_, z, -⟩ := hq q
          cases z
        · exact ⟨w, rfl, by have := hw0 (by omega); omega⟩
      | some b =>
        have hb54 := hb b rfl
        show ∃ s, LX8_yards_42 x f (nI g) q3 fu (imin (nI (min z0 b)) (nI w)) (nI (i + 1)) = some s ∧ (if nI b = -1 then LX9_yards_33 y f (nI g) q3 gu (nI w) (nI (i + 1)) else if nI b ≤ nI w then LX9_yards_33 y f (nI g) q3 gu (nI b) (nI (i + 1)) else LX9_yards_33 y f (nI g) q3 gu (nI w) (nI (i + 1))) = some s
        rw [imin_nI (by omega) (by omega), if_neg (neg1_ne (by omega))]
        simp only [nI_lei (show b < 2 ^ 31 by omega) (show w < 2 ^ 31 by omega)]
        have hfin : ∀ m : Nat, m = min b w → ∃ s, LX8_yards_42 x f (nI g) q3 fu (nI (min (min z0 b) w)) (nI (i + 1)) = some s ∧ LX9_yards_33 y f (nI g) q3 gu (nI m) (nI (i + 1)) = some s := by
          intro m hm
          have hmm : min (min z0 b) w = min z0 m := by omega
          rw [hmm]
          refine ih (i + 1) (some m) fu gu (by omega) (by omega) (by omega) (fun q e => by cases e; omega) (fun hlt2 => ?_)
          refine ⟨m, rfl, ?_⟩
          by_cases q : h0 < i
          · obtain ⟨_, z, q2⟩ := hq q
            cases z
            omega
          · have := hw0 (by omega)
            omega
        by_cases cb : b ≤ w
        · rw [if_pos cb]
          exact hfin b (by omega)
        · rw [if_neg cb]
          exact hfin w (by omega)
    · rw [if_neg c, if_neg c]
      refine ih (i + 1) b fu gu (by omega) (by omega) (by omega) hb (fun hlt2 => hq ?_)
      have : h0 ≠ i := by
        rintro rfl
        exact c hf0
      omega
end FIELDS
theorem s_yards : ST20 Rl := by
  intro x y a1 a2 a3 hr
  obtain ⟨own, n, r, t, u, h⟩ := id hr
  have hn := h.n10
  unfold fX8_yards fX9_yards
  rw [gr8, gr9]
  simp only [Option.bind_some]
  rcases isField89 h a1 with ⟨-, e1, e2⟩ | ⟨-, e1, e2⟩
  · rw [e1, e2]
    simp only [Option.bind_some, if_true, decide_eq_true_eq]
    by_cases c : (0 : Int32) ≤ a2 ∧ a2 ≤ 3
    · obtain ⟨g, hg, rfl⟩ := ix_of (n := 4) (by decide) c.1 (Int32.lt_of_le_of_lt c.2 (by decide))
      rw [if_pos c, if_pos c]
      rcases ho h a3 with q | ⟨i, hi, rfl, q⟩
      · rw [isIn8n h _ q, isOf9n h _ q]
        exact ⟨_, rfl, rfl, hr⟩
      · rw [isIn8 h _ hi, isOf9 h _ hi]
        by_cases b : inF a1 i = true
        · have v := h.H.va i hi
          obtain ⟨w, ew, hw54⟩ := wth_nn h hg v.ld0 v.ld1
          obtain ⟨s, l1, l2⟩ := yards_loop h a1 (nI i) hg hi b ew hw54 n 0 none NF NF (by omega) (by unfold NF; omega) (by unfold NF; omega) (fun q e => by cases e) (fun q => by omega)
          have l1 : LX8_yards_42 x a1 (nI g) (nI i) NF (nI w) 0 = some s := l1
          have l2 : LX9_yards_33 y a1 (nI g) (nI i) NF (-1) 0 = some s := l2
          rw [b]
          simp only [Option.bind_some, if_true, lead8 h hi, worth8 h _ hg]
          have e5 : (y.2.1 9 i * y.2.1 10 g) / 10 = nI w := ew
          rw [e5, l1, l2]
          simp only [Option.bind_some, if_pos (ib10 h hi), if_pos (ib_nI hg (show 4 < 2 ^ 31 by decide)), cln h hi, cl_nI (show g < 2 ^ 31 by omega)]
          rw [e5, Int32.mul_comm]
          exact ⟨_, rfl, rfl, hr⟩
        · simp only [Option.bind_some, if_neg b]
          exact ⟨_, rfl, rfl, hr⟩
    · rw [if_neg c, if_neg c]
      exact ⟨_, rfl, rfl, hr⟩
  · rw [e1, e2]
    exact ⟨_, rfl, rfl, hr⟩
