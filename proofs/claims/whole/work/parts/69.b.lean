/-! how many fare worse; all cases; lowest terms -/
theorem nL_dv {k c : Nat} (hk : k < 2 ^ 63) (hc : c < 2 ^ 63) : nL k / nL c = nL (k / c) := (Int64.ofNat_div hk hc).symm
theorem nL_sb {k c : Nat} (h : c ≤ k) : nL k - nL c = nL (k - c) := (Int64.ofNat_sub k c h).symm
theorem nL_md {k c : Nat} (hk : k < 2 ^ 63) (hc : c < 2 ^ 63) : lrm (nL k) (nL c) = nL (k % c) := by
  unfold lrm
  rw [nL_dv hk hc, nL_ml, nL_sb (Nat.div_mul_le_self k c)]
  congr 1
  have := Nat.div_add_mod k c
  rw [Nat.mul_comm] at this
  omega
theorem nL_eqi {a b : Nat} (ha : a < 2 ^ 63) (hb : b < 2 ^ 63) : nL a = nL b ↔ a = b := by
  rw [← Int64.toInt_inj, nL_toInt ha, nL_toInt hb]
  omega
theorem nL_lti {a b : Nat} (ha : a < 2 ^ 63) (hb : b < 2 ^ 63) : nL a < nL b ↔ a < b := by
  rw [Int64.lt_iff_toInt_lt, nL_toInt ha, nL_toInt hb]
  omega
theorem nL_lei {a b : Nat} (ha : a < 2 ^ 63) (hb : b < 2 ^ 63) : nL a ≤ nL b ↔ a ≤ b := by
  rw [Int64.le_iff_toInt_le, nL_toInt ha, nL_toInt hb]
  omega
theorem mod_half {b r m : Nat} (hr : 0 < r) (hb : b < 2 * m) : b % r < m ∨ b < r := by
  by_cases c : b < r
  · exact Or.inr c
  · left
    have h1 := Nat.mod_lt b hr
    by_cases c2 : r ≤ m
    · omega
    · rw [Nat.mod_eq_sub_mod (by omega), Nat.mod_eq_of_lt (by omega)]
      omega
theorem euc : ∀ (m a b c f g : Nat), b < 2 ^ m → c + 2 * m + 1 ≤ 64 → 2 * m + 1 < f → 2 * m + 1 < g → a < 2 ^ 31 → b < 2 ^ 31 → LX8_commonDivisor_7 f (nI a) (nI b) (nI c) = some (nI (Nat.gcd a b)) ∧ LX9_common_17 g (nL a) (nL b) = some (nL (Nat.gcd a b)) := by
  have done : ∀ (a c f g : Nat), c + 1 ≤ 64 → 0 < f → 0 < g → LX8_commonDivisor_7 f (nI a) (nI 0) (nI c) = some (nI a) ∧ LX9_common_17 g (nL a) (nL 0) = some (nL a) := by
    intro a c f g hc hf hg
    obtain ⟨f, rfl⟩ : ∃ z, f = z + 1 := ⟨f - 1, by omega⟩
    obtain ⟨g, rfl⟩ : ∃ z, g = z + 1 := ⟨g - 1, by omega⟩
    constructor
    · show BX8_commonDivisor_7 _ (nI a) (nI 0) (nI c) = _
      unfold BX8_commonDivisor_7
      rw [if_neg (by rw [show (64 : Int32) = nI 64 from rfl, nI_lei (by decide) (by omega)]; omega), if_pos (show nI 0 = 0 from rfl)]
    · show BX9_common_17 _ (nL a) (nL 0) = _
      unfold BX9_common_17
      rw [if_pos (show nL 0 = 0 from rfl)]
  have step : ∀ (a b c f g : Nat), c + 1 ≤ 64 → a < 2 ^ 31 → b < 2 ^ 31 → b ≠ 0 → LX8_commonDivisor_7 (f + 1) (nI a) (nI b) (nI c) = LX8_commonDivisor_7 f (nI b) (nI (a % b)) (nI (c + 1)) ∧ LX9_common_17 (g + 1) (nL a) (nL b) = LX9_common_17 g (nL b) (nL (a % b)) := by
    intro a b c f g hc ha hb hb0
    constructor
    · show BX8_commonDivisor_7 _ (nI a) (nI b) (nI c) = _
      have n0 : ¬ nI b = 0 := by
        rw [show (0 : Int32) = nI 0 from rfl, nI_eqi hb (by decide)]
        exact hb0
      unfold BX8_commonDivisor_7
      rw [if_neg (by rw [show (64 : Int32) = nI 64 from rfl, nI_lei (by decide) (by omega)]; omega), if_neg n0, if_pos n0]
      simp only [lt, nI_1]
      rw [nI_md ha hb]
    · show BX9_common_17 _ (nL a) (nL b) = _
      have n0 : ¬ nL b = 0 := by
        rw [show (0 : Int64) = nL 0 from rfl, nL_eqi (by omega) (by decide)]
        exact hb0
      unfold BX9_common_17
      rw [if_neg n0, if_pos n0]
      simp only [lt]
      rw [nL_md (by omega) (by omega)]
  intro m
  induction m with
  | zero =>
    intro a b c f g hb hc hf hg ha hb2
    have : b = 0 := by
      have e : (2 : Nat) ^ 0 = 1 := rfl
      omega
    subst this
    rw [Nat.gcd_zero_right]
    exact done a c f g (by omega) (by omega) (by omega)
  | succ m ih =>
    intro a b c f g hb hc hf hg ha hb2
    by_cases b0 : b = 0
    · subst b0
      rw [Nat.gcd_zero_right]
      exact done a c f g (by omega) (by omega) (by omega)
    · obtain ⟨f, rfl⟩ : ∃ z, f = z + 1 := ⟨f - 1, by omega⟩
      obtain ⟨g, rfl⟩ : ∃ z, g = z + 1 := ⟨g - 1, by omega⟩
      obtain ⟨s1, s2⟩ := step a b c f g (by omega) ha hb2 b0
      have hr := Nat.mod_lt a (Nat.pos_of_ne_zero b0)
      have eg : Nat.gcd a b = Nat.gcd b (a % b) := by
        rw [Nat.gcd_comm, Nat.gcd_rec, Nat.gcd_comm]
      rw [s1, s2, eg]
      by_cases r0 : a % b = 0
      · rw [r0, Nat.gcd_zero_right]
        exact done b (c + 1) f g (by omega) (by omega) (by omega)
      · obtain ⟨f, rfl⟩ : ∃ z, f = z + 1 := ⟨f - 1, by omega⟩
        obtain ⟨g, rfl⟩ : ∃ z, g = z + 1 := ⟨g - 1, by omega⟩
        obtain ⟨s3, s4⟩ := step b (a % b) (c + 1) f g (by omega) hb2 (by omega) r0
        have eg2 : Nat.gcd b (a % b) = Nat.gcd (a % b) (b % (a % b)) := by
          rw [Nat.gcd_comm, Nat.gcd_rec, Nat.gcd_comm]
        have hm : b % (a % b) < 2 ^ m := by
          have hb' : b < 2 * 2 ^ m := by
            rw [Nat.pow_succ] at hb
            omega
          rcases mod_half (Nat.pos_of_ne_zero r0) hb' with q | q
          · exact q
          · omega
        have hr2 := Nat.mod_lt b (Nat.pos_of_ne_zero r0)
        rw [s3, s4, eg2]
        exact ih (a % b) (b % (a % b)) (c + 1 + 1) f g hm (by omega) (by omega) (by omega) (by omega) (by omega)
theorem lowest89 {a b : Nat} (ha : a < 2 ^ 31) (hb0 : 0 < b) (hb : b < 2 ^ 20) (p : Int32) : ∃ v, fX8_inLowestTerms (nI a) (nI b) p = some v ∧ fX9_lowest (nL a) (nL b) p = some v := by
  have e20 : (2 : Nat) ^ 20 = 1048576 := by decide
  obtain ⟨e1, e2⟩ := euc 20 a b 0 NF NF hb (by decide) (by unfold NF; omega) (by unfold NF; omega) ha (by omega)
  have e1 : LX8_commonDivisor_7 NF (nI a) (nI b) 0 = some (nI (Nat.gcd a b)) := e1
  have hg0 : 0 < Nat.gcd a b := Nat.gcd_pos_of_pos_right a hb0
  have hgb : Nat.gcd a b ≤ b := Nat.le_of_dvd hb0 (Nat.gcd_dvd_right a b)
  have c1 : (1 : Int32) ≤ nI (Nat.gcd a b) := by
    rw [show (1 : Int32) = nI 1 from rfl, nI_lei (by decide) (by omega)]
    omega
  have n8 : ¬ nI (Nat.gcd a b) = 0 := by
    rw [show (0 : Int32) = nI 0 from rfl, nI_eqi (by omega) (by decide)]
    omega
  have n9 : ¬ nL (Nat.gcd a b) = 0 := by
    rw [show (0 : Int64) = nL 0 from rfl, nL_eqi (by omega) (by decide)]
    omega
  have a0 : (0 : Int64) ≤ nL a := by
    rw [show (0 : Int64) = nL 0 from rfl, nL_lei (by decide) (by omega)]
    omega
  have ec : fX9_common (nL a) (nL b) = some (nL (Nat.gcd a b)) := by
    unfold fX9_common
    rw [if_pos a0, Option.bind_some, e2]
    rfl
  have q1 : (nI a / nI (Nat.gcd a b)).toInt64 = nL a / nL (Nat.gcd a b) := by
    have := Nat.div_le_self a (Nat.gcd a b)
    rw [nI_dv ha (by omega), nL_of (by omega), nL_dv (by omega) (by omega)]
  have q2 : (nI b / nI (Nat.gcd a b)).toInt64 = nL b / nL (Nat.gcd a b) := by
    have := Nat.div_le_self b (Nat.gcd a b)
    rw [nI_dv (by omega) (by omega), nL_of (by omega), nL_dv (by omega) (by omega)]
  unfold fX8_inLowestTerms fX9_lowest fX8_commonDivisor
  rw [e1, ec]
  simp only [Option.bind_some, if_pos c1, if_pos n8, if_pos n9, q1, q2]
  split
  · exact ⟨_, rfl, rfl⟩
  · exact ⟨_, rfl, rfl⟩
def cb (F : Nat) : Nat → Nat
  | 0 => 0
  | i + 1 => cb F i + (if F.testBit i = true then 1 else 0)
theorem cb10 : ∀ F : Nat, F < 1024 → cb F 10 = many F := by decide +kernel
section CHANCE2
variable {own : Nat → Nat} {n r t u : Nat} {A : Nat → Int32} {F s : Nat} {z : XS} {w : MS}
theorem cases8 (c : CZ own n r t u A F s z w) : ∀ (k i f : Nat), i + k = 10 → k < f → LX0_cases_4 z f (nI ((2 * s + 1) ^ cb F i)) (nI i) = some (nI ((2 * s + 1) ^ cb F 10)) := by
  intro k
  induction k with
  | zero =>
    intro i f hk hf
    obtain ⟨f, rfl⟩ : ∃ z, f = z + 1 := ⟨f - 1, by omega⟩
    have e : i = 10 := by omega
    subst e
    show BX0_cases_4 z _ _ (nI 10) = _
    unfold BX0_cases_4
    rw [if_pos (by decide)]
  | succ k ih =>
    intro i f hk hf
    obtain ⟨f, rfl⟩ : ∃ z, f = z + 1 := ⟨f - 1, by omega⟩
    have nxt := ih (i + 1) f (by omega) (by omega)
    show BX0_cases_4 z (LX0_cases_4 z f) _ (nI i) = _
    unfold BX0_cases_4
    rw [if_neg (by rw [show (10 : Int32) = nI 10 from rfl, nI_lei (by decide) (by omega)]; omega), c.runs (by omega), Option.bind_some, c.va, Option.bind_some]
    simp only [lt, nI_1, nI_ml]
    by_cases q : F.testBit i = true
    · rw [if_pos q]
      have e : cb F (i + 1) = cb F i + 1 := by
        show cb F i + (if _ then 1 else 0) = _
        rw [if_pos q]
      rw [e, Nat.pow_succ] at nxt
      exact nxt
    · rw [if_neg q]
      have e : cb F (i + 1) = cb F i := by
        show cb F i + (if _ then 1 else 0) = _
        rw [if_neg q, Nat.add_zero]
      rw [e] at nxt
      exact nxt
theorem cases9 (c : CZ own n r t u A F s z w) : ∀ (k j f : Nat), k < 100 → k < f → LX9_cases_8 w f (nL ((2 * s + 1) ^ j)) (nI k) = some (nL ((2 * s + 1) ^ (j + k))) := by
  intro k
  have hs := c.s3
  induction k with
  | zero =>
    intro j f hk hf
    obtain ⟨f, rfl⟩ : ∃ z, f = z + 1 := ⟨f - 1, by omega⟩
    show BX9_cases_8 w _ _ (nI 0) = _
    unfold BX9_cases_8
    rw [if_pos (by decide)]
    rfl
  | succ k ih =>
    intro j f hk hf
    obtain ⟨f, rfl⟩ : ∃ z, f = z + 1 := ⟨f - 1, by omega⟩
    have nxt := ih (j + 1) f (by omega) (by omega)
    show BX9_cases_8 w (LX9_cases_8 w f) _ (nI (k + 1)) = _
    unfold BX9_cases_8
    rw [if_neg (by rw [show (0 : Int32) = nI 0 from rfl, nI_lei (by omega) (by decide)]; omega), c.wy, Option.bind_some, nL_of (by omega), nL_ml]
    simp only [lt, neg1_add]
    rw [Nat.pow_succ] at nxt
    rw [nxt, show j + 1 + k = j + (k + 1) by omega]
theorem casesX8 (c : CZ own n r t u A F s z w) : fX0_cases z = some (nI ((2 * s + 1) ^ many F)) ∧ (2 * s + 1) ^ many F ≤ 16807 := by
  have hs := c.s3
  refine ⟨?_, ?_⟩
  · have := cases8 c 10 0 NF (by omega) (by unfold NF; omega)
    rw [cb10 F c.F10] at this
    have this : LX0_cases_4 z NF 1 0 = some (nI ((2 * s + 1) ^ many F)) := this
    unfold fX0_cases
    rw [this]
    rfl
  · have h1 : (2 * s + 1) ^ many F ≤ 7 ^ many F := Nat.pow_le_pow_left (by omega) _
    have h3 : 7 ^ many F ≤ 7 ^ 5 := Nat.pow_le_pow_right (by decide) c.F2
    have e : (7 : Nat) ^ 5 = 16807 := by decide
    omega
theorem cases89 (c : CZ own n r t u A F s z w) : ∃ K, fX0_cases z = some (nI K) ∧ fX9_cases w (nI F) = some (nL K) ∧ 0 < K ∧ K ≤ 16807 := by
  have hs := c.s3
  have hF := c.F10
  have h2 := c.F2
  refine ⟨(2 * s + 1) ^ many F, ?_, ?_, Nat.pow_pos (by omega), ?_⟩
  · have := cases8 c 10 0 NF (by omega) (by unfold NF; omega)
    rw [cb10 F hF] at this
    have this : LX0_cases_4 z NF 1 0 = some (nI ((2 * s + 1) ^ many F)) := this
    unfold fX0_cases
    rw [this]
    rfl
  · have := cases9 c (many F) 0 NF (by omega) (by unfold NF; omega)
    rw [Nat.zero_add] at this
    have this : LX9_cases_8 w NF 1 (nI (many F)) = some (nL ((2 * s + 1) ^ many F)) := this
    unfold fX9_cases
    rw [many10 F hF, Option.bind_some, this]
    rfl
  · have h1 : (2 * s + 1) ^ many F ≤ 7 ^ many F := Nat.pow_le_pow_left (by omega) _
    have h3 : 7 ^ many F ≤ 7 ^ 5 := Nat.pow_le_pow_right (by decide) h2
    have e : (7 : Nat) ^ 5 = 16807 := by decide
    omega
theorem sumB {W : Nat → Nat} {q1 q2 q4 p1 p3 p4 p5 p8 : Int32} (hR : RW z W) (hL : LYw w W) (hW : okW W 4) : ∀ (k j f g S : Nat), j + k = 5 → k < f → k + 1 < g → ∃ S', LX0_casesBehind_36 z q1 q2 q4 f (nI S) (nI j) = some (nI S') ∧ LX9_worse_100 w p1 p3 p4 p5 p8 g (nL S) (nI j) = some (nL S') ∧ S' ≤ S + k * 2401 := by
  intro k
  induction k with
  | zero =>
    intro j f g S hk hf hg
    obtain ⟨f, rfl⟩ : ∃ z, f = z + 1 := ⟨f - 1, by omega⟩
    obtain ⟨g, rfl⟩ : ∃ z, g = z + 1 + 1 := ⟨g - 2, by omega⟩
    have e : j = 5 := by omega
    subst e
    have w5 : W 5 = 0 := (hW 5).2 (by decide)
    refine ⟨S, ?_, ?_, by omega⟩
    · show BX0_casesBehind_36 z _ _ _ _ (nI S) (nI 5) = _
      unfold BX0_casesBehind_36
      rw [if_pos (by decide)]
    · show BX9_worse_100 w _ _ _ _ _ (LX9_worse_100 w p1 p3 p4 p5 p8 (g + 1)) (nL S) (nI 5) = _
      unfold BX9_worse_100
      rw [if_neg (by decide), if_pos (by decide), cl_nI (by decide), hL 5 (by decide), w5, nL_ad]
      simp only [lt, nI_1]
      show BX9_worse_100 w _ _ _ _ _ _ (nL (S + 0)) (nI 6) = _
      unfold BX9_worse_100
      rw [if_pos (by decide)]
      rfl
  | succ k ih =>
    intro j f g S hk hf hg
    obtain ⟨f, rfl⟩ : ∃ z, f = z + 1 := ⟨f - 1, by omega⟩
    obtain ⟨g, rfl⟩ : ∃ z, g = z + 1 := ⟨g - 1, by omega⟩
    have l1 : ¬ (5 : Int32) ≤ nI j := by
      rw [show (5 : Int32) = nI 5 from rfl, nI_lei (by decide) (by omega)]
      omega
    have l2 : ¬ (5 : Int32) < nI j := by
      rw [show (5 : Int32) = nI 5 from rfl, nI_lti (by decide) (by omega)]
      omega
    have hw : W j ≤ 2401 := (hW j).1
    obtain ⟨S', m1, m2, m3⟩ := ih (j + 1) f g (S + W j) (by omega) (by omega) (by omega)
    refine ⟨S', ?_, ?_, by omega⟩
    · show BX0_casesBehind_36 z _ _ _ _ (nI S) (nI j) = _
      unfold BX0_casesBehind_36
      rw [if_neg l1, if_pos (ib_nI (by omega) (by decide)), cl_nI (by omega), hR j (by omega), nI_ad]
      simp only [lt, nI_1]
      exact m1
    · show BX9_worse_100 w _ _ _ _ _ _ (nL S) (nI j) = _
      unfold BX9_worse_100
      rw [if_neg l2, if_pos (ib_nI (by omega) (by decide)), cl_nI (by omega), hL j (by omega), nL_ad]
      simp only [lt, nI_1]
      exact m2
theorem behind_loop {h m : Nat} {B p5 : Int32} (hm : m ≤ 5) (hh : h < n) (ht : F.testBit h = true) (hB : sm B 214) : ∀ (k c fu gu S : Nat) (z : XS) (w : MS), c + k = 2 * s + 1 → k < fu → k < gu → CZ own n r t u A F s z w → z.2.1 17 h = B → S ≤ c * 12005 → ∃ S' z' w', LX0_casesBehind_9 (nI h) (nI m) fu (nI S) (nI c - nI s) z = some (nI S', z') ∧ LX9_worse_71 (nI F) (nI h) (nI m) p5 gu (nL S) ((B - nI s) + nI c) w = some (nL S', w') ∧ s19 z z' ∧ lgs w w' ∧ S' ≤ 84035 := by
  intro k
  induction k with
  | zero =>
    intro c fu gu S z w hk hf hg cz eB hS
    obtain ⟨fu, rfl⟩ : ∃ z, fu = z + 1 := ⟨fu - 1, by omega⟩
    obtain ⟨gu, rfl⟩ : ∃ z, gu = z + 1 := ⟨gu - 1, by omega⟩
    have hs := cz.s3
    have hn := cz.n10
    have e11 : w.2.1 11 h = B := (cz.B h hh ht).trans eB
    refine ⟨S, z, w, ?_, ?_, s19.rf z, lgs.rf w, by omega⟩
    · show BX0_casesBehind_9 _ _ _ (nI S) _ z = _
      unfold BX0_casesBehind_9
      rw [cz.fs, if_pos ((var_end8 hs (by omega)).mpr (by omega))]
    · show BX9_worse_71 _ _ _ _ _ (nL S) _ w = _
      unfold BX9_worse_71
      rw [if_pos (ib_nI (by omega) (by decide)), cl_nI (by omega), e11, cz.ws, if_pos ((var_end9 hB hs (by omega)).mpr (by omega))]
  | succ k ih =>
    intro c fu gu S z w hk hf hg cz eB hS
    obtain ⟨fu, rfl⟩ : ∃ z, fu = z + 1 := ⟨fu - 1, by omega⟩
    obtain ⟨gu, rfl⟩ : ∃ z, gu = z + 1 := ⟨gu - 1, by omega⟩
    have hs := cz.s3
    have hn := cz.n10
    have e11 : w.2.1 11 h = B := (cz.B h hh ht).trans eB
    have hb : ib (nI h) 10 := ib_nI (by omega) (by decide)
    have hc : (nI h).toNatClampNeg = h := cl_nI (by omega)
    obtain ⟨W, z1, w1, a1, a2, a3, a4, a5, a6, a7⟩ := ways89 cz hh ht (run_sm hB hs (show c ≤ 8 by omega)) false
    obtain ⟨S1, b1, b2, b3⟩ := sumB (q1 := nI h) (q2 := nI m) (q4 := nI c - nI s) (p1 := nI F) (p3 := nI h) (p4 := nI m) (p5 := p5) (p8 := (B - nI s) + nI c) a5 a6 a7 (5 - m) m NF NF S (by omega) (by unfold NF; omega) (by unfold NF; omega)
    have a2 : fX9_others w (nI F) (nI h) ((B - nI s) + nI c) true = some w1 := a2
    have hS1 : (5 - m) * 2401 ≤ 5 * 2401 := Nat.mul_le_mul_right _ (by omega)
    obtain ⟨S', z', w', l1, l2, l3, l4, l5⟩ := ih (c + 1) fu gu S1 z1 w1 (by omega) (by omega) (by omega) (cz.mv a3 a4) ((a3.2.1 17 (by decide) ▸ eB : z1.2.1 17 h = B)) (by omega)
    refine ⟨S', z', w', ?_, ?_, a3.tr l3, a4.tr l4, l5⟩
    · show BX0_casesBehind_9 _ _ _ (nI S) _ z = _
      unfold BX0_casesBehind_9
      rw [cz.fs, if_neg (fun q => by have := (var_end8 hs (by omega)).mp q; omega), if_pos hb, hc, eB, run_eq, a1, Option.bind_some, b1, Option.bind_some]
      simp only [lt, var_up]
      exact l1
    · show BX9_worse_71 _ _ _ _ _ (nL S) _ w = _
      unfold BX9_worse_71
      rw [if_pos hb, hc, e11, cz.ws, if_neg (fun q => by have := (var_end9 hB hs (by omega)).mp q; omega), a2, Option.bind_some, b2, Option.bind_some]
      simp only [lt, run_up]
      exact l2
/-- leads taken, all of the field weighed -/
theorem tkr_loop {x : XS} {y : MS} (h : RO own n r t u x y) : ∀ (k i f : Nat) (z : XS), i + k = n → k < f → z.1 = x.1 → (∀ k, k ≠ 24 → z.2.1 k = x.2.1 k) → z.2.2 = x.2.2 → (∀ j, j < i → z.2.1 24 j = y.2.1 9 j) → ∃ z', LX8_takeLeads_2 f (nI i) z = some z' ∧ z'.1 = x.1 ∧ (∀ k, k ≠ 24 → z'.2.1 k = x.2.1 k) ∧ z'.2.2 = x.2.2 ∧ ∀ j, j < n → z'.2.1 24 j = y.2.1 9 j := by
  have hn := h.n10
  intro k
  induction k with
  | zero =>
    intro i f z hk hf h1 h2 h3 hz
    obtain ⟨f, rfl⟩ : ∃ z, f = z + 1 := ⟨f - 1, by omega⟩
    have e : i = n := by omega
    subst e
    refine ⟨z, ?_, h1, h2, h3, hz⟩
    show BX8_takeLeads_2 _ (nI i) z = _
    unfold BX8_takeLeads_2
    rw [h1, h.H.ex, if_pos (Int32.le_refl _)]
  | succ k ih =>
    intro i f z hk hf h1 h2 h3 hz
    obtain ⟨f, rfl⟩ : ∃ z, f = z + 1 := ⟨f - 1, by omega⟩
    have hi : i < n := by omega
    have hlt : ¬ nI n ≤ nI i := by
      rw [nI_lei (by omega) (by omega)]
      omega
    have kz : kX x z := ⟨fun k _ => by rw [h1], by rw [h1], by rw [h1], fun k hk => h2 k (ne_in (A := [24]) (by decide) hk (by decide)), h3⟩
    have h4 := h.keep kz (kM.rf y)
    obtain ⟨z', l1, l2, l3, l4, l5⟩ := ih (i + 1) f (xsA z 24 i (y.2.1 9 i)) (by omega) (by omega) h1 (fun k hk => (up2_ne hk).trans (h2 k hk)) h3 (fun j hj => by
      show (if j = i then y.2.1 9 i else z.2.1 24 j) = _
      by_cases q : j = i
      · rw [if_pos q, q]
      · rw [if_neg q]
        exact hz j (by omega))
    refine ⟨z', ?_, l2, l3, l4, l5⟩
    show BX8_takeLeads_2 _ (nI i) z = _
    unfold BX8_takeLeads_2
    rw [h4.H.ex, if_neg hlt, lead8 h4 hi, Option.bind_some, if_pos (ib10 h hi), cln h hi]
    simp only [lt, nI_1]
    exact l1
theorem weigh8 {z : XS} {y : MS} (h : RO own n r t u z y) {i W : Nat} (hi : i < n) (hW : W < 400) : fX8_weigh z (nI i) (nI W) = some (xsA z 17 i (rat y i (W / 100) (nI (W % 100)) (z.2.1 24 i))) := by
  have ed : nI W / 100 = nI (W / 100) := nI_dv (c := 100) (by omega) (by decide)
  have em : irm (nI W) 100 = nI (W % 100) := nI_md (c := 100) (by omega) (by decide)
  unfold fX8_weigh
  simp only [if_pos (ib10 h hi), cln h hi, ed, em, rat8 h hi (show W / 100 < 4 by omega), Option.bind_some, lt]
theorem enter_loop {x : XS} {y : MS} {W : Nat} (h : RO own n r t u x y) (hW : W < 400) {z0 : XS} (k0 : kX x z0) : ∀ (k i f : Nat) (z : XS), i + k = n → k < f → z.1 = z0.1 → (∀ k, k ≠ 17 → z.2.1 k = z0.2.1 k) → z.2.2 = z0.2.2 → (∀ j, j < i → z.2.1 17 j = rat y j (W / 100) (nI (W % 100)) (z0.2.1 24 j)) → ∃ z', LX8_enter_25 (nI W) f (nI i) z = some z' ∧ z'.1 = z0.1 ∧ (∀ k, k ≠ 17 → z'.2.1 k = z0.2.1 k) ∧ z'.2.2 = z0.2.2 ∧ ∀ j, j < n → z'.2.1 17 j = rat y j (W / 100) (nI (W % 100)) (z0.2.1 24 j) := by
  have hn := h.n10
  intro k
  induction k with
  | zero =>
    intro i f z hk hf h1 h2 h3 hz
    obtain ⟨f, rfl⟩ : ∃ z, f = z + 1 := ⟨f - 1, by omega⟩
    have e : i = n := by omega
    subst e
    refine ⟨z, ?_, h1, h2, h3, hz⟩
    show BX8_enter_25 _ _ (nI i) z = _
    unfold BX8_enter_25
    rw [h1, (h.keep k0 (kM.rf y)).H.ex, if_pos (Int32.le_refl _)]
  | succ k ih =>
    intro i f z hk hf h1 h2 h3 hz
    obtain ⟨f, rfl⟩ : ∃ z, f = z + 1 := ⟨f - 1, by omega⟩
    have hi : i < n := by omega
    have hlt : ¬ nI n ≤ nI i := by
      rw [nI_lei (by omega) (by omega)]
      omega
    have kz : kX z0 z := ⟨fun k _ => by rw [h1], by rw [h1], by rw [h1], fun k hk => h2 k (ne_in (A := [17]) (by decide) hk (by decide)), h3⟩
    have h4 := h.keep (k0.tr kz) (kM.rf y)
    obtain ⟨z', l1, l2, l3, l4, l5⟩ := ih (i + 1) f (xsA z 17 i (rat y i (W / 100) (nI (W % 100)) (z0.2.1 24 i))) (by omega) (by omega) h1 (fun k hk => (up2_ne hk).trans (h2 k hk)) h3 (fun j hj => by
      show (if j = i then _ else z.2.1 17 j) = _
      by_cases q : j = i
      · rw [if_pos q, q]
      · rw [if_neg q]
        exact hz j (by omega))
    refine ⟨z', ?_, l2, l3, l4, l5⟩
    show BX8_enter_25 _ _ (nI i) z = _
    unfold BX8_enter_25
    rw [h4.H.ex, if_neg hlt, weigh8 h4 hi hW, Option.bind_some, h2 24 (by decide)]
    simp only [lt, nI_1]
    exact l1
theorem enter89 {x : XS} {y : MS} {W : Nat} (f : Int32) (h : RO own n r t u x y) (hW : W < 400) : ∃ z, fX8_enter x f (nI W) = some z ∧ kX x z ∧ z.1 16 5 = f ∧ z.1 16 6 = x.1 0 3 ∧ (∀ k, k ≠ 17 → k ≠ 24 → z.2.1 k = x.2.1 k) ∧ (∀ j, j < n → z.2.1 24 j = y.2.1 9 j) ∧ ∀ j, j < n → z.2.1 17 j = rat y j (W / 100) (nI (W % 100)) (y.2.1 9 j) := by
  have hn := h.n10
  obtain ⟨z1, l1, l2, l3, l4, l5⟩ := tkr_loop h n 0 NF x (by omega) (by unfold NF; omega) rfl (fun _ _ => rfl) rfl (fun j hj => absurd hj (Nat.not_lt_zero j))
  have l1 : LX8_takeLeads_2 NF 0 x = some z1 := l1
  have k1 : kX x z1 := ⟨fun k _ => by rw [l2], by rw [l2], by rw [l2], fun k hk => l3 k (ne_in (A := [24]) (by decide) hk (by decide)), l4⟩
  have k2 : kX x (xsS (xsS z1 16 5 f) 16 6 ((xsS z1 16 5 f).1 0 3)) := (k1.tr (kX.S (by decide))).tr (kX.S (by decide))
  obtain ⟨z', m1, m2, m3, m4, m5⟩ := enter_loop h hW k2 n 0 NF _ (by omega) (by unfold NF; omega) rfl (fun _ _ => rfl) rfl (fun j hj => absurd hj (Nat.not_lt_zero j))
  have m1 : LX8_enter_25 (nI W) NF 0 (xsS (xsS z1 16 5 f) 16 6 ((xsS z1 16 5 f).1 0 3)) = some z' := m1
  have e16 : (xsS (xsS z1 16 5 f) 16 6 ((xsS z1 16 5 f).1 0 3)).1 16 5 = f ∧ (xsS (xsS z1 16 5 f) 16 6 ((xsS z1 16 5 f).1 0 3)).1 16 6 = z1.1 0 3 := ⟨rfl, rfl⟩
  refine ⟨z', ?_, ⟨fun k hk => ?_, ?_, ?_, fun k hk => ?_, ?_⟩, ?_, ?_, fun k q1 q2 => ?_, fun j hj => ?_, fun j hj => ?_⟩
  · unfold fX8_enter fX8_takeLeads
    simp only [lt, l1, Option.bind_some, m1]
  · rw [m2]; exact k2.1 k hk
  · rw [m2]; exact k2.2.1
  · rw [m2]; exact k2.2.2.1
  · rw [m3 k (ne_in (A := [17]) (by decide) hk (by decide))]; exact k2.2.2.2.1 k hk
  · rw [m4]; exact k2.2.2.2.2
  · rw [m2]; exact e16.1
  · rw [m2, e16.2, l2]
  · rw [m3 k q1]; exact l3 k q2
  · rw [m3 24 (by decide)]; exact l5 j hj
  · rw [m5 j hj]
    show rat y j _ _ (z1.2.1 24 j) = _
    rw [l5 j hj]
theorem rat_eq {y y' : MS} (h : ∀ k, k ∈ ([4, 5, 6, 7, 8, 10] : List Nat) → y'.2.1 k = y.2.1 k) (i g : Nat) (d l : Int32) : rat y' i g d l = rat y i g d l := by
  unfold rat fm wth
  rw [h 4 (by decide), h 5 (by decide), h 6 (by decide), h 7 (by decide), h 8 (by decide), h 10 (by decide)]
theorem lays_loop {z : XS} {w0 : MS} {W : Nat} (h : RO own n r t u z (rs9 w0 A)) (hW : W < 400) (hF : F < 1024) : ∀ (k i f : Nat) (w : MS), i + k = n → k < f → w.1 = w0.1 → (∀ k, k ≠ 11 → w.2.1 k = w0.2.1 k) → w.2.2 = w0.2.2 → (∀ j, j < i → F.testBit j = true → w.2.1 11 j = rat (rs9 w0 A) j (W / 100) (nI (W % 100)) (w0.2.1 9 j)) → ∃ w', LX9_lays_2 (nI F) (nI W) f (nI i) w = some w' ∧ w'.1 = w0.1 ∧ (∀ k, k ≠ 11 → w'.2.1 k = w0.2.1 k) ∧ w'.2.2 = w0.2.2 ∧ ∀ j, j < n → F.testBit j = true → w'.2.1 11 j = rat (rs9 w0 A) j (W / 100) (nI (W % 100)) (w0.2.1 9 j) := by
  have hn := h.n10
  have e13 : w0.1 0 13 = nI n := h.H.ey
  have ed : nI W / 100 = nI (W / 100) := nI_dv (c := 100) (by omega) (by decide)
  have em : irm (nI W) 100 = nI (W % 100) := nI_md (c := 100) (by omega) (by decide)
  have hbg : ib (nI (W / 100)) 4 := ib_nI (by omega) (by decide)
  have hcg : (nI (W / 100)).toNatClampNeg = W / 100 := cl_nI (by omega)
  intro k
  induction k with
  | zero =>
    intro i f w hk hf h1 h2 h3 hz
    obtain ⟨f, rfl⟩ : ∃ z, f = z + 1 := ⟨f - 1, by omega⟩
    have e : i = n := by omega
    subst e
    refine ⟨w, ?_, h1, h2, h3, hz⟩
    show BX9_lays_2 _ _ _ (nI i) w = _
    unfold BX9_lays_2
    rw [h1, e13, if_pos (Int32.le_refl _)]
  | succ k ih =>
    intro i f w hk hf h1 h2 h3 hz
    obtain ⟨f, rfl⟩ : ∃ z, f = z + 1 := ⟨f - 1, by omega⟩
    have hi : i < n := by omega
    have hlt : ¬ nI n ≤ nI i := by
      rw [nI_lei (by omega) (by omega)]
      omega
    have h4 : RO own n r t u z (rs9 w A) := h.keep (kX.rf z) (kM_rs9 A ⟨fun k _ => by rw [h1], fun k hk => h2 k (ne_in (A := [11]) (by decide) hk (by decide))⟩ (h2 5 (by decide)) (h2 6 (by decide)))
    have io : fX9_isOf w (nI F) (nI i) = some (F.testBit i) := by
      rw [← (or10 F hF i (by omega)).2.2.1]
      exact isOf9 h4 (nI F) hi
    have req : ∀ l, rat (rs9 w A) i (W / 100) (nI (W % 100)) l = rat (rs9 w0 A) i (W / 100) (nI (W % 100)) l := fun l => rat_eq (fun k hk => by
      rw [rs9_ne (ne_in (A := [9]) (by decide) hk (by decide)), rs9_ne (ne_in (A := [9]) (by decide) hk (by decide))]
      exact h2 k (ne_in (A := [11]) (by decide) hk (by decide))) i _ _ l
    have r9 : fX9_carries w (nI i) (nI (W / 100)) (nI (W % 100)) (w.2.1 10 (W / 100)) (w.2.1 9 i) = some (rat (rs9 w0 A) i (W / 100) (nI (W % 100)) (w0.2.1 9 i)) := by
      rw [← req, ← h2 9 (by decide)]
      exact rat9 h4 hi (nI (W % 100)) (w.2.1 9 i)
    show ∃ w', BX9_lays_2 _ _ (LX9_lays_2 (nI F) (nI W) f) (nI i) w = some w' ∧ _
    unfold BX9_lays_2
    rw [h1, e13, if_neg hlt, io, ed]
    simp only [Option.bind_some, lt, nI_1, if_pos hbg, hcg, em, if_pos (ib10 h hi), cln h hi, r9]
    by_cases q : F.testBit i = true
    · rw [if_pos q]
      exact ih (i + 1) f (msA w 11 i (rat (rs9 w0 A) i (W / 100) (nI (W % 100)) (w0.2.1 9 i))) (by omega) (by omega) h1 (fun k hk => (up2_ne hk).trans (h2 k hk)) h3 (fun j hj ht => by
        show (if j = i then _ else w.2.1 11 j) = _
        by_cases q2 : j = i
        · rw [if_pos q2, q2]
        · rw [if_neg q2]
          exact hz j (by omega) ht)
    · rw [if_neg q]
      refine ih (i + 1) f w (by omega) (by omega) h1 h2 h3 (fun j hj ht => ?_)
      by_cases q2 : j = i
      · rw [q2] at ht
        exact absurd ht q
      · exact hz j (by omega) ht
theorem lays9 {z : XS} {w0 : MS} {W : Nat} (h : RO own n r t u z (rs9 w0 A)) (hW : W < 400) (hF : F < 1024) : ∃ w', fX9_lays w0 (nI F) (nI W) = some w' ∧ w'.1 = w0.1 ∧ (∀ k, k ≠ 11 → w'.2.1 k = w0.2.1 k) ∧ w'.2.2 = w0.2.2 ∧ ∀ j, j < n → F.testBit j = true → w'.2.1 11 j = rat (rs9 w0 A) j (W / 100) (nI (W % 100)) (w0.2.1 9 j) := by
  have hn := h.n10
  obtain ⟨w', l1, l2⟩ := lays_loop h hW hF n 0 NF w0 (by omega) (by unfold NF; omega) rfl (fun _ _ => rfl) rfl (fun j hj => absurd hj (Nat.not_lt_zero j))
  have l1 : LX9_lays_2 (nI F) (nI W) NF 0 w0 = some w' := l1
  refine ⟨w', ?_, l2⟩
  unfold fX9_lays
  rw [l1]
  rfl
theorem CZ.back (c : CZ own n r t u A F s z w) (h : ∀ i, i < n → w.2.1 9 i = A i) : RO own n r t u z w := by
  refine c.R.lead ⟨fun _ _ => rfl, fun k hk => ?_⟩ rfl rfl h
  have : ∀ k, k ∈ ([1, 2, 3, 4, 7, 8, 10, 15, 16, 17, 18, 19, 22, 23, 24, 25, 26, 27, 28, 29] : List Nat) → k ≠ 9 := by decide
  rw [rs9_ne (this k hk)]
/-- a field at the post on both sides -/
theorem post89 {x : XS} {y : MS} {W : Nat} (h : RO own n r t u x y) (hW : W < 400) (F1 : F < 2 ^ n) (F2 : many F ≤ 5) : ∃ s z w, fX8_enter x (nI F) (nI W) = some z ∧ fX9_lays y (nI F) (nI W) = some w ∧ CZ own n r t u (y.2.1 9) F s z w ∧ (∀ k, k ≠ 17 → k ≠ 24 → z.2.1 k = x.2.1 k) ∧ (∀ j, j < n → z.2.1 24 j = y.2.1 9 j) ∧ (∀ j, j < n → z.2.1 17 j = rat y j (W / 100) (nI (W % 100)) (y.2.1 9 j)) ∧ w.1 = y.1 ∧ ∀ k, k ≠ 11 → w.2.1 k = y.2.1 k := by
  have hn := h.n10
  have hF : F < 1024 := by
    have h2 : 2 ^ n ≤ 2 ^ 10 := Nat.pow_le_pow_right (by decide) hn
    have e : (2 : Nat) ^ 10 = 1024 := by decide
    omega
  obtain ⟨z, a1, a2, a3, a4, a5, a6, a7⟩ := enter89 (nI F) h hW
  have h2 : RO own n r t u z (rs9 y (y.2.1 9)) := h.keep a2 (kM_to9 (kM.rf y))
  obtain ⟨w, b1, b2, b3, b4, b5⟩ := lays9 (F := F) h2 hW hF
  obtain ⟨s, hs, es⟩ := ix_of (n := 4) (by decide) h.P.s0 (Int32.lt_of_le_of_lt h.P.s1 (by decide))
  have req : ∀ j, rat (rs9 y (y.2.1 9)) j (W / 100) (nI (W % 100)) (y.2.1 9 j) = rat y j (W / 100) (nI (W % 100)) (y.2.1 9 j) := fun j => rat_eq (fun k hk => rs9_ne (ne_in (A := [9]) (by decide) hk (by decide))) j _ _ _
  refine ⟨s, z, w, a1, b1, ⟨h2.keep (kX.rf z) (kM_rs9 _ ⟨fun k _ => by rw [b2], fun k hk => b3 k (ne_in (A := [11]) (by decide) hk (by decide))⟩ (b3 5 (by decide)) (b3 6 (by decide))), a3, ?_, ?_, by omega, F1, F2, fun i hi ht => ?_, fun i hi => ?_⟩, a5, a6, a7, b2, b3⟩
  · rw [a4, h.P.es, es]
  · rw [b2, es]
  · rw [b5 i hi ht, a7 i hi, req]
  · have v := h.H.va i hi
    rw [a7 i hi]
    exact rat_bd h hi (by omega) _ v.ld0 v.ld1
theorem pt8 (a : Int32) : fX8_isPart a = some (decide (0 ≤ a ∧ a ≤ 1)) := by
  unfold fX8_isPart
  rw [in8]
  rfl
end CHANCE2
theorem s_wins : ST5 Rl := by
  intro x y a1 a2 a3 a4 hr
  obtain ⟨own, n, r, t, u, h⟩ := id hr
  have hn := h.n10
  unfold fX8_wins fX9_wins
  rw [wh8, wh9, pt8, pt9]
  simp only [Option.bind_some, decide_eq_true_eq]
  rcases isField89 h a1 with ⟨⟨F, rfl, F0, F1, F2⟩, e1, e2⟩ | ⟨-, e1, e2⟩
  · rw [e1, e2]
    simp only [Option.bind_some, if_true]
    rcases of400 a2 with c | ⟨W, hW, rfl, c, ed, em⟩
    · rw [if_neg c, if_neg c]
      exact ⟨_, _, _, rfl, rfl, hr⟩
    · rw [if_pos c, if_pos c]
      rcases ho h a3 with q | ⟨i, hi, rfl, q⟩
      · rw [isIn8n h _ q, isOf9n h _ q]
        exact ⟨_, _, _, rfl, rfl, hr⟩
      · obtain ⟨s, z, w, p1, p2, cz, p3, p4, p5, p6, p7⟩ := post89 h hW F1 F2
        rw [isIn8 h _ hi, isOf9 h _ hi, (or10 F cz.F10 i (by omega)).2.2.1]
        simp only [Option.bind_some]
        by_cases b : F.testBit i = true
        · rw [if_pos b, if_pos b]
          by_cases c6 : 0 ≤ a4 ∧ a4 ≤ 1
          · rw [if_pos c6, if_pos c6]
            obtain ⟨S, z', w', l1, l2, l3, l4, l5⟩ := share89 cz hi b
            have cz' := cz.mv l3 l4
            obtain ⟨K, k1, k2, k3, k4⟩ := cases89 cz'
            obtain ⟨v, v1, v2⟩ := lowest89 (a := S) (b := 60 * K) (by omega) (by omega) (by omega) a4
            rw [← nI_ml 60 K] at v1
            rw [← nL_ml 60 K] at v2
            have v1 : fX8_inLowestTerms (nI S) (60 * nI K) a4 = some v := v1
            have v2 : fX9_lowest (nL S) (60 * nL K) a4 = some v := v2
            rw [p1, p2, Option.bind_some, Option.bind_some, l1, l2]
            simp only [bind2, k1, k2, Option.bind_some, v1, v2]
            exact ⟨_, _, _, rfl, rfl, own, n, r, t, u, cz'.back (fun j hj => by rw [l4.2, p7 9 (by decide)])⟩
          · rw [if_neg c6, if_neg c6]
            exact ⟨_, _, _, rfl, rfl, hr⟩
        · rw [if_neg b, if_neg b]
          exact ⟨_, _, _, rfl, rfl, hr⟩
  · rw [e1, e2]
    exact ⟨_, _, _, rfl, rfl, hr⟩
theorem s_worse : ST7 Rl := by
  intro x y a1 a2 a3 a4 a5 hr
  obtain ⟨own, n, r, t, u, h⟩ := id hr
  have hn := h.n10
  unfold fX8_worse fX9_worse
  rw [wh8, wh9, pt8, pt9, in8, in9i (lo := 1) (hi := 4) (l := 1) (h := 4) rfl rfl]
  simp only [Option.bind_some, decide_eq_true_eq]
  rcases isField89 h a1 with ⟨⟨F, rfl, F0, F1, F2⟩, e1, e2⟩ | ⟨-, e1, e2⟩
  · rw [e1, e2]
    simp only [Option.bind_some, if_true]
    rcases of400 a2 with c | ⟨W, hW, rfl, c, ed, em⟩
    · rw [if_neg c, if_neg c]
      exact ⟨_, _, _, rfl, rfl, hr⟩
    · rw [if_pos c, if_pos c]
      rcases ho h a3 with q | ⟨i, hi, rfl, q⟩
      · rw [isIn8n h _ q, isOf9n h _ q]
        exact ⟨_, _, _, rfl, rfl, hr⟩
      · obtain ⟨s, z, w, p1, p2, cz, p3, p4, p5, p6, p7⟩ := post89 h hW F1 F2
        rw [isIn8 h _ hi, isOf9 h _ hi, (or10 F cz.F10 i (by omega)).2.2.1]
        simp only [Option.bind_some]
        by_cases b : F.testBit i = true
        · rw [if_pos b, if_pos b]
          by_cases c4 : 1 ≤ a4 ∧ a4 ≤ 4
          · obtain ⟨m, hm, rfl⟩ := ix_of (n := 5) (by decide) (Int32.le_trans (by decide) c4.1) (Int32.lt_of_le_of_lt c4.2 (by decide))
            rw [if_pos c4, if_pos c4]
            by_cases c6 : 0 ≤ a5 ∧ a5 ≤ 1
            · rw [if_pos c6, if_pos c6]
              have hs := cz.s3
              have e11 := cz.B i hi b
              obtain ⟨S, z', w', l1, l2, l3, l4, l5⟩ := behind_loop (p5 := a5) (m := m) (by omega) hi b (cz.S i hi) (2 * s + 1) 0 NF NF 0 z w (by omega) (by unfold NF; omega) (by unfold NF; omega) cz rfl (by omega)
              have l1 : LX0_casesBehind_9 (nI i) (nI m) NF 0 (nI 0 - nI s) z = some (nI S, z') := l1
              have l2 : LX9_worse_71 (nI F) (nI i) (nI m) a5 NF 0 ((z.2.1 17 i - nI s) + nI 0) w = some (nL S, w') := l2
              rw [show nI 0 - nI s = -nI s from Int32.zero_sub _] at l1
              rw [show (z.2.1 17 i - nI s) + nI 0 = z.2.1 17 i - nI s from Int32.add_zero _] at l2
              have l0 : fX0_casesBehind z (nI i) (nI m) = some (nI S, z') := by
                unfold fX0_casesBehind
                simp only [lt]
                rw [cz.fs, l1]
                rfl
              have cz' := cz.mv l3 l4
              obtain ⟨K, k1, k2, k3, k4⟩ := cases89 cz'
              obtain ⟨v, v1, v2⟩ := lowest89 (a := S) (b := K) (by omega) (by omega) (by omega) a5
              rw [p1, p2, Option.bind_some, Option.bind_some, l0, if_pos (ib10 h hi), cln h hi, e11, cz.ws]
              simp only [lt, l2, bind2, k1, k2, Option.bind_some, v1, v2]
              exact ⟨_, _, _, rfl, rfl, own, n, r, t, u, cz'.back (fun j hj => by rw [l4.2, p7 9 (by decide)])⟩
            · rw [if_neg c6, if_neg c6]
              exact ⟨_, _, _, rfl, rfl, hr⟩
          · rw [if_neg c4, if_neg c4]
            exact ⟨_, _, _, rfl, rfl, hr⟩
        · rw [if_neg b, if_neg b]
          exact ⟨_, _, _, rfl, rfl, hr⟩
  · rw [e1, e2]
    exact ⟨_, _, _, rfl, rfl, hr⟩
