/-! orders -/
def oks (n : Nat) : Nat → Nat → Nat → List Nat → Option (Nat × List Nat)
  | 0, _, F, L => some (F, L)
  | k + 1, a, F, L => if a % 10 < n ∧ F.testBit (a % 10) = false then oks n k (a / 10) (F ||| 2 ^ (a % 10)) (a % 10 :: L) else none
def orl : List Nat → Nat
  | [] => 0
  | h :: M => 2 ^ h ||| orl M
theorem orl_end (M : List Nat) (d : Nat) : orl (M ++ [d]) = orl M ||| 2 ^ d := by
  induction M with
  | nil =>
    show 2 ^ d ||| 0 = 0 ||| 2 ^ d
    rw [Nat.or_zero, Nat.zero_or]
  | cons h M ih =>
    show 2 ^ h ||| orl (M ++ [d]) = (2 ^ h ||| orl M) ||| 2 ^ d
    rw [ih, Nat.or_assoc]
theorem dv10 (a c : Nat) : a / 10 ^ c / 10 = a / 10 ^ (c + 1) := by
  rw [Nat.div_div_eq_div_mul, Nat.pow_succ]
theorem oks_or {n : Nat} : ∀ (k a F : Nat) (L : List Nat) (F' : Nat) (L' : List Nat), oks n k a F L = some (F', L') → ∃ M, L' = M ++ L ∧ F' = F ||| orl M := by
  intro k
  induction k with
  | zero =>
    intro a F L F' L' h
    have h : some (F, L) = some (F', L') := h
    injection h with h
    injection h with h1 h2
    refine ⟨[], h2.symm, ?_⟩
    rw [← h1]
    show F = F ||| 0
    rw [Nat.or_zero]
  | succ k ih =>
    intro a F L F' L' h
    have h : (if a % 10 < n ∧ F.testBit (a % 10) = false then oks n k (a / 10) (F ||| 2 ^ (a % 10)) (a % 10 :: L) else none) = some (F', L') := h
    by_cases c : a % 10 < n ∧ F.testBit (a % 10) = false
    · rw [if_pos c] at h
      obtain ⟨M, m1, m2⟩ := ih _ _ _ _ _ h
      refine ⟨M ++ [a % 10], ?_, ?_⟩
      · rw [m1, List.append_assoc]
        rfl
      · rw [m2, orl_end, Nat.or_assoc, Nat.or_comm (2 ^ (a % 10)) (orl M)]
    · rw [if_neg c] at h
      cases h
theorem oks_is {n : Nat} (hn : n ≤ 10) : ∀ (k a F : Nat) (L : List Nat) (F' : Nat) (L' : List Nat), oks n k a F L = some (F', L') → F < 1024 → L'.length = L.length + k ∧ (∀ j, j < k → L'.getD j 0 = a / 10 ^ (k - 1 - j) % 10 ∧ L'.getD j 0 < n) ∧ (∀ j, j < L.length → L'.getD (k + j) 0 = L.getD j 0) ∧ F' < 1024 ∧ many F' = many F + k := by
  intro k
  induction k with
  | zero =>
    intro a F L F' L' h hF
    have h : some (F, L) = some (F', L') := h
    injection h with h
    injection h with h1 h2
    subst h1 h2
    refine ⟨rfl, fun j hj => absurd hj (Nat.not_lt_zero j), fun j hj => ?_, hF, rfl⟩
    rw [Nat.zero_add]
  | succ k ih =>
    intro a F L F' L' h hF
    have h : (if a % 10 < n ∧ F.testBit (a % 10) = false then oks n k (a / 10) (F ||| 2 ^ (a % 10)) (a % 10 :: L) else none) = some (F', L') := h
    by_cases c : a % 10 < n ∧ F.testBit (a % 10) = false
    · rw [if_pos c] at h
      obtain ⟨-, o1, -, o2⟩ := or10 F hF (a % 10) (by omega)
      obtain ⟨i1, i2, i3, i4, i5⟩ := ih _ _ _ _ _ h o1
      refine ⟨?_, fun j hj => ?_, fun j hj => ?_, i4, ?_⟩
      · rw [i1, List.length_cons]
        omega
      · by_cases q : j < k
        · obtain ⟨g1, g2⟩ := i2 j q
          refine ⟨?_, g2⟩
          rw [g1, Nat.div_div_eq_div_mul, show k + 1 - 1 - j = (k - 1 - j) + 1 by omega, Nat.pow_succ, Nat.mul_comm]
        · have e : j = k := by omega
          subst e
          have g := i3 0 (Nat.succ_pos _)
          rw [Nat.add_zero] at g
          have g : L'.getD j 0 = a % 10 := g
          rw [g, show j + 1 - 1 - j = 0 by omega, Nat.pow_zero, Nat.div_one]
          exact ⟨rfl, c.1⟩
      · have g := i3 (j + 1) (Nat.succ_lt_succ hj)
        rw [show k + 1 + j = k + (j + 1) by omega, g]
        rfl
      · rw [i5, o2 c.2]
        omega
    · rw [if_neg c] at h
      cases h
section ORDERS
variable {own : Nat → Nat} {n r t u : Nat} {x : XS} {y : MS}
theorem prd_iff {d n : Nat} (hd : d < 2 ^ 31) (hn : n < 2 ^ 31) : ((0 : Int32) ≤ nI d ∧ nI d ≤ nI n - 1) ↔ d < n := by
  constructor
  · intro c
    obtain ⟨i, hi, e⟩ := pred_nI hn c
    have := (nI_eqi hd (by omega)).mp e
    omega
  · exact nI_prd hn
theorem rdO8 (h : RO own n r t u x y) : ∀ (k a F : Nat) (L : List Nat) (f : Nat) (z : XS), k ≤ 5 → k < f → a < 2 ^ 31 → F < 1024 → kX x z → (∀ j, j < L.length → z.2.1 23 (k + j) = nI (L.getD j 0)) → (oks n k a F L = none ∧ ∃ z', LX8_readOrder_15 f (nI F) (nI a) (nI k - 1) z = some (.inl (0, z')) ∧ kX x z') ∨ ∃ F' L', oks n k a F L = some (F', L') ∧ ∃ z', LX8_readOrder_15 f (nI F) (nI a) (nI k - 1) z = some (.inr (nI F', z')) ∧ kX x z' ∧ ∀ j, j < L'.length → z'.2.1 23 j = nI (L'.getD j 0) := by
  have hn := h.n10
  intro k
  induction k with
  | zero =>
    intro a F L f z hk hf ha hF kz hz
    obtain ⟨f, rfl⟩ : ∃ z, f = z + 1 := ⟨f - 1, by omega⟩
    refine Or.inr ⟨F, L, rfl, z, ?_, kz, fun j hj => ?_⟩
    · show BX8_readOrder_15 _ _ _ (nI 0 - 1) z = _
      unfold BX8_readOrder_15
      rw [if_pos (by decide)]
    · have := hz j hj
      rwa [Nat.zero_add] at this
  | succ k ih =>
    intro a F L f z hk hf ha hF kz hz
    obtain ⟨f, rfl⟩ : ∃ z, f = z + 1 := ⟨f - 1, by omega⟩
    have hz' := h.keep kz (kM.rf y)
    have e10 : irm (nI a) 10 = nI (a % 10) := nI_md (c := 10) ha (by decide)
    have ed : nI a / 10 = nI (a / 10) := nI_dv (c := 10) ha (by decide)
    obtain ⟨o1, o2, o3, -⟩ := or10 F hF (a % 10) (by omega)
    have el : LX8_readOrder_15 (f + 1) (nI F) (nI a) (nI (k + 1) - 1) z = BX8_readOrder_15 (LX8_readOrder_15 f) (nI F) (nI a) (nI (k + 1) - 1) z := rfl
    have eo : oks n (k + 1) a F L = if a % 10 < n ∧ F.testBit (a % 10) = false then oks n k (a / 10) (F ||| 2 ^ (a % 10)) (a % 10 :: L) else none := rfl
    have hk0 : ¬ nI k < 0 := by
      rw [show (0 : Int32) = nI 0 from rfl, nI_lti (by omega) (by decide)]
      omega
    rw [el, eo, nI_pred]
    unfold BX8_readOrder_15
    rw [if_neg hk0, e10, ed]
    simp only [lt, hs8 hz', Option.bind_some, decide_eq_true_eq]
    by_cases c1 : a % 10 < n
    · rw [if_pos ((prd_iff (by omega) (by omega)).mpr c1), isIn8 hz' _ c1, Option.bind_some, o3]
      by_cases c2 : F.testBit (a % 10) = true
      · rw [if_pos c2, if_neg (by rw [c2]; simp)]
        exact Or.inl ⟨rfl, z, rfl, kz⟩
      · have c3 : F.testBit (a % 10) = false := by
          cases q : F.testBit (a % 10)
          · rfl
          · exact absurd q c2
        rw [if_neg c2, if_pos ⟨c1, c3⟩, o1, if_pos (ib_nI (by omega) (by decide)), cl_nI (by omega), show nI k + (-1) = nI k - 1 from (Int32.sub_eq_add_neg _ _).symm]
        exact ih (a / 10) (F ||| 2 ^ (a % 10)) (a % 10 :: L) f (xsA z 23 k (nI (a % 10))) (by omega) (by omega) (by omega) o2 (kz.tr (kX.A (by decide))) (fun j hj => by
          show (if k + j = k then nI (a % 10) else z.2.1 23 (k + j)) = _
          cases j with
          | zero => rw [if_pos (Nat.add_zero k)]; rfl
          | succ j =>
            rw [if_neg (by omega), show k + (j + 1) = k + 1 + j by omega, hz j (Nat.lt_of_succ_lt_succ hj)]
            rfl)
    · rw [if_neg (fun q => c1 ((prd_iff (by omega) (by omega)).mp q)), if_neg (fun q => c1 q.1)]
      exact Or.inl ⟨rfl, z, rfl, kz⟩
theorem rd66 (h : RO own n r t u x y) {s a : Nat} (hs : s ≤ 5) (ha : a < 2 ^ 31) (e19 : y.1 0 19 = nI s) (el : ∀ j, j < s → y.2.1 13 j = nI (a / 10 ^ j % 10)) : ∀ (k c F : Nat) (L : List Nat) (g : Nat), c + k = s → k < g → F < 1024 → (oks n k (a / 10 ^ c) F L = none ∧ LX9_reads_66 y g (nI F) (nI c) = some (.inl (false, y))) ∨ ∃ F' L', oks n k (a / 10 ^ c) F L = some (F', L') ∧ LX9_reads_66 y g (nI F) (nI c) = some (.inr ()) := by
  have hn := h.n10
  intro k
  induction k with
  | zero =>
    intro c F L g hk hg hF
    obtain ⟨g, rfl⟩ : ∃ z, g = z + 1 := ⟨g - 1, by omega⟩
    have e : c = s := by omega
    subst e
    refine Or.inr ⟨F, L, rfl, ?_⟩
    show BX9_reads_66 y _ _ (nI c) = _
    unfold BX9_reads_66
    rw [e19, if_pos (Int32.le_refl _)]
  | succ k ih =>
    intro c F L g hk hg hF
    obtain ⟨g, rfl⟩ : ∃ z, g = z + 1 := ⟨g - 1, by omega⟩
    have hlt : ¬ nI s ≤ nI c := by
      rw [nI_lei (by omega) (by omega)]
      omega
    have hb : ib (nI c) 5 := ib_nI (by omega) (by decide)
    have hd : a / 10 ^ c % 10 < 10 := Nat.mod_lt _ (by decide)
    obtain ⟨o1, o2, o3, -⟩ := or10 F hF (a / 10 ^ c % 10) hd
    have eL : LX9_reads_66 y (g + 1) (nI F) (nI c) = BX9_reads_66 y (LX9_reads_66 y g) (nI F) (nI c) := rfl
    have eo : oks n (k + 1) (a / 10 ^ c) F L = if a / 10 ^ c % 10 < n ∧ F.testBit (a / 10 ^ c % 10) = false then oks n k (a / 10 ^ c / 10) (F ||| 2 ^ (a / 10 ^ c % 10)) (a / 10 ^ c % 10 :: L) else none := rfl
    rw [eL, eo, dv10]
    unfold BX9_reads_66
    rw [e19, if_neg hlt, if_pos hb]
    simp only [cl_nI (show c < 2 ^ 31 by omega), el c (show c < s by omega), lt, hs9 h, Option.bind_some, decide_eq_true_eq, if_pos hb, nI_1]
    by_cases c1 : a / 10 ^ c % 10 < n
    · rw [if_pos ((prd_iff (by omega) (by omega)).mpr c1)]
      have o4 : ((nI F >>> (nI (a / 10 ^ c % 10) &&& 31)) &&& 1 = 1) ↔ F.testBit (a / 10 ^ c % 10) = true := by
        rw [← o3]
        unfold inF
        rw [decide_eq_true_eq]
      by_cases c2 : F.testBit (a / 10 ^ c % 10) = true
      · rw [if_pos (o4.mpr c2), if_neg (by rw [c2]; simp)]
        exact Or.inl ⟨rfl, rfl⟩
      · have c3 : F.testBit (a / 10 ^ c % 10) = false := by
          cases q : F.testBit (a / 10 ^ c % 10)
          · rfl
          · exact absurd q c2
        rw [if_neg (fun q => c2 (o4.mp q)), if_pos ⟨c1, c3⟩, o1]
        exact ih (c + 1) (F ||| 2 ^ (a / 10 ^ c % 10)) (a / 10 ^ c % 10 :: L) g (by omega) (by omega) o2
    · rw [if_neg (fun q => c1 ((prd_iff (by omega) (by omega)).mp q)), if_neg (fun q => c1 q.1)]
      exact Or.inl ⟨rfl, rfl⟩
theorem rd127 {y1 : MS} {s : Nat} (hs : s ≤ 5) : ∀ (k c g : Nat) (z : MS), c + k = s / 2 → k < g → kM y1 z → z.1 0 19 = nI s → (∀ j, j < s → z.2.1 13 j = if j < c ∨ s - 1 - j < c then y1.2.1 13 (s - 1 - j) else y1.2.1 13 j) → ∃ z', LX9_reads_127 g (nI c) z = some z' ∧ kM y1 z' ∧ z'.1 0 19 = nI s ∧ ∀ j, j < s → z'.2.1 13 j = y1.2.1 13 (s - 1 - j) := by
  intro k
  induction k with
  | zero =>
    intro c g z hk hg kz e19 hz
    obtain ⟨g, rfl⟩ : ∃ z, g = z + 1 := ⟨g - 1, by omega⟩
    refine ⟨z, ?_, kz, e19, fun j hj => ?_⟩
    · show BX9_reads_127 _ (nI c) z = _
      unfold BX9_reads_127
      rw [e19, show nI s / 2 = nI (s / 2) from nI_dv (c := 2) (by omega) (by decide), if_pos (by rw [nI_lei (by omega) (by omega)]; omega)]
    · rw [hz j hj]
      by_cases q : j < c ∨ s - 1 - j < c
      · rw [if_pos q]
      · rw [if_neg q, show s - 1 - j = j by omega]
  | succ k ih =>
    intro c g z hk hg kz e19 hz
    obtain ⟨g, rfl⟩ : ∃ z, g = z + 1 := ⟨g - 1, by omega⟩
    have ei : (nI s - 1) - nI c = nI (s - 1 - c) := by
      rw [show (1 : Int32) = nI 1 from rfl, nI_sb (by omega), nI_sb (by omega)]
    have za : z.2.1 13 c = y1.2.1 13 c := by
      rw [hz c (by omega), if_neg (by omega)]
    have zb : z.2.1 13 (s - 1 - c) = y1.2.1 13 (s - 1 - c) := by
      rw [hz _ (by omega), if_neg (by omega)]
    obtain ⟨z', l1, l2, l3, l4⟩ := ih (c + 1) g (msA (msA z 13 c (y1.2.1 13 (s - 1 - c))) 13 (s - 1 - c) (y1.2.1 13 c)) (by omega) (by omega) ((kz.tr (kM.A (by decide))).tr (kM.A (by decide))) e19 (fun j hj => by
      show (if j = s - 1 - c then y1.2.1 13 c else if j = c then y1.2.1 13 (s - 1 - c) else z.2.1 13 j) = _
      by_cases q1 : j = s - 1 - c
      · rw [if_pos q1, if_pos (by omega), q1, show s - 1 - (s - 1 - c) = c by omega]
      · rw [if_neg q1]
        by_cases q2 : j = c
        · rw [if_pos q2, if_pos (by omega), q2]
        · rw [if_neg q2, hz j hj]
          by_cases q3 : j < c ∨ s - 1 - j < c
          · rw [if_pos q3, if_pos (by omega)]
          · rw [if_neg q3, if_neg (by omega)])
    refine ⟨z', ?_, l2, l3, l4⟩
    show BX9_reads_127 _ (nI c) z = _
    have e19' : ∀ (w v : Int32) (i j : Nat), (msA (msA z 13 i w) 13 j v).1 0 19 = nI s := fun _ _ _ _ => e19
    have e19a : ∀ (w : Int32) (i : Nat), (msA z 13 i w).1 0 19 = nI s := fun _ _ => e19
    have e2 : nI s / 2 = nI (s / 2) := nI_dv (c := 2) (by omega) (by decide)
    have hlt : ¬ nI (s / 2) ≤ nI c := by
      rw [nI_lei (by omega) (by omega)]
      omega
    have hbc : ib (nI c) 5 := ib_nI (by omega) (by decide)
    have hbs : ib (nI (s - 1 - c)) 5 := ib_nI (by omega) (by decide)
    have hcc : (nI c).toNatClampNeg = c := cl_nI (by omega)
    have hcs : (nI (s - 1 - c)).toNatClampNeg = s - 1 - c := cl_nI (by omega)
    unfold BX9_reads_127
    rw [e19, e2, if_neg hlt]
    simp only [lt, e19a, ei, nI_1, hcc, hcs, if_pos hbc, if_pos hbs, za, zb]
    exact l1
theorem rd7 {y : MS} {a : Nat} (ha : a < 2 ^ 31) : ∀ (k c g : Nat) (z : MS), c + k = 5 → k < g → kM y z → z.1 0 19 = nI c → (∀ j, j < c → z.2.1 13 j = nI (a / 10 ^ j % 10)) → (∃ z', LX9_reads_7 g (nI (a / 10 ^ c)) z = some (.inl (false, z')) ∧ kM y z' ∧ ∀ e, c ≤ e → e ≤ 5 → a / 10 ^ e ≠ 1) ∨ ∃ e z', c ≤ e ∧ e ≤ 5 ∧ LX9_reads_7 g (nI (a / 10 ^ c)) z = some (.inr (nI (a / 10 ^ e), z')) ∧ kM y z' ∧ z'.1 0 19 = nI e ∧ (∀ j, j < e → z'.2.1 13 j = nI (a / 10 ^ j % 10)) ∧ a / 10 ^ e ≤ 9 ∧ ∀ e', c ≤ e' → e' < e → a / 10 ^ e' ≠ 1 := by
  have le : ∀ c, a / 10 ^ c < 2 ^ 31 := fun c => Nat.lt_of_le_of_lt (Nat.div_le_self _ _) ha
  have l9 : ∀ c, nI (a / 10 ^ c) ≤ 9 ↔ a / 10 ^ c ≤ 9 := fun c => nI_lei (b := 9) (le c) (by decide)
  intro k
  induction k with
  | zero =>
    intro c g z hk hg kz e19 hz
    obtain ⟨g, rfl⟩ : ∃ z, g = z + 1 := ⟨g - 1, by omega⟩
    have e : c = 5 := by omega
    subst e
    have eL : LX9_reads_7 (g + 1) (nI (a / 10 ^ 5)) z = BX9_reads_7 (LX9_reads_7 g) (nI (a / 10 ^ 5)) z := rfl
    rw [eL]
    unfold BX9_reads_7
    by_cases q : a / 10 ^ 5 ≤ 9
    · rw [if_pos ((l9 5).mpr q)]
      exact Or.inr ⟨5, z, Nat.le_refl _, Nat.le_refl _, rfl, kz, e19, hz, q, fun e' h1 h2 => by omega⟩
    · rw [if_neg (fun w => q ((l9 5).mp w)), e19, if_pos (show nI 5 = 5 from rfl)]
      refine Or.inl ⟨z, rfl, kz, fun e' h1 h2 => ?_⟩
      have : e' = 5 := by omega
      subst this
      omega
  | succ k ih =>
    intro c g z hk hg kz e19 hz
    obtain ⟨g, rfl⟩ : ∃ z, g = z + 1 := ⟨g - 1, by omega⟩
    have eL : LX9_reads_7 (g + 1) (nI (a / 10 ^ c)) z = BX9_reads_7 (LX9_reads_7 g) (nI (a / 10 ^ c)) z := rfl
    rw [eL]
    unfold BX9_reads_7
    by_cases q : a / 10 ^ c ≤ 9
    · rw [if_pos ((l9 c).mpr q)]
      exact Or.inr ⟨c, z, Nat.le_refl _, by omega, rfl, kz, e19, hz, q, fun e' h1 h2 => by omega⟩
    · have n5 : ¬ nI c = 5 := by
        rw [show (5 : Int32) = nI 5 from rfl, nI_eqi (by omega) (by decide)]
        omega
      have ed : nI (a / 10 ^ c) / 10 = nI (a / 10 ^ (c + 1)) := by
        rw [← dv10]
        exact nI_dv (c := 10) (le c) (by decide)
      have em : irm (nI (a / 10 ^ c)) 10 = nI (a / 10 ^ c % 10) := nI_md (c := 10) (le c) (by decide)
      have e19a : ∀ (w : Int32) (i : Nat), (msA z 13 i w).1 0 19 = nI c := fun _ _ => e19
      rw [if_neg (fun w => q ((l9 c).mp w)), e19, if_neg n5, if_pos (ib_nI (by omega) (by decide)), em, ed, cl_nI (by omega)]
      simp only [lt, e19a, nI_1]
      rcases ih (c + 1) g (msS (msA z 13 c (nI (a / 10 ^ c % 10))) 0 19 (nI (c + 1))) (by omega) (by omega) ((kz.tr (kM.A (by decide))).tr (kM.S (by decide))) (by
        show (if (0 : Nat) = 0 then (fun q => if q = 19 then nI (c + 1) else z.1 0 q) else z.1 0) 19 = _
        simp) (fun j hj => by
        show (if j = c then nI (a / 10 ^ c % 10) else z.2.1 13 j) = _
        by_cases q2 : j = c
        · rw [if_pos q2, q2]
        · rw [if_neg q2]
          exact hz j (by omega)) with ⟨z', l1, l2, l3⟩ | ⟨e, z', l1, l2, l3, l4, l5, l6, l7, l8⟩
      · refine Or.inl ⟨z', l1, l2, fun e h1 h2 => ?_⟩
        by_cases q2 : e = c
        · subst q2
          omega
        · exact l3 e (by omega) h2
      · refine Or.inr ⟨e, z', by omega, l2, l3, l4, l5, l6, l7, fun e' h1 h2 => ?_⟩
        by_cases q2 : e' = c
        · subst q2
          omega
        · exact l8 e' (by omega) h2
theorem dig_loop (a : Int32) : ∀ (k c f : Nat), c + k = 6 → k < f → 1 ≤ c → (LX8_digitsBehindOne_5 a f (nI (10 ^ c)) (nI c) = some (.inr ()) ∧ ∀ e, c ≤ e → e ≤ 5 → ¬ (nI (10 ^ e) ≤ a ∧ a ≤ nI (2 * 10 ^ e - 1))) ∨ ∃ s, c ≤ s ∧ s ≤ 5 ∧ LX8_digitsBehindOne_5 a f (nI (10 ^ c)) (nI c) = some (.inl (nI s)) ∧ nI (10 ^ s) ≤ a ∧ a ≤ nI (2 * 10 ^ s - 1) := by
  intro k
  induction k with
  | zero =>
    intro c f hk hf hc
    obtain ⟨f, rfl⟩ : ∃ z, f = z + 1 := ⟨f - 1, by omega⟩
    have e : c = 6 := by omega
    subst e
    refine Or.inl ⟨?_, fun e h1 h2 => by omega⟩
    show BX8_digitsBehindOne_5 a _ _ (nI 6) = _
    unfold BX8_digitsBehindOne_5
    rw [if_pos (by decide)]
  | succ k ih =>
    intro c f hk hf hc
    obtain ⟨f, rfl⟩ : ∃ z, f = z + 1 := ⟨f - 1, by omega⟩
    have hlt : ¬ (5 : Int32) < nI c := by
      rw [show (5 : Int32) = nI 5 from rfl, nI_lti (by decide) (by omega)]
      omega
    have hp1 : 1 ≤ 10 ^ c := Nat.one_le_pow _ _ (by decide)
    have e2 : (2 * nI (10 ^ c)) - 1 = nI (2 * 10 ^ c - 1) := by
      rw [show (2 : Int32) = nI 2 from rfl, nI_ml, show (1 : Int32) = nI 1 from rfl, nI_sb (by omega)]
    have e3 : nI (10 ^ c) * 10 = nI (10 ^ (c + 1)) := by
      rw [show (10 : Int32) = nI 10 from rfl, nI_ml, Nat.pow_succ]
    have eL : LX8_digitsBehindOne_5 a (f + 1) (nI (10 ^ c)) (nI c) = BX8_digitsBehindOne_5 a (LX8_digitsBehindOne_5 a f) (nI (10 ^ c)) (nI c) := rfl
    rw [eL]
    unfold BX8_digitsBehindOne_5
    rw [if_neg hlt, in8, e2]
    simp only [Option.bind_some, decide_eq_true_eq, lt, e3, nI_1]
    by_cases q : nI (10 ^ c) ≤ a ∧ a ≤ nI (2 * 10 ^ c - 1)
    · rw [if_pos q]
      exact Or.inr ⟨c, Nat.le_refl _, by omega, rfl, q.1, q.2⟩
    · rw [if_neg q]
      rcases ih (c + 1) f (by omega) (by omega) (by omega) with ⟨l1, l2⟩ | ⟨s, l1, l2, l3, l4⟩
      · refine Or.inl ⟨l1, fun e h1 h2 => ?_⟩
        by_cases q2 : e = c
        · subst q2
          exact q
        · exact l2 e (by omega) h2
      · exact Or.inr ⟨s, by omega, l2, l3, l4⟩
theorem p10 {e : Nat} (h : e ≤ 5) : 10 ^ e ≤ 100000 := Nat.pow_le_pow_right (n := 10) (by decide) h
theorem dig8 (a : Int32) : ∃ s, s ≤ 5 ∧ fX8_digitsBehindOne a = some (nI s) ∧ (s = 0 → ∀ e k, 1 ≤ e → e ≤ 5 → k < 2 ^ 31 → a = nI k → k / 10 ^ e ≠ 1) ∧ (s ≠ 0 → ∃ k, k < 2 ^ 31 ∧ a = nI k ∧ k / 10 ^ s = 1) := by
  rcases dig_loop a 5 1 NF rfl (by unfold NF; omega) (Nat.le_refl _) with ⟨l1, l2⟩ | ⟨s, l1, l2, l3, l4, l5⟩
  · have l1 : LX8_digitsBehindOne_5 a NF 10 1 = some (.inr ()) := l1
    refine ⟨0, by decide, ?_, fun _ e k h1 h2 hk ek q => ?_, fun q => absurd rfl q⟩
    · unfold fX8_digitsBehindOne
      rw [l1]
      rfl
    · have hp := p10 h2
      have hp1 : 1 ≤ 10 ^ e := Nat.one_le_pow _ _ (by decide)
      have d1 := Nat.div_add_mod k (10 ^ e)
      have d2 := Nat.mod_lt k (show 0 < 10 ^ e by omega)
      rw [q, Nat.mul_one] at d1
      refine l2 e h1 h2 ?_
      rw [ek, nI_lei (by omega) hk, nI_lei hk (by omega)]
      omega
  · have l3 : LX8_digitsBehindOne_5 a NF 10 1 = some (.inl (nI s)) := l3
    have hp := p10 l2
    have hp1 : 1 ≤ 10 ^ s := Nat.one_le_pow _ _ (by decide)
    refine ⟨s, l2, ?_, fun q => by omega, fun _ => ?_⟩
    · unfold fX8_digitsBehindOne
      rw [l3]
      rfl
    · rcases sg32 a with q | ⟨k, hk, rfl⟩
      · exfalso
        have : nI (10 ^ s) < 0 := Int32.lt_of_le_of_lt l4 q
        rw [show (0 : Int32) = nI 0 from rfl, nI_lti (by omega) (by decide)] at this
        omega
      · rw [nI_lei (by omega) hk] at l4
        rw [nI_lei hk (by omega)] at l5
        exact ⟨k, hk, rfl, Nat.div_eq_of_lt_le (by omega) (by omega)⟩
theorem ord89 (h : RO own n r t u x y) (a : Int32) : (∃ x' y' b, fX8_readOrder x a = some (0, x') ∧ fX9_reads y a = some (b, y') ∧ kX x x' ∧ kM y y' ∧ (b = false ∨ y'.1 0 19 = 0)) ∨ ∃ (x' : XS) (y' : MS) (s F : Nat) (L : List Nat), fX8_readOrder x a = some (nI F, x') ∧ fX9_reads y a = some (true, y') ∧ kX x x' ∧ kM y y' ∧ 1 ≤ s ∧ s ≤ 5 ∧ F < 1024 ∧ many F = s ∧ F = orl L ∧ L.length = s ∧ (∀ j, j < s → L.getD j 0 < n) ∧ y'.1 0 19 = nI s ∧ (∀ j, j < s → x'.2.1 23 j = nI (L.getD j 0)) ∧ ∀ j, j < s → y'.2.1 13 j = nI (L.getD j 0) := by
  have hn := h.n10
  obtain ⟨s, s1, s2, s3, s4⟩ := dig8 a
  have k0 : kM y (msS y 0 19 0) := kM.S (by decide)
  have e0 : (msS y 0 19 0).1 0 19 = nI 0 := by
    show (if (0 : Nat) = 0 then (fun q => if q = 19 then (0 : Int32) else y.1 0 q) else y.1 0) 19 = _
    simp
    rfl
  have zero : s = 0 → fX8_readOrder x a = some (0, x) := by
    intro q
    subst q
    unfold fX8_readOrder
    rw [s2, Option.bind_some]
    simp only [lt]
    show bs (BX8_readOrder_15 (LX8_readOrder_15 999) 0 a (-1) x) _ _ = _
    unfold BX8_readOrder_15
    rw [if_pos (by decide)]
    rfl
  rcases sg32 a with q | ⟨k, hk, rfl⟩
  · have hs0 : s = 0 := by
      apply Classical.byContradiction
      intro w
      obtain ⟨k, hk, rfl, -⟩ := s4 w
      rw [show (0 : Int32) = nI 0 from rfl, nI_lti hk (by decide)] at q
      omega
    refine Or.inl ⟨x, msS y 0 19 0, false, zero hs0, ?_, kX.rf x, k0, Or.inl rfl⟩
    unfold fX9_reads
    simp only [lt]
    show bs (BX9_reads_7 (LX9_reads_7 999) a (msS y 0 19 0)) _ _ = _
    unfold BX9_reads_7
    rw [if_pos (Int32.le_of_lt (Int32.lt_of_lt_of_le q (by decide)))]
    simp only [bs, bind2]
    rw [if_neg (by rintro rfl; exact absurd q (by decide))]
  · have hr7 := rd7 (y := y) hk 5 0 NF (msS y 0 19 0) rfl (by unfold NF; omega) k0 e0 (fun j hj => absurd hj (Nat.not_lt_zero j))
    rw [Nat.pow_zero, Nat.div_one] at hr7
    have uniq : s ≠ 0 → k / 10 ^ s = 1 := by
      intro w
      obtain ⟨k', hk', ek, q⟩ := s4 w
      have := (nI_eqi hk hk').mp ek
      rw [this]
      exact q
    rcases hr7 with ⟨z', l1, l2, l3⟩ | ⟨e, z', l1, l2, l3, l4, l5, l6, l7, l8⟩
    · have hs0 : s = 0 := by
        apply Classical.byContradiction
        intro w
        exact l3 s (Nat.zero_le _) s1 (uniq w)
      refine Or.inl ⟨x, z', false, zero hs0, ?_, kX.rf x, l2, Or.inl rfl⟩
      unfold fX9_reads
      simp only [lt]
      rw [l1]
      rfl
    · have far : ∀ d, e < d → k / 10 ^ d = 0 := by
        intro d hd
        rw [show d = e + ((d - e - 1) + 1) by omega, Nat.pow_add, ← Nat.div_div_eq_div_mul, Nat.pow_succ]
        apply Nat.div_eq_of_lt
        have := Nat.one_le_pow (d - e - 1) 10 (by decide)
        omega
      have same : s ≠ 0 → s = e := by
        intro w
        have q := uniq w
        rcases Nat.lt_trichotomy s e with c | c | c
        · exact absurd q (l8 s (Nat.zero_le _) c)
        · exact c
        · rw [far s c] at q
          omega
      by_cases q1 : k / 10 ^ e = 1
      · by_cases q2 : e = 0
        · subst q2
          have hs0 : s = 0 := by
            apply Classical.byContradiction
            intro w
            exact w (same w)
          refine Or.inl ⟨x, z', true, zero hs0, ?_, kX.rf x, l4, Or.inr (by rw [l5]; rfl)⟩
          unfold fX9_reads
          simp only [lt]
          rw [l3, q1]
          simp only [bs, bind2]
          rw [if_pos (show nI 1 = 1 from rfl)]
          have r1 : LX9_reads_66 z' NF 0 0 = some (.inr ()) := by
            show BX9_reads_66 z' (LX9_reads_66 z' 999) 0 0 = _
            unfold BX9_reads_66
            rw [l5, if_pos (by decide)]
          have r2 : LX9_reads_127 NF 0 z' = some z' := by
            show BX9_reads_127 (LX9_reads_127 999) 0 z' = _
            unfold BX9_reads_127
            rw [l5, if_pos (by decide)]
          rw [r1, r2]
          rfl
        · have hs : s = e := by
            apply Classical.byContradiction
            intro w
            by_cases w2 : s = 0
            · exact s3 w2 e k (by omega) l2 hk rfl q1
            · exact w (same w2)
          subst hs
          have hz := h.keep (kX.rf x) l4
          have p8 := rdO8 h s k 0 [] NF x s1 (by unfold NF; omega) hk (by decide) (kX.rf x) (fun j hj => absurd hj (Nat.not_lt_zero j))
          have p9 := rd66 hz l2 hk l5 l6 s 0 0 [] NF (by omega) (by unfold NF; omega) (by decide)
          rw [Nat.pow_zero, Nat.div_one] at p9
          have w8 : fX8_readOrder x (nI k) = bs (LX8_readOrder_15 NF 0 (nI k) (nI s - 1) x) (fun a => some a) (fun b => bind2 (some b) fun v14 x15 => some (v14, x15)) := by
            unfold fX8_readOrder
            rw [s2, Option.bind_some]
            rfl
          have w9 : fX9_reads y (nI k) = bs (LX9_reads_66 z' NF 0 0) (fun a => some a) (fun _ => Option.bind (LX9_reads_127 NF 0 z') fun x23 => some (true, x23)) := by
            unfold fX9_reads
            simp only [lt]
            rw [l3, q1]
            simp only [bs, bind2]
            rw [if_pos (show nI 1 = 1 from rfl)]
          rcases p8 with ⟨o1, x', m1, m2⟩ | ⟨F, L, o1, x', m1, m2, m3⟩
          · rcases p9 with ⟨o2, m4⟩ | ⟨F', L', o2, m4⟩
            · refine Or.inl ⟨x', z', false, ?_, ?_, m2, l4, Or.inl rfl⟩
              · rw [w8]
                have m1 : LX8_readOrder_15 NF 0 (nI k) (nI s - 1) x = some (.inl (0, x')) := m1
                rw [m1]
                rfl
              · rw [w9]
                have m4 : LX9_reads_66 z' NF 0 0 = some (.inl (false, z')) := m4
                rw [m4]
                rfl
            · rw [o1] at o2
              cases o2
          · rcases p9 with ⟨o2, m4⟩ | ⟨F', L', o2, m4⟩
            · rw [o1] at o2
              cases o2
            · obtain ⟨i1, i2, -, i4, i5⟩ := oks_is hn _ _ _ _ _ _ o1 (by decide)
              obtain ⟨M, j1, j2⟩ := oks_or _ _ _ _ _ _ o1
              rw [List.append_nil] at j1
              subst j1
              obtain ⟨y', g1, g2, g3, g4⟩ := rd127 (y1 := z') l2 (s / 2) 0 NF z' (by omega) (by unfold NF; omega) (kM.rf z') l5 (fun j hj => by rw [if_neg (by omega)])
              have e0 : many 0 = 0 := by decide
              refine Or.inr ⟨x', y', s, F, L, ?_, ?_, m2, l4.tr g2, by omega, s1, i4, by omega, by rw [j2, Nat.zero_or], by rw [i1]; show 0 + s = s; omega, fun j hj => (i2 j hj).2, g3, fun j hj => m3 j (by rw [i1]; show j < 0 + s; omega), fun j hj => ?_⟩
              · rw [w8]
                have m1 : LX8_readOrder_15 NF 0 (nI k) (nI s - 1) x = some (.inr (nI F, x')) := m1
                rw [m1]
                rfl
              · rw [w9]
                have m4 : LX9_reads_66 z' NF 0 0 = some (.inr ()) := m4
                have g1 : LX9_reads_127 NF 0 z' = some y' := g1
                rw [m4, g1]
                rfl
              · rw [g4 j hj, l6 _ (by omega), (i2 j hj).1]
      · have hs0 : s = 0 := by
          apply Classical.byContradiction
          intro w
          have := uniq w
          rw [same w] at this
          exact q1 this
        refine Or.inl ⟨x, z', false, zero hs0, ?_, kX.rf x, l4, Or.inl rfl⟩
        unfold fX9_reads
        simp only [lt]
        rw [l3]
        simp only [bs, bind2]
        rw [if_neg (show ¬ nI (k / 10 ^ e) = 1 from fun w => q1 ((nI_eqi (b := 1) (by omega) (by decide)).mp w))]
end ORDERS
