/-! chances: shares, cases, lowest terms -/
def CZ (own : Nat → Nat) (n r t u : Nat) (A : Nat → Int32) (F s : Nat) (z : XS) (w : MS) : Prop := (RO own n r t u z (rs9 w A)) ∧ (z.1 16 5 = nI F) ∧ (z.1 16 6 = nI s) ∧ (w.1 0 15 = nI s) ∧ (s ≤ 3) ∧ (F < 2 ^ n) ∧ (many F ≤ 5) ∧ (∀ i, i < n → F.testBit i = true → w.2.1 11 i = z.2.1 17 i) ∧ (∀ i, i < n → sm (z.2.1 17 i) 214)
theorem CZ.R {own : Nat → Nat} {n r t u : Nat} {A : Nat → Int32} {F s : Nat} {z : XS} {w : MS} (zz : CZ own n r t u A F s z w) : RO own n r t u z (rs9 w A) := zz.1
theorem CZ.ff {own : Nat → Nat} {n r t u : Nat} {A : Nat → Int32} {F s : Nat} {z : XS} {w : MS} (zz : CZ own n r t u A F s z w) : z.1 16 5 = nI F := zz.2.1
theorem CZ.fs {own : Nat → Nat} {n r t u : Nat} {A : Nat → Int32} {F s : Nat} {z : XS} {w : MS} (zz : CZ own n r t u A F s z w) : z.1 16 6 = nI s := zz.2.2.1
theorem CZ.ws {own : Nat → Nat} {n r t u : Nat} {A : Nat → Int32} {F s : Nat} {z : XS} {w : MS} (zz : CZ own n r t u A F s z w) : w.1 0 15 = nI s := zz.2.2.2.1
theorem CZ.s3 {own : Nat → Nat} {n r t u : Nat} {A : Nat → Int32} {F s : Nat} {z : XS} {w : MS} (zz : CZ own n r t u A F s z w) : s ≤ 3 := zz.2.2.2.2.1
theorem CZ.F1 {own : Nat → Nat} {n r t u : Nat} {A : Nat → Int32} {F s : Nat} {z : XS} {w : MS} (zz : CZ own n r t u A F s z w) : F < 2 ^ n := zz.2.2.2.2.2.1
theorem CZ.F2 {own : Nat → Nat} {n r t u : Nat} {A : Nat → Int32} {F s : Nat} {z : XS} {w : MS} (zz : CZ own n r t u A F s z w) : many F ≤ 5 := zz.2.2.2.2.2.2.1
theorem CZ.B {own : Nat → Nat} {n r t u : Nat} {A : Nat → Int32} {F s : Nat} {z : XS} {w : MS} (zz : CZ own n r t u A F s z w) : ∀ i, i < n → F.testBit i = true → w.2.1 11 i = z.2.1 17 i := zz.2.2.2.2.2.2.2.1
theorem CZ.S {own : Nat → Nat} {n r t u : Nat} {A : Nat → Int32} {F s : Nat} {z : XS} {w : MS} (zz : CZ own n r t u A F s z w) : ∀ i, i < n → sm (z.2.1 17 i) 214 := zz.2.2.2.2.2.2.2.2
theorem okW.up {W : Nat → Nat} {m m' : Nat} (h : okW W m) (hm : m ≤ m') : okW W m' := by
  intro k
  obtain ⟨a, b⟩ := h k
  exact ⟨Nat.le_trans a (Nat.pow_le_pow_right (by decide) hm), fun q => b (by omega)⟩
section CHANCE
variable {own : Nat → Nat} {n r t u : Nat} {A : Nat → Int32} {F s : Nat} {z : XS} {w : MS}
theorem CZ.n10 (c : CZ own n r t u A F s z w) : n ≤ 10 := c.R.n10
theorem CZ.F10 (c : CZ own n r t u A F s z w) : F < 1024 := by
  have h1 := c.F1
  have h2 : 2 ^ n ≤ 2 ^ 10 := Nat.pow_le_pow_right (by decide) c.n10
  have e : (2 : Nat) ^ 10 = 1024 := by decide
  omega
theorem CZ.mv (c : CZ own n r t u A F s z w) {z' : XS} {w' : MS} (h : s19 z z') (g : lgs w w') : CZ own n r t u A F s z' w' := by
  refine ⟨c.R.keep h.kX (kM_rs9 A g.kM.1 g.kM.2.1 g.kM.2.2.1), by rw [h.1]; exact c.ff, by rw [h.1]; exact c.fs, by rw [g.1]; exact c.ws, c.s3, c.F1, c.F2, fun i hi ht => ?_, fun i hi => ?_⟩
  · rw [g.2, h.2.1 17 (by decide)]
    exact c.B i hi ht
  · rw [h.2.1 17 (by decide)]
    exact c.S i hi
theorem CZ.runs (c : CZ own n r t u A F s z w) {i : Nat} (hi : i < 10) : fX0_runs z (nI i) = some (F.testBit i) := by
  have o := (or10 F c.F10 i hi).2.2.1
  unfold inF at o
  unfold fX0_runs
  rw [c.ff, ← o]
  split
  · rename_i q
    rw [decide_eq_true q]
  · rename_i q
    rw [decide_eq_false q]
theorem CZ.of (c : CZ own n r t u A F s z w) {i : Nat} (hi : i < n) : fX9_isOf w (nI F) (nI i) = some (F.testBit i) := by
  have o := (or10 F c.F10 i (by have := c.n10; omega)).2.2.1
  rw [← o]
  exact isOf9 c.R (nI F) hi
theorem CZ.far (c : CZ own n r t u A F s z w) {i : Nat} (hi : n ≤ i) : F.testBit i = false :=
  Nat.testBit_lt_two_pow (Nat.lt_of_lt_of_le c.F1 (Nat.pow_le_pow_right (by decide) hi))
theorem CZ.va (c : CZ own n r t u A F s z w) : fX0_variants z = some (nI (2 * s + 1)) := by
  unfold fX0_variants
  rw [c.fs, show (2 : Int32) * nI s = nI (2 * s) from nI_ml 2 s, nI_1]
theorem CZ.wy (c : CZ own n r t u A F s z w) : fX9_ways w = some (nI (2 * s + 1)) := by
  unfold fX9_ways
  rw [c.ws, show (2 : Int32) * nI s = nI (2 * s) from nI_ml 2 s, nI_1]
theorem ways_tail (c : CZ own n r t u A F s z w) {h : Nat} (hh : h < n) (run : Int32) (al : Bool) : ∀ (k i f : Nat), i + k = 10 → n ≤ i → k < f → LX0_countWays_18 (nI h) run al f (nI i) z = some z := by
  have hn := c.n10
  intro k
  induction k with
  | zero =>
    intro i f hk hi hf
    obtain ⟨f, rfl⟩ : ∃ z, f = z + 1 := ⟨f - 1, by omega⟩
    have e : i = 10 := by omega
    subst e
    show BX0_countWays_18 _ _ _ _ (nI 10) z = _
    unfold BX0_countWays_18
    rw [if_pos (by decide)]
  | succ k ih =>
    intro i f hk hi hf
    obtain ⟨f, rfl⟩ : ∃ z, f = z + 1 := ⟨f - 1, by omega⟩
    show BX0_countWays_18 _ _ _ _ (nI i) z = _
    unfold BX0_countWays_18
    rw [if_neg (by rw [show (10 : Int32) = nI 10 from rfl, nI_lei (by decide) (by omega)]; omega), if_neg (by rw [nI_eqi (by omega) (by omega)]; omega), c.runs (by omega), c.far hi, Option.bind_some, if_neg (by decide)]
    simp only [lt, nI_1]
    exact ih (i + 1) f (by omega) (by omega) (by omega)
theorem ways_loop {z0 : XS} {w0 : MS} (c0 : CZ own n r t u A F s z0 w0) {h : Nat} (hh : h < n) {run : Int32} (hrun : sm run 300) (al : Bool) : ∀ (k i fu gu : Nat) (z : XS) (w : MS) (W : Nat → Nat), i + k = n → 10 - i < fu → k < gu → s19 z0 z → lgs w0 w → RW z W → LYw w W → okW W (cn F h i) → tl W 0 5 ≤ (2 * s + 1) ^ cn F h i → ∃ W' z' w', LX0_countWays_18 (nI h) run al fu (nI i) z = some z' ∧ LX9_others_35 (nI F) (nI h) run (!al) gu (nI i) w = some w' ∧ s19 z0 z' ∧ lgs w0 w' ∧ RW z' W' ∧ LYw w' W' ∧ okW W' (cn F h n) ∧ tl W' 0 5 ≤ (2 * s + 1) ^ cn F h n := by
  have hn := c0.n10
  have hs3 := c0.s3
  intro k
  induction k with
  | zero =>
    intro i fu gu z w W hk hf hg hs hl hR hL hW hT
    obtain ⟨gu, rfl⟩ : ∃ z, gu = z + 1 := ⟨gu - 1, by omega⟩
    have e : i = n := by omega
    subst e
    have c := c0.mv hs hl
    have ey : w.1 0 13 = nI i := c.R.H.ey
    refine ⟨W, z, w, ways_tail c hh run al (10 - i) i fu (by omega) (Nat.le_refl _) hf, ?_, hs, hl, hR, hL, hW, hT⟩
    show BX9_others_35 _ _ _ _ _ (nI i) w = _
    unfold BX9_others_35
    rw [ey, if_pos (Int32.le_refl _)]
  | succ k ih =>
    intro i fu gu z w W hk hf hg hs hl hR hL hW hT
    obtain ⟨fu, rfl⟩ : ∃ z, fu = z + 1 := ⟨fu - 1, by omega⟩
    obtain ⟨gu, rfl⟩ : ∃ z, gu = z + 1 := ⟨gu - 1, by omega⟩
    have c := c0.mv hs hl
    have hi : i < n := by omega
    have ey : w.1 0 13 = nI n := c.R.H.ey
    have hlt : ¬ nI n ≤ nI i := by
      rw [nI_lei (by omega) (by omega)]
      omega
    have l10 : ¬ (10 : Int32) ≤ nI i := by
      rw [show (10 : Int32) = nI 10 from rfl, nI_lei (by decide) (by omega)]
      omega
    have hb : ib (nI i) 10 := ib_nI (by omega) (by decide)
    have hc : (nI i).toNatClampNeg = i := cl_nI (by omega)
    show ∃ W' z' w', BX0_countWays_18 (nI h) run al (LX0_countWays_18 (nI h) run al fu) (nI i) z = some z' ∧ BX9_others_35 (nI F) (nI h) run (!al) (LX9_others_35 (nI F) (nI h) run (!al) gu) (nI i) w = some w' ∧ _
    unfold BX0_countWays_18 BX9_others_35
    rw [if_neg l10, ey, if_neg hlt]
    by_cases q : i = h
    · subst q
      rw [if_pos rfl, if_pos rfl]
      simp only [lt, nI_1]
      have e : cn F i (i + 1) = cn F i i := by
        show cn F i i + (if _ then 1 else 0) = _
        rw [if_neg (fun z => z.2 rfl), Nat.add_zero]
      exact ih (i + 1) fu gu z w W (by omega) (by omega) (by omega) hs hl hR hL (by rw [e]; exact hW) (by rw [e]; exact hT)
    · have nq : ¬ nI i = nI h := by
        rw [nI_eqi (by omega) (by omega)]
        exact q
      rw [if_neg nq, if_neg nq, c.runs (by omega), c.of hi]
      simp only [Option.bind_some, lt, nI_1]
      by_cases tb : F.testBit i = true
      · have hB := c.S i hi
        have eB := c.B i hi tb
        have hB3 := hB.wk (show 214 ≤ 300 by decide)
        have b8 := bl8 hs3 hB3 hrun
        obtain ⟨b, b1, b2⟩ := same8 hs3 hB3 hrun
        have n9 := below9 (v := run) (show i < 10 by omega) hs3 eB c.ws hB3 (hrun.wk (by decide))
        have hr1 : sm (run + 1) 301 := hrun.ad (sm_nI (k := 1) (b := 1) (by decide) (by decide)) (by decide)
        have er1 : (run + 1).toInt - (z.2.1 17 i).toInt = run.toInt - (z.2.1 17 i).toInt + 1 := by
          have : (run + 1).toInt = run.toInt + (nI 1).toInt := sm_add hrun (sm_nI (k := 1) (b := 1) (by decide) (by decide)) (by decide)
          rw [this, nI_toInt (by decide)]
          omega
        have n9' := below9 (v := run + 1) (show i < 10 by omega) hs3 eB c.ws hB3 hr1
        rw [er1] at n9'
        generalize run.toInt - (z.2.1 17 i).toInt = x at b8 b2 n9 n9'
        have m1 := bl_mono s x
        have m2 := bl_le s (x + 1)
        have ecn : cn F h (i + 1) = cn F h i + 1 := by
          show cn F h i + (if _ then 1 else 0) = _
          rw [if_pos ⟨tb, q⟩]
        simp only [tb, if_true, if_pos hb, hc, c.va, Option.bind_some, c.fs, b8, b1]
        cases al with
        | true =>
          obtain ⟨z2, p1, p2, p3⟩ := add8 (L := bl s x) (M := bl s (x + 1) - bl s x) hR
          obtain ⟨w2, r1, r2, r3⟩ := add9 (q1 := nI F) (q2 := nI h) (q3 := run) (q5 := nI i) (q4 := false) (L := bl s x) (M := bl s (x + 1) - bl s x) (by omega) (by omega) hL
          have e9 : fX9_equals1 w (nI i) run = some (nI (bl s (x + 1) - bl s x)) := by
            unfold fX9_equals1
            rw [n9', n9, Option.bind_some, Option.bind_some, nI_sb m1]
          simp only [if_true, Bool.not_true, Bool.false_eq_true, if_false, n9, e9, Option.bind_some, b2, r1]
          rw [nI_sb (show 2 * s + 1 - bl s (x + 1) ≤ 2 * s + 1 by omega), nI_sb (by omega), show 2 * s + 1 - (2 * s + 1 - bl s (x + 1)) - (bl s (x + 1) - bl s x) = bl s x by omega, p1]
          simp only [Option.bind_some]
          exact ih (i + 1) fu gu z2 w2 _ (by omega) (by omega) (by omega) (hs.tr p2) (hl.tr r2) p3 r3 (by rw [ecn]; exact hW.st (by omega)) (by rw [ecn]; exact tl5.st hT (by omega))
        | false =>
          obtain ⟨z2, p1, p2, p3⟩ := add8 (L := bl s (x + 1)) (M := 2 * s + 1 - bl s (x + 1)) hR
          obtain ⟨w2, r1, r2, r3⟩ := add9 (q1 := nI F) (q2 := nI h) (q3 := run) (q5 := nI i) (q4 := true) (L := bl s (x + 1)) (M := 2 * s + 1 - bl s (x + 1)) (by omega) (by omega) hL
          simp only [Bool.false_eq_true, if_false, Bool.not_false, if_true, n9', Option.bind_some, c.wy]
          rw [nI_sb (show 2 * s + 1 - bl s (x + 1) ≤ 2 * s + 1 by omega), show 2 * s + 1 - (2 * s + 1 - bl s (x + 1)) = bl s (x + 1) by omega, p1, nI_sb m2, r1]
          simp only [Option.bind_some]
          exact ih (i + 1) fu gu z2 w2 _ (by omega) (by omega) (by omega) (hs.tr p2) (hl.tr r2) p3 r3 (by rw [ecn]; exact hW.st (by omega)) (by rw [ecn]; exact tl5.st hT (by omega))
      · rw [if_neg tb, if_neg tb]
        have e : cn F h (i + 1) = cn F h i := by
          show cn F h i + (if _ then 1 else 0) = _
          rw [if_neg (fun z => tb z.1), Nat.add_zero]
        exact ih (i + 1) fu gu z w W (by omega) (by omega) (by omega) hs hl hR hL (by rw [e]; exact hW) (by rw [e]; exact hT)
def W0 : Nat → Nat := fun k => if k = 0 then 1 else 0
theorem first9 {q1 q2 q3 : Int32} {q4 : Bool} {w0 : MS} : ∀ (k i f : Nat) (w : MS), i + k = 6 → k < f → lgs w0 w → (∀ j, j < i → w.2.2 12 j = nL (W0 j)) → ∃ w', LX9_others_3 q1 q2 q3 q4 f (nI i) w = some w' ∧ lgs w0 w' ∧ LYw w' W0 := by
  intro k
  induction k with
  | zero =>
    intro i f w hk hf hl hw
    obtain ⟨f, rfl⟩ : ∃ z, f = z + 1 := ⟨f - 1, by omega⟩
    have e : i = 6 := by omega
    subst e
    refine ⟨w, ?_, hl, hw⟩
    show BX9_others_3 _ _ _ _ _ (nI 6) w = _
    unfold BX9_others_3
    rw [if_pos (by decide)]
  | succ k ih =>
    intro i f w hk hf hl hw
    obtain ⟨f, rfl⟩ : ∃ z, f = z + 1 := ⟨f - 1, by omega⟩
    have hlt : ¬ (5 : Int32) < nI i := by
      rw [show (5 : Int32) = nI 5 from rfl, nI_lti (by decide) (by omega)]
      omega
    have hb : ib (nI i) 6 := ib_nI (by omega) (by decide)
    have hc : (nI i).toNatClampNeg = i := cl_nI (by omega)
    have nxt := ih (i + 1) f (msL w 12 i (nL (W0 i))) (by omega) (by omega) (hl.tr (lgs.L _ _ _)) (fun j hj => by
      show (if j = i then _ else w.2.2 12 j) = _
      by_cases q : j = i
      · rw [if_pos q, q]
      · rw [if_neg q]
        exact hw j (by omega))
    show ∃ w', BX9_others_3 _ _ _ _ _ (nI i) w = some w' ∧ _
    unfold BX9_others_3
    rw [if_neg hlt]
    simp only [if_pos hb, hc, lt, nI_1]
    by_cases q : i = 0
    · subst q
      rw [if_pos (show nI 0 = 0 from rfl)]
      exact nxt
    · rw [if_neg (show ¬ nI i = 0 from fun z => q ((nI_eqi (b := 0) (by omega) (by decide)).mp z))]
      unfold W0 at nxt
      rw [if_neg q] at nxt
      exact nxt
theorem ways89t (c : CZ own n r t u A F s z w) {h : Nat} (hh : h < n) (ht : F.testBit h = true) {run : Int32} (hrun : sm run 300) (al : Bool) : ∃ W z' w', fX0_countWays z (nI h) run al = some z' ∧ fX9_others w (nI F) (nI h) run (!al) = some w' ∧ s19 z z' ∧ lgs w w' ∧ RW z' W ∧ LYw w' W ∧ okW W 4 ∧ tl W 0 5 ≤ (2 * s + 1) ^ cn F h 10 := by
  have hn := c.n10
  obtain ⟨w1, f1, f2, f3⟩ := first9 (q1 := nI F) (q2 := nI h) (q3 := run) (q4 := !al) 6 0 NF w (by omega) (by unfold NF; omega) (lgs.rf w) (fun j hj => absurd hj (Nat.not_lt_zero j))
  have f1 : LX9_others_3 (nI F) (nI h) run (!al) NF 0 w = some w1 := f1
  have hs0 : s19 z (xsA (xsF z 19 (fun _ => 0)) 19 0 1) := ⟨rfl, fun k q => (up2_ne q).trans (up1_ne q), rfl⟩
  obtain ⟨W, z', w', l1, l2, l3, l4, l5, l6, l7, l8⟩ := ways_loop c hh hrun al n 0 NF NF (xsA (xsF z 19 (fun _ => 0)) 19 0 1) w1 W0 (by omega) (by unfold NF; omega) (by unfold NF; omega) hs0 f2 (fun k hk => by
    show (if k = 0 then 1 else (0 : Int32)) = nI (if k = 0 then 1 else 0)
    split <;> rfl) f3 (fun k => by
    unfold W0
    show (if k = 0 then 1 else 0) ≤ 7 ^ 0 ∧ (0 < k → _)
    by_cases q : k = 0
    · rw [if_pos q]
      exact ⟨Nat.le_refl _, fun z => by omega⟩
    · rw [if_neg q]
      exact ⟨Nat.zero_le _, fun _ => rfl⟩) (by
    show (1 : Nat) ≤ 1
    exact Nat.le_refl 1)
  have l1 : LX0_countWays_18 (nI h) run al NF 0 (xsA (xsF z 19 (fun _ => 0)) 19 0 1) = some z' := l1
  have l2 : LX9_others_35 (nI F) (nI h) run (!al) NF 0 w1 = some w' := l2
  have e0 : (0 : Int32).toNatClampNeg = 0 := rfl
  refine ⟨W, z', w', ?_, ?_, l3, l4, l5, l6, l7.up ?_, ?_⟩
  · unfold fX0_countWays
    simp only [lt]
    rw [if_pos (by decide), e0, l1]
    rfl
  · unfold fX9_others
    rw [f1, Option.bind_some, l2]
    rfl
  · have := cn_le F h (i := n) (10 - n)
    rw [show n + (10 - n) = 10 by omega] at this
    have := cn10 F c.F10 c.F2 h (by omega) ht
    omega
  · have := cn_le F h (i := n) (10 - n)
    rw [show n + (10 - n) = 10 by omega] at this
    exact Nat.le_trans l8 (Nat.pow_le_pow_right (by omega) this)
theorem ways89 (c : CZ own n r t u A F s z w) {h : Nat} (hh : h < n) (ht : F.testBit h = true) {run : Int32} (hrun : sm run 300) (al : Bool) : ∃ W z' w', fX0_countWays z (nI h) run al = some z' ∧ fX9_others w (nI F) (nI h) run (!al) = some w' ∧ s19 z z' ∧ lgs w w' ∧ RW z' W ∧ LYw w' W ∧ okW W 4 := by
  obtain ⟨W, z', w', l1, l2, l3, l4, l5, l6, l7, -⟩ := ways89t c hh ht hrun al
  exact ⟨W, z', w', l1, l2, l3, l4, l5, l6, l7⟩
theorem sum60 {W : Nat → Nat} {q1 q3 p1 p2 p5 : Int32} (hR : RW z W) (hL : LYw w W) (hW : okW W 4) : ∀ (k j f g S : Nat), j + k = 5 → k < f → k < g → ∃ S', LX0_shareOf_33 z q1 q3 f (nI S) (nI j) = some (nI S') ∧ LX9_sixtieths_43 w p1 p2 p5 g (nL S) (nI j) = some (nL S') ∧ S' ≤ S + k * 144060 ∧ S' ≤ S + 60 * tl W j k := by
  intro k
  induction k with
  | zero =>
    intro j f g S hk hf hg
    obtain ⟨f, rfl⟩ : ∃ z, f = z + 1 := ⟨f - 1, by omega⟩
    obtain ⟨g, rfl⟩ : ∃ z, g = z + 1 := ⟨g - 1, by omega⟩
    have e : j = 5 := by omega
    subst e
    refine ⟨S, ?_, ?_, by omega, Nat.le_add_right _ _⟩
    · show BX0_shareOf_33 z _ _ _ (nI S) (nI 5) = _
      unfold BX0_shareOf_33
      rw [if_pos (by decide)]
    · show BX9_sixtieths_43 w _ _ _ _ (nL S) (nI 5) = _
      unfold BX9_sixtieths_43
      rw [if_pos (by decide)]
  | succ k ih =>
    intro j f g S hk hf hg
    obtain ⟨f, rfl⟩ : ∃ z, f = z + 1 := ⟨f - 1, by omega⟩
    obtain ⟨g, rfl⟩ : ∃ z, g = z + 1 := ⟨g - 1, by omega⟩
    have hlt : ¬ (5 : Int32) ≤ nI j := by
      rw [show (5 : Int32) = nI 5 from rfl, nI_lei (by decide) (by omega)]
      omega
    have nz : ¬ nI (j + 1) = 0 := by
      rw [show (0 : Int32) = nI 0 from rfl, nI_eqi (by omega) (by decide)]
      omega
    have e60 : (60 : Int32) / nI (j + 1) = nI (60 / (j + 1)) := nI_dv (k := 60) (by decide) (by omega)
    have d60 : 60 / (j + 1) ≤ 60 := Nat.div_le_self _ _
    have hw : W j ≤ 2401 := (hW j).1
    have hm : W j * (60 / (j + 1)) ≤ 2401 * 60 := Nat.mul_le_mul hw d60
    have hm2 : W j * (60 / (j + 1)) ≤ W j * 60 := Nat.mul_le_mul_left _ d60
    obtain ⟨S', l1, l2, l3, l3'⟩ := ih (j + 1) f g (S + W j * (60 / (j + 1))) (by omega) (by omega) (by omega)
    refine ⟨S', ?_, ?_, by omega, by
      show S' ≤ S + 60 * (W j + tl W (j + 1) k)
      omega⟩
    · show BX0_shareOf_33 z _ _ _ (nI S) (nI j) = _
      unfold BX0_shareOf_33
      rw [if_neg hlt, if_pos (ib_nI (by omega) (by decide)), cl_nI (by omega), hR j (by omega)]
      simp only [nI_1, if_pos nz, e60, nI_ml, nI_ad, lt]
      exact l1
    · show BX9_sixtieths_43 w _ _ _ _ (nL S) (nI j) = _
      unfold BX9_sixtieths_43
      rw [if_neg hlt, if_pos (ib_nI (by omega) (by decide)), cl_nI (by omega), hL j (by omega)]
      simp only [nI_1, if_pos nz, e60, nL_of (show 60 / (j + 1) < 2 ^ 31 by omega), nL_ml, nL_ad, lt]
      exact l2
theorem var_end8 {s c : Nat} (hs : s ≤ 3) (hc : c ≤ 8) : nI s < nI c - nI s ↔ 2 * s < c := by
  have := sm_sub (sm_nI (k := c) (b := 8) hc (by decide)) (sm_nI (k := s) (b := 3) hs (by decide)) (by decide)
  rw [nI_toInt (by omega), nI_toInt (by omega)] at this
  rw [Int32.lt_iff_toInt_lt, this, nI_toInt (by omega)]
  omega
theorem var_end9 {B : Int32} {s c : Nat} (hB : sm B 214) (hs : s ≤ 3) (hc : c ≤ 8) : B + nI s < (B - nI s) + nI c ↔ 2 * s < c := by
  have s3 := sm_nI (k := s) (b := 3) hs (by decide)
  have e1 := sm_add hB s3 (by decide)
  have e2 := sm_sub hB s3 (by decide)
  have e3 := sm_add (hB.sb s3 (by decide)) (sm_nI (k := c) (b := 8) hc (by decide)) (by decide)
  rw [nI_toInt (by omega)] at e1 e2 e3
  rw [Int32.lt_iff_toInt_lt, e1, e3, e2]
  omega
theorem run_eq (B c s : Int32) : B + (c - s) = (B - s) + c := by
  rw [Int32.sub_eq_add_neg, Int32.sub_eq_add_neg, Int32.add_assoc, Int32.add_comm c]
theorem var_up (c s : Nat) : (nI c - nI s) + 1 = nI (c + 1) - nI s := by
  rw [← nI_1, Int32.sub_eq_add_neg, Int32.sub_eq_add_neg, Int32.add_assoc, Int32.add_assoc, Int32.add_comm (-nI s)]
theorem run_up (B : Int32) (c s : Nat) : ((B - nI s) + nI c) + 1 = (B - nI s) + nI (c + 1) := by
  rw [← nI_1, Int32.add_assoc]
theorem run_sm {B : Int32} {s c : Nat} (hB : sm B 214) (hs : s ≤ 3) (hc : c ≤ 8) : sm ((B - nI s) + nI c) 300 :=
  ((hB.sb (sm_nI (k := s) (b := 3) hs (by decide)) (by decide)).ad (sm_nI (k := c) (b := 8) hc (by decide)) (by decide)).wk (by decide)
theorem share_loop {h X : Nat} {B : Int32} (hX : 60 * (2 * s + 1) ^ cn F h 10 ≤ X) (hh : h < n) (ht : F.testBit h = true) (hB : sm B 214) : ∀ (k c fu gu S : Nat) (z : XS) (w : MS), c + k = 2 * s + 1 → k < fu → k < gu → CZ own n r t u A F s z w → z.2.1 17 h = B → S ≤ c * 720300 → S ≤ c * X → ∃ S' z' w', LX0_shareOf_8 (nI h) fu (nI S) (nI c - nI s) z = some (nI S', z') ∧ LX9_sixtieths_15 (nI F) (nI h) gu (nL S) ((B - nI s) + nI c) w = some (nL S', w') ∧ s19 z z' ∧ lgs w w' ∧ S' ≤ 5042100 ∧ S' ≤ (2 * s + 1) * X := by
  intro k
  induction k with
  | zero =>
    intro c fu gu S z w hk hf hg cz eB hS hS2
    obtain ⟨fu, rfl⟩ : ∃ z, fu = z + 1 := ⟨fu - 1, by omega⟩
    obtain ⟨gu, rfl⟩ : ∃ z, gu = z + 1 := ⟨gu - 1, by omega⟩
    have hs := cz.s3
    have hn := cz.n10
    have e11 : w.2.1 11 h = B := (cz.B h hh ht).trans eB
    have ec : c = 2 * s + 1 := by omega
    refine ⟨S, z, w, ?_, ?_, s19.rf z, lgs.rf w, by omega, by rw [ec] at hS2; exact hS2⟩
    · show BX0_shareOf_8 _ _ (nI S) _ z = _
      unfold BX0_shareOf_8
      rw [cz.fs, if_pos ((var_end8 hs (by omega)).mpr (by omega))]
    · show BX9_sixtieths_15 _ _ _ (nL S) _ w = _
      unfold BX9_sixtieths_15
      rw [if_pos (ib_nI (by omega) (by decide)), cl_nI (by omega), e11, cz.ws, if_pos ((var_end9 hB hs (by omega)).mpr (by omega))]
  | succ k ih =>
    intro c fu gu S z w hk hf hg cz eB hS hS2
    obtain ⟨fu, rfl⟩ : ∃ z, fu = z + 1 := ⟨fu - 1, by omega⟩
    obtain ⟨gu, rfl⟩ : ∃ z, gu = z + 1 := ⟨gu - 1, by omega⟩
    have hs := cz.s3
    have hn := cz.n10
    have e11 : w.2.1 11 h = B := (cz.B h hh ht).trans eB
    have hb : ib (nI h) 10 := ib_nI (by omega) (by decide)
    have hc : (nI h).toNatClampNeg = h := cl_nI (by omega)
    obtain ⟨W, z1, w1, a1, a2, a3, a4, a5, a6, a7, a8⟩ := ways89t cz hh ht (run_sm hB hs (show c ≤ 8 by omega)) true
    obtain ⟨S1, b1, b2, b3, b4⟩ := sum60 (q1 := nI h) (q3 := nI c - nI s) (p1 := nI F) (p2 := nI h) (p5 := (B - nI s) + nI c) a5 a6 a7 5 0 NF NF S (by omega) (by unfold NF; omega) (by unfold NF; omega)
    have b1 : LX0_shareOf_33 z1 (nI h) (nI c - nI s) NF (nI S) 0 = some (nI S1) := b1
    have b2 : LX9_sixtieths_43 w1 (nI F) (nI h) ((B - nI s) + nI c) NF (nL S) 0 = some (nL S1) := b2
    have a2 : fX9_others w (nI F) (nI h) ((B - nI s) + nI c) false = some w1 := a2
    have e3 : (c + 1) * X = c * X + X := by rw [Nat.add_mul, Nat.one_mul]
    have e4 : 60 * tl W 0 5 ≤ X := Nat.le_trans (Nat.mul_le_mul_left 60 a8) hX
    obtain ⟨S', z', w', l1, l2, l3, l4, l5⟩ := ih (c + 1) fu gu S1 z1 w1 (by omega) (by omega) (by omega) (cz.mv a3 a4) ((a3.2.1 17 (by decide) ▸ eB : z1.2.1 17 h = B)) (by omega) (by rw [e3]; omega)
    refine ⟨S', z', w', ?_, ?_, a3.tr l3, a4.tr l4, l5⟩
    · show BX0_shareOf_8 _ _ (nI S) _ z = _
      unfold BX0_shareOf_8
      rw [cz.fs, if_neg (fun q => by have := (var_end8 hs (by omega)).mp q; omega), if_pos hb, hc, eB, run_eq, a1, Option.bind_some, b1, Option.bind_some]
      simp only [lt, var_up]
      exact l1
    · show BX9_sixtieths_15 _ _ _ (nL S) _ w = _
      unfold BX9_sixtieths_15
      rw [if_pos hb, hc, e11, cz.ws, if_neg (fun q => by have := (var_end9 hB hs (by omega)).mp q; omega), a2, Option.bind_some, b2, Option.bind_some]
      simp only [lt, run_up]
      exact l2
theorem share89t (cz : CZ own n r t u A F s z w) {h : Nat} (hh : h < n) (ht : F.testBit h = true) : ∃ S z' w', fX0_shareOf z (nI h) = some (nI S, z') ∧ fX9_sixtieths w (nI F) (nI h) = some (nL S, w') ∧ s19 z z' ∧ lgs w w' ∧ S ≤ 5042100 ∧ S ≤ 60 * (2 * s + 1) ^ many F := by
  have hn := cz.n10
  have hs := cz.s3
  have e11 := cz.B h hh ht
  obtain ⟨S, z', w', l1, l2, l3, l4, l5, l6⟩ := share_loop (Nat.le_refl _) hh ht (cz.S h hh) (2 * s + 1) 0 NF NF 0 z w (by omega) (by unfold NF; omega) (by unfold NF; omega) cz rfl (by omega) (Nat.zero_le _)
  rw [v60, ← Nat.pow_succ, show (cn F h 10).succ = many F from cn10e F cz.F10 h (by omega) ht] at l6
  have l1 : LX0_shareOf_8 (nI h) NF 0 (nI 0 - nI s) z = some (nI S, z') := l1
  have l2 : LX9_sixtieths_15 (nI F) (nI h) NF 0 ((z.2.1 17 h - nI s) + nI 0) w = some (nL S, w') := l2
  rw [show nI 0 - nI s = -nI s from Int32.zero_sub _] at l1
  rw [show (z.2.1 17 h - nI s) + nI 0 = z.2.1 17 h - nI s from Int32.add_zero _] at l2
  refine ⟨S, z', w', ?_, ?_, l3, l4, l5, l6⟩
  · unfold fX0_shareOf
    simp only [lt]
    rw [cz.fs, l1]
    rfl
  · unfold fX9_sixtieths
    rw [if_pos (ib_nI (by omega) (by decide)), cl_nI (by omega), e11, cz.ws]
    simp only [lt]
    rw [l2]
    rfl
theorem share89 (cz : CZ own n r t u A F s z w) {h : Nat} (hh : h < n) (ht : F.testBit h = true) : ∃ S z' w', fX0_shareOf z (nI h) = some (nI S, z') ∧ fX9_sixtieths w (nI F) (nI h) = some (nL S, w') ∧ s19 z z' ∧ lgs w w' ∧ S ≤ 5042100 := by
  obtain ⟨S, z', w', l1, l2, l3, l4, l5, -⟩ := share89t cz hh ht
  exact ⟨S, z', w', l1, l2, l3, l4, l5⟩
end CHANCE
