def chk (k : Nat) : Nat → Int32 := fun i => (scByt.getD k []).getD i 0
theorem tkz_len0 : ∀ k : Nat, k < 13 → fJ0_length_8abf5 (x0X 0) k = some (nI (scLen.getD k 0)) := by decide +kernel
theorem tkz_len (x : XS) {k : Nat} (hk : k < 13) : fJ0_length_8abf5 x k = some (nI (scLen.getD k 0)) := tkz_len0 k hk
theorem tkz_chr0 : ∀ k : Nat, k < 13 → ∀ u : Nat, u < 54 → u < scLen.getD k 0 → fJ0_charAt_5068e (x0X 0) k (nI u) = some (chk k u) := by decide +kernel
theorem tkz_le : ∀ k : Nat, k < 13 → scLen.getD k 0 ≤ 54 := by decide
theorem tkz_chr (x : XS) {k u : Nat} (hk : k < 13) (hu : u < scLen.getD k 0) : fJ0_charAt_5068e x k (nI u) = some (chk k u) := tkz_chr0 k hk u (Nat.lt_of_lt_of_le hu (tkz_le k hk)) hu
theorem tkz_let : ∀ k : Nat, k < 13 → 1 ≤ k → scLen.getD k 0 ≤ 8 ∧ ∀ u : Nat, u < 8 → u < scLen.getD k 0 → (97 ≤ chk k u ∧ chk k u ≤ 122) := by decide +kernel
theorem spell_loop {f : Nat → Int32} {M q n k : Nat} {x : XS} (hM : M ≤ 160) (hx : BX f M x) (e2 : x.1 4 2 = nI q) (hk : k < 13) (hn : q + scLen.getD k 0 ≤ M) : ∀ (d u fu : Nat), u + d = scLen.getD k 0 → d < fu → (∀ i, i < u → f (q + i) = chk k i) → (LX6_spells_20 x k fu (nI u) = some (.inr ()) ∧ ∀ i, i < scLen.getD k 0 → f (q + i) = chk k i) ∨ (LX6_spells_20 x k fu (nI u) = some (.inl false) ∧ ¬ ∀ i, i < scLen.getD k 0 → f (q + i) = chk k i) := by
  intro d
  induction d with
  | zero =>
    intro u fu hd hf hu
    obtain ⟨fu, rfl⟩ : ∃ z, fu = z + 1 := ⟨fu - 1, by omega⟩
    have e : u = scLen.getD k 0 := by omega
    refine Or.inl ⟨?_, fun i hi => hu i (by omega)⟩
    show BX6_spells_20 x k _ (nI u) = _
    unfold BX6_spells_20
    rw [if_pos hk, tkz_len x hk, Option.bind_some, e, if_pos (Int32.le_refl _)]
  | succ d ih =>
    intro u fu hd hf hu
    obtain ⟨fu, rfl⟩ : ∃ z, fu = z + 1 := ⟨fu - 1, by omega⟩
    have hul : u < scLen.getD k 0 := by omega
    have e8 : LX6_spells_20 x k (fu + 1) (nI u) = BX6_spells_20 x k (LX6_spells_20 x k fu) (nI u) := rfl
    rw [e8]
    unfold BX6_spells_20
    rw [if_pos hk, tkz_len x hk, Option.bind_some, if_neg (by rw [nI_lei (by omega) (by omega)]; omega), e2, nI_ad, if_pos (ib_nI (by omega) (by decide)), if_pos hk, tkz_chr x hk hul, Option.bind_some, cl_nI (by omega), hx.b (q + u) (by omega)]
    simp only [lt, nI_1]
    by_cases c : f (q + u) = chk k u
    · rw [if_pos c]
      exact ih (u + 1) fu (by omega) (by omega) (fun i hi => by
        by_cases e : i = u
        · rw [e]; exact c
        · exact hu i (by omega))
    · rw [if_neg c]
      exact Or.inr ⟨rfl, fun z => c (z u hul)⟩
theorem spells8 {f : Nat → Int32} {M q n k : Nat} {x : XS} (hM : M ≤ 160) (hx : BX f M x) (e2 : x.1 4 2 = nI q) (e3 : x.1 4 3 = nI (q + n)) (hn : q + n ≤ M) (hk : k < 13) (k1 : 1 ≤ k) (hl : ∀ i, i < n → isLe (f (q + i))) : (fX6_spells x k = some true ∧ wW f q n = nL (hr (rr (chk k) 0 (scLen.getD k 0)))) ∨ (fX6_spells x k = some false ∧ ¬ wW f q n = nL (hr (rr (chk k) 0 (scLen.getD k 0)))) := by
  obtain ⟨s1, s2⟩ := tkz_let k hk k1
  have hg : ∀ j, j < scLen.getD k 0 → isLe (chk k (0 + j)) := fun j hj => by
    rw [Nat.zero_add]
    exact s2 j (by omega) hj
  have es : nI (q + n) - nI q = nI n := by
    rw [nI_sb (by omega), Nat.add_sub_cancel_left]
  have hb2 : hr (rr (chk k) 0 (scLen.getD k 0)) < 2 ^ 63 := by
    have h1 := hr_lt (rr (chk k) 0 (scLen.getD k 0)) (fun d hd => (rr_mem _ hg d hd).2)
    rw [rr_len] at h1
    have h2 : 27 ^ scLen.getD k 0 ≤ 27 ^ 8 := Nat.pow_le_pow_right (by decide) s1
    have e27 : (27 : Nat) ^ 8 = 282429536481 := by decide
    omega
  unfold fX6_spells
  rw [if_pos hk, tkz_len x hk, Option.bind_some, e2, e3, es]
  by_cases c : n = scLen.getD k 0
  · rw [if_pos (by rw [c])]
    have hw : wW f q n = nL (hr (rr f q n)) := if_pos (by omega)
    have hb1 : hr (rr f q n) < 2 ^ 63 := by
      have h1 := hr_lt (rr f q n) (fun d hd => (rr_mem _ hl d hd).2)
      rw [rr_len] at h1
      have h2 : 27 ^ n ≤ 27 ^ 8 := Nat.pow_le_pow_right (by decide) (by omega)
      have e27 : (27 : Nat) ^ 8 = 282429536481 := by decide
      omega
    rw [hw, nL_eqi hb1 hb2, ← c]
    have heq : hr (rr f q n) = hr (rr (chk k) 0 n) ↔ ∀ j, j < n → f (q + j) = chk k j := by
      rw [← c] at hg
      constructor
      · intro h j hj
        have := (rr_eq n hl hg).mp (hr_inj _ _ (rr_mem n hl) (rr_mem n hg) h) j hj
        rwa [Nat.zero_add] at this
      · intro h
        rw [(rr_eq n hl hg).mpr (fun j hj => by rw [Nat.zero_add]; exact h j hj)]
    rw [heq]
    have := spell_loop (n := n) hM hx e2 hk (by omega) (scLen.getD k 0) 0 NF (by omega) (by have := tkz_le k hk; unfold NF; omega) (fun i hi => absurd hi (Nat.not_lt_zero i))
    rw [← c] at this
    have this : (LX6_spells_20 x k NF 0 = some (.inr ()) ∧ ∀ i, i < n → f (q + i) = chk k i) ∨ (LX6_spells_20 x k NF 0 = some (.inl false) ∧ ¬ ∀ i, i < n → f (q + i) = chk k i) := this
    rcases this with ⟨a1, a2⟩ | ⟨a1, a2⟩
    · rw [a1]
      exact Or.inl ⟨rfl, a2⟩
    · rw [a1]
      exact Or.inr ⟨rfl, a2⟩
  · rw [if_neg (fun z => c ((nI_eqi (by omega) (by omega)).mp z))]
    refine Or.inr ⟨rfl, fun z => ?_⟩
    unfold wW at z
    by_cases c8 : n ≤ 8
    · rw [if_pos c8] at z
      have hb1 : hr (rr f q n) < 2 ^ 63 := by
        have h1 := hr_lt (rr f q n) (fun d hd => (rr_mem _ hl d hd).2)
        rw [rr_len] at h1
        have h2 : 27 ^ n ≤ 27 ^ 8 := Nat.pow_le_pow_right (by decide) (by omega)
        have e27 : (27 : Nat) ^ 8 = 282429536481 := by decide
        omega
      have := congrArg List.length (hr_inj _ _ (rr_mem n hl) (rr_mem _ hg) ((nL_eqi hb1 hb2).mp z))
      rw [rr_len, rr_len] at this
      exact c this
    · rw [if_neg c8] at z
      have := congrArg Int64.toInt z
      rw [nL_toInt hb2, show (-1 : Int64).toInt = -1 from rfl] at this
      omega
/-- what a word is to the class, by its worth -/
def tokw (W : Int64) : Int32 := if W = 206756339381 then -1 else if W = 239872 then -2 else if W = 17186 then -3 else if W = 8740067 then -4 else if W = 923 then -5 else if W = 110319223 then -6 else if W = 279875 then -11 else if W = 168727 then -12 else if W = 13903 then -13 else if W = 423 then -14 else if W = 1111 then -15 else if W = 10631 then -16 else -36
theorem kw1 : nL (hr (rr (chk 1) 0 (scLen.getD 1 0))) = 206756339381 := by decide +kernel
theorem kw2 : nL (hr (rr (chk 2) 0 (scLen.getD 2 0))) = 239872 := by decide +kernel
theorem kw3 : nL (hr (rr (chk 3) 0 (scLen.getD 3 0))) = 17186 := by decide +kernel
theorem kw4 : nL (hr (rr (chk 4) 0 (scLen.getD 4 0))) = 8740067 := by decide +kernel
theorem kw5 : nL (hr (rr (chk 5) 0 (scLen.getD 5 0))) = 923 := by decide +kernel
theorem kw6 : nL (hr (rr (chk 6) 0 (scLen.getD 6 0))) = 110319223 := by decide +kernel
theorem kw7 : nL (hr (rr (chk 7) 0 (scLen.getD 7 0))) = 279875 := by decide +kernel
theorem kw8 : nL (hr (rr (chk 8) 0 (scLen.getD 8 0))) = 168727 := by decide +kernel
theorem kw9 : nL (hr (rr (chk 9) 0 (scLen.getD 9 0))) = 13903 := by decide +kernel
theorem kw10 : nL (hr (rr (chk 10) 0 (scLen.getD 10 0))) = 423 := by decide +kernel
theorem kw11 : nL (hr (rr (chk 11) 0 (scLen.getD 11 0))) = 1111 := by decide +kernel
theorem kw12 : nL (hr (rr (chk 12) 0 (scLen.getD 12 0))) = 10631 := by decide +kernel
theorem word8 {f : Nat → Int32} {M q n : Nat} {x x5 : XS} (hM : M ≤ 160) (hx : BX f M x5) (e0 : LX6_readWord_0 NF x = some x5) (e2 : x5.1 4 2 = nI q) (e3 : x5.1 4 3 = nI (q + n)) (hn : q + n ≤ M) (hl : ∀ i, i < n → isLe (f (q + i))) : fX6_readWord x = some (tokw (wW f q n), x5) := by
  have S := fun (k : Nat) (hk : k < 13) (k1 : 1 ≤ k) => spells8 hM hx e2 e3 hn hk k1 hl
  unfold fX6_readWord
  rw [e0, Option.bind_some]
  generalize wW f q n = W at S
  have s1 := S 1 (by decide) (by decide)
  have s2 := S 2 (by decide) (by decide)
  have s3 := S 3 (by decide) (by decide)
  have s4 := S 4 (by decide) (by decide)
  have s5 := S 5 (by decide) (by decide)
  have s6 := S 6 (by decide) (by decide)
  have s7 := S 7 (by decide) (by decide)
  have s8 := S 8 (by decide) (by decide)
  have s9 := S 9 (by decide) (by decide)
  have s10 := S 10 (by decide) (by decide)
  have s11 := S 11 (by decide) (by decide)
  have s12 := S 12 (by decide) (by decide)
  rw [kw1] at s1
  rw [kw2] at s2
  rw [kw3] at s3
  rw [kw4] at s4
  rw [kw5] at s5
  rw [kw6] at s6
  rw [kw7] at s7
  rw [kw8] at s8
  rw [kw9] at s9
  rw [kw10] at s10
  rw [kw11] at s11
  rw [kw12] at s12
  rcases s1 with ⟨a, b⟩ | ⟨a, b1⟩
  · rw [a, b]; rfl
  rw [a, Option.bind_some, if_neg (by decide)]
  rcases s2 with ⟨a, b⟩ | ⟨a, b2⟩
  · rw [a, b]; rfl
  rw [a, Option.bind_some, if_neg (by decide)]
  rcases s3 with ⟨a, b⟩ | ⟨a, b3⟩
  · rw [a, b]; rfl
  rw [a, Option.bind_some, if_neg (by decide)]
  rcases s4 with ⟨a, b⟩ | ⟨a, b4⟩
  · rw [a, b]; rfl
  rw [a, Option.bind_some, if_neg (by decide)]
  rcases s5 with ⟨a, b⟩ | ⟨a, b5⟩
  · rw [a, b]; rfl
  rw [a, Option.bind_some, if_neg (by decide)]
  rcases s6 with ⟨a, b⟩ | ⟨a, b6⟩
  · rw [a, b]; rfl
  rw [a, Option.bind_some, if_neg (by decide)]
  rcases s7 with ⟨a, b⟩ | ⟨a, b7⟩
  · rw [a, b]; rfl
  rw [a, Option.bind_some, if_neg (by decide)]
  rcases s8 with ⟨a, b⟩ | ⟨a, b8⟩
  · rw [a, b]; rfl
  rw [a, Option.bind_some, if_neg (by decide)]
  rcases s9 with ⟨a, b⟩ | ⟨a, b9⟩
  · rw [a, b]; rfl
  rw [a, Option.bind_some, if_neg (by decide)]
  rcases s10 with ⟨a, b⟩ | ⟨a, b10⟩
  · rw [a, b]; rfl
  rw [a, Option.bind_some, if_neg (by decide)]
  rcases s11 with ⟨a, b⟩ | ⟨a, b11⟩
  · rw [a, b]; rfl
  rw [a, Option.bind_some, if_neg (by decide)]
  rcases s12 with ⟨a, b⟩ | ⟨a, b12⟩
  · rw [a, b]; rfl
  rw [a, Option.bind_some, if_neg (by decide)]
  unfold tokw
  rw [if_neg b1, if_neg b2, if_neg b3, if_neg b4, if_neg b5, if_neg b6, if_neg b7, if_neg b8, if_neg b9, if_neg b10, if_neg b11, if_neg b12]
/-! numbers -/
theorem num_loop {f : Nat → Int32} {M base q : Nat} (hM : M ≤ 160) : ∀ (k j fu gu : Nat) (x : XS) (y : MS), q + j + k = M → k < fu → k < gu → BX f M x → BY f M base y → x.1 4 3 = nI (q + j) → y.1 0 27 = nI (q + j) → (j ≤ 4 → ∃ v, v < 10 ^ j ∧ x.1 4 5 = nI v ∧ y.2.2 0 26 = nL v) → ∃ n x' y', j ≤ n ∧ q + n ≤ M ∧ (q + n < M → ¬ isDi (f (q + n))) ∧ LX6_readNumber_5 fu x = some x' ∧ LX9_next_211 gu (nI j) y = some (nI n, y') ∧ XA x x' ∧ YA y y' ∧ x'.1 4 2 = x.1 4 2 ∧ x'.1 4 3 = nI (q + n) ∧ y'.1 0 27 = nI (q + n) ∧ y'.1 0 25 = y.1 0 25 ∧ y'.1 0 24 = y.1 0 24 ∧ (n ≤ 4 → ∃ v, v < 10 ^ n ∧ x'.1 4 5 = nI v ∧ y'.2.2 0 26 = nL v) := by
  intro k
  induction k with
  | zero =>
    intro j fu gu x y hk hf hg hx hy ex ey ew
    obtain ⟨fu, rfl⟩ : ∃ z, fu = z + 1 := ⟨fu - 1, by omega⟩
    obtain ⟨gu, rfl⟩ : ∃ z, gu = z + 1 := ⟨gu - 1, by omega⟩
    have eb : bt f M (q + j) = -1 := if_neg (by omega)
    refine ⟨j, x, y, Nat.le_refl _, by omega, fun z => by omega, ?_, ?_, XA.rf x, YA.rf y, rfl, ex, ey, rfl, rfl, ew⟩
    · show BX6_readNumber_5 _ x = _
      unfold BX6_readNumber_5
      rw [hx.m, ex, if_pos ((nI_lei (by omega) (by omega)).mpr (by omega))]
    · show BX9_next_211 _ _ y = _
      unfold BX9_next_211
      rw [ey, byte9 hy hM (by omega), eb, Option.bind_some, show fX9_in (-1 : Int32).toInt64 48 57 = some false from rfl, Option.bind_some, if_neg (by decide)]
  | succ k ih =>
    intro j fu gu x y hk hf hg hx hy ex ey ew
    obtain ⟨fu, rfl⟩ : ∃ z, fu = z + 1 := ⟨fu - 1, by omega⟩
    obtain ⟨gu, rfl⟩ : ∃ z, gu = z + 1 := ⟨gu - 1, by omega⟩
    have hp : q + j < M := by omega
    have eb : bt f M (q + j) = f (q + j) := if_pos hp
    have hlt : ¬ nI M ≤ nI (q + j) := by
      rw [nI_lei (by omega) (by omega)]
      omega
    have hbq : ib (nI (q + j)) 160 := ib_nI (by omega) (by decide)
    have hcq : (nI (q + j)).toNatClampNeg = q + j := cl_nI (by omega)
    have e8 : LX6_readNumber_5 (fu + 1) x = BX6_readNumber_5 (LX6_readNumber_5 fu) x := rfl
    have e9 : LX9_next_211 (gu + 1) (nI j) y = BX9_next_211 (LX9_next_211 gu) (nI j) y := rfl
    rw [e8, e9]
    unfold BX6_readNumber_5 BX9_next_211
    rw [hx.m, ex, ey, if_neg hlt, byte9 hy hM (by omega), eb]
    simp only [if_pos hbq, hcq, hx.b (q + j) hp, Option.bind_some, lt]
    rcases digit8 (f (q + j)) with ⟨c, e1, e2⟩ | ⟨c, e1, e2⟩
    · rw [e1, e2, Option.bind_some, Option.bind_some, if_pos rfl, if_pos rfl]
      obtain ⟨ch, ec, c1, c2⟩ := di_nat c
      have ex5 : ∀ v, (xsS x 4 5 v).1 4 3 = nI (q + j) := fun _ => ex
      simp only [ex5, nI_1]
      have step : ∀ (y1 : MS), YA y y1 → y1.1 0 25 = y.1 0 25 → y1.1 0 24 = y.1 0 24 → y1.1 0 27 = nI (q + j + 1) → (j + 1 ≤ 4 → ∃ v, v < 10 ^ (j + 1) ∧ (x.1 4 5 * 10) + (f (q + j) - 48) = nI v ∧ y1.2.2 0 26 = nL v) → ∃ n x' y', j ≤ n ∧ q + n ≤ M ∧ (q + n < M → ¬ isDi (f (q + n))) ∧ LX6_readNumber_5 fu (xsS (xsS x 4 5 ((x.1 4 5 * 10) + (f (q + j) - 48))) 4 3 (nI (q + j + 1))) = some x' ∧ LX9_next_211 gu (nI (j + 1)) y1 = some (nI n, y') ∧ XA x x' ∧ YA y y' ∧ x'.1 4 2 = x.1 4 2 ∧ x'.1 4 3 = nI (q + n) ∧ y'.1 0 27 = nI (q + n) ∧ y'.1 0 25 = y.1 0 25 ∧ y'.1 0 24 = y.1 0 24 ∧ (n ≤ 4 → ∃ v, v < 10 ^ n ∧ x'.1 4 5 = nI v ∧ y'.2.2 0 26 = nL v) := by
        intro y1 h1 h25 h24 h2 h3
        have hxa : XA x (xsS (xsS x 4 5 ((x.1 4 5 * 10) + (f (q + j) - 48))) 4 3 (nI (q + j + 1))) := (XA.S x _ (by decide)).tr (XA.S _ _ (by decide))
        obtain ⟨n, x', y', a1, a2, a3, a4, a5, a6, a7, a8, a9, a10, a11, a12, a13⟩ := ih (j + 1) fu gu _ y1 (by omega) (by omega) (by omega) (hx.mv hxa) (hy.mv h1) rfl h2 h3
        exact ⟨n, x', y', by omega, a2, a3, a4, a5, hxa.tr a6, h1.tr a7, a8, a9, a10, a11.trans h25, a12.trans h24, a13⟩
      by_cases c4 : (4 : Int32) ≤ nI j
      · have j4 : 4 ≤ j := (nI_lei (a := 4) (by decide) (by omega)).mp c4
        rw [if_pos c4]
        have en : (msL y 0 26 (y.2.2 0 26)).1 0 27 = nI (q + j) := ey
        simp only [en, nI_1]
        exact step _ ((YA.L y _).tr (YA.S _ _ (Or.inr (Or.inr rfl)))) rfl rfl rfl (fun z => by omega)
      · have j4 : j < 4 := by
          rw [show (4 : Int32) = nI 4 from rfl, nI_lei (by decide) (by omega)] at c4
          omega
        have en : ∀ v, (msL y 0 26 v).1 0 27 = nI (q + j) := fun _ => ey
        rw [if_neg c4]
        simp only [en, nI_1]
        obtain ⟨v, v1, v2, v3⟩ := ew (by omega)
        have hp4 : 10 ^ j ≤ 10 ^ 4 := Nat.pow_le_pow_right (by decide) (by omega)
        have e10 : (10 : Nat) ^ 4 = 10000 := by decide
        refine step _ ((YA.L y _).tr (YA.S _ _ (Or.inr (Or.inr rfl)))) rfl rfl rfl (fun _ => ⟨10 * v + (ch - 48), ?_, ?_, ?_⟩)
        · rw [Nat.pow_succ]
          omega
        · rw [v2, ec, show (10 : Int32) = nI 10 from rfl, nI_ml, show (48 : Int32) = nI 48 from rfl, nI_sb c1, nI_ad, Nat.mul_comm]
        · show ((10 * y.2.2 0 26) + (f (q + j)).toInt64) - 48 = nL (10 * v + (ch - 48))
          rw [v3, ec, nL_of (by omega), show (10 : Int64) = nL 10 from rfl, nL_ml, nL_ad, show (48 : Int64) = nL 48 from rfl, nL_sb (by omega)]
          congr 1
          omega
    · rw [e1, e2, Option.bind_some, Option.bind_some, if_neg (by decide), if_neg (by decide)]
      exact ⟨j, x, y, Nat.le_refl _, by omega, fun _ => c, rfl, rfl, XA.rf x, YA.rf y, rfl, ex, ey, rfl, rfl, ew⟩
/-! the token at hand -/
def TR (tok num kind : Int32) (worth : Int64) : Prop := (kind = 0 ∧ tok = -35) ∨ (kind = 4 ∧ tok = -36) ∨ (kind = 1 ∧ tok = tokw worth) ∨ (kind = 2 ∧ tok = -34 ∧ ∃ v : Nat, v < 10000 ∧ num = nI v ∧ worth = nL v) ∨ (kind = 3 ∧ ((worth = 40 ∧ tok = -31) ∨ (worth = 41 ∧ tok = -32) ∨ (worth = 59 ∧ tok = -33) ∨ (worth = 43 ∧ tok = -21) ∨ (worth = 45 ∧ tok = -22) ∨ (worth = 42 ∧ tok = -23) ∨ (worth = 60 ∧ tok = -24) ∨ (worth = 61 ∧ tok = -25)))
def PR (f : Nat → Int32) (M base : Nat) (x : XS) (y : MS) (q : Nat) : Prop := (BX f M x) ∧ (BY f M base y) ∧ (x.1 4 2 = nI q) ∧ (y.1 0 25 = nI q) ∧ (q ≤ M) ∧ (TR (x.1 4 4) (x.1 4 5) (y.1 0 24) (y.2.2 0 26)) ∧ (y.1 0 24 = 4 ∨ ∃ p, q ≤ p ∧ p ≤ M ∧ x.1 4 3 = nI p ∧ y.1 0 27 = nI p ∧ (y.1 0 24 = 0 ∨ q < p))
theorem PR.X {f : Nat → Int32} {M base : Nat} {x : XS} {y : MS} {q : Nat} (zz : PR f M base x y q) : BX f M x := zz.1
theorem PR.Y {f : Nat → Int32} {M base : Nat} {x : XS} {y : MS} {q : Nat} (zz : PR f M base x y q) : BY f M base y := zz.2.1
theorem PR.sx {f : Nat → Int32} {M base : Nat} {x : XS} {y : MS} {q : Nat} (zz : PR f M base x y q) : x.1 4 2 = nI q := zz.2.2.1
theorem PR.sy {f : Nat → Int32} {M base : Nat} {x : XS} {y : MS} {q : Nat} (zz : PR f M base x y q) : y.1 0 25 = nI q := zz.2.2.2.1
theorem PR.qM {f : Nat → Int32} {M base : Nat} {x : XS} {y : MS} {q : Nat} (zz : PR f M base x y q) : q ≤ M := zz.2.2.2.2.1
theorem PR.tk {f : Nat → Int32} {M base : Nat} {x : XS} {y : MS} {q : Nat} (zz : PR f M base x y q) : TR (x.1 4 4) (x.1 4 5) (y.1 0 24) (y.2.2 0 26) := zz.2.2.2.2.2.1
theorem PR.ps {f : Nat → Int32} {M base : Nat} {x : XS} {y : MS} {q : Nat} (zz : PR f M base x y q) : y.1 0 24 = 4 ∨ ∃ p, q ≤ p ∧ p ≤ M ∧ x.1 4 3 = nI p ∧ y.1 0 27 = nI p ∧ (y.1 0 24 = 0 ∨ q < p) := zz.2.2.2.2.2.2
theorem adv89 {f : Nat → Int32} {M base p : Nat} {x : XS} {y : MS} (hM : M ≤ 160) (hf : ∀ i, i < M → 0 ≤ f i) (hx : BX f M x) (hy : BY f M base y) (ex : x.1 4 3 = nI p) (ey : y.1 0 27 = nI p) (hp : p ≤ M) : ∃ x' y' q, fX6_advance x = some x' ∧ fX9_next y = some y' ∧ XA x x' ∧ YA y y' ∧ PR f M base x' y' q ∧ p ≤ q := by
  have h1 : XA x (xsS x 4 2 (nI p)) := XA.S x _ (by decide)
  obtain ⟨q, x6, y7, a1, a2, a3, a4, a5, a6, a7, a8⟩ := blanks (f := f) (base := base) hM (M - p) p NF NF (xsS x 4 2 (nI p)) y (by omega) (by unfold NF; omega) (by unfold NF; omega) (hx.mv h1) hy rfl ey
  have h2 : XA x (xsS x6 4 3 (nI q)) := (h1.tr a5).tr (XA.S _ _ (by decide))
  have hx7 := hx.mv h2
  have h3 : YA y (msS (msS y7 0 25 (nI q)) 0 24 4) := (a6.tr (YA.S _ _ (Or.inr (Or.inl rfl)))).tr (YA.S _ _ (Or.inl rfl))
  have hy8 : BY f M base (msS y7 0 25 (nI q)) := hy.mv (a6.tr (YA.S _ _ (Or.inr (Or.inl rfl))))
  have hy11 := hy.mv h3
  have e27 : (msS y7 0 25 (nI q)).1 0 27 = nI q := a8
  have e42 : (xsS x6 4 3 (nI q)).1 4 2 = nI q := a7
  have e41 : (xsS x6 4 3 (nI q)).1 4 1 = nI M := hx7.m
  have ht : ∀ b, b = bt f M q → fX6_advance x = (if nI q < nI M then if ib (nI q) 160 then Option.bind (fX6_isLetter ((xsS x6 4 3 (nI q)).2.1 5 q)) fun v9 => if v9 = true then bind2 (fX6_readWord (xsS x6 4 3 (nI q))) fun v23 x24 => some (xsS x24 4 4 v23) else if ib (nI q) 160 then Option.bind (fX6_isDigit ((xsS x6 4 3 (nI q)).2.1 5 q)) fun v12 => if v12 = true then bind2 (fX6_readNumber (xsS x6 4 3 (nI q))) fun v19 x20 => some (xsS x20 4 4 v19) else if ib (nI q) 160 then Option.bind (fX6_signOf ((xsS x6 4 3 (nI q)).2.1 5 q)) fun v15 => some (xsS (xsS (xsS x6 4 3 (nI q)) 4 4 v15) 4 3 (nI q + 1)) else none else none else none else some (xsS (xsS x6 4 3 (nI q)) 4 4 (-35))) := by
    intro b hb
    have e42' : ∀ v, (xsS (xsS x6 4 3 (nI q)) 4 4 v).1 4 2 = nI q := fun _ => a7
    have hc : (nI q).toNatClampNeg = q := cl_nI (by omega)
    unfold fX6_advance
    simp only [lt, ex, a3, Option.bind_some, a7, e42, e41, hc, e42']
  have hn : fX9_next y = (if 0 ≤ bt f M q then Option.bind (fX9_in ((bt f M q).toInt64) 97 122) fun v12 => if v12 = true then Option.bind (LX9_next_107 NF 0 (msL (msS (msS (msS y7 0 25 (nI q)) 0 24 4) 0 24 1) 0 26 0)) fun x72 => some x72 else Option.bind (fX9_in ((bt f M q).toInt64) 48 57) fun v14 => if v14 = true then bind2 (LX9_next_211 NF 0 (msL (msS (msS (msS y7 0 25 (nI q)) 0 24 4) 0 24 2) 0 26 0)) fun v54 x55 => if v54 ≤ 4 then some (msS x55 0 24 2) else some (msS x55 0 24 4) else if bt f M q = 40 then some (msS (msL (msS (msS (msS y7 0 25 (nI q)) 0 24 4) 0 24 3) 0 26 (bt f M q).toInt64) 0 27 (nI q + 1)) else if bt f M q = 41 then some (msS (msL (msS (msS (msS y7 0 25 (nI q)) 0 24 4) 0 24 3) 0 26 (bt f M q).toInt64) 0 27 (nI q + 1)) else if bt f M q = 59 then some (msS (msL (msS (msS (msS y7 0 25 (nI q)) 0 24 4) 0 24 3) 0 26 (bt f M q).toInt64) 0 27 (nI q + 1)) else if bt f M q = 43 then some (msS (msL (msS (msS (msS y7 0 25 (nI q)) 0 24 4) 0 24 3) 0 26 (bt f M q).toInt64) 0 27 (nI q + 1)) else if bt f M q = 45 then some (msS (msL (msS (msS (msS y7 0 25 (nI q)) 0 24 4) 0 24 3) 0 26 (bt f M q).toInt64) 0 27 (nI q + 1)) else if bt f M q = 42 then some (msS (msL (msS (msS (msS y7 0 25 (nI q)) 0 24 4) 0 24 3) 0 26 (bt f M q).toInt64) 0 27 (nI q + 1)) else if bt f M q = 60 then some (msS (msL (msS (msS (msS y7 0 25 (nI q)) 0 24 4) 0 24 3) 0 26 (bt f M q).toInt64) 0 27 (nI q + 1)) else if bt f M q = 61 then some (msS (msL (msS (msS (msS y7 0 25 (nI q)) 0 24 4) 0 24 3) 0 26 (bt f M q).toInt64) 0 27 (nI q + 1)) else some (msS (msS y7 0 25 (nI q)) 0 24 4) else some (msS (msS (msS (msS y7 0 25 (nI q)) 0 24 4) 0 24 0) 0 25 (nI M))) := by
    have e27' : ∀ (a b : Int32) (v : Int64), (msL (msS (msS (msS y7 0 25 (nI q)) 0 24 a) 0 24 b) 0 26 v).1 0 27 = nI q := fun _ _ _ => a8
    have e23' : ∀ (a b : Int32), (msS (msS (msS y7 0 25 (nI q)) 0 24 a) 0 24 b).1 0 23 = nI M := fun _ _ => hy8.m
    unfold fX9_next
    simp only [lt, a4, Option.bind_some, a8, e27, byte9 hy8 hM a2, e27', e23']
  rw [ht _ rfl, hn]
  by_cases c : q < M
  · have eb : bt f M q = f q := if_pos c
    have hfq := hf q c
    have b5 : (xsS x6 4 3 (nI q)).2.1 5 q = f q := hx7.b q c
    have hbq : ib (nI q) 160 := ib_nI (by omega) (by decide)
    rw [if_pos ((nI_lti (by omega) (by omega)).mpr c), eb, if_pos hfq]
    simp only [if_pos hbq, b5]
    rcases letter8 (f q) with ⟨l0, l1, l2⟩ | ⟨l0, l1, l2⟩
    · rw [l1, l2, Option.bind_some, Option.bind_some, if_pos rfl, if_pos rfl]
      have h4 : YA y (msL (msS (msS (msS y7 0 25 (nI q)) 0 24 4) 0 24 1) 0 26 0) := (h3.tr (YA.S _ _ (Or.inl rfl))).tr (YA.L _ _)
      obtain ⟨n, x5, y5, w1, w2, w3, w4, w5, w6, w7, w8, w9, w10, w11, w12, w13, w14⟩ := word_loop (f := f) (base := base) (q := q) hM (M - q) 0 NF NF (xsS x6 4 3 (nI q)) (msL (msS (msS (msS y7 0 25 (nI q)) 0 24 4) 0 24 1) 0 26 0) (by omega) (by unfold NF; omega) (by unfold NF; omega) hx7 (hy.mv h4) (fun i hi => absurd hi (Nat.not_lt_zero i)) rfl a8 rfl
      have w5 : LX9_next_107 NF 0 (msL (msS (msS (msS y7 0 25 (nI q)) 0 24 4) 0 24 1) 0 26 0) = some y5 := w5
      have hw := word8 hM (hx7.mv w6) w4 (w8.trans a7) w9 w2 w13
      have n1 : 1 ≤ n := by
        apply Classical.byContradiction
        intro z
        have : n = 0 := by omega
        subst this
        exact w3 c l0
      rw [hw, w5]
      have hxa := w6.tr (XA.S x5 (j := 4) (tokw (wW f q n)) (by decide))
      refine ⟨xsS x5 4 4 (tokw (wW f q n)), y5, q, rfl, rfl, h2.tr hxa, h4.tr w7, ⟨hx7.mv hxa, (hy.mv h4).mv w7, w8.trans a7, w11, a2, Or.inr (Or.inr (Or.inl ⟨w12, ?_⟩)), Or.inr ⟨q + n, by omega, w2, w9, w10, Or.inr (by omega)⟩⟩, a1⟩
      show tokw (wW f q n) = tokw (y5.2.2 0 26)
      rw [w14]
    · rw [l1, l2, Option.bind_some, Option.bind_some, if_neg (by decide), if_neg (by decide)]
      rcases digit8 (f q) with ⟨d0, d1, d2⟩ | ⟨d0, d1, d2⟩
      · rw [d1, d2, Option.bind_some, Option.bind_some, if_pos rfl, if_pos rfl]
        have h4 : YA y (msL (msS (msS (msS y7 0 25 (nI q)) 0 24 4) 0 24 2) 0 26 0) := (h3.tr (YA.S _ _ (Or.inl rfl))).tr (YA.L _ _)
        have h5 : XA x (xsS (xsS x6 4 3 (nI q)) 4 5 0) := h2.tr (XA.S _ _ (by decide))
        obtain ⟨n, x5, y5, w1, w2, w3, w4, w5, w6, w7, w8, w9, w10, w11, w12, w13⟩ := num_loop (f := f) (base := base) (q := q) hM (M - q) 0 NF NF (xsS (xsS x6 4 3 (nI q)) 4 5 0) (msL (msS (msS (msS y7 0 25 (nI q)) 0 24 4) 0 24 2) 0 26 0) (by omega) (by unfold NF; omega) (by unfold NF; omega) (hx.mv h5) (hy.mv h4) rfl a8 (fun _ => ⟨0, by decide, rfl, rfl⟩)
        have w5 : LX9_next_211 NF 0 (msL (msS (msS (msS y7 0 25 (nI q)) 0 24 4) 0 24 2) 0 26 0) = some (nI n, y5) := w5
        have n1 : 1 ≤ n := by
          apply Classical.byContradiction
          intro z
          have : n = 0 := by omega
          subst this
          exact w3 c d0
        have e2 : x5.1 4 2 = nI q := w8.trans a7
        have en : x5.1 4 3 - x5.1 4 2 = nI n := by
          rw [w9, e2, nI_sb (by omega), Nat.add_sub_cancel_left]
        have hnum : fX6_readNumber (xsS x6 4 3 (nI q)) = if nI n ≤ 4 then some (-34, x5) else some (-36, x5) := by
          unfold fX6_readNumber
          simp only [lt]
          rw [w4, Option.bind_some, en]
        have t4 : nI n ≤ 4 ↔ n ≤ 4 := nI_lei (b := 4) (by omega) (by decide)
        rw [hnum, w5]
        simp only [bind2]
        by_cases c4 : n ≤ 4
        · rw [if_pos (t4.mpr c4), if_pos (t4.mpr c4)]
          obtain ⟨v, v1, v2, v3⟩ := w13 c4
          have hp4 : 10 ^ n ≤ 10 ^ 4 := Nat.pow_le_pow_right (by decide) c4
          have e10 : (10 : Nat) ^ 4 = 10000 := by decide
          have hxa := w6.tr (XA.S x5 (j := 4) (-34) (by decide))
          have hya := w7.tr (YA.S y5 (j := 24) 2 (Or.inl rfl))
          exact ⟨xsS x5 4 4 (-34), msS y5 0 24 2, q, rfl, rfl, h5.tr hxa, h4.tr hya, ⟨(hx.mv h5).mv hxa, (hy.mv h4).mv hya, e2, w11, a2, Or.inr (Or.inr (Or.inr (Or.inl ⟨rfl, rfl, v, by omega, v2, v3⟩))), Or.inr ⟨q + n, by omega, w2, w9, w10, Or.inr (by omega)⟩⟩, a1⟩
        · rw [if_neg (fun z => c4 (t4.mp z)), if_neg (fun z => c4 (t4.mp z))]
          have hxa := w6.tr (XA.S x5 (j := 4) (-36) (by decide))
          have hya := w7.tr (YA.S y5 (j := 24) 4 (Or.inl rfl))
          exact ⟨xsS x5 4 4 (-36), msS y5 0 24 4, q, rfl, rfl, h5.tr hxa, h4.tr hya, ⟨(hx.mv h5).mv hxa, (hy.mv h4).mv hya, e2, w11, a2, Or.inr (Or.inl ⟨rfl, rfl⟩), Or.inl rfl⟩, a1⟩
      · rw [d1, d2, Option.bind_some, Option.bind_some, if_neg (by decide), if_neg (by decide)]
        have h4 : ∀ v : Int64, YA y (msS (msL (msS (msS (msS y7 0 25 (nI q)) 0 24 4) 0 24 3) 0 26 v) 0 27 (nI q + 1)) := fun v => ((h3.tr (YA.S _ _ (Or.inl rfl))).tr (YA.L _ _)).tr (YA.S _ _ (Or.inr (Or.inr rfl)))
        have h5 : ∀ v : Int32, XA x (xsS (xsS (xsS x6 4 3 (nI q)) 4 4 v) 4 3 (nI q + 1)) := fun v => (h2.tr (XA.S _ _ (by decide))).tr (XA.S _ _ (by decide))
        have good : ∀ (v : Int64) (k : Int32), ((v = 40 ∧ k = -31) ∨ (v = 41 ∧ k = -32) ∨ (v = 59 ∧ k = -33) ∨ (v = 43 ∧ k = -21) ∨ (v = 45 ∧ k = -22) ∨ (v = 42 ∧ k = -23) ∨ (v = 60 ∧ k = -24) ∨ (v = 61 ∧ k = -25)) → PR f M base (xsS (xsS (xsS x6 4 3 (nI q)) 4 4 k) 4 3 (nI q + 1)) (msS (msL (msS (msS (msS y7 0 25 (nI q)) 0 24 4) 0 24 3) 0 26 v) 0 27 (nI q + 1)) q := fun v k hvk => ⟨hx.mv (h5 k), hy.mv (h4 v), a7, rfl, a2, Or.inr (Or.inr (Or.inr (Or.inr ⟨rfl, hvk⟩))), Or.inr ⟨q + 1, by omega, by omega, nI_1 q, nI_1 q, Or.inr (by omega)⟩⟩
        by_cases k1 : f q = 40
        · rw [k1]
          exact ⟨_, _, q, rfl, rfl, h5 _, h4 _, good 40 (-31) (Or.inl ⟨rfl, rfl⟩), a1⟩
        rw [if_neg k1]
        by_cases k2 : f q = 41
        · rw [k2]
          exact ⟨_, _, q, rfl, rfl, h5 _, h4 _, good 41 (-32) (Or.inr (Or.inl ⟨rfl, rfl⟩)), a1⟩
        rw [if_neg k2]
        by_cases k3 : f q = 59
        · rw [k3]
          exact ⟨_, _, q, rfl, rfl, h5 _, h4 _, good 59 (-33) (Or.inr (Or.inr (Or.inl ⟨rfl, rfl⟩))), a1⟩
        rw [if_neg k3]
        by_cases k4 : f q = 43
        · rw [k4]
          exact ⟨_, _, q, rfl, rfl, h5 _, h4 _, good 43 (-21) (Or.inr (Or.inr (Or.inr (Or.inl ⟨rfl, rfl⟩)))), a1⟩
        rw [if_neg k4]
        by_cases k5 : f q = 45
        · rw [k5]
          exact ⟨_, _, q, rfl, rfl, h5 _, h4 _, good 45 (-22) (Or.inr (Or.inr (Or.inr (Or.inr (Or.inl ⟨rfl, rfl⟩))))), a1⟩
        rw [if_neg k5]
        by_cases k6 : f q = 42
        · rw [k6]
          exact ⟨_, _, q, rfl, rfl, h5 _, h4 _, good 42 (-23) (Or.inr (Or.inr (Or.inr (Or.inr (Or.inr (Or.inl ⟨rfl, rfl⟩)))))), a1⟩
        rw [if_neg k6]
        by_cases k7 : f q = 60
        · rw [k7]
          exact ⟨_, _, q, rfl, rfl, h5 _, h4 _, good 60 (-24) (Or.inr (Or.inr (Or.inr (Or.inr (Or.inr (Or.inr (Or.inl ⟨rfl, rfl⟩))))))), a1⟩
        rw [if_neg k7]
        by_cases k8 : f q = 61
        · rw [k8]
          exact ⟨_, _, q, rfl, rfl, h5 _, h4 _, good 61 (-25) (Or.inr (Or.inr (Or.inr (Or.inr (Or.inr (Or.inr (Or.inr ⟨rfl, rfl⟩))))))), a1⟩
        rw [if_neg k8]
        have es : fX6_signOf (f q) = some (-36) := by
          unfold fX6_signOf
          rw [if_neg k1, if_neg k2, if_neg k6, if_neg k4, if_neg k5, if_neg k3, if_neg k7, if_neg k8]
          simp only [ite_self]
        rw [es, Option.bind_some]
        exact ⟨_, _, q, rfl, rfl, h5 _, h3, ⟨hx.mv (h5 _), hy11, a7, rfl, a2, Or.inr (Or.inl ⟨rfl, rfl⟩), Or.inl rfl⟩, a1⟩
  · have e : q = M := by omega
    have eb : bt f M q = -1 := if_neg c
    rw [if_neg (fun z => c ((nI_lti (by omega) (by omega)).mp z)), eb, if_neg (by decide)]
    have h4 : YA y (msS (msS (msS (msS y7 0 25 (nI q)) 0 24 4) 0 24 0) 0 25 (nI M)) := (h3.tr (YA.S _ _ (Or.inl rfl))).tr (YA.S _ _ (Or.inr (Or.inl rfl)))
    have h5 : XA x (xsS (xsS x6 4 3 (nI q)) 4 4 (-35)) := h2.tr (XA.S _ _ (by decide))
    exact ⟨_, _, q, rfl, rfl, h5, h4, ⟨hx.mv h5, hy.mv h4, a7, by rw [e]; rfl, a2, Or.inl ⟨rfl, rfl⟩, Or.inr ⟨q, Nat.le_refl _, a2, rfl, a8, Or.inl rfl⟩⟩, a1⟩
