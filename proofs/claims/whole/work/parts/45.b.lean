theorem nI_dv {k c : Nat} (hk : k < 2 ^ 31) (hc : c < 2 ^ 31) : nI k / nI c = nI (k / c) := (Int32.ofNat_div hk hc).symm
theorem nI_ml (k c : Nat) : nI k * nI c = nI (k * c) := (Int32.ofNat_mul k c).symm
theorem nI_sb {k c : Nat} (h : c ≤ k) : nI k - nI c = nI (k - c) := (Int32.ofNat_sub k c h).symm
theorem nI_ad (k c : Nat) : nI k + nI c = nI (k + c) := (Int32.ofNat_add k c).symm
theorem nI_md {k c : Nat} (hk : k < 2 ^ 31) (hc : c < 2 ^ 31) : irm (nI k) (nI c) = nI (k % c) := by
  unfold irm
  rw [nI_dv hk hc, nI_ml, nI_sb (Nat.div_mul_le_self k c)]
  congr 1
  have := Nat.div_add_mod k c
  rw [Nat.mul_comm] at this
  omega
theorem nI_lei {a b : Nat} (ha : a < 2 ^ 31) (hb : b < 2 ^ 31) : nI a ≤ nI b ↔ a ≤ b := by
  rw [Int32.le_iff_toInt_le, nI_toInt ha, nI_toInt hb]
  omega
theorem nI_lti {a b : Nat} (ha : a < 2 ^ 31) (hb : b < 2 ^ 31) : nI a < nI b ↔ a < b := by
  rw [Int32.lt_iff_toInt_lt, nI_toInt ha, nI_toInt hb]
  omega
theorem nI_eqi {a b : Nat} (ha : a < 2 ^ 31) (hb : b < 2 ^ 31) : nI a = nI b ↔ a = b := by
  rw [← Int32.toInt_inj, nI_toInt ha, nI_toInt hb]
  omega
/-- below nought, or a number -/
theorem sg32 (a : Int32) : a < 0 ∨ ∃ k, k < 2 ^ 31 ∧ a = nI k := by
  by_cases h : a < 0
  · exact Or.inl h
  · rw [Int32.not_lt, Int32.le_iff_toInt_le] at h
    have e0 : (0 : Int32).toInt = 0 := rfl
    rw [e0] at h
    have h2 := Int32.toInt_lt a
    refine Or.inr ⟨a.toInt.toNat, by omega, ?_⟩
    apply Int32.toInt_inj.mp
    rw [nI_toInt (by omega)]
    omega
theorem dv_neg {a : Int32} {c : Nat} (h : a < 0) (hc : 0 < c) (hc2 : c < 2 ^ 31) : a / nI c ≤ 0 := by
  rw [Int32.lt_iff_toInt_lt, show (0 : Int32).toInt = 0 from rfl] at h
  have hne : nI c ≠ -1 := by
    intro q
    have := congrArg Int32.toInt q
    rw [nI_toInt hc2, show (-1 : Int32).toInt = -1 from rfl] at this
    omega
  rw [Int32.le_iff_toInt_le, Int32.toInt_div_of_ne_right _ _ hne, nI_toInt hc2, show (0 : Int32).toInt = 0 from rfl]
  obtain ⟨z, hz⟩ : ∃ z : Nat, a.toInt = -(z : Int) := ⟨a.toInt.natAbs, by omega⟩
  rw [hz, Int.neg_tdiv]
  have := Int.tdiv_nonneg (a := (z : Int)) (b := (c : Int)) (by omega) (by omega)
  omega
theorem ineg {a : Int32} (h : a < 0) (b : Int32) : ¬ (0 ≤ a ∧ a ≤ b) := fun q => absurd h (Int32.not_lt.mpr q.1)
theorem hx_init {x : XS} {p : Nat} {d0 : List Value} (e : x.2.2.2.1 p = some (.inl (1, d0))) (hl : d0.length = 6) (a1 a2 a3 a4 a5 : Int32) : ∃ x', fX1_init x p a1 a2 a3 a4 a5 = some x' ∧ x'.1 = x.1 ∧ x'.2.1 = x.2.1 ∧ x'.2.2.1 = x.2.2.1 ∧ x'.2.2.2.2 = x.2.2.2.2 ∧ x'.2.2.2.1 p = some (hoD a1 a4 a5 a2 a3 0) ∧ ∀ a, a ≠ p → x'.2.2.2.1 a = x.2.2.2.1 a := by
  match d0, hl with
  | [b0, b1, b2, b3, b4, b5], _ =>
    have g : ∀ (x : XS) (d : DE), (xsD x p d).2.2.2.1 p = some d := fun x d => if_pos rfl
    unfold fX1_init
    rw [dPut_o e (Nat.le_of_ble_eq_true rfl), Option.bind_some, dPut_o (g _ _) (Nat.le_of_ble_eq_true rfl), Option.bind_some, dPut_o (g _ _) (Nat.le_of_ble_eq_true rfl), Option.bind_some, dPut_o (g _ _) (Nat.le_of_ble_eq_true rfl), Option.bind_some, dPut_o (g _ _) (Nat.le_of_ble_eq_true rfl), Option.bind_some, dPut_o (g _ _) (Nat.le_of_ble_eq_true rfl), Option.bind_some]
    refine ⟨_, rfl, rfl, rfl, rfl, rfl, if_pos rfl, fun a ha => ?_⟩
    simp only [xsD, if_neg ha]
/-- one more horse on both sides -/
theorem RO.newH {own : Nat → Nat} {n r t u : Nat} {x x' : XS} {y y' : MS} (h : RO own n r t u x y) (hn : n < 10) {kd no gr st ag ld : Int32} (v : HV kd no gr st ag ld)
    (xi : ∀ k, k ∈ ([3, 5, 9, 10] : List Nat) → x'.1 0 k = x.1 0 k) (x1 : x'.1 0 1 = nI (n + 1)) (x4 : x'.1 4 1 = x.1 4 1) (x11 : x'.1 11 = x.1 11) (xr : x'.2.1 = x.2.1) (xn : ∀ k, k ∈ ([3, 9, 10] : List Nat) → x'.2.2.1 k = x.2.2.1 k) (xw : ∀ j, x'.2.2.1 1 j = if j = n then some x.2.2.2.2 else x.2.2.1 1 j) (xz : x'.2.2.2.2 = x.2.2.2.2 + 1) (xh : ∀ a, x'.2.2.2.1 a = if a = x.2.2.2.2 then some (hoD kd no gr st ag ld) else x.2.2.2.1 a)
    (yi : ∀ k, k ∈ ([3, 4, 6, 15, 41, 48, 49, 50, 51, 52] : List Nat) → y'.1 0 k = y.1 0 k) (y1 : y'.1 0 13 = nI (n + 1)) (yr : ∀ k, k ∈ ([1, 2, 3, 10, 15, 16, 17, 18, 19, 22, 23, 24, 25, 26, 27, 28, 29] : List Nat) → y'.2.1 k = y.2.1 k)
    (k4 : ∀ j, y'.2.1 4 j = if j = n then kd else y.2.1 4 j) (k5 : ∀ j, y'.2.1 5 j = if j = n then st else y.2.1 5 j) (k6 : ∀ j, y'.2.1 6 j = if j = n then ag else y.2.1 6 j) (k7 : ∀ j, y'.2.1 7 j = if j = n then no else y.2.1 7 j) (k8 : ∀ j, y'.2.1 8 j = if j = n then gr else y.2.1 8 j) (k9 : ∀ j, y'.2.1 9 j = if j = n then ld else y.2.1 9 j) : ∃ own', RO own' (n + 1) r t u x' y' := by
  refine ⟨fun a => if a = x.2.2.2.2 then n else own a, ?_⟩
  have hk : ∀ a d, x.2.2.2.1 a = some d → x'.2.2.2.1 a = some d ∧ (if a = x.2.2.2.2 then n else own a) = own a := by
    intro a d ha
    have hlt := h.fr a d ha
    rw [xh, if_neg (by omega), if_neg (by omega)]
    exact ⟨ha, rfl⟩
  refine ⟨?_, ?_, ?_, ?_, ?_, ?_, ?_, ?_⟩
  · intro a d ha
    rw [xz]
    rw [xh] at ha
    by_cases q : a = x.2.2.2.2
    · omega
    · rw [if_neg q] at ha
      have := h.fr a d ha
      omega
  · refine ⟨by omega, x1, y1, fun j hj => ?_, fun j hj => ?_⟩
    · rw [k4, k5, k6, k7, k8, k9, xw]
      by_cases q : j = n
      · subst q
        simp only [if_true]
        exact ⟨_, rfl, if_pos rfl, by rw [xh, if_pos rfl]⟩
      · simp only [if_neg q]
        obtain ⟨a, a1, a2, a3⟩ := h.H.at' j (by omega)
        obtain ⟨g1, g2⟩ := hk a _ a3
        exact ⟨a, a1, g2.trans a2, g1⟩
    · rw [k4, k5, k6, k7, k8, k9]
      by_cases q : j = n
      · simp only [if_pos q]
        exact v
      · simp only [if_neg q]
        exact h.H.va j (by omega)
  · rw [xr, xi 3 (by decide), yi 15 (by decide), yr 10 (by decide)]; exact h.P
  · rw [xi 5 (by decide), xn 3 (by decide), yi 41 (by decide), yr 15 (by decide), yr 16 (by decide), yr 17 (by decide), yr 18 (by decide), yr 19 (by decide)]; exact h.R.mono (Nat.le_succ _) (fun a d ha _ _ => hk a d ha)
  · rw [x4, xr, yi 6 (by decide), yr 3 (by decide)]; exact h.A
  · rw [x11, xr, yi 48 (by decide), yi 49 (by decide), yi 50 (by decide), yi 51 (by decide), yi 52 (by decide), yr 22 (by decide), yr 23 (by decide), yr 24 (by decide), yr 25 (by decide)]
    refine ⟨h.I.b, ?_⟩
    rcases h.I.k with q | ⟨ih, ir, iu, q1, q⟩
    · exact Or.inl q
    · exact Or.inr ⟨ih, ir, iu, by omega, q⟩
  · rw [xn 10 (by decide), yr 26 (by decide), yr 27 (by decide), yr 28 (by decide), yr 29 (by decide)]; exact h.S.mono (fun a d ha _ _ => hk a d ha)
  · rw [xi 9 (by decide), xi 10 (by decide), xn 9 (by decide), yi 3 (by decide), yi 4 (by decide), yr 1 (by decide), yr 2 (by decide)]; exact h.T.mono (fun a d ha _ _ => hk a d ha)
/-- what a horse to be is -/
def tobe (a1 a2 a3 : Int32) : Prop := (0 ≤ a1 ∧ a1 ≤ 5) ∧ (0 ≤ a2 ∧ a2 ≤ 99) ∧ ∃ k : Nat, a3 = nI k ∧ 2000 ≤ k ∧ k ≤ 12999 ∧ k % 1000 / 10 ≤ 20 ∧ k % 10 < 4
theorem tobe8 (a1 a2 a3 : Int32) : (tobe a1 a2 a3 ∧ fX8_isHorseToBe a1 a2 a3 = some true) ∨ (¬ tobe a1 a2 a3 ∧ fX8_isHorseToBe a1 a2 a3 = some false) := by
  have kk : fX1_isKind a1 = some (decide (0 ≤ a1 ∧ a1 ≤ 5)) := by
    unfold fX1_isKind
    by_cases c : a1 < 0
    · rw [if_pos c, decide_eq_false (ineg c _)]
    · rw [if_neg c]
      have c0 := Int32.not_lt.mp c
      by_cases c1 : 6 ≤ a1
      · rw [if_pos c1, decide_eq_false]
        intro q
        have := Int32.le_trans c1 q.2
        revert this
        decide
      · rw [if_neg c1, decide_eq_true]
        refine ⟨c0, ?_⟩
        obtain ⟨g, hg, rfl⟩ := ix_of (n := 6) (by decide) c0 (Int32.not_le.mp c1)
        exact (nI_lei (b := 5) (by omega) (by decide)).mpr (by omega)
  unfold fX8_isHorseToBe fX8_isGround
  rw [kk]
  simp only [in8, Option.bind_some, decide_eq_true_eq]
  by_cases c1 : 0 ≤ a1 ∧ a1 ≤ 5
  · by_cases c2 : (0 : Int32) ≤ a2 ∧ a2 ≤ 99
    · simp only [if_pos c1, if_pos c2]
      rcases sg32 a3 with c3 | ⟨k, hk, rfl⟩
      · have := dv_neg (c := 1000) c3 (by decide) (by decide)
        have c4 : ¬ ((2 : Int32) ≤ a3 / 1000 ∧ a3 / 1000 ≤ 12) := by
          intro q
          have := Int32.le_trans q.1 this
          revert this
          decide
        rw [if_neg c4]
        refine Or.inr ⟨?_, rfl⟩
        rintro ⟨-, -, k, rfl, k1, k2, -⟩
        have := (nI_lti (b := 0) (by omega) (by decide)).mp c3
        omega
      · have e1 : nI k / 1000 = nI (k / 1000) := nI_dv (c := 1000) hk (by decide)
        have e2 : irm (nI k) 1000 = nI (k % 1000) := nI_md (c := 1000) hk (by decide)
        have e3 : nI (k % 1000) / 10 = nI (k % 1000 / 10) := nI_dv (c := 10) (by omega) (by decide)
        have e4 : irm (nI k) 10 = nI (k % 10) := nI_md (c := 10) hk (by decide)
        rw [e2, e1, e3, e4]
        have l1 : ((2 : Int32) ≤ nI (k / 1000) ∧ nI (k / 1000) ≤ 12) ↔ 2000 ≤ k ∧ k ≤ 12999 := by
          rw [show (2 : Int32) = nI 2 from rfl, show (12 : Int32) = nI 12 from rfl, nI_lei (by decide) (by omega), nI_lei (by omega) (by decide)]
          omega
        have l2 : ((0 : Int32) ≤ nI (k % 1000 / 10) ∧ nI (k % 1000 / 10) ≤ 20) ↔ k % 1000 / 10 ≤ 20 := by
          rw [show (0 : Int32) = nI 0 from rfl, show (20 : Int32) = nI 20 from rfl, nI_lei (by decide) (by omega), nI_lei (by omega) (by decide)]
          omega
        have l3 : ((0 : Int32) ≤ nI (k % 10) ∧ nI (k % 10) ≤ 3) ↔ k % 10 < 4 := by
          rw [show (0 : Int32) = nI 0 from rfl, show (3 : Int32) = nI 3 from rfl, nI_lei (by decide) (by omega), nI_lei (by omega) (by decide)]
          omega
        by_cases q : 2000 ≤ k ∧ k ≤ 12999
        · rw [if_pos (l1.mpr q)]
          by_cases q2 : k % 1000 / 10 ≤ 20
          · rw [if_pos (l2.mpr q2)]
            by_cases q3 : k % 10 < 4
            · rw [if_pos (l3.mpr q3)]
              exact Or.inl ⟨⟨c1, c2, k, rfl, q.1, q.2, q2, q3⟩, rfl⟩
            · rw [if_neg (fun z => q3 (l3.mp z))]
              refine Or.inr ⟨?_, rfl⟩
              rintro ⟨-, -, j, ej, j1, j2, j3, j4⟩
              have : k = j := (nI_eqi hk (by omega)).mp ej
              subst this
              exact q3 j4
          · rw [if_neg (fun z => q2 (l2.mp z))]
            refine Or.inr ⟨?_, rfl⟩
            rintro ⟨-, -, j, ej, j1, j2, j3, j4⟩
            have : k = j := (nI_eqi hk (by omega)).mp ej
            subst this
            exact q2 j3
        · rw [if_neg (fun z => q (l1.mp z))]
          refine Or.inr ⟨?_, rfl⟩
          rintro ⟨-, -, j, ej, j1, j2, j3, j4⟩
          have : k = j := (nI_eqi hk (by omega)).mp ej
          subst this
          exact q ⟨j1, j2⟩
    · simp only [if_pos c1, if_neg c2]
      exact Or.inr ⟨fun q => c2 q.2.1, by simp⟩
  · simp only [if_neg c1]
    exact Or.inr ⟨fun q => c1 q.1, by simp⟩
