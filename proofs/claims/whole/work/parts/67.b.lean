/-! chances: in how many ways others run as well or better -/
def nL (k : Nat) : Int64 := Int64.ofNat k
theorem nL_toInt {k : Nat} (h : k < 2 ^ 63) : (nL k).toInt = k := Int64.toInt_ofNat_of_lt h
theorem nL_ml (k c : Nat) : nL k * nL c = nL (k * c) := (Int64.ofNat_mul k c).symm
theorem nL_ad (k c : Nat) : nL k + nL c = nL (k + c) := (Int64.ofNat_add k c).symm
theorem nL_of {k : Nat} (h : k < 2 ^ 31) : (nI k).toInt64 = nL k := by
  apply Int64.toInt_inj.mp
  rw [Int32.toInt_toInt64, nI_toInt h, nL_toInt (by omega)]
/-- of 2 s + 1 ways how many run below, x being how far the mark stands above the middle -/
def bl (s : Nat) (x : Int) : Nat := (min (max (x + s) 0) (2 * s + 1)).toNat
theorem bl_le (s : Nat) (x : Int) : bl s x ≤ 2 * s + 1 := by
  unfold bl
  omega
theorem bl_mono (s : Nat) (x : Int) : bl s x ≤ bl s (x + 1) := by
  unfold bl
  omega
theorem bl_one (s : Nat) (x : Int) : bl s (x + 1) ≤ bl s x + 1 := by
  unfold bl
  omega
theorem bl8 {B v : Int32} {s : Nat} (hs : s ≤ 3) (hB : sm B 300) (hv : sm v 300) : fX8_bounded ((B + nI s) - v) 0 (nI (2 * s + 1)) = some (nI (2 * s + 1 - bl s (v.toInt - B.toInt + 1))) := by
  have s3 : sm (nI s) 3 := sm_nI hs (by decide)
  have e1 := sm_add hB s3 (by decide)
  have e2 := sm_sub (hB.ad s3 (by decide)) hv (by decide)
  rw [e1, nI_toInt (by omega)] at e2
  unfold fX8_bounded
  show some (if 0 < (if (B + nI s) - v < nI (2 * s + 1) then (B + nI s) - v else nI (2 * s + 1)) then (if (B + nI s) - v < nI (2 * s + 1) then (B + nI s) - v else nI (2 * s + 1)) else 0) = _
  congr 1
  apply Int32.toInt_inj.mp
  have hb := bl_le s (v.toInt - B.toInt + 1)
  rw [nI_toInt (by omega)]
  have l1 : (B + nI s) - v < nI (2 * s + 1) ↔ B.toInt + s - v.toInt < ((2 * s + 1 : Nat) : Int) := by
    rw [Int32.lt_iff_toInt_lt, nI_toInt (by omega), e2]
  have l2 : (0 : Int32) < (B + nI s) - v ↔ 0 < B.toInt + s - v.toInt := by
    rw [Int32.lt_iff_toInt_lt, e2]
    rfl
  have l3 : (0 : Int32) < nI (2 * s + 1) := by
    rw [show (0 : Int32) = nI 0 from rfl, nI_lti (by decide) (by omega)]
    omega
  by_cases c : B.toInt + s - v.toInt < ((2 * s + 1 : Nat) : Int)
  · rw [if_pos (l1.mpr c)]
    by_cases c2 : 0 < B.toInt + s - v.toInt
    · rw [if_pos (l2.mpr c2), e2]
      unfold bl
      omega
    · rw [if_neg (fun q => c2 (l2.mp q)), show (0 : Int32).toInt = 0 from rfl]
      unfold bl
      omega
  · rw [if_neg (fun q => c (l1.mp q)), if_pos l3, nI_toInt (by omega)]
    unfold bl
    omega
theorem same8 {B v : Int32} {s : Nat} (hs : s ≤ 3) (hB : sm B 300) (hv : sm v 300) : ∃ b : Bool, (if nI s < iabs (B - v) then some false else some true) = some b ∧ bI b = nI (bl s (v.toInt - B.toInt + 1) - bl s (v.toInt - B.toInt)) := by
  have e1 := sm_sub hB hv (by decide)
  have s6 := hB.sb hv (by decide)
  have ea : (iabs (B - v)).toInt = if 0 ≤ B.toInt - v.toInt then B.toInt - v.toInt else v.toInt - B.toInt := by
    show (if 0 ≤ B - v then B - v else 0 - (B - v)).toInt = _
    have l : (0 : Int32) ≤ B - v ↔ 0 ≤ B.toInt - v.toInt := by
      rw [Int32.le_iff_toInt_le, e1]
      rfl
    by_cases c : 0 ≤ B.toInt - v.toInt
    · rw [if_pos (l.mpr c), if_pos c, e1]
    · have e3 : (0 - (B - v)).toInt = (nI 0).toInt - (B - v).toInt := sm_sub (sm_nI (k := 0) (b := 0) (Nat.le_refl _) (by decide)) s6 (by decide)
      rw [if_neg (fun q => c (l.mp q)), if_neg c, e3, e1]
      show (0 : Int) - _ = _
      omega
  by_cases c : nI s < iabs (B - v)
  · refine ⟨false, if_pos c, ?_⟩
    rw [Int32.lt_iff_toInt_lt, nI_toInt (by omega), ea] at c
    show (0 : Int32) = nI _
    rw [show bl s (v.toInt - B.toInt + 1) - bl s (v.toInt - B.toInt) = 0 by unfold bl; split at c <;> omega]
    rfl
  · refine ⟨true, if_neg c, ?_⟩
    rw [Int32.lt_iff_toInt_lt, nI_toInt (by omega), ea] at c
    show (1 : Int32) = nI _
    rw [show bl s (v.toInt - B.toInt + 1) - bl s (v.toInt - B.toInt) = 1 by unfold bl; split at c <;> omega]
    rfl
theorem below9 {w : MS} {i s : Nat} {B v : Int32} (hi : i < 10) (hs : s ≤ 3) (eB : w.2.1 11 i = B) (es : w.1 0 15 = nI s) (hB : sm B 300) (hv : sm v 301) : fX9_below w (nI i) v = some (nI (bl s (v.toInt - B.toInt))) := by
  have s3 : sm (nI s) 3 := sm_nI hs (by decide)
  have e1 := sm_sub hv hB (by decide)
  have e2 := sm_add (hv.sb hB (by decide)) s3 (by decide)
  rw [e1, nI_toInt (by omega)] at e2
  have hw : fX9_ways w = some (nI (2 * s + 1)) := by
    unfold fX9_ways
    rw [es, show (2 : Int32) * nI s = nI (2 * s) from nI_ml 2 s, nI_1]
  unfold fX9_below
  rw [if_pos (ib_nI hi (by decide)), cl_nI (by omega), eB, es]
  simp only [lt, hw, Option.bind_some]
  have l1 : (0 : Int32) ≤ (v - B) + nI s ↔ 0 ≤ v.toInt - B.toInt + s := by
    rw [Int32.le_iff_toInt_le, e2]
    rfl
  have l2 : (v - B) + nI s ≤ nI (2 * s + 1) ↔ v.toInt - B.toInt + s ≤ ((2 * s + 1 : Nat) : Int) := by
    rw [Int32.le_iff_toInt_le, e2, nI_toInt (by omega)]
  have hb := bl_le s (v.toInt - B.toInt)
  by_cases c : 0 ≤ v.toInt - B.toInt + s
  · rw [if_pos (l1.mpr c)]
    by_cases c2 : v.toInt - B.toInt + s ≤ ((2 * s + 1 : Nat) : Int)
    · rw [if_pos (l2.mpr c2)]
      congr 1
      apply Int32.toInt_inj.mp
      rw [nI_toInt (by omega), e2]
      unfold bl
      omega
    · rw [if_neg (fun q => c2 (l2.mp q))]
      congr 2
      unfold bl
      omega
  · rw [if_neg (fun q => c (l1.mp q))]
    have : bl s (v.toInt - B.toInt) = 0 := by
      unfold bl
      omega
    rw [this]
    rfl
/-- one more of the others counted in -/
def stW (W : Nat → Nat) (L M : Nat) : Nat → Nat := fun k => W k * L + (if k = 0 then 0 else W (k - 1) * M)
def s19 (x z : XS) : Prop := z.1 = x.1 ∧ (∀ k, k ≠ 19 → z.2.1 k = x.2.1 k) ∧ z.2.2 = x.2.2
theorem s19.rf (x : XS) : s19 x x := ⟨rfl, fun _ _ => rfl, rfl⟩
theorem s19.tr {a b c : XS} (h : s19 a b) (g : s19 b c) : s19 a c := ⟨g.1.trans h.1, fun k q => (g.2.1 k q).trans (h.2.1 k q), g.2.2.trans h.2.2⟩
theorem s19.A (x : XS) (i : Nat) (v : Int32) : s19 x (xsA x 19 i v) := ⟨rfl, fun _ q => up2_ne q, rfl⟩
theorem s19.kX {x z : XS} (h : s19 x z) : kX x z := ⟨fun k _ => by rw [h.1], by rw [h.1], by rw [h.1], fun k hk => h.2.1 k (ne_in (A := [19]) (by decide) hk (by decide)), h.2.2⟩
def lgs (w w' : MS) : Prop := w'.1 = w.1 ∧ w'.2.1 = w.2.1
theorem lgs.rf (w : MS) : lgs w w := ⟨rfl, rfl⟩
theorem lgs.tr {a b c : MS} (h : lgs a b) (g : lgs b c) : lgs a c := ⟨g.1.trans h.1, g.2.trans h.2⟩
theorem lgs.L (w : MS) (i : Nat) (v : Int64) : lgs w (msL w 12 i v) := ⟨rfl, rfl⟩
theorem lgs.kM {w w' : MS} (h : lgs w w') : kM w w' := ⟨⟨fun _ _ => by rw [h.1], fun _ _ => by rw [h.2]⟩, by rw [h.2], by rw [h.2], by rw [h.2]⟩
def RW (z : XS) (W : Nat → Nat) : Prop := ∀ k, k < 5 → z.2.1 19 k = nI (W k)
def LYw (w : MS) (W : Nat → Nat) : Prop := ∀ k, k < 6 → w.2.2 12 k = nL (W k)
theorem neg1_add (k : Nat) : nI (k + 1) + (-1) = nI k := by
  rw [← Int32.sub_eq_add_neg]
  exact nI_pred k
theorem add8_loop {W : Nat → Nat} {L M : Nat} {x : XS} : ∀ (k f : Nat) (z : XS), k < 5 → k < f → s19 x z → (∀ j, j ≤ k → z.2.1 19 j = nI (W j)) → (∀ j, k < j → j < 5 → z.2.1 19 j = nI (stW W L M j)) → ∃ z', LX0_addWays_8 (nI M) (nI L) f (nI k) z = some z' ∧ s19 x z' ∧ z'.2.1 19 0 = nI (W 0) ∧ ∀ j, 0 < j → j < 5 → z'.2.1 19 j = nI (stW W L M j) := by
  intro k
  induction k with
  | zero =>
    intro f z hk hf hs h1 h2
    obtain ⟨f, rfl⟩ : ∃ z, f = z + 1 := ⟨f - 1, by omega⟩
    refine ⟨z, ?_, hs, h1 0 (Nat.le_refl _), h2⟩
    show BX0_addWays_8 _ _ _ (nI 0) z = _
    unfold BX0_addWays_8
    rw [if_pos (by decide)]
  | succ k ih =>
    intro f z hk hf hs h1 h2
    obtain ⟨f, rfl⟩ : ∃ z, f = z + 1 := ⟨f - 1, by omega⟩
    have n0 : ¬ nI (k + 1) ≤ 0 := by
      rw [show (0 : Int32) = nI 0 from rfl, nI_lei (by omega) (by decide)]
      omega
    obtain ⟨z', l1, l2, l3, l4⟩ := ih f (xsA z 19 (k + 1) (nI (stW W L M (k + 1)))) (by omega) (by omega) (hs.tr (s19.A _ _ _)) (fun j hj => by
      show (if j = k + 1 then _ else z.2.1 19 j) = _
      rw [if_neg (by omega)]
      exact h1 j (by omega)) (fun j hj hj5 => by
      show (if j = k + 1 then _ else z.2.1 19 j) = _
      by_cases q : j = k + 1
      · rw [if_pos q, q]
      · rw [if_neg q]
        exact h2 j (by omega) hj5)
    refine ⟨z', ?_, l2, l3, l4⟩
    show BX0_addWays_8 _ _ _ (nI (k + 1)) z = _
    unfold BX0_addWays_8
    have hb1 : ib (nI (k + 1)) 5 := ib_nI (by omega) (by decide)
    have hb2 : ib (nI k) 5 := ib_nI (by omega) (by decide)
    have hc1 : (nI (k + 1)).toNatClampNeg = k + 1 := cl_nI (by omega)
    have hc2 : (nI k).toNatClampNeg = k := cl_nI (by omega)
    have ev : nI (W (k + 1)) * nI L + nI (W k) * nI M = nI (stW W L M (k + 1)) := by
      rw [nI_ml, nI_ml, nI_ad]
      unfold stW
      rw [if_neg (by omega), Nat.add_sub_cancel]
    rw [if_neg n0]
    simp only [nI_pred, if_pos hb1, if_pos hb2, hc1, hc2, h1 (k + 1) (Nat.le_refl _), h1 k (Nat.le_succ _), ev, lt, neg1_add]
    exact l1
theorem add8 {W : Nat → Nat} {L M : Nat} {z : XS} (h : RW z W) : ∃ z', fX0_addWays z (nI M) (nI L) = some z' ∧ s19 z z' ∧ RW z' (stW W L M) := by
  obtain ⟨z1, l1, l2, l3, l4⟩ := add8_loop (W := W) (L := L) (M := M) 4 NF z (by decide) (by unfold NF; omega) (s19.rf z) (fun j hj => h j (by omega)) (fun j h1 h2 => by omega)
  refine ⟨xsA z1 19 0 (nI (stW W L M 0)), ?_, l2.tr (s19.A _ _ _), fun k hk => ?_⟩
  · have l1 : LX0_addWays_8 (nI M) (nI L) NF (5 - 1) z = some z1 := l1
    have ev : nI (W 0) * nI L = nI (stW W L M 0) := by
      rw [nI_ml]
      unfold stW
      rw [if_pos rfl, Nat.add_zero]
    have e0 : (0 : Int32).toNatClampNeg = 0 := rfl
    unfold fX0_addWays
    simp only [lt]
    rw [l1, Option.bind_some, if_pos (by decide), if_pos (by decide), e0, l3, ev]
  · show (if k = 0 then _ else z1.2.1 19 k) = _
    by_cases q : k = 0
    · rw [if_pos q, q]
    · rw [if_neg q]
      exact l4 k (by omega) hk
theorem add9_loop {W : Nat → Nat} {L M : Nat} {q1 q2 q3 q5 : Int32} {q4 : Bool} (hL : L < 2 ^ 31) (hM : M < 2 ^ 31) {w0 : MS} : ∀ (k f : Nat) (w : MS), k ≤ 6 → k < f → lgs w0 w → (∀ j, j < k → w.2.2 12 j = nL (W j)) → (∀ j, k ≤ j → j < 6 → w.2.2 12 j = nL (stW W L M j)) → ∃ w', LX9_others_116 q1 q2 q3 q4 q5 (nI L) (nI M) f (nI k - 1) w = some w' ∧ lgs w0 w' ∧ LYw w' (stW W L M) := by
  intro k
  induction k with
  | zero =>
    intro f w hk hf hs h1 h2
    obtain ⟨f, rfl⟩ : ∃ z, f = z + 1 := ⟨f - 1, by omega⟩
    refine ⟨w, ?_, hs, fun j hj => h2 j (Nat.zero_le _) hj⟩
    show BX9_others_116 _ _ _ _ _ _ _ _ (nI 0 - 1) w = _
    unfold BX9_others_116
    rw [if_pos (by decide)]
  | succ k ih =>
    intro f w hk hf hs h1 h2
    obtain ⟨f, rfl⟩ : ∃ z, f = z + 1 := ⟨f - 1, by omega⟩
    have n0 : ¬ nI k < 0 := by
      rw [show (0 : Int32) = nI 0 from rfl, nI_lti (by omega) (by decide)]
      omega
    obtain ⟨w', l1, l2, l3⟩ := ih f (msL w 12 k (nL (stW W L M k))) (by omega) (by omega) (hs.tr (lgs.L _ _ _)) (fun j hj => by
      show (if j = k then _ else w.2.2 12 j) = _
      rw [if_neg (by omega)]
      exact h1 j (by omega)) (fun j hj hj5 => by
      show (if j = k then _ else w.2.2 12 j) = _
      by_cases q : j = k
      · rw [if_pos q, q]
      · rw [if_neg q]
        exact h2 j (by omega) hj5)
    have hb1 : ib (nI k) 6 := ib_nI (by omega) (by decide)
    have hc1 : (nI k).toNatClampNeg = k := cl_nI (by omega)
    have e1 : nI k + (-1) = nI k - 1 := (Int32.sub_eq_add_neg _ _).symm
    refine ⟨w', ?_, l2, l3⟩
    rw [nI_pred]
    show BX9_others_116 _ _ _ _ _ _ _ _ (nI k) w = _
    unfold BX9_others_116
    rw [if_neg n0, if_pos hb1]
    simp only [if_pos hb1, hc1, h1 k (Nat.lt_succ_self k), nL_of hL, nL_of hM, lt, e1]
    cases k with
    | zero =>
      have ev : nL (W 0) * nL L + 0 = nL (stW W L M 0) := by
        rw [show (0 : Int64) = nL 0 from rfl, nL_ml, nL_ad]
        unfold stW
        rw [if_pos rfl]
      rw [if_pos (by decide), ev]
      exact l1
    | succ k =>
      have n1 : ¬ nI (k + 1) ≤ 0 := by
        rw [show (0 : Int32) = nI 0 from rfl, nI_lei (by omega) (by decide)]
        omega
      have hb2 : ib (nI k) 6 := ib_nI (by omega) (by decide)
      have hc2 : (nI k).toNatClampNeg = k := cl_nI (by omega)
      have ev : nL (W (k + 1)) * nL L + nL (W k) * nL M = nL (stW W L M (k + 1)) := by
        rw [nL_ml, nL_ml, nL_ad]
        unfold stW
        rw [if_neg (by omega), Nat.add_sub_cancel]
      rw [if_neg n1]
      simp only [nI_pred, if_pos hb2, hc2, h1 k (by omega), ev] at l1 ⊢
      exact l1
theorem add9 {W : Nat → Nat} {L M : Nat} {q1 q2 q3 q5 : Int32} {q4 : Bool} (hL : L < 2 ^ 31) (hM : M < 2 ^ 31) {w : MS} (h : LYw w W) : ∃ w', LX9_others_116 q1 q2 q3 q4 q5 (nI L) (nI M) NF 5 w = some w' ∧ lgs w w' ∧ LYw w' (stW W L M) :=
  add9_loop hL hM 6 NF w (Nat.le_refl _) (by unfold NF; omega) (lgs.rf w) (fun j hj => h j hj) (fun j h1 h2 => by omega)
/-- how many are in the field among the first ones, but for one -/
def cn (F h : Nat) : Nat → Nat
  | 0 => 0
  | i + 1 => cn F h i + (if F.testBit i = true ∧ i ≠ h then 1 else 0)
theorem cn_le (F h : Nat) {i : Nat} : ∀ d, cn F h i ≤ cn F h (i + d) := by
  intro d
  induction d with
  | zero => exact Nat.le_refl _
  | succ d ih => exact Nat.le_trans ih (Nat.le_add_right _ _)
theorem cn10 : ∀ F : Nat, F < 1024 → many F ≤ 5 → ∀ h : Nat, h < 10 → F.testBit h = true → cn F h 10 ≤ 4 := by decide +kernel
/-- how far ways may have grown -/
def okW (W : Nat → Nat) (m : Nat) : Prop := ∀ k, W k ≤ 7 ^ m ∧ (m < k → W k = 0)
theorem okW.st {W : Nat → Nat} {m L M : Nat} (h : okW W m) (hLM : L + M ≤ 7) : okW (stW W L M) (m + 1) := by
  intro k
  unfold stW
  obtain ⟨a1, a2⟩ := h k
  have b1 : W k * L ≤ 7 ^ m * L := Nat.mul_le_mul_right _ a1
  have e : 7 ^ (m + 1) = 7 ^ m * 7 := Nat.pow_succ _ _
  have e2 : 7 ^ m * (L + M) ≤ 7 ^ m * 7 := Nat.mul_le_mul_left _ hLM
  rw [Nat.mul_add] at e2
  by_cases q : k = 0
  · rw [if_pos q]
    refine ⟨?_, fun z => by omega⟩
    rw [e]
    omega
  · rw [if_neg q]
    obtain ⟨c1, c2⟩ := h (k - 1)
    have b2 : W (k - 1) * M ≤ 7 ^ m * M := Nat.mul_le_mul_right _ c1
    refine ⟨by rw [e]; omega, fun z => ?_⟩
    rw [a2 (by omega), c2 (by omega)]
    simp
/-- what k places from j on come to -/
def tl (W : Nat → Nat) : Nat → Nat → Nat
  | _, 0 => 0
  | j, k + 1 => W j + tl W (j + 1) k
theorem tl5 (W : Nat → Nat) : tl W 0 5 = W 0 + (W 1 + (W 2 + (W 3 + (W 4 + 0)))) := rfl
theorem tl5.st {W : Nat → Nat} {L M V m : Nat} (h : tl W 0 5 ≤ V ^ m) (hLM : L + M ≤ V) : tl (stW W L M) 0 5 ≤ V ^ (m + 1) := by
  have e : tl (stW W L M) 0 5 = (W 0 * L + 0) + ((W 1 * L + W 0 * M) + ((W 2 * L + W 1 * M) + ((W 3 * L + W 2 * M) + ((W 4 * L + W 3 * M) + 0)))) := rfl
  have b := Nat.mul_le_mul h hLM
  rw [tl5] at b
  simp only [Nat.add_mul, Nat.mul_add] at b
  rw [e, Nat.pow_succ]
  omega
theorem cn10e : ∀ F : Nat, F < 1024 → ∀ h : Nat, h < 10 → F.testBit h = true → cn F h 10 + 1 = many F := by decide +kernel
theorem v60 (V P : Nat) : V * (60 * P) = 60 * (P * V) := by
  rw [Nat.mul_left_comm, Nat.mul_comm V P]
