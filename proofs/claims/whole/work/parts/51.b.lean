/-! the image is given back -/
/-- the stable's cells, with these strengths, ages, leads -/
def HS (own : Nat → Nat) (n : Nat) (x : XS) (y4 y7 y8 S A L : Nat → Int32) : Prop := ∀ j, j < n → ∃ p, x.2.2.1 1 j = some p ∧ own p = j ∧ x.2.2.2.1 p = some (hoD (y4 j) (y7 j) (y8 j) (S j) (A j) (L j))
def fresh (x : XS) : Prop := ∀ a d, x.2.2.2.1 a = some d → a < x.2.2.2.2
theorem ha8h {own : Nat → Nat} {n : Nat} {x : XS} {y4 y7 y8 S A L : Nat → Int32} (hn : n ≤ 10) (h1 : x.1 0 1 = nI n) (h : HS own n x y4 y7 y8 S A L) {i : Nat} (hi : i < n) : ∃ p, fX8_horseAt x (nI i) = some (some p) ∧ x.2.2.1 1 i = some p ∧ own p = i ∧ x.2.2.2.1 p = some (hoD (y4 i) (y7 i) (y8 i) (S i) (A i) (L i)) := by
  obtain ⟨p, p1, p2, p3⟩ := h i hi
  refine ⟨p, ?_, p1, p2, p3⟩
  unfold fX8_horseAt
  rw [if_neg (nn_nI (by omega)), h1, if_neg (nle_nI (by omega) hi)]
  simp only [lt, cl_nI (show i < 2 ^ 31 by omega), p1]
  rw [if_pos (ib_nI (by omega) (by decide))]
/-- a horse's cell put anew -/
theorem HS.put {own : Nat → Nat} {n : Nat} {x x' : XS} {y4 y7 y8 S A L : Nat → Int32} (h : HS own n x y4 y7 y8 S A L) {i p : Nat} {st ag ld : Int32} (ep : own p = i) (xr : x'.2.2.1 1 = x.2.2.1 1) (hp : x'.2.2.2.1 p = some (hoD (y4 i) (y7 i) (y8 i) st ag ld)) (er : x.2.2.1 1 i = some p) (ho : ∀ a, a ≠ p → x'.2.2.2.1 a = x.2.2.2.1 a) : HS own n x' y4 y7 y8 (fun j => if j = i then st else S j) (fun j => if j = i then ag else A j) (fun j => if j = i then ld else L j) := by
  intro j hj
  rw [xr]
  by_cases q : j = i
  · subst q
    simp only [if_true]
    exact ⟨p, er, ep, hp⟩
  · simp only [if_neg q]
    obtain ⟨a, a1, a2, a3⟩ := h j hj
    exact ⟨a, a1, a2, by rw [ho a (by rintro rfl; exact q (a2.symm.trans ep))]; exact a3⟩
theorem put3 {x : XS} {p : Nat} {kd no gr st ag ld : Int32} (e : x.2.2.2.1 p = some (hoD kd no gr st ag ld)) (s a l : Int32) : ∃ x3, dPut x p 1 3 (.int s) = some (xsD x p (hoD kd no gr s ag ld)) ∧ dPut (xsD x p (hoD kd no gr s ag ld)) p 1 4 (.int a) = some (xsD (xsD x p (hoD kd no gr s ag ld)) p (hoD kd no gr s a ld)) ∧ dPut (xsD (xsD x p (hoD kd no gr s ag ld)) p (hoD kd no gr s a ld)) p 1 5 (.int l) = some x3 ∧ x3.1 = x.1 ∧ x3.2.1 = x.2.1 ∧ x3.2.2.1 = x.2.2.1 ∧ x3.2.2.2.2 = x.2.2.2.2 ∧ x3.2.2.2.1 p = some (hoD kd no gr s a l) ∧ ∀ q, q ≠ p → x3.2.2.2.1 q = x.2.2.2.1 q := by
  have e2 : (xsD x p (hoD kd no gr s ag ld)).2.2.2.1 p = some (hoD kd no gr s ag ld) := if_pos rfl
  have e3 : (xsD (xsD x p (hoD kd no gr s ag ld)) p (hoD kd no gr s a ld)).2.2.2.1 p = some (hoD kd no gr s a ld) := if_pos rfl
  have q1 : dPut x p 1 3 (.int s) = some (xsD x p (hoD kd no gr s ag ld)) := dPut_o e (Nat.le_of_ble_eq_true rfl)
  have q2 : dPut (xsD x p (hoD kd no gr s ag ld)) p 1 4 (.int a) = some (xsD (xsD x p (hoD kd no gr s ag ld)) p (hoD kd no gr s a ld)) := dPut_o e2 (Nat.le_of_ble_eq_true rfl)
  have q3 : dPut (xsD (xsD x p (hoD kd no gr s ag ld)) p (hoD kd no gr s a ld)) p 1 5 (.int l) = some (xsD (xsD (xsD x p (hoD kd no gr s ag ld)) p (hoD kd no gr s a ld)) p (hoD kd no gr s a l)) := dPut_o e3 (Nat.le_of_ble_eq_true rfl)
  refine ⟨_, q1, q2, q3, rfl, rfl, rfl, rfl, if_pos rfl, fun q hq => ?_⟩
  simp only [xsD, if_neg hq]
theorem give_loop {own : Nat → Nat} {n m : Nat} {y4 y7 y8 : Nat → Int32} (hn : n ≤ 10) (hm : m ≤ n) : ∀ (k i : Nat) (z : XS) (f : Nat) (S A L : Nat → Int32), i + k = m → k < f → z.1 0 1 = nI n → z.1 11 1 = nI m → fresh z → HS own n z y4 y7 y8 S A L → ∃ z', LX8_back_65 f (nI i) z = some z' ∧ z'.1 = z.1 ∧ z'.2.1 = z.2.1 ∧ z'.2.2.1 = z.2.2.1 ∧ z'.2.2.2.2 = z.2.2.2.2 ∧ fresh z' ∧ (∀ a, n ≤ own a → z'.2.2.2.1 a = z.2.2.2.1 a) ∧ HS own n z' y4 y7 y8 (fun j => if i ≤ j ∧ j < m then z.2.1 13 j else S j) (fun j => if i ≤ j ∧ j < m then z.2.1 14 j else A j) (fun j => if i ≤ j ∧ j < m then z.2.1 15 j else L j) := by
  intro k
  induction k with
  | zero =>
    intro i z f S A L hk hf z1 z2 hfr hS
    obtain ⟨f, rfl⟩ : ∃ q, f = q + 1 := ⟨f - 1, by omega⟩
    refine ⟨z, ?_, rfl, rfl, rfl, rfl, hfr, fun _ _ => rfl, fun j hj => ?_⟩
    · show BX8_back_65 _ (nI i) z = _
      unfold BX8_back_65
      have e : i = m := by omega
      rw [z2, e, if_pos (Int32.le_refl _)]
    · have : ¬ (i ≤ j ∧ j < m) := by omega
      simp only [if_neg this]
      exact hS j hj
  | succ k ih =>
    intro i z f S A L hk hf z1 z2 hfr hS
    obtain ⟨f, rfl⟩ : ∃ q, f = q + 1 := ⟨f - 1, by omega⟩
    have hi : i < n := by omega
    have hlt : ¬ nI m ≤ nI i := by
      rw [nI_lei (by omega) (by omega)]
      omega
    have hb : ib (nI i) 10 := ib_nI (by omega) (by decide)
    have hc : (nI i).toNatClampNeg = i := cl_nI (by omega)
    obtain ⟨p, p1, p2, p3, p4⟩ := ha8h hn z1 hS hi
    obtain ⟨x3, d1, d2, d3, w1, w2, w3, w4, w5, w6⟩ := put3 p4 (z.2.1 13 i) (z.2.1 14 i) (z.2.1 15 i)
    have hS' := hS.put p3 (by rw [w3]) w5 p2 w6
    have hfr' : fresh x3 := by
      intro a d ha
      rw [w4]
      by_cases q : a = p
      · rw [q]; exact hfr p _ p4
      · rw [w6 a q] at ha
        exact hfr a d ha
    obtain ⟨z', e1, e2, e3, e4, e5, e6, e7, e8⟩ := ih (i + 1) x3 f _ _ _ (by omega) (by omega) (by rw [w1]; exact z1) (by rw [w1]; exact z2) hfr' hS'
    refine ⟨z', ?_, e2.trans w1, e3.trans w2, e4.trans w3, e5.trans w4, e6, fun a ha => ?_, fun j hj => ?_⟩
    · show BX8_back_65 _ (nI i) z = _
      unfold BX8_back_65 fX2_giveBack
      have g1 : ∀ (z : XS) (d : DE), (xsD z p d).2.1 = z.2.1 := fun _ _ => rfl
      rw [z2, if_neg hlt, p1]
      simp only [Option.bind_some, oc, if_pos hb, hc, d1, g1, d2, d3, lt, nI_1]
      exact e1
    · rw [e7 a ha]
      exact w6 a (by rintro rfl; omega)
    · obtain ⟨a, a1, a2, a3⟩ := e8 j hj
      refine ⟨a, a1, a2, ?_⟩
      rw [a3, w2]
      by_cases q : j = i
      · subst q
        have q1 : ¬ (j + 1 ≤ j ∧ j < m) := by omega
        have q2 : j ≤ j ∧ j < m := by omega
        simp only [if_neg q1, if_pos q2, if_true]
      · by_cases q1 : i + 1 ≤ j ∧ j < m
        · have q2 : i ≤ j ∧ j < m := by omega
          simp only [if_pos q1, if_pos q2]
        · have q2 : ¬ (i ≤ j ∧ j < m) := by omega
          simp only [if_neg q1, if_neg q2, if_neg q]
theorem give9_loop {m : Nat} (hm : m ≤ 10) : ∀ (k i : Nat) (z : MS) (f : Nat), i + k = m → k < f → z.1 0 49 = nI m → ∃ z', LX9_back_36 f (nI i) z = some z' ∧ z'.1 = z.1 ∧ (∀ q, q ≠ 5 → q ≠ 6 → q ≠ 9 → z'.2.1 q = z.2.1 q) ∧ ∀ j, z'.2.1 5 j = (if i ≤ j ∧ j < m then z.2.1 22 j else z.2.1 5 j) ∧ z'.2.1 6 j = (if i ≤ j ∧ j < m then z.2.1 23 j else z.2.1 6 j) ∧ z'.2.1 9 j = (if i ≤ j ∧ j < m then z.2.1 24 j else z.2.1 9 j) := by
  intro k
  induction k with
  | zero =>
    intro i z f hk hf z1
    obtain ⟨f, rfl⟩ : ∃ q, f = q + 1 := ⟨f - 1, by omega⟩
    refine ⟨z, ?_, rfl, fun _ _ _ _ => rfl, fun j => ?_⟩
    · show BX9_back_36 _ (nI i) z = _
      unfold BX9_back_36
      have e : i = m := by omega
      rw [z1, e, if_pos (Int32.le_refl _)]
    · have : ¬ (i ≤ j ∧ j < m) := by omega
      simp only [if_neg this]
      exact ⟨trivial, trivial, trivial⟩
  | succ k ih =>
    intro i z f hk hf z1
    obtain ⟨f, rfl⟩ : ∃ q, f = q + 1 := ⟨f - 1, by omega⟩
    have hlt : ¬ nI m ≤ nI i := by
      rw [nI_lei (by omega) (by omega)]
      omega
    have hb : ib (nI i) 10 := ib_nI (by omega) (by decide)
    have hc : (nI i).toNatClampNeg = i := cl_nI (by omega)
    obtain ⟨z', e1, e2, e4, e5⟩ := ih (i + 1) (msA (msA (msA z 5 i (z.2.1 22 i)) 6 i (z.2.1 23 i)) 9 i (z.2.1 24 i)) f (by omega) (by omega) z1
    refine ⟨z', ?_, e2, fun q q1 q2 q3 => ?_, fun j => ?_⟩
    · show BX9_back_36 _ (nI i) z = _
      unfold BX9_back_36
      have g6 : (msA z 5 i (z.2.1 22 i)).2.1 23 = z.2.1 23 := rfl
      have g9 : (msA (msA z 5 i (z.2.1 22 i)) 6 i (z.2.1 23 i)).2.1 24 = z.2.1 24 := rfl
      rw [z1, if_neg hlt]
      simp only [if_pos hb, lt, hc, g6, g9, nI_1]
      exact e1
    · rw [e4 q q1 q2 q3]
      show up2 (up2 (up2 z.2.1 5 i _) 6 i _) 9 i _ q = z.2.1 q
      rw [up2_ne q3, up2_ne q2, up2_ne q1]
    · obtain ⟨a, b, c⟩ := e5 j
      have s5 : ∀ j, (msA (msA (msA z 5 i (z.2.1 22 i)) 6 i (z.2.1 23 i)) 9 i (z.2.1 24 i)).2.1 5 j = if j = i then z.2.1 22 i else z.2.1 5 j := fun _ => rfl
      have s6 : ∀ j, (msA (msA (msA z 5 i (z.2.1 22 i)) 6 i (z.2.1 23 i)) 9 i (z.2.1 24 i)).2.1 6 j = if j = i then z.2.1 23 i else z.2.1 6 j := fun _ => rfl
      have s9 : ∀ j, (msA (msA (msA z 5 i (z.2.1 22 i)) 6 i (z.2.1 23 i)) 9 i (z.2.1 24 i)).2.1 9 j = if j = i then z.2.1 24 i else z.2.1 9 j := fun _ => rfl
      have s22 : (msA (msA (msA z 5 i (z.2.1 22 i)) 6 i (z.2.1 23 i)) 9 i (z.2.1 24 i)).2.1 22 = z.2.1 22 := rfl
      have s23 : (msA (msA (msA z 5 i (z.2.1 22 i)) 6 i (z.2.1 23 i)) 9 i (z.2.1 24 i)).2.1 23 = z.2.1 23 := rfl
      have s24 : (msA (msA (msA z 5 i (z.2.1 22 i)) 6 i (z.2.1 23 i)) 9 i (z.2.1 24 i)).2.1 24 = z.2.1 24 := rfl
      rw [a, b, c, s5, s6, s9, s22, s23, s24]
      by_cases q : j = i
      · subst q
        have q1 : ¬ (j + 1 ≤ j ∧ j < m) := by omega
        have q2 : j ≤ j ∧ j < m := by omega
        simp only [if_neg q1, if_pos q2, if_true]
        exact ⟨trivial, trivial, trivial⟩
      · by_cases q1 : i + 1 ≤ j ∧ j < m
        · have q2 : i ≤ j ∧ j < m := by omega
          simp only [if_pos q1, if_pos q2]
          exact ⟨trivial, trivial, trivial⟩
        · have q2 : ¬ (i ≤ j ∧ j < m) := by omega
          simp only [if_neg q1, if_neg q2, if_neg q]
          exact ⟨trivial, trivial, trivial⟩
theorem poundb_loop (y : MS) : ∀ (k i : Nat) (z : MS) (f : Nat), i + k = 4 → k < f → z.2.1 25 = y.2.1 25 → ∃ z', LX9_back_88 f (nI i) z = some z' ∧ z'.1 = z.1 ∧ (∀ q, q ≠ 10 → z'.2.1 q = z.2.1 q) ∧ (∀ j, j < i → z'.2.1 10 j = z.2.1 10 j) ∧ ∀ j, i ≤ j → j < 4 → z'.2.1 10 j = y.2.1 25 j := by
  intro k
  induction k with
  | zero =>
    intro i z f hk hf z1
    obtain ⟨f, rfl⟩ : ∃ q, f = q + 1 := ⟨f - 1, by omega⟩
    refine ⟨z, ?_, rfl, fun _ _ => rfl, fun _ _ => rfl, fun j h1 h2 => by omega⟩
    show BX9_back_88 _ (nI i) z = _
    unfold BX9_back_88
    have e : i = 4 := by omega
    rw [e, if_pos (by decide)]
  | succ k ih =>
    intro i z f hk hf z1
    obtain ⟨f, rfl⟩ : ∃ q, f = q + 1 := ⟨f - 1, by omega⟩
    have hlt : ¬ (4 : Int32) ≤ nI i := by
      rw [show (4 : Int32) = nI 4 from rfl, nI_lei (by decide) (by omega)]
      omega
    have hb : ib (nI i) 4 := ib_nI (by omega) (by decide)
    have hc : (nI i).toNatClampNeg = i := cl_nI (by omega)
    obtain ⟨z', e1, e2, e4, e5, e6⟩ := ih (i + 1) (msA z 10 i (z.2.1 25 i)) f (by omega) (by omega) z1
    refine ⟨z', ?_, e2, fun q q1 => ?_, fun j hj => ?_, fun j j1 j2 => ?_⟩
    · show BX9_back_88 _ (nI i) z = _
      unfold BX9_back_88
      rw [if_neg hlt]
      simp only [if_pos hb, lt, hc, nI_1]
      exact e1
    · rw [e4 q q1]
      exact up2_ne q1
    · rw [e5 j (by omega)]
      show (if j = i then _ else z.2.1 10 j) = _
      rw [if_neg (by omega)]
    · by_cases q : j = i
      · subst q
        rw [e5 j (by omega), ← z1]
        exact if_pos rfl
      · exact e6 j (by omega) j2
