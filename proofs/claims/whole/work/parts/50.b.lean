/-! the image is taken -/
theorem RO.setI {own : Nat → Nat} {n r t u : Nat} {x x' : XS} {y y' : MS} (h : RO own n r t u x y) (xi : x'.1 0 = x.1 0) (x4 : x'.1 4 = x.1 4) (xa : ∀ k, k ∈ ([2, 5] : List Nat) → x'.2.1 k = x.2.1 k) (xh : x'.2.2 = x.2.2) (yi : ∀ k, k ∈ ([3, 4, 6, 13, 15, 41] : List Nat) → y'.1 0 k = y.1 0 k) (yr : ∀ k, k ∈ ([1, 2, 3, 4, 5, 6, 7, 8, 9, 10, 15, 16, 17, 18, 19, 26, 27, 28, 29] : List Nat) → y'.2.1 k = y.2.1 k) (I : RI n r t (x'.1 11) (x'.2.1 12) (x'.2.1 13) (x'.2.1 14) (x'.2.1 15) (y'.1 0 48) (y'.1 0 49) (y'.1 0 50) (y'.1 0 51) (y'.1 0 52) (y'.2.1 22) (y'.2.1 23) (y'.2.1 24) (y'.2.1 25)) : RO own n r t u x' y' := by
  refine ⟨?_, ?_, ?_, ?_, ?_, I, ?_, ?_⟩
  · rw [xh]; exact h.fr
  · rw [xi, xh, yi 13 (by decide), yr 4 (by decide), yr 5 (by decide), yr 6 (by decide), yr 7 (by decide), yr 8 (by decide), yr 9 (by decide)]; exact h.H
  · rw [xi, xa 2 (by decide), yi 15 (by decide), yr 10 (by decide)]; exact h.P
  · rw [xi, xh, yi 41 (by decide), yr 15 (by decide), yr 16 (by decide), yr 17 (by decide), yr 18 (by decide), yr 19 (by decide)]; exact h.R
  · rw [x4, xa 5 (by decide), yi 6 (by decide), yr 3 (by decide)]; exact h.A
  · rw [xh, yr 26 (by decide), yr 27 (by decide), yr 28 (by decide), yr 29 (by decide)]; exact h.S
  · rw [xi, xh, yi 3 (by decide), yi 4 (by decide), yr 1 (by decide), yr 2 (by decide)]; exact h.T
/-- a horse's cell, where only the stable is as it was -/
theorem ha8s {own : Nat → Nat} {n r t u : Nat} {x z : XS} {y : MS} (h : RO own n r t u x y) (z1 : z.1 0 1 = nI n) (z2 : z.2.2 = x.2.2) {i : Nat} (hi : i < n) : ∃ p, fX8_horseAt z (nI i) = some (some p) ∧ own p = i ∧ z.2.2.2.1 p = some (hoD (y.2.1 4 i) (y.2.1 7 i) (y.2.1 8 i) (y.2.1 5 i) (y.2.1 6 i) (y.2.1 9 i)) := by
  obtain ⟨p, h1, h2, h3⟩ := h.H.at' i hi
  refine ⟨p, ?_, h2, by rw [z2]; exact h3⟩
  unfold fX8_horseAt
  rw [if_neg (nn_nI (by have := h.n10; omega)), z1, if_neg (nle_nI (by have := h.n10; omega) hi), z2]
  simp only [lt, cln h hi, h1]
  rw [if_pos (ib10 h hi)]
theorem take_loop {own : Nat → Nat} {n r t u : Nat} {x : XS} {y : MS} (h : RO own n r t u x y) : ∀ (k i : Nat) (z : XS) (f : Nat), i + k = n → k < f → z.1 0 1 = nI n → z.2.2 = x.2.2 → ∃ z', LX8_image_71 f (nI i) z = some z' ∧ z'.1 = z.1 ∧ z'.2.2 = z.2.2 ∧ (∀ q, q ≠ 13 → q ≠ 14 → q ≠ 15 → z'.2.1 q = z.2.1 q) ∧ (∀ j, j < i → z'.2.1 13 j = z.2.1 13 j ∧ z'.2.1 14 j = z.2.1 14 j ∧ z'.2.1 15 j = z.2.1 15 j) ∧ ∀ j, i ≤ j → j < n → z'.2.1 13 j = y.2.1 5 j ∧ z'.2.1 14 j = y.2.1 6 j ∧ z'.2.1 15 j = y.2.1 9 j := by
  have hn := h.n10
  intro k
  induction k with
  | zero =>
    intro i z f hk hf z1 z2
    obtain ⟨f, rfl⟩ : ∃ q, f = q + 1 := ⟨f - 1, by omega⟩
    refine ⟨z, ?_, rfl, rfl, fun _ _ _ _ => rfl, fun _ _ => ⟨rfl, rfl, rfl⟩, fun j h1 h2 => by omega⟩
    show BX8_image_71 _ (nI i) z = _
    unfold BX8_image_71
    have e : i = n := by omega
    rw [z1, e, if_pos (Int32.le_refl _)]
  | succ k ih =>
    intro i z f hk hf z1 z2
    obtain ⟨f, rfl⟩ : ∃ q, f = q + 1 := ⟨f - 1, by omega⟩
    have hi : i < n := by omega
    have hlt : ¬ nI n ≤ nI i := by
      rw [nI_lei (by omega) (by omega)]
      omega
    obtain ⟨p, p1, p2, p3⟩ := ha8s h z1 z2 hi
    obtain ⟨z', e1, e2, e3, e4, e5, e6⟩ := ih (i + 1) (xsA (xsA (xsA z 13 i (y.2.1 5 i)) 14 i (y.2.1 6 i)) 15 i (y.2.1 9 i)) f (by omega) (by omega) z1 z2
    refine ⟨z', ?_, e2, e3, fun q q1 q2 q3 => ?_, fun j hj => ?_, fun j j1 j2 => ?_⟩
    · show BX8_image_71 _ (nI i) z = _
      unfold BX8_image_71 fX2_take
      have p3a : (xsA z 13 i (y.2.1 5 i)).2.2.2.1 p = _ := p3
      have p3b : (xsA (xsA z 13 i (y.2.1 5 i)) 14 i (y.2.1 6 i)).2.2.2.1 p = _ := p3
      rw [z1, if_neg hlt, p1]
      simp only [Option.bind_some, oc, dI_o (k := 3) p3 rfl, if_pos (ib10 h hi), lt, cln h hi, dI_o (k := 4) p3a rfl, dI_o (k := 5) p3b rfl, nI_1]
      exact e1
    · rw [e4 q q1 q2 q3]
      show up2 (up2 (up2 z.2.1 13 i _) 14 i _) 15 i _ q = z.2.1 q
      rw [up2_ne q3, up2_ne q2, up2_ne q1]
    · obtain ⟨a, b, c⟩ := e5 j (by omega)
      rw [a, b, c]
      have hne : j ≠ i := by omega
      refine ⟨?_, ?_, ?_⟩
      · show (if j = i then _ else z.2.1 13 j) = _
        rw [if_neg hne]
      · show (if j = i then _ else z.2.1 14 j) = _
        rw [if_neg hne]
      · show (if j = i then _ else z.2.1 15 j) = _
        rw [if_neg hne]
    · by_cases q : j = i
      · subst q
        obtain ⟨a, b, c⟩ := e5 j (by omega)
        rw [a, b, c]
        exact ⟨if_pos rfl, if_pos rfl, if_pos rfl⟩
      · exact e6 j (by omega) j2
theorem take9_loop {n : Nat} (hn : n ≤ 10) (y : MS) : ∀ (k i : Nat) (z : MS) (f : Nat), i + k = n → k < f → z.1 0 13 = nI n → z.2.1 5 = y.2.1 5 → z.2.1 6 = y.2.1 6 → z.2.1 9 = y.2.1 9 → ∃ z', LX9_image_39 f (nI i) z = some z' ∧ z'.1 = z.1 ∧ (∀ q, q ≠ 22 → q ≠ 23 → q ≠ 24 → z'.2.1 q = z.2.1 q) ∧ (∀ j, j < i → z'.2.1 22 j = z.2.1 22 j ∧ z'.2.1 23 j = z.2.1 23 j ∧ z'.2.1 24 j = z.2.1 24 j) ∧ ∀ j, i ≤ j → j < n → z'.2.1 22 j = y.2.1 5 j ∧ z'.2.1 23 j = y.2.1 6 j ∧ z'.2.1 24 j = y.2.1 9 j := by
  intro k
  induction k with
  | zero =>
    intro i z f hk hf z1 z5 z6 z9
    obtain ⟨f, rfl⟩ : ∃ q, f = q + 1 := ⟨f - 1, by omega⟩
    refine ⟨z, ?_, rfl, fun _ _ _ _ => rfl, fun _ _ => ⟨rfl, rfl, rfl⟩, fun j h1 h2 => by omega⟩
    show BX9_image_39 _ (nI i) z = _
    unfold BX9_image_39
    have e : i = n := by omega
    rw [z1, e, if_pos (Int32.le_refl _)]
  | succ k ih =>
    intro i z f hk hf z1 z5 z6 z9
    obtain ⟨f, rfl⟩ : ∃ q, f = q + 1 := ⟨f - 1, by omega⟩
    have hi : i < n := by omega
    have hlt : ¬ nI n ≤ nI i := by
      rw [nI_lei (by omega) (by omega)]
      omega
    have hb : ib (nI i) 10 := ib_nI (by omega) (by decide)
    have hc : (nI i).toNatClampNeg = i := cl_nI (by omega)
    obtain ⟨z', e1, e2, e4, e5, e6⟩ := ih (i + 1) (msA (msA (msA z 22 i (z.2.1 5 i)) 23 i (z.2.1 6 i)) 24 i (z.2.1 9 i)) f (by omega) (by omega) z1 z5 z6 z9
    refine ⟨z', ?_, e2, fun q q1 q2 q3 => ?_, fun j hj => ?_, fun j j1 j2 => ?_⟩
    · show BX9_image_39 _ (nI i) z = _
      unfold BX9_image_39
      have g6 : (msA z 22 i (z.2.1 5 i)).2.1 6 = z.2.1 6 := rfl
      have g9 : (msA (msA z 22 i (z.2.1 5 i)) 23 i (z.2.1 6 i)).2.1 9 = z.2.1 9 := rfl
      rw [z1, if_neg hlt]
      simp only [if_pos hb, lt, hc, g6, g9, nI_1]
      exact e1
    · rw [e4 q q1 q2 q3]
      show up2 (up2 (up2 z.2.1 22 i _) 23 i _) 24 i _ q = z.2.1 q
      rw [up2_ne q3, up2_ne q2, up2_ne q1]
    · obtain ⟨a, b, c⟩ := e5 j (by omega)
      rw [a, b, c]
      have hne : j ≠ i := by omega
      refine ⟨?_, ?_, ?_⟩
      · show (if j = i then _ else z.2.1 22 j) = _
        rw [if_neg hne]
      · show (if j = i then _ else z.2.1 23 j) = _
        rw [if_neg hne]
      · show (if j = i then _ else z.2.1 24 j) = _
        rw [if_neg hne]
    · by_cases q : j = i
      · subst q
        obtain ⟨a, b, c⟩ := e5 j (by omega)
        rw [a, b, c, ← z5, ← z6, ← z9]
        exact ⟨if_pos rfl, if_pos rfl, if_pos rfl⟩
      · exact e6 j (by omega) j2
theorem pound9_loop (y : MS) : ∀ (k i : Nat) (z : MS) (f : Nat), i + k = 4 → k < f → z.2.1 10 = y.2.1 10 → ∃ z', LX9_image_91 f (nI i) z = some z' ∧ z'.1 = z.1 ∧ (∀ q, q ≠ 25 → z'.2.1 q = z.2.1 q) ∧ (∀ j, j < i → z'.2.1 25 j = z.2.1 25 j) ∧ ∀ j, i ≤ j → j < 4 → z'.2.1 25 j = y.2.1 10 j := by
  intro k
  induction k with
  | zero =>
    intro i z f hk hf z1
    obtain ⟨f, rfl⟩ : ∃ q, f = q + 1 := ⟨f - 1, by omega⟩
    refine ⟨z, ?_, rfl, fun _ _ => rfl, fun _ _ => rfl, fun j h1 h2 => by omega⟩
    show BX9_image_91 _ (nI i) z = _
    unfold BX9_image_91
    have e : i = 4 := by omega
    rw [e, if_pos (by decide)]
  | succ k ih =>
    intro i z f hk hf z1
    obtain ⟨f, rfl⟩ : ∃ q, f = q + 1 := ⟨f - 1, by omega⟩
    have hlt : ¬ (4 : Int32) ≤ nI i := by
      rw [show (4 : Int32) = nI 4 from rfl, nI_lei (by decide) (by omega)]
      omega
    have hb : ib (nI i) 4 := ib_nI (by omega) (by decide)
    have hc : (nI i).toNatClampNeg = i := cl_nI (by omega)
    obtain ⟨z', e1, e2, e4, e5, e6⟩ := ih (i + 1) (msA z 25 i (z.2.1 10 i)) f (by omega) (by omega) z1
    refine ⟨z', ?_, e2, fun q q1 => ?_, fun j hj => ?_, fun j j1 j2 => ?_⟩
    · show BX9_image_91 _ (nI i) z = _
      unfold BX9_image_91
      rw [if_neg hlt]
      simp only [if_pos hb, lt, hc, nI_1]
      exact e1
    · rw [e4 q q1]
      exact up2_ne q1
    · rw [e5 j (by omega)]
      show (if j = i then _ else z.2.1 25 j) = _
      rw [if_neg (by omega)]
    · by_cases q : j = i
      · subst q
        rw [e5 j (by omega), ← z1]
        exact if_pos rfl
      · exact e6 j (by omega) j2
theorem s_image : ST22 Rl := by
  intro x y hr
  obtain ⟨own, n, r, t, u, h⟩ := id hr
  have hn := h.n10
  unfold fX8_image fX9_image
  simp only [lt]
  have hcp : ∀ z : XS, cpF z 2 4 12 4 0 0 4 = some (xsF z 12 (va_cpy (z.2.1 2) (z.2.1 12) 0 0 4)) := fun z => if_pos (by decide)
  rw [hcp]
  simp only [Option.bind_some]
  obtain ⟨x', e1, e2, e3, e4, -, e6⟩ := take_loop h n 0 (xsF (xsS (xsS (xsS (xsS (xsS x 11 0 (bI true)) 11 1 (x.1 0 1)) 11 2 (x.1 0 5)) 11 3 (x.1 0 10)) 11 4 (x.1 0 3)) 12 (va_cpy (x.2.1 2) (x.2.1 12) 0 0 4)) NF (by omega) (by unfold NF; omega) h.H.ex rfl
  obtain ⟨w, f1, f2, f4, -, f6⟩ := take9_loop hn y n 0 (msS (msS (msS (msS (msS y 0 48 (bI true)) 0 49 (y.1 0 13)) 0 50 (y.1 0 15)) 0 51 (y.1 0 41)) 0 52 (y.1 0 4)) NF (by omega) (by unfold NF; omega) h.H.ey rfl rfl rfl
  obtain ⟨y', g1, g2, g4, -, g6⟩ := pound9_loop y 4 0 w NF (by omega) (by unfold NF; omega) (f4 10 (by decide) (by decide) (by decide))
  have y1 : y'.1 = (msS (msS (msS (msS (msS y 0 48 (bI true)) 0 49 (y.1 0 13)) 0 50 (y.1 0 15)) 0 51 (y.1 0 41)) 0 52 (y.1 0 4)).1 := g2.trans f2
  have e1 : LX8_image_71 NF 0 (xsF (xsS (xsS (xsS (xsS (xsS x 11 0 (bI true)) 11 1 (x.1 0 1)) 11 2 (x.1 0 5)) 11 3 (x.1 0 10)) 11 4 (x.1 0 3)) 12 (va_cpy (x.2.1 2) (x.2.1 12) 0 0 4)) = some x' := e1
  have f1 : LX9_image_39 NF 0 (msS (msS (msS (msS (msS y 0 48 (bI true)) 0 49 (y.1 0 13)) 0 50 (y.1 0 15)) 0 51 (y.1 0 41)) 0 52 (y.1 0 4)) = some w := f1
  have g1 : LX9_image_91 NF 0 w = some y' := g1
  refine ⟨nI r, x', y', ?_, ?_, own, n, r, t, u, ?_⟩
  · show Option.bind (LX8_image_71 NF 0 (xsF (xsS (xsS (xsS (xsS (xsS x 11 0 (bI true)) 11 1 (x.1 0 1)) 11 2 (x.1 0 5)) 11 3 (x.1 0 10)) 11 4 (x.1 0 3)) 12 (va_cpy (x.2.1 2) (x.2.1 12) 0 0 4))) _ = _
    rw [e1]
    simp only [Option.bind_some, e2]
    show some (x.1 0 5, x') = _
    rw [h.R.ex]
  · show Option.bind (LX9_image_39 NF 0 (msS (msS (msS (msS (msS y 0 48 (bI true)) 0 49 (y.1 0 13)) 0 50 (y.1 0 15)) 0 51 (y.1 0 41)) 0 52 (y.1 0 4))) _ = _
    rw [f1, Option.bind_some, g1]
    simp only [Option.bind_some, y1]
    show some (y.1 0 41, y') = _
    rw [h.R.ey]
  · refine h.setI (by rw [e2]; rfl) (by rw [e2]; rfl) (fun k hk => ?_) (by rw [e3]; rfl) (fun k hk => ?_) (fun k hk => ?_) ⟨?_, Or.inr ⟨n, r, u, Nat.le_refl _, Nat.le_refl _, h.T.lu, ?_, ?_, ?_, ?_, ?_, ?_, ?_, ?_, ?_, fun g hg => ?_, fun i hi => ?_⟩⟩
    · rw [e4 k (ne_in (A := [13]) (by decide) hk (by decide)) (ne_in (A := [14]) (by decide) hk (by decide)) (ne_in (A := [15]) (by decide) hk (by decide))]
      exact up1_ne (ne_in (A := [12]) (by decide) hk (by decide))
    · rw [y1]
      show (if k = 52 then _ else if k = 51 then _ else if k = 50 then _ else if k = 49 then _ else if k = 48 then _ else y.1 0 k) = _
      rw [if_neg (ne_in (A := [52]) (by decide) hk (by decide)), if_neg (ne_in (A := [51]) (by decide) hk (by decide)), if_neg (ne_in (A := [50]) (by decide) hk (by decide)), if_neg (ne_in (A := [49]) (by decide) hk (by decide)), if_neg (ne_in (A := [48]) (by decide) hk (by decide))]
    · rw [g4 k (ne_in (A := [25]) (by decide) hk (by decide)), f4 k (ne_in (A := [22]) (by decide) hk (by decide)) (ne_in (A := [23]) (by decide) hk (by decide)) (ne_in (A := [24]) (by decide) hk (by decide))]
      rfl
    · rw [e2, y1]; rfl
    · rw [e2]; exact h.H.ex
    · rw [y1]; exact h.H.ey
    · rw [e2]; exact h.R.ex
    · rw [y1]; exact h.R.ey
    · rw [e2]; exact h.T.eu
    · rw [y1]; exact h.T.ev
    · rw [e2, y1]; exact h.P.es
    · rw [y1]; exact h.P.s0
    · rw [y1]; exact h.P.s1
    · rw [e4 12 (by decide) (by decide) (by decide), g6 g (Nat.zero_le _) hg]
      refine ⟨?_, h.P.p0 g hg⟩
      show va_cpy (x.2.1 2) (x.2.1 12) 0 0 4 g = _
      unfold va_cpy
      rw [if_pos ⟨Nat.zero_le _, by omega⟩, Nat.zero_add, Nat.sub_zero]
      exact h.P.eq g hg
    · obtain ⟨a, b, c⟩ := e6 i (Nat.zero_le _) hi
      obtain ⟨a', b', c'⟩ := f6 i (Nat.zero_le _) hi
      have v := h.H.va i hi
      rw [g4 22 (by decide), g4 23 (by decide), g4 24 (by decide), a, b, c, a', b', c']
      exact ⟨rfl, rfl, rfl, v.st0, v.st1, v.ag0, v.ag1, v.ld0, v.ld1⟩
