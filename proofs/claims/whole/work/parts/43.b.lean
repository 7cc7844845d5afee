/-- the reference but for its rows of strengths, ages, leads -/
def kN (y y' : MS) : Prop := (∀ k, k ∈ ([3, 4, 6, 13, 15, 41, 48, 49, 50, 51, 52] : List Nat) → y'.1 0 k = y.1 0 k) ∧ (∀ k, k ∈ ([1, 2, 3, 4, 7, 8, 10, 15, 16, 17, 18, 19, 22, 23, 24, 25, 26, 27, 28, 29] : List Nat) → y'.2.1 k = y.2.1 k)
/-- the reference but for what no later call reads -/
def kM (y y' : MS) : Prop := kN y y' ∧ y'.2.1 5 = y.2.1 5 ∧ y'.2.1 6 = y.2.1 6 ∧ y'.2.1 9 = y.2.1 9
def kX (x x' : XS) : Prop := (∀ k, k ∈ ([1, 3, 5, 9, 10] : List Nat) → x'.1 0 k = x.1 0 k) ∧ x'.1 4 1 = x.1 4 1 ∧ x'.1 11 = x.1 11 ∧ (∀ k, k ∈ ([2, 5, 12, 13, 14, 15] : List Nat) → x'.2.1 k = x.2.1 k) ∧ x'.2.2 = x.2.2
theorem kN.rf (y : MS) : kN y y := ⟨fun _ _ => rfl, fun _ _ => rfl⟩
theorem kM.rf (y : MS) : kM y y := ⟨kN.rf y, rfl, rfl, rfl⟩
theorem kX.rf (x : XS) : kX x x := ⟨fun _ _ => rfl, rfl, rfl, fun _ _ => rfl, rfl⟩
theorem kN.tr {a b c : MS} (h : kN a b) (g : kN b c) : kN a c := ⟨fun k q => (g.1 k q).trans (h.1 k q), fun k q => (g.2 k q).trans (h.2 k q)⟩
theorem kM.tr {a b c : MS} (h : kM a b) (g : kM b c) : kM a c := ⟨h.1.tr g.1, g.2.1.trans h.2.1, g.2.2.1.trans h.2.2.1, g.2.2.2.trans h.2.2.2⟩
theorem kX.tr {a b c : XS} (h : kX a b) (g : kX b c) : kX a c := ⟨fun k q => (g.1 k q).trans (h.1 k q), g.2.1.trans h.2.1, g.2.2.1.trans h.2.2.1, fun k q => (g.2.2.2.1 k q).trans (h.2.2.2.1 k q), g.2.2.2.2.trans h.2.2.2.2⟩
theorem up2_ne {α : Type} {f : Nat → Nat → α} {k i j : Nat} {v : α} (h : j ≠ k) : up2 f k i v j = f j := if_neg h
theorem up1_ne {α : Type} {f : Nat → Nat → α} {k j : Nat} {g : Nat → α} (h : j ≠ k) : up1 f k g j = f j := if_neg h
theorem ne_in {k j : Nat} {A B : List Nat} (hk : k ∈ A) (hj : j ∈ B) (h : ∀ z, z ∈ A → z ∉ B) : j ≠ k := fun e => h k hk (e ▸ hj)
theorem kN.A {y : MS} {k i : Nat} {v : Int32} (h : k ∈ ([5, 6, 9, 11, 13, 14, 20, 21] : List Nat)) : kN y (msA y k i v) := ⟨fun _ _ => rfl, fun _ hj => up2_ne (ne_in h hj (by decide))⟩
theorem kM.A {y : MS} {k i : Nat} {v : Int32} (h : k ∈ ([11, 13, 14, 20, 21] : List Nat)) : kM y (msA y k i v) := ⟨⟨fun _ _ => rfl, fun _ hj => up2_ne (ne_in h hj (by decide))⟩, up2_ne (ne_in (B := [5]) h (by decide) (by decide)), up2_ne (ne_in (B := [6]) h (by decide) (by decide)), up2_ne (ne_in (B := [9]) h (by decide) (by decide))⟩
theorem kM.L {y : MS} {k i : Nat} {v : Int64} : kM y (msL y k i v) := ⟨⟨fun _ _ => rfl, fun _ _ => rfl⟩, rfl, rfl, rfl⟩
theorem kM.S {y : MS} {i : Nat} {v : Int32} (h : i ∈ ([19, 20, 22, 23, 24, 25, 27, 28, 29, 30, 31, 32, 33, 34, 35] : List Nat)) : kM y (msS y 0 i v) := ⟨⟨fun j hj => if_neg (ne_in h hj (by decide)), fun _ _ => rfl⟩, rfl, rfl, rfl⟩
theorem kX.A {x : XS} {k i : Nat} {v : Int32} (h : k ∈ ([7, 8, 17, 18, 19, 20, 21, 22, 23, 24, 25, 26] : List Nat)) : kX x (xsA x k i v) := ⟨fun _ _ => rfl, rfl, rfl, fun _ hj => up2_ne (ne_in h hj (by decide)), rfl⟩
theorem kX.F {x : XS} {k : Nat} {f : Nat → Int32} (h : k ∈ ([7, 8, 17, 18, 19, 20, 21, 22, 23, 24, 25, 26] : List Nat)) : kX x (xsF x k f) := ⟨fun _ _ => rfl, rfl, rfl, fun _ hj => up1_ne (ne_in h hj (by decide)), rfl⟩
theorem kX.S {x : XS} {k i : Nat} {v : Int32} (h : k ∈ ([6, 16] : List Nat)) : kX x (xsS x k i v) := ⟨fun j _ => congrFun (up2_ne (ne_in (B := [0]) h (by decide) (by decide))) j, congrFun (up2_ne (ne_in (B := [4]) h (by decide) (by decide))) 1, up2_ne (ne_in (B := [11]) h (by decide) (by decide)), fun _ _ => rfl, rfl⟩
theorem RO.keep {own : Nat → Nat} {n r t u : Nat} {x x' : XS} {y y' : MS} (h : RO own n r t u x y) (kx : kX x x') (ky : kM y y') : RO own n r t u x' y' := by
  obtain ⟨s1, s2, s3, s4, s5⟩ := kx
  obtain ⟨⟨m1, m2⟩, m5, m6, m9⟩ := ky
  obtain ⟨h1, h2, h3, h4, h5, h6, h7, h8⟩ := h
  refine ⟨?_, ?_, ?_, ?_, ?_, ?_, ?_, ?_⟩
  · rw [s5]; exact h1
  · rw [s5, s1 1 (by decide), m1 13 (by decide), m2 4 (by decide), m5, m6, m2 7 (by decide), m2 8 (by decide), m9]; exact h2
  · rw [s4 2 (by decide), m2 10 (by decide), s1 3 (by decide), m1 15 (by decide)]; exact h3
  · rw [s5, s1 5 (by decide), m1 41 (by decide), m2 15 (by decide), m2 16 (by decide), m2 17 (by decide), m2 18 (by decide), m2 19 (by decide)]; exact h4
  · rw [s2, m1 6 (by decide), s4 5 (by decide), m2 3 (by decide)]; exact h5
  · rw [s3, s4 12 (by decide), s4 13 (by decide), s4 14 (by decide), s4 15 (by decide), m1 48 (by decide), m1 49 (by decide), m1 50 (by decide), m1 51 (by decide), m1 52 (by decide), m2 22 (by decide), m2 23 (by decide), m2 24 (by decide), m2 25 (by decide)]; exact h6
  · rw [s5, m2 26 (by decide), m2 27 (by decide), m2 28 (by decide), m2 29 (by decide)]; exact h7
  · rw [s5, s1 9 (by decide), s1 10 (by decide), m1 3 (by decide), m1 4 (by decide), m2 1 (by decide), m2 2 (by decide)]; exact h8
theorem Rl.keep {x x' : XS} {y y' : MS} (h : Rl x y) (kx : kX x x') (ky : kM y y') : Rl x' y' := by
  obtain ⟨own, n, r, t, u, h⟩ := h
  exact ⟨own, n, r, t, u, h.keep kx ky⟩
/-- a horse's strength, age, lead put anew on both sides -/
theorem RO.setH {own : Nat → Nat} {n r t u : Nat} {x : XS} {y y' : MS} (h : RO own n r t u x y) {i p : Nat} (hi : i < n) (er : x.2.2.1 1 i = some p) (ep : own p = i) (e : x.2.2.2.1 p = some (hoD (y.2.1 4 i) (y.2.1 7 i) (y.2.1 8 i) (y.2.1 5 i) (y.2.1 6 i) (y.2.1 9 i))) {st ag ld : Int32} (v : HV (y.2.1 4 i) (y.2.1 7 i) (y.2.1 8 i) st ag ld) (ky : kN y y') (k5 : ∀ j, y'.2.1 5 j = if j = i then st else y.2.1 5 j) (k6 : ∀ j, y'.2.1 6 j = if j = i then ag else y.2.1 6 j) (k9 : ∀ j, y'.2.1 9 j = if j = i then ld else y.2.1 9 j) : RO own n r t u (xsD x p (hoD (y.2.1 4 i) (y.2.1 7 i) (y.2.1 8 i) st ag ld)) y' := by
  obtain ⟨m1, m2⟩ := ky
  have hn := h.n10
  have hk : ∀ a d, x.2.2.2.1 a = some d → own a ≠ i → (xsD x p (hoD (y.2.1 4 i) (y.2.1 7 i) (y.2.1 8 i) st ag ld)).2.2.2.1 a = some d ∧ own a = own a := by
    intro a d ha hne
    refine ⟨?_, rfl⟩
    show (if a = p then some _ else x.2.2.2.1 a) = some d
    rw [if_neg (fun q => hne (by rw [q, ep]))]
    exact ha
  refine ⟨?_, ?_, ?_, ?_, ?_, ?_, ?_, ?_⟩
  · intro a d ha
    show a < x.2.2.2.2
    by_cases q : a = p
    · rw [q]; exact h.fr p _ e
    · refine h.fr a d ?_
      have : (if a = p then some (hoD (y.2.1 4 i) (y.2.1 7 i) (y.2.1 8 i) st ag ld) else x.2.2.2.1 a) = some d := ha
      rwa [if_neg q] at this
  · rw [m1 13 (by decide), m2 4 (by decide), m2 7 (by decide), m2 8 (by decide)]
    refine ⟨h.H.le, h.H.ex, h.H.ey, fun j hj => ?_, fun j hj => ?_⟩
    · by_cases q : j = i
      · subst q
        obtain ⟨a, a1, a2, a3⟩ := h.H.at' j hj
        rw [k5, k6, k9, if_pos rfl, if_pos rfl, if_pos rfl]
        have ap : a = p := Option.some.inj (a1.symm.trans er)
        exact ⟨a, a1, a2, if_pos ap⟩
      · obtain ⟨a, a1, a2, a3⟩ := h.H.at' j hj
        rw [k5, k6, k9, if_neg q, if_neg q, if_neg q]
        exact ⟨a, a1, a2, (hk a _ a3 (by rw [a2]; exact q)).1⟩
    · by_cases q : j = i
      · subst q
        rw [k5, k6, k9, if_pos rfl, if_pos rfl, if_pos rfl]
        exact v
      · rw [k5, k6, k9, if_neg q, if_neg q, if_neg q]
        exact h.H.va j hj
  · rw [m2 10 (by decide), m1 15 (by decide)]; exact h.P
  · rw [m1 41 (by decide), m2 15 (by decide), m2 16 (by decide), m2 17 (by decide), m2 18 (by decide), m2 19 (by decide)]; exact h.R.mono (Nat.le_refl _) (fun a d ha _ _ => hk a d ha (by omega))
  · rw [m1 6 (by decide), m2 3 (by decide)]; exact h.A
  · rw [m1 48 (by decide), m1 49 (by decide), m1 50 (by decide), m1 51 (by decide), m1 52 (by decide), m2 22 (by decide), m2 23 (by decide), m2 24 (by decide), m2 25 (by decide)]; exact h.I
  · rw [m2 26 (by decide), m2 27 (by decide), m2 28 (by decide), m2 29 (by decide)]; exact h.S.mono (fun a d ha _ _ => hk a d ha (by omega))
  · rw [m1 3 (by decide), m1 4 (by decide), m2 1 (by decide), m2 2 (by decide)]; exact h.T.mono (fun a d ha _ _ => hk a d ha (by omega))
