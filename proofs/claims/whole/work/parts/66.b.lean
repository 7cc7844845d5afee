/-! seasons -/
/-- the reference with another row of leads -/
def rs9 (w : MS) (A : Nat → Int32) : MS := (w.1, (fun k => if k = 9 then A else w.2.1 k), w.2.2)
theorem rs9_ne {w : MS} {A : Nat → Int32} {k : Nat} (h : k ≠ 9) : (rs9 w A).2.1 k = w.2.1 k := if_neg h
theorem kM_rs9 {w w' : MS} (A : Nat → Int32) (h : kN w w') (h5 : w'.2.1 5 = w.2.1 5) (h6 : w'.2.1 6 = w.2.1 6) : kM (rs9 w A) (rs9 w' A) := by
  refine ⟨⟨fun k hk => h.1 k hk, fun k hk => ?_⟩, h5, h6, rfl⟩
  have : ∀ k, k ∈ ([1, 2, 3, 4, 7, 8, 10, 15, 16, 17, 18, 19, 22, 23, 24, 25, 26, 27, 28, 29] : List Nat) → k ≠ 9 := by decide
  rw [rs9_ne (this k hk), rs9_ne (this k hk)]
  exact h.2 k hk
theorem kM_to9 {y w : MS} (h : kM y w) : kM y (rs9 w (y.2.1 9)) := by
  refine ⟨⟨fun k hk => h.1.1 k hk, fun k hk => ?_⟩, h.2.1, h.2.2.1, rfl⟩
  have : ∀ k, k ∈ ([1, 2, 3, 4, 7, 8, 10, 15, 16, 17, 18, 19, 22, 23, 24, 25, 26, 27, 28, 29] : List Nat) → k ≠ 9 := by decide
  rw [rs9_ne (this k hk)]
  exact h.1.2 k hk
theorem wins_eq {y w : MS} (e1 : y.1 0 41 = w.1 0 41) (e2 : y.2.1 18 = w.2.1 18) (q : Int32) : ∀ (f : Nat) (a b : Int32), LX9_winsOf_4 y q f a b = LX9_winsOf_4 w q f a b := by
  intro f
  induction f with
  | zero => intro a b; rfl
  | succ f ih =>
    intro a b
    show BX9_winsOf_4 y q (LX9_winsOf_4 y q f) a b = BX9_winsOf_4 w q (LX9_winsOf_4 w q f) a b
    unfold BX9_winsOf_4
    rw [e1, e2]
    simp only [lt, ih]
section SEASON
variable {own : Nat → Nat} {n r t u : Nat} {x : XS} {y : MS}
theorem RO.lead (h : RO own n r t u x y) {y' : MS} (k : kN y y') (h5 : y'.2.1 5 = y.2.1 5) (h6 : y'.2.1 6 = y.2.1 6) (h9 : ∀ i, i < n → y'.2.1 9 i = y.2.1 9 i) : RO own n r t u x y' := by
  have h2 : RO own n r t u x (rs9 y' (y.2.1 9)) := h.keep (kX.rf x) ⟨⟨fun j hj => k.1 j hj, fun j hj => by
    have : ∀ k, k ∈ ([1, 2, 3, 4, 7, 8, 10, 15, 16, 17, 18, 19, 22, 23, 24, 25, 26, 27, 28, 29] : List Nat) → k ≠ 9 := by decide
    rw [rs9_ne (this j hj)]
    exact k.2 j hj⟩, h5, h6, rfl⟩
  refine ⟨h2.fr, ?_, h2.P, h2.R, h2.A, h2.I, h2.S, h2.T⟩
  refine ⟨h2.H.le, h2.H.ex, h2.H.ey, fun i hi => ?_, fun i hi => ?_⟩
  · obtain ⟨a, a1, a2, a3⟩ := h2.H.at' i hi
    refine ⟨a, a1, a2, ?_⟩
    rw [h9 i hi]
    exact a3
  · rw [h9 i hi]
    exact h2.H.va i hi
theorem next9r {A : Nat → Int32} {z : XS} {w : MS} (h : RO own n r t u z (rs9 w A)) {i : Nat} (hi : i < n) (l wo pl g : Int32) (hg : 0 ≤ g) : ∃ (v : Int32) (z' : XS) (w' : MS), fX8_nextLead z (nI i) l wo pl g = some (v, z') ∧ fX9_nextLead w (nI i) l wo pl g = some (v, w') ∧ RO own n r t u z' (rs9 w' A) ∧ fz own z z' ∧ kp w w' := by
  have hn := h.n10
  obtain ⟨v, z', C, e1, e2, e3, e4, e5⟩ := rule8 h hi (show 0 < 3 by decide) l wo pl g g (Or.inr ⟨by
    rintro rfl
    exact absurd hg (by decide), rfl⟩)
  obtain ⟨w', r1, r2, -⟩ := e5 w i l wo pl g 0 (by omega) (fun _ _ => rfl) rfl
  have ev : (evl (envM w i l wo pl g) (C (if (0 : Int32) = 0 then 0 else if (0 : Int32) = 1 then 1 else 2)) []).headD 0 = v := e4.symm
  rw [ev] at r1
  obtain ⟨b, w1, w2, -, -⟩ := bnd89 v (show (0 : Int32) ≤ 60 by decide)
  have e1 : fX8_ruled z 0 (nI i) l wo pl g = some (v, z') := e1
  refine ⟨b, z', w', ?_, ?_, e2.keep (kX.rf z') (kM_rs9 A r2.kM.1 r2.kM.2.1 r2.kM.2.2.1), e3, r2⟩
  · unfold fX8_nextLead
    rw [e1]
    simp only [bind2, w1, Option.bind_some]
  · have e4 : w.1 0 4 = nI u := h.T.ev
    unfold fX9_nextLead
    rw [e4, r1]
    simp only [bind2, w2, Option.bind_some]
def SZ (own : Nat → Nat) (n r t u : Nat) (A : Nat → Int32) (z : XS) (w : MS) : Prop := (RO own n r t u z (rs9 w A)) ∧ (∀ i, i < n → z.2.1 24 i = w.2.1 9 i) ∧ (∀ i, i < n → z.2.1 25 i = w.2.1 21 i) ∧ (∀ i, i < n → w.2.1 14 i = A i)
theorem SZ.R {own : Nat → Nat} {n r t u : Nat} {A : Nat → Int32} {z : XS} {w : MS} (zz : SZ own n r t u A z w) : RO own n r t u z (rs9 w A) := zz.1
theorem SZ.L {own : Nat → Nat} {n r t u : Nat} {A : Nat → Int32} {z : XS} {w : MS} (zz : SZ own n r t u A z w) : ∀ i, i < n → z.2.1 24 i = w.2.1 9 i := zz.2.1
theorem SZ.W {own : Nat → Nat} {n r t u : Nat} {A : Nat → Int32} {z : XS} {w : MS} (zz : SZ own n r t u A z w) : ∀ i, i < n → z.2.1 25 i = w.2.1 21 i := zz.2.2.1
theorem SZ.K {own : Nat → Nat} {n r t u : Nat} {A : Nat → Int32} {z : XS} {w : MS} (zz : SZ own n r t u A z w) : ∀ i, i < n → w.2.1 14 i = A i := zz.2.2.2
theorem draw_loop {A : Nat → Int32} {gr d : Nat} {f q2 q4 q5 : Int32} (hgr : gr < 4) : ∀ (k i fu gu : Nat) (lot : Int64) (z : XS) (w : MS), i + k = n → k < fu → k < gu → SZ own n r t u A z w → (∀ j, j < i → inF f j = true → z.2.1 26 j = w.2.1 20 j) → ∃ lot' z' w', LX8_drawRuns_7 f (nI gr) (nI d) fu lot (nI i) z = some (lot', z') ∧ LX9_season_129 f q2 q4 q5 (nI gr) (nI d) gu lot (nI i) w = some (lot', w') ∧ SZ own n r t u A z' w' ∧ ∀ j, j < n → inF f j = true → z'.2.1 26 j = w'.2.1 20 j := by
  intro k
  induction k with
  | zero =>
    intro i fu gu lot z w hk hf hg h hr
    obtain ⟨fu, rfl⟩ : ∃ z, fu = z + 1 := ⟨fu - 1, by omega⟩
    obtain ⟨gu, rfl⟩ : ∃ z, gu = z + 1 := ⟨gu - 1, by omega⟩
    have e : i = n := by omega
    subst e
    have ey : w.1 0 13 = nI i := h.R.H.ey
    refine ⟨lot, z, w, ?_, ?_, h, hr⟩
    · show BX8_drawRuns_7 _ _ _ _ lot (nI i) z = _
      unfold BX8_drawRuns_7
      rw [h.R.H.ex, if_pos (Int32.le_refl _)]
    · show BX9_season_129 _ _ _ _ _ _ _ lot (nI i) w = _
      unfold BX9_season_129
      rw [ey, if_pos (Int32.le_refl _)]
  | succ k ih =>
    intro i fu gu lot z w hk hf hg h hr
    obtain ⟨fu, rfl⟩ : ∃ z, fu = z + 1 := ⟨fu - 1, by omega⟩
    obtain ⟨gu, rfl⟩ : ∃ z, gu = z + 1 := ⟨gu - 1, by omega⟩
    have hn := h.R.n10
    have hi : i < n := by omega
    have ey : w.1 0 13 = nI n := h.R.H.ey
    have es : z.1 0 3 = w.1 0 15 := h.R.P.es
    have s0 : 0 ≤ w.1 0 15 := h.R.P.s0
    have s1 : w.1 0 15 ≤ 3 := h.R.P.s1
    have hlt : ¬ nI n ≤ nI i := by
      rw [nI_lei (by omega) (by omega)]
      omega
    have hwy : fX9_ways w = some ((2 * (w.1 0 15)) + 1) := rfl
    have nz : ¬ ((2 * (w.1 0 15)) + 1).toInt64 = 0 := by
      obtain ⟨s, hs, e⟩ := ix_of (n := 4) (by decide) s0 (Int32.lt_of_le_of_lt s1 (by decide))
      rw [e]
      have : s = 0 ∨ s = 1 ∨ s = 2 ∨ s = 3 := by omega
      rcases this with rfl | rfl | rfl | rfl <;> decide
    have io : fX9_isOf w f (nI i) = some (inF f i) := isOf9 h.R f hi
    have r8 := rat8 h.R hi hgr (nI d) (w.2.1 9 i)
    have r9 : fX9_carries w (nI i) (nI gr) (nI d) (w.2.1 10 gr) (w.2.1 9 i) = some (rat (rs9 w A) i gr (nI d) (w.2.1 9 i)) := rat9 h.R hi (nI d) (w.2.1 9 i)
    have hb := ib10 h.R hi
    have hc := cln h.R hi
    have hbg : ib (nI gr) 4 := ib_nI hgr (by decide)
    have hcg : (nI gr).toNatClampNeg = gr := cl_nI (by omega)
    show ∃ lot' z' w', BX8_drawRuns_7 f (nI gr) (nI d) (LX8_drawRuns_7 f (nI gr) (nI d) fu) lot (nI i) z = some (lot', z') ∧ BX9_season_129 f q2 q4 q5 (nI gr) (nI d) (LX9_season_129 f q2 q4 q5 (nI gr) (nI d) gu) lot (nI i) w = some (lot', w') ∧ _
    unfold BX8_drawRuns_7 BX9_season_129
    rw [h.R.H.ex, ey, if_neg hlt, if_neg hlt, isIn8 h.R f hi, io]
    simp only [Option.bind_some, lt, nI_1]
    by_cases c : inF f i = true
    · simp only [if_pos c, es, if_pos nz, if_pos hb, hc, h.L i hi, r8, Option.bind_some, if_pos hbg, hcg, r9, hwy]
      have ev : ∀ a b : Int32, a + (b - w.1 0 15) = (a + b) - w.1 0 15 := fun a b => by
        rw [Int32.sub_eq_add_neg, Int32.sub_eq_add_neg, Int32.add_assoc]
      rw [ev]
      generalize hV : (rat (rs9 w A) i gr (nI d) (w.2.1 9 i) + ((lrm (lrm (lot * 48271) 2147483647) ((2 * (w.1 0 15)) + 1).toInt64).toInt32)) - w.1 0 15 = V
      refine ih (i + 1) fu gu _ (xsA z 26 i V) (msA w 20 i V) (by omega) (by omega) (by omega) ⟨?_, h.L, h.W, h.K⟩ (fun j hj hin => ?_)
      · exact h.R.keep (kX.A (by decide)) (kM_rs9 A (kN.A (by decide)) rfl rfl)
      · show (if j = i then V else z.2.1 26 j) = (if j = i then V else w.2.1 20 j)
        by_cases q : j = i
        · rw [if_pos q, if_pos q]
        · rw [if_neg q, if_neg q]
          exact hr j (by omega) hin
    · simp only [if_neg c]
      refine ih (i + 1) fu gu lot z w (by omega) (by omega) (by omega) h (fun j hj hin => ?_)
      by_cases q : j = i
      · rw [q] at hin
        exact absurd hin c
      · exact hr j (by omega) hin
theorem place_by {A : Nat → Int32} {z : XS} {w : MS} {f : Int32} {i0 : Nat} (h : SZ own n r t u A z w) (hi0 : i0 < n) (hf0 : inF f i0 = true) (hr : ∀ j, j < n → inF f j = true → z.2.1 26 j = w.2.1 20 j) : ∀ (k i fu gu : Nat) (acc : Int32), i + k = n → k < fu → k < gu → ∃ v, LX8_placeByRun_5 z f (nI i0) fu acc (nI i) = some v ∧ LX9_placeBy_5 w f (nI i0) gu acc (nI i) = some v := by
  have hn := h.R.n10
  have ey : w.1 0 13 = nI n := h.R.H.ey
  intro k
  induction k with
  | zero =>
    intro i fu gu acc hk hf hg
    obtain ⟨fu, rfl⟩ : ∃ z, fu = z + 1 := ⟨fu - 1, by omega⟩
    obtain ⟨gu, rfl⟩ : ∃ z, gu = z + 1 := ⟨gu - 1, by omega⟩
    have e : i = n := by omega
    subst e
    refine ⟨acc, ?_, ?_⟩
    · show BX8_placeByRun_5 z _ _ _ acc (nI i) = _
      unfold BX8_placeByRun_5
      rw [h.R.H.ex, if_pos (Int32.le_refl _)]
    · show BX9_placeBy_5 w _ _ _ acc (nI i) = _
      unfold BX9_placeBy_5
      rw [ey, if_pos (Int32.le_refl _)]
  | succ k ih =>
    intro i fu gu acc hk hf hg
    obtain ⟨fu, rfl⟩ : ∃ z, fu = z + 1 := ⟨fu - 1, by omega⟩
    obtain ⟨gu, rfl⟩ : ∃ z, gu = z + 1 := ⟨gu - 1, by omega⟩
    have hi : i < n := by omega
    have hlt : ¬ nI n ≤ nI i := by
      rw [nI_lei (by omega) (by omega)]
      omega
    have io : fX9_isOf w f (nI i) = some (inF f i) := isOf9 h.R f hi
    have nxt := fun a => ih (i + 1) fu gu a (by omega) (by omega) (by omega)
    show ∃ v, BX8_placeByRun_5 z f (nI i0) (LX8_placeByRun_5 z f (nI i0) fu) acc (nI i) = some v ∧ BX9_placeBy_5 w f (nI i0) (LX9_placeBy_5 w f (nI i0) gu) acc (nI i) = some v
    unfold BX8_placeByRun_5 BX9_placeBy_5
    rw [h.R.H.ex, ey, if_neg hlt, if_neg hlt, isIn8 h.R f hi, io]
    simp only [Option.bind_some, lt, nI_1, Int32.add_zero]
    by_cases c : inF f i = true
    · simp only [if_pos c, if_pos (ib10 h.R hi), if_pos (ib10 h.R hi0), cln h.R hi, cln h.R hi0, hr i hi c, hr i0 hi0 hf0]
      by_cases c1 : w.2.1 20 i0 < w.2.1 20 i
      · simp only [if_pos c1]
        exact nxt _
      · simp only [if_neg c1]
        by_cases c2 : w.2.1 20 i = w.2.1 20 i0
        · simp only [if_pos c2]
          by_cases c3 : nI i0 ≤ nI i
          · simp only [if_pos c3]
            exact nxt _
          · simp only [if_neg c3]
            exact nxt _
        · simp only [if_neg c2]
          exact nxt _
    · simp only [if_neg c]
      exact nxt _
theorem settle_loop {A : Nat → Int32} {gr : Nat} {f q2 q4 q5 q9 : Int32} {q7 : Int64} (hgr : gr < 4) : ∀ (k i fu gu : Nat) (z : XS) (w : MS), i + k = n → k < fu → k < gu → SZ own n r t u A z w → (∀ j, j < n → inF f j = true → z.2.1 26 j = w.2.1 20 j) → ∃ z' w', LX8_settleRuns_2 f (nI gr) fu (nI i) z = some z' ∧ LX9_season_218 f q2 q4 q5 (nI gr) q7 q9 gu (nI i) w = some w' ∧ SZ own n r t u A z' w' := by
  intro k
  induction k with
  | zero =>
    intro i fu gu z w hk hf hg h hr
    obtain ⟨fu, rfl⟩ : ∃ z, fu = z + 1 := ⟨fu - 1, by omega⟩
    obtain ⟨gu, rfl⟩ : ∃ z, gu = z + 1 := ⟨gu - 1, by omega⟩
    have e : i = n := by omega
    subst e
    have ey : w.1 0 13 = nI i := h.R.H.ey
    refine ⟨z, w, ?_, ?_, h⟩
    · show BX8_settleRuns_2 _ _ _ (nI i) z = _
      unfold BX8_settleRuns_2
      rw [h.R.H.ex, if_pos (Int32.le_refl _)]
    · show BX9_season_218 _ _ _ _ _ _ _ _ (nI i) w = _
      unfold BX9_season_218
      rw [ey, if_pos (Int32.le_refl _)]
  | succ k ih =>
    intro i fu gu z w hk hf hg h hr
    obtain ⟨fu, rfl⟩ : ∃ z, fu = z + 1 := ⟨fu - 1, by omega⟩
    obtain ⟨gu, rfl⟩ : ∃ z, gu = z + 1 := ⟨gu - 1, by omega⟩
    have hn := h.R.n10
    have hi : i < n := by omega
    have ey : w.1 0 13 = nI n := h.R.H.ey
    have hlt : ¬ nI n ≤ nI i := by
      rw [nI_lei (by omega) (by omega)]
      omega
    have io : fX9_isOf w f (nI i) = some (inF f i) := isOf9 h.R f hi
    have hb := ib10 h.R hi
    have hc := cln h.R hi
    show ∃ z' w', BX8_settleRuns_2 f (nI gr) (LX8_settleRuns_2 f (nI gr) fu) (nI i) z = some z' ∧ BX9_season_218 f q2 q4 q5 (nI gr) q7 q9 (LX9_season_218 f q2 q4 q5 (nI gr) q7 q9 gu) (nI i) w = some w' ∧ _
    unfold BX8_settleRuns_2 BX9_season_218
    rw [h.R.H.ex, ey, if_neg hlt, if_neg hlt, isIn8 h.R f hi, io]
    simp only [Option.bind_some, lt, nI_1]
    by_cases c : inF f i = true
    · obtain ⟨v, v1, v2⟩ := place_by h hi c hr n 0 NF NF 0 (by omega) (by unfold NF; omega) (by unfold NF; omega)
      have v1 : LX8_placeByRun_5 z f (nI i) NF 0 0 = some v := v1
      have v2 : LX9_placeBy_5 w f (nI i) NF 0 0 = some v := v2
      have e8 : fX8_placeByRun z f (nI i) = some v := by
        unfold fX8_placeByRun
        rw [v1]
        rfl
      have e9 : fX9_placeBy w f (nI i) = some v := by
        unfold fX9_placeBy
        rw [v2]
        rfl
      have fin : ∀ (z1 : XS) (w1 : MS), SZ own n r t u A z1 w1 → (∀ j, j < n → inF f j = true → z1.2.1 26 j = w1.2.1 20 j) → ∃ z' w', (Option.bind (fX8_racesWon z1 (nI i)) fun v10 => bind2 (fX8_nextLead z1 (nI i) (z1.2.1 24 i) (v10 + z1.2.1 25 i) v (nI gr)) fun v15 x16 => LX8_settleRuns_2 f (nI gr) fu (nI (i + 1)) (xsA x16 24 i v15)) = some z' ∧ (Option.bind (fX9_winsOf w1 (nI i)) fun v47 => bind2 (fX9_nextLead w1 (nI i) (w1.2.1 9 i) (v47 + w1.2.1 21 i) v (nI gr)) fun v50 x51 => LX9_season_218 f q2 q4 q5 (nI gr) q7 q9 gu (nI (i + 1)) (msA x51 9 i v50)) = some w' ∧ SZ own n r t u A z' w' := by
        intro z1 w1 h1 hr1
        obtain ⟨won, n1, n2⟩ := wins89 h1.R (nI i)
        have n3 : fX9_winsOf w1 (nI i) = some won := by
          rw [← n2]
          unfold fX9_winsOf
          rw [wins_eq (y := w1) (w := rs9 w1 A) rfl rfl]
        obtain ⟨v', z', w', m1, m2, m3, m4, m5⟩ := next9r h1.R hi (w1.2.1 9 i) (won + w1.2.1 21 i) v (nI gr) ((nI_lei (a := 0) (by decide) (by omega)).mpr (Nat.zero_le _))
        rw [n1, n3, Option.bind_some, Option.bind_some, h1.L i hi, h1.W i hi, m1, m2]
        simp only [bind2]
        refine ih (i + 1) fu gu (xsA z' 24 i v') (msA w' 9 i v') (by omega) (by omega) (by omega) ⟨?_, fun j hj => ?_, fun j hj => ?_, fun j hj => ?_⟩ (fun j hj hin => ?_)
        · exact m3.keep (kX.A (by decide)) (kM_rs9 A (kN.A (by decide)) rfl rfl)
        · show (if j = i then v' else z'.2.1 24 j) = (if j = i then v' else w'.2.1 9 j)
          rw [m4.2.1 24 (by decide), m5.rows, h1.L j hj]
        · show z'.2.1 25 j = w'.2.1 21 j
          rw [m4.2.1 25 (by decide), m5.rows]
          exact h1.W j hj
        · show w'.2.1 14 j = A j
          rw [m5.rows]
          exact h1.K j hj
        · show z'.2.1 26 j = w'.2.1 20 j
          rw [m4.2.1 26 (by decide), m5.rows]
          exact hr1 j hj hin
      have hA : ∀ (k j : Nat) (a : Int32) (q : Nat), (xsA z 25 j a).2.1 24 q = z.2.1 24 q := fun _ _ _ _ => rfl
      simp only [if_pos c, e8, e9, Option.bind_some, if_pos hb, hc]
      by_cases c0 : v = 0
      · simp only [if_pos c0, Option.bind_some]
        refine fin (xsA z 25 i (z.2.1 25 i + 1)) (msA w 21 i (w.2.1 21 i + bI true)) ⟨h.R.keep (kX.A (by decide)) (kM_rs9 A (kN.A (by decide)) rfl rfl), h.L, fun j hj => ?_, h.K⟩ hr
        show (if j = i then z.2.1 25 i + 1 else z.2.1 25 j) = (if j = i then w.2.1 21 i + 1 else w.2.1 21 j)
        rw [h.W i hi, h.W j hj]
      · simp only [if_neg c0, Option.bind_some]
        refine fin z (msA w 21 i (w.2.1 21 i + bI false)) ⟨h.R.keep (kX.rf z) (kM_rs9 A (kN.A (by decide)) rfl rfl), h.L, fun j hj => ?_, h.K⟩ hr
        show z.2.1 25 j = (if j = i then w.2.1 21 i + 0 else w.2.1 21 j)
        by_cases q : j = i
        · rw [if_pos q, Int32.add_zero, q, h.W i hi]
        · rw [if_neg q, h.W j hj]
    · simp only [if_neg c]
      exact ih (i + 1) fu gu z w (by omega) (by omega) (by omega) h hr
theorem days_loop {A : Nat → Int32} {w0 : Nat} {f q4 q5 q4' q5' : Int32} (hw : w0 < 400) : ∀ (k d fu gu : Nat) (lot : Int64) (z : XS) (w : MS), d + k = w0 % 100 → k < fu → k < gu → SZ own n r t u A z w → ∃ z' w', LX8_season_82 f (nI w0) q4 q5 fu lot (nI d) z = some z' ∧ LX9_season_117 f (nI w0) q4' q5' (nI (w0 / 100)) gu lot (nI d) w = some w' ∧ SZ own n r t u A z' w' := by
  have ed : nI w0 / 100 = nI (w0 / 100) := nI_dv (c := 100) (by omega) (by decide)
  have em : irm (nI w0) 100 = nI (w0 % 100) := nI_md (c := 100) (by omega) (by decide)
  intro k
  induction k with
  | zero =>
    intro d fu gu lot z w hk hf hg h
    obtain ⟨fu, rfl⟩ : ∃ z, fu = z + 1 := ⟨fu - 1, by omega⟩
    obtain ⟨gu, rfl⟩ : ∃ z, gu = z + 1 := ⟨gu - 1, by omega⟩
    have e : d = w0 % 100 := by omega
    subst e
    refine ⟨z, w, ?_, ?_, h⟩
    · show BX8_season_82 _ _ _ _ _ lot _ z = _
      unfold BX8_season_82
      rw [em, if_pos (Int32.le_refl _)]
    · show BX9_season_117 _ _ _ _ _ _ lot _ w = _
      unfold BX9_season_117
      rw [em, if_pos (Int32.le_refl _)]
  | succ k ih =>
    intro d fu gu lot z w hk hf hg h
    obtain ⟨fu, rfl⟩ : ∃ z, fu = z + 1 := ⟨fu - 1, by omega⟩
    obtain ⟨gu, rfl⟩ : ∃ z, gu = z + 1 := ⟨gu - 1, by omega⟩
    have hn := h.R.n10
    have hlt : ¬ nI (w0 % 100) ≤ nI d := by
      rw [nI_lei (by omega) (by omega)]
      omega
    obtain ⟨lot', z1, w1, d1, d2, d3, d4⟩ := draw_loop (A := A) (d := d) (f := f) (q2 := nI w0) (q4 := q4') (q5 := q5') (show w0 / 100 < 4 by omega) n 0 NF NF lot z w (by omega) (by unfold NF; omega) (by unfold NF; omega) h (fun j hj => absurd hj (Nat.not_lt_zero j))
    have d1 : LX8_drawRuns_7 f (nI (w0 / 100)) (nI d) NF lot 0 z = some (lot', z1) := d1
    have d2 : LX9_season_129 f (nI w0) q4' q5' (nI (w0 / 100)) (nI d) NF lot 0 w = some (lot', w1) := d2
    obtain ⟨z2, w2, s1, s2, s3⟩ := settle_loop (A := A) (f := f) (q2 := nI w0) (q4 := q4') (q5 := q5') (q7 := lot') (q9 := nI d) (show w0 / 100 < 4 by omega) n 0 NF NF z1 w1 (by omega) (by unfold NF; omega) (by unfold NF; omega) d3 d4
    have s1 : LX8_settleRuns_2 f (nI (w0 / 100)) NF 0 z1 = some z2 := s1
    have s2 : LX9_season_218 f (nI w0) q4' q5' (nI (w0 / 100)) lot' (nI d) NF 0 w1 = some w2 := s2
    show ∃ z' w', BX8_season_82 f (nI w0) q4 q5 (LX8_season_82 f (nI w0) q4 q5 fu) lot (nI d) z = some z' ∧ BX9_season_117 f (nI w0) q4' q5' (nI (w0 / 100)) (LX9_season_117 f (nI w0) q4' q5' (nI (w0 / 100)) gu) lot (nI d) w = some w' ∧ _
    unfold BX8_season_82 BX9_season_117 fX8_drawRuns fX8_settleRuns
    rw [em, if_neg hlt, if_neg hlt, ed, d1, d2]
    simp only [bind2, s1, s2, Option.bind_some, lt, nI_1]
    exact ih (d + 1) fu gu lot' z2 w2 (by omega) (by omega) (by omega) s3
theorem tkl_loop (h : RO own n r t u x y) : ∀ (k i f : Nat) (z : XS), i + k = n → k < f → kX x z → (∀ j, j < i → z.2.1 24 j = y.2.1 9 j) → ∃ z', LX8_takeLeads_2 f (nI i) z = some z' ∧ kX x z' ∧ ∀ j, j < n → z'.2.1 24 j = y.2.1 9 j := by
  have hn := h.n10
  intro k
  induction k with
  | zero =>
    intro i f z hk hf kz hz
    obtain ⟨f, rfl⟩ : ∃ z, f = z + 1 := ⟨f - 1, by omega⟩
    have e : i = n := by omega
    subst e
    refine ⟨z, ?_, kz, hz⟩
    show BX8_takeLeads_2 _ (nI i) z = _
    unfold BX8_takeLeads_2
    rw [(h.keep kz (kM.rf y)).H.ex, if_pos (Int32.le_refl _)]
  | succ k ih =>
    intro i f z hk hf kz hz
    obtain ⟨f, rfl⟩ : ∃ z, f = z + 1 := ⟨f - 1, by omega⟩
    have hi : i < n := by omega
    have hlt : ¬ nI n ≤ nI i := by
      rw [nI_lei (by omega) (by omega)]
      omega
    have h2 := h.keep kz (kM.rf y)
    obtain ⟨z', l1, l2, l3⟩ := ih (i + 1) f (xsA z 24 i (y.2.1 9 i)) (by omega) (by omega) (kz.tr (kX.A (by decide))) (fun j hj => by
      show (if j = i then y.2.1 9 i else z.2.1 24 j) = _
      by_cases q : j = i
      · rw [if_pos q, q]
      · rw [if_neg q]
        exact hz j (by omega))
    refine ⟨z', ?_, l2, l3⟩
    show BX8_takeLeads_2 _ (nI i) z = _
    unfold BX8_takeLeads_2
    rw [h2.H.ex, if_neg hlt, lead8 h2 hi, Option.bind_some, if_pos (ib10 h hi), cln h hi]
    simp only [lt, nI_1]
    exact l1
theorem take89 (h : RO own n r t u x y) : ∃ z, fX8_takeLeads x = some z ∧ kX x z ∧ ∀ j, j < n → z.2.1 24 j = y.2.1 9 j := by
  have hn := h.n10
  obtain ⟨z, l1, l2, l3⟩ := tkl_loop h n 0 NF x (by omega) (by unfold NF; omega) (kX.rf x) (fun j hj => absurd hj (Nat.not_lt_zero j))
  have l1 : LX8_takeLeads_2 NF 0 x = some z := l1
  refine ⟨z, ?_, l2, l3⟩
  unfold fX8_takeLeads
  rw [l1]
  rfl
theorem aside_loop (h : RO own n r t u x y) {q1 q2 q3 q4 q5 q6 : Int32} : ∀ (k i f : Nat) (w : MS), i + k = n → k < f → kM y w → (∀ j, j < i → w.2.1 14 j = y.2.1 9 j ∧ w.2.1 21 j = 0) → ∃ w', LX9_season_71 q1 q2 q3 q4 q5 q6 f (nI i) w = some w' ∧ kM y w' ∧ ∀ j, j < n → w'.2.1 14 j = y.2.1 9 j ∧ w'.2.1 21 j = 0 := by
  have hn := h.n10
  intro k
  induction k with
  | zero =>
    intro i f w hk hf kw hz
    obtain ⟨f, rfl⟩ : ∃ z, f = z + 1 := ⟨f - 1, by omega⟩
    have e : i = n := by omega
    subst e
    refine ⟨w, ?_, kw, hz⟩
    show BX9_season_71 _ _ _ _ _ _ _ (nI i) w = _
    unfold BX9_season_71
    rw [(h.keep (kX.rf x) kw).H.ey, if_pos (Int32.le_refl _)]
  | succ k ih =>
    intro i f w hk hf kw hz
    obtain ⟨f, rfl⟩ : ∃ z, f = z + 1 := ⟨f - 1, by omega⟩
    have hi : i < n := by omega
    have hlt : ¬ nI n ≤ nI i := by
      rw [nI_lei (by omega) (by omega)]
      omega
    have e9 : w.2.1 9 i = y.2.1 9 i := congrFun kw.2.2.2 i
    obtain ⟨w', l1, l2, l3⟩ := ih (i + 1) f (msA (msA w 14 i (w.2.1 9 i)) 21 i 0) (by omega) (by omega) ((kw.tr (kM.A (by decide))).tr (kM.A (by decide))) (fun j hj => by
      show (if j = i then w.2.1 9 i else w.2.1 14 j) = _ ∧ (if j = i then (0 : Int32) else w.2.1 21 j) = 0
      by_cases q : j = i
      · rw [if_pos q, if_pos q, q]
        exact ⟨e9, rfl⟩
      · rw [if_neg q, if_neg q]
        exact hz j (by omega))
    refine ⟨w', ?_, l2, l3⟩
    show BX9_season_71 _ _ _ _ _ _ _ (nI i) w = _
    unfold BX9_season_71
    rw [(h.keep (kX.rf x) kw).H.ey, if_neg hlt]
    simp only [if_pos (ib10 h hi), cln h hi, lt, nI_1]
    exact l1
theorem restore_loop {A : Nat → Int32} {q9 : Int32} {w0 : MS} (hn : n ≤ 10) (e13 : w0.1 0 13 = nI n) (e14 : ∀ j, j < n → w0.2.1 14 j = A j) : ∀ (k i f : Nat) (w : MS), i + k = n → k < f → w.1 = w0.1 → (∀ j, j ≠ 9 → w.2.1 j = w0.2.1 j) → (∀ j, j < i → w.2.1 9 j = A j) → ∃ w', LX9_season_346 q9 f (nI i) w = some w' ∧ w'.1 = w0.1 ∧ (∀ j, j ≠ 9 → w'.2.1 j = w0.2.1 j) ∧ ∀ j, j < n → w'.2.1 9 j = A j := by
  intro k
  induction k with
  | zero =>
    intro i f w hk hf h1 h2 h3
    obtain ⟨f, rfl⟩ : ∃ z, f = z + 1 := ⟨f - 1, by omega⟩
    have e : i = n := by omega
    subst e
    refine ⟨w, ?_, h1, h2, h3⟩
    show BX9_season_346 _ _ (nI i) w = _
    unfold BX9_season_346
    rw [h1, e13, if_pos (Int32.le_refl _)]
  | succ k ih =>
    intro i f w hk hf h1 h2 h3
    obtain ⟨f, rfl⟩ : ∃ z, f = z + 1 := ⟨f - 1, by omega⟩
    have hlt : ¬ nI n ≤ nI i := by
      rw [nI_lei (by omega) (by omega)]
      omega
    have hb : ib (nI i) 10 := ib_nI (by omega) (by decide)
    have hc : (nI i).toNatClampNeg = i := cl_nI (by omega)
    have e : w.2.1 14 i = A i := by
      rw [h2 14 (by decide)]
      exact e14 i (by omega)
    obtain ⟨w', l1, l2, l3, l4⟩ := ih (i + 1) f (msA w 9 i (A i)) (by omega) (by omega) h1 (fun j hj => (up2_ne hj).trans (h2 j hj)) (fun j hj => by
      show (if j = i then A i else w.2.1 9 j) = _
      by_cases q : j = i
      · rw [if_pos q, q]
      · rw [if_neg q]
        exact h3 j (by omega))
    refine ⟨w', ?_, l2, l3, l4⟩
    show BX9_season_346 _ _ (nI i) w = _
    unfold BX9_season_346
    rw [h1, e13, if_neg hlt]
    simp only [if_pos hb, hc, lt, nI_1, e]
    exact l1
end SEASON
theorem s_season : ST21 Rl := by
  intro x y a1 a2 a3 a4 a5 hr
  obtain ⟨own, n, r, t, u, h⟩ := id hr
  have hn := h.n10
  unfold fX8_season fX9_season
  rw [wh8, wh9, in8, in8, in8, pt9, in9i (a := irm a2 100) (lo := 1) (hi := 12) (l := 1) (h := 12) rfl rfl, in9i (a := a3) (lo := 0) (hi := 99999) (l := 0) (h := 99999) rfl rfl, hs8 h, hs9 h]
  simp only [Option.bind_some, decide_eq_true_eq]
  rcases isField89 h a1 with ⟨-, e1, e2⟩ | ⟨-, e1, e2⟩
  · rw [e1, e2]
    simp only [Option.bind_some, if_true]
    rcases of400 a2 with c | ⟨w, hw, rfl, c, ed, em⟩
    · rw [if_neg c, if_neg c]
      exact ⟨_, _, _, rfl, rfl, hr⟩
    · rw [if_pos c, if_pos c]
      by_cases c2 : (1 : Int32) ≤ irm (nI w) 100 ∧ irm (nI w) 100 ≤ 12
      · rw [if_pos c2, if_pos c2]
        by_cases c3 : (0 : Int32) ≤ a3 ∧ a3 ≤ 99999
        · rw [if_pos c3, if_pos c3]
          rcases ho h a4 with q | ⟨i, hi, rfl, q⟩
          · rw [if_neg q, if_neg q]
            exact ⟨_, _, _, rfl, rfl, hr⟩
          · rw [if_pos q, if_pos q]
            by_cases c5 : (0 : Int32) ≤ a5 ∧ a5 ≤ 1
            · rw [if_pos c5, if_pos c5]
              obtain ⟨z0, t1, t2, t3⟩ := take89 h
              obtain ⟨w0, b1, b2, b3⟩ := aside_loop h (q1 := a1) (q2 := nI w) (q3 := a3) (q4 := nI i) (q5 := a5) (q6 := nI (w / 100)) n 0 NF y (by omega) (by unfold NF; omega) (kM.rf y) (fun j hj => absurd hj (Nat.not_lt_zero j))
              have b1 : LX9_season_71 a1 (nI w) a3 (nI i) a5 (nI (w / 100)) NF 0 y = some w0 := b1
              have s3 : sm a3 99999 := by
                obtain ⟨k, hk, e⟩ := ix_of (n := 100000) (by decide) c3.1 (Int32.lt_of_le_of_lt c3.2 (by decide))
                rw [e]
                exact sm_nI (by omega) (by decide)
              have el : (a3 + 1).toInt64 = a3.toInt64 + 1 := sm_add64 s3 (sm_nI (k := 1) (b := 1) (by decide) (by decide)) (by decide)
              have w13 : 1 ≤ w % 100 ∧ w % 100 ≤ 12 := by
                rw [em] at c2
                exact ⟨(nI_lei (a := 1) (by decide) (by omega)).mp c2.1, (nI_lei (b := 12) (by omega) (by decide)).mp c2.2⟩
              obtain ⟨z1, w1, l1, l2, l3⟩ := days_loop (own := own) (n := n) (r := r) (t := t) (u := u) (A := y.2.1 9) (f := a1) (q4 := nI i) (q5 := a5) (q4' := nI i) (q5' := a5) hw (w % 100) 0 NF NF (a3.toInt64 + 1) (xsF z0 25 (fun _ => 0)) w0 (by omega) (by unfold NF; omega) (by unfold NF; omega) ⟨h.keep (t2.tr (kX.F (by decide))) (kM_to9 b2), fun j hj => by
                show z0.2.1 24 j = _
                rw [t3 j hj]
                exact (congrFun b2.2.2.2 j).symm, fun j hj => (b3 j hj).2.symm, fun j hj => (b3 j hj).1⟩
              have l1 : LX8_season_82 a1 (nI w) (nI i) a5 NF (a3.toInt64 + 1) 0 (xsF z0 25 (fun _ => 0)) = some z1 := l1
              have l2 : LX9_season_117 a1 (nI w) (nI i) a5 (nI (w / 100)) NF (a3.toInt64 + 1) 0 w0 = some w1 := l2
              have fin : ∀ v : Int32, ∃ w2, LX9_season_346 v NF 0 w1 = some w2 ∧ RO own n r t u z1 w2 := by
                intro v
                obtain ⟨w2, g1, g2, g3, g4⟩ := restore_loop (A := y.2.1 9) (q9 := v) (w0 := w1) hn l3.R.H.ey l3.K n 0 NF w1 (by omega) (by unfold NF; omega) rfl (fun _ _ => rfl) (fun j hj => absurd hj (Nat.not_lt_zero j))
                refine ⟨w2, g1, l3.R.lead ⟨fun j _ => by rw [g2]; rfl, fun j hj => ?_⟩ (g3 5 (by decide)) (g3 6 (by decide)) (fun j hj => g4 j hj)⟩
                have : ∀ k, k ∈ ([1, 2, 3, 4, 7, 8, 10, 15, 16, 17, 18, 19, 22, 23, 24, 25, 26, 27, 28, 29] : List Nat) → k ≠ 9 := by decide
                rw [g3 j (this j hj), rs9_ne (this j hj)]
              simp only [t1, Option.bind_some, lt, el, l1, ed, b1, l2, if_pos (ib10 h hi), cln h hi, l3.L i hi, l3.W i hi]
              by_cases c7 : a5 = 0
              · simp only [if_pos c7, Option.bind_some]
                obtain ⟨w2, g1, g2⟩ := fin (w1.2.1 21 i)
                rw [g1]
                exact ⟨_, _, _, rfl, rfl, own, n, r, t, u, g2⟩
              · simp only [if_neg c7, Option.bind_some]
                obtain ⟨w2, g1, g2⟩ := fin (w1.2.1 9 i)
                rw [g1]
                exact ⟨_, _, _, rfl, rfl, own, n, r, t, u, g2⟩
            · rw [if_neg c5, if_neg c5]
              exact ⟨_, _, _, rfl, rfl, hr⟩
        · rw [if_neg c3, if_neg c3]
          exact ⟨_, _, _, rfl, rfl, hr⟩
      · rw [if_neg c2, if_neg c2]
        exact ⟨_, _, _, rfl, rfl, hr⟩
  · rw [e1, e2]
    exact ⟨_, _, _, rfl, rfl, hr⟩
