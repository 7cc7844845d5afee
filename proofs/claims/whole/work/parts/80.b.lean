/-! a text comes in -/
theorem ext_gd {a b : List Int32} (hl : a.length = b.length) (h : ∀ j, j < a.length → a.getD j 0 = b.getD j 0) : a = b := by
  refine List.ext_getElem hl (fun j h1 h2 => ?_)
  have := h j h1
  rwa [List.getD_eq_getElem?_getD, List.getD_eq_getElem?_getD, List.getElem?_eq_getElem h1, List.getElem?_eq_getElem h2, Option.getD_some, Option.getD_some] at this
theorem txc_inj {m : Nat} {f fe : Nat → Int32} {C D : Nat → List Int32} (h : TXc m f fe C) (g : TXc m f fe D) : ∀ q, q < 3 → C q = D q := by
  have hm := h.le
  have l1 := h.len
  have l2 := g.len
  have a1 := h.at'
  have a2 := g.at'
  unfold cat3 at l1 l2 a1 a2
  rw [List.length_append, List.length_append] at l1 l2
  have e0 : (C 0).length = (D 0).length := (nI_eqi (by omega) (by omega)).mp (h.e0.symm.trans g.e0)
  have e1 : (C 0).length + (C 1).length = (D 0).length + (D 1).length := (nI_eqi (by omega) (by omega)).mp (h.e1.symm.trans g.e1)
  have q0 : C 0 = D 0 := ext_gd e0 (fun j hj => by
    have b1 := a1 j (by omega)
    have b2 := a2 j (by omega)
    rw [gd_l hj] at b1
    rw [gd_l (by omega)] at b2
    exact b1.symm.trans b2)
  have q1 : C 1 = D 1 := ext_gd (by omega) (fun j hj => by
    have b1 := a1 ((C 0).length + j) (by omega)
    have b2 := a2 ((D 0).length + j) (by omega)
    rw [gd_r, gd_l hj] at b1
    rw [gd_r, gd_l (by omega), ← e0] at b2
    exact b1.symm.trans b2)
  have q2 : C 2 = D 2 := ext_gd (by omega) (fun j hj => by
    have b1 := a1 ((C 0).length + ((C 1).length + j)) (by omega)
    have b2 := a2 ((D 0).length + ((D 1).length + j)) (by omega)
    rw [gd_r, gd_r] at b1
    rw [gd_r, gd_r, ← e0, show (D 1).length = (C 1).length by omega] at b2
    exact b1.symm.trans b2)
  intro q hq
  have : q = 0 ∨ q = 1 ∨ q = 2 := by omega
  rcases this with rfl | rfl | rfl
  · exact q0
  · exact q1
  · exact q2
theorem rd_inj {x11 x12 : XS} {M : Nat} {C D : Nat → List Int32} (hM : M ≤ 160) (e : mkT x11 = mkT x12) (R : RDt M C x11) (S : RDt M D x12) : ∀ q, q < 3 → C q = D q := by
  obtain ⟨z, ft, fe, a1, -, -, -, a5, a6, a7⟩ := mk_text hM R
  obtain ⟨w, gt, ge, b1, -, -, -, b5, b6, b7⟩ := mk_text hM S
  rw [a1, b1] at e
  have e := Option.some.inj e
  have ep := Option.some.inj (congrArg Prod.fst e)
  have ez : z = w := congrArg Prod.snd e
  subst ez
  have h1 := a6 (x11.2.2.2.2 + 1)
  have h2 := b6 (x11.2.2.2.2 + 1)
  rw [if_neg (by omega), if_pos rfl] at h1
  rw [ep] at h2
  rw [if_neg (by omega), if_pos rfl, ← ep, h1] at h2
  have g1 := a6 (x11.2.2.2.2 + 2)
  have g2 := b6 (x11.2.2.2.2 + 2)
  rw [if_neg (by omega), if_neg (by omega), if_pos rfl] at g1
  rw [ep] at g2
  rw [if_neg (by omega), if_neg (by omega), if_pos rfl, ← ep, g1] at g2
  injection h2 with h2
  injection h2 with h2
  injection h2 with h3 h4
  injection g2 with g2
  injection g2 with g2
  injection g2 with g3 g4
  rw [← h3, ← h4, ← g4] at b7
  exact txc_inj a7 b7
theorem new_txm {f : Nat → Int32} {M i : Nat} {x x11 : XS} {C : Nat → List Int32} {y1 y2 : Nat → Int32} (hM : M ≤ 160) (hf : ∀ i, i < M → 0 ≤ f i) (hi : i < 6) (hx : BX f M x) (e : fX4_read x = mkT x11) (R : RDt M C x11) (h1 : ∀ j, j < M → y1 (160 * i + j) = f j) (h2 : y2 i = nI M) : TXm i y1 y2 C := by
  intro y h l w p g k hh hr1 hr2
  rcases read89 (i := i) (h := h) hM hf hi hx (fun j hj => (hr1 j (by omega)).trans (h1 j hj)) (hr2.trans h2) hh l w p g k with ⟨x12, y', D, a1, a2, a3, a4, a5, a6⟩ | ⟨x', v, y', a1, a2, a3⟩
  · have hq := rd_inj hM (e.symm.trans a1) R a3
    refine ⟨y', ?_, a5, a6⟩
    rw [a4]
    have hk : (if k = 0 then 0 else if k = 1 then 1 else 2) < 3 := by
      split
      · decide
      · split <;> decide
    rw [hq _ hk]
  · exfalso
    obtain ⟨z, ft, fe, b1, -⟩ := mk_text hM R
    rw [e, b1] at a1
    cases a1
theorem TXm.mv {i : Nat} {y1 y2 z1 z2 : Nat → Int32} {C : Nat → List Int32} (h : TXm i y1 y2 C) (h1 : ∀ j, j < 160 → z1 (160 * i + j) = y1 (160 * i + j)) (h2 : z2 i = y2 i) : TXm i z1 z2 C := fun y hh l w p g k q r1 r2 => h y hh l w p g k q (fun j hj => (r1 j hj).trans (h1 j hj)) (r2.trans h2)
theorem RO.txt {own own' : Nat → Nat} {n r t t' u : Nat} {x x' : XS} {y y' : MS} (h : RO own n r t u x y) (xi : ∀ k, k ∈ ([1, 3, 5] : List Nat) → x'.1 0 k = x.1 0 k) (x41 : x'.1 4 1 = 0) (x11 : x'.1 11 = x.1 11) (xr : ∀ k, k ∈ ([2, 12, 13, 14, 15] : List Nat) → x'.2.1 k = x.2.1 k) (xn : ∀ k, k ∈ ([1, 3, 10] : List Nat) → x'.2.2.1 k = x.2.2.1 k) (fr : ∀ a d, x'.2.2.2.1 a = some d → a < x'.2.2.2.2) (hk : ∀ a d, x.2.2.2.1 a = some d → x'.2.2.2.1 a = some d ∧ own' a = own a) (yi : ∀ k, k ∈ ([13, 15, 41, 48, 49, 50, 51, 52] : List Nat) → y'.1 0 k = y.1 0 k) (y6 : y'.1 0 6 = 0) (yr : ∀ k, k ∈ ([4, 5, 6, 7, 8, 9, 10, 15, 16, 17, 18, 19, 22, 23, 24, 25, 26, 27, 28, 29] : List Nat) → y'.2.1 k = y.2.1 k) (tle : t ≤ t') (T : RT own' x'.2.2.2.1 t' u (x'.1 0 9) (y'.1 0 3) (x'.1 0 10) (y'.1 0 4) (x'.2.2.1 9) (y'.2.1 1) (y'.2.1 2)) : RO own' n r t' u x' y' := by
  refine ⟨fr, ?_, ?_, ?_, ?_, ?_, ?_, T⟩
  · rw [xi 1 (by decide), xn 1 (by decide), yi 13 (by decide), yr 4 (by decide), yr 5 (by decide), yr 6 (by decide), yr 7 (by decide), yr 8 (by decide), yr 9 (by decide)]
    exact h.H.mono (fun a d ha _ => hk a d ha)
  · rw [xi 3 (by decide), xr 2 (by decide), yi 15 (by decide), yr 10 (by decide)]; exact h.P
  · rw [xi 5 (by decide), xn 3 (by decide), yi 41 (by decide), yr 15 (by decide), yr 16 (by decide), yr 17 (by decide), yr 18 (by decide), yr 19 (by decide)]
    exact h.R.mono (Nat.le_refl _) (fun a d ha _ _ => hk a d ha)
  · exact ⟨0, by decide, x41, y6, fun i hi => absurd hi (Nat.not_lt_zero i)⟩
  · rw [x11, xr 12 (by decide), xr 13 (by decide), xr 14 (by decide), xr 15 (by decide), yi 48 (by decide), yi 49 (by decide), yi 50 (by decide), yi 51 (by decide), yi 52 (by decide), yr 22 (by decide), yr 23 (by decide), yr 24 (by decide), yr 25 (by decide)]
    refine ⟨h.I.b, ?_⟩
    rcases h.I.k with q | ⟨ih, ir, iu, q1, q2, q3, q⟩
    · exact Or.inl q
    · exact Or.inr ⟨ih, ir, iu, q1, q2, by omega, q⟩
  · rw [xn 10 (by decide), yr 26 (by decide), yr 27 (by decide), yr 28 (by decide), yr 29 (by decide)]
    exact h.S.mono (fun a d ha _ _ => hk a d ha)
theorem text_copy {M t : Nat} {y : MS} (hM : M ≤ 160) (ht : t < 6) (e3 : y.1 0 3 = nI t) (e6 : y.1 0 6 = nI M) : ∀ (k j f : Nat) (w : MS), j + k = M → k < f → w.1 = y.1 → (∀ k, k ≠ 1 → w.2.1 k = y.2.1 k) → (∀ d, w.2.1 1 d = if 160 * t ≤ d ∧ d < 160 * t + j then y.2.1 3 (d - 160 * t) else y.2.1 1 d) → ∃ w', LX9_text_14 f (nI j) w = some w' ∧ w'.1 = y.1 ∧ (∀ k, k ≠ 1 → w'.2.1 k = y.2.1 k) ∧ ∀ d, w'.2.1 1 d = if 160 * t ≤ d ∧ d < 160 * t + M then y.2.1 3 (d - 160 * t) else y.2.1 1 d := by
  intro k
  induction k with
  | zero =>
    intro j f w hk hf h1 h2 h3
    obtain ⟨f, rfl⟩ : ∃ z, f = z + 1 := ⟨f - 1, by omega⟩
    have e : j = M := by omega
    subst e
    refine ⟨w, ?_, h1, h2, h3⟩
    show BX9_text_14 _ (nI j) w = _
    unfold BX9_text_14
    rw [h1, e6, if_pos (Int32.le_refl _)]
  | succ k ih =>
    intro j f w hk hf h1 h2 h3
    obtain ⟨f, rfl⟩ : ∃ z, f = z + 1 := ⟨f - 1, by omega⟩
    have hlt : ¬ nI M ≤ nI j := by
      rw [nI_lei (by omega) (by omega)]
      omega
    have ea : ((160 : Int32) * nI t) + nI j = nI (160 * t + j) := by
      rw [show (160 : Int32) = nI 160 from rfl, nI_ml, nI_ad]
    have hb1 : ib (nI j) 160 := ib_nI (by omega) (by decide)
    have hc1 : (nI j).toNatClampNeg = j := cl_nI (by omega)
    have hb2 : ib (nI (160 * t + j)) 960 := ib_nI (by omega) (by decide)
    have hc2 : (nI (160 * t + j)).toNatClampNeg = 160 * t + j := cl_nI (by omega)
    have r3 : w.2.1 3 = y.2.1 3 := h2 3 (by decide)
    obtain ⟨w', l1, l2, l3, l4⟩ := ih (j + 1) f (msA w 1 (160 * t + j) (y.2.1 3 j)) (by omega) (by omega) h1 (fun k hk => (up2_ne hk).trans (h2 k hk)) (fun d => by
      show (if d = 160 * t + j then y.2.1 3 j else w.2.1 1 d) = _
      rw [h3]
      by_cases q : d = 160 * t + j
      · rw [if_pos q, if_pos (by omega)]
        exact congrArg (y.2.1 3) (by omega)
      · rw [if_neg q]
        by_cases q2 : 160 * t ≤ d ∧ d < 160 * t + j
        · rw [if_pos q2, if_pos (by omega)]
        · rw [if_neg q2, if_neg (by omega)])
    refine ⟨w', ?_, l2, l3, l4⟩
    show BX9_text_14 _ (nI j) w = _
    unfold BX9_text_14
    rw [h1, e6, if_neg hlt, e3, ea]
    simp only [if_pos hb1, if_pos hb2, hc1, hc2, r3, lt, nI_1]
    exact l1
theorem s_text : ST12 Rl := by
  intro x y hr
  obtain ⟨own, n, r, t, u, h⟩ := id hr
  have ht6 := h.T.le
  have htu := h.T.lu
  unfold fX8_text fX9_text
  rw [h.T.ex, h.T.ey]
  by_cases c6 : t = 6
  · subst c6
    rw [if_neg (by decide), if_pos (show nI 6 = 6 from rfl)]
    exact ⟨_, _, _, rfl, rfl, hr⟩
  · have l6 : nI t < 6 := (nI_lti (b := 6) (by omega) (by decide)).mpr (by omega)
    have n6 : ¬ nI t = 6 := by
      rw [show (6 : Int32) = nI 6 from rfl, nI_eqi (by omega) (by decide)]
      exact c6
    rw [if_pos l6, if_neg n6]
    obtain ⟨M, hM, m1, m2, m3⟩ := h.A.ex
    obtain ⟨w', w1, w2, w3, w4⟩ := text_copy (t := t) hM (by omega) h.T.ey m2 M 0 NF y (by omega) (by unfold NF; omega) rfl (fun _ _ => rfl) (fun d => by rw [if_neg (by omega)])
    have w1 : LX9_text_14 NF 0 y = some w' := w1
    have hbt : ib (nI t) 6 := ib_nI (by omega) (by decide)
    have hct : (nI t).toNatClampNeg = t := cl_nI (by omega)
    have e3 : w'.1 0 3 = nI t := by rw [w2]; exact h.T.ey
    have e6 : w'.1 0 6 = nI M := by rw [w2]; exact m2
    have e3' : (msS (msA w' 2 t (nI M)) 0 6 0).1 0 3 = nI t := e3
    obtain ⟨y8, ey8⟩ : ∃ y8, y8 = msS (msA w' 2 t (nI M)) 0 6 0 := ⟨_, rfl⟩
    have y8r1 : ∀ d, y8.2.1 1 d = if 160 * t ≤ d ∧ d < 160 * t + M then y.2.1 3 (d - 160 * t) else y.2.1 1 d := by
      intro d
      rw [ey8]
      exact w4 d
    have y8r2 : ∀ d, y8.2.1 2 d = if d = t then nI M else y.2.1 2 d := by
      intro d
      rw [ey8]
      show (if d = t then nI M else w'.2.1 2 d) = _
      rw [w3 2 (by decide)]
    have y8ro : ∀ k, k ≠ 1 → k ≠ 2 → y8.2.1 k = y.2.1 k := by
      intro k q1 q2
      rw [ey8]
      show up2 w'.2.1 2 t _ k = _
      rw [up2_ne q2, w3 k q1]
    have y8i : ∀ j, j ≠ 6 → y8.1 0 j = y.1 0 j := by
      intro j hj
      rw [ey8]
      show (if j = 6 then (0 : Int32) else w'.1 0 j) = _
      rw [if_neg hj, w2]
    have y86 : y8.1 0 6 = 0 := by rw [ey8]; rfl
    have hx : BX (x.2.1 5) M x := ⟨m1, fun _ _ => rfl⟩
    have hf : ∀ i, i < M → 0 ≤ x.2.1 5 i := fun i hi => by
      rw [(m3 i hi).1]
      exact (m3 i hi).2.1
    have r1 : ∀ j, j < M → y8.2.1 1 (160 * t + j) = x.2.1 5 j := fun j hj => by
      rw [y8r1, if_pos (by omega), Nat.add_sub_cancel_left]
      exact (m3 j hj).1.symm
    have r2 : y8.2.1 2 t = nI M := by rw [y8r2, if_pos rfl]
    -- the texts that were there
    have old : ∀ i, i < t → (∀ C, TXm i (y.2.1 1) (y.2.1 2) C → TXm i (y8.2.1 1) (y8.2.1 2) C) := fun i hi C hC => hC.mv (fun j hj => by rw [y8r1, if_neg (by omega)]) (by rw [y8r2, if_neg (by omega)])
    rcases read89 (h := 0) (i := t) (y := y8) hM hf (by omega) hx r1 r2 (by decide) 0 0 0 0 0 with ⟨x11, y', C, a1, a2, a3, a4, a5, a6⟩ | ⟨x', v, y', a1, a2, a3, a4, a5, a6⟩
    · obtain ⟨z, ft, fe, b1, b2, b3, b4, b5, b6, b7⟩ := mk_text hM a3
      have a4 : fX9_read y8 (nI t) 0 0 0 0 0 0 = some (_, y') := a4
      have sp : x11.2.2.2.2 = x.2.2.2.2 := by rw [a2.2.2.2]
      have hp : x11.2.2.2.1 = x.2.2.2.1 := by rw [a2.2.2.2]
      have zt : z.1 0 9 = nI t := by
        rw [b2, a2.1 0 (by decide) (by decide)]
        exact h.T.ex
      have zp : z.2.2.2.1 x11.2.2.2.2 = some (.inl (7, [.ref (x11.2.2.2.2 + 1), .ref (x11.2.2.2.2 + 2), .ref (x11.2.2.2.2 + 3), .int 0])) := by rw [b6, if_pos rfl]
      have xs9 : ∀ (z : XS) (v : Int32), (xsS z 0 9 v).1 0 9 = v := fun z v => by
        show (if (0 : Nat) = 0 then (fun q => if q = 9 then v else z.1 0 q) else z.1 0) 9 = v
        simp
      have ms3 : ∀ (z : MS) (v : Int32), (msS z 0 3 v).1 0 3 = v := fun z v => by
        show (if (0 : Nat) = 0 then (fun q => if q = 3 then v else z.1 0 q) else z.1 0) 3 = v
        simp
      have y't : y'.1 0 3 = nI t := by
        rw [a5.ints 3 (by decide), y8i 3 (by decide)]
        exact h.T.ey
      have c8 : (bind2 (fX4_read x) fun v1 x2 => lt (x2.1 4 2) fun v4 => Option.bind (fX6_clear x2) fun x5 => oc v1 (some ((-100) - v4, x5)) (fun p7 => if ib (x5.1 0 9) 6 then if dK x5 p7 7 = true then lt (xsR x5 9 (x5.1 0 9).toNatClampNeg (some p7)) fun x9 => lt (xsS x9 0 9 ((x9.1 0 9) + 1)) fun x11 => some ((x11.1 0 9) - 1, x11) else none else none)) = some (nI t, xsS (xsR (xsS z 4 1 0) 9 t (some x11.2.2.2.2)) 0 9 (nI (t + 1))) := by
        have f1 : (xsS z 4 1 0).1 0 9 = nI t := zt
        have f2 : ∀ v, (xsR (xsS z 4 1 0) 9 t v).1 0 9 = nI t := fun _ => zt
        have f3 : dK (xsS z 4 1 0) x11.2.2.2.2 7 = true := dK_o zp
        rw [a1, b1]
        simp only [bind2, lt, fX6_clear, Option.bind_some, oc, f1, if_pos hbt, hct, f2, f3, if_true, xs9, nI_1, nI_pred]
      have c9 : (Option.bind (LX9_text_14 NF 0 y) fun x5 => if ib (x5.1 0 3) 6 then lt (msA x5 2 (x5.1 0 3).toNatClampNeg (x5.1 0 6)) fun x7 => lt (msS x7 0 6 0) fun x8 => bind2 (fX9_read x8 (x8.1 0 3) 0 0 0 0 0 0) fun v9 x10 => if (x10.1 0 29) = 0 then lt (msS x10 0 3 ((x10.1 0 3) + 1)) fun x12 => some ((x12.1 0 3) - 1, x12) else some ((-100) - (x10.1 0 30), x10) else none) = some (nI t, msS y' 0 3 (nI (t + 1))) := by
        rw [w1, Option.bind_some, e3, e6]
        simp only [if_pos hbt, hct, lt, e3']
        rw [← ey8, a4]
        simp only [bind2, if_pos a6, y't, ms3, nI_1, nI_pred]
      rw [c8, c9]
      refine ⟨nI t, _, _, rfl, rfl, fun a => if a = x11.2.2.2.2 then 400 + t else if a = x11.2.2.2.2 + 1 then 500 + t else if a = x11.2.2.2.2 + 2 then 600 + t else if a = x11.2.2.2.2 + 3 then 700 + t else own a, n, r, t + 1, u, ?_⟩
      have hk : ∀ a d, x.2.2.2.1 a = some d → z.2.2.2.1 a = some d ∧ (if a = x11.2.2.2.2 then 400 + t else if a = x11.2.2.2.2 + 1 then 500 + t else if a = x11.2.2.2.2 + 2 then 600 + t else if a = x11.2.2.2.2 + 3 then 700 + t else own a) = own a := by
        intro a d ha
        have := h.fr a d ha
        rw [b6, if_neg (by omega), if_neg (by omega), if_neg (by omega), if_neg (by omega), if_neg (by omega), if_neg (by omega), if_neg (by omega), if_neg (by omega), hp]
        exact ⟨ha, rfl⟩
      refine h.txt (fun k hk2 => ?_) ?_ ?_ (fun k hk2 => ?_) (fun k hk2 => ?_) (fun a d ha => ?_) hk (fun k hk2 => ?_) ?_ (fun k hk2 => ?_) (Nat.le_succ t) ?_
      · show (if k = 9 then _ else z.1 0 k) = _
        rw [if_neg (ne_in (A := [9]) (by decide) hk2 (by decide)), b2, a2.1 0 (by decide) (by decide)]
      · rfl
      · show z.1 11 = _
        rw [b2]
        exact a2.1 11 (by decide) (by decide)
      · show z.2.1 k = _
        rw [b3]
        exact a2.2.2.1 k (ne_in (A := [7]) (by decide) hk2 (by decide)) (ne_in (A := [8]) (by decide) hk2 (by decide))
      · show up2 z.2.2.1 9 t _ k = _
        rw [up2_ne (ne_in (A := [9]) (by decide) hk2 (by decide)), b4, a2.2.2.2]
      · show a < z.2.2.2.2
        have ha : z.2.2.2.1 a = some d := ha
        rw [b5, sp]
        rw [b6] at ha
        by_cases q : a = x11.2.2.2.2
        · omega
        · by_cases q1 : a = x11.2.2.2.2 + 1
          · omega
          · by_cases q2 : a = x11.2.2.2.2 + 2
            · omega
            · by_cases q3 : a = x11.2.2.2.2 + 3
              · omega
              · rw [if_neg q, if_neg q1, if_neg q2, if_neg q3, hp] at ha
                have := h.fr a d ha
                omega
      · show (if k = 3 then _ else y'.1 0 k) = _
        have hd : ∀ k, k ∈ ([13, 15, 41, 48, 49, 50, 51, 52] : List Nat) → k ≠ 3 ∧ k ≠ 6 ∧ (k < 22 ∨ 35 < k) := by decide
        obtain ⟨d1, d2, d3⟩ := hd k hk2
        rw [if_neg d1, a5.ints k d3, y8i k d2]
      · show y'.1 0 6 = 0
        rw [a5.ints 6 (by decide), y86]
      · show y'.2.1 k = _
        rw [a5.rows]
        exact y8ro k (ne_in (A := [1]) (by decide) hk2 (by decide)) (ne_in (A := [2]) (by decide) hk2 (by decide))
      · refine ⟨by omega, by omega, by omega, rfl, rfl, ?_, ?_, fun i hi => ?_⟩
        · show z.1 0 10 = _
          rw [b2, a2.1 0 (by decide) (by decide)]
          exact h.T.eu
        · show y'.1 0 4 = _
          rw [a5.ints 4 (by decide), y8i 4 (by decide)]
          exact h.T.ev
        · have yr1 : (msS y' 0 3 (nI (t + 1))).2.1 1 = y8.2.1 1 := by
            show y'.2.1 1 = _
            rw [a5.rows]
          have yr2 : (msS y' 0 3 (nI (t + 1))).2.1 2 = y8.2.1 2 := by
            show y'.2.1 2 = _
            rw [a5.rows]
          rw [yr1, yr2]
          show ∃ (a ac ae aw : Nat) (d : Int32) (m : Nat) (f fe fw : Nat → Int32) (C : Nat → List Int32), (if i = t then some x11.2.2.2.2 else z.2.2.1 9 i) = some a ∧ (if a = x11.2.2.2.2 then 400 + t else if a = x11.2.2.2.2 + 1 then 500 + t else if a = x11.2.2.2.2 + 2 then 600 + t else if a = x11.2.2.2.2 + 3 then 700 + t else own a) = 400 + i ∧ (if ac = x11.2.2.2.2 then 400 + t else if ac = x11.2.2.2.2 + 1 then 500 + t else if ac = x11.2.2.2.2 + 2 then 600 + t else if ac = x11.2.2.2.2 + 3 then 700 + t else own ac) = 500 + i ∧ (if ae = x11.2.2.2.2 then 400 + t else if ae = x11.2.2.2.2 + 1 then 500 + t else if ae = x11.2.2.2.2 + 2 then 600 + t else if ae = x11.2.2.2.2 + 3 then 700 + t else own ae) = 600 + i ∧ (if aw = x11.2.2.2.2 then 400 + t else if aw = x11.2.2.2.2 + 1 then 500 + t else if aw = x11.2.2.2.2 + 2 then 600 + t else if aw = x11.2.2.2.2 + 3 then 700 + t else own aw) = 700 + i ∧ z.2.2.2.1 a = some (.inl (7, [.ref ac, .ref ae, .ref aw, .int d])) ∧ z.2.2.2.1 ac = some (.inr (m, f)) ∧ z.2.2.2.1 ae = some (.inr (3, fe)) ∧ z.2.2.2.1 aw = some (.inr (40, fw)) ∧ TXc m f fe C ∧ TXm i (y8.2.1 1) (y8.2.1 2) C
          by_cases q : i = t
          · subst q
            refine ⟨x11.2.2.2.2, x11.2.2.2.2 + 1, x11.2.2.2.2 + 2, x11.2.2.2.2 + 3, 0, (cat3 C).length, ft, fe, fun _ => 0, C, if_pos rfl, if_pos rfl, ?_, ?_, ?_, zp, ?_, ?_, ?_, b7, new_txm hM hf (by omega) hx a1 a3 r1 r2⟩
            · rw [if_neg (by omega), if_pos rfl]
            · rw [if_neg (by omega), if_neg (by omega), if_pos rfl]
            · rw [if_neg (by omega), if_neg (by omega), if_neg (by omega), if_pos rfl]
            · rw [b6, if_neg (by omega), if_pos rfl]
            · rw [b6, if_neg (by omega), if_neg (by omega), if_pos rfl]
            · rw [b6, if_neg (by omega), if_neg (by omega), if_neg (by omega), if_pos rfl]
          · obtain ⟨a, ac, ae, aw, d, m, f, fe', fw, C', t1, t2, t3, t4, t5, t6, t7, t8, t9, t10, t11⟩ := h.T.at' i (by omega)
            obtain ⟨g1, g2⟩ := hk a _ t6
            obtain ⟨g3, g4⟩ := hk ac _ t7
            obtain ⟨g5, g6⟩ := hk ae _ t8
            obtain ⟨g7, g8⟩ := hk aw _ t9
            refine ⟨a, ac, ae, aw, d, m, f, fe', fw, C', ?_, g2.trans t2, g4.trans t3, g6.trans t4, g8.trans t5, g1, g3, g5, g7, t10, old i (by omega) C' t11⟩
            rw [if_neg q, b4, a2.2.2.2]
            exact t1
    · have a3 : fX9_read y8 (nI t) 0 0 0 0 0 0 = some (v, y') := a3
      have nb : ¬ y'.1 0 29 = 0 := by rw [a5]; decide
      have c8 : (bind2 (fX4_read x) fun v1 x2 => lt (x2.1 4 2) fun v4 => Option.bind (fX6_clear x2) fun x5 => oc v1 (some ((-100) - v4, x5)) (fun p7 => if ib (x5.1 0 9) 6 then if dK x5 p7 7 = true then lt (xsR x5 9 (x5.1 0 9).toNatClampNeg (some p7)) fun x9 => lt (xsS x9 0 9 ((x9.1 0 9) + 1)) fun x11 => some ((x11.1 0 9) - 1, x11) else none else none)) = some (-100 - x'.1 4 2, xsS x' 4 1 0) := by
        rw [a1]
        rfl
      have c9 : (Option.bind (LX9_text_14 NF 0 y) fun x5 => if ib (x5.1 0 3) 6 then lt (msA x5 2 (x5.1 0 3).toNatClampNeg (x5.1 0 6)) fun x7 => lt (msS x7 0 6 0) fun x8 => bind2 (fX9_read x8 (x8.1 0 3) 0 0 0 0 0 0) fun v9 x10 => if (x10.1 0 29) = 0 then lt (msS x10 0 3 ((x10.1 0 3) + 1)) fun x12 => some ((x12.1 0 3) - 1, x12) else some ((-100) - (x10.1 0 30), x10) else none) = some (-100 - x'.1 4 2, y') := by
        rw [w1, Option.bind_some, e3, e6]
        simp only [if_pos hbt, hct, lt, e3']
        rw [← ey8, a3]
        simp only [bind2, if_neg nb, a6]
      rw [c8, c9]
      refine ⟨_, _, _, rfl, rfl, own, n, r, t, u, ?_⟩
      refine h.txt (fun k hk2 => ?_) rfl ?_ (fun k hk2 => ?_) (fun k hk2 => ?_) (fun a d ha => ?_) (fun a d ha => ⟨?_, rfl⟩) (fun k hk2 => ?_) ?_ (fun k hk2 => ?_) (Nat.le_refl t) ?_
      · show x'.1 0 k = _
        rw [a2.1 0 (by decide) (by decide)]
      · show x'.1 11 = _
        exact a2.1 11 (by decide) (by decide)
      · exact a2.2.2.1 k (ne_in (A := [7]) (by decide) hk2 (by decide)) (ne_in (A := [8]) (by decide) hk2 (by decide))
      · show x'.2.2.1 k = _
        rw [a2.2.2.2]
      · have ha : x'.2.2.2.1 a = some d := ha
        show a < x'.2.2.2.2
        rw [a2.2.2.2] at ha ⊢
        exact h.fr a d ha
      · show x'.2.2.2.1 a = some d
        rw [a2.2.2.2]
        exact ha
      · have hd : ∀ k, k ∈ ([13, 15, 41, 48, 49, 50, 51, 52] : List Nat) → k ≠ 6 ∧ (k < 22 ∨ 35 < k) := by decide
        obtain ⟨d2, d3⟩ := hd k hk2
        rw [a4.ints k d3, y8i k d2]
      · rw [a4.ints 6 (by decide), y86]
      · rw [a4.rows]
        exact y8ro k (ne_in (A := [1]) (by decide) hk2 (by decide)) (ne_in (A := [2]) (by decide) hk2 (by decide))
      · refine ⟨h.T.l1, h.T.le, h.T.lu, ?_, ?_, ?_, ?_, fun i hi => ?_⟩
        · show x'.1 0 9 = _
          rw [a2.1 0 (by decide) (by decide)]
          exact h.T.ex
        · rw [a4.ints 3 (by decide), y8i 3 (by decide)]
          exact h.T.ey
        · show x'.1 0 10 = _
          rw [a2.1 0 (by decide) (by decide)]
          exact h.T.eu
        · rw [a4.ints 4 (by decide), y8i 4 (by decide)]
          exact h.T.ev
        · obtain ⟨a, ac, ae, aw, d, m, f, fe', fw, C', t1, t2, t3, t4, t5, t6, t7, t8, t9, t10, t11⟩ := h.T.at' i hi
          rw [a4.rows]
          show ∃ (a ac ae aw : Nat) (d : Int32) (m : Nat) (f fe fw : Nat → Int32) (C : Nat → List Int32), x'.2.2.1 9 i = some a ∧ own a = 400 + i ∧ own ac = 500 + i ∧ own ae = 600 + i ∧ own aw = 700 + i ∧ x'.2.2.2.1 a = some (.inl (7, [.ref ac, .ref ae, .ref aw, .int d])) ∧ x'.2.2.2.1 ac = some (.inr (m, f)) ∧ x'.2.2.2.1 ae = some (.inr (3, fe)) ∧ x'.2.2.2.1 aw = some (.inr (40, fw)) ∧ TXc m f fe C ∧ TXm i (y8.2.1 1) (y8.2.1 2) C
          rw [a2.2.2.2]
          exact ⟨a, ac, ae, aw, d, m, f, fe', fw, C', t1, t2, t3, t4, t5, t6, t7, t8, t9, t10, old i hi C' t11⟩
