/-! sheets -/
theorem RO.sheets {own own' : Nat → Nat} {n r t u : Nat} {x x' : XS} {y y' : MS} (h : RO own n r t u x y) (xi : x'.1 = x.1) (xa : x'.2.1 = x.2.1) (xr : ∀ k, k ∈ ([1, 3, 9] : List Nat) → x'.2.2.1 k = x.2.2.1 k) (fr : ∀ a d, x'.2.2.2.1 a = some d → a < x'.2.2.2.2) (hk : ∀ a d, x.2.2.2.1 a = some d → own a < 800 → x'.2.2.2.1 a = some d ∧ own' a = own a) (yi : y'.1 = y.1) (yr : ∀ k, k ∈ ([1, 2, 3, 4, 5, 6, 7, 8, 9, 10, 15, 16, 17, 18, 19, 22, 23, 24, 25] : List Nat) → y'.2.1 k = y.2.1 k) (S : RS own' x'.2.2.2.1 (x'.2.2.1 10) (y'.2.1 26) (y'.2.1 27) (y'.2.1 28) (y'.2.1 29)) : RO own' n r t u x' y' := by
  refine ⟨fr, ?_, ?_, ?_, ?_, ?_, S, ?_⟩
  · rw [xi, yi, xr 1 (by decide), yr 4 (by decide), yr 5 (by decide), yr 6 (by decide), yr 7 (by decide), yr 8 (by decide), yr 9 (by decide)]
    exact h.H.mono (fun a d ha _ => hk a d ha (by omega))
  · rw [xi, yi, xa, yr 10 (by decide)]; exact h.P
  · rw [xi, yi, xr 3 (by decide), yr 15 (by decide), yr 16 (by decide), yr 17 (by decide), yr 18 (by decide), yr 19 (by decide)]
    exact h.R.mono (Nat.le_refl _) (fun a d ha _ _ => hk a d ha (by omega))
  · rw [xi, yi, xa, yr 3 (by decide)]; exact h.A
  · rw [xi, yi, xa, yr 22 (by decide), yr 23 (by decide), yr 24 (by decide), yr 25 (by decide)]; exact h.I
  · rw [xi, yi, xr 9 (by decide), yr 1 (by decide), yr 2 (by decide)]
    exact h.T.mono (fun a d ha _ _ => hk a d ha (by omega))
theorem sh8 (g : Int32) : fX8_isSheet g = some (decide (0 ≤ g ∧ g ≤ 3)) := by
  unfold fX8_isSheet
  rw [in8]
  rfl
theorem sh9 (g : Int32) : fX9_isSheet g = some (decide (0 ≤ g ∧ g ≤ 3)) := by
  unfold fX9_isSheet
  rw [in9i (lo := 0) (hi := 3) (l := 0) (h := 3) rfl rfl]
  rfl
theorem of4 (a : Int32) : (¬ (0 ≤ a ∧ a ≤ 3)) ∨ ∃ s, s < 4 ∧ a = nI s ∧ (0 ≤ nI s ∧ nI s ≤ 3) ∧ ib (nI s) 4 ∧ (nI s).toNatClampNeg = s := by
  by_cases c : 0 ≤ a ∧ a ≤ 3
  · obtain ⟨i, hi, rfl⟩ := ix_of (n := 4) (by decide) c.1 (Int32.lt_of_le_of_lt c.2 (by decide))
    exact Or.inr ⟨i, hi, rfl, c, ib_nI hi (by decide), cl_nI (by omega)⟩
  · exact Or.inl c
theorem at40 (s i : Nat) : ((40 : Int32) * nI s) + nI i = nI (40 * s + i) := by
  rw [show (40 : Int32) = nI 40 from rfl, nI_ml, nI_ad]
theorem s_cell : ST26 Rl := by
  intro x y a1 a2 a3 hr
  obtain ⟨own, n, r, t, u, h⟩ := id hr
  unfold fX8_cell fX9_cell
  rw [sh8, sh9]
  simp only [Option.bind_some, decide_eq_true_eq]
  rcases of4 a1 with c | ⟨s, hs, rfl, c, hb, hc⟩
  · rw [if_neg c, if_neg c]
    exact ⟨_, _, _, rfl, rfl, hr⟩
  · simp only [if_pos c, if_pos hb, hc, lt]
    rcases h.S.at' s hs with ⟨q1, q2⟩ | ⟨q1, a, ai, m, f, q2, q3, q4, q5, q6, q7, q8, q9, q10, q11⟩
    · rw [if_pos q1, q2]
      exact ⟨_, _, _, rfl, rfl, hr⟩
    · rw [if_neg (by rw [q1]; decide), q2, q8, in9i (lo := 0) (hi := nI m - 1) (l := 0) rfl rfl]
      simp only [oc, dP_o (k := 1) q5 rfl, Option.bind_some, dLen_o q6, in8, decide_eq_true_eq, dK_o q5, if_true]
      show ∃ r x' y', (if 0 ≤ a2 ∧ a2 ≤ nI m - 1 then _ else _) = _ ∧ _
      by_cases c2 : 0 ≤ a2 ∧ a2 ≤ nI m - 1
      · obtain ⟨i, hi, rfl⟩ := pred_nI (by omega) c2
        have e1 : ∃ v, fX5_narrowed x a a3 = some v ∧ v = if y.2.1 27 s = 0 then a3.toInt8.toInt32 else if y.2.1 27 s = 1 then a3.toInt16.toInt32 else a3 := by
          unfold fX5_narrowed
          simp only [dI_o (k := 0) q5 rfl, Option.bind_some]
          repeat' split
          all_goals exact ⟨_, rfl, rfl⟩
        obtain ⟨v, e1, ev⟩ := e1
        have hx : dAs x ai (nI i) v = some (xsD x ai (.inr (m, upd f i v))) := by
          rw [dAs_o q6 (ib_nI hi (by omega)), cl_nI (by omega)]
        have hb2 : ib (nI (40 * s + i)) 160 := ib_nI (by omega) (by decide)
        have hc2 : (nI (40 * s + i)).toNatClampNeg = 40 * s + i := cl_nI (by omega)
        have ey : (if y.2.1 27 s = 0 then if ib (nI (40 * s + i)) 160 then some ((1 : Int32), msA y 29 (40 * s + i) a3.toInt8.toInt32) else none else if y.2.1 27 s = 1 then if ib (nI (40 * s + i)) 160 then some (1, msA y 29 (40 * s + i) a3.toInt16.toInt32) else none else if ib (nI (40 * s + i)) 160 then some (1, msA y 29 (40 * s + i) a3) else none) = some (1, msA y 29 (40 * s + i) v) := by
          rw [ev]
          simp only [if_pos hb2]
          repeat' split
          all_goals rfl
        simp only [if_pos c2, e1, Option.bind_some, hx, at40, hc2]
        refine ⟨1, _, _, rfl, ey, own, n, r, t, u, ?_⟩
        refine h.sheets (own' := own) rfl rfl (fun _ _ => rfl) (fun b d hb3 => ?_) (fun b d hb3 hlt => ?_) rfl (fun k hk => up2_ne (ne_in (A := [29]) (by decide) hk (by decide))) ?_
        · have hb4 : (if b = ai then some (.inr (m, upd f i v)) else x.2.2.2.1 b) = some d := hb3
          by_cases q : b = ai
          · rw [q]; exact h.fr ai _ q6
          · rw [if_neg q] at hb4
            exact h.fr b d hb4
        · refine ⟨?_, rfl⟩
          show (if b = ai then _ else x.2.2.2.1 b) = some d
          rw [if_neg (by rintro rfl; omega)]
          exact hb3
        · intro s' hs'
          rcases h.S.at' s' hs' with w | ⟨p1, b, bi, m', f', p2, p3, p4, p5, p6, p7, p8, p9, p10, p11⟩
          · exact Or.inl w
          · refine Or.inr ⟨p1, b, bi, m', (if s' = s then upd f i v else f'), p2, p3, p4, ?_, ?_, p7, p8, p9, p10, fun k hk => ?_⟩
            · show (if b = ai then _ else x.2.2.2.1 b) = _
              rw [if_neg (by rintro rfl; omega)]
              exact p5
            · show (if bi = ai then some (.inr (m, upd f i v)) else x.2.2.2.1 bi) = _
              by_cases q : s' = s
              · subst q
                have e1 : b = a := Option.some.inj (p2.symm.trans q2)
                subst e1
                have e2 := p5.symm.trans q5
                injection e2 with e2
                injection e2 with e2
                injection e2 with _ e2
                injection e2 with _ e2
                injection e2 with e2 _
                injection e2 with e2
                subst e2
                have e3 := p6.symm.trans q6
                injection e3 with e3
                injection e3 with e3
                injection e3 with e3 _
                rw [if_pos rfl, if_pos rfl, e3]
              · rw [if_neg (by rintro rfl; omega), if_neg q]
                exact p6
            · show (if s' = s then upd f i v else f') k = (if 40 * s' + k = 40 * s + i then v else y.2.1 29 (40 * s' + k))
              by_cases q : s' = s
              · subst q
                have e1 : b = a := Option.some.inj (p2.symm.trans q2)
                subst e1
                have e2 := p5.symm.trans q5
                injection e2 with e2
                injection e2 with e2
                injection e2 with _ e2
                injection e2 with _ e2
                injection e2 with e2 _
                injection e2 with e2
                subst e2
                have e3 := p6.symm.trans q6
                injection e3 with e3
                injection e3 with e3
                injection e3 with e3 _
                rw [if_pos rfl]
                unfold upd
                by_cases q2 : k = i
                · rw [if_pos q2, if_pos (by omega)]
                · rw [if_neg q2, if_neg (by omega)]
                  exact q11 k (by omega)
              · rw [if_neg q, if_neg (by omega)]
                exact p11 k hk
      · simp only [if_neg c2]
        exact ⟨_, _, _, rfl, rfl, hr⟩
