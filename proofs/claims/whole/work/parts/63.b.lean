/-! a race is told -/
theorem xs_ext {A B : XS} (h1 : A.1 = B.1) (h2 : A.2.1 = B.2.1) (h3 : A.2.2.1 = B.2.2.1) (h4 : A.2.2.2.1 = B.2.2.2.1) (h5 : A.2.2.2.2 = B.2.2.2.2) : A = B := by
  obtain ⟨a1, a2, a3, a4, a5⟩ := A
  obtain ⟨b1, b2, b3, b4, b5⟩ := B
  change a1 = b1 at h1
  change a2 = b2 at h2
  change a3 = b3 at h3
  change a4 = b4 at h4
  change a5 = b5 at h5
  rw [h1, h2, h3, h4, h5]
def rcH (x : XS) (p : Nat) (g d : Int32) (s : Nat) (fo fl : Nat → Int32) : Nat → Option DE := fun a => if a = p then some (.inl (3, [.int g, .int d, .int (nI s), .ref (p + 1), .ref (p + 2)])) else if a = p + 1 then some (.inr (5, fo)) else if a = p + 2 then some (.inr (5, fl)) else x.2.2.2.1 a
def RZ (x : XS) (p : Nat) (g d : Int32) (s : Nat) (fo fl : Nat → Int32) : XS := (x.1, x.2.1, x.2.2.1, rcH x p g d s fo fl, p + 3)
section RACE
variable {own : Nat → Nat} {n r t u : Nat} {x : XS} {y : MS}
theorem RO.ext (h : RO own n r t u x y) {z : XS} (e1 : z.1 = x.1) (e2 : z.2.1 = x.2.1) (e3 : z.2.2.1 = x.2.2.1) (hk : ∀ a d, x.2.2.2.1 a = some d → z.2.2.2.1 a = some d) (fr : ∀ a d, z.2.2.2.1 a = some d → a < z.2.2.2.2) : RO own n r t u z y := by
  refine ⟨fr, ?_, ?_, ?_, ?_, ?_, ?_, ?_⟩
  · rw [e1, e3]; exact h.H.mono (fun a d ha _ => ⟨hk a d ha, rfl⟩)
  · rw [e1, e2]; exact h.P
  · rw [e1, e3]; exact h.R.mono (Nat.le_refl _) (fun a d ha _ _ => ⟨hk a d ha, rfl⟩)
  · rw [e1, e2]; exact h.A
  · rw [e1, e2]; exact h.I
  · rw [e3]; exact h.S.mono (fun a d ha _ _ => ⟨hk a d ha, rfl⟩)
  · rw [e1, e3]; exact h.T.mono (fun a d ha _ _ => ⟨hk a d ha, rfl⟩)
theorem RO.rz (h : RO own n r t u x y) (g d : Int32) (s : Nat) (fo fl : Nat → Int32) : RO own n r t u (RZ x x.2.2.2.2 g d s fo fl) y := by
  refine h.ext rfl rfl rfl (fun a e ha => ?_) (fun a e ha => ?_)
  · have := h.fr a e ha
    show (if a = x.2.2.2.2 then _ else if a = x.2.2.2.2 + 1 then _ else if a = x.2.2.2.2 + 2 then _ else x.2.2.2.1 a) = _
    rw [if_neg (by omega), if_neg (by omega), if_neg (by omega)]
    exact ha
  · show a < x.2.2.2.2 + 3
    have ha : (if a = x.2.2.2.2 then some (.inl (3, [.int g, .int d, .int (nI s), .ref (x.2.2.2.2 + 1), .ref (x.2.2.2.2 + 2)])) else if a = x.2.2.2.2 + 1 then some (.inr (5, fo)) else if a = x.2.2.2.2 + 2 then some (.inr (5, fl)) else x.2.2.2.1 a) = some e := ha
    by_cases q : a = x.2.2.2.2
    · omega
    · rw [if_neg q] at ha
      by_cases q1 : a = x.2.2.2.2 + 1
      · omega
      · rw [if_neg q1] at ha
        by_cases q2 : a = x.2.2.2.2 + 2
        · omega
        · rw [if_neg q2] at ha
          have := h.fr a e ha
          omega
theorem rz_p {p : Nat} {g d : Int32} {s : Nat} {fo fl : Nat → Int32} : (RZ x p g d s fo fl).2.2.2.1 p = some (.inl (3, [.int g, .int d, .int (nI s), .ref (p + 1), .ref (p + 2)])) := if_pos rfl
theorem rz_o {p : Nat} {g d : Int32} {s : Nat} {fo fl : Nat → Int32} : (RZ x p g d s fo fl).2.2.2.1 (p + 1) = some (.inr (5, fo)) := by
  show (if p + 1 = p then _ else if p + 1 = p + 1 then _ else _) = _
  rw [if_neg (by omega), if_pos rfl]
theorem rz_l {p : Nat} {g d : Int32} {s : Nat} {fo fl : Nat → Int32} : (RZ x p g d s fo fl).2.2.2.1 (p + 2) = some (.inr (5, fl)) := by
  show (if p + 2 = p then _ else if p + 2 = p + 1 then _ else if p + 2 = p + 2 then _ else _) = _
  rw [if_neg (by omega), if_neg (by omega), if_pos rfl]
theorem rz_so {p : Nat} {g d : Int32} {s : Nat} {fo fl fo' : Nat → Int32} : xsD (RZ x p g d s fo fl) (p + 1) (.inr (5, fo')) = RZ x p g d s fo' fl := by
  refine xs_ext rfl rfl rfl ?_ rfl
  funext a
  show (if a = p + 1 then (some (Sum.inr (5, fo')) : Option DE) else if a = p then _ else if a = p + 1 then _ else if a = p + 2 then _ else _) = (if a = p then _ else if a = p + 1 then _ else if a = p + 2 then _ else _)
  by_cases q : a = p + 1
  · rw [if_pos q, if_neg (by omega), if_pos q]
  · rw [if_neg q, if_neg q, if_neg q]
theorem rz_sl {p : Nat} {g d : Int32} {s : Nat} {fo fl fl' : Nat → Int32} : xsD (RZ x p g d s fo fl) (p + 2) (.inr (5, fl')) = RZ x p g d s fo fl' := by
  refine xs_ext rfl rfl rfl ?_ rfl
  funext a
  show (if a = p + 2 then (some (Sum.inr (5, fl')) : Option DE) else if a = p then _ else if a = p + 1 then _ else if a = p + 2 then _ else _) = (if a = p then _ else if a = p + 1 then _ else if a = p + 2 then _ else _)
  by_cases q : a = p + 2
  · rw [if_pos q, if_neg (by omega), if_neg (by omega), if_pos q]
  · rw [if_neg q, if_neg q, if_neg q]
theorem ra_init (x : XS) (g d : Int32) {s : Nat} (hs : s ≤ 5) : fX3_init (xsN x (.inl (3, [.int 0, .int 0, .int 0, .null, .null]))) x.2.2.2.2 g d (nI s) = some (RZ x x.2.2.2.2 g d s (fun _ => 0) (fun _ => 0)) := by
  have im : imin (nI s) 5 = nI s := by
    show (if 5 < nI s then 5 else nI s) = nI s
    rw [if_neg (by rw [show (5 : Int32) = nI 5 from rfl, nI_lti (by decide) (by omega)]; omega)]
  have e5 : (5 : Int32).toNatClampNeg = 5 := rfl
  have gt : ∀ (z : XS) (d : DE), (xsD z x.2.2.2.2 d).2.2.2.1 x.2.2.2.2 = some d := fun z d => if_pos rfl
  have nw : ∀ (z : XS) (e d : DE), z.2.2.2.1 x.2.2.2.2 = some e → x.2.2.2.2 < z.2.2.2.2 → (xsN z d).2.2.2.1 x.2.2.2.2 = some e := by
    intro z e d h1 h2
    show (if x.2.2.2.2 = z.2.2.2.2 then _ else z.2.2.2.1 x.2.2.2.2) = _
    rw [if_neg (by omega)]
    exact h1
  have e0 : (xsN x (.inl (3, [.int 0, .int 0, .int 0, .null, .null]))).2.2.2.1 x.2.2.2.2 = some (.inl (3, [.int 0, .int 0, .int 0, .null, .null])) := if_pos rfl
  unfold fX3_init
  simp only [lt, e5, im]
  rw [dPut_o (nw _ _ _ e0 (Nat.lt_succ_self _)) (Nat.le_of_ble_eq_true rfl), Option.bind_some]
  rw [dPut_o (nw _ _ _ (gt _ _) (Nat.lt_succ_of_lt (Nat.lt_succ_self _))) (Nat.le_of_ble_eq_true rfl), Option.bind_some]
  rw [dPut_o (gt _ _) (Nat.le_of_ble_eq_true rfl), Option.bind_some, dPut_o (gt _ _) (Nat.le_of_ble_eq_true rfl), Option.bind_some, dPut_o (gt _ _) (Nat.le_of_ble_eq_true rfl), Option.bind_some]
  congr 1
  refine xs_ext rfl rfl rfl ?_ rfl
  funext a
  show (if a = x.2.2.2.2 then _ else if a = x.2.2.2.2 then _ else if a = x.2.2.2.2 then _ else if a = x.2.2.2.2 then _ else if a = x.2.2.2.2 + 1 + 1 then some (.inr (5, fun _ => 0)) else if a = x.2.2.2.2 then _ else if a = x.2.2.2.2 + 1 then some (.inr (5, fun _ => 0)) else if a = x.2.2.2.2 then _ else x.2.2.2.1 a) = (if a = x.2.2.2.2 then _ else if a = x.2.2.2.2 + 1 then _ else if a = x.2.2.2.2 + 2 then _ else x.2.2.2.1 a)
  by_cases q : a = x.2.2.2.2
  · rw [if_pos q, if_pos q]
    rfl
  · rw [if_neg q, if_neg q, if_neg q, if_neg q, if_neg q, if_neg q, if_neg q]
    by_cases q1 : a = x.2.2.2.2 + 1
    · rw [if_pos q1, if_pos q1, if_neg (by omega)]
    · rw [if_neg q1, if_neg q1]
theorem race_loop8 (h : RO own n r t u x y) {s : Nat} {q3 g d : Int32} {L : List Nat} (hs5 : s ≤ 5) (hL : ∀ j, j < s → L.getD j 0 < n) (h23 : ∀ j, j < s → x.2.1 23 j = nI (L.getD j 0)) : ∀ (k c f : Nat) (fo fl : Nat → Int32), c + k = s → k < f → (∀ j, j < c → fo j = nI (L.getD j 0) ∧ fl j = y.2.1 9 (L.getD j 0)) → ∃ fo' fl', LX8_race_80 q3 (nI s) x.2.2.2.2 f (nI c) (RZ x x.2.2.2.2 g d s fo fl) = some (RZ x x.2.2.2.2 g d s fo' fl') ∧ ∀ j, j < s → fo' j = nI (L.getD j 0) ∧ fl' j = y.2.1 9 (L.getD j 0) := by
  intro k
  induction k with
  | zero =>
    intro c f fo fl hk hf hc
    obtain ⟨f, rfl⟩ : ∃ z, f = z + 1 := ⟨f - 1, by omega⟩
    have e : c = s := by omega
    subst e
    refine ⟨fo, fl, ?_, hc⟩
    show BX8_race_80 _ _ _ _ (nI c) _ = _
    unfold BX8_race_80
    rw [if_pos (Int32.le_refl _)]
  | succ k ih =>
    intro c f fo fl hk hf hc
    obtain ⟨f, rfl⟩ : ∃ z, f = z + 1 := ⟨f - 1, by omega⟩
    have hlt : ¬ nI s ≤ nI c := by
      rw [nI_lei (by omega) (by omega)]
      omega
    have hbc : ib (nI c) 5 := ib_nI (by omega) (by decide)
    have hcc : (nI c).toNatClampNeg = c := cl_nI (by omega)
    have l23 : (RZ x x.2.2.2.2 g d s fo fl).2.1 23 c = nI (L.getD c 0) := h23 c (by omega)
    have w1 : dAs (RZ x x.2.2.2.2 g d s fo fl) (x.2.2.2.2 + 1) (nI c) (nI (L.getD c 0)) = some (RZ x x.2.2.2.2 g d s (upd fo c (nI (L.getD c 0))) fl) := by
      rw [dAs_o rz_o hbc, rz_so, hcc]
    have l23' : (RZ x x.2.2.2.2 g d s (upd fo c (nI (L.getD c 0))) fl).2.1 23 c = nI (L.getD c 0) := h23 c (by omega)
    have w2 := lead8 (h.rz g d s (upd fo c (nI (L.getD c 0))) fl) (hL c (by omega))
    have w3 : dAs (RZ x x.2.2.2.2 g d s (upd fo c (nI (L.getD c 0))) fl) (x.2.2.2.2 + 2) (nI c) (y.2.1 9 (L.getD c 0)) = some (RZ x x.2.2.2.2 g d s (upd fo c (nI (L.getD c 0))) (upd fl c (y.2.1 9 (L.getD c 0)))) := by
      rw [dAs_o rz_l hbc, rz_sl, hcc]
    obtain ⟨fo', fl', l1, l2⟩ := ih (c + 1) f (upd fo c (nI (L.getD c 0))) (upd fl c (y.2.1 9 (L.getD c 0))) (by omega) (by omega) (fun j hj => by
      unfold upd
      by_cases q : j = c
      · rw [if_pos q, if_pos q, q]
        exact ⟨rfl, rfl⟩
      · rw [if_neg q, if_neg q]
        exact hc j (by omega))
    refine ⟨fo', fl', ?_, l2⟩
    show BX8_race_80 _ _ _ _ (nI c) _ = _
    unfold BX8_race_80
    rw [if_neg hlt, dP_o (k := 3) rz_p rfl, Option.bind_some, if_pos hbc]
    simp only [hcc]
    rw [l23, w1, Option.bind_some, dP_o (k := 4) rz_p rfl, Option.bind_some, if_pos hbc, l23', w2, Option.bind_some, w3, Option.bind_some]
    simp only [lt, nI_1]
    exact l1
theorem race_loop9 {y1 : MS} {q1 q3 : Int32} {r s : Nat} {L : List Nat} (hr : r < 24) (hs5 : s ≤ 5) (hn : n ≤ 10) (hL : ∀ j, j < s → L.getD j 0 < n) (e41 : y1.1 0 41 = nI r) (e19 : y1.1 0 19 = nI s) (e13 : ∀ j, j < s → y1.2.1 13 j = nI (L.getD j 0)) : ∀ (k c g : Nat) (w : MS), c + k = 5 → k < g → w.1 = y1.1 → (∀ j, j ≠ 18 → j ≠ 19 → w.2.1 j = y1.2.1 j) → (∀ j, j < 5 * r → w.2.1 18 j = y1.2.1 18 j ∧ w.2.1 19 j = y1.2.1 19 j) → (∀ j, j < c → j < s → w.2.1 18 (5 * r + j) = nI (L.getD j 0) ∧ w.2.1 19 (5 * r + j) = y1.2.1 9 (L.getD j 0)) → ∃ w', LX9_race_115 q1 q3 g (nI c) w = some w' ∧ w'.1 = y1.1 ∧ (∀ j, j ≠ 18 → j ≠ 19 → w'.2.1 j = y1.2.1 j) ∧ (∀ j, j < 5 * r → w'.2.1 18 j = y1.2.1 18 j ∧ w'.2.1 19 j = y1.2.1 19 j) ∧ ∀ j, j < s → w'.2.1 18 (5 * r + j) = nI (L.getD j 0) ∧ w'.2.1 19 (5 * r + j) = y1.2.1 9 (L.getD j 0) := by
  intro k
  induction k with
  | zero =>
    intro c g w hk hg h1 h2 h3 h4
    obtain ⟨g, rfl⟩ : ∃ z, g = z + 1 := ⟨g - 1, by omega⟩
    have e : c = 5 := by omega
    subst e
    refine ⟨w, ?_, h1, h2, h3, fun j hj => h4 j (by omega) hj⟩
    show BX9_race_115 _ _ _ (nI 5) w = _
    unfold BX9_race_115
    rw [if_pos (by decide)]
  | succ k ih =>
    intro c g w hk hg h1 h2 h3 h4
    obtain ⟨g, rfl⟩ : ∃ z, g = z + 1 := ⟨g - 1, by omega⟩
    have hlt : ¬ (5 : Int32) ≤ nI c := by
      rw [show (5 : Int32) = nI 5 from rfl, nI_lei (by decide) (by omega)]
      omega
    have hbc : ib (nI c) 5 := ib_nI (by omega) (by decide)
    have hcc : (nI c).toNatClampNeg = c := cl_nI (by omega)
    have w41 : w.1 0 41 = nI r := by rw [h1]; exact e41
    have w19 : w.1 0 19 = nI s := by rw [h1]; exact e19
    have hb1 : ib (nI (5 * r + c)) 120 := ib_nI (by omega) (by decide)
    have hc1 : (nI (5 * r + c)).toNatClampNeg = 5 * r + c := cl_nI (by omega)
    have hA : ∀ (k i : Nat) (v : Int32), (msA w k i v).1 = w.1 := fun _ _ _ => rfl
    have step : ∀ (v l : Int32), (c < s → v = nI (L.getD c 0) ∧ l = y1.2.1 9 (L.getD c 0)) → ∃ w', LX9_race_115 q1 q3 g (nI (c + 1)) (msA (msA w 18 (5 * r + c) v) 19 (5 * r + c) l) = some w' ∧ w'.1 = y1.1 ∧ (∀ j, j ≠ 18 → j ≠ 19 → w'.2.1 j = y1.2.1 j) ∧ (∀ j, j < 5 * r → w'.2.1 18 j = y1.2.1 18 j ∧ w'.2.1 19 j = y1.2.1 19 j) ∧ ∀ j, j < s → w'.2.1 18 (5 * r + j) = nI (L.getD j 0) ∧ w'.2.1 19 (5 * r + j) = y1.2.1 9 (L.getD j 0) := by
      intro v l hv
      refine ih (c + 1) g _ (by omega) (by omega) h1 (fun j j1 j2 => ?_) (fun j hj => ?_) (fun j j1 j2 => ?_)
      · show up2 (up2 w.2.1 18 _ v) 19 _ l j = _
        rw [up2_ne j2, up2_ne j1]
        exact h2 j j1 j2
      · show (if j = 5 * r + c then v else w.2.1 18 j) = _ ∧ (if j = 5 * r + c then l else w.2.1 19 j) = _
        rw [if_neg (by omega), if_neg (by omega)]
        exact h3 j hj
      · show (if 5 * r + j = 5 * r + c then v else w.2.1 18 (5 * r + j)) = _ ∧ (if 5 * r + j = 5 * r + c then l else w.2.1 19 (5 * r + j)) = _
        by_cases q : j = c
        · rw [if_pos (by omega), if_pos (by omega), q]
          exact hv (by omega)
        · rw [if_neg (by omega), if_neg (by omega)]
          exact h4 j (by omega) j2
    show ∃ w', BX9_race_115 q1 q3 (LX9_race_115 q1 q3 g) (nI c) w = some w' ∧ _
    unfold BX9_race_115
    rw [if_neg hlt]
    simp only [lt, hA, w41, w19, at5, if_pos hb1, hc1, if_pos hbc, hcc, nI_1]
    by_cases q : c < s
    · have l1 : ¬ nI s ≤ nI c := by
        rw [nI_lei (by omega) (by omega)]
        omega
      have e13c : w.2.1 13 c = nI (L.getD c 0) := by
        rw [h2 13 (by decide) (by decide)]
        exact e13 c q
      have hLc := hL c q
      have e13d : ∀ v, (msA w 18 (5 * r + c) v).2.1 13 c = nI (L.getD c 0) := fun v => e13c
      have e9d : ∀ v, (msA w 18 (5 * r + c) v).2.1 9 = y1.2.1 9 := fun v => h2 9 (by decide) (by decide)
      have hb2 : ib (nI (L.getD c 0)) 10 := ib_nI (by omega) (by decide)
      have hc2 : (nI (L.getD c 0)).toNatClampNeg = L.getD c 0 := cl_nI (by omega)
      simp only [if_neg l1, Option.bind_some, e13c, e13d, if_pos hb2, hc2, e9d]
      exact step _ _ (fun _ => ⟨rfl, rfl⟩)
    · have l1 : nI s ≤ nI c := by
        rw [nI_lei (by omega) (by omega)]
        omega
      simp only [if_pos l1, Option.bind_some]
      exact step _ _ (fun z => absurd z q)
theorem RO.newR (h : RO own n r t u x y) (hr : r < 24) {x' : XS} {y' : MS} {p : Nat} {g d : Int32} {s : Nat} {fo fl : Nat → Int32} (hg : 0 ≤ g ∧ g ≤ 3) (hd : 0 ≤ d ∧ d ≤ 99) (hs2 : 2 ≤ s) (hs5 : s ≤ 5) (hp : p = x.2.2.2.2)
    (xi : ∀ k, k ∈ ([1, 3, 9, 10] : List Nat) → x'.1 0 k = x.1 0 k) (x5 : x'.1 0 5 = nI (r + 1)) (x4 : x'.1 4 1 = x.1 4 1) (x11 : x'.1 11 = x.1 11) (xr : x'.2.1 = x.2.1) (xn : ∀ k, k ∈ ([1, 9, 10] : List Nat) → x'.2.2.1 k = x.2.2.1 k) (xw : ∀ j, x'.2.2.1 3 j = if j = r then some p else x.2.2.1 3 j) (xz : x'.2.2.2.2 = p + 3) (xh : x'.2.2.2.1 = rcH x p g d s fo fl)
    (yi : ∀ k, k ∈ ([3, 4, 6, 13, 15, 48, 49, 50, 51, 52] : List Nat) → y'.1 0 k = y.1 0 k) (y41 : y'.1 0 41 = nI (r + 1)) (yr : ∀ k, k ∈ ([1, 2, 3, 4, 5, 6, 7, 8, 9, 10, 22, 23, 24, 25, 26, 27, 28, 29] : List Nat) → y'.2.1 k = y.2.1 k)
    (k15 : ∀ j, y'.2.1 15 j = if j = r then g else y.2.1 15 j) (k16 : ∀ j, y'.2.1 16 j = if j = r then d else y.2.1 16 j) (k17 : ∀ j, y'.2.1 17 j = if j = r then nI s else y.2.1 17 j) (k18 : ∀ j, j < 5 * r → y'.2.1 18 j = y.2.1 18 j ∧ y'.2.1 19 j = y.2.1 19 j) (ko : ∀ k, k < s → fo k = y'.2.1 18 (5 * r + k) ∧ fl k = y'.2.1 19 (5 * r + k)) (kv : ∀ k, k < s → (∃ j, j < n ∧ y'.2.1 18 (5 * r + k) = nI j) ∧ 0 ≤ y'.2.1 19 (5 * r + k) ∧ y'.2.1 19 (5 * r + k) ≤ 60) : RO (fun a => if a = p then 100 + r else if a = p + 1 then 200 + r else if a = p + 2 then 300 + r else own a) n (r + 1) t u x' y' := by
  have hxh : ∀ a, x'.2.2.2.1 a = if a = p then some (.inl (3, [.int g, .int d, .int (nI s), .ref (p + 1), .ref (p + 2)])) else if a = p + 1 then some (.inr (5, fo)) else if a = p + 2 then some (.inr (5, fl)) else x.2.2.2.1 a := fun a => congrFun xh a
  have hk : ∀ a e, x.2.2.2.1 a = some e → x'.2.2.2.1 a = some e ∧ (if a = p then 100 + r else if a = p + 1 then 200 + r else if a = p + 2 then 300 + r else own a) = own a := by
    intro a e ha
    have hlt := h.fr a e ha
    rw [hxh, if_neg (by omega), if_neg (by omega), if_neg (by omega), if_neg (by omega), if_neg (by omega), if_neg (by omega)]
    exact ⟨ha, rfl⟩
  refine ⟨?_, ?_, ?_, ?_, ?_, ?_, ?_, ?_⟩
  · intro a e ha
    rw [xz]
    rw [hxh] at ha
    by_cases q : a = p
    · omega
    · rw [if_neg q] at ha
      by_cases q1 : a = p + 1
      · omega
      · rw [if_neg q1] at ha
        by_cases q2 : a = p + 2
        · omega
        · rw [if_neg q2] at ha
          have := h.fr a e ha
          omega
  · rw [xi 1 (by decide), xn 1 (by decide), yi 13 (by decide), yr 4 (by decide), yr 5 (by decide), yr 6 (by decide), yr 7 (by decide), yr 8 (by decide), yr 9 (by decide)]; exact h.H.mono (fun a e ha _ => hk a e ha)
  · rw [xi 3 (by decide), xr, yi 15 (by decide), yr 10 (by decide)]; exact h.P
  · refine ⟨by omega, x5, y41, fun i hi => ?_, fun i hi => ?_⟩
    · rw [xw, k15, k16, k17]
      by_cases q : i = r
      · subst q
        simp only [if_true]
        refine ⟨p, p + 1, p + 2, fo, fl, rfl, if_pos rfl, ?_, ?_, by rw [hxh, if_pos rfl], ?_, ?_, fun k k1 k2 => ko k ((nI_lti (by omega) (by omega)).mp k2)⟩
        · rw [if_neg (by omega), if_pos rfl]
        · rw [if_neg (by omega), if_neg (by omega), if_pos rfl]
        · rw [hxh, if_neg (by omega), if_pos rfl]
        · rw [hxh, if_neg (by omega), if_neg (by omega), if_pos rfl]
      · simp only [if_neg q]
        obtain ⟨a, ao, al, f1, f2, h1, h2, h3, h4, h5, h6, h7, h8⟩ := h.R.at' i (by omega)
        obtain ⟨g1, g2⟩ := hk a _ h5
        obtain ⟨g3, g4⟩ := hk ao _ h6
        obtain ⟨g5, g6⟩ := hk al _ h7
        refine ⟨a, ao, al, f1, f2, h1, g2.trans h2, g4.trans h3, g6.trans h4, g1, g3, g5, fun k k1 k2 => ?_⟩
        obtain ⟨w1, w2⟩ := k18 (5 * i + k) (by omega)
        rw [w1, w2]
        exact h8 k k1 k2
    · rw [k15, k16, k17]
      by_cases q : i = r
      · subst q
        simp only [if_true]
        refine ⟨hg.1, hg.2, hd.1, hd.2, (nI_lei (a := 2) (by decide) (by omega)).mpr hs2, (nI_lei (b := 5) (by omega) (by decide)).mpr hs5, fun k k1 k2 => (kv k ((nI_lti (by omega) (by omega)).mp k1)).1, fun k k1 k2 => (kv k ((nI_lti (by omega) (by omega)).mp k1)).2⟩
      · simp only [if_neg q]
        have v := h.R.va i (by omega)
        refine ⟨v.gr0, v.gr1, v.da0, v.da1, v.sz0, v.sz1, fun k k1 k2 => ?_, fun k k1 k2 => ?_⟩
        · show ∃ i', i' < n ∧ y'.2.1 18 (5 * i + k) = nI i'
          rw [(k18 (5 * i + k) (by omega)).1]
          exact v.or' k k1 k2
        · show 0 ≤ y'.2.1 19 (5 * i + k) ∧ y'.2.1 19 (5 * i + k) ≤ 60
          rw [(k18 (5 * i + k) (by omega)).2]
          exact v.le k k1 k2
  · rw [x4, xr, yi 6 (by decide), yr 3 (by decide)]; exact h.A
  · rw [x11, xr, yi 48 (by decide), yi 49 (by decide), yi 50 (by decide), yi 51 (by decide), yi 52 (by decide), yr 22 (by decide), yr 23 (by decide), yr 24 (by decide), yr 25 (by decide)]
    refine ⟨h.I.b, ?_⟩
    rcases h.I.k with q | ⟨ih, ir, iu, q1, q2, q⟩
    · exact Or.inl q
    · exact Or.inr ⟨ih, ir, iu, q1, by omega, q⟩
  · rw [xn 10 (by decide), yr 26 (by decide), yr 27 (by decide), yr 28 (by decide), yr 29 (by decide)]; exact h.S.mono (fun a e ha _ _ => hk a e ha)
  · rw [xi 9 (by decide), xi 10 (by decide), xn 9 (by decide), yi 3 (by decide), yi 4 (by decide), yr 1 (by decide), yr 2 (by decide)]; exact h.T.mono (fun a e ha _ _ => hk a e ha)
theorem anew_loop {p po pl s : Nat} {fo : Nat → Int32} {L : List Nat} {g d q1 : Int32} (hs5 : s ≤ 5) (hL : ∀ j, j < s → L.getD j 0 < n) (hg : 0 ≤ g) (op1 : 100 ≤ own p) (op2 : own p < 400) (oo1 : 100 ≤ own po) (oo2 : own po < 400) (eg : q1 / 100 = g) (efo : ∀ j, j < s → fo j = nI (L.getD j 0)) : ∀ (k c f gg : Nat) (z : XS) (w : MS), c + k = s → k < f → k < gg → RO own n r t u z w → z.2.2.2.1 p = some (.inl (3, [.int g, .int d, .int (nI s), .ref po, .ref pl])) → z.2.2.2.1 po = some (.inr (5, fo)) → w.1 0 19 = nI s → (∀ j, j < s → w.2.1 13 j = nI (L.getD j 0)) → ∃ z' w', LX8_leadAnew_2 (some p) f (nI c) z = some z' ∧ LX9_race_213 q1 1 gg (nI c) w = some w' ∧ RO own n r t u z' w' := by
  intro k
  induction k with
  | zero =>
    intro c f gg z w hk hf hgg h e5 e6 e19 e13
    obtain ⟨f, rfl⟩ : ∃ z, f = z + 1 := ⟨f - 1, by omega⟩
    obtain ⟨gg, rfl⟩ : ∃ z, gg = z + 1 := ⟨gg - 1, by omega⟩
    have e : c = s := by omega
    subst e
    refine ⟨z, w, ?_, ?_, h⟩
    · show BX8_leadAnew_2 _ _ (nI c) z = _
      unfold BX8_leadAnew_2
      rw [Option.bind_some, dI_o (k := 2) e5 rfl, Option.bind_some, if_pos (Int32.le_refl _)]
    · show BX9_race_213 _ _ _ (nI c) w = _
      unfold BX9_race_213
      rw [e19, if_pos (Int32.le_refl _)]
  | succ k ih =>
    intro c f gg z w hk hf hgg h e5 e6 e19 e13
    obtain ⟨f, rfl⟩ : ∃ z, f = z + 1 := ⟨f - 1, by omega⟩
    obtain ⟨gg, rfl⟩ : ∃ z, gg = z + 1 := ⟨gg - 1, by omega⟩
    have hn := h.n10
    have hlt : ¬ nI s ≤ nI c := by
      rw [nI_lei (by omega) (by omega)]
      omega
    have hbc : ib (nI c) 5 := ib_nI (by omega) (by decide)
    have hcc : (nI c).toNatClampNeg = c := cl_nI (by omega)
    have hLc := hL c (by omega)
    have hb2 : ib (nI (L.getD c 0)) 10 := ib_nI (by omega) (by decide)
    have hc2 : (nI (L.getD c 0)).toNatClampNeg = L.getD c 0 := cl_nI (by omega)
    obtain ⟨ph, h1, h2, h3, h4⟩ := ha8 h hLc
    obtain ⟨won, w1, w2⟩ := wins89 h (nI (L.getD c 0))
    obtain ⟨v, z', w', n1, n2, n3, n4, n5, v0, v1⟩ := next89 h hLc (w.2.1 9 (L.getD c 0)) won (nI c) g hg
    obtain ⟨ph', h1', h2', h3', h4'⟩ := ha8 n3 hLc
    have ep : ph' = ph := by
      rw [n4.2.2.1, h4] at h4'
      exact (Option.some.inj h4').symm
    subst ep
    have hv := n3.H.va _ hLc
    have w3 : dPut z' ph' 1 5 (.int v) = some (xsD z' ph' (hoD (w'.2.1 4 (L.getD c 0)) (w'.2.1 7 (L.getD c 0)) (w'.2.1 8 (L.getD c 0)) (w'.2.1 5 (L.getD c 0)) (w'.2.1 6 (L.getD c 0)) v)) := dPut_o h3' (Nat.le_of_ble_eq_true rfl)
    have same : ∀ (f : Nat → Int32) (i j : Nat), f j = if j = i then f i else f j := by
      intro f i j
      split
      · rename_i q
        rw [q]
      · rfl
    have R' := n3.setH (y' := msA w' 9 (L.getD c 0) v) hLc h4' h2' h3' ⟨hv.kd0, hv.kd1, hv.no0, hv.no1, hv.gr0, hv.gr1, hv.st0, hv.st1, hv.ag0, hv.ag1, v0, v1⟩ (kN.A (by decide)) (same _ _) (same _ _) (fun j => rfl)
    have keep : ∀ a e, 100 ≤ own a → own a < 400 → z.2.2.2.1 a = some e → (xsD z' ph' (hoD (w'.2.1 4 (L.getD c 0)) (w'.2.1 7 (L.getD c 0)) (w'.2.1 8 (L.getD c 0)) (w'.2.1 5 (L.getD c 0)) (w'.2.1 6 (L.getD c 0)) v)).2.2.2.1 a = some e := by
      intro a e o1 o2 ha
      show (if a = ph' then _ else z'.2.2.2.1 a) = _
      rw [if_neg (by rintro rfl; omega), n4.2.2.2.2 a (Or.inl o2)]
      exact ha
    obtain ⟨z2, w4, l1, l2, l3⟩ := ih (c + 1) f gg _ (msA w' 9 (L.getD c 0) v) (by omega) (by omega) (by omega) R' (keep p _ op1 op2 e5) (keep po _ oo1 oo2 e6) (by
      show w'.1 0 19 = _
      rw [n5.ints 19 (by omega)]
      exact e19) (fun j hj => by
      show w'.2.1 13 j = _
      rw [n5.rows]
      exact e13 j hj)
    refine ⟨z2, w4, ?_, ?_, l3⟩
    · show BX8_leadAnew_2 _ _ (nI c) z = _
      unfold BX8_leadAnew_2
      rw [Option.bind_some, dI_o (k := 2) e5 rfl, Option.bind_some, if_neg hlt, dP_o (k := 3) e5 rfl, Option.bind_some, dA_o e6 hbc, Option.bind_some, hcc, efo c (by omega), h1, Option.bind_some]
      simp only [oc, dI_o (k := 5) h3 rfl, Option.bind_some, w1, dI_o (k := 0) e5 rfl, n1, bind2, w3, lt, nI_1]
      exact l1
    · show BX9_race_213 _ _ _ (nI c) w = _
      have e13' : w'.2.1 13 c = nI (L.getD c 0) := by
        rw [n5.rows]
        exact e13 c (by omega)
      unfold BX9_race_213
      rw [e19, if_neg hlt, if_pos rfl, if_pos hbc, if_pos hbc, if_pos hbc]
      simp only [hcc, e13 c (show c < s by omega), if_pos hb2, hc2, if_pos hbc, w2, Option.bind_some, eg, n2, bind2, e13', lt, nI_1]
      exact l2
theorem last89 (h : RO own n r t u x y) : fX8_lastDay x = some (if r = 0 then 0 else y.2.1 16 (r - 1)) := by
  have hr := h.r24
  unfold fX8_lastDay
  rw [h.R.ex]
  by_cases q : r = 0
  · subst q
    rw [ra8n h (by decide), Option.bind_some, if_pos rfl]
    rfl
  · rw [show nI r - 1 = nI (r - 1) from by rw [show (1 : Int32) = nI 1 from rfl, nI_sb (by omega)]]
    obtain ⟨p, po, pl, fo, fl, s, b1, b2, b3⟩ := ra8 h (show r - 1 < r by omega)
    rw [b1, Option.bind_some, if_neg q]
    simp only [oc, dI_o (k := 1) b2 rfl, Option.bind_some]
end RACE
