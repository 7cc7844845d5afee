/-! the rule -/
def fz (own : Nat → Nat) (x z : XS) : Prop := z.1 = x.1 ∧ (∀ k, k ≠ 22 → z.2.1 k = x.2.1 k) ∧ z.2.2.1 = x.2.2.1 ∧ z.2.2.2.2 = x.2.2.2.2 ∧ ∀ a, (own a < 400 ∨ 800 ≤ own a) → z.2.2.2.1 a = x.2.2.2.1 a
theorem fz.rf (own : Nat → Nat) (x : XS) : fz own x x := ⟨rfl, fun _ _ => rfl, rfl, rfl, fun _ _ => rfl⟩
theorem fz.tr {own : Nat → Nat} {a b c : XS} (h : fz own a b) (g : fz own b c) : fz own a c := ⟨g.1.trans h.1, fun k q => (g.2.1 k q).trans (h.2.1 k q), g.2.2.1.trans h.2.2.1, g.2.2.2.1.trans h.2.2.2.1, fun k q => (g.2.2.2.2 k q).trans (h.2.2.2.2 k q)⟩
theorem kp.rf (y : MS) : kp y y := ⟨rfl, fun _ _ => rfl⟩
theorem kp.tr {a b c : MS} (h : kp a b) (g : kp b c) : kp a c := ⟨g.rows.trans h.rows, fun i q => (g.ints i q).trans (h.ints i q)⟩
theorem kp.kM {y y' : MS} (h : kp y y') : kM y y' := by
  refine ⟨⟨fun k hk => h.ints k ?_, fun k _ => by rw [h.rows]⟩, by rw [h.rows], by rw [h.rows], by rw [h.rows]⟩
  have : ∀ k, k ∈ ([3, 4, 6, 13, 15, 41, 48, 49, 50, 51, 52] : List Nat) → k < 22 ∨ 35 < k := by decide
  exact this k hk
section RULE
variable {own : Nat → Nat} {n r t u : Nat} {x : XS} {y : MS}
theorem RO.say (h : RO own n r t u x y) {z : XS} {i p ac ae aw : Nat} {d : Int32} {fw : Nat → Int32} (hi : i < t) (er : x.2.2.1 9 i = some p) (op : own p = 400 + i) (oa : own ac = 500 + i) (oe : own ae = 600 + i) (ow : own aw = 700 + i) (ep : x.2.2.2.1 p = some (.inl (7, [.ref ac, .ref ae, .ref aw, .int d]))) (ew : x.2.2.2.1 aw = some (.inr (40, fw))) (e1 : z.1 = x.1) (e2 : ∀ k, k ∈ ([2, 5, 12, 13, 14, 15] : List Nat) → z.2.1 k = x.2.1 k) (e3 : z.2.2.1 = x.2.2.1) (e4 : z.2.2.2.2 = x.2.2.2.2) (e5 : ∀ a, a ≠ p → a ≠ aw → z.2.2.2.1 a = x.2.2.2.1 a) (e6 : ∃ d, z.2.2.2.1 p = some (.inl (7, [.ref ac, .ref ae, .ref aw, .int d]))) (e7 : ∃ fw, z.2.2.2.1 aw = some (.inr (40, fw))) : RO own n r t u z y := by
  have ht := h.T.le
  have hk : ∀ a d, x.2.2.2.1 a = some d → (own a < 400 ∨ 800 ≤ own a) → z.2.2.2.1 a = some d ∧ own a = own a := by
    intro a d ha ho
    exact ⟨(e5 a (by rintro rfl; omega) (by rintro rfl; omega)).trans ha, rfl⟩
  refine ⟨?_, ?_, ?_, ?_, ?_, ?_, ?_, ?_⟩
  · intro a d ha
    rw [e4]
    by_cases q : a = p
    · rw [q]; exact h.fr p _ ep
    · by_cases q2 : a = aw
      · rw [q2]; exact h.fr aw _ ew
      · rw [e5 a q q2] at ha
        exact h.fr a d ha
  · rw [e1, e3]; exact h.H.mono (fun a d ha _ => hk a d ha (by omega))
  · rw [e1, e2 2 (by decide)]; exact h.P
  · rw [e1, e3]; exact h.R.mono (Nat.le_refl _) (fun a d ha _ _ => hk a d ha (by omega))
  · rw [e1, e2 5 (by decide)]; exact h.A
  · rw [e1, e2 12 (by decide), e2 13 (by decide), e2 14 (by decide), e2 15 (by decide)]; exact h.I
  · rw [e3]; exact h.S.mono (fun a d ha _ _ => hk a d ha (by omega))
  · rw [e1, e3]
    refine ⟨h.T.l1, h.T.le, h.T.lu, h.T.ex, h.T.ey, h.T.eu, h.T.ev, fun j hj => ?_⟩
    obtain ⟨a, ac', ae', aw', d', m', f', fe', fw', C', t1, t2, t3, t4, t5, t6, t7, t8, t9, t10, t11⟩ := h.T.at' j hj
    by_cases q : j = i
    · subst q
      have ea : a = p := Option.some.inj (t1.symm.trans er)
      subst ea
      have eq := t6.symm.trans ep
      injection eq with eq
      injection eq with eq
      injection eq with _ eq
      injection eq with b1 eq
      injection eq with b2 eq
      injection eq with b3 _
      injection b1 with b1
      injection b2 with b2
      injection b3 with b3
      subst b1 b2 b3
      obtain ⟨d2, e6⟩ := e6
      obtain ⟨fw2, e7⟩ := e7
      exact ⟨a, ac', ae', aw', d2, m', f', fe', fw2, C', t1, t2, t3, t4, t5, e6, (e5 ac' (by rintro rfl; omega) (by rintro rfl; omega)).trans t7, (e5 ae' (by rintro rfl; omega) (by rintro rfl; omega)).trans t8, e7, t10, t11⟩
    · exact ⟨a, ac', ae', aw', d', m', f', fe', fw', C', t1, t2, t3, t4, t5, (e5 a (by rintro rfl; omega) (by rintro rfl; omega)).trans t6, (e5 ac' (by rintro rfl; omega) (by rintro rfl; omega)).trans t7, (e5 ae' (by rintro rfl; omega) (by rintro rfl; omega)).trans t8, (e5 aw' (by rintro rfl; omega) (by rintro rfl; omega)).trans t9, t10, t11⟩
theorem dI_A (x : XS) (k i : Nat) (v : Int32) (p c j : Nat) : dI (xsA x k i v) p c j = dI x p c j := rfl
theorem dK_A (x : XS) (k i : Nat) (v : Int32) (p c : Nat) : dK (xsA x k i v) p c = dK x p c := rfl
theorem dP_A (x : XS) (k i : Nat) (v : Int32) (p c j : Nat) : dP (xsA x k i v) p c j = dP x p c j := rfl
theorem rule8 (h : RO own n r t u x y) {i : Nat} (hi : i < n) {q : Nat} (hq : q < 3) (l w pl ga g : Int32) (hg : (ga = -1 ∧ g = y.2.1 8 i) ∨ (ga ≠ -1 ∧ g = ga)) : ∃ (v : Int32) (z : XS) (C : Nat → List Int32), fX8_ruled x (nI q) (nI i) l w pl ga = some (v, z) ∧ RO own n r t u z y ∧ fz own x z ∧ v = (evl (envM y i l w pl g) (C q) []).headD 0 ∧ TXm u (y.2.1 1) (y.2.1 2) C := by
  have ht := h.T.le
  have hu := h.T.lu
  have hn := h.n10
  obtain ⟨ph, h1, h2, h3, -⟩ := ha8 h hi
  obtain ⟨p, ac, ae, aw, d, m, f, fe, fw, C, t1, t2, t3, t4, t5, t6, t7, t8, t9, t10, t11⟩ := h.T.at' u hu
  have X : ∀ (X6 : XS), X6.1 = x.1 → (∀ k, k ≠ 22 → X6.2.1 k = x.2.1 k) → X6.2.2 = x.2.2 → (∀ k, k < 6 → X6.2.1 22 k = envM y i l w pl g k) → ∃ z, fX7_valueOf X6 p (nI q) = some ((evl (envM y i l w pl g) (C q) []).headD 0, z) ∧ RO own n r t u z y ∧ fz own x z := by
    intro X6 a1 a2 a3 a4
    obtain ⟨z, z1, z2, z3, z4, z5, z6, z7, z8⟩ := value8 (x := X6) (p := p) (ac := ac) (ae := ae) (aw := aw) (env := envM y i l w pl g) (by rintro rfl; omega) (by rintro rfl; omega) (by rintro rfl; omega) (by rintro rfl; omega) (by rintro rfl; omega) (by rw [a3]; exact t6) (by rw [a3]; exact t7) (by rw [a3]; exact t8) (by rw [a3]; exact t9) a4 t10 hq
    rw [a3] at z4 z5 z6
    refine ⟨z, z1, h.say hu t1 t2 t3 t4 t5 t6 t9 (z2.trans a1) (fun k hk => ?_) z4 z5 z6 z7 z8, z2.trans a1, fun k hk => ?_, z4, z5, fun a ha => z6 a (by rintro rfl; omega) (by rintro rfl; omega)⟩
    · rw [z3, a2 k (ne_in (A := [22]) (by decide) hk (by decide))]
    · rw [z3, a2 k hk]
  have hw : fX8_isWithin (x.1 0 10) 0 ((x.1 0 9) - 1) = some true := by
    rw [in8, h.T.eu, h.T.ex, decide_eq_true (nI_prd (by omega) hu)]
  have hb : ib (nI u) 6 := ib_nI (by omega) (by decide)
  have hcu : (nI u).toNatClampNeg = u := cl_nI (by omega)
  have v0 : (0 : Int32).toNatClampNeg = 0 := rfl
  have v1 : (1 : Int32).toNatClampNeg = 1 := rfl
  have v2 : (2 : Int32).toNatClampNeg = 2 := rfl
  have v3 : (3 : Int32).toNatClampNeg = 3 := rfl
  have v4 : (4 : Int32).toNatClampNeg = 4 := rfl
  have v5 : (5 : Int32).toNatClampNeg = 5 := rfl
  have dkp : dK x p 7 = true := dK_o t6
  obtain ⟨z, z1, z2, z3⟩ := X (xsA (xsA (xsA (xsA (xsA (xsA x 22 0 (y.2.1 5 i)) 22 1 l) 22 2 w) 22 3 pl) 22 4 (y.2.1 6 i)) 22 5 g) rfl (fun k hk => by
    show up2 (up2 (up2 (up2 (up2 (up2 x.2.1 22 0 _) 22 1 _) 22 2 _) 22 3 _) 22 4 _) 22 5 _ k = x.2.1 k
    rw [up2_ne hk, up2_ne hk, up2_ne hk, up2_ne hk, up2_ne hk, up2_ne hk]) rfl (fun k hk => by
    have : k = 0 ∨ k = 1 ∨ k = 2 ∨ k = 3 ∨ k = 4 ∨ k = 5 := by omega
    rcases this with rfl | rfl | rfl | rfl | rfl | rfl <;> rfl)
  refine ⟨_, z, C, ?_, z2, z3, rfl, t11⟩
  unfold fX8_ruled
  rw [h1, Option.bind_some, hw, Option.bind_some, if_pos rfl, h.T.eu, if_pos hb, hcu]
  simp only [lt, t1, Option.bind_some, oc, dI_o (k := 3) h3 rfl, dI_A, dK_A, dI_o (k := 4) h3 rfl, dI_o (k := 2) h3 rfl, v0, v1, v2, v3, v4, v5, if_pos (show ib 0 6 by decide), if_pos (show ib 1 6 by decide), if_pos (show ib 2 6 by decide), if_pos (show ib 3 6 by decide), if_pos (show ib 4 6 by decide), if_pos (show ib 5 6 by decide), dkp, if_true]
  rcases hg with ⟨g1, g2⟩ | ⟨g1, g2⟩
  · rw [if_pos g1, ← g2, z1]
    rfl
  · rw [if_neg g1, ← g2, z1]
    rfl
theorem rule89 (h : RO own n r t u x y) {i : Nat} (hi : i < n) {q : Nat} (hq : q < 3) (l w pl ga g : Int32) (hg : (ga = -1 ∧ g = y.2.1 8 i) ∨ (ga ≠ -1 ∧ g = ga)) : ∃ (v : Int32) (z : XS) (y' : MS), fX8_ruled x (nI q) (nI i) l w pl ga = some (v, z) ∧ fX9_read y (nI u) (nI i) l w pl g (nI q) = some (v, y') ∧ RO own n r t u z y' ∧ fz own x z ∧ kp y y' := by
  have hn := h.n10
  obtain ⟨v, z, C, e1, e2, e3, e4, e5⟩ := rule8 h hi hq l w pl ga g hg
  obtain ⟨y', r1, r2, -⟩ := e5 y i l w pl g (nI q) (by omega) (fun _ _ => rfl) rfl
  have ec : (if nI q = 0 then 0 else if nI q = 1 then 1 else 2) = q := by
    have : q = 0 ∨ q = 1 ∨ q = 2 := by omega
    rcases this with rfl | rfl | rfl <;> rfl
  rw [ec, ← e4] at r1
  exact ⟨v, z, y', e1, r1, e2.keep (kX.rf z) r2.kM, e3, r2⟩
theorem bnd89 (v : Int32) {b : Int32} (hb : 0 ≤ b) : ∃ w, fX8_bounded v 0 b = some w ∧ fX9_within v 0 b = some w ∧ 0 ≤ w ∧ w ≤ b := by
  unfold fX8_bounded fX9_within
  show ∃ w, some (if 0 < (if v < b then v else b) then (if v < b then v else b) else 0) = some w ∧ _
  by_cases c : 0 ≤ v
  · rw [if_pos c]
    by_cases c2 : v ≤ b
    · rw [if_pos c2]
      refine ⟨v, ?_, rfl, c, c2⟩
      by_cases c3 : v < b
      · rw [if_pos c3]
        by_cases c4 : 0 < v
        · rw [if_pos c4]
        · rw [if_neg c4, Int32.le_antisymm (Int32.not_lt.mp c4) c]
      · have e : b = v := Int32.le_antisymm (Int32.not_lt.mp c3) c2
        rw [if_neg c3, e]
        by_cases c4 : 0 < v
        · rw [if_pos c4]
        · rw [if_neg c4, Int32.le_antisymm (Int32.not_lt.mp c4) c]
    · rw [if_neg c2]
      have c3 : ¬ v < b := fun q => c2 (Int32.le_of_lt q)
      refine ⟨b, ?_, rfl, hb, Int32.le_refl _⟩
      rw [if_neg c3]
      by_cases c4 : 0 < b
      · rw [if_pos c4]
      · rw [if_neg c4, Int32.le_antisymm (Int32.not_lt.mp c4) hb]
  · rw [if_neg c]
    have c0 := Int32.not_le.mp c
    refine ⟨0, ?_, rfl, Int32.le_refl _, hb⟩
    rw [if_pos (Int32.lt_of_lt_of_le c0 hb), if_neg (Int32.not_lt.mpr (Int32.le_of_lt c0))]
theorem next89 (h : RO own n r t u x y) {i : Nat} (hi : i < n) (l w pl g : Int32) (hg : 0 ≤ g) : ∃ (v : Int32) (z : XS) (y' : MS), fX8_nextLead x (nI i) l w pl g = some (v, z) ∧ fX9_nextLead y (nI i) l w pl g = some (v, y') ∧ RO own n r t u z y' ∧ fz own x z ∧ kp y y' ∧ 0 ≤ v ∧ v ≤ 60 := by
  obtain ⟨v, z, y', e1, e2, e3, e4, e5⟩ := rule89 h hi (show 0 < 3 by decide) l w pl g g (Or.inr ⟨by
    rintro rfl
    exact absurd hg (by decide), rfl⟩)
  obtain ⟨w, w1, w2, w3, w4⟩ := bnd89 v (show (0 : Int32) ≤ 60 by decide)
  have e1 : fX8_ruled x 0 (nI i) l _ pl g = some (v, z) := e1
  have e2 : fX9_read y (nI u) (nI i) l _ pl g 0 = some (v, y') := e2
  refine ⟨w, z, y', ?_, ?_, e3, e4, e5, w3, w4⟩
  · unfold fX8_nextLead
    rw [e1]
    simp only [bind2, w1, Option.bind_some]
  · unfold fX9_nextLead
    rw [h.T.ev, e2]
    simp only [bind2, w2, Option.bind_some]
theorem ahead89 (h : RO own n r t u x y) {i : Nat} (hi : i < n) {q : Nat} (hq : q < 3) (l : Int32) : ∃ (v w : Int32) (z : XS) (y' : MS), fX8_ruledAhead x (nI q) (nI i) l = some (v, z) ∧ fX9_winsOf y (nI i) = some w ∧ fX9_read y (nI u) (nI i) l w 0 (y.2.1 8 i) (nI q) = some (v, y') ∧ RO own n r t u z y' ∧ fz own x z ∧ kp y y' := by
  obtain ⟨w, w1, w2⟩ := wins89 h (nI i)
  obtain ⟨v, z, y', e1, e2, e3, e4, e5⟩ := rule89 h hi hq l w 0 (-1) (y.2.1 8 i) (Or.inl ⟨rfl, rfl⟩)
  refine ⟨v, w, z, y', ?_, w2, e2, e3, e4, e5⟩
  unfold fX8_ruledAhead
  rw [w1, Option.bind_some, e1]
  rfl
theorem hold89 (h : RO own n r t u x y) {i : Nat} (hi : i < n) (l : Int32) : ∃ (v : Int32) (z : XS) (y' : MS), fX8_holdCost x (nI i) l = some (v, z) ∧ fX9_holdOf y (nI i) l = some (v, y') ∧ RO own n r t u z y' ∧ fz own x z ∧ kp y y' ∧ 0 ≤ v ∧ v ≤ 999 := by
  obtain ⟨v, w, z, y', e1, e2, e3, e4, e5, e6⟩ := ahead89 h hi (show 1 < 3 by decide) l
  obtain ⟨b, w1, w2, w3, w4⟩ := bnd89 v (show (0 : Int32) ≤ 999 by decide)
  have e1 : fX8_ruledAhead x 1 (nI i) l = some (v, z) := e1
  have e3 : fX9_read y (nI u) (nI i) l w 0 (y.2.1 8 i) 1 = some (v, y') := e3
  refine ⟨b, z, y', ?_, ?_, e4, e5, e6, w3, w4⟩
  · unfold fX8_holdCost
    rw [e1]
    simp only [bind2, w1, Option.bind_some]
  · unfold fX9_holdOf
    rw [e2, Option.bind_some, if_pos (ib10 h hi), cln h hi, h.T.ev, e3]
    simp only [bind2, w2, Option.bind_some]
theorem ran_loop (h : RO own n r t u x y) (q : Int32) : ∀ (k i : Nat) (acc : Int32) (f g : Nat), i + k = r → k < f → k < g → ∃ s, LX8_racesRun_4 x q f acc (nI i) = some s ∧ LX9_told_119 y q g acc (nI i) = some s := by
  have hr := h.r24
  intro k
  induction k with
  | zero =>
    intro i acc f g hk hf hg
    obtain ⟨f, rfl⟩ : ∃ z, f = z + 1 := ⟨f - 1, by omega⟩
    obtain ⟨g, rfl⟩ : ∃ z, g = z + 1 := ⟨g - 1, by omega⟩
    have e : i = r := by omega
    subst e
    refine ⟨acc, ?_, ?_⟩
    · show BX8_racesRun_4 x q _ acc (nI i) = _
      unfold BX8_racesRun_4
      rw [h.R.ex, if_pos (Int32.le_refl _)]
    · show BX9_told_119 y q _ acc (nI i) = _
      unfold BX9_told_119
      rw [h.R.ey, if_pos (Int32.le_refl _)]
  | succ k ih =>
    intro i acc f g hk hf hg
    obtain ⟨f, rfl⟩ : ∃ z, f = z + 1 := ⟨f - 1, by omega⟩
    obtain ⟨g, rfl⟩ : ∃ z, g = z + 1 := ⟨g - 1, by omega⟩
    have hi : i < r := by omega
    have hlt : ¬ nI r ≤ nI i := by
      rw [nI_lei (by omega) (by omega)]
      omega
    obtain ⟨p, po, pl, fo, fl, s, a1, a2, a3, a4, a5, a6, a7, a8, a9⟩ := ra8 h hi
    rw [a5] at a2
    obtain ⟨v, v1, v2, -, -⟩ := place_at (y := y) q (by omega) a7 a6 a2 a3 a5 (fun k hk => (a8 k hk).1)
    show ∃ s, BX8_racesRun_4 x q (LX8_racesRun_4 x q f) acc (nI i) = some s ∧ BX9_told_119 y q (LX9_told_119 y q g) acc (nI i) = some s
    unfold BX8_racesRun_4 BX9_told_119
    rw [h.R.ex, h.R.ey, if_neg hlt, if_neg hlt, a1, v2]
    simp only [Option.bind_some, oc, dK_o a2, if_true, v1, lt, nI_1, Int32.add_zero]
    by_cases c : v = -1
    · rw [if_pos c, if_pos c]
      exact ih (i + 1) acc f g (by omega) (by omega) (by omega)
    · rw [if_neg c, if_neg c]
      exact ih (i + 1) (acc + 1) f g (by omega) (by omega) (by omega)
end RULE
theorem s_told : ST4 Rl := by
  intro x y a1 a2 hr
  obtain ⟨own, n, r, t, u, h⟩ := id hr
  unfold fX8_told fX9_told
  rw [hs9 h]
  simp only [Option.bind_some, decide_eq_true_eq]
  rcases ho h a1 with c | ⟨i, hi, rfl, c⟩
  · rw [ha8n h c, if_neg c]
    exact ⟨_, _, _, rfl, rfl, hr⟩
  · obtain ⟨p, h1, h2, h3, -⟩ := ha8 h hi
    have hb := ib10 h hi
    have hc := cln h hi
    rw [h1, if_pos c]
    simp only [Option.bind_some, oc, if_pos hb, hc, dI_o (k := 0) h3 rfl, dI_o (k := 1) h3 rfl, dI_o (k := 2) h3 rfl, dI_o (k := 3) h3 rfl, dI_o (k := 4) h3 rfl, dI_o (k := 5) h3 rfl]
    by_cases c0 : a2 = 0
    · rw [if_pos c0, if_pos c0]; exact ⟨_, _, _, rfl, rfl, hr⟩
    rw [if_neg c0, if_neg c0]
    by_cases c1 : a2 = 1
    · rw [if_pos c1, if_pos c1]; exact ⟨_, _, _, rfl, rfl, hr⟩
    rw [if_neg c1, if_neg c1]
    by_cases c2 : a2 = 2
    · rw [if_pos c2, if_pos c2]; exact ⟨_, _, _, rfl, rfl, hr⟩
    rw [if_neg c2, if_neg c2]
    by_cases c3 : a2 = 3
    · rw [if_pos c3, if_pos c3]; exact ⟨_, _, _, rfl, rfl, hr⟩
    rw [if_neg c3, if_neg c3]
    by_cases c4 : a2 = 4
    · rw [if_pos c4, if_pos c4]; exact ⟨_, _, _, rfl, rfl, hr⟩
    rw [if_neg c4, if_neg c4]
    by_cases c5 : a2 = 5
    · rw [if_pos c5, if_pos c5]; exact ⟨_, _, _, rfl, rfl, hr⟩
    rw [if_neg c5, if_neg c5]
    by_cases c6 : a2 = 6
    · obtain ⟨w, w1, w2⟩ := wins89 h (nI i)
      rw [if_pos c6, if_pos c6, w1, w2]; exact ⟨_, _, _, rfl, rfl, hr⟩
    rw [if_neg c6, if_neg c6]
    by_cases c7 : a2 = 7
    · have hr24 := h.r24
      obtain ⟨w, w1, w2⟩ := ran_loop h (nI i) r 0 0 NF NF (by omega) (by unfold NF; omega) (by unfold NF; omega)
      have w1 : LX8_racesRun_4 x (nI i) NF 0 0 = some w := w1
      have w2 : LX9_told_119 y (nI i) NF 0 0 = some w := w2
      unfold fX8_racesRun
      rw [if_pos c7, if_pos c7, w1, w2]; exact ⟨_, _, _, rfl, rfl, hr⟩
    rw [if_neg c7, if_neg c7]
    by_cases c8 : a2 = 8
    · obtain ⟨v, z, y', e1, e2, e3, e4, e5, -⟩ := hold89 h hi (y.2.1 9 i)
      rw [if_pos c8, if_pos c8, e1, e2]
      exact ⟨v, z, y', rfl, rfl, own, n, r, t, u, e3⟩
    rw [if_neg c8, if_neg c8]
    by_cases c9 : a2 = 9
    · obtain ⟨v, w, z, y', e1, e2, e3, e4, e5, e6⟩ := ahead89 h hi (show 2 < 3 by decide) (y.2.1 9 i)
      have e1 : fX8_ruledAhead x 2 (nI i) (y.2.1 9 i) = some (v, z) := e1
      have e3 : fX9_read y (nI u) (nI i) (y.2.1 9 i) w 0 (y.2.1 8 i) 2 = some (v, y') := e3
      rw [if_pos c9, if_pos c9, e1, e2, h.T.ev, Option.bind_some, e3]
      exact ⟨v, z, y', rfl, rfl, own, n, r, t, u, e4⟩
    rw [if_neg c9, if_neg c9]
    exact ⟨_, _, _, rfl, rfl, hr⟩
