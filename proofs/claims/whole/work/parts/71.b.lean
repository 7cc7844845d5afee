/-! leads made near -/
def lgu (w w' : MS) : Prop := (∀ j, j ≠ 20 → w'.1 0 j = w.1 0 j) ∧ ∀ k, k ≠ 11 → w'.2.1 k = w.2.1 k
theorem lgu.tr {a b c : MS} (h : lgu a b) (g : lgu b c) : lgu a c := ⟨fun j q => (g.1 j q).trans (h.1 j q), fun k q => (g.2 k q).trans (h.2 k q)⟩
theorem lgt.lgu {w w' : MS} (h : lgt w w') : lgu w w' := ⟨h.1, fun k _ => by rw [h.2]⟩
theorem lgu.kM {w w' : MS} (h : lgu w w') : kM w w' := ⟨⟨fun k hk => h.1 k (ne_in (A := [20]) (by decide) hk (by decide)), fun k hk => h.2 k (ne_in (A := [11]) (by decide) hk (by decide))⟩, h.2 5 (by decide), h.2 6 (by decide), h.2 9 (by decide)⟩
def CB (own : Nat → Nat) (n r t u : Nat) (A Q : Nat → Int32) (F s W : Nat) (z : XS) (w : MS) : Prop := (RO own n r t u z (rs9 w A)) ∧ (z.1 16 5 = nI F) ∧ (z.1 16 6 = nI s) ∧ (w.1 0 15 = nI s) ∧ (s ≤ 3) ∧ (F < 2 ^ n) ∧ (many F ≤ 5) ∧ (W < 400) ∧ (∀ j, j < n → z.2.1 24 j = w.2.1 9 j ∧ 0 ≤ w.2.1 9 j ∧ w.2.1 9 j ≤ 60) ∧ (∀ j, j < n → z.2.1 17 j = rat (rs9 w A) j (W / 100) (nI (W % 100)) (w.2.1 9 j)) ∧ (w.2.1 14 = Q)
theorem CB.R {own : Nat → Nat} {n r t u : Nat} {A Q : Nat → Int32} {F s W : Nat} {z : XS} {w : MS} (zz : CB own n r t u A Q F s W z w) : RO own n r t u z (rs9 w A) := zz.1
theorem CB.ff {own : Nat → Nat} {n r t u : Nat} {A Q : Nat → Int32} {F s W : Nat} {z : XS} {w : MS} (zz : CB own n r t u A Q F s W z w) : z.1 16 5 = nI F := zz.2.1
theorem CB.fs {own : Nat → Nat} {n r t u : Nat} {A Q : Nat → Int32} {F s W : Nat} {z : XS} {w : MS} (zz : CB own n r t u A Q F s W z w) : z.1 16 6 = nI s := zz.2.2.1
theorem CB.ws {own : Nat → Nat} {n r t u : Nat} {A Q : Nat → Int32} {F s W : Nat} {z : XS} {w : MS} (zz : CB own n r t u A Q F s W z w) : w.1 0 15 = nI s := zz.2.2.2.1
theorem CB.s3 {own : Nat → Nat} {n r t u : Nat} {A Q : Nat → Int32} {F s W : Nat} {z : XS} {w : MS} (zz : CB own n r t u A Q F s W z w) : s ≤ 3 := zz.2.2.2.2.1
theorem CB.F1 {own : Nat → Nat} {n r t u : Nat} {A Q : Nat → Int32} {F s W : Nat} {z : XS} {w : MS} (zz : CB own n r t u A Q F s W z w) : F < 2 ^ n := zz.2.2.2.2.2.1
theorem CB.F2 {own : Nat → Nat} {n r t u : Nat} {A Q : Nat → Int32} {F s W : Nat} {z : XS} {w : MS} (zz : CB own n r t u A Q F s W z w) : many F ≤ 5 := zz.2.2.2.2.2.2.1
theorem CB.W4 {own : Nat → Nat} {n r t u : Nat} {A Q : Nat → Int32} {F s W : Nat} {z : XS} {w : MS} (zz : CB own n r t u A Q F s W z w) : W < 400 := zz.2.2.2.2.2.2.2.1
theorem CB.L {own : Nat → Nat} {n r t u : Nat} {A Q : Nat → Int32} {F s W : Nat} {z : XS} {w : MS} (zz : CB own n r t u A Q F s W z w) : ∀ j, j < n → z.2.1 24 j = w.2.1 9 j ∧ 0 ≤ w.2.1 9 j ∧ w.2.1 9 j ≤ 60 := zz.2.2.2.2.2.2.2.2.1
theorem CB.B {own : Nat → Nat} {n r t u : Nat} {A Q : Nat → Int32} {F s W : Nat} {z : XS} {w : MS} (zz : CB own n r t u A Q F s W z w) : ∀ j, j < n → z.2.1 17 j = rat (rs9 w A) j (W / 100) (nI (W % 100)) (w.2.1 9 j) := zz.2.2.2.2.2.2.2.2.2.1
theorem CB.K {own : Nat → Nat} {n r t u : Nat} {A Q : Nat → Int32} {F s W : Nat} {z : XS} {w : MS} (zz : CB own n r t u A Q F s W z w) : w.2.1 14 = Q := zz.2.2.2.2.2.2.2.2.2.2
section NEAR
variable {own : Nat → Nat} {n r t u : Nat} {A Q : Nat → Int32} {F s W : Nat} {z : XS} {w : MS}
theorem CB.mv (c : CB own n r t u A Q F s W z w) {z' : XS} {w' : MS} (h : s89 z z') (g : lgu w w') : CB own n r t u A Q F s W z' w' := by
  refine ⟨c.R.keep h.kX (kM_rs9 A g.kM.1 g.kM.2.1 g.kM.2.2.1), by rw [h.1]; exact c.ff, by rw [h.1]; exact c.fs, by rw [g.1 15 (by decide)]; exact c.ws, c.s3, c.F1, c.F2, c.W4, fun j hj => ?_, fun j hj => ?_, by rw [g.2 14 (by decide)]; exact c.K⟩
  · rw [h.2.1 24 (by decide) (by decide), g.2 9 (by decide)]
    exact c.L j hj
  · rw [h.2.1 17 (by decide) (by decide), g.2 9 (by decide), c.B j hj]
    refine (rat_eq (fun k hk => ?_) j _ _ _).symm
    rw [rs9_ne (ne_in (A := [9]) (by decide) hk (by decide)), rs9_ne (ne_in (A := [9]) (by decide) hk (by decide))]
    exact g.2 k (ne_in (A := [11]) (by decide) hk (by decide))
theorem CB.F10 (c : CB own n r t u A Q F s W z w) : F < 1024 := by
  have h1 := c.F1
  have h2 : 2 ^ n ≤ 2 ^ 10 := Nat.pow_le_pow_right (by decide) c.R.n10
  have e : (2 : Nat) ^ 10 = 1024 := by decide
  omega
theorem CB.lay (c : CB own n r t u A Q F s W z w) : ∃ w1, fX9_lays w (nI F) (nI W) = some w1 ∧ lgu w w1 ∧ CZ own n r t u A F s z w1 := by
  have hW := c.W4
  obtain ⟨w1, b1, b2, b3, b4, b5⟩ := lays9 (F := F) c.R c.W4 c.F10
  have g : lgu w w1 := ⟨fun j _ => by rw [b2], b3⟩
  refine ⟨w1, b1, g, c.R.keep (kX.rf z) (kM_rs9 A g.kM.1 g.kM.2.1 g.kM.2.2.1), c.ff, c.fs, by rw [b2]; exact c.ws, c.s3, c.F1, c.F2, fun i hi ht => ?_, fun i hi => ?_⟩
  · rw [b5 i hi ht, c.B i hi]
  · obtain ⟨-, l0, l1⟩ := c.L i hi
    rw [c.B i hi]
    exact rat_bd c.R hi (by omega) _ l0 l1
/-- all that a turn looks at -/
theorem CB.un (c : CB own n r t u A Q F s W z w) (F0 : 1 ≤ F) : ∃ a b h z' w1 w2, fX0_shareOut z = some z' ∧ fX0_gap z' = some (nI (a - b)) ∧ fX0_likeliest z' = some (nI h) ∧ fX9_lays w (nI F) (nI W) = some w1 ∧ fX9_unevenness w1 (nI F) = some (nL (a - b), w2) ∧ s89 z z' ∧ lgu w w2 ∧ w2.1 0 20 = nI h ∧ h < n ∧ a ≤ 5042100 := by
  obtain ⟨w1, b1, b2, b3⟩ := c.lay
  obtain ⟨a, b, h, z', w2, l1, l2, l3, l4, l5, l6, l7, l8, l9⟩ := uneven89 b3 F0
  exact ⟨a, b, h, z', w1, w2, l1, l2, l3, b1, l4, l5, b2.tr l6.lgu, l7, l8, l9⟩
theorem CB.add (c : CB own n r t u A Q F s W z w) {h : Nat} (hh : h < n) {d l : Int32} (hd : z.2.1 24 h + d = l) (l0 : 0 ≤ l) (l1 : l ≤ 60) : ∃ z0, CB own n r t u A Q F s W z0 (msA w 9 h l) ∧ ∀ z', fX0_shareOut z0 = some z' → fX8_addLead z (nI h) d (nI W) = some z' := by
  have R1 : RO own n r t u (xsA z 24 h l) (rs9 w A) := c.R.keep (kX.A (by decide)) (kM.rf _)
  have e24 : (xsA z 24 h l).2.1 24 h = l := by
    show (if h = h then l else _) = l
    rw [if_pos rfl]
  have hw := weigh8 R1 hh c.W4
  rw [e24] at hw
  have req : ∀ j l', rat (rs9 (msA w 9 h l) A) j (W / 100) (nI (W % 100)) l' = rat (rs9 w A) j (W / 100) (nI (W % 100)) l' := fun j l' => rat_eq (fun k hk => by
    rw [rs9_ne (ne_in (A := [9]) (by decide) hk (by decide)), rs9_ne (ne_in (A := [9]) (by decide) hk (by decide))]
    exact up2_ne (ne_in (A := [9]) (by decide) hk (by decide))) j _ _ _
  refine ⟨xsA (xsA z 24 h l) 17 h (rat (rs9 w A) h (W / 100) (nI (W % 100)) l), ⟨R1.keep (kX.A (by decide)) (kM_rs9 A (kN.A (by decide)) rfl rfl), c.ff, c.fs, c.ws, c.s3, c.F1, c.F2, c.W4, fun j hj => ?_, fun j hj => ?_, c.K⟩, fun z' hz => ?_⟩
  · show (if j = h then l else z.2.1 24 j) = (if j = h then l else w.2.1 9 j) ∧ 0 ≤ (if j = h then l else w.2.1 9 j) ∧ (if j = h then l else w.2.1 9 j) ≤ 60
    by_cases q : j = h
    · simp only [if_pos q]
      exact ⟨trivial, l0, l1⟩
    · simp only [if_neg q]
      exact c.L j hj
  · rw [req]
    show (if j = h then rat (rs9 w A) h (W / 100) (nI (W % 100)) l else z.2.1 17 j) = rat (rs9 w A) j (W / 100) (nI (W % 100)) (if j = h then l else w.2.1 9 j)
    by_cases q : j = h
    · rw [if_pos q, if_pos q, q]
    · rw [if_neg q, if_neg q]
      exact c.B j hj
  · unfold fX8_addLead
    simp only [if_pos (ib10 c.R hh), cln c.R hh, hd, lt, hw, Option.bind_some, hz]
theorem bal_loop (F0 : 1 ≤ F) : ∀ (k d f g : Nat) (z0 z : XS) (w : MS), d + k = 40 → k < f → k + 1 < g → CB own n r t u A Q F s W z0 w → fX0_shareOut z0 = some z → ∃ T zf z0f wf, bs (LX8_balance_15 (nI W) f (nI d) z) (fun a => some a) (fun x17 => some (40, x17)) = some (nI T, zf) ∧ LX9_nears_5 (nI F) (nI W) g (nI d) true w = some (nI T, wf) ∧ CB own n r t u A Q F s W z0f wf ∧ fX0_shareOut z0f = some zf := by
  intro k
  induction k with
  | zero =>
    intro d f g z0 z w hk hf hg c hz
    obtain ⟨f, rfl⟩ : ∃ z, f = z + 1 := ⟨f - 1, by omega⟩
    obtain ⟨g, rfl⟩ : ∃ z, g = z + 1 + 1 := ⟨g - 2, by omega⟩
    have hn := c.R.n10
    have e : d = 40 := by omega
    subst e
    obtain ⟨a, b, h, z', w1, w2, l1, l2, l3, l4, l5, l6, l7, l8, l9, l10⟩ := c.un F0
    refine ⟨40, z, z0, w2, ?_, ?_, c.mv (s89.rf z0) l7, hz⟩
    · show bs (BX8_balance_15 _ _ (nI 40) z) _ _ = _
      unfold BX8_balance_15
      rw [if_pos (by decide)]
      rfl
    · show BX9_nears_5 _ _ (LX9_nears_5 (nI F) (nI W) (g + 1)) (nI 40) true w = _
      unfold BX9_nears_5
      rw [if_pos rfl, l4, Option.bind_some, l5]
      simp only [bind2, lt]
      rw [if_pos (by decide), Option.bind_some, if_neg (by decide)]
      show BX9_nears_5 _ _ _ (nI 40) false w2 = _
      unfold BX9_nears_5
      rw [if_neg (by decide)]
  | succ k ih =>
    intro d f g z0 z w hk hf hg c hz
    obtain ⟨f, rfl⟩ : ∃ z, f = z + 1 := ⟨f - 1, by omega⟩
    obtain ⟨g, rfl⟩ : ∃ z, g = z + 1 + 1 := ⟨g - 2, by omega⟩
    have hn := c.R.n10
    have n40 : ¬ (40 : Int32) ≤ nI d := by
      rw [show (40 : Int32) = nI 40 from rfl, nI_lei (by decide) (by omega)]
      omega
    obtain ⟨a, b, h, z', w1, w2, l1, l2, l3, l4, l5, l6, l7, l8, l9, l10⟩ := c.un F0
    have ez : z' = z := Option.some.inj (l1.symm.trans hz)
    subst ez
    have c2 : CB own n r t u A Q F s W z' w2 := c.mv l6 l7
    obtain ⟨e24, b0, b1⟩ := c2.L h l9
    obtain ⟨m, hm, em⟩ := ix_of (n := 61) (by decide) b0 (Int32.lt_of_le_of_lt b1 (by decide))
    have hb : ib (nI h) 10 := ib_nI (by omega) (by decide)
    have hc : (nI h).toNatClampNeg = h := cl_nI (by omega)
    have stop : ∀ (g : Nat) (w : MS), LX9_nears_5 (nI F) (nI W) (g + 1) (nI d) false w = some (nI d, w) := by
      intro g w
      show BX9_nears_5 _ _ _ (nI d) false w = _
      unfold BX9_nears_5
      rw [if_neg (by decide)]
    have e8 : LX8_balance_15 (nI W) (f + 1) (nI d) z' = BX8_balance_15 (nI W) (LX8_balance_15 (nI W) f) (nI d) z' := rfl
    have e9 : LX9_nears_5 (nI F) (nI W) (g + 1 + 1) (nI d) true w = BX9_nears_5 (nI F) (nI W) (LX9_nears_5 (nI F) (nI W) (g + 1)) (nI d) true w := rfl
    rw [e8, e9]
    unfold BX8_balance_15 BX9_nears_5
    rw [if_neg n40, if_pos rfl, l2, l3, l4, Option.bind_some, Option.bind_some, Option.bind_some, l5]
    simp only [bind2, lt, l8, if_neg n40, if_pos hb, hc, e24, em]
    by_cases q60 : m < 60
    · have t1 : nI m < 60 := (nI_lti (b := 60) (by omega) (by decide)).mpr q60
      have t2 : ¬ (60 : Int32) ≤ nI m := Int32.not_le.mpr t1
      rw [if_pos t1, if_neg t2]
      simp only [Option.bind_some, if_true, nI_1]
      obtain ⟨z1, c3, a1⟩ := c2.add (d := 1) (l := nI (m + 1)) l9 (by rw [e24, em, nI_1]) ((nI_lei (a := 0) (by decide) (by omega)).mpr (Nat.zero_le _)) ((nI_lei (b := 60) (by omega) (by decide)).mpr (by omega))
      obtain ⟨a', b', h', z2, w3, w4, m1, m2, m3, m4, m5, m6, m7, m8, m9, m10⟩ := c3.un F0
      rw [a1 z2 m1, m4, Option.bind_some, Option.bind_some, m2, Option.bind_some, m5]
      simp only [bind2]
      have t3 : nI (a' - b') < nI (a - b) ↔ a' - b' < a - b := nI_lti (by omega) (by omega)
      have t4 : nL (a - b) ≤ nL (a' - b') ↔ a - b ≤ a' - b' := nL_lei (by omega) (by omega)
      by_cases qq : a' - b' < a - b
      · rw [if_pos (t3.mpr qq), if_neg (fun z => by have := t4.mp z; omega)]
        simp only [Option.bind_some, if_true]
        exact ih (d + 1) f (g + 1) z1 z2 w4 (by omega) (by omega) (by omega) (c3.mv (s89.rf z1) m7) m1
      · rw [if_neg (fun z => qq (t3.mp z)), if_pos (t4.mpr (by omega))]
        have c4 : CB own n r t u A Q F s W z2 w4 := c3.mv m6 m7
        obtain ⟨e24', -, -⟩ := c4.L h l9
        have e9' : w4.2.1 9 h = nI (m + 1) := by
          rw [m7.2 9 (by decide)]
          show (if h = h then nI (m + 1) else _) = _
          rw [if_pos rfl]
        obtain ⟨z3, c5, a2⟩ := c4.add (d := -1) (l := nI m) l9 (by rw [e24', e9', neg1_add]) ((nI_lei (a := 0) (by decide) (by omega)).mpr (Nat.zero_le _)) ((nI_lei (b := 60) (by omega) (by decide)).mpr (by omega))
        obtain ⟨_, _, _, z4, _, _, k1, -⟩ := c5.un F0
        rw [a2 z4 k1]
        simp only [Option.bind_some, Bool.false_eq_true, if_false, e9', nI_pred, stop]
        exact ⟨d, z4, z3, msA w4 9 h (nI m), rfl, rfl, c5, k1⟩
    · have t1 : ¬ nI m < 60 := fun z => q60 ((nI_lti (b := 60) (by omega) (by decide)).mp z)
      rw [if_neg t1, if_pos (Int32.not_lt.mp t1)]
      simp only [Option.bind_some, Bool.false_eq_true, if_false, stop]
      exact ⟨d, z', z0, w2, rfl, rfl, c.mv (s89.rf z0) l7, hz⟩
theorem nears89 {x : XS} {w : MS} (h : RO own n r t u x (rs9 w A)) (hA : ∀ j, j < n → w.2.1 9 j = A j) (hW : W < 400) (F0 : 1 ≤ F) (F1 : F < 2 ^ n) (F2 : many F ≤ 5) : ∃ s T zf z0 wl, fX8_balance x (nI F) (nI W) = some (nI T, zf) ∧ fX9_nears w (nI F) (nI W) = some (nI T, wl) ∧ fX0_shareOut z0 = some zf ∧ CZ own n r t u A F s z0 wl ∧ CB own n r t u A (w.2.1 14) F s W zf wl := by
  have hn := h.n10
  obtain ⟨z, a1, a2, a3, a4, a5, a6, a7⟩ := enter89 (nI F) h hW
  obtain ⟨s, hs, es⟩ := ix_of (n := 4) (by decide) h.P.s0 (Int32.lt_of_le_of_lt h.P.s1 (by decide))
  have es : w.1 0 15 = nI s := es
  have ep : x.1 0 3 = w.1 0 15 := h.P.es
  have c : CB own n r t u A (w.2.1 14) F s W z w := by
    refine ⟨h.keep a2 (kM.rf _), a3, by rw [a4, ep, es], es, by omega, F1, F2, hW, fun j hj => ?_, fun j hj => ?_, rfl⟩
    · have v := h.H.va j hj
      rw [a6 j hj, hA j hj]
      exact ⟨rfl, v.ld0, v.ld1⟩
    · rw [a7 j hj, hA j hj]
      rfl
  obtain ⟨_, _, _, z1, _, _, l1, -⟩ := c.un F0
  obtain ⟨T, zf, z0, wf, b1, b2, b3, b4⟩ := bal_loop F0 40 0 NF NF z z1 w (by omega) (by unfold NF; omega) (by unfold NF; omega) c l1
  have b1 : bs (LX8_balance_15 (nI W) NF 0 z1) (fun a => some a) (fun x17 => some (40, x17)) = some (nI T, zf) := b1
  have b2 : LX9_nears_5 (nI F) (nI W) NF 0 true w = some (nI T, wf) := b2
  obtain ⟨wl, d1, d2, d3⟩ := b3.lay
  obtain ⟨_, _, _, z2, _, e1, -, -, -, e6, -⟩ := uneven89 d3 F0
  have ez : z2 = zf := Option.some.inj (e1.symm.trans b4)
  subst ez
  refine ⟨s, T, z2, z0, wl, ?_, ?_, b4, d3, b3.mv e6 d2⟩
  · unfold fX8_balance
    rw [a1, Option.bind_some, l1, Option.bind_some]
    exact b1
  · unfold fX9_nears
    rw [b2]
    simp only [bind2, d1, Option.bind_some]
theorem asideN_loop {x : XS} {y : MS} (h : RO own n r t u x y) {q1 q2 q3 : Int32} : ∀ (k i f : Nat) (w : MS), i + k = n → k < f → kM y w → (∀ j, j < i → w.2.1 14 j = y.2.1 9 j) → ∃ w', LX9_near_52 q1 q2 q3 f (nI i) w = some w' ∧ kM y w' ∧ ∀ j, j < n → w'.2.1 14 j = y.2.1 9 j := by
  have hn := h.n10
  intro k
  induction k with
  | zero =>
    intro i f w hk hf kw hz
    obtain ⟨f, rfl⟩ : ∃ z, f = z + 1 := ⟨f - 1, by omega⟩
    have e : i = n := by omega
    subst e
    refine ⟨w, ?_, kw, hz⟩
    show BX9_near_52 _ _ _ _ (nI i) w = _
    unfold BX9_near_52
    rw [(h.keep (kX.rf x) kw).H.ey, if_pos (Int32.le_refl _)]
  | succ k ih =>
    intro i f w hk hf kw hz
    obtain ⟨f, rfl⟩ : ∃ z, f = z + 1 := ⟨f - 1, by omega⟩
    have hi : i < n := by omega
    have hlt : ¬ nI n ≤ nI i := by
      rw [nI_lei (by omega) (by omega)]
      omega
    have e9 : w.2.1 9 i = y.2.1 9 i := congrFun kw.2.2.2 i
    obtain ⟨w', l1, l2, l3⟩ := ih (i + 1) f (msA w 14 i (w.2.1 9 i)) (by omega) (by omega) (kw.tr (kM.A (by decide))) (fun j hj => by
      show (if j = i then w.2.1 9 i else w.2.1 14 j) = _
      by_cases q : j = i
      · rw [if_pos q, q]
        exact e9
      · rw [if_neg q]
        exact hz j (by omega))
    refine ⟨w', ?_, l2, l3⟩
    show BX9_near_52 _ _ _ _ (nI i) w = _
    unfold BX9_near_52
    rw [(h.keep (kX.rf x) kw).H.ey, if_neg hlt]
    simp only [if_pos (ib10 h hi), cln h hi, lt, nI_1]
    exact l1
theorem restoreN_loop {A : Nat → Int32} {q5 : Int64} {w0 : MS} (hn : n ≤ 10) (e13 : w0.1 0 13 = nI n) (e14 : ∀ j, j < n → w0.2.1 14 j = A j) : ∀ (k i f : Nat) (w : MS), i + k = n → k < f → w.1 = w0.1 → (∀ j, j ≠ 9 → w.2.1 j = w0.2.1 j) → (∀ j, j < i → w.2.1 9 j = A j) → ∃ w', LX9_near_143 q5 f (nI i) w = some w' ∧ w'.1 = w0.1 ∧ (∀ j, j ≠ 9 → w'.2.1 j = w0.2.1 j) ∧ ∀ j, j < n → w'.2.1 9 j = A j := by
  intro k
  induction k with
  | zero =>
    intro i f w hk hf h1 h2 h3
    obtain ⟨f, rfl⟩ : ∃ z, f = z + 1 := ⟨f - 1, by omega⟩
    have e : i = n := by omega
    subst e
    refine ⟨w, ?_, h1, h2, h3⟩
    show BX9_near_143 _ _ (nI i) w = _
    unfold BX9_near_143
    rw [h1, e13, if_pos (Int32.le_refl _)]
  | succ k ih =>
    intro i f w hk hf h1 h2 h3
    obtain ⟨f, rfl⟩ : ∃ z, f = z + 1 := ⟨f - 1, by omega⟩
    have hlt : ¬ nI n ≤ nI i := by
      rw [nI_lei (by omega) (by omega)]
      omega
    have hb : ib (nI i) 10 := ib_nI (by omega) (by decide)
    have hc : (nI i).toNatClampNeg = i := cl_nI (by omega)
    have e : w.2.1 14 i = A i := by
      rw [h2 14 (by decide)]
      exact e14 i (by omega)
    obtain ⟨w', l1, l2, l3, l4⟩ := ih (i + 1) f (msA w 9 i (A i)) (by omega) (by omega) h1 (fun j hj => (up2_ne hj).trans (h2 j hj)) (fun j hj => by
      show (if j = i then A i else w.2.1 9 j) = _
      by_cases q : j = i
      · rw [if_pos q, q]
      · rw [if_neg q]
        exact h3 j (by omega))
    refine ⟨w', ?_, l2, l3, l4⟩
    show BX9_near_143 _ _ (nI i) w = _
    unfold BX9_near_143
    rw [h1, e13, if_neg hlt]
    simp only [if_pos hb, hc, lt, nI_1, e]
    exact l1
/-- nothing changed but leads, and these are as they were -/
theorem restore9 {z : XS} {w : MS} (R : RO own n r t u z (rs9 w A)) (e14 : ∀ j, j < n → w.2.1 14 j = A j) (v : Int64) : ∃ w2, LX9_near_143 v NF 0 w = some w2 ∧ RO own n r t u z w2 := by
  have hn := R.n10
  obtain ⟨w2, g1, g2, g3, g4⟩ := restoreN_loop (A := A) (q5 := v) (w0 := w) hn R.H.ey e14 n 0 NF w (by omega) (by unfold NF; omega) rfl (fun _ _ => rfl) (fun j hj => absurd hj (Nat.not_lt_zero j))
  refine ⟨w2, g1, R.lead ⟨fun j _ => by rw [g2]; rfl, fun j hj => ?_⟩ (g3 5 (by decide)) (g3 6 (by decide)) (fun j hj => g4 j hj)⟩
  have : ∀ k, k ∈ ([1, 2, 3, 4, 7, 8, 10, 15, 16, 17, 18, 19, 22, 23, 24, 25, 26, 27, 28, 29] : List Nat) → k ≠ 9 := by decide
  rw [g3 j (this j hj), rs9_ne (this j hj)]
theorem laid_loop {wl : MS} {v : Int32} (hL : ∀ j, j < n → 0 ≤ wl.2.1 9 j ∧ wl.2.1 9 j ≤ 60) : ∀ (k i f : Nat) (z : XS), i + k = n → k < f → (∀ j, j < n → z.2.1 24 j = wl.2.1 9 j) → RO own n r t u z (rs9 wl (fun j => if j < i then wl.2.1 9 j else A j)) → ∃ z2, LX8_lay_28 v f (nI i) z = some z2 ∧ RO own n r t u z2 (rs9 wl (fun j => if j < n then wl.2.1 9 j else A j)) := by
  intro k
  induction k with
  | zero =>
    intro i f z hk hf h24 R
    obtain ⟨f, rfl⟩ : ∃ z, f = z + 1 := ⟨f - 1, by omega⟩
    have e : i = n := by omega
    subst e
    refine ⟨z, ?_, R⟩
    show BX8_lay_28 _ _ (nI i) z = _
    unfold BX8_lay_28
    rw [R.H.ex, if_pos (Int32.le_refl _)]
  | succ k ih =>
    intro i f z hk hf h24 R
    obtain ⟨f, rfl⟩ : ∃ z, f = z + 1 := ⟨f - 1, by omega⟩
    have hn := R.n10
    have hi : i < n := by omega
    have hlt : ¬ nI n ≤ nI i := by
      rw [nI_lei (by omega) (by omega)]
      omega
    obtain ⟨p, h1, h2, h3, h4⟩ := ha8 R hi
    have hv := R.H.va i hi
    have w3 := dPut_o (k := 5) (v := .int (wl.2.1 9 i)) h3 (Nat.le_of_ble_eq_true rfl)
    have same : ∀ (f : Nat → Int32) (i j : Nat), f j = if j = i then f i else f j := by
      intro f i j
      split
      · rename_i q
        rw [q]
      · rfl
    have R' := R.setH (y' := rs9 wl (fun j => if j < i + 1 then wl.2.1 9 j else A j)) hi h4 h2 h3 ⟨hv.kd0, hv.kd1, hv.no0, hv.no1, hv.gr0, hv.gr1, hv.st0, hv.st1, hv.ag0, hv.ag1, (hL i hi).1, (hL i hi).2⟩ ⟨fun _ _ => rfl, fun j hj => by
      have : ∀ k, k ∈ ([1, 2, 3, 4, 7, 8, 10, 15, 16, 17, 18, 19, 22, 23, 24, 25, 26, 27, 28, 29] : List Nat) → k ≠ 9 := by decide
      rw [rs9_ne (this j hj), rs9_ne (this j hj)]⟩ (same _ _) (same _ _) (fun j => by
      show (if j < i + 1 then wl.2.1 9 j else A j) = if j = i then wl.2.1 9 i else (if j < i then wl.2.1 9 j else A j)
      by_cases q : j = i
      · rw [if_pos (by omega), if_pos q, q]
      · rw [if_neg q]
        by_cases q2 : j < i
        · rw [if_pos (by omega), if_pos q2]
        · rw [if_neg (by omega), if_neg q2])
    have key := fun hh => ih (i + 1) f _ (by omega) (by omega) hh R'
    obtain ⟨z2, l1, l2⟩ := key h24
    refine ⟨z2, ?_, l2⟩
    show BX8_lay_28 _ _ (nI i) z = _
    unfold BX8_lay_28
    rw [R.H.ex, if_neg hlt, h1, Option.bind_some]
    simp only [oc, if_pos (ib10 R hi), cln R hi, h24 i hi, lt, nI_1]
    rw [w3, Option.bind_some]
    exact l1
end NEAR
theorem s_lay : ST10 Rl := by
  intro x y a1 a2 hr
  obtain ⟨own, n, r, t, u, h⟩ := id hr
  have hn := h.n10
  unfold fX8_lay fX9_lay
  rw [wh8, wh9]
  simp only [Option.bind_some, decide_eq_true_eq]
  rcases isField89 h a1 with ⟨⟨F, rfl, F0, F1, F2⟩, e1, e2⟩ | ⟨-, e1, e2⟩
  · rw [e1, e2]
    simp only [Option.bind_some, if_true]
    rcases of400 a2 with c | ⟨W, hW, rfl, c, ed, em⟩
    · rw [if_neg c, if_neg c]
      exact ⟨_, _, _, rfl, rfl, hr⟩
    · rw [if_pos c, if_pos c]
      obtain ⟨s, T, zf, z0, wl, b1, b2, b3, b4, b5⟩ := nears89 (A := y.2.1 9) (w := y) (h.keep (kX.rf x) (kM_to9 (kM.rf y))) (fun _ _ => rfl) hW F0 F1 F2
      have ea : (fun j => if j < 0 then wl.2.1 9 j else y.2.1 9 j) = y.2.1 9 := by
        funext j
        rw [if_neg (Nat.not_lt_zero j)]
      obtain ⟨z2, l1, l2⟩ := laid_loop (A := y.2.1 9) (v := nI T) (fun j hj => (b5.L j hj).2) n 0 NF zf (by omega) (by unfold NF; omega) (fun j hj => (b5.L j hj).1) (by rw [ea]; exact b5.R)
      have l1 : LX8_lay_28 (nI T) NF 0 zf = some z2 := l1
      rw [b1, b2]
      simp only [bind2, l1, Option.bind_some]
      refine ⟨_, _, _, rfl, rfl, own, n, r, t, u, l2.lead ⟨fun _ _ => rfl, fun j hj => ?_⟩ rfl rfl (fun j hj => ?_)⟩
      · have : ∀ k, k ∈ ([1, 2, 3, 4, 7, 8, 10, 15, 16, 17, 18, 19, 22, 23, 24, 25, 26, 27, 28, 29] : List Nat) → k ≠ 9 := by decide
        rw [rs9_ne (this j hj)]
      · show wl.2.1 9 j = if j < n then wl.2.1 9 j else y.2.1 9 j
        rw [if_pos hj]
  · rw [e1, e2]
    exact ⟨_, _, _, rfl, rfl, hr⟩
theorem s_near : ST9 Rl := by
  intro x y a1 a2 a3 hr
  obtain ⟨own, n, r, t, u, h⟩ := id hr
  have hn := h.n10
  unfold fX8_near fX9_near
  rw [wh8, wh9, in8, in9i (lo := 0) (hi := 2) (l := 0) (h := 2) rfl rfl]
  rcases isField89 h a1 with ⟨⟨F, rfl, F0, F1, F2⟩, e1, e2⟩ | ⟨-, e1, e2⟩
  · rw [e1, e2]
    simp only [Option.bind_some, if_true, decide_eq_true_eq]
    have hF : F < 1024 := by
      have h2 : 2 ^ n ≤ 2 ^ 10 := Nat.pow_le_pow_right (by decide) hn
      have e : (2 : Nat) ^ 10 = 1024 := by decide
      omega
    rcases of400 a2 with c | ⟨W, hW, rfl, c, ed, em⟩
    · have : ∃ b, (if a3 < 10 then some false else Option.bind (fX8_isIn x (nI F) (a3 - 10)) fun v1 => if v1 = true then some true else some false) = some b := by
        by_cases q : a3 < 10
        · exact ⟨false, by rw [if_pos q]⟩
        · rw [if_neg q]
          rcases ho h (a3 - 10) with q2 | ⟨i, hi, e, q2⟩
          · rw [isIn8n h _ q2]
            exact ⟨_, rfl⟩
          · rw [e, isIn8 h _ hi, Option.bind_some]
            split
            · exact ⟨_, rfl⟩
            · exact ⟨_, rfl⟩
      obtain ⟨b, eb⟩ := this
      rw [eb, Option.bind_some, if_neg c, if_neg c]
      exact ⟨_, _, _, rfl, rfl, hr⟩
    · obtain ⟨w0, d1, d2, d3⟩ := asideN_loop h (q1 := nI F) (q2 := nI W) (q3 := a3) n 0 NF y (by omega) (by unfold NF; omega) (kM.rf y) (fun j hj => absurd hj (Nat.not_lt_zero j))
      have d1 : LX9_near_52 (nI F) (nI W) a3 NF 0 y = some w0 := d1
      obtain ⟨s, T, zf, z0, wl, b1, b2, b3, b4, b5⟩ := nears89 (A := y.2.1 9) (w := w0) (h.keep (kX.rf x) (kM_to9 d2)) (fun j _ => congrFun d2.2.2.2 j) hW F0 F1 F2
      have e14 : ∀ j, j < n → wl.2.1 14 j = y.2.1 9 j := fun j hj => by
        rw [b5.K]
        exact d3 j hj
      simp only [if_pos c, d1, b1, b2, Option.bind_some, bind2]
      by_cases q10 : a3 < 10
      · rw [if_pos q10, Option.bind_some, if_neg (by decide)]
        simp only [Bool.false_eq_true, if_false]
        by_cases q2 : 0 ≤ a3 ∧ a3 ≤ 2
        · rw [if_pos q2, if_pos q2]
          by_cases q0 : a3 = 0
          · rw [if_pos q0, if_pos q0]
            obtain ⟨w2, g1, g2⟩ := restore9 b5.R e14 (nI T).toInt64
            simp only [g1, Option.bind_some]
            exact ⟨_, _, _, rfl, rfl, own, n, r, t, u, g2⟩
          · rw [if_neg q0, if_neg q0, if_pos q10]
            obtain ⟨a, b, hb, z', w', l1, l2, l3, l4, l5, l6, l7, l8, l9⟩ := uneven89 b4 F0
            have ez : z' = zf := Option.some.inj (l1.symm.trans b3)
            subst ez
            have cz' := b4.mv2 l5 l6
            obtain ⟨K, k1, k2, k3, k4⟩ := cases89 cz'
            obtain ⟨v, v1, v2⟩ := lowest89 (a := a - b) (b := 60 * K) (by omega) (by omega) (by omega) (a3 - 1)
            rw [← nI_ml 60 K] at v1
            rw [← nL_ml 60 K] at v2
            have v1 : fX8_inLowestTerms (nI (a - b)) (60 * nI K) (a3 - 1) = some v := v1
            have v2 : fX9_lowest (nL (a - b)) (60 * nL K) (a3 - 1) = some v := v2
            obtain ⟨w2, g1, g2⟩ := restore9 cz'.R (fun j hj => by rw [l6.2]; exact e14 j hj) v
            rw [l2, l4]
            simp only [Option.bind_some, bind2, k1, k2, v1, v2, g1]
            exact ⟨_, _, _, rfl, rfl, own, n, r, t, u, g2⟩
        · rw [if_neg q2, if_neg q2, if_pos q10]
          exact ⟨_, _, _, rfl, rfl, hr⟩
      · have q2 : ¬ (0 ≤ a3 ∧ a3 ≤ 2) := fun z => q10 (Int32.lt_of_le_of_lt z.2 (by decide))
        have q0 : ¬ a3 = 0 := by
          rintro rfl
          exact q10 (by decide)
        rw [if_neg q10, if_neg q2, if_neg q10]
        rcases ho h (a3 - 10) with q3 | ⟨i, hi, e, q3⟩
        · rw [isIn8n h _ q3, isOf9n h _ q3]
          simp only [Option.bind_some, Bool.false_eq_true, if_false, if_neg q2]
          exact ⟨_, _, _, rfl, rfl, hr⟩
        · rw [e, isIn8 h _ hi, isOf9 h _ hi]
          simp only [Option.bind_some]
          by_cases b : inF (nI F) i = true
          · simp only [if_pos b, if_true, Option.bind_some, if_neg q0, if_neg q10, if_pos (ib10 h hi), cln h hi, (b5.L i hi).1]
            obtain ⟨w2, g1, g2⟩ := restore9 b5.R e14 (wl.2.1 9 i).toInt64
            simp only [g1, Option.bind_some]
            exact ⟨_, _, _, rfl, rfl, own, n, r, t, u, g2⟩
          · simp only [if_neg b, Bool.false_eq_true, if_false, Option.bind_some, if_neg q2]
            exact ⟨_, _, _, rfl, rfl, hr⟩
  · have : ∃ b, (if a3 < 10 then some false else Option.bind (fX8_isIn x a1 (a3 - 10)) fun v1 => if v1 = true then some true else some false) = some b := by
      by_cases q : a3 < 10
      · exact ⟨false, by rw [if_pos q]⟩
      · rw [if_neg q]
        rcases ho h (a3 - 10) with q2 | ⟨i, hi, e, q2⟩
        · rw [isIn8n h _ q2]
          exact ⟨_, rfl⟩
        · rw [e, isIn8 h _ hi, Option.bind_some]
          split
          · exact ⟨_, rfl⟩
          · exact ⟨_, rfl⟩
    obtain ⟨b, eb⟩ := this
    rw [e1, e2, eb]
    exact ⟨_, _, _, rfl, rfl, hr⟩
