/-! sheets anew, stretches copied -/
theorem RS.setI {own : Nat → Nat} {hp hp' : Nat → Option DE} {row : Nat → Option Nat} {y26 y27 y28 y29 z29 : Nat → Int32} (h : RS own hp row y26 y27 y28 y29) {o a ai m : Nat} {f g : Nat → Int32} {so : Int32} (ho : o < 4) (er : row o = some a) (ea : hp a = some (.inl (5, [.int so, .ref ai]))) (ei : hp ai = some (.inr (m, f))) (ow : own ai = 900 + o) (e' : ∀ b, hp' b = if b = ai then some (.inr (m, g)) else hp b) (hg : ∀ k, k < m → g k = z29 (40 * o + k)) (hz : ∀ d, d < 40 * o ∨ 40 * o + 40 ≤ d → z29 d = y29 d) : RS own hp' row y26 y27 y28 z29 := by
  intro s hs
  rcases h.at' s hs with w | ⟨p1, b, bi, m', f', p2, p3, p4, p5, p6, p7, p8, p9, p10, p11⟩
  · exact Or.inl w
  · by_cases q : s = o
    · subst q
      have e1 : b = a := Option.some.inj (p2.symm.trans er)
      subst e1
      have e2 := p5.symm.trans ea
      injection e2 with e2
      injection e2 with e2
      injection e2 with _ e2
      injection e2 with _ e2
      injection e2 with e2 _
      injection e2 with e2
      subst e2
      have e3 := p6.symm.trans ei
      injection e3 with e3
      injection e3 with e3
      injection e3 with e3 _
      subst e3
      refine Or.inr ⟨p1, b, bi, m', g, p2, p3, p4, ?_, ?_, p7, p8, p9, p10, hg⟩
      · rw [e', if_neg (by rintro rfl; omega)]; exact p5
      · rw [e', if_pos rfl]
    · refine Or.inr ⟨p1, b, bi, m', f', p2, p3, p4, ?_, ?_, p7, p8, p9, p10, fun k hk => ?_⟩
      · rw [e', if_neg (by rintro rfl; omega)]; exact p5
      · rw [e', if_neg (by rintro rfl; omega)]; exact p6
      · rw [hz _ (by omega)]; exact p11 k hk
theorem at40i (s i k : Nat) : (((40 : Int32) * nI s) + nI i) + nI k = nI (40 * s + i + k) := by
  rw [at40, nI_ad]
def cpr (w : Nat → Int32) (src dst lo hi : Nat) : Nat → Int32 := fun d => if dst + lo ≤ d ∧ d < dst + hi then w (src + (d - dst)) else w d
theorem copy_dn {s i o j n : Nat} {w : Nat → Int32} {y : MS} (h1 : 40 * s + i + n ≤ 160) (h2 : 40 * o + j + n ≤ 160) (hd : 40 * o + j ≤ 40 * s + i ∨ 40 * s + i + n ≤ 40 * o + j) : ∀ (k c g : Nat) (z : MS), c + k = n → k < g → z.1 = y.1 → (∀ k, k ≠ 29 → z.2.1 k = y.2.1 k) → z.2.1 29 = cpr w (40 * s + i) (40 * o + j) 0 c → ∃ z', LX9_copy_121 (nI s) (nI i) (nI o) (nI j) (nI n) false g (nI c) z = some z' ∧ z'.1 = y.1 ∧ (∀ k, k ≠ 29 → z'.2.1 k = y.2.1 k) ∧ z'.2.1 29 = cpr w (40 * s + i) (40 * o + j) 0 n := by
  intro k
  induction k with
  | zero =>
    intro c g z hk hg e1 e2 e3
    obtain ⟨g, rfl⟩ : ∃ z, g = z + 1 := ⟨g - 1, by omega⟩
    have e : c = n := by omega
    subst e
    refine ⟨z, ?_, e1, e2, e3⟩
    show BX9_copy_121 _ _ _ _ _ _ _ (nI c) z = _
    unfold BX9_copy_121
    rw [if_pos (Int32.le_refl _)]
  | succ k ih =>
    intro c g z hk hg e1 e2 e3
    obtain ⟨g, rfl⟩ : ∃ z, g = z + 1 := ⟨g - 1, by omega⟩
    have hlt : ¬ nI n ≤ nI c := by
      rw [nI_lei (by omega) (by omega)]
      omega
    have er : z.2.1 29 (40 * s + i + c) = w (40 * s + i + c) := by
      rw [e3]
      unfold cpr
      rw [if_neg (by omega)]
    obtain ⟨z', l1, l2, l3, l4⟩ := ih (c + 1) g (msA z 29 (40 * o + j + c) (w (40 * s + i + c))) (by omega) (by omega) e1 (fun k hk => (up2_ne hk).trans (e2 k hk)) (by
      funext d
      show (if d = 40 * o + j + c then w (40 * s + i + c) else z.2.1 29 d) = _
      rw [e3]
      unfold cpr
      by_cases q : d = 40 * o + j + c
      · rw [if_pos q, if_pos (by omega)]
        congr 1
        omega
      · rw [if_neg q]
        by_cases q2 : 40 * o + j + 0 ≤ d ∧ d < 40 * o + j + c
        · rw [if_pos q2, if_pos (by omega)]
        · rw [if_neg q2, if_neg (by omega)])
    refine ⟨z', ?_, l2, l3, l4⟩
    show BX9_copy_121 _ _ _ _ _ _ _ (nI c) z = _
    unfold BX9_copy_121
    rw [if_neg hlt]
    simp only [Bool.false_eq_true, if_false, Option.bind_some, at40i, lt, nI_1]
    rw [if_pos (ib_nI (by omega) (by decide)), if_pos (ib_nI (by omega) (by decide)), cl_nI (by omega), cl_nI (by omega), er]
    exact l1
theorem copy_up {s i o j n : Nat} {w : Nat → Int32} {y : MS} (h1 : 40 * s + i + n ≤ 160) (h2 : 40 * o + j + n ≤ 160) (hd : 40 * s + i < 40 * o + j) : ∀ (k c g : Nat) (z : MS), c + k = n → k < g → z.1 = y.1 → (∀ k, k ≠ 29 → z.2.1 k = y.2.1 k) → z.2.1 29 = cpr w (40 * s + i) (40 * o + j) (n - c) n → ∃ z', LX9_copy_121 (nI s) (nI i) (nI o) (nI j) (nI n) true g (nI c) z = some z' ∧ z'.1 = y.1 ∧ (∀ k, k ≠ 29 → z'.2.1 k = y.2.1 k) ∧ z'.2.1 29 = cpr w (40 * s + i) (40 * o + j) 0 n := by
  intro k
  induction k with
  | zero =>
    intro c g z hk hg e1 e2 e3
    obtain ⟨g, rfl⟩ : ∃ z, g = z + 1 := ⟨g - 1, by omega⟩
    have e : c = n := by omega
    subst e
    rw [Nat.sub_self] at e3
    refine ⟨z, ?_, e1, e2, e3⟩
    show BX9_copy_121 _ _ _ _ _ _ _ (nI c) z = _
    unfold BX9_copy_121
    rw [if_pos (Int32.le_refl _)]
  | succ k ih =>
    intro c g z hk hg e1 e2 e3
    obtain ⟨g, rfl⟩ : ∃ z, g = z + 1 := ⟨g - 1, by omega⟩
    have hlt : ¬ nI n ≤ nI c := by
      rw [nI_lei (by omega) (by omega)]
      omega
    have en : (nI n - 1) - nI c = nI (n - 1 - c) := by
      rw [show (1 : Int32) = nI 1 from rfl, nI_sb (by omega), nI_sb (by omega)]
    have er : z.2.1 29 (40 * s + i + (n - 1 - c)) = w (40 * s + i + (n - 1 - c)) := by
      rw [e3]
      unfold cpr
      rw [if_neg (by omega)]
    obtain ⟨z', l1, l2, l3, l4⟩ := ih (c + 1) g (msA z 29 (40 * o + j + (n - 1 - c)) (w (40 * s + i + (n - 1 - c)))) (by omega) (by omega) e1 (fun k hk => (up2_ne hk).trans (e2 k hk)) (by
      funext d
      show (if d = 40 * o + j + (n - 1 - c) then w (40 * s + i + (n - 1 - c)) else z.2.1 29 d) = _
      rw [e3]
      unfold cpr
      by_cases q : d = 40 * o + j + (n - 1 - c)
      · rw [if_pos q, if_pos (by omega)]
        congr 1
        omega
      · rw [if_neg q]
        by_cases q2 : 40 * o + j + (n - c) ≤ d ∧ d < 40 * o + j + n
        · rw [if_pos q2, if_pos (by omega)]
        · rw [if_neg q2, if_neg (by omega)])
    refine ⟨z', ?_, l2, l3, l4⟩
    show BX9_copy_121 _ _ _ _ _ _ _ (nI c) z = _
    unfold BX9_copy_121
    rw [if_neg hlt]
    simp only [if_true, Option.bind_some, en, at40i, lt, nI_1]
    rw [if_pos (ib_nI (by omega) (by decide)), if_pos (ib_nI (by omega) (by decide)), cl_nI (by omega), cl_nI (by omega), er]
    exact l1
theorem sub_lti {m c i : Nat} (hm : m ≤ 40) (hc : c < 2 ^ 31) (hi : i < 2 ^ 31) : nI m - nI c < nI i ↔ m < i + c := by
  rw [Int32.lt_iff_toInt_lt, Int32.toInt_sub, nI_toInt (by omega), nI_toInt hc, nI_toInt hi]
  have : ((m : Int) - c).bmod (2 ^ 32) = (m : Int) - c := by
    rw [Int.bmod_def]
    omega
  rw [this]
  omega
theorem le_subi {m c i : Nat} (hm : m ≤ 40) (hc : c < 2 ^ 31) (hi : i < 2 ^ 31) : nI i ≤ nI m - nI c ↔ i + c ≤ m := by
  rw [← Int32.not_lt, sub_lti hm hc hi]
  omega
/-- a stretch of a row -/
def stc (m : Nat) (a b : Int32) : Prop := ∃ i c : Nat, a = nI i ∧ b = nI c ∧ i + c ≤ m
theorem str8 {x : XS} {p ai m : Nat} {so : Int32} {f : Nat → Int32} (ea : x.2.2.2.1 p = some (.inl (5, [.int so, .ref ai]))) (ei : x.2.2.2.1 ai = some (.inr (m, f))) (hm : m ≤ 40) (a b : Int32) : (stc m a b ∧ fX5_hasStretch x p a b = some true) ∨ (¬ stc m a b ∧ fX5_hasStretch x p a b = some false) := by
  unfold fX5_hasStretch
  rcases sg32 a with ca | ⟨i, hi, rfl⟩
  · rw [if_pos ca]
    refine Or.inr ⟨?_, rfl⟩
    rintro ⟨i, c, rfl, -, hic⟩
    have := (nI_lti (b := 0) (by omega) (by decide)).mp ca
    omega
  · rw [if_neg (by rw [show (0 : Int32) = nI 0 from rfl, nI_lti hi (by decide)]; omega)]
    rcases sg32 b with cb | ⟨c, hc, rfl⟩
    · rw [if_pos cb]
      refine Or.inr ⟨?_, rfl⟩
      rintro ⟨i, c, -, rfl, hic⟩
      have := (nI_lti (b := 0) (by omega) (by decide)).mp cb
      omega
    · rw [if_neg (by rw [show (0 : Int32) = nI 0 from rfl, nI_lti hc (by decide)]; omega)]
      simp only [dP_o (k := 1) ea rfl, Option.bind_some, dLen_o ei]
      show (stc m (nI i) (nI c) ∧ (if nI m < nI i then some false else if nI m - nI i < nI c then some false else some true) = some true) ∨ (¬ stc m (nI i) (nI c) ∧ (if nI m < nI i then some false else if nI m - nI i < nI c then some false else some true) = some false)
      simp only [nI_lti (show m < 2 ^ 31 by omega) hi, sub_lti hm hi hc]
      by_cases q : i + c ≤ m
      · rw [if_neg (by omega), if_neg (by omega)]
        exact Or.inl ⟨⟨i, c, rfl, rfl, q⟩, rfl⟩
      · refine Or.inr ⟨?_, ?_⟩
        · rintro ⟨i', c', ea, eb, hic⟩
          have := (nI_eqi hi (by omega)).mp ea
          have := (nI_eqi hc (by omega)).mp eb
          omega
        · by_cases q2 : m < i
          · rw [if_pos q2]
          · rw [if_neg q2, if_pos (by omega)]
theorem s_copy : ST27 Rl := by
  intro x y a1 a2 a3 a4 a5 hr
  obtain ⟨own, n, r, t, u, h⟩ := id hr
  unfold fX8_copy fX9_copy
  rw [sh8, sh8, sh9, sh9]
  simp only [Option.bind_some, decide_eq_true_eq]
  rcases of4 a1 with c | ⟨s, hs, rfl, c, hb, hc⟩
  · rw [if_neg c, if_neg c]
    exact ⟨_, _, _, rfl, rfl, hr⟩
  · rcases of4 a3 with c' | ⟨o, ho, rfl, c', hb', hc'⟩
    · rw [if_pos c, if_neg c', if_pos c, if_neg c']
      exact ⟨_, _, _, rfl, rfl, hr⟩
    · simp only [if_pos c, if_pos c', if_pos hb, if_pos hb', hc, hc', lt]
      rcases h.S.at' s hs with ⟨q1, q2⟩ | ⟨q1, a, ai, m, f, q2, q3, q4, q5, q6, q7, q8, q9, q10, q11⟩
      · rw [if_pos q1, q2]
        exact ⟨_, _, _, rfl, rfl, hr⟩
      · rw [if_neg (by rw [q1]; decide), q2]
        rcases h.S.at' o ho with ⟨p1, p2⟩ | ⟨p1, b, bi, m', f', p2, p3, p4, p5, p6, p7, p8, p9, p10, p11⟩
        · rw [if_pos p1, p2]
          exact ⟨_, _, _, rfl, rfl, hr⟩
        · rw [if_neg (by rw [p1]; decide), p2, q8, p8]
          simp only [oc, dI_o (k := 0) q5 rfl, dI_o (k := 0) p5 rfl, Option.bind_some, dK_o q5, dK_o p5, if_true]
          by_cases e27 : y.2.1 27 s = y.2.1 27 o
          · simp only [if_pos e27]
            have bad : (¬ stc m a2 a5 ∨ ¬ stc m' a4 a5) → (Option.bind (fX5_hasStretch x a a2 a5) fun v16 => if v16 = true then Option.bind (fX5_hasStretch x b a4 a5) fun v19 => if v19 = true then Option.bind (dP x a 5 1) fun v21 => Option.bind (dP x b 5 1) fun v23 => Option.bind (cpDD x v21 v23 a2 a4 a5) fun x25 => some (a5, x25) else some ((-12), x) else some ((-12), x)) = some (-12, x) := by
              intro q
              rcases str8 q5 q6 q7 a2 a5 with ⟨w1, w2⟩ | ⟨w1, w2⟩
              · rw [w2, Option.bind_some, if_pos rfl]
                rcases str8 p5 p6 p7 a4 a5 with ⟨v1, v2⟩ | ⟨v1, v2⟩
                · rcases q with q | q
                  · exact absurd w1 q
                  · exact absurd v1 q
                · rw [v2, Option.bind_some, if_neg (by decide)]
              · rw [w2, Option.bind_some, if_neg (by decide)]
            have nost : ∀ (m : Nat) (a b : Int32), m ≤ 40 → a < 0 ∨ b < 0 → ¬ stc m a b := by
              rintro m a b hm q ⟨i, c, rfl, rfl, hic⟩
              rcases q with q | q
              · have := (nI_lti (b := 0) (by omega) (by decide)).mp q
                omega
              · have := (nI_lti (b := 0) (by omega) (by decide)).mp q
                omega
            rcases sg32 a5 with k5 | ⟨cn, hcn, rfl⟩
            · rw [if_pos k5, bad (Or.inl (nost _ _ _ q7 (Or.inr k5)))]
              exact ⟨_, _, _, rfl, rfl, hr⟩
            · rw [if_neg (show ¬ nI cn < 0 by rw [show (0 : Int32) = nI 0 from rfl, nI_lti hcn (by decide)]; omega)]
              rcases sg32 a2 with k2 | ⟨i, hi, rfl⟩
              · rw [if_pos k2, bad (Or.inl (nost _ _ _ q7 (Or.inl k2)))]
                exact ⟨_, _, _, rfl, rfl, hr⟩
              · rw [if_neg (show ¬ nI i < 0 by rw [show (0 : Int32) = nI 0 from rfl, nI_lti hi (by decide)]; omega)]
                rcases sg32 a4 with k4 | ⟨j, hj, rfl⟩
                · rw [if_pos k4, bad (Or.inr (nost _ _ _ p7 (Or.inl k4)))]
                  exact ⟨_, _, _, rfl, rfl, hr⟩
                · rw [if_neg (show ¬ nI j < 0 by rw [show (0 : Int32) = nI 0 from rfl, nI_lti hj (by decide)]; omega)]
                  simp only [sub_lti q7 hcn hi, le_subi p7 hcn hj]
                  by_cases k1 : i + cn ≤ m
                  · rw [if_neg (show ¬ m < i + cn by omega)]
                    by_cases k3 : j + cn ≤ m'
                    · rw [if_pos k3]
                      have s1 : fX5_hasStretch x a (nI i) (nI cn) = some true := by
                        rcases str8 q5 q6 q7 (nI i) (nI cn) with ⟨w1, w2⟩ | ⟨w1, w2⟩
                        · exact w2
                        · exact absurd ⟨i, cn, rfl, rfl, k1⟩ w1
                      have s2 : fX5_hasStretch x b (nI j) (nI cn) = some true := by
                        rcases str8 p5 p6 p7 (nI j) (nI cn) with ⟨w1, w2⟩ | ⟨w1, w2⟩
                        · exact w2
                        · exact absurd ⟨j, cn, rfl, rfl, k3⟩ w1
                      have n0 : ∀ k : Nat, k < 2 ^ 31 → ¬ nI k < 0 := fun k hk => by
                        rw [show (0 : Int32) = nI 0 from rfl, nI_lti hk (by decide)]
                        omega
                      have s3 : cpDD x ai bi (nI i) (nI j) (nI cn) = some (xsD x bi (.inr (m', va_cpy f f' i j cn))) := by
                        simp only [cpDD, q6, p6]
                        rw [if_pos (by rw [cl_nI hi, cl_nI hj, cl_nI hcn]; exact ⟨n0 i hi, n0 j hj, n0 cn hcn, k1, k3⟩), cl_nI hi, cl_nI hj, cl_nI hcn]
                      rw [s1, Option.bind_some, if_pos rfl, s2, Option.bind_some, if_pos rfl, dP_o (k := 1) q5 rfl, dP_o (k := 1) p5 rfl, Option.bind_some, Option.bind_some, s3, Option.bind_some]
                      have hy : ∃ z', (Option.bind (if nI s = nI o then if nI j ≤ nI i then some false else some true else some false) fun v11 => LX9_copy_121 (nI s) (nI i) (nI o) (nI j) (nI cn) v11 NF 0 y) = some z' ∧ z'.1 = y.1 ∧ (∀ k, k ≠ 29 → z'.2.1 k = y.2.1 k) ∧ z'.2.1 29 = cpr (y.2.1 29) (40 * s + i) (40 * o + j) 0 cn := by
                        have dn : (40 * o + j ≤ 40 * s + i ∨ 40 * s + i + cn ≤ 40 * o + j) → ∃ z', LX9_copy_121 (nI s) (nI i) (nI o) (nI j) (nI cn) false NF 0 y = some z' ∧ z'.1 = y.1 ∧ (∀ k, k ≠ 29 → z'.2.1 k = y.2.1 k) ∧ z'.2.1 29 = cpr (y.2.1 29) (40 * s + i) (40 * o + j) 0 cn := fun hd => copy_dn (y := y) (w := y.2.1 29) (by omega) (by omega) hd cn 0 NF y (by omega) (by unfold NF; omega) rfl (fun _ _ => rfl) (by
                          funext d
                          unfold cpr
                          rw [if_neg (by omega)])
                        by_cases e1 : nI s = nI o
                        · rw [if_pos e1]
                          have e1 := (nI_eqi (by omega) (by omega)).mp e1
                          subst e1
                          by_cases e2 : nI j ≤ nI i
                          · rw [if_pos e2, Option.bind_some]
                            rw [nI_lei hj hi] at e2
                            exact dn (by omega)
                          · rw [if_neg e2, Option.bind_some]
                            rw [nI_lei hj hi] at e2
                            exact copy_up (y := y) (w := y.2.1 29) (by omega) (by omega) (by omega) cn 0 NF y (by omega) (by unfold NF; omega) rfl (fun _ _ => rfl) (by
                              funext d
                              unfold cpr
                              rw [if_neg (by omega)])
                        · rw [if_neg e1, Option.bind_some]
                          have e1 : s ≠ o := fun q => e1 (by rw [q])
                          exact dn (by omega)
                      obtain ⟨z', l1, l2, l3, l4⟩ := hy
                      refine ⟨nI cn, xsD x bi (.inr (m', va_cpy f f' i j cn)), z', rfl, ?_, own, n, r, t, u, ?_⟩
                      · have := congrArg (fun q => Option.bind q fun x17 => some (nI cn, x17)) l1
                        rw [Option.bind_assoc] at this
                        exact this
                      · refine h.sheets (own' := own) rfl rfl (fun _ _ => rfl) (fun w d hw => ?_) (fun w d hw hlt => ?_) l2 (fun k hk => l3 k (ne_in (A := [29]) (by decide) hk (by decide))) ?_
                        · have hw4 : (if w = bi then some (.inr (m', va_cpy f f' i j cn)) else x.2.2.2.1 w) = some d := hw
                          by_cases q : w = bi
                          · rw [q]; exact h.fr bi _ p6
                          · rw [if_neg q] at hw4
                            exact h.fr w d hw4
                        · refine ⟨?_, rfl⟩
                          show (if w = bi then _ else x.2.2.2.1 w) = some d
                          rw [if_neg (by rintro rfl; omega)]
                          exact hw
                        · rw [l3 26 (by decide), l3 27 (by decide), l3 28 (by decide), l4]
                          refine h.S.setI ho p2 p5 p6 p4 (fun w => rfl) (fun k hk => ?_) (fun d hd => ?_)
                          · unfold cpr
                            by_cases q : j ≤ k ∧ k < j + cn
                            · rw [pk_cpy_in q.1 q.2, if_pos (show 40 * o + j + 0 ≤ 40 * o + k ∧ 40 * o + k < 40 * o + j + cn by omega), q11 (i + (k - j)) (by omega)]
                              exact congrArg (y.2.1 29) (by omega)
                            · rw [pk_cpy_out (by omega), if_neg (by omega), p11 _ hk]
                          · unfold cpr
                            rw [if_neg (by omega)]
                    · rw [if_neg k3, bad (Or.inr (by
                        rintro ⟨j', c', e1, e2, e3⟩
                        have := (nI_eqi hj (by omega)).mp e1
                        have := (nI_eqi hcn (by omega)).mp e2
                        omega))]
                      exact ⟨_, _, _, rfl, rfl, hr⟩
                  · rw [if_pos (show m < i + cn by omega), bad (Or.inl (by
                      rintro ⟨j', c', e1, e2, e3⟩
                      have := (nI_eqi hi (by omega)).mp e1
                      have := (nI_eqi hcn (by omega)).mp e2
                      omega))]
                    exact ⟨_, _, _, rfl, rfl, hr⟩
          · simp only [if_neg e27]
            exact ⟨_, _, _, rfl, rfl, hr⟩
theorem sheet_loop {s m : Nat} {q2 : Int32} (hq : ¬ q2 < 0) (hs : s < 4) (hm : m ≤ 40) : ∀ (k j g : Nat) (z : MS), j + k = m → k < g → ∃ z', LX9_sheet_77 (nI s) q2 (nI m) g (nI j) z = some z' ∧ z'.1 = z.1 ∧ (∀ k, k ≠ 29 → z'.2.1 k = z.2.1 k) ∧ ∀ d, z'.2.1 29 d = if 40 * s + j ≤ d ∧ d < 40 * s + m then 0 else z.2.1 29 d := by
  intro k
  induction k with
  | zero =>
    intro j g z hk hg
    obtain ⟨g, rfl⟩ : ∃ z, g = z + 1 := ⟨g - 1, by omega⟩
    have e : j = m := by omega
    subst e
    refine ⟨z, ?_, rfl, fun _ _ => rfl, fun d => ?_⟩
    · show BX9_sheet_77 _ _ _ _ (nI j) z = _
      unfold BX9_sheet_77
      rw [if_pos (Int32.le_refl _)]
    · rw [if_neg (by omega)]
  | succ k ih =>
    intro j g z hk hg
    obtain ⟨g, rfl⟩ : ∃ z, g = z + 1 := ⟨g - 1, by omega⟩
    have hlt : ¬ nI m ≤ nI j := by
      rw [nI_lei (by omega) (by omega)]
      omega
    obtain ⟨z', l1, l2, l3, l4⟩ := ih (j + 1) g (msA z 29 (40 * s + j) 0) (by omega) (by omega)
    refine ⟨z', ?_, l2, fun k hk => (l3 k hk).trans (up2_ne hk), fun d => ?_⟩
    · show BX9_sheet_77 _ _ _ _ (nI j) z = _
      unfold BX9_sheet_77
      rw [if_neg hlt, if_neg hq, at40, if_pos (ib_nI (by omega) (by decide)), cl_nI (by omega)]
      simp only [lt, nI_1]
      exact l1
    · rw [l4]
      show (if 40 * s + (j + 1) ≤ d ∧ d < 40 * s + m then 0 else if d = 40 * s + j then 0 else z.2.1 29 d) = _
      by_cases q : 40 * s + (j + 1) ≤ d ∧ d < 40 * s + m
      · rw [if_pos q, if_pos (by omega)]
      · rw [if_neg q]
        by_cases q2 : d = 40 * s + j
        · rw [if_pos q2, if_pos (by omega)]
        · rw [if_neg q2, if_neg (by omega)]
theorem sh_init (x : XS) (a2 : Int32) {m : Nat} (hm : m ≤ 40) : ∃ x', fX5_init (xsN x (.inl (5, [.int 0, .null]))) x.2.2.2.2 a2 (nI m) = some x' ∧ x'.1 = x.1 ∧ x'.2.1 = x.2.1 ∧ x'.2.2.1 = x.2.2.1 ∧ x'.2.2.2.2 = x.2.2.2.2 + 2 ∧ ∀ a, x'.2.2.2.1 a = if a = x.2.2.2.2 then some (.inl (5, [.int a2, .ref (x.2.2.2.2 + 1)])) else if a = x.2.2.2.2 + 1 then some (.inr (m, fun _ => 0)) else x.2.2.2.1 a := by
  have hmx : imax 0 (nI m) = nI m := by
    show (if 0 < nI m then nI m else 0) = nI m
    by_cases q : 0 < nI m
    · rw [if_pos q]
    · rw [if_neg q]
      rw [show (0 : Int32) = nI 0 from rfl, nI_lti (by decide) (by omega)] at q
      have : m = 0 := by omega
      rw [this]
      rfl
  have n0 : ¬ nI m < 0 := by
    rw [show (0 : Int32) = nI 0 from rfl, nI_lti (by omega) (by decide)]
    omega
  have e0 : (xsN x (.inl (5, [.int 0, .null]))).2.2.2.1 x.2.2.2.2 = some (.inl (5, [.int 0, .null])) := if_pos rfl
  unfold fX5_init
  rw [dPut_o e0 (Nat.le_of_ble_eq_true rfl), Option.bind_some, hmx, cl_nI (by omega), if_pos ⟨n0, hm⟩]
  simp only [lt]
  have e1 : (xsN (xsD (xsN x (.inl (5, [.int 0, .null]))) x.2.2.2.2 (.inl (5, [Value.int 0, Value.null].set 0 (.int a2)))) (.inr (m, fun _ => 0))).2.2.2.1 x.2.2.2.2 = some (.inl (5, [.int a2, .null])) := by
    show (if x.2.2.2.2 = x.2.2.2.2 + 1 then _ else if x.2.2.2.2 = x.2.2.2.2 then _ else _) = _
    rw [if_neg (by omega), if_pos rfl]
    rfl
  rw [dPut_o e1 (Nat.le_of_ble_eq_true rfl), Option.bind_some]
  refine ⟨_, rfl, rfl, rfl, rfl, rfl, fun a => ?_⟩
  show (if a = x.2.2.2.2 then _ else if a = x.2.2.2.2 + 1 then _ else if a = x.2.2.2.2 then _ else if a = x.2.2.2.2 then _ else x.2.2.2.1 a) = _
  by_cases q : a = x.2.2.2.2
  · rw [if_pos q, if_pos q]
    rfl
  · rw [if_neg q, if_neg q, if_neg q, if_neg q]
theorem s_sheet : ST25 Rl := by
  intro x y a1 a2 a3 hr
  obtain ⟨own, n, r, t, u, h⟩ := id hr
  unfold fX8_sheet fX9_sheet
  rw [sh8, sh9, in8, in9i (lo := -1) (hi := 2) (l := -1) (h := 2) rfl rfl]
  simp only [Option.bind_some, decide_eq_true_eq]
  rcases of4 a1 with c | ⟨s, hs, rfl, c, hb, hc⟩
  · rw [if_neg c, if_neg c]
    exact ⟨_, _, _, rfl, rfl, hr⟩
  · simp only [if_pos c, if_pos hb, hc, lt]
    by_cases c2 : (-1 : Int32) ≤ a2 ∧ a2 ≤ 2
    · rw [if_pos c2, if_pos c2]
      by_cases n2 : a2 < 0
      · have e2 : a2 = -1 := by
          have d1 := c2.1
          have d2 := n2
          rw [Int32.le_iff_toInt_le, show (-1 : Int32).toInt = -1 from rfl] at d1
          rw [Int32.lt_iff_toInt_lt, show (0 : Int32).toInt = 0 from rfl] at d2
          apply Int32.toInt_inj.mp
          rw [show (-1 : Int32).toInt = -1 from rfl]
          omega
        subst e2
        have lp : ∀ z : MS, LX9_sheet_77 (nI s) (-1) a3 NF 0 z = some z := by
          intro z
          show BX9_sheet_77 _ _ _ _ 0 z = _
          unfold BX9_sheet_77
          by_cases q : a3 ≤ 0
          · rw [if_pos q]
          · rw [if_neg q, if_pos (by decide)]
        simp only [if_true, if_pos n2, Option.bind_some, lp]
        refine ⟨1, xsR x 10 s none, msA (msA (msA y 26 s 0) 27 s (-1)) 28 s a3, rfl, rfl, own, n, r, t, u, ?_⟩
        refine h.sheets (own' := own) rfl rfl (fun k hk => up2_ne (ne_in (A := [10]) (by decide) hk (by decide))) h.fr (fun w d hw hlt => ⟨hw, rfl⟩) rfl (fun k hk => ?_) ?_
        · show up2 (up2 (up2 y.2.1 26 s _) 27 s _) 28 s _ k = y.2.1 k
          rw [up2_ne (ne_in (A := [28]) (by decide) hk (by decide)), up2_ne (ne_in (A := [27]) (by decide) hk (by decide)), up2_ne (ne_in (A := [26]) (by decide) hk (by decide))]
        · intro s' hs'
          show ((if s' = s then (0 : Int32) else y.2.1 26 s') = 0 ∧ (if s' = s then none else x.2.2.1 10 s') = none) ∨ ((if s' = s then (0 : Int32) else y.2.1 26 s') = 1 ∧ ∃ a ai m f, (if s' = s then none else x.2.2.1 10 s') = some a ∧ own a = 800 + s' ∧ own ai = 900 + s' ∧ x.2.2.2.1 a = some (.inl (5, [.int (if s' = s then (-1) else y.2.1 27 s'), .ref ai])) ∧ x.2.2.2.1 ai = some (.inr (m, f)) ∧ m ≤ 40 ∧ (if s' = s then a3 else y.2.1 28 s') = nI m ∧ 0 ≤ (if s' = s then (-1) else y.2.1 27 s') ∧ (if s' = s then (-1) else y.2.1 27 s') ≤ 2 ∧ ∀ k, k < m → f k = y.2.1 29 (40 * s' + k))
          by_cases q : s' = s
          · simp only [if_pos q]
            exact Or.inl ⟨trivial, trivial⟩
          · simp only [if_neg q]
            exact h.S.at' s' hs'
      · have e2 : ¬ a2 = -1 := by
          rintro rfl
          exact n2 (by decide)
        simp only [if_neg n2, if_neg e2, Option.bind_some]
        by_cases c3 : a3 ≤ 40
        · rw [if_pos c3, if_pos c3]
          by_cases c4 : 0 ≤ a3
          · rw [if_pos c4, if_pos c4]
            obtain ⟨m, hm, rfl⟩ := ix_of (n := 41) (by decide) c4 (Int32.lt_of_le_of_lt c3 (by decide))
            obtain ⟨x8, i1, i2, i3, i4, i5, i6⟩ := sh_init x a2 (show m ≤ 40 by omega)
            obtain ⟨z', l1, l2, l3, l4⟩ := sheet_loop (s := s) (m := m) n2 hs (by omega) m 0 NF (msA (msA (msA y 26 s 1) 27 s a2) 28 s (nI m)) (by omega) (by unfold NF; omega)
            have l1 : LX9_sheet_77 (nI s) a2 (nI m) NF 0 (msA (msA (msA y 26 s (vp_nar .boolean (bI true))) 27 s a2) 28 s (nI m)) = some z' := l1
            have e0 : (xsN x (.inl (5, [.int 0, .null]))).2.2.2.1 x.2.2.2.2 = some (.inl (5, [.int 0, .null])) := if_pos rfl
            have e6 : x8.2.2.2.1 x.2.2.2.2 = some (.inl (5, [.int a2, .ref (x.2.2.2.2 + 1)])) := by rw [i6, if_pos rfl]
            rw [dK_o e0, if_pos rfl, i1, Option.bind_some, dK_o e6, if_pos rfl, l1]
            refine ⟨1, xsR x8 10 s (some x.2.2.2.2), z', rfl, rfl, fun a => if a = x.2.2.2.2 then 800 + s else if a = x.2.2.2.2 + 1 then 900 + s else own a, n, r, t, u, ?_⟩
            have hk : ∀ a d, x.2.2.2.1 a = some d → x8.2.2.2.1 a = some d ∧ (if a = x.2.2.2.2 then 800 + s else if a = x.2.2.2.2 + 1 then 900 + s else own a) = own a := by
              intro a d ha
              have := h.fr a d ha
              rw [i6, if_neg (by omega), if_neg (by omega), if_neg (by omega), if_neg (by omega)]
              exact ⟨ha, rfl⟩
            have c5 := c2.2
            refine h.sheets i2 i3 (fun k hk => (up2_ne (ne_in (A := [10]) (by decide) hk (by decide))).trans (congrFun i4 k)) (fun a d ha => ?_) (fun w d hw hlt => hk w d hw) l2 (fun k hk => (l3 k (ne_in (A := [29]) (by decide) hk (by decide))).trans ?_) ?_
            · show a < x8.2.2.2.2
              have ha : x8.2.2.2.1 a = some d := ha
              rw [i5]
              rw [i6] at ha
              by_cases q : a = x.2.2.2.2
              · omega
              · rw [if_neg q] at ha
                by_cases q2 : a = x.2.2.2.2 + 1
                · omega
                · rw [if_neg q2] at ha
                  have := h.fr a d ha
                  omega
            · show up2 (up2 (up2 y.2.1 26 s _) 27 s _) 28 s _ k = y.2.1 k
              rw [up2_ne (ne_in (A := [28]) (by decide) hk (by decide)), up2_ne (ne_in (A := [27]) (by decide) hk (by decide)), up2_ne (ne_in (A := [26]) (by decide) hk (by decide))]
            · rw [l3 26 (by decide), l3 27 (by decide), l3 28 (by decide)]
              intro s' hs'
              show ((if s' = s then (1 : Int32) else y.2.1 26 s') = 0 ∧ (if s' = s then some x.2.2.2.2 else x8.2.2.1 10 s') = none) ∨ ((if s' = s then (1 : Int32) else y.2.1 26 s') = 1 ∧ ∃ a ai m' f, (if s' = s then some x.2.2.2.2 else x8.2.2.1 10 s') = some a ∧ (if a = x.2.2.2.2 then 800 + s else if a = x.2.2.2.2 + 1 then 900 + s else own a) = 800 + s' ∧ (if ai = x.2.2.2.2 then 800 + s else if ai = x.2.2.2.2 + 1 then 900 + s else own ai) = 900 + s' ∧ x8.2.2.2.1 a = some (.inl (5, [.int (if s' = s then a2 else y.2.1 27 s'), .ref ai])) ∧ x8.2.2.2.1 ai = some (.inr (m', f)) ∧ m' ≤ 40 ∧ (if s' = s then nI m else y.2.1 28 s') = nI m' ∧ 0 ≤ (if s' = s then a2 else y.2.1 27 s') ∧ (if s' = s then a2 else y.2.1 27 s') ≤ 2 ∧ ∀ k, k < m' → f k = z'.2.1 29 (40 * s' + k))
              by_cases q : s' = s
              · subst q
                simp only [if_true]
                refine Or.inr ⟨trivial, x.2.2.2.2, x.2.2.2.2 + 1, m, fun _ => 0, rfl, if_pos rfl, ?_, e6, ?_, by omega, rfl, Int32.not_lt.mp n2, c5, fun k hk => ?_⟩
                · rw [if_neg (by omega), if_pos rfl]
                · rw [i6, if_neg (by omega), if_pos rfl]
                · rw [l4, if_pos (by omega)]
              · simp only [if_neg q]
                rcases h.S.at' s' hs' with ⟨w1, w2⟩ | ⟨p1, b, bi, m', f', p2, p3, p4, p5, p6, p7, p8, p9, p10, p11⟩
                · exact Or.inl ⟨w1, by rw [i4]; exact w2⟩
                · obtain ⟨g1, g2⟩ := hk b _ p5
                  obtain ⟨g3, g4⟩ := hk bi _ p6
                  refine Or.inr ⟨p1, b, bi, m', f', by rw [i4]; exact p2, g2.trans p3, g4.trans p4, g1, g3, p7, p8, p9, p10, fun k hk => ?_⟩
                  rw [l4, if_neg (by omega)]
                  exact p11 k hk
          · rw [if_neg c4, if_neg c4]
            exact ⟨_, _, _, rfl, rfl, hr⟩
        · rw [if_neg c3, if_neg c3]
          exact ⟨_, _, _, rfl, rfl, hr⟩
    · rw [if_neg c2, if_neg c2]
      exact ⟨_, _, _, rfl, rfl, hr⟩
