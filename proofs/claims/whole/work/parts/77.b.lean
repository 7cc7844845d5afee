theorem nL_32 {k : Nat} (h : k < 2 ^ 31) : (nL k).toInt32 = nI k := by
  apply Int32.toInt_inj.mp
  rw [Int64.toInt_toInt32, nL_toInt (by omega), nI_toInt h, Int.bmod_def]
  omega
theorem tok_low {tok num kind : Int32} {worth : Int64} (h : TR tok num kind worth) : tok = -1 ∨ tok = -2 ∨ tok = -3 ∨ tok = -4 ∨ tok = -5 ∨ tok = -6 ∨ tok < -6 := by
  have key : ∀ t : Int32, t = -35 ∨ t = -36 ∨ t = -34 ∨ t = -31 ∨ t = -32 ∨ t = -33 ∨ t = -21 ∨ t = -22 ∨ t = -23 ∨ t = -24 ∨ t = -25 ∨ t = -11 ∨ t = -12 ∨ t = -13 ∨ t = -14 ∨ t = -15 ∨ t = -16 → t < -6 := by
    intro t ht
    rcases ht with rfl | rfl | rfl | rfl | rfl | rfl | rfl | rfl | rfl | rfl | rfl | rfl | rfl | rfl | rfl | rfl | rfl <;> decide
  have low : tok < -6 → tok = -1 ∨ tok = -2 ∨ tok = -3 ∨ tok = -4 ∨ tok = -5 ∨ tok = -6 ∨ tok < -6 := fun z => Or.inr (Or.inr (Or.inr (Or.inr (Or.inr (Or.inr z)))))
  rcases h with ⟨-, t⟩ | ⟨-, t⟩ | ⟨-, t⟩ | ⟨-, t, -⟩ | ⟨-, t⟩
  · exact low (key _ (by rw [t]; decide))
  · exact low (key _ (by rw [t]; decide))
  · rcases tokw_val worth with ⟨w, -⟩ | ⟨w, -⟩ | ⟨w, -⟩ | ⟨w, -⟩ | ⟨w, -⟩ | ⟨w, -⟩ | ⟨w, -⟩ | ⟨w, -⟩ | ⟨w, -⟩ | ⟨w, -⟩ | ⟨w, -⟩ | ⟨w, -⟩ | w <;> (rw [t, w]; decide)
  · exact low (key _ (by rw [t]; decide))
  · rcases t with ⟨-, t⟩ | ⟨-, t⟩ | ⟨-, t⟩ | ⟨-, t⟩ | ⟨-, t⟩ | ⟨-, t⟩ | ⟨-, t⟩ | ⟨-, t⟩ <;> exact low (key _ (by rw [t]; decide))
section SIMS2
variable {f : Nat → Int32} {M base o N K : Nat}
theorem name9 {x : XS} {y : MS} {q h : Nat} (P : PR f M base x y q) (b0 : y.1 0 29 = 0) (hh : h < 10) (h31 : y.1 0 31 = nI h) : (∃ k, k < 6 ∧ (-1 - x.1 4 4).toNatClampNeg = k ∧ ¬ 0 ≤ x.1 4 4 ∧ -6 ≤ x.1 4 4 ∧ fX9_name y = some (envP y k, y)) ∨ (fX7_isName (x.1 4 4) = some false ∧ fX9_name y = Option.bind (fX9_fail y) fun x13 => some (0, x13)) := by
  have hb : ib (y.1 0 31) 10 := by
    rw [h31]
    exact ib_nI hh (by decide)
  unfold fX9_name
  rw [wd9 (c := -1) P b0 tokw_1 (by decide), wd9 (c := -2) P b0 tokw_2 (by decide), wd9 (c := -3) P b0 tokw_3 (by decide), wd9 (c := -4) P b0 tokw_4 (by decide), wd9 (c := -5) P b0 tokw_5 (by decide), wd9 (c := -6) P b0 tokw_6 (by decide)]
  simp only [Option.bind_some, decide_eq_true_eq, if_pos hb]
  by_cases c1 : x.1 4 4 = -1
  · rw [if_pos c1]
    exact Or.inl ⟨0, by decide, by rw [c1]; rfl, by rw [c1]; decide, by rw [c1]; decide, rfl⟩
  rw [if_neg c1]
  by_cases c2 : x.1 4 4 = -2
  · rw [if_pos c2]
    exact Or.inl ⟨1, by decide, by rw [c2]; rfl, by rw [c2]; decide, by rw [c2]; decide, rfl⟩
  rw [if_neg c2]
  by_cases c3 : x.1 4 4 = -3
  · rw [if_pos c3]
    exact Or.inl ⟨2, by decide, by rw [c3]; rfl, by rw [c3]; decide, by rw [c3]; decide, rfl⟩
  rw [if_neg c3]
  by_cases c4 : x.1 4 4 = -4
  · rw [if_pos c4]
    exact Or.inl ⟨3, by decide, by rw [c4]; rfl, by rw [c4]; decide, by rw [c4]; decide, rfl⟩
  rw [if_neg c4]
  by_cases c5 : x.1 4 4 = -5
  · rw [if_pos c5]
    exact Or.inl ⟨4, by decide, by rw [c5]; rfl, by rw [c5]; decide, by rw [c5]; decide, rfl⟩
  rw [if_neg c5]
  by_cases c6 : x.1 4 4 = -6
  · rw [if_pos c6]
    exact Or.inl ⟨5, by decide, by rw [c6]; rfl, by rw [c6]; decide, by rw [c6]; decide, rfl⟩
  rw [if_neg c6]
  refine Or.inr ⟨?_, rfl⟩
  have lo : x.1 4 4 < -6 := by
    rcases tok_low P.tk with z | z | z | z | z | z | z
    · exact absurd z c1
    · exact absurd z c2
    · exact absurd z c3
    · exact absurd z c4
    · exact absurd z c5
    · exact absurd z c6
    · exact z
  unfold fX7_isName
  rw [if_neg (Int32.not_le.mpr (Int32.lt_of_lt_of_le lo (by decide))), if_pos lo]
theorem lt5 {o : Nat} (ho : o ≤ 5) : nI o < 5 ↔ o < 5 := nI_lti (b := 5) (by omega) (by decide)
theorem eq5 {o : Nat} (ho : o ≤ 5) : nI o = 5 ↔ ¬ o < 5 := by
  rw [show (5 : Int32) = nI 5 from rfl, nI_eqi (by omega) (by decide)]
  omega
theorem no_now {x : XS} {y : MS} {q L : Nat} (hM : M ≤ 160) (P : PR f M base x y q) (e63 : x.1 6 3 = nI L) (hL : L ≤ q) : NOs x (msS (msS y 0 29 1) 0 30 (y.1 0 25)) := by
  have := P.qM
  refine ⟨rfl, ?_, L, by omega, e63⟩
  show y.1 0 25 = _
  rw [P.sy, P.sx]
theorem fail_yf (y : MS) (v : Int32) : YF y (msS (msS y 0 29 1) 0 30 v) := (YF.S y 1 (by decide)).tr (YF.S _ v (by decide))
/-- an item for itself -/
theorem item_sim (hM : M ≤ 160) (hf : ∀ i, i < M → 0 ≤ f i) {x : XS} {y : MS} {q L : Nat} {t v : Int32} (P : PR f M base x y q) (b0 : y.1 0 29 = 0) (o28 : y.1 0 28 = nI o) (e63 : x.1 6 3 = nI L) (hL : L ≤ q) (t1 : x.1 4 4 ≠ -35) (t2 : x.1 4 4 ≠ -36) (G : GC (envP y) [t] v N) : ∃ x' y', (Option.bind (fX4_write x t) fun x5 => Option.bind (fX6_advance x5) fun x7 => some (true, x7)) = some (true, x') ∧ fX9_next y = some y' ∧ XF x x' ∧ YF y y' ∧ OKs f M base x y q L o N x' y' v := by
  have qM : q < M := (P.adv hM hf t1 t2).1
  have P5 : PR f M base (xsS (xsA x 7 L t) 6 3 (nI (L + 1))) y q := P.w rfl rfl
  obtain ⟨-, x', y', q', a1, a2, a3, a4, a5, a6⟩ := P5.adv hM hf t1 t2
  refine ⟨x', y', ?_, a2, (wr8_xf x L t _).tr a3.xf, a4.yf, q', [t], a5, ?_, ?_, a6, ?_, fun i hi => ?_, fun i hi => ?_, G, Nat.le_refl _⟩
  · rw [wr8 e63 (by omega), Option.bind_some, a1]
    rfl
  · rw [a4.2 29 (by decide) (by decide) (by decide)]
    exact b0
  · rw [a4.2 28 (by decide) (by decide) (by decide)]
    exact o28
  · rw [a3.1 6 (by decide)]
    rfl
  · have hi : i < 1 := hi
    have : i = 0 := by omega
    subst this
    rw [a3.2.2]
    show (if L + 0 = L then t else _) = t
    rw [if_pos (Nat.add_zero L)]
  · rw [a3.2.2]
    show (if i = L then t else x.2.1 7 i) = _
    rw [if_neg (by omega)]
theorem sim_one (hM : M ≤ 160) (hf : ∀ i, i < M → 0 ≤ f i) {n m : Nat} (ho : o ≤ 5) (S1 : o < 5 → SIM f M base (o + 1) N (GRd n 6) (GPar m 5)) (S2 : o < 5 → SIM f M base (o + 1) N (GRd n 0) (GPar m 0)) (h1 : 1 ≤ N) : SIM f M base o N (GRd (n + 1) 6) (GPar (m + 1) 5) := by
  intro x y q L h P b0 o28 e63 hL hh h31
  have qM := P.qM
  show ∃ b x' v y', fX4_readOne (GRd n) x (nI o) = some (b, x') ∧ fX9_one (GPar m) y = some (v, y') ∧ _
  unfold fX4_readOne fX9_one
  rw [sg9 (s := 45) (c := -22) P b0 (by decide), sg9 (s := 40) (c := -31) P b0 (by decide)]
  simp only [Option.bind_some, decide_eq_true_eq]
  by_cases d1 : x.1 4 4 = -34
  · have n1 : ¬ x.1 4 4 = -22 := by rw [d1]; decide
    have n2 : ¬ x.1 4 4 = -31 := by rw [d1]; decide
    have k2 : y.1 0 24 = 2 ∧ ∃ v : Nat, v < 10000 ∧ x.1 4 5 = nI v ∧ y.2.2 0 26 = nL v := by
      rcases P.tk with ⟨-, t⟩ | ⟨-, t⟩ | ⟨-, t⟩ | ⟨k, -, v⟩ | ⟨-, t⟩
      · rw [d1] at t
        exact absurd t (by decide)
      · rw [d1] at t
        exact absurd t (by decide)
      · exact absurd (t.symm.trans d1) (tokw_no _ _ (by decide))
      · exact ⟨k, v⟩
      · rw [d1] at t
        rcases t with ⟨-, t⟩ | ⟨-, t⟩ | ⟨-, t⟩ | ⟨-, t⟩ | ⟨-, t⟩ | ⟨-, t⟩ | ⟨-, t⟩ | ⟨-, t⟩ <;> exact absurd t (by decide)
    obtain ⟨k24, v, v1, v2, v3⟩ := k2
    obtain ⟨x', y', a1, a2, a3, a4, a5⟩ := item_sim (t := nI v) (v := nI v) hM hf P b0 o28 e63 hL (by rw [d1]; decide) (by rw [d1]; decide) ((GC.num (envP y) (show v < 2 ^ 31 by omega)).up h1)
    rw [if_pos d1, if_pos d1, if_neg n1, if_neg n2, if_pos b0, if_pos k24, v2, a1, v3, nL_32 (by omega)]
    simp only [lt, a2, Option.bind_some]
    exact ⟨true, x', nI v, y', rfl, rfl, a3, a4, Or.inl ⟨rfl, a5⟩⟩
  · have nk2 : ¬ y.1 0 24 = 2 := by
      intro z
      rcases P.tk with ⟨k, t⟩ | ⟨k, t⟩ | ⟨k, t⟩ | ⟨k, t, v⟩ | ⟨k, t⟩
      · rw [k] at z; exact absurd z (by decide)
      · rw [k] at z; exact absurd z (by decide)
      · rw [k] at z; exact absurd z (by decide)
      · exact d1 t
      · rw [k] at z; exact absurd z (by decide)
    rw [if_neg d1]
    rcases name9 P b0 hh h31 with ⟨k, k6, kt, k0, k1, kn⟩ | ⟨nn, kn⟩
    · have n1 : ¬ x.1 4 4 = -22 := fun z => by rw [z] at k1; exact absurd k1 (by decide)
      have n2 : ¬ x.1 4 4 = -31 := fun z => by rw [z] at k1; exact absurd k1 (by decide)
      have n3 : x.1 4 4 ≠ -35 := fun z => by rw [z] at k1; exact absurd k1 (by decide)
      have n4 : x.1 4 4 ≠ -36 := fun z => by rw [z] at k1; exact absurd k1 (by decide)
      have k24 : y.1 0 24 = 1 := by
        rcases P.tk with ⟨-, t⟩ | ⟨-, t⟩ | ⟨k, -⟩ | ⟨-, t, -⟩ | ⟨-, t⟩
        · exact absurd t n3
        · exact absurd t n4
        · exact k
        · exact absurd t d1
        · rcases t with ⟨-, t⟩ | ⟨-, t⟩ | ⟨-, t⟩ | ⟨-, t⟩ | ⟨-, t⟩ | ⟨-, t⟩ | ⟨-, t⟩ | ⟨-, t⟩ <;> (rw [t] at k1; exact absurd k1 (by decide))
      have isn : fX7_isName (x.1 4 4) = some true := by
        unfold fX7_isName
        rw [if_neg k0, if_neg (Int32.not_lt.mpr k1)]
      obtain ⟨x', y', a1, a2, a3, a4, a5⟩ := item_sim (t := x.1 4 4) (v := envP y k) hM hf P b0 o28 e63 hL n3 n4 ((GC.name (envP y) k0 k1 kt).up h1)
      rw [isn, Option.bind_some, if_pos rfl, if_neg d1, if_neg n1, if_neg n2, if_pos b0, if_neg nk2, if_pos b0, if_pos k24, kn, a1]
      simp only [bind2, if_pos b0, a2, Option.bind_some]
      exact ⟨true, x', envP y k, y', rfl, rfl, a3, a4, Or.inl ⟨rfl, a5⟩⟩
    · rw [nn, Option.bind_some, if_neg (by decide)]
      by_cases d2 : x.1 4 4 = -22
      · rw [if_pos d2, if_pos d2]
        have n31 : ¬ x.1 4 4 = -31 := by rw [d2]; decide
        unfold fX9_opens
        by_cases o5 : o < 5
        · have e28 : (msS y 0 28 (nI o + 1)).1 0 28 = nI (o + 1) := nI_1 o
          rw [if_pos ((lt5 ho).mpr o5), if_neg n31, o28, if_neg (fun z => (eq5 ho).mp z o5)]
          obtain ⟨q1M, x1, y1, q1, a1, a2, a3, a4, a5, a6⟩ := (P.s28 (nI o + 1)).adv hM hf (by rw [d2]; decide) (by rw [d2]; decide)
          have y29 : y1.1 0 29 = 0 := (a4.2 29 (by decide) (by decide) (by decide)).trans b0
          have y28 : y1.1 0 28 = nI (o + 1) := (a4.2 28 (by decide) (by decide) (by decide)).trans e28
          have y31 : y1.1 0 31 = nI h := (a4.2 31 (by decide) (by decide) (by decide)).trans h31
          have x63 : x1.1 6 3 = nI L := by
            rw [a3.1 6 (by decide)]
            exact e63
          obtain ⟨b, x4, v, y4, r1, r2, r3, r4, r5⟩ := S1 o5 x1 y1 q1 L h a5 y29 y28 x63 (by omega) hh y31
          have yf1 : YF y y1 := (YF.S y _ (by decide)).tr a4.yf
          rw [show nI o + 1 = nI (o + 1) from nI_1 o] at a2 ⊢
          simp only [lt, Option.bind_some, a1, a2, bind2, if_true, Bool.false_eq_true, if_false, r1, r2]
          rcases r5 with ⟨rfl, q4, c, P4, b4, o4, hq4, e4, ent, pre, G, c1⟩ | ⟨rfl, n1, n2, L', n3, n4⟩
          · have q4M := P4.qM
            rw [wr8 e4 (by omega), Option.bind_some, o4, nI_pred]
            refine ⟨true, _, _, _, rfl, rfl, (a3.xf.tr r3).tr (wr8_xf _ _ _ _), (yf1.tr r4).tr (YF.S _ _ (by decide)), Or.inl ⟨rfl, q4, c ++ [-26], (P4.w rfl rfl).s28 _, b4, rfl, ?_, ?_, fun i hi => ?_, fun i hi => ?_, ?_, ?_⟩⟩
            · rw [List.length_append]
              show q + (c.length + 1) ≤ q4
              omega
            · rw [List.length_append]
              rfl
            · rw [List.length_append] at hi
              have hi : i < c.length + 1 := hi
              show (if L + i = L + c.length then (-26 : Int32) else x4.2.1 7 (L + i)) = _
              by_cases z : i < c.length
              · rw [if_neg (by omega), gd_l z]
                exact ent i z
              · have : i = c.length + 0 := by omega
                rw [if_pos (by omega), this, gd_r]
                rfl
            · show (if i = L + c.length then (-26 : Int32) else x4.2.1 7 i) = _
              rw [if_neg (by omega), pre i hi, a3.2.2]
            · rw [← envP_eq yf1]
              exact G.un h1 (Or.inr rfl)
            · rw [List.length_append]
              omega
          · obtain ⟨x9, m1, m2, m3, m4⟩ := wr8any n4 n3 (-26)
            rw [m1]
            refine ⟨false, x9, _, _, rfl, rfl, (a3.xf.tr r3).tr m2, (yf1.tr r4).tr (YF.S _ _ (by decide)), Or.inr ⟨rfl, n1, ?_, m4⟩⟩
            rw [m3]
            exact n2
        · rw [if_neg (fun z => o5 ((lt5 ho).mp z)), o28, if_pos ((eq5 ho).mpr o5), fail9 b0]
          simp only [Option.bind_some, bind2, Bool.false_eq_true, if_false]
          exact ⟨false, x, _, _, rfl, rfl, XF.rf x, fail_yf y _, Or.inr ⟨rfl, no_now hM P e63 hL⟩⟩
      · rw [if_neg d2, if_neg d2]
        by_cases d3 : x.1 4 4 = -31
        · rw [if_pos d3, if_pos d3]
          unfold fX9_opens
          by_cases o5 : o < 5
          · have e28 : (msS y 0 28 (nI o + 1)).1 0 28 = nI (o + 1) := nI_1 o
            rw [if_pos ((lt5 ho).mpr o5), if_pos d3, o28, if_neg (fun z => (eq5 ho).mp z o5)]
            obtain ⟨q1M, x1, y1, q1, a1, a2, a3, a4, a5, a6⟩ := (P.s28 (nI o + 1)).adv hM hf (by rw [d3]; decide) (by rw [d3]; decide)
            have y29 : y1.1 0 29 = 0 := (a4.2 29 (by decide) (by decide) (by decide)).trans b0
            have y28 : y1.1 0 28 = nI (o + 1) := (a4.2 28 (by decide) (by decide) (by decide)).trans e28
            have y31 : y1.1 0 31 = nI h := (a4.2 31 (by decide) (by decide) (by decide)).trans h31
            have x63 : x1.1 6 3 = nI L := by
              rw [a3.1 6 (by decide)]
              exact e63
            obtain ⟨b, x4, v, y4, r1, r2, r3, r4, r5⟩ := S2 o5 x1 y1 q1 L h a5 y29 y28 x63 (by omega) hh y31
            have yf1 : YF y y1 := (YF.S y _ (by decide)).tr a4.yf
            rw [show nI o + 1 = nI (o + 1) from nI_1 o] at a2 ⊢
            simp only [lt, Option.bind_some, a1, a2, bind2, if_true, r1, r2]
            rcases r5 with ⟨rfl, q4, c, P4, b4, o4, hq4, e4, ent, pre, G, c1⟩ | ⟨rfl, n1, n2, L', n3, n4⟩
            · rw [if_pos rfl, sg9 (s := 41) (c := -32) P4 b4 (by decide)]
              unfold fX4_passes
              simp only [Option.bind_some, decide_eq_true_eq]
              by_cases d4 : x4.1 4 4 = -32
              · rw [if_pos d4, if_pos d4, Option.bind_some, o4, nI_pred]
                obtain ⟨-, x6, y6, q6, g1, g2, g3, g4, g5, g6⟩ := (P4.s28 (nI o)).adv hM hf (by rw [d4]; decide) (by rw [d4]; decide)
                have b5 : (msS y4 0 28 (nI o)).1 0 29 = 0 := b4
                simp only [g1, Option.bind_some, if_true, if_pos b5, g2]
                refine ⟨true, x6, v, y6, rfl, rfl, (a3.xf.tr r3).tr g3.xf, ((yf1.tr r4).tr (YF.S _ _ (by decide))).tr g4.yf, Or.inl ⟨rfl, q6, c, g5, ?_, ?_, by omega, ?_, fun i hi => ?_, fun i hi => ?_, ?_, c1⟩⟩
                · exact (g4.2 29 (by decide) (by decide) (by decide)).trans b4
                · exact g4.2 28 (by decide) (by decide) (by decide)
                · rw [g3.1 6 (by decide)]
                  exact e4
                · rw [g3.2.2]
                  exact ent i hi
                · rw [g3.2.2, pre i hi, a3.2.2]
                · rw [← envP_eq yf1]
                  exact G
              · rw [if_neg d4, if_neg d4, fail9 b4]
                simp only [Option.bind_some, Bool.false_eq_true, if_false]
                have b5 : ¬ (msS (msS (msS y4 0 29 1) 0 30 (y4.1 0 25)) 0 28 ((msS (msS y4 0 29 1) 0 30 (y4.1 0 25)).1 0 28 - 1)).1 0 29 = 0 := by
                  show ¬ (1 : Int32) = 0
                  decide
                rw [if_neg b5]
                have q4M := P4.qM
                refine ⟨false, x4, v, _, rfl, rfl, a3.xf.tr r3, ((yf1.tr r4).tr (fail_yf y4 _)).tr (YF.S _ _ (by decide)), Or.inr ⟨rfl, rfl, ?_, L + c.length, by omega, e4⟩⟩
                show y4.1 0 25 = _
                rw [P4.sy, P4.sx]
            · rw [if_neg (by decide), sg9b n1]
              simp only [Option.bind_some, Bool.false_eq_true, if_false, fail9b n1]
              have b5 : ¬ (msS y4 0 28 (y4.1 0 28 - 1)).1 0 29 = 0 := by
                show ¬ y4.1 0 29 = 0
                rw [n1]
                decide
              rw [if_neg b5]
              exact ⟨false, x4, v, _, rfl, rfl, a3.xf.tr r3, (yf1.tr r4).tr (YF.S _ _ (by decide)), Or.inr ⟨rfl, n1, n2, L', n3, n4⟩⟩
          · rw [if_neg (fun z => o5 ((lt5 ho).mp z)), if_pos d3, o28, if_pos ((eq5 ho).mpr o5), fail9 b0]
            simp only [Option.bind_some, bind2, Bool.false_eq_true, if_false]
            exact ⟨false, x, _, _, rfl, rfl, XF.rf x, fail_yf y _, Or.inr ⟨rfl, no_now hM P e63 hL⟩⟩
        · rw [if_neg d3, if_neg d3, if_pos b0, if_neg nk2, if_pos b0, kn, fail9 b0]
          have b5 : ¬ (msS (msS y 0 29 1) 0 30 (y.1 0 25)).1 0 29 = 0 := by
            show ¬ (1 : Int32) = 0
            decide
          simp only [Option.bind_some, bind2, if_neg b5]
          have fin := no_now hM P e63 hL
          by_cases k1 : y.1 0 24 = 1
          · rw [if_pos k1]
            exact ⟨false, x, _, _, rfl, rfl, XF.rf x, fail_yf y _, Or.inr ⟨rfl, fin⟩⟩
          · rw [if_neg k1]
            exact ⟨false, x, _, _, rfl, rfl, XF.rf x, fail_yf y _, Or.inr ⟨rfl, fin⟩⟩
theorem sim_not (hM : M ≤ 160) (hf : ∀ i, i < M → 0 ≤ f i) {n m : Nat} (ho : o ≤ 5) (S1 : o < 5 → SIM f M base (o + 1) N (GRd (n + 1) 2) (GPar m 2)) (S2 : SIM f M base o K (GRd n 4) (GPar m 3)) (hK : K + 1 ≤ N) (h2 : 2 ≤ N) : SIM f M base o N (GRd (n + 2) 2) (GPar (m + 1) 2) := by
  intro x y q L h P b0 o28 e63 hL hh h31
  have qM := P.qM
  show ∃ b x' v y', fX4_readNot (GRd (n + 1)) x (nI o) = some (b, x') ∧ fX9_not (GPar m) y = some (v, y') ∧ _
  unfold fX4_readNot fX9_not
  rw [wd9 (c := -16) P b0 tokw_16 (by decide)]
  simp only [Option.bind_some, decide_eq_true_eq]
  by_cases d2 : x.1 4 4 = -16
  · rw [if_pos d2, if_pos d2]
    unfold fX9_opens
    by_cases o5 : o < 5
    · have e28 : (msS y 0 28 (nI o + 1)).1 0 28 = nI (o + 1) := nI_1 o
      rw [if_pos ((lt5 ho).mpr o5), o28, if_neg (fun z => (eq5 ho).mp z o5)]
      obtain ⟨q1M, x1, y1, q1, a1, a2, a3, a4, a5, a6⟩ := (P.s28 (nI o + 1)).adv hM hf (by rw [d2]; decide) (by rw [d2]; decide)
      have y29 : y1.1 0 29 = 0 := (a4.2 29 (by decide) (by decide) (by decide)).trans b0
      have y28 : y1.1 0 28 = nI (o + 1) := (a4.2 28 (by decide) (by decide) (by decide)).trans e28
      have y31 : y1.1 0 31 = nI h := (a4.2 31 (by decide) (by decide) (by decide)).trans h31
      have x63 : x1.1 6 3 = nI L := by
        rw [a3.1 6 (by decide)]
        exact e63
      obtain ⟨b, x4, v, y4, r1, r2, r3, r4, r5⟩ := S1 o5 x1 y1 q1 L h a5 y29 y28 x63 (by omega) hh y31
      have yf1 : YF y y1 := (YF.S y _ (by decide)).tr a4.yf
      rw [show nI o + 1 = nI (o + 1) from nI_1 o] at a2 ⊢
      simp only [lt, Option.bind_some, a1, a2, bind2, if_true, r1, r2]
      have ev : ∀ z : MS, (if v = 0 then some ((1 : Int32), z) else some (0, z)) = some (al1 (-16) v, z) := by
        intro z
        show _ = some ((if v = 0 then 1 else 0), z)
        split <;> rfl
      rcases r5 with ⟨rfl, q4, c, P4, b4, o4, hq4, e4, ent, pre, G, c1⟩ | ⟨rfl, n1, n2, L', n3, n4⟩
      · have q4M := P4.qM
        rw [wr8 e4 (by omega), Option.bind_some, o4, nI_pred, ev]
        refine ⟨true, _, _, _, rfl, rfl, (a3.xf.tr r3).tr (wr8_xf _ _ _ _), (yf1.tr r4).tr (YF.S _ _ (by decide)), Or.inl ⟨rfl, q4, c ++ [-16], (P4.w rfl rfl).s28 _, b4, rfl, ?_, ?_, fun i hi => ?_, fun i hi => ?_, ?_, ?_⟩⟩
        · rw [List.length_append]
          show q + (c.length + 1) ≤ q4
          omega
        · rw [List.length_append]
          rfl
        · rw [List.length_append] at hi
          have hi : i < c.length + 1 := hi
          show (if L + i = L + c.length then (-16 : Int32) else x4.2.1 7 (L + i)) = _
          by_cases z : i < c.length
          · rw [if_neg (by omega), gd_l z]
            exact ent i z
          · have : i = c.length + 0 := by omega
            rw [if_pos (by omega), this, gd_r]
            rfl
        · show (if i = L + c.length then (-16 : Int32) else x4.2.1 7 i) = _
          rw [if_neg (by omega), pre i hi, a3.2.2]
        · rw [← envP_eq yf1]
          exact G.un (by omega) (Or.inl rfl)
        · rw [List.length_append]
          omega
      · obtain ⟨x9, m1, m2, m3, m4⟩ := wr8any n4 n3 (-16)
        rw [m1, ev]
        refine ⟨false, x9, _, _, rfl, rfl, (a3.xf.tr r3).tr m2, (yf1.tr r4).tr (YF.S _ _ (by decide)), Or.inr ⟨rfl, n1, ?_, m4⟩⟩
        rw [m3]
        exact n2
    · rw [if_neg (fun z => o5 ((lt5 ho).mp z)), o28, if_pos ((eq5 ho).mpr o5), fail9 b0]
      simp only [Option.bind_some, bind2, Bool.false_eq_true, if_false]
      exact ⟨false, x, _, _, rfl, rfl, XF.rf x, fail_yf y _, Or.inr ⟨rfl, no_now hM P e63 hL⟩⟩
  · rw [if_neg d2, if_neg d2]
    obtain ⟨b, x1, v, y1, r1, r2, r3, r4, r5⟩ := S2 x y q L h P b0 o28 e63 hL hh h31
    have e3 : GRd (n + 1) 3 x (nI o) = fX4_readCompared (GRd n) x (nI o) := rfl
    rw [e3, r2]
    unfold fX4_readCompared
    rw [r1]
    simp only [bind2]
    rcases r5 with ⟨rfl, q1, st⟩ | ⟨rfl, no⟩
    · obtain ⟨c, P1, b1, -⟩ := id st
      rw [if_pos rfl, sg9 (s := 60) (c := -24) P1 b1 (by decide), sg9 (s := 61) (c := -25) P1 b1 (by decide)]
      simp only [Option.bind_some, decide_eq_true_eq, lt]
      by_cases d3 : x1.1 4 4 = -24
      · obtain ⟨-, x4, y4, b, x7, w, y7, x9, a1, a2, a3, a4, a5, a6, a7, a8⟩ := bin_step hM hf S2 hK h2 hL hh h31 (st.up (by omega)) r3 r4 d3 (by unfold bop; decide)
        have wo := ((tr_sign (W := 60) P1.tk (by decide)).mpr d3).2
        rw [if_pos d3, if_pos d3, wo, if_pos rfl, a1, a2, Option.bind_some, Option.bind_some, Option.bind_some, a3, a4]
        simp only [d3, a5, Option.bind_some, if_true]
        have ev : (if w ≤ v then some ((0 : Int32), y7) else some (1, y7)) = some (jn (-24) v w, y7) := by
          show _ = some ((if v < w then 1 else 0), y7)
          by_cases z : w ≤ v
          · rw [if_pos z, if_neg (Int32.not_lt.mpr z)]
          · rw [if_neg z, if_pos (Int32.not_le.mp z)]
        rw [ev]
        rcases a8 with ⟨rfl, q', -, st'⟩ | ⟨rfl, no⟩
        · exact ⟨true, x9, _, y7, rfl, rfl, a6, a7, Or.inl ⟨rfl, q', st'⟩⟩
        · exact ⟨false, x9, _, y7, rfl, rfl, a6, a7, Or.inr ⟨rfl, no⟩⟩
      · rw [if_neg d3, if_neg d3]
        by_cases d4 : x1.1 4 4 = -25
        · obtain ⟨-, x4, y4, b, x7, w, y7, x9, a1, a2, a3, a4, a5, a6, a7, a8⟩ := bin_step hM hf S2 hK h2 hL hh h31 (st.up (by omega)) r3 r4 d4 (by unfold bop; decide)
          have wo := ((tr_sign (W := 61) P1.tk (by decide)).mpr d4).2
          rw [if_pos d4, if_pos d4, wo, if_neg (by decide), a1, a2, Option.bind_some, Option.bind_some, Option.bind_some, a3, a4]
          simp only [d4, a5, Option.bind_some, Bool.false_eq_true, if_false]
          have ev : (if v = w then some ((1 : Int32), y7) else some (0, y7)) = some (jn (-25) v w, y7) := by
            show _ = some ((if v = w then 1 else 0), y7)
            split <;> rfl
          rw [ev]
          rcases a8 with ⟨rfl, q', -, st'⟩ | ⟨rfl, no⟩
          · exact ⟨true, x9, _, y7, rfl, rfl, a6, a7, Or.inl ⟨rfl, q', st'⟩⟩
          · exact ⟨false, x9, _, y7, rfl, rfl, a6, a7, Or.inr ⟨rfl, no⟩⟩
        · rw [if_neg d4, if_neg d4]
          exact ⟨true, x1, v, y1, rfl, rfl, r3, r4, Or.inl ⟨rfl, q1, st.up (by omega)⟩⟩
    · rw [if_neg (by decide), sg9b no.1, sg9b no.1]
      simp only [Option.bind_some, Bool.false_eq_true, if_false]
      exact ⟨false, x1, v, y1, rfl, rfl, r3, r4, Or.inr ⟨rfl, no⟩⟩
end SIMS2
theorem levels {f : Nat → Int32} {M base : Nat} (hM : M ≤ 160) (hf : ∀ i, i < M → 0 ≤ f i) : ∀ (e o : Nat), o + e = 5 → (∀ n m, 7 * e + 1 ≤ n → 6 * e + 1 ≤ m → SIM f M base o (5 * e + 1) (GRd n 6) (GPar m 5)) ∧ (∀ n m, 7 * e + 5 ≤ n → 6 * e + 4 ≤ m → SIM f M base o (5 * e + 4) (GRd n 2) (GPar m 2)) ∧ ∀ n m, 7 * e + 7 ≤ n → 6 * e + 6 ≤ m → SIM f M base o (5 * e + 6) (GRd n 0) (GPar m 0) := by
  have up : ∀ {o N K : Nat} {r8 : XS → Int32 → Option (Bool × XS)} {r9 : MS → Option (Int32 × MS)}, K ≤ N → SIM f M base o K r8 r9 → SIM f M base o N r8 r9 := by
    intro o N K r8 r9 hk S x y q L h P b0 o28 e63 hL hh h31
    obtain ⟨b, x', v, y', r1, r2, r3, r4, r5⟩ := S x y q L h P b0 o28 e63 hL hh h31
    refine ⟨b, x', v, y', r1, r2, r3, r4, ?_⟩
    rcases r5 with ⟨rfl, q', st⟩ | no
    · exact Or.inl ⟨rfl, q', st.up hk⟩
    · exact Or.inr no
  have rest : ∀ (e o : Nat), o + e = 5 → (∀ n m, 7 * e + 1 ≤ n → 6 * e + 1 ≤ m → SIM f M base o (5 * e + 1) (GRd n 6) (GPar m 5)) → (o < 5 → ∀ n m, 7 * e + 4 ≤ n → 6 * e + 3 ≤ m → SIM f M base (o + 1) (5 * e + 4) (GRd n 2) (GPar m 2)) → (∀ n m, 7 * e + 5 ≤ n → 6 * e + 4 ≤ m → SIM f M base o (5 * e + 4) (GRd n 2) (GPar m 2)) ∧ ∀ n m, 7 * e + 7 ≤ n → 6 * e + 6 ≤ m → SIM f M base o (5 * e + 6) (GRd n 0) (GPar m 0) := by
    intro e o he h1 hn
    have term : ∀ n m, 7 * e + 2 ≤ n → 6 * e + 2 ≤ m → SIM f M base o (5 * e + 2) (GRd n 5) (GPar m 4) := by
      intro n m hn hm
      obtain ⟨n, rfl⟩ : ∃ z, n = z + 1 := ⟨n - 1, by omega⟩
      obtain ⟨m, rfl⟩ : ∃ z, m = z + 1 := ⟨m - 1, by omega⟩
      exact sim_term hM hf (h1 n m (by omega) (by omega)) (by omega) (by omega)
    have sum : ∀ n m, 7 * e + 3 ≤ n → 6 * e + 3 ≤ m → SIM f M base o (5 * e + 3) (GRd n 4) (GPar m 3) := by
      intro n m hn hm
      obtain ⟨n, rfl⟩ : ∃ z, n = z + 1 := ⟨n - 1, by omega⟩
      obtain ⟨m, rfl⟩ : ∃ z, m = z + 1 := ⟨m - 1, by omega⟩
      exact sim_sum hM hf (term n m (by omega) (by omega)) (by omega) (by omega)
    have nott : ∀ n m, 7 * e + 5 ≤ n → 6 * e + 4 ≤ m → SIM f M base o (5 * e + 4) (GRd n 2) (GPar m 2) := by
      intro n m hn2 hm
      obtain ⟨n, rfl⟩ : ∃ z, n = z + 2 := ⟨n - 2, by omega⟩
      obtain ⟨m, rfl⟩ : ∃ z, m = z + 1 := ⟨m - 1, by omega⟩
      exact sim_not hM hf (by omega) (fun o5 => hn o5 (n + 1) m (by omega) (by omega)) (sum n m (by omega) (by omega)) (by omega) (by omega)
    have andd : ∀ n m, 7 * e + 6 ≤ n → 6 * e + 5 ≤ m → SIM f M base o (5 * e + 5) (GRd n 1) (GPar m 1) := by
      intro n m hn hm
      obtain ⟨n, rfl⟩ : ∃ z, n = z + 1 := ⟨n - 1, by omega⟩
      obtain ⟨m, rfl⟩ : ∃ z, m = z + 1 := ⟨m - 1, by omega⟩
      exact sim_and hM hf (nott n m (by omega) (by omega)) (by omega) (by omega)
    refine ⟨nott, fun n m hn hm => ?_⟩
    obtain ⟨n, rfl⟩ : ∃ z, n = z + 1 := ⟨n - 1, by omega⟩
    obtain ⟨m, rfl⟩ : ∃ z, m = z + 1 := ⟨m - 1, by omega⟩
    exact sim_or hM hf (andd n m (by omega) (by omega)) (by omega) (by omega)
  intro e
  induction e with
  | zero =>
    intro o he
    have o5 : o = 5 := by omega
    subst o5
    have one : ∀ n m, 7 * 0 + 1 ≤ n → 6 * 0 + 1 ≤ m → SIM f M base 5 (5 * 0 + 1) (GRd n 6) (GPar m 5) := by
      intro n m hn hm
      obtain ⟨n, rfl⟩ : ∃ z, n = z + 1 := ⟨n - 1, by omega⟩
      obtain ⟨m, rfl⟩ : ∃ z, m = z + 1 := ⟨m - 1, by omega⟩
      exact sim_one hM hf (Nat.le_refl _) (fun z => absurd z (by decide)) (fun z => absurd z (by decide)) (by omega)
    exact ⟨one, rest 0 5 rfl one (fun z => absurd z (by decide))⟩
  | succ e ih =>
    intro o he
    obtain ⟨i1, i2, i3⟩ := ih (o + 1) (by omega)
    have one : ∀ n m, 7 * (e + 1) + 1 ≤ n → 6 * (e + 1) + 1 ≤ m → SIM f M base o (5 * (e + 1) + 1) (GRd n 6) (GPar m 5) := by
      intro n m hn hm
      obtain ⟨n, rfl⟩ : ∃ z, n = z + 1 := ⟨n - 1, by omega⟩
      obtain ⟨m, rfl⟩ : ∃ z, m = z + 1 := ⟨m - 1, by omega⟩
      exact sim_one hM hf (by omega) (fun _ => up (by omega) (i1 n m (by omega) (by omega))) (fun _ => up (by omega) (i3 n m (by omega) (by omega))) (by omega)
    exact ⟨one, rest (e + 1) o he one (fun _ n m hn hm => up (by omega) (i2 n m (by omega) (by omega)))⟩
