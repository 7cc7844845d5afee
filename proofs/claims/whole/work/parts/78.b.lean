/-! a whole text -/
def XG (x x' : XS) : Prop := (∀ k, k ≠ 4 → k ≠ 6 → x'.1 k = x.1 k) ∧ x'.1 4 1 = x.1 4 1 ∧ (∀ k, k ≠ 7 → k ≠ 8 → x'.2.1 k = x.2.1 k) ∧ x'.2.2 = x.2.2
theorem XG.rf (x : XS) : XG x x := ⟨fun _ _ _ => rfl, rfl, fun _ _ _ => rfl, rfl⟩
theorem XG.tr {a b c : XS} (h : XG a b) (g : XG b c) : XG a c := ⟨fun k p q => (g.1 k p q).trans (h.1 k p q), g.2.1.trans h.2.1, fun k p q => (g.2.2.1 k p q).trans (h.2.2.1 k p q), g.2.2.2.trans h.2.2.2⟩
theorem XF.xg {x x' : XS} (h : XF x x') : XG x x' := ⟨h.1, h.2.1, fun k p _ => h.2.2.1 k p, h.2.2.2⟩
theorem part89 {f : Nat → Int32} {M base : Nat} (hM : M ≤ 160) (hf : ∀ i, i < M → 0 ≤ f i) {x : XS} {y : MS} {q L h a : Nat} {c : Int32} {W : Int64} (hW : ∀ a, tokw a = c ↔ a = W) (hc : c = -11 ∨ c = -12 ∨ c = -13) (P : PR f M base x y q) (b0 : y.1 0 29 = 0) (o28 : y.1 0 28 = nI 0) (e63 : x.1 6 3 = nI L) (hL : L ≤ q) (hh : h < 10) (h31 : y.1 0 31 = nI h) (ha : a < 3) : ∃ b x' v y', fX4_readPart x c (nI a) = some (b, x') ∧ fX9_part y W = some (v, y') ∧ XG x x' ∧ YF y y' ∧ ((b = true ∧ ∃ (cc : List Int32) (q' : Nat), PR f M base x' y' q' ∧ y'.1 0 29 = 0 ∧ y'.1 0 28 = nI 0 ∧ q + cc.length + 1 ≤ q' ∧ x'.1 6 3 = nI (L + cc.length) ∧ (∀ i, i < cc.length → x'.2.1 7 (L + i) = cc.getD i 0) ∧ (∀ i, i < L → x'.2.1 7 i = x.2.1 7 i) ∧ (∀ i, x'.2.1 8 i = if i = a then nI (L + cc.length) else x.2.1 8 i) ∧ GC (envP y) cc v 31) ∨ (b = false ∧ y'.1 0 29 = 1 ∧ y'.1 0 30 = x'.1 4 2)) := by
  have hc12 : c = -1 ∨ c = -2 ∨ c = -3 ∨ c = -4 ∨ c = -5 ∨ c = -6 ∨ c = -11 ∨ c = -12 ∨ c = -13 ∨ c = -14 ∨ c = -15 ∨ c = -16 := by
    rcases hc with rfl | rfl | rfl <;> decide
  have n35 : c ≠ -35 ∧ c ≠ -36 := by
    rcases hc with rfl | rfl | rfl <;> decide
  have qM := P.qM
  unfold fX4_readPart fX9_part fX4_passes
  rw [wd9 (c := c) P b0 hW hc12]
  simp only [Option.bind_some, decide_eq_true_eq]
  by_cases d : x.1 4 4 = c
  · obtain ⟨-, x1, y1, q1, a1, a2, a3, a4, a5, a6⟩ := P.adv hM hf (by rw [d]; exact n35.1) (by rw [d]; exact n35.2)
    have y29 : y1.1 0 29 = 0 := (a4.2 29 (by decide) (by decide) (by decide)).trans b0
    have y28 : y1.1 0 28 = nI 0 := (a4.2 28 (by decide) (by decide) (by decide)).trans o28
    have y31 : y1.1 0 31 = nI h := (a4.2 31 (by decide) (by decide) (by decide)).trans h31
    have x63 : x1.1 6 3 = nI L := by
      rw [a3.1 6 (by decide)]
      exact e63
    have S := (levels (base := base) hM hf 5 0 rfl).2.2 MF MF (by unfold MF; omega) (by unfold MF; omega)
    obtain ⟨b, x4, v, y4, r1, r2, r3, r4, r5⟩ := S x1 y1 q1 L h a5 y29 y28 x63 (by omega) hh y31
    have r1 : GRd MF 0 x1 0 = some (b, x4) := r1
    rw [if_pos d, if_pos d, a1]
    simp only [Option.bind_some, bind2, if_true, if_pos b0, a2, if_pos y29, r1, r2]
    have hba : ib (nI a) 3 := ib_nI ha (by decide)
    have hca : (nI a).toNatClampNeg = a := cl_nI (by omega)
    rcases r5 with ⟨rfl, q4, cc, P4, b4, o4, hq4, e4, ent, pre, G, c1⟩ | ⟨rfl, n1, n2, -⟩
    · have q4M := P4.qM
      have P8 : PR f M base (xsA x4 8 a (x4.1 6 3)) y4 q4 := P4.w rfl rfl
      have t8 : (xsA x4 8 a (x4.1 6 3)).1 4 4 = x4.1 4 4 := rfl
      have g8 : XG x4 (xsA x4 8 a (x4.1 6 3)) := ⟨fun _ _ _ => rfl, rfl, fun k _ p => up2_ne p, rfl⟩
      rw [if_pos rfl, if_pos hba, hca, sg9 (s := 59) (c := -33) P4 b4 (by decide)]
      simp only [lt, t8, Option.bind_some, decide_eq_true_eq]
      by_cases d4 : x4.1 4 4 = -33
      · rw [if_pos d4, if_pos d4, Option.bind_some, if_pos b4]
        obtain ⟨-, x6, y6, q6, g1, g2, g3, g4, g5, g6⟩ := P8.adv hM hf (by rw [t8, d4]; decide) (by rw [t8, d4]; decide)
        rw [g1, g2]
        refine ⟨true, x6, v, y6, rfl, rfl, ((a3.xf.tr r3).xg.tr g8).tr g3.xf.xg, (a4.yf.tr r4).tr g4.yf, Or.inl ⟨rfl, cc, q6, g5, ?_, ?_, by omega, ?_, fun i hi => ?_, fun i hi => ?_, fun i => ?_, ?_⟩⟩
        · exact (g4.2 29 (by decide) (by decide) (by decide)).trans b4
        · exact (g4.2 28 (by decide) (by decide) (by decide)).trans o4
        · rw [g3.1 6 (by decide)]
          exact e4
        · rw [g3.2.2]
          exact ent i hi
        · rw [g3.2.2]
          show x4.2.1 7 i = _
          rw [pre i hi, a3.2.2]
        · rw [g3.2.2]
          show (if i = a then x4.1 6 3 else x4.2.1 8 i) = _
          rw [e4, r3.2.2.1 8 (by decide), a3.2.2]
        · rw [← envP_eq a4.yf]
          exact G
      · rw [if_neg d4, if_neg d4, fail9 b4]
        simp only [Option.bind_some]
        have b5 : ¬ (msS (msS y4 0 29 1) 0 30 (y4.1 0 25)).1 0 29 = 0 := by
          show ¬ (1 : Int32) = 0
          decide
        rw [if_neg b5]
        refine ⟨false, _, v, _, rfl, rfl, (a3.xf.tr r3).xg.tr g8, (a4.yf.tr r4).tr (fail_yf y4 _), Or.inr ⟨rfl, rfl, ?_⟩⟩
        show y4.1 0 25 = x4.1 4 2
        rw [P4.sy, P4.sx]
    · rw [if_neg (by decide), sg9b n1]
      have b5 : ¬ y4.1 0 29 = 0 := by
        rw [n1]
        decide
      simp only [Option.bind_some, Bool.false_eq_true, if_false, fail9b n1, if_neg b5]
      exact ⟨false, x4, v, y4, rfl, rfl, (a3.xf.tr r3).xg, a4.yf.tr r4, Or.inr ⟨rfl, n1, n2⟩⟩
  · have b5 : ¬ (msS (msS y 0 29 1) 0 30 (y.1 0 25)).1 0 29 = 0 := by
      show ¬ (1 : Int32) = 0
      decide
    have s5 := sg9b (y := msS (msS y 0 29 1) 0 30 (y.1 0 25)) rfl 59
    have f5 := fail9b (y := msS (msS y 0 29 1) 0 30 (y.1 0 25)) rfl
    rw [if_neg d, if_neg d, fail9 b0]
    simp only [Option.bind_some, bind2, Bool.false_eq_true, if_false, if_neg b5, s5, f5]
    refine ⟨false, x, _, _, rfl, rfl, XG.rf x, fail_yf y _, Or.inr ⟨rfl, rfl, ?_⟩⟩
    show y.1 0 25 = _
    rw [P.sy, P.sx]
/-- the making of a text, once all is read -/
def mkT (x11 : XS) : Option (Option Nat × XS) := lt x11.2.2.2.2 fun p13 => lt (xsN x11 (.inl (7, [.null, .null, .null, .int 0]))) fun x14 => bind2 (fJ7_copyOf_59c91 x14 (x14.1 6 3)) fun v15 x16 => if dK x16 p13 7 = true then Option.bind v15 fun p19 => Option.bind (fX7_init x16 p13 p19) fun x20 => some ((some p13), x20) else none
/-- what was read, where it lies -/
def RDt (M : Nat) (C : Nat → List Int32) (x : XS) : Prop := (x.1 6 3 = nI ((C 0).length + ((C 1).length + (C 2).length))) ∧ (x.2.1 8 0 = nI (C 0).length) ∧ (x.2.1 8 1 = nI ((C 0).length + (C 1).length)) ∧ (x.2.1 8 2 = nI ((C 0).length + ((C 1).length + (C 2).length))) ∧ (∀ i, i < (C 0).length → x.2.1 7 i = (C 0).getD i 0) ∧ (∀ i, i < (C 1).length → x.2.1 7 ((C 0).length + i) = (C 1).getD i 0) ∧ (∀ i, i < (C 2).length → x.2.1 7 ((C 0).length + ((C 1).length + i)) = (C 2).getD i 0) ∧ ((C 0).length + ((C 1).length + (C 2).length) + 3 ≤ M) ∧ (∀ q, q < 3 → pk (C q) 0 ≤ 40)
theorem RDt.n {M : Nat} {C : Nat → List Int32} {x : XS} (zz : RDt M C x) : x.1 6 3 = nI ((C 0).length + ((C 1).length + (C 2).length)) := zz.1
theorem RDt.e0 {M : Nat} {C : Nat → List Int32} {x : XS} (zz : RDt M C x) : x.2.1 8 0 = nI (C 0).length := zz.2.1
theorem RDt.e1 {M : Nat} {C : Nat → List Int32} {x : XS} (zz : RDt M C x) : x.2.1 8 1 = nI ((C 0).length + (C 1).length) := zz.2.2.1
theorem RDt.e2 {M : Nat} {C : Nat → List Int32} {x : XS} (zz : RDt M C x) : x.2.1 8 2 = nI ((C 0).length + ((C 1).length + (C 2).length)) := zz.2.2.2.1
theorem RDt.c0 {M : Nat} {C : Nat → List Int32} {x : XS} (zz : RDt M C x) : ∀ i, i < (C 0).length → x.2.1 7 i = (C 0).getD i 0 := zz.2.2.2.2.1
theorem RDt.c1 {M : Nat} {C : Nat → List Int32} {x : XS} (zz : RDt M C x) : ∀ i, i < (C 1).length → x.2.1 7 ((C 0).length + i) = (C 1).getD i 0 := zz.2.2.2.2.2.1
theorem RDt.c2 {M : Nat} {C : Nat → List Int32} {x : XS} (zz : RDt M C x) : ∀ i, i < (C 2).length → x.2.1 7 ((C 0).length + ((C 1).length + i)) = (C 2).getD i 0 := zz.2.2.2.2.2.2.1
theorem RDt.le {M : Nat} {C : Nat → List Int32} {x : XS} (zz : RDt M C x) : (C 0).length + ((C 1).length + (C 2).length) + 3 ≤ M := zz.2.2.2.2.2.2.2.1
theorem RDt.pk0 {M : Nat} {C : Nat → List Int32} {x : XS} (zz : RDt M C x) : ∀ q, q < 3 → pk (C q) 0 ≤ 40 := zz.2.2.2.2.2.2.2.2
theorem end_is {tok num kind : Int32} {worth : Int64} (h : TR tok num kind worth) : tok = -35 ↔ kind = 0 := by
  rcases h with ⟨k, t⟩ | ⟨k, t⟩ | ⟨k, t⟩ | ⟨k, t, -⟩ | ⟨k, t⟩
  · rw [k, t]
    decide
  · rw [k, t]
    decide
  · rw [k, t]
    exact ⟨fun z => absurd z (tokw_no _ _ (by decide)), fun z => absurd z (by decide)⟩
  · rw [k, t]
    decide
  · rw [k]
    rcases t with ⟨-, t⟩ | ⟨-, t⟩ | ⟨-, t⟩ | ⟨-, t⟩ | ⟨-, t⟩ | ⟨-, t⟩ | ⟨-, t⟩ | ⟨-, t⟩ <;> (rw [t]; decide)
theorem read89 {f : Nat → Int32} {M : Nat} (hM : M ≤ 160) (hf : ∀ i, i < M → 0 ≤ f i) {x : XS} {y : MS} {i h : Nat} (hi : i < 6) (hx : BX f M x) (hy1 : ∀ j, j < M → y.2.1 1 (160 * i + j) = f j) (hy2 : y.2.1 2 i = nI M) (hh : h < 10) (l w p g k : Int32) : (∃ x11 y' C, fX4_read x = mkT x11 ∧ XG x x11 ∧ RDt M C x11 ∧ fX9_read y (nI i) (nI h) l w p g k = some ((evl (envM y h l w p g) (C (if k = 0 then 0 else if k = 1 then 1 else 2)) []).headD 0, y') ∧ kp y y' ∧ y'.1 0 29 = 0) ∨ ∃ x' v y', fX4_read x = some (none, x') ∧ XG x x' ∧ fX9_read y (nI i) (nI h) l w p g k = some (v, y') ∧ kp y y' ∧ y'.1 0 29 = 1 ∧ y'.1 0 30 = x'.1 4 2 := by
  have e160 : (160 : Int32) * nI i = nI (160 * i) := nI_ml 160 i
  have hbi : ib (nI i) 6 := ib_nI hi (by decide)
  have hci : (nI i).toNatClampNeg = i := cl_nI (by omega)
  -- the reference's start
  have hy1' : ∃ y1 : MS, y1 = msS (msS (msS (msS (msS (msS (msS (msS (msS (msS y 0 31 (nI h)) 0 32 l) 0 33 w) 0 34 p) 0 35 g) 0 22 (nI (160 * i))) 0 23 (nI M)) 0 27 0) 0 28 0) 0 29 (bI false) := ⟨_, rfl⟩
  obtain ⟨y1, ey1⟩ := hy1'
  have i31 : y1.1 0 31 = nI h := by rw [ey1]; rfl
  have i32 : y1.1 0 32 = l := by rw [ey1]; rfl
  have i33 : y1.1 0 33 = w := by rw [ey1]; rfl
  have i34 : y1.1 0 34 = p := by rw [ey1]; rfl
  have i35 : y1.1 0 35 = g := by rw [ey1]; rfl
  have i22 : y1.1 0 22 = nI (160 * i) := by rw [ey1]; rfl
  have i23 : y1.1 0 23 = nI M := by rw [ey1]; rfl
  have i27 : y1.1 0 27 = nI 0 := by rw [ey1]; rfl
  have i28 : y1.1 0 28 = nI 0 := by rw [ey1]; rfl
  have i29 : y1.1 0 29 = 0 := by rw [ey1]; rfl
  have irw : y1.2.1 = y.2.1 := by rw [ey1]; rfl
  have iot : ∀ j, j < 22 ∨ 35 < j → y1.1 0 j = y.1 0 j := by
    intro j hj
    rw [ey1]
    show (if j = 29 then _ else if j = 28 then _ else if j = 27 then _ else if j = 23 then _ else if j = 22 then _ else if j = 35 then _ else if j = 34 then _ else if j = 33 then _ else if j = 32 then _ else if j = 31 then _ else y.1 0 j) = _
    rw [if_neg (by omega), if_neg (by omega), if_neg (by omega), if_neg (by omega), if_neg (by omega), if_neg (by omega), if_neg (by omega), if_neg (by omega), if_neg (by omega), if_neg (by omega)]
  have hkp : ∀ y2, YF y1 y2 → kp y y2 := fun y2 hf2 => ⟨hf2.1.trans irw, fun j hj => (hf2.2 j (by omega)).trans (iot j hj)⟩
  have henv : ∀ y2, YF y1 y2 → envP y2 = envM y h l w p g := by
    intro y2 hf2
    rw [envP_eq hf2]
    unfold envP envM
    rw [i31, i32, i33, i34, i35, irw, cl_nI (show h < 2 ^ 31 by omega)]
  have hY1 : BY f M (160 * i) y1 := ⟨i23, i22, fun j hj => by rw [irw]; exact hy1 j hj, by omega⟩
  have hX1 : BX f M (xsS (xsS x 6 3 0) 4 3 0) := ⟨hx.m, hx.b⟩
  obtain ⟨x2, y2, q2, a1, a2, a3, a4, a5, a6⟩ := adv89 (base := 160 * i) (p := 0) hM hf hX1 hY1 rfl i27 (Nat.zero_le _)
  have xg2 : XG x x2 := by
    refine XG.tr (b := xsS (xsS x 6 3 0) 4 3 0) ⟨fun k p q => ?_, rfl, fun _ _ _ => rfl, rfl⟩ a3.xf.xg
    show up2 (up2 x.1 6 3 0) 4 3 0 k = x.1 k
    rw [up2_ne p, up2_ne q]
  have e63 : x2.1 6 3 = nI 0 := by
    rw [a3.1 6 (by decide)]
    rfl
  have b2 : y2.1 0 29 = 0 := (a4.2 29 (by decide) (by decide) (by decide)).trans i29
  have o2 : y2.1 0 28 = nI 0 := (a4.2 28 (by decide) (by decide) (by decide)).trans i28
  have h2 : y2.1 0 31 = nI h := (a4.2 31 (by decide) (by decide) (by decide)).trans i31
  have e8 : fX4_read x = (bind2 (fX4_readPart x2 (-11) 0) fun v4 x5 => if v4 = true then bind2 (fX4_readPart x5 (-12) 1) fun v7 x8 => if v7 = true then bind2 (fX4_readPart x8 (-13) 2) fun v10 x11 => if v10 = true then if (x11.1 4 4) = (-35) then mkT x11 else some (none, x11) else some (none, x11) else some (none, x8) else some (none, x5)) := by
    unfold fX4_read fX6_rewind
    simp only [lt]
    rw [a1]
    rfl
  have e9 : fX9_read y (nI i) (nI h) l w p g k = (bind2 (fX9_part y2 279875) fun v14 x15 => bind2 (if (x15.1 0 29) = 0 then bind2 (fX9_part x15 168727) fun v17 x18 => some (v17, x18) else some (0, x15)) fun v20 x21 => bind2 (if (x21.1 0 29) = 0 then bind2 (fX9_part x21 13903) fun v22 x23 => some (v22, x23) else some (0, x21)) fun v25 x26 => Option.bind (if (x26.1 0 29) = 0 then if (x26.1 0 24) = 0 then some x26 else Option.bind (fX9_fail x26) fun x27 => some x27 else some x26) fun x29 => if k = 0 then some (v14, x29) else if k = 1 then some (v20, x29) else some (v25, x29)) := by
    have er : ∀ (a b c d e : Int32) (v : Int32), (msS (msS (msS (msS (msS (msS y 0 31 a) 0 32 b) 0 33 c) 0 34 d) 0 35 e) 0 22 v).2.1 2 i = nI M := fun _ _ _ _ _ _ => hy2
    unfold fX9_read
    simp only [lt, if_pos hbi, hci, e160, er]
    rw [← ey1, a2]
    rfl
  rw [e8, e9]
  obtain ⟨b, x5, v0, y5, r1, r2, r3, r4, r5⟩ := part89 hM hf tokw_11 (Or.inl rfl) a5 b2 o2 e63 (Nat.zero_le _) hh h2 (show 0 < 3 by decide)
  have r1 : fX4_readPart x2 (-11) 0 = some (b, x5) := r1
  have yf5 : YF y1 y5 := a4.yf.tr r4
  rw [r1, r2]
  simp only [bind2]
  rcases r5 with ⟨rfl, c0, q5, P5, b5, o5, hq5, e5, ent0, -, row8, G0⟩ | ⟨rfl, n1, n2⟩
  · rw [if_pos rfl, if_pos b5]
    have h5 : y5.1 0 31 = nI h := (yf5.2 31 (by decide)).trans i31
    rw [Nat.zero_add] at e5
    obtain ⟨b, x8, v1, y8, s1, s2, s3, s4, s5⟩ := part89 hM hf tokw_12 (Or.inr (Or.inl rfl)) P5 b5 o5 e5 (by omega) hh h5 (show 1 < 3 by decide)
    have s1 : fX4_readPart x5 (-12) 1 = some (b, x8) := s1
    have yf8 : YF y1 y8 := yf5.tr s4
    rw [s1, s2]
    simp only
    rcases s5 with ⟨rfl, c1, q8, P8, b8, o8, hq8, e8', ent1, pre1, row8', G1⟩ | ⟨rfl, n1, n2⟩
    · rw [if_pos rfl, if_pos b8]
      have h8 : y8.1 0 31 = nI h := (yf8.2 31 (by decide)).trans i31
      obtain ⟨b, x11, v2, y11, t1, t2, t3, t4, t5⟩ := part89 hM hf tokw_13 (Or.inr (Or.inr rfl)) P8 b8 o8 e8' (by omega) hh h8 (show 2 < 3 by decide)
      have t1 : fX4_readPart x8 (-13) 2 = some (b, x11) := t1
      have yf11 : YF y1 y11 := yf8.tr t4
      have xg11 : XG x x11 := ((xg2.tr r3).tr s3).tr t3
      rw [t1, t2]
      simp only
      rcases t5 with ⟨rfl, c2, q11, P11, b11, o11, hq11, e11, ent2, pre2, row8'', G2⟩ | ⟨rfl, n1, n2⟩
      · have qM := P11.qM
        rw [if_pos rfl, if_pos b11]
        by_cases d : x11.1 4 4 = -35
        · rw [if_pos d, if_pos ((end_is P11.tk).mp d)]
          simp only [Option.bind_some]
          refine Or.inl ⟨x11, y11, fun q => if q = 0 then c0 else if q = 1 then c1 else c2, rfl, xg11, ⟨?_, ?_, ?_, ?_, fun j hj => ?_, fun j hj => ?_, fun j hj => ?_, ?_, fun q hq => ?_⟩, ?_, hkp y11 yf11, b11⟩
          · show x11.1 6 3 = nI (c0.length + (c1.length + c2.length))
            rw [e11, Nat.add_assoc]
          · show x11.2.1 8 0 = nI c0.length
            rw [row8'' 0, if_neg (by decide), row8' 0, if_neg (by decide), row8 0, if_pos rfl, Nat.zero_add]
          · show x11.2.1 8 1 = nI (c0.length + c1.length)
            rw [row8'' 1, if_neg (by decide), row8' 1, if_pos rfl]
          · show x11.2.1 8 2 = nI (c0.length + (c1.length + c2.length))
            rw [row8'' 2, if_pos rfl, Nat.add_assoc]
          · have hj : j < c0.length := hj
            show x11.2.1 7 j = c0.getD j 0
            rw [pre2 j (by omega), pre1 j hj, ← ent0 j hj, Nat.zero_add]
          · have hj : j < c1.length := hj
            show x11.2.1 7 (c0.length + j) = c1.getD j 0
            rw [pre2 _ (by omega)]
            exact ent1 j hj
          · have hj : j < c2.length := hj
            show x11.2.1 7 (c0.length + (c1.length + j)) = c2.getD j 0
            rw [← Nat.add_assoc]
            exact ent2 j hj
          · show c0.length + (c1.length + c2.length) + 3 ≤ M
            omega
          · have q3 : q = 0 ∨ q = 1 ∨ q = 2 := by omega
            rcases q3 with rfl | rfl | rfl
            · exact Nat.le_trans (G0.2.2 0) (by decide)
            · exact Nat.le_trans (G1.2.2 0) (by decide)
            · exact Nat.le_trans (G2.2.2 0) (by decide)
          · rw [henv y2 a4.yf] at G0
            rw [henv y5 yf5] at G1
            rw [henv y8 yf8] at G2
            by_cases k0 : k = 0
            · simp only [if_pos k0, if_true]
              rw [G0.1]
              rfl
            · by_cases k1 : k = 1
              · simp only [if_neg k0, if_pos k1]
                rw [if_neg (by decide), if_pos trivial, G1.1]
                rfl
              · simp only [if_neg k0, if_neg k1]
                rw [if_neg (by decide), if_neg (by decide), G2.1]
                rfl
        · rw [if_neg d, if_neg (fun z => d ((end_is P11.tk).mpr z)), fail9 b11]
          simp only [Option.bind_some]
          refine Or.inr ⟨x11, if k = 0 then v0 else if k = 1 then v1 else v2, msS (msS y11 0 29 1) 0 30 (y11.1 0 25), rfl, xg11, ?_, hkp _ (yf11.tr (fail_yf y11 _)), rfl, ?_⟩
          · split
            · rfl
            · split <;> rfl
          · show y11.1 0 25 = _
            rw [P11.sy, P11.sx]
      · have nb : ¬ y11.1 0 29 = 0 := by rw [n1]; decide
        rw [if_neg (by decide), if_neg nb]
        simp only [Option.bind_some]
        refine Or.inr ⟨x11, if k = 0 then v0 else if k = 1 then v1 else v2, y11, rfl, xg11, ?_, hkp _ yf11, n1, n2⟩
        split
        · rfl
        · split <;> rfl
    · have nb : ¬ y8.1 0 29 = 0 := by rw [n1]; decide
      rw [if_neg (by decide), if_neg nb]
      simp only [if_neg nb, Option.bind_some]
      refine Or.inr ⟨x8, if k = 0 then v0 else if k = 1 then v1 else 0, y8, rfl, (xg2.tr r3).tr s3, ?_, hkp _ yf8, n1, n2⟩
      split
      · rfl
      · split <;> rfl
  · have nb : ¬ y5.1 0 29 = 0 := by rw [n1]; decide
    rw [if_neg (by decide), if_neg nb]
    simp only [if_neg nb, Option.bind_some]
    refine Or.inr ⟨x5, if k = 0 then v0 else if k = 1 then 0 else 0, y5, rfl, xg2.tr r3, ?_, hkp _ yf5, n1, n2⟩
    split
    · rfl
    · split <;> rfl
theorem mk_text {x : XS} {M : Nat} {C : Nat → List Int32} (hM : M ≤ 160) (R : RDt M C x) : ∃ (z : XS) (ft fe : Nat → Int32), mkT x = some (some x.2.2.2.2, z) ∧ z.1 = x.1 ∧ z.2.1 = x.2.1 ∧ z.2.2.1 = x.2.2.1 ∧ z.2.2.2.2 = x.2.2.2.2 + 4 ∧ (∀ a, z.2.2.2.1 a = if a = x.2.2.2.2 then some (.inl (7, [.ref (x.2.2.2.2 + 1), .ref (x.2.2.2.2 + 2), .ref (x.2.2.2.2 + 3), .int 0])) else if a = x.2.2.2.2 + 1 then some (.inr ((cat3 C).length, ft)) else if a = x.2.2.2.2 + 2 then some (.inr (3, fe)) else if a = x.2.2.2.2 + 3 then some (.inr (40, fun _ => 0)) else x.2.2.2.1 a) ∧ TXc (cat3 C).length ft fe C := by
  have hle := R.le
  have hlen : (cat3 C).length = (C 0).length + ((C 1).length + (C 2).length) := by
    unfold cat3
    rw [List.length_append, List.length_append]
  have e63 : x.1 6 3 = nI (cat3 C).length := by rw [hlen]; exact R.n
  have hT : (cat3 C).length < 160 := by omega
  generalize hTT : (cat3 C).length = T at *
  have n160 : ¬ nI T = 160 := by
    rw [show (160 : Int32) = nI 160 from rfl, nI_eqi (by omega) (by decide)]
    omega
  have nn : ¬ nI T < 0 := by
    rw [show (0 : Int32) = nI 0 from rfl, nI_lti (by omega) (by decide)]
    omega
  have hc : (nI T).toNatClampNeg = T := cl_nI (by omega)
  have im : imin 160 (nI T) = nI T := by
    show (if nI T < 160 then nI T else 160) = nI T
    have t : nI T < 160 := (nI_lti (b := 160) (by omega) (by decide)).mpr hT
    rw [if_pos t]
  have z0 : (0 : Int32).toNatClampNeg = 0 := rfl
  have z3 : (3 : Int32).toNatClampNeg = 3 := rfl
  have z40 : (40 : Int32).toNatClampNeg = 40 := rfl
  have gt : ∀ (z : XS) (d : DE), (xsD z x.2.2.2.2 d).2.2.2.1 x.2.2.2.2 = some d := fun z d => if_pos rfl
  have nw : ∀ (z : XS) (e d : DE), z.2.2.2.1 x.2.2.2.2 = some e → x.2.2.2.2 < z.2.2.2.2 → (xsN z d).2.2.2.1 x.2.2.2.2 = some e := by
    intro z e d h1 h2
    show (if x.2.2.2.2 = z.2.2.2.2 then _ else z.2.2.2.1 x.2.2.2.2) = _
    rw [if_neg (by omega)]
    exact h1
  have e0 : (xsN x (.inl (7, [.null, .null, .null, .int 0]))).2.2.2.1 x.2.2.2.2 = some (.inl (7, [.null, .null, .null, .int 0])) := if_pos rfl
  -- the code's copy
  have k1 : fJ7_copyOf_59c91 (xsN x (.inl (7, [.null, .null, .null, .int 0]))) (nI T) = some (some (x.2.2.2.2 + 1), xsD (xsN (xsN x (.inl (7, [.null, .null, .null, .int 0]))) (.inr (T, fun _ => 0))) (x.2.2.2.2 + 1) (.inr (T, va_cpy (x.2.1 7) (fun _ => 0) 0 0 T))) := by
    have e1 : (xsN (xsN x (.inl (7, [.null, .null, .null, .int 0]))) (.inr (T, fun _ => 0))).2.2.2.1 (x.2.2.2.2 + 1) = some (.inr (T, fun _ => 0)) := if_pos rfl
    unfold fJ7_copyOf_59c91
    rw [if_neg n160, if_pos ⟨nn, by rw [hc]; omega⟩, hc, im]
    simp only [lt]
    unfold cpFD
    have sz : (xsN x (.inl (7, [.null, .null, .null, .int 0]))).2.2.2.2 = x.2.2.2.2 + 1 := rfl
    rw [sz, e1]
    simp only
    rw [if_pos ⟨by decide, by decide, nn, by rw [z0, hc]; omega, by rw [z0, hc]; omega⟩, z0, hc]
    rfl
  obtain ⟨x16, ex16⟩ : ∃ x16, x16 = xsD (xsN (xsN x (.inl (7, [.null, .null, .null, .int 0]))) (.inr (T, fun _ => 0))) (x.2.2.2.2 + 1) (.inr (T, va_cpy (x.2.1 7) (fun _ => 0) 0 0 T)) := ⟨_, rfl⟩
  have p16 : x16.2.2.2.1 x.2.2.2.2 = some (.inl (7, [.null, .null, .null, .int 0])) := by
    rw [ex16]
    show (if x.2.2.2.2 = x.2.2.2.2 + 1 then _ else if x.2.2.2.2 = x.2.2.2.2 + 1 then _ else if x.2.2.2.2 = x.2.2.2.2 then _ else _) = _
    rw [if_neg (by omega), if_neg (by omega), if_pos rfl]
  have s16 : x16.2.2.2.2 = x.2.2.2.2 + 2 := by rw [ex16]; rfl
  have i1 : ∃ z, fX7_init x16 x.2.2.2.2 (x.2.2.2.2 + 1) = some z ∧ z.1 = x16.1 ∧ z.2.1 = x16.2.1 ∧ z.2.2.1 = x16.2.2.1 ∧ z.2.2.2.2 = x16.2.2.2.2 + 2 ∧ ∀ a, z.2.2.2.1 a = if a = x.2.2.2.2 then some (.inl (7, [.ref (x.2.2.2.2 + 1), .ref (x.2.2.2.2 + 2), .ref (x.2.2.2.2 + 3), .int 0])) else if a = x.2.2.2.2 + 2 then some (.inr (3, va_cpy (x16.2.1 8) (fun _ => 0) 0 0 3)) else if a = x.2.2.2.2 + 3 then some (.inr (40, fun _ => 0)) else x16.2.2.2.1 a := by
    unfold fX7_init
    simp only [lt, z3, z40]
    rw [dPut_o (nw _ _ _ p16 (by omega)) (Nat.le_of_ble_eq_true rfl), Option.bind_some]
    rw [dPut_o (nw _ _ _ (gt _ _) (by show x.2.2.2.2 < x16.2.2.2.2 + 1; omega)) (Nat.le_of_ble_eq_true rfl), Option.bind_some]
    rw [dPut_o (gt _ _) (Nat.le_of_ble_eq_true rfl), Option.bind_some, dPut_o (gt _ _) (Nat.le_of_ble_eq_true rfl), Option.bind_some]
    have e3 : ∀ (y : XS) (a b c d : Value), dP (xsD y x.2.2.2.2 (.inl (7, [a, .ref x16.2.2.2.2, c, d]))) x.2.2.2.2 7 1 = some x16.2.2.2.2 := fun y a b c d => dP_o (k := 1) (gt y _) rfl
    rw [dP_o (k := 1) (v := x16.2.2.2.2) (gt _ _) rfl, Option.bind_some]
    unfold cpFD
    have e2 : ∀ (d1 d2 d3 d4 : DE), (xsD (xsD (xsD (xsN (xsD (xsN x16 (.inr (3, fun _ => 0))) x.2.2.2.2 d1) (.inr (40, fun _ => 0))) x.2.2.2.2 d2) x.2.2.2.2 d3) x.2.2.2.2 d4).2.2.2.1 x16.2.2.2.2 = some (.inr (3, fun _ => 0)) := by
      intro d1 d2 d3 d4
      show (if x16.2.2.2.2 = x.2.2.2.2 then _ else if x16.2.2.2.2 = x.2.2.2.2 then _ else if x16.2.2.2.2 = x.2.2.2.2 then _ else if x16.2.2.2.2 = x16.2.2.2.2 + 1 then _ else if x16.2.2.2.2 = x.2.2.2.2 then _ else if x16.2.2.2.2 = x16.2.2.2.2 then _ else _) = _
      rw [if_neg (by omega), if_neg (by omega), if_neg (by omega), if_neg (by omega), if_neg (by omega), if_pos rfl]
    rw [e2]
    simp only
    rw [if_pos ⟨by decide, by decide, by decide, by decide, by decide⟩, z0, z3]
    refine ⟨_, rfl, rfl, rfl, rfl, rfl, fun a => ?_⟩
    show (if a = x16.2.2.2.2 then _ else if a = x.2.2.2.2 then _ else if a = x.2.2.2.2 then _ else if a = x.2.2.2.2 then _ else if a = x16.2.2.2.2 + 1 then _ else if a = x.2.2.2.2 then _ else if a = x16.2.2.2.2 then _ else x16.2.2.2.1 a) = _
    rw [s16]
    by_cases q : a = x.2.2.2.2
    · rw [if_neg (by omega), if_pos q, if_pos q]
      show (some (Sum.inl (7, [Value.ref (x.2.2.2.2 + 1), .ref (x.2.2.2.2 + 2), .ref (x16.2.2.2.2 + 1), .int 0])) : Option DE) = _
      rw [s16]
    · rw [if_neg q, if_neg q, if_neg q, if_neg q, if_neg q]
      by_cases q2 : a = x.2.2.2.2 + 2
      · rw [if_pos q2, if_pos q2]
        rfl
      · rw [if_neg q2, if_neg q2, if_neg q2]
  obtain ⟨z, j1, j2, j3, j4, j5, j6⟩ := i1
  refine ⟨z, va_cpy (x.2.1 7) (fun _ => 0) 0 0 T, va_cpy (x.2.1 8) (fun _ => 0) 0 0 3, ?_, ?_, ?_, ?_, ?_, fun a => ?_, ?_⟩
  · unfold mkT
    have e14 : (xsN x (.inl (7, [.null, .null, .null, .int 0]))).1 6 3 = nI T := e63
    simp only [lt, e14]
    rw [k1, ← ex16]
    simp only [bind2]
    rw [dK_o p16, if_pos rfl, Option.bind_some, j1]
    rfl
  · rw [j2, ex16]; rfl
  · rw [j3, ex16]; rfl
  · rw [j4, ex16]; rfl
  · rw [j5, s16]
  · rw [j6]
    by_cases q : a = x.2.2.2.2
    · rw [if_pos q, if_pos q]
    · rw [if_neg q, if_neg q]
      have h8 : x16.2.1 8 = x.2.1 8 := by rw [ex16]; rfl
      by_cases q1 : a = x.2.2.2.2 + 1
      · rw [if_neg (by omega), if_neg (by omega), if_pos q1, ex16]
        show (if a = x.2.2.2.2 + 1 then _ else _) = _
        rw [if_pos q1]
      · rw [if_neg q1, h8]
        by_cases q2 : a = x.2.2.2.2 + 2
        · rw [if_pos q2, if_pos q2]
        · rw [if_neg q2, if_neg q2]
          by_cases q3 : a = x.2.2.2.2 + 3
          · rw [if_pos q3, if_pos q3]
          · rw [if_neg q3, if_neg q3, ex16]
            show (if a = x.2.2.2.2 + 1 then _ else if a = x.2.2.2.2 + 1 then _ else if a = x.2.2.2.2 then _ else _) = _
            rw [if_neg q1, if_neg q1, if_neg q]
  · refine ⟨hTT.symm, by omega, fun j hj => ?_, ?_, ?_, ?_, fun q hq k hk => Nat.le_trans (pk_few (C q) 0 k) (R.pk0 q hq)⟩
    · rw [pk_cpy_in (Nat.zero_le _) (by omega), show 0 + (j - 0) = j by omega]
      unfold cat3
      by_cases q0 : j < (C 0).length
      · rw [gd_l q0]
        exact R.c0 j q0
      · obtain ⟨j1', rfl⟩ : ∃ d, j = (C 0).length + d := ⟨j - (C 0).length, by omega⟩
        rw [gd_r]
        by_cases q1 : j1' < (C 1).length
        · rw [gd_l q1]
          exact R.c1 j1' q1
        · obtain ⟨j2', rfl⟩ : ∃ d, j1' = (C 1).length + d := ⟨j1' - (C 1).length, by omega⟩
          rw [gd_r]
          exact R.c2 j2' (by omega)
    · rw [pk_cpy_in (Nat.zero_le _) (by decide)]
      exact R.e0
    · rw [pk_cpy_in (Nat.zero_le _) (by decide)]
      exact R.e1
    · rw [pk_cpy_in (Nat.zero_le _) (by decide)]
      rw [hlen]
      exact R.e2
