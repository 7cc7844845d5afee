/-! the start -/
theorem put_nar : ∀ i : Nat, i < 54 → vp_nar .char (((chk 0 i).toUInt32 % 65536).toInt32) = chk 0 i := by decide +kernel
theorem put_loop : ∀ (k j f : Nat) (w : XS), j + k = 54 → k < f → w.1 4 1 = nI j → (∀ i, i < j → w.2.1 5 i = chk 0 i) → ∃ w', LX8_init_168 f (nI j) w = some w' ∧ w'.1 4 1 = nI 54 ∧ (∀ i, i < 54 → w'.2.1 5 i = chk 0 i) ∧ (∀ k, k ≠ 4 → w'.1 k = w.1 k) ∧ (∀ k, k ≠ 5 → w'.2.1 k = w.2.1 k) ∧ w'.2.2 = w.2.2 := by
  intro k
  induction k with
  | zero =>
    intro j f w hk hf h1 h2
    obtain ⟨f, rfl⟩ : ∃ z, f = z + 1 := ⟨f - 1, by omega⟩
    have e : j = 54 := by omega
    subst e
    refine ⟨w, ?_, h1, h2, fun _ _ => rfl, fun _ _ => rfl, rfl⟩
    show BX8_init_168 _ (nI 54) w = _
    unfold BX8_init_168
    rw [tkz_len w (by decide), Option.bind_some, if_pos (by decide)]
  | succ k ih =>
    intro j f w hk hf h1 h2
    obtain ⟨f, rfl⟩ : ∃ z, f = z + 1 := ⟨f - 1, by omega⟩
    have hlt : ¬ nI (scLen.getD 0 0) ≤ nI j := by
      show ¬ nI 54 ≤ nI j
      rw [nI_lei (by omega) (by omega)]
      omega
    have h160 : ¬ (160 : Int32) ≤ nI j := by
      rw [show (160 : Int32) = nI 160 from rfl, nI_lei (by decide) (by omega)]
      omega
    have hb : ib (nI j) 160 := ib_nI (by omega) (by decide)
    have hc : (nI j).toNatClampNeg = j := cl_nI (by omega)
    have e1 : (xsA w 5 j (chk 0 j)).1 4 1 = nI j := h1
    obtain ⟨w', a1, a2, a3, a4, a5, a6⟩ := ih (j + 1) f (xsS (xsA w 5 j (chk 0 j)) 4 1 (nI (j + 1))) (by omega) (by omega) rfl (fun i hi => by
      show (if i = j then chk 0 j else w.2.1 5 i) = _
      by_cases q : i = j
      · rw [if_pos q, q]
      · rw [if_neg q]
        exact h2 i (by omega))
    refine ⟨w', ?_, a2, a3, fun k hk => (a4 k hk).trans (up2_ne hk), fun k hk => (a5 k hk).trans (up2_ne hk), a6⟩
    show BX8_init_168 _ (nI j) w = _
    unfold BX8_init_168 fX6_append
    rw [tkz_len w (by decide), Option.bind_some, if_neg hlt, tkz_chr w (by decide) (show j < 54 by omega), Option.bind_some]
    simp only [lt, h1, if_neg h160, if_pos hb, put_nar j (show j < 54 by omega), hc, e1, nI_1, Option.bind_some]
    exact a1
def y00 : MS := (fX9_tail x0M).getD x0M
theorem y00_some : (fX9_tail x0M).isSome = true := by decide +kernel
theorem y00_is : fX9_tail x0M = some y00 := by
  have h := y00_some
  unfold y00
  revert h
  generalize fX9_tail x0M = v
  intro h
  rcases v with _ | v
  · cases h
  · rfl
theorem y00_r1 : ∀ i : Nat, i < 56 → y00.2.1 1 i = b54 i := by decide +kernel
theorem y00_g : ∀ i : Nat, i < 4 → y00.2.1 10 i = 2 ∧ y00.2.1 26 i = 0 := by decide +kernel
theorem y00_s : y00.2.1 2 0 = nI 56 ∧ y00.1 0 3 = 1 ∧ y00.1 0 15 = 1 ∧ y00.1 0 13 = 0 ∧ y00.1 0 41 = 0 ∧ y00.1 0 6 = 0 ∧ y00.1 0 4 = 0 ∧ y00.1 0 48 = 0 := by decide +kernel
/-- the reference's start, with what is of use -/
theorem first_y : ∃ y0 : MS, fX9_tail x0M = some y0 ∧ (∀ i : Nat, i < 56 → y0.2.1 1 i = b54 i) ∧ (∀ i : Nat, i < 4 → y0.2.1 10 i = 2 ∧ y0.2.1 26 i = 0) ∧ (y0.2.1 2 0 = nI 56 ∧ y0.1 0 3 = 1 ∧ y0.1 0 15 = 1 ∧ y0.1 0 13 = 0 ∧ y0.1 0 41 = 0 ∧ y0.1 0 6 = 0 ∧ y0.1 0 4 = 0 ∧ y0.1 0 48 = 0) := ⟨y00, y00_is, y00_r1, y00_g, y00_s⟩
theorem b54_0 : ∀ i, i < 56 → 0 ≤ b54 i := by decide +kernel
theorem b54_e : ∀ i : Nat, i < 54 → b54 i = chk 0 i := fun i hi => if_pos hi
theorem same_get {a b : Option (Option Nat × XS)} (h : sameT a b = true) : ∃ p z q w, a = some (some p, z) ∧ b = some (some q, w) ∧ z.1 6 3 = 9 ∧ w.1 6 3 = 9 ∧ (∀ j : Nat, j < 3 → z.2.1 8 j = w.2.1 8 j) ∧ ∀ j : Nat, j < 9 → z.2.1 7 j = w.2.1 7 j := by
  rcases a with _ | ⟨_ | p, z⟩
  · cases h
  · cases h
  · rcases b with _ | ⟨_ | q, w⟩
    · cases h
    · cases h
    · exact ⟨p, z, q, w, rfl, rfl, of_decide_eq_true h⟩
theorem rd_same {xa xb : XS} {C D : Nat → List Int32} (R : RDt 54 C xa) (S : RDt 56 D xb) (ha : xa.1 6 3 = 9) (h8 : ∀ j : Nat, j < 3 → xa.2.1 8 j = xb.2.1 8 j) (h7 : ∀ j : Nat, j < 9 → xa.2.1 7 j = xb.2.1 7 j) : ∀ q, q < 3 → C q = D q := by
  have l1 := R.le
  have l2 := S.le
  have n9 : (C 0).length + ((C 1).length + (C 2).length) = 9 := (nI_eqi (by omega) (by omega)).mp (R.n.symm.trans ha)
  have e0 : (C 0).length = (D 0).length := (nI_eqi (by omega) (by omega)).mp (R.e0.symm.trans ((h8 0 (by decide)).trans S.e0))
  have e1 : (C 0).length + (C 1).length = (D 0).length + (D 1).length := (nI_eqi (by omega) (by omega)).mp (R.e1.symm.trans ((h8 1 (by decide)).trans S.e1))
  have e2 : (C 0).length + ((C 1).length + (C 2).length) = (D 0).length + ((D 1).length + (D 2).length) := (nI_eqi (by omega) (by omega)).mp (R.e2.symm.trans ((h8 2 (by decide)).trans S.e2))
  have q0 : C 0 = D 0 := ext_gd e0 (fun j hj => (R.c0 j hj).symm.trans ((h7 j (by omega)).trans (S.c0 j (by omega))))
  have q1 : C 1 = D 1 := ext_gd (by omega) (fun j hj => by
    have b1 := R.c1 j hj
    have b2 := S.c1 j (by omega)
    rw [← e0] at b2
    exact b1.symm.trans ((h7 _ (by omega)).trans b2))
  have q2 : C 2 = D 2 := ext_gd (by omega) (fun j hj => by
    have b1 := R.c2 j hj
    have b2 := S.c2 j (by omega)
    rw [← e0, show (D 1).length = (C 1).length by omega] at b2
    exact b1.symm.trans ((h7 _ (by omega)).trans b2))
  intro q hq
  have : q = 0 ∨ q = 1 ∨ q = 2 := by omega
  rcases this with rfl | rfl | rfl
  · exact q0
  · exact q1
  · exact q2
theorem bx54 (M : Nat) : BX b54 M (xs54 M) := ⟨rfl, fun _ _ => rfl⟩
/-- what the class has of its own first text says what the reference reads -/
theorem first_txt {x9 : XS} {y0 : MS} (hx : BX b54 54 x9) (hy : ∀ i : Nat, i < 56 → y0.2.1 1 i = b54 i) (m2 : y0.2.1 2 0 = nI 56) : ∃ x11 C, fX4_read x9 = mkT x11 ∧ XG x9 x11 ∧ RDt 54 C x11 ∧ TXm 0 (y0.2.1 1) (y0.2.1 2) C := by
  obtain ⟨p, z, q, w, s1, s2, s3, s4, s5, s6⟩ := same_get first_same
  have hf1 : ∀ i, i < 54 → 0 ≤ b54 i := fun i hi => b54_0 i (by omega)
  have r1 : ∀ j, j < 54 → (msA y0 2 0 (nI 54)).2.1 1 (160 * 0 + j) = b54 j := fun j hj => by
    rw [show 160 * 0 + j = j by omega]
    exact hy j (by omega)
  have r2 : ∀ j, j < 56 → y0.2.1 1 (160 * 0 + j) = b54 j := fun j hj => by
    rw [show 160 * 0 + j = j by omega]
    exact hy j hj
  have m1 : (msA y0 2 0 (nI 54)).2.1 2 0 = nI 54 := rfl
  rcases read89 (h := 0) (i := 0) (y := msA y0 2 0 (nI 54)) (by decide) hf1 (by decide) (bx54 54) r1 m1 (by decide) 0 0 0 0 0 with ⟨xa, ya, Ca, a1, a2, a3, a4, a5, a6⟩ | ⟨xa, va, ya, a1, -⟩
  · rcases read89 (h := 0) (i := 0) (y := y0) (by decide) b54_0 (by decide) (bx54 56) r2 m2 (by decide) 0 0 0 0 0 with ⟨xb, yb, D, b1, b2, b3, b4, b5, b6⟩ | ⟨xb, vb, yb, b1, -⟩
    · have hq : ∀ q, q < 3 → Ca q = D q := by
        obtain ⟨za, fa, ga, c1, c2, c3, -⟩ := mk_text (by decide) a3
        obtain ⟨zb, fb, gb, d1, d2, d3, -⟩ := mk_text (by decide) b3
        have ez : za = z := congrArg Prod.snd (Option.some.inj ((a1.trans c1).symm.trans s1))
        have ew : zb = w := congrArg Prod.snd (Option.some.inj ((b1.trans d1).symm.trans s2))
        subst ez
        subst ew
        rw [c2] at s3
        rw [c3, d3] at s5 s6
        exact rd_same a3 b3 s3 s5 s6
      rcases read89 (h := 0) (i := 0) (y := msA y0 2 0 (nI 54)) (by decide) hf1 (by decide) hx r1 m1 (by decide) 0 0 0 0 0 with ⟨x11, y', C, e1, e2, e3, e4, e5, e6⟩ | ⟨x', v, y', e1, e2, e3, e4, e5, e6⟩
      · refine ⟨x11, C, e1, e2, e3, ?_⟩
        have T9 : TXm 0 ((msA y0 2 0 (nI 54)).2.1 1) ((msA y0 2 0 (nI 54)).2.1 2) C := new_txm (by decide) hf1 (by decide) hx e1 e3 r1 m1
        have Ta : TXm 0 ((msA y0 2 0 (nI 54)).2.1 1) ((msA y0 2 0 (nI 54)).2.1 2) Ca := new_txm (by decide) hf1 (by decide) (bx54 54) a1 a3 r1 m1
        have Td : TXm 0 (y0.2.1 1) (y0.2.1 2) D := new_txm (by decide) b54_0 (by decide) (bx54 56) b1 b3 r2 m2
        intro y h l w p g k hh q1 q2
        obtain ⟨y1, t1, t2, t3⟩ := Td y h l w p g k hh q1 q2
        obtain ⟨y2, u1, -⟩ := Ta (msA y 2 0 (nI 54)) h l w p g k hh q1 rfl
        obtain ⟨y3, w1, -⟩ := T9 (msA y 2 0 (nI 54)) h l w p g k hh q1 rfl
        refine ⟨y1, ?_, t2, t3⟩
        have hk : (if k = 0 then 0 else if k = 1 then 1 else 2) < 3 := by
          split
          · decide
          · split <;> decide
        rw [t1, ← hq _ hk]
        have ev := congrArg Prod.fst (Option.some.inj (u1.symm.trans w1))
        exact congrArg (fun v => some (v, y1)) ev
      · exfalso
        have := congrArg Prod.snd (Option.some.inj (a4.symm.trans e3))
        have this : ya = y' := this
        rw [this, e5] at a6
        exact absurd a6 (by decide)
    · rw [s2] at b1
      cases b1
  · rw [s1] at a1
    cases a1
theorem s_init : INIT Rl := by
  intro β
  obtain ⟨y0, ey, r1, rg, rs⟩ := first_y
  obtain ⟨x9, a1, a2, a3, a4, a5, a6⟩ := put_loop 54 0 NF (xsF (x0X β) 2 (fun _ => 2)) rfl (by decide) rfl (fun i hi => absurd hi (Nat.not_lt_zero i))
  have a1 : LX8_init_168 NF 0 (xsF (x0X β) 2 (fun _ => 2)) = some x9 := a1
  have hx : BX b54 54 x9 := ⟨a2, fun i hi => (a3 i hi).trans (b54_e i hi).symm⟩
  obtain ⟨x11, C, b1, b2, b3, b4⟩ := first_txt hx r1 rs.1
  obtain ⟨z, ft, fe, c1, c2, c3, c4, c5, c6, c7⟩ := mk_text (by decide) b3
  have p9 : x11.2.2 = (x0X β).2.2 := b2.2.2.2.trans a6
  have sp : x11.2.2.2.2 = β + 27 := by rw [p9]; rfl
  have hp : ∀ a, x11.2.2.2.1 a = none := fun a => by rw [p9]; rfl
  have zi : ∀ k, k ≠ 4 → k ≠ 6 → z.1 k = (x0X β).1 k := fun k q1 q2 => by rw [c2, b2.1 k q1 q2, a4 k q1]; rfl
  have zr : ∀ k, k ≠ 5 → k ≠ 7 → k ≠ 8 → z.2.1 k = (xsF (x0X β) 2 (fun _ => 2)).2.1 k := fun k q0 q1 q2 => by rw [c3, b2.2.2.1 k q1 q2, a5 k q0]
  have zn : ∀ k i, z.2.2.1 k i = none := fun k i => by rw [c4, p9]; rfl
  rw [sp] at c1 c5 c6
  have zp : z.2.2.2.1 (β + 27) = some (.inl (7, [.ref (β + 27 + 1), .ref (β + 27 + 2), .ref (β + 27 + 3), .int 0])) := by rw [c6, if_pos rfl]
  refine ⟨xsS (xsS (xsR z 9 0 (some (β + 27))) 0 9 1) 4 1 0, y0, ?_, c5, ey, fun a => if a = β + 27 then 400 else if a = β + 27 + 1 then 500 else if a = β + 27 + 2 then 600 else 700, 0, 0, 1, 0, ?_⟩
  · unfold fX8_tail
    simp only [lt]
    rw [a1, Option.bind_some, b1, c1]
    simp only [bind2, Option.bind_some]
    rw [if_pos (by decide), dK_o zp, if_pos rfl]
    rfl
  · have z0 : ∀ i, z.1 0 i = (x0X β).1 0 i := fun i => by rw [zi 0 (by decide) (by decide)]
    obtain ⟨m1, m2, m3, m4, m5, m6, m7, m8⟩ := rs
    refine ⟨fun a d ha => ?_, ⟨by decide, ?_, m4, fun i hi => absurd hi (Nat.not_lt_zero i), fun i hi => absurd hi (Nat.not_lt_zero i)⟩, ⟨fun g hg => ?_, fun g hg => ?_, ?_, ?_, ?_⟩, ⟨by decide, ?_, m5, fun i hi => absurd hi (Nat.not_lt_zero i), fun i hi => absurd hi (Nat.not_lt_zero i)⟩, ⟨0, by decide, rfl, m6, fun i hi => absurd hi (Nat.not_lt_zero i)⟩, ⟨?_, Or.inl m8⟩, fun s hs => Or.inl ⟨(rg s hs).2, zn 10 s⟩, ⟨by decide, by decide, by decide, rfl, m2, ?_, m7, fun i hi => ?_⟩⟩
    · show a < β + 61
      have ha : z.2.2.2.1 a = some d := ha
      rw [c6, hp] at ha
      by_cases q : a = β + 27
      · omega
      · by_cases q1 : a = β + 27 + 1
        · omega
        · by_cases q2 : a = β + 27 + 2
          · omega
          · by_cases q3 : a = β + 27 + 3
            · omega
            · rw [if_neg q, if_neg q1, if_neg q2, if_neg q3] at ha
              cases ha
    · exact z0 1
    · rw [(rg g hg).1]
      show z.2.1 2 g = 2
      rw [zr 2 (by decide) (by decide) (by decide)]
      rfl
    · rw [(rg g hg).1]
      decide
    · rw [m3]
      exact z0 3
    · rw [m3]
      decide
    · rw [m3]
      decide
    · exact z0 5
    · rw [m8]
      show z.1 11 0 = 0
      rw [zi 11 (by decide) (by decide)]
      rfl
    · exact z0 10
    · obtain rfl : i = 0 := by omega
      refine ⟨β + 27, β + 27 + 1, β + 27 + 2, β + 27 + 3, 0, (cat3 C).length, ft, fe, fun _ => 0, C, rfl, if_pos rfl, ?_, ?_, ?_, zp, ?_, ?_, ?_, c7, b4⟩
      · show (if β + 27 + 1 = β + 27 then _ else if _ then _ else _) = _
        rw [if_neg (by omega), if_pos rfl]
      · show (if β + 27 + 2 = β + 27 then _ else if β + 27 + 2 = β + 27 + 1 then _ else if _ then _ else _) = _
        rw [if_neg (by omega), if_neg (by omega), if_pos rfl]
      · show (if β + 27 + 3 = β + 27 then _ else if β + 27 + 3 = β + 27 + 1 then _ else if β + 27 + 3 = β + 27 + 2 then _ else _) = _
        rw [if_neg (by omega), if_neg (by omega), if_neg (by omega)]
      · show z.2.2.2.1 _ = _
        rw [c6, if_neg (by omega), if_pos rfl]
      · show z.2.2.2.1 _ = _
        rw [c6, if_neg (by omega), if_neg (by omega), if_pos rfl]
      · show z.2.2.2.1 _ = _
        rw [c6, if_neg (by omega), if_neg (by omega), if_neg (by omega), if_pos rfl]
