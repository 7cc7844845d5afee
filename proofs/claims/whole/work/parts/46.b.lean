theorem s_horse : ST0 Rl := by
  intro x y a1 a2 a3 hr
  obtain ⟨own, n, r, t, u, h⟩ := id hr
  have hn := h.n10
  unfold fX8_horse fX9_horse
  rw [in9i (a := a1) (lo := 0) (hi := 5) (l := 0) (h := 5) rfl rfl]
  simp only [Option.bind_some, decide_eq_true_eq]
  rw [in9i (a := a2) (lo := 0) (hi := 99) (l := 0) (h := 99) rfl rfl]
  simp only [Option.bind_some, decide_eq_true_eq]
  rw [in9i (a := a3) (lo := 2000) (hi := 12999) (l := 2000) (h := 12999) rfl rfl]
  simp only [Option.bind_some, decide_eq_true_eq]
  rcases tobe8 a1 a2 a3 with ⟨⟨c1, c2, k, rfl, k1, k2, k3, k4⟩, e⟩ | ⟨c, e⟩
  · have e1 : nI k / 1000 = nI (k / 1000) := nI_dv (c := 1000) (by omega) (by decide)
    have e2 : irm (nI k) 1000 = nI (k % 1000) := nI_md (c := 1000) (by omega) (by decide)
    have e3 : nI (k % 1000) / 10 = nI (k % 1000 / 10) := nI_dv (c := 10) (by omega) (by decide)
    have e4 : irm (nI k) 10 = nI (k % 10) := nI_md (c := 10) (by omega) (by decide)
    have c3 : (2000 : Int32) ≤ nI k ∧ nI k ≤ 12999 := ⟨(nI_lei (a := 2000) (by decide) (by omega)).mpr k1, (nI_lei (b := 12999) (by omega) (by decide)).mpr k2⟩
    have c4 : ¬ (20 : Int32) < nI (k % 1000 / 10) := by
      rw [show (20 : Int32) = nI 20 from rfl, nI_lti (by decide) (by omega)]
      omega
    have c5 : nI (k % 10) < 4 := (nI_lti (b := 4) (by omega) (by decide)).mpr k4
    have v : HV a1 (nI (k % 1000 / 10)) (nI (k % 10)) a2 (nI (k / 1000)) 0 := by
      refine ⟨c1.1, c1.2, (nI_lei (a := 0) (by decide) (by omega)).mpr (Nat.zero_le _), (nI_lei (b := 20) (by omega) (by decide)).mpr k3, (nI_lei (a := 0) (by decide) (by omega)).mpr (Nat.zero_le _), (nI_lei (b := 3) (by omega) (by decide)).mpr (by omega), c2.1, c2.2, (nI_lei (a := 2) (by decide) (by omega)).mpr (by omega), (nI_lei (b := 12) (by omega) (by decide)).mpr (by omega), by decide, by decide⟩
    rw [e, e2, e1, e3, e4, h.H.ex, h.H.ey]
    simp only [Option.bind_some, if_true, if_pos c1, if_pos c2, if_pos c3, if_neg c4, if_pos c5]
    by_cases hf : n = 10
    · subst hf
      rw [if_neg (by decide), if_pos (show nI 10 = 10 from rfl)]
      exact ⟨_, _, _, rfl, rfl, hr⟩
    · have l1 : nI n < 10 := (nI_lti (b := 10) (by omega) (by decide)).mpr (by omega)
      have l2 : ¬ nI n = 10 := by
        rw [show (10 : Int32) = nI 10 from rfl, nI_eqi (by omega) (by decide)]
        exact hf
      have hb : ib (nI n) 10 := ib_nI (by omega) (by decide)
      have hc : (nI n).toNatClampNeg = n := cl_nI (by omega)
      rw [if_pos l1, if_neg l2]
      have e0 : (xsN x (.inl (1, [.int 0, .int 0, .int 0, .int 0, .int 0, .int 0]))).2.2.2.1 x.2.2.2.2 = some (.inl (1, [.int 0, .int 0, .int 0, .int 0, .int 0, .int 0])) := if_pos rfl
      obtain ⟨x6, i0, i1, i2, i3, i4, i5, i6⟩ := hx_init e0 rfl a1 a2 (nI (k / 1000)) (nI (k % 1000 / 10)) (nI (k % 10))
      have j1 : x6.1 0 1 = nI n := by rw [i1]; exact h.H.ex
      have g13 : ∀ (z : MS) (q i : Nat) (w : Int32), (msA z q i w).1 = z.1 := fun _ _ _ _ => rfl
      have k13 : ∀ (z : XS) (q i : Nat) (w : Option Nat), (xsR z q i w).1 = z.1 := fun _ _ _ _ => rfl
      have hs : ∀ (z : XS) (i : Nat) (w : Int32), (xsS z 0 i w).1 0 i = w := fun z i w => by
        show (if (0 : Nat) = 0 then (fun q => if q = i then w else z.1 0 q) else z.1 0) i = w
        simp
      have ms : ∀ (z : MS) (i : Nat) (w : Int32), (msS z 0 i w).1 0 i = w := fun z i w => by
        show (if (0 : Nat) = 0 then (fun q => if q = i then w else z.1 0 q) else z.1 0) i = w
        simp
      simp only [lt, dK_o e0, if_true, i0, Option.bind_some, dK_o i5, g13, k13, h.H.ey, j1, if_pos hb, hc, hs, ms]
      obtain ⟨own', hro⟩ := h.newH (x' := xsS (xsR x6 1 n (some x.2.2.2.2)) 0 1 (nI n + 1)) (y' := msS (msA (msA (msA (msA (msA (msA y 4 n a1) 5 n a2) 6 n (nI (k / 1000))) 7 n (nI (k % 1000 / 10))) 8 n (nI (k % 10))) 9 n 0) 0 13 (nI n + 1)) (by omega) v
        (fun j hj => by
          show (if j = 1 then nI n + 1 else x6.1 0 j) = x.1 0 j
          rw [if_neg (ne_in (A := [1]) (by decide) hj (by decide)), i1]
          rfl)
        (by rw [← nI_1]; exact hs _ _ _)
        (by show x6.1 4 1 = x.1 4 1; rw [i1]; rfl)
        (by show x6.1 11 = x.1 11; rw [i1]; rfl)
        (by show x6.2.1 = x.2.1; rw [i2]; rfl)
        (fun j hj => by
          show up2 x6.2.2.1 1 n (some x.2.2.2.2) j = x.2.2.1 j
          rw [up2_ne (ne_in (A := [1]) (by decide) hj (by decide)), i3]
          rfl)
        (fun j => by
          show (if j = n then some x.2.2.2.2 else x6.2.2.1 1 j) = _
          rw [i3]
          rfl)
        (by show x6.2.2.2.2 = _; rw [i4]; rfl)
        (fun a => by
          show x6.2.2.2.1 a = _
          by_cases q : a = x.2.2.2.2
          · rw [if_pos q, q]; exact i5
          · rw [if_neg q, i6 a q]
            exact if_neg q)
        (fun j hj => by
          show (if j = 13 then nI n + 1 else y.1 0 j) = y.1 0 j
          rw [if_neg (ne_in (A := [13]) (by decide) hj (by decide))])
        (by rw [← nI_1]; exact ms _ _ _)
        (fun j hj => by
          show up2 (up2 (up2 (up2 (up2 (up2 y.2.1 4 n a1) 5 n a2) 6 n _) 7 n _) 8 n _) 9 n _ j = y.2.1 j
          rw [up2_ne (ne_in (A := [9]) (by decide) hj (by decide)), up2_ne (ne_in (A := [8]) (by decide) hj (by decide)), up2_ne (ne_in (A := [7]) (by decide) hj (by decide)), up2_ne (ne_in (A := [6]) (by decide) hj (by decide)), up2_ne (ne_in (A := [5]) (by decide) hj (by decide)), up2_ne (ne_in (A := [4]) (by decide) hj (by decide))])
        (fun j => rfl) (fun j => rfl) (fun j => rfl) (fun j => rfl) (fun j => rfl) (fun j => rfl)
      exact ⟨_, _, _, rfl, rfl, own', n + 1, r, t, u, hro⟩
  · rw [e]
    simp only [Option.bind_some, Bool.false_eq_true, if_false]
    refine ⟨-2, x, y, rfl, ?_, hr⟩
    by_cases c1 : 0 ≤ a1 ∧ a1 ≤ 5
    · rw [if_pos c1]
      by_cases c2 : (0 : Int32) ≤ a2 ∧ a2 ≤ 99
      · rw [if_pos c2]
        by_cases c3 : (2000 : Int32) ≤ a3 ∧ a3 ≤ 12999
        · rw [if_pos c3]
          rcases sg32 a3 with q | ⟨k, hk, rfl⟩
          · exact absurd (Int32.lt_of_le_of_lt c3.1 q) (by decide)
          · have k1 : 2000 ≤ k := (nI_lei (a := 2000) (by decide) hk).mp c3.1
            have k2 : k ≤ 12999 := (nI_lei (b := 12999) hk (by decide)).mp c3.2
            have e2 : irm (nI k) 1000 = nI (k % 1000) := nI_md (c := 1000) hk (by decide)
            have e3 : nI (k % 1000) / 10 = nI (k % 1000 / 10) := nI_dv (c := 10) (by omega) (by decide)
            have e4 : irm (nI k) 10 = nI (k % 10) := nI_md (c := 10) hk (by decide)
            rw [e2, e3, e4]
            by_cases c4 : (20 : Int32) < nI (k % 1000 / 10)
            · rw [if_pos c4]
            · rw [if_neg c4]
              by_cases c5 : nI (k % 10) < 4
              · exfalso
                refine c ⟨c1, c2, k, rfl, k1, k2, ?_, (nI_lti (b := 4) (by omega) (by decide)).mp c5⟩
                rw [show (20 : Int32) = nI 20 from rfl, nI_lti (by decide) (by omega)] at c4
                omega
              · rw [if_neg c5]
        · rw [if_neg c3]
      · rw [if_neg c2]
    · rw [if_neg c1]
