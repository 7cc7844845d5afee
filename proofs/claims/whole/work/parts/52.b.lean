theorem RR.sub {own : Nat → Nat} {hp : Nat → Option DE} {n r r' : Nat} {rx ry : Int32} {row : Nat → Option Nat} {y15 y16 y17 y18 y19 : Nat → Int32} (h : RR own hp n r rx ry row y15 y16 y17 y18 y19) (hr : r' ≤ r) : RR own hp n r' (nI r') (nI r') row y15 y16 y17 y18 y19 :=
  ⟨Nat.le_trans hr h.le, rfl, rfl, fun i hi => h.at' i (Nat.lt_of_lt_of_le hi hr), fun i hi => h.va i (Nat.lt_of_lt_of_le hi hr)⟩
theorem s_back : ST23 Rl := by
  intro x y hr
  obtain ⟨own, n, r, t, u, h⟩ := id hr
  have hn := h.n10
  unfold fX8_back fX9_back
  rw [h.I.b]
  by_cases c : y.1 0 48 = 0
  · rw [if_pos c, if_pos c]
    exact ⟨_, _, _, rfl, rfl, hr⟩
  · rw [if_neg c, if_neg c]
    rcases h.I.k with q | ⟨m, ir, iu, hm, hir, hiu, i1, j1, i2, j2, i3, j3, i4, s0, s1, ip, ih⟩
    · exact absurd q c
    · simp only [lt]
      have hcp : ∀ z : XS, cpF z 12 4 2 4 0 0 4 = some (xsF z 2 (va_cpy (z.2.1 12) (z.2.1 2) 0 0 4)) := fun z => if_pos (by decide)
      rw [hcp]
      simp only [Option.bind_some]
      obtain ⟨x', e1, e2, e3, e4, e5, e6, e7, e8⟩ := give_loop (own := own) (y4 := y.2.1 4) (y7 := y.2.1 7) (y8 := y.2.1 8) hn hm m 0 (xsF (xsS (xsS (xsS x 0 5 (x.1 11 2)) 0 10 (x.1 11 3)) 0 3 (x.1 11 4)) 2 (va_cpy (x.2.1 12) (x.2.1 2) 0 0 4)) NF (y.2.1 5) (y.2.1 6) (y.2.1 9) (by omega) (by unfold NF; omega) h.H.ex i1 h.fr h.H.at'
      obtain ⟨w, f1, f2, f4, f6⟩ := give9_loop (m := m) (by omega) m 0 (msS (msS (msS y 0 15 (y.1 0 50)) 0 41 (y.1 0 51)) 0 4 (y.1 0 52)) NF (by omega) (by unfold NF; omega) j1
      obtain ⟨y', g1, g2, g4, -, g6⟩ := poundb_loop y 4 0 w NF (by omega) (by unfold NF; omega) (f4 25 (by decide) (by decide) (by decide))
      have e1 : LX8_back_65 NF 0 (xsF (xsS (xsS (xsS x 0 5 (x.1 11 2)) 0 10 (x.1 11 3)) 0 3 (x.1 11 4)) 2 (va_cpy (x.2.1 12) (x.2.1 2) 0 0 4)) = some x' := e1
      have f1 : LX9_back_36 NF 0 (msS (msS (msS y 0 15 (y.1 0 50)) 0 41 (y.1 0 51)) 0 4 (y.1 0 52)) = some w := f1
      have g1 : LX9_back_88 NF 0 w = some y' := g1
      have y1 : y'.1 = (msS (msS (msS y 0 15 (y.1 0 50)) 0 41 (y.1 0 51)) 0 4 (y.1 0 52)).1 := g2.trans f2
      have kr : ∀ k, k ∈ ([1, 2, 3, 4, 7, 8, 15, 16, 17, 18, 19, 22, 23, 24, 25, 26, 27, 28, 29] : List Nat) → y'.2.1 k = y.2.1 k := fun k hk => by
        rw [g4 k (ne_in (A := [10]) (by decide) hk (by decide)), f4 k (ne_in (A := [5]) (by decide) hk (by decide)) (ne_in (A := [6]) (by decide) hk (by decide)) (ne_in (A := [9]) (by decide) hk (by decide))]
        rfl
      have hk : ∀ a d, x.2.2.2.1 a = some d → 100 ≤ own a → x'.2.2.2.1 a = some d ∧ own a = own a := fun a d ha hl => ⟨by rw [e7 a (by omega)]; exact ha, rfl⟩
      have r5 : ∀ j, y'.2.1 5 j = if 0 ≤ j ∧ j < m then y.2.1 22 j else y.2.1 5 j := fun j => by rw [g4 5 (by decide)]; exact (f6 j).1
      have r6 : ∀ j, y'.2.1 6 j = if 0 ≤ j ∧ j < m then y.2.1 23 j else y.2.1 6 j := fun j => by rw [g4 6 (by decide)]; exact (f6 j).2.1
      have r9 : ∀ j, y'.2.1 9 j = if 0 ≤ j ∧ j < m then y.2.1 24 j else y.2.1 9 j := fun j => by rw [g4 9 (by decide)]; exact (f6 j).2.2
      refine ⟨nI ir, x', y', ?_, ?_, own, n, ir, t, iu, ?_⟩
      · show Option.bind (LX8_back_65 NF 0 (xsF (xsS (xsS (xsS x 0 5 (x.1 11 2)) 0 10 (x.1 11 3)) 0 3 (x.1 11 4)) 2 (va_cpy (x.2.1 12) (x.2.1 2) 0 0 4))) _ = _
        rw [e1]
        simp only [Option.bind_some, e2]
        show some (x.1 11 2, x') = _
        rw [i2]
      · show Option.bind (LX9_back_36 NF 0 (msS (msS (msS y 0 15 (y.1 0 50)) 0 41 (y.1 0 51)) 0 4 (y.1 0 52))) _ = _
        rw [f1, Option.bind_some, g1]
        simp only [Option.bind_some, y1]
        show some (y.1 0 51, y') = _
        rw [j2]
      · refine ⟨e6, ⟨hn, ?_, ?_, fun j hj => ?_, fun j hj => ?_⟩, ⟨fun g hg => ?_, fun g hg => ?_, ?_, ?_, ?_⟩, ?_, ?_, ⟨?_, ?_⟩, ?_, ?_⟩
        · rw [e2]; exact h.H.ex
        · rw [y1]; exact h.H.ey
        · obtain ⟨p, p1, p2, p3⟩ := e8 j hj
          refine ⟨p, p1, p2, ?_⟩
          rw [p3, kr 4 (by decide), kr 7 (by decide), kr 8 (by decide), r5, r6, r9]
          by_cases q : 0 ≤ j ∧ j < m
          · simp only [if_pos q]
            obtain ⟨a, b, c', -⟩ := ih j q.2
            show some (hoD _ _ _ (x.2.1 13 j) (x.2.1 14 j) (x.2.1 15 j)) = _
            rw [a, b, c']
          · simp only [if_neg q]
        · have v := h.H.va j hj
          rw [kr 4 (by decide), kr 7 (by decide), kr 8 (by decide), r5, r6, r9]
          by_cases q : 0 ≤ j ∧ j < m
          · simp only [if_pos q]
            obtain ⟨-, -, -, b⟩ := ih j q.2
            exact ⟨v.kd0, v.kd1, v.no0, v.no1, v.gr0, v.gr1, b⟩
          · simp only [if_neg q]
            exact v
        · rw [e3, g6 g (Nat.zero_le _) hg]
          show va_cpy (x.2.1 12) (x.2.1 2) 0 0 4 g = _
          unfold va_cpy
          rw [if_pos ⟨Nat.zero_le _, by omega⟩, Nat.zero_add, Nat.sub_zero]
          exact (ip g hg).1
        · rw [g6 g (Nat.zero_le _) hg]
          exact (ip g hg).2
        · rw [e2, y1]; exact i4
        · rw [y1]; exact s0
        · rw [y1]; exact s1
        · rw [e2, e4, y1, kr 15 (by decide), kr 16 (by decide), kr 17 (by decide), kr 18 (by decide), kr 19 (by decide)]
          show RR own x'.2.2.2.1 n ir (x.1 11 2) (y.1 0 51) (x.2.2.1 3) _ _ _ _ _
          rw [i2, j2]
          exact (h.R.sub hir).mono (Nat.le_refl _) (fun a d ha hl _ => hk a d ha hl)
        · rw [e2, e3, y1, kr 3 (by decide)]; exact h.A
        · rw [e2, y1]; exact h.I.b
        · rw [e2, e3, y1, kr 22 (by decide), kr 23 (by decide), kr 24 (by decide), kr 25 (by decide)]
          exact Or.inr ⟨m, ir, iu, hm, Nat.le_refl _, hiu, i1, j1, i2, j2, i3, j3, i4, s0, s1, ip, ih⟩
        · rw [e4, kr 26 (by decide), kr 27 (by decide), kr 28 (by decide), kr 29 (by decide)]
          exact h.S.mono (fun a d ha hl _ => hk a d ha (by omega))
        · rw [e2, e4, y1, kr 1 (by decide), kr 2 (by decide)]
          show RT own x'.2.2.2.1 t iu (x.1 0 9) (y.1 0 3) (x.1 11 3) (y.1 0 52) (x.2.2.1 9) _ _
          rw [i3, j3]
          have T := h.T.mono (own' := own) (hp' := x'.2.2.2.1) (fun a d ha hl _ => hk a d ha (by omega))
          exact ⟨T.l1, T.le, hiu, T.ex, T.ey, rfl, rfl, T.at'⟩
