theorem and255 (w : Int64) : ∃ k, k < 256 ∧ (w &&& 255).toInt32 = nI k := by
  have h1 : (w &&& 255).toBitVec.toNat ≤ 255 := by
    rw [Int64.toBitVec_and, BitVec.toNat_and]
    exact Nat.le_trans Nat.and_le_right (by decide)
  have h2 : (w &&& 255).toInt = ((w &&& 255).toBitVec.toNat : Int) := BitVec.toInt_eq_toNat_of_lt (by omega)
  refine ⟨(w &&& 255).toBitVec.toNat, by omega, ?_⟩
  apply Int32.toInt_inj.mp
  rw [nI_toInt (by omega), Int64.toInt_toInt32, h2, Int.bmod_def]
  omega
theorem nar_char : ∀ k : Nat, k < 256 → vp_nar .char (((nI k).toUInt32 % 65536).toInt32) = nI k := by decide +kernel
theorem feed_loop (b : Int64) (m : Nat) (hm : m ≤ 8) {own : Nat → Nat} {n r t u : Nat} : ∀ (k i T : Nat) (x : XS) (y : MS) (f g : Nat), i + k = m → k < f → k < g → RO own n r t u x y → x.1 4 1 = nI T → T + k ≤ 160 → ∃ x' y', LX8_feed_34 (nI m) b f (nI i) x = some x' ∧ LX9_feed_33 (nI m) b g (nI i) y = some y' ∧ RO own n r t u x' y' := by
  intro k
  induction k with
  | zero =>
    intro i T x y f g hk hf hg h hT hle
    obtain ⟨f, rfl⟩ : ∃ z, f = z + 1 := ⟨f - 1, by omega⟩
    obtain ⟨g, rfl⟩ : ∃ z, g = z + 1 := ⟨g - 1, by omega⟩
    have e : i = m := by omega
    subst e
    refine ⟨x, y, ?_, ?_, h⟩
    · show BX8_feed_34 _ _ _ (nI i) x = _
      unfold BX8_feed_34
      rw [if_pos (Int32.le_refl _)]
    · show BX9_feed_33 _ _ _ (nI i) y = _
      unfold BX9_feed_33
      rw [if_pos (Int32.le_refl _)]
  | succ k ih =>
    intro i T x y f g hk hf hg h hT hle
    obtain ⟨f, rfl⟩ : ∃ z, f = z + 1 := ⟨f - 1, by omega⟩
    obtain ⟨g, rfl⟩ : ∃ z, g = z + 1 := ⟨g - 1, by omega⟩
    have hlt : ¬ nI m ≤ nI i := by
      rw [nI_lei (by omega) (by omega)]
      omega
    obtain ⟨T', hT', q1, q2, q3⟩ := h.A.ex
    have eT : T' = T := (nI_eqi (by omega) (by omega)).mp (q1.symm.trans hT)
    subst eT
    obtain ⟨v, hv, ev⟩ := and255 (b >>> ((8 * nI i).toInt64 &&& 63))
    have hb : ib (nI T') 160 := ib_nI (by omega) (by decide)
    have hc : (nI T').toNatClampNeg = T' := cl_nI (by omega)
    have g1 : ∀ (z : MS) (q j : Nat) (w : Int32), (msA z q j w).1 = z.1 := fun _ _ _ _ => rfl
    have g2 : ∀ (z : XS) (q j : Nat) (w : Int32), (xsA z q j w).1 = z.1 := fun _ _ _ _ => rfl
    have hro : RO own n r t u (xsS (xsA x 5 T' (nI v)) 4 1 (nI (T' + 1))) (msS (msA y 3 T' (nI v)) 0 6 (nI (T' + 1))) := by
      refine ⟨h.fr, h.H, h.P, h.R, ⟨T' + 1, by omega, rfl, rfl, fun j hj => ?_⟩, h.I, h.S, h.T⟩
      show (if j = T' then nI v else x.2.1 5 j) = (if j = T' then nI v else y.2.1 3 j) ∧ 0 ≤ (if j = T' then nI v else y.2.1 3 j) ∧ (if j = T' then nI v else y.2.1 3 j) ≤ 255
      by_cases q : j = T'
      · rw [if_pos q, if_pos q]
        exact ⟨rfl, (nI_lei (a := 0) (by decide) (by omega)).mpr (Nat.zero_le _), (nI_lei (b := 255) (by omega) (by decide)).mpr (by omega)⟩
      · rw [if_neg q, if_neg q]
        exact q3 j (by omega)
    obtain ⟨x', y', e1, e2, e3⟩ := ih (i + 1) (T' + 1) _ _ f g (by omega) (by omega) (by omega) hro rfl (by omega)
    refine ⟨x', y', ?_, ?_, e3⟩
    · show BX8_feed_34 _ _ _ (nI i) x = _
      unfold BX8_feed_34 fX6_append
      rw [if_neg hlt, ev, nar_char v hv, q1, if_neg (by rw [show (160 : Int32) = nI 160 from rfl, nI_lei (by decide) (by omega)]; omega), if_pos hb]
      simp only [lt, Option.bind_some, hc, g2, q1, nI_1]
      exact e1
    · show BX9_feed_33 _ _ _ (nI i) y = _
      unfold BX9_feed_33
      rw [if_neg hlt, ev, q2, if_pos hb]
      simp only [lt, hc, g1, q2, nI_1]
      exact e2
theorem s_feed : ST11 Rl := by
  intro x y a1 a2 hr
  obtain ⟨own, n, r, t, u, h⟩ := id hr
  obtain ⟨T, hT, q1, q2, q3⟩ := h.A.ex
  unfold fX8_feed fX9_feed
  rw [in8, in9i (lo := 1) (hi := 8) (l := 1) (h := 8) rfl rfl]
  simp only [Option.bind_some, decide_eq_true_eq]
  by_cases c : (1 : Int32) ≤ a1 ∧ a1 ≤ 8
  · obtain ⟨m, hm, rfl⟩ := ix_of (n := 9) (by decide) (Int32.le_trans (by decide) c.1) (Int32.lt_of_le_of_lt c.2 (by decide))
    rw [if_pos c, if_pos c, q1, q2, nI_ad]
    by_cases c2 : T + m ≤ 160
    · have c3 : nI (T + m) ≤ 160 := (nI_lei (b := 160) (by omega) (by decide)).mpr c2
      obtain ⟨x', y', e1, e2, e3⟩ := feed_loop a2 m (by omega) m 0 T x y NF NF (by omega) (by unfold NF; omega) (by unfold NF; omega) h q1 c2
      have e1 : LX8_feed_34 (nI m) a2 NF 0 x = some x' := e1
      have e2 : LX9_feed_33 (nI m) a2 NF 0 y = some y' := e2
      rw [if_pos c3, if_pos c3, e1, e2]
      obtain ⟨T', hT', p1, p2, p3⟩ := e3.A.ex
      refine ⟨_, x', y', rfl, ?_, own, n, r, t, u, e3⟩
      simp only [Option.bind_some, p1, p2]
    · have c3 : ¬ nI (T + m) ≤ 160 := fun z => c2 ((nI_lei (b := 160) (by omega) (by decide)).mp z)
      rw [if_neg c3, if_neg c3]
      exact ⟨_, _, _, rfl, rfl, hr⟩
  · rw [if_neg c, if_neg c]
    exact ⟨_, _, _, rfl, rfl, hr⟩
