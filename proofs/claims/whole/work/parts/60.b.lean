/-! what a text comes to -/
def VS (x z : XS) (p ac ae aw : Nat) (st : List Int32) : Prop := (z.1 = x.1) ∧ (z.2.1 = x.2.1) ∧ (z.2.2.1 = x.2.2.1) ∧ (z.2.2.2.2 = x.2.2.2.2) ∧ (∀ q, q ≠ p → q ≠ aw → z.2.2.2.1 q = x.2.2.2.1 q) ∧ (z.2.2.2.1 p = some (.inl (7, [.ref ac, .ref ae, .ref aw, .int (nI st.length)]))) ∧ (∃ fw : Nat → Int32, z.2.2.2.1 aw = some (.inr (40, fw)) ∧ ∀ k, k < st.length → fw k = st.getD (st.length - 1 - k) 0)
theorem VS.ea {x z : XS} {p ac ae aw : Nat} {st : List Int32} (zz : VS x z p ac ae aw st) : z.1 = x.1 := zz.1
theorem VS.eb {x z : XS} {p ac ae aw : Nat} {st : List Int32} (zz : VS x z p ac ae aw st) : z.2.1 = x.2.1 := zz.2.1
theorem VS.ec {x z : XS} {p ac ae aw : Nat} {st : List Int32} (zz : VS x z p ac ae aw st) : z.2.2.1 = x.2.2.1 := zz.2.2.1
theorem VS.ed {x z : XS} {p ac ae aw : Nat} {st : List Int32} (zz : VS x z p ac ae aw st) : z.2.2.2.2 = x.2.2.2.2 := zz.2.2.2.1
theorem VS.ee {x z : XS} {p ac ae aw : Nat} {st : List Int32} (zz : VS x z p ac ae aw st) : ∀ q, q ≠ p → q ≠ aw → z.2.2.2.1 q = x.2.2.2.1 q := zz.2.2.2.2.1
theorem VS.ef {x z : XS} {p ac ae aw : Nat} {st : List Int32} (zz : VS x z p ac ae aw st) : z.2.2.2.1 p = some (.inl (7, [.ref ac, .ref ae, .ref aw, .int (nI st.length)])) := zz.2.2.2.2.2.1
theorem VS.eg {x z : XS} {p ac ae aw : Nat} {st : List Int32} (zz : VS x z p ac ae aw st) : ∃ fw : Nat → Int32, z.2.2.2.1 aw = some (.inr (40, fw)) ∧ ∀ k, k < st.length → fw k = st.getD (st.length - 1 - k) 0 := zz.2.2.2.2.2.2
theorem push8 {x z : XS} {p ac ae aw : Nat} {st : List Int32} (v : Int32) (hpw : p ≠ aw) (h : VS x z p ac ae aw st) (hl : st.length < 40) : ∃ z', fX7_push z p v = some z' ∧ VS x z' p ac ae aw (v :: st) := by
  obtain ⟨fw, g1, g2⟩ := h.eg
  have e3 : dI z p 7 3 = some (nI st.length) := dI_o (k := 3) h.ef rfl
  have e2 : dP z p 7 2 = some aw := dP_o (k := 2) h.ef rfl
  have lt40 : ¬ (Int32.ofNat 40) ≤ nI st.length := by
    show ¬ nI 40 ≤ nI st.length
    rw [nI_lei (by decide) (by omega)]
    omega
  have w1 : dAs z aw (nI st.length) v = some (xsD z aw (.inr (40, upd fw st.length v))) := by
    rw [dAs_o g1 (ib_nI hl (by decide)), cl_nI (by omega)]
  have f2 : (xsD z aw (.inr (40, upd fw st.length v))).2.2.2.1 p = some (.inl (7, [.ref ac, .ref ae, .ref aw, .int (nI st.length)])) := by
    show (if p = aw then _ else z.2.2.2.1 p) = _
    rw [if_neg hpw]
    exact h.ef
  have w2 : dI (xsD z aw (.inr (40, upd fw st.length v))) p 7 3 = some (nI st.length) := dI_o (k := 3) f2 rfl
  have w3 : dPut (xsD z aw (.inr (40, upd fw st.length v))) p 7 3 (.int (nI st.length + 1)) = some (xsD (xsD z aw (.inr (40, upd fw st.length v))) p (.inl (7, [.ref ac, .ref ae, .ref aw, .int (nI st.length + 1)]))) := dPut_o (k := 3) f2 (Nat.le_of_ble_eq_true rfl)
  have e0 : fX7_push z p v = some (xsD (xsD z aw (.inr (40, upd fw st.length v))) p (.inl (7, [.ref ac, .ref ae, .ref aw, .int (nI st.length + 1)]))) := by
    unfold fX7_push
    rw [e3, Option.bind_some, e2, Option.bind_some, dLen_o g1, Option.bind_some, if_neg lt40, Option.bind_some, Option.bind_some, w1, Option.bind_some, w2, Option.bind_some, w3, Option.bind_some]
  refine ⟨_, e0, h.ea, h.eb, h.ec, h.ed, fun q q1 q2 => ?_, ?_, upd fw st.length v, ?_, fun k hk => ?_⟩
  · show (if q = p then _ else if q = aw then _ else z.2.2.2.1 q) = _
    rw [if_neg q1, if_neg q2]
    exact h.ee q q1 q2
  · show (if p = p then _ else _) = _
    rw [if_pos rfl, nI_1]
    rfl
  · show (if aw = p then _ else if aw = aw then _ else _) = _
    rw [if_neg (Ne.symm hpw), if_pos rfl]
  · have hk : k < st.length + 1 := hk
    show (if k = st.length then v else fw k) = (v :: st).getD (st.length + 1 - 1 - k) 0
    by_cases q : k = st.length
    · rw [if_pos q, show st.length + 1 - 1 - k = 0 by omega]
      rfl
    · rw [if_neg q, g2 k (by omega), show st.length + 1 - 1 - k = (st.length - 1 - k) + 1 by omega]
      rfl
theorem pop8 {x z : XS} {p ac ae aw : Nat} {st : List Int32} (hpw : p ≠ aw) (h : VS x z p ac ae aw st) (hl : st.length ≤ 40) : ∃ z', fX7_pop z p = some (st.headD 0, z') ∧ VS x z' p ac ae aw st.tail := by
  obtain ⟨fw, g1, g2⟩ := h.eg
  have e3 : dI z p 7 3 = some (nI st.length) := dI_o (k := 3) h.ef rfl
  cases st with
  | nil =>
    refine ⟨z, ?_, h⟩
    unfold fX7_pop
    rw [e3, Option.bind_some, if_neg (by decide)]
    rfl
  | cons v st =>
    have hl : st.length + 1 ≤ 40 := hl
    have e3 : dI z p 7 3 = some (nI (st.length + 1)) := e3
    have c1 : (1 : Int32) ≤ nI (st.length + 1) := by
      rw [show (1 : Int32) = nI 1 from rfl, nI_lei (by decide) (by omega)]
      omega
    have w1 : dPut z p 7 3 (.int (nI st.length)) = some (xsD z p (.inl (7, [.ref ac, .ref ae, .ref aw, .int (nI st.length)]))) := dPut_o (k := 3) h.ef (Nat.le_of_ble_eq_true rfl)
    have f1 : (xsD z p (.inl (7, [.ref ac, .ref ae, .ref aw, .int (nI st.length)]))).2.2.2.1 p = some (.inl (7, [.ref ac, .ref ae, .ref aw, .int (nI st.length)])) := if_pos rfl
    have f2 : (xsD z p (.inl (7, [.ref ac, .ref ae, .ref aw, .int (nI st.length)]))).2.2.2.1 aw = some (.inr (40, fw)) := by
      show (if aw = p then _ else z.2.2.2.1 aw) = _
      rw [if_neg (Ne.symm hpw)]
      exact g1
    have w2 : dP (xsD z p (.inl (7, [.ref ac, .ref ae, .ref aw, .int (nI st.length)]))) p 7 2 = some aw := dP_o (k := 2) f1 rfl
    have w3 : dI (xsD z p (.inl (7, [.ref ac, .ref ae, .ref aw, .int (nI st.length)]))) p 7 3 = some (nI st.length) := dI_o (k := 3) f1 rfl
    have w4 : dA (xsD z p (.inl (7, [.ref ac, .ref ae, .ref aw, .int (nI st.length)]))) aw (nI st.length) = some v := by
      rw [dA_o f2 (ib_nI (by omega) (by decide)), cl_nI (by omega), g2 st.length (Nat.lt_succ_self _), show (v :: st).length - 1 - st.length = 0 from Nat.sub_self _]
      rfl
    have e0 : fX7_pop z p = some (v, xsD z p (.inl (7, [.ref ac, .ref ae, .ref aw, .int (nI st.length)]))) := by
      unfold fX7_pop
      rw [e3, Option.bind_some, if_pos c1, Option.bind_some, nI_pred, w1, Option.bind_some, w2, Option.bind_some, w3, Option.bind_some, w4, Option.bind_some]
    refine ⟨_, e0, h.ea, h.eb, h.ec, h.ed, fun q q1 q2 => ?_, f1, fw, f2, fun k hk => ?_⟩
    · show (if q = p then _ else z.2.2.2.1 q) = _
      rw [if_neg q1]
      exact h.ee q q1 q2
    · have hk : k < st.length := hk
      rw [g2 k (by show k < st.length + 1; omega)]
      show (v :: st).getD (st.length + 1 - 1 - k) 0 = st.getD (st.length - 1 - k) 0
      rw [show st.length + 1 - 1 - k = (st.length - 1 - k) + 1 by omega]
      rfl
theorem al8 (c v : Int32) : fX7_altered c v = some (al1 c v) := by
  unfold fX7_altered al1 fX7_truth
  by_cases h : c = -26
  · rw [if_pos h, if_pos h]
  · rw [if_neg h, if_neg h]
    by_cases q : v = 0
    · rw [if_pos q, if_pos q]
      rfl
    · rw [if_neg q, if_neg q]
      rfl
theorem jn8 (c l r : Int32) : fX7_joined c l r = some (jn c l r) := by
  unfold fX7_joined jn fX7_truth
  simp only [if_true, Bool.false_eq_true, if_false, Option.bind_some]
  by_cases h1 : c = -25
  · subst h1
    simp only [if_true, show ¬ (-25 : Int32) = -21 by decide, show ¬ (-25 : Int32) = -22 by decide, show ¬ (-25 : Int32) = -23 by decide, show ¬ (-25 : Int32) = -24 by decide, if_false]
    split <;> rfl
  · by_cases h2 : c = -24
    · subst h2
      simp only [if_true, show ¬ (-24 : Int32) = -21 by decide, show ¬ (-24 : Int32) = -22 by decide, show ¬ (-24 : Int32) = -23 by decide, show ¬ (-24 : Int32) = -25 by decide, if_false]
      by_cases q : r ≤ l
      · rw [if_pos q, if_neg (Int32.not_lt.mpr q)]
      · rw [if_neg q, if_pos (Int32.not_le.mp q)]
    · by_cases h3 : c = -23
      · subst h3
        simp only [if_true, show ¬ (-23 : Int32) = -21 by decide, show ¬ (-23 : Int32) = -22 by decide, show ¬ (-23 : Int32) = -24 by decide, show ¬ (-23 : Int32) = -25 by decide, if_false]
      · by_cases h4 : c = -22
        · subst h4
          simp only [if_true, show ¬ (-22 : Int32) = -21 by decide, show ¬ (-22 : Int32) = -23 by decide, show ¬ (-22 : Int32) = -24 by decide, show ¬ (-22 : Int32) = -25 by decide, if_false]
        · by_cases h5 : c = -21
          · subst h5
            simp only [if_true, show ¬ (-21 : Int32) = -22 by decide, show ¬ (-21 : Int32) = -23 by decide, show ¬ (-21 : Int32) = -24 by decide, show ¬ (-21 : Int32) = -25 by decide, if_false]
          · simp only [if_neg h1, if_neg h2, if_neg h3, if_neg h4, if_neg h5]
            by_cases h6 : c = -15
            · subst h6
              simp only [if_true, show ¬ (-15 : Int32) = -20 by decide, show ¬ (-15 : Int32) = -19 by decide, show ¬ (-15 : Int32) = -18 by decide, show ¬ (-15 : Int32) = -17 by decide, show ¬ (-15 : Int32) = -16 by decide, if_false]
              split
              · rfl
              · split <;> rfl
            · simp only [if_neg h6]
              have e : (if l = 0 then if r = 0 then some (0 : Int32) else some 1 else some 1) = some (if l = 0 then (if r = 0 then 0 else 1) else 1) := by
                split
                · split <;> rfl
                · rfl
              rw [e]
              repeat' split
              all_goals rfl
theorem nm6 {c : Int32} (h0 : ¬ 0 ≤ c) (h1 : -6 ≤ c) : ∃ k, k < 6 ∧ -1 - c = nI k := by
  rw [Int32.le_iff_toInt_le, show (0 : Int32).toInt = 0 from rfl] at h0
  rw [Int32.le_iff_toInt_le, show (-6 : Int32).toInt = -6 from rfl] at h1
  refine ⟨(-1 - c.toInt).toNat, by omega, ?_⟩
  apply Int32.toInt_inj.mp
  rw [nI_toInt (by omega), Int32.toInt_sub, show (-1 : Int32).toInt = -1 from rfl]
  have : ((-1 : Int) - c.toInt).bmod (2 ^ 32) = -1 - c.toInt := by
    rw [Int.bmod_def]
    omega
  rw [this]
  omega
theorem stp_len (env : Nat → Int32) (c : Int32) (st : List Int32) : (stp env c st).length = dps c st.length := by
  unfold stp dps
  by_cases h0 : 0 ≤ c
  · rw [if_pos h0, if_pos h0]
    rfl
  · rw [if_neg h0, if_neg h0]
    by_cases h1 : -6 ≤ c
    · rw [if_pos h1, if_pos h1]
      rfl
    · rw [if_neg h1, if_neg h1]
      by_cases h2 : c = -16 ∨ c = -26
      · rw [if_pos h2, if_pos h2, List.length_cons, List.length_tail]
      · rw [if_neg h2, if_neg h2, List.length_cons, List.length_tail, List.length_tail]
        congr 1
theorem val_loop {x : XS} {p ac ae aw m e : Nat} {f fe env : Nat → Int32} (hpw : p ≠ aw) (hcp : ac ≠ p) (hcw : ac ≠ aw) (hep : ae ≠ p) (hew : ae ≠ aw) (hc : x.2.2.2.1 ac = some (.inr (m, f))) (he : x.2.2.2.1 ae = some (.inr (3, fe))) (hn : ∀ k, k < 6 → x.2.1 22 k = env k) {q : Nat} (hq : q < 3) (ee : fe q = nI e) (hem : e ≤ m) (hm : m ≤ 160) : ∀ (L : List Int32) (j g : Nat) (st : List Int32) (z : XS), j + L.length = e → (∀ k, k < L.length → f (j + k) = L.getD k 0) → L.length < g → VS x z p ac ae aw st → st.length ≤ 40 → few L st.length → ∃ z', LX7_valueOf_25 p (nI q) g (nI j) z = some z' ∧ VS x z' p ac ae aw (evl env L st) ∧ (evl env L st).length ≤ 40 := by
  intro L
  induction L with
  | nil =>
    intro j g st z hj hf hg h hl hw
    obtain ⟨g, rfl⟩ : ∃ z, g = z + 1 := ⟨g - 1, by omega⟩
    have hj : j = e := hj
    subst hj
    have e1 : dP z p 7 1 = some ae := dP_o (k := 1) h.ef rfl
    have e2 : dA z ae (nI q) = some (nI j) := by
      rw [dA_o ((h.ee ae hep hew).trans he) (ib_nI hq (by decide)), cl_nI (by omega), ee]
    refine ⟨z, ?_, h, hl⟩
    show BX7_valueOf_25 p (nI q) _ (nI j) z = _
    unfold BX7_valueOf_25
    rw [e1, Option.bind_some, e2, Option.bind_some, if_pos (Int32.le_refl _)]
  | cons c L ih =>
    intro j g st z hj hf hg h hl hw
    have hj : j + (L.length + 1) = e := hj
    have hg : L.length + 1 < g := hg
    obtain ⟨g, rfl⟩ : ∃ z, g = z + 1 := ⟨g - 1, by omega⟩
    have e1 : dP z p 7 1 = some ae := dP_o (k := 1) h.ef rfl
    have e2 : dA z ae (nI q) = some (nI e) := by
      rw [dA_o ((h.ee ae hep hew).trans he) (ib_nI hq (by decide)), cl_nI (by omega), ee]
    have e3 : dP z p 7 0 = some ac := dP_o (k := 0) h.ef rfl
    have hcz := (h.ee ac hcp hcw).trans hc
    have e5 : dA z ac (nI j) = some c := by
      rw [dA_o hcz (ib_nI (by omega) (by omega)), cl_nI (by omega)]
      have := hf 0 (Nat.succ_pos _)
      rw [Nat.add_zero] at this
      rw [this]
      rfl
    have l1 : ¬ nI e ≤ nI j := by
      rw [nI_lei (by omega) (by omega)]
      omega
    have l2 : ¬ (Int32.ofNat m) ≤ nI j := by
      show ¬ nI m ≤ nI j
      rw [nI_lei (by omega) (by omega)]
      omega
    have hd : dps c st.length ≤ 40 := hw 1 (Nat.succ_le_succ (Nat.zero_le _))
    have hw' : few L (stp env c st).length := by
      rw [stp_len]
      intro k hk
      exact hw (k + 1) (Nat.succ_le_succ hk)
    have nxt : ∀ z', VS x z' p ac ae aw (stp env c st) → ∃ z'', LX7_valueOf_25 p (nI q) g (nI (j + 1)) z' = some z'' ∧ VS x z'' p ac ae aw (evl env (c :: L) st) ∧ (evl env (c :: L) st).length ≤ 40 := by
      intro z' hz
      exact ih (j + 1) g (stp env c st) z' (by omega) (fun k hk => by
        have := hf (k + 1) (Nat.succ_lt_succ hk)
        rw [show j + 1 + k = j + (k + 1) by omega, this]
        rfl) (by omega) hz (by rw [stp_len]; exact hd) hw'
    have dk : ∀ {w : XS} {s : List Int32}, VS x w p ac ae aw s → dK w p 7 = true := fun hz => dK_o hz.ef
    have e0 : LX7_valueOf_25 p (nI q) (g + 1) (nI j) z = BX7_valueOf_25 p (nI q) (LX7_valueOf_25 p (nI q) g) (nI j) z := rfl
    rw [e0]
    unfold BX7_valueOf_25
    rw [e1, Option.bind_some, e2, Option.bind_some, if_neg l1, e3, Option.bind_some, dLen_o hcz, Option.bind_some, if_neg l2, Option.bind_some, e5, Option.bind_some, dk h, if_pos rfl]
    simp only [lt, nI_1]
    by_cases c0 : 0 ≤ c
    · rw [if_neg (Int32.not_lt.mpr c0)]
      have hs : stp env c st = c :: st := by
        unfold stp
        rw [if_pos c0]
      have hd' : st.length + 1 ≤ 40 := by
        unfold dps at hd
        rw [if_pos c0] at hd
        exact hd
      obtain ⟨z1, p1, p2⟩ := push8 c hpw h (by omega)
      rw [p1, Option.bind_some]
      exact nxt z1 (by rw [hs]; exact p2)
    · rw [if_pos (Int32.not_le.mp c0)]
      by_cases c1 : -6 ≤ c
      · obtain ⟨k, hk, ek⟩ := nm6 c0 c1
        have ni : fX7_isName c = some true := by
          unfold fX7_isName
          rw [if_neg c0, if_neg (Int32.not_lt.mpr c1)]
        have hs : stp env c st = env k :: st := by
          unfold stp
          rw [if_neg c0, if_pos c1, ek, cl_nI (by omega)]
        have hd' : st.length + 1 ≤ 40 := by
          unfold dps at hd
          rw [if_neg c0, if_pos c1] at hd
          exact hd
        rw [ni, Option.bind_some, if_pos rfl, ek, if_pos (ib_nI hk (by decide)), cl_nI (by omega), h.eb, hn k hk]
        obtain ⟨z1, p1, p2⟩ := push8 (env k) hpw h (by omega)
        rw [p1, Option.bind_some]
        exact nxt z1 (by rw [hs]; exact p2)
      · have ni : fX7_isName c = some false := by
          unfold fX7_isName
          rw [if_neg c0, if_pos (Int32.not_le.mp c1)]
        rw [ni, Option.bind_some, if_neg (by decide)]
        obtain ⟨z1, p1, p2⟩ := pop8 hpw h hl
        by_cases c2 : c = -16 ∨ c = -26
        · have hs : stp env c st = al1 c (st.headD 0) :: st.tail := by
            unfold stp
            rw [if_neg c0, if_neg c1, if_pos c2]
          have hd' : st.tail.length < 40 := by
            rw [List.length_tail]
            unfold dps at hd
            rw [if_neg c0, if_neg c1, if_pos c2] at hd
            exact hd
          obtain ⟨z2, p3, p4⟩ := push8 (al1 c (st.headD 0)) hpw p2 hd'
          have dk1 := dk p2
          rw [p1]
          simp only [bind2, al8, Option.bind_some, dk1, if_true, p3]
          have fin := nxt z2 (by rw [hs]; exact p4)
          by_cases c3 : c = -16
          · rw [if_pos c3]
            exact fin
          · rw [if_neg c3, if_pos (c2.resolve_left c3)]
            exact fin
        · have hs : stp env c st = jn c (st.tail.headD 0) (st.headD 0) :: st.tail.tail := by
            unfold stp
            rw [if_neg c0, if_neg c1, if_neg c2]
          have hd' : st.tail.tail.length < 40 := by
            rw [List.length_tail, List.length_tail]
            unfold dps at hd
            rw [if_neg c0, if_neg c1, if_neg c2] at hd
            omega
          have c3 : ¬ c = -16 := fun q => c2 (Or.inl q)
          have c4 : ¬ c = -26 := fun q => c2 (Or.inr q)
          obtain ⟨z2, p3, p4⟩ := pop8 hpw p2 (by rw [List.length_tail]; omega)
          obtain ⟨z3, p5, p6⟩ := push8 (jn c (st.tail.headD 0) (st.headD 0)) hpw p4 hd'
          have dk1 := dk p2
          have dk2 := dk p4
          rw [p1, if_neg c3, if_neg c4]
          simp only [bind2, Option.bind_some, dk1, if_true, p3, jn8, dk2, p5]
          exact nxt z3 (by rw [hs]; exact p6)
theorem gd_l {A B : List Int32} {k : Nat} (h : k < A.length) : (A ++ B).getD k 0 = A.getD k 0 := by
  rw [List.getD_eq_getElem?_getD, List.getElem?_append_left h, ← List.getD_eq_getElem?_getD]
theorem gd_r {A B : List Int32} (k : Nat) : (A ++ B).getD (A.length + k) 0 = B.getD k 0 := by
  rw [List.getD_eq_getElem?_getD, List.getElem?_append_right (Nat.le_add_right _ _), Nat.add_sub_cancel_left, ← List.getD_eq_getElem?_getD]
/-- a part of a text, read by the class -/
theorem value8 {x : XS} {p ac ae aw m : Nat} {d : Int32} {f fe fw env : Nat → Int32} {C : Nat → List Int32} (hpw : p ≠ aw) (hcp : ac ≠ p) (hcw : ac ≠ aw) (hep : ae ≠ p) (hew : ae ≠ aw) (hp : x.2.2.2.1 p = some (.inl (7, [.ref ac, .ref ae, .ref aw, .int d]))) (hc : x.2.2.2.1 ac = some (.inr (m, f))) (he : x.2.2.2.1 ae = some (.inr (3, fe))) (hw : x.2.2.2.1 aw = some (.inr (40, fw))) (hn : ∀ k, k < 6 → x.2.1 22 k = env k) (T : TXc m f fe C) {q : Nat} (hq : q < 3) : ∃ z, fX7_valueOf x p (nI q) = some ((evl env (C q) []).headD 0, z) ∧ z.1 = x.1 ∧ z.2.1 = x.2.1 ∧ z.2.2.1 = x.2.2.1 ∧ z.2.2.2.2 = x.2.2.2.2 ∧ (∀ a, a ≠ p → a ≠ aw → z.2.2.2.1 a = x.2.2.2.1 a) ∧ (∃ d, z.2.2.2.1 p = some (.inl (7, [.ref ac, .ref ae, .ref aw, .int d]))) ∧ ∃ fw, z.2.2.2.1 aw = some (.inr (40, fw)) := by
  have w1 : dPut x p 7 3 (.int 0) = some (xsD x p (.inl (7, [.ref ac, .ref ae, .ref aw, .int 0]))) := dPut_o (k := 3) hp (Nat.le_of_ble_eq_true rfl)
  have f1 : (xsD x p (.inl (7, [.ref ac, .ref ae, .ref aw, .int 0]))).2.2.2.1 p = some (.inl (7, [.ref ac, .ref ae, .ref aw, .int 0])) := if_pos rfl
  have ot : ∀ a, a ≠ p → (xsD x p (.inl (7, [.ref ac, .ref ae, .ref aw, .int 0]))).2.2.2.1 a = x.2.2.2.1 a := fun a ha => if_neg ha
  have V0 : VS x (xsD x p (.inl (7, [.ref ac, .ref ae, .ref aw, .int 0]))) p ac ae aw [] := ⟨rfl, rfl, rfl, rfl, fun a q1 _ => ot a q1, f1, fw, (ot aw (Ne.symm hpw)).trans hw, fun k hk => absurd hk (Nat.not_lt_zero k)⟩
  have hlen := T.len
  have hle := T.le
  have hat := T.at'
  unfold cat3 at hlen hat
  rw [List.length_append, List.length_append] at hlen
  have e1 : dP (xsD x p (.inl (7, [.ref ac, .ref ae, .ref aw, .int 0]))) p 7 1 = some ae := dP_o (k := 1) f1 rfl
  have e2 : ∀ k, k < 3 → dA (xsD x p (.inl (7, [.ref ac, .ref ae, .ref aw, .int 0]))) ae (nI k) = some (fe k) := by
    intro k hk
    rw [dA_o ((ot ae hep).trans he) (ib_nI hk (by decide)), cl_nI (by omega)]
  have key : ∃ s e : Nat, (if nI q = 0 then some 0 else Option.bind (dP (xsD x p (.inl (7, [.ref ac, .ref ae, .ref aw, .int 0]))) p 7 1) fun v3 => Option.bind (dA (xsD x p (.inl (7, [.ref ac, .ref ae, .ref aw, .int 0]))) v3 (nI q - 1)) fun v5 => some v5) = some (nI s) ∧ fe q = nI e ∧ e ≤ m ∧ s + (C q).length = e ∧ ∀ k, k < (C q).length → f (s + k) = (C q).getD k 0 := by
    have q3 : q = 0 ∨ q = 1 ∨ q = 2 := by omega
    rcases q3 with rfl | rfl | rfl
    · refine ⟨0, (C 0).length, if_pos rfl, T.e0, by omega, by omega, fun k hk => ?_⟩
      rw [Nat.zero_add, hat k (by omega), gd_l hk]
    · refine ⟨(C 0).length, (C 0).length + (C 1).length, ?_, T.e1, by omega, rfl, fun k hk => ?_⟩
      · rw [if_neg (by decide), e1, Option.bind_some, show nI 1 - 1 = nI 0 from rfl, e2 0 (by decide), Option.bind_some, T.e0]
      · rw [hat _ (by omega), gd_r, gd_l hk]
    · refine ⟨(C 0).length + (C 1).length, m, ?_, T.e2, by omega, by omega, fun k hk => ?_⟩
      · rw [if_neg (by decide), e1, Option.bind_some, show nI 2 - 1 = nI 1 from rfl, e2 1 (by decide), Option.bind_some, T.e1]
      · rw [hat _ (by omega), Nat.add_assoc, gd_r, gd_r]
  obtain ⟨s, e, k1, k2, k3, k4, k5⟩ := key
  obtain ⟨z, l1, l2, l3⟩ := val_loop (env := env) hpw hcp hcw hep hew hc he hn hq k2 k3 hle (C q) s NF [] _ k4 k5 (by unfold NF; omega) V0 (Nat.zero_le _) (T.few q hq)
  obtain ⟨z', p1, p2⟩ := pop8 hpw l2 l3
  refine ⟨z', ?_, p2.ea, p2.eb, p2.ec, p2.ed, p2.ee, ⟨_, p2.ef⟩, ?_⟩
  · unfold fX7_valueOf
    rw [w1, Option.bind_some, k1, Option.bind_some, l1, Option.bind_some, dK_o l2.ef, if_pos rfl, p1]
    rfl
  · obtain ⟨fw', g1, -⟩ := p2.eg
    exact ⟨fw', g1⟩
