/-! small numbers -/
def sm (a : Int32) (b : Nat) : Prop := -(b : Int) ≤ a.toInt ∧ a.toInt ≤ b
theorem sm_nI {k b : Nat} (h : k ≤ b) (hb : b < 2 ^ 31) : sm (nI k) b := by
  unfold sm
  rw [nI_toInt (by omega)]
  omega
theorem sm.wk {a : Int32} {b c : Nat} (h : sm a b) (hc : b ≤ c) : sm a c := by
  unfold sm at *
  omega
theorem sm_add {a b : Int32} {p q : Nat} (ha : sm a p) (hb : sm b q) (h : p + q < 2 ^ 31) : (a + b).toInt = a.toInt + b.toInt := by
  unfold sm at *
  rw [Int32.toInt_add, Int.bmod_def]
  omega
theorem sm_sub {a b : Int32} {p q : Nat} (ha : sm a p) (hb : sm b q) (h : p + q < 2 ^ 31) : (a - b).toInt = a.toInt - b.toInt := by
  unfold sm at *
  rw [Int32.toInt_sub, Int.bmod_def]
  omega
theorem sm.ad {a b : Int32} {p q : Nat} (ha : sm a p) (hb : sm b q) (h : p + q < 2 ^ 31) : sm (a + b) (p + q) := by
  have := sm_add ha hb h
  unfold sm at *
  omega
theorem sm.sb {a b : Int32} {p q : Nat} (ha : sm a p) (hb : sm b q) (h : p + q < 2 ^ 31) : sm (a - b) (p + q) := by
  have := sm_sub ha hb h
  unfold sm at *
  omega
theorem sm_add64 {a b : Int32} {p q : Nat} (ha : sm a p) (hb : sm b q) (h : p + q < 2 ^ 31) : (a + b).toInt64 = a.toInt64 + b.toInt64 := by
  apply Int64.toInt_inj.mp
  rw [Int32.toInt_toInt64, sm_add ha hb h, Int64.toInt_add, Int32.toInt_toInt64, Int32.toInt_toInt64, Int.bmod_def]
  unfold sm at *
  omega
theorem sm_sub64 {a b : Int32} {p q : Nat} (ha : sm a p) (hb : sm b q) (h : p + q < 2 ^ 31) : (a - b).toInt64 = a.toInt64 - b.toInt64 := by
  apply Int64.toInt_inj.mp
  rw [Int32.toInt_toInt64, sm_sub ha hb h, Int64.toInt_sub, Int32.toInt_toInt64, Int32.toInt_toInt64, Int.bmod_def]
  unfold sm at *
  omega
theorem lt64 (a b : Int32) : a.toInt64 < b.toInt64 ↔ a < b := by
  rw [Int64.lt_iff_toInt_lt, Int32.lt_iff_toInt_lt, Int32.toInt_toInt64, Int32.toInt_toInt64]
section RATING
variable {own : Nat → Nat} {n r t u : Nat} {x : XS} {y : MS}
theorem yng_bd {st ag no : Int32} (s0 : 0 ≤ st) (s1 : st ≤ 99) (a0 : 2 ≤ ag) (a1 : ag ≤ 12) (n0 : 0 ≤ no) (n1 : no ≤ 20) : sm (yng st ag no) 139 := by
  obtain ⟨a, ha, rfl⟩ := ix_of (n := 100) (by decide) s0 (Int32.lt_of_le_of_lt s1 (by decide))
  obtain ⟨b, hb, rfl⟩ := ix_of (n := 21) (by decide) n0 (Int32.lt_of_le_of_lt n1 (by decide))
  obtain ⟨c, hc, rfl⟩ := ix_of (n := 13) (by decide) (Int32.le_trans (by decide) a0) (Int32.lt_of_le_of_lt a1 (by decide))
  have hc2 : 2 ≤ c := (nI_lei (a := 2) (by decide) (by omega)).mp a0
  unfold yng
  by_cases q : (6 : Int32) ≤ nI c
  · rw [if_pos q, Int32.add_zero]
    exact sm_nI (by omega) (by decide)
  · rw [if_neg q]
    have q2 : c < 6 := by
      rw [show (6 : Int32) = nI 6 from rfl, nI_lei (by decide) (by omega)] at q
      omega
    have hm : (6 - c) * b ≤ 4 * 20 := Nat.mul_le_mul (by omega) (by omega)
    rw [show (6 : Int32) = nI 6 from rfl, nI_sb (by omega), nI_ml, show (2 : Int32) = nI 2 from rfl, nI_dv (by omega) (by decide), nI_ad]
    exact sm_nI (by omega) (by decide)
theorem fm_bd (h : RO own n r t u x y) {i : Nat} (hi : i < n) (g d : Int32) : sm (fm y i g d) 160 := by
  have v := h.H.va i hi
  have s1 : sm (y.2.1 5 i) 99 := by
    obtain ⟨a, ha, e⟩ := ix_of (n := 100) (by decide) v.st0 (Int32.lt_of_le_of_lt v.st1 (by decide))
    rw [e]
    exact sm_nI (by omega) (by decide)
  have s2 : sm (y.2.1 7 i) 20 := by
    obtain ⟨a, ha, e⟩ := ix_of (n := 21) (by decide) v.no0 (Int32.lt_of_le_of_lt v.no1 (by decide))
    rw [e]
    exact sm_nI (by omega) (by decide)
  have s3 : sm (y.2.1 6 i) 12 := by
    obtain ⟨a, ha, e⟩ := ix_of (n := 13) (by decide) (Int32.le_trans (by decide) v.ag0) (Int32.lt_of_le_of_lt v.ag1 (by decide))
    rw [e]
    exact sm_nI (by omega) (by decide)
  have s4 : sm (yng (y.2.1 5 i) (y.2.1 6 i) (y.2.1 7 i)) 139 := yng_bd v.st0 v.st1 v.ag0 v.ag1 v.no0 v.no1
  have s5 := (s1.sb s2 (by decide)).wk (show 99 + 20 ≤ 160 by decide)
  have s6 := s1.wk (show 99 ≤ 160 by decide)
  have s7 := s4.wk (show 139 ≤ 160 by decide)
  have s8 := (s4.sb s3 (by decide)).wk (show 139 + 12 ≤ 160 by decide)
  unfold fm fmS
  repeat' split
  all_goals assumption
/-- what one carries its lead to -/
def rat (y : MS) (i g : Nat) (d l : Int32) : Int32 := fm y i (nI g) d - wth y g l
theorem rat8 (h : RO own n r t u x y) {i g : Nat} (hi : i < n) (hg : g < 4) (d l : Int32) : fX8_ratingOf x (nI i) l (nI g) d = some (rat y i g d l) := by
  unfold fX8_ratingOf
  rw [frm8 h hi, Option.bind_some, worth8 h l hg]
  rfl
theorem rat9 (h : RO own n r t u x y) {i g : Nat} (hi : i < n) (d l : Int32) : fX9_carries y (nI i) (nI g) d (y.2.1 10 g) l = some (rat y i g d l) := by
  unfold fX9_carries
  rw [frm9 h hi]
  rfl
theorem rat_bd (h : RO own n r t u x y) {i g : Nat} (hi : i < n) (hg : g < 4) (d : Int32) {l : Int32} (h0 : 0 ≤ l) (h1 : l ≤ 60) : sm (rat y i g d l) 214 := by
  obtain ⟨w, e, hw⟩ := wth_nn h hg h0 h1
  unfold rat
  rw [e]
  exact ((fm_bd h hi (nI g) d).sb (sm_nI hw (by decide)) (by decide)).wk (by decide)
theorem off_loop (h : RO own n r t u x y) {i0 g : Nat} {f d l : Int32} {q3 q5 q6 : Int32} {q8 : Int64} : ∀ (k i gu : Nat), i + k = n → k < gu → LX9_comesTo_66 y f (nI g) q3 (nI i0) q5 q6 l q8 d gu false (nI i) = some false := by
  have hn := h.n10
  intro k
  induction k with
  | zero =>
    intro i gu hk hg
    obtain ⟨gu, rfl⟩ : ∃ z, gu = z + 1 := ⟨gu - 1, by omega⟩
    have e : i = n := by omega
    subst e
    show BX9_comesTo_66 y _ _ _ _ _ _ _ _ _ _ false (nI i) = _
    unfold BX9_comesTo_66
    rw [h.H.ey, if_pos (Int32.le_refl _)]
  | succ k ih =>
    intro i gu hk hg
    obtain ⟨gu, rfl⟩ : ∃ z, gu = z + 1 := ⟨gu - 1, by omega⟩
    have hlt : ¬ nI n ≤ nI i := by
      rw [nI_lei (by omega) (by omega)]
      omega
    have nxt := ih (i + 1) gu (by omega) (by omega)
    show BX9_comesTo_66 y f (nI g) q3 (nI i0) q5 q6 l q8 d (LX9_comesTo_66 y f (nI g) q3 (nI i0) q5 q6 l q8 d gu) false (nI i) = some false
    unfold BX9_comesTo_66
    rw [h.H.ey, if_neg hlt, if_neg (by decide)]
    simp only [lt, nI_1]
    exact nxt
theorem beat_loop (h : RO own n r t u x y) {i0 g : Nat} {f d l : Int32} {q3 q5 q6 : Int32} {q8 : Int64} (hi0 : i0 < n) (hg : g < 4) : ∀ (k i fu gu : Nat), i + k = n → k < fu → k < gu → ∃ (J : Bool ⊕ Unit) (w' : Bool), LX8_beatsOthers_15 x f (nI i0) (nI g) d (rat y i0 g d l) fu (nI i) = some J ∧ LX9_comesTo_66 y f (nI g) q3 (nI i0) q5 q6 l q8 d gu true (nI i) = some w' ∧ ((J = .inl false ∧ w' = false) ∨ (J = .inr () ∧ w' = true)) := by
  have hn := h.n10
  intro k
  induction k with
  | zero =>
    intro i fu gu hk hf hg2
    obtain ⟨fu, rfl⟩ : ∃ z, fu = z + 1 := ⟨fu - 1, by omega⟩
    obtain ⟨gu, rfl⟩ : ∃ z, gu = z + 1 := ⟨gu - 1, by omega⟩
    have e : i = n := by omega
    subst e
    refine ⟨.inr (), true, ?_, ?_, Or.inr ⟨rfl, rfl⟩⟩
    · show BX8_beatsOthers_15 x _ _ _ _ _ _ (nI i) = _
      unfold BX8_beatsOthers_15
      rw [h.H.ex, if_pos (Int32.le_refl _)]
    · show BX9_comesTo_66 y _ _ _ _ _ _ _ _ _ _ true (nI i) = _
      unfold BX9_comesTo_66
      rw [h.H.ey, if_pos (Int32.le_refl _)]
  | succ k ih =>
    intro i fu gu hk hf hg2
    obtain ⟨fu, rfl⟩ : ∃ z, fu = z + 1 := ⟨fu - 1, by omega⟩
    obtain ⟨gu, rfl⟩ : ∃ z, gu = z + 1 := ⟨gu - 1, by omega⟩
    have hi : i < n := by omega
    have hlt : ¬ nI n ≤ nI i := by
      rw [nI_lei (by omega) (by omega)]
      omega
    have hbg : ib (nI g) 4 := ib_nI hg (by decide)
    have hcg : (nI g).toNatClampNeg = g := cl_nI (by omega)
    have nxt := ih (i + 1) fu gu (by omega) (by omega) (by omega)
    show ∃ (J : Bool ⊕ Unit) (w' : Bool), BX8_beatsOthers_15 x f (nI i0) (nI g) d (rat y i0 g d l) (LX8_beatsOthers_15 x f (nI i0) (nI g) d (rat y i0 g d l) fu) (nI i) = some J ∧ BX9_comesTo_66 y f (nI g) q3 (nI i0) q5 q6 l q8 d (LX9_comesTo_66 y f (nI g) q3 (nI i0) q5 q6 l q8 d gu) true (nI i) = some w' ∧ _
    unfold BX8_beatsOthers_15 BX9_comesTo_66
    rw [h.H.ex, h.H.ey, if_neg hlt, if_neg hlt, if_pos (show true = true from rfl)]
    simp only [isIn8 h f hi, isOf9 h f hi, lead8 h hi, rat8 h hi hg, rat9 h hi, rat9 h hi0, Option.bind_some, lt, nI_1, if_pos hbg, hcg, if_pos (ib10 h hi), cln h hi]
    by_cases c : nI i = nI i0
    · rw [if_pos c, if_pos c]
      exact nxt
    · rw [if_neg c, if_neg c]
      by_cases c2 : inF f i = true
      · rw [if_pos c2, if_pos c2]
        by_cases c3 : rat y i0 g d l ≤ rat y i g d (y.2.1 9 i)
        · rw [if_neg (Int32.not_lt.mpr c3), if_pos c3]
          exact ⟨.inl false, false, rfl, off_loop h k (i + 1) gu (by omega) (by omega), Or.inl ⟨rfl, rfl⟩⟩
        · rw [if_pos (Int32.not_le.mp c3), if_neg c3]
          exact nxt
      · rw [if_neg c2, if_neg c2]
        exact nxt
theorem beat89 (h : RO own n r t u x y) {i0 g : Nat} {f d l : Int32} {q3 q5 q6 : Int32} {q8 : Int64} (hi0 : i0 < n) (hg : g < 4) : ∃ w' : Bool, fX8_beatsOthers x f (nI i0) l (nI g) d = some w' ∧ LX9_comesTo_66 y f (nI g) q3 (nI i0) q5 q6 l q8 d NF true 0 = some w' := by
  have hn := h.n10
  obtain ⟨J, w', e1, e2, e3⟩ := beat_loop (f := f) (d := d) (l := l) (q3 := q3) (q5 := q5) (q6 := q6) (q8 := q8) h hi0 hg n 0 NF NF (by omega) (by unfold NF; omega) (by unfold NF; omega)
  have e1 : LX8_beatsOthers_15 x f (nI i0) (nI g) d (rat y i0 g d l) NF 0 = some J := e1
  refine ⟨w', ?_, e2⟩
  unfold fX8_beatsOthers
  rw [rat8 h hi0 hg, Option.bind_some, e1]
  rcases e3 with ⟨rfl, rfl⟩ | ⟨rfl, rfl⟩
  · rfl
  · rfl
theorem let64 : ∀ k : Nat, k < 64 → ∀ d : Nat, d < 6 → ((nI k >>> (nI d &&& 31)) &&& 1 = 1 ∧ ¬ (nI k >>> (nI d &&& 31)) &&& 1 = 0) ∨ ((nI k >>> (nI d &&& 31)) &&& 1 = 0 ∧ ¬ (nI k >>> (nI d &&& 31)) &&& 1 = 1) := by decide +kernel
theorem gain_loop {i0 gr p days last : Nat} {f : Int32} (hi0 : i0 < n) (hgr : gr < 4) (hp : p ≤ 999) (hdays : days < 64) (hlast : last ≤ 5) : ∀ (k d fu gu : Nat) (ld gain : Int32) (z : XS) (w : MS), d + k = last + 1 → k < fu → k < gu → RO own n r t u z w → 0 ≤ ld → ld ≤ 60 → sm gain (1000 * d) → ∃ gain' z' w', LX8_gainOf_25 f (nI i0) (nI p) (nI days) (nI gr) (nI last) fu ld gain (nI d) z = some (gain', z') ∧ LX9_comesTo_15 f (nI gr) (nI last) (nI i0) (nI p) (nI days) gu ld gain.toInt64 (nI d) w = some (gain'.toInt64, w') ∧ RO own n r t u z' w' ∧ sm gain' 6000 := by
  intro k
  induction k with
  | zero =>
    intro d fu gu ld gain z w hk hf hg h l0 l1 hs
    obtain ⟨fu, rfl⟩ : ∃ z, fu = z + 1 := ⟨fu - 1, by omega⟩
    obtain ⟨gu, rfl⟩ : ∃ z, gu = z + 1 := ⟨gu - 1, by omega⟩
    have hlt : nI last < nI d := by
      rw [nI_lti (by omega) (by omega)]
      omega
    refine ⟨gain, z, w, ?_, ?_, h, hs.wk (by omega)⟩
    · show BX8_gainOf_25 _ _ _ _ _ _ _ ld gain (nI d) z = _
      unfold BX8_gainOf_25
      rw [if_pos hlt]
    · show BX9_comesTo_15 _ _ _ _ _ _ _ ld gain.toInt64 (nI d) w = _
      unfold BX9_comesTo_15
      rw [if_pos hlt]
  | succ k ih =>
    intro d fu gu ld gain z w hk hf hg h l0 l1 hs
    obtain ⟨fu, rfl⟩ : ∃ z, fu = z + 1 := ⟨fu - 1, by omega⟩
    obtain ⟨gu, rfl⟩ : ∃ z, gu = z + 1 := ⟨gu - 1, by omega⟩
    have hn := h.n10
    have hlt : ¬ nI last < nI d := by
      rw [nI_lti (by omega) (by omega)]
      omega
    obtain ⟨m1, a1, a2, a3, a4⟩ := bnd89 (ld + 4) (show (0 : Int32) ≤ 60 by decide)
    obtain ⟨m2, b1, b2, b3, b4⟩ := bnd89 (ld - 2) (show (0 : Int32) ≤ 60 by decide)
    have b1' : fX8_bounded (ld + -2) 0 60 = some m2 := by rw [← Int32.sub_eq_add_neg]; exact b1
    show ∃ gain' z' w', BX8_gainOf_25 f (nI i0) (nI p) (nI days) (nI gr) (nI last) (LX8_gainOf_25 f (nI i0) (nI p) (nI days) (nI gr) (nI last) fu) ld gain (nI d) z = some (gain', z') ∧ BX9_comesTo_15 f (nI gr) (nI last) (nI i0) (nI p) (nI days) (LX9_comesTo_15 f (nI gr) (nI last) (nI i0) (nI p) (nI days) gu) ld gain.toInt64 (nI d) w = some (gain'.toInt64, w') ∧ _
    unfold BX8_gainOf_25 BX9_comesTo_15
    rw [if_neg hlt, if_neg hlt]
    rcases let64 days hdays d (by omega) with ⟨c1, c2⟩ | ⟨c1, c2⟩
    · obtain ⟨w', eb, e2⟩ := beat89 (f := f) (d := nI d) (l := ld) (q3 := nI last) (q5 := nI p) (q6 := nI days) (q8 := gain.toInt64) h hi0 hgr
      simp only [if_pos c1, if_neg c2, Option.bind_some, if_true, eb, e2]
      cases w' with
      | false =>
        simp only [Option.bind_some, Bool.false_eq_true, if_false, bind2, b1', b2, lt, nI_1]
        rw [show gain.toInt64 + 0 = gain.toInt64 from Int64.add_zero _]
        exact ih (d + 1) fu gu m2 gain z w (by omega) (by omega) (by omega) h b3 b4 (hs.wk (by omega))
      | true =>
        simp only [Option.bind_some, if_true, bind2, a1, a2, lt, nI_1]
        by_cases c4 : nI d = nI last
        · simp only [if_pos c4, Option.bind_some]
          rw [← sm_add64 hs (sm_nI hp (by decide)) (by omega)]
          exact ih (d + 1) fu gu m1 (gain + nI p) z w (by omega) (by omega) (by omega) h a3 a4 ((hs.ad (sm_nI hp (by decide)) (by omega)).wk (by omega))
        · simp only [if_neg c4, Option.bind_some]
          have s10 : sm (10 : Int32) 10 := sm_nI (k := 10) (by decide) (by decide)
          have e10 : gain.toInt64 + 10 = (gain + 10).toInt64 := (sm_add64 hs s10 (by omega)).symm
          rw [e10]
          exact ih (d + 1) fu gu m1 (gain + 10) z w (by omega) (by omega) (by omega) h a3 a4 ((hs.ad s10 (by omega)).wk (by omega))
    · obtain ⟨v, z', w', e1, e2, e3, e4, e5, v0, v1⟩ := hold89 h hi0 ld
      have sv : sm v 999 := by
        obtain ⟨a, ha, e⟩ := ix_of (n := 1000) (by decide) v0 (Int32.lt_of_le_of_lt v1 (by decide))
        rw [e]
        exact sm_nI (by omega) (by decide)
      simp only [if_neg c2, if_pos c1, Option.bind_some, Bool.false_eq_true, if_false, e1, e2, bind2, b1', b2, lt, nI_1]
      rw [← sm_sub64 hs sv (by omega)]
      exact ih (d + 1) fu gu m2 (gain - v) z' w' (by omega) (by omega) (by omega) e3 b3 b4 ((hs.sb sv (by omega)).wk (by omega))
theorem gain89 (h : RO own n r t u x y) {i0 w p days : Nat} {f : Int32} (hi0 : i0 < n) (hw : w < 400) (hw5 : w % 100 ≤ 5) (hp : p ≤ 999) (hdays : days < 64) : ∃ gain x' y', fX8_gainOf x f (nI w) (nI i0) (nI p) (nI days) = some (gain, x') ∧ fX9_comesTo y f (nI (w / 100)) (nI (w % 100)) (nI i0) (nI p) (nI days) = some (gain.toInt64, y') ∧ RO own n r t u x' y' ∧ sm gain 6000 := by
  have ed : nI w / 100 = nI (w / 100) := nI_dv (c := 100) (by omega) (by decide)
  have em : irm (nI w) 100 = nI (w % 100) := nI_md (c := 100) (by omega) (by decide)
  have v := h.H.va i0 hi0
  obtain ⟨gain, x', y', e1, e2, e3, e4⟩ := gain_loop (f := f) hi0 (show w / 100 < 4 by omega) hp hdays hw5 (w % 100 + 1) 0 NF NF (y.2.1 9 i0) 0 x y (by omega) (by unfold NF; omega) (by unfold NF; omega) h v.ld0 v.ld1 (sm_nI (k := 0) (by decide) (by decide))
  have e1 : LX8_gainOf_25 f (nI i0) (nI p) (nI days) (nI (w / 100)) (nI (w % 100)) NF (y.2.1 9 i0) 0 0 x = some (gain, x') := e1
  have e2 : LX9_comesTo_15 f (nI (w / 100)) (nI (w % 100)) (nI i0) (nI p) (nI days) NF (y.2.1 9 i0) 0 0 y = some (gain.toInt64, y') := e2
  refine ⟨gain, x', y', ?_, ?_, e3, e4⟩
  · unfold fX8_gainOf
    simp only [lt, ed, em, lead8 h hi0, Option.bind_some, e1, bind2]
  · unfold fX9_comesTo
    rw [if_pos (ib10 h hi0), cln h hi0]
    simp only [lt, e2, bind2]
theorem sh2 : ∀ l : Nat, l < 6 → (2 : Int32) <<< (nI l &&& 31) = nI (2 ^ (l + 1)) := by decide
theorem hold_loop {i0 w p : Nat} {f q5 : Int32} (hi0 : i0 < n) (hw : w < 400) (hw5 : w % 100 ≤ 5) (hp : p ≤ 999) : ∀ (k d fu gu : Nat) (best most : Int32) (z : XS) (v : MS), d + k = 2 ^ (w % 100 + 1) → k < fu → k < gu → RO own n r t u z v → ∃ best' most' z' v', LX8_holding_76 f (nI w) (nI i0) (nI p) q5 fu best most (nI d) z = some (best', most', z') ∧ LX9_holding_74 f (nI w) (nI i0) (nI p) q5 (nI (w % 100)) gu best most.toInt64 (nI d) v = some (best', most'.toInt64, v') ∧ RO own n r t u z' v' := by
  have hp6 : 2 ^ (w % 100 + 1) ≤ 2 ^ 6 := Nat.pow_le_pow_right (by decide) (by omega)
  have e64 : (2 : Nat) ^ 6 = 64 := by decide
  have es := sh2 (w % 100) (by omega)
  have em : irm (nI w) 100 = nI (w % 100) := nI_md (c := 100) (by omega) (by decide)
  have ed : nI w / 100 = nI (w / 100) := nI_dv (c := 100) (by omega) (by decide)
  intro k
  induction k with
  | zero =>
    intro d fu gu best most z v hk hf hg h
    obtain ⟨fu, rfl⟩ : ∃ z, fu = z + 1 := ⟨fu - 1, by omega⟩
    obtain ⟨gu, rfl⟩ : ∃ z, gu = z + 1 := ⟨gu - 1, by omega⟩
    have e : d = 2 ^ (w % 100 + 1) := by omega
    subst e
    refine ⟨best, most, z, v, ?_, ?_, h⟩
    · show BX8_holding_76 _ _ _ _ _ _ best most _ z = _
      unfold BX8_holding_76
      rw [em, es, if_pos (Int32.le_refl _)]
    · show BX9_holding_74 _ _ _ _ _ _ _ best _ _ v = _
      unfold BX9_holding_74
      rw [es, if_pos (Int32.le_refl _)]
  | succ k ih =>
    intro d fu gu best most z v hk hf hg h
    obtain ⟨fu, rfl⟩ : ∃ z, fu = z + 1 := ⟨fu - 1, by omega⟩
    obtain ⟨gu, rfl⟩ : ∃ z, gu = z + 1 := ⟨gu - 1, by omega⟩
    have hlt : ¬ nI (2 ^ (w % 100 + 1)) ≤ nI d := by
      rw [nI_lei (by omega) (by omega)]
      omega
    obtain ⟨gain, z', v', e1, e2, e3, e4⟩ := gain89 (f := f) h hi0 hw hw5 hp (show d < 64 by omega)
    show ∃ best' most' z' v', BX8_holding_76 f (nI w) (nI i0) (nI p) q5 (LX8_holding_76 f (nI w) (nI i0) (nI p) q5 fu) best most (nI d) z = some (best', most', z') ∧ BX9_holding_74 f (nI w) (nI i0) (nI p) q5 (nI (w % 100)) (LX9_holding_74 f (nI w) (nI i0) (nI p) q5 (nI (w % 100)) gu) best most.toInt64 (nI d) v = some (best', most'.toInt64, v') ∧ _
    unfold BX8_holding_76 BX9_holding_74
    rw [em, es, if_neg hlt, if_neg hlt, e1, ed, e2]
    simp only [bind2, lt, nI_1, lt64]
    by_cases c : gain ≤ most
    · rw [if_pos c, if_neg (Int32.not_lt.mpr c)]
      exact ih (d + 1) fu gu best most z' v' (by omega) (by omega) (by omega) e3
    · rw [if_neg c, if_pos (Int32.not_le.mp c)]
      exact ih (d + 1) fu gu (nI d) gain z' v' (by omega) (by omega) (by omega) e3
end RATING
theorem pt9 (a : Int32) : fX9_isPart a = some (decide (0 ≤ a ∧ a ≤ 1)) := by
  unfold fX9_isPart
  rw [in9i (lo := 0) (hi := 1) (l := 0) (h := 1) rfl rfl]
  rfl
theorem s_holding : ST19 Rl := by
  intro x y a1 a2 a3 a4 a5 hr
  obtain ⟨own, n, r, t, u, h⟩ := id hr
  unfold fX8_holding fX9_holding
  rw [wh8, wh9, in8, in8, pt9, in9i (lo := 0) (hi := 999) (l := 0) (h := 999) rfl rfl]
  simp only [Option.bind_some, decide_eq_true_eq]
  rcases isField89 h a1 with ⟨-, e1, e2⟩ | ⟨-, e1, e2⟩
  · rw [e1, e2]
    simp only [Option.bind_some, if_true]
    rcases of400 a2 with c | ⟨w, hw, rfl, c, ed, em⟩
    · rw [if_neg c, if_neg c]
      exact ⟨_, _, _, rfl, rfl, hr⟩
    · rw [if_pos c, if_pos c, em]
      by_cases c5 : 5 < nI (w % 100)
      · rw [if_pos c5, if_pos c5]
        exact ⟨_, _, _, rfl, rfl, hr⟩
      · rw [if_neg c5, if_neg c5]
        have w5 : w % 100 ≤ 5 := by
          rw [show (5 : Int32) = nI 5 from rfl, nI_lti (by decide) (by omega)] at c5
          omega
        rcases ho h a3 with q | ⟨i, hi, rfl, q⟩
        · rw [isIn8n h _ q, isOf9n h _ q]
          exact ⟨_, _, _, rfl, rfl, hr⟩
        · rw [isIn8 h _ hi, isOf9 h _ hi]
          simp only [Option.bind_some]
          by_cases b : inF a1 i = true
          · rw [if_pos b, if_pos b]
            by_cases c4 : 0 ≤ a4 ∧ a4 ≤ 999
            · obtain ⟨p, hp, rfl⟩ := ix_of (n := 1000) (by decide) c4.1 (Int32.lt_of_le_of_lt c4.2 (by decide))
              rw [if_pos c4, if_pos c4]
              by_cases c6 : 0 ≤ a5 ∧ a5 ≤ 1
              · rw [if_pos c6, if_pos c6]
                obtain ⟨gain, x', y', g1, g2, g3, g4⟩ := gain89 (f := a1) h hi hw w5 (show p ≤ 999 by omega) (show 0 < 64 by decide)
                have g1 : fX8_gainOf x a1 (nI w) (nI i) (nI p) 0 = some (gain, x') := g1
                have g2 : fX9_comesTo y a1 (nI (w / 100)) (nI (w % 100)) (nI i) (nI p) 0 = some (gain.toInt64, y') := g2
                have hp1 : 1 ≤ 2 ^ (w % 100 + 1) := Nat.one_le_two_pow
                have hp6 : 2 ^ (w % 100 + 1) ≤ 2 ^ 6 := Nat.pow_le_pow_right (by decide) (by omega)
                have e64 : (2 : Nat) ^ 6 = 64 := by decide
                obtain ⟨best, most, x2, y2, l1, l2, l3⟩ := hold_loop (f := a1) (q5 := a5) hi hw w5 (show p ≤ 999 by omega) (2 ^ (w % 100 + 1) - 1) 1 NF 999 0 gain x' y' (by omega) (by unfold NF; omega) (by omega) g3
                have l1 : LX8_holding_76 a1 (nI w) (nI i) (nI p) a5 NF 0 gain 1 x' = some (best, most, x2) := l1
                have l2 : LX9_holding_74 a1 (nI w) (nI i) (nI p) a5 (nI (w % 100)) 999 0 gain.toInt64 1 y' = some (best, most.toInt64, y2) := l2
                have l0 : LX9_holding_74 a1 (nI w) (nI i) (nI p) a5 (nI (w % 100)) NF 0 (-4611686018427387904) 0 y = some (best, most.toInt64, y2) := by
                  show BX9_holding_74 a1 (nI w) (nI i) (nI p) a5 (nI (w % 100)) (LX9_holding_74 a1 (nI w) (nI i) (nI p) a5 (nI (w % 100)) 999) 0 (-4611686018427387904) 0 y = _
                  unfold BX9_holding_74
                  rw [sh2 (w % 100) (by omega), if_neg (by rw [show (0 : Int32) = nI 0 from rfl, nI_lei (by omega) (by decide)]; omega), ed, g2]
                  simp only [bind2, lt]
                  rw [if_pos (by
                    rw [Int64.lt_iff_toInt_lt, Int32.toInt_toInt64, show (-4611686018427387904 : Int64).toInt = -4611686018427387904 from rfl]
                    unfold sm at g4
                    omega)]
                  exact l2
                rw [g1]
                simp only [bind2, l1, lt, l0, bind3]
                by_cases c7 : a5 = 0
                · rw [if_pos c7, if_pos c7]
                  exact ⟨_, _, _, rfl, rfl, own, n, r, t, u, l3⟩
                · rw [if_neg c7, if_neg c7]
                  exact ⟨_, _, _, rfl, rfl, own, n, r, t, u, l3⟩
              · rw [if_neg c6, if_neg c6]
                exact ⟨_, _, _, rfl, rfl, hr⟩
            · rw [if_neg c4, if_neg c4]
              exact ⟨_, _, _, rfl, rfl, hr⟩
          · rw [if_neg b, if_neg b]
            exact ⟨_, _, _, rfl, rfl, hr⟩
  · rw [e1, e2]
    exact ⟨_, _, _, rfl, rfl, hr⟩
