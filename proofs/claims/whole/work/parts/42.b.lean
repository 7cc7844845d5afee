theorem dI_o {x : XS} {p ci k : Nat} {fs : List Value} {v : Int32} (e : x.2.2.2.1 p = some (.inl (ci, fs))) (hk : fs[k]? = some (.int v)) : dI x p ci k = some v := by
  simp [dI, dO, e, hk]
theorem dP_o {x : XS} {p ci k : Nat} {fs : List Value} {v : Nat} (e : x.2.2.2.1 p = some (.inl (ci, fs))) (hk : fs[k]? = some (.ref v)) : dP x p ci k = some v := by
  simp [dP, dO, e, hk]
theorem dK_o {x : XS} {p ci : Nat} {fs : List Value} (e : x.2.2.2.1 p = some (.inl (ci, fs))) : dK x p ci = true := by
  simp [dK, e]
theorem dPut_o {x : XS} {p ci k : Nat} {fs : List Value} {v : Value} (e : x.2.2.2.1 p = some (.inl (ci, fs))) (hk : k < fs.length) : dPut x p ci k v = some (xsD x p (.inl (ci, fs.set k v))) := by
  simp [dPut, e, hk]
theorem dA_o {x : XS} {p n : Nat} {f : Nat → Int32} {i : Int32} (e : x.2.2.2.1 p = some (.inr (n, f))) (hi : ib i n) : dA x p i = some (f i.toNatClampNeg) := by
  simp only [dA, e]
  rw [if_pos hi]
theorem dAs_o {x : XS} {p n : Nat} {f : Nat → Int32} {i v : Int32} (e : x.2.2.2.1 p = some (.inr (n, f))) (hi : ib i n) : dAs x p i v = some (xsD x p (.inr (n, upd f i.toNatClampNeg v))) := by
  simp only [dAs, e]
  rw [if_pos hi]
theorem dLen_o {x : XS} {p n : Nat} {f : Nat → Int32} (e : x.2.2.2.1 p = some (.inr (n, f))) : dLen x p = some (Int32.ofNat n) := by
  simp only [dLen, e]
section HORSES
variable {own : Nat → Nat} {n r t u : Nat} {x : XS} {y : MS}
theorem RO.n10 (h : RO own n r t u x y) : n ≤ 10 := h.H.le
theorem hs8 (h : RO own n r t u x y) (a : Int32) : fX8_isHorse x a = some (decide (0 ≤ a ∧ a ≤ nI n - 1)) := by
  unfold fX8_isHorse
  rw [in8, h.H.ex]
  rfl
theorem hs9 (h : RO own n r t u x y) (a : Int32) : fX9_isHorse y a = some (decide (0 ≤ a ∧ a ≤ nI n - 1)) := by
  unfold fX9_isHorse
  rw [h.H.ey, in9i (lo := 0) (hi := nI n - 1) (l := 0) rfl rfl]
  rfl
/-- one that is no horse, or the i-th -/
theorem ho (h : RO own n r t u x y) (a : Int32) : (¬ (0 ≤ a ∧ a ≤ nI n - 1)) ∨ ∃ i, i < n ∧ a = nI i ∧ (0 ≤ nI i ∧ nI i ≤ nI n - 1) := by
  by_cases c : 0 ≤ a ∧ a ≤ nI n - 1
  · obtain ⟨i, hi, rfl⟩ := pred_nI (by have := h.n10; omega) c
    exact Or.inr ⟨i, hi, rfl, c⟩
  · exact Or.inl c
theorem ib10 (h : RO own n r t u x y) {i : Nat} (hi : i < n) : ib (nI i) 10 := ib_nI (by have := h.n10; omega) (by decide)
theorem cln (h : RO own n r t u x y) {i : Nat} (hi : i < n) : (nI i).toNatClampNeg = i := cl_nI (by have := h.n10; omega)
theorem nn_nI {i : Nat} (hi : i < 2 ^ 31) : ¬ nI i < 0 := by
  rw [Int32.lt_iff_toInt_lt, nI_toInt hi, show (0 : Int32).toInt = 0 from rfl]
  omega
theorem nle_nI {i n : Nat} (hn : n < 2 ^ 31) (hi : i < n) : ¬ nI n ≤ nI i := by
  rw [Int32.le_iff_toInt_le, nI_toInt hn, nI_toInt (by omega)]
  omega
theorem ha8 (h : RO own n r t u x y) {i : Nat} (hi : i < n) : ∃ p, fX8_horseAt x (nI i) = some (some p) ∧ own p = i ∧ x.2.2.2.1 p = some (hoD (y.2.1 4 i) (y.2.1 7 i) (y.2.1 8 i) (y.2.1 5 i) (y.2.1 6 i) (y.2.1 9 i)) ∧ x.2.2.1 1 i = some p := by
  obtain ⟨p, h1, h2, h3⟩ := h.H.at' i hi
  refine ⟨p, ?_, h2, h3, h1⟩
  unfold fX8_horseAt
  rw [if_neg (nn_nI (by have := h.n10; omega)), h.H.ex, if_neg (nle_nI (by have := h.n10; omega) hi)]
  simp only [lt, cln h hi, h1]
  rw [if_pos (ib10 h hi)]
theorem ha8n (h : RO own n r t u x y) {a : Int32} (c : ¬ (0 ≤ a ∧ a ≤ nI n - 1)) : fX8_horseAt x a = some none := by
  unfold fX8_horseAt
  by_cases q : a < 0
  · rw [if_pos q]
  · have c2 : nI n ≤ a := by
      have hn := h.n10
      have c3 : ¬ a ≤ nI n - 1 := fun z => c ⟨Int32.not_lt.mp q, z⟩
      have e1 : ((n : Int) - 1).bmod (2 ^ 32) = (n : Int) - 1 := by
        rw [Int.bmod_def]
        omega
      rw [Int32.le_iff_toInt_le, Int32.toInt_sub, nI_toInt (by omega), show (1 : Int32).toInt = 1 from rfl, e1] at c3
      rw [Int32.le_iff_toInt_le, nI_toInt (by omega)]
      omega
    rw [if_neg q, h.H.ex, if_pos c2]
/-- a horse's form -/
def yng (st ag no : Int32) : Int32 := st + (if 6 ≤ ag then 0 else ((6 - ag) * no) / 2)
def fmS (kd no gr st ag : Int32) (g d : Int32) : Int32 := if kd = 1 then st - no else if kd = 2 then (if g = gr then st else st - no) else if kd = 3 then yng st ag no else if kd = 4 then (if irm d 7 = 0 then st else st - no) else if kd = 5 then yng st ag no - ag else st
def fm (y : MS) (i : Nat) (g d : Int32) : Int32 := fmS (y.2.1 4 i) (y.2.1 7 i) (y.2.1 8 i) (y.2.1 5 i) (y.2.1 6 i) g d
theorem frm9 (h : RO own n r t u x y) {i : Nat} (hi : i < n) (g d : Int32) : fX9_formOf y (nI i) g d = some (fm y i g d) := by
  have hb := ib10 h hi
  unfold fX9_formOf fm fmS yng
  simp only [cln h hi, if_pos hb, lt, Int32.sub_zero]
  split <;> simp only [Option.bind_some] <;> (repeat' split) <;> first | rfl | contradiction
theorem prm8 {x : XS} {p : Nat} {ag no : Int32} (k4 : dI x p 1 4 = some ag) (k1 : dI x p 1 1 = some no) : fX1_promise x p = some (if 6 ≤ ag then 0 else ((6 - ag) * no) / 2) := by
  unfold fX1_promise
  rw [k4, k1]
  simp only [Option.bind_some]
  split <;> rfl
theorem frm8 (h : RO own n r t u x y) {i : Nat} (hi : i < n) (g d : Int32) : fX8_formOf x (nI i) g d = some (fm y i g d) := by
  obtain ⟨p, h1, h2, h3, -⟩ := ha8 h hi
  unfold fX8_formOf
  have k0 := dI_o (k := 0) h3 rfl
  have k1 := dI_o (k := 1) h3 rfl
  have k2 := dI_o (k := 2) h3 rfl
  have k3 := dI_o (k := 3) h3 rfl
  have k4 := dI_o (k := 4) h3 rfl
  simp only [h1, Option.bind_some, oc, dK_o h3, if_true]
  unfold fX1_formOn
  simp only [k0, k1, k2, k3, k4, Option.bind_some, dK_o h3, if_true, prm8 k4 k1]
  unfold fm fmS yng
  repeat' split
  all_goals first | rfl | contradiction
end HORSES
theorem s_form : ST3 Rl := by
  intro x y a1 a2 a3 hr
  obtain ⟨own, n, r, t, u, h⟩ := id hr
  unfold fX8_form fX9_form fX8_isGround fX9_isGround
  simp only [hs8 h, hs9 h, in8, Option.bind_some]
  rw [in9i (lo := 0) (hi := 3) (l := 0) (h := 3) rfl rfl, in9i (lo := 0) (hi := 99) (l := 0) (h := 99) rfl rfl]
  simp only [Option.bind_some, decide_eq_true_eq]
  rcases ho h a1 with c | ⟨i, hi, rfl, c⟩
  · rw [if_neg c, if_neg c]
    exact ⟨_, rfl, rfl, hr⟩
  · simp only [if_pos c, frm8 h hi, frm9 h hi, Option.bind_some]
    by_cases c2 : (0 : Int32) ≤ a2 ∧ a2 ≤ 3
    · by_cases c3 : (0 : Int32) ≤ a3 ∧ a3 ≤ 99
      · simp only [if_pos c2, if_pos c3]
        exact ⟨_, rfl, rfl, hr⟩
      · simp only [if_pos c2, if_neg c3]
        exact ⟨_, rfl, rfl, hr⟩
    · simp only [if_neg c2]
      exact ⟨_, rfl, rfl, hr⟩
