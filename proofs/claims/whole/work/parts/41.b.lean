/-! what a text says: items in the order in which the class has them; a number stands for itself -/
def jn (c l r : Int32) : Int32 := if c = -21 then l + r else if c = -22 then l - r else if c = -23 then l * r else if c = -24 then (if l < r then 1 else 0) else if c = -25 then (if l = r then 1 else 0) else if c = -15 then (if l = 0 then 0 else if r = 0 then 0 else 1) else (if l = 0 then (if r = 0 then 0 else 1) else 1)
def al1 (c v : Int32) : Int32 := if c = -26 then -v else (if v = 0 then 1 else 0)
def stp (env : Nat → Int32) (c : Int32) (st : List Int32) : List Int32 := if 0 ≤ c then c :: st else if -6 ≤ c then env (-1 - c).toNatClampNeg :: st else if c = -16 ∨ c = -26 then al1 c (st.headD 0) :: st.tail else jn c (st.tail.headD 0) (st.headD 0) :: st.tail.tail
def evl (env : Nat → Int32) (L : List Int32) (st : List Int32) : List Int32 := L.foldl (fun st c => stp env c st) st
def dps (c : Int32) (d : Nat) : Nat := if 0 ≤ c then d + 1 else if -6 ≤ c then d + 1 else if c = -16 ∨ c = -26 then d - 1 + 1 else d - 2 + 1
def dpt (L : List Int32) (d : Nat) : Nat := L.foldl (fun d c => dps c d) d
/-- nowhere more than 40 wait -/
def few (L : List Int32) (d : Nat) : Prop := ∀ k, k ≤ L.length → dpt (L.take k) d ≤ 40
def envM (y : MS) (h : Nat) (l w p g : Int32) : Nat → Int32 := fun k => if k = 0 then y.2.1 5 h else if k = 1 then l else if k = 2 then w else if k = 3 then p else if k = 4 then y.2.1 6 h else g
def cat3 (C : Nat → List Int32) : List Int32 := C 0 ++ (C 1 ++ C 2)
/-- a text as the class has it -/
def TXc (m : Nat) (f fe : Nat → Int32) (C : Nat → List Int32) : Prop := (m = (cat3 C).length) ∧ (m ≤ 160) ∧ (∀ j, j < m → f j = (cat3 C).getD j 0) ∧ (fe 0 = nI (C 0).length) ∧ (fe 1 = nI ((C 0).length + (C 1).length)) ∧ (fe 2 = nI m) ∧ (∀ p, p < 3 → few (C p) 0)
theorem TXc.len {m : Nat} {f fe : Nat → Int32} {C : Nat → List Int32} (zz : TXc m f fe C) : m = (cat3 C).length := zz.1
theorem TXc.le {m : Nat} {f fe : Nat → Int32} {C : Nat → List Int32} (zz : TXc m f fe C) : m ≤ 160 := zz.2.1
theorem TXc.at' {m : Nat} {f fe : Nat → Int32} {C : Nat → List Int32} (zz : TXc m f fe C) : ∀ j, j < m → f j = (cat3 C).getD j 0 := zz.2.2.1
theorem TXc.e0 {m : Nat} {f fe : Nat → Int32} {C : Nat → List Int32} (zz : TXc m f fe C) : fe 0 = nI (C 0).length := zz.2.2.2.1
theorem TXc.e1 {m : Nat} {f fe : Nat → Int32} {C : Nat → List Int32} (zz : TXc m f fe C) : fe 1 = nI ((C 0).length + (C 1).length) := zz.2.2.2.2.1
theorem TXc.e2 {m : Nat} {f fe : Nat → Int32} {C : Nat → List Int32} (zz : TXc m f fe C) : fe 2 = nI m := zz.2.2.2.2.2.1
theorem TXc.few {m : Nat} {f fe : Nat → Int32} {C : Nat → List Int32} (zz : TXc m f fe C) : ∀ p, p < 3 → few (C p) 0 := zz.2.2.2.2.2.2
/-- only what is read with is other -/
def kp (y y' : MS) : Prop := (y'.2.1 = y.2.1) ∧ (∀ i, i < 22 ∨ 35 < i → y'.1 0 i = y.1 0 i)
theorem kp.rows {y y' : MS} (zz : kp y y') : y'.2.1 = y.2.1 := zz.1
theorem kp.ints {y y' : MS} (zz : kp y y') : ∀ i, i < 22 ∨ 35 < i → y'.1 0 i = y.1 0 i := zz.2
/-- a text as the reference reads it -/
def TXm (i : Nat) (y1 y2 : Nat → Int32) (C : Nat → List Int32) : Prop := ∀ (y : MS) (h : Nat) (l w p g k : Int32), h < 10 → (∀ j, j < 160 → y.2.1 1 (160 * i + j) = y1 (160 * i + j)) → y.2.1 2 i = y2 i → ∃ y', fX9_read y (nI i) (nI h) l w p g k = some ((evl (envM y h l w p g) (C (if k = 0 then 0 else if k = 1 then 1 else 2)) []).headD 0, y') ∧ kp y y' ∧ y'.1 0 29 = 0
def RT (own : Nat → Nat) (hp : Nat → Option DE) (t u : Nat) (tx ty ux uy : Int32) (row : Nat → Option Nat) (y1 y2 : Nat → Int32) : Prop := (1 ≤ t) ∧ (t ≤ 6) ∧ (u < t) ∧ (tx = nI t) ∧ (ty = nI t) ∧ (ux = nI u) ∧ (uy = nI u) ∧ (∀ i, i < t → ∃ (a ac ae aw : Nat) (d : Int32) (m : Nat) (f fe fw : Nat → Int32) (C : Nat → List Int32), row i = some a ∧ own a = 400 + i ∧ own ac = 500 + i ∧ own ae = 600 + i ∧ own aw = 700 + i ∧ hp a = some (.inl (7, [.ref ac, .ref ae, .ref aw, .int d])) ∧ hp ac = some (.inr (m, f)) ∧ hp ae = some (.inr (3, fe)) ∧ hp aw = some (.inr (40, fw)) ∧ TXc m f fe C ∧ TXm i y1 y2 C)
theorem RT.l1 {own : Nat → Nat} {hp : Nat → Option DE} {t u : Nat} {tx ty ux uy : Int32} {row : Nat → Option Nat} {y1 y2 : Nat → Int32} (zz : RT own hp t u tx ty ux uy row y1 y2) : 1 ≤ t := zz.1
theorem RT.le {own : Nat → Nat} {hp : Nat → Option DE} {t u : Nat} {tx ty ux uy : Int32} {row : Nat → Option Nat} {y1 y2 : Nat → Int32} (zz : RT own hp t u tx ty ux uy row y1 y2) : t ≤ 6 := zz.2.1
theorem RT.lu {own : Nat → Nat} {hp : Nat → Option DE} {t u : Nat} {tx ty ux uy : Int32} {row : Nat → Option Nat} {y1 y2 : Nat → Int32} (zz : RT own hp t u tx ty ux uy row y1 y2) : u < t := zz.2.2.1
theorem RT.ex {own : Nat → Nat} {hp : Nat → Option DE} {t u : Nat} {tx ty ux uy : Int32} {row : Nat → Option Nat} {y1 y2 : Nat → Int32} (zz : RT own hp t u tx ty ux uy row y1 y2) : tx = nI t := zz.2.2.2.1
theorem RT.ey {own : Nat → Nat} {hp : Nat → Option DE} {t u : Nat} {tx ty ux uy : Int32} {row : Nat → Option Nat} {y1 y2 : Nat → Int32} (zz : RT own hp t u tx ty ux uy row y1 y2) : ty = nI t := zz.2.2.2.2.1
theorem RT.eu {own : Nat → Nat} {hp : Nat → Option DE} {t u : Nat} {tx ty ux uy : Int32} {row : Nat → Option Nat} {y1 y2 : Nat → Int32} (zz : RT own hp t u tx ty ux uy row y1 y2) : ux = nI u := zz.2.2.2.2.2.1
theorem RT.ev {own : Nat → Nat} {hp : Nat → Option DE} {t u : Nat} {tx ty ux uy : Int32} {row : Nat → Option Nat} {y1 y2 : Nat → Int32} (zz : RT own hp t u tx ty ux uy row y1 y2) : uy = nI u := zz.2.2.2.2.2.2.1
theorem RT.at' {own : Nat → Nat} {hp : Nat → Option DE} {t u : Nat} {tx ty ux uy : Int32} {row : Nat → Option Nat} {y1 y2 : Nat → Int32} (zz : RT own hp t u tx ty ux uy row y1 y2) : ∀ i, i < t → ∃ (a ac ae aw : Nat) (d : Int32) (m : Nat) (f fe fw : Nat → Int32) (C : Nat → List Int32), row i = some a ∧ own a = 400 + i ∧ own ac = 500 + i ∧ own ae = 600 + i ∧ own aw = 700 + i ∧ hp a = some (.inl (7, [.ref ac, .ref ae, .ref aw, .int d])) ∧ hp ac = some (.inr (m, f)) ∧ hp ae = some (.inr (3, fe)) ∧ hp aw = some (.inr (40, fw)) ∧ TXc m f fe C ∧ TXm i y1 y2 C := zz.2.2.2.2.2.2.2
theorem RT.mono {own own' : Nat → Nat} {hp hp' : Nat → Option DE} {t u : Nat} {tx ty ux uy : Int32} {row : Nat → Option Nat} {y1 y2 : Nat → Int32} (h : RT own hp t u tx ty ux uy row y1 y2) (hk : ∀ a d, hp a = some d → 400 ≤ own a → own a < 800 → hp' a = some d ∧ own' a = own a) : RT own' hp' t u tx ty ux uy row y1 y2 := by
  refine ⟨h.l1, h.le, h.lu, h.ex, h.ey, h.eu, h.ev, fun i hi => ?_⟩
  have := h.le
  obtain ⟨a, ac, ae, aw, d, m, f, fe, fw, C, h1, h2, h3, h4, h5, h6, h7, h8, h9, h10⟩ := h.at' i hi
  obtain ⟨g1, e1⟩ := hk a _ h6 (by omega) (by omega)
  obtain ⟨g2, e2⟩ := hk ac _ h7 (by omega) (by omega)
  obtain ⟨g3, e3⟩ := hk ae _ h8 (by omega) (by omega)
  obtain ⟨g4, e4⟩ := hk aw _ h9 (by omega) (by omega)
  exact ⟨a, ac, ae, aw, d, m, f, fe, fw, C, h1, e1.trans h2, e2.trans h3, e3.trans h4, e4.trans h5, g1, g2, g3, g4, h10⟩
/-- both sides stand alike -/
def RO (own : Nat → Nat) (n r t u : Nat) (x : XS) (y : MS) : Prop := (∀ a d, x.2.2.2.1 a = some d → a < x.2.2.2.2) ∧ (RH own x.2.2.2.1 n (x.1 0 1) (y.1 0 13) (x.2.2.1 1) (y.2.1 4) (y.2.1 5) (y.2.1 6) (y.2.1 7) (y.2.1 8) (y.2.1 9)) ∧ (RP (x.2.1 2) (y.2.1 10) (x.1 0 3) (y.1 0 15)) ∧ (RR own x.2.2.2.1 n r (x.1 0 5) (y.1 0 41) (x.2.2.1 3) (y.2.1 15) (y.2.1 16) (y.2.1 17) (y.2.1 18) (y.2.1 19)) ∧ (RA (x.1 4 1) (y.1 0 6) (x.2.1 5) (y.2.1 3)) ∧ (RI n r t (x.1 11) (x.2.1 12) (x.2.1 13) (x.2.1 14) (x.2.1 15) (y.1 0 48) (y.1 0 49) (y.1 0 50) (y.1 0 51) (y.1 0 52) (y.2.1 22) (y.2.1 23) (y.2.1 24) (y.2.1 25)) ∧ (RS own x.2.2.2.1 (x.2.2.1 10) (y.2.1 26) (y.2.1 27) (y.2.1 28) (y.2.1 29)) ∧ (RT own x.2.2.2.1 t u (x.1 0 9) (y.1 0 3) (x.1 0 10) (y.1 0 4) (x.2.2.1 9) (y.2.1 1) (y.2.1 2))
theorem RO.fr {own : Nat → Nat} {n r t u : Nat} {x : XS} {y : MS} (zz : RO own n r t u x y) : ∀ a d, x.2.2.2.1 a = some d → a < x.2.2.2.2 := zz.1
theorem RO.H {own : Nat → Nat} {n r t u : Nat} {x : XS} {y : MS} (zz : RO own n r t u x y) : RH own x.2.2.2.1 n (x.1 0 1) (y.1 0 13) (x.2.2.1 1) (y.2.1 4) (y.2.1 5) (y.2.1 6) (y.2.1 7) (y.2.1 8) (y.2.1 9) := zz.2.1
theorem RO.P {own : Nat → Nat} {n r t u : Nat} {x : XS} {y : MS} (zz : RO own n r t u x y) : RP (x.2.1 2) (y.2.1 10) (x.1 0 3) (y.1 0 15) := zz.2.2.1
theorem RO.R {own : Nat → Nat} {n r t u : Nat} {x : XS} {y : MS} (zz : RO own n r t u x y) : RR own x.2.2.2.1 n r (x.1 0 5) (y.1 0 41) (x.2.2.1 3) (y.2.1 15) (y.2.1 16) (y.2.1 17) (y.2.1 18) (y.2.1 19) := zz.2.2.2.1
theorem RO.A {own : Nat → Nat} {n r t u : Nat} {x : XS} {y : MS} (zz : RO own n r t u x y) : RA (x.1 4 1) (y.1 0 6) (x.2.1 5) (y.2.1 3) := zz.2.2.2.2.1
theorem RO.I {own : Nat → Nat} {n r t u : Nat} {x : XS} {y : MS} (zz : RO own n r t u x y) : RI n r t (x.1 11) (x.2.1 12) (x.2.1 13) (x.2.1 14) (x.2.1 15) (y.1 0 48) (y.1 0 49) (y.1 0 50) (y.1 0 51) (y.1 0 52) (y.2.1 22) (y.2.1 23) (y.2.1 24) (y.2.1 25) := zz.2.2.2.2.2.1
theorem RO.S {own : Nat → Nat} {n r t u : Nat} {x : XS} {y : MS} (zz : RO own n r t u x y) : RS own x.2.2.2.1 (x.2.2.1 10) (y.2.1 26) (y.2.1 27) (y.2.1 28) (y.2.1 29) := zz.2.2.2.2.2.2.1
theorem RO.T {own : Nat → Nat} {n r t u : Nat} {x : XS} {y : MS} (zz : RO own n r t u x y) : RT own x.2.2.2.1 t u (x.1 0 9) (y.1 0 3) (x.1 0 10) (y.1 0 4) (x.2.2.1 9) (y.2.1 1) (y.2.1 2) := zz.2.2.2.2.2.2.2
def Rl (x : XS) (y : MS) : Prop := ∃ own n r t u, RO own n r t u x y
theorem s_pound : ST2 Rl := by
  intro x y a1 a2 h
  obtain ⟨own, n, r, t, u, h⟩ := h
  unfold fX8_pound fX9_pound fX8_isGround
  simp only [in8, Option.bind_some]
  rw [in9i (lo := 0) (hi := 4) (l := 0) (h := 4) rfl rfl]
  simp only [Option.bind_some]
  by_cases c4 : a1 = 4
  · subst c4
    have e1 : decide ((0 : Int32) ≤ 4 ∧ (4 : Int32) ≤ 3) = false := by decide
    have e2 : decide ((0 : Int32) ≤ 4 ∧ (4 : Int32) ≤ 4) = true := by decide
    simp only [e1, e2, if_true, Option.bind_some]
    rw [in9i (lo := 0) (hi := 3) (l := 0) (h := 3) rfl rfl]
    simp only [Option.bind_some, Bool.false_eq_true, if_false, decide_eq_true_eq]
    by_cases c : (0 : Int32) ≤ a2 ∧ a2 ≤ 3
    · rw [if_pos c, if_pos c]
      refine ⟨_, xsS x 0 3 a2, msS y 0 15 a2, rfl, ?_, own, n, r, t, u, h.fr, h.H, ⟨h.P.eq, h.P.p0, rfl, c.1, c.2⟩, h.R, h.A, h.I, h.S, h.T⟩
      rw [h.P.es]
      rfl
    · rw [if_neg c, if_neg c]
      exact ⟨_, _, _, rfl, rfl, own, n, r, t, u, h⟩
  · simp only [c4, if_false, Option.bind_some, decide_eq_true_eq]
    rw [in9i (lo := 0) (hi := 9) (l := 0) (h := 9) rfl rfl]
    simp only [Option.bind_some, decide_eq_true_eq]
    by_cases c : (0 : Int32) ≤ a1 ∧ a1 ≤ 3
    · obtain ⟨g, hg, rfl⟩ := ix_of (n := 4) (by decide) c.1 (Int32.lt_of_le_of_lt c.2 (by decide))
      have c' : (0 : Int32) ≤ nI g ∧ nI g ≤ 4 := ⟨c.1, Int32.le_trans c.2 (by decide)⟩
      have hb : ib (nI g) 4 := ib_nI hg (by decide)
      have hc : (nI g).toNatClampNeg = g := cl_nI (by omega)
      simp only [if_pos c, if_pos c', if_pos hb, hc, lt, Option.bind_some]
      by_cases c2 : (0 : Int32) ≤ a2 ∧ a2 ≤ 9
      · rw [if_pos c2, if_pos c2]
        refine ⟨_, xsA x 2 g a2, msA y 10 g a2, rfl, ?_, own, n, r, t, u, h.fr, h.H, ⟨fun k hk => ?_, fun k hk => ?_, h.P.es, h.P.s0, h.P.s1⟩, h.R, h.A, h.I, h.S, h.T⟩
        · rw [h.P.eq g hg]
        · show (if k = g then a2 else x.2.1 2 k) = (if k = g then a2 else y.2.1 10 k)
          rw [h.P.eq k hk]
        · show 0 ≤ (if k = g then a2 else y.2.1 10 k) ∧ (if k = g then a2 else y.2.1 10 k) ≤ 9
          split
          · exact c2
          · exact h.P.p0 k hk
      · rw [if_neg c2, if_neg c2]
        exact ⟨_, _, _, rfl, rfl, own, n, r, t, u, h⟩
    · have c' : ¬ ((0 : Int32) ≤ a1 ∧ a1 ≤ 4) := by
        intro q
        refine c ⟨q.1, ?_⟩
        obtain ⟨g, hg, rfl⟩ := ix_of (n := 5) (by decide) q.1 (Int32.lt_of_le_of_lt q.2 (by decide))
        have : g ≠ 4 := fun e => c4 (by rw [e]; rfl)
        have hg4 : g < 4 := by omega
        exact (nI_prd (n := 4) (by decide) hg4).2
      rw [if_neg c, if_neg c']
      exact ⟨_, _, _, rfl, rfl, own, n, r, t, u, h⟩
