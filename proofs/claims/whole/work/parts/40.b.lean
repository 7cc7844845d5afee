/-! STAGE B: the class's pictures and the reference's answer alike. No machine below this line. -/
theorem in8 (a lo hi : Int32) : fX8_isWithin a lo hi = some (decide (lo ≤ a ∧ a ≤ hi)) := by
  unfold fX8_isWithin
  split
  · rename_i h
    rw [decide_eq_false]
    intro q
    exact absurd q.1 (Int32.not_le.mpr h)
  · split
    · rename_i h
      rw [decide_eq_false]
      intro q
      exact absurd q.2 (Int32.not_le.mpr h)
    · rename_i h1 h2
      rw [decide_eq_true]
      exact ⟨Int32.not_lt.mp h1, Int32.not_lt.mp h2⟩
theorem in9 (a lo hi : Int64) : fX9_in a lo hi = some (decide (lo ≤ a ∧ a ≤ hi)) := by
  unfold fX9_in
  split
  · rename_i h
    rw [decide_eq_false]
    intro q
    exact absurd q.1 (Int64.not_le.mpr h)
  · split
    · rename_i h
      rw [decide_eq_false]
      intro q
      exact absurd q.2 (Int64.not_le.mpr h)
    · rename_i h1 h2
      rw [decide_eq_true]
      exact ⟨Int64.not_lt.mp h1, Int64.not_lt.mp h2⟩
theorem le64 (a b : Int32) : a.toInt64 ≤ b.toInt64 ↔ a ≤ b := by
  rw [Int64.le_iff_toInt_le, Int32.le_iff_toInt_le, Int32.toInt_toInt64, Int32.toInt_toInt64]
theorem in9i {a lo hi : Int32} {l h : Int64} (e1 : l = lo.toInt64) (e2 : h = hi.toInt64) : fX9_in a.toInt64 l h = some (decide (lo ≤ a ∧ a ≤ hi)) := by
  rw [in9, e1, e2]
  congr 2
  rw [le64, le64]
/-- a row's index -/
theorem ix_of {a : Int32} {n : Nat} (hn : n < 2 ^ 31) (h0 : 0 ≤ a) (h1 : a < nI n) : ∃ i, i < n ∧ a = nI i := by
  rw [Int32.le_iff_toInt_le] at h0
  rw [Int32.lt_iff_toInt_lt, nI_toInt hn] at h1
  have e0 : (0 : Int32).toInt = 0 := rfl
  rw [e0] at h0
  refine ⟨a.toInt.toNat, by omega, ?_⟩
  apply Int32.toInt_inj.mp
  rw [nI_toInt (by omega)]
  omega
theorem ib_nI {i n : Nat} (h : i < n) (hn : n < 2 ^ 31) : ib (nI i) n := vp_in_nI h hn
theorem cl_nI {i : Nat} (h : i < 2 ^ 31) : (nI i).toNatClampNeg = i := nI_clamp h
theorem pred_nI {a : Int32} {n : Nat} (hn : n < 2 ^ 31) (h : (0 : Int32) ≤ a ∧ a ≤ nI n - 1) : ∃ i, i < n ∧ a = nI i := by
  obtain ⟨h0, h1⟩ := h
  rw [Int32.le_iff_toInt_le] at h0 h1
  rw [Int32.toInt_sub, nI_toInt hn, show (1 : Int32).toInt = 1 from rfl] at h1
  have e0 : (0 : Int32).toInt = 0 := rfl
  rw [e0] at h0
  have e1 : ((n : Int) - 1).bmod (2 ^ 32) = (n : Int) - 1 := by
    rw [Int.bmod_def]
    omega
  rw [e1] at h1
  refine ⟨a.toInt.toNat, by omega, ?_⟩
  apply Int32.toInt_inj.mp
  rw [nI_toInt (by omega)]
  omega
theorem nI_prd {i n : Nat} (hn : n < 2 ^ 31) (h : i < n) : (0 : Int32) ≤ nI i ∧ nI i ≤ nI n - 1 := by
  have e1 : ((n : Int) - 1).bmod (2 ^ 32) = (n : Int) - 1 := by
    rw [Int.bmod_def]
    omega
  rw [Int32.le_iff_toInt_le, Int32.le_iff_toInt_le, Int32.toInt_sub, nI_toInt hn, nI_toInt (show i < 2 ^ 31 by omega), show (1 : Int32).toInt = 1 from rfl, show (0 : Int32).toInt = 0 from rfl, e1]
  omega
/-- one horse as the reference has it -/
def hoD (kd no gr st ag ld : Int32) : DE := .inl (1, [.int kd, .int no, .int gr, .int st, .int ag, .int ld])
def HV (kd no gr st ag ld : Int32) : Prop := (0 ≤ kd) ∧ (kd ≤ 5) ∧ (0 ≤ no) ∧ (no ≤ 20) ∧ (0 ≤ gr) ∧ (gr ≤ 3) ∧ (0 ≤ st) ∧ (st ≤ 99) ∧ (2 ≤ ag) ∧ (ag ≤ 12) ∧ (0 ≤ ld) ∧ (ld ≤ 60)
theorem HV.kd0 {kd no gr st ag ld : Int32} (zz : HV kd no gr st ag ld) : 0 ≤ kd := zz.1
theorem HV.kd1 {kd no gr st ag ld : Int32} (zz : HV kd no gr st ag ld) : kd ≤ 5 := zz.2.1
theorem HV.no0 {kd no gr st ag ld : Int32} (zz : HV kd no gr st ag ld) : 0 ≤ no := zz.2.2.1
theorem HV.no1 {kd no gr st ag ld : Int32} (zz : HV kd no gr st ag ld) : no ≤ 20 := zz.2.2.2.1
theorem HV.gr0 {kd no gr st ag ld : Int32} (zz : HV kd no gr st ag ld) : 0 ≤ gr := zz.2.2.2.2.1
theorem HV.gr1 {kd no gr st ag ld : Int32} (zz : HV kd no gr st ag ld) : gr ≤ 3 := zz.2.2.2.2.2.1
theorem HV.st0 {kd no gr st ag ld : Int32} (zz : HV kd no gr st ag ld) : 0 ≤ st := zz.2.2.2.2.2.2.1
theorem HV.st1 {kd no gr st ag ld : Int32} (zz : HV kd no gr st ag ld) : st ≤ 99 := zz.2.2.2.2.2.2.2.1
theorem HV.ag0 {kd no gr st ag ld : Int32} (zz : HV kd no gr st ag ld) : 2 ≤ ag := zz.2.2.2.2.2.2.2.2.1
theorem HV.ag1 {kd no gr st ag ld : Int32} (zz : HV kd no gr st ag ld) : ag ≤ 12 := zz.2.2.2.2.2.2.2.2.2.1
theorem HV.ld0 {kd no gr st ag ld : Int32} (zz : HV kd no gr st ag ld) : 0 ≤ ld := zz.2.2.2.2.2.2.2.2.2.2.1
theorem HV.ld1 {kd no gr st ag ld : Int32} (zz : HV kd no gr st ag ld) : ld ≤ 60 := zz.2.2.2.2.2.2.2.2.2.2.2
/-- the stable: n horses (class: row of references, cells by address; reference: rows 4 to 9) -/
def RH (own : Nat → Nat) (hp : Nat → Option DE) (n : Nat) (hx hy : Int32) (row : Nat → Option Nat) (y4 y5 y6 y7 y8 y9 : Nat → Int32) : Prop := (n ≤ 10) ∧ (hx = nI n) ∧ (hy = nI n) ∧ (∀ i, i < n → ∃ a, row i = some a ∧ own a = i ∧ hp a = some (hoD (y4 i) (y7 i) (y8 i) (y5 i) (y6 i) (y9 i))) ∧ (∀ i, i < n → HV (y4 i) (y7 i) (y8 i) (y5 i) (y6 i) (y9 i))
theorem RH.le {own : Nat → Nat} {hp : Nat → Option DE} {n : Nat} {hx hy : Int32} {row : Nat → Option Nat} {y4 y5 y6 y7 y8 y9 : Nat → Int32} (zz : RH own hp n hx hy row y4 y5 y6 y7 y8 y9) : n ≤ 10 := zz.1
theorem RH.ex {own : Nat → Nat} {hp : Nat → Option DE} {n : Nat} {hx hy : Int32} {row : Nat → Option Nat} {y4 y5 y6 y7 y8 y9 : Nat → Int32} (zz : RH own hp n hx hy row y4 y5 y6 y7 y8 y9) : hx = nI n := zz.2.1
theorem RH.ey {own : Nat → Nat} {hp : Nat → Option DE} {n : Nat} {hx hy : Int32} {row : Nat → Option Nat} {y4 y5 y6 y7 y8 y9 : Nat → Int32} (zz : RH own hp n hx hy row y4 y5 y6 y7 y8 y9) : hy = nI n := zz.2.2.1
theorem RH.at' {own : Nat → Nat} {hp : Nat → Option DE} {n : Nat} {hx hy : Int32} {row : Nat → Option Nat} {y4 y5 y6 y7 y8 y9 : Nat → Int32} (zz : RH own hp n hx hy row y4 y5 y6 y7 y8 y9) : ∀ i, i < n → ∃ a, row i = some a ∧ own a = i ∧ hp a = some (hoD (y4 i) (y7 i) (y8 i) (y5 i) (y6 i) (y9 i)) := zz.2.2.2.1
theorem RH.va {own : Nat → Nat} {hp : Nat → Option DE} {n : Nat} {hx hy : Int32} {row : Nat → Option Nat} {y4 y5 y6 y7 y8 y9 : Nat → Int32} (zz : RH own hp n hx hy row y4 y5 y6 y7 y8 y9) : ∀ i, i < n → HV (y4 i) (y7 i) (y8 i) (y5 i) (y6 i) (y9 i) := zz.2.2.2.2
theorem RH.mono {own own' : Nat → Nat} {hp hp' : Nat → Option DE} {n : Nat} {hx hy : Int32} {row : Nat → Option Nat} {y4 y5 y6 y7 y8 y9 : Nat → Int32} (h : RH own hp n hx hy row y4 y5 y6 y7 y8 y9) (hk : ∀ a d, hp a = some d → own a < 10 → hp' a = some d ∧ own' a = own a) : RH own' hp' n hx hy row y4 y5 y6 y7 y8 y9 := by
  refine ⟨h.le, h.ex, h.ey, fun i hi => ?_, h.va⟩
  obtain ⟨a, h1, h2, h3⟩ := h.at' i hi
  obtain ⟨g1, g2⟩ := hk a _ h3 (by have := h.le; omega)
  exact ⟨a, h1, g2.trans h2, g1⟩
/-- pounds and spread -/
def RP (p q : Nat → Int32) (sx sy : Int32) : Prop := (∀ g, g < 4 → p g = q g) ∧ (∀ g, g < 4 → 0 ≤ q g ∧ q g ≤ 9) ∧ (sx = sy) ∧ (0 ≤ sy) ∧ (sy ≤ 3)
theorem RP.eq {p q : Nat → Int32} {sx sy : Int32} (zz : RP p q sx sy) : ∀ g, g < 4 → p g = q g := zz.1
theorem RP.p0 {p q : Nat → Int32} {sx sy : Int32} (zz : RP p q sx sy) : ∀ g, g < 4 → 0 ≤ q g ∧ q g ≤ 9 := zz.2.1
theorem RP.es {p q : Nat → Int32} {sx sy : Int32} (zz : RP p q sx sy) : sx = sy := zz.2.2.1
theorem RP.s0 {p q : Nat → Int32} {sx sy : Int32} (zz : RP p q sx sy) : 0 ≤ sy := zz.2.2.2.1
theorem RP.s1 {p q : Nat → Int32} {sx sy : Int32} (zz : RP p q sx sy) : sy ≤ 3 := zz.2.2.2.2
/-- a race -/
def RV (n : Nat) (gr da sz : Int32) (o l : Nat → Int32) : Prop := (0 ≤ gr) ∧ (gr ≤ 3) ∧ (0 ≤ da) ∧ (da ≤ 99) ∧ (2 ≤ sz) ∧ (sz ≤ 5) ∧ (∀ k, nI k < sz → k < 5 → ∃ i, i < n ∧ o k = nI i) ∧ (∀ k, nI k < sz → k < 5 → 0 ≤ l k ∧ l k ≤ 60)
theorem RV.gr0 {n : Nat} {gr da sz : Int32} {o l : Nat → Int32} (zz : RV n gr da sz o l) : 0 ≤ gr := zz.1
theorem RV.gr1 {n : Nat} {gr da sz : Int32} {o l : Nat → Int32} (zz : RV n gr da sz o l) : gr ≤ 3 := zz.2.1
theorem RV.da0 {n : Nat} {gr da sz : Int32} {o l : Nat → Int32} (zz : RV n gr da sz o l) : 0 ≤ da := zz.2.2.1
theorem RV.da1 {n : Nat} {gr da sz : Int32} {o l : Nat → Int32} (zz : RV n gr da sz o l) : da ≤ 99 := zz.2.2.2.1
theorem RV.sz0 {n : Nat} {gr da sz : Int32} {o l : Nat → Int32} (zz : RV n gr da sz o l) : 2 ≤ sz := zz.2.2.2.2.1
theorem RV.sz1 {n : Nat} {gr da sz : Int32} {o l : Nat → Int32} (zz : RV n gr da sz o l) : sz ≤ 5 := zz.2.2.2.2.2.1
theorem RV.or' {n : Nat} {gr da sz : Int32} {o l : Nat → Int32} (zz : RV n gr da sz o l) : ∀ k, nI k < sz → k < 5 → ∃ i, i < n ∧ o k = nI i := zz.2.2.2.2.2.2.1
theorem RV.le {n : Nat} {gr da sz : Int32} {o l : Nat → Int32} (zz : RV n gr da sz o l) : ∀ k, nI k < sz → k < 5 → 0 ≤ l k ∧ l k ≤ 60 := zz.2.2.2.2.2.2.2
def RR (own : Nat → Nat) (hp : Nat → Option DE) (n r : Nat) (rx ry : Int32) (row : Nat → Option Nat) (y15 y16 y17 y18 y19 : Nat → Int32) : Prop := (r ≤ 24) ∧ (rx = nI r) ∧ (ry = nI r) ∧ (∀ i, i < r → ∃ a ao al fo fl, row i = some a ∧ own a = 100 + i ∧ own ao = 200 + i ∧ own al = 300 + i ∧ hp a = some (.inl (3, [.int (y15 i), .int (y16 i), .int (y17 i), .ref ao, .ref al])) ∧ hp ao = some (.inr (5, fo)) ∧ hp al = some (.inr (5, fl)) ∧ ∀ k, k < 5 → nI k < y17 i → fo k = y18 (5 * i + k) ∧ fl k = y19 (5 * i + k)) ∧ (∀ i, i < r → RV n (y15 i) (y16 i) (y17 i) (fun k => y18 (5 * i + k)) (fun k => y19 (5 * i + k)))
theorem RR.le {own : Nat → Nat} {hp : Nat → Option DE} {n r : Nat} {rx ry : Int32} {row : Nat → Option Nat} {y15 y16 y17 y18 y19 : Nat → Int32} (zz : RR own hp n r rx ry row y15 y16 y17 y18 y19) : r ≤ 24 := zz.1
theorem RR.ex {own : Nat → Nat} {hp : Nat → Option DE} {n r : Nat} {rx ry : Int32} {row : Nat → Option Nat} {y15 y16 y17 y18 y19 : Nat → Int32} (zz : RR own hp n r rx ry row y15 y16 y17 y18 y19) : rx = nI r := zz.2.1
theorem RR.ey {own : Nat → Nat} {hp : Nat → Option DE} {n r : Nat} {rx ry : Int32} {row : Nat → Option Nat} {y15 y16 y17 y18 y19 : Nat → Int32} (zz : RR own hp n r rx ry row y15 y16 y17 y18 y19) : ry = nI r := zz.2.2.1
theorem RR.at' {own : Nat → Nat} {hp : Nat → Option DE} {n r : Nat} {rx ry : Int32} {row : Nat → Option Nat} {y15 y16 y17 y18 y19 : Nat → Int32} (zz : RR own hp n r rx ry row y15 y16 y17 y18 y19) : ∀ i, i < r → ∃ a ao al fo fl, row i = some a ∧ own a = 100 + i ∧ own ao = 200 + i ∧ own al = 300 + i ∧ hp a = some (.inl (3, [.int (y15 i), .int (y16 i), .int (y17 i), .ref ao, .ref al])) ∧ hp ao = some (.inr (5, fo)) ∧ hp al = some (.inr (5, fl)) ∧ ∀ k, k < 5 → nI k < y17 i → fo k = y18 (5 * i + k) ∧ fl k = y19 (5 * i + k) := zz.2.2.2.1
theorem RR.va {own : Nat → Nat} {hp : Nat → Option DE} {n r : Nat} {rx ry : Int32} {row : Nat → Option Nat} {y15 y16 y17 y18 y19 : Nat → Int32} (zz : RR own hp n r rx ry row y15 y16 y17 y18 y19) : ∀ i, i < r → RV n (y15 i) (y16 i) (y17 i) (fun k => y18 (5 * i + k)) (fun k => y19 (5 * i + k)) := zz.2.2.2.2
theorem RR.mono {own own' : Nat → Nat} {hp hp' : Nat → Option DE} {n n' r : Nat} {rx ry : Int32} {row : Nat → Option Nat} {y15 y16 y17 y18 y19 : Nat → Int32} (h : RR own hp n r rx ry row y15 y16 y17 y18 y19) (hn : n ≤ n') (hk : ∀ a d, hp a = some d → 100 ≤ own a → own a < 400 → hp' a = some d ∧ own' a = own a) : RR own' hp' n' r rx ry row y15 y16 y17 y18 y19 := by
  refine ⟨h.le, h.ex, h.ey, fun i hi => ?_, fun i hi => ?_⟩
  · obtain ⟨a, ao, al, fo, fl, h1, h2, h3, h4, h5, h6, h7, h8⟩ := h.at' i hi
    have := h.le
    obtain ⟨g1, g2⟩ := hk a _ h5 (by omega) (by omega)
    obtain ⟨g3, g4⟩ := hk ao _ h6 (by omega) (by omega)
    obtain ⟨g5, g6⟩ := hk al _ h7 (by omega) (by omega)
    exact ⟨a, ao, al, fo, fl, h1, g2.trans h2, g4.trans h3, g6.trans h4, g1, g3, g5, h8⟩
  · have v := h.va i hi
    refine ⟨v.gr0, v.gr1, v.da0, v.da1, v.sz0, v.sz1, fun k h1 h2 => ?_, v.le⟩
    obtain ⟨j, hj, e⟩ := v.or' k h1 h2
    exact ⟨j, by omega, e⟩
/-- the tape -/
def RA (sx sy : Int32) (p q : Nat → Int32) : Prop := (∃ t : Nat, t ≤ 160 ∧ sx = nI t ∧ sy = nI t ∧ ∀ i, i < t → p i = q i ∧ 0 ≤ q i ∧ q i ≤ 255)
theorem RA.ex {sx sy : Int32} {p q : Nat → Int32} (zz : RA sx sy p q) : ∃ t : Nat, t ≤ 160 ∧ sx = nI t ∧ sy = nI t ∧ ∀ i, i < t → p i = q i ∧ 0 ≤ q i ∧ q i ≤ 255 := zz
/-- the image (class: cells 11 to 15; reference: 48 to 52 and rows 22 to 25); h horses and r races there are -/
def RI (h r t : Nat) (x11 : Nat → Int32) (x12 x13 x14 x15 : Nat → Int32) (y48 y49 y50 y51 y52 : Int32) (y22 y23 y24 y25 : Nat → Int32) : Prop := (x11 0 = y48) ∧ (y48 = 0 ∨ (∃ ih ir iu : Nat, ih ≤ h ∧ ir ≤ r ∧ iu < t ∧ x11 1 = nI ih ∧ y49 = nI ih ∧ x11 2 = nI ir ∧ y51 = nI ir ∧ x11 3 = nI iu ∧ y52 = nI iu ∧ x11 4 = y50 ∧ 0 ≤ y50 ∧ y50 ≤ 3 ∧ (∀ g, g < 4 → x12 g = y25 g ∧ 0 ≤ y25 g ∧ y25 g ≤ 9) ∧ ∀ i, i < ih → x13 i = y22 i ∧ x14 i = y23 i ∧ x15 i = y24 i ∧ 0 ≤ y22 i ∧ y22 i ≤ 99 ∧ 2 ≤ y23 i ∧ y23 i ≤ 12 ∧ 0 ≤ y24 i ∧ y24 i ≤ 60))
theorem RI.b {h r t : Nat} {x11 : Nat → Int32} {x12 x13 x14 x15 : Nat → Int32} {y48 y49 y50 y51 y52 : Int32} {y22 y23 y24 y25 : Nat → Int32} (zz : RI h r t x11 x12 x13 x14 x15 y48 y49 y50 y51 y52 y22 y23 y24 y25) : x11 0 = y48 := zz.1
theorem RI.k {h r t : Nat} {x11 : Nat → Int32} {x12 x13 x14 x15 : Nat → Int32} {y48 y49 y50 y51 y52 : Int32} {y22 y23 y24 y25 : Nat → Int32} (zz : RI h r t x11 x12 x13 x14 x15 y48 y49 y50 y51 y52 y22 y23 y24 y25) : y48 = 0 ∨ (∃ ih ir iu : Nat, ih ≤ h ∧ ir ≤ r ∧ iu < t ∧ x11 1 = nI ih ∧ y49 = nI ih ∧ x11 2 = nI ir ∧ y51 = nI ir ∧ x11 3 = nI iu ∧ y52 = nI iu ∧ x11 4 = y50 ∧ 0 ≤ y50 ∧ y50 ≤ 3 ∧ (∀ g, g < 4 → x12 g = y25 g ∧ 0 ≤ y25 g ∧ y25 g ≤ 9) ∧ ∀ i, i < ih → x13 i = y22 i ∧ x14 i = y23 i ∧ x15 i = y24 i ∧ 0 ≤ y22 i ∧ y22 i ≤ 99 ∧ 2 ≤ y23 i ∧ y23 i ≤ 12 ∧ 0 ≤ y24 i ∧ y24 i ≤ 60) := zz.2
/-- the sheets (class: row 10; reference: 26 to 29) -/
def RS (own : Nat → Nat) (hp : Nat → Option DE) (row : Nat → Option Nat) (y26 y27 y28 y29 : Nat → Int32) : Prop := (∀ s, s < 4 → (y26 s = 0 ∧ row s = none) ∨ (y26 s = 1 ∧ ∃ a ai m f, row s = some a ∧ own a = 800 + s ∧ own ai = 900 + s ∧ hp a = some (.inl (5, [.int (y27 s), .ref ai])) ∧ hp ai = some (.inr (m, f)) ∧ m ≤ 40 ∧ y28 s = nI m ∧ 0 ≤ y27 s ∧ y27 s ≤ 2 ∧ ∀ k, k < m → f k = y29 (40 * s + k)))
theorem RS.at' {own : Nat → Nat} {hp : Nat → Option DE} {row : Nat → Option Nat} {y26 y27 y28 y29 : Nat → Int32} (zz : RS own hp row y26 y27 y28 y29) : ∀ s, s < 4 → (y26 s = 0 ∧ row s = none) ∨ (y26 s = 1 ∧ ∃ a ai m f, row s = some a ∧ own a = 800 + s ∧ own ai = 900 + s ∧ hp a = some (.inl (5, [.int (y27 s), .ref ai])) ∧ hp ai = some (.inr (m, f)) ∧ m ≤ 40 ∧ y28 s = nI m ∧ 0 ≤ y27 s ∧ y27 s ≤ 2 ∧ ∀ k, k < m → f k = y29 (40 * s + k)) := zz
theorem RS.mono {own own' : Nat → Nat} {hp hp' : Nat → Option DE} {row : Nat → Option Nat} {y26 y27 y28 y29 : Nat → Int32} (h : RS own hp row y26 y27 y28 y29) (hk : ∀ a d, hp a = some d → 800 ≤ own a → own a < 1000 → hp' a = some d ∧ own' a = own a) : RS own' hp' row y26 y27 y28 y29 := by
  intro s hs
  rcases h.at' s hs with q | ⟨e, a, ai, m, f, h1, h2, h3, h4, h5, h6⟩
  · exact Or.inl q
  · obtain ⟨g1, g2⟩ := hk a _ h4 (by omega) (by omega)
    obtain ⟨g3, g4⟩ := hk ai _ h5 (by omega) (by omega)
    exact Or.inr ⟨e, a, ai, m, f, h1, g2.trans h2, g4.trans h3, g1, g3, h6⟩
