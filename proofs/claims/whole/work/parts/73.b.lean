/-! tokens -/
def XA (x x' : XS) : Prop := (∀ k, k ≠ 4 → x'.1 k = x.1 k) ∧ x'.1 4 1 = x.1 4 1 ∧ x'.2 = x.2
theorem XA.rf (x : XS) : XA x x := ⟨fun _ _ => rfl, rfl, rfl⟩
theorem XA.tr {a b c : XS} (h : XA a b) (g : XA b c) : XA a c := ⟨fun k q => (g.1 k q).trans (h.1 k q), g.2.1.trans h.2.1, g.2.2.trans h.2.2⟩
theorem XA.S (x : XS) {j : Nat} (v : Int32) (h : j ≠ 1) : XA x (xsS x 4 j v) := ⟨fun _ q => up2_ne q, if_neg (Ne.symm h), rfl⟩
def YA (y y' : MS) : Prop := y'.2.1 = y.2.1 ∧ ∀ i, i ≠ 24 → i ≠ 25 → i ≠ 27 → y'.1 0 i = y.1 0 i
theorem YA.rf (y : MS) : YA y y := ⟨rfl, fun _ _ _ _ => rfl⟩
theorem YA.tr {a b c : MS} (h : YA a b) (g : YA b c) : YA a c := ⟨g.1.trans h.1, fun i p q r => (g.2 i p q r).trans (h.2 i p q r)⟩
theorem YA.S (y : MS) {j : Nat} (v : Int32) (h : j = 24 ∨ j = 25 ∨ j = 27) : YA y (msS y 0 j v) := ⟨rfl, fun i p q r => if_neg (by omega)⟩
theorem YA.L (y : MS) (v : Int64) : YA y (msL y 0 26 v) := ⟨rfl, fun _ _ _ _ => rfl⟩
/-- the bytes that are read, on both sides -/
def BX (f : Nat → Int32) (M : Nat) (x : XS) : Prop := (x.1 4 1 = nI M) ∧ (∀ i, i < M → x.2.1 5 i = f i)
theorem BX.m {f : Nat → Int32} {M : Nat} {x : XS} (zz : BX f M x) : x.1 4 1 = nI M := zz.1
theorem BX.b {f : Nat → Int32} {M : Nat} {x : XS} (zz : BX f M x) : ∀ i, i < M → x.2.1 5 i = f i := zz.2
def BY (f : Nat → Int32) (M base : Nat) (y : MS) : Prop := (y.1 0 23 = nI M) ∧ (y.1 0 22 = nI base) ∧ (∀ i, i < M → y.2.1 1 (base + i) = f i) ∧ (base + M ≤ 960)
theorem BY.m {f : Nat → Int32} {M base : Nat} {y : MS} (zz : BY f M base y) : y.1 0 23 = nI M := zz.1
theorem BY.s {f : Nat → Int32} {M base : Nat} {y : MS} (zz : BY f M base y) : y.1 0 22 = nI base := zz.2.1
theorem BY.b {f : Nat → Int32} {M base : Nat} {y : MS} (zz : BY f M base y) : ∀ i, i < M → y.2.1 1 (base + i) = f i := zz.2.2.1
theorem BY.le {f : Nat → Int32} {M base : Nat} {y : MS} (zz : BY f M base y) : base + M ≤ 960 := zz.2.2.2
theorem BX.mv {f : Nat → Int32} {M : Nat} {x x' : XS} (h : BX f M x) (g : XA x x') : BX f M x' := ⟨g.2.1.trans h.m, fun i hi => by rw [g.2.2]; exact h.b i hi⟩
theorem BY.mv {f : Nat → Int32} {M base : Nat} {y y' : MS} (h : BY f M base y) (g : YA y y') : BY f M base y' := ⟨(g.2 23 (by decide) (by decide) (by decide)).trans h.m, (g.2 22 (by decide) (by decide) (by decide)).trans h.s, fun i hi => by rw [g.1]; exact h.b i hi, h.le⟩
def bt (f : Nat → Int32) (M p : Nat) : Int32 := if p < M then f p else -1
theorem byte9 {f : Nat → Int32} {M base : Nat} {y : MS} (h : BY f M base y) (hM : M ≤ 160) {p : Nat} (hp : p ≤ M) : fX9_byteAt y (nI p) = some (bt f M p) := by
  have hle := h.le
  unfold fX9_byteAt bt
  rw [h.m, h.s]
  by_cases q : p < M
  · rw [if_neg (by rw [nI_lei (by omega) (by omega)]; omega), if_pos q, nI_ad, if_pos (ib_nI (by omega) (by decide)), cl_nI (by omega), h.b p q]
  · rw [if_pos ((nI_lei (by omega) (by omega)).mpr (by omega)), if_neg q]
def isBl (b : Int32) : Prop := b = 32 ∨ b = 10
theorem blank8 (b : Int32) : (isBl b ∧ fX6_isBlank b = some true) ∨ (¬ isBl b ∧ fX6_isBlank b = some false) := by
  unfold fX6_isBlank isBl
  by_cases q : b = 32
  · rw [if_pos q]
    exact Or.inl ⟨Or.inl q, rfl⟩
  · rw [if_neg q]
    by_cases q2 : b = 10
    · rw [if_pos q2]
      exact Or.inl ⟨Or.inr q2, rfl⟩
    · rw [if_neg q2]
      exact Or.inr ⟨fun z => z.elim q q2, rfl⟩
theorem blanks {f : Nat → Int32} {M base : Nat} (hM : M ≤ 160) : ∀ (k p fu gu : Nat) (x : XS) (y : MS), p + k = M → k < fu → k < gu → BX f M x → BY f M base y → x.1 4 2 = nI p → y.1 0 27 = nI p → ∃ q x' y', p ≤ q ∧ q ≤ M ∧ LX6_advance_8 fu x = some x' ∧ LX9_next_0 gu y = some y' ∧ XA x x' ∧ YA y y' ∧ x'.1 4 2 = nI q ∧ y'.1 0 27 = nI q := by
  intro k
  induction k with
  | zero =>
    intro p fu gu x y hk hf hg hx hy ex ey
    obtain ⟨fu, rfl⟩ : ∃ z, fu = z + 1 := ⟨fu - 1, by omega⟩
    obtain ⟨gu, rfl⟩ : ∃ z, gu = z + 1 := ⟨gu - 1, by omega⟩
    have e : p = M := by omega
    subst e
    have eb : bt f p p = -1 := if_neg (Nat.lt_irrefl p)
    refine ⟨p, x, y, Nat.le_refl _, Nat.le_refl _, ?_, ?_, XA.rf x, YA.rf y, ex, ey⟩
    · show BX6_advance_8 _ x = _
      unfold BX6_advance_8
      rw [hx.m, ex, if_pos (Int32.le_refl _)]
    · show BX9_next_0 _ y = _
      unfold BX9_next_0
      rw [ey, byte9 hy hM (Nat.le_refl _), eb, Option.bind_some, if_neg (by decide), Option.bind_some, if_neg (by decide)]
  | succ k ih =>
    intro p fu gu x y hk hf hg hx hy ex ey
    obtain ⟨fu, rfl⟩ : ∃ z, fu = z + 1 := ⟨fu - 1, by omega⟩
    obtain ⟨gu, rfl⟩ : ∃ z, gu = z + 1 := ⟨gu - 1, by omega⟩
    have hp : p < M := by omega
    have eb : bt f M p = f p := if_pos hp
    have hlt : ¬ nI M ≤ nI p := by
      rw [nI_lei (by omega) (by omega)]
      omega
    have e8 : LX6_advance_8 (fu + 1) x = BX6_advance_8 (LX6_advance_8 fu) x := rfl
    have e9 : LX9_next_0 (gu + 1) y = BX9_next_0 (LX9_next_0 gu) y := rfl
    rw [e8, e9]
    unfold BX6_advance_8 BX9_next_0
    rw [hx.m, ex, ey, if_neg hlt, byte9 hy hM (by omega), eb, if_pos (ib_nI (by omega) (by decide)), cl_nI (by omega), hx.b p hp]
    simp only [Option.bind_some, lt, nI_1]
    rcases blank8 (f p) with ⟨c, e⟩ | ⟨c, e⟩
    · rw [e, Option.bind_some, if_pos rfl]
      obtain ⟨q, x', y', a1, a2, a3, a4, a5, a6, a7, a8⟩ := ih (p + 1) fu gu (xsS x 4 2 (nI (p + 1))) (msS y 0 27 (nI (p + 1))) (by omega) (by omega) (by omega) (hx.mv (XA.S x _ (by decide))) (hy.mv (YA.S y _ (Or.inr (Or.inr rfl)))) rfl rfl
      refine ⟨q, x', y', by omega, a2, a3, ?_, (XA.S x _ (by decide)).tr a5, (YA.S y _ (Or.inr (Or.inr rfl))).tr a6, a7, a8⟩
      by_cases q1 : f p = 32
      · rw [if_pos q1]
        exact a4
      · rw [if_neg q1, if_pos (c.resolve_left q1)]
        exact a4
    · rw [e, Option.bind_some, if_neg (by decide), if_neg (fun z => c (Or.inl z)), if_neg (fun z => c (Or.inr z))]
      exact ⟨p, x, y, Nat.le_refl _, by omega, rfl, rfl, XA.rf x, YA.rf y, ex, ey⟩
/-! words -/
def isLe (b : Int32) : Prop := 97 ≤ b ∧ b ≤ 122
theorem letter8 (b : Int32) : (isLe b ∧ fX6_isLetter b = some true ∧ fX9_in b.toInt64 97 122 = some true) ∨ (¬ isLe b ∧ fX6_isLetter b = some false ∧ fX9_in b.toInt64 97 122 = some false) := by
  rw [in9i (lo := 97) (hi := 122) (l := 97) (h := 122) rfl rfl]
  unfold fX6_isLetter isLe
  by_cases q : b < 97
  · rw [if_pos q, decide_eq_false (fun z => absurd q (Int32.not_lt.mpr z.1))]
    exact Or.inr ⟨fun z => absurd q (Int32.not_lt.mpr z.1), rfl, rfl⟩
  · rw [if_neg q]
    by_cases q2 : 122 < b
    · rw [if_pos q2, decide_eq_false (fun z => absurd q2 (Int32.not_lt.mpr z.2))]
      exact Or.inr ⟨fun z => absurd q2 (Int32.not_lt.mpr z.2), rfl, rfl⟩
    · have c : 97 ≤ b ∧ b ≤ 122 := ⟨Int32.not_lt.mp q, Int32.not_lt.mp q2⟩
      rw [if_neg q2, decide_eq_true c]
      exact Or.inl ⟨c, rfl, rfl⟩
def isDi (b : Int32) : Prop := 48 ≤ b ∧ b ≤ 57
theorem digit8 (b : Int32) : (isDi b ∧ fX6_isDigit b = some true ∧ fX9_in b.toInt64 48 57 = some true) ∨ (¬ isDi b ∧ fX6_isDigit b = some false ∧ fX9_in b.toInt64 48 57 = some false) := by
  rw [in9i (lo := 48) (hi := 57) (l := 48) (h := 57) rfl rfl]
  unfold fX6_isDigit isDi
  by_cases q : b < 48
  · rw [if_pos q, decide_eq_false (fun z => absurd q (Int32.not_lt.mpr z.1))]
    exact Or.inr ⟨fun z => absurd q (Int32.not_lt.mpr z.1), rfl, rfl⟩
  · rw [if_neg q]
    by_cases q2 : 57 < b
    · rw [if_pos q2, decide_eq_false (fun z => absurd q2 (Int32.not_lt.mpr z.2))]
      exact Or.inr ⟨fun z => absurd q2 (Int32.not_lt.mpr z.2), rfl, rfl⟩
    · have c : 48 ≤ b ∧ b ≤ 57 := ⟨Int32.not_lt.mp q, Int32.not_lt.mp q2⟩
      rw [if_neg q2, decide_eq_true c]
      exact Or.inl ⟨c, rfl, rfl⟩
theorem le_nat {b : Int32} (h : isLe b) : ∃ k, b = nI k ∧ 97 ≤ k ∧ k ≤ 122 := by
  obtain ⟨k, hk, e⟩ := ix_of (n := 123) (by decide) (Int32.le_trans (by decide) h.1) (Int32.lt_of_le_of_lt h.2 (by decide))
  refine ⟨k, e, ?_, by omega⟩
  have h1 := h.1
  rw [e] at h1
  exact (nI_lei (a := 97) (by decide) (by omega)).mp h1
theorem di_nat {b : Int32} (h : isDi b) : ∃ k, b = nI k ∧ 48 ≤ k ∧ k ≤ 57 := by
  obtain ⟨k, hk, e⟩ := ix_of (n := 58) (by decide) (Int32.le_trans (by decide) h.1) (Int32.lt_of_le_of_lt h.2 (by decide))
  refine ⟨k, e, ?_, by omega⟩
  have h1 := h.1
  rw [e] at h1
  exact (nI_lei (a := 48) (by decide) (by omega)).mp h1
/-- a word's letters, the last one first, and their worth -/
def dg (b : Int32) : Nat := b.toNatClampNeg - 96
def rr (f : Nat → Int32) (q : Nat) : Nat → List Nat
  | 0 => []
  | j + 1 => dg (f (q + j)) :: rr f q j
def hr : List Nat → Nat
  | [] => 0
  | d :: r => 27 * hr r + d
theorem rr_len (f : Nat → Int32) (q : Nat) : ∀ n, (rr f q n).length = n := by
  intro n
  induction n with
  | zero => rfl
  | succ n ih =>
    show (rr f q n).length + 1 = _
    rw [ih]
theorem hr_inj : ∀ (a b : List Nat), (∀ d, d ∈ a → 1 ≤ d ∧ d ≤ 26) → (∀ d, d ∈ b → 1 ≤ d ∧ d ≤ 26) → hr a = hr b → a = b := by
  intro a
  induction a with
  | nil =>
    intro b _ hb h
    cases b with
    | nil => rfl
    | cons d r =>
      have := hb d List.mem_cons_self
      have h : 0 = 27 * hr r + d := h
      omega
  | cons e s ih =>
    intro b ha hb h
    have he := ha e List.mem_cons_self
    cases b with
    | nil =>
      have h : 27 * hr s + e = 0 := h
      omega
    | cons d r =>
      have hd := hb d List.mem_cons_self
      have h : 27 * hr s + e = 27 * hr r + d := h
      have h1 : e = d := by omega
      have h2 : hr s = hr r := by omega
      rw [h1, ih r (fun z hz => ha z (List.mem_cons_of_mem _ hz)) (fun z hz => hb z (List.mem_cons_of_mem _ hz)) h2]
theorem dg_le {b : Int32} (h : isLe b) : 1 ≤ dg b ∧ dg b ≤ 26 := by
  obtain ⟨k, rfl, k1, k2⟩ := le_nat h
  unfold dg
  rw [cl_nI (by omega)]
  omega
theorem dg_inj {a b : Int32} (ha : isLe a) (hb : isLe b) (h : dg a = dg b) : a = b := by
  obtain ⟨k, rfl, k1, k2⟩ := le_nat ha
  obtain ⟨l, rfl, l1, l2⟩ := le_nat hb
  unfold dg at h
  rw [cl_nI (by omega), cl_nI (by omega)] at h
  rw [show k = l by omega]
theorem rr_mem {f : Nat → Int32} {q : Nat} : ∀ n, (∀ j, j < n → isLe (f (q + j))) → ∀ d, d ∈ rr f q n → 1 ≤ d ∧ d ≤ 26 := by
  intro n
  induction n with
  | zero => intro _ d hd; cases hd
  | succ n ih =>
    intro h d hd
    rcases List.mem_cons.mp hd with rfl | hd
    · exact dg_le (h n (Nat.lt_succ_self n))
    · exact ih (fun j hj => h j (by omega)) d hd
theorem rr_eq {f g : Nat → Int32} {q p : Nat} : ∀ n, (∀ j, j < n → isLe (f (q + j))) → (∀ j, j < n → isLe (g (p + j))) → (rr f q n = rr g p n ↔ ∀ j, j < n → f (q + j) = g (p + j)) := by
  intro n
  induction n with
  | zero => intro _ _; exact ⟨fun _ j hj => absurd hj (Nat.not_lt_zero j), fun _ => rfl⟩
  | succ n ih =>
    intro hf hg
    have i := ih (fun j hj => hf j (by omega)) (fun j hj => hg j (by omega))
    constructor
    · intro h j hj
      have h : dg (f (q + n)) :: rr f q n = dg (g (p + n)) :: rr g p n := h
      injection h with h1 h2
      by_cases e : j = n
      · rw [e]
        exact dg_inj (hf n (Nat.lt_succ_self n)) (hg n (Nat.lt_succ_self n)) h1
      · exact i.mp h2 j (by omega)
    · intro h
      show dg (f (q + n)) :: rr f q n = dg (g (p + n)) :: rr g p n
      rw [i.mpr (fun j hj => h j (by omega)), h n (Nat.lt_succ_self n)]
theorem hr_lt : ∀ r : List Nat, (∀ d, d ∈ r → d ≤ 26) → hr r < 27 ^ r.length := by
  intro r
  induction r with
  | nil => intro _; decide
  | cons d r ih =>
    intro h
    have h1 := ih (fun z hz => h z (List.mem_cons_of_mem _ hz))
    have h2 := h d List.mem_cons_self
    show 27 * hr r + d < 27 ^ (r.length + 1)
    rw [Nat.pow_succ]
    omega
/-- a word's worth as the reference has it -/
def wW (f : Nat → Int32) (q n : Nat) : Int64 := if n ≤ 8 then nL (hr (rr f q n)) else -1
theorem word_loop {f : Nat → Int32} {M base q : Nat} (hM : M ≤ 160) : ∀ (k j fu gu : Nat) (x : XS) (y : MS), q + j + k = M → k < fu → k < gu → BX f M x → BY f M base y → (∀ i, i < j → isLe (f (q + i))) → x.1 4 3 = nI (q + j) → y.1 0 27 = nI (q + j) → y.2.2 0 26 = wW f q j → ∃ n x' y', j ≤ n ∧ q + n ≤ M ∧ (q + n < M → ¬ isLe (f (q + n))) ∧ LX6_readWord_0 fu x = some x' ∧ LX9_next_107 gu (nI j) y = some y' ∧ XA x x' ∧ YA y y' ∧ x'.1 4 2 = x.1 4 2 ∧ x'.1 4 3 = nI (q + n) ∧ y'.1 0 27 = nI (q + n) ∧ y'.1 0 25 = y.1 0 25 ∧ y'.1 0 24 = y.1 0 24 ∧ (∀ i, i < n → isLe (f (q + i))) ∧ y'.2.2 0 26 = wW f q n := by
  intro k
  induction k with
  | zero =>
    intro j fu gu x y hk hf hg hx hy hl ex ey ew
    obtain ⟨fu, rfl⟩ : ∃ z, fu = z + 1 := ⟨fu - 1, by omega⟩
    obtain ⟨gu, rfl⟩ : ∃ z, gu = z + 1 := ⟨gu - 1, by omega⟩
    have eb : bt f M (q + j) = -1 := if_neg (by omega)
    refine ⟨j, x, y, Nat.le_refl _, by omega, fun z => by omega, ?_, ?_, XA.rf x, YA.rf y, rfl, ex, ey, rfl, rfl, hl, ew⟩
    · show BX6_readWord_0 _ x = _
      unfold BX6_readWord_0
      rw [hx.m, ex, if_pos ((nI_lei (by omega) (by omega)).mpr (by omega))]
    · show BX9_next_107 _ _ y = _
      unfold BX9_next_107
      rw [ey, byte9 hy hM (by omega), eb, Option.bind_some, show fX9_in (-1 : Int32).toInt64 97 122 = some false from rfl, Option.bind_some, if_neg (by decide)]
  | succ k ih =>
    intro j fu gu x y hk hf hg hx hy hl ex ey ew
    obtain ⟨fu, rfl⟩ : ∃ z, fu = z + 1 := ⟨fu - 1, by omega⟩
    obtain ⟨gu, rfl⟩ : ∃ z, gu = z + 1 := ⟨gu - 1, by omega⟩
    have hp : q + j < M := by omega
    have eb : bt f M (q + j) = f (q + j) := if_pos hp
    have hlt : ¬ nI M ≤ nI (q + j) := by
      rw [nI_lei (by omega) (by omega)]
      omega
    have e8 : LX6_readWord_0 (fu + 1) x = BX6_readWord_0 (LX6_readWord_0 fu) x := rfl
    have e9 : LX9_next_107 (gu + 1) (nI j) y = BX9_next_107 (LX9_next_107 gu) (nI j) y := rfl
    rw [e8, e9]
    unfold BX6_readWord_0 BX9_next_107
    rw [hx.m, ex, ey, if_neg hlt, byte9 hy hM (by omega), eb, if_pos (ib_nI (by omega) (by decide)), cl_nI (by omega), hx.b (q + j) hp]
    simp only [Option.bind_some, lt, nI_1]
    rcases letter8 (f (q + j)) with ⟨c, e1, e2⟩ | ⟨c, e1, e2⟩
    · rw [e1, e2, Option.bind_some, Option.bind_some, if_pos rfl, if_pos rfl]
      obtain ⟨ch, ec, c1, c2⟩ := le_nat c
      have hdg : dg (f (q + j)) = ch - 96 := by
        unfold dg
        rw [ec, cl_nI (by omega)]
      have hmem := rr_mem (f := f) (q := q) j hl
      have hl' : ∀ i, i < j + 1 → isLe (f (q + i)) := fun i hi => by
        by_cases z : i = j
        · rw [z]; exact c
        · exact hl i (by omega)
      have step : ∀ y1 : MS, YA y y1 → y1.1 0 25 = y.1 0 25 → y1.1 0 24 = y.1 0 24 → y1.1 0 27 = nI (q + j + 1) → y1.2.2 0 26 = wW f q (j + 1) → ∃ n x' y', j ≤ n ∧ q + n ≤ M ∧ (q + n < M → ¬ isLe (f (q + n))) ∧ LX6_readWord_0 fu (xsS x 4 3 (nI (q + j + 1))) = some x' ∧ LX9_next_107 gu (nI (j + 1)) y1 = some y' ∧ XA x x' ∧ YA y y' ∧ x'.1 4 2 = x.1 4 2 ∧ x'.1 4 3 = nI (q + n) ∧ y'.1 0 27 = nI (q + n) ∧ y'.1 0 25 = y.1 0 25 ∧ y'.1 0 24 = y.1 0 24 ∧ (∀ i, i < n → isLe (f (q + i))) ∧ y'.2.2 0 26 = wW f q n := by
        intro y1 h1 h25 h24 h2 h3
        obtain ⟨n, x', y', a1, a2, a3, a4, a5, a6, a7, a8, a9, a10, a11, a12, a13, a14⟩ := ih (j + 1) fu gu (xsS x 4 3 (nI (q + j + 1))) y1 (by omega) (by omega) (by omega) (hx.mv (XA.S x _ (by decide))) (hy.mv h1) hl' rfl h2 h3
        exact ⟨n, x', y', by omega, a2, a3, a4, a5, (XA.S x _ (by decide)).tr a6, h1.tr a7, a8, a9, a10, a11.trans h25, a12.trans h24, a13, a14⟩
      by_cases c8 : (8 : Int32) ≤ nI j
      · have j8 : 8 ≤ j := (nI_lei (a := 8) (by decide) (by omega)).mp c8
        rw [if_pos c8]
        have en : (msL y 0 26 (-1)).1 0 27 = nI (q + j) := ey
        simp only [en, nI_1]
        refine step _ ((YA.L y _).tr (YA.S _ _ (Or.inr (Or.inr rfl)))) rfl rfl rfl ?_
        show (-1 : Int64) = wW f q (j + 1)
        unfold wW
        rw [if_neg (by omega)]
      · have j8 : j < 8 := by
          rw [show (8 : Int32) = nI 8 from rfl, nI_lei (by decide) (by omega)] at c8
          omega
        have en : ∀ v, (msL y 0 26 v).1 0 27 = nI (q + j) := fun _ => ey
        rw [if_neg c8]
        simp only [en, nI_1]
        have hlt2 := hr_lt (rr f q j) (fun d hd => (hmem d hd).2)
        rw [rr_len] at hlt2
        have hp8 : 27 ^ j ≤ 27 ^ 8 := Nat.pow_le_pow_right (by decide) (by omega)
        have e27 : (27 : Nat) ^ 8 = 282429536481 := by decide
        refine step _ ((YA.L y _).tr (YA.S _ _ (Or.inr (Or.inr rfl)))) rfl rfl rfl ?_
        show ((27 * y.2.2 0 26) + (f (q + j)).toInt64) - 96 = wW f q (j + 1)
        rw [ew]
        unfold wW
        rw [if_pos (by omega), if_pos (by omega), ec, nL_of (by omega), show (27 : Int64) = nL 27 from rfl, nL_ml, nL_ad, show (96 : Int64) = nL 96 from rfl, nL_sb (by omega)]
        show _ = nL (27 * hr (rr f q j) + dg (f (q + j)))
        rw [hdg]
        congr 1
        omega
    · rw [e1, e2, Option.bind_some, Option.bind_some, if_neg (by decide), if_neg (by decide)]
      exact ⟨j, x, y, Nat.le_refl _, by omega, fun _ => c, rfl, rfl, XA.rf x, YA.rf y, rfl, ex, ey, rfl, rfl, hl, ew⟩
