/-! what stands for an expression -/
def pk : List Int32 → Nat → Nat
  | [], d => d
  | c :: L, d => max d (pk L (dps c d))
theorem pk_app : ∀ (a b : List Int32) (d : Nat), pk (a ++ b) d = max (pk a d) (pk b (dpt a d)) := by
  intro a
  induction a with
  | nil =>
    intro b d
    show pk b d = max d (pk b d)
    have : d ≤ pk b d := by
      cases b with
      | nil => exact Nat.le_refl _
      | cons c b => exact Nat.le_max_left _ _
    omega
  | cons c a ih =>
    intro b d
    show max d (pk (a ++ b) (dps c d)) = max (max d (pk a (dps c d))) (pk b (dpt a (dps c d)))
    rw [ih]
    omega
theorem pk_few : ∀ (L : List Int32) (d k : Nat), dpt (L.take k) d ≤ pk L d := by
  intro L
  induction L with
  | nil =>
    intro d k
    cases k <;> exact Nat.le_refl _
  | cons c L ih =>
    intro d k
    cases k with
    | zero => exact Nat.le_max_left _ _
    | succ k => exact Nat.le_trans (ih (dps c d) k) (Nat.le_max_right _ _)
theorem evl_app (env : Nat → Int32) (a b st : List Int32) : evl env (a ++ b) st = evl env b (evl env a st) := List.foldl_append
theorem dpt_app (a b : List Int32) (d : Nat) : dpt (a ++ b) d = dpt b (dpt a d) := List.foldl_append
def GC (env : Nat → Int32) (c : List Int32) (v : Int32) (N : Nat) : Prop := (∀ st, evl env c st = v :: st) ∧ (∀ d, dpt c d = d + 1) ∧ ∀ d, pk c d ≤ d + N
theorem GC.up {env : Nat → Int32} {c : List Int32} {v : Int32} {N K : Nat} (h : GC env c v K) (hk : K ≤ N) : GC env c v N := ⟨h.1, h.2.1, fun d => Nat.le_trans (h.2.2 d) (by omega)⟩
theorem GC.num (env : Nat → Int32) {v : Nat} (hv : v < 2 ^ 31) : GC env [nI v] (nI v) 1 := by
  have h0 : (0 : Int32) ≤ nI v := (nI_lei (a := 0) (by decide) hv).mpr (Nat.zero_le _)
  refine ⟨fun st => ?_, fun d => ?_, fun d => ?_⟩
  · show stp env (nI v) st = _
    unfold stp
    rw [if_pos h0]
  · show dps (nI v) d = _
    unfold dps
    rw [if_pos h0]
  · show max d (dps (nI v) d) ≤ _
    unfold dps
    rw [if_pos h0]
    omega
theorem GC.name (env : Nat → Int32) {t : Int32} {k : Nat} (h0 : ¬ 0 ≤ t) (h1 : -6 ≤ t) (hk : (-1 - t).toNatClampNeg = k) : GC env [t] (env k) 1 := by
  refine ⟨fun st => ?_, fun d => ?_, fun d => ?_⟩
  · show stp env t st = _
    unfold stp
    rw [if_neg h0, if_pos h1, hk]
  · show dps t d = _
    unfold dps
    rw [if_neg h0, if_pos h1]
  · show max d (dps t d) ≤ _
    unfold dps
    rw [if_neg h0, if_pos h1]
    omega
def bop (t : Int32) : Prop := t = -14 ∨ t = -15 ∨ t = -21 ∨ t = -22 ∨ t = -23 ∨ t = -24 ∨ t = -25
theorem bop_is {t : Int32} (h : bop t) : (¬ 0 ≤ t) ∧ (¬ -6 ≤ t) ∧ ¬ (t = -16 ∨ t = -26) := by
  unfold bop at h
  rcases h with rfl | rfl | rfl | rfl | rfl | rfl | rfl <;> decide
theorem GC.bin {env : Nat → Int32} {a b : List Int32} {v w t : Int32} {N K : Nat} (ha : GC env a v N) (hb : GC env b w K) (hk : K + 1 ≤ N) (h2 : 2 ≤ N) (ht : bop t) : GC env (a ++ (b ++ [t])) (jn t v w) N := by
  obtain ⟨t0, t1, t2⟩ := bop_is ht
  have d1 : ∀ d, dps t (d + 2) = d + 1 := fun d => by
    unfold dps
    rw [if_neg t0, if_neg t1, if_neg t2]
    omega
  refine ⟨fun st => ?_, fun d => ?_, fun d => ?_⟩
  · rw [evl_app, evl_app, ha.1, hb.1]
    show stp env t (w :: v :: st) = _
    unfold stp
    rw [if_neg t0, if_neg t1, if_neg t2]
    rfl
  · rw [dpt_app, dpt_app, ha.2.1, hb.2.1]
    exact d1 d
  · rw [pk_app, pk_app, ha.2.1, hb.2.1]
    have p1 := ha.2.2 d
    have p2 := hb.2.2 (d + 1)
    have p3 : pk [t] (d + 1 + 1) = d + 2 := by
      show max (d + 2) (dps t (d + 2)) = _
      rw [d1]
      omega
    rw [p3]
    omega
theorem GC.un {env : Nat → Int32} {a : List Int32} {v t : Int32} {N : Nat} (ha : GC env a v N) (h1 : 1 ≤ N) (ht : t = -16 ∨ t = -26) : GC env (a ++ [t]) (al1 t v) N := by
  have t0 : ¬ 0 ≤ t ∧ ¬ -6 ≤ t := by
    rcases ht with rfl | rfl <;> decide
  have d1 : ∀ d, dps t (d + 1) = d + 1 := fun d => by
    unfold dps
    rw [if_neg t0.1, if_neg t0.2, if_pos ht]
    omega
  refine ⟨fun st => ?_, fun d => ?_, fun d => ?_⟩
  · rw [evl_app, ha.1]
    show stp env t (v :: st) = _
    unfold stp
    rw [if_neg t0.1, if_neg t0.2, if_pos ht]
    rfl
  · rw [dpt_app, ha.2.1]
    exact d1 d
  · rw [pk_app, ha.2.1]
    have p1 := ha.2.2 d
    have p3 : pk [t] (d + 1) = d + 1 := by
      show max (d + 1) (dps t (d + 1)) = _
      rw [d1]
      omega
    rw [p3]
    omega
/-! frames of the readers -/
def XF (x x' : XS) : Prop := (∀ k, k ≠ 4 → k ≠ 6 → x'.1 k = x.1 k) ∧ x'.1 4 1 = x.1 4 1 ∧ (∀ k, k ≠ 7 → x'.2.1 k = x.2.1 k) ∧ x'.2.2 = x.2.2
theorem XF.rf (x : XS) : XF x x := ⟨fun _ _ _ => rfl, rfl, fun _ _ => rfl, rfl⟩
theorem XF.tr {a b c : XS} (h : XF a b) (g : XF b c) : XF a c := ⟨fun k p q => (g.1 k p q).trans (h.1 k p q), g.2.1.trans h.2.1, fun k p => (g.2.2.1 k p).trans (h.2.2.1 k p), g.2.2.2.trans h.2.2.2⟩
theorem XA.xf {x x' : XS} (h : XA x x') : XF x x' := ⟨fun k p _ => h.1 k p, h.2.1, fun k _ => by rw [h.2.2], by rw [h.2.2]⟩
def YF (y y' : MS) : Prop := y'.2.1 = y.2.1 ∧ ∀ i, (i < 24 ∨ i = 26 ∨ 30 < i) → y'.1 0 i = y.1 0 i
theorem YF.rf (y : MS) : YF y y := ⟨rfl, fun _ _ => rfl⟩
theorem YF.tr {a b c : MS} (h : YF a b) (g : YF b c) : YF a c := ⟨g.1.trans h.1, fun i p => (g.2 i p).trans (h.2 i p)⟩
theorem YA.yf {y y' : MS} (h : YA y y') : YF y y' := ⟨h.1, fun i p => h.2 i (by omega) (by omega) (by omega)⟩
theorem YF.S (y : MS) {j : Nat} (v : Int32) (h : j = 24 ∨ j = 25 ∨ j = 27 ∨ j = 28 ∨ j = 29 ∨ j = 30) : YF y (msS y 0 j v) := ⟨rfl, fun i p => if_neg (by omega)⟩
def envP (y : MS) : Nat → Int32 := envM y (y.1 0 31).toNatClampNeg (y.1 0 32) (y.1 0 33) (y.1 0 34) (y.1 0 35)
theorem envP_eq {y y' : MS} (h : YF y y') : envP y' = envP y := by
  unfold envP envM
  rw [h.1, h.2 31 (by decide), h.2 32 (by decide), h.2 33 (by decide), h.2 34 (by decide), h.2 35 (by decide)]
theorem wr8 {x : XS} {L : Nat} (e : x.1 6 3 = nI L) (hL : L < 160) (v : Int32) : fX4_write x v = some (xsS (xsA x 7 L v) 6 3 (nI (L + 1))) := by
  have hb : ib (nI L) 160 := ib_nI hL (by decide)
  have hc : (nI L).toNatClampNeg = L := cl_nI (by omega)
  have e2 : (xsA x 7 L v).1 6 3 = nI L := e
  unfold fX4_write
  rw [e, if_neg (by rw [show (160 : Int32) = nI 160 from rfl, nI_lei (by decide) (by omega)]; omega), if_pos hb, hc]
  simp only [lt, e2, nI_1]
theorem wr8_xf (x : XS) (L : Nat) (v w : Int32) : XF x (xsS (xsA x 7 L v) 6 3 w) := ⟨fun k _ q => up2_ne q, rfl, fun k q => up2_ne q, rfl⟩
theorem wr8any {x : XS} {L : Nat} (e : x.1 6 3 = nI L) (hL : L ≤ 160) (v : Int32) : ∃ x', fX4_write x v = some x' ∧ XF x x' ∧ x'.1 4 = x.1 4 ∧ ∃ L', L' ≤ 160 ∧ x'.1 6 3 = nI L' := by
  by_cases c : L < 160
  · exact ⟨_, wr8 e c v, wr8_xf x L v _, rfl, L + 1, by omega, rfl⟩
  · refine ⟨x, ?_, XF.rf x, rfl, L, hL, e⟩
    unfold fX4_write
    have t : (160 : Int32) ≤ nI L := (nI_lei (a := 160) (by decide) (by omega)).mpr (by omega)
    rw [e, if_pos t]
/-! tokens on both sides -/
theorem tokw_val (a : Int64) : (tokw a = -1 ∧ a = 206756339381) ∨ (tokw a = -2 ∧ a = 239872) ∨ (tokw a = -3 ∧ a = 17186) ∨ (tokw a = -4 ∧ a = 8740067) ∨ (tokw a = -5 ∧ a = 923) ∨ (tokw a = -6 ∧ a = 110319223) ∨ (tokw a = -11 ∧ a = 279875) ∨ (tokw a = -12 ∧ a = 168727) ∨ (tokw a = -13 ∧ a = 13903) ∨ (tokw a = -14 ∧ a = 423) ∨ (tokw a = -15 ∧ a = 1111) ∨ (tokw a = -16 ∧ a = 10631) ∨ tokw a = -36 := by
  by_cases h1 : a = 206756339381
  · exact (Or.inl ⟨by rw [h1]; rfl, h1⟩)
  by_cases h2 : a = 239872
  · exact Or.inr ((Or.inl ⟨by rw [h2]; rfl, h2⟩))
  by_cases h3 : a = 17186
  · exact Or.inr (Or.inr ((Or.inl ⟨by rw [h3]; rfl, h3⟩)))
  by_cases h4 : a = 8740067
  · exact Or.inr (Or.inr (Or.inr ((Or.inl ⟨by rw [h4]; rfl, h4⟩))))
  by_cases h5 : a = 923
  · exact Or.inr (Or.inr (Or.inr (Or.inr ((Or.inl ⟨by rw [h5]; rfl, h5⟩)))))
  by_cases h6 : a = 110319223
  · exact Or.inr (Or.inr (Or.inr (Or.inr (Or.inr ((Or.inl ⟨by rw [h6]; rfl, h6⟩))))))
  by_cases h7 : a = 279875
  · exact Or.inr (Or.inr (Or.inr (Or.inr (Or.inr (Or.inr ((Or.inl ⟨by rw [h7]; rfl, h7⟩)))))))
  by_cases h8 : a = 168727
  · exact Or.inr (Or.inr (Or.inr (Or.inr (Or.inr (Or.inr (Or.inr ((Or.inl ⟨by rw [h8]; rfl, h8⟩))))))))
  by_cases h9 : a = 13903
  · exact Or.inr (Or.inr (Or.inr (Or.inr (Or.inr (Or.inr (Or.inr (Or.inr ((Or.inl ⟨by rw [h9]; rfl, h9⟩)))))))))
  by_cases h10 : a = 423
  · exact Or.inr (Or.inr (Or.inr (Or.inr (Or.inr (Or.inr (Or.inr (Or.inr (Or.inr ((Or.inl ⟨by rw [h10]; rfl, h10⟩))))))))))
  by_cases h11 : a = 1111
  · exact Or.inr (Or.inr (Or.inr (Or.inr (Or.inr (Or.inr (Or.inr (Or.inr (Or.inr (Or.inr ((Or.inl ⟨by rw [h11]; rfl, h11⟩)))))))))))
  by_cases h12 : a = 10631
  · exact Or.inr (Or.inr (Or.inr (Or.inr (Or.inr (Or.inr (Or.inr (Or.inr (Or.inr (Or.inr (Or.inr ((Or.inl ⟨by rw [h12]; rfl, h12⟩))))))))))))
  refine Or.inr (Or.inr (Or.inr (Or.inr (Or.inr (Or.inr (Or.inr (Or.inr (Or.inr (Or.inr (Or.inr (Or.inr (?_))))))))))))
  unfold tokw
  rw [if_neg h1, if_neg h2, if_neg h3, if_neg h4, if_neg h5, if_neg h6, if_neg h7, if_neg h8, if_neg h9, if_neg h10, if_neg h11, if_neg h12]
theorem tokw_1 (a : Int64) : tokw a = -1 ↔ a = 206756339381 := by
  constructor
  · intro h
    rcases tokw_val a with ⟨t, w⟩ | ⟨t, w⟩ | ⟨t, w⟩ | ⟨t, w⟩ | ⟨t, w⟩ | ⟨t, w⟩ | ⟨t, w⟩ | ⟨t, w⟩ | ⟨t, w⟩ | ⟨t, w⟩ | ⟨t, w⟩ | ⟨t, w⟩ | t
    · exact w
    · exact absurd (t.symm.trans h) (by decide)
    · exact absurd (t.symm.trans h) (by decide)
    · exact absurd (t.symm.trans h) (by decide)
    · exact absurd (t.symm.trans h) (by decide)
    · exact absurd (t.symm.trans h) (by decide)
    · exact absurd (t.symm.trans h) (by decide)
    · exact absurd (t.symm.trans h) (by decide)
    · exact absurd (t.symm.trans h) (by decide)
    · exact absurd (t.symm.trans h) (by decide)
    · exact absurd (t.symm.trans h) (by decide)
    · exact absurd (t.symm.trans h) (by decide)
    · exact absurd (t.symm.trans h) (by decide)
  · rintro rfl
    rfl
theorem tokw_2 (a : Int64) : tokw a = -2 ↔ a = 239872 := by
  constructor
  · intro h
    rcases tokw_val a with ⟨t, w⟩ | ⟨t, w⟩ | ⟨t, w⟩ | ⟨t, w⟩ | ⟨t, w⟩ | ⟨t, w⟩ | ⟨t, w⟩ | ⟨t, w⟩ | ⟨t, w⟩ | ⟨t, w⟩ | ⟨t, w⟩ | ⟨t, w⟩ | t
    · exact absurd (t.symm.trans h) (by decide)
    · exact w
    · exact absurd (t.symm.trans h) (by decide)
    · exact absurd (t.symm.trans h) (by decide)
    · exact absurd (t.symm.trans h) (by decide)
    · exact absurd (t.symm.trans h) (by decide)
    · exact absurd (t.symm.trans h) (by decide)
    · exact absurd (t.symm.trans h) (by decide)
    · exact absurd (t.symm.trans h) (by decide)
    · exact absurd (t.symm.trans h) (by decide)
    · exact absurd (t.symm.trans h) (by decide)
    · exact absurd (t.symm.trans h) (by decide)
    · exact absurd (t.symm.trans h) (by decide)
  · rintro rfl
    rfl
theorem tokw_3 (a : Int64) : tokw a = -3 ↔ a = 17186 := by
  constructor
  · intro h
    rcases tokw_val a with ⟨t, w⟩ | ⟨t, w⟩ | ⟨t, w⟩ | ⟨t, w⟩ | ⟨t, w⟩ | ⟨t, w⟩ | ⟨t, w⟩ | ⟨t, w⟩ | ⟨t, w⟩ | ⟨t, w⟩ | ⟨t, w⟩ | ⟨t, w⟩ | t
    · exact absurd (t.symm.trans h) (by decide)
    · exact absurd (t.symm.trans h) (by decide)
    · exact w
    · exact absurd (t.symm.trans h) (by decide)
    · exact absurd (t.symm.trans h) (by decide)
    · exact absurd (t.symm.trans h) (by decide)
    · exact absurd (t.symm.trans h) (by decide)
    · exact absurd (t.symm.trans h) (by decide)
    · exact absurd (t.symm.trans h) (by decide)
    · exact absurd (t.symm.trans h) (by decide)
    · exact absurd (t.symm.trans h) (by decide)
    · exact absurd (t.symm.trans h) (by decide)
    · exact absurd (t.symm.trans h) (by decide)
  · rintro rfl
    rfl
theorem tokw_4 (a : Int64) : tokw a = -4 ↔ a = 8740067 := by
  constructor
  · intro h
    rcases tokw_val a with ⟨t, w⟩ | ⟨t, w⟩ | ⟨t, w⟩ | ⟨t, w⟩ | ⟨t, w⟩ | ⟨t, w⟩ | ⟨t, w⟩ | ⟨t, w⟩ | ⟨t, w⟩ | ⟨t, w⟩ | ⟨t, w⟩ | ⟨t, w⟩ | t
    · exact absurd (t.symm.trans h) (by decide)
    · exact absurd (t.symm.trans h) (by decide)
    · exact absurd (t.symm.trans h) (by decide)
    · exact w
    · exact absurd (t.symm.trans h) (by decide)
    · exact absurd (t.symm.trans h) (by decide)
    · exact absurd (t.symm.trans h) (by decide)
    · exact absurd (t.symm.trans h) (by decide)
    · exact absurd (t.symm.trans h) (by decide)
    · exact absurd (t.symm.trans h) (by decide)
    · exact absurd (t.symm.trans h) (by decide)
    · exact absurd (t.symm.trans h) (by decide)
    · exact absurd (t.symm.trans h) (by decide)
  · rintro rfl
    rfl
theorem tokw_5 (a : Int64) : tokw a = -5 ↔ a = 923 := by
  constructor
  · intro h
    rcases tokw_val a with ⟨t, w⟩ | ⟨t, w⟩ | ⟨t, w⟩ | ⟨t, w⟩ | ⟨t, w⟩ | ⟨t, w⟩ | ⟨t, w⟩ | ⟨t, w⟩ | ⟨t, w⟩ | ⟨t, w⟩ | ⟨t, w⟩ | ⟨t, w⟩ | t
    · exact absurd (t.symm.trans h) (by decide)
    · exact absurd (t.symm.trans h) (by decide)
    · exact absurd (t.symm.trans h) (by decide)
    · exact absurd (t.symm.trans h) (by decide)
    · exact w
    · exact absurd (t.symm.trans h) (by decide)
    · exact absurd (t.symm.trans h) (by decide)
    · exact absurd (t.symm.trans h) (by decide)
    · exact absurd (t.symm.trans h) (by decide)
    · exact absurd (t.symm.trans h) (by decide)
    · exact absurd (t.symm.trans h) (by decide)
    · exact absurd (t.symm.trans h) (by decide)
    · exact absurd (t.symm.trans h) (by decide)
  · rintro rfl
    rfl
theorem tokw_6 (a : Int64) : tokw a = -6 ↔ a = 110319223 := by
  constructor
  · intro h
    rcases tokw_val a with ⟨t, w⟩ | ⟨t, w⟩ | ⟨t, w⟩ | ⟨t, w⟩ | ⟨t, w⟩ | ⟨t, w⟩ | ⟨t, w⟩ | ⟨t, w⟩ | ⟨t, w⟩ | ⟨t, w⟩ | ⟨t, w⟩ | ⟨t, w⟩ | t
    · exact absurd (t.symm.trans h) (by decide)
    · exact absurd (t.symm.trans h) (by decide)
    · exact absurd (t.symm.trans h) (by decide)
    · exact absurd (t.symm.trans h) (by decide)
    · exact absurd (t.symm.trans h) (by decide)
    · exact w
    · exact absurd (t.symm.trans h) (by decide)
    · exact absurd (t.symm.trans h) (by decide)
    · exact absurd (t.symm.trans h) (by decide)
    · exact absurd (t.symm.trans h) (by decide)
    · exact absurd (t.symm.trans h) (by decide)
    · exact absurd (t.symm.trans h) (by decide)
    · exact absurd (t.symm.trans h) (by decide)
  · rintro rfl
    rfl
theorem tokw_11 (a : Int64) : tokw a = -11 ↔ a = 279875 := by
  constructor
  · intro h
    rcases tokw_val a with ⟨t, w⟩ | ⟨t, w⟩ | ⟨t, w⟩ | ⟨t, w⟩ | ⟨t, w⟩ | ⟨t, w⟩ | ⟨t, w⟩ | ⟨t, w⟩ | ⟨t, w⟩ | ⟨t, w⟩ | ⟨t, w⟩ | ⟨t, w⟩ | t
    · exact absurd (t.symm.trans h) (by decide)
    · exact absurd (t.symm.trans h) (by decide)
    · exact absurd (t.symm.trans h) (by decide)
    · exact absurd (t.symm.trans h) (by decide)
    · exact absurd (t.symm.trans h) (by decide)
    · exact absurd (t.symm.trans h) (by decide)
    · exact w
    · exact absurd (t.symm.trans h) (by decide)
    · exact absurd (t.symm.trans h) (by decide)
    · exact absurd (t.symm.trans h) (by decide)
    · exact absurd (t.symm.trans h) (by decide)
    · exact absurd (t.symm.trans h) (by decide)
    · exact absurd (t.symm.trans h) (by decide)
  · rintro rfl
    rfl
theorem tokw_12 (a : Int64) : tokw a = -12 ↔ a = 168727 := by
  constructor
  · intro h
    rcases tokw_val a with ⟨t, w⟩ | ⟨t, w⟩ | ⟨t, w⟩ | ⟨t, w⟩ | ⟨t, w⟩ | ⟨t, w⟩ | ⟨t, w⟩ | ⟨t, w⟩ | ⟨t, w⟩ | ⟨t, w⟩ | ⟨t, w⟩ | ⟨t, w⟩ | t
    · exact absurd (t.symm.trans h) (by decide)
    · exact absurd (t.symm.trans h) (by decide)
    · exact absurd (t.symm.trans h) (by decide)
    · exact absurd (t.symm.trans h) (by decide)
    · exact absurd (t.symm.trans h) (by decide)
    · exact absurd (t.symm.trans h) (by decide)
    · exact absurd (t.symm.trans h) (by decide)
    · exact w
    · exact absurd (t.symm.trans h) (by decide)
    · exact absurd (t.symm.trans h) (by decide)
    · exact absurd (t.symm.trans h) (by decide)
    · exact absurd (t.symm.trans h) (by decide)
    · exact absurd (t.symm.trans h) (by decide)
  · rintro rfl
    rfl
theorem tokw_13 (a : Int64) : tokw a = -13 ↔ a = 13903 := by
  constructor
  · intro h
    rcases tokw_val a with ⟨t, w⟩ | ⟨t, w⟩ | ⟨t, w⟩ | ⟨t, w⟩ | ⟨t, w⟩ | ⟨t, w⟩ | ⟨t, w⟩ | ⟨t, w⟩ | ⟨t, w⟩ | ⟨t, w⟩ | ⟨t, w⟩ | ⟨t, w⟩ | t
    · exact absurd (t.symm.trans h) (by decide)
    · exact absurd (t.symm.trans h) (by decide)
    · exact absurd (t.symm.trans h) (by decide)
    · exact absurd (t.symm.trans h) (by decide)
    · exact absurd (t.symm.trans h) (by decide)
    · exact absurd (t.symm.trans h) (by decide)
    · exact absurd (t.symm.trans h) (by decide)
    · exact absurd (t.symm.trans h) (by decide)
    · exact w
    · exact absurd (t.symm.trans h) (by decide)
    · exact absurd (t.symm.trans h) (by decide)
    · exact absurd (t.symm.trans h) (by decide)
    · exact absurd (t.symm.trans h) (by decide)
  · rintro rfl
    rfl
theorem tokw_14 (a : Int64) : tokw a = -14 ↔ a = 423 := by
  constructor
  · intro h
    rcases tokw_val a with ⟨t, w⟩ | ⟨t, w⟩ | ⟨t, w⟩ | ⟨t, w⟩ | ⟨t, w⟩ | ⟨t, w⟩ | ⟨t, w⟩ | ⟨t, w⟩ | ⟨t, w⟩ | ⟨t, w⟩ | ⟨t, w⟩ | ⟨t, w⟩ | t
    · exact absurd (t.symm.trans h) (by decide)
    · exact absurd (t.symm.trans h) (by decide)
    · exact absurd (t.symm.trans h) (by decide)
    · exact absurd (t.symm.trans h) (by decide)
    · exact absurd (t.symm.trans h) (by decide)
    · exact absurd (t.symm.trans h) (by decide)
    · exact absurd (t.symm.trans h) (by decide)
    · exact absurd (t.symm.trans h) (by decide)
    · exact absurd (t.symm.trans h) (by decide)
    · exact w
    · exact absurd (t.symm.trans h) (by decide)
    · exact absurd (t.symm.trans h) (by decide)
    · exact absurd (t.symm.trans h) (by decide)
  · rintro rfl
    rfl
theorem tokw_15 (a : Int64) : tokw a = -15 ↔ a = 1111 := by
  constructor
  · intro h
    rcases tokw_val a with ⟨t, w⟩ | ⟨t, w⟩ | ⟨t, w⟩ | ⟨t, w⟩ | ⟨t, w⟩ | ⟨t, w⟩ | ⟨t, w⟩ | ⟨t, w⟩ | ⟨t, w⟩ | ⟨t, w⟩ | ⟨t, w⟩ | ⟨t, w⟩ | t
    · exact absurd (t.symm.trans h) (by decide)
    · exact absurd (t.symm.trans h) (by decide)
    · exact absurd (t.symm.trans h) (by decide)
    · exact absurd (t.symm.trans h) (by decide)
    · exact absurd (t.symm.trans h) (by decide)
    · exact absurd (t.symm.trans h) (by decide)
    · exact absurd (t.symm.trans h) (by decide)
    · exact absurd (t.symm.trans h) (by decide)
    · exact absurd (t.symm.trans h) (by decide)
    · exact absurd (t.symm.trans h) (by decide)
    · exact w
    · exact absurd (t.symm.trans h) (by decide)
    · exact absurd (t.symm.trans h) (by decide)
  · rintro rfl
    rfl
theorem tokw_16 (a : Int64) : tokw a = -16 ↔ a = 10631 := by
  constructor
  · intro h
    rcases tokw_val a with ⟨t, w⟩ | ⟨t, w⟩ | ⟨t, w⟩ | ⟨t, w⟩ | ⟨t, w⟩ | ⟨t, w⟩ | ⟨t, w⟩ | ⟨t, w⟩ | ⟨t, w⟩ | ⟨t, w⟩ | ⟨t, w⟩ | ⟨t, w⟩ | t
    · exact absurd (t.symm.trans h) (by decide)
    · exact absurd (t.symm.trans h) (by decide)
    · exact absurd (t.symm.trans h) (by decide)
    · exact absurd (t.symm.trans h) (by decide)
    · exact absurd (t.symm.trans h) (by decide)
    · exact absurd (t.symm.trans h) (by decide)
    · exact absurd (t.symm.trans h) (by decide)
    · exact absurd (t.symm.trans h) (by decide)
    · exact absurd (t.symm.trans h) (by decide)
    · exact absurd (t.symm.trans h) (by decide)
    · exact absurd (t.symm.trans h) (by decide)
    · exact w
    · exact absurd (t.symm.trans h) (by decide)
  · rintro rfl
    rfl
theorem tokw_no (a : Int64) (t : Int32) (ht : t = -31 ∨ t = -32 ∨ t = -33 ∨ t = -34 ∨ t = -35 ∨ t = -21 ∨ t = -22 ∨ t = -23 ∨ t = -24 ∨ t = -25) : tokw a ≠ t := by
  intro h
  rcases tokw_val a with ⟨w, -⟩ | ⟨w, -⟩ | ⟨w, -⟩ | ⟨w, -⟩ | ⟨w, -⟩ | ⟨w, -⟩ | ⟨w, -⟩ | ⟨w, -⟩ | ⟨w, -⟩ | ⟨w, -⟩ | ⟨w, -⟩ | ⟨w, -⟩ | w
  all_goals
    rw [← h, w] at ht
    exact absurd ht (by decide)
theorem tr_word {tok num kind : Int32} {worth W : Int64} {c : Int32} (h : TR tok num kind worth) (hW : ∀ a, tokw a = c ↔ a = W) (hc : c = -1 ∨ c = -2 ∨ c = -3 ∨ c = -4 ∨ c = -5 ∨ c = -6 ∨ c = -11 ∨ c = -12 ∨ c = -13 ∨ c = -14 ∨ c = -15 ∨ c = -16) : (kind = 1 ∧ worth = W) ↔ tok = c := by
  rcases h with ⟨k, t⟩ | ⟨k, t⟩ | ⟨k, t⟩ | ⟨k, t, -⟩ | ⟨k, t⟩
  · rw [k, t]
    refine ⟨fun z => absurd z.1 (by decide), fun z => ?_⟩
    rw [← z] at hc
    exact absurd hc (by decide)
  · rw [k, t]
    refine ⟨fun z => absurd z.1 (by decide), fun z => ?_⟩
    rw [← z] at hc
    exact absurd hc (by decide)
  · rw [k, t, hW]
    exact ⟨fun z => z.2, fun z => ⟨rfl, z⟩⟩
  · rw [k, t]
    refine ⟨fun z => absurd z.1 (by decide), fun z => ?_⟩
    rw [← z] at hc
    exact absurd hc (by decide)
  · rw [k]
    refine ⟨fun z => absurd z.1 (by decide), fun z => ?_⟩
    subst z
    rcases t with ⟨-, t⟩ | ⟨-, t⟩ | ⟨-, t⟩ | ⟨-, t⟩ | ⟨-, t⟩ | ⟨-, t⟩ | ⟨-, t⟩ | ⟨-, t⟩ <;> (rw [t] at hc; exact absurd hc (by decide))
theorem tr_sign {tok num kind : Int32} {worth W : Int64} {c : Int32} (h : TR tok num kind worth) (hc : (W = 40 ∧ c = -31) ∨ (W = 41 ∧ c = -32) ∨ (W = 59 ∧ c = -33) ∨ (W = 43 ∧ c = -21) ∨ (W = 45 ∧ c = -22) ∨ (W = 42 ∧ c = -23) ∨ (W = 60 ∧ c = -24) ∨ (W = 61 ∧ c = -25)) : (kind = 3 ∧ worth = W) ↔ tok = c := by
  have c1 : c = -31 ∨ c = -32 ∨ c = -33 ∨ c = -34 ∨ c = -35 ∨ c = -21 ∨ c = -22 ∨ c = -23 ∨ c = -24 ∨ c = -25 := by
    rcases hc with ⟨-, t⟩ | ⟨-, t⟩ | ⟨-, t⟩ | ⟨-, t⟩ | ⟨-, t⟩ | ⟨-, t⟩ | ⟨-, t⟩ | ⟨-, t⟩ <;> (rw [t]; decide)
  rcases h with ⟨k, t⟩ | ⟨k, t⟩ | ⟨k, t⟩ | ⟨k, t, -⟩ | ⟨k, t⟩
  · rw [k, t]
    refine ⟨fun z => absurd z.1 (by decide), fun z => ?_⟩
    rcases hc with ⟨-, t⟩ | ⟨-, t⟩ | ⟨-, t⟩ | ⟨-, t⟩ | ⟨-, t⟩ | ⟨-, t⟩ | ⟨-, t⟩ | ⟨-, t⟩ <;> exact absurd (z.trans t) (by decide)
  · rw [k, t]
    refine ⟨fun z => absurd z.1 (by decide), fun z => ?_⟩
    rcases hc with ⟨-, t⟩ | ⟨-, t⟩ | ⟨-, t⟩ | ⟨-, t⟩ | ⟨-, t⟩ | ⟨-, t⟩ | ⟨-, t⟩ | ⟨-, t⟩ <;> exact absurd (z.trans t) (by decide)
  · rw [k, t]
    exact ⟨fun z => absurd z.1 (by decide), fun z => absurd z (tokw_no worth c c1)⟩
  · rw [k, t]
    refine ⟨fun z => absurd z.1 (by decide), fun z => ?_⟩
    rcases hc with ⟨-, t⟩ | ⟨-, t⟩ | ⟨-, t⟩ | ⟨-, t⟩ | ⟨-, t⟩ | ⟨-, t⟩ | ⟨-, t⟩ | ⟨-, t⟩ <;> exact absurd (z.trans t) (by decide)
  · rw [k]
    rcases t with ⟨w, t⟩ | ⟨w, t⟩ | ⟨w, t⟩ | ⟨w, t⟩ | ⟨w, t⟩ | ⟨w, t⟩ | ⟨w, t⟩ | ⟨w, t⟩ <;> rw [w, t] <;> rcases hc with ⟨w2, t2⟩ | ⟨w2, t2⟩ | ⟨w2, t2⟩ | ⟨w2, t2⟩ | ⟨w2, t2⟩ | ⟨w2, t2⟩ | ⟨w2, t2⟩ | ⟨w2, t2⟩ <;> rw [w2, t2] <;> decide
theorem wd9 {f : Nat → Int32} {M base q : Nat} {x : XS} {y : MS} {W : Int64} {c : Int32} (h : PR f M base x y q) (hb : y.1 0 29 = 0) (hW : ∀ a, tokw a = c ↔ a = W) (hc : c = -1 ∨ c = -2 ∨ c = -3 ∨ c = -4 ∨ c = -5 ∨ c = -6 ∨ c = -11 ∨ c = -12 ∨ c = -13 ∨ c = -14 ∨ c = -15 ∨ c = -16) : fX9_isWord y W = some (decide (x.1 4 4 = c)) := by
  have e := tr_word h.tk hW hc
  unfold fX9_isWord
  rw [if_pos hb]
  by_cases k : y.1 0 24 = 1
  · rw [if_pos k]
    by_cases w : y.2.2 0 26 = W
    · rw [if_pos w, decide_eq_true (e.mp ⟨k, w⟩)]
    · rw [if_neg w, decide_eq_false (fun z => w (e.mpr z).2)]
  · rw [if_neg k, decide_eq_false (fun z => k (e.mpr z).1)]
theorem sg9 {f : Nat → Int32} {M base q : Nat} {x : XS} {y : MS} {s c : Int32} (h : PR f M base x y q) (hb : y.1 0 29 = 0) (hc : (s.toInt64 = 40 ∧ c = -31) ∨ (s.toInt64 = 41 ∧ c = -32) ∨ (s.toInt64 = 59 ∧ c = -33) ∨ (s.toInt64 = 43 ∧ c = -21) ∨ (s.toInt64 = 45 ∧ c = -22) ∨ (s.toInt64 = 42 ∧ c = -23) ∨ (s.toInt64 = 60 ∧ c = -24) ∨ (s.toInt64 = 61 ∧ c = -25)) : fX9_isSign y s = some (decide (x.1 4 4 = c)) := by
  have e := tr_sign h.tk hc
  unfold fX9_isSign
  rw [if_pos hb]
  by_cases k : y.1 0 24 = 3
  · rw [if_pos k]
    by_cases w : y.2.2 0 26 = s.toInt64
    · rw [if_pos w, decide_eq_true (e.mp ⟨k, w⟩)]
    · rw [if_neg w, decide_eq_false (fun z => w (e.mpr z).2)]
  · rw [if_neg k, decide_eq_false (fun z => k (e.mpr z).1)]
theorem wd9b {y : MS} (hb : y.1 0 29 = 1) (W : Int64) : fX9_isWord y W = some false := by
  unfold fX9_isWord
  rw [hb, if_neg (by decide)]
theorem sg9b {y : MS} (hb : y.1 0 29 = 1) (s : Int32) : fX9_isSign y s = some false := by
  unfold fX9_isSign
  rw [hb, if_neg (by decide)]
theorem fail9 {y : MS} (hb : y.1 0 29 = 0) : fX9_fail y = some (msS (msS y 0 29 1) 0 30 (y.1 0 25)) := by
  unfold fX9_fail
  rw [if_pos hb]
  rfl
theorem fail9b {y : MS} (hb : y.1 0 29 = 1) : fX9_fail y = some y := by
  unfold fX9_fail
  rw [hb, if_neg (by decide)]
theorem PR.adv {f : Nat → Int32} {M base q : Nat} {x : XS} {y : MS} (h : PR f M base x y q) (hM : M ≤ 160) (hf : ∀ i, i < M → 0 ≤ f i) (t1 : x.1 4 4 ≠ -35) (t2 : x.1 4 4 ≠ -36) : q < M ∧ ∃ x' y' q', fX6_advance x = some x' ∧ fX9_next y = some y' ∧ XA x x' ∧ YA y y' ∧ PR f M base x' y' q' ∧ q + 1 ≤ q' := by
  have tk := h.tk
  have n4 : y.1 0 24 ≠ 4 := by
    intro z
    rcases tk with ⟨k, t⟩ | ⟨k, t⟩ | ⟨k, t⟩ | ⟨k, t, -⟩ | ⟨k, t⟩
    · exact t1 t
    · exact t2 t
    · rw [k] at z
      exact absurd z (by decide)
    · rw [k] at z
      exact absurd z (by decide)
    · rw [k] at z
      exact absurd z (by decide)
  have n0 : y.1 0 24 ≠ 0 := by
    intro z
    rcases tk with ⟨k, t⟩ | ⟨k, t⟩ | ⟨k, t⟩ | ⟨k, t, -⟩ | ⟨k, t⟩
    · exact t1 t
    · exact t2 t
    · rw [k] at z
      exact absurd z (by decide)
    · rw [k] at z
      exact absurd z (by decide)
    · rw [k] at z
      exact absurd z (by decide)
  obtain ⟨p, p1, p2, p3, p4, p5⟩ := h.ps.resolve_left n4
  have p6 := p5.resolve_left n0
  obtain ⟨x', y', q', a1, a2, a3, a4, a5, a6⟩ := adv89 hM hf h.X h.Y p3 p4 p2
  exact ⟨by omega, x', y', q', a1, a2, a3, a4, a5, by omega⟩
