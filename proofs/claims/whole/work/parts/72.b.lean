/-! to come in a told order -/
def sgm (f : Nat → Nat) : Nat → Nat
  | 0 => 0
  | c + 1 => sgm f c + f c
theorem sgm_congr {f g : Nat → Nat} : ∀ N, (∀ c, c < N → f c = g c) → sgm f N = sgm g N := by
  intro N
  induction N with
  | zero => intro _; rfl
  | succ N ih =>
    intro h
    show sgm f N + f N = sgm g N + g N
    rw [ih (fun c hc => h c (by omega)), h N (Nat.lt_succ_self N)]
theorem sgm_le {f : Nat → Nat} {M : Nat} : ∀ N, (∀ c, f c ≤ M) → sgm f N ≤ N * M := by
  intro N
  induction N with
  | zero => intro _; exact Nat.zero_le _
  | succ N ih =>
    intro h
    show sgm f N + f N ≤ (N + 1) * M
    rw [Nat.add_mul, Nat.one_mul]
    have := ih h
    have := h N
    omega
theorem sgm_stop {f : Nat → Nat} {c : Nat} : ∀ d, (∀ j, c ≤ j → f j = 0) → sgm f (c + d) = sgm f c := by
  intro d
  induction d with
  | zero => intro _; rfl
  | succ d ih =>
    intro h
    show sgm f (c + d) + f (c + d) = _
    rw [ih h, h (c + d) (Nat.le_add_right _ _), Nat.add_zero]
/-- in how many ways these come in so behind one that runs so much -/
def chn (s : Nat) : List Int → Int → Nat
  | [], _ => 1
  | b :: bs, a => sgm (fun c => if b - s + c < a then chn s bs (b - s + c) else 0) (2 * s + 1)
theorem chn_le (s : Nat) : ∀ (l : List Int) (a : Int), chn s l a ≤ (2 * s + 1) ^ l.length := by
  intro l
  induction l with
  | nil => intro a; exact Nat.le_refl _
  | cons b bs ih =>
    intro a
    show sgm _ _ ≤ (2 * s + 1) ^ (bs.length + 1)
    rw [Nat.pow_succ, Nat.mul_comm ((2 * s + 1) ^ bs.length)]
    refine sgm_le _ (fun c => ?_)
    split
    · exact ih _
    · exact Nat.zero_le _
def lst (β : Nat → Int) : Nat → Nat → List Int
  | _, 0 => []
  | p, m + 1 => β p :: lst β (p + 1) m
theorem lst_len (β : Nat → Int) : ∀ m p, (lst β p m).length = m := by
  intro m
  induction m with
  | zero => intro p; rfl
  | succ m ih =>
    intro p
    show (lst β (p + 1) m).length + 1 = _
    rw [ih]
theorem orl_in : ∀ (l : List Nat) (j : Nat), j < l.length → (orl l).testBit (l.getD j 0) = true := by
  intro l
  induction l with
  | nil => intro j hj; exact absurd hj (Nat.not_lt_zero j)
  | cons h l ih =>
    intro j hj
    show (2 ^ h ||| orl l).testBit _ = true
    rw [Nat.testBit_or]
    cases j with
    | zero =>
      show ((2 ^ h).testBit h || (orl l).testBit h) = true
      rw [Nat.testBit_two_pow_self]
      rfl
    | succ j =>
      show ((2 ^ h).testBit (l.getD j 0) || (orl l).testBit (l.getD j 0)) = true
      rw [ih j (Nat.lt_of_succ_lt_succ hj), Bool.or_true]
section COMES
variable {own : Nat → Nat} {n r t u : Nat} {A : Nat → Int32} {F s : Nat} {z : XS} {w : MS}
theorem chain9 {L : List Nat} {len : Nat} {B : Nat → Int32} (hs : s ≤ 3) (hlen : len ≤ 5) (e19 : w.1 0 19 = nI len) (e15 : w.1 0 15 = nI s) (e13 : ∀ j, j < len → w.2.1 13 j = nI (L.getD j 0)) (hL : ∀ j, j < len → L.getD j 0 < 10) (e11 : ∀ j, j < len → w.2.1 11 (L.getD j 0) = B j) (hB : ∀ j, j < len → sm (B j) 214) : ∀ (m k f : Nat) (a : Int32), k + m = len → m < f → GCh f 0 w (nI k) a = some (nL (chn s (lst (fun j => (B j).toInt) k m) a.toInt)) := by
  intro m
  induction m with
  | zero =>
    intro k f a hk hf
    obtain ⟨f, rfl⟩ : ∃ z, f = z + 1 := ⟨f - 1, by omega⟩
    have e : k = len := by omega
    subst e
    show fX9_chain (GCh f) w (nI k) a = _
    unfold fX9_chain
    rw [e19, if_pos rfl]
    rfl
  | succ m ih =>
    intro k f a hk hf
    obtain ⟨f, rfl⟩ : ∃ z, f = z + 1 := ⟨f - 1, by omega⟩
    have hk' : k < len := by omega
    have hh := hL k hk'
    have hb := hB k hk'
    have nk : ¬ nI k = nI len := by
      rw [nI_eqi (by omega) (by omega)]
      omega
    have lp : ∀ (d c g : Nat), c + d = 2 * s + 1 → d < g → LX9_chain_34 (GCh f) w (nI k) a (nI (L.getD k 0)) g (nL (sgm (fun c => if (B k).toInt - s + c < a.toInt then chn s (lst (fun j => (B j).toInt) (k + 1) m) ((B k).toInt - s + c) else 0) c)) ((B k - nI s) + nI c) = some (nL (chn s (lst (fun j => (B j).toInt) k (m + 1)) a.toInt)) := by
      intro d
      induction d with
      | zero =>
        intro c g hc hg
        obtain ⟨g, rfl⟩ : ∃ z, g = z + 1 := ⟨g - 1, by omega⟩
        have e : c = 2 * s + 1 := by omega
        subst e
        show BX9_chain_34 _ w _ a _ _ _ _ = _
        unfold BX9_chain_34
        rw [if_pos (ib_nI hh (by decide)), cl_nI (by omega), e11 k hk', e15, if_pos ((var_end9 hb hs (by omega)).mpr (by omega))]
        rfl
      | succ d ihd =>
        intro c g hc hg
        obtain ⟨g, rfl⟩ : ∃ z, g = z + 1 := ⟨g - 1, by omega⟩
        have s3 := sm_nI (k := s) (b := 3) hs (by decide)
        have e1 := sm_sub hb s3 (by decide)
        have e2 := sm_add (hb.sb s3 (by decide)) (sm_nI (k := c) (b := 8) (by omega) (by decide)) (by decide)
        rw [e1, nI_toInt (by omega), nI_toInt (by omega)] at e2
        show BX9_chain_34 _ w _ a _ _ _ _ = _
        unfold BX9_chain_34
        rw [if_pos (ib_nI hh (by decide)), cl_nI (by omega), e11 k hk', e15, if_neg (fun q => by have := (var_end9 hb hs (by omega)).mp q; omega)]
        by_cases q : a ≤ (B k - nI s) + nI c
        · rw [if_pos q]
          rw [Int32.le_iff_toInt_le, e2] at q
          show _ = some (nL (sgm _ (2 * s + 1)))
          rw [show 2 * s + 1 = c + (d + 1) by omega, sgm_stop (d + 1) (fun j hj => if_neg (show ¬ ((B k).toInt - s + j < a.toInt) by omega))]
        · rw [if_neg q, nI_1, ih (k + 1) f _ (by omega) (by omega), Option.bind_some, e2]
          rw [Int32.le_iff_toInt_le, e2] at q
          simp only [lt, nL_ad, run_up]
          have nx := ihd (c + 1) g (by omega) (by omega)
          have es : sgm (fun c => if (B k).toInt - s + c < a.toInt then chn s (lst (fun j => (B j).toInt) (k + 1) m) ((B k).toInt - s + c) else 0) (c + 1) = sgm (fun c => if (B k).toInt - s + c < a.toInt then chn s (lst (fun j => (B j).toInt) (k + 1) m) ((B k).toInt - s + c) else 0) c + chn s (lst (fun j => (B j).toInt) (k + 1) m) ((B k).toInt - s + c) := by
            show sgm _ c + (if _ then _ else 0) = _
            rw [if_pos (by omega)]
          rw [es] at nx
          exact nx
    show fX9_chain (GCh f) w (nI k) a = _
    unfold fX9_chain
    rw [e19, if_neg nk, if_pos (ib_nI (by omega) (by decide)), cl_nI (by omega), e13 k hk']
    simp only [lt]
    rw [if_pos (ib_nI hh (by decide)), cl_nI (by omega), e11 k hk', e15]
    have := lp (2 * s + 1) 0 NF (by omega) (by unfold NF; omega)
    rw [show (B k - nI s) + nI 0 = B k - nI s from Int32.add_zero _] at this
    have this : LX9_chain_34 (GCh f) w (nI k) a (nI (L.getD k 0)) NF 0 (B k - nI s) = _ := this
    rw [this, Option.bind_some]
def s20 (x z : XS) : Prop := z.1 = x.1 ∧ (∀ k, k ≠ 20 → k ≠ 21 → z.2.1 k = x.2.1 k) ∧ z.2.2 = x.2.2
theorem s20.rf (x : XS) : s20 x x := ⟨rfl, fun _ _ _ => rfl, rfl⟩
theorem s20.tr {a b c : XS} (h : s20 a b) (g : s20 b c) : s20 a c := ⟨g.1.trans h.1, fun k q p => (g.2.1 k q p).trans (h.2.1 k q p), g.2.2.trans h.2.2⟩
theorem s20.A0 (x : XS) (i : Nat) (v : Int32) : s20 x (xsA x 20 i v) := ⟨rfl, fun _ q _ => up2_ne q, rfl⟩
theorem s20.A1 (x : XS) (i : Nat) (v : Int32) : s20 x (xsA x 21 i v) := ⟨rfl, fun _ _ q => up2_ne q, rfl⟩
theorem s20.F0 (x : XS) (f : Nat → Int32) : s20 x (xsF x 20 f) := ⟨rfl, fun _ q _ => up1_ne q, rfl⟩
theorem s20.kX {x z : XS} (h : s20 x z) : kX x z := ⟨fun k _ => by rw [h.1], by rw [h.1], by rw [h.1], fun k hk => h.2.1 k (ne_in (A := [20]) (by decide) hk (by decide)) (ne_in (A := [21]) (by decide) hk (by decide)), h.2.2⟩
theorem va16 {x : XS} {s : Nat} (e : x.1 16 6 = nI s) : fX0_variants x = some (nI (2 * s + 1)) := by
  unfold fX0_variants
  rw [e, show (2 : Int32) * nI s = nI (2 * s) from nI_ml 2 s, nI_1]
theorem long_in {x0 : XS} {B B' : Int32} {T : Nat → Nat} {v : Nat} (hs : s ≤ 3) (e16 : x0.1 16 6 = nI s) (hB : sm B 214) (hB' : sm B' 214) (hv : v < 2 * s + 1) : ∀ (k j f : Nat) (x : XS), j + k = 2 * s + 1 → k < f → s20 x0 x → (∀ c, c < 2 * s + 1 → x.2.1 20 c = nI (T c)) → x.2.1 21 v = nI (sgm (fun c => if B'.toInt - s + c < B.toInt - s + v then T c else 0) j) → ∃ x', LX0_lengthenTails_20 B B' (nI v) f (nI j) x = some x' ∧ s20 x0 x' ∧ (∀ c, c < 2 * s + 1 → x'.2.1 20 c = nI (T c)) ∧ x'.2.1 21 v = nI (sgm (fun c => if B'.toInt - s + c < B.toInt - s + v then T c else 0) (2 * s + 1)) ∧ ∀ c, c ≠ v → x'.2.1 21 c = x.2.1 21 c := by
  intro k
  induction k with
  | zero =>
    intro j f x hk hf h0 h20 h21
    obtain ⟨f, rfl⟩ : ∃ z, f = z + 1 := ⟨f - 1, by omega⟩
    have e : j = 2 * s + 1 := by omega
    subst e
    refine ⟨x, ?_, h0, h20, h21, fun _ _ => rfl⟩
    show BX0_lengthenTails_20 _ _ _ _ _ x = _
    unfold BX0_lengthenTails_20
    rw [va16 (h0.1 ▸ e16 : x.1 16 6 = nI s), Option.bind_some, if_pos (Int32.le_refl _)]
  | succ k ih =>
    intro j f x hk hf h0 h20 h21
    obtain ⟨f, rfl⟩ : ∃ z, f = z + 1 := ⟨f - 1, by omega⟩
    have hlt : ¬ nI (2 * s + 1) ≤ nI j := by
      rw [nI_lei (by omega) (by omega)]
      omega
    have c1 : B + nI v ≤ B' + nI j ↔ ¬ (B'.toInt - s + j < B.toInt - s + v) := by
      have e1 := sm_add hB (sm_nI (k := v) (b := 8) (by omega) (by decide)) (by decide)
      have e2 := sm_add hB' (sm_nI (k := j) (b := 8) (by omega) (by decide)) (by decide)
      rw [nI_toInt (by omega)] at e1 e2
      rw [Int32.le_iff_toInt_le, e1, e2]
      omega
    have es : sgm (fun c => if B'.toInt - s + c < B.toInt - s + v then T c else 0) (j + 1) = sgm (fun c => if B'.toInt - s + c < B.toInt - s + v then T c else 0) j + (if B'.toInt - s + j < B.toInt - s + v then T j else 0) := rfl
    show ∃ x', BX0_lengthenTails_20 _ _ _ (LX0_lengthenTails_20 B B' (nI v) f) (nI j) x = some x' ∧ _
    unfold BX0_lengthenTails_20
    rw [va16 (h0.1 ▸ e16 : x.1 16 6 = nI s), Option.bind_some, if_neg hlt]
    by_cases q : B'.toInt - s + j < B.toInt - s + v
    · rw [if_neg (fun z => c1.mp z q)]
      have hb7 : ib (nI v) 7 := ib_nI (by omega) (by decide)
      have hc7 : (nI v).toNatClampNeg = v := cl_nI (by omega)
      have hb8 : ib (nI j) 7 := ib_nI (by omega) (by decide)
      have hc8 : (nI j).toNatClampNeg = j := cl_nI (by omega)
      simp only [if_pos hb7, hc7, if_pos hb8, hc8, h20 j (by omega), h21, nI_ad, lt, nI_1]
      rw [if_pos q] at es
      rw [← es]
      obtain ⟨x', l1, l2, l3, l4, l5⟩ := ih (j + 1) f (xsA x 21 v (nI (sgm (fun c => if B'.toInt - s + c < B.toInt - s + v then T c else 0) (j + 1)))) (by omega) (by omega) (h0.tr (s20.A1 _ _ _)) h20 (by
        show (if v = v then _ else _) = _
        rw [if_pos rfl])
      refine ⟨x', l1, l2, l3, l4, fun c hc => ?_⟩
      rw [l5 c hc]
      show (if c = v then _ else x.2.1 21 c) = _
      rw [if_neg hc]
    · rw [if_pos (c1.mpr q)]
      simp only [lt, nI_1]
      rw [if_neg q, Nat.add_zero] at es
      exact ih (j + 1) f x (by omega) (by omega) h0 h20 (by rw [es]; exact h21)
theorem long_out {x0 : XS} {B B' : Int32} {T : Nat → Nat} (hs : s ≤ 3) (e16 : x0.1 16 6 = nI s) (hB : sm B 214) (hB' : sm B' 214) : ∀ (k v f : Nat) (x : XS), v + k = 2 * s + 1 → k < f → s20 x0 x → (∀ c, c < 2 * s + 1 → x.2.1 20 c = nI (T c)) → (∀ c, c < v → x.2.1 21 c = nI (sgm (fun j => if B'.toInt - s + j < B.toInt - s + c then T j else 0) (2 * s + 1))) → ∃ x', LX0_lengthenTails_2 B B' f (nI v) x = some x' ∧ s20 x0 x' ∧ ∀ c, c < 2 * s + 1 → x'.2.1 21 c = nI (sgm (fun j => if B'.toInt - s + j < B.toInt - s + c then T j else 0) (2 * s + 1)) := by
  intro k
  induction k with
  | zero =>
    intro v f x hk hf h0 h20 h21
    obtain ⟨f, rfl⟩ : ∃ z, f = z + 1 := ⟨f - 1, by omega⟩
    have e : v = 2 * s + 1 := by omega
    subst e
    refine ⟨x, ?_, h0, h21⟩
    show BX0_lengthenTails_2 _ _ _ _ x = _
    unfold BX0_lengthenTails_2
    rw [va16 (h0.1 ▸ e16 : x.1 16 6 = nI s), Option.bind_some, if_pos (Int32.le_refl _)]
  | succ k ih =>
    intro v f x hk hf h0 h20 h21
    obtain ⟨f, rfl⟩ : ∃ z, f = z + 1 := ⟨f - 1, by omega⟩
    have hlt : ¬ nI (2 * s + 1) ≤ nI v := by
      rw [nI_lei (by omega) (by omega)]
      omega
    obtain ⟨x1, l1, l2, l3, l4, l5⟩ := long_in (B := B) (B' := B') (T := T) (v := v) hs e16 hB hB' (by omega) (2 * s + 1) 0 NF (xsA x 21 v 0) (by omega) (by unfold NF; omega) (h0.tr (s20.A1 _ _ _)) h20 (by
      show (if v = v then _ else _) = _
      rw [if_pos rfl]
      rfl)
    have l1 : LX0_lengthenTails_20 B B' (nI v) NF 0 (xsA x 21 v 0) = some x1 := l1
    obtain ⟨x', m1, m2, m3⟩ := ih (v + 1) f x1 (by omega) (by omega) l2 l3 (fun c hc => by
      by_cases q : c = v
      · rw [q]
        exact l4
      · rw [l5 c q]
        show (if c = v then _ else x.2.1 21 c) = _
        rw [if_neg q]
        exact h21 c (by omega))
    refine ⟨x', ?_, m2, m3⟩
    show BX0_lengthenTails_2 _ _ _ _ x = _
    unfold BX0_lengthenTails_2
    rw [va16 (h0.1 ▸ e16 : x.1 16 6 = nI s), Option.bind_some, if_neg hlt, if_pos (ib_nI (by omega) (by decide)), cl_nI (by omega)]
    simp only [lt, l1, Option.bind_some, nI_1]
    exact m1
theorem longer8 {x : XS} {B B' : Int32} {T : Nat → Nat} (hs : s ≤ 3) (e16 : x.1 16 6 = nI s) (hB : sm B 214) (hB' : sm B' 214) (h20 : ∀ c, c < 2 * s + 1 → x.2.1 20 c = nI (T c)) : ∃ x', fX0_lengthenTails x B B' = some x' ∧ s20 x x' ∧ ∀ c, c < 2 * s + 1 → x'.2.1 20 c = nI (sgm (fun j => if B'.toInt - s + j < B.toInt - s + c then T j else 0) (2 * s + 1)) := by
  obtain ⟨x1, l1, l2, l3⟩ := long_out (B := B) (B' := B') (T := T) hs e16 hB hB' (2 * s + 1) 0 NF x (by omega) (by unfold NF; omega) (s20.rf x) h20 (fun c hc => absurd hc (Nat.not_lt_zero c))
  have l1 : LX0_lengthenTails_2 B B' NF 0 x = some x1 := l1
  have hc : (nI (2 * s + 1)).toNatClampNeg = 2 * s + 1 := cl_nI (by omega)
  have h0 : (0 : Int32).toNatClampNeg = 0 := rfl
  have n0 : ¬ nI (2 * s + 1) < 0 := by
    rw [show (0 : Int32) = nI 0 from rfl, nI_lti (by omega) (by decide)]
    omega
  refine ⟨xsF x1 20 (va_cpy (x1.2.1 21) (x1.2.1 20) 0 0 (2 * s + 1)), ?_, l2.tr (s20.F0 _ _), fun c hc2 => ?_⟩
  · unfold fX0_lengthenTails cpF
    rw [l1, Option.bind_some, va16 (l2.1 ▸ e16 : x1.1 16 6 = nI s), Option.bind_some, hc, h0, if_pos ⟨by decide, by decide, n0, by omega, by omega⟩]
    rfl
  · show va_cpy (x1.2.1 21) (x1.2.1 20) 0 0 (2 * s + 1) c = _
    rw [pk_cpy_in (Nat.zero_le _) (by omega), show 0 + (c - 0) = c by omega]
    exact l3 c hc2
theorem tails8 {x0 : XS} {L : List Nat} {len : Nat} {B : Nat → Int32} (hs : s ≤ 3) (e16 : x0.1 16 6 = nI s) (hlen : len ≤ 5) (e23 : ∀ j, j < len → x0.2.1 23 j = nI (L.getD j 0)) (hL : ∀ j, j < len → L.getD j 0 < 10) (e17 : ∀ j, j < len → x0.2.1 17 (L.getD j 0) = B j) (hB : ∀ j, j < len → sm (B j) 214) : ∀ (p m f : Nat) (x : XS), p + (m + 1) = len → p < f → s20 x0 x → (∀ c, c < 2 * s + 1 → x.2.1 20 c = nI (chn s (lst (fun j => (B j).toInt) (p + 1) m) ((B p).toInt - s + c))) → ∃ x', LX0_casesInOrder_25 f (nI p - 1) x = some x' ∧ s20 x0 x' ∧ ∀ c, c < 2 * s + 1 → x'.2.1 20 c = nI (chn s (lst (fun j => (B j).toInt) 1 (len - 1)) ((B 0).toInt - s + c)) := by
  intro p
  induction p with
  | zero =>
    intro m f x hm hf h0 h20
    obtain ⟨f, rfl⟩ : ∃ z, f = z + 1 := ⟨f - 1, by omega⟩
    have e : m = len - 1 := by omega
    subst e
    refine ⟨x, ?_, h0, h20⟩
    show BX0_casesInOrder_25 _ (nI 0 - 1) x = _
    unfold BX0_casesInOrder_25
    rw [if_pos (by decide)]
  | succ p ih =>
    intro m f x hm hf h0 h20
    obtain ⟨f, rfl⟩ : ∃ z, f = z + 1 := ⟨f - 1, by omega⟩
    have n0 : ¬ nI p < 0 := by
      rw [show (0 : Int32) = nI 0 from rfl, nI_lti (by omega) (by decide)]
      omega
    have f23 : ∀ j, j < len → x.2.1 23 j = nI (L.getD j 0) := fun j hj => by
      rw [h0.2.1 23 (by decide) (by decide)]
      exact e23 j hj
    have f17 : ∀ j, j < len → x.2.1 17 (L.getD j 0) = B j := fun j hj => by
      rw [h0.2.1 17 (by decide) (by decide)]
      exact e17 j hj
    obtain ⟨x1, l1, l2, l3⟩ := longer8 (x := x) (B := B p) (B' := B (p + 1)) (T := fun c => chn s (lst (fun j => (B j).toInt) (p + 1 + 1) m) ((B (p + 1)).toInt - s + c)) hs (h0.1 ▸ e16 : x.1 16 6 = nI s) (hB p (by omega)) (hB (p + 1) (by omega)) h20
    obtain ⟨x', m1, m2, m3⟩ := ih (m + 1) f x1 (by omega) (by omega) (h0.tr l2) l3
    refine ⟨x', ?_, m2, m3⟩
    rw [nI_pred]
    show BX0_casesInOrder_25 _ (nI p) x = _
    have hb1 : ib (nI p) 5 := ib_nI (by omega) (by decide)
    have hc1 : (nI p).toNatClampNeg = p := cl_nI (by omega)
    have hb2 : ib (nI (p + 1)) 5 := ib_nI (by omega) (by decide)
    have hc2 : (nI (p + 1)).toNatClampNeg = p + 1 := cl_nI (by omega)
    have hb3 : ib (nI (L.getD p 0)) 10 := ib_nI (hL p (by omega)) (by decide)
    have hc3 : (nI (L.getD p 0)).toNatClampNeg = L.getD p 0 := cl_nI (by have := hL p (by omega); omega)
    have hb4 : ib (nI (L.getD (p + 1) 0)) 10 := ib_nI (hL (p + 1) (by omega)) (by decide)
    have hc4 : (nI (L.getD (p + 1) 0)).toNatClampNeg = L.getD (p + 1) 0 := cl_nI (by have := hL (p + 1) (by omega); omega)
    unfold BX0_casesInOrder_25
    rw [if_neg n0]
    simp only [if_pos hb1, hc1, nI_1, if_pos hb2, hc2, f23 p (by omega), f23 (p + 1) (by omega), if_pos hb3, hc3, if_pos hb4, hc4, f17 p (by omega), f17 (p + 1) (by omega), l1, Option.bind_some, lt]
    rw [show nI p + (-1) = nI p - 1 from (Int32.sub_eq_add_neg _ _).symm]
    exact m1
theorem total8 {x : XS} {T : Nat → Nat} (hs : s ≤ 3) (e16 : x.1 16 6 = nI s) (h20 : ∀ c, c < 2 * s + 1 → x.2.1 20 c = nI (T c)) : ∀ (k c f : Nat), c + k = 2 * s + 1 → k < f → LX0_casesInOrder_62 x f (nI (sgm T c)) (nI c) = some (nI (sgm T (2 * s + 1))) := by
  intro k
  induction k with
  | zero =>
    intro c f hk hf
    obtain ⟨f, rfl⟩ : ∃ z, f = z + 1 := ⟨f - 1, by omega⟩
    have e : c = 2 * s + 1 := by omega
    subst e
    show BX0_casesInOrder_62 x _ _ _ = _
    unfold BX0_casesInOrder_62
    rw [va16 e16, Option.bind_some, if_pos (Int32.le_refl _)]
  | succ k ih =>
    intro c f hk hf
    obtain ⟨f, rfl⟩ : ∃ z, f = z + 1 := ⟨f - 1, by omega⟩
    have hlt : ¬ nI (2 * s + 1) ≤ nI c := by
      rw [nI_lei (by omega) (by omega)]
      omega
    show BX0_casesInOrder_62 x _ _ _ = _
    unfold BX0_casesInOrder_62
    rw [va16 e16, Option.bind_some, if_neg hlt, if_pos (ib_nI (by omega) (by decide)), cl_nI (by omega), h20 c (by omega), nI_ad]
    simp only [lt, nI_1]
    exact ih (c + 1) f (by omega) (by omega)
theorem order8 {x : XS} {L : List Nat} {len : Nat} {B : Nat → Int32} (hF : F < 1024) (e5 : x.1 16 5 = nI F) (hs : s ≤ 3) (e16 : x.1 16 6 = nI s) (hlen1 : 1 ≤ len) (hlen : len ≤ 5) (hm : many F = len) (e23 : ∀ j, j < len → x.2.1 23 j = nI (L.getD j 0)) (hL : ∀ j, j < len → L.getD j 0 < 10) (e17 : ∀ j, j < len → x.2.1 17 (L.getD j 0) = B j) (hB : ∀ j, j < len → sm (B j) 214) : ∃ x', fX0_casesInOrder x = some (nI (chn s (lst (fun j => (B j).toInt) 0 len) 1000000), x') ∧ s20 x x' := by
  have im : imin (nI len) 5 = nI len := by
    show (if 5 < nI len then 5 else nI len) = nI len
    rw [if_neg (by rw [show (5 : Int32) = nI 5 from rfl, nI_lti (by decide) (by omega)]; omega)]
  have e2 : nI len - 2 = nI (len - 1) - 1 := by
    have : len = 1 ∨ len = 2 ∨ len = 3 ∨ len = 4 ∨ len = 5 := by omega
    rcases this with rfl | rfl | rfl | rfl | rfl <;> rfl
  obtain ⟨x2, m1, m2, m3⟩ := tails8 (x0 := x) hs e16 hlen e23 hL e17 hB (len - 1) 0 NF (xsF x 20 (fun _ => 1)) (by omega) (by unfold NF; omega) (s20.F0 x _) (fun c hc => rfl)
  have e16' : x2.1 16 6 = nI s := m2.1 ▸ e16
  have t := total8 (T := fun c => chn s (lst (fun j => (B j).toInt) 1 (len - 1)) ((B 0).toInt - s + c)) hs e16' m3 (2 * s + 1) 0 NF (by omega) (by unfold NF; omega)
  have t : LX0_casesInOrder_62 x2 NF 0 0 = _ := t
  have el : lst (fun j => (B j).toInt) 0 len = (B 0).toInt :: lst (fun j => (B j).toInt) 1 (len - 1) := by
    obtain ⟨m, rfl⟩ : ∃ m, len = m + 1 := ⟨len - 1, by omega⟩
    rfl
  have b0 := hB 0 (by omega)
  have ec : chn s (lst (fun j => (B j).toInt) 0 len) 1000000 = sgm (fun c => chn s (lst (fun j => (B j).toInt) 1 (len - 1)) ((B 0).toInt - s + c)) (2 * s + 1) := by
    rw [el]
    refine sgm_congr _ (fun c hc => ?_)
    unfold sm at b0
    rw [if_pos (by omega)]
  refine ⟨x2, ?_, m2⟩
  unfold fX0_casesInOrder
  rw [e5, bc10 hF, Option.bind_some, hm, im]
  simp only [lt]
  rw [e2, m1, Option.bind_some, t, Option.bind_some, ec]
theorem set9 {y : MS} {L : List Nat} {len : Nat} {q1 q2 q4 : Int32} (hlen : len ≤ 5) (e19 : y.1 0 19 = nI len) (e13 : ∀ j, j < len → y.2.1 13 j = nI (L.getD j 0)) : ∀ (l : List Nat) (c a g : Nat), c + l.length = len → (∀ j, j < l.length → l.getD j 0 = L.getD (c + j) 0 ∧ l.getD j 0 < 10) → a < 1024 → l.length < g → LX9_comes_41 y q1 q2 q4 g (nI a) (nI c) = some (nI (a ||| orl l)) := by
  intro l
  induction l with
  | nil =>
    intro c a g hc hl ha hg
    obtain ⟨g, rfl⟩ : ∃ z, g = z + 1 := ⟨g - 1, by omega⟩
    have e : c = len := hc
    subst e
    show BX9_comes_41 y _ _ _ _ _ (nI c) = _
    unfold BX9_comes_41
    rw [e19, if_pos (Int32.le_refl _)]
    show _ = some (nI (a ||| 0))
    rw [Nat.or_zero]
  | cons h l ih =>
    intro c a g hc hl ha hg
    have hc : c + (l.length + 1) = len := hc
    have hg : l.length + 1 < g := hg
    obtain ⟨g, rfl⟩ : ∃ z, g = z + 1 := ⟨g - 1, by omega⟩
    have hlt : ¬ nI len ≤ nI c := by
      rw [nI_lei (by omega) (by omega)]
      omega
    obtain ⟨h1, h2⟩ := hl 0 (Nat.succ_pos _)
    have h1 : h = L.getD c 0 := h1
    have h2 : h < 10 := h2
    obtain ⟨o1, o2, -, -⟩ := or10 a ha h h2
    show BX9_comes_41 y _ _ _ _ _ (nI c) = _
    unfold BX9_comes_41
    rw [e19, if_neg hlt, if_pos (ib_nI (by omega) (by decide)), cl_nI (by omega), e13 c (by omega), ← h1, o1]
    simp only [lt, nI_1]
    rw [ih (c + 1) (a ||| 2 ^ h) g (by omega) (fun j hj => by
      obtain ⟨a1, a2⟩ := hl (j + 1) (Nat.succ_lt_succ hj)
      refine ⟨?_, a2⟩
      rw [show c + 1 + j = c + (j + 1) by omega, ← a1]
      rfl) o2 (by omega), Nat.or_assoc]
    rfl
end COMES
theorem s_comes : ST6 Rl := by
  intro x y a1 a2 a3 a4 hr
  obtain ⟨own, n, r, t, u, h⟩ := id hr
  have hn := h.n10
  unfold fX8_comes fX9_comes
  rw [wh8, wh9, pt8, pt9]
  simp only [Option.bind_some, decide_eq_true_eq]
  rcases isField89 h a1 with ⟨⟨F, rfl, F0, F1, F2⟩, e1, e2⟩ | ⟨-, e1, e2⟩
  · rw [e1, e2]
    simp only [Option.bind_some, if_true]
    have hF : F < 1024 := by
      have h2 : 2 ^ n ≤ 2 ^ 10 := Nat.pow_le_pow_right (by decide) hn
      have e : (2 : Nat) ^ 10 = 1024 := by decide
      omega
    rcases of400 a2 with c | ⟨W, hW, rfl, c, ed, em⟩
    · rw [if_neg c, if_neg c]
      exact ⟨_, _, _, rfl, rfl, hr⟩
    · rw [if_pos c, if_pos c]
      rcases ord89 h a3 with ⟨x', y', b, o1, o2, o3, o4, o5⟩ | ⟨x', y', s', F', L, o1, o2, o3, o4, s1, s5, F10, mF, eF, eL, hL, e19, l8, l9⟩
      · have nF : ¬ (0 : Int32) = nI F := by
          rw [show (0 : Int32) = nI 0 from rfl, nI_eqi (by decide) (by omega)]
          omega
        rw [o1, o2]
        simp only [bind2, if_neg nF]
        rcases o5 with rfl | o5
        · rw [if_neg (by decide)]
          exact ⟨_, _, _, rfl, rfl, hr.keep o3 o4⟩
        · cases b
          · rw [if_neg (by decide)]
            exact ⟨_, _, _, rfl, rfl, hr.keep o3 o4⟩
          · rw [if_pos rfl]
            by_cases c6 : 0 ≤ a4 ∧ a4 ≤ 1
            · have ls : LX9_comes_41 y' (nI F) (nI W) a4 NF 0 0 = some 0 := by
                show BX9_comes_41 y' _ _ _ _ 0 0 = _
                unfold BX9_comes_41
                rw [o5, if_pos (by decide)]
              rw [if_pos c6, ls, Option.bind_some, if_neg nF]
              exact ⟨_, _, _, rfl, rfl, hr.keep o3 o4⟩
            · rw [if_neg c6]
              exact ⟨_, _, _, rfl, rfl, hr.keep o3 o4⟩
      · have ls : LX9_comes_41 y' (nI F) (nI W) a4 NF 0 0 = some (nI F') := by
          have := set9 (y := y') (L := L) (q1 := nI F) (q2 := nI W) (q4 := a4) s5 e19 l9 L 0 0 NF (by omega) (fun j hj => ⟨by rw [Nat.zero_add], by have := hL j (by omega); omega⟩) (by decide) (by unfold NF; omega)
          rw [Nat.zero_or, ← eF] at this
          exact this
        rw [o1, o2]
        simp only [bind2, if_true]
        by_cases c6 : 0 ≤ a4 ∧ a4 ≤ 1
        · simp only [if_pos c6, ls, Option.bind_some]
          by_cases cF : nI F' = nI F
          · have cF2 := (nI_eqi (by omega) (by omega)).mp cF
            subst cF2
            rw [if_pos rfl, if_pos rfl]
            have h2 := h.keep o3 o4
            obtain ⟨s, z, w, p1, p2, cz, p3, p4, p5, p6, p7⟩ := post89 h2 hW F1 F2
            have hs := cz.s3
            have hB : ∀ j, j < s' → sm (z.2.1 17 (L.getD j 0)) 214 := fun j hj => cz.S _ (hL j hj)
            have hL10 : ∀ j, j < s' → L.getD j 0 < 10 := fun j hj => by have := hL j hj; omega
            obtain ⟨z', q1, q2⟩ := order8 (x := z) (L := L) (len := s') (B := fun j => z.2.1 17 (L.getD j 0)) cz.F10 cz.ff hs cz.fs s1 s5 mF (fun j hj => by rw [p3 23 (by decide) (by decide)]; exact l8 j hj) hL10 (fun j hj => rfl) hB
            have q3 := chain9 (w := w) (s := s) (L := L) (len := s') (B := fun j => z.2.1 17 (L.getD j 0)) hs s5 (by rw [p6]; exact e19) cz.ws (fun j hj => by rw [p7 13 (by decide)]; exact l9 j hj) hL10 (fun j hj => cz.B _ (hL j hj) (by rw [eF]; exact orl_in L j (by omega))) hB s' 0 MF 1000000 (by omega) (by unfold MF; omega)
            have q3 : GCh MF 0 w 0 1000000 = some (nL (chn s (lst (fun j => (z.2.1 17 (L.getD j 0)).toInt) 0 s') 1000000)) := q3
            have hle := chn_le s (lst (fun j => (z.2.1 17 (L.getD j 0)).toInt) 0 s') 1000000
            rw [lst_len] at hle
            have h7 : (2 * s + 1) ^ s' ≤ 7 ^ s' := Nat.pow_le_pow_left (by omega) _
            have h75 : 7 ^ s' ≤ 7 ^ 5 := Nat.pow_le_pow_right (by decide) s5
            have e75 : (7 : Nat) ^ 5 = 16807 := by decide
            have cz' : CZ own n r t u (y'.2.1 9) F' s z' w := ⟨cz.R.keep q2.kX (kM.rf _), by rw [q2.1]; exact cz.ff, by rw [q2.1]; exact cz.fs, cz.ws, cz.s3, cz.F1, cz.F2, fun i hi ht => by rw [q2.2.1 17 (by decide) (by decide)]; exact cz.B i hi ht, fun i hi => by rw [q2.2.1 17 (by decide) (by decide)]; exact cz.S i hi⟩
            obtain ⟨K, k1, k2, k3, k4⟩ := cases89 cz'
            obtain ⟨v, v1, v2⟩ := lowest89 (a := chn s (lst (fun j => (z.2.1 17 (L.getD j 0)).toInt) 0 s') 1000000) (b := K) (by omega) (by omega) (by omega) a4
            rw [p1, p2, Option.bind_some, Option.bind_some, q1, q3]
            simp only [k1, k2, Option.bind_some, v1, v2]
            exact ⟨_, _, _, rfl, rfl, own, n, r, t, u, cz'.back (fun j hj => by rw [p7 9 (by decide)])⟩
          · rw [if_neg cF, if_neg cF]
            exact ⟨_, _, _, rfl, rfl, hr.keep o3 o4⟩
        · simp only [if_neg c6]
          by_cases cF : nI F' = nI F
          · rw [if_pos cF]
            exact ⟨_, _, _, rfl, rfl, hr.keep o3 o4⟩
          · rw [if_neg cF]
            exact ⟨_, _, _, rfl, rfl, hr.keep o3 o4⟩
  · rw [e1, e2]
    exact ⟨_, _, _, rfl, rfl, hr⟩
