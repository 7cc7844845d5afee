/-! both readers go alike -/
def STp (f : Nat → Int32) (M base : Nat) (x0 : XS) (y0 : MS) (q0 L0 o N : Nat) (x : XS) (y : MS) (v : Int32) (q : Nat) : Prop := ∃ c : List Int32, PR f M base x y q ∧ y.1 0 29 = 0 ∧ y.1 0 28 = nI o ∧ q0 + c.length ≤ q ∧ x.1 6 3 = nI (L0 + c.length) ∧ (∀ i, i < c.length → x.2.1 7 (L0 + i) = c.getD i 0) ∧ (∀ i, i < L0 → x.2.1 7 i = x0.2.1 7 i) ∧ GC (envP y0) c v N ∧ 1 ≤ c.length
def OKs (f : Nat → Int32) (M base : Nat) (x0 : XS) (y0 : MS) (q0 L0 o N : Nat) (x : XS) (y : MS) (v : Int32) : Prop := ∃ q, STp f M base x0 y0 q0 L0 o N x y v q
def NOs (x' : XS) (y' : MS) : Prop := y'.1 0 29 = 1 ∧ y'.1 0 30 = x'.1 4 2 ∧ ∃ L', L' ≤ 160 ∧ x'.1 6 3 = nI L'
def SIM (f : Nat → Int32) (M base o N : Nat) (r8 : XS → Int32 → Option (Bool × XS)) (r9 : MS → Option (Int32 × MS)) : Prop := ∀ (x : XS) (y : MS) (q L h : Nat), PR f M base x y q → y.1 0 29 = 0 → y.1 0 28 = nI o → x.1 6 3 = nI L → L ≤ q → h < 10 → y.1 0 31 = nI h → ∃ b x' v y', r8 x (nI o) = some (b, x') ∧ r9 y = some (v, y') ∧ XF x x' ∧ YF y y' ∧ ((b = true ∧ OKs f M base x y q L o N x' y' v) ∨ (b = false ∧ NOs x' y'))
theorem PR.w {f : Nat → Int32} {M base q : Nat} {x x' : XS} {y : MS} (h : PR f M base x y q) (h4 : x'.1 4 = x.1 4) (h5 : x'.2.1 5 = x.2.1 5) : PR f M base x' y q := ⟨⟨by rw [h4]; exact h.X.m, fun i hi => by rw [h5]; exact h.X.b i hi⟩, h.Y, by rw [h4]; exact h.sx, h.sy, h.qM, by rw [h4]; exact h.tk, by rw [h4]; exact h.ps⟩
theorem PR.s28 {f : Nat → Int32} {M base q : Nat} {x : XS} {y : MS} (h : PR f M base x y q) (v : Int32) : PR f M base x (msS y 0 28 v) q := ⟨h.X, ⟨h.Y.m, h.Y.s, h.Y.b, h.Y.le⟩, h.sx, h.sy, h.qM, h.tk, h.ps⟩
section SIMS
variable {f : Nat → Int32} {M base o N K : Nat}
theorem STp.up {x0 x : XS} {y0 y : MS} {q0 L0 q : Nat} {v : Int32} (h : STp f M base x0 y0 q0 L0 o K x y v q) (hk : K ≤ N) : STp f M base x0 y0 q0 L0 o N x y v q := by
  obtain ⟨c, h1, h2, h3, h4, h5, h6, h7, h8, h9⟩ := h
  exact ⟨c, h1, h2, h3, h4, h5, h6, h7, h8.up hk, h9⟩
theorem bin_step {rc8 : XS → Int32 → Option (Bool × XS)} {rc9 : MS → Option (Int32 × MS)} (hM : M ≤ 160) (hf : ∀ i, i < M → 0 ≤ f i) (S : SIM f M base o K rc8 rc9) (hK : K + 1 ≤ N) (h2 : 2 ≤ N) {x0 x : XS} {y0 y : MS} {q0 L0 h q : Nat} {v t : Int32} (hL0 : L0 ≤ q0) (hh : h < 10) (h31 : y0.1 0 31 = nI h) (st : STp f M base x0 y0 q0 L0 o N x y v q) (xf : XF x0 x) (yf : YF y0 y) (ht : x.1 4 4 = t) (hb : bop t) : q < M ∧ ∃ x4 y4 b x7 w y7 x9, fX6_advance x = some x4 ∧ fX9_next y = some y4 ∧ rc8 x4 (nI o) = some (b, x7) ∧ rc9 y4 = some (w, y7) ∧ fX4_write x7 t = some x9 ∧ XF x0 x9 ∧ YF y0 y7 ∧ ((b = true ∧ ∃ q', q < q' ∧ STp f M base x0 y0 q0 L0 o N x9 y7 (jn t v w) q') ∨ (b = false ∧ NOs x9 y7)) := by
  obtain ⟨c, P, b0, o28, hq, e63, ent, pre, G, c1⟩ := st
  have t1 : x.1 4 4 ≠ -35 := by
    rw [ht]
    rcases hb with rfl | rfl | rfl | rfl | rfl | rfl | rfl <;> decide
  have t2 : x.1 4 4 ≠ -36 := by
    rw [ht]
    rcases hb with rfl | rfl | rfl | rfl | rfl | rfl | rfl <;> decide
  obtain ⟨qM, x4, y4, q4, a1, a2, a3, a4, a5, a6⟩ := P.adv hM hf t1 t2
  have b4 : y4.1 0 29 = 0 := (a4.2 29 (by decide) (by decide) (by decide)).trans b0
  have o4 : y4.1 0 28 = nI o := (a4.2 28 (by decide) (by decide) (by decide)).trans o28
  have e4 : x4.1 6 3 = nI (L0 + c.length) := by
    rw [a3.1 6 (by decide)]
    exact e63
  have y031 : y4.1 0 31 = nI h := ((yf.tr a4.yf).2 31 (by decide)).trans h31
  obtain ⟨b, x7, w, y7, r1, r2, r3, r4, r5⟩ := S x4 y4 q4 (L0 + c.length) h a5 b4 o4 e4 (by omega) hh y031
  refine ⟨qM, x4, y4, b, x7, w, y7, ?_⟩
  rcases r5 with ⟨rfl, q7, c2, P7, b7, o7, hq7, e7, ent7, pre7, G7, c27⟩ | ⟨rfl, n1, n2, L', n3, n4⟩
  · have q7M := P7.qM
    have hL : L0 + c.length + c2.length < 160 := by omega
    refine ⟨_, a1, a2, r1, r2, wr8 e7 hL t, ((xf.tr a3.xf).tr r3).tr (wr8_xf _ _ _ _), (yf.tr a4.yf).tr r4, Or.inl ⟨rfl, q7, by omega, c ++ (c2 ++ [t]), P7.w rfl rfl, b7, o7, ?_, ?_, fun i hi => ?_, fun i hi => ?_, G.bin ?_ hK h2 hb, ?_⟩⟩
    · rw [List.length_append, List.length_append]
      show q0 + (c.length + (c2.length + 1)) ≤ q7
      omega
    · rw [List.length_append, List.length_append]
      show nI (L0 + c.length + c2.length + 1) = nI (L0 + (c.length + (c2.length + 1)))
      congr 1
      omega
    · rw [List.length_append, List.length_append] at hi
      have hi : i < c.length + (c2.length + 1) := hi
      show (if L0 + i = L0 + c.length + c2.length then t else x7.2.1 7 (L0 + i)) = _
      by_cases q1 : i < c.length
      · rw [if_neg (by omega), pre7 (L0 + i) (by omega), a3.2.2, ent i q1, gd_l q1]
      · obtain ⟨j, rfl⟩ : ∃ j, i = c.length + j := ⟨i - c.length, by omega⟩
        rw [gd_r]
        by_cases q2 : j < c2.length
        · rw [if_neg (by omega), gd_l q2, ← ent7 j q2]
          exact congrArg (x7.2.1 7) (by omega)
        · have : j = c2.length + 0 := by omega
          rw [if_pos (by omega), this, gd_r]
          rfl
    · show (if i = L0 + c.length + c2.length then t else x7.2.1 7 i) = _
      rw [if_neg (by omega), pre7 i (by omega), a3.2.2]
      exact pre i hi
    · rw [envP_eq (yf.tr a4.yf)] at G7
      exact G7
    · rw [List.length_append]
      omega
  · obtain ⟨x9, m1, m2, m3, m4⟩ := wr8any n4 n3 t
    refine ⟨x9, a1, a2, r1, r2, m1, ((xf.tr a3.xf).tr r3).tr m2, (yf.tr a4.yf).tr r4, Or.inr ⟨rfl, n1, ?_, m4⟩⟩
    rw [m3]
    exact n2
theorem bin_loop {ops : Int32 → Prop} {rc8 : XS → Int32 → Option (Bool × XS)} {rc9 : MS → Option (Int32 × MS)} {LB : Nat → Bool → Int32 → XS → Option (Bool × XS)} {LB9 : Nat → Int32 → MS → Option (Int32 × MS)} (hM : M ≤ 160) (hf : ∀ i, i < M → 0 ≤ f i) (S : SIM f M base o K rc8 rc9) (hK : K + 1 ≤ N) (h2 : 2 ≤ N) (hop : ∀ t, ops t → bop t)
    (f0 : ∀ fu u3 x, LB (fu + 1) false u3 x = some (false, x))
    (f1 : ∀ fu u3 x, ¬ ops (x.1 4 4) → LB (fu + 1) true u3 x = some (true, x))
    (f2 : ∀ fu j x, j < 160 → ops (x.1 4 4) → LB (fu + 1) true (nI j) x = Option.bind (fX6_advance x) fun x4 => bind2 (rc8 x4 (nI o)) fun v6 x7 => Option.bind (fX4_write x7 (x.1 4 4)) fun x9 => LB fu v6 (nI (j + 1)) x9)
    (g0 : ∀ g u y, y.1 0 29 = 1 → LB9 (g + 1) u y = some (u, y))
    (g1 : ∀ g u x y q, PR f M base x y q → y.1 0 29 = 0 → ¬ ops (x.1 4 4) → LB9 (g + 1) u y = some (u, y))
    (g2 : ∀ g u x y q, PR f M base x y q → y.1 0 29 = 0 → ops (x.1 4 4) → LB9 (g + 1) u y = Option.bind (fX9_next y) fun x6 => bind2 (rc9 x6) fun v8 x9 => LB9 g (jn (x.1 4 4) u v8) x9)
    {x0 : XS} {y0 : MS} {q0 L0 h : Nat} (hL0 : L0 ≤ q0) (hh : h < 10) (h31 : y0.1 0 31 = nI h) : ∀ (k fu g j : Nat) (x : XS) (y : MS) (q : Nat) (v : Int32), M - q ≤ k → k + 1 < fu → k + 1 < g → j ≤ q → STp f M base x0 y0 q0 L0 o N x y v q → XF x0 x → YF y0 y → ∃ b x' v' y', LB fu true (nI j) x = some (b, x') ∧ LB9 g v y = some (v', y') ∧ XF x0 x' ∧ YF y0 y' ∧ ((b = true ∧ OKs f M base x0 y0 q0 L0 o N x' y' v') ∨ (b = false ∧ NOs x' y')) := by
  have stop : ∀ (fu g j : Nat) (x : XS) (y : MS) (q : Nat) (v : Int32), 0 < fu → 0 < g → STp f M base x0 y0 q0 L0 o N x y v q → XF x0 x → YF y0 y → ¬ ops (x.1 4 4) → ∃ b x' v' y', LB fu true (nI j) x = some (b, x') ∧ LB9 g v y = some (v', y') ∧ XF x0 x' ∧ YF y0 y' ∧ ((b = true ∧ OKs f M base x0 y0 q0 L0 o N x' y' v') ∨ (b = false ∧ NOs x' y')) := by
    intro fu g j x y q v hfu hg st xf yf c
    obtain ⟨fu, rfl⟩ : ∃ z, fu = z + 1 := ⟨fu - 1, by omega⟩
    obtain ⟨g, rfl⟩ : ∃ z, g = z + 1 := ⟨g - 1, by omega⟩
    obtain ⟨cc, P, b0, -⟩ := id st
    exact ⟨true, x, v, y, f1 _ _ _ c, g1 _ _ x y q P b0 c, xf, yf, Or.inl ⟨rfl, q, st⟩⟩
  intro k
  induction k with
  | zero =>
    intro fu g j x y q v hk hfu hg hj st xf yf
    by_cases c : ops (x.1 4 4)
    · obtain ⟨qM, -⟩ := bin_step hM hf S hK h2 hL0 hh h31 st xf yf rfl (hop _ c)
      omega
    · exact stop fu g j x y q v (by omega) (by omega) st xf yf c
  | succ k ih =>
    intro fu g j x y q v hk hfu hg hj st xf yf
    by_cases c : ops (x.1 4 4)
    · obtain ⟨fu, rfl⟩ : ∃ z, fu = z + 1 := ⟨fu - 1, by omega⟩
      obtain ⟨g, rfl⟩ : ∃ z, g = z + 1 := ⟨g - 1, by omega⟩
      obtain ⟨cc, P, b0, -⟩ := id st
      obtain ⟨qM, x4, y4, b, x7, w, y7, x9, a1, a2, a3, a4, a5, a6, a7, a8⟩ := bin_step hM hf S hK h2 hL0 hh h31 st xf yf rfl (hop _ c)
      rw [f2 fu j x (by omega) c, g2 g v x y q P b0 c, a1, a2, Option.bind_some, Option.bind_some, a3, a4]
      simp only [bind2, a5, Option.bind_some]
      rcases a8 with ⟨rfl, q', hq, st'⟩ | ⟨rfl, no⟩
      · exact ih fu g (j + 1) x9 y7 q' _ (by omega) (by omega) (by omega) (by omega) st' a6 a7
      · obtain ⟨fu, rfl⟩ : ∃ z, fu = z + 1 := ⟨fu - 1, by omega⟩
        obtain ⟨g, rfl⟩ : ∃ z, g = z + 1 := ⟨g - 1, by omega⟩
        exact ⟨false, x9, _, y7, f0 _ _ _, g0 _ _ _ no.1, a6, a7, Or.inr ⟨rfl, no⟩⟩
    · exact stop fu g j x y q v (by omega) (by omega) st xf yf c
theorem bin_sim {ops : Int32 → Prop} {rc8 r8 : XS → Int32 → Option (Bool × XS)} {rc9 r9 : MS → Option (Int32 × MS)} {LB : Nat → Bool → Int32 → XS → Option (Bool × XS)} {LB9 : Nat → Int32 → MS → Option (Int32 × MS)} (hM : M ≤ 160) (hf : ∀ i, i < M → 0 ≤ f i) (S : SIM f M base o K rc8 rc9) (hK : K + 1 ≤ N) (h2 : 2 ≤ N) (hop : ∀ t, ops t → bop t)
    (f0 : ∀ fu u3 x, LB (fu + 1) false u3 x = some (false, x))
    (f1 : ∀ fu u3 x, ¬ ops (x.1 4 4) → LB (fu + 1) true u3 x = some (true, x))
    (f2 : ∀ fu j x, j < 160 → ops (x.1 4 4) → LB (fu + 1) true (nI j) x = Option.bind (fX6_advance x) fun x4 => bind2 (rc8 x4 (nI o)) fun v6 x7 => Option.bind (fX4_write x7 (x.1 4 4)) fun x9 => LB fu v6 (nI (j + 1)) x9)
    (g0 : ∀ g u y, y.1 0 29 = 1 → LB9 (g + 1) u y = some (u, y))
    (g1 : ∀ g u x y q, PR f M base x y q → y.1 0 29 = 0 → ¬ ops (x.1 4 4) → LB9 (g + 1) u y = some (u, y))
    (g2 : ∀ g u x y q, PR f M base x y q → y.1 0 29 = 0 → ops (x.1 4 4) → LB9 (g + 1) u y = Option.bind (fX9_next y) fun x6 => bind2 (rc9 x6) fun v8 x9 => LB9 g (jn (x.1 4 4) u v8) x9)
    (e8 : ∀ x, r8 x (nI o) = bind2 (rc8 x (nI o)) fun v1 x2 => bind2 (LB NF v1 0 x2) fun v12 x13 => some (v12, x13))
    (e9 : ∀ y, r9 y = bind2 (rc9 y) fun v1 x2 => bind2 (LB9 NF v1 x2) fun v11 x12 => some (v11, x12)) : SIM f M base o N r8 r9 := by
  intro x y q L h P b0 o28 e63 hL hh h31
  obtain ⟨b, x1, v, y1, r1, r2, r3, r4, r5⟩ := S x y q L h P b0 o28 e63 hL hh h31
  rw [e8, e9, r1, r2]
  simp only [bind2]
  rcases r5 with ⟨rfl, q1, st⟩ | ⟨rfl, no⟩
  · have qM := P.qM
    obtain ⟨b, x', v', y', l1, l2, l3, l4, l5⟩ := bin_loop hM hf S hK h2 hop f0 f1 f2 g0 g1 g2 hL hh h31 (M - q1) NF NF 0 x1 y1 q1 v (Nat.le_refl _) (by unfold NF; omega) (by unfold NF; omega) (Nat.zero_le _) (st.up (by omega)) r3 r4
    have l1 : LB NF true 0 x1 = some (b, x') := l1
    rw [l1, l2]
    exact ⟨b, x', v', y', rfl, rfl, l3, l4, l5⟩
  · have l1 : LB NF false 0 x1 = some (false, x1) := f0 999 0 x1
    have l2 : LB9 NF v y1 = some (v, y1) := g0 999 v y1 no.1
    rw [l1, l2]
    exact ⟨false, x1, v, y1, rfl, rfl, r3, r4, Or.inr ⟨rfl, no⟩⟩
theorem n160 {j : Nat} (hj : j < 160) : ¬ (160 : Int32) ≤ nI j := by
  rw [show (160 : Int32) = nI 160 from rfl, nI_lei (by decide) (by omega)]
  omega
theorem sim_term (hM : M ≤ 160) (hf : ∀ i, i < M → 0 ≤ f i) {n m : Nat} (S : SIM f M base o K (GRd n 6) (GPar m 5)) (hK : K + 1 ≤ N) (h2 : 2 ≤ N) : SIM f M base o N (GRd (n + 1) 5) (GPar (m + 1) 4) := by
  refine bin_sim (ops := fun t => t = -23) (LB := LX4_readTerm_8 (GRd n) (nI o)) (LB9 := LX9_term_5 (GPar m)) hM hf S hK h2 (fun t ht => by rw [ht]; unfold bop; decide) (fun fu u3 x => ?_) (fun fu u3 x c => ?_) (fun fu j x hj c => ?_) (fun g u y b => ?_) (fun g u x y q P b c => ?_) (fun g u x y q P b c => ?_) (fun _ => rfl) (fun _ => rfl)
  · show BX4_readTerm_8 _ _ _ false u3 x = _
    unfold BX4_readTerm_8
    rw [if_neg (show ¬ (false = true) by decide)]
    split <;> rfl
  · show BX4_readTerm_8 _ _ _ true u3 x = _
    unfold BX4_readTerm_8
    rw [if_pos rfl, if_neg c]
    split <;> rfl
  · have c : x.1 4 4 = -23 := c
    show BX4_readTerm_8 _ _ _ true (nI j) x = _
    unfold BX4_readTerm_8
    rw [if_neg (n160 hj), if_pos rfl, if_pos c, c]
    simp only [lt, nI_1]
  · show BX9_term_5 _ _ u y = _
    unfold BX9_term_5
    rw [sg9b b, Option.bind_some, if_neg (by decide)]
  · show BX9_term_5 _ _ u y = _
    unfold BX9_term_5
    rw [sg9 (c := -23) P b (by decide), decide_eq_false c, Option.bind_some, if_neg (by decide)]
  · have c : x.1 4 4 = -23 := c
    show BX9_term_5 _ _ u y = _
    unfold BX9_term_5
    rw [sg9 (c := -23) P b (by decide), decide_eq_true c, Option.bind_some, if_pos rfl, c]
    rfl
theorem sim_sum (hM : M ≤ 160) (hf : ∀ i, i < M → 0 ≤ f i) {n m : Nat} (S : SIM f M base o K (GRd n 5) (GPar m 4)) (hK : K + 1 ≤ N) (h2 : 2 ≤ N) : SIM f M base o N (GRd (n + 1) 4) (GPar (m + 1) 3) := by
  refine bin_sim (ops := fun t => t = -21 ∨ t = -22) (LB := LX4_readSum_8 (GRd n) (nI o)) (LB9 := LX9_added_5 (GPar m)) hM hf S hK h2 (fun t ht => by rcases ht with rfl | rfl <;> (unfold bop; decide)) (fun fu u3 x => ?_) (fun fu u3 x c => ?_) (fun fu j x hj c => ?_) (fun g u y b => ?_) (fun g u x y q P b c => ?_) (fun g u x y q P b c => ?_) (fun _ => rfl) (fun _ => rfl)
  · show BX4_readSum_8 _ _ _ false u3 x = _
    unfold BX4_readSum_8
    rw [if_neg (show ¬ (false = true) by decide)]
    split <;> rfl
  · show BX4_readSum_8 _ _ _ true u3 x = _
    unfold BX4_readSum_8
    rw [if_pos rfl, if_neg (fun z => c (Or.inl z)), if_neg (fun z => c (Or.inr z))]
    split <;> rfl
  · show BX4_readSum_8 _ _ _ true (nI j) x = _
    unfold BX4_readSum_8
    rw [if_neg (n160 hj), if_pos rfl]
    simp only [lt, nI_1]
    by_cases c1 : x.1 4 4 = -21
    · rw [if_pos c1]
    · rw [if_neg c1, if_pos (c.resolve_left c1)]
  · show BX9_added_5 _ _ u y = _
    unfold BX9_added_5
    rw [sg9b b, sg9b b, Option.bind_some, if_neg (by decide), Option.bind_some, if_neg (by decide)]
  · show BX9_added_5 _ _ u y = _
    unfold BX9_added_5
    rw [sg9 (c := -21) P b (by decide), sg9 (c := -22) P b (by decide), decide_eq_false (fun z => c (Or.inl z)), decide_eq_false (fun z => c (Or.inr z)), Option.bind_some, if_neg (by decide), Option.bind_some, if_neg (by decide)]
  · show BX9_added_5 _ _ u y = _
    unfold BX9_added_5
    rw [sg9 (c := -21) P b (by decide), sg9 (c := -22) P b (by decide)]
    by_cases c1 : x.1 4 4 = -21
    · have w := ((tr_sign (W := 43) P.tk (by decide)).mpr c1).2
      rw [decide_eq_true c1, Option.bind_some, if_pos rfl, if_pos w, c1]
      rfl
    · have c2 := c.resolve_left c1
      have w := ((tr_sign (W := 45) P.tk (by decide)).mpr c2).2
      rw [decide_eq_false c1, decide_eq_true c2, Option.bind_some, if_neg (by decide), Option.bind_some, if_pos rfl, w, if_neg (by decide), c2]
      rfl
theorem sim_and (hM : M ≤ 160) (hf : ∀ i, i < M → 0 ≤ f i) {n m : Nat} (S : SIM f M base o K (GRd n 2) (GPar m 2)) (hK : K + 1 ≤ N) (h2 : 2 ≤ N) : SIM f M base o N (GRd (n + 1) 1) (GPar (m + 1) 1) := by
  refine bin_sim (ops := fun t => t = -15) (LB := LX4_readAnd_8 (GRd n) (nI o)) (LB9 := LX9_both_5 (GPar m)) hM hf S hK h2 (fun t ht => by rw [ht]; unfold bop; decide) (fun fu u3 x => ?_) (fun fu u3 x c => ?_) (fun fu j x hj c => ?_) (fun g u y b => ?_) (fun g u x y q P b c => ?_) (fun g u x y q P b c => ?_) (fun _ => rfl) (fun _ => rfl)
  · show BX4_readAnd_8 _ _ _ false u3 x = _
    unfold BX4_readAnd_8
    rw [if_neg (show ¬ (false = true) by decide)]
    split <;> rfl
  · show BX4_readAnd_8 _ _ _ true u3 x = _
    unfold BX4_readAnd_8
    rw [if_pos rfl, if_neg c]
    split <;> rfl
  · have c : x.1 4 4 = -15 := c
    show BX4_readAnd_8 _ _ _ true (nI j) x = _
    unfold BX4_readAnd_8
    rw [if_neg (n160 hj), if_pos rfl, if_pos c, c]
    simp only [lt, nI_1]
  · show BX9_both_5 _ _ u y = _
    unfold BX9_both_5
    rw [wd9b b, Option.bind_some, if_neg (by decide)]
  · show BX9_both_5 _ _ u y = _
    unfold BX9_both_5
    rw [wd9 (c := -15) P b tokw_15 (by decide), decide_eq_false c, Option.bind_some, if_neg (by decide)]
  · have c : x.1 4 4 = -15 := c
    show BX9_both_5 _ _ u y = _
    unfold BX9_both_5
    rw [wd9 (c := -15) P b tokw_15 (by decide), decide_eq_true c, Option.bind_some, if_pos rfl, c]
    have e : ∀ (v : Int32) (z : MS), (if u = 0 then LX9_both_5 (GPar m) g 0 z else if v = 0 then LX9_both_5 (GPar m) g 0 z else LX9_both_5 (GPar m) g 1 z) = LX9_both_5 (GPar m) g (jn (-15) u v) z := by
      intro v z
      show _ = LX9_both_5 (GPar m) g (if u = 0 then 0 else if v = 0 then 0 else 1) z
      split
      · rfl
      · split <;> rfl
    simp only [e]
theorem sim_or (hM : M ≤ 160) (hf : ∀ i, i < M → 0 ≤ f i) {n m : Nat} (S : SIM f M base o K (GRd n 1) (GPar m 1)) (hK : K + 1 ≤ N) (h2 : 2 ≤ N) : SIM f M base o N (GRd (n + 1) 0) (GPar (m + 1) 0) := by
  refine bin_sim (ops := fun t => t = -14) (LB := LX4_readOr_8 (GRd n) (nI o)) (LB9 := LX9_either_5 (GPar m)) hM hf S hK h2 (fun t ht => by rw [ht]; unfold bop; decide) (fun fu u3 x => ?_) (fun fu u3 x c => ?_) (fun fu j x hj c => ?_) (fun g u y b => ?_) (fun g u x y q P b c => ?_) (fun g u x y q P b c => ?_) (fun _ => rfl) (fun _ => rfl)
  · show BX4_readOr_8 _ _ _ false u3 x = _
    unfold BX4_readOr_8
    rw [if_neg (show ¬ (false = true) by decide)]
    split <;> rfl
  · show BX4_readOr_8 _ _ _ true u3 x = _
    unfold BX4_readOr_8
    rw [if_pos rfl, if_neg c]
    split <;> rfl
  · have c : x.1 4 4 = -14 := c
    show BX4_readOr_8 _ _ _ true (nI j) x = _
    unfold BX4_readOr_8
    rw [if_neg (n160 hj), if_pos rfl, if_pos c, c]
    simp only [lt, nI_1]
  · show BX9_either_5 _ _ u y = _
    unfold BX9_either_5
    rw [wd9b b, Option.bind_some, if_neg (by decide)]
  · show BX9_either_5 _ _ u y = _
    unfold BX9_either_5
    rw [wd9 (c := -14) P b tokw_14 (by decide), decide_eq_false c, Option.bind_some, if_neg (by decide)]
  · have c : x.1 4 4 = -14 := c
    show BX9_either_5 _ _ u y = _
    unfold BX9_either_5
    rw [wd9 (c := -14) P b tokw_14 (by decide), decide_eq_true c, Option.bind_some, if_pos rfl, c]
    have e : ∀ (v : Int32) (z : MS), (if u = 0 then if v = 0 then LX9_either_5 (GPar m) g 0 z else LX9_either_5 (GPar m) g 1 z else LX9_either_5 (GPar m) g 1 z) = LX9_either_5 (GPar m) g (jn (-14) u v) z := by
      intro v z
      show _ = LX9_either_5 (GPar m) g (if u = 0 then (if v = 0 then 0 else 1) else 1) z
      split
      · split <;> rfl
      · rfl
    simp only [e]
end SIMS
