theorem bc10 {F : Nat} (h : F < 1024) : fJ6_bitCount_0f7a4 (nI F) = some (nI (many F)) := by
  rw [(bits10 F h).2, many10 F h]
theorem wh8 (a : Int32) : fX8_isWhen a = some (decide (0 ≤ a ∧ a ≤ 399)) := by
  unfold fX8_isWhen
  rw [in8]
  rfl
theorem wh9 (a : Int32) : fX9_isWhen a = some (decide (0 ≤ a ∧ a ≤ 399)) := by
  unfold fX9_isWhen
  rw [in9i (lo := 0) (hi := 399) (l := 0) (h := 399) rfl rfl]
  rfl
theorem of400 (a : Int32) : (¬ (0 ≤ a ∧ a ≤ 399)) ∨ ∃ w, w < 400 ∧ a = nI w ∧ (0 ≤ nI w ∧ nI w ≤ 399) ∧ nI w / 100 = nI (w / 100) ∧ irm (nI w) 100 = nI (w % 100) := by
  by_cases c : 0 ≤ a ∧ a ≤ 399
  · obtain ⟨i, hi, rfl⟩ := ix_of (n := 400) (by decide) c.1 (Int32.lt_of_le_of_lt c.2 (by decide))
    exact Or.inr ⟨i, hi, rfl, c, nI_dv (c := 100) (by omega) (by decide), nI_md (c := 100) (by omega) (by decide)⟩
  · exact Or.inl c
def r9tail (a1 a3 : Int32) (v3 : Bool) (x4 : MS) : Option (Int32 × MS) := if v3 = true then if (x4.1 0 19) < 2 then some ((-2), x4) else Option.bind (fX9_in (a3.toInt64) 0 1) fun v6 => if v6 = true then if (x4.1 0 41) = 24 then some ((-4), x4) else if ib (x4.1 0 41) 24 then lt (msA x4 15 (x4.1 0 41).toNatClampNeg (a1 / 100)) fun x9 => if ib (x9.1 0 41) 24 then lt (msA x9 16 (x9.1 0 41).toNatClampNeg (irm a1 100)) fun x11 => if ib (x11.1 0 41) 24 then lt (msA x11 17 (x11.1 0 41).toNatClampNeg (x11.1 0 19)) fun x13 => Option.bind (LX9_race_115 a1 a3 NF 0 x13) fun x26 => lt (msS x26 0 41 ((x26.1 0 41) + 1)) fun x27 => Option.bind (LX9_race_213 a1 a3 NF 0 x27) fun x41 => some ((x41.1 0 41) - 1, x41) else none else none else none else some ((-2), x4) else some ((-2), x4)
def r9day (x : MS) (a1 : Int32) (T : Option (Int32 × MS)) : Option (Int32 × MS) := if (x.1 0 41) ≤ 0 then T else if ib ((x.1 0 41) - 1) 24 then if (irm a1 100) < (x.2.1 16 ((x.1 0 41) - 1).toNatClampNeg) then some ((-2), x) else T else none
theorem race9 (x : MS) (a1 a2 a3 : Int32) : fX9_race x a1 a2 a3 = Option.bind (fX9_isWhen a1) fun v1 => if v1 = true then r9day x a1 (bind2 (fX9_reads x a2) (r9tail a1 a3)) else some (-2, x) := rfl
section RACE2
variable {own : Nat → Nat} {n r t u : Nat} {x : XS} {y : MS}
theorem day9 (h : RO own n r t u x y) {w : Nat} (hw : w < 400) (T : Option (Int32 × MS)) : ((if r = 0 then 0 else y.2.1 16 (r - 1)) ≤ nI (w % 100) ∧ r9day y (nI w) T = T) ∨ (¬ (if r = 0 then 0 else y.2.1 16 (r - 1)) ≤ nI (w % 100) ∧ r9day y (nI w) T = some (-2, y)) := by
  have hr := h.r24
  have em : irm (nI w) 100 = nI (w % 100) := nI_md (c := 100) (by omega) (by decide)
  unfold r9day
  rw [h.R.ey]
  by_cases q : r = 0
  · subst q
    left
    rw [if_pos rfl, if_pos (by decide)]
    exact ⟨(nI_lei (a := 0) (by decide) (by omega)).mpr (Nat.zero_le _), rfl⟩
  · have e1 : nI r - 1 = nI (r - 1) := by rw [show (1 : Int32) = nI 1 from rfl, nI_sb (by omega)]
    have n0 : ¬ nI r ≤ 0 := by
      rw [show (0 : Int32) = nI 0 from rfl, nI_lei (by omega) (by decide)]
      omega
    have hb : ib (nI (r - 1)) 24 := ib_nI (by omega) (by decide)
    have hc : (nI (r - 1)).toNatClampNeg = r - 1 := cl_nI (by omega)
    simp only [if_neg q, if_neg n0, e1, if_pos hb, hc, em]
    by_cases c : y.2.1 16 (r - 1) ≤ nI (w % 100)
    · rw [if_neg (Int32.not_lt.mpr c)]
      exact Or.inl ⟨c, rfl⟩
    · rw [if_pos (Int32.not_le.mp c)]
      exact Or.inr ⟨c, rfl⟩
theorem race_new (h : RO own n r t u x y) (hr : r < 24) {w s : Nat} {a3 : Int32} {L : List Nat} (hw : w < 400) (hs2 : 2 ≤ s) (hs5 : s ≤ 5) (ha3 : 0 ≤ a3 ∧ a3 ≤ 1) (hL : ∀ j, j < s → L.getD j 0 < n) (e19 : y.1 0 19 = nI s) (l8 : ∀ j, j < s → x.2.1 23 j = nI (L.getD j 0)) (l9 : ∀ j, j < s → y.2.1 13 j = nI (L.getD j 0)) : ∃ (res : Int32) (x' : XS) (y' : MS), (lt x.2.2.2.2 fun p12 => lt (xsN x (.inl (3, [.int 0, .int 0, .int 0, .null, .null]))) fun x13 => if dK x13 p12 3 = true then Option.bind (fX3_init x13 p12 (nI w / 100) (irm (nI w) 100) (nI s)) fun x15 => Option.bind (LX8_race_80 a3 (nI s) p12 NF 0 x15) fun x30 => if ib (x30.1 0 5) 24 then if dK x30 p12 3 = true then lt (xsR x30 3 (x30.1 0 5).toNatClampNeg (some p12)) fun x32 => lt (xsS x32 0 5 ((x32.1 0 5) + 1)) fun x34 => if a3 = 1 then Option.bind (fX8_leadAnew x34 (some p12)) fun x35 => some ((x35.1 0 5) - 1, x35) else some ((x34.1 0 5) - 1, x34) else none else none else none) = some (res, x') ∧ r9tail (nI w) a3 true y = some (res, y') ∧ Rl x' y' := by
  have hn := h.n10
  have ed : nI w / 100 = nI (w / 100) := nI_dv (c := 100) (by omega) (by decide)
  have em : irm (nI w) 100 = nI (w % 100) := nI_md (c := 100) (by omega) (by decide)
  have e5 : x.1 0 5 = nI r := h.R.ex
  have e41 : y.1 0 41 = nI r := h.R.ey
  have hbr : ib (nI r) 24 := ib_nI hr (by decide)
  have hcr : (nI r).toNatClampNeg = r := cl_nI (by omega)
  have l19 : ¬ nI s < 2 := by
    rw [show (2 : Int32) = nI 2 from rfl, nI_lti (by omega) (by decide)]
    omega
  have n24 : ¬ nI r = 24 := by
    rw [show (24 : Int32) = nI 24 from rfl, nI_eqi (by omega) (by decide)]
    omega
  obtain ⟨fo, fl, c1, c2⟩ := race_loop8 h (q3 := a3) (g := nI (w / 100)) (d := nI (w % 100)) hs5 hL l8 s 0 NF (fun _ => 0) (fun _ => 0) (by omega) (by unfold NF; omega) (fun j hj => absurd hj (Nat.not_lt_zero j))
  have c1 : LX8_race_80 a3 (nI s) x.2.2.2.2 NF 0 (RZ x x.2.2.2.2 (nI (w / 100)) (nI (w % 100)) s (fun _ => 0) (fun _ => 0)) = some (RZ x x.2.2.2.2 (nI (w / 100)) (nI (w % 100)) s fo fl) := c1
  obtain ⟨w', d1, d2, d3, d4, d5⟩ := race_loop9 (n := n) (q1 := nI w) (q3 := a3) (y1 := msA (msA (msA y 15 r (nI (w / 100))) 16 r (nI (w % 100))) 17 r (nI s)) hr hs5 hn hL e41 e19 l9 5 0 NF _ (by omega) (by unfold NF; omega) rfl (fun _ _ _ => rfl) (fun _ _ => ⟨rfl, rfl⟩) (fun j hj => absurd hj (Nat.not_lt_zero j))
  have d1 : LX9_race_115 (nI w) a3 NF 0 (msA (msA (msA y 15 r (nI (w / 100))) 16 r (nI (w % 100))) 17 r (nI s)) = some w' := d1
  have row : ∀ k, k ≠ 15 → k ≠ 16 → k ≠ 17 → k ≠ 18 → k ≠ 19 → w'.2.1 k = y.2.1 k := by
    intro k q1 q2 q3 q4 q5
    rw [d3 k q4 q5]
    show up2 (up2 (up2 y.2.1 15 _ _) 16 _ _) 17 _ _ k = _
    rw [up2_ne q3, up2_ne q2, up2_ne q1]
  have d2 : w'.1 = y.1 := d2
  have l9w : ∀ j, j < s → w'.2.1 13 j = nI (L.getD j 0) := fun j hj => by
    rw [row 13 (by decide) (by decide) (by decide) (by decide) (by decide)]
    exact l9 j hj
  have ms41 : (msS w' 0 41 (nI r + 1)).1 0 41 = nI r + 1 := by
    show (if (0 : Nat) = 0 then (fun q => if q = 41 then nI r + 1 else w'.1 0 q) else w'.1 0) 41 = _
    simp
  have xs5 : ∀ (z : XS) (v : Int32), (xsS z 0 5 v).1 0 5 = v := fun z v => by
    show (if (0 : Nat) = 0 then (fun q => if q = 5 then v else z.1 0 q) else z.1 0) 5 = v
    simp
  have R := h.newR (x' := xsS (xsR (RZ x x.2.2.2.2 (nI (w / 100)) (nI (w % 100)) s fo fl) 3 r (some x.2.2.2.2)) 0 5 (nI r + 1)) (y' := msS w' 0 41 (nI r + 1)) (p := x.2.2.2.2) (g := nI (w / 100)) (d := nI (w % 100)) (s := s) (fo := fo) (fl := fl) hr ⟨(nI_lei (a := 0) (by decide) (by omega)).mpr (Nat.zero_le _), (nI_lei (b := 3) (by omega) (by decide)).mpr (by omega)⟩ ⟨(nI_lei (a := 0) (by decide) (by omega)).mpr (Nat.zero_le _), (nI_lei (b := 99) (by omega) (by decide)).mpr (by omega)⟩ hs2 hs5 rfl
    (fun j hj => by
      show (if j = 5 then nI r + 1 else x.1 0 j) = x.1 0 j
      rw [if_neg (ne_in (A := [5]) (by decide) hj (by decide))])
    (by rw [← nI_1]; exact xs5 _ _) rfl rfl rfl (fun j hj => up2_ne (ne_in (A := [3]) (by decide) hj (by decide))) (fun j => rfl) rfl rfl
    (fun j hj => by
      show (if j = 41 then nI r + 1 else w'.1 0 j) = y.1 0 j
      rw [if_neg (ne_in (A := [41]) (by decide) hj (by decide)), d2])
    (by rw [← nI_1]; exact ms41)
    (fun j hj => row j (ne_in (A := [15]) (by decide) hj (by decide)) (ne_in (A := [16]) (by decide) hj (by decide)) (ne_in (A := [17]) (by decide) hj (by decide)) (ne_in (A := [18]) (by decide) hj (by decide)) (ne_in (A := [19]) (by decide) hj (by decide)))
    (fun j => congrFun (d3 15 (by decide) (by decide)) j) (fun j => congrFun (d3 16 (by decide) (by decide)) j) (fun j => congrFun (d3 17 (by decide) (by decide)) j) (fun j hj => d4 j hj)
    (fun k hk => ⟨(c2 k hk).1.trans (d5 k hk).1.symm, (c2 k hk).2.trans (d5 k hk).2.symm⟩)
    (fun k hk => by
      have hv := h.H.va _ (hL k hk)
      refine ⟨⟨L.getD k 0, hL k hk, (d5 k hk).1⟩, ?_⟩
      have e : (msS w' 0 41 (nI r + 1)).2.1 19 (5 * r + k) = y.2.1 9 (L.getD k 0) := (d5 k hk).2
      rw [e]
      exact ⟨hv.ld0, hv.ld1⟩)
  have e0 : (xsN x (.inl (3, [.int 0, .int 0, .int 0, .null, .null]))).2.2.2.1 x.2.2.2.2 = some (.inl (3, [.int 0, .int 0, .int 0, .null, .null])) := if_pos rfl
  have hi := ra_init x (nI (w / 100)) (nI (w % 100)) hs5
  have cls : (lt x.2.2.2.2 fun p12 => lt (xsN x (.inl (3, [.int 0, .int 0, .int 0, .null, .null]))) fun x13 => if dK x13 p12 3 = true then Option.bind (fX3_init x13 p12 (nI w / 100) (irm (nI w) 100) (nI s)) fun x15 => Option.bind (LX8_race_80 a3 (nI s) p12 NF 0 x15) fun x30 => if ib (x30.1 0 5) 24 then if dK x30 p12 3 = true then lt (xsR x30 3 (x30.1 0 5).toNatClampNeg (some p12)) fun x32 => lt (xsS x32 0 5 ((x32.1 0 5) + 1)) fun x34 => if a3 = 1 then Option.bind (fX8_leadAnew x34 (some p12)) fun x35 => some ((x35.1 0 5) - 1, x35) else some ((x34.1 0 5) - 1, x34) else none else none else none) = if a3 = 1 then Option.bind (fX8_leadAnew (xsS (xsR (RZ x x.2.2.2.2 (nI (w / 100)) (nI (w % 100)) s fo fl) 3 r (some x.2.2.2.2)) 0 5 (nI r + 1)) (some x.2.2.2.2)) fun x35 => some ((x35.1 0 5) - 1, x35) else some (nI r + 1 - 1, xsS (xsR (RZ x x.2.2.2.2 (nI (w / 100)) (nI (w % 100)) s fo fl) 3 r (some x.2.2.2.2)) 0 5 (nI r + 1)) := by
    have f1 : ∀ (fo fl : Nat → Int32), (RZ x x.2.2.2.2 (nI (w / 100)) (nI (w % 100)) s fo fl).1 0 5 = nI r := fun _ _ => e5
    have f2 : ∀ (i : Nat) (v : Option Nat), (xsR (RZ x x.2.2.2.2 (nI (w / 100)) (nI (w % 100)) s fo fl) 3 i v).1 0 5 = nI r := fun _ _ => e5
    have f3 : dK (RZ x x.2.2.2.2 (nI (w / 100)) (nI (w % 100)) s fo fl) x.2.2.2.2 3 = true := dK_o rz_p
    simp only [lt]
    rw [dK_o e0, if_pos rfl, ed, em, hi, Option.bind_some, c1, Option.bind_some]
    simp only [f1, f2, f3, if_pos hbr, hcr, if_true, xs5]
  have rf : r9tail (nI w) a3 true y = Option.bind (LX9_race_213 (nI w) a3 NF 0 (msS w' 0 41 (nI r + 1))) fun x41 => some ((x41.1 0 41) - 1, x41) := by
    have f1 : ∀ (z : MS) (k i : Nat) (v : Int32), (msA z k i v).1 = z.1 := fun _ _ _ _ => rfl
    unfold r9tail
    rw [if_pos rfl, e19, if_neg l19, in9i (lo := 0) (hi := 1) (l := 0) (h := 1) rfl rfl, decide_eq_true ha3, Option.bind_some, if_pos rfl, e41, if_neg n24]
    simp only [if_pos hbr, hcr, lt, f1, e41, e19, ed, em]
    rw [d1, Option.bind_some, d2, e41]
  rw [cls, rf]
  by_cases c : a3 = 1
  · subst c
    rw [if_pos rfl]
    obtain ⟨z', w2, m1, m2, m3⟩ := anew_loop (own := fun a => if a = x.2.2.2.2 then 100 + r else if a = x.2.2.2.2 + 1 then 200 + r else if a = x.2.2.2.2 + 2 then 300 + r else own a) (n := n) (r := r + 1) (t := t) (u := u) (p := x.2.2.2.2) (po := x.2.2.2.2 + 1) (pl := x.2.2.2.2 + 2) (s := s) (fo := fo) (L := L) (g := nI (w / 100)) (d := nI (w % 100)) (q1 := nI w) hs5 hL ((nI_lei (a := 0) (by decide) (by omega)).mpr (Nat.zero_le _)) (by show 100 ≤ (if _ then _ else _); rw [if_pos rfl]; omega) (by show (if _ then _ else _) < 400; rw [if_pos rfl]; omega) (by
        show 100 ≤ (if x.2.2.2.2 + 1 = x.2.2.2.2 then 100 + r else if x.2.2.2.2 + 1 = x.2.2.2.2 + 1 then 200 + r else _)
        rw [if_neg (by omega), if_pos rfl]; omega) (by
        show (if x.2.2.2.2 + 1 = x.2.2.2.2 then 100 + r else if x.2.2.2.2 + 1 = x.2.2.2.2 + 1 then 200 + r else _) < 400
        rw [if_neg (by omega), if_pos rfl]; omega) ed (fun j hj => (c2 j hj).1) s 0 NF NF _ (msS w' 0 41 (nI r + 1)) (by omega) (by unfold NF; omega) (by unfold NF; omega) R rz_p rz_o (by
        show (if (19 : Nat) = 41 then nI r + 1 else w'.1 0 19) = nI s
        rw [if_neg (by decide), d2]
        exact e19) l9w
    have m1 : LX8_leadAnew_2 (some x.2.2.2.2) NF 0 (xsS (xsR (RZ x x.2.2.2.2 (nI (w / 100)) (nI (w % 100)) s fo fl) 3 r (some x.2.2.2.2)) 0 5 (nI r + 1)) = some z' := m1
    have m2 : LX9_race_213 (nI w) 1 NF 0 (msS w' 0 41 (nI r + 1)) = some w2 := m2
    have e8 : fX8_leadAnew (xsS (xsR (RZ x x.2.2.2.2 (nI (w / 100)) (nI (w % 100)) s fo fl) 3 r (some x.2.2.2.2)) 0 5 (nI r + 1)) (some x.2.2.2.2) = some z' := by
      unfold fX8_leadAnew
      rw [m1]
      rfl
    rw [e8, m2, Option.bind_some, Option.bind_some, m3.R.ex, m3.R.ey]
    exact ⟨_, _, _, rfl, rfl, _, n, r + 1, t, u, m3⟩
  · rw [if_neg c]
    have m2 : LX9_race_213 (nI w) a3 NF 0 (msS w' 0 41 (nI r + 1)) = some (msS w' 0 41 (nI r + 1)) := by
      show BX9_race_213 _ _ _ 0 _ = _
      unfold BX9_race_213
      split
      · rfl
      · rfl
    rw [m2, Option.bind_some, ms41]
    exact ⟨_, _, _, rfl, rfl, _, n, r + 1, t, u, R⟩
end RACE2
theorem s_race : ST14 Rl := by
  intro x y a1 a2 a3 hr
  obtain ⟨own, n, r, t, u, h⟩ := id hr
  have hr24 := h.r24
  rw [race9]
  unfold fX8_race
  rw [wh9, wh8]
  simp only [Option.bind_some, decide_eq_true_eq]
  rcases ord89 h a2 with ⟨x', y', b, o1, o2, o3, o4, o5⟩ | ⟨x', y', s, F, L, o1, o2, o3, o4, s1, s5, F10, mF, eF, eL, hL, e19, l8, l9⟩
  · have b0 : fJ6_bitCount_0f7a4 0 = some 0 := by
      have := bc10 (F := 0) (by decide)
      rw [show many 0 = 0 by decide] at this
      exact this
    have tl : bind2 (fX9_reads y a2) (r9tail a1 a3) = some (-2, y') := by
      rw [o2]
      show r9tail a1 a3 b y' = _
      unfold r9tail
      rcases o5 with rfl | o5
      · rw [if_neg (by decide)]
      · cases b
        · rw [if_neg (by decide)]
        · rw [if_pos rfl, o5, if_pos (by decide)]
    rw [o1]
    simp only [bind2, b0, Option.bind_some, show (0 : Int32) < 2 by decide, if_true]
    rcases of400 a1 with c | ⟨w, hw, rfl, c, ed, em⟩
    · rw [if_neg c, if_neg c]
      exact ⟨_, _, _, rfl, rfl, hr.keep o3 (kM.rf y)⟩
    · rw [if_pos c, if_pos c]
      rcases day9 h hw (bind2 (fX9_reads y a2) (r9tail (nI w) a3)) with ⟨-, e⟩ | ⟨-, e⟩
      · have e' : r9day y (nI w) (bind2 (fX9_reads y a2) (r9tail (nI w) a3)) = some (-2, y') := e.trans tl
        exact ⟨-2, x', y', rfl, e', hr.keep o3 o4⟩
      · exact ⟨-2, x', y, rfl, e, hr.keep o3 (kM.rf y)⟩
  · rw [o1]
    simp only [bind2, bc10 F10, mF, Option.bind_some]
    rcases of400 a1 with c | ⟨w, hw, rfl, c, ed, em⟩
    · rw [if_neg c, if_neg c]
      exact ⟨_, _, _, rfl, rfl, hr.keep o3 (kM.rf y)⟩
    · have h2 := h.keep o3 o4
      have tl : bind2 (fX9_reads y a2) (r9tail (nI w) a3) = r9tail (nI w) a3 true y' := by rw [o2]; rfl
      have hl := last89 (h.keep o3 (kM.rf y))
      rw [if_pos c, if_pos c]
      by_cases c1 : nI s < 2
      · rw [if_pos c1]
        have t2 : r9tail (nI w) a3 true y' = some (-2, y') := by
          unfold r9tail
          rw [if_pos rfl, e19, if_pos c1]
        rcases day9 h hw (bind2 (fX9_reads y a2) (r9tail (nI w) a3)) with ⟨-, e⟩ | ⟨-, e⟩
        · exact ⟨-2, x', y', rfl, e.trans (tl.trans t2), hr.keep o3 o4⟩
        · exact ⟨-2, x', y, rfl, e, hr.keep o3 (kM.rf y)⟩
      · have s2 : 2 ≤ s := by
          rw [show (2 : Int32) = nI 2 from rfl, nI_lti (by omega) (by decide)] at c1
          omega
        rw [if_neg c1, in8]
        simp only [Option.bind_some, decide_eq_true_eq]
        by_cases c3 : 0 ≤ a3 ∧ a3 ≤ 1
        · rw [if_pos c3, hl, Option.bind_some, em]
          rcases day9 h hw (bind2 (fX9_reads y a2) (r9tail (nI w) a3)) with ⟨q, e⟩ | ⟨q, e⟩
          · rw [if_pos q]
            have e := e.trans tl
            by_cases c4 : r < 24
            · have c5 : x'.1 0 5 < 24 := by
                rw [h2.R.ex, show (24 : Int32) = nI 24 from rfl, nI_lti (by omega) (by decide)]
                exact c4
              obtain ⟨res, x2, y2, n1, n2, n3⟩ := race_new h2 c4 hw s2 s5 c3 hL e19 l8 l9
              rw [if_pos c5]
              rw [ed, em] at n1
              rw [ed]
              exact ⟨res, x2, y2, n1, e.trans n2, n3⟩
            · have e24 : r = 24 := by omega
              have c5 : ¬ x'.1 0 5 < 24 := by
                rw [h2.R.ex, show (24 : Int32) = nI 24 from rfl, nI_lti (by omega) (by decide)]
                exact c4
              have t2 : r9tail (nI w) a3 true y' = some (-4, y') := by
                unfold r9tail
                rw [if_pos rfl, e19, if_neg c1, in9i (lo := 0) (hi := 1) (l := 0) (h := 1) rfl rfl, decide_eq_true c3, Option.bind_some, if_pos rfl, h2.R.ey, if_pos (by rw [e24]; rfl)]
              rw [if_neg c5]
              exact ⟨-4, x', y', rfl, e.trans t2, hr.keep o3 o4⟩
          · rw [if_neg q]
            exact ⟨-2, x', y, rfl, e, hr.keep o3 (kM.rf y)⟩
        · rw [if_neg c3]
          have t2 : r9tail (nI w) a3 true y' = some (-2, y') := by
            unfold r9tail
            rw [if_pos rfl, e19, if_neg c1, in9i (lo := 0) (hi := 1) (l := 0) (h := 1) rfl rfl, decide_eq_false c3, Option.bind_some, if_neg (by decide)]
          rcases day9 h hw (bind2 (fX9_reads y a2) (r9tail (nI w) a3)) with ⟨-, e⟩ | ⟨-, e⟩
          · exact ⟨-2, x', y', rfl, e.trans (tl.trans t2), hr.keep o3 o4⟩
          · exact ⟨-2, x', y, rfl, e, hr.keep o3 (kM.rf y)⟩
