theorem in_lw {ws : List Cond} (ps : List Nat) (hp : ws = ps.filterMap (fun i => tables_1[i]?)) : ∀ w ∈ ws, w ∈ lw_tbl := by
  intro w hw
  rw [hp] at hw
  obtain ⟨i, -, hi⟩ := List.mem_filterMap.mp hw
  exact tb i hi
theorem nF_in : ∀ w ∈ nF.map nestF, w ∈ lw_tbl := in_lw [39, 41, 44, 46, 92, 94, 96, 98, 100, 102, 132, 138, 140, 429, 431, 433, 435, 436, 438, 439, 441, 442, 727, 729, 731, 733, 735, 861, 863] (by decide +kernel)
theorem nM_in : ∀ w ∈ nM.map nestM, w ∈ lw_tbl := in_lw [33, 87, 127, 616] (by decide +kernel)
def scW (q : String × Nat × String) : Cond := .stringRef q.1 q.2.1 q.2.2
theorem sc_in : ∀ w ∈ scL.map scW, w ∈ lw_tbl := in_lw [159, 234, 241, 242, 243, 244, 245, 246, 247, 248, 249, 250, 251] (by decide +kernel)
def scT (i : Nat) : Term := match scL[i]? with
  | some q => .string q.1 q.2.1
  | none => .int 0
def sV (i : Nat) : Term := .field (scT i) "java/lang/String" "value" "[B"
abbrev fl0 : List Cond := flatC (Jvm.Cond.and given_1 narrow_1)
set_option maxRecDepth 100000 in
theorem sc_ex : ∀ i : Nat, i < 13 → Cond.exactly (scT i) "java/lang/String" ∈ fl0 := by decide +kernel
set_option maxRecDepth 100000 in
theorem sc_co : ∀ i : Nat, i < 13 → Cond.eq (.field (scT i) "java/lang/String" "coder" "B") (.int 0) ∈ fl0 := by decide +kernel
set_option maxRecDepth 100000 in
theorem sc_ar : ∀ i : Nat, i < 13 → Cond.arrayOf (sV i) .byte ∈ fl0 := by decide +kernel
set_option maxRecDepth 100000 in
theorem sc_le : ∀ i : Nat, i < 13 → Cond.eq (.length (sV i)) (.int (Int32.ofNat (scLen.getD i 0))) ∈ fl0 := by decide +kernel
set_option maxRecDepth 100000 in
theorem sc_el : ∀ i : Nat, i < 13 → ∀ j : Nat, j < scLen.getD i 0 → Cond.eq (.elem (sV i) (.int (Int32.ofNat j))) (.int ((scByt.getD i []).getD j 0)) ∈ fl0 := by decide +kernel
set_option maxRecDepth 100000 in
theorem sc_n0 : ∀ j : Nat, j < 13 → ∀ i : Nat, i < j → Cond.not (Cond.eq (scT i) (scT j)) ∈ fl0 := by decide +kernel
theorem sc_ne (i : Nat) (hi : i < 13) (j : Nat) (hj : j < 13) (hn : i ≠ j) : Cond.not (Cond.eq (scT i) (scT j)) ∈ fl0 ∨ Cond.not (Cond.eq (scT j) (scT i)) ∈ fl0 := by
  rcases Nat.lt_or_gt_of_ne hn with h | h
  · exact Or.inl (sc_n0 j hj i h)
  · exact Or.inr (sc_n0 i hi j h)
theorem sc_sm : ∀ i : Nat, i < 13 → scLen.getD i 0 < 2 ^ 31 := by decide
def abT : Term := .static "AtThePost$Horse" "ABOVE" "[I"
theorem ab_el : ∀ j : Nat, j < 6 → Cond.eq (.elem abT (.int (Int32.ofNat j))) (.int (abv.getD j 0)) ∈ fl0 := by decide +kernel
set_option maxHeartbeats 4000000 in
set_option maxRecDepth 100000 in
theorem kk_start {s : State} {b : Nat} (hts : ∀ w ∈ lw_tbl, w.before #[Value.ref b] s = true) (hgv : (Jvm.Cond.and given_1 narrow_1).before #[Value.ref b] s = true) : ∃ G : xG, G.2.2.1 = s.heap ∧ G.2.2.2.1 = s.heap.size ∧ KK G s := by
  have hs := flat_of_before _ hgv
  have hg : ∀ w ∈ GT, w.before #[Value.ref b] s = true := fun w hw => hts w (List.mem_filter.mp hw).1
  have hA : ∀ a : Nat, a < s.heap.size → ¬ (fun q => s.heap.size ≤ q) a := fun a ha => Nat.not_le.mpr ha
  obtain ⟨c0, i0, hK0⟩ := u_known (C := RX0) (T := TX0) (N := 7) (n := 7) hg iwX0 (hts (.instantiable RX0 7) (tb 126 (by decide +kernel)))
  obtain ⟨c1, i1, hK1⟩ := u_known (C := RX1) (T := TX1) (N := 6) (n := 6) hg iwX1 (hts (.instantiable RX1 6) (tb 423 (by decide +kernel)))
  obtain ⟨c2, i2, hK2⟩ := u_known (C := RX2) (T := TX2) (N := 9) (n := 9) hg iwX2 (hts (.instantiable RX2 9) (tb 86 (by decide +kernel)))
  obtain ⟨c3, i3, hK3⟩ := u_known (C := RX3) (T := TX3) (N := 5) (n := 5) hg iwX3 (hts (.instantiable RX3 5) (tb 720 (by decide +kernel)))
  obtain ⟨c4, i4, hK4⟩ := u_known (C := RX4) (T := TX4) (N := 4) (n := 4) hg iwX4 (hts (.instantiable RX4 4) (tb 63 (by decide +kernel)))
  obtain ⟨c5, i5, hK5⟩ := u_known (C := RX5) (T := TX5) (N := 2) (n := 2) hg iwX5 (hts (.instantiable RX5 2) (tb 854 (by decide +kernel)))
  obtain ⟨c6, i6, hK6⟩ := u_known (C := RX6) (T := TX6) (N := 6) (n := 6) hg iwX6 (hts (.instantiable RX6 6) (tb 32 (by decide +kernel)))
  obtain ⟨c7, i7, hK7⟩ := u_known (C := RX7) (T := TX7) (N := 4) (n := 4) hg iwX7 (hts (.instantiable RX7 4) (tb 307 (by decide +kernel)))
  obtain ⟨c8, i8, hK8⟩ := u_known (C := RX8) (T := TX8) (N := 19) (n := 19) hg iwX8 (hts (.instantiable RX8 19) (tb 20 (by decide +kernel)))
  obtain ⟨c9, i9, hK9⟩ := u_known (C := RX9) (T := TX9) (N := 57) (n := 57) hg iwX9 (hts (.instantiable RX9 57) (tb 900 (by decide +kernel)))
  obtain ⟨dC, dI, hKc⟩ : ∃ (dC : Nat → ClassId) (dI : Nat → Nat → Nat), ∀ (k : Nat) (q : vw_C), vwCl[k]? = some q → u_Kn s q.1 q.2.1 q.2.2 (dC k) (dI k) := by
    refine ⟨fun k => match k with | 0 => c0 | 1 => c1 | 2 => c2 | 3 => c3 | 4 => c4 | 5 => c5 | 6 => c6 | 7 => c7 | 8 => c8 | 9 => c9 | _ => 0, fun k => match k with | 0 => i0 | 1 => i1 | 2 => i2 | 3 => i3 | 4 => i4 | 5 => i5 | 6 => i6 | 7 => i7 | 8 => i8 | 9 => i9 | _ => fun _ => 0, ?_⟩
    intro k q hq
    match k, hq with
    | 0, hq => cases hq; exact hK0
    | 1, hq => cases hq; exact hK1
    | 2, hq => cases hq; exact hK2
    | 3, hq => cases hq; exact hK3
    | 4, hq => cases hq; exact hK4
    | 5, hq => cases hq; exact hK5
    | 6, hq => cases hq; exact hK6
    | 7, hq => cases hq; exact hK7
    | 8, hq => cases hq; exact hK8
    | 9, hq => cases hq; exact hK9
    | k + 10, hq => simp [vwCl] at hq
  obtain ⟨a0, ka0, co0, f0, g0, h0⟩ := Cond.arrayClass_spec (hts (.arrayClass .int) (tb 60 (by decide +kernel)))
  obtain ⟨a1, ka1, co1, f1, g1, h1⟩ := Cond.arrayClass_spec (hts (.arrayClass .long) (tb 1088 (by decide +kernel)))
  obtain ⟨a2, ka2, co2, f2, g2, h2⟩ := Cond.arrayClass_spec (hts (.arrayClass .char) (tb 61 (by decide +kernel)))
  obtain ⟨a3, ka3, co3, f3, g3, h3⟩ := Cond.arrayClass_spec (hts (.arrayClass .boolean) (tb 1089 (by decide +kernel)))
  have ao4 := (hts (.arrayOver (.object "AtThePost$Horse")) (tb 28 (by decide +kernel)))
  obtain ⟨co4, a4, ka4, e4, -, g4, h4, f4⟩ := Cond.arrayOver_spec ao4
  have ao5 := (hts (.arrayOver (.object "AtThePost$Race")) (tb 30 (by decide +kernel)))
  obtain ⟨co5, a5, ka5, e5, -, g5, h5, f5⟩ := Cond.arrayOver_spec ao5
  have ao6 := (hts (.arrayOver (.object "AtThePost$Sheet")) (tb 84 (by decide +kernel)))
  obtain ⟨co6, a6, ka6, e6, -, g6, h6, f6⟩ := Cond.arrayOver_spec ao6
  have ao7 := (hts (.arrayOver (.object "AtThePost$Text")) (tb 82 (by decide +kernel)))
  obtain ⟨co7, a7, ka7, e7, -, g7, h7, f7⟩ := Cond.arrayOver_spec ao7
  obtain ⟨cA, hcA⟩ : ∃ cA : Nat → ClassId, ∀ (k : Nat) (q : ClassId × FieldType), (tysG cA)[k]? = some q → ArrOfT s q.1 q.2 ∧ va_RA s q.1 q.2 := by
    refine ⟨fun k => match k with | 0 => a0 | 1 => a1 | 2 => a2 | 3 => a3 | 4 => a4 | 5 => a5 | 6 => a6 | 7 => a7 | _ => 0, ?_⟩
    intro k q hq
    match k, hq with
    | 0, hq => cases hq; exact ⟨fun N z => ⟨(fun k h => by cases h), ka0, g0, co0, h0⟩, f0⟩
    | 1, hq => cases hq; exact ⟨fun N z => ⟨(fun k h => by cases h), ka1, g1, co1, h1⟩, f1⟩
    | 2, hq => cases hq; exact ⟨fun N z => ⟨(fun k h => by cases h), ka2, g2, co2, h2⟩, f2⟩
    | 3, hq => cases hq; exact ⟨fun N z => ⟨(fun k h => by cases h), ka3, g3, co3, h3⟩, f3⟩
    | 4, hq => cases hq; exact ⟨fun N z => ⟨(fun k h => by cases h), ka4, g4, co4, h4⟩, ka4, co4, g4, h4, e4, f4⟩
    | 5, hq => cases hq; exact ⟨fun N z => ⟨(fun k h => by cases h), ka5, g5, co5, h5⟩, ka5, co5, g5, h5, e5, f5⟩
    | 6, hq => cases hq; exact ⟨fun N z => ⟨(fun k h => by cases h), ka6, g6, co6, h6⟩, ka6, co6, g6, h6, e6, f6⟩
    | 7, hq => cases hq; exact ⟨fun N z => ⟨(fun k h => by cases h), ka7, g7, co7, h7⟩, ka7, co7, g7, h7, e7, f7⟩
    | k + 8, hq => simp [tysG] at hq
  obtain ⟨adK, adV, hS, hE⟩ := vk_Sof (args := #[Value.ref b]) (s := s) (N := 13) (tm := scT) (len := scLen) (byt := scByt) (A := fun q => s.heap.size ≤ q) sc_sm (fun i hi => hs _ (sc_ex i hi)) (fun i hi => hs _ (sc_co i hi)) (fun i hi => hs _ (sc_ar i hi)) (fun i hi => hs _ (sc_le i hi)) (fun i hi j hj => hs _ (sc_el i hi j hj)) (fun i j hi hj hn => (sc_ne i hi j hj hn).imp (hs _) (hs _)) hA
  obtain ⟨ab, hab, hT⟩ := va_Tof (args := #[Value.ref b]) (s := s) (tm := abT) (ty := .int) (N := 6) (f := fun j => .int (abv.getD j 0)) (A := fun q => s.heap.size ≤ q) (by decide) (hs _ (by decide +kernel)) (va_eqt (hs _ (by decide +kernel : Cond.eq (.length abT) (.int 6) ∈ fl0))) (fun j hj => va_eqt (hs _ (ab_el j hj))) hA
  have hZ := va_Zref (hts (.laysStatic "AtThePost$Horse" "ABOVE" "[I") (tb 416 (by decide +kernel))) (hts (.initialized "AtThePost$Horse") (tb 15 (by decide +kernel))) hab hA
  have hC := va_Zof (hts (.laysStatic "java/lang/String" "COMPACT_STRINGS" "Z") (tb 169 (by decide +kernel))) (hts (.initialized "java/lang/String") (tb 7 (by decide +kernel))) (va_eqt (hs _ (by decide +kernel : Cond.eq (.static "java/lang/String" "COMPACT_STRINGS" "Z") (.int 1) ∈ fl0))) hA
  have hq := va_Zqof (hts (.laysStatic "jdk/internal/util/Preconditions" "SIOOBE_FORMATTER" "Ljava/util/function/BiFunction;") (tb 185 (by decide +kernel))) (hts (.initialized "jdk/internal/util/Preconditions") (tb 9 (by decide +kernel))) (hs _ (by decide +kernel : Cond.isRef (.static "jdk/internal/util/Preconditions" "SIOOBE_FORMATTER" "Ljava/util/function/BiFunction;") ∈ fl0)) hA
  refine ⟨((dC, dI), cA, s.heap, s.heap.size, adK, adV, ab), rfl, rfl, ⟨hKc, hcA⟩, fun q hq => va_Nw.of rfl (hts _ (nF_in _ (List.mem_map_of_mem hq))), fun q hq => va_Nw.of rfl (hts _ (nM_in _ (List.mem_map_of_mem hq))), hS, fun i q hi => ?_, hZ, hT, hC, hq, fun C hC => ?_⟩
  · have hm : q ∈ scL := List.mem_of_getElem? hi
    have hlt : i < 13 := (List.getElem?_eq_some_iff.mp hi).1
    have e := hE i hlt
    unfold scT at e
    rw [hi] at e
    exact vk_R.of (hts _ (sc_in _ (List.mem_map_of_mem (f := scW) hm))) e
  · simp only [aoL, List.mem_cons, List.mem_nil_iff, or_false] at hC
    rcases hC with rfl | rfl | rfl | rfl
    · exact va_AO.of ao4
    · exact va_AO.of ao5
    · exact va_AO.of ao6
    · exact va_AO.of ao7
