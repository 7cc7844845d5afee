def STALL (Rel : XS → MS → Prop) : Prop := ST0 Rel ∧ ST1 Rel ∧ ST2 Rel ∧ ST3 Rel ∧ ST4 Rel ∧ ST5 Rel ∧ ST6 Rel ∧ ST7 Rel ∧ ST8 Rel ∧ ST9 Rel ∧ ST10 Rel ∧ ST11 Rel ∧ ST12 Rel ∧ ST13 Rel ∧ ST14 Rel ∧ ST15 Rel ∧ ST16 Rel ∧ ST17 Rel ∧ ST18 Rel ∧ ST19 Rel ∧ ST20 Rel ∧ ST21 Rel ∧ ST22 Rel ∧ ST23 Rel ∧ ST24 Rel ∧ ST25 Rel ∧ ST26 Rel ∧ ST27 Rel ∧ ST28 Rel ∧ ST29 Rel
theorem lw_le {i L : Nat} (hL : L ≤ 3072) (hi : i ≤ L) (h : ¬ nI L - 6 < nI i) : i + 6 ≤ L := by
  rw [Int32.lt_iff_toInt_lt, Int32.toInt_sub, nI_toInt (by omega), nI_toInt (by omega), show (6 : Int32).toInt = 6 from rfl] at h
  have : ((L : Int) - 6).bmod (2 ^ 32) = (L : Int) - 6 := by
    rw [Int.bmod_def]
    omega
  rw [this] at h
  omega
set_option maxHeartbeats 4000000 in
set_option maxRecDepth 100000 in
theorem law_loop {p : Program} {l : Launch} {e : Env} {s : State} {m : MethodId} {args : Array Value} {below : List Frame} {meth : Method} {c : Code} {Q : State → Prop} {G : xG} {β b L : Nat} {A : Nat → Prop} {xs : Nat → Int32} {ret : Option FieldType} {Rel : XS → MS → Prop} (SS : STALL Rel) (C : Cx p s m args meth c RL code 4 ret (KK G)) (hDA : ∀ q, DL β q → A q) (hMA : ∀ q, AM (β + 31) q → A q) (hX : va_X b L xs s s.heap) (hbl : b < s.heap.size) (hbA : ¬ A b) (hL : L ≤ 3072) :
    ∀ (n i cells slots : Nat) (x : XS) (y : MS) (H : Heap) (locs : List Loc) (ls : Array Slot), i ≤ L → L + 6 ≤ i + 6 * n → cells + n * 11 ≤ 600000 → slots + n * 207 ≤ 7302250 → LPc β G x y H → Rel x y → va_S A s.heap H locs → lv_has ls 4 [(0, .ref b), (1, .ref β), (2, .ref (β + 31)), (3, .int (nI i))] → (∀ (H : Heap) (locs : List Loc) (ls : Array Slot) (cells slots : Nat), va_S A s.heap H locs → cells ≤ 600000 → slots ≤ 7302250 → W p l e room_1 s m args below meth c H locs cells slots Q (F0 m 1391 ls [])) → W p l e room_1 s m args below meth c H locs cells slots Q (F0 m 18 ls []) := by
  have hx := C.1
  have hb := C.2.1
  intro n
  induction n with
  | zero =>
    intro i cells slots x y H locs ls h1 h2
    omega
  | succ n ih =>
    intro i cells slots x y H locs ls hi0 hn hc1 hc2 hp hr hS hl kk
    refine lv_iload_n hx hb dL_law_18 rfl (lv_at hl 3 rfl) ?_
    refine lv_aload_n hx hb dL_law_19 rfl (lv_at hl 0 rfl) ?_
    refine va_slen hx hb hX hbl hbA hS dL_law_20 ?_
    refine lv_bipush (v := 6) hx hb dL_law_21 (by decide) ?_
    refine lv_isub hx hb dL_law_23 ?_
    refine lv_icmp_gt (tgt := 1391) hx hb dL_law_24 (by decide) (fun cc => ?_) (fun cc => ?_)
    · exact kk _ _ _ _ _ hS (by omega) (by omega)
    · have hi : i + 6 ≤ L := lw_le hL hi0 cc
      have hcs : cells + 11 ≤ room_1.cells ∧ slots + 207 ≤ room_1.slots := by show cells + 11 ≤ 600000 ∧ slots + 207 ≤ 7302250; omega
      have nxt : ∀ (x : XS) (y : MS) (H : Heap) (locs : List Loc), LPc β G x y H → Rel x y → va_S A s.heap H locs → W p l e room_1 s m args below meth c H locs (cells + 11) (slots + 207) Q (F0 m 1385 ls []) := by
        intro x y H locs hp hr hS
        refine lv_iinc (v := nI (i + 6)) (lv' := [(3, .int (nI (i + 6))), (0, .ref b), (1, .ref β), (2, .ref (β + 31))]) hx hb dL_law_1385 hl (k := 3) rfl (nIk i 6) (by decide) rfl (fun ls hl => ?_)
        refine lv_goto (tgt := 18) hx hb dL_law_1388 (by decide) ?_
        exact ih (i + 6) _ _ x y H locs ls (by omega) (by omega) (by omega) (by omega) hp hr hS (lv_sub hl [1, 2, 3, 0] rfl) kk
      obtain ⟨S0, S1, S2, S3, S4, S5, S6, S7, S8, S9, S10, S11, S12, S13, S14, S15, S16, S17, S18, S19, S20, S21, S22, S23, S24, S25, S26, S27, S28, S29⟩ := SS
      refine lv_aload_n hx hb dL_law_27 rfl (lv_at hl 0 rfl) ?_
      refine lv_iload_n hx hb dL_law_28 rfl (lv_at hl 3 rfl) ?_
      refine va_sld hx hb hX hbl hbA hS (vp_in_nI (by omega) (by omega)) dL_law_29 ?_
      refine lv_bipush (v := 31) hx hb dL_law_30 (by decide) ?_
      refine lv_iand hx hb dL_law_32 ?_
      generalize xs (nI i).toNatClampNeg &&& 31 = sw
      by_cases k0 : sw = 0
      · refine lv_tableIn (tgt := 168) (off := 135) hx hb dL_law_33 (by rw [k0]; decide) (by rw [k0]; decide) (by rw [k0]; rfl) (by decide) ?_
        exact LC0 S0 C hDA hMA hX hbl hbA hi hL hcs hp hr hS hl nxt
      by_cases k1 : sw = 1
      · refine lv_tableIn (tgt := 211) (off := 178) hx hb dL_law_33 (by rw [k1]; decide) (by rw [k1]; decide) (by rw [k1]; rfl) (by decide) ?_
        exact LC1 S1 C hDA hMA hX hbl hbA hi hL hcs hp hr hS hl nxt
      by_cases k2 : sw = 2
      · refine lv_tableIn (tgt := 254) (off := 221) hx hb dL_law_33 (by rw [k2]; decide) (by rw [k2]; decide) (by rw [k2]; rfl) (by decide) ?_
        exact LC2 S2 C hDA hMA hX hbl hbA hi hL hcs hp hr hS hl nxt
      by_cases k3 : sw = 3
      · refine lv_tableIn (tgt := 287) (off := 254) hx hb dL_law_33 (by rw [k3]; decide) (by rw [k3]; decide) (by rw [k3]; rfl) (by decide) ?_
        exact LC3 S3 C hDA hMA hX hbl hbA hi hL hcs hp hr hS hl nxt
      by_cases k4 : sw = 4
      · refine lv_tableIn (tgt := 331) (off := 298) hx hb dL_law_33 (by rw [k4]; decide) (by rw [k4]; decide) (by rw [k4]; rfl) (by decide) ?_
        exact LC4 S4 C hDA hMA hX hbl hbA hi hL hcs hp hr hS hl nxt
      by_cases k5 : sw = 5
      · refine lv_tableIn (tgt := 364) (off := 331) hx hb dL_law_33 (by rw [k5]; decide) (by rw [k5]; decide) (by rw [k5]; rfl) (by decide) ?_
        exact LC5 S5 C hDA hMA hX hbl hbA hi hL hcs hp hr hS hl nxt
      by_cases k6 : sw = 6
      · refine lv_tableIn (tgt := 418) (off := 385) hx hb dL_law_33 (by rw [k6]; decide) (by rw [k6]; decide) (by rw [k6]; rfl) (by decide) ?_
        exact LC6 S6 C hDA hMA hX hbl hbA hi hL hcs hp hr hS hl nxt
      by_cases k7 : sw = 7
      · refine lv_tableIn (tgt := 472) (off := 439) hx hb dL_law_33 (by rw [k7]; decide) (by rw [k7]; decide) (by rw [k7]; rfl) (by decide) ?_
        exact LC7 S7 C hDA hMA hX hbl hbA hi hL hcs hp hr hS hl nxt
      by_cases k8 : sw = 8
      · refine lv_tableIn (tgt := 536) (off := 503) hx hb dL_law_33 (by rw [k8]; decide) (by rw [k8]; decide) (by rw [k8]; rfl) (by decide) ?_
        exact LC8 S8 C hDA hMA hX hbl hbA hi hL hcs hp hr hS hl nxt
      by_cases k9 : sw = 9
      · refine lv_tableIn (tgt := 580) (off := 547) hx hb dL_law_33 (by rw [k9]; decide) (by rw [k9]; decide) (by rw [k9]; rfl) (by decide) ?_
        exact LC9 S9 C hDA hMA hX hbl hbA hi hL hcs hp hr hS hl nxt
      by_cases k10 : sw = 10
      · refine lv_tableIn (tgt := 624) (off := 591) hx hb dL_law_33 (by rw [k10]; decide) (by rw [k10]; decide) (by rw [k10]; rfl) (by decide) ?_
        exact LC10 S10 C hDA hMA hX hbl hbA hi hL hcs hp hr hS hl nxt
      by_cases k11 : sw = 11
      · refine lv_tableIn (tgt := 657) (off := 624) hx hb dL_law_33 (by rw [k11]; decide) (by rw [k11]; decide) (by rw [k11]; rfl) (by decide) ?_
        exact LC11 S11 C hDA hMA hX hbl hbA hi hL hcs hp hr hS hl nxt
      by_cases k12 : sw = 12
      · refine lv_tableIn (tgt := 720) (off := 687) hx hb dL_law_33 (by rw [k12]; decide) (by rw [k12]; decide) (by rw [k12]; rfl) (by decide) ?_
        exact LC12 S12 C hDA hMA hX hbl hbA hi hL hcs hp hr hS hl nxt
      by_cases k13 : sw = 13
      · refine lv_tableIn (tgt := 733) (off := 700) hx hb dL_law_33 (by rw [k13]; decide) (by rw [k13]; decide) (by rw [k13]; rfl) (by decide) ?_
        exact LC13 S13 C hDA hMA hX hbl hbA hi hL hcs hp hr hS hl nxt
      by_cases k14 : sw = 14
      · refine lv_tableIn (tgt := 756) (off := 723) hx hb dL_law_33 (by rw [k14]; decide) (by rw [k14]; decide) (by rw [k14]; rfl) (by decide) ?_
        exact LC14 S14 C hDA hMA hX hbl hbA hi hL hcs hp hr hS hl nxt
      by_cases k15 : sw = 15
      · refine lv_tableIn (tgt := 799) (off := 766) hx hb dL_law_33 (by rw [k15]; decide) (by rw [k15]; decide) (by rw [k15]; rfl) (by decide) ?_
        exact LC15 S15 C hDA hMA hX hbl hbA hi hL hcs hp hr hS hl nxt
      by_cases k16 : sw = 16
      · refine lv_tableIn (tgt := 832) (off := 799) hx hb dL_law_33 (by rw [k16]; decide) (by rw [k16]; decide) (by rw [k16]; rfl) (by decide) ?_
        exact LC16 S16 C hDA hMA hX hbl hbA hi hL hcs hp hr hS hl nxt
      by_cases k17 : sw = 17
      · refine lv_tableIn (tgt := 865) (off := 832) hx hb dL_law_33 (by rw [k17]; decide) (by rw [k17]; decide) (by rw [k17]; rfl) (by decide) ?_
        exact LC17 S17 C hDA hMA hX hbl hbA hi hL hcs hp hr hS hl nxt
      by_cases k18 : sw = 18
      · refine lv_tableIn (tgt := 888) (off := 855) hx hb dL_law_33 (by rw [k18]; decide) (by rw [k18]; decide) (by rw [k18]; rfl) (by decide) ?_
        exact LC18 S18 C hDA hMA hX hbl hbA hi hL hcs hp hr hS hl nxt
      by_cases k19 : sw = 19
      · refine lv_tableIn (tgt := 931) (off := 898) hx hb dL_law_33 (by rw [k19]; decide) (by rw [k19]; decide) (by rw [k19]; rfl) (by decide) ?_
        exact LC19 S19 C hDA hMA hX hbl hbA hi hL hcs hp hr hS hl nxt
      by_cases k20 : sw = 20
      · refine lv_tableIn (tgt := 995) (off := 962) hx hb dL_law_33 (by rw [k20]; decide) (by rw [k20]; decide) (by rw [k20]; rfl) (by decide) ?_
        exact LC20 S20 C hDA hMA hX hbl hbA hi hL hcs hp hr hS hl nxt
      by_cases k21 : sw = 21
      · refine lv_tableIn (tgt := 1038) (off := 1005) hx hb dL_law_33 (by rw [k21]; decide) (by rw [k21]; decide) (by rw [k21]; rfl) (by decide) ?_
        exact LC21 S21 C hDA hMA hX hbl hbA hi hL hcs hp hr hS hl nxt
      by_cases k22 : sw = 22
      · refine lv_tableIn (tgt := 1101) (off := 1068) hx hb dL_law_33 (by rw [k22]; decide) (by rw [k22]; decide) (by rw [k22]; rfl) (by decide) ?_
        exact LC22 S22 C hDA hMA hX hbl hbA hi hL hcs hp hr hS hl nxt
      by_cases k23 : sw = 23
      · refine lv_tableIn (tgt := 1114) (off := 1081) hx hb dL_law_33 (by rw [k23]; decide) (by rw [k23]; decide) (by rw [k23]; rfl) (by decide) ?_
        exact LC23 S23 C hDA hMA hX hbl hbA hi hL hcs hp hr hS hl nxt
      by_cases k24 : sw = 24
      · refine lv_tableIn (tgt := 1127) (off := 1094) hx hb dL_law_33 (by rw [k24]; decide) (by rw [k24]; decide) (by rw [k24]; rfl) (by decide) ?_
        exact LC24 S24 C hDA hMA hX hbl hbA hi hL hcs hp hr hS hl nxt
      by_cases k25 : sw = 25
      · refine lv_tableIn (tgt := 1150) (off := 1117) hx hb dL_law_33 (by rw [k25]; decide) (by rw [k25]; decide) (by rw [k25]; rfl) (by decide) ?_
        exact LC25 S25 C hDA hMA hX hbl hbA hi hL hcs hp hr hS hl nxt
      by_cases k26 : sw = 26
      · refine lv_tableIn (tgt := 1193) (off := 1160) hx hb dL_law_33 (by rw [k26]; decide) (by rw [k26]; decide) (by rw [k26]; rfl) (by decide) ?_
        exact LC26 S26 C hDA hMA hX hbl hbA hi hL hcs hp hr hS hl nxt
      by_cases k27 : sw = 27
      · refine lv_tableIn (tgt := 1236) (off := 1203) hx hb dL_law_33 (by rw [k27]; decide) (by rw [k27]; decide) (by rw [k27]; rfl) (by decide) ?_
        exact LC27 S27 C hDA hMA hX hbl hbA hi hL hcs hp hr hS hl nxt
      by_cases k28 : sw = 28
      · refine lv_tableIn (tgt := 1299) (off := 1266) hx hb dL_law_33 (by rw [k28]; decide) (by rw [k28]; decide) (by rw [k28]; rfl) (by decide) ?_
        exact LC28 S28 C hDA hMA hX hbl hbA hi hL hcs hp hr hS hl nxt
      by_cases k29 : sw = 29
      · refine lv_tableIn (tgt := 1352) (off := 1319) hx hb dL_law_33 (by rw [k29]; decide) (by rw [k29]; decide) (by rw [k29]; rfl) (by decide) ?_
        exact LC29 S29 C hDA hMA hX hbl hbA hi hL hcs hp hr hS hl nxt
      have k0i := lv_neT k0 (a := 0) (by decide)
      have k1i := lv_neT k1 (a := 1) (by decide)
      have k2i := lv_neT k2 (a := 2) (by decide)
      have k3i := lv_neT k3 (a := 3) (by decide)
      have k4i := lv_neT k4 (a := 4) (by decide)
      have k5i := lv_neT k5 (a := 5) (by decide)
      have k6i := lv_neT k6 (a := 6) (by decide)
      have k7i := lv_neT k7 (a := 7) (by decide)
      have k8i := lv_neT k8 (a := 8) (by decide)
      have k9i := lv_neT k9 (a := 9) (by decide)
      have k10i := lv_neT k10 (a := 10) (by decide)
      have k11i := lv_neT k11 (a := 11) (by decide)
      have k12i := lv_neT k12 (a := 12) (by decide)
      have k13i := lv_neT k13 (a := 13) (by decide)
      have k14i := lv_neT k14 (a := 14) (by decide)
      have k15i := lv_neT k15 (a := 15) (by decide)
      have k16i := lv_neT k16 (a := 16) (by decide)
      have k17i := lv_neT k17 (a := 17) (by decide)
      have k18i := lv_neT k18 (a := 18) (by decide)
      have k19i := lv_neT k19 (a := 19) (by decide)
      have k20i := lv_neT k20 (a := 20) (by decide)
      have k21i := lv_neT k21 (a := 21) (by decide)
      have k22i := lv_neT k22 (a := 22) (by decide)
      have k23i := lv_neT k23 (a := 23) (by decide)
      have k24i := lv_neT k24 (a := 24) (by decide)
      have k25i := lv_neT k25 (a := 25) (by decide)
      have k26i := lv_neT k26 (a := 26) (by decide)
      have k27i := lv_neT k27 (a := 27) (by decide)
      have k28i := lv_neT k28 (a := 28) (by decide)
      have k29i := lv_neT k29 (a := 29) (by decide)
      refine lv_tableOut (tgt := 1385) hx hb dL_law_33 (by omega) (by decide) ?_
      refine W.widen (k := cells + 11) (n := slots + 207) (by omega) (by omega) ?_
      exact nxt x y H locs hp hr hS
