/-! THE REFERENCE as numbers: cell 0 is the object (x.1 0 its int fields, x.2.2 0 its long ones, by place), cell k a row (x.2.1 k of ints, x.2.2 k of longs) -/
abbrev MS : Type := (Nat → Nat → Int32) × (Nat → Nat → Int32) × (Nat → Nat → Int64)
def msS (x : MS) (k i : Nat) (v : Int32) : MS := (up2 x.1 k i v, x.2.1, x.2.2)
def msA (x : MS) (k i : Nat) (v : Int32) : MS := (x.1, up2 x.2.1 k i v, x.2.2)
def msL (x : MS) (k i : Nat) (v : Int64) : MS := (x.1, x.2.1, up2 x.2.2 k i v)
def shM (β : Nat) (G : xG) (k : Nat) (s a : Nat → Int32) (l : Nat → Int64) : va_E := match k with
  | 0 => .inr (9, [.int (s 0), .ref (β + 1), .ref (β + 2), .int (s 3), .int (s 4), .ref (β + 3), .int (s 6), .ref (β + 4), .ref (β + 5), .ref (β + 6), .ref (β + 7), .ref (β + 8), .ref (β + 9), .int (s 13), .ref (β + 10), .int (s 15), .ref (β + 11), .ref (β + 12), .ref (β + 13), .int (s 19), .int (s 20), .ref (β + 14), .int (s 22), .int (s 23), .int (s 24), .int (s 25), .long (l 26), .int (s 27), .int (s 28), .int (s 29), .int (s 30), .int (s 31), .int (s 32), .int (s 33), .int (s 34), .int (s 35), .ref (β + 15), .ref (β + 16), .ref (β + 17), .ref (β + 18), .ref (β + 19), .int (s 41), .ref (β + 20), .ref (β + 21), .ref (β + 22), .ref (β + 23), .ref (β + 24), .ref (β + 25), .int (s 48), .int (s 49), .int (s 50), .int (s 51), .int (s 52), .ref (β + 26), .ref (β + 27), .ref (β + 28), .ref (β + 29)])
  | 1 => .inl (G.2.1 0, 960, .inl a)
  | 2 => .inl (G.2.1 0, 6, .inl a)
  | 3 => .inl (G.2.1 0, 160, .inl a)
  | 4 => .inl (G.2.1 0, 10, .inl a)
  | 5 => .inl (G.2.1 0, 10, .inl a)
  | 6 => .inl (G.2.1 0, 10, .inl a)
  | 7 => .inl (G.2.1 0, 10, .inl a)
  | 8 => .inl (G.2.1 0, 10, .inl a)
  | 9 => .inl (G.2.1 0, 10, .inl a)
  | 10 => .inl (G.2.1 0, 4, .inl a)
  | 11 => .inl (G.2.1 0, 10, .inl a)
  | 12 => .inl (G.2.1 1, 6, .inr (.inl l))
  | 13 => .inl (G.2.1 0, 5, .inl a)
  | 14 => .inl (G.2.1 0, 10, .inl a)
  | 15 => .inl (G.2.1 0, 24, .inl a)
  | 16 => .inl (G.2.1 0, 24, .inl a)
  | 17 => .inl (G.2.1 0, 24, .inl a)
  | 18 => .inl (G.2.1 0, 120, .inl a)
  | 19 => .inl (G.2.1 0, 120, .inl a)
  | 20 => .inl (G.2.1 0, 10, .inl a)
  | 21 => .inl (G.2.1 0, 10, .inl a)
  | 22 => .inl (G.2.1 0, 10, .inl a)
  | 23 => .inl (G.2.1 0, 10, .inl a)
  | 24 => .inl (G.2.1 0, 10, .inl a)
  | 25 => .inl (G.2.1 0, 4, .inl a)
  | 26 => .inl (G.2.1 3, 4, .inl a)
  | 27 => .inl (G.2.1 0, 4, .inl a)
  | 28 => .inl (G.2.1 0, 4, .inl a)
  | _ => .inl (G.2.1 0, 160, .inl a)
def MW (β : Nat) (G : xG) (N : Nat) (x : MS) (H : Heap) : Prop := H.size = N ∧ ∀ k, k < 30 → va_at G.1 vwCl (β + k, shM β G k (x.1 k) (x.2.1 k) (x.2.2 k)) H
def AM (β : Nat) : Nat → Prop := fun q => β ≤ q ∧ q < β + 30
theorem AM.in {β k : Nat} (h : k < 30) : AM β (β + k) := ⟨Nat.le_add_right _ _, Nat.add_lt_add_left h _⟩
theorem MW.set {β N : Nat} {G : xG} {x x1 : MS} {H H1 : Heap} (h : MW β G N x H) (k : Nat) (hat : va_at G.1 vwCl (β + k, shM β G k (x1.1 k) (x1.2.1 k) (x1.2.2 k)) H1) (ho : xOff (β + k) H H1) (hs : ∀ j, j ≠ k → x1.1 j = x.1 j ∧ x1.2.1 j = x.2.1 j ∧ x1.2.2 j = x.2.2 j) : MW β G N x1 H1 := by
  refine ⟨ho.1.trans h.1, fun j hj => ?_⟩
  by_cases q : j = k
  · subst q; exact hat
  · obtain ⟨e1, e2, e3⟩ := hs j q
    rw [e1, e2, e3]
    exact (h.2 j hj).kept (ho.2 _ (fun z => q (Nat.add_left_cancel z)))
theorem MW.setS {β N : Nat} {G : xG} {x : MS} {H H1 : Heap} (h : MW β G N x H) (k i : Nat) (v : Int32) (hat : va_at G.1 vwCl (β + k, shM β G k ((msS x k i v).1 k) ((msS x k i v).2.1 k) ((msS x k i v).2.2 k)) H1) (ho : xOff (β + k) H H1) : MW β G N (msS x k i v) H1 := h.set k hat ho (fun j hj => ⟨if_neg hj, rfl, rfl⟩)
theorem MW.setA {β N : Nat} {G : xG} {x : MS} {H H1 : Heap} (h : MW β G N x H) (k i : Nat) (v : Int32) (hat : va_at G.1 vwCl (β + k, shM β G k ((msA x k i v).1 k) ((msA x k i v).2.1 k) ((msA x k i v).2.2 k)) H1) (ho : xOff (β + k) H H1) : MW β G N (msA x k i v) H1 := h.set k hat ho (fun j hj => ⟨rfl, if_neg hj, rfl⟩)
theorem MW.setL {β N : Nat} {G : xG} {x : MS} {H H1 : Heap} (h : MW β G N x H) (k i : Nat) (v : Int64) (hat : va_at G.1 vwCl (β + k, shM β G k ((msL x k i v).1 k) ((msL x k i v).2.1 k) ((msL x k i v).2.2 k)) H1) (ho : xOff (β + k) H H1) : MW β G N (msL x k i v) H1 := h.set k hat ho (fun j hj => ⟨rfl, rfl, if_neg hj⟩)
theorem dX9_in_0 : decode cX9_in 0 = .ok (.lload_n 0, 1) := by decide +kernel
theorem dX9_in_1 : decode cX9_in 1 = .ok (.lload_n 2, 1) := by decide +kernel
theorem dX9_in_2 : decode cX9_in 2 = .ok (.lcmp, 1) := by decide +kernel
theorem dX9_in_3 : decode cX9_in 3 = .ok (.ifCond .lt 14, 3) := by decide +kernel
theorem dX9_in_6 : decode cX9_in 6 = .ok (.lload_n 0, 1) := by decide +kernel
theorem dX9_in_7 : decode cX9_in 7 = .ok (.lload 4, 2) := by decide +kernel
theorem dX9_in_9 : decode cX9_in 9 = .ok (.lcmp, 1) := by decide +kernel
theorem dX9_in_10 : decode cX9_in 10 = .ok (.ifCond .gt 7, 3) := by decide +kernel
theorem dX9_in_13 : decode cX9_in 13 = .ok (.iconst 1, 1) := by decide +kernel
theorem dX9_in_14 : decode cX9_in 14 = .ok (.goto 4, 3) := by decide +kernel
theorem dX9_in_17 : decode cX9_in 17 = .ok (.iconst 0, 1) := by decide +kernel
theorem dX9_in_18 : decode cX9_in 18 = .ok (.ireturn, 1) := by decide +kernel
def fX9_in (a1 : Int64) (a2 : Int64) (a3 : Int64) : Option (Bool) := if a1 < a2 then some false else if a3 < a1 then some false else some true
abbrev rmX9_in : Room := { frames := 0, cells := 0, slots := 0, locals := 0 }
set_option maxHeartbeats 4000000 in
set_option maxRecDepth 100000 in
theorem kX9_in {l : Launch} {G : xG} {β N : Nat} {x : MS} {a1 : Int64} {a2 : Int64} {a3 : Int64} {r : Bool} (hm : fX9_in a1 a2 a3 = some r) : Met l yX9_in (.code yX9_in cX9_in 6 (some .boolean) :: GT) rmX9_in (PcW [.long a1, .long a2, .long a3] (MW β G N x) (KK G)) (QcW (AM β) (some (.int (bI r))) (MW β G N x)) 0 0 (AM β) := by
  unfold fX9_in at hm
  refine xpro (own := RX9) (by decide +kernel) rfl (Nat.le_of_ble_eq_true rfl) ?_
  intro p e s m args below meth c C hw ls hl
  have hx := C.1
  have hb := C.2.1
  have ho := C.2.2.2.1
  have hts := C.2.2.2.2.1
  have hS : va_S (AM β) s.heap s.heap [] := va_S.rf
  have hl : lv_has ls 6 [(0, .long a1), (2, .long a2), (4, .long a3)] := hl
  have hRf : 0 ≤ rmX9_in.frames := Nat.le_refl _
  have hRl : 0 ≤ rmX9_in.locals := Nat.le_refl _
  have hcs : 0 ≤ rmX9_in.cells ∧ 0 ≤ rmX9_in.slots := ⟨Nat.le_refl _, Nat.le_refl _⟩
  refine lv_lload_n hx hb dX9_in_0 rfl (lv_at hl 0 rfl) ?_
  refine lv_lload_n hx hb dX9_in_1 rfl (lv_at hl 1 rfl) ?_
  refine W.lcmp hx hb dX9_in_2 ?_
  refine lv_if_lt (tgt := 17) hx hb dX9_in_3 (by decide) (fun cc => ?_) (fun cc => ?_)
  · rw [lg_cmp_lt] at cc
    replace hm := ite_p cc hm
    refine lv_iconst (v := 0) hx hb dX9_in_17 (by decide) ?_
    obtain rfl := Option.some.inj hm
    exact xret_z (v := bI false) C (bI_nar _) hw hS dX9_in_18
  · rw [lg_cmp_lt] at cc
    replace hm := ite_n cc hm
    refine lv_lload_n hx hb dX9_in_6 rfl (lv_at hl 0 rfl) ?_
    refine lv_lload hx hb dX9_in_7 (lv_at hl 2 rfl) ?_
    refine W.lcmp hx hb dX9_in_9 ?_
    refine lv_if_gt (tgt := 17) hx hb dX9_in_10 (by decide) (fun cc => ?_) (fun cc => ?_)
    · rw [lg_cmp_gt] at cc
      replace hm := ite_p cc hm
      refine lv_iconst (v := 0) hx hb dX9_in_17 (by decide) ?_
      obtain rfl := Option.some.inj hm
      exact xret_z (v := bI false) C (bI_nar _) hw hS dX9_in_18
    · rw [lg_cmp_gt] at cc
      replace hm := ite_n cc hm
      refine lv_iconst (v := 1) hx hb dX9_in_13 (by decide) ?_
      refine lv_goto (tgt := 18) hx hb dX9_in_14 (by decide) ?_
      obtain rfl := Option.some.inj hm
      exact xret_z (v := bI true) C (bI_nar _) hw hS dX9_in_18
theorem dX9_spell_0 : decode cX9_spell 0 = .ok (.iconst 0, 1) := by decide +kernel
theorem dX9_spell_1 : decode cX9_spell 1 = .ok (.istore 4, 2) := by decide +kernel
theorem dX9_spell_3 : decode cX9_spell 3 = .ok (.iload 4, 2) := by decide +kernel
theorem dX9_spell_5 : decode cX9_spell 5 = .ok (.bipush 8, 2) := by decide +kernel
theorem dX9_spell_7 : decode cX9_spell 7 = .ok (.if_icmp .ge 33, 3) := by decide +kernel
theorem dX9_spell_10 : decode cX9_spell 10 = .ok (.aload_n 0, 1) := by decide +kernel
theorem dX9_spell_11 : decode cX9_spell 11 = .ok (.getfield 13, 3) := by decide +kernel
theorem dX9_spell_14 : decode cX9_spell 14 = .ok (.iload_n 1, 1) := by decide +kernel
theorem dX9_spell_15 : decode cX9_spell 15 = .ok (.iload 4, 2) := by decide +kernel
theorem dX9_spell_17 : decode cX9_spell 17 = .ok (.iadd, 1) := by decide +kernel
theorem dX9_spell_18 : decode cX9_spell 18 = .ok (.lload_n 2, 1) := by decide +kernel
theorem dX9_spell_19 : decode cX9_spell 19 = .ok (.bipush 56, 2) := by decide +kernel
theorem dX9_spell_21 : decode cX9_spell 21 = .ok (.bipush 8, 2) := by decide +kernel
theorem dX9_spell_23 : decode cX9_spell 23 = .ok (.iload 4, 2) := by decide +kernel
theorem dX9_spell_25 : decode cX9_spell 25 = .ok (.imul, 1) := by decide +kernel
theorem dX9_spell_26 : decode cX9_spell 26 = .ok (.isub, 1) := by decide +kernel
theorem dX9_spell_27 : decode cX9_spell 27 = .ok (.lshr, 1) := by decide +kernel
theorem dX9_spell_28 : decode cX9_spell 28 = .ok (.ldc2_w 127, 3) := by decide +kernel
theorem dX9_spell_31 : decode cX9_spell 31 = .ok (.land, 1) := by decide +kernel
theorem dX9_spell_32 : decode cX9_spell 32 = .ok (.l2i, 1) := by decide +kernel
theorem dX9_spell_33 : decode cX9_spell 33 = .ok (.iastore, 1) := by decide +kernel
theorem dX9_spell_34 : decode cX9_spell 34 = .ok (.iinc 4 1, 3) := by decide +kernel
theorem dX9_spell_37 : decode cX9_spell 37 = .ok (.goto (-34), 3) := by decide +kernel
theorem dX9_spell_40 : decode cX9_spell 40 = .ok (.return_, 1) := by decide +kernel
theorem iwX9 : ∀ w ∈ u_ws RX9 TX9 57, w ∈ GT := in_tb [973, 975, 977, 979, 981, 983, 985, 987, 989, 991, 993, 995, 997, 999, 1001, 1003, 1005, 1007, 1009, 1011, 1013, 1015, 1017, 1019, 1021, 1023, 1025, 1027, 1029, 1031, 1033, 1035, 1037, 1039, 1041, 1043, 1045, 1047, 1049, 1051, 1053, 1055, 1057, 1059, 1061, 1063, 1065, 1067, 1069, 1071, 1073, 1075, 1077, 1079, 1081, 1083, 1085] (by decide +kernel) (by decide +kernel)
theorem gX9_13 {p : Program} {l : Launch} {e : Env} {R : Room} {s : State} {m : MethodId} {args : Array Value} {below : List Frame} {meth : Method} {c : Code} {H : Heap} {locs : List Loc} {cells slots : Nat} {Q : State → Prop} {cc : ByteArray} {pc nL : Nat} {ls : Array Slot} {rest : List Value} {ret : Option FieldType} {G : xG} {β N : Nat} {x : MS} (C : Cx p s m args meth c RX9 cc nL ret (KK G)) (hw : MW β G N x H) (hd : decode cc pc = .ok (.getfield 13, 3)) (kk : W p l e R s m args below meth c H locs cells slots Q (F0 m (pc + 3) ls (.ref (β + 1) :: rest))) : W p l e R s m args below meth c H locs cells slots Q (F0 m pc ls (.ref β :: rest)) :=
  va_get C.1 C.2.1 C.2.2.2.2.1 iwX9 C.2.2.2.1 C.K.1 (xP1 (hw.2 0 (by decide))) 0 rfl rfl 1 (by decide) (C.2.2.2.2.1 (.fieldLink RX9 13 RX9 "texts" "[I") (tg 917 (by decide +kernel) rfl)) (fun _ h9 => h9) rfl hd kk
theorem asM_1 {p : Program} {l : Launch} {e : Env} {R : Room} {s : State} {m : MethodId} {args : Array Value} {below : List Frame} {meth : Method} {c : Code} {H : Heap} {locs : List Loc} {cells slots : Nat} {Q : State → Prop} {cc : ByteArray} {pc nL : Nat} {ls : Array Slot} {rest : List Value} {ret : Option FieldType} {G : xG} {β N : Nat} {x : MS} {own : String} {i : Int32} {v : Int32} (C : Cx p s m args meth c own cc nL ret (KK G)) (hw : MW β G N x H) (hS : va_S (AM β) s.heap H locs) (hin : ib i 960) (hd : decode cc pc = .ok (.iastore, 1)) (kk : ∀ (H1 : Heap) (locs1 : List Loc), MW β G N (msA x 1 i.toNatClampNeg v) H1 → va_S (AM β) s.heap H1 locs1 → W p l e R s m args below meth c H1 locs1 cells slots Q (F0 m (pc + 1) ls (rest))) : W p l e R s m args below meth c H locs cells slots Q (F0 m pc ls (.int v :: .int i :: .ref (β + 1) :: rest)) :=
  x_iast C.1 C.2.1 C.K.1 hS 0 (hw.2 1 (by decide)) (AM.in (by decide)) rfl hin hd (fun H1 locs1 hat ho hS => kk H1 locs1 (hw.setA 1 _ _ hat ho) hS)
def BX9_spell_3 (q1 : Int32) (q2 : Int64) (lp : Int32 → MS → Option (MS)) (u4 : Int32) (x : MS) : Option (MS) := if 8 ≤ u4 then some x else if ib (q1 + u4) 960 then lt (msA x 1 (q1 + u4).toNatClampNeg (((q2 >>> ((56 - (8 * u4)).toInt64 &&& 63)) &&& 255).toInt32)) fun x2 => lt (u4 + 1) fun v3 => lp v3 x2 else none
def LX9_spell_3 (q1 : Int32) (q2 : Int64) : Nat → Int32 → MS → Option (MS)
  | 0, _, _ => none
  | n + 1, u4, x => BX9_spell_3 q1 q2 (LX9_spell_3 q1 q2 n) u4 x
def fX9_spell (x : MS) (a1 : Int32) (a2 : Int64) : Option (MS) := Option.bind (LX9_spell_3 a1 a2 NF 0 x) fun x4 => some x4
set_option maxHeartbeats 4000000 in
set_option maxRecDepth 100000 in
theorem lX9_spell_3 {p : Program} {l : Launch} {e : Env} {R : Room} {s : State} {m : MethodId} {args : Array Value} {below : List Frame} {meth : Method} {c : Code} {cells slots : Nat} {Q : State → Prop} {G : xG} {β N : Nat} (C : Cx p s m args meth c RX9 cX9_spell 5 none (KK G)) (hRf : 0 ≤ R.frames) (hRl : 0 ≤ R.locals) (hcs : cells ≤ R.cells ∧ slots ≤ R.slots) (q1 : Int32) (q2 : Int64) : ∀ (n : Nat) (u4 : Int32) (x : MS) (J : MS) (H : Heap) (locs : List Loc) (ls : Array Slot), LX9_spell_3 q1 q2 n u4 x = some J → MW β G N x H → va_S (AM β) s.heap H locs → lv_has ls 5 [(0, .ref β), (1, .int q1), (2, .long q2), (4, .int u4)] → (∀ (x1 : MS), J = x1 → ∀ (H : Heap) (locs : List Loc) (ls : Array Slot), MW β G N x1 H → va_S (AM β) s.heap H locs → lv_has ls 5 [] → W p l e R s m args below meth c H locs cells slots Q (F0 m 40 ls [])) → W p l e R s m args below meth c H locs cells slots Q (F0 m 3 ls []) := by
  have hx := C.1
  have hb := C.2.1
  have ho := C.2.2.2.1
  have hts := C.2.2.2.2.1
  intro n
  induction n with
  | zero =>
    intro u4 x J H locs ls hm
    exact absurd hm (by simp [LX9_spell_3])
  | succ n ih =>
    intro u4 x J H locs ls hm hw hS hl ke
    replace hm : BX9_spell_3 q1 q2 (LX9_spell_3 q1 q2 n) u4 x = some J := hm
    unfold BX9_spell_3 at hm
    refine lv_iload hx hb dX9_spell_3 (lv_at hl 3 rfl) ?_
    refine lv_bipush (v := 8) hx hb dX9_spell_5 (by decide) ?_
    refine lv_icmp_ge (tgt := 40) hx hb dX9_spell_7 (by decide) (fun cc => ?_) (fun cc => ?_)
    · replace hm := ite_p cc hm
      exact ke _ (Option.some.inj hm).symm _ _ _ hw hS (lv_sub hl [] rfl)
    · replace hm := ite_n cc hm
      refine lv_aload_n hx hb dX9_spell_10 rfl (lv_at hl 0 rfl) ?_
      refine gX9_13 C hw dX9_spell_11 ?_
      refine lv_iload_n hx hb dX9_spell_14 rfl (lv_at hl 1 rfl) ?_
      refine lv_iload hx hb dX9_spell_15 (lv_at hl 3 rfl) ?_
      refine lv_iadd hx hb dX9_spell_17 ?_
      refine lv_lload_n hx hb dX9_spell_18 rfl (lv_at hl 2 rfl) ?_
      refine lv_bipush (v := 56) hx hb dX9_spell_19 (by decide) ?_
      refine lv_bipush (v := 8) hx hb dX9_spell_21 (by decide) ?_
      refine lv_iload hx hb dX9_spell_23 (lv_at hl 3 rfl) ?_
      refine lv_imul hx hb dX9_spell_25 ?_
      refine lv_isub hx hb dX9_spell_26 ?_
      refine lv_lshr hx hb dX9_spell_27 rfl ?_
      refine lv_ldc2 (v := 255) hx hb ho (hts (.constantLong RX9 127 255) (tg 910 (by decide +kernel) rfl)) dX9_spell_28 ?_
      refine lv_land hx hb dX9_spell_31 ?_
      refine lv_l2i hx hb dX9_spell_32 rfl ?_
      obtain ⟨h1, hm⟩ := chk_e hm
      refine asM_1 C hw hS h1 dX9_spell_33 (fun H locs hw hS => ?_)
      obtain ⟨x2, ev, hm⟩ := lt_e hm
      rw [← ev] at hw
      clear ev
      obtain ⟨v3, ev, hm⟩ := lt_e hm
      refine lv_iinc (v := v3) (lv' := [(4, .int v3), (0, .ref β), (1, .int q1), (2, .long q2)]) hx hb dX9_spell_34 hl (k := 3) rfl (by rw [ev]; rfl) (by decide) rfl (fun ls hl => ?_)
      clear ev
      refine lv_goto (tgt := 3) hx hb dX9_spell_37 (by decide) ?_
      exact ih _ _ _ _ _ _ hm hw hS (lv_sub hl [1, 2, 3, 0] rfl) ke
abbrev rmX9_spell : Room := { frames := 0, cells := 0, slots := 0, locals := 0 }
set_option maxHeartbeats 4000000 in
set_option maxRecDepth 100000 in
theorem kX9_spell {l : Launch} {G : xG} {β N : Nat} {x x' : MS} {a1 : Int32} {a2 : Int64} (hm : fX9_spell x a1 a2 = some x') : Met l yX9_spell (.code yX9_spell cX9_spell 5 none :: GT) rmX9_spell (PcW [.ref β, .int a1, .long a2] (MW β G N x) (KK G)) (QcW (AM β) none (MW β G N x')) 0 0 (AM β) := by
  unfold fX9_spell at hm
  refine xpro (own := RX9) (by decide +kernel) rfl (Nat.le_of_ble_eq_true rfl) ?_
  intro p e s m args below meth c C hw ls hl
  have hx := C.1
  have hb := C.2.1
  have ho := C.2.2.2.1
  have hts := C.2.2.2.2.1
  have hS : va_S (AM β) s.heap s.heap [] := va_S.rf
  have hl : lv_has ls 5 [(0, .ref β), (1, .int a1), (2, .long a2)] := hl
  have hRf : 0 ≤ rmX9_spell.frames := Nat.le_refl _
  have hRl : 0 ≤ rmX9_spell.locals := Nat.le_refl _
  have hcs : 0 ≤ rmX9_spell.cells ∧ 0 ≤ rmX9_spell.slots := ⟨Nat.le_refl _, Nat.le_refl _⟩
  refine lv_iconst (v := 0) hx hb dX9_spell_0 (by decide) ?_
  refine lv_istore (lv' := [(4, .int 0), (0, .ref β), (1, .int a1), (2, .long a2)]) hx hb dX9_spell_1 hl (by decide) rfl (fun ls hl => ?_)
  obtain ⟨x4, hj, hm⟩ := bind_e hm
  refine lX9_spell_3 C hRf hRl hcs a1 a2 NF _ _ _ _ _ _ hj hw hS (lv_sub hl [1, 2, 3, 0] rfl) (fun x4_ e0 H locs ls hw hS hl => ?_)
  cases e0
  obtain rfl := Option.some.inj hm
  exact xret_v C hw hS dX9_spell_40
theorem dX9_isHorse_0 : decode cX9_isHorse 0 = .ok (.iload_n 1, 1) := by decide +kernel
theorem dX9_isHorse_1 : decode cX9_isHorse 1 = .ok (.i2l, 1) := by decide +kernel
theorem dX9_isHorse_2 : decode cX9_isHorse 2 = .ok (.lconst 0, 1) := by decide +kernel
theorem dX9_isHorse_3 : decode cX9_isHorse 3 = .ok (.aload_n 0, 1) := by decide +kernel
theorem dX9_isHorse_4 : decode cX9_isHorse 4 = .ok (.getfield 129, 3) := by decide +kernel
theorem dX9_isHorse_7 : decode cX9_isHorse 7 = .ok (.iconst 1, 1) := by decide +kernel
theorem dX9_isHorse_8 : decode cX9_isHorse 8 = .ok (.isub, 1) := by decide +kernel
theorem dX9_isHorse_9 : decode cX9_isHorse 9 = .ok (.i2l, 1) := by decide +kernel
theorem dX9_isHorse_10 : decode cX9_isHorse 10 = .ok (.invokestatic 132, 3) := by decide +kernel
theorem dX9_isHorse_13 : decode cX9_isHorse 13 = .ok (.ireturn, 1) := by decide +kernel
theorem gX9_129 {p : Program} {l : Launch} {e : Env} {R : Room} {s : State} {m : MethodId} {args : Array Value} {below : List Frame} {meth : Method} {c : Code} {H : Heap} {locs : List Loc} {cells slots : Nat} {Q : State → Prop} {cc : ByteArray} {pc nL : Nat} {ls : Array Slot} {rest : List Value} {ret : Option FieldType} {G : xG} {β N : Nat} {x : MS} (C : Cx p s m args meth c RX9 cc nL ret (KK G)) (hw : MW β G N x H) (hd : decode cc pc = .ok (.getfield 129, 3)) (kk : W p l e R s m args below meth c H locs cells slots Q (F0 m (pc + 3) ls (.int (x.1 0 13) :: rest))) : W p l e R s m args below meth c H locs cells slots Q (F0 m pc ls (.ref β :: rest)) :=
  va_get C.1 C.2.1 C.2.2.2.2.1 iwX9 C.2.2.2.1 C.K.1 (xP1 (hw.2 0 (by decide))) 0 rfl rfl 13 (by decide) (C.2.2.2.2.1 (.fieldLink RX9 129 RX9 "horseMany" "I") (tg 929 (by decide +kernel) rfl)) (fun _ h9 => h9) rfl hd kk
theorem sX9_132 {p : Program} {l : Launch} {e : Env} {R : Room} {s : State} {m : MethodId} {args : Array Value} {below : List Frame} {meth : Method} {c : Code} {H : Heap} {locs : List Loc} {cells slots : Nat} {Q : State → Prop} {cc : ByteArray} {pc nL : Nat} {ls : Array Slot} {rest : List Value} {ret : Option FieldType} {G : xG} {β N : Nat} {x : MS} {a1 : Int64} {a2 : Int64} {a3 : Int64} {r : Bool} (C : Cx p s m args meth c RX9 cc nL ret (KK G)) (h : fX9_in a1 a2 a3 = some r) (hw : MW β G N x H) (hS : va_S (AM β) s.heap H locs) (hsz : ls.size = nL) (hW : (rest.map fun v => v.category).sum ≤ 8) (hR : 1 ≤ R.frames) (hR2 : 25 ≤ R.locals) (hcs : cells ≤ R.cells ∧ slots ≤ R.slots) (hd : decode cc pc = .ok (.invokestatic 132, 3)) (kk : ∀ (H1 : Heap) (locs1 : List Loc), MW β G N x H1 → va_S (AM β) s.heap H1 locs1 → W p l e R s m args below meth c H1 locs1 cells slots Q (F0 m (pc + 3) ls (.int (bI r) :: rest))) : W p l e R s m args below meth c H locs cells slots Q (F0 m pc ls (.long a3 :: .long a2 :: .long a1 :: rest)) :=
  xcallS C (As := [.long a1, .long a2, .long a3]) (rest := rest) (nA := 3) (kX9_in h) (tg 1095 (by decide +kernel) rfl) (tg 1096 (by decide +kernel) rfl) (tg 14 (by decide +kernel) rfl) (tg 1097 (by decide +kernel) rfl) ⟨by decide +kernel, by decide +kernel, by decide +kernel⟩ rfl rfl ⟨hR, hR2⟩ hw hS (fun _ q => q) rfl rfl hsz hW hd hcs (fun H1 locs1 hw hz hk hS => kk H1 locs1 hw hS)
def fX9_isHorse (x : MS) (a1 : Int32) : Option (Bool) := Option.bind (fX9_in (a1.toInt64) 0 (((x.1 0 13) - 1).toInt64)) fun v1 => some v1
abbrev rmX9_isHorse : Room := { frames := 1, cells := 0, slots := 0, locals := 25 }
set_option maxHeartbeats 4000000 in
set_option maxRecDepth 100000 in
theorem kX9_isHorse {l : Launch} {G : xG} {β N : Nat} {x : MS} {a1 : Int32} {r : Bool} (hm : fX9_isHorse x a1 = some r) : Met l yX9_isHorse (.code yX9_isHorse cX9_isHorse 2 (some .boolean) :: GT) rmX9_isHorse (PcW [.ref β, .int a1] (MW β G N x) (KK G)) (QcW (AM β) (some (.int (bI r))) (MW β G N x)) 0 0 (AM β) := by
  unfold fX9_isHorse at hm
  refine xpro (own := RX9) (by decide +kernel) rfl (Nat.le_of_ble_eq_true rfl) ?_
  intro p e s m args below meth c C hw ls hl
  have hx := C.1
  have hb := C.2.1
  have ho := C.2.2.2.1
  have hts := C.2.2.2.2.1
  have hS : va_S (AM β) s.heap s.heap [] := va_S.rf
  have hl : lv_has ls 2 [(0, .ref β), (1, .int a1)] := hl
  have hRf : 1 ≤ rmX9_isHorse.frames := Nat.le_refl _
  have hRl : 25 ≤ rmX9_isHorse.locals := Nat.le_refl _
  have hcs : 0 ≤ rmX9_isHorse.cells ∧ 0 ≤ rmX9_isHorse.slots := ⟨Nat.le_refl _, Nat.le_refl _⟩
  refine lv_iload_n hx hb dX9_isHorse_0 rfl (lv_at hl 1 rfl) ?_
  refine lv_i2l hx hb dX9_isHorse_1 rfl ?_
  refine lv_lconst (v := 0) hx hb dX9_isHorse_2 (by decide) ?_
  refine lv_aload_n hx hb dX9_isHorse_3 rfl (lv_at hl 0 rfl) ?_
  refine gX9_129 C hw dX9_isHorse_4 ?_
  refine lv_iconst (v := 1) hx hb dX9_isHorse_7 (by decide) ?_
  refine lv_isub hx hb dX9_isHorse_8 ?_
  refine lv_i2l hx hb dX9_isHorse_9 rfl ?_
  obtain ⟨v1, h2, hm⟩ := bind_e hm
  refine sX9_132 C h2 hw hS hl.1 (Nat.le_of_ble_eq_true rfl) (Nat.le_trans (Nat.le_of_ble_eq_true rfl) hRf) (Nat.le_trans (Nat.le_of_ble_eq_true rfl) hRl) hcs dX9_isHorse_10 (fun H locs hw hS => ?_)
  obtain rfl := Option.some.inj hm
  exact xret_z C (bI_nar _) hw hS dX9_isHorse_13
theorem dX9_isGround_0 : decode cX9_isGround 0 = .ok (.iload_n 0, 1) := by decide +kernel
theorem dX9_isGround_1 : decode cX9_isGround 1 = .ok (.i2l, 1) := by decide +kernel
theorem dX9_isGround_2 : decode cX9_isGround 2 = .ok (.lconst 0, 1) := by decide +kernel
theorem dX9_isGround_3 : decode cX9_isGround 3 = .ok (.ldc2_w 136, 3) := by decide +kernel
theorem dX9_isGround_6 : decode cX9_isGround 6 = .ok (.invokestatic 132, 3) := by decide +kernel
theorem dX9_isGround_9 : decode cX9_isGround 9 = .ok (.ireturn, 1) := by decide +kernel
def fX9_isGround (a1 : Int32) : Option (Bool) := Option.bind (fX9_in (a1.toInt64) 0 3) fun v1 => some v1
abbrev rmX9_isGround : Room := { frames := 1, cells := 0, slots := 0, locals := 25 }
set_option maxHeartbeats 4000000 in
set_option maxRecDepth 100000 in
theorem kX9_isGround {l : Launch} {G : xG} {β N : Nat} {x : MS} {a1 : Int32} {r : Bool} (hm : fX9_isGround a1 = some r) : Met l yX9_isGround (.code yX9_isGround cX9_isGround 1 (some .boolean) :: GT) rmX9_isGround (PcW [.int a1] (MW β G N x) (KK G)) (QcW (AM β) (some (.int (bI r))) (MW β G N x)) 0 0 (AM β) := by
  unfold fX9_isGround at hm
  refine xpro (own := RX9) (by decide +kernel) rfl (Nat.le_of_ble_eq_true rfl) ?_
  intro p e s m args below meth c C hw ls hl
  have hx := C.1
  have hb := C.2.1
  have ho := C.2.2.2.1
  have hts := C.2.2.2.2.1
  have hS : va_S (AM β) s.heap s.heap [] := va_S.rf
  have hl : lv_has ls 1 [(0, .int a1)] := hl
  have hRf : 1 ≤ rmX9_isGround.frames := Nat.le_refl _
  have hRl : 25 ≤ rmX9_isGround.locals := Nat.le_refl _
  have hcs : 0 ≤ rmX9_isGround.cells ∧ 0 ≤ rmX9_isGround.slots := ⟨Nat.le_refl _, Nat.le_refl _⟩
  refine lv_iload_n hx hb dX9_isGround_0 rfl (lv_at hl 0 rfl) ?_
  refine lv_i2l hx hb dX9_isGround_1 rfl ?_
  refine lv_lconst (v := 0) hx hb dX9_isGround_2 (by decide) ?_
  refine lv_ldc2 (v := 3) hx hb ho (hts (.constantLong RX9 136 3) (tg 1117 (by decide +kernel) rfl)) dX9_isGround_3 ?_
  obtain ⟨v1, h2, hm⟩ := bind_e hm
  refine sX9_132 C h2 hw hS hl.1 (Nat.le_of_ble_eq_true rfl) (Nat.le_trans (Nat.le_of_ble_eq_true rfl) hRf) (Nat.le_trans (Nat.le_of_ble_eq_true rfl) hRl) hcs dX9_isGround_6 (fun H locs hw hS => ?_)
  obtain rfl := Option.some.inj hm
  exact xret_z C (bI_nar _) hw hS dX9_isGround_9
theorem dX9_horse_0 : decode cX9_horse 0 = .ok (.iload_n 1, 1) := by decide +kernel
theorem dX9_horse_1 : decode cX9_horse 1 = .ok (.i2l, 1) := by decide +kernel
theorem dX9_horse_2 : decode cX9_horse 2 = .ok (.lconst 0, 1) := by decide +kernel
theorem dX9_horse_3 : decode cX9_horse 3 = .ok (.ldc2_w 138, 3) := by decide +kernel
theorem dX9_horse_6 : decode cX9_horse 6 = .ok (.invokestatic 132, 3) := by decide +kernel
theorem dX9_horse_9 : decode cX9_horse 9 = .ok (.ifCond .eq 50, 3) := by decide +kernel
theorem dX9_horse_12 : decode cX9_horse 12 = .ok (.iload_n 2, 1) := by decide +kernel
theorem dX9_horse_13 : decode cX9_horse 13 = .ok (.i2l, 1) := by decide +kernel
theorem dX9_horse_14 : decode cX9_horse 14 = .ok (.lconst 0, 1) := by decide +kernel
theorem dX9_horse_15 : decode cX9_horse 15 = .ok (.ldc2_w 140, 3) := by decide +kernel
theorem dX9_horse_18 : decode cX9_horse 18 = .ok (.invokestatic 132, 3) := by decide +kernel
theorem dX9_horse_21 : decode cX9_horse 21 = .ok (.ifCond .eq 38, 3) := by decide +kernel
theorem dX9_horse_24 : decode cX9_horse 24 = .ok (.iload_n 3, 1) := by decide +kernel
theorem dX9_horse_25 : decode cX9_horse 25 = .ok (.i2l, 1) := by decide +kernel
theorem dX9_horse_26 : decode cX9_horse 26 = .ok (.ldc2_w 142, 3) := by decide +kernel
theorem dX9_horse_29 : decode cX9_horse 29 = .ok (.ldc2_w 144, 3) := by decide +kernel
theorem dX9_horse_32 : decode cX9_horse 32 = .ok (.invokestatic 132, 3) := by decide +kernel
theorem dX9_horse_35 : decode cX9_horse 35 = .ok (.ifCond .eq 24, 3) := by decide +kernel
theorem dX9_horse_38 : decode cX9_horse 38 = .ok (.iload_n 3, 1) := by decide +kernel
theorem dX9_horse_39 : decode cX9_horse 39 = .ok (.sipush 1000, 3) := by decide +kernel
theorem dX9_horse_42 : decode cX9_horse 42 = .ok (.irem, 1) := by decide +kernel
theorem dX9_horse_43 : decode cX9_horse 43 = .ok (.bipush 10, 2) := by decide +kernel
theorem dX9_horse_45 : decode cX9_horse 45 = .ok (.idiv, 1) := by decide +kernel
theorem dX9_horse_46 : decode cX9_horse 46 = .ok (.bipush 20, 2) := by decide +kernel
theorem dX9_horse_48 : decode cX9_horse 48 = .ok (.if_icmp .gt 11, 3) := by decide +kernel
theorem dX9_horse_51 : decode cX9_horse 51 = .ok (.iload_n 3, 1) := by decide +kernel
theorem dX9_horse_52 : decode cX9_horse 52 = .ok (.bipush 10, 2) := by decide +kernel
theorem dX9_horse_54 : decode cX9_horse 54 = .ok (.irem, 1) := by decide +kernel
theorem dX9_horse_55 : decode cX9_horse 55 = .ok (.iconst 4, 1) := by decide +kernel
theorem dX9_horse_56 : decode cX9_horse 56 = .ok (.if_icmp .lt 6, 3) := by decide +kernel
theorem dX9_horse_59 : decode cX9_horse 59 = .ok (.bipush (-2), 2) := by decide +kernel
theorem dX9_horse_61 : decode cX9_horse 61 = .ok (.ireturn, 1) := by decide +kernel
theorem dX9_horse_62 : decode cX9_horse 62 = .ok (.aload_n 0, 1) := by decide +kernel
theorem dX9_horse_63 : decode cX9_horse 63 = .ok (.getfield 129, 3) := by decide +kernel
theorem dX9_horse_66 : decode cX9_horse 66 = .ok (.bipush 10, 2) := by decide +kernel
theorem dX9_horse_68 : decode cX9_horse 68 = .ok (.if_icmp .ne 6, 3) := by decide +kernel
theorem dX9_horse_71 : decode cX9_horse 71 = .ok (.bipush (-4), 2) := by decide +kernel
theorem dX9_horse_73 : decode cX9_horse 73 = .ok (.ireturn, 1) := by decide +kernel
theorem dX9_horse_74 : decode cX9_horse 74 = .ok (.aload_n 0, 1) := by decide +kernel
theorem dX9_horse_75 : decode cX9_horse 75 = .ok (.getfield 23, 3) := by decide +kernel
theorem dX9_horse_78 : decode cX9_horse 78 = .ok (.aload_n 0, 1) := by decide +kernel
theorem dX9_horse_79 : decode cX9_horse 79 = .ok (.getfield 129, 3) := by decide +kernel
theorem dX9_horse_82 : decode cX9_horse 82 = .ok (.iload_n 1, 1) := by decide +kernel
theorem dX9_horse_83 : decode cX9_horse 83 = .ok (.iastore, 1) := by decide +kernel
theorem dX9_horse_84 : decode cX9_horse 84 = .ok (.aload_n 0, 1) := by decide +kernel
theorem dX9_horse_85 : decode cX9_horse 85 = .ok (.getfield 26, 3) := by decide +kernel
theorem dX9_horse_88 : decode cX9_horse 88 = .ok (.aload_n 0, 1) := by decide +kernel
theorem dX9_horse_89 : decode cX9_horse 89 = .ok (.getfield 129, 3) := by decide +kernel
theorem dX9_horse_92 : decode cX9_horse 92 = .ok (.iload_n 2, 1) := by decide +kernel
theorem dX9_horse_93 : decode cX9_horse 93 = .ok (.iastore, 1) := by decide +kernel
theorem dX9_horse_94 : decode cX9_horse 94 = .ok (.aload_n 0, 1) := by decide +kernel
theorem dX9_horse_95 : decode cX9_horse 95 = .ok (.getfield 29, 3) := by decide +kernel
theorem dX9_horse_98 : decode cX9_horse 98 = .ok (.aload_n 0, 1) := by decide +kernel
theorem dX9_horse_99 : decode cX9_horse 99 = .ok (.getfield 129, 3) := by decide +kernel
theorem dX9_horse_102 : decode cX9_horse 102 = .ok (.iload_n 3, 1) := by decide +kernel
theorem dX9_horse_103 : decode cX9_horse 103 = .ok (.sipush 1000, 3) := by decide +kernel
theorem dX9_horse_106 : decode cX9_horse 106 = .ok (.idiv, 1) := by decide +kernel
theorem dX9_horse_107 : decode cX9_horse 107 = .ok (.iastore, 1) := by decide +kernel
theorem dX9_horse_108 : decode cX9_horse 108 = .ok (.aload_n 0, 1) := by decide +kernel
theorem dX9_horse_109 : decode cX9_horse 109 = .ok (.getfield 32, 3) := by decide +kernel
theorem dX9_horse_112 : decode cX9_horse 112 = .ok (.aload_n 0, 1) := by decide +kernel
theorem dX9_horse_113 : decode cX9_horse 113 = .ok (.getfield 129, 3) := by decide +kernel
theorem dX9_horse_116 : decode cX9_horse 116 = .ok (.iload_n 3, 1) := by decide +kernel
theorem dX9_horse_117 : decode cX9_horse 117 = .ok (.sipush 1000, 3) := by decide +kernel
theorem dX9_horse_120 : decode cX9_horse 120 = .ok (.irem, 1) := by decide +kernel
theorem dX9_horse_121 : decode cX9_horse 121 = .ok (.bipush 10, 2) := by decide +kernel
theorem dX9_horse_123 : decode cX9_horse 123 = .ok (.idiv, 1) := by decide +kernel
theorem dX9_horse_124 : decode cX9_horse 124 = .ok (.iastore, 1) := by decide +kernel
theorem dX9_horse_125 : decode cX9_horse 125 = .ok (.aload_n 0, 1) := by decide +kernel
theorem dX9_horse_126 : decode cX9_horse 126 = .ok (.getfield 35, 3) := by decide +kernel
theorem dX9_horse_129 : decode cX9_horse 129 = .ok (.aload_n 0, 1) := by decide +kernel
theorem dX9_horse_130 : decode cX9_horse 130 = .ok (.getfield 129, 3) := by decide +kernel
theorem dX9_horse_133 : decode cX9_horse 133 = .ok (.iload_n 3, 1) := by decide +kernel
theorem dX9_horse_134 : decode cX9_horse 134 = .ok (.bipush 10, 2) := by decide +kernel
theorem dX9_horse_136 : decode cX9_horse 136 = .ok (.irem, 1) := by decide +kernel
theorem dX9_horse_137 : decode cX9_horse 137 = .ok (.iastore, 1) := by decide +kernel
theorem dX9_horse_138 : decode cX9_horse 138 = .ok (.aload_n 0, 1) := by decide +kernel
theorem dX9_horse_139 : decode cX9_horse 139 = .ok (.getfield 38, 3) := by decide +kernel
theorem dX9_horse_142 : decode cX9_horse 142 = .ok (.aload_n 0, 1) := by decide +kernel
theorem dX9_horse_143 : decode cX9_horse 143 = .ok (.getfield 129, 3) := by decide +kernel
theorem dX9_horse_146 : decode cX9_horse 146 = .ok (.iconst 0, 1) := by decide +kernel
theorem dX9_horse_147 : decode cX9_horse 147 = .ok (.iastore, 1) := by decide +kernel
theorem dX9_horse_148 : decode cX9_horse 148 = .ok (.aload_n 0, 1) := by decide +kernel
theorem dX9_horse_149 : decode cX9_horse 149 = .ok (.dup, 1) := by decide +kernel
theorem dX9_horse_150 : decode cX9_horse 150 = .ok (.getfield 129, 3) := by decide +kernel
theorem dX9_horse_153 : decode cX9_horse 153 = .ok (.iconst 1, 1) := by decide +kernel
theorem dX9_horse_154 : decode cX9_horse 154 = .ok (.iadd, 1) := by decide +kernel
theorem dX9_horse_155 : decode cX9_horse 155 = .ok (.putfield 129, 3) := by decide +kernel
theorem dX9_horse_158 : decode cX9_horse 158 = .ok (.aload_n 0, 1) := by decide +kernel
theorem dX9_horse_159 : decode cX9_horse 159 = .ok (.getfield 129, 3) := by decide +kernel
theorem dX9_horse_162 : decode cX9_horse 162 = .ok (.iconst 1, 1) := by decide +kernel
theorem dX9_horse_163 : decode cX9_horse 163 = .ok (.isub, 1) := by decide +kernel
theorem dX9_horse_164 : decode cX9_horse 164 = .ok (.ireturn, 1) := by decide +kernel
theorem gX9_23 {p : Program} {l : Launch} {e : Env} {R : Room} {s : State} {m : MethodId} {args : Array Value} {below : List Frame} {meth : Method} {c : Code} {H : Heap} {locs : List Loc} {cells slots : Nat} {Q : State → Prop} {cc : ByteArray} {pc nL : Nat} {ls : Array Slot} {rest : List Value} {ret : Option FieldType} {G : xG} {β N : Nat} {x : MS} (C : Cx p s m args meth c RX9 cc nL ret (KK G)) (hw : MW β G N x H) (hd : decode cc pc = .ok (.getfield 23, 3)) (kk : W p l e R s m args below meth c H locs cells slots Q (F0 m (pc + 3) ls (.ref (β + 4) :: rest))) : W p l e R s m args below meth c H locs cells slots Q (F0 m pc ls (.ref β :: rest)) :=
  va_get C.1 C.2.1 C.2.2.2.2.1 iwX9 C.2.2.2.1 C.K.1 (xP1 (hw.2 0 (by decide))) 0 rfl rfl 7 (by decide) (C.2.2.2.2.1 (.fieldLink RX9 23 RX9 "kind" "[I") (tg 923 (by decide +kernel) rfl)) (fun _ h9 => h9) rfl hd kk
theorem asM_4 {p : Program} {l : Launch} {e : Env} {R : Room} {s : State} {m : MethodId} {args : Array Value} {below : List Frame} {meth : Method} {c : Code} {H : Heap} {locs : List Loc} {cells slots : Nat} {Q : State → Prop} {cc : ByteArray} {pc nL : Nat} {ls : Array Slot} {rest : List Value} {ret : Option FieldType} {G : xG} {β N : Nat} {x : MS} {own : String} {i : Int32} {v : Int32} (C : Cx p s m args meth c own cc nL ret (KK G)) (hw : MW β G N x H) (hS : va_S (AM β) s.heap H locs) (hin : ib i 10) (hd : decode cc pc = .ok (.iastore, 1)) (kk : ∀ (H1 : Heap) (locs1 : List Loc), MW β G N (msA x 4 i.toNatClampNeg v) H1 → va_S (AM β) s.heap H1 locs1 → W p l e R s m args below meth c H1 locs1 cells slots Q (F0 m (pc + 1) ls (rest))) : W p l e R s m args below meth c H locs cells slots Q (F0 m pc ls (.int v :: .int i :: .ref (β + 4) :: rest)) :=
  x_iast C.1 C.2.1 C.K.1 hS 0 (hw.2 4 (by decide)) (AM.in (by decide)) rfl hin hd (fun H1 locs1 hat ho hS => kk H1 locs1 (hw.setA 4 _ _ hat ho) hS)
theorem gX9_26 {p : Program} {l : Launch} {e : Env} {R : Room} {s : State} {m : MethodId} {args : Array Value} {below : List Frame} {meth : Method} {c : Code} {H : Heap} {locs : List Loc} {cells slots : Nat} {Q : State → Prop} {cc : ByteArray} {pc nL : Nat} {ls : Array Slot} {rest : List Value} {ret : Option FieldType} {G : xG} {β N : Nat} {x : MS} (C : Cx p s m args meth c RX9 cc nL ret (KK G)) (hw : MW β G N x H) (hd : decode cc pc = .ok (.getfield 26, 3)) (kk : W p l e R s m args below meth c H locs cells slots Q (F0 m (pc + 3) ls (.ref (β + 5) :: rest))) : W p l e R s m args below meth c H locs cells slots Q (F0 m pc ls (.ref β :: rest)) :=
  va_get C.1 C.2.1 C.2.2.2.2.1 iwX9 C.2.2.2.1 C.K.1 (xP1 (hw.2 0 (by decide))) 0 rfl rfl 8 (by decide) (C.2.2.2.2.1 (.fieldLink RX9 26 RX9 "strength" "[I") (tg 924 (by decide +kernel) rfl)) (fun _ h9 => h9) rfl hd kk
theorem asM_5 {p : Program} {l : Launch} {e : Env} {R : Room} {s : State} {m : MethodId} {args : Array Value} {below : List Frame} {meth : Method} {c : Code} {H : Heap} {locs : List Loc} {cells slots : Nat} {Q : State → Prop} {cc : ByteArray} {pc nL : Nat} {ls : Array Slot} {rest : List Value} {ret : Option FieldType} {G : xG} {β N : Nat} {x : MS} {own : String} {i : Int32} {v : Int32} (C : Cx p s m args meth c own cc nL ret (KK G)) (hw : MW β G N x H) (hS : va_S (AM β) s.heap H locs) (hin : ib i 10) (hd : decode cc pc = .ok (.iastore, 1)) (kk : ∀ (H1 : Heap) (locs1 : List Loc), MW β G N (msA x 5 i.toNatClampNeg v) H1 → va_S (AM β) s.heap H1 locs1 → W p l e R s m args below meth c H1 locs1 cells slots Q (F0 m (pc + 1) ls (rest))) : W p l e R s m args below meth c H locs cells slots Q (F0 m pc ls (.int v :: .int i :: .ref (β + 5) :: rest)) :=
  x_iast C.1 C.2.1 C.K.1 hS 0 (hw.2 5 (by decide)) (AM.in (by decide)) rfl hin hd (fun H1 locs1 hat ho hS => kk H1 locs1 (hw.setA 5 _ _ hat ho) hS)
theorem gX9_29 {p : Program} {l : Launch} {e : Env} {R : Room} {s : State} {m : MethodId} {args : Array Value} {below : List Frame} {meth : Method} {c : Code} {H : Heap} {locs : List Loc} {cells slots : Nat} {Q : State → Prop} {cc : ByteArray} {pc nL : Nat} {ls : Array Slot} {rest : List Value} {ret : Option FieldType} {G : xG} {β N : Nat} {x : MS} (C : Cx p s m args meth c RX9 cc nL ret (KK G)) (hw : MW β G N x H) (hd : decode cc pc = .ok (.getfield 29, 3)) (kk : W p l e R s m args below meth c H locs cells slots Q (F0 m (pc + 3) ls (.ref (β + 6) :: rest))) : W p l e R s m args below meth c H locs cells slots Q (F0 m pc ls (.ref β :: rest)) :=
  va_get C.1 C.2.1 C.2.2.2.2.1 iwX9 C.2.2.2.1 C.K.1 (xP1 (hw.2 0 (by decide))) 0 rfl rfl 9 (by decide) (C.2.2.2.2.1 (.fieldLink RX9 29 RX9 "age" "[I") (tg 925 (by decide +kernel) rfl)) (fun _ h9 => h9) rfl hd kk
theorem asM_6 {p : Program} {l : Launch} {e : Env} {R : Room} {s : State} {m : MethodId} {args : Array Value} {below : List Frame} {meth : Method} {c : Code} {H : Heap} {locs : List Loc} {cells slots : Nat} {Q : State → Prop} {cc : ByteArray} {pc nL : Nat} {ls : Array Slot} {rest : List Value} {ret : Option FieldType} {G : xG} {β N : Nat} {x : MS} {own : String} {i : Int32} {v : Int32} (C : Cx p s m args meth c own cc nL ret (KK G)) (hw : MW β G N x H) (hS : va_S (AM β) s.heap H locs) (hin : ib i 10) (hd : decode cc pc = .ok (.iastore, 1)) (kk : ∀ (H1 : Heap) (locs1 : List Loc), MW β G N (msA x 6 i.toNatClampNeg v) H1 → va_S (AM β) s.heap H1 locs1 → W p l e R s m args below meth c H1 locs1 cells slots Q (F0 m (pc + 1) ls (rest))) : W p l e R s m args below meth c H locs cells slots Q (F0 m pc ls (.int v :: .int i :: .ref (β + 6) :: rest)) :=
  x_iast C.1 C.2.1 C.K.1 hS 0 (hw.2 6 (by decide)) (AM.in (by decide)) rfl hin hd (fun H1 locs1 hat ho hS => kk H1 locs1 (hw.setA 6 _ _ hat ho) hS)
theorem gX9_32 {p : Program} {l : Launch} {e : Env} {R : Room} {s : State} {m : MethodId} {args : Array Value} {below : List Frame} {meth : Method} {c : Code} {H : Heap} {locs : List Loc} {cells slots : Nat} {Q : State → Prop} {cc : ByteArray} {pc nL : Nat} {ls : Array Slot} {rest : List Value} {ret : Option FieldType} {G : xG} {β N : Nat} {x : MS} (C : Cx p s m args meth c RX9 cc nL ret (KK G)) (hw : MW β G N x H) (hd : decode cc pc = .ok (.getfield 32, 3)) (kk : W p l e R s m args below meth c H locs cells slots Q (F0 m (pc + 3) ls (.ref (β + 7) :: rest))) : W p l e R s m args below meth c H locs cells slots Q (F0 m pc ls (.ref β :: rest)) :=
  va_get C.1 C.2.1 C.2.2.2.2.1 iwX9 C.2.2.2.1 C.K.1 (xP1 (hw.2 0 (by decide))) 0 rfl rfl 10 (by decide) (C.2.2.2.2.1 (.fieldLink RX9 32 RX9 "number" "[I") (tg 926 (by decide +kernel) rfl)) (fun _ h9 => h9) rfl hd kk
theorem asM_7 {p : Program} {l : Launch} {e : Env} {R : Room} {s : State} {m : MethodId} {args : Array Value} {below : List Frame} {meth : Method} {c : Code} {H : Heap} {locs : List Loc} {cells slots : Nat} {Q : State → Prop} {cc : ByteArray} {pc nL : Nat} {ls : Array Slot} {rest : List Value} {ret : Option FieldType} {G : xG} {β N : Nat} {x : MS} {own : String} {i : Int32} {v : Int32} (C : Cx p s m args meth c own cc nL ret (KK G)) (hw : MW β G N x H) (hS : va_S (AM β) s.heap H locs) (hin : ib i 10) (hd : decode cc pc = .ok (.iastore, 1)) (kk : ∀ (H1 : Heap) (locs1 : List Loc), MW β G N (msA x 7 i.toNatClampNeg v) H1 → va_S (AM β) s.heap H1 locs1 → W p l e R s m args below meth c H1 locs1 cells slots Q (F0 m (pc + 1) ls (rest))) : W p l e R s m args below meth c H locs cells slots Q (F0 m pc ls (.int v :: .int i :: .ref (β + 7) :: rest)) :=
  x_iast C.1 C.2.1 C.K.1 hS 0 (hw.2 7 (by decide)) (AM.in (by decide)) rfl hin hd (fun H1 locs1 hat ho hS => kk H1 locs1 (hw.setA 7 _ _ hat ho) hS)
theorem gX9_35 {p : Program} {l : Launch} {e : Env} {R : Room} {s : State} {m : MethodId} {args : Array Value} {below : List Frame} {meth : Method} {c : Code} {H : Heap} {locs : List Loc} {cells slots : Nat} {Q : State → Prop} {cc : ByteArray} {pc nL : Nat} {ls : Array Slot} {rest : List Value} {ret : Option FieldType} {G : xG} {β N : Nat} {x : MS} (C : Cx p s m args meth c RX9 cc nL ret (KK G)) (hw : MW β G N x H) (hd : decode cc pc = .ok (.getfield 35, 3)) (kk : W p l e R s m args below meth c H locs cells slots Q (F0 m (pc + 3) ls (.ref (β + 8) :: rest))) : W p l e R s m args below meth c H locs cells slots Q (F0 m pc ls (.ref β :: rest)) :=
  va_get C.1 C.2.1 C.2.2.2.2.1 iwX9 C.2.2.2.1 C.K.1 (xP1 (hw.2 0 (by decide))) 0 rfl rfl 11 (by decide) (C.2.2.2.2.1 (.fieldLink RX9 35 RX9 "groundOf" "[I") (tg 927 (by decide +kernel) rfl)) (fun _ h9 => h9) rfl hd kk
theorem asM_8 {p : Program} {l : Launch} {e : Env} {R : Room} {s : State} {m : MethodId} {args : Array Value} {below : List Frame} {meth : Method} {c : Code} {H : Heap} {locs : List Loc} {cells slots : Nat} {Q : State → Prop} {cc : ByteArray} {pc nL : Nat} {ls : Array Slot} {rest : List Value} {ret : Option FieldType} {G : xG} {β N : Nat} {x : MS} {own : String} {i : Int32} {v : Int32} (C : Cx p s m args meth c own cc nL ret (KK G)) (hw : MW β G N x H) (hS : va_S (AM β) s.heap H locs) (hin : ib i 10) (hd : decode cc pc = .ok (.iastore, 1)) (kk : ∀ (H1 : Heap) (locs1 : List Loc), MW β G N (msA x 8 i.toNatClampNeg v) H1 → va_S (AM β) s.heap H1 locs1 → W p l e R s m args below meth c H1 locs1 cells slots Q (F0 m (pc + 1) ls (rest))) : W p l e R s m args below meth c H locs cells slots Q (F0 m pc ls (.int v :: .int i :: .ref (β + 8) :: rest)) :=
  x_iast C.1 C.2.1 C.K.1 hS 0 (hw.2 8 (by decide)) (AM.in (by decide)) rfl hin hd (fun H1 locs1 hat ho hS => kk H1 locs1 (hw.setA 8 _ _ hat ho) hS)
theorem gX9_38 {p : Program} {l : Launch} {e : Env} {R : Room} {s : State} {m : MethodId} {args : Array Value} {below : List Frame} {meth : Method} {c : Code} {H : Heap} {locs : List Loc} {cells slots : Nat} {Q : State → Prop} {cc : ByteArray} {pc nL : Nat} {ls : Array Slot} {rest : List Value} {ret : Option FieldType} {G : xG} {β N : Nat} {x : MS} (C : Cx p s m args meth c RX9 cc nL ret (KK G)) (hw : MW β G N x H) (hd : decode cc pc = .ok (.getfield 38, 3)) (kk : W p l e R s m args below meth c H locs cells slots Q (F0 m (pc + 3) ls (.ref (β + 9) :: rest))) : W p l e R s m args below meth c H locs cells slots Q (F0 m pc ls (.ref β :: rest)) :=
  va_get C.1 C.2.1 C.2.2.2.2.1 iwX9 C.2.2.2.1 C.K.1 (xP1 (hw.2 0 (by decide))) 0 rfl rfl 12 (by decide) (C.2.2.2.2.1 (.fieldLink RX9 38 RX9 "lead" "[I") (tg 928 (by decide +kernel) rfl)) (fun _ h9 => h9) rfl hd kk
theorem asM_9 {p : Program} {l : Launch} {e : Env} {R : Room} {s : State} {m : MethodId} {args : Array Value} {below : List Frame} {meth : Method} {c : Code} {H : Heap} {locs : List Loc} {cells slots : Nat} {Q : State → Prop} {cc : ByteArray} {pc nL : Nat} {ls : Array Slot} {rest : List Value} {ret : Option FieldType} {G : xG} {β N : Nat} {x : MS} {own : String} {i : Int32} {v : Int32} (C : Cx p s m args meth c own cc nL ret (KK G)) (hw : MW β G N x H) (hS : va_S (AM β) s.heap H locs) (hin : ib i 10) (hd : decode cc pc = .ok (.iastore, 1)) (kk : ∀ (H1 : Heap) (locs1 : List Loc), MW β G N (msA x 9 i.toNatClampNeg v) H1 → va_S (AM β) s.heap H1 locs1 → W p l e R s m args below meth c H1 locs1 cells slots Q (F0 m (pc + 1) ls (rest))) : W p l e R s m args below meth c H locs cells slots Q (F0 m pc ls (.int v :: .int i :: .ref (β + 9) :: rest)) :=
  x_iast C.1 C.2.1 C.K.1 hS 0 (hw.2 9 (by decide)) (AM.in (by decide)) rfl hin hd (fun H1 locs1 hat ho hS => kk H1 locs1 (hw.setA 9 _ _ hat ho) hS)
theorem pX9_129 {p : Program} {l : Launch} {e : Env} {R : Room} {s : State} {m : MethodId} {args : Array Value} {below : List Frame} {meth : Method} {c : Code} {H : Heap} {locs : List Loc} {cells slots : Nat} {Q : State → Prop} {cc : ByteArray} {pc nL : Nat} {ls : Array Slot} {rest : List Value} {ret : Option FieldType} {G : xG} {β N : Nat} {x : MS} {v : Int32} (C : Cx p s m args meth c RX9 cc nL ret (KK G)) (hw : MW β G N x H) (hS : va_S (AM β) s.heap H locs) (hd : decode cc pc = .ok (.putfield 129, 3)) (kk : ∀ (H1 : Heap) (locs1 : List Loc), MW β G N (msS x 0 13 v) H1 → va_S (AM β) s.heap H1 locs1 → W p l e R s m args below meth c H1 locs1 cells slots Q (F0 m (pc + 3) ls (rest))) : W p l e R s m args below meth c H locs cells slots Q (F0 m pc ls (.int v :: .ref β :: rest)) :=
  x_put C.1 C.2.1 C.2.2.2.2.1 iwX9 tyX9 tyX9_ok nmX9 C.2.2.2.1 C.K.1 hS (hw.2 0 (by decide)) (AM.in (by decide)) rfl 13 (by decide) (C.2.2.2.2.1 (.fieldLink RX9 129 RX9 "horseMany" "I") (tg 929 (by decide +kernel) rfl)) (fun _ h9 => h9) rfl (ty := .int) (by decide +kernel) rfl rfl (Nat.le_of_ble_eq_true rfl) hd (fun H1 locs1 hat ho hS => kk H1 locs1 (hw.setS 0 13 v hat ho) hS)
def fX9_horse (x : MS) (a1 : Int32) (a2 : Int32) (a3 : Int32) : Option (Int32 × MS) := Option.bind (fX9_in (a1.toInt64) 0 5) fun v1 => if v1 = true then Option.bind (fX9_in (a2.toInt64) 0 99) fun v3 => if v3 = true then Option.bind (fX9_in (a3.toInt64) 2000 12999) fun v5 => if v5 = true then if 20 < ((irm a3 1000) / 10) then some ((-2), x) else if (irm a3 10) < 4 then if (x.1 0 13) = 10 then some ((-4), x) else if ib (x.1 0 13) 10 then lt (msA x 4 (x.1 0 13).toNatClampNeg a1) fun x8 => if ib (x8.1 0 13) 10 then lt (msA x8 5 (x8.1 0 13).toNatClampNeg a2) fun x10 => if ib (x10.1 0 13) 10 then lt (msA x10 6 (x10.1 0 13).toNatClampNeg (a3 / 1000)) fun x12 => if ib (x12.1 0 13) 10 then lt (msA x12 7 (x12.1 0 13).toNatClampNeg ((irm a3 1000) / 10)) fun x14 => if ib (x14.1 0 13) 10 then lt (msA x14 8 (x14.1 0 13).toNatClampNeg (irm a3 10)) fun x16 => if ib (x16.1 0 13) 10 then lt (msA x16 9 (x16.1 0 13).toNatClampNeg 0) fun x18 => lt (msS x18 0 13 ((x18.1 0 13) + 1)) fun x19 => some ((x19.1 0 13) - 1, x19) else none else none else none else none else none else none else some ((-2), x) else some ((-2), x) else some ((-2), x) else some ((-2), x)
abbrev rmX9_horse : Room := { frames := 1, cells := 0, slots := 0, locals := 25 }
set_option maxHeartbeats 4000000 in
set_option maxRecDepth 100000 in
theorem kX9_horse {l : Launch} {G : xG} {β N : Nat} {x x' : MS} {a1 : Int32} {a2 : Int32} {a3 : Int32} {r : Int32} (hm : fX9_horse x a1 a2 a3 = some (r, x')) : Met l yX9_horse (.code yX9_horse cX9_horse 4 (some .int) :: GT) rmX9_horse (PcW [.ref β, .int a1, .int a2, .int a3] (MW β G N x) (KK G)) (QcW (AM β) (some (.int r)) (MW β G N x')) 0 0 (AM β) := by
  unfold fX9_horse at hm
  refine xpro (own := RX9) (by decide +kernel) rfl (Nat.le_of_ble_eq_true rfl) ?_
  intro p e s m args below meth c C hw ls hl
  have hx := C.1
  have hb := C.2.1
  have ho := C.2.2.2.1
  have hts := C.2.2.2.2.1
  have hS : va_S (AM β) s.heap s.heap [] := va_S.rf
  have hl : lv_has ls 4 [(0, .ref β), (1, .int a1), (2, .int a2), (3, .int a3)] := hl
  have hRf : 1 ≤ rmX9_horse.frames := Nat.le_refl _
  have hRl : 25 ≤ rmX9_horse.locals := Nat.le_refl _
  have hcs : 0 ≤ rmX9_horse.cells ∧ 0 ≤ rmX9_horse.slots := ⟨Nat.le_refl _, Nat.le_refl _⟩
  refine lv_iload_n hx hb dX9_horse_0 rfl (lv_at hl 1 rfl) ?_
  refine lv_i2l hx hb dX9_horse_1 rfl ?_
  refine lv_lconst (v := 0) hx hb dX9_horse_2 (by decide) ?_
  refine lv_ldc2 (v := 5) hx hb ho (hts (.constantLong RX9 138 5) (tg 1094 (by decide +kernel) rfl)) dX9_horse_3 ?_
  obtain ⟨v1, h2, hm⟩ := bind_e hm
  refine sX9_132 C h2 hw hS hl.1 (Nat.le_of_ble_eq_true rfl) (Nat.le_trans (Nat.le_of_ble_eq_true rfl) hRf) (Nat.le_trans (Nat.le_of_ble_eq_true rfl) hRl) hcs dX9_horse_6 (fun H locs hw hS => ?_)
  refine x_ifeqB hx hb dX9_horse_9 (tgt := 59) (by decide) (fun cc => ?_) (fun cc => ?_)
  · replace hm := ite_n cc hm
    refine lv_bipush (v := (-2)) hx hb dX9_horse_59 (by decide) ?_
    obtain ⟨rfl, rfl⟩ := inj2 hm
    exact xret_i C hw hS dX9_horse_61
  · replace hm := ite_p cc hm
    refine lv_iload_n hx hb dX9_horse_12 rfl (lv_at hl 2 rfl) ?_
    refine lv_i2l hx hb dX9_horse_13 rfl ?_
    refine lv_lconst (v := 0) hx hb dX9_horse_14 (by decide) ?_
    refine lv_ldc2 (v := 99) hx hb ho (hts (.constantLong RX9 140 99) (tg 1098 (by decide +kernel) rfl)) dX9_horse_15 ?_
    obtain ⟨v3, h4, hm⟩ := bind_e hm
    refine sX9_132 C h4 hw hS hl.1 (Nat.le_of_ble_eq_true rfl) (Nat.le_trans (Nat.le_of_ble_eq_true rfl) hRf) (Nat.le_trans (Nat.le_of_ble_eq_true rfl) hRl) hcs dX9_horse_18 (fun H locs hw hS => ?_)
    refine x_ifeqB hx hb dX9_horse_21 (tgt := 59) (by decide) (fun cc => ?_) (fun cc => ?_)
    · replace hm := ite_n cc hm
      refine lv_bipush (v := (-2)) hx hb dX9_horse_59 (by decide) ?_
      obtain ⟨rfl, rfl⟩ := inj2 hm
      exact xret_i C hw hS dX9_horse_61
    · replace hm := ite_p cc hm
      refine lv_iload_n hx hb dX9_horse_24 rfl (lv_at hl 3 rfl) ?_
      refine lv_i2l hx hb dX9_horse_25 rfl ?_
      refine lv_ldc2 (v := 2000) hx hb ho (hts (.constantLong RX9 142 2000) (tg 1099 (by decide +kernel) rfl)) dX9_horse_26 ?_
      refine lv_ldc2 (v := 12999) hx hb ho (hts (.constantLong RX9 144 12999) (tg 1100 (by decide +kernel) rfl)) dX9_horse_29 ?_
      obtain ⟨v5, h6, hm⟩ := bind_e hm
      refine sX9_132 C h6 hw hS hl.1 (Nat.le_of_ble_eq_true rfl) (Nat.le_trans (Nat.le_of_ble_eq_true rfl) hRf) (Nat.le_trans (Nat.le_of_ble_eq_true rfl) hRl) hcs dX9_horse_32 (fun H locs hw hS => ?_)
      refine x_ifeqB hx hb dX9_horse_35 (tgt := 59) (by decide) (fun cc => ?_) (fun cc => ?_)
      · replace hm := ite_n cc hm
        refine lv_bipush (v := (-2)) hx hb dX9_horse_59 (by decide) ?_
        obtain ⟨rfl, rfl⟩ := inj2 hm
        exact xret_i C hw hS dX9_horse_61
      · replace hm := ite_p cc hm
        refine lv_iload_n hx hb dX9_horse_38 rfl (lv_at hl 3 rfl) ?_
        refine lv_sipush (v := 1000) hx hb dX9_horse_39 (by decide) ?_
        refine lv_irem hx hb dX9_horse_42 (by decide) ?_
        refine lv_bipush (v := 10) hx hb dX9_horse_43 (by decide) ?_
        refine lv_idiv hx hb dX9_horse_45 (by decide) ?_
        refine lv_bipush (v := 20) hx hb dX9_horse_46 (by decide) ?_
        refine lv_icmp_gt (tgt := 59) hx hb dX9_horse_48 (by decide) (fun cc => ?_) (fun cc => ?_)
        · replace hm := ite_p cc hm
          refine lv_bipush (v := (-2)) hx hb dX9_horse_59 (by decide) ?_
          obtain ⟨rfl, rfl⟩ := inj2 hm
          exact xret_i C hw hS dX9_horse_61
        · replace hm := ite_n cc hm
          refine lv_iload_n hx hb dX9_horse_51 rfl (lv_at hl 3 rfl) ?_
          refine lv_bipush (v := 10) hx hb dX9_horse_52 (by decide) ?_
          refine lv_irem hx hb dX9_horse_54 (by decide) ?_
          refine lv_iconst (v := 4) hx hb dX9_horse_55 (by decide) ?_
          refine lv_icmp_lt (tgt := 62) hx hb dX9_horse_56 (by decide) (fun cc => ?_) (fun cc => ?_)
          · replace hm := ite_p cc hm
            refine lv_aload_n hx hb dX9_horse_62 rfl (lv_at hl 0 rfl) ?_
            refine gX9_129 C hw dX9_horse_63 ?_
            refine lv_bipush (v := 10) hx hb dX9_horse_66 (by decide) ?_
            refine lv_icmp_ne (tgt := 74) hx hb dX9_horse_68 (by decide) (fun cc => ?_) (fun cc => ?_)
            · replace hm := ite_n cc hm
              refine lv_aload_n hx hb dX9_horse_74 rfl (lv_at hl 0 rfl) ?_
              refine gX9_23 C hw dX9_horse_75 ?_
              refine lv_aload_n hx hb dX9_horse_78 rfl (lv_at hl 0 rfl) ?_
              refine gX9_129 C hw dX9_horse_79 ?_
              refine lv_iload_n hx hb dX9_horse_82 rfl (lv_at hl 1 rfl) ?_
              obtain ⟨h7, hm⟩ := chk_e hm
              refine asM_4 C hw hS h7 dX9_horse_83 (fun H locs hw hS => ?_)
              obtain ⟨x8, ev, hm⟩ := lt_e hm
              rw [← ev] at hw
              clear ev
              refine lv_aload_n hx hb dX9_horse_84 rfl (lv_at hl 0 rfl) ?_
              refine gX9_26 C hw dX9_horse_85 ?_
              refine lv_aload_n hx hb dX9_horse_88 rfl (lv_at hl 0 rfl) ?_
              refine gX9_129 C hw dX9_horse_89 ?_
              refine lv_iload_n hx hb dX9_horse_92 rfl (lv_at hl 2 rfl) ?_
              obtain ⟨h9, hm⟩ := chk_e hm
              refine asM_5 C hw hS h9 dX9_horse_93 (fun H locs hw hS => ?_)
              obtain ⟨x10, ev, hm⟩ := lt_e hm
              rw [← ev] at hw
              clear ev
              refine lv_aload_n hx hb dX9_horse_94 rfl (lv_at hl 0 rfl) ?_
              refine gX9_29 C hw dX9_horse_95 ?_
              refine lv_aload_n hx hb dX9_horse_98 rfl (lv_at hl 0 rfl) ?_
              refine gX9_129 C hw dX9_horse_99 ?_
              refine lv_iload_n hx hb dX9_horse_102 rfl (lv_at hl 3 rfl) ?_
              refine lv_sipush (v := 1000) hx hb dX9_horse_103 (by decide) ?_
              refine lv_idiv hx hb dX9_horse_106 (by decide) ?_
              obtain ⟨h11, hm⟩ := chk_e hm
              refine asM_6 C hw hS h11 dX9_horse_107 (fun H locs hw hS => ?_)
              obtain ⟨x12, ev, hm⟩ := lt_e hm
              rw [← ev] at hw
              clear ev
              refine lv_aload_n hx hb dX9_horse_108 rfl (lv_at hl 0 rfl) ?_
              refine gX9_32 C hw dX9_horse_109 ?_
              refine lv_aload_n hx hb dX9_horse_112 rfl (lv_at hl 0 rfl) ?_
              refine gX9_129 C hw dX9_horse_113 ?_
              refine lv_iload_n hx hb dX9_horse_116 rfl (lv_at hl 3 rfl) ?_
              refine lv_sipush (v := 1000) hx hb dX9_horse_117 (by decide) ?_
              refine lv_irem hx hb dX9_horse_120 (by decide) ?_
              refine lv_bipush (v := 10) hx hb dX9_horse_121 (by decide) ?_
              refine lv_idiv hx hb dX9_horse_123 (by decide) ?_
              obtain ⟨h13, hm⟩ := chk_e hm
              refine asM_7 C hw hS h13 dX9_horse_124 (fun H locs hw hS => ?_)
              obtain ⟨x14, ev, hm⟩ := lt_e hm
              rw [← ev] at hw
              clear ev
              refine lv_aload_n hx hb dX9_horse_125 rfl (lv_at hl 0 rfl) ?_
              refine gX9_35 C hw dX9_horse_126 ?_
              refine lv_aload_n hx hb dX9_horse_129 rfl (lv_at hl 0 rfl) ?_
              refine gX9_129 C hw dX9_horse_130 ?_
              refine lv_iload_n hx hb dX9_horse_133 rfl (lv_at hl 3 rfl) ?_
              refine lv_bipush (v := 10) hx hb dX9_horse_134 (by decide) ?_
              refine lv_irem hx hb dX9_horse_136 (by decide) ?_
              obtain ⟨h15, hm⟩ := chk_e hm
              refine asM_8 C hw hS h15 dX9_horse_137 (fun H locs hw hS => ?_)
              obtain ⟨x16, ev, hm⟩ := lt_e hm
              rw [← ev] at hw
              clear ev
              refine lv_aload_n hx hb dX9_horse_138 rfl (lv_at hl 0 rfl) ?_
              refine gX9_38 C hw dX9_horse_139 ?_
              refine lv_aload_n hx hb dX9_horse_142 rfl (lv_at hl 0 rfl) ?_
              refine gX9_129 C hw dX9_horse_143 ?_
              refine lv_iconst (v := 0) hx hb dX9_horse_146 (by decide) ?_
              obtain ⟨h17, hm⟩ := chk_e hm
              refine asM_9 C hw hS h17 dX9_horse_147 (fun H locs hw hS => ?_)
              obtain ⟨x18, ev, hm⟩ := lt_e hm
              rw [← ev] at hw
              clear ev
              refine lv_aload_n hx hb dX9_horse_148 rfl (lv_at hl 0 rfl) ?_
              refine lv_dup hx hb dX9_horse_149 rfl ?_
              refine gX9_129 C hw dX9_horse_150 ?_
              refine lv_iconst (v := 1) hx hb dX9_horse_153 (by decide) ?_
              refine lv_iadd hx hb dX9_horse_154 ?_
              refine pX9_129 C hw hS dX9_horse_155 (fun H locs hw hS => ?_)
              obtain ⟨x19, ev, hm⟩ := lt_e hm
              rw [← ev] at hw
              clear ev
              refine lv_aload_n hx hb dX9_horse_158 rfl (lv_at hl 0 rfl) ?_
              refine gX9_129 C hw dX9_horse_159 ?_
              refine lv_iconst (v := 1) hx hb dX9_horse_162 (by decide) ?_
              refine lv_isub hx hb dX9_horse_163 ?_
              obtain ⟨rfl, rfl⟩ := inj2 hm
              exact xret_i C hw hS dX9_horse_164
            · replace hm := ite_p cc hm
              refine lv_bipush (v := (-4)) hx hb dX9_horse_71 (by decide) ?_
              obtain ⟨rfl, rfl⟩ := inj2 hm
              exact xret_i C hw hS dX9_horse_73
          · replace hm := ite_n cc hm
            refine lv_bipush (v := (-2)) hx hb dX9_horse_59 (by decide) ?_
            obtain ⟨rfl, rfl⟩ := inj2 hm
            exact xret_i C hw hS dX9_horse_61
theorem dX9_set_0 : decode cX9_set 0 = .ok (.aload_n 0, 1) := by decide +kernel
theorem dX9_set_1 : decode cX9_set 1 = .ok (.iload_n 1, 1) := by decide +kernel
theorem dX9_set_2 : decode cX9_set 2 = .ok (.invokevirtual 146, 3) := by decide +kernel
theorem dX9_set_5 : decode cX9_set 5 = .ok (.ifCond .eq 59, 3) := by decide +kernel
theorem dX9_set_8 : decode cX9_set 8 = .ok (.iload_n 2, 1) := by decide +kernel
theorem dX9_set_9 : decode cX9_set 9 = .ok (.i2l, 1) := by decide +kernel
theorem dX9_set_10 : decode cX9_set 10 = .ok (.lconst 0, 1) := by decide +kernel
theorem dX9_set_11 : decode cX9_set 11 = .ok (.ldc2_w 150, 3) := by decide +kernel
theorem dX9_set_14 : decode cX9_set 14 = .ok (.invokestatic 132, 3) := by decide +kernel
theorem dX9_set_17 : decode cX9_set 17 = .ok (.ifCond .eq 47, 3) := by decide +kernel
theorem dX9_set_20 : decode cX9_set 20 = .ok (.iload_n 3, 1) := by decide +kernel
theorem dX9_set_21 : decode cX9_set 21 = .ok (.i2l, 1) := by decide +kernel
theorem dX9_set_22 : decode cX9_set 22 = .ok (.iload_n 2, 1) := by decide +kernel
theorem dX9_set_23 : decode cX9_set 23 = .ok (.iconst 1, 1) := by decide +kernel
theorem dX9_set_24 : decode cX9_set 24 = .ok (.if_icmp .ne 9, 3) := by decide +kernel
theorem dX9_set_27 : decode cX9_set 27 = .ok (.ldc2_w 150, 3) := by decide +kernel
theorem dX9_set_30 : decode cX9_set 30 = .ok (.goto 4, 3) := by decide +kernel
theorem dX9_set_33 : decode cX9_set 33 = .ok (.lconst 0, 1) := by decide +kernel
theorem dX9_set_34 : decode cX9_set 34 = .ok (.iload_n 2, 1) := by decide +kernel
theorem dX9_set_35 : decode cX9_set 35 = .ok (.ifCond .ne 9, 3) := by decide +kernel
theorem dX9_set_38 : decode cX9_set 38 = .ok (.ldc2_w 140, 3) := by decide +kernel
theorem dX9_set_41 : decode cX9_set 41 = .ok (.goto 17, 3) := by decide +kernel
theorem dX9_set_44 : decode cX9_set 44 = .ok (.iload_n 2, 1) := by decide +kernel
theorem dX9_set_45 : decode cX9_set 45 = .ok (.iconst 1, 1) := by decide +kernel
theorem dX9_set_46 : decode cX9_set 46 = .ok (.if_icmp .ne 9, 3) := by decide +kernel
theorem dX9_set_49 : decode cX9_set 49 = .ok (.ldc2_w 152, 3) := by decide +kernel
theorem dX9_set_52 : decode cX9_set 52 = .ok (.goto 6, 3) := by decide +kernel
theorem dX9_set_55 : decode cX9_set 55 = .ok (.ldc2_w 154, 3) := by decide +kernel
theorem dX9_set_58 : decode cX9_set 58 = .ok (.invokestatic 132, 3) := by decide +kernel
theorem dX9_set_61 : decode cX9_set 61 = .ok (.ifCond .ne 6, 3) := by decide +kernel
theorem dX9_set_64 : decode cX9_set 64 = .ok (.bipush (-2), 2) := by decide +kernel
theorem dX9_set_66 : decode cX9_set 66 = .ok (.ireturn, 1) := by decide +kernel
theorem dX9_set_67 : decode cX9_set 67 = .ok (.iload_n 2, 1) := by decide +kernel
theorem dX9_set_68 : decode cX9_set 68 = .ok (.ifCond .ne 12, 3) := by decide +kernel
theorem dX9_set_71 : decode cX9_set 71 = .ok (.aload_n 0, 1) := by decide +kernel
theorem dX9_set_72 : decode cX9_set 72 = .ok (.getfield 26, 3) := by decide +kernel
theorem dX9_set_75 : decode cX9_set 75 = .ok (.iload_n 1, 1) := by decide +kernel
theorem dX9_set_76 : decode cX9_set 76 = .ok (.iaload, 1) := by decide +kernel
theorem dX9_set_77 : decode cX9_set 77 = .ok (.goto 23, 3) := by decide +kernel
theorem dX9_set_80 : decode cX9_set 80 = .ok (.iload_n 2, 1) := by decide +kernel
theorem dX9_set_81 : decode cX9_set 81 = .ok (.iconst 1, 1) := by decide +kernel
theorem dX9_set_82 : decode cX9_set 82 = .ok (.if_icmp .ne 12, 3) := by decide +kernel
theorem dX9_set_85 : decode cX9_set 85 = .ok (.aload_n 0, 1) := by decide +kernel
theorem dX9_set_86 : decode cX9_set 86 = .ok (.getfield 29, 3) := by decide +kernel
theorem dX9_set_89 : decode cX9_set 89 = .ok (.iload_n 1, 1) := by decide +kernel
theorem dX9_set_90 : decode cX9_set 90 = .ok (.iaload, 1) := by decide +kernel
theorem dX9_set_91 : decode cX9_set 91 = .ok (.goto 9, 3) := by decide +kernel
theorem dX9_set_94 : decode cX9_set 94 = .ok (.aload_n 0, 1) := by decide +kernel
theorem dX9_set_95 : decode cX9_set 95 = .ok (.getfield 38, 3) := by decide +kernel
theorem dX9_set_98 : decode cX9_set 98 = .ok (.iload_n 1, 1) := by decide +kernel
theorem dX9_set_99 : decode cX9_set 99 = .ok (.iaload, 1) := by decide +kernel
theorem dX9_set_100 : decode cX9_set 100 = .ok (.istore 4, 2) := by decide +kernel
theorem dX9_set_102 : decode cX9_set 102 = .ok (.iload_n 2, 1) := by decide +kernel
theorem dX9_set_103 : decode cX9_set 103 = .ok (.ifCond .ne 10, 3) := by decide +kernel
theorem dX9_set_106 : decode cX9_set 106 = .ok (.aload_n 0, 1) := by decide +kernel
theorem dX9_set_107 : decode cX9_set 107 = .ok (.getfield 26, 3) := by decide +kernel
theorem dX9_set_110 : decode cX9_set 110 = .ok (.iload_n 1, 1) := by decide +kernel
theorem dX9_set_111 : decode cX9_set 111 = .ok (.iload_n 3, 1) := by decide +kernel
theorem dX9_set_112 : decode cX9_set 112 = .ok (.iastore, 1) := by decide +kernel
theorem dX9_set_113 : decode cX9_set 113 = .ok (.iload_n 2, 1) := by decide +kernel
theorem dX9_set_114 : decode cX9_set 114 = .ok (.iconst 1, 1) := by decide +kernel
theorem dX9_set_115 : decode cX9_set 115 = .ok (.if_icmp .ne 10, 3) := by decide +kernel
theorem dX9_set_118 : decode cX9_set 118 = .ok (.aload_n 0, 1) := by decide +kernel
theorem dX9_set_119 : decode cX9_set 119 = .ok (.getfield 29, 3) := by decide +kernel
theorem dX9_set_122 : decode cX9_set 122 = .ok (.iload_n 1, 1) := by decide +kernel
theorem dX9_set_123 : decode cX9_set 123 = .ok (.iload_n 3, 1) := by decide +kernel
theorem dX9_set_124 : decode cX9_set 124 = .ok (.iastore, 1) := by decide +kernel
theorem dX9_set_125 : decode cX9_set 125 = .ok (.iload_n 2, 1) := by decide +kernel
theorem dX9_set_126 : decode cX9_set 126 = .ok (.iconst 2, 1) := by decide +kernel
theorem dX9_set_127 : decode cX9_set 127 = .ok (.if_icmp .ne 10, 3) := by decide +kernel
theorem dX9_set_130 : decode cX9_set 130 = .ok (.aload_n 0, 1) := by decide +kernel
theorem dX9_set_131 : decode cX9_set 131 = .ok (.getfield 38, 3) := by decide +kernel
theorem dX9_set_134 : decode cX9_set 134 = .ok (.iload_n 1, 1) := by decide +kernel
theorem dX9_set_135 : decode cX9_set 135 = .ok (.iload_n 3, 1) := by decide +kernel
theorem dX9_set_136 : decode cX9_set 136 = .ok (.iastore, 1) := by decide +kernel
theorem dX9_set_137 : decode cX9_set 137 = .ok (.iload 4, 2) := by decide +kernel
theorem dX9_set_139 : decode cX9_set 139 = .ok (.ireturn, 1) := by decide +kernel
theorem sX9_146 {p : Program} {l : Launch} {e : Env} {R : Room} {s : State} {m : MethodId} {args : Array Value} {below : List Frame} {meth : Method} {c : Code} {H : Heap} {locs : List Loc} {cells slots : Nat} {Q : State → Prop} {cc : ByteArray} {pc nL : Nat} {ls : Array Slot} {rest : List Value} {ret : Option FieldType} {G : xG} {β N : Nat} {x : MS} {a1 : Int32} {r : Bool} (C : Cx p s m args meth c RX9 cc nL ret (KK G)) (h : fX9_isHorse x a1 = some r) (hw : MW β G N x H) (hS : va_S (AM β) s.heap H locs) (hsz : ls.size = nL) (hW : (rest.map fun v => v.category).sum ≤ 8) (hR : 2 ≤ R.frames) (hR2 : 46 ≤ R.locals) (hcs : cells ≤ R.cells ∧ slots ≤ R.slots) (hd : decode cc pc = .ok (.invokevirtual 146, 3)) (kk : ∀ (H1 : Heap) (locs1 : List Loc), MW β G N x H1 → va_S (AM β) s.heap H1 locs1 → W p l e R s m args below meth c H1 locs1 cells slots Q (F0 m (pc + 3) ls (.int (bI r) :: rest))) : W p l e R s m args below meth c H locs cells slots Q (F0 m pc ls (.int a1 :: .ref β :: rest)) :=
  xcallV C (As := [.int a1]) (rest := rest) (nA := 1) (ci := 9) (kX9_isHorse h) (tg 1105 (by decide +kernel) rfl) (tg 1107 (by decide +kernel) rfl) (sg (List.mem_of_getElem? (i := 55) (by decide +kernel)) rfl) (tg 14 (by decide +kernel) rfl) (tg 1108 (by decide +kernel) rfl) ⟨rfl, by decide +kernel, by decide +kernel, by decide +kernel⟩ rfl rfl rfl ⟨hR, hR2⟩ (hw.2 0 (by decide)) hw hS (fun _ q => q) rfl rfl hsz hW hd hcs (fun H1 locs1 hw hz hk hS => kk H1 locs1 hw hS)
theorem alM_9 {p : Program} {l : Launch} {e : Env} {R : Room} {s : State} {m : MethodId} {args : Array Value} {below : List Frame} {meth : Method} {c : Code} {H : Heap} {locs : List Loc} {cells slots : Nat} {Q : State → Prop} {cc : ByteArray} {pc nL : Nat} {ls : Array Slot} {rest : List Value} {ret : Option FieldType} {G : xG} {β N : Nat} {x : MS} {own : String} {i : Int32} (C : Cx p s m args meth c own cc nL ret (KK G)) (hw : MW β G N x H) (hin : ib i 10) (hd : decode cc pc = .ok (.iaload, 1)) (kk : W p l e R s m args below meth c H locs cells slots Q (F0 m (pc + 1) ls (.int (x.2.1 9 i.toNatClampNeg) :: rest))) : W p l e R s m args below meth c H locs cells slots Q (F0 m pc ls (.int i :: .ref (β + 9) :: rest)) :=
  va_iald C.1 C.2.1 C.K.1 (xP1 (hw.2 9 (by decide))) 0 0 rfl rfl hin hd kk
theorem alM_6 {p : Program} {l : Launch} {e : Env} {R : Room} {s : State} {m : MethodId} {args : Array Value} {below : List Frame} {meth : Method} {c : Code} {H : Heap} {locs : List Loc} {cells slots : Nat} {Q : State → Prop} {cc : ByteArray} {pc nL : Nat} {ls : Array Slot} {rest : List Value} {ret : Option FieldType} {G : xG} {β N : Nat} {x : MS} {own : String} {i : Int32} (C : Cx p s m args meth c own cc nL ret (KK G)) (hw : MW β G N x H) (hin : ib i 10) (hd : decode cc pc = .ok (.iaload, 1)) (kk : W p l e R s m args below meth c H locs cells slots Q (F0 m (pc + 1) ls (.int (x.2.1 6 i.toNatClampNeg) :: rest))) : W p l e R s m args below meth c H locs cells slots Q (F0 m pc ls (.int i :: .ref (β + 6) :: rest)) :=
  va_iald C.1 C.2.1 C.K.1 (xP1 (hw.2 6 (by decide))) 0 0 rfl rfl hin hd kk
theorem alM_5 {p : Program} {l : Launch} {e : Env} {R : Room} {s : State} {m : MethodId} {args : Array Value} {below : List Frame} {meth : Method} {c : Code} {H : Heap} {locs : List Loc} {cells slots : Nat} {Q : State → Prop} {cc : ByteArray} {pc nL : Nat} {ls : Array Slot} {rest : List Value} {ret : Option FieldType} {G : xG} {β N : Nat} {x : MS} {own : String} {i : Int32} (C : Cx p s m args meth c own cc nL ret (KK G)) (hw : MW β G N x H) (hin : ib i 10) (hd : decode cc pc = .ok (.iaload, 1)) (kk : W p l e R s m args below meth c H locs cells slots Q (F0 m (pc + 1) ls (.int (x.2.1 5 i.toNatClampNeg) :: rest))) : W p l e R s m args below meth c H locs cells slots Q (F0 m pc ls (.int i :: .ref (β + 5) :: rest)) :=
  va_iald C.1 C.2.1 C.K.1 (xP1 (hw.2 5 (by decide))) 0 0 rfl rfl hin hd kk
def fX9_set (x : MS) (a1 : Int32) (a2 : Int32) (a3 : Int32) : Option (Int32 × MS) := Option.bind (fX9_isHorse x a1) fun v1 => if v1 = true then Option.bind (fX9_in (a2.toInt64) 0 2) fun v3 => if v3 = true then Option.bind (if a2 = 1 then some 2 else some 0) fun v5 => Option.bind (if a2 = 0 then some 99 else if a2 = 1 then some 12 else some 60) fun v6 => Option.bind (fX9_in (a3.toInt64) v5 v6) fun v7 => if v7 = true then Option.bind (if a2 = 0 then if ib a1 10 then some (x.2.1 5 a1.toNatClampNeg) else none else if a2 = 1 then if ib a1 10 then some (x.2.1 6 a1.toNatClampNeg) else none else if ib a1 10 then some (x.2.1 9 a1.toNatClampNeg) else none) fun v12 => Option.bind (if a2 = 0 then if ib a1 10 then lt (msA x 5 a1.toNatClampNeg a3) fun x14 => some x14 else none else some x) fun x15 => Option.bind (if a2 = 1 then if ib a1 10 then lt (msA x15 6 a1.toNatClampNeg a3) fun x17 => some x17 else none else some x15) fun x18 => if a2 = 2 then if ib a1 10 then lt (msA x18 9 a1.toNatClampNeg a3) fun x20 => some (v12, x20) else none else some (v12, x18) else some ((-2), x) else some ((-2), x) else some ((-2), x)
abbrev rmX9_set : Room := { frames := 2, cells := 0, slots := 0, locals := 46 }
set_option maxHeartbeats 4000000 in
set_option maxRecDepth 100000 in
theorem kX9_set {l : Launch} {G : xG} {β N : Nat} {x x' : MS} {a1 : Int32} {a2 : Int32} {a3 : Int32} {r : Int32} (hm : fX9_set x a1 a2 a3 = some (r, x')) : Met l yX9_set (.code yX9_set cX9_set 5 (some .int) :: GT) rmX9_set (PcW [.ref β, .int a1, .int a2, .int a3] (MW β G N x) (KK G)) (QcW (AM β) (some (.int r)) (MW β G N x')) 0 0 (AM β) := by
  unfold fX9_set at hm
  refine xpro (own := RX9) (by decide +kernel) rfl (Nat.le_of_ble_eq_true rfl) ?_
  intro p e s m args below meth c C hw ls hl
  have hx := C.1
  have hb := C.2.1
  have ho := C.2.2.2.1
  have hts := C.2.2.2.2.1
  have hS : va_S (AM β) s.heap s.heap [] := va_S.rf
  have hl : lv_has ls 5 [(0, .ref β), (1, .int a1), (2, .int a2), (3, .int a3)] := hl
  have hRf : 2 ≤ rmX9_set.frames := Nat.le_refl _
  have hRl : 46 ≤ rmX9_set.locals := Nat.le_refl _
  have hcs : 0 ≤ rmX9_set.cells ∧ 0 ≤ rmX9_set.slots := ⟨Nat.le_refl _, Nat.le_refl _⟩
  refine lv_aload_n hx hb dX9_set_0 rfl (lv_at hl 0 rfl) ?_
  refine lv_iload_n hx hb dX9_set_1 rfl (lv_at hl 1 rfl) ?_
  obtain ⟨v1, h2, hm⟩ := bind_e hm
  refine sX9_146 C h2 hw hS hl.1 (Nat.le_of_ble_eq_true rfl) (Nat.le_trans (Nat.le_of_ble_eq_true rfl) hRf) (Nat.le_trans (Nat.le_of_ble_eq_true rfl) hRl) hcs dX9_set_2 (fun H locs hw hS => ?_)
  refine x_ifeqB hx hb dX9_set_5 (tgt := 64) (by decide) (fun cc => ?_) (fun cc => ?_)
  · replace hm := ite_n cc hm
    refine lv_bipush (v := (-2)) hx hb dX9_set_64 (by decide) ?_
    obtain ⟨rfl, rfl⟩ := inj2 hm
    exact xret_i C hw hS dX9_set_66
  · replace hm := ite_p cc hm
    refine lv_iload_n hx hb dX9_set_8 rfl (lv_at hl 2 rfl) ?_
    refine lv_i2l hx hb dX9_set_9 rfl ?_
    refine lv_lconst (v := 0) hx hb dX9_set_10 (by decide) ?_
    refine lv_ldc2 (v := 2) hx hb ho (hts (.constantLong RX9 150 2) (tg 1109 (by decide +kernel) rfl)) dX9_set_11 ?_
    obtain ⟨v3, h4, hm⟩ := bind_e hm
    refine sX9_132 C h4 hw hS hl.1 (Nat.le_of_ble_eq_true rfl) (Nat.le_trans (Nat.le_of_ble_eq_true rfl) hRf) (Nat.le_trans (Nat.le_of_ble_eq_true rfl) hRl) hcs dX9_set_14 (fun H locs hw hS => ?_)
    refine x_ifeqB hx hb dX9_set_17 (tgt := 64) (by decide) (fun cc => ?_) (fun cc => ?_)
    · replace hm := ite_n cc hm
      refine lv_bipush (v := (-2)) hx hb dX9_set_64 (by decide) ?_
      obtain ⟨rfl, rfl⟩ := inj2 hm
      exact xret_i C hw hS dX9_set_66
    · replace hm := ite_p cc hm
      refine lv_iload_n hx hb dX9_set_20 rfl (lv_at hl 3 rfl) ?_
      refine lv_i2l hx hb dX9_set_21 rfl ?_
      refine lv_iload_n hx hb dX9_set_22 rfl (lv_at hl 2 rfl) ?_
      refine lv_iconst (v := 1) hx hb dX9_set_23 (by decide) ?_
      obtain ⟨v5, hj, hm⟩ := bind_e hm
      have kk : ∀ (H : Heap) (locs : List Loc) (ls : Array Slot), MW β G N x H → va_S (AM β) s.heap H locs → lv_has ls 5 [(0, .ref β), (1, .int a1), (2, .int a2), (3, .int a3)] → W p l e rmX9_set s m args below meth c H locs 0 0 (MQ below (QcW (AM β) (some (.int r)) (MW β G N x')) args s 0 0 (AM β)) (F0 m 34 ls [.long v5, .long (a3.toInt64)]) := by
        intro H locs ls hw hS hl
        refine lv_iload_n hx hb dX9_set_34 rfl (lv_at hl 2 rfl) ?_
        obtain ⟨v6, hj, hm⟩ := bind_e hm
        have kk : ∀ (H : Heap) (locs : List Loc) (ls : Array Slot), MW β G N x H → va_S (AM β) s.heap H locs → lv_has ls 5 [(0, .ref β), (1, .int a1), (2, .int a2), (3, .int a3)] → W p l e rmX9_set s m args below meth c H locs 0 0 (MQ below (QcW (AM β) (some (.int r)) (MW β G N x')) args s 0 0 (AM β)) (F0 m 58 ls [.long v6, .long v5, .long (a3.toInt64)]) := by
          intro H locs ls hw hS hl
          obtain ⟨v7, h8, hm⟩ := bind_e hm
          refine sX9_132 C h8 hw hS hl.1 (Nat.le_of_ble_eq_true rfl) (Nat.le_trans (Nat.le_of_ble_eq_true rfl) hRf) (Nat.le_trans (Nat.le_of_ble_eq_true rfl) hRl) hcs dX9_set_58 (fun H locs hw hS => ?_)
          refine x_ifneB hx hb dX9_set_61 (tgt := 67) (by decide) (fun cc => ?_) (fun cc => ?_)
          · replace hm := ite_p cc hm
            refine lv_iload_n hx hb dX9_set_67 rfl (lv_at hl 2 rfl) ?_
            obtain ⟨v12, hj, hm⟩ := bind_e hm
            have kk : ∀ (H : Heap) (locs : List Loc) (ls : Array Slot), MW β G N x H → va_S (AM β) s.heap H locs → lv_has ls 5 [(0, .ref β), (1, .int a1), (2, .int a2), (3, .int a3)] → W p l e rmX9_set s m args below meth c H locs 0 0 (MQ below (QcW (AM β) (some (.int r)) (MW β G N x')) args s 0 0 (AM β)) (F0 m 100 ls [.int v12]) := by
              intro H locs ls hw hS hl
              refine lv_istore (lv' := [(4, .int v12), (0, .ref β), (1, .int a1), (2, .int a2), (3, .int a3)]) hx hb dX9_set_100 hl (by decide) rfl (fun ls hl => ?_)
              refine lv_iload_n hx hb dX9_set_102 rfl (lv_at hl 3 rfl) ?_
              obtain ⟨x15, hj, hm⟩ := bind_e hm
              have kk : ∀ (H : Heap) (locs : List Loc) (ls : Array Slot), MW β G N x15 H → va_S (AM β) s.heap H locs → lv_has ls 5 [(0, .ref β), (1, .int a1), (2, .int a2), (3, .int a3), (4, .int v12)] → W p l e rmX9_set s m args below meth c H locs 0 0 (MQ below (QcW (AM β) (some (.int r)) (MW β G N x')) args s 0 0 (AM β)) (F0 m 113 ls []) := by
                intro H locs ls hw hS hl
                refine lv_iload_n hx hb dX9_set_113 rfl (lv_at hl 2 rfl) ?_
                refine lv_iconst (v := 1) hx hb dX9_set_114 (by decide) ?_
                obtain ⟨x18, hj, hm⟩ := bind_e hm
                have kk : ∀ (H : Heap) (locs : List Loc) (ls : Array Slot), MW β G N x18 H → va_S (AM β) s.heap H locs → lv_has ls 5 [(0, .ref β), (1, .int a1), (2, .int a2), (3, .int a3), (4, .int v12)] → W p l e rmX9_set s m args below meth c H locs 0 0 (MQ below (QcW (AM β) (some (.int r)) (MW β G N x')) args s 0 0 (AM β)) (F0 m 125 ls []) := by
                  intro H locs ls hw hS hl
                  refine lv_iload_n hx hb dX9_set_125 rfl (lv_at hl 2 rfl) ?_
                  refine lv_iconst (v := 2) hx hb dX9_set_126 (by decide) ?_
                  refine lv_icmp_ne (tgt := 137) hx hb dX9_set_127 (by decide) (fun cc => ?_) (fun cc => ?_)
                  · replace hm := ite_n cc hm
                    refine lv_iload hx hb dX9_set_137 (lv_at hl 4 rfl) ?_
                    obtain ⟨rfl, rfl⟩ := inj2 hm
                    exact xret_i C hw hS dX9_set_139
                  · replace hm := ite_p cc hm
                    refine lv_aload_n hx hb dX9_set_130 rfl (lv_at hl 0 rfl) ?_
                    refine gX9_38 C hw dX9_set_131 ?_
                    refine lv_iload_n hx hb dX9_set_134 rfl (lv_at hl 1 rfl) ?_
                    refine lv_iload_n hx hb dX9_set_135 rfl (lv_at hl 3 rfl) ?_
                    obtain ⟨h19, hm⟩ := chk_e hm
                    refine asM_9 C hw hS h19 dX9_set_136 (fun H locs hw hS => ?_)
                    obtain ⟨x20, ev, hm⟩ := lt_e hm
                    rw [← ev] at hw
                    clear ev
                    refine lv_iload hx hb dX9_set_137 (lv_at hl 4 rfl) ?_
                    obtain ⟨rfl, rfl⟩ := inj2 hm
                    exact xret_i C hw hS dX9_set_139
                clear hm
                replace hm := hj
                clear hj
                refine lv_icmp_ne (tgt := 125) hx hb dX9_set_115 (by decide) (fun cc => ?_) (fun cc => ?_)
                · replace hm := ite_n cc hm
                  obtain rfl := Option.some.inj hm
                  exact kk _ _ _ hw hS (lv_sub hl [0, 1, 2, 3, 4] rfl)
                · replace hm := ite_p cc hm
                  refine lv_aload_n hx hb dX9_set_118 rfl (lv_at hl 0 rfl) ?_
                  refine gX9_29 C hw dX9_set_119 ?_
                  refine lv_iload_n hx hb dX9_set_122 rfl (lv_at hl 1 rfl) ?_
                  refine lv_iload_n hx hb dX9_set_123 rfl (lv_at hl 3 rfl) ?_
                  obtain ⟨h16, hm⟩ := chk_e hm
                  refine asM_6 C hw hS h16 dX9_set_124 (fun H locs hw hS => ?_)
                  obtain ⟨x17, ev, hm⟩ := lt_e hm
                  rw [← ev] at hw
                  clear ev
                  obtain rfl := Option.some.inj hm
                  exact kk _ _ _ hw hS (lv_sub hl [0, 1, 2, 3, 4] rfl)
              clear hm
              replace hm := hj
              clear hj
              refine lv_if_ne (tgt := 113) hx hb dX9_set_103 (by decide) (fun cc => ?_) (fun cc => ?_)
              · replace hm := ite_n cc hm
                obtain rfl := Option.some.inj hm
                exact kk _ _ _ hw hS (lv_sub hl [1, 2, 3, 4, 0] rfl)
              · replace hm := ite_p cc hm
                refine lv_aload_n hx hb dX9_set_106 rfl (lv_at hl 1 rfl) ?_
                refine gX9_26 C hw dX9_set_107 ?_
                refine lv_iload_n hx hb dX9_set_110 rfl (lv_at hl 2 rfl) ?_
                refine lv_iload_n hx hb dX9_set_111 rfl (lv_at hl 4 rfl) ?_
                obtain ⟨h13, hm⟩ := chk_e hm
                refine asM_5 C hw hS h13 dX9_set_112 (fun H locs hw hS => ?_)
                obtain ⟨x14, ev, hm⟩ := lt_e hm
                rw [← ev] at hw
                clear ev
                obtain rfl := Option.some.inj hm
                exact kk _ _ _ hw hS (lv_sub hl [1, 2, 3, 4, 0] rfl)
            clear hm
            replace hm := hj
            clear hj
            refine lv_if_ne (tgt := 80) hx hb dX9_set_68 (by decide) (fun cc => ?_) (fun cc => ?_)
            · replace hm := ite_n cc hm
              refine lv_iload_n hx hb dX9_set_80 rfl (lv_at hl 2 rfl) ?_
              refine lv_iconst (v := 1) hx hb dX9_set_81 (by decide) ?_
              refine lv_icmp_ne (tgt := 94) hx hb dX9_set_82 (by decide) (fun cc => ?_) (fun cc => ?_)
              · replace hm := ite_n cc hm
                refine lv_aload_n hx hb dX9_set_94 rfl (lv_at hl 0 rfl) ?_
                refine gX9_38 C hw dX9_set_95 ?_
                refine lv_iload_n hx hb dX9_set_98 rfl (lv_at hl 1 rfl) ?_
                obtain ⟨h9, hm⟩ := chk_e hm
                refine alM_9 C hw h9 dX9_set_99 ?_
                obtain rfl := Option.some.inj hm
                exact kk _ _ _ hw hS (lv_sub hl [0, 1, 2, 3] rfl)
              · replace hm := ite_p cc hm
                refine lv_aload_n hx hb dX9_set_85 rfl (lv_at hl 0 rfl) ?_
                refine gX9_29 C hw dX9_set_86 ?_
                refine lv_iload_n hx hb dX9_set_89 rfl (lv_at hl 1 rfl) ?_
                obtain ⟨h10, hm⟩ := chk_e hm
                refine alM_6 C hw h10 dX9_set_90 ?_
                refine lv_goto (tgt := 100) hx hb dX9_set_91 (by decide) ?_
                obtain rfl := Option.some.inj hm
                exact kk _ _ _ hw hS (lv_sub hl [0, 1, 2, 3] rfl)
            · replace hm := ite_p cc hm
              refine lv_aload_n hx hb dX9_set_71 rfl (lv_at hl 0 rfl) ?_
              refine gX9_26 C hw dX9_set_72 ?_
              refine lv_iload_n hx hb dX9_set_75 rfl (lv_at hl 1 rfl) ?_
              obtain ⟨h11, hm⟩ := chk_e hm
              refine alM_5 C hw h11 dX9_set_76 ?_
              refine lv_goto (tgt := 100) hx hb dX9_set_77 (by decide) ?_
              obtain rfl := Option.some.inj hm
              exact kk _ _ _ hw hS (lv_sub hl [0, 1, 2, 3] rfl)
          · replace hm := ite_n cc hm
            refine lv_bipush (v := (-2)) hx hb dX9_set_64 (by decide) ?_
            obtain ⟨rfl, rfl⟩ := inj2 hm
            exact xret_i C hw hS dX9_set_66
        clear hm
        replace hm := hj
        clear hj
        refine lv_if_ne (tgt := 44) hx hb dX9_set_35 (by decide) (fun cc => ?_) (fun cc => ?_)
        · replace hm := ite_n cc hm
          refine lv_iload_n hx hb dX9_set_44 rfl (lv_at hl 2 rfl) ?_
          refine lv_iconst (v := 1) hx hb dX9_set_45 (by decide) ?_
          refine lv_icmp_ne (tgt := 55) hx hb dX9_set_46 (by decide) (fun cc => ?_) (fun cc => ?_)
          · replace hm := ite_n cc hm
            refine lv_ldc2 (v := 60) hx hb ho (hts (.constantLong RX9 154 60) (tg 1111 (by decide +kernel) rfl)) dX9_set_55 ?_
            obtain rfl := Option.some.inj hm
            exact kk _ _ _ hw hS (lv_sub hl [0, 1, 2, 3] rfl)
          · replace hm := ite_p cc hm
            refine lv_ldc2 (v := 12) hx hb ho (hts (.constantLong RX9 152 12) (tg 1110 (by decide +kernel) rfl)) dX9_set_49 ?_
            refine lv_goto (tgt := 58) hx hb dX9_set_52 (by decide) ?_
            obtain rfl := Option.some.inj hm
            exact kk _ _ _ hw hS (lv_sub hl [0, 1, 2, 3] rfl)
        · replace hm := ite_p cc hm
          refine lv_ldc2 (v := 99) hx hb ho (hts (.constantLong RX9 140 99) (tg 1098 (by decide +kernel) rfl)) dX9_set_38 ?_
          refine lv_goto (tgt := 58) hx hb dX9_set_41 (by decide) ?_
          obtain rfl := Option.some.inj hm
          exact kk _ _ _ hw hS (lv_sub hl [0, 1, 2, 3] rfl)
      clear hm
      replace hm := hj
      clear hj
      refine lv_icmp_ne (tgt := 33) hx hb dX9_set_24 (by decide) (fun cc => ?_) (fun cc => ?_)
      · replace hm := ite_n cc hm
        refine lv_lconst (v := 0) hx hb dX9_set_33 (by decide) ?_
        obtain rfl := Option.some.inj hm
        exact kk _ _ _ hw hS (lv_sub hl [0, 1, 2, 3] rfl)
      · replace hm := ite_p cc hm
        refine lv_ldc2 (v := 2) hx hb ho (hts (.constantLong RX9 150 2) (tg 1109 (by decide +kernel) rfl)) dX9_set_27 ?_
        refine lv_goto (tgt := 34) hx hb dX9_set_30 (by decide) ?_
        obtain rfl := Option.some.inj hm
        exact kk _ _ _ hw hS (lv_sub hl [0, 1, 2, 3] rfl)
theorem dX9_pound_0 : decode cX9_pound 0 = .ok (.iload_n 1, 1) := by decide +kernel
theorem dX9_pound_1 : decode cX9_pound 1 = .ok (.i2l, 1) := by decide +kernel
theorem dX9_pound_2 : decode cX9_pound 2 = .ok (.lconst 0, 1) := by decide +kernel
theorem dX9_pound_3 : decode cX9_pound 3 = .ok (.ldc2_w 156, 3) := by decide +kernel
theorem dX9_pound_6 : decode cX9_pound 6 = .ok (.invokestatic 132, 3) := by decide +kernel
theorem dX9_pound_9 : decode cX9_pound 9 = .ok (.ifCond .eq 26, 3) := by decide +kernel
theorem dX9_pound_12 : decode cX9_pound 12 = .ok (.iload_n 2, 1) := by decide +kernel
theorem dX9_pound_13 : decode cX9_pound 13 = .ok (.i2l, 1) := by decide +kernel
theorem dX9_pound_14 : decode cX9_pound 14 = .ok (.lconst 0, 1) := by decide +kernel
theorem dX9_pound_15 : decode cX9_pound 15 = .ok (.iload_n 1, 1) := by decide +kernel
theorem dX9_pound_16 : decode cX9_pound 16 = .ok (.iconst 4, 1) := by decide +kernel
theorem dX9_pound_17 : decode cX9_pound 17 = .ok (.if_icmp .ne 9, 3) := by decide +kernel
theorem dX9_pound_20 : decode cX9_pound 20 = .ok (.ldc2_w 136, 3) := by decide +kernel
theorem dX9_pound_23 : decode cX9_pound 23 = .ok (.goto 6, 3) := by decide +kernel
theorem dX9_pound_26 : decode cX9_pound 26 = .ok (.ldc2_w 158, 3) := by decide +kernel
theorem dX9_pound_29 : decode cX9_pound 29 = .ok (.invokestatic 132, 3) := by decide +kernel
theorem dX9_pound_32 : decode cX9_pound 32 = .ok (.ifCond .ne 6, 3) := by decide +kernel
theorem dX9_pound_35 : decode cX9_pound 35 = .ok (.bipush (-2), 2) := by decide +kernel
theorem dX9_pound_37 : decode cX9_pound 37 = .ok (.ireturn, 1) := by decide +kernel
theorem dX9_pound_38 : decode cX9_pound 38 = .ok (.iload_n 1, 1) := by decide +kernel
theorem dX9_pound_39 : decode cX9_pound 39 = .ok (.iconst 4, 1) := by decide +kernel
theorem dX9_pound_40 : decode cX9_pound 40 = .ok (.if_icmp .ne 10, 3) := by decide +kernel
theorem dX9_pound_43 : decode cX9_pound 43 = .ok (.aload_n 0, 1) := by decide +kernel
theorem dX9_pound_44 : decode cX9_pound 44 = .ok (.getfield 124, 3) := by decide +kernel
theorem dX9_pound_47 : decode cX9_pound 47 = .ok (.goto 9, 3) := by decide +kernel
theorem dX9_pound_50 : decode cX9_pound 50 = .ok (.aload_n 0, 1) := by decide +kernel
theorem dX9_pound_51 : decode cX9_pound 51 = .ok (.getfield 41, 3) := by decide +kernel
theorem dX9_pound_54 : decode cX9_pound 54 = .ok (.iload_n 1, 1) := by decide +kernel
theorem dX9_pound_55 : decode cX9_pound 55 = .ok (.iaload, 1) := by decide +kernel
theorem dX9_pound_56 : decode cX9_pound 56 = .ok (.istore_n 3, 1) := by decide +kernel
theorem dX9_pound_57 : decode cX9_pound 57 = .ok (.iload_n 1, 1) := by decide +kernel
theorem dX9_pound_58 : decode cX9_pound 58 = .ok (.iconst 4, 1) := by decide +kernel
theorem dX9_pound_59 : decode cX9_pound 59 = .ok (.if_icmp .ne 11, 3) := by decide +kernel
theorem dX9_pound_62 : decode cX9_pound 62 = .ok (.aload_n 0, 1) := by decide +kernel
theorem dX9_pound_63 : decode cX9_pound 63 = .ok (.iload_n 2, 1) := by decide +kernel
theorem dX9_pound_64 : decode cX9_pound 64 = .ok (.putfield 124, 3) := by decide +kernel
theorem dX9_pound_67 : decode cX9_pound 67 = .ok (.goto 10, 3) := by decide +kernel
theorem dX9_pound_70 : decode cX9_pound 70 = .ok (.aload_n 0, 1) := by decide +kernel
theorem dX9_pound_71 : decode cX9_pound 71 = .ok (.getfield 41, 3) := by decide +kernel
theorem dX9_pound_74 : decode cX9_pound 74 = .ok (.iload_n 1, 1) := by decide +kernel
theorem dX9_pound_75 : decode cX9_pound 75 = .ok (.iload_n 2, 1) := by decide +kernel
theorem dX9_pound_76 : decode cX9_pound 76 = .ok (.iastore, 1) := by decide +kernel
theorem dX9_pound_77 : decode cX9_pound 77 = .ok (.iload_n 3, 1) := by decide +kernel
theorem dX9_pound_78 : decode cX9_pound 78 = .ok (.ireturn, 1) := by decide +kernel
theorem gX9_41 {p : Program} {l : Launch} {e : Env} {R : Room} {s : State} {m : MethodId} {args : Array Value} {below : List Frame} {meth : Method} {c : Code} {H : Heap} {locs : List Loc} {cells slots : Nat} {Q : State → Prop} {cc : ByteArray} {pc nL : Nat} {ls : Array Slot} {rest : List Value} {ret : Option FieldType} {G : xG} {β N : Nat} {x : MS} (C : Cx p s m args meth c RX9 cc nL ret (KK G)) (hw : MW β G N x H) (hd : decode cc pc = .ok (.getfield 41, 3)) (kk : W p l e R s m args below meth c H locs cells slots Q (F0 m (pc + 3) ls (.ref (β + 10) :: rest))) : W p l e R s m args below meth c H locs cells slots Q (F0 m pc ls (.ref β :: rest)) :=
  va_get C.1 C.2.1 C.2.2.2.2.1 iwX9 C.2.2.2.1 C.K.1 (xP1 (hw.2 0 (by decide))) 0 rfl rfl 14 (by decide) (C.2.2.2.2.1 (.fieldLink RX9 41 RX9 "pounds" "[I") (tg 930 (by decide +kernel) rfl)) (fun _ h9 => h9) rfl hd kk
theorem alM_10 {p : Program} {l : Launch} {e : Env} {R : Room} {s : State} {m : MethodId} {args : Array Value} {below : List Frame} {meth : Method} {c : Code} {H : Heap} {locs : List Loc} {cells slots : Nat} {Q : State → Prop} {cc : ByteArray} {pc nL : Nat} {ls : Array Slot} {rest : List Value} {ret : Option FieldType} {G : xG} {β N : Nat} {x : MS} {own : String} {i : Int32} (C : Cx p s m args meth c own cc nL ret (KK G)) (hw : MW β G N x H) (hin : ib i 4) (hd : decode cc pc = .ok (.iaload, 1)) (kk : W p l e R s m args below meth c H locs cells slots Q (F0 m (pc + 1) ls (.int (x.2.1 10 i.toNatClampNeg) :: rest))) : W p l e R s m args below meth c H locs cells slots Q (F0 m pc ls (.int i :: .ref (β + 10) :: rest)) :=
  va_iald C.1 C.2.1 C.K.1 (xP1 (hw.2 10 (by decide))) 0 0 rfl rfl hin hd kk
theorem gX9_124 {p : Program} {l : Launch} {e : Env} {R : Room} {s : State} {m : MethodId} {args : Array Value} {below : List Frame} {meth : Method} {c : Code} {H : Heap} {locs : List Loc} {cells slots : Nat} {Q : State → Prop} {cc : ByteArray} {pc nL : Nat} {ls : Array Slot} {rest : List Value} {ret : Option FieldType} {G : xG} {β N : Nat} {x : MS} (C : Cx p s m args meth c RX9 cc nL ret (KK G)) (hw : MW β G N x H) (hd : decode cc pc = .ok (.getfield 124, 3)) (kk : W p l e R s m args below meth c H locs cells slots Q (F0 m (pc + 3) ls (.int (x.1 0 15) :: rest))) : W p l e R s m args below meth c H locs cells slots Q (F0 m pc ls (.ref β :: rest)) :=
  va_get C.1 C.2.1 C.2.2.2.2.1 iwX9 C.2.2.2.1 C.K.1 (xP1 (hw.2 0 (by decide))) 0 rfl rfl 15 (by decide) (C.2.2.2.2.1 (.fieldLink RX9 124 RX9 "spread" "I") (tg 931 (by decide +kernel) rfl)) (fun _ h9 => h9) rfl hd kk
theorem asM_10 {p : Program} {l : Launch} {e : Env} {R : Room} {s : State} {m : MethodId} {args : Array Value} {below : List Frame} {meth : Method} {c : Code} {H : Heap} {locs : List Loc} {cells slots : Nat} {Q : State → Prop} {cc : ByteArray} {pc nL : Nat} {ls : Array Slot} {rest : List Value} {ret : Option FieldType} {G : xG} {β N : Nat} {x : MS} {own : String} {i : Int32} {v : Int32} (C : Cx p s m args meth c own cc nL ret (KK G)) (hw : MW β G N x H) (hS : va_S (AM β) s.heap H locs) (hin : ib i 4) (hd : decode cc pc = .ok (.iastore, 1)) (kk : ∀ (H1 : Heap) (locs1 : List Loc), MW β G N (msA x 10 i.toNatClampNeg v) H1 → va_S (AM β) s.heap H1 locs1 → W p l e R s m args below meth c H1 locs1 cells slots Q (F0 m (pc + 1) ls (rest))) : W p l e R s m args below meth c H locs cells slots Q (F0 m pc ls (.int v :: .int i :: .ref (β + 10) :: rest)) :=
  x_iast C.1 C.2.1 C.K.1 hS 0 (hw.2 10 (by decide)) (AM.in (by decide)) rfl hin hd (fun H1 locs1 hat ho hS => kk H1 locs1 (hw.setA 10 _ _ hat ho) hS)
theorem pX9_124 {p : Program} {l : Launch} {e : Env} {R : Room} {s : State} {m : MethodId} {args : Array Value} {below : List Frame} {meth : Method} {c : Code} {H : Heap} {locs : List Loc} {cells slots : Nat} {Q : State → Prop} {cc : ByteArray} {pc nL : Nat} {ls : Array Slot} {rest : List Value} {ret : Option FieldType} {G : xG} {β N : Nat} {x : MS} {v : Int32} (C : Cx p s m args meth c RX9 cc nL ret (KK G)) (hw : MW β G N x H) (hS : va_S (AM β) s.heap H locs) (hd : decode cc pc = .ok (.putfield 124, 3)) (kk : ∀ (H1 : Heap) (locs1 : List Loc), MW β G N (msS x 0 15 v) H1 → va_S (AM β) s.heap H1 locs1 → W p l e R s m args below meth c H1 locs1 cells slots Q (F0 m (pc + 3) ls (rest))) : W p l e R s m args below meth c H locs cells slots Q (F0 m pc ls (.int v :: .ref β :: rest)) :=
  x_put C.1 C.2.1 C.2.2.2.2.1 iwX9 tyX9 tyX9_ok nmX9 C.2.2.2.1 C.K.1 hS (hw.2 0 (by decide)) (AM.in (by decide)) rfl 15 (by decide) (C.2.2.2.2.1 (.fieldLink RX9 124 RX9 "spread" "I") (tg 931 (by decide +kernel) rfl)) (fun _ h9 => h9) rfl (ty := .int) (by decide +kernel) rfl rfl (Nat.le_of_ble_eq_true rfl) hd (fun H1 locs1 hat ho hS => kk H1 locs1 (hw.setS 0 15 v hat ho) hS)
def fX9_pound (x : MS) (a1 : Int32) (a2 : Int32) : Option (Int32 × MS) := Option.bind (fX9_in (a1.toInt64) 0 4) fun v1 => if v1 = true then Option.bind (if a1 = 4 then some 3 else some 9) fun v3 => Option.bind (fX9_in (a2.toInt64) 0 v3) fun v4 => if v4 = true then Option.bind (if a1 = 4 then some (x.1 0 15) else if ib a1 4 then some (x.2.1 10 a1.toNatClampNeg) else none) fun v7 => if a1 = 4 then lt (msS x 0 15 a2) fun x10 => some (v7, x10) else if ib a1 4 then lt (msA x 10 a1.toNatClampNeg a2) fun x9 => some (v7, x9) else none else some ((-2), x) else some ((-2), x)
abbrev rmX9_pound : Room := { frames := 1, cells := 0, slots := 0, locals := 25 }
set_option maxHeartbeats 4000000 in
set_option maxRecDepth 100000 in
theorem kX9_pound {l : Launch} {G : xG} {β N : Nat} {x x' : MS} {a1 : Int32} {a2 : Int32} {r : Int32} (hm : fX9_pound x a1 a2 = some (r, x')) : Met l yX9_pound (.code yX9_pound cX9_pound 4 (some .int) :: GT) rmX9_pound (PcW [.ref β, .int a1, .int a2] (MW β G N x) (KK G)) (QcW (AM β) (some (.int r)) (MW β G N x')) 0 0 (AM β) := by
  unfold fX9_pound at hm
  refine xpro (own := RX9) (by decide +kernel) rfl (Nat.le_of_ble_eq_true rfl) ?_
  intro p e s m args below meth c C hw ls hl
  have hx := C.1
  have hb := C.2.1
  have ho := C.2.2.2.1
  have hts := C.2.2.2.2.1
  have hS : va_S (AM β) s.heap s.heap [] := va_S.rf
  have hl : lv_has ls 4 [(0, .ref β), (1, .int a1), (2, .int a2)] := hl
  have hRf : 1 ≤ rmX9_pound.frames := Nat.le_refl _
  have hRl : 25 ≤ rmX9_pound.locals := Nat.le_refl _
  have hcs : 0 ≤ rmX9_pound.cells ∧ 0 ≤ rmX9_pound.slots := ⟨Nat.le_refl _, Nat.le_refl _⟩
  refine lv_iload_n hx hb dX9_pound_0 rfl (lv_at hl 1 rfl) ?_
  refine lv_i2l hx hb dX9_pound_1 rfl ?_
  refine lv_lconst (v := 0) hx hb dX9_pound_2 (by decide) ?_
  refine lv_ldc2 (v := 4) hx hb ho (hts (.constantLong RX9 156 4) (tg 1116 (by decide +kernel) rfl)) dX9_pound_3 ?_
  obtain ⟨v1, h2, hm⟩ := bind_e hm
  refine sX9_132 C h2 hw hS hl.1 (Nat.le_of_ble_eq_true rfl) (Nat.le_trans (Nat.le_of_ble_eq_true rfl) hRf) (Nat.le_trans (Nat.le_of_ble_eq_true rfl) hRl) hcs dX9_pound_6 (fun H locs hw hS => ?_)
  refine x_ifeqB hx hb dX9_pound_9 (tgt := 35) (by decide) (fun cc => ?_) (fun cc => ?_)
  · replace hm := ite_n cc hm
    refine lv_bipush (v := (-2)) hx hb dX9_pound_35 (by decide) ?_
    obtain ⟨rfl, rfl⟩ := inj2 hm
    exact xret_i C hw hS dX9_pound_37
  · replace hm := ite_p cc hm
    refine lv_iload_n hx hb dX9_pound_12 rfl (lv_at hl 2 rfl) ?_
    refine lv_i2l hx hb dX9_pound_13 rfl ?_
    refine lv_lconst (v := 0) hx hb dX9_pound_14 (by decide) ?_
    refine lv_iload_n hx hb dX9_pound_15 rfl (lv_at hl 1 rfl) ?_
    refine lv_iconst (v := 4) hx hb dX9_pound_16 (by decide) ?_
    obtain ⟨v3, hj, hm⟩ := bind_e hm
    have kk : ∀ (H : Heap) (locs : List Loc) (ls : Array Slot), MW β G N x H → va_S (AM β) s.heap H locs → lv_has ls 4 [(0, .ref β), (1, .int a1), (2, .int a2)] → W p l e rmX9_pound s m args below meth c H locs 0 0 (MQ below (QcW (AM β) (some (.int r)) (MW β G N x')) args s 0 0 (AM β)) (F0 m 29 ls [.long v3, .long 0, .long (a2.toInt64)]) := by
      intro H locs ls hw hS hl
      obtain ⟨v4, h5, hm⟩ := bind_e hm
      refine sX9_132 C h5 hw hS hl.1 (Nat.le_of_ble_eq_true rfl) (Nat.le_trans (Nat.le_of_ble_eq_true rfl) hRf) (Nat.le_trans (Nat.le_of_ble_eq_true rfl) hRl) hcs dX9_pound_29 (fun H locs hw hS => ?_)
      refine x_ifneB hx hb dX9_pound_32 (tgt := 38) (by decide) (fun cc => ?_) (fun cc => ?_)
      · replace hm := ite_p cc hm
        refine lv_iload_n hx hb dX9_pound_38 rfl (lv_at hl 1 rfl) ?_
        refine lv_iconst (v := 4) hx hb dX9_pound_39 (by decide) ?_
        obtain ⟨v7, hj, hm⟩ := bind_e hm
        have kk : ∀ (H : Heap) (locs : List Loc) (ls : Array Slot), MW β G N x H → va_S (AM β) s.heap H locs → lv_has ls 4 [(0, .ref β), (1, .int a1), (2, .int a2)] → W p l e rmX9_pound s m args below meth c H locs 0 0 (MQ below (QcW (AM β) (some (.int r)) (MW β G N x')) args s 0 0 (AM β)) (F0 m 56 ls [.int v7]) := by
          intro H locs ls hw hS hl
          refine lv_istore_n (lv' := [(3, .int v7), (0, .ref β), (1, .int a1), (2, .int a2)]) hx hb dX9_pound_56 rfl hl (by decide) rfl (fun ls hl => ?_)
          refine lv_iload_n hx hb dX9_pound_57 rfl (lv_at hl 2 rfl) ?_
          refine lv_iconst (v := 4) hx hb dX9_pound_58 (by decide) ?_
          refine lv_icmp_ne (tgt := 70) hx hb dX9_pound_59 (by decide) (fun cc => ?_) (fun cc => ?_)
          · replace hm := ite_n cc hm
            refine lv_aload_n hx hb dX9_pound_70 rfl (lv_at hl 1 rfl) ?_
            refine gX9_41 C hw dX9_pound_71 ?_
            refine lv_iload_n hx hb dX9_pound_74 rfl (lv_at hl 2 rfl) ?_
            refine lv_iload_n hx hb dX9_pound_75 rfl (lv_at hl 3 rfl) ?_
            obtain ⟨h8, hm⟩ := chk_e hm
            refine asM_10 C hw hS h8 dX9_pound_76 (fun H locs hw hS => ?_)
            obtain ⟨x9, ev, hm⟩ := lt_e hm
            rw [← ev] at hw
            clear ev
            refine lv_iload_n hx hb dX9_pound_77 rfl (lv_at hl 0 rfl) ?_
            obtain ⟨rfl, rfl⟩ := inj2 hm
            exact xret_i C hw hS dX9_pound_78
          · replace hm := ite_p cc hm
            refine lv_aload_n hx hb dX9_pound_62 rfl (lv_at hl 1 rfl) ?_
            refine lv_iload_n hx hb dX9_pound_63 rfl (lv_at hl 3 rfl) ?_
            refine pX9_124 C hw hS dX9_pound_64 (fun H locs hw hS => ?_)
            obtain ⟨x10, ev, hm⟩ := lt_e hm
            rw [← ev] at hw
            clear ev
            refine lv_goto (tgt := 77) hx hb dX9_pound_67 (by decide) ?_
            refine lv_iload_n hx hb dX9_pound_77 rfl (lv_at hl 0 rfl) ?_
            obtain ⟨rfl, rfl⟩ := inj2 hm
            exact xret_i C hw hS dX9_pound_78
        clear hm
        replace hm := hj
        clear hj
        refine lv_icmp_ne (tgt := 50) hx hb dX9_pound_40 (by decide) (fun cc => ?_) (fun cc => ?_)
        · replace hm := ite_n cc hm
          refine lv_aload_n hx hb dX9_pound_50 rfl (lv_at hl 0 rfl) ?_
          refine gX9_41 C hw dX9_pound_51 ?_
          refine lv_iload_n hx hb dX9_pound_54 rfl (lv_at hl 1 rfl) ?_
          obtain ⟨h6, hm⟩ := chk_e hm
          refine alM_10 C hw h6 dX9_pound_55 ?_
          obtain rfl := Option.some.inj hm
          exact kk _ _ _ hw hS (lv_sub hl [0, 1, 2] rfl)
        · replace hm := ite_p cc hm
          refine lv_aload_n hx hb dX9_pound_43 rfl (lv_at hl 0 rfl) ?_
          refine gX9_124 C hw dX9_pound_44 ?_
          refine lv_goto (tgt := 56) hx hb dX9_pound_47 (by decide) ?_
          obtain rfl := Option.some.inj hm
          exact kk _ _ _ hw hS (lv_sub hl [0, 1, 2] rfl)
      · replace hm := ite_n cc hm
        refine lv_bipush (v := (-2)) hx hb dX9_pound_35 (by decide) ?_
        obtain ⟨rfl, rfl⟩ := inj2 hm
        exact xret_i C hw hS dX9_pound_37
    clear hm
    replace hm := hj
    clear hj
    refine lv_icmp_ne (tgt := 26) hx hb dX9_pound_17 (by decide) (fun cc => ?_) (fun cc => ?_)
    · replace hm := ite_n cc hm
      refine lv_ldc2 (v := 9) hx hb ho (hts (.constantLong RX9 158 9) (tg 1118 (by decide +kernel) rfl)) dX9_pound_26 ?_
      obtain rfl := Option.some.inj hm
      exact kk _ _ _ hw hS (lv_sub hl [0, 1, 2] rfl)
    · replace hm := ite_p cc hm
      refine lv_ldc2 (v := 3) hx hb ho (hts (.constantLong RX9 136 3) (tg 1117 (by decide +kernel) rfl)) dX9_pound_20 ?_
      refine lv_goto (tgt := 29) hx hb dX9_pound_23 (by decide) ?_
      obtain rfl := Option.some.inj hm
      exact kk _ _ _ hw hS (lv_sub hl [0, 1, 2] rfl)
theorem dX9_formOf_0 : decode cX9_formOf 0 = .ok (.aload_n 0, 1) := by decide +kernel
theorem dX9_formOf_1 : decode cX9_formOf 1 = .ok (.getfield 26, 3) := by decide +kernel
theorem dX9_formOf_4 : decode cX9_formOf 4 = .ok (.iload_n 1, 1) := by decide +kernel
theorem dX9_formOf_5 : decode cX9_formOf 5 = .ok (.iaload, 1) := by decide +kernel
theorem dX9_formOf_6 : decode cX9_formOf 6 = .ok (.aload_n 0, 1) := by decide +kernel
theorem dX9_formOf_7 : decode cX9_formOf 7 = .ok (.getfield 29, 3) := by decide +kernel
theorem dX9_formOf_10 : decode cX9_formOf 10 = .ok (.iload_n 1, 1) := by decide +kernel
theorem dX9_formOf_11 : decode cX9_formOf 11 = .ok (.iaload, 1) := by decide +kernel
theorem dX9_formOf_12 : decode cX9_formOf 12 = .ok (.bipush 6, 2) := by decide +kernel
theorem dX9_formOf_14 : decode cX9_formOf 14 = .ok (.if_icmp .ge 24, 3) := by decide +kernel
theorem dX9_formOf_17 : decode cX9_formOf 17 = .ok (.bipush 6, 2) := by decide +kernel
theorem dX9_formOf_19 : decode cX9_formOf 19 = .ok (.aload_n 0, 1) := by decide +kernel
theorem dX9_formOf_20 : decode cX9_formOf 20 = .ok (.getfield 29, 3) := by decide +kernel
theorem dX9_formOf_23 : decode cX9_formOf 23 = .ok (.iload_n 1, 1) := by decide +kernel
theorem dX9_formOf_24 : decode cX9_formOf 24 = .ok (.iaload, 1) := by decide +kernel
theorem dX9_formOf_25 : decode cX9_formOf 25 = .ok (.isub, 1) := by decide +kernel
theorem dX9_formOf_26 : decode cX9_formOf 26 = .ok (.aload_n 0, 1) := by decide +kernel
theorem dX9_formOf_27 : decode cX9_formOf 27 = .ok (.getfield 32, 3) := by decide +kernel
theorem dX9_formOf_30 : decode cX9_formOf 30 = .ok (.iload_n 1, 1) := by decide +kernel
theorem dX9_formOf_31 : decode cX9_formOf 31 = .ok (.iaload, 1) := by decide +kernel
theorem dX9_formOf_32 : decode cX9_formOf 32 = .ok (.imul, 1) := by decide +kernel
theorem dX9_formOf_33 : decode cX9_formOf 33 = .ok (.iconst 2, 1) := by decide +kernel
theorem dX9_formOf_34 : decode cX9_formOf 34 = .ok (.idiv, 1) := by decide +kernel
theorem dX9_formOf_35 : decode cX9_formOf 35 = .ok (.goto 4, 3) := by decide +kernel
theorem dX9_formOf_38 : decode cX9_formOf 38 = .ok (.iconst 0, 1) := by decide +kernel
theorem dX9_formOf_39 : decode cX9_formOf 39 = .ok (.iadd, 1) := by decide +kernel
theorem dX9_formOf_40 : decode cX9_formOf 40 = .ok (.istore 4, 2) := by decide +kernel
theorem dX9_formOf_42 : decode cX9_formOf 42 = .ok (.aload_n 0, 1) := by decide +kernel
theorem dX9_formOf_43 : decode cX9_formOf 43 = .ok (.getfield 23, 3) := by decide +kernel
theorem dX9_formOf_46 : decode cX9_formOf 46 = .ok (.iload_n 1, 1) := by decide +kernel
theorem dX9_formOf_47 : decode cX9_formOf 47 = .ok (.iaload, 1) := by decide +kernel
theorem dX9_formOf_48 : decode cX9_formOf 48 = .ok (.tableswitch 116 1 5 #[36, 50, 78, 81, 106], 36) := by decide +kernel
theorem dX9_formOf_84 : decode cX9_formOf 84 = .ok (.aload_n 0, 1) := by decide +kernel
theorem dX9_formOf_85 : decode cX9_formOf 85 = .ok (.getfield 26, 3) := by decide +kernel
theorem dX9_formOf_88 : decode cX9_formOf 88 = .ok (.iload_n 1, 1) := by decide +kernel
theorem dX9_formOf_89 : decode cX9_formOf 89 = .ok (.iaload, 1) := by decide +kernel
theorem dX9_formOf_90 : decode cX9_formOf 90 = .ok (.aload_n 0, 1) := by decide +kernel
theorem dX9_formOf_91 : decode cX9_formOf 91 = .ok (.getfield 32, 3) := by decide +kernel
theorem dX9_formOf_94 : decode cX9_formOf 94 = .ok (.iload_n 1, 1) := by decide +kernel
theorem dX9_formOf_95 : decode cX9_formOf 95 = .ok (.iaload, 1) := by decide +kernel
theorem dX9_formOf_96 : decode cX9_formOf 96 = .ok (.isub, 1) := by decide +kernel
theorem dX9_formOf_97 : decode cX9_formOf 97 = .ok (.ireturn, 1) := by decide +kernel
theorem dX9_formOf_98 : decode cX9_formOf 98 = .ok (.aload_n 0, 1) := by decide +kernel
theorem dX9_formOf_99 : decode cX9_formOf 99 = .ok (.getfield 26, 3) := by decide +kernel
theorem dX9_formOf_102 : decode cX9_formOf 102 = .ok (.iload_n 1, 1) := by decide +kernel
theorem dX9_formOf_103 : decode cX9_formOf 103 = .ok (.iaload, 1) := by decide +kernel
theorem dX9_formOf_104 : decode cX9_formOf 104 = .ok (.iload_n 2, 1) := by decide +kernel
theorem dX9_formOf_105 : decode cX9_formOf 105 = .ok (.aload_n 0, 1) := by decide +kernel
theorem dX9_formOf_106 : decode cX9_formOf 106 = .ok (.getfield 35, 3) := by decide +kernel
theorem dX9_formOf_109 : decode cX9_formOf 109 = .ok (.iload_n 1, 1) := by decide +kernel
theorem dX9_formOf_110 : decode cX9_formOf 110 = .ok (.iaload, 1) := by decide +kernel
theorem dX9_formOf_111 : decode cX9_formOf 111 = .ok (.if_icmp .ne 7, 3) := by decide +kernel
theorem dX9_formOf_114 : decode cX9_formOf 114 = .ok (.iconst 0, 1) := by decide +kernel
theorem dX9_formOf_115 : decode cX9_formOf 115 = .ok (.goto 9, 3) := by decide +kernel
theorem dX9_formOf_118 : decode cX9_formOf 118 = .ok (.aload_n 0, 1) := by decide +kernel
theorem dX9_formOf_119 : decode cX9_formOf 119 = .ok (.getfield 32, 3) := by decide +kernel
theorem dX9_formOf_122 : decode cX9_formOf 122 = .ok (.iload_n 1, 1) := by decide +kernel
theorem dX9_formOf_123 : decode cX9_formOf 123 = .ok (.iaload, 1) := by decide +kernel
theorem dX9_formOf_124 : decode cX9_formOf 124 = .ok (.isub, 1) := by decide +kernel
theorem dX9_formOf_125 : decode cX9_formOf 125 = .ok (.ireturn, 1) := by decide +kernel
theorem dX9_formOf_126 : decode cX9_formOf 126 = .ok (.iload 4, 2) := by decide +kernel
theorem dX9_formOf_128 : decode cX9_formOf 128 = .ok (.ireturn, 1) := by decide +kernel
theorem dX9_formOf_129 : decode cX9_formOf 129 = .ok (.aload_n 0, 1) := by decide +kernel
theorem dX9_formOf_130 : decode cX9_formOf 130 = .ok (.getfield 26, 3) := by decide +kernel
theorem dX9_formOf_133 : decode cX9_formOf 133 = .ok (.iload_n 1, 1) := by decide +kernel
theorem dX9_formOf_134 : decode cX9_formOf 134 = .ok (.iaload, 1) := by decide +kernel
theorem dX9_formOf_135 : decode cX9_formOf 135 = .ok (.iload_n 3, 1) := by decide +kernel
theorem dX9_formOf_136 : decode cX9_formOf 136 = .ok (.bipush 7, 2) := by decide +kernel
theorem dX9_formOf_138 : decode cX9_formOf 138 = .ok (.irem, 1) := by decide +kernel
theorem dX9_formOf_139 : decode cX9_formOf 139 = .ok (.ifCond .ne 7, 3) := by decide +kernel
theorem dX9_formOf_142 : decode cX9_formOf 142 = .ok (.iconst 0, 1) := by decide +kernel
theorem dX9_formOf_143 : decode cX9_formOf 143 = .ok (.goto 9, 3) := by decide +kernel
theorem dX9_formOf_146 : decode cX9_formOf 146 = .ok (.aload_n 0, 1) := by decide +kernel
theorem dX9_formOf_147 : decode cX9_formOf 147 = .ok (.getfield 32, 3) := by decide +kernel
theorem dX9_formOf_150 : decode cX9_formOf 150 = .ok (.iload_n 1, 1) := by decide +kernel
theorem dX9_formOf_151 : decode cX9_formOf 151 = .ok (.iaload, 1) := by decide +kernel
theorem dX9_formOf_152 : decode cX9_formOf 152 = .ok (.isub, 1) := by decide +kernel
theorem dX9_formOf_153 : decode cX9_formOf 153 = .ok (.ireturn, 1) := by decide +kernel
theorem dX9_formOf_154 : decode cX9_formOf 154 = .ok (.iload 4, 2) := by decide +kernel
theorem dX9_formOf_156 : decode cX9_formOf 156 = .ok (.aload_n 0, 1) := by decide +kernel
theorem dX9_formOf_157 : decode cX9_formOf 157 = .ok (.getfield 29, 3) := by decide +kernel
theorem dX9_formOf_160 : decode cX9_formOf 160 = .ok (.iload_n 1, 1) := by decide +kernel
theorem dX9_formOf_161 : decode cX9_formOf 161 = .ok (.iaload, 1) := by decide +kernel
theorem dX9_formOf_162 : decode cX9_formOf 162 = .ok (.isub, 1) := by decide +kernel
theorem dX9_formOf_163 : decode cX9_formOf 163 = .ok (.ireturn, 1) := by decide +kernel
theorem dX9_formOf_164 : decode cX9_formOf 164 = .ok (.aload_n 0, 1) := by decide +kernel
theorem dX9_formOf_165 : decode cX9_formOf 165 = .ok (.getfield 26, 3) := by decide +kernel
theorem dX9_formOf_168 : decode cX9_formOf 168 = .ok (.iload_n 1, 1) := by decide +kernel
theorem dX9_formOf_169 : decode cX9_formOf 169 = .ok (.iaload, 1) := by decide +kernel
theorem dX9_formOf_170 : decode cX9_formOf 170 = .ok (.ireturn, 1) := by decide +kernel
theorem alM_7 {p : Program} {l : Launch} {e : Env} {R : Room} {s : State} {m : MethodId} {args : Array Value} {below : List Frame} {meth : Method} {c : Code} {H : Heap} {locs : List Loc} {cells slots : Nat} {Q : State → Prop} {cc : ByteArray} {pc nL : Nat} {ls : Array Slot} {rest : List Value} {ret : Option FieldType} {G : xG} {β N : Nat} {x : MS} {own : String} {i : Int32} (C : Cx p s m args meth c own cc nL ret (KK G)) (hw : MW β G N x H) (hin : ib i 10) (hd : decode cc pc = .ok (.iaload, 1)) (kk : W p l e R s m args below meth c H locs cells slots Q (F0 m (pc + 1) ls (.int (x.2.1 7 i.toNatClampNeg) :: rest))) : W p l e R s m args below meth c H locs cells slots Q (F0 m pc ls (.int i :: .ref (β + 7) :: rest)) :=
  va_iald C.1 C.2.1 C.K.1 (xP1 (hw.2 7 (by decide))) 0 0 rfl rfl hin hd kk
theorem alM_4 {p : Program} {l : Launch} {e : Env} {R : Room} {s : State} {m : MethodId} {args : Array Value} {below : List Frame} {meth : Method} {c : Code} {H : Heap} {locs : List Loc} {cells slots : Nat} {Q : State → Prop} {cc : ByteArray} {pc nL : Nat} {ls : Array Slot} {rest : List Value} {ret : Option FieldType} {G : xG} {β N : Nat} {x : MS} {own : String} {i : Int32} (C : Cx p s m args meth c own cc nL ret (KK G)) (hw : MW β G N x H) (hin : ib i 10) (hd : decode cc pc = .ok (.iaload, 1)) (kk : W p l e R s m args below meth c H locs cells slots Q (F0 m (pc + 1) ls (.int (x.2.1 4 i.toNatClampNeg) :: rest))) : W p l e R s m args below meth c H locs cells slots Q (F0 m pc ls (.int i :: .ref (β + 4) :: rest)) :=
  va_iald C.1 C.2.1 C.K.1 (xP1 (hw.2 4 (by decide))) 0 0 rfl rfl hin hd kk
theorem alM_8 {p : Program} {l : Launch} {e : Env} {R : Room} {s : State} {m : MethodId} {args : Array Value} {below : List Frame} {meth : Method} {c : Code} {H : Heap} {locs : List Loc} {cells slots : Nat} {Q : State → Prop} {cc : ByteArray} {pc nL : Nat} {ls : Array Slot} {rest : List Value} {ret : Option FieldType} {G : xG} {β N : Nat} {x : MS} {own : String} {i : Int32} (C : Cx p s m args meth c own cc nL ret (KK G)) (hw : MW β G N x H) (hin : ib i 10) (hd : decode cc pc = .ok (.iaload, 1)) (kk : W p l e R s m args below meth c H locs cells slots Q (F0 m (pc + 1) ls (.int (x.2.1 8 i.toNatClampNeg) :: rest))) : W p l e R s m args below meth c H locs cells slots Q (F0 m pc ls (.int i :: .ref (β + 8) :: rest)) :=
  va_iald C.1 C.2.1 C.K.1 (xP1 (hw.2 8 (by decide))) 0 0 rfl rfl hin hd kk
def fX9_formOf (x : MS) (a1 : Int32) (a2 : Int32) (a3 : Int32) : Option (Int32) := if ib a1 10 then if ib a1 10 then Option.bind (if 6 ≤ (x.2.1 6 a1.toNatClampNeg) then some 0 else if ib a1 10 then if ib a1 10 then some (((6 - (x.2.1 6 a1.toNatClampNeg)) * (x.2.1 7 a1.toNatClampNeg)) / 2) else none else none) fun v5 => lt ((x.2.1 5 a1.toNatClampNeg) + v5) fun v6 => if ib a1 10 then if (x.2.1 4 a1.toNatClampNeg) = 1 then if ib a1 10 then if ib a1 10 then some ((x.2.1 5 a1.toNatClampNeg) - (x.2.1 7 a1.toNatClampNeg)) else none else none else if (x.2.1 4 a1.toNatClampNeg) = 2 then if ib a1 10 then if ib a1 10 then if a2 = (x.2.1 8 a1.toNatClampNeg) then some ((x.2.1 5 a1.toNatClampNeg) - 0) else if ib a1 10 then some ((x.2.1 5 a1.toNatClampNeg) - (x.2.1 7 a1.toNatClampNeg)) else none else none else none else if (x.2.1 4 a1.toNatClampNeg) = 3 then some v6 else if (x.2.1 4 a1.toNatClampNeg) = 4 then if ib a1 10 then if (irm a3 7) = 0 then some ((x.2.1 5 a1.toNatClampNeg) - 0) else if ib a1 10 then some ((x.2.1 5 a1.toNatClampNeg) - (x.2.1 7 a1.toNatClampNeg)) else none else none else if (x.2.1 4 a1.toNatClampNeg) = 5 then if ib a1 10 then some (v6 - (x.2.1 6 a1.toNatClampNeg)) else none else if ib a1 10 then some (x.2.1 5 a1.toNatClampNeg) else none else none else none else none
abbrev rmX9_formOf : Room := { frames := 0, cells := 0, slots := 0, locals := 0 }
set_option maxHeartbeats 4000000 in
set_option maxRecDepth 100000 in
theorem kX9_formOf {l : Launch} {G : xG} {β N : Nat} {x : MS} {a1 : Int32} {a2 : Int32} {a3 : Int32} {r : Int32} (hm : fX9_formOf x a1 a2 a3 = some r) : Met l yX9_formOf (.code yX9_formOf cX9_formOf 5 (some .int) :: GT) rmX9_formOf (PcW [.ref β, .int a1, .int a2, .int a3] (MW β G N x) (KK G)) (QcW (AM β) (some (.int r)) (MW β G N x)) 0 0 (AM β) := by
  unfold fX9_formOf at hm
  refine xpro (own := RX9) (by decide +kernel) rfl (Nat.le_of_ble_eq_true rfl) ?_
  intro p e s m args below meth c C hw ls hl
  have hx := C.1
  have hb := C.2.1
  have ho := C.2.2.2.1
  have hts := C.2.2.2.2.1
  have hS : va_S (AM β) s.heap s.heap [] := va_S.rf
  have hl : lv_has ls 5 [(0, .ref β), (1, .int a1), (2, .int a2), (3, .int a3)] := hl
  have hRf : 0 ≤ rmX9_formOf.frames := Nat.le_refl _
  have hRl : 0 ≤ rmX9_formOf.locals := Nat.le_refl _
  have hcs : 0 ≤ rmX9_formOf.cells ∧ 0 ≤ rmX9_formOf.slots := ⟨Nat.le_refl _, Nat.le_refl _⟩
  refine lv_aload_n hx hb dX9_formOf_0 rfl (lv_at hl 0 rfl) ?_
  refine gX9_26 C hw dX9_formOf_1 ?_
  refine lv_iload_n hx hb dX9_formOf_4 rfl (lv_at hl 1 rfl) ?_
  obtain ⟨h1, hm⟩ := chk_e hm
  refine alM_5 C hw h1 dX9_formOf_5 ?_
  refine lv_aload_n hx hb dX9_formOf_6 rfl (lv_at hl 0 rfl) ?_
  refine gX9_29 C hw dX9_formOf_7 ?_
  refine lv_iload_n hx hb dX9_formOf_10 rfl (lv_at hl 1 rfl) ?_
  obtain ⟨h2, hm⟩ := chk_e hm
  refine alM_6 C hw h2 dX9_formOf_11 ?_
  refine lv_bipush (v := 6) hx hb dX9_formOf_12 (by decide) ?_
  obtain ⟨v5, hj, hm⟩ := bind_e hm
  have kk : ∀ (H : Heap) (locs : List Loc) (ls : Array Slot), MW β G N x H → va_S (AM β) s.heap H locs → lv_has ls 5 [(0, .ref β), (1, .int a1), (2, .int a2), (3, .int a3)] → W p l e rmX9_formOf s m args below meth c H locs 0 0 (MQ below (QcW (AM β) (some (.int r)) (MW β G N x)) args s 0 0 (AM β)) (F0 m 39 ls [.int v5, .int (x.2.1 5 a1.toNatClampNeg)]) := by
    intro H locs ls hw hS hl
    refine lv_iadd hx hb dX9_formOf_39 ?_
    refine topI hm (fun v6 hm => ?_)
    refine lv_istore (lv' := [(4, .int v6), (0, .ref β), (1, .int a1), (2, .int a2), (3, .int a3)]) hx hb dX9_formOf_40 hl (by decide) rfl (fun ls hl => ?_)
    refine lv_aload_n hx hb dX9_formOf_42 rfl (lv_at hl 1 rfl) ?_
    refine gX9_23 C hw dX9_formOf_43 ?_
    refine lv_iload_n hx hb dX9_formOf_46 rfl (lv_at hl 2 rfl) ?_
    obtain ⟨h7, hm⟩ := chk_e hm
    refine alM_4 C hw h7 dX9_formOf_47 ?_
    by_cases k0 : (x.2.1 4 a1.toNatClampNeg) = 1
    · replace hm := ite_p k0 hm
      refine lv_tableIn (tgt := 84) (off := 36) hx hb dX9_formOf_48 (by rw [k0]; decide) (by rw [k0]; decide) (by rw [k0]; rfl) (by decide) ?_
      refine lv_aload_n hx hb dX9_formOf_84 rfl (lv_at hl 1 rfl) ?_
      refine gX9_26 C hw dX9_formOf_85 ?_
      refine lv_iload_n hx hb dX9_formOf_88 rfl (lv_at hl 2 rfl) ?_
      obtain ⟨h8, hm⟩ := chk_e hm
      refine alM_5 C hw h8 dX9_formOf_89 ?_
      refine lv_aload_n hx hb dX9_formOf_90 rfl (lv_at hl 1 rfl) ?_
      refine gX9_32 C hw dX9_formOf_91 ?_
      refine lv_iload_n hx hb dX9_formOf_94 rfl (lv_at hl 2 rfl) ?_
      obtain ⟨h9, hm⟩ := chk_e hm
      refine alM_7 C hw h9 dX9_formOf_95 ?_
      refine lv_isub hx hb dX9_formOf_96 ?_
      obtain rfl := Option.some.inj hm
      exact xret_i C hw hS dX9_formOf_97
    replace hm := ite_n k0 hm
    by_cases k1 : (x.2.1 4 a1.toNatClampNeg) = 2
    · replace hm := ite_p k1 hm
      refine lv_tableIn (tgt := 98) (off := 50) hx hb dX9_formOf_48 (by rw [k1]; decide) (by rw [k1]; decide) (by rw [k1]; rfl) (by decide) ?_
      refine lv_aload_n hx hb dX9_formOf_98 rfl (lv_at hl 1 rfl) ?_
      refine gX9_26 C hw dX9_formOf_99 ?_
      refine lv_iload_n hx hb dX9_formOf_102 rfl (lv_at hl 2 rfl) ?_
      obtain ⟨h10, hm⟩ := chk_e hm
      refine alM_5 C hw h10 dX9_formOf_103 ?_
      refine lv_iload_n hx hb dX9_formOf_104 rfl (lv_at hl 3 rfl) ?_
      refine lv_aload_n hx hb dX9_formOf_105 rfl (lv_at hl 1 rfl) ?_
      refine gX9_35 C hw dX9_formOf_106 ?_
      refine lv_iload_n hx hb dX9_formOf_109 rfl (lv_at hl 2 rfl) ?_
      obtain ⟨h11, hm⟩ := chk_e hm
      refine alM_8 C hw h11 dX9_formOf_110 ?_
      refine lv_icmp_ne (tgt := 118) hx hb dX9_formOf_111 (by decide) (fun cc => ?_) (fun cc => ?_)
      · replace hm := ite_n cc hm
        refine lv_aload_n hx hb dX9_formOf_118 rfl (lv_at hl 1 rfl) ?_
        refine gX9_32 C hw dX9_formOf_119 ?_
        refine lv_iload_n hx hb dX9_formOf_122 rfl (lv_at hl 2 rfl) ?_
        obtain ⟨h12, hm⟩ := chk_e hm
        refine alM_7 C hw h12 dX9_formOf_123 ?_
        refine lv_isub hx hb dX9_formOf_124 ?_
        obtain rfl := Option.some.inj hm
        exact xret_i C hw hS dX9_formOf_125
      · replace hm := ite_p cc hm
        refine lv_iconst (v := 0) hx hb dX9_formOf_114 (by decide) ?_
        refine lv_goto (tgt := 124) hx hb dX9_formOf_115 (by decide) ?_
        refine lv_isub hx hb dX9_formOf_124 ?_
        obtain rfl := Option.some.inj hm
        exact xret_i C hw hS dX9_formOf_125
    replace hm := ite_n k1 hm
    by_cases k2 : (x.2.1 4 a1.toNatClampNeg) = 3
    · replace hm := ite_p k2 hm
      refine lv_tableIn (tgt := 126) (off := 78) hx hb dX9_formOf_48 (by rw [k2]; decide) (by rw [k2]; decide) (by rw [k2]; rfl) (by decide) ?_
      refine lv_iload hx hb dX9_formOf_126 (lv_at hl 0 rfl) ?_
      obtain rfl := Option.some.inj hm
      exact xret_i C hw hS dX9_formOf_128
    replace hm := ite_n k2 hm
    by_cases k3 : (x.2.1 4 a1.toNatClampNeg) = 4
    · replace hm := ite_p k3 hm
      refine lv_tableIn (tgt := 129) (off := 81) hx hb dX9_formOf_48 (by rw [k3]; decide) (by rw [k3]; decide) (by rw [k3]; rfl) (by decide) ?_
      refine lv_aload_n hx hb dX9_formOf_129 rfl (lv_at hl 1 rfl) ?_
      refine gX9_26 C hw dX9_formOf_130 ?_
      refine lv_iload_n hx hb dX9_formOf_133 rfl (lv_at hl 2 rfl) ?_
      obtain ⟨h13, hm⟩ := chk_e hm
      refine alM_5 C hw h13 dX9_formOf_134 ?_
      refine lv_iload_n hx hb dX9_formOf_135 rfl (lv_at hl 4 rfl) ?_
      refine lv_bipush (v := 7) hx hb dX9_formOf_136 (by decide) ?_
      refine lv_irem hx hb dX9_formOf_138 (by decide) ?_
      refine lv_if_ne (tgt := 146) hx hb dX9_formOf_139 (by decide) (fun cc => ?_) (fun cc => ?_)
      · replace hm := ite_n cc hm
        refine lv_aload_n hx hb dX9_formOf_146 rfl (lv_at hl 1 rfl) ?_
        refine gX9_32 C hw dX9_formOf_147 ?_
        refine lv_iload_n hx hb dX9_formOf_150 rfl (lv_at hl 2 rfl) ?_
        obtain ⟨h14, hm⟩ := chk_e hm
        refine alM_7 C hw h14 dX9_formOf_151 ?_
        refine lv_isub hx hb dX9_formOf_152 ?_
        obtain rfl := Option.some.inj hm
        exact xret_i C hw hS dX9_formOf_153
      · replace hm := ite_p cc hm
        refine lv_iconst (v := 0) hx hb dX9_formOf_142 (by decide) ?_
        refine lv_goto (tgt := 152) hx hb dX9_formOf_143 (by decide) ?_
        refine lv_isub hx hb dX9_formOf_152 ?_
        obtain rfl := Option.some.inj hm
        exact xret_i C hw hS dX9_formOf_153
    replace hm := ite_n k3 hm
    by_cases k4 : (x.2.1 4 a1.toNatClampNeg) = 5
    · replace hm := ite_p k4 hm
      refine lv_tableIn (tgt := 154) (off := 106) hx hb dX9_formOf_48 (by rw [k4]; decide) (by rw [k4]; decide) (by rw [k4]; rfl) (by decide) ?_
      refine lv_iload hx hb dX9_formOf_154 (lv_at hl 0 rfl) ?_
      refine lv_aload_n hx hb dX9_formOf_156 rfl (lv_at hl 1 rfl) ?_
      refine gX9_29 C hw dX9_formOf_157 ?_
      refine lv_iload_n hx hb dX9_formOf_160 rfl (lv_at hl 2 rfl) ?_
      obtain ⟨h15, hm⟩ := chk_e hm
      refine alM_6 C hw h15 dX9_formOf_161 ?_
      refine lv_isub hx hb dX9_formOf_162 ?_
      obtain rfl := Option.some.inj hm
      exact xret_i C hw hS dX9_formOf_163
    replace hm := ite_n k4 hm
    have k0i := lv_neT k0 (a := 1) (by decide)
    have k1i := lv_neT k1 (a := 2) (by decide)
    have k2i := lv_neT k2 (a := 3) (by decide)
    have k3i := lv_neT k3 (a := 4) (by decide)
    have k4i := lv_neT k4 (a := 5) (by decide)
    refine lv_tableOut (tgt := 164) hx hb dX9_formOf_48 (by omega) (by decide) ?_
    refine lv_aload_n hx hb dX9_formOf_164 rfl (lv_at hl 1 rfl) ?_
    refine gX9_26 C hw dX9_formOf_165 ?_
    refine lv_iload_n hx hb dX9_formOf_168 rfl (lv_at hl 2 rfl) ?_
    obtain ⟨h16, hm⟩ := chk_e hm
    refine alM_5 C hw h16 dX9_formOf_169 ?_
    obtain rfl := Option.some.inj hm
    exact xret_i C hw hS dX9_formOf_170
  clear hm
  replace hm := hj
  clear hj
  refine lv_icmp_ge (tgt := 38) hx hb dX9_formOf_14 (by decide) (fun cc => ?_) (fun cc => ?_)
  · replace hm := ite_p cc hm
    refine lv_iconst (v := 0) hx hb dX9_formOf_38 (by decide) ?_
    obtain rfl := Option.some.inj hm
    exact kk _ _ _ hw hS (lv_sub hl [0, 1, 2, 3] rfl)
  · replace hm := ite_n cc hm
    refine lv_bipush (v := 6) hx hb dX9_formOf_17 (by decide) ?_
    refine lv_aload_n hx hb dX9_formOf_19 rfl (lv_at hl 0 rfl) ?_
    refine gX9_29 C hw dX9_formOf_20 ?_
    refine lv_iload_n hx hb dX9_formOf_23 rfl (lv_at hl 1 rfl) ?_
    obtain ⟨h3, hm⟩ := chk_e hm
    refine alM_6 C hw h3 dX9_formOf_24 ?_
    refine lv_isub hx hb dX9_formOf_25 ?_
    refine lv_aload_n hx hb dX9_formOf_26 rfl (lv_at hl 0 rfl) ?_
    refine gX9_32 C hw dX9_formOf_27 ?_
    refine lv_iload_n hx hb dX9_formOf_30 rfl (lv_at hl 1 rfl) ?_
    obtain ⟨h4, hm⟩ := chk_e hm
    refine alM_7 C hw h4 dX9_formOf_31 ?_
    refine lv_imul hx hb dX9_formOf_32 ?_
    refine lv_iconst (v := 2) hx hb dX9_formOf_33 (by decide) ?_
    refine lv_idiv hx hb dX9_formOf_34 (by decide) ?_
    refine lv_goto (tgt := 39) hx hb dX9_formOf_35 (by decide) ?_
    obtain rfl := Option.some.inj hm
    exact kk _ _ _ hw hS (lv_sub hl [0, 1, 2, 3] rfl)
theorem dX9_form_0 : decode cX9_form 0 = .ok (.aload_n 0, 1) := by decide +kernel
theorem dX9_form_1 : decode cX9_form 1 = .ok (.iload_n 1, 1) := by decide +kernel
theorem dX9_form_2 : decode cX9_form 2 = .ok (.invokevirtual 146, 3) := by decide +kernel
theorem dX9_form_5 : decode cX9_form 5 = .ok (.ifCond .eq 33, 3) := by decide +kernel
theorem dX9_form_8 : decode cX9_form 8 = .ok (.iload_n 2, 1) := by decide +kernel
theorem dX9_form_9 : decode cX9_form 9 = .ok (.invokestatic 160, 3) := by decide +kernel
theorem dX9_form_12 : decode cX9_form 12 = .ok (.ifCond .eq 26, 3) := by decide +kernel
theorem dX9_form_15 : decode cX9_form 15 = .ok (.iload_n 3, 1) := by decide +kernel
theorem dX9_form_16 : decode cX9_form 16 = .ok (.i2l, 1) := by decide +kernel
theorem dX9_form_17 : decode cX9_form 17 = .ok (.lconst 0, 1) := by decide +kernel
theorem dX9_form_18 : decode cX9_form 18 = .ok (.ldc2_w 140, 3) := by decide +kernel
theorem dX9_form_21 : decode cX9_form 21 = .ok (.invokestatic 132, 3) := by decide +kernel
theorem dX9_form_24 : decode cX9_form 24 = .ok (.ifCond .eq 14, 3) := by decide +kernel
theorem dX9_form_27 : decode cX9_form 27 = .ok (.aload_n 0, 1) := by decide +kernel
theorem dX9_form_28 : decode cX9_form 28 = .ok (.iload_n 1, 1) := by decide +kernel
theorem dX9_form_29 : decode cX9_form 29 = .ok (.iload_n 2, 1) := by decide +kernel
theorem dX9_form_30 : decode cX9_form 30 = .ok (.iload_n 3, 1) := by decide +kernel
theorem dX9_form_31 : decode cX9_form 31 = .ok (.invokevirtual 163, 3) := by decide +kernel
theorem dX9_form_34 : decode cX9_form 34 = .ok (.i2l, 1) := by decide +kernel
theorem dX9_form_35 : decode cX9_form 35 = .ok (.goto 6, 3) := by decide +kernel
theorem dX9_form_38 : decode cX9_form 38 = .ok (.ldc2_w 167, 3) := by decide +kernel
theorem dX9_form_41 : decode cX9_form 41 = .ok (.lreturn, 1) := by decide +kernel
theorem sX9_160 {p : Program} {l : Launch} {e : Env} {R : Room} {s : State} {m : MethodId} {args : Array Value} {below : List Frame} {meth : Method} {c : Code} {H : Heap} {locs : List Loc} {cells slots : Nat} {Q : State → Prop} {cc : ByteArray} {pc nL : Nat} {ls : Array Slot} {rest : List Value} {ret : Option FieldType} {G : xG} {β N : Nat} {x : MS} {a1 : Int32} {r : Bool} (C : Cx p s m args meth c RX9 cc nL ret (KK G)) (h : fX9_isGround a1 = some r) (hw : MW β G N x H) (hS : va_S (AM β) s.heap H locs) (hsz : ls.size = nL) (hW : (rest.map fun v => v.category).sum ≤ 8) (hR : 2 ≤ R.frames) (hR2 : 45 ≤ R.locals) (hcs : cells ≤ R.cells ∧ slots ≤ R.slots) (hd : decode cc pc = .ok (.invokestatic 160, 3)) (kk : ∀ (H1 : Heap) (locs1 : List Loc), MW β G N x H1 → va_S (AM β) s.heap H1 locs1 → W p l e R s m args below meth c H1 locs1 cells slots Q (F0 m (pc + 3) ls (.int (bI r) :: rest))) : W p l e R s m args below meth c H locs cells slots Q (F0 m pc ls (.int a1 :: rest)) :=
  xcallS C (As := [.int a1]) (rest := rest) (nA := 1) (kX9_isGround h) (tg 1123 (by decide +kernel) rfl) (tg 1124 (by decide +kernel) rfl) (tg 14 (by decide +kernel) rfl) (tg 1125 (by decide +kernel) rfl) ⟨by decide +kernel, by decide +kernel, by decide +kernel⟩ rfl rfl ⟨hR, hR2⟩ hw hS (fun _ q => q) rfl rfl hsz hW hd hcs (fun H1 locs1 hw hz hk hS => kk H1 locs1 hw hS)
theorem sX9_163 {p : Program} {l : Launch} {e : Env} {R : Room} {s : State} {m : MethodId} {args : Array Value} {below : List Frame} {meth : Method} {c : Code} {H : Heap} {locs : List Loc} {cells slots : Nat} {Q : State → Prop} {cc : ByteArray} {pc nL : Nat} {ls : Array Slot} {rest : List Value} {ret : Option FieldType} {G : xG} {β N : Nat} {x : MS} {a1 : Int32} {a2 : Int32} {a3 : Int32} {r : Int32} (C : Cx p s m args meth c RX9 cc nL ret (KK G)) (h : fX9_formOf x a1 a2 a3 = some r) (hw : MW β G N x H) (hS : va_S (AM β) s.heap H locs) (hsz : ls.size = nL) (hW : (rest.map fun v => v.category).sum ≤ 8) (hR : 1 ≤ R.frames) (hR2 : 24 ≤ R.locals) (hcs : cells ≤ R.cells ∧ slots ≤ R.slots) (hd : decode cc pc = .ok (.invokevirtual 163, 3)) (kk : ∀ (H1 : Heap) (locs1 : List Loc), MW β G N x H1 → va_S (AM β) s.heap H1 locs1 → W p l e R s m args below meth c H1 locs1 cells slots Q (F0 m (pc + 3) ls (.int r :: rest))) : W p l e R s m args below meth c H locs cells slots Q (F0 m pc ls (.int a3 :: .int a2 :: .int a1 :: .ref β :: rest)) :=
  xcallV C (As := [.int a1, .int a2, .int a3]) (rest := rest) (nA := 3) (ci := 9) (kX9_formOf h) (tg 1126 (by decide +kernel) rfl) (tg 1128 (by decide +kernel) rfl) (sg (List.mem_of_getElem? (i := 56) (by decide +kernel)) rfl) (tg 14 (by decide +kernel) rfl) (tg 1129 (by decide +kernel) rfl) ⟨rfl, by decide +kernel, by decide +kernel, by decide +kernel⟩ rfl rfl rfl ⟨hR, hR2⟩ (hw.2 0 (by decide)) hw hS (fun _ q => q) rfl rfl hsz hW hd hcs (fun H1 locs1 hw hz hk hS => kk H1 locs1 hw hS)
def fX9_form (x : MS) (a1 : Int32) (a2 : Int32) (a3 : Int32) : Option (Int64) := Option.bind (fX9_isHorse x a1) fun v1 => if v1 = true then Option.bind (fX9_isGround a2) fun v3 => if v3 = true then Option.bind (fX9_in (a3.toInt64) 0 99) fun v5 => if v5 = true then Option.bind (fX9_formOf x a1 a2 a3) fun v7 => some (v7.toInt64) else some (-4611686018427387904) else some (-4611686018427387904) else some (-4611686018427387904)
abbrev rmX9_form : Room := { frames := 2, cells := 0, slots := 0, locals := 46 }
set_option maxHeartbeats 4000000 in
set_option maxRecDepth 100000 in
theorem kX9_form {l : Launch} {G : xG} {β N : Nat} {x : MS} {a1 : Int32} {a2 : Int32} {a3 : Int32} {r : Int64} (hm : fX9_form x a1 a2 a3 = some r) : Met l yX9_form (.code yX9_form cX9_form 4 (some .long) :: GT) rmX9_form (PcW [.ref β, .int a1, .int a2, .int a3] (MW β G N x) (KK G)) (QcW (AM β) (some (.long r)) (MW β G N x)) 0 0 (AM β) := by
  unfold fX9_form at hm
  refine xpro (own := RX9) (by decide +kernel) rfl (Nat.le_of_ble_eq_true rfl) ?_
  intro p e s m args below meth c C hw ls hl
  have hx := C.1
  have hb := C.2.1
  have ho := C.2.2.2.1
  have hts := C.2.2.2.2.1
  have hS : va_S (AM β) s.heap s.heap [] := va_S.rf
  have hl : lv_has ls 4 [(0, .ref β), (1, .int a1), (2, .int a2), (3, .int a3)] := hl
  have hRf : 2 ≤ rmX9_form.frames := Nat.le_refl _
  have hRl : 46 ≤ rmX9_form.locals := Nat.le_refl _
  have hcs : 0 ≤ rmX9_form.cells ∧ 0 ≤ rmX9_form.slots := ⟨Nat.le_refl _, Nat.le_refl _⟩
  refine lv_aload_n hx hb dX9_form_0 rfl (lv_at hl 0 rfl) ?_
  refine lv_iload_n hx hb dX9_form_1 rfl (lv_at hl 1 rfl) ?_
  obtain ⟨v1, h2, hm⟩ := bind_e hm
  refine sX9_146 C h2 hw hS hl.1 (Nat.le_of_ble_eq_true rfl) (Nat.le_trans (Nat.le_of_ble_eq_true rfl) hRf) (Nat.le_trans (Nat.le_of_ble_eq_true rfl) hRl) hcs dX9_form_2 (fun H locs hw hS => ?_)
  refine x_ifeqB hx hb dX9_form_5 (tgt := 38) (by decide) (fun cc => ?_) (fun cc => ?_)
  · replace hm := ite_n cc hm
    refine lv_ldc2 (v := (-4611686018427387904)) hx hb ho (hts (.constantLong RX9 167 (-4611686018427387904)) (tg 1130 (by decide +kernel) rfl)) dX9_form_38 ?_
    obtain rfl := Option.some.inj hm
    exact xret_l C hw hS dX9_form_41
  · replace hm := ite_p cc hm
    refine lv_iload_n hx hb dX9_form_8 rfl (lv_at hl 2 rfl) ?_
    obtain ⟨v3, h4, hm⟩ := bind_e hm
    refine sX9_160 C h4 hw hS hl.1 (Nat.le_of_ble_eq_true rfl) (Nat.le_trans (Nat.le_of_ble_eq_true rfl) hRf) (Nat.le_trans (Nat.le_of_ble_eq_true rfl) hRl) hcs dX9_form_9 (fun H locs hw hS => ?_)
    refine x_ifeqB hx hb dX9_form_12 (tgt := 38) (by decide) (fun cc => ?_) (fun cc => ?_)
    · replace hm := ite_n cc hm
      refine lv_ldc2 (v := (-4611686018427387904)) hx hb ho (hts (.constantLong RX9 167 (-4611686018427387904)) (tg 1130 (by decide +kernel) rfl)) dX9_form_38 ?_
      obtain rfl := Option.some.inj hm
      exact xret_l C hw hS dX9_form_41
    · replace hm := ite_p cc hm
      refine lv_iload_n hx hb dX9_form_15 rfl (lv_at hl 3 rfl) ?_
      refine lv_i2l hx hb dX9_form_16 rfl ?_
      refine lv_lconst (v := 0) hx hb dX9_form_17 (by decide) ?_
      refine lv_ldc2 (v := 99) hx hb ho (hts (.constantLong RX9 140 99) (tg 1098 (by decide +kernel) rfl)) dX9_form_18 ?_
      obtain ⟨v5, h6, hm⟩ := bind_e hm
      refine sX9_132 C h6 hw hS hl.1 (Nat.le_of_ble_eq_true rfl) (Nat.le_trans (Nat.le_of_ble_eq_true rfl) hRf) (Nat.le_trans (Nat.le_of_ble_eq_true rfl) hRl) hcs dX9_form_21 (fun H locs hw hS => ?_)
      refine x_ifeqB hx hb dX9_form_24 (tgt := 38) (by decide) (fun cc => ?_) (fun cc => ?_)
      · replace hm := ite_n cc hm
        refine lv_ldc2 (v := (-4611686018427387904)) hx hb ho (hts (.constantLong RX9 167 (-4611686018427387904)) (tg 1130 (by decide +kernel) rfl)) dX9_form_38 ?_
        obtain rfl := Option.some.inj hm
        exact xret_l C hw hS dX9_form_41
      · replace hm := ite_p cc hm
        refine lv_aload_n hx hb dX9_form_27 rfl (lv_at hl 0 rfl) ?_
        refine lv_iload_n hx hb dX9_form_28 rfl (lv_at hl 1 rfl) ?_
        refine lv_iload_n hx hb dX9_form_29 rfl (lv_at hl 2 rfl) ?_
        refine lv_iload_n hx hb dX9_form_30 rfl (lv_at hl 3 rfl) ?_
        obtain ⟨v7, h8, hm⟩ := bind_e hm
        refine sX9_163 C h8 hw hS hl.1 (Nat.le_of_ble_eq_true rfl) (Nat.le_trans (Nat.le_of_ble_eq_true rfl) hRf) (Nat.le_trans (Nat.le_of_ble_eq_true rfl) hRl) hcs dX9_form_31 (fun H locs hw hS => ?_)
        refine lv_i2l hx hb dX9_form_34 rfl ?_
        refine lv_goto (tgt := 41) hx hb dX9_form_35 (by decide) ?_
        obtain rfl := Option.some.inj hm
        exact xret_l C hw hS dX9_form_41
theorem dX9_carries_0 : decode cX9_carries 0 = .ok (.aload_n 0, 1) := by decide +kernel
theorem dX9_carries_1 : decode cX9_carries 1 = .ok (.iload_n 1, 1) := by decide +kernel
theorem dX9_carries_2 : decode cX9_carries 2 = .ok (.iload_n 2, 1) := by decide +kernel
theorem dX9_carries_3 : decode cX9_carries 3 = .ok (.iload_n 3, 1) := by decide +kernel
theorem dX9_carries_4 : decode cX9_carries 4 = .ok (.invokevirtual 163, 3) := by decide +kernel
theorem dX9_carries_7 : decode cX9_carries 7 = .ok (.iload 5, 2) := by decide +kernel
theorem dX9_carries_9 : decode cX9_carries 9 = .ok (.iload 4, 2) := by decide +kernel
theorem dX9_carries_11 : decode cX9_carries 11 = .ok (.imul, 1) := by decide +kernel
theorem dX9_carries_12 : decode cX9_carries 12 = .ok (.bipush 10, 2) := by decide +kernel
theorem dX9_carries_14 : decode cX9_carries 14 = .ok (.idiv, 1) := by decide +kernel
theorem dX9_carries_15 : decode cX9_carries 15 = .ok (.isub, 1) := by decide +kernel
theorem dX9_carries_16 : decode cX9_carries 16 = .ok (.ireturn, 1) := by decide +kernel
def fX9_carries (x : MS) (a1 : Int32) (a2 : Int32) (a3 : Int32) (a4 : Int32) (a5 : Int32) : Option (Int32) := Option.bind (fX9_formOf x a1 a2 a3) fun v1 => some (v1 - ((a5 * a4) / 10))
abbrev rmX9_carries : Room := { frames := 1, cells := 0, slots := 0, locals := 24 }
set_option maxHeartbeats 4000000 in
set_option maxRecDepth 100000 in
theorem kX9_carries {l : Launch} {G : xG} {β N : Nat} {x : MS} {a1 : Int32} {a2 : Int32} {a3 : Int32} {a4 : Int32} {a5 : Int32} {r : Int32} (hm : fX9_carries x a1 a2 a3 a4 a5 = some r) : Met l yX9_carries (.code yX9_carries cX9_carries 6 (some .int) :: GT) rmX9_carries (PcW [.ref β, .int a1, .int a2, .int a3, .int a4, .int a5] (MW β G N x) (KK G)) (QcW (AM β) (some (.int r)) (MW β G N x)) 0 0 (AM β) := by
  unfold fX9_carries at hm
  refine xpro (own := RX9) (by decide +kernel) rfl (Nat.le_of_ble_eq_true rfl) ?_
  intro p e s m args below meth c C hw ls hl
  have hx := C.1
  have hb := C.2.1
  have ho := C.2.2.2.1
  have hts := C.2.2.2.2.1
  have hS : va_S (AM β) s.heap s.heap [] := va_S.rf
  have hl : lv_has ls 6 [(0, .ref β), (1, .int a1), (2, .int a2), (3, .int a3), (4, .int a4), (5, .int a5)] := hl
  have hRf : 1 ≤ rmX9_carries.frames := Nat.le_refl _
  have hRl : 24 ≤ rmX9_carries.locals := Nat.le_refl _
  have hcs : 0 ≤ rmX9_carries.cells ∧ 0 ≤ rmX9_carries.slots := ⟨Nat.le_refl _, Nat.le_refl _⟩
  refine lv_aload_n hx hb dX9_carries_0 rfl (lv_at hl 0 rfl) ?_
  refine lv_iload_n hx hb dX9_carries_1 rfl (lv_at hl 1 rfl) ?_
  refine lv_iload_n hx hb dX9_carries_2 rfl (lv_at hl 2 rfl) ?_
  refine lv_iload_n hx hb dX9_carries_3 rfl (lv_at hl 3 rfl) ?_
  obtain ⟨v1, h2, hm⟩ := bind_e hm
  refine sX9_163 C h2 hw hS hl.1 (Nat.le_of_ble_eq_true rfl) (Nat.le_trans (Nat.le_of_ble_eq_true rfl) hRf) (Nat.le_trans (Nat.le_of_ble_eq_true rfl) hRl) hcs dX9_carries_4 (fun H locs hw hS => ?_)
  refine lv_iload hx hb dX9_carries_7 (lv_at hl 5 rfl) ?_
  refine lv_iload hx hb dX9_carries_9 (lv_at hl 4 rfl) ?_
  refine lv_imul hx hb dX9_carries_11 ?_
  refine lv_bipush (v := 10) hx hb dX9_carries_12 (by decide) ?_
  refine lv_idiv hx hb dX9_carries_14 (by decide) ?_
  refine lv_isub hx hb dX9_carries_15 ?_
  obtain rfl := Option.some.inj hm
  exact xret_i C hw hS dX9_carries_16
theorem dX9_winsOf_0 : decode cX9_winsOf 0 = .ok (.iconst 0, 1) := by decide +kernel
theorem dX9_winsOf_1 : decode cX9_winsOf 1 = .ok (.istore_n 2, 1) := by decide +kernel
theorem dX9_winsOf_2 : decode cX9_winsOf 2 = .ok (.iconst 0, 1) := by decide +kernel
theorem dX9_winsOf_3 : decode cX9_winsOf 3 = .ok (.istore_n 3, 1) := by decide +kernel
theorem dX9_winsOf_4 : decode cX9_winsOf 4 = .ok (.iload_n 3, 1) := by decide +kernel
theorem dX9_winsOf_5 : decode cX9_winsOf 5 = .ok (.aload_n 0, 1) := by decide +kernel
theorem dX9_winsOf_6 : decode cX9_winsOf 6 = .ok (.getfield 169, 3) := by decide +kernel
theorem dX9_winsOf_9 : decode cX9_winsOf 9 = .ok (.if_icmp .ge 29, 3) := by decide +kernel
theorem dX9_winsOf_12 : decode cX9_winsOf 12 = .ok (.iload_n 2, 1) := by decide +kernel
theorem dX9_winsOf_13 : decode cX9_winsOf 13 = .ok (.aload_n 0, 1) := by decide +kernel
theorem dX9_winsOf_14 : decode cX9_winsOf 14 = .ok (.getfield 66, 3) := by decide +kernel
theorem dX9_winsOf_17 : decode cX9_winsOf 17 = .ok (.iconst 5, 1) := by decide +kernel
theorem dX9_winsOf_18 : decode cX9_winsOf 18 = .ok (.iload_n 3, 1) := by decide +kernel
theorem dX9_winsOf_19 : decode cX9_winsOf 19 = .ok (.imul, 1) := by decide +kernel
theorem dX9_winsOf_20 : decode cX9_winsOf 20 = .ok (.iaload, 1) := by decide +kernel
theorem dX9_winsOf_21 : decode cX9_winsOf 21 = .ok (.iload_n 1, 1) := by decide +kernel
theorem dX9_winsOf_22 : decode cX9_winsOf 22 = .ok (.if_icmp .ne 7, 3) := by decide +kernel
theorem dX9_winsOf_25 : decode cX9_winsOf 25 = .ok (.iconst 1, 1) := by decide +kernel
theorem dX9_winsOf_26 : decode cX9_winsOf 26 = .ok (.goto 4, 3) := by decide +kernel
theorem dX9_winsOf_29 : decode cX9_winsOf 29 = .ok (.iconst 0, 1) := by decide +kernel
theorem dX9_winsOf_30 : decode cX9_winsOf 30 = .ok (.iadd, 1) := by decide +kernel
theorem dX9_winsOf_31 : decode cX9_winsOf 31 = .ok (.istore_n 2, 1) := by decide +kernel
theorem dX9_winsOf_32 : decode cX9_winsOf 32 = .ok (.iinc 3 1, 3) := by decide +kernel
theorem dX9_winsOf_35 : decode cX9_winsOf 35 = .ok (.goto (-31), 3) := by decide +kernel
theorem dX9_winsOf_38 : decode cX9_winsOf 38 = .ok (.iload_n 2, 1) := by decide +kernel
theorem dX9_winsOf_39 : decode cX9_winsOf 39 = .ok (.ireturn, 1) := by decide +kernel
theorem gX9_169 {p : Program} {l : Launch} {e : Env} {R : Room} {s : State} {m : MethodId} {args : Array Value} {below : List Frame} {meth : Method} {c : Code} {H : Heap} {locs : List Loc} {cells slots : Nat} {Q : State → Prop} {cc : ByteArray} {pc nL : Nat} {ls : Array Slot} {rest : List Value} {ret : Option FieldType} {G : xG} {β N : Nat} {x : MS} (C : Cx p s m args meth c RX9 cc nL ret (KK G)) (hw : MW β G N x H) (hd : decode cc pc = .ok (.getfield 169, 3)) (kk : W p l e R s m args below meth c H locs cells slots Q (F0 m (pc + 3) ls (.int (x.1 0 41) :: rest))) : W p l e R s m args below meth c H locs cells slots Q (F0 m pc ls (.ref β :: rest)) :=
  va_get C.1 C.2.1 C.2.2.2.2.1 iwX9 C.2.2.2.1 C.K.1 (xP1 (hw.2 0 (by decide))) 0 rfl rfl 41 (by decide) (C.2.2.2.2.1 (.fieldLink RX9 169 RX9 "raceMany" "I") (tg 957 (by decide +kernel) rfl)) (fun _ h9 => h9) rfl hd kk
theorem gX9_66 {p : Program} {l : Launch} {e : Env} {R : Room} {s : State} {m : MethodId} {args : Array Value} {below : List Frame} {meth : Method} {c : Code} {H : Heap} {locs : List Loc} {cells slots : Nat} {Q : State → Prop} {cc : ByteArray} {pc nL : Nat} {ls : Array Slot} {rest : List Value} {ret : Option FieldType} {G : xG} {β N : Nat} {x : MS} (C : Cx p s m args meth c RX9 cc nL ret (KK G)) (hw : MW β G N x H) (hd : decode cc pc = .ok (.getfield 66, 3)) (kk : W p l e R s m args below meth c H locs cells slots Q (F0 m (pc + 3) ls (.ref (β + 18) :: rest))) : W p l e R s m args below meth c H locs cells slots Q (F0 m pc ls (.ref β :: rest)) :=
  va_get C.1 C.2.1 C.2.2.2.2.1 iwX9 C.2.2.2.1 C.K.1 (xP1 (hw.2 0 (by decide))) 0 rfl rfl 39 (by decide) (C.2.2.2.2.1 (.fieldLink RX9 66 RX9 "order" "[I") (tg 955 (by decide +kernel) rfl)) (fun _ h9 => h9) rfl hd kk
theorem alM_18 {p : Program} {l : Launch} {e : Env} {R : Room} {s : State} {m : MethodId} {args : Array Value} {below : List Frame} {meth : Method} {c : Code} {H : Heap} {locs : List Loc} {cells slots : Nat} {Q : State → Prop} {cc : ByteArray} {pc nL : Nat} {ls : Array Slot} {rest : List Value} {ret : Option FieldType} {G : xG} {β N : Nat} {x : MS} {own : String} {i : Int32} (C : Cx p s m args meth c own cc nL ret (KK G)) (hw : MW β G N x H) (hin : ib i 120) (hd : decode cc pc = .ok (.iaload, 1)) (kk : W p l e R s m args below meth c H locs cells slots Q (F0 m (pc + 1) ls (.int (x.2.1 18 i.toNatClampNeg) :: rest))) : W p l e R s m args below meth c H locs cells slots Q (F0 m pc ls (.int i :: .ref (β + 18) :: rest)) :=
  va_iald C.1 C.2.1 C.K.1 (xP1 (hw.2 18 (by decide))) 0 0 rfl rfl hin hd kk
def BX9_winsOf_4 (x : MS) (q1 : Int32) (lp : Int32 → Int32 → Option (Int32)) (u2 : Int32) (u3 : Int32) : Option (Int32) := if (x.1 0 41) ≤ u3 then some u2 else if ib (5 * u3) 120 then if (x.2.1 18 (5 * u3).toNatClampNeg) = q1 then lt (u2 + 1) fun v4 => lt (u3 + 1) fun v5 => lp v4 v5 else lt (u2 + 0) fun v2 => lt (u3 + 1) fun v3 => lp v2 v3 else none
def LX9_winsOf_4 (x : MS) (q1 : Int32) : Nat → Int32 → Int32 → Option (Int32)
  | 0, _, _ => none
  | n + 1, u2, u3 => BX9_winsOf_4 x q1 (LX9_winsOf_4 x q1 n) u2 u3
def fX9_winsOf (x : MS) (a1 : Int32) : Option (Int32) := Option.bind (LX9_winsOf_4 x a1 NF 0 0) fun v6 => some v6
set_option maxHeartbeats 4000000 in
set_option maxRecDepth 100000 in
theorem lX9_winsOf_4 {p : Program} {l : Launch} {e : Env} {R : Room} {s : State} {m : MethodId} {args : Array Value} {below : List Frame} {meth : Method} {c : Code} {cells slots : Nat} {Q : State → Prop} {G : xG} {β N : Nat} (C : Cx p s m args meth c RX9 cX9_winsOf 4 (some .int) (KK G)) (hRf : 0 ≤ R.frames) (hRl : 0 ≤ R.locals) (hcs : cells ≤ R.cells ∧ slots ≤ R.slots) (x : MS) (q1 : Int32) : ∀ (n : Nat) (u2 : Int32) (u3 : Int32) (J : Int32) (H : Heap) (locs : List Loc) (ls : Array Slot), LX9_winsOf_4 x q1 n u2 u3 = some J → MW β G N x H → va_S (AM β) s.heap H locs → lv_has ls 4 [(0, .ref β), (1, .int q1), (2, .int u2), (3, .int u3)] → (∀ (w2 : Int32), J = w2 → ∀ (H : Heap) (locs : List Loc) (ls : Array Slot), MW β G N x H → va_S (AM β) s.heap H locs → lv_has ls 4 [(2, .int w2)] → W p l e R s m args below meth c H locs cells slots Q (F0 m 38 ls [])) → W p l e R s m args below meth c H locs cells slots Q (F0 m 4 ls []) := by
  have hx := C.1
  have hb := C.2.1
  have ho := C.2.2.2.1
  have hts := C.2.2.2.2.1
  intro n
  induction n with
  | zero =>
    intro u2 u3 J H locs ls hm
    exact absurd hm (by simp [LX9_winsOf_4])
  | succ n ih =>
    intro u2 u3 J H locs ls hm hw hS hl ke
    replace hm : BX9_winsOf_4 x q1 (LX9_winsOf_4 x q1 n) u2 u3 = some J := hm
    unfold BX9_winsOf_4 at hm
    refine lv_iload_n hx hb dX9_winsOf_4 rfl (lv_at hl 3 rfl) ?_
    refine lv_aload_n hx hb dX9_winsOf_5 rfl (lv_at hl 0 rfl) ?_
    refine gX9_169 C hw dX9_winsOf_6 ?_
    refine lv_icmp_ge (tgt := 38) hx hb dX9_winsOf_9 (by decide) (fun cc => ?_) (fun cc => ?_)
    · replace hm := ite_p cc hm
      exact ke _ (Option.some.inj hm).symm _ _ _ hw hS (lv_sub hl [2] rfl)
    · replace hm := ite_n cc hm
      refine lv_iload_n hx hb dX9_winsOf_12 rfl (lv_at hl 2 rfl) ?_
      refine lv_aload_n hx hb dX9_winsOf_13 rfl (lv_at hl 0 rfl) ?_
      refine gX9_66 C hw dX9_winsOf_14 ?_
      refine lv_iconst (v := 5) hx hb dX9_winsOf_17 (by decide) ?_
      refine lv_iload_n hx hb dX9_winsOf_18 rfl (lv_at hl 3 rfl) ?_
      refine lv_imul hx hb dX9_winsOf_19 ?_
      obtain ⟨h1, hm⟩ := chk_e hm
      refine alM_18 C hw h1 dX9_winsOf_20 ?_
      refine lv_iload_n hx hb dX9_winsOf_21 rfl (lv_at hl 1 rfl) ?_
      refine lv_icmp_ne (tgt := 29) hx hb dX9_winsOf_22 (by decide) (fun cc => ?_) (fun cc => ?_)
      · replace hm := ite_n cc hm
        refine lv_iconst (v := 0) hx hb dX9_winsOf_29 (by decide) ?_
        refine lv_iadd hx hb dX9_winsOf_30 ?_
        refine topI hm (fun v2 hm => ?_)
        refine lv_istore_n (lv' := [(2, .int v2), (0, .ref β), (1, .int q1), (3, .int u3)]) hx hb dX9_winsOf_31 rfl hl (by decide) rfl (fun ls hl => ?_)
        obtain ⟨v3, ev, hm⟩ := lt_e hm
        refine lv_iinc (v := v3) (lv' := [(3, .int v3), (2, .int v2), (0, .ref β), (1, .int q1)]) hx hb dX9_winsOf_32 hl (k := 3) rfl (by rw [ev]; rfl) (by decide) rfl (fun ls hl => ?_)
        clear ev
        refine lv_goto (tgt := 4) hx hb dX9_winsOf_35 (by decide) ?_
        exact ih _ _ _ _ _ _ hm hw hS (lv_sub hl [2, 3, 1, 0] rfl) ke
      · replace hm := ite_p cc hm
        refine lv_iconst (v := 1) hx hb dX9_winsOf_25 (by decide) ?_
        refine lv_goto (tgt := 30) hx hb dX9_winsOf_26 (by decide) ?_
        refine lv_iadd hx hb dX9_winsOf_30 ?_
        refine topI hm (fun v4 hm => ?_)
        refine lv_istore_n (lv' := [(2, .int v4), (0, .ref β), (1, .int q1), (3, .int u3)]) hx hb dX9_winsOf_31 rfl hl (by decide) rfl (fun ls hl => ?_)
        obtain ⟨v5, ev, hm⟩ := lt_e hm
        refine lv_iinc (v := v5) (lv' := [(3, .int v5), (2, .int v4), (0, .ref β), (1, .int q1)]) hx hb dX9_winsOf_32 hl (k := 3) rfl (by rw [ev]; rfl) (by decide) rfl (fun ls hl => ?_)
        clear ev
        refine lv_goto (tgt := 4) hx hb dX9_winsOf_35 (by decide) ?_
        exact ih _ _ _ _ _ _ hm hw hS (lv_sub hl [2, 3, 1, 0] rfl) ke
abbrev rmX9_winsOf : Room := { frames := 0, cells := 0, slots := 0, locals := 0 }
set_option maxHeartbeats 4000000 in
set_option maxRecDepth 100000 in
theorem kX9_winsOf {l : Launch} {G : xG} {β N : Nat} {x : MS} {a1 : Int32} {r : Int32} (hm : fX9_winsOf x a1 = some r) : Met l yX9_winsOf (.code yX9_winsOf cX9_winsOf 4 (some .int) :: GT) rmX9_winsOf (PcW [.ref β, .int a1] (MW β G N x) (KK G)) (QcW (AM β) (some (.int r)) (MW β G N x)) 0 0 (AM β) := by
  unfold fX9_winsOf at hm
  refine xpro (own := RX9) (by decide +kernel) rfl (Nat.le_of_ble_eq_true rfl) ?_
  intro p e s m args below meth c C hw ls hl
  have hx := C.1
  have hb := C.2.1
  have ho := C.2.2.2.1
  have hts := C.2.2.2.2.1
  have hS : va_S (AM β) s.heap s.heap [] := va_S.rf
  have hl : lv_has ls 4 [(0, .ref β), (1, .int a1)] := hl
  have hRf : 0 ≤ rmX9_winsOf.frames := Nat.le_refl _
  have hRl : 0 ≤ rmX9_winsOf.locals := Nat.le_refl _
  have hcs : 0 ≤ rmX9_winsOf.cells ∧ 0 ≤ rmX9_winsOf.slots := ⟨Nat.le_refl _, Nat.le_refl _⟩
  refine lv_iconst (v := 0) hx hb dX9_winsOf_0 (by decide) ?_
  refine lv_istore_n (lv' := [(2, .int 0), (0, .ref β), (1, .int a1)]) hx hb dX9_winsOf_1 rfl hl (by decide) rfl (fun ls hl => ?_)
  refine lv_iconst (v := 0) hx hb dX9_winsOf_2 (by decide) ?_
  refine lv_istore_n (lv' := [(3, .int 0), (2, .int 0), (0, .ref β), (1, .int a1)]) hx hb dX9_winsOf_3 rfl hl (by decide) rfl (fun ls hl => ?_)
  obtain ⟨v6, hj, hm⟩ := bind_e hm
  refine lX9_winsOf_4 C hRf hRl hcs x a1 NF _ _ _ _ _ _ hj hw hS (lv_sub hl [2, 3, 1, 0] rfl) (fun v6_ e0 H locs ls hw hS hl => ?_)
  cases e0
  refine lv_iload_n hx hb dX9_winsOf_38 rfl (lv_at hl 0 rfl) ?_
  obtain rfl := Option.some.inj hm
  exact xret_i C hw hS dX9_winsOf_39
theorem dX9_placeIn_0 : decode cX9_placeIn 0 = .ok (.iconst 0, 1) := by decide +kernel
theorem dX9_placeIn_1 : decode cX9_placeIn 1 = .ok (.istore_n 3, 1) := by decide +kernel
theorem dX9_placeIn_2 : decode cX9_placeIn 2 = .ok (.iload_n 3, 1) := by decide +kernel
theorem dX9_placeIn_3 : decode cX9_placeIn 3 = .ok (.aload_n 0, 1) := by decide +kernel
theorem dX9_placeIn_4 : decode cX9_placeIn 4 = .ok (.getfield 63, 3) := by decide +kernel
theorem dX9_placeIn_7 : decode cX9_placeIn 7 = .ok (.iload_n 1, 1) := by decide +kernel
theorem dX9_placeIn_8 : decode cX9_placeIn 8 = .ok (.iaload, 1) := by decide +kernel
theorem dX9_placeIn_9 : decode cX9_placeIn 9 = .ok (.if_icmp .ge 25, 3) := by decide +kernel
theorem dX9_placeIn_12 : decode cX9_placeIn 12 = .ok (.aload_n 0, 1) := by decide +kernel
theorem dX9_placeIn_13 : decode cX9_placeIn 13 = .ok (.getfield 66, 3) := by decide +kernel
theorem dX9_placeIn_16 : decode cX9_placeIn 16 = .ok (.iconst 5, 1) := by decide +kernel
theorem dX9_placeIn_17 : decode cX9_placeIn 17 = .ok (.iload_n 1, 1) := by decide +kernel
theorem dX9_placeIn_18 : decode cX9_placeIn 18 = .ok (.imul, 1) := by decide +kernel
theorem dX9_placeIn_19 : decode cX9_placeIn 19 = .ok (.iload_n 3, 1) := by decide +kernel
theorem dX9_placeIn_20 : decode cX9_placeIn 20 = .ok (.iadd, 1) := by decide +kernel
theorem dX9_placeIn_21 : decode cX9_placeIn 21 = .ok (.iaload, 1) := by decide +kernel
theorem dX9_placeIn_22 : decode cX9_placeIn 22 = .ok (.iload_n 2, 1) := by decide +kernel
theorem dX9_placeIn_23 : decode cX9_placeIn 23 = .ok (.if_icmp .ne 5, 3) := by decide +kernel
theorem dX9_placeIn_26 : decode cX9_placeIn 26 = .ok (.iload_n 3, 1) := by decide +kernel
theorem dX9_placeIn_27 : decode cX9_placeIn 27 = .ok (.ireturn, 1) := by decide +kernel
theorem dX9_placeIn_28 : decode cX9_placeIn 28 = .ok (.iinc 3 1, 3) := by decide +kernel
theorem dX9_placeIn_31 : decode cX9_placeIn 31 = .ok (.goto (-29), 3) := by decide +kernel
theorem dX9_placeIn_34 : decode cX9_placeIn 34 = .ok (.iconst (-1), 1) := by decide +kernel
theorem dX9_placeIn_35 : decode cX9_placeIn 35 = .ok (.ireturn, 1) := by decide +kernel
theorem gX9_63 {p : Program} {l : Launch} {e : Env} {R : Room} {s : State} {m : MethodId} {args : Array Value} {below : List Frame} {meth : Method} {c : Code} {H : Heap} {locs : List Loc} {cells slots : Nat} {Q : State → Prop} {cc : ByteArray} {pc nL : Nat} {ls : Array Slot} {rest : List Value} {ret : Option FieldType} {G : xG} {β N : Nat} {x : MS} (C : Cx p s m args meth c RX9 cc nL ret (KK G)) (hw : MW β G N x H) (hd : decode cc pc = .ok (.getfield 63, 3)) (kk : W p l e R s m args below meth c H locs cells slots Q (F0 m (pc + 3) ls (.ref (β + 17) :: rest))) : W p l e R s m args below meth c H locs cells slots Q (F0 m pc ls (.ref β :: rest)) :=
  va_get C.1 C.2.1 C.2.2.2.2.1 iwX9 C.2.2.2.1 C.K.1 (xP1 (hw.2 0 (by decide))) 0 rfl rfl 38 (by decide) (C.2.2.2.2.1 (.fieldLink RX9 63 RX9 "ran" "[I") (tg 954 (by decide +kernel) rfl)) (fun _ h9 => h9) rfl hd kk
theorem alM_17 {p : Program} {l : Launch} {e : Env} {R : Room} {s : State} {m : MethodId} {args : Array Value} {below : List Frame} {meth : Method} {c : Code} {H : Heap} {locs : List Loc} {cells slots : Nat} {Q : State → Prop} {cc : ByteArray} {pc nL : Nat} {ls : Array Slot} {rest : List Value} {ret : Option FieldType} {G : xG} {β N : Nat} {x : MS} {own : String} {i : Int32} (C : Cx p s m args meth c own cc nL ret (KK G)) (hw : MW β G N x H) (hin : ib i 24) (hd : decode cc pc = .ok (.iaload, 1)) (kk : W p l e R s m args below meth c H locs cells slots Q (F0 m (pc + 1) ls (.int (x.2.1 17 i.toNatClampNeg) :: rest))) : W p l e R s m args below meth c H locs cells slots Q (F0 m pc ls (.int i :: .ref (β + 17) :: rest)) :=
  va_iald C.1 C.2.1 C.K.1 (xP1 (hw.2 17 (by decide))) 0 0 rfl rfl hin hd kk
def BX9_placeIn_2 (x : MS) (q1 : Int32) (q2 : Int32) (lp : Int32 → Option ((Int32) ⊕ (Unit))) (u3 : Int32) : Option ((Int32) ⊕ (Unit)) := if ib q1 24 then if (x.2.1 17 q1.toNatClampNeg) ≤ u3 then some (.inr ()) else if ib ((5 * q1) + u3) 120 then if (x.2.1 18 ((5 * q1) + u3).toNatClampNeg) = q2 then some (.inl u3) else lt (u3 + 1) fun v3 => lp v3 else none else none
def LX9_placeIn_2 (x : MS) (q1 : Int32) (q2 : Int32) : Nat → Int32 → Option ((Int32) ⊕ (Unit))
  | 0, _ => none
  | n + 1, u3 => BX9_placeIn_2 x q1 q2 (LX9_placeIn_2 x q1 q2 n) u3
def fX9_placeIn (x : MS) (a1 : Int32) (a2 : Int32) : Option (Int32) := bs (LX9_placeIn_2 x a1 a2 NF 0) (fun a => some a) (fun _ => some (-1))
set_option maxHeartbeats 4000000 in
set_option maxRecDepth 100000 in
theorem lX9_placeIn_2 {p : Program} {l : Launch} {e : Env} {R : Room} {s : State} {m : MethodId} {args : Array Value} {below : List Frame} {meth : Method} {c : Code} {cells slots : Nat} {Q : State → Prop} {G : xG} {β N : Nat} (C : Cx p s m args meth c RX9 cX9_placeIn 4 (some .int) (KK G)) (hRf : 0 ≤ R.frames) (hRl : 0 ≤ R.locals) (hcs : cells ≤ R.cells ∧ slots ≤ R.slots) (x : MS) (q1 : Int32) (q2 : Int32) : ∀ (n : Nat) (u3 : Int32) (J : (Int32) ⊕ (Unit)) (H : Heap) (locs : List Loc) (ls : Array Slot), LX9_placeIn_2 x q1 q2 n u3 = some J → MW β G N x H → va_S (AM β) s.heap H locs → lv_has ls 4 [(0, .ref β), (1, .int q1), (2, .int q2), (3, .int u3)] → (∀ (w : Unit), J = .inr w → ∀ (H : Heap) (locs : List Loc) (ls : Array Slot), MW β G N x H → va_S (AM β) s.heap H locs → lv_has ls 4 [] → W p l e R s m args below meth c H locs cells slots Q (F0 m 34 ls [])) → (∀ (rv : Int32), J = .inl rv → ∀ (H : Heap) (locs : List Loc) (ls : Array Slot), MW β G N x H → va_S (AM β) s.heap H locs → W p l e R s m args below meth c H locs cells slots Q (F0 m 27 ls [.int rv])) → W p l e R s m args below meth c H locs cells slots Q (F0 m 2 ls []) := by
  have hx := C.1
  have hb := C.2.1
  have ho := C.2.2.2.1
  have hts := C.2.2.2.2.1
  intro n
  induction n with
  | zero =>
    intro u3 J H locs ls hm
    exact absurd hm (by simp [LX9_placeIn_2])
  | succ n ih =>
    intro u3 J H locs ls hm hw hS hl ke kr27
    replace hm : BX9_placeIn_2 x q1 q2 (LX9_placeIn_2 x q1 q2 n) u3 = some J := hm
    unfold BX9_placeIn_2 at hm
    refine lv_iload_n hx hb dX9_placeIn_2 rfl (lv_at hl 3 rfl) ?_
    refine lv_aload_n hx hb dX9_placeIn_3 rfl (lv_at hl 0 rfl) ?_
    refine gX9_63 C hw dX9_placeIn_4 ?_
    refine lv_iload_n hx hb dX9_placeIn_7 rfl (lv_at hl 1 rfl) ?_
    obtain ⟨h1, hm⟩ := chk_e hm
    refine alM_17 C hw h1 dX9_placeIn_8 ?_
    refine lv_icmp_ge (tgt := 34) hx hb dX9_placeIn_9 (by decide) (fun cc => ?_) (fun cc => ?_)
    · replace hm := ite_p cc hm
      exact ke _ (Option.some.inj hm).symm _ _ _ hw hS (lv_sub hl [] rfl)
    · replace hm := ite_n cc hm
      refine lv_aload_n hx hb dX9_placeIn_12 rfl (lv_at hl 0 rfl) ?_
      refine gX9_66 C hw dX9_placeIn_13 ?_
      refine lv_iconst (v := 5) hx hb dX9_placeIn_16 (by decide) ?_
      refine lv_iload_n hx hb dX9_placeIn_17 rfl (lv_at hl 1 rfl) ?_
      refine lv_imul hx hb dX9_placeIn_18 ?_
      refine lv_iload_n hx hb dX9_placeIn_19 rfl (lv_at hl 3 rfl) ?_
      refine lv_iadd hx hb dX9_placeIn_20 ?_
      obtain ⟨h2, hm⟩ := chk_e hm
      refine alM_18 C hw h2 dX9_placeIn_21 ?_
      refine lv_iload_n hx hb dX9_placeIn_22 rfl (lv_at hl 2 rfl) ?_
      refine lv_icmp_ne (tgt := 28) hx hb dX9_placeIn_23 (by decide) (fun cc => ?_) (fun cc => ?_)
      · replace hm := ite_n cc hm
        obtain ⟨v3, ev, hm⟩ := lt_e hm
        refine lv_iinc (v := v3) (lv' := [(3, .int v3), (0, .ref β), (1, .int q1), (2, .int q2)]) hx hb dX9_placeIn_28 hl (k := 3) rfl (by rw [ev]; rfl) (by decide) rfl (fun ls hl => ?_)
        clear ev
        refine lv_goto (tgt := 2) hx hb dX9_placeIn_31 (by decide) ?_
        exact ih _ _ _ _ _ hm hw hS (lv_sub hl [1, 2, 3, 0] rfl) ke kr27
      · replace hm := ite_p cc hm
        refine lv_iload_n hx hb dX9_placeIn_26 rfl (lv_at hl 3 rfl) ?_
        exact kr27 _ (Option.some.inj hm).symm _ _ _ hw hS
abbrev rmX9_placeIn : Room := { frames := 0, cells := 0, slots := 0, locals := 0 }
set_option maxHeartbeats 4000000 in
set_option maxRecDepth 100000 in
theorem kX9_placeIn {l : Launch} {G : xG} {β N : Nat} {x : MS} {a1 : Int32} {a2 : Int32} {r : Int32} (hm : fX9_placeIn x a1 a2 = some r) : Met l yX9_placeIn (.code yX9_placeIn cX9_placeIn 4 (some .int) :: GT) rmX9_placeIn (PcW [.ref β, .int a1, .int a2] (MW β G N x) (KK G)) (QcW (AM β) (some (.int r)) (MW β G N x)) 0 0 (AM β) := by
  unfold fX9_placeIn at hm
  refine xpro (own := RX9) (by decide +kernel) rfl (Nat.le_of_ble_eq_true rfl) ?_
  intro p e s m args below meth c C hw ls hl
  have hx := C.1
  have hb := C.2.1
  have ho := C.2.2.2.1
  have hts := C.2.2.2.2.1
  have hS : va_S (AM β) s.heap s.heap [] := va_S.rf
  have hl : lv_has ls 4 [(0, .ref β), (1, .int a1), (2, .int a2)] := hl
  have hRf : 0 ≤ rmX9_placeIn.frames := Nat.le_refl _
  have hRl : 0 ≤ rmX9_placeIn.locals := Nat.le_refl _
  have hcs : 0 ≤ rmX9_placeIn.cells ∧ 0 ≤ rmX9_placeIn.slots := ⟨Nat.le_refl _, Nat.le_refl _⟩
  refine lv_iconst (v := 0) hx hb dX9_placeIn_0 (by decide) ?_
  refine lv_istore_n (lv' := [(3, .int 0), (0, .ref β), (1, .int a1), (2, .int a2)]) hx hb dX9_placeIn_1 rfl hl (by decide) rfl (fun ls hl => ?_)
  rcases bs_e hm with ⟨a, hj, hm⟩ | ⟨b, hj, hm⟩
  · refine lX9_placeIn_2 C hRf hRl hcs x a1 a2 NF _ _ _ _ _ hj hw hS (lv_sub hl [1, 2, 3, 0] rfl) (fun _ e0 => by cases e0) (fun rv e0 H locs ls hw hS => ?_)
    · cases e0
      obtain rfl := Option.some.inj hm
      exact xret_i C hw hS dX9_placeIn_27
  · refine lX9_placeIn_2 C hRf hRl hcs x a1 a2 NF _ _ _ _ _ hj hw hS (lv_sub hl [1, 2, 3, 0] rfl) (fun _ e0 H locs ls hw hS hl => ?_) (fun _ e0 => by cases e0)
    refine lv_iconst (v := (-1)) hx hb dX9_placeIn_34 (by decide) ?_
    obtain rfl := Option.some.inj hm
    exact xret_i C hw hS dX9_placeIn_35
theorem dX9_bitsOf_0 : decode cX9_bitsOf 0 = .ok (.iconst 0, 1) := by decide +kernel
theorem dX9_bitsOf_1 : decode cX9_bitsOf 1 = .ok (.istore_n 1, 1) := by decide +kernel
theorem dX9_bitsOf_2 : decode cX9_bitsOf 2 = .ok (.iload_n 0, 1) := by decide +kernel
theorem dX9_bitsOf_3 : decode cX9_bitsOf 3 = .ok (.istore_n 2, 1) := by decide +kernel
theorem dX9_bitsOf_4 : decode cX9_bitsOf 4 = .ok (.iload_n 2, 1) := by decide +kernel
theorem dX9_bitsOf_5 : decode cX9_bitsOf 5 = .ok (.ifCond .eq 15, 3) := by decide +kernel
theorem dX9_bitsOf_8 : decode cX9_bitsOf 8 = .ok (.iinc 1 1, 3) := by decide +kernel
theorem dX9_bitsOf_11 : decode cX9_bitsOf 11 = .ok (.iload_n 2, 1) := by decide +kernel
theorem dX9_bitsOf_12 : decode cX9_bitsOf 12 = .ok (.iload_n 2, 1) := by decide +kernel
theorem dX9_bitsOf_13 : decode cX9_bitsOf 13 = .ok (.iconst 1, 1) := by decide +kernel
theorem dX9_bitsOf_14 : decode cX9_bitsOf 14 = .ok (.isub, 1) := by decide +kernel
theorem dX9_bitsOf_15 : decode cX9_bitsOf 15 = .ok (.iand, 1) := by decide +kernel
theorem dX9_bitsOf_16 : decode cX9_bitsOf 16 = .ok (.istore_n 2, 1) := by decide +kernel
theorem dX9_bitsOf_17 : decode cX9_bitsOf 17 = .ok (.goto (-13), 3) := by decide +kernel
theorem dX9_bitsOf_20 : decode cX9_bitsOf 20 = .ok (.iload_n 1, 1) := by decide +kernel
theorem dX9_bitsOf_21 : decode cX9_bitsOf 21 = .ok (.ireturn, 1) := by decide +kernel
def BX9_bitsOf_4 (lp : Int32 → Int32 → Option (Int32)) (u1 : Int32) (u2 : Int32) : Option (Int32) := if u2 = 0 then some u1 else lt (u1 + 1) fun v1 => lt (u2 &&& (u2 - 1)) fun v2 => lp v1 v2
def LX9_bitsOf_4 : Nat → Int32 → Int32 → Option (Int32)
  | 0, _, _ => none
  | n + 1, u1, u2 => BX9_bitsOf_4 (LX9_bitsOf_4 n) u1 u2
def fX9_bitsOf (a1 : Int32) : Option (Int32) := Option.bind (LX9_bitsOf_4 NF 0 a1) fun v3 => some v3
set_option maxHeartbeats 4000000 in
set_option maxRecDepth 100000 in
theorem lX9_bitsOf_4 {p : Program} {l : Launch} {e : Env} {R : Room} {s : State} {m : MethodId} {args : Array Value} {below : List Frame} {meth : Method} {c : Code} {cells slots : Nat} {Q : State → Prop} {G : xG} {β N : Nat} (C : Cx p s m args meth c RX9 cX9_bitsOf 3 (some .int) (KK G)) (hRf : 0 ≤ R.frames) (hRl : 0 ≤ R.locals) (hcs : cells ≤ R.cells ∧ slots ≤ R.slots) {x : MS} : ∀ (n : Nat) (u1 : Int32) (u2 : Int32) (J : Int32) (H : Heap) (locs : List Loc) (ls : Array Slot), LX9_bitsOf_4 n u1 u2 = some J → MW β G N x H → va_S (AM β) s.heap H locs → lv_has ls 3 [(1, .int u1), (2, .int u2)] → (∀ (w1 : Int32), J = w1 → ∀ (H : Heap) (locs : List Loc) (ls : Array Slot), MW β G N x H → va_S (AM β) s.heap H locs → lv_has ls 3 [(1, .int w1)] → W p l e R s m args below meth c H locs cells slots Q (F0 m 20 ls [])) → W p l e R s m args below meth c H locs cells slots Q (F0 m 4 ls []) := by
  have hx := C.1
  have hb := C.2.1
  have ho := C.2.2.2.1
  have hts := C.2.2.2.2.1
  intro n
  induction n with
  | zero =>
    intro u1 u2 J H locs ls hm
    exact absurd hm (by simp [LX9_bitsOf_4])
  | succ n ih =>
    intro u1 u2 J H locs ls hm hw hS hl ke
    replace hm : BX9_bitsOf_4 (LX9_bitsOf_4 n) u1 u2 = some J := hm
    unfold BX9_bitsOf_4 at hm
    refine lv_iload_n hx hb dX9_bitsOf_4 rfl (lv_at hl 1 rfl) ?_
    refine lv_if_eq (tgt := 20) hx hb dX9_bitsOf_5 (by decide) (fun cc => ?_) (fun cc => ?_)
    · replace hm := ite_p cc hm
      exact ke _ (Option.some.inj hm).symm _ _ _ hw hS (lv_sub hl [0] rfl)
    · replace hm := ite_n cc hm
      obtain ⟨v1, ev, hm⟩ := lt_e hm
      refine lv_iinc (v := v1) (lv' := [(1, .int v1), (2, .int u2)]) hx hb dX9_bitsOf_8 hl (k := 0) rfl (by rw [ev]; rfl) (by decide) rfl (fun ls hl => ?_)
      clear ev
      refine lv_iload_n hx hb dX9_bitsOf_11 rfl (lv_at hl 1 rfl) ?_
      refine lv_iload_n hx hb dX9_bitsOf_12 rfl (lv_at hl 1 rfl) ?_
      refine lv_iconst (v := 1) hx hb dX9_bitsOf_13 (by decide) ?_
      refine lv_isub hx hb dX9_bitsOf_14 ?_
      refine lv_iand hx hb dX9_bitsOf_15 ?_
      refine topI hm (fun v2 hm => ?_)
      refine lv_istore_n (lv' := [(2, .int v2), (1, .int v1)]) hx hb dX9_bitsOf_16 rfl hl (by decide) rfl (fun ls hl => ?_)
      refine lv_goto (tgt := 4) hx hb dX9_bitsOf_17 (by decide) ?_
      exact ih _ _ _ _ _ _ hm hw hS (lv_sub hl [1, 0] rfl) ke
abbrev rmX9_bitsOf : Room := { frames := 0, cells := 0, slots := 0, locals := 0 }
set_option maxHeartbeats 4000000 in
set_option maxRecDepth 100000 in
theorem kX9_bitsOf {l : Launch} {G : xG} {β N : Nat} {x : MS} {a1 : Int32} {r : Int32} (hm : fX9_bitsOf a1 = some r) : Met l yX9_bitsOf (.code yX9_bitsOf cX9_bitsOf 3 (some .int) :: GT) rmX9_bitsOf (PcW [.int a1] (MW β G N x) (KK G)) (QcW (AM β) (some (.int r)) (MW β G N x)) 0 0 (AM β) := by
  unfold fX9_bitsOf at hm
  refine xpro (own := RX9) (by decide +kernel) rfl (Nat.le_of_ble_eq_true rfl) ?_
  intro p e s m args below meth c C hw ls hl
  have hx := C.1
  have hb := C.2.1
  have ho := C.2.2.2.1
  have hts := C.2.2.2.2.1
  have hS : va_S (AM β) s.heap s.heap [] := va_S.rf
  have hl : lv_has ls 3 [(0, .int a1)] := hl
  have hRf : 0 ≤ rmX9_bitsOf.frames := Nat.le_refl _
  have hRl : 0 ≤ rmX9_bitsOf.locals := Nat.le_refl _
  have hcs : 0 ≤ rmX9_bitsOf.cells ∧ 0 ≤ rmX9_bitsOf.slots := ⟨Nat.le_refl _, Nat.le_refl _⟩
  refine lv_iconst (v := 0) hx hb dX9_bitsOf_0 (by decide) ?_
  refine lv_istore_n (lv' := [(1, .int 0), (0, .int a1)]) hx hb dX9_bitsOf_1 rfl hl (by decide) rfl (fun ls hl => ?_)
  refine lv_iload_n hx hb dX9_bitsOf_2 rfl (lv_at hl 1 rfl) ?_
  refine lv_istore_n (lv' := [(2, .int a1), (1, .int 0), (0, .int a1)]) hx hb dX9_bitsOf_3 rfl hl (by decide) rfl (fun ls hl => ?_)
  obtain ⟨v3, hj, hm⟩ := bind_e hm
  refine lX9_bitsOf_4 C hRf hRl hcs NF _ _ _ _ _ _ hj hw hS (lv_sub hl [1, 0] rfl) (fun v3_ e0 H locs ls hw hS hl => ?_)
  cases e0
  refine lv_iload_n hx hb dX9_bitsOf_20 rfl (lv_at hl 0 rfl) ?_
  obtain rfl := Option.some.inj hm
  exact xret_i C hw hS dX9_bitsOf_21
theorem dX9_isField_0 : decode cX9_isField 0 = .ok (.iload_n 1, 1) := by decide +kernel
theorem dX9_isField_1 : decode cX9_isField 1 = .ok (.i2l, 1) := by decide +kernel
theorem dX9_isField_2 : decode cX9_isField 2 = .ok (.lconst 1, 1) := by decide +kernel
theorem dX9_isField_3 : decode cX9_isField 3 = .ok (.iconst 1, 1) := by decide +kernel
theorem dX9_isField_4 : decode cX9_isField 4 = .ok (.aload_n 0, 1) := by decide +kernel
theorem dX9_isField_5 : decode cX9_isField 5 = .ok (.getfield 129, 3) := by decide +kernel
theorem dX9_isField_8 : decode cX9_isField 8 = .ok (.ishl, 1) := by decide +kernel
theorem dX9_isField_9 : decode cX9_isField 9 = .ok (.iconst 1, 1) := by decide +kernel
theorem dX9_isField_10 : decode cX9_isField 10 = .ok (.isub, 1) := by decide +kernel
theorem dX9_isField_11 : decode cX9_isField 11 = .ok (.i2l, 1) := by decide +kernel
theorem dX9_isField_12 : decode cX9_isField 12 = .ok (.invokestatic 132, 3) := by decide +kernel
theorem dX9_isField_15 : decode cX9_isField 15 = .ok (.ifCond .eq 15, 3) := by decide +kernel
theorem dX9_isField_18 : decode cX9_isField 18 = .ok (.iload_n 1, 1) := by decide +kernel
theorem dX9_isField_19 : decode cX9_isField 19 = .ok (.invokestatic 191, 3) := by decide +kernel
theorem dX9_isField_22 : decode cX9_isField 22 = .ok (.iconst 5, 1) := by decide +kernel
theorem dX9_isField_23 : decode cX9_isField 23 = .ok (.if_icmp .gt 7, 3) := by decide +kernel
theorem dX9_isField_26 : decode cX9_isField 26 = .ok (.iconst 1, 1) := by decide +kernel
theorem dX9_isField_27 : decode cX9_isField 27 = .ok (.goto 4, 3) := by decide +kernel
theorem dX9_isField_30 : decode cX9_isField 30 = .ok (.iconst 0, 1) := by decide +kernel
theorem dX9_isField_31 : decode cX9_isField 31 = .ok (.ireturn, 1) := by decide +kernel
theorem sX9_191 {p : Program} {l : Launch} {e : Env} {R : Room} {s : State} {m : MethodId} {args : Array Value} {below : List Frame} {meth : Method} {c : Code} {H : Heap} {locs : List Loc} {cells slots : Nat} {Q : State → Prop} {cc : ByteArray} {pc nL : Nat} {ls : Array Slot} {rest : List Value} {ret : Option FieldType} {G : xG} {β N : Nat} {x : MS} {a1 : Int32} {r : Int32} (C : Cx p s m args meth c RX9 cc nL ret (KK G)) (h : fX9_bitsOf a1 = some r) (hw : MW β G N x H) (hS : va_S (AM β) s.heap H locs) (hsz : ls.size = nL) (hW : (rest.map fun v => v.category).sum ≤ 8) (hR : 1 ≤ R.frames) (hR2 : 22 ≤ R.locals) (hcs : cells ≤ R.cells ∧ slots ≤ R.slots) (hd : decode cc pc = .ok (.invokestatic 191, 3)) (kk : ∀ (H1 : Heap) (locs1 : List Loc), MW β G N x H1 → va_S (AM β) s.heap H1 locs1 → W p l e R s m args below meth c H1 locs1 cells slots Q (F0 m (pc + 3) ls (.int r :: rest))) : W p l e R s m args below meth c H locs cells slots Q (F0 m pc ls (.int a1 :: rest)) :=
  xcallS C (As := [.int a1]) (rest := rest) (nA := 1) (kX9_bitsOf h) (tg 1240 (by decide +kernel) rfl) (tg 1241 (by decide +kernel) rfl) (tg 14 (by decide +kernel) rfl) (tg 1242 (by decide +kernel) rfl) ⟨by decide +kernel, by decide +kernel, by decide +kernel⟩ rfl rfl ⟨hR, hR2⟩ hw hS (fun _ q => q) rfl rfl hsz hW hd hcs (fun H1 locs1 hw hz hk hS => kk H1 locs1 hw hS)
def fX9_isField (x : MS) (a1 : Int32) : Option (Bool) := Option.bind (fX9_in (a1.toInt64) 1 ((((1 : Int32) <<< ((x.1 0 13) &&& 31)) - 1).toInt64)) fun v1 => if v1 = true then Option.bind (fX9_bitsOf a1) fun v3 => if 5 < v3 then some false else some true else some false
abbrev rmX9_isField : Room := { frames := 1, cells := 0, slots := 0, locals := 25 }
set_option maxHeartbeats 4000000 in
set_option maxRecDepth 100000 in
theorem kX9_isField {l : Launch} {G : xG} {β N : Nat} {x : MS} {a1 : Int32} {r : Bool} (hm : fX9_isField x a1 = some r) : Met l yX9_isField (.code yX9_isField cX9_isField 2 (some .boolean) :: GT) rmX9_isField (PcW [.ref β, .int a1] (MW β G N x) (KK G)) (QcW (AM β) (some (.int (bI r))) (MW β G N x)) 0 0 (AM β) := by
  unfold fX9_isField at hm
  refine xpro (own := RX9) (by decide +kernel) rfl (Nat.le_of_ble_eq_true rfl) ?_
  intro p e s m args below meth c C hw ls hl
  have hx := C.1
  have hb := C.2.1
  have ho := C.2.2.2.1
  have hts := C.2.2.2.2.1
  have hS : va_S (AM β) s.heap s.heap [] := va_S.rf
  have hl : lv_has ls 2 [(0, .ref β), (1, .int a1)] := hl
  have hRf : 1 ≤ rmX9_isField.frames := Nat.le_refl _
  have hRl : 25 ≤ rmX9_isField.locals := Nat.le_refl _
  have hcs : 0 ≤ rmX9_isField.cells ∧ 0 ≤ rmX9_isField.slots := ⟨Nat.le_refl _, Nat.le_refl _⟩
  refine lv_iload_n hx hb dX9_isField_0 rfl (lv_at hl 1 rfl) ?_
  refine lv_i2l hx hb dX9_isField_1 rfl ?_
  refine lv_lconst (v := 1) hx hb dX9_isField_2 (by decide) ?_
  refine lv_iconst (v := 1) hx hb dX9_isField_3 (by decide) ?_
  refine lv_aload_n hx hb dX9_isField_4 rfl (lv_at hl 0 rfl) ?_
  refine gX9_129 C hw dX9_isField_5 ?_
  refine lv_ishl hx hb dX9_isField_8 ?_
  refine lv_iconst (v := 1) hx hb dX9_isField_9 (by decide) ?_
  refine lv_isub hx hb dX9_isField_10 ?_
  refine lv_i2l hx hb dX9_isField_11 rfl ?_
  obtain ⟨v1, h2, hm⟩ := bind_e hm
  refine sX9_132 C h2 hw hS hl.1 (Nat.le_of_ble_eq_true rfl) (Nat.le_trans (Nat.le_of_ble_eq_true rfl) hRf) (Nat.le_trans (Nat.le_of_ble_eq_true rfl) hRl) hcs dX9_isField_12 (fun H locs hw hS => ?_)
  refine x_ifeqB hx hb dX9_isField_15 (tgt := 30) (by decide) (fun cc => ?_) (fun cc => ?_)
  · replace hm := ite_n cc hm
    refine lv_iconst (v := 0) hx hb dX9_isField_30 (by decide) ?_
    obtain rfl := Option.some.inj hm
    exact xret_z (v := bI false) C (bI_nar _) hw hS dX9_isField_31
  · replace hm := ite_p cc hm
    refine lv_iload_n hx hb dX9_isField_18 rfl (lv_at hl 1 rfl) ?_
    obtain ⟨v3, h4, hm⟩ := bind_e hm
    refine sX9_191 C h4 hw hS hl.1 (Nat.le_of_ble_eq_true rfl) (Nat.le_trans (Nat.le_of_ble_eq_true rfl) hRf) (Nat.le_trans (Nat.le_of_ble_eq_true rfl) hRl) hcs dX9_isField_19 (fun H locs hw hS => ?_)
    refine lv_iconst (v := 5) hx hb dX9_isField_22 (by decide) ?_
    refine lv_icmp_gt (tgt := 30) hx hb dX9_isField_23 (by decide) (fun cc => ?_) (fun cc => ?_)
    · replace hm := ite_p cc hm
      refine lv_iconst (v := 0) hx hb dX9_isField_30 (by decide) ?_
      obtain rfl := Option.some.inj hm
      exact xret_z (v := bI false) C (bI_nar _) hw hS dX9_isField_31
    · replace hm := ite_n cc hm
      refine lv_iconst (v := 1) hx hb dX9_isField_26 (by decide) ?_
      refine lv_goto (tgt := 31) hx hb dX9_isField_27 (by decide) ?_
      obtain rfl := Option.some.inj hm
      exact xret_z (v := bI true) C (bI_nar _) hw hS dX9_isField_31
theorem dX9_isOf_0 : decode cX9_isOf 0 = .ok (.aload_n 0, 1) := by decide +kernel
theorem dX9_isOf_1 : decode cX9_isOf 1 = .ok (.iload_n 2, 1) := by decide +kernel
theorem dX9_isOf_2 : decode cX9_isOf 2 = .ok (.invokevirtual 146, 3) := by decide +kernel
theorem dX9_isOf_5 : decode cX9_isOf 5 = .ok (.ifCond .eq 16, 3) := by decide +kernel
theorem dX9_isOf_8 : decode cX9_isOf 8 = .ok (.iload_n 1, 1) := by decide +kernel
theorem dX9_isOf_9 : decode cX9_isOf 9 = .ok (.iload_n 2, 1) := by decide +kernel
theorem dX9_isOf_10 : decode cX9_isOf 10 = .ok (.ishr, 1) := by decide +kernel
theorem dX9_isOf_11 : decode cX9_isOf 11 = .ok (.iconst 1, 1) := by decide +kernel
theorem dX9_isOf_12 : decode cX9_isOf 12 = .ok (.iand, 1) := by decide +kernel
theorem dX9_isOf_13 : decode cX9_isOf 13 = .ok (.iconst 1, 1) := by decide +kernel
theorem dX9_isOf_14 : decode cX9_isOf 14 = .ok (.if_icmp .ne 7, 3) := by decide +kernel
theorem dX9_isOf_17 : decode cX9_isOf 17 = .ok (.iconst 1, 1) := by decide +kernel
theorem dX9_isOf_18 : decode cX9_isOf 18 = .ok (.goto 4, 3) := by decide +kernel
theorem dX9_isOf_21 : decode cX9_isOf 21 = .ok (.iconst 0, 1) := by decide +kernel
theorem dX9_isOf_22 : decode cX9_isOf 22 = .ok (.ireturn, 1) := by decide +kernel
def fX9_isOf (x : MS) (a1 : Int32) (a2 : Int32) : Option (Bool) := Option.bind (fX9_isHorse x a2) fun v1 => if v1 = true then if ((a1 >>> (a2 &&& 31)) &&& 1) = 1 then some true else some false else some false
abbrev rmX9_isOf : Room := { frames := 2, cells := 0, slots := 0, locals := 46 }
set_option maxHeartbeats 4000000 in
set_option maxRecDepth 100000 in
theorem kX9_isOf {l : Launch} {G : xG} {β N : Nat} {x : MS} {a1 : Int32} {a2 : Int32} {r : Bool} (hm : fX9_isOf x a1 a2 = some r) : Met l yX9_isOf (.code yX9_isOf cX9_isOf 3 (some .boolean) :: GT) rmX9_isOf (PcW [.ref β, .int a1, .int a2] (MW β G N x) (KK G)) (QcW (AM β) (some (.int (bI r))) (MW β G N x)) 0 0 (AM β) := by
  unfold fX9_isOf at hm
  refine xpro (own := RX9) (by decide +kernel) rfl (Nat.le_of_ble_eq_true rfl) ?_
  intro p e s m args below meth c C hw ls hl
  have hx := C.1
  have hb := C.2.1
  have ho := C.2.2.2.1
  have hts := C.2.2.2.2.1
  have hS : va_S (AM β) s.heap s.heap [] := va_S.rf
  have hl : lv_has ls 3 [(0, .ref β), (1, .int a1), (2, .int a2)] := hl
  have hRf : 2 ≤ rmX9_isOf.frames := Nat.le_refl _
  have hRl : 46 ≤ rmX9_isOf.locals := Nat.le_refl _
  have hcs : 0 ≤ rmX9_isOf.cells ∧ 0 ≤ rmX9_isOf.slots := ⟨Nat.le_refl _, Nat.le_refl _⟩
  refine lv_aload_n hx hb dX9_isOf_0 rfl (lv_at hl 0 rfl) ?_
  refine lv_iload_n hx hb dX9_isOf_1 rfl (lv_at hl 2 rfl) ?_
  obtain ⟨v1, h2, hm⟩ := bind_e hm
  refine sX9_146 C h2 hw hS hl.1 (Nat.le_of_ble_eq_true rfl) (Nat.le_trans (Nat.le_of_ble_eq_true rfl) hRf) (Nat.le_trans (Nat.le_of_ble_eq_true rfl) hRl) hcs dX9_isOf_2 (fun H locs hw hS => ?_)
  refine x_ifeqB hx hb dX9_isOf_5 (tgt := 21) (by decide) (fun cc => ?_) (fun cc => ?_)
  · replace hm := ite_n cc hm
    refine lv_iconst (v := 0) hx hb dX9_isOf_21 (by decide) ?_
    obtain rfl := Option.some.inj hm
    exact xret_z (v := bI false) C (bI_nar _) hw hS dX9_isOf_22
  · replace hm := ite_p cc hm
    refine lv_iload_n hx hb dX9_isOf_8 rfl (lv_at hl 1 rfl) ?_
    refine lv_iload_n hx hb dX9_isOf_9 rfl (lv_at hl 2 rfl) ?_
    refine lv_ishr hx hb dX9_isOf_10 ?_
    refine lv_iconst (v := 1) hx hb dX9_isOf_11 (by decide) ?_
    refine lv_iand hx hb dX9_isOf_12 ?_
    refine lv_iconst (v := 1) hx hb dX9_isOf_13 (by decide) ?_
    refine lv_icmp_ne (tgt := 21) hx hb dX9_isOf_14 (by decide) (fun cc => ?_) (fun cc => ?_)
    · replace hm := ite_n cc hm
      refine lv_iconst (v := 0) hx hb dX9_isOf_21 (by decide) ?_
      obtain rfl := Option.some.inj hm
      exact xret_z (v := bI false) C (bI_nar _) hw hS dX9_isOf_22
    · replace hm := ite_p cc hm
      refine lv_iconst (v := 1) hx hb dX9_isOf_17 (by decide) ?_
      refine lv_goto (tgt := 22) hx hb dX9_isOf_18 (by decide) ?_
      obtain rfl := Option.some.inj hm
      exact xret_z (v := bI true) C (bI_nar _) hw hS dX9_isOf_22
theorem dX9_isWhen_0 : decode cX9_isWhen 0 = .ok (.iload_n 0, 1) := by decide +kernel
theorem dX9_isWhen_1 : decode cX9_isWhen 1 = .ok (.i2l, 1) := by decide +kernel
theorem dX9_isWhen_2 : decode cX9_isWhen 2 = .ok (.lconst 0, 1) := by decide +kernel
theorem dX9_isWhen_3 : decode cX9_isWhen 3 = .ok (.ldc2_w 194, 3) := by decide +kernel
theorem dX9_isWhen_6 : decode cX9_isWhen 6 = .ok (.invokestatic 132, 3) := by decide +kernel
theorem dX9_isWhen_9 : decode cX9_isWhen 9 = .ok (.ireturn, 1) := by decide +kernel
def fX9_isWhen (a1 : Int32) : Option (Bool) := Option.bind (fX9_in (a1.toInt64) 0 399) fun v1 => some v1
abbrev rmX9_isWhen : Room := { frames := 1, cells := 0, slots := 0, locals := 25 }
set_option maxHeartbeats 4000000 in
set_option maxRecDepth 100000 in
theorem kX9_isWhen {l : Launch} {G : xG} {β N : Nat} {x : MS} {a1 : Int32} {r : Bool} (hm : fX9_isWhen a1 = some r) : Met l yX9_isWhen (.code yX9_isWhen cX9_isWhen 1 (some .boolean) :: GT) rmX9_isWhen (PcW [.int a1] (MW β G N x) (KK G)) (QcW (AM β) (some (.int (bI r))) (MW β G N x)) 0 0 (AM β) := by
  unfold fX9_isWhen at hm
  refine xpro (own := RX9) (by decide +kernel) rfl (Nat.le_of_ble_eq_true rfl) ?_
  intro p e s m args below meth c C hw ls hl
  have hx := C.1
  have hb := C.2.1
  have ho := C.2.2.2.1
  have hts := C.2.2.2.2.1
  have hS : va_S (AM β) s.heap s.heap [] := va_S.rf
  have hl : lv_has ls 1 [(0, .int a1)] := hl
  have hRf : 1 ≤ rmX9_isWhen.frames := Nat.le_refl _
  have hRl : 25 ≤ rmX9_isWhen.locals := Nat.le_refl _
  have hcs : 0 ≤ rmX9_isWhen.cells ∧ 0 ≤ rmX9_isWhen.slots := ⟨Nat.le_refl _, Nat.le_refl _⟩
  refine lv_iload_n hx hb dX9_isWhen_0 rfl (lv_at hl 0 rfl) ?_
  refine lv_i2l hx hb dX9_isWhen_1 rfl ?_
  refine lv_lconst (v := 0) hx hb dX9_isWhen_2 (by decide) ?_
  refine lv_ldc2 (v := 399) hx hb ho (hts (.constantLong RX9 194 399) (tg 1246 (by decide +kernel) rfl)) dX9_isWhen_3 ?_
  obtain ⟨v1, h2, hm⟩ := bind_e hm
  refine sX9_132 C h2 hw hS hl.1 (Nat.le_of_ble_eq_true rfl) (Nat.le_trans (Nat.le_of_ble_eq_true rfl) hRf) (Nat.le_trans (Nat.le_of_ble_eq_true rfl) hRl) hcs dX9_isWhen_6 (fun H locs hw hS => ?_)
  obtain rfl := Option.some.inj hm
  exact xret_z C (bI_nar _) hw hS dX9_isWhen_9
theorem dX9_isPart_0 : decode cX9_isPart 0 = .ok (.iload_n 0, 1) := by decide +kernel
theorem dX9_isPart_1 : decode cX9_isPart 1 = .ok (.i2l, 1) := by decide +kernel
theorem dX9_isPart_2 : decode cX9_isPart 2 = .ok (.lconst 0, 1) := by decide +kernel
theorem dX9_isPart_3 : decode cX9_isPart 3 = .ok (.lconst 1, 1) := by decide +kernel
theorem dX9_isPart_4 : decode cX9_isPart 4 = .ok (.invokestatic 132, 3) := by decide +kernel
theorem dX9_isPart_7 : decode cX9_isPart 7 = .ok (.ireturn, 1) := by decide +kernel
def fX9_isPart (a1 : Int32) : Option (Bool) := Option.bind (fX9_in (a1.toInt64) 0 1) fun v1 => some v1
abbrev rmX9_isPart : Room := { frames := 1, cells := 0, slots := 0, locals := 25 }
set_option maxHeartbeats 4000000 in
set_option maxRecDepth 100000 in
theorem kX9_isPart {l : Launch} {G : xG} {β N : Nat} {x : MS} {a1 : Int32} {r : Bool} (hm : fX9_isPart a1 = some r) : Met l yX9_isPart (.code yX9_isPart cX9_isPart 1 (some .boolean) :: GT) rmX9_isPart (PcW [.int a1] (MW β G N x) (KK G)) (QcW (AM β) (some (.int (bI r))) (MW β G N x)) 0 0 (AM β) := by
  unfold fX9_isPart at hm
  refine xpro (own := RX9) (by decide +kernel) rfl (Nat.le_of_ble_eq_true rfl) ?_
  intro p e s m args below meth c C hw ls hl
  have hx := C.1
  have hb := C.2.1
  have ho := C.2.2.2.1
  have hts := C.2.2.2.2.1
  have hS : va_S (AM β) s.heap s.heap [] := va_S.rf
  have hl : lv_has ls 1 [(0, .int a1)] := hl
  have hRf : 1 ≤ rmX9_isPart.frames := Nat.le_refl _
  have hRl : 25 ≤ rmX9_isPart.locals := Nat.le_refl _
  have hcs : 0 ≤ rmX9_isPart.cells ∧ 0 ≤ rmX9_isPart.slots := ⟨Nat.le_refl _, Nat.le_refl _⟩
  refine lv_iload_n hx hb dX9_isPart_0 rfl (lv_at hl 0 rfl) ?_
  refine lv_i2l hx hb dX9_isPart_1 rfl ?_
  refine lv_lconst (v := 0) hx hb dX9_isPart_2 (by decide) ?_
  refine lv_lconst (v := 1) hx hb dX9_isPart_3 (by decide) ?_
  obtain ⟨v1, h2, hm⟩ := bind_e hm
  refine sX9_132 C h2 hw hS hl.1 (Nat.le_of_ble_eq_true rfl) (Nat.le_trans (Nat.le_of_ble_eq_true rfl) hRf) (Nat.le_trans (Nat.le_of_ble_eq_true rfl) hRl) hcs dX9_isPart_4 (fun H locs hw hS => ?_)
  obtain rfl := Option.some.inj hm
  exact xret_z C (bI_nar _) hw hS dX9_isPart_7
theorem dX9_lays_0 : decode cX9_lays 0 = .ok (.iconst 0, 1) := by decide +kernel
theorem dX9_lays_1 : decode cX9_lays 1 = .ok (.istore_n 3, 1) := by decide +kernel
theorem dX9_lays_2 : decode cX9_lays 2 = .ok (.iload_n 3, 1) := by decide +kernel
theorem dX9_lays_3 : decode cX9_lays 3 = .ok (.aload_n 0, 1) := by decide +kernel
theorem dX9_lays_4 : decode cX9_lays 4 = .ok (.getfield 129, 3) := by decide +kernel
theorem dX9_lays_7 : decode cX9_lays 7 = .ok (.if_icmp .ge 52, 3) := by decide +kernel
theorem dX9_lays_10 : decode cX9_lays 10 = .ok (.aload_n 0, 1) := by decide +kernel
theorem dX9_lays_11 : decode cX9_lays 11 = .ok (.iload_n 1, 1) := by decide +kernel
theorem dX9_lays_12 : decode cX9_lays 12 = .ok (.iload_n 3, 1) := by decide +kernel
theorem dX9_lays_13 : decode cX9_lays 13 = .ok (.invokevirtual 196, 3) := by decide +kernel
theorem dX9_lays_16 : decode cX9_lays 16 = .ok (.ifCond .eq 37, 3) := by decide +kernel
theorem dX9_lays_19 : decode cX9_lays 19 = .ok (.aload_n 0, 1) := by decide +kernel
theorem dX9_lays_20 : decode cX9_lays 20 = .ok (.getfield 44, 3) := by decide +kernel
theorem dX9_lays_23 : decode cX9_lays 23 = .ok (.iload_n 3, 1) := by decide +kernel
theorem dX9_lays_24 : decode cX9_lays 24 = .ok (.aload_n 0, 1) := by decide +kernel
theorem dX9_lays_25 : decode cX9_lays 25 = .ok (.iload_n 3, 1) := by decide +kernel
theorem dX9_lays_26 : decode cX9_lays 26 = .ok (.iload_n 2, 1) := by decide +kernel
theorem dX9_lays_27 : decode cX9_lays 27 = .ok (.bipush 100, 2) := by decide +kernel
theorem dX9_lays_29 : decode cX9_lays 29 = .ok (.idiv, 1) := by decide +kernel
theorem dX9_lays_30 : decode cX9_lays 30 = .ok (.iload_n 2, 1) := by decide +kernel
theorem dX9_lays_31 : decode cX9_lays 31 = .ok (.bipush 100, 2) := by decide +kernel
theorem dX9_lays_33 : decode cX9_lays 33 = .ok (.irem, 1) := by decide +kernel
theorem dX9_lays_34 : decode cX9_lays 34 = .ok (.aload_n 0, 1) := by decide +kernel
theorem dX9_lays_35 : decode cX9_lays 35 = .ok (.getfield 41, 3) := by decide +kernel
theorem dX9_lays_38 : decode cX9_lays 38 = .ok (.iload_n 2, 1) := by decide +kernel
theorem dX9_lays_39 : decode cX9_lays 39 = .ok (.bipush 100, 2) := by decide +kernel
theorem dX9_lays_41 : decode cX9_lays 41 = .ok (.idiv, 1) := by decide +kernel
theorem dX9_lays_42 : decode cX9_lays 42 = .ok (.iaload, 1) := by decide +kernel
theorem dX9_lays_43 : decode cX9_lays 43 = .ok (.aload_n 0, 1) := by decide +kernel
theorem dX9_lays_44 : decode cX9_lays 44 = .ok (.getfield 38, 3) := by decide +kernel
theorem dX9_lays_47 : decode cX9_lays 47 = .ok (.iload_n 3, 1) := by decide +kernel
theorem dX9_lays_48 : decode cX9_lays 48 = .ok (.iaload, 1) := by decide +kernel
theorem dX9_lays_49 : decode cX9_lays 49 = .ok (.invokevirtual 200, 3) := by decide +kernel
theorem dX9_lays_52 : decode cX9_lays 52 = .ok (.iastore, 1) := by decide +kernel
theorem dX9_lays_53 : decode cX9_lays 53 = .ok (.iinc 3 1, 3) := by decide +kernel
theorem dX9_lays_56 : decode cX9_lays 56 = .ok (.goto (-54), 3) := by decide +kernel
theorem dX9_lays_59 : decode cX9_lays 59 = .ok (.return_, 1) := by decide +kernel
theorem sX9_196 {p : Program} {l : Launch} {e : Env} {R : Room} {s : State} {m : MethodId} {args : Array Value} {below : List Frame} {meth : Method} {c : Code} {H : Heap} {locs : List Loc} {cells slots : Nat} {Q : State → Prop} {cc : ByteArray} {pc nL : Nat} {ls : Array Slot} {rest : List Value} {ret : Option FieldType} {G : xG} {β N : Nat} {x : MS} {a1 : Int32} {a2 : Int32} {r : Bool} (C : Cx p s m args meth c RX9 cc nL ret (KK G)) (h : fX9_isOf x a1 a2 = some r) (hw : MW β G N x H) (hS : va_S (AM β) s.heap H locs) (hsz : ls.size = nL) (hW : (rest.map fun v => v.category).sum ≤ 8) (hR : 3 ≤ R.frames) (hR2 : 68 ≤ R.locals) (hcs : cells ≤ R.cells ∧ slots ≤ R.slots) (hd : decode cc pc = .ok (.invokevirtual 196, 3)) (kk : ∀ (H1 : Heap) (locs1 : List Loc), MW β G N x H1 → va_S (AM β) s.heap H1 locs1 → W p l e R s m args below meth c H1 locs1 cells slots Q (F0 m (pc + 3) ls (.int (bI r) :: rest))) : W p l e R s m args below meth c H locs cells slots Q (F0 m pc ls (.int a2 :: .int a1 :: .ref β :: rest)) :=
  xcallV C (As := [.int a1, .int a2]) (rest := rest) (nA := 2) (ci := 9) (kX9_isOf h) (tg 1247 (by decide +kernel) rfl) (tg 1249 (by decide +kernel) rfl) (sg (List.mem_of_getElem? (i := 76) (by decide +kernel)) rfl) (tg 14 (by decide +kernel) rfl) (tg 1250 (by decide +kernel) rfl) ⟨rfl, by decide +kernel, by decide +kernel, by decide +kernel⟩ rfl rfl rfl ⟨hR, hR2⟩ (hw.2 0 (by decide)) hw hS (fun _ q => q) rfl rfl hsz hW hd hcs (fun H1 locs1 hw hz hk hS => kk H1 locs1 hw hS)
theorem gX9_44 {p : Program} {l : Launch} {e : Env} {R : Room} {s : State} {m : MethodId} {args : Array Value} {below : List Frame} {meth : Method} {c : Code} {H : Heap} {locs : List Loc} {cells slots : Nat} {Q : State → Prop} {cc : ByteArray} {pc nL : Nat} {ls : Array Slot} {rest : List Value} {ret : Option FieldType} {G : xG} {β N : Nat} {x : MS} (C : Cx p s m args meth c RX9 cc nL ret (KK G)) (hw : MW β G N x H) (hd : decode cc pc = .ok (.getfield 44, 3)) (kk : W p l e R s m args below meth c H locs cells slots Q (F0 m (pc + 3) ls (.ref (β + 11) :: rest))) : W p l e R s m args below meth c H locs cells slots Q (F0 m pc ls (.ref β :: rest)) :=
  va_get C.1 C.2.1 C.2.2.2.2.1 iwX9 C.2.2.2.1 C.K.1 (xP1 (hw.2 0 (by decide))) 0 rfl rfl 16 (by decide) (C.2.2.2.2.1 (.fieldLink RX9 44 RX9 "base" "[I") (tg 932 (by decide +kernel) rfl)) (fun _ h9 => h9) rfl hd kk
theorem sX9_200 {p : Program} {l : Launch} {e : Env} {R : Room} {s : State} {m : MethodId} {args : Array Value} {below : List Frame} {meth : Method} {c : Code} {H : Heap} {locs : List Loc} {cells slots : Nat} {Q : State → Prop} {cc : ByteArray} {pc nL : Nat} {ls : Array Slot} {rest : List Value} {ret : Option FieldType} {G : xG} {β N : Nat} {x : MS} {a1 : Int32} {a2 : Int32} {a3 : Int32} {a4 : Int32} {a5 : Int32} {r : Int32} (C : Cx p s m args meth c RX9 cc nL ret (KK G)) (h : fX9_carries x a1 a2 a3 a4 a5 = some r) (hw : MW β G N x H) (hS : va_S (AM β) s.heap H locs) (hsz : ls.size = nL) (hW : (rest.map fun v => v.category).sum ≤ 8) (hR : 2 ≤ R.frames) (hR2 : 49 ≤ R.locals) (hcs : cells ≤ R.cells ∧ slots ≤ R.slots) (hd : decode cc pc = .ok (.invokevirtual 200, 3)) (kk : ∀ (H1 : Heap) (locs1 : List Loc), MW β G N x H1 → va_S (AM β) s.heap H1 locs1 → W p l e R s m args below meth c H1 locs1 cells slots Q (F0 m (pc + 3) ls (.int r :: rest))) : W p l e R s m args below meth c H locs cells slots Q (F0 m pc ls (.int a5 :: .int a4 :: .int a3 :: .int a2 :: .int a1 :: .ref β :: rest)) :=
  xcallV C (As := [.int a1, .int a2, .int a3, .int a4, .int a5]) (rest := rest) (nA := 5) (ci := 9) (kX9_carries h) (tg 1258 (by decide +kernel) rfl) (tg 1260 (by decide +kernel) rfl) (sg (List.mem_of_getElem? (i := 78) (by decide +kernel)) rfl) (tg 14 (by decide +kernel) rfl) (tg 1261 (by decide +kernel) rfl) ⟨rfl, by decide +kernel, by decide +kernel, by decide +kernel⟩ rfl rfl rfl ⟨hR, hR2⟩ (hw.2 0 (by decide)) hw hS (fun _ q => q) rfl rfl hsz hW hd hcs (fun H1 locs1 hw hz hk hS => kk H1 locs1 hw hS)
theorem asM_11 {p : Program} {l : Launch} {e : Env} {R : Room} {s : State} {m : MethodId} {args : Array Value} {below : List Frame} {meth : Method} {c : Code} {H : Heap} {locs : List Loc} {cells slots : Nat} {Q : State → Prop} {cc : ByteArray} {pc nL : Nat} {ls : Array Slot} {rest : List Value} {ret : Option FieldType} {G : xG} {β N : Nat} {x : MS} {own : String} {i : Int32} {v : Int32} (C : Cx p s m args meth c own cc nL ret (KK G)) (hw : MW β G N x H) (hS : va_S (AM β) s.heap H locs) (hin : ib i 10) (hd : decode cc pc = .ok (.iastore, 1)) (kk : ∀ (H1 : Heap) (locs1 : List Loc), MW β G N (msA x 11 i.toNatClampNeg v) H1 → va_S (AM β) s.heap H1 locs1 → W p l e R s m args below meth c H1 locs1 cells slots Q (F0 m (pc + 1) ls (rest))) : W p l e R s m args below meth c H locs cells slots Q (F0 m pc ls (.int v :: .int i :: .ref (β + 11) :: rest)) :=
  x_iast C.1 C.2.1 C.K.1 hS 0 (hw.2 11 (by decide)) (AM.in (by decide)) rfl hin hd (fun H1 locs1 hat ho hS => kk H1 locs1 (hw.setA 11 _ _ hat ho) hS)
def BX9_lays_2 (q1 : Int32) (q2 : Int32) (lp : Int32 → MS → Option (MS)) (u3 : Int32) (x : MS) : Option (MS) := if (x.1 0 13) ≤ u3 then some x else Option.bind (fX9_isOf x q1 u3) fun v1 => if v1 = true then if ib (q2 / 100) 4 then if ib u3 10 then Option.bind (fX9_carries x u3 (q2 / 100) (irm q2 100) (x.2.1 10 (q2 / 100).toNatClampNeg) (x.2.1 9 u3.toNatClampNeg)) fun v6 => if ib u3 10 then lt (msA x 11 u3.toNatClampNeg v6) fun x9 => lt (u3 + 1) fun v10 => lp v10 x9 else none else none else none else lt (u3 + 1) fun v3 => lp v3 x
def LX9_lays_2 (q1 : Int32) (q2 : Int32) : Nat → Int32 → MS → Option (MS)
  | 0, _, _ => none
  | n + 1, u3, x => BX9_lays_2 q1 q2 (LX9_lays_2 q1 q2 n) u3 x
def fX9_lays (x : MS) (a1 : Int32) (a2 : Int32) : Option (MS) := Option.bind (LX9_lays_2 a1 a2 NF 0 x) fun x11 => some x11
set_option maxHeartbeats 4000000 in
set_option maxRecDepth 100000 in
theorem lX9_lays_2 {p : Program} {l : Launch} {e : Env} {R : Room} {s : State} {m : MethodId} {args : Array Value} {below : List Frame} {meth : Method} {c : Code} {cells slots : Nat} {Q : State → Prop} {G : xG} {β N : Nat} (C : Cx p s m args meth c RX9 cX9_lays 4 none (KK G)) (hRf : 3 ≤ R.frames) (hRl : 68 ≤ R.locals) (hcs : cells ≤ R.cells ∧ slots ≤ R.slots) (q1 : Int32) (q2 : Int32) : ∀ (n : Nat) (u3 : Int32) (x : MS) (J : MS) (H : Heap) (locs : List Loc) (ls : Array Slot), LX9_lays_2 q1 q2 n u3 x = some J → MW β G N x H → va_S (AM β) s.heap H locs → lv_has ls 4 [(0, .ref β), (1, .int q1), (2, .int q2), (3, .int u3)] → (∀ (x1 : MS), J = x1 → ∀ (H : Heap) (locs : List Loc) (ls : Array Slot), MW β G N x1 H → va_S (AM β) s.heap H locs → lv_has ls 4 [] → W p l e R s m args below meth c H locs cells slots Q (F0 m 59 ls [])) → W p l e R s m args below meth c H locs cells slots Q (F0 m 2 ls []) := by
  have hx := C.1
  have hb := C.2.1
  have ho := C.2.2.2.1
  have hts := C.2.2.2.2.1
  intro n
  induction n with
  | zero =>
    intro u3 x J H locs ls hm
    exact absurd hm (by simp [LX9_lays_2])
  | succ n ih =>
    intro u3 x J H locs ls hm hw hS hl ke
    replace hm : BX9_lays_2 q1 q2 (LX9_lays_2 q1 q2 n) u3 x = some J := hm
    unfold BX9_lays_2 at hm
    refine lv_iload_n hx hb dX9_lays_2 rfl (lv_at hl 3 rfl) ?_
    refine lv_aload_n hx hb dX9_lays_3 rfl (lv_at hl 0 rfl) ?_
    refine gX9_129 C hw dX9_lays_4 ?_
    refine lv_icmp_ge (tgt := 59) hx hb dX9_lays_7 (by decide) (fun cc => ?_) (fun cc => ?_)
    · replace hm := ite_p cc hm
      exact ke _ (Option.some.inj hm).symm _ _ _ hw hS (lv_sub hl [] rfl)
    · replace hm := ite_n cc hm
      refine lv_aload_n hx hb dX9_lays_10 rfl (lv_at hl 0 rfl) ?_
      refine lv_iload_n hx hb dX9_lays_11 rfl (lv_at hl 1 rfl) ?_
      refine lv_iload_n hx hb dX9_lays_12 rfl (lv_at hl 3 rfl) ?_
      obtain ⟨v1, h2, hm⟩ := bind_e hm
      refine sX9_196 C h2 hw hS hl.1 (Nat.le_of_ble_eq_true rfl) (Nat.le_trans (Nat.le_of_ble_eq_true rfl) hRf) (Nat.le_trans (Nat.le_of_ble_eq_true rfl) hRl) hcs dX9_lays_13 (fun H locs hw hS => ?_)
      refine x_ifeqB hx hb dX9_lays_16 (tgt := 53) (by decide) (fun cc => ?_) (fun cc => ?_)
      · replace hm := ite_n cc hm
        obtain ⟨v3, ev, hm⟩ := lt_e hm
        refine lv_iinc (v := v3) (lv' := [(3, .int v3), (0, .ref β), (1, .int q1), (2, .int q2)]) hx hb dX9_lays_53 hl (k := 3) rfl (by rw [ev]; rfl) (by decide) rfl (fun ls hl => ?_)
        clear ev
        refine lv_goto (tgt := 2) hx hb dX9_lays_56 (by decide) ?_
        exact ih _ _ _ _ _ _ hm hw hS (lv_sub hl [1, 2, 3, 0] rfl) ke
      · replace hm := ite_p cc hm
        refine lv_aload_n hx hb dX9_lays_19 rfl (lv_at hl 0 rfl) ?_
        refine gX9_44 C hw dX9_lays_20 ?_
        refine lv_iload_n hx hb dX9_lays_23 rfl (lv_at hl 3 rfl) ?_
        refine lv_aload_n hx hb dX9_lays_24 rfl (lv_at hl 0 rfl) ?_
        refine lv_iload_n hx hb dX9_lays_25 rfl (lv_at hl 3 rfl) ?_
        refine lv_iload_n hx hb dX9_lays_26 rfl (lv_at hl 2 rfl) ?_
        refine lv_bipush (v := 100) hx hb dX9_lays_27 (by decide) ?_
        refine lv_idiv hx hb dX9_lays_29 (by decide) ?_
        refine lv_iload_n hx hb dX9_lays_30 rfl (lv_at hl 2 rfl) ?_
        refine lv_bipush (v := 100) hx hb dX9_lays_31 (by decide) ?_
        refine lv_irem hx hb dX9_lays_33 (by decide) ?_
        refine lv_aload_n hx hb dX9_lays_34 rfl (lv_at hl 0 rfl) ?_
        refine gX9_41 C hw dX9_lays_35 ?_
        refine lv_iload_n hx hb dX9_lays_38 rfl (lv_at hl 2 rfl) ?_
        refine lv_bipush (v := 100) hx hb dX9_lays_39 (by decide) ?_
        refine lv_idiv hx hb dX9_lays_41 (by decide) ?_
        obtain ⟨h4, hm⟩ := chk_e hm
        refine alM_10 C hw h4 dX9_lays_42 ?_
        refine lv_aload_n hx hb dX9_lays_43 rfl (lv_at hl 0 rfl) ?_
        refine gX9_38 C hw dX9_lays_44 ?_
        refine lv_iload_n hx hb dX9_lays_47 rfl (lv_at hl 3 rfl) ?_
        obtain ⟨h5, hm⟩ := chk_e hm
        refine alM_9 C hw h5 dX9_lays_48 ?_
        obtain ⟨v6, h7, hm⟩ := bind_e hm
        refine sX9_200 C h7 hw hS hl.1 (Nat.le_of_ble_eq_true rfl) (Nat.le_trans (Nat.le_of_ble_eq_true rfl) hRf) (Nat.le_trans (Nat.le_of_ble_eq_true rfl) hRl) hcs dX9_lays_49 (fun H locs hw hS => ?_)
        obtain ⟨h8, hm⟩ := chk_e hm
        refine asM_11 C hw hS h8 dX9_lays_52 (fun H locs hw hS => ?_)
        obtain ⟨x9, ev, hm⟩ := lt_e hm
        rw [← ev] at hw
        clear ev
        obtain ⟨v10, ev, hm⟩ := lt_e hm
        refine lv_iinc (v := v10) (lv' := [(3, .int v10), (0, .ref β), (1, .int q1), (2, .int q2)]) hx hb dX9_lays_53 hl (k := 3) rfl (by rw [ev]; rfl) (by decide) rfl (fun ls hl => ?_)
        clear ev
        refine lv_goto (tgt := 2) hx hb dX9_lays_56 (by decide) ?_
        exact ih _ _ _ _ _ _ hm hw hS (lv_sub hl [1, 2, 3, 0] rfl) ke
abbrev rmX9_lays : Room := { frames := 3, cells := 0, slots := 0, locals := 68 }
set_option maxHeartbeats 4000000 in
set_option maxRecDepth 100000 in
theorem kX9_lays {l : Launch} {G : xG} {β N : Nat} {x x' : MS} {a1 : Int32} {a2 : Int32} (hm : fX9_lays x a1 a2 = some x') : Met l yX9_lays (.code yX9_lays cX9_lays 4 none :: GT) rmX9_lays (PcW [.ref β, .int a1, .int a2] (MW β G N x) (KK G)) (QcW (AM β) none (MW β G N x')) 0 0 (AM β) := by
  unfold fX9_lays at hm
  refine xpro (own := RX9) (by decide +kernel) rfl (Nat.le_of_ble_eq_true rfl) ?_
  intro p e s m args below meth c C hw ls hl
  have hx := C.1
  have hb := C.2.1
  have ho := C.2.2.2.1
  have hts := C.2.2.2.2.1
  have hS : va_S (AM β) s.heap s.heap [] := va_S.rf
  have hl : lv_has ls 4 [(0, .ref β), (1, .int a1), (2, .int a2)] := hl
  have hRf : 3 ≤ rmX9_lays.frames := Nat.le_refl _
  have hRl : 68 ≤ rmX9_lays.locals := Nat.le_refl _
  have hcs : 0 ≤ rmX9_lays.cells ∧ 0 ≤ rmX9_lays.slots := ⟨Nat.le_refl _, Nat.le_refl _⟩
  refine lv_iconst (v := 0) hx hb dX9_lays_0 (by decide) ?_
  refine lv_istore_n (lv' := [(3, .int 0), (0, .ref β), (1, .int a1), (2, .int a2)]) hx hb dX9_lays_1 rfl hl (by decide) rfl (fun ls hl => ?_)
  obtain ⟨x11, hj, hm⟩ := bind_e hm
  refine lX9_lays_2 C hRf hRl hcs a1 a2 NF _ _ _ _ _ _ hj hw hS (lv_sub hl [1, 2, 3, 0] rfl) (fun x11_ e0 H locs ls hw hS hl => ?_)
  cases e0
  obtain rfl := Option.some.inj hm
  exact xret_v C hw hS dX9_lays_59
theorem dX9_ways_0 : decode cX9_ways 0 = .ok (.iconst 2, 1) := by decide +kernel
theorem dX9_ways_1 : decode cX9_ways 1 = .ok (.aload_n 0, 1) := by decide +kernel
theorem dX9_ways_2 : decode cX9_ways 2 = .ok (.getfield 124, 3) := by decide +kernel
theorem dX9_ways_5 : decode cX9_ways 5 = .ok (.imul, 1) := by decide +kernel
theorem dX9_ways_6 : decode cX9_ways 6 = .ok (.iconst 1, 1) := by decide +kernel
theorem dX9_ways_7 : decode cX9_ways 7 = .ok (.iadd, 1) := by decide +kernel
theorem dX9_ways_8 : decode cX9_ways 8 = .ok (.ireturn, 1) := by decide +kernel
def fX9_ways (x : MS) : Option (Int32) := some ((2 * (x.1 0 15)) + 1)
abbrev rmX9_ways : Room := { frames := 0, cells := 0, slots := 0, locals := 0 }
set_option maxHeartbeats 4000000 in
set_option maxRecDepth 100000 in
theorem kX9_ways {l : Launch} {G : xG} {β N : Nat} {x : MS} {r : Int32} (hm : fX9_ways x = some r) : Met l yX9_ways (.code yX9_ways cX9_ways 1 (some .int) :: GT) rmX9_ways (PcW [.ref β] (MW β G N x) (KK G)) (QcW (AM β) (some (.int r)) (MW β G N x)) 0 0 (AM β) := by
  unfold fX9_ways at hm
  refine xpro (own := RX9) (by decide +kernel) rfl (Nat.le_of_ble_eq_true rfl) ?_
  intro p e s m args below meth c C hw ls hl
  have hx := C.1
  have hb := C.2.1
  have ho := C.2.2.2.1
  have hts := C.2.2.2.2.1
  have hS : va_S (AM β) s.heap s.heap [] := va_S.rf
  have hl : lv_has ls 1 [(0, .ref β)] := hl
  have hRf : 0 ≤ rmX9_ways.frames := Nat.le_refl _
  have hRl : 0 ≤ rmX9_ways.locals := Nat.le_refl _
  have hcs : 0 ≤ rmX9_ways.cells ∧ 0 ≤ rmX9_ways.slots := ⟨Nat.le_refl _, Nat.le_refl _⟩
  refine lv_iconst (v := 2) hx hb dX9_ways_0 (by decide) ?_
  refine lv_aload_n hx hb dX9_ways_1 rfl (lv_at hl 0 rfl) ?_
  refine gX9_124 C hw dX9_ways_2 ?_
  refine lv_imul hx hb dX9_ways_5 ?_
  refine lv_iconst (v := 1) hx hb dX9_ways_6 (by decide) ?_
  refine lv_iadd hx hb dX9_ways_7 ?_
  obtain rfl := Option.some.inj hm
  exact xret_i C hw hS dX9_ways_8
theorem dX9_cases_0 : decode cX9_cases 0 = .ok (.lconst 1, 1) := by decide +kernel
theorem dX9_cases_1 : decode cX9_cases 1 = .ok (.lstore_n 2, 1) := by decide +kernel
theorem dX9_cases_2 : decode cX9_cases 2 = .ok (.iload_n 1, 1) := by decide +kernel
theorem dX9_cases_3 : decode cX9_cases 3 = .ok (.invokestatic 191, 3) := by decide +kernel
theorem dX9_cases_6 : decode cX9_cases 6 = .ok (.istore 4, 2) := by decide +kernel
theorem dX9_cases_8 : decode cX9_cases 8 = .ok (.iload 4, 2) := by decide +kernel
theorem dX9_cases_10 : decode cX9_cases 10 = .ok (.ifCond .le 17, 3) := by decide +kernel
theorem dX9_cases_13 : decode cX9_cases 13 = .ok (.lload_n 2, 1) := by decide +kernel
theorem dX9_cases_14 : decode cX9_cases 14 = .ok (.aload_n 0, 1) := by decide +kernel
theorem dX9_cases_15 : decode cX9_cases 15 = .ok (.invokevirtual 204, 3) := by decide +kernel
theorem dX9_cases_18 : decode cX9_cases 18 = .ok (.i2l, 1) := by decide +kernel
theorem dX9_cases_19 : decode cX9_cases 19 = .ok (.lmul, 1) := by decide +kernel
theorem dX9_cases_20 : decode cX9_cases 20 = .ok (.lstore_n 2, 1) := by decide +kernel
theorem dX9_cases_21 : decode cX9_cases 21 = .ok (.iinc 4 (-1), 3) := by decide +kernel
theorem dX9_cases_24 : decode cX9_cases 24 = .ok (.goto (-16), 3) := by decide +kernel
theorem dX9_cases_27 : decode cX9_cases 27 = .ok (.lload_n 2, 1) := by decide +kernel
theorem dX9_cases_28 : decode cX9_cases 28 = .ok (.lreturn, 1) := by decide +kernel
theorem sX9_204 {p : Program} {l : Launch} {e : Env} {R : Room} {s : State} {m : MethodId} {args : Array Value} {below : List Frame} {meth : Method} {c : Code} {H : Heap} {locs : List Loc} {cells slots : Nat} {Q : State → Prop} {cc : ByteArray} {pc nL : Nat} {ls : Array Slot} {rest : List Value} {ret : Option FieldType} {G : xG} {β N : Nat} {x : MS} {r : Int32} (C : Cx p s m args meth c RX9 cc nL ret (KK G)) (h : fX9_ways x = some r) (hw : MW β G N x H) (hS : va_S (AM β) s.heap H locs) (hsz : ls.size = nL) (hW : (rest.map fun v => v.category).sum ≤ 8) (hR : 1 ≤ R.frames) (hR2 : 20 ≤ R.locals) (hcs : cells ≤ R.cells ∧ slots ≤ R.slots) (hd : decode cc pc = .ok (.invokevirtual 204, 3)) (kk : ∀ (H1 : Heap) (locs1 : List Loc), MW β G N x H1 → va_S (AM β) s.heap H1 locs1 → W p l e R s m args below meth c H1 locs1 cells slots Q (F0 m (pc + 3) ls (.int r :: rest))) : W p l e R s m args below meth c H locs cells slots Q (F0 m pc ls (.ref β :: rest)) :=
  xcallV C (As := []) (rest := rest) (nA := 0) (ci := 9) (kX9_ways h) (tg 1274 (by decide +kernel) rfl) (tg 1276 (by decide +kernel) rfl) (sg (List.mem_of_getElem? (i := 82) (by decide +kernel)) rfl) (tg 14 (by decide +kernel) rfl) (tg 1277 (by decide +kernel) rfl) ⟨rfl, by decide +kernel, by decide +kernel, by decide +kernel⟩ rfl rfl rfl ⟨hR, hR2⟩ (hw.2 0 (by decide)) hw hS (fun _ q => q) rfl rfl hsz hW hd hcs (fun H1 locs1 hw hz hk hS => kk H1 locs1 hw hS)
def BX9_cases_8 (x : MS) (lp : Int64 → Int32 → Option (Int64)) (u2 : Int64) (u4 : Int32) : Option (Int64) := if u4 ≤ 0 then some u2 else Option.bind (fX9_ways x) fun v3 => lt (u2 * (v3.toInt64)) fun v5 => lt (u4 + (-1)) fun v6 => lp v5 v6
def LX9_cases_8 (x : MS) : Nat → Int64 → Int32 → Option (Int64)
  | 0, _, _ => none
  | n + 1, u2, u4 => BX9_cases_8 x (LX9_cases_8 x n) u2 u4
def fX9_cases (x : MS) (a1 : Int32) : Option (Int64) := Option.bind (fX9_bitsOf a1) fun v1 => Option.bind (LX9_cases_8 x NF 1 v1) fun v7 => some v7
set_option maxHeartbeats 4000000 in
set_option maxRecDepth 100000 in
theorem lX9_cases_8 {p : Program} {l : Launch} {e : Env} {R : Room} {s : State} {m : MethodId} {args : Array Value} {below : List Frame} {meth : Method} {c : Code} {cells slots : Nat} {Q : State → Prop} {G : xG} {β N : Nat} (C : Cx p s m args meth c RX9 cX9_cases 5 (some .long) (KK G)) (hRf : 1 ≤ R.frames) (hRl : 22 ≤ R.locals) (hcs : cells ≤ R.cells ∧ slots ≤ R.slots) (x : MS) : ∀ (n : Nat) (u2 : Int64) (u4 : Int32) (J : Int64) (H : Heap) (locs : List Loc) (ls : Array Slot), LX9_cases_8 x n u2 u4 = some J → MW β G N x H → va_S (AM β) s.heap H locs → lv_has ls 5 [(0, .ref β), (2, .long u2), (4, .int u4)] → (∀ (w2 : Int64), J = w2 → ∀ (H : Heap) (locs : List Loc) (ls : Array Slot), MW β G N x H → va_S (AM β) s.heap H locs → lv_has ls 5 [(2, .long w2)] → W p l e R s m args below meth c H locs cells slots Q (F0 m 27 ls [])) → W p l e R s m args below meth c H locs cells slots Q (F0 m 8 ls []) := by
  have hx := C.1
  have hb := C.2.1
  have ho := C.2.2.2.1
  have hts := C.2.2.2.2.1
  intro n
  induction n with
  | zero =>
    intro u2 u4 J H locs ls hm
    exact absurd hm (by simp [LX9_cases_8])
  | succ n ih =>
    intro u2 u4 J H locs ls hm hw hS hl ke
    replace hm : BX9_cases_8 x (LX9_cases_8 x n) u2 u4 = some J := hm
    unfold BX9_cases_8 at hm
    refine lv_iload hx hb dX9_cases_8 (lv_at hl 2 rfl) ?_
    refine lv_if_le (tgt := 27) hx hb dX9_cases_10 (by decide) (fun cc => ?_) (fun cc => ?_)
    · replace hm := ite_p cc hm
      exact ke _ (Option.some.inj hm).symm _ _ _ hw hS (lv_sub hl [1] rfl)
    · replace hm := ite_n cc hm
      refine lv_lload_n hx hb dX9_cases_13 rfl (lv_at hl 1 rfl) ?_
      refine lv_aload_n hx hb dX9_cases_14 rfl (lv_at hl 0 rfl) ?_
      obtain ⟨v3, h4, hm⟩ := bind_e hm
      refine sX9_204 C h4 hw hS hl.1 (Nat.le_of_ble_eq_true rfl) (Nat.le_trans (Nat.le_of_ble_eq_true rfl) hRf) (Nat.le_trans (Nat.le_of_ble_eq_true rfl) hRl) hcs dX9_cases_15 (fun H locs hw hS => ?_)
      refine lv_i2l hx hb dX9_cases_18 rfl ?_
      refine lv_lmul hx hb dX9_cases_19 ?_
      refine topJ hm (fun v5 hm => ?_)
      refine lv_lstore_n (lv' := [(2, .long v5), (0, .ref β), (4, .int u4)]) hx hb dX9_cases_20 rfl hl (by decide) rfl (fun ls hl => ?_)
      obtain ⟨v6, ev, hm⟩ := lt_e hm
      refine lv_iinc (v := v6) (lv' := [(4, .int v6), (2, .long v5), (0, .ref β)]) hx hb dX9_cases_21 hl (k := 2) rfl (by rw [ev]; rfl) (by decide) rfl (fun ls hl => ?_)
      clear ev
      refine lv_goto (tgt := 8) hx hb dX9_cases_24 (by decide) ?_
      exact ih _ _ _ _ _ _ hm hw hS (lv_sub hl [2, 1, 0] rfl) ke
abbrev rmX9_cases : Room := { frames := 1, cells := 0, slots := 0, locals := 22 }
set_option maxHeartbeats 4000000 in
set_option maxRecDepth 100000 in
theorem kX9_cases {l : Launch} {G : xG} {β N : Nat} {x : MS} {a1 : Int32} {r : Int64} (hm : fX9_cases x a1 = some r) : Met l yX9_cases (.code yX9_cases cX9_cases 5 (some .long) :: GT) rmX9_cases (PcW [.ref β, .int a1] (MW β G N x) (KK G)) (QcW (AM β) (some (.long r)) (MW β G N x)) 0 0 (AM β) := by
  unfold fX9_cases at hm
  refine xpro (own := RX9) (by decide +kernel) rfl (Nat.le_of_ble_eq_true rfl) ?_
  intro p e s m args below meth c C hw ls hl
  have hx := C.1
  have hb := C.2.1
  have ho := C.2.2.2.1
  have hts := C.2.2.2.2.1
  have hS : va_S (AM β) s.heap s.heap [] := va_S.rf
  have hl : lv_has ls 5 [(0, .ref β), (1, .int a1)] := hl
  have hRf : 1 ≤ rmX9_cases.frames := Nat.le_refl _
  have hRl : 22 ≤ rmX9_cases.locals := Nat.le_refl _
  have hcs : 0 ≤ rmX9_cases.cells ∧ 0 ≤ rmX9_cases.slots := ⟨Nat.le_refl _, Nat.le_refl _⟩
  refine lv_lconst (v := 1) hx hb dX9_cases_0 (by decide) ?_
  refine lv_lstore_n (lv' := [(2, .long 1), (0, .ref β), (1, .int a1)]) hx hb dX9_cases_1 rfl hl (by decide) rfl (fun ls hl => ?_)
  refine lv_iload_n hx hb dX9_cases_2 rfl (lv_at hl 2 rfl) ?_
  obtain ⟨v1, h2, hm⟩ := bind_e hm
  refine sX9_191 C h2 hw hS hl.1 (Nat.le_of_ble_eq_true rfl) (Nat.le_trans (Nat.le_of_ble_eq_true rfl) hRf) (Nat.le_trans (Nat.le_of_ble_eq_true rfl) hRl) hcs dX9_cases_3 (fun H locs hw hS => ?_)
  refine lv_istore (lv' := [(4, .int v1), (2, .long 1), (0, .ref β), (1, .int a1)]) hx hb dX9_cases_6 hl (by decide) rfl (fun ls hl => ?_)
  obtain ⟨v7, hj, hm⟩ := bind_e hm
  refine lX9_cases_8 C hRf hRl hcs x NF _ _ _ _ _ _ hj hw hS (lv_sub hl [2, 1, 0] rfl) (fun v7_ e0 H locs ls hw hS hl => ?_)
  cases e0
  refine lv_lload_n hx hb dX9_cases_27 rfl (lv_at hl 0 rfl) ?_
  obtain rfl := Option.some.inj hm
  exact xret_l C hw hS dX9_cases_28
theorem dX9_below_0 : decode cX9_below 0 = .ok (.iload_n 2, 1) := by decide +kernel
theorem dX9_below_1 : decode cX9_below 1 = .ok (.aload_n 0, 1) := by decide +kernel
theorem dX9_below_2 : decode cX9_below 2 = .ok (.getfield 44, 3) := by decide +kernel
theorem dX9_below_5 : decode cX9_below 5 = .ok (.iload_n 1, 1) := by decide +kernel
theorem dX9_below_6 : decode cX9_below 6 = .ok (.iaload, 1) := by decide +kernel
theorem dX9_below_7 : decode cX9_below 7 = .ok (.isub, 1) := by decide +kernel
theorem dX9_below_8 : decode cX9_below 8 = .ok (.aload_n 0, 1) := by decide +kernel
theorem dX9_below_9 : decode cX9_below 9 = .ok (.getfield 124, 3) := by decide +kernel
theorem dX9_below_12 : decode cX9_below 12 = .ok (.iadd, 1) := by decide +kernel
theorem dX9_below_13 : decode cX9_below 13 = .ok (.istore_n 3, 1) := by decide +kernel
theorem dX9_below_14 : decode cX9_below 14 = .ok (.iload_n 3, 1) := by decide +kernel
theorem dX9_below_15 : decode cX9_below 15 = .ok (.ifCond .ge 7, 3) := by decide +kernel
theorem dX9_below_18 : decode cX9_below 18 = .ok (.iconst 0, 1) := by decide +kernel
theorem dX9_below_19 : decode cX9_below 19 = .ok (.goto 19, 3) := by decide +kernel
theorem dX9_below_22 : decode cX9_below 22 = .ok (.iload_n 3, 1) := by decide +kernel
theorem dX9_below_23 : decode cX9_below 23 = .ok (.aload_n 0, 1) := by decide +kernel
theorem dX9_below_24 : decode cX9_below 24 = .ok (.invokevirtual 204, 3) := by decide +kernel
theorem dX9_below_27 : decode cX9_below 27 = .ok (.if_icmp .le 10, 3) := by decide +kernel
theorem dX9_below_30 : decode cX9_below 30 = .ok (.aload_n 0, 1) := by decide +kernel
theorem dX9_below_31 : decode cX9_below 31 = .ok (.invokevirtual 204, 3) := by decide +kernel
theorem dX9_below_34 : decode cX9_below 34 = .ok (.goto 4, 3) := by decide +kernel
theorem dX9_below_37 : decode cX9_below 37 = .ok (.iload_n 3, 1) := by decide +kernel
theorem dX9_below_38 : decode cX9_below 38 = .ok (.ireturn, 1) := by decide +kernel
theorem alM_11 {p : Program} {l : Launch} {e : Env} {R : Room} {s : State} {m : MethodId} {args : Array Value} {below : List Frame} {meth : Method} {c : Code} {H : Heap} {locs : List Loc} {cells slots : Nat} {Q : State → Prop} {cc : ByteArray} {pc nL : Nat} {ls : Array Slot} {rest : List Value} {ret : Option FieldType} {G : xG} {β N : Nat} {x : MS} {own : String} {i : Int32} (C : Cx p s m args meth c own cc nL ret (KK G)) (hw : MW β G N x H) (hin : ib i 10) (hd : decode cc pc = .ok (.iaload, 1)) (kk : W p l e R s m args below meth c H locs cells slots Q (F0 m (pc + 1) ls (.int (x.2.1 11 i.toNatClampNeg) :: rest))) : W p l e R s m args below meth c H locs cells slots Q (F0 m pc ls (.int i :: .ref (β + 11) :: rest)) :=
  va_iald C.1 C.2.1 C.K.1 (xP1 (hw.2 11 (by decide))) 0 0 rfl rfl hin hd kk
def fX9_below (x : MS) (a1 : Int32) (a2 : Int32) : Option (Int32) := if ib a1 10 then lt ((a2 - (x.2.1 11 a1.toNatClampNeg)) + (x.1 0 15)) fun v2 => if 0 ≤ v2 then Option.bind (fX9_ways x) fun v3 => if v2 ≤ v3 then some v2 else Option.bind (fX9_ways x) fun v5 => some v5 else some 0 else none
abbrev rmX9_below : Room := { frames := 1, cells := 0, slots := 0, locals := 20 }
set_option maxHeartbeats 4000000 in
set_option maxRecDepth 100000 in
theorem kX9_below {l : Launch} {G : xG} {β N : Nat} {x : MS} {a1 : Int32} {a2 : Int32} {r : Int32} (hm : fX9_below x a1 a2 = some r) : Met l yX9_below (.code yX9_below cX9_below 4 (some .int) :: GT) rmX9_below (PcW [.ref β, .int a1, .int a2] (MW β G N x) (KK G)) (QcW (AM β) (some (.int r)) (MW β G N x)) 0 0 (AM β) := by
  unfold fX9_below at hm
  refine xpro (own := RX9) (by decide +kernel) rfl (Nat.le_of_ble_eq_true rfl) ?_
  intro p e s m args below meth c C hw ls hl
  have hx := C.1
  have hb := C.2.1
  have ho := C.2.2.2.1
  have hts := C.2.2.2.2.1
  have hS : va_S (AM β) s.heap s.heap [] := va_S.rf
  have hl : lv_has ls 4 [(0, .ref β), (1, .int a1), (2, .int a2)] := hl
  have hRf : 1 ≤ rmX9_below.frames := Nat.le_refl _
  have hRl : 20 ≤ rmX9_below.locals := Nat.le_refl _
  have hcs : 0 ≤ rmX9_below.cells ∧ 0 ≤ rmX9_below.slots := ⟨Nat.le_refl _, Nat.le_refl _⟩
  refine lv_iload_n hx hb dX9_below_0 rfl (lv_at hl 2 rfl) ?_
  refine lv_aload_n hx hb dX9_below_1 rfl (lv_at hl 0 rfl) ?_
  refine gX9_44 C hw dX9_below_2 ?_
  refine lv_iload_n hx hb dX9_below_5 rfl (lv_at hl 1 rfl) ?_
  obtain ⟨h1, hm⟩ := chk_e hm
  refine alM_11 C hw h1 dX9_below_6 ?_
  refine lv_isub hx hb dX9_below_7 ?_
  refine lv_aload_n hx hb dX9_below_8 rfl (lv_at hl 0 rfl) ?_
  refine gX9_124 C hw dX9_below_9 ?_
  refine lv_iadd hx hb dX9_below_12 ?_
  refine topI hm (fun v2 hm => ?_)
  refine lv_istore_n (lv' := [(3, .int v2), (0, .ref β), (1, .int a1), (2, .int a2)]) hx hb dX9_below_13 rfl hl (by decide) rfl (fun ls hl => ?_)
  refine lv_iload_n hx hb dX9_below_14 rfl (lv_at hl 0 rfl) ?_
  refine lv_if_ge (tgt := 22) hx hb dX9_below_15 (by decide) (fun cc => ?_) (fun cc => ?_)
  · replace hm := ite_p cc hm
    refine lv_iload_n hx hb dX9_below_22 rfl (lv_at hl 0 rfl) ?_
    refine lv_aload_n hx hb dX9_below_23 rfl (lv_at hl 1 rfl) ?_
    obtain ⟨v3, h4, hm⟩ := bind_e hm
    refine sX9_204 C h4 hw hS hl.1 (Nat.le_of_ble_eq_true rfl) (Nat.le_trans (Nat.le_of_ble_eq_true rfl) hRf) (Nat.le_trans (Nat.le_of_ble_eq_true rfl) hRl) hcs dX9_below_24 (fun H locs hw hS => ?_)
    refine lv_icmp_le (tgt := 37) hx hb dX9_below_27 (by decide) (fun cc => ?_) (fun cc => ?_)
    · replace hm := ite_p cc hm
      refine lv_iload_n hx hb dX9_below_37 rfl (lv_at hl 0 rfl) ?_
      obtain rfl := Option.some.inj hm
      exact xret_i C hw hS dX9_below_38
    · replace hm := ite_n cc hm
      refine lv_aload_n hx hb dX9_below_30 rfl (lv_at hl 1 rfl) ?_
      obtain ⟨v5, h6, hm⟩ := bind_e hm
      refine sX9_204 C h6 hw hS hl.1 (Nat.le_of_ble_eq_true rfl) (Nat.le_trans (Nat.le_of_ble_eq_true rfl) hRf) (Nat.le_trans (Nat.le_of_ble_eq_true rfl) hRl) hcs dX9_below_31 (fun H locs hw hS => ?_)
      refine lv_goto (tgt := 38) hx hb dX9_below_34 (by decide) ?_
      obtain rfl := Option.some.inj hm
      exact xret_i C hw hS dX9_below_38
  · replace hm := ite_n cc hm
    refine lv_iconst (v := 0) hx hb dX9_below_18 (by decide) ?_
    refine lv_goto (tgt := 38) hx hb dX9_below_19 (by decide) ?_
    obtain rfl := Option.some.inj hm
    exact xret_i C hw hS dX9_below_38
theorem dX9_equals1_0 : decode cX9_equals1 0 = .ok (.aload_n 0, 1) := by decide +kernel
theorem dX9_equals1_1 : decode cX9_equals1 1 = .ok (.iload_n 1, 1) := by decide +kernel
theorem dX9_equals1_2 : decode cX9_equals1 2 = .ok (.iload_n 2, 1) := by decide +kernel
theorem dX9_equals1_3 : decode cX9_equals1 3 = .ok (.iconst 1, 1) := by decide +kernel
theorem dX9_equals1_4 : decode cX9_equals1 4 = .ok (.iadd, 1) := by decide +kernel
theorem dX9_equals1_5 : decode cX9_equals1 5 = .ok (.invokevirtual 208, 3) := by decide +kernel
theorem dX9_equals1_8 : decode cX9_equals1 8 = .ok (.aload_n 0, 1) := by decide +kernel
theorem dX9_equals1_9 : decode cX9_equals1 9 = .ok (.iload_n 1, 1) := by decide +kernel
theorem dX9_equals1_10 : decode cX9_equals1 10 = .ok (.iload_n 2, 1) := by decide +kernel
theorem dX9_equals1_11 : decode cX9_equals1 11 = .ok (.invokevirtual 208, 3) := by decide +kernel
theorem dX9_equals1_14 : decode cX9_equals1 14 = .ok (.isub, 1) := by decide +kernel
theorem dX9_equals1_15 : decode cX9_equals1 15 = .ok (.ireturn, 1) := by decide +kernel
theorem sX9_208 {p : Program} {l : Launch} {e : Env} {R : Room} {s : State} {m : MethodId} {args : Array Value} {below : List Frame} {meth : Method} {c : Code} {H : Heap} {locs : List Loc} {cells slots : Nat} {Q : State → Prop} {cc : ByteArray} {pc nL : Nat} {ls : Array Slot} {rest : List Value} {ret : Option FieldType} {G : xG} {β N : Nat} {x : MS} {a1 : Int32} {a2 : Int32} {r : Int32} (C : Cx p s m args meth c RX9 cc nL ret (KK G)) (h : fX9_below x a1 a2 = some r) (hw : MW β G N x H) (hS : va_S (AM β) s.heap H locs) (hsz : ls.size = nL) (hW : (rest.map fun v => v.category).sum ≤ 8) (hR : 2 ≤ R.frames) (hR2 : 43 ≤ R.locals) (hcs : cells ≤ R.cells ∧ slots ≤ R.slots) (hd : decode cc pc = .ok (.invokevirtual 208, 3)) (kk : ∀ (H1 : Heap) (locs1 : List Loc), MW β G N x H1 → va_S (AM β) s.heap H1 locs1 → W p l e R s m args below meth c H1 locs1 cells slots Q (F0 m (pc + 3) ls (.int r :: rest))) : W p l e R s m args below meth c H locs cells slots Q (F0 m pc ls (.int a2 :: .int a1 :: .ref β :: rest)) :=
  xcallV C (As := [.int a1, .int a2]) (rest := rest) (nA := 2) (ci := 9) (kX9_below h) (tg 1270 (by decide +kernel) rfl) (tg 1272 (by decide +kernel) rfl) (sg (List.mem_of_getElem? (i := 81) (by decide +kernel)) rfl) (tg 14 (by decide +kernel) rfl) (tg 1273 (by decide +kernel) rfl) ⟨rfl, by decide +kernel, by decide +kernel, by decide +kernel⟩ rfl rfl rfl ⟨hR, hR2⟩ (hw.2 0 (by decide)) hw hS (fun _ q => q) rfl rfl hsz hW hd hcs (fun H1 locs1 hw hz hk hS => kk H1 locs1 hw hS)
def fX9_equals1 (x : MS) (a1 : Int32) (a2 : Int32) : Option (Int32) := Option.bind (fX9_below x a1 (a2 + 1)) fun v1 => Option.bind (fX9_below x a1 a2) fun v3 => some (v1 - v3)
abbrev rmX9_equals1 : Room := { frames := 2, cells := 0, slots := 0, locals := 43 }
set_option maxHeartbeats 4000000 in
set_option maxRecDepth 100000 in
theorem kX9_equals1 {l : Launch} {G : xG} {β N : Nat} {x : MS} {a1 : Int32} {a2 : Int32} {r : Int32} (hm : fX9_equals1 x a1 a2 = some r) : Met l yX9_equals1 (.code yX9_equals1 cX9_equals1 3 (some .int) :: GT) rmX9_equals1 (PcW [.ref β, .int a1, .int a2] (MW β G N x) (KK G)) (QcW (AM β) (some (.int r)) (MW β G N x)) 0 0 (AM β) := by
  unfold fX9_equals1 at hm
  refine xpro (own := RX9) (by decide +kernel) rfl (Nat.le_of_ble_eq_true rfl) ?_
  intro p e s m args below meth c C hw ls hl
  have hx := C.1
  have hb := C.2.1
  have ho := C.2.2.2.1
  have hts := C.2.2.2.2.1
  have hS : va_S (AM β) s.heap s.heap [] := va_S.rf
  have hl : lv_has ls 3 [(0, .ref β), (1, .int a1), (2, .int a2)] := hl
  have hRf : 2 ≤ rmX9_equals1.frames := Nat.le_refl _
  have hRl : 43 ≤ rmX9_equals1.locals := Nat.le_refl _
  have hcs : 0 ≤ rmX9_equals1.cells ∧ 0 ≤ rmX9_equals1.slots := ⟨Nat.le_refl _, Nat.le_refl _⟩
  refine lv_aload_n hx hb dX9_equals1_0 rfl (lv_at hl 0 rfl) ?_
  refine lv_iload_n hx hb dX9_equals1_1 rfl (lv_at hl 1 rfl) ?_
  refine lv_iload_n hx hb dX9_equals1_2 rfl (lv_at hl 2 rfl) ?_
  refine lv_iconst (v := 1) hx hb dX9_equals1_3 (by decide) ?_
  refine lv_iadd hx hb dX9_equals1_4 ?_
  obtain ⟨v1, h2, hm⟩ := bind_e hm
  refine sX9_208 C h2 hw hS hl.1 (Nat.le_of_ble_eq_true rfl) (Nat.le_trans (Nat.le_of_ble_eq_true rfl) hRf) (Nat.le_trans (Nat.le_of_ble_eq_true rfl) hRl) hcs dX9_equals1_5 (fun H locs hw hS => ?_)
  refine lv_aload_n hx hb dX9_equals1_8 rfl (lv_at hl 0 rfl) ?_
  refine lv_iload_n hx hb dX9_equals1_9 rfl (lv_at hl 1 rfl) ?_
  refine lv_iload_n hx hb dX9_equals1_10 rfl (lv_at hl 2 rfl) ?_
  obtain ⟨v3, h4, hm⟩ := bind_e hm
  refine sX9_208 C h4 hw hS hl.1 (Nat.le_of_ble_eq_true rfl) (Nat.le_trans (Nat.le_of_ble_eq_true rfl) hRf) (Nat.le_trans (Nat.le_of_ble_eq_true rfl) hRl) hcs dX9_equals1_11 (fun H locs hw hS => ?_)
  refine lv_isub hx hb dX9_equals1_14 ?_
  obtain rfl := Option.some.inj hm
  exact xret_i C hw hS dX9_equals1_15
