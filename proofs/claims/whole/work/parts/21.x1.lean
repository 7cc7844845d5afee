theorem dX0_runs_0 : decode cX0_runs 0 = .ok (.aload_n 0, 1) := by decide +kernel
theorem dX0_runs_1 : decode cX0_runs 1 = .ok (.getfield 27, 3) := by decide +kernel
theorem dX0_runs_4 : decode cX0_runs 4 = .ok (.iload_n 1, 1) := by decide +kernel
theorem dX0_runs_5 : decode cX0_runs 5 = .ok (.ishr, 1) := by decide +kernel
theorem dX0_runs_6 : decode cX0_runs 6 = .ok (.iconst 1, 1) := by decide +kernel
theorem dX0_runs_7 : decode cX0_runs 7 = .ok (.iand, 1) := by decide +kernel
theorem dX0_runs_8 : decode cX0_runs 8 = .ok (.iconst 1, 1) := by decide +kernel
theorem dX0_runs_9 : decode cX0_runs 9 = .ok (.if_icmp .ne 7, 3) := by decide +kernel
theorem dX0_runs_12 : decode cX0_runs 12 = .ok (.iconst 1, 1) := by decide +kernel
theorem dX0_runs_13 : decode cX0_runs 13 = .ok (.goto 4, 3) := by decide +kernel
theorem dX0_runs_16 : decode cX0_runs 16 = .ok (.iconst 0, 1) := by decide +kernel
theorem dX0_runs_17 : decode cX0_runs 17 = .ok (.ireturn, 1) := by decide +kernel
theorem iwX0 : ∀ w ∈ u_ws RX0 TX0 7, w ∈ GT := in_tb [141, 143, 145, 147, 149, 151, 153] (by decide +kernel) (by decide +kernel)
theorem gX0_27 {p : Program} {l : Launch} {e : Env} {R : Room} {s : State} {m : MethodId} {args : Array Value} {below : List Frame} {meth : Method} {c : Code} {H : Heap} {locs : List Loc} {cells slots : Nat} {Q : State → Prop} {cc : ByteArray} {pc nL : Nat} {ls : Array Slot} {rest : List Value} {ret : Option FieldType} {G : xG} {β : Nat} {D : Nat → Prop} {x : XS} (C : Cx p s m args meth c RX0 cc nL ret (KK G)) (hw : CW β D G x H) (hd : decode cc pc = .ok (.getfield 27, 3)) (kk : W p l e R s m args below meth c H locs cells slots Q (F0 m (pc + 3) ls (.int (x.1 16 5) :: rest))) : W p l e R s m args below meth c H locs cells slots Q (F0 m pc ls (.ref (β + 16) :: rest)) :=
  va_get C.1 C.2.1 C.2.2.2.2.1 iwX0 C.2.2.2.1 C.K.1 (xP1 (hw.2.2.1 16 (by decide))) 0 rfl rfl 5 (by decide) (C.2.2.2.2.1 (.fieldLink RX0 27 RX0 "field" "I") (tg 137 (by decide +kernel) rfl)) (fun _ h9 => h9) rfl hd kk
def fX0_runs (x : XS) (a1 : Int32) : Option (Bool) := if (((x.1 16 5) >>> (a1 &&& 31)) &&& 1) = 1 then some true else some false
abbrev rmX0_runs : Room := { frames := 0, cells := 0, slots := 0, locals := 0 }
set_option maxHeartbeats 4000000 in
set_option maxRecDepth 100000 in
theorem kX0_runs {l : Launch} {G : xG} {β : Nat} {D : Nat → Prop} {x : XS} {a1 : Int32} {r : Bool} (hm : fX0_runs x a1 = some r) : Met l yX0_runs (.code yX0_runs cX0_runs 2 (some .boolean) :: GT) rmX0_runs (PcW [.ref (β + 16), .int a1] (CW β D G x) (KK G)) (QcW D (some (.int (bI r))) (CW β D G x)) 0 0 D := by
  unfold fX0_runs at hm
  refine xpro (own := RX0) (by decide +kernel) rfl (Nat.le_of_ble_eq_true rfl) ?_
  intro p e s m args below meth c C hw ls hl
  have hx := C.1
  have hb := C.2.1
  have ho := C.2.2.2.1
  have hts := C.2.2.2.2.1
  have hf : Fz D G s.heap := hw.2.2.2.2
  have hS : va_S D s.heap s.heap [] := va_S.rf
  have hl : lv_has ls 2 [(0, .ref (β + 16)), (1, .int a1)] := hl
  have hRf : 0 ≤ rmX0_runs.frames := Nat.le_refl _
  have hRl : 0 ≤ rmX0_runs.locals := Nat.le_refl _
  have hcs : 0 ≤ rmX0_runs.cells ∧ 0 ≤ rmX0_runs.slots := ⟨Nat.le_refl _, Nat.le_refl _⟩
  refine lv_aload_n hx hb dX0_runs_0 rfl (lv_at hl 0 rfl) ?_
  refine gX0_27 C hw dX0_runs_1 ?_
  refine lv_iload_n hx hb dX0_runs_4 rfl (lv_at hl 1 rfl) ?_
  refine lv_ishr hx hb dX0_runs_5 ?_
  refine lv_iconst (v := 1) hx hb dX0_runs_6 (by decide) ?_
  refine lv_iand hx hb dX0_runs_7 ?_
  refine lv_iconst (v := 1) hx hb dX0_runs_8 (by decide) ?_
  refine lv_icmp_ne (tgt := 16) hx hb dX0_runs_9 (by decide) (fun cc => ?_) (fun cc => ?_)
  · replace hm := ite_n cc hm
    refine lv_iconst (v := 0) hx hb dX0_runs_16 (by decide) ?_
    obtain rfl := Option.some.inj hm
    exact xret_z (v := bI false) C (bI_nar _) hw hS dX0_runs_17
  · replace hm := ite_p cc hm
    refine lv_iconst (v := 1) hx hb dX0_runs_12 (by decide) ?_
    refine lv_goto (tgt := 17) hx hb dX0_runs_13 (by decide) ?_
    obtain rfl := Option.some.inj hm
    exact xret_z (v := bI true) C (bI_nar _) hw hS dX0_runs_17
theorem dX0_variants_0 : decode cX0_variants 0 = .ok (.iconst 2, 1) := by decide +kernel
theorem dX0_variants_1 : decode cX0_variants 1 = .ok (.aload_n 0, 1) := by decide +kernel
theorem dX0_variants_2 : decode cX0_variants 2 = .ok (.getfield 31, 3) := by decide +kernel
theorem dX0_variants_5 : decode cX0_variants 5 = .ok (.imul, 1) := by decide +kernel
theorem dX0_variants_6 : decode cX0_variants 6 = .ok (.iconst 1, 1) := by decide +kernel
theorem dX0_variants_7 : decode cX0_variants 7 = .ok (.iadd, 1) := by decide +kernel
theorem dX0_variants_8 : decode cX0_variants 8 = .ok (.ireturn, 1) := by decide +kernel
theorem gX0_31 {p : Program} {l : Launch} {e : Env} {R : Room} {s : State} {m : MethodId} {args : Array Value} {below : List Frame} {meth : Method} {c : Code} {H : Heap} {locs : List Loc} {cells slots : Nat} {Q : State → Prop} {cc : ByteArray} {pc nL : Nat} {ls : Array Slot} {rest : List Value} {ret : Option FieldType} {G : xG} {β : Nat} {D : Nat → Prop} {x : XS} (C : Cx p s m args meth c RX0 cc nL ret (KK G)) (hw : CW β D G x H) (hd : decode cc pc = .ok (.getfield 31, 3)) (kk : W p l e R s m args below meth c H locs cells slots Q (F0 m (pc + 3) ls (.int (x.1 16 6) :: rest))) : W p l e R s m args below meth c H locs cells slots Q (F0 m pc ls (.ref (β + 16) :: rest)) :=
  va_get C.1 C.2.1 C.2.2.2.2.1 iwX0 C.2.2.2.1 C.K.1 (xP1 (hw.2.2.1 16 (by decide))) 0 rfl rfl 6 (by decide) (C.2.2.2.2.1 (.fieldLink RX0 31 RX0 "spread" "I") (tg 139 (by decide +kernel) rfl)) (fun _ h9 => h9) rfl hd kk
def fX0_variants (x : XS) : Option (Int32) := some ((2 * (x.1 16 6)) + 1)
abbrev rmX0_variants : Room := { frames := 0, cells := 0, slots := 0, locals := 0 }
set_option maxHeartbeats 4000000 in
set_option maxRecDepth 100000 in
theorem kX0_variants {l : Launch} {G : xG} {β : Nat} {D : Nat → Prop} {x : XS} {r : Int32} (hm : fX0_variants x = some r) : Met l yX0_variants (.code yX0_variants cX0_variants 1 (some .int) :: GT) rmX0_variants (PcW [.ref (β + 16)] (CW β D G x) (KK G)) (QcW D (some (.int r)) (CW β D G x)) 0 0 D := by
  unfold fX0_variants at hm
  refine xpro (own := RX0) (by decide +kernel) rfl (Nat.le_of_ble_eq_true rfl) ?_
  intro p e s m args below meth c C hw ls hl
  have hx := C.1
  have hb := C.2.1
  have ho := C.2.2.2.1
  have hts := C.2.2.2.2.1
  have hf : Fz D G s.heap := hw.2.2.2.2
  have hS : va_S D s.heap s.heap [] := va_S.rf
  have hl : lv_has ls 1 [(0, .ref (β + 16))] := hl
  have hRf : 0 ≤ rmX0_variants.frames := Nat.le_refl _
  have hRl : 0 ≤ rmX0_variants.locals := Nat.le_refl _
  have hcs : 0 ≤ rmX0_variants.cells ∧ 0 ≤ rmX0_variants.slots := ⟨Nat.le_refl _, Nat.le_refl _⟩
  refine lv_iconst (v := 2) hx hb dX0_variants_0 (by decide) ?_
  refine lv_aload_n hx hb dX0_variants_1 rfl (lv_at hl 0 rfl) ?_
  refine gX0_31 C hw dX0_variants_2 ?_
  refine lv_imul hx hb dX0_variants_5 ?_
  refine lv_iconst (v := 1) hx hb dX0_variants_6 (by decide) ?_
  refine lv_iadd hx hb dX0_variants_7 ?_
  obtain rfl := Option.some.inj hm
  exact xret_i C hw hS dX0_variants_8
theorem dX0_cases_0 : decode cX0_cases 0 = .ok (.iconst 1, 1) := by decide +kernel
theorem dX0_cases_1 : decode cX0_cases 1 = .ok (.istore_n 1, 1) := by decide +kernel
theorem dX0_cases_2 : decode cX0_cases 2 = .ok (.iconst 0, 1) := by decide +kernel
theorem dX0_cases_3 : decode cX0_cases 3 = .ok (.istore_n 2, 1) := by decide +kernel
theorem dX0_cases_4 : decode cX0_cases 4 = .ok (.iload_n 2, 1) := by decide +kernel
theorem dX0_cases_5 : decode cX0_cases 5 = .ok (.bipush 10, 2) := by decide +kernel
theorem dX0_cases_7 : decode cX0_cases 7 = .ok (.if_icmp .ge 24, 3) := by decide +kernel
theorem dX0_cases_10 : decode cX0_cases 10 = .ok (.aload_n 0, 1) := by decide +kernel
theorem dX0_cases_11 : decode cX0_cases 11 = .ok (.iload_n 2, 1) := by decide +kernel
theorem dX0_cases_12 : decode cX0_cases 12 = .ok (.invokevirtual 34, 3) := by decide +kernel
theorem dX0_cases_15 : decode cX0_cases 15 = .ok (.ifCond .eq 10, 3) := by decide +kernel
theorem dX0_cases_18 : decode cX0_cases 18 = .ok (.iload_n 1, 1) := by decide +kernel
theorem dX0_cases_19 : decode cX0_cases 19 = .ok (.aload_n 0, 1) := by decide +kernel
theorem dX0_cases_20 : decode cX0_cases 20 = .ok (.invokevirtual 38, 3) := by decide +kernel
theorem dX0_cases_23 : decode cX0_cases 23 = .ok (.imul, 1) := by decide +kernel
theorem dX0_cases_24 : decode cX0_cases 24 = .ok (.istore_n 1, 1) := by decide +kernel
theorem dX0_cases_25 : decode cX0_cases 25 = .ok (.iinc 2 1, 3) := by decide +kernel
theorem dX0_cases_28 : decode cX0_cases 28 = .ok (.goto (-24), 3) := by decide +kernel
theorem dX0_cases_31 : decode cX0_cases 31 = .ok (.iload_n 1, 1) := by decide +kernel
theorem dX0_cases_32 : decode cX0_cases 32 = .ok (.ireturn, 1) := by decide +kernel
theorem sX0_34 {p : Program} {l : Launch} {e : Env} {R : Room} {s : State} {m : MethodId} {args : Array Value} {below : List Frame} {meth : Method} {c : Code} {H : Heap} {locs : List Loc} {cells slots : Nat} {Q : State → Prop} {cc : ByteArray} {pc nL : Nat} {ls : Array Slot} {rest : List Value} {ret : Option FieldType}  {G : xG} {β : Nat} {D : Nat → Prop} {x : XS} {a1 : Int32} {r : Bool} (C : Cx p s m args meth c RX0 cc nL ret (KK G)) (h : fX0_runs x a1 = some r) (hw : CW β D G x H) (hS : va_S D s.heap H locs) (hsz : ls.size = nL) (hW : (rest.map fun v => v.category).sum ≤ 8) (hR : 1 ≤ R.frames) (hR2 : 21 ≤ R.locals) (hcs : cells ≤ R.cells ∧ slots ≤ R.slots) (hd : decode cc pc = .ok (.invokevirtual 34, 3)) (kk : ∀ (H1 : Heap) (locs1 : List Loc), CW β D G x H1 → va_S D s.heap H1 locs1 → W p l e R s m args below meth c H1 locs1 cells slots Q (F0 m (pc + 3) ls (.int (bI r) :: rest))) : W p l e R s m args below meth c H locs cells slots Q (F0 m pc ls (.int a1 :: .ref (β + 16) :: rest)) := by
  exact xcallV C (As := [.int a1]) (rest := rest) (nA := 1) (ci := 0) (kX0_runs h) (tg 608 (by decide +kernel) rfl) (tg 610 (by decide +kernel) rfl) (sg (List.mem_of_getElem? (i := 34) (by decide +kernel)) rfl) (tg 5 (by decide +kernel) rfl) (tg 611 (by decide +kernel) rfl) ⟨rfl, by decide +kernel, by decide +kernel, by decide +kernel⟩ rfl rfl rfl ⟨hR, hR2⟩ (hw.2.2.1 16 (by decide)) hw hS (fun _ q => q) rfl rfl hsz hW hd hcs (fun H1 locs1 hw hz hk hS => kk H1 locs1 hw hS)
theorem sX0_38 {p : Program} {l : Launch} {e : Env} {R : Room} {s : State} {m : MethodId} {args : Array Value} {below : List Frame} {meth : Method} {c : Code} {H : Heap} {locs : List Loc} {cells slots : Nat} {Q : State → Prop} {cc : ByteArray} {pc nL : Nat} {ls : Array Slot} {rest : List Value} {ret : Option FieldType}  {G : xG} {β : Nat} {D : Nat → Prop} {x : XS} {r : Int32} (C : Cx p s m args meth c RX0 cc nL ret (KK G)) (h : fX0_variants x = some r) (hw : CW β D G x H) (hS : va_S D s.heap H locs) (hsz : ls.size = nL) (hW : (rest.map fun v => v.category).sum ≤ 8) (hR : 1 ≤ R.frames) (hR2 : 20 ≤ R.locals) (hcs : cells ≤ R.cells ∧ slots ≤ R.slots) (hd : decode cc pc = .ok (.invokevirtual 38, 3)) (kk : ∀ (H1 : Heap) (locs1 : List Loc), CW β D G x H1 → va_S D s.heap H1 locs1 → W p l e R s m args below meth c H1 locs1 cells slots Q (F0 m (pc + 3) ls (.int r :: rest))) : W p l e R s m args below meth c H locs cells slots Q (F0 m pc ls (.ref (β + 16) :: rest)) := by
  exact xcallV C (As := []) (rest := rest) (nA := 0) (ci := 0) (kX0_variants h) (tg 612 (by decide +kernel) rfl) (tg 614 (by decide +kernel) rfl) (sg (List.mem_of_getElem? (i := 35) (by decide +kernel)) rfl) (tg 5 (by decide +kernel) rfl) (tg 615 (by decide +kernel) rfl) ⟨rfl, by decide +kernel, by decide +kernel, by decide +kernel⟩ rfl rfl rfl ⟨hR, hR2⟩ (hw.2.2.1 16 (by decide)) hw hS (fun _ q => q) rfl rfl hsz hW hd hcs (fun H1 locs1 hw hz hk hS => kk H1 locs1 hw hS)
def BX0_cases_4 (x : XS) (lp : Int32 → Int32 → Option (Int32)) (u1 : Int32) (u2 : Int32) : Option (Int32) := if 10 ≤ u2 then some u1 else Option.bind (fX0_runs x u2) fun v1 => if v1 = true then Option.bind (fX0_variants x) fun v4 => lt (u1 * v4) fun v6 => lt (u2 + 1) fun v7 => lp v6 v7 else lt (u2 + 1) fun v3 => lp u1 v3
def LX0_cases_4 (x : XS) : Nat → Int32 → Int32 → Option (Int32)
  | 0, _, _ => none
  | n + 1, u1, u2 => BX0_cases_4 x (LX0_cases_4 x n) u1 u2
def fX0_cases (x : XS) : Option (Int32) := Option.bind (LX0_cases_4 x NF 1 0) fun v8 => some v8
set_option maxHeartbeats 4000000 in
set_option maxRecDepth 100000 in
theorem lX0_cases_4 {p : Program} {l : Launch} {e : Env} {R : Room} {s : State} {m : MethodId} {args : Array Value} {below : List Frame} {meth : Method} {c : Code} {cells slots : Nat} {Q : State → Prop} {G : xG} {β : Nat} {D : Nat → Prop} (C : Cx p s m args meth c RX0 cX0_cases 3 (some .int) (KK G)) (hRf : 1 ≤ R.frames) (hRl : 21 ≤ R.locals) (hcs : cells ≤ R.cells ∧ slots ≤ R.slots) (hf : Fz D G s.heap) (x : XS) : ∀ (n : Nat) (u1 : Int32) (u2 : Int32) (J : Int32) (H : Heap) (locs : List Loc) (ls : Array Slot), LX0_cases_4 x n u1 u2 = some J → CW β D G x H → va_S D s.heap H locs → lv_has ls 3 [(0, .ref (β + 16)), (1, .int u1), (2, .int u2)] → (∀ (w1 : Int32), J = w1 → ∀ (H : Heap) (locs : List Loc) (ls : Array Slot), CW β D G x H → va_S D s.heap H locs → lv_has ls 3 [(1, .int w1)] → W p l e R s m args below meth c H locs cells slots Q (F0 m 31 ls [])) → W p l e R s m args below meth c H locs cells slots Q (F0 m 4 ls []) := by
  have hx := C.1
  have hb := C.2.1
  have ho := C.2.2.2.1
  have hts := C.2.2.2.2.1
  intro n
  induction n with
  | zero =>
    intro u1 u2 J H locs ls hm
    exact absurd hm (by simp [LX0_cases_4])
  | succ n ih =>
    intro u1 u2 J H locs ls hm hw hS hl ke
    replace hm : BX0_cases_4 x (LX0_cases_4 x n) u1 u2 = some J := hm
    unfold BX0_cases_4 at hm
    refine lv_iload_n hx hb dX0_cases_4 rfl (lv_at hl 2 rfl) ?_
    refine lv_bipush (v := 10) hx hb dX0_cases_5 (by decide) ?_
    refine lv_icmp_ge (tgt := 31) hx hb dX0_cases_7 (by decide) (fun cc => ?_) (fun cc => ?_)
    · replace hm := ite_p cc hm
      exact ke _ (Option.some.inj hm).symm _ _ _ hw hS (lv_sub hl [1] rfl)
    · replace hm := ite_n cc hm
      refine lv_aload_n hx hb dX0_cases_10 rfl (lv_at hl 0 rfl) ?_
      refine lv_iload_n hx hb dX0_cases_11 rfl (lv_at hl 2 rfl) ?_
      obtain ⟨v1, h2, hm⟩ := bind_e hm
      refine sX0_34 C h2 hw hS hl.1 (Nat.le_of_ble_eq_true rfl) (Nat.le_trans (Nat.le_of_ble_eq_true rfl) hRf) (Nat.le_trans (Nat.le_of_ble_eq_true rfl) hRl) hcs dX0_cases_12 (fun H locs hw hS => ?_)
      refine x_ifeqB hx hb dX0_cases_15 (tgt := 25) (by decide) (fun cc => ?_) (fun cc => ?_)
      · replace hm := ite_n cc hm
        obtain ⟨v3, ev, hm⟩ := lt_e hm
        refine lv_iinc (v := v3) (lv' := [(2, .int v3), (0, .ref (β + 16)), (1, .int u1)]) hx hb dX0_cases_25 hl (k := 2) rfl (by rw [ev]; rfl) (by decide) rfl (fun ls hl => ?_)
        clear ev
        refine lv_goto (tgt := 4) hx hb dX0_cases_28 (by decide) ?_
        exact ih _ _ _ _ _ _ hm hw hS (lv_sub hl [1, 2, 0] rfl) ke
      · replace hm := ite_p cc hm
        refine lv_iload_n hx hb dX0_cases_18 rfl (lv_at hl 1 rfl) ?_
        refine lv_aload_n hx hb dX0_cases_19 rfl (lv_at hl 0 rfl) ?_
        obtain ⟨v4, h5, hm⟩ := bind_e hm
        refine sX0_38 C h5 hw hS hl.1 (Nat.le_of_ble_eq_true rfl) (Nat.le_trans (Nat.le_of_ble_eq_true rfl) hRf) (Nat.le_trans (Nat.le_of_ble_eq_true rfl) hRl) hcs dX0_cases_20 (fun H locs hw hS => ?_)
        refine lv_imul hx hb dX0_cases_23 ?_
        refine topI hm (fun v6 hm => ?_)
        refine lv_istore_n (lv' := [(1, .int v6), (0, .ref (β + 16)), (2, .int u2)]) hx hb dX0_cases_24 rfl hl (by decide) rfl (fun ls hl => ?_)
        obtain ⟨v7, ev, hm⟩ := lt_e hm
        refine lv_iinc (v := v7) (lv' := [(2, .int v7), (1, .int v6), (0, .ref (β + 16))]) hx hb dX0_cases_25 hl (k := 2) rfl (by rw [ev]; rfl) (by decide) rfl (fun ls hl => ?_)
        clear ev
        refine lv_goto (tgt := 4) hx hb dX0_cases_28 (by decide) ?_
        exact ih _ _ _ _ _ _ hm hw hS (lv_sub hl [2, 1, 0] rfl) ke
abbrev rmX0_cases : Room := { frames := 1, cells := 0, slots := 0, locals := 21 }
set_option maxHeartbeats 4000000 in
set_option maxRecDepth 100000 in
theorem kX0_cases {l : Launch} {G : xG} {β : Nat} {D : Nat → Prop} {x : XS} {r : Int32} (hm : fX0_cases x = some r) : Met l yX0_cases (.code yX0_cases cX0_cases 3 (some .int) :: GT) rmX0_cases (PcW [.ref (β + 16)] (CW β D G x) (KK G)) (QcW D (some (.int r)) (CW β D G x)) 0 0 D := by
  unfold fX0_cases at hm
  refine xpro (own := RX0) (by decide +kernel) rfl (Nat.le_of_ble_eq_true rfl) ?_
  intro p e s m args below meth c C hw ls hl
  have hx := C.1
  have hb := C.2.1
  have ho := C.2.2.2.1
  have hts := C.2.2.2.2.1
  have hf : Fz D G s.heap := hw.2.2.2.2
  have hS : va_S D s.heap s.heap [] := va_S.rf
  have hl : lv_has ls 3 [(0, .ref (β + 16))] := hl
  have hRf : 1 ≤ rmX0_cases.frames := Nat.le_refl _
  have hRl : 21 ≤ rmX0_cases.locals := Nat.le_refl _
  have hcs : 0 ≤ rmX0_cases.cells ∧ 0 ≤ rmX0_cases.slots := ⟨Nat.le_refl _, Nat.le_refl _⟩
  refine lv_iconst (v := 1) hx hb dX0_cases_0 (by decide) ?_
  refine lv_istore_n (lv' := [(1, .int 1), (0, .ref (β + 16))]) hx hb dX0_cases_1 rfl hl (by decide) rfl (fun ls hl => ?_)
  refine lv_iconst (v := 0) hx hb dX0_cases_2 (by decide) ?_
  refine lv_istore_n (lv' := [(2, .int 0), (1, .int 1), (0, .ref (β + 16))]) hx hb dX0_cases_3 rfl hl (by decide) rfl (fun ls hl => ?_)
  obtain ⟨v8, hj, hm⟩ := bind_e hm
  refine lX0_cases_4 C hRf hRl hcs hf x NF _ _ _ _ _ _ hj hw hS (lv_sub hl [2, 1, 0] rfl) (fun v8_ e0 H locs ls hw hS hl => ?_)
  cases e0
  refine lv_iload_n hx hb dX0_cases_31 rfl (lv_at hl 0 rfl) ?_
  obtain rfl := Option.some.inj hm
  exact xret_i C hw hS dX0_cases_32
theorem dX0_addWays_0 : decode cX0_addWays 0 = .ok (.aload_n 0, 1) := by decide +kernel
theorem dX0_addWays_1 : decode cX0_addWays 1 = .ok (.getfield 18, 3) := by decide +kernel
theorem dX0_addWays_4 : decode cX0_addWays 4 = .ok (.arraylength, 1) := by decide +kernel
theorem dX0_addWays_5 : decode cX0_addWays 5 = .ok (.iconst 1, 1) := by decide +kernel
theorem dX0_addWays_6 : decode cX0_addWays 6 = .ok (.isub, 1) := by decide +kernel
theorem dX0_addWays_7 : decode cX0_addWays 7 = .ok (.istore_n 3, 1) := by decide +kernel
theorem dX0_addWays_8 : decode cX0_addWays 8 = .ok (.iload_n 3, 1) := by decide +kernel
theorem dX0_addWays_9 : decode cX0_addWays 9 = .ok (.ifCond .le 34, 3) := by decide +kernel
theorem dX0_addWays_12 : decode cX0_addWays 12 = .ok (.aload_n 0, 1) := by decide +kernel
theorem dX0_addWays_13 : decode cX0_addWays 13 = .ok (.getfield 18, 3) := by decide +kernel
theorem dX0_addWays_16 : decode cX0_addWays 16 = .ok (.iload_n 3, 1) := by decide +kernel
theorem dX0_addWays_17 : decode cX0_addWays 17 = .ok (.aload_n 0, 1) := by decide +kernel
theorem dX0_addWays_18 : decode cX0_addWays 18 = .ok (.getfield 18, 3) := by decide +kernel
theorem dX0_addWays_21 : decode cX0_addWays 21 = .ok (.iload_n 3, 1) := by decide +kernel
theorem dX0_addWays_22 : decode cX0_addWays 22 = .ok (.iaload, 1) := by decide +kernel
theorem dX0_addWays_23 : decode cX0_addWays 23 = .ok (.iload_n 2, 1) := by decide +kernel
theorem dX0_addWays_24 : decode cX0_addWays 24 = .ok (.imul, 1) := by decide +kernel
theorem dX0_addWays_25 : decode cX0_addWays 25 = .ok (.aload_n 0, 1) := by decide +kernel
theorem dX0_addWays_26 : decode cX0_addWays 26 = .ok (.getfield 18, 3) := by decide +kernel
theorem dX0_addWays_29 : decode cX0_addWays 29 = .ok (.iload_n 3, 1) := by decide +kernel
theorem dX0_addWays_30 : decode cX0_addWays 30 = .ok (.iconst 1, 1) := by decide +kernel
theorem dX0_addWays_31 : decode cX0_addWays 31 = .ok (.isub, 1) := by decide +kernel
theorem dX0_addWays_32 : decode cX0_addWays 32 = .ok (.iaload, 1) := by decide +kernel
theorem dX0_addWays_33 : decode cX0_addWays 33 = .ok (.iload_n 1, 1) := by decide +kernel
theorem dX0_addWays_34 : decode cX0_addWays 34 = .ok (.imul, 1) := by decide +kernel
theorem dX0_addWays_35 : decode cX0_addWays 35 = .ok (.iadd, 1) := by decide +kernel
theorem dX0_addWays_36 : decode cX0_addWays 36 = .ok (.iastore, 1) := by decide +kernel
theorem dX0_addWays_37 : decode cX0_addWays 37 = .ok (.iinc 3 (-1), 3) := by decide +kernel
theorem dX0_addWays_40 : decode cX0_addWays 40 = .ok (.goto (-32), 3) := by decide +kernel
theorem dX0_addWays_43 : decode cX0_addWays 43 = .ok (.aload_n 0, 1) := by decide +kernel
theorem dX0_addWays_44 : decode cX0_addWays 44 = .ok (.getfield 18, 3) := by decide +kernel
theorem dX0_addWays_47 : decode cX0_addWays 47 = .ok (.iconst 0, 1) := by decide +kernel
theorem dX0_addWays_48 : decode cX0_addWays 48 = .ok (.dup2, 1) := by decide +kernel
theorem dX0_addWays_49 : decode cX0_addWays 49 = .ok (.iaload, 1) := by decide +kernel
theorem dX0_addWays_50 : decode cX0_addWays 50 = .ok (.iload_n 2, 1) := by decide +kernel
theorem dX0_addWays_51 : decode cX0_addWays 51 = .ok (.imul, 1) := by decide +kernel
theorem dX0_addWays_52 : decode cX0_addWays 52 = .ok (.iastore, 1) := by decide +kernel
theorem dX0_addWays_53 : decode cX0_addWays 53 = .ok (.return_, 1) := by decide +kernel
theorem gX0_18 {p : Program} {l : Launch} {e : Env} {R : Room} {s : State} {m : MethodId} {args : Array Value} {below : List Frame} {meth : Method} {c : Code} {H : Heap} {locs : List Loc} {cells slots : Nat} {Q : State → Prop} {cc : ByteArray} {pc nL : Nat} {ls : Array Slot} {rest : List Value} {ret : Option FieldType} {G : xG} {β : Nat} {D : Nat → Prop} {x : XS} (C : Cx p s m args meth c RX0 cc nL ret (KK G)) (hw : CW β D G x H) (hd : decode cc pc = .ok (.getfield 18, 3)) (kk : W p l e R s m args below meth c H locs cells slots Q (F0 m (pc + 3) ls (.ref (β + 19) :: rest))) : W p l e R s m args below meth c H locs cells slots Q (F0 m pc ls (.ref (β + 16) :: rest)) :=
  va_get C.1 C.2.1 C.2.2.2.2.1 iwX0 C.2.2.2.1 C.K.1 (xP1 (hw.2.2.1 16 (by decide))) 0 rfl rfl 2 (by decide) (C.2.2.2.2.1 (.fieldLink RX0 18 RX0 "ways" "[I") (tg 134 (by decide +kernel) rfl)) (fun _ h9 => h9) rfl hd kk
theorem anX_19 {p : Program} {l : Launch} {e : Env} {R : Room} {s : State} {m : MethodId} {args : Array Value} {below : List Frame} {meth : Method} {c : Code} {H : Heap} {locs : List Loc} {cells slots : Nat} {Q : State → Prop} {cc : ByteArray} {pc nL : Nat} {ls : Array Slot} {rest : List Value} {ret : Option FieldType} {G : xG} {β : Nat} {D : Nat → Prop} {x : XS} {own : String} (C : Cx p s m args meth c own cc nL ret (KK G)) (hw : CW β D G x H) (hd : decode cc pc = .ok (.arraylength, 1)) (kk : W p l e R s m args below meth c H locs cells slots Q (F0 m (pc + 1) ls (.int 5 :: rest))) : W p l e R s m args below meth c H locs cells slots Q (F0 m pc ls (.ref (β + 19) :: rest)) :=
  va_alen C.1 C.2.1 C.K.1 (xP1 (hw.2.2.1 19 (by decide))) 0 0 rfl rfl rfl hd kk
theorem alX_19 {p : Program} {l : Launch} {e : Env} {R : Room} {s : State} {m : MethodId} {args : Array Value} {below : List Frame} {meth : Method} {c : Code} {H : Heap} {locs : List Loc} {cells slots : Nat} {Q : State → Prop} {cc : ByteArray} {pc nL : Nat} {ls : Array Slot} {rest : List Value} {ret : Option FieldType} {G : xG} {β : Nat} {D : Nat → Prop} {x : XS} {own : String} {i : Int32} (C : Cx p s m args meth c own cc nL ret (KK G)) (hw : CW β D G x H) (hin : ib i 5) (hd : decode cc pc = .ok (.iaload, 1)) (kk : W p l e R s m args below meth c H locs cells slots Q (F0 m (pc + 1) ls (.int (x.2.1 19 i.toNatClampNeg) :: rest))) : W p l e R s m args below meth c H locs cells slots Q (F0 m pc ls (.int i :: .ref (β + 19) :: rest)) :=
  va_iald C.1 C.2.1 C.K.1 (xP1 (hw.2.2.1 19 (by decide))) 0 0 rfl rfl hin hd kk
theorem asX_19 {p : Program} {l : Launch} {e : Env} {R : Room} {s : State} {m : MethodId} {args : Array Value} {below : List Frame} {meth : Method} {c : Code} {H : Heap} {locs : List Loc} {cells slots : Nat} {Q : State → Prop} {cc : ByteArray} {pc nL : Nat} {ls : Array Slot} {rest : List Value} {ret : Option FieldType} {G : xG} {β : Nat} {D : Nat → Prop} {x : XS} {own : String} {i : Int32} {v : Int32} (C : Cx p s m args meth c own cc nL ret (KK G)) (hw : CW β D G x H) (hS : va_S D s.heap H locs) (hin : ib i 5) (hd : decode cc pc = .ok (.iastore, 1)) (kk : ∀ (H1 : Heap) (locs1 : List Loc), CW β D G (xsA x 19 i.toNatClampNeg v) H1 → va_S D s.heap H1 locs1 → W p l e R s m args below meth c H1 locs1 cells slots Q (F0 m (pc + 1) ls (rest))) : W p l e R s m args below meth c H locs cells slots Q (F0 m pc ls (.int v :: .int i :: .ref (β + 19) :: rest)) :=
  x_iast C.1 C.2.1 C.K.1 hS 0 (hw.2.2.1 19 (by decide)) (hw.2.1 19 (by decide)) rfl hin hd (fun H1 locs1 hat ho hS => kk H1 locs1 (hw.setA 19 _ _ hat ho) hS)
def BX0_addWays_8 (q1 : Int32) (q2 : Int32) (lp : Int32 → XS → Option (XS)) (u3 : Int32) (x : XS) : Option (XS) := if u3 ≤ 0 then some x else if ib u3 5 then if ib (u3 - 1) 5 then if ib u3 5 then lt (xsA x 19 u3.toNatClampNeg (((x.2.1 19 u3.toNatClampNeg) * q2) + ((x.2.1 19 (u3 - 1).toNatClampNeg) * q1))) fun x5 => lt (u3 + (-1)) fun v6 => lp v6 x5 else none else none else none
def LX0_addWays_8 (q1 : Int32) (q2 : Int32) : Nat → Int32 → XS → Option (XS)
  | 0, _, _ => none
  | n + 1, u3, x => BX0_addWays_8 q1 q2 (LX0_addWays_8 q1 q2 n) u3 x
def fX0_addWays (x : XS) (a1 : Int32) (a2 : Int32) : Option (XS) := lt (5 - 1) fun v1 => Option.bind (LX0_addWays_8 a1 a2 NF v1 x) fun x7 => if ib 0 5 then if ib 0 5 then lt (xsA x7 19 (0 : Int32).toNatClampNeg ((x7.2.1 19 (0 : Int32).toNatClampNeg) * a2)) fun x10 => some x10 else none else none
set_option maxHeartbeats 4000000 in
set_option maxRecDepth 100000 in
theorem lX0_addWays_8 {p : Program} {l : Launch} {e : Env} {R : Room} {s : State} {m : MethodId} {args : Array Value} {below : List Frame} {meth : Method} {c : Code} {cells slots : Nat} {Q : State → Prop} {G : xG} {β : Nat} {D : Nat → Prop} (C : Cx p s m args meth c RX0 cX0_addWays 4 none (KK G)) (hRf : 0 ≤ R.frames) (hRl : 0 ≤ R.locals) (hcs : cells ≤ R.cells ∧ slots ≤ R.slots) (hf : Fz D G s.heap) (q1 : Int32) (q2 : Int32) : ∀ (n : Nat) (u3 : Int32) (x : XS) (J : XS) (H : Heap) (locs : List Loc) (ls : Array Slot), LX0_addWays_8 q1 q2 n u3 x = some J → CW β D G x H → va_S D s.heap H locs → lv_has ls 4 [(0, .ref (β + 16)), (1, .int q1), (2, .int q2), (3, .int u3)] → (∀ (x1 : XS), J = x1 → ∀ (H : Heap) (locs : List Loc) (ls : Array Slot), CW β D G x1 H → va_S D s.heap H locs → lv_has ls 4 [(0, .ref (β + 16)), (2, .int q2)] → W p l e R s m args below meth c H locs cells slots Q (F0 m 43 ls [])) → W p l e R s m args below meth c H locs cells slots Q (F0 m 8 ls []) := by
  have hx := C.1
  have hb := C.2.1
  have ho := C.2.2.2.1
  have hts := C.2.2.2.2.1
  intro n
  induction n with
  | zero =>
    intro u3 x J H locs ls hm
    exact absurd hm (by simp [LX0_addWays_8])
  | succ n ih =>
    intro u3 x J H locs ls hm hw hS hl ke
    replace hm : BX0_addWays_8 q1 q2 (LX0_addWays_8 q1 q2 n) u3 x = some J := hm
    unfold BX0_addWays_8 at hm
    refine lv_iload_n hx hb dX0_addWays_8 rfl (lv_at hl 3 rfl) ?_
    refine lv_if_le (tgt := 43) hx hb dX0_addWays_9 (by decide) (fun cc => ?_) (fun cc => ?_)
    · replace hm := ite_p cc hm
      exact ke _ (Option.some.inj hm).symm _ _ _ hw hS (lv_sub hl [0, 2] rfl)
    · replace hm := ite_n cc hm
      refine lv_aload_n hx hb dX0_addWays_12 rfl (lv_at hl 0 rfl) ?_
      refine gX0_18 C hw dX0_addWays_13 ?_
      refine lv_iload_n hx hb dX0_addWays_16 rfl (lv_at hl 3 rfl) ?_
      refine lv_aload_n hx hb dX0_addWays_17 rfl (lv_at hl 0 rfl) ?_
      refine gX0_18 C hw dX0_addWays_18 ?_
      refine lv_iload_n hx hb dX0_addWays_21 rfl (lv_at hl 3 rfl) ?_
      obtain ⟨h2, hm⟩ := chk_e hm
      refine alX_19 C hw h2 dX0_addWays_22 ?_
      refine lv_iload_n hx hb dX0_addWays_23 rfl (lv_at hl 2 rfl) ?_
      refine lv_imul hx hb dX0_addWays_24 ?_
      refine lv_aload_n hx hb dX0_addWays_25 rfl (lv_at hl 0 rfl) ?_
      refine gX0_18 C hw dX0_addWays_26 ?_
      refine lv_iload_n hx hb dX0_addWays_29 rfl (lv_at hl 3 rfl) ?_
      refine lv_iconst (v := 1) hx hb dX0_addWays_30 (by decide) ?_
      refine lv_isub hx hb dX0_addWays_31 ?_
      obtain ⟨h3, hm⟩ := chk_e hm
      refine alX_19 C hw h3 dX0_addWays_32 ?_
      refine lv_iload_n hx hb dX0_addWays_33 rfl (lv_at hl 1 rfl) ?_
      refine lv_imul hx hb dX0_addWays_34 ?_
      refine lv_iadd hx hb dX0_addWays_35 ?_
      obtain ⟨h4, hm⟩ := chk_e hm
      refine asX_19 C hw hS h4 dX0_addWays_36 (fun H locs hw hS => ?_)
      obtain ⟨x5, ev, hm⟩ := lt_e hm
      rw [← ev] at hw
      clear ev
      obtain ⟨v6, ev, hm⟩ := lt_e hm
      refine lv_iinc (v := v6) (lv' := [(3, .int v6), (0, .ref (β + 16)), (1, .int q1), (2, .int q2)]) hx hb dX0_addWays_37 hl (k := 3) rfl (by rw [ev]; rfl) (by decide) rfl (fun ls hl => ?_)
      clear ev
      refine lv_goto (tgt := 8) hx hb dX0_addWays_40 (by decide) ?_
      exact ih _ _ _ _ _ _ hm hw hS (lv_sub hl [1, 2, 3, 0] rfl) ke
abbrev rmX0_addWays : Room := { frames := 0, cells := 0, slots := 0, locals := 0 }
set_option maxHeartbeats 4000000 in
set_option maxRecDepth 100000 in
theorem kX0_addWays {l : Launch} {G : xG} {β : Nat} {D : Nat → Prop} {x x' : XS} {a1 : Int32} {a2 : Int32} (hm : fX0_addWays x a1 a2 = some x') : Met l yX0_addWays (.code yX0_addWays cX0_addWays 4 none :: GT) rmX0_addWays (PcW [.ref (β + 16), .int a1, .int a2] (CW β D G x) (KK G)) (QcW D none (CW β D G x')) 0 0 D := by
  unfold fX0_addWays at hm
  refine xpro (own := RX0) (by decide +kernel) rfl (Nat.le_of_ble_eq_true rfl) ?_
  intro p e s m args below meth c C hw ls hl
  have hx := C.1
  have hb := C.2.1
  have ho := C.2.2.2.1
  have hts := C.2.2.2.2.1
  have hf : Fz D G s.heap := hw.2.2.2.2
  have hS : va_S D s.heap s.heap [] := va_S.rf
  have hl : lv_has ls 4 [(0, .ref (β + 16)), (1, .int a1), (2, .int a2)] := hl
  have hRf : 0 ≤ rmX0_addWays.frames := Nat.le_refl _
  have hRl : 0 ≤ rmX0_addWays.locals := Nat.le_refl _
  have hcs : 0 ≤ rmX0_addWays.cells ∧ 0 ≤ rmX0_addWays.slots := ⟨Nat.le_refl _, Nat.le_refl _⟩
  refine lv_aload_n hx hb dX0_addWays_0 rfl (lv_at hl 0 rfl) ?_
  refine gX0_18 C hw dX0_addWays_1 ?_
  refine anX_19 C hw dX0_addWays_4 ?_
  refine lv_iconst (v := 1) hx hb dX0_addWays_5 (by decide) ?_
  refine lv_isub hx hb dX0_addWays_6 ?_
  refine topI hm (fun v1 hm => ?_)
  refine lv_istore_n (lv' := [(3, .int v1), (0, .ref (β + 16)), (1, .int a1), (2, .int a2)]) hx hb dX0_addWays_7 rfl hl (by decide) rfl (fun ls hl => ?_)
  obtain ⟨x7, hj, hm⟩ := bind_e hm
  refine lX0_addWays_8 C hRf hRl hcs hf a1 a2 NF _ _ _ _ _ _ hj hw hS (lv_sub hl [1, 2, 3, 0] rfl) (fun x7_ e0 H locs ls hw hS hl => ?_)
  cases e0
  refine lv_aload_n hx hb dX0_addWays_43 rfl (lv_at hl 0 rfl) ?_
  refine gX0_18 C hw dX0_addWays_44 ?_
  refine lv_iconst (v := 0) hx hb dX0_addWays_47 (by decide) ?_
  refine lv_dup2_11 hx hb dX0_addWays_48 rfl rfl ?_
  obtain ⟨h8, hm⟩ := chk_e hm
  refine alX_19 C hw h8 dX0_addWays_49 ?_
  refine lv_iload_n hx hb dX0_addWays_50 rfl (lv_at hl 1 rfl) ?_
  refine lv_imul hx hb dX0_addWays_51 ?_
  obtain ⟨h9, hm⟩ := chk_e hm
  refine asX_19 C hw hS h9 dX0_addWays_52 (fun H locs hw hS => ?_)
  obtain ⟨x10, ev, hm⟩ := lt_e hm
  rw [← ev] at hw
  clear ev
  obtain rfl := Option.some.inj hm
  exact xret_v C hw hS dX0_addWays_53
theorem dX8_bounded_0 : decode cX8_bounded 0 = .ok (.iload_n 1, 1) := by decide +kernel
theorem dX8_bounded_1 : decode cX8_bounded 1 = .ok (.iload_n 2, 1) := by decide +kernel
theorem dX8_bounded_2 : decode cX8_bounded 2 = .ok (.iload_n 0, 1) := by decide +kernel
theorem dX8_bounded_3 : decode cX8_bounded 3 = .ok (.invokestatic 290, 3) := by decide +kernel
theorem dX8_bounded_6 : decode cX8_bounded 6 = .ok (.invokestatic 357, 3) := by decide +kernel
theorem dX8_bounded_9 : decode cX8_bounded 9 = .ok (.ireturn, 1) := by decide +kernel
theorem mmX8_290 {p : Program} {l : Launch} {e : Env} {R : Room} {s : State} {m : MethodId} {args : Array Value} {below : List Frame} {meth : Method} {c : Code} {H : Heap} {locs : List Loc} {cells slots : Nat} {Q : State → Prop} {cc : ByteArray} {pc nL : Nat} {ls : Array Slot} {rest : List Value} {ret : Option FieldType} {G : xG} {a b : Int32} (C : Cx p s m args meth c RX8 cc nL ret (KK G)) (hsz : ls.size = nL) (hR : 1 ≤ R.frames) (hR2 : (rest.map fun v => v.category).sum + 13 ≤ R.locals) (hcs : cells ≤ R.cells ∧ slots ≤ R.slots) (hd : decode cc pc = .ok (.invokestatic 290, 3)) (kk : W p l e R s m args below meth c H locs cells slots Q (F0 m (pc + 3) ls (.int (imin a b) :: rest))) : W p l e R s m args below meth c H locs cells slots Q (F0 m pc ls (.int b :: .int a :: rest)) :=
  va_mmin C.1 C.2.1 (C.2.2.1.trans hsz.symm) C.2.2.2.1 (C.2.2.2.2.1 (.methodLink RX8 290 Lib.Math.min.name) (tg 547 (by decide +kernel) rfl)) (C.2.2.2.2.1 (.static Lib.Math.min.name) (tg 319 (by decide +kernel) rfl)) (C.2.2.2.2.1 (.initialized "java/lang/Math") (tg 12 (by decide +kernel) rfl)) (C.2.2.2.2.1 (.code Lib.Math.min.name Lib.Math.min.code 2 (some .int)) (tg 320 (by decide +kernel) rfl)) hR hR2 hcs.1 hcs.2 hd kk
theorem mmX8_357 {p : Program} {l : Launch} {e : Env} {R : Room} {s : State} {m : MethodId} {args : Array Value} {below : List Frame} {meth : Method} {c : Code} {H : Heap} {locs : List Loc} {cells slots : Nat} {Q : State → Prop} {cc : ByteArray} {pc nL : Nat} {ls : Array Slot} {rest : List Value} {ret : Option FieldType} {G : xG} {a b : Int32} (C : Cx p s m args meth c RX8 cc nL ret (KK G)) (hsz : ls.size = nL) (hR : 1 ≤ R.frames) (hR2 : (rest.map fun v => v.category).sum + 13 ≤ R.locals) (hcs : cells ≤ R.cells ∧ slots ≤ R.slots) (hd : decode cc pc = .ok (.invokestatic 357, 3)) (kk : W p l e R s m args below meth c H locs cells slots Q (F0 m (pc + 3) ls (.int (imax a b) :: rest))) : W p l e R s m args below meth c H locs cells slots Q (F0 m pc ls (.int b :: .int a :: rest)) :=
  va_mmax C.1 C.2.1 (C.2.2.1.trans hsz.symm) C.2.2.2.1 (C.2.2.2.2.1 (.methodLink RX8 357 Lib.Math.max.name) (tg 548 (by decide +kernel) rfl)) (C.2.2.2.2.1 (.static Lib.Math.max.name) (tg 549 (by decide +kernel) rfl)) (C.2.2.2.2.1 (.initialized "java/lang/Math") (tg 12 (by decide +kernel) rfl)) (C.2.2.2.2.1 (.code Lib.Math.max.name Lib.Math.max.code 2 (some .int)) (tg 550 (by decide +kernel) rfl)) hR hR2 hcs.1 hcs.2 hd kk
def fX8_bounded (a1 : Int32) (a2 : Int32) (a3 : Int32) : Option (Int32) := some (imax a2 (imin a3 a1))
abbrev rmX8_bounded : Room := { frames := 1, cells := 0, slots := 0, locals := 21 }
set_option maxHeartbeats 4000000 in
set_option maxRecDepth 100000 in
theorem kX8_bounded {l : Launch} {G : xG} {β : Nat} {D : Nat → Prop} {x : XS} {a1 : Int32} {a2 : Int32} {a3 : Int32} {r : Int32} (hm : fX8_bounded a1 a2 a3 = some r) : Met l yX8_bounded (.code yX8_bounded cX8_bounded 3 (some .int) :: GT) rmX8_bounded (PcW [.int a1, .int a2, .int a3] (CW β D G x) (KK G)) (QcW D (some (.int r)) (CW β D G x)) 0 0 D := by
  unfold fX8_bounded at hm
  refine xpro (own := RX8) (by decide +kernel) rfl (Nat.le_of_ble_eq_true rfl) ?_
  intro p e s m args below meth c C hw ls hl
  have hx := C.1
  have hb := C.2.1
  have ho := C.2.2.2.1
  have hts := C.2.2.2.2.1
  have hf : Fz D G s.heap := hw.2.2.2.2
  have hS : va_S D s.heap s.heap [] := va_S.rf
  have hl : lv_has ls 3 [(0, .int a1), (1, .int a2), (2, .int a3)] := hl
  have hRf : 1 ≤ rmX8_bounded.frames := Nat.le_refl _
  have hRl : 21 ≤ rmX8_bounded.locals := Nat.le_refl _
  have hcs : 0 ≤ rmX8_bounded.cells ∧ 0 ≤ rmX8_bounded.slots := ⟨Nat.le_refl _, Nat.le_refl _⟩
  refine lv_iload_n hx hb dX8_bounded_0 rfl (lv_at hl 1 rfl) ?_
  refine lv_iload_n hx hb dX8_bounded_1 rfl (lv_at hl 2 rfl) ?_
  refine lv_iload_n hx hb dX8_bounded_2 rfl (lv_at hl 0 rfl) ?_
  refine mmX8_290 C hl.1 (Nat.le_trans (Nat.le_of_ble_eq_true rfl) hRf) (Nat.le_trans (Nat.le_of_ble_eq_true rfl) hRl) hcs dX8_bounded_3 ?_
  refine mmX8_357 C hl.1 (Nat.le_trans (Nat.le_of_ble_eq_true rfl) hRf) (Nat.le_trans (Nat.le_of_ble_eq_true rfl) hRl) hcs dX8_bounded_6 ?_
  obtain rfl := Option.some.inj hm
  exact xret_i C hw hS dX8_bounded_9
theorem dX0_countWays_0 : decode cX0_countWays 0 = .ok (.aload_n 0, 1) := by decide +kernel
theorem dX0_countWays_1 : decode cX0_countWays 1 = .ok (.getfield 18, 3) := by decide +kernel
theorem dX0_countWays_4 : decode cX0_countWays 4 = .ok (.iconst 0, 1) := by decide +kernel
theorem dX0_countWays_5 : decode cX0_countWays 5 = .ok (.invokestatic 50, 3) := by decide +kernel
theorem dX0_countWays_8 : decode cX0_countWays 8 = .ok (.aload_n 0, 1) := by decide +kernel
theorem dX0_countWays_9 : decode cX0_countWays 9 = .ok (.getfield 18, 3) := by decide +kernel
theorem dX0_countWays_12 : decode cX0_countWays 12 = .ok (.iconst 0, 1) := by decide +kernel
theorem dX0_countWays_13 : decode cX0_countWays 13 = .ok (.iconst 1, 1) := by decide +kernel
theorem dX0_countWays_14 : decode cX0_countWays 14 = .ok (.iastore, 1) := by decide +kernel
theorem dX0_countWays_15 : decode cX0_countWays 15 = .ok (.iconst 0, 1) := by decide +kernel
theorem dX0_countWays_16 : decode cX0_countWays 16 = .ok (.istore 4, 2) := by decide +kernel
theorem dX0_countWays_18 : decode cX0_countWays 18 = .ok (.iload 4, 2) := by decide +kernel
theorem dX0_countWays_20 : decode cX0_countWays 20 = .ok (.bipush 10, 2) := by decide +kernel
theorem dX0_countWays_22 : decode cX0_countWays 22 = .ok (.if_icmp .ge 110, 3) := by decide +kernel
theorem dX0_countWays_25 : decode cX0_countWays 25 = .ok (.iload 4, 2) := by decide +kernel
theorem dX0_countWays_27 : decode cX0_countWays 27 = .ok (.iload_n 1, 1) := by decide +kernel
theorem dX0_countWays_28 : decode cX0_countWays 28 = .ok (.if_icmp .eq 98, 3) := by decide +kernel
theorem dX0_countWays_31 : decode cX0_countWays 31 = .ok (.aload_n 0, 1) := by decide +kernel
theorem dX0_countWays_32 : decode cX0_countWays 32 = .ok (.iload 4, 2) := by decide +kernel
theorem dX0_countWays_34 : decode cX0_countWays 34 = .ok (.invokevirtual 34, 3) := by decide +kernel
theorem dX0_countWays_37 : decode cX0_countWays 37 = .ok (.ifCond .eq 89, 3) := by decide +kernel
theorem dX0_countWays_40 : decode cX0_countWays 40 = .ok (.aload_n 0, 1) := by decide +kernel
theorem dX0_countWays_41 : decode cX0_countWays 41 = .ok (.getfield 9, 3) := by decide +kernel
theorem dX0_countWays_44 : decode cX0_countWays 44 = .ok (.iload 4, 2) := by decide +kernel
theorem dX0_countWays_46 : decode cX0_countWays 46 = .ok (.iaload, 1) := by decide +kernel
theorem dX0_countWays_47 : decode cX0_countWays 47 = .ok (.aload_n 0, 1) := by decide +kernel
theorem dX0_countWays_48 : decode cX0_countWays 48 = .ok (.getfield 31, 3) := by decide +kernel
theorem dX0_countWays_51 : decode cX0_countWays 51 = .ok (.iadd, 1) := by decide +kernel
theorem dX0_countWays_52 : decode cX0_countWays 52 = .ok (.iload_n 2, 1) := by decide +kernel
theorem dX0_countWays_53 : decode cX0_countWays 53 = .ok (.isub, 1) := by decide +kernel
theorem dX0_countWays_54 : decode cX0_countWays 54 = .ok (.iconst 0, 1) := by decide +kernel
theorem dX0_countWays_55 : decode cX0_countWays 55 = .ok (.aload_n 0, 1) := by decide +kernel
theorem dX0_countWays_56 : decode cX0_countWays 56 = .ok (.invokevirtual 38, 3) := by decide +kernel
theorem dX0_countWays_59 : decode cX0_countWays 59 = .ok (.invokestatic 56, 3) := by decide +kernel
theorem dX0_countWays_62 : decode cX0_countWays 62 = .ok (.istore 5, 2) := by decide +kernel
theorem dX0_countWays_64 : decode cX0_countWays 64 = .ok (.aload_n 0, 1) := by decide +kernel
theorem dX0_countWays_65 : decode cX0_countWays 65 = .ok (.getfield 9, 3) := by decide +kernel
theorem dX0_countWays_68 : decode cX0_countWays 68 = .ok (.iload 4, 2) := by decide +kernel
theorem dX0_countWays_70 : decode cX0_countWays 70 = .ok (.iaload, 1) := by decide +kernel
theorem dX0_countWays_71 : decode cX0_countWays 71 = .ok (.iload_n 2, 1) := by decide +kernel
theorem dX0_countWays_72 : decode cX0_countWays 72 = .ok (.isub, 1) := by decide +kernel
theorem dX0_countWays_73 : decode cX0_countWays 73 = .ok (.invokestatic 60, 3) := by decide +kernel
theorem dX0_countWays_76 : decode cX0_countWays 76 = .ok (.aload_n 0, 1) := by decide +kernel
theorem dX0_countWays_77 : decode cX0_countWays 77 = .ok (.getfield 31, 3) := by decide +kernel
theorem dX0_countWays_80 : decode cX0_countWays 80 = .ok (.if_icmp .gt 7, 3) := by decide +kernel
theorem dX0_countWays_83 : decode cX0_countWays 83 = .ok (.iconst 1, 1) := by decide +kernel
theorem dX0_countWays_84 : decode cX0_countWays 84 = .ok (.goto 4, 3) := by decide +kernel
theorem dX0_countWays_87 : decode cX0_countWays 87 = .ok (.iconst 0, 1) := by decide +kernel
theorem dX0_countWays_88 : decode cX0_countWays 88 = .ok (.istore 6, 2) := by decide +kernel
theorem dX0_countWays_90 : decode cX0_countWays 90 = .ok (.iload_n 3, 1) := by decide +kernel
theorem dX0_countWays_91 : decode cX0_countWays 91 = .ok (.ifCond .eq 22, 3) := by decide +kernel
theorem dX0_countWays_94 : decode cX0_countWays 94 = .ok (.aload_n 0, 1) := by decide +kernel
theorem dX0_countWays_95 : decode cX0_countWays 95 = .ok (.iload 6, 2) := by decide +kernel
theorem dX0_countWays_97 : decode cX0_countWays 97 = .ok (.aload_n 0, 1) := by decide +kernel
theorem dX0_countWays_98 : decode cX0_countWays 98 = .ok (.invokevirtual 38, 3) := by decide +kernel
theorem dX0_countWays_101 : decode cX0_countWays 101 = .ok (.iload 5, 2) := by decide +kernel
theorem dX0_countWays_103 : decode cX0_countWays 103 = .ok (.isub, 1) := by decide +kernel
theorem dX0_countWays_104 : decode cX0_countWays 104 = .ok (.iload 6, 2) := by decide +kernel
theorem dX0_countWays_106 : decode cX0_countWays 106 = .ok (.isub, 1) := by decide +kernel
theorem dX0_countWays_107 : decode cX0_countWays 107 = .ok (.invokevirtual 65, 3) := by decide +kernel
theorem dX0_countWays_110 : decode cX0_countWays 110 = .ok (.goto 16, 3) := by decide +kernel
theorem dX0_countWays_113 : decode cX0_countWays 113 = .ok (.aload_n 0, 1) := by decide +kernel
theorem dX0_countWays_114 : decode cX0_countWays 114 = .ok (.iload 5, 2) := by decide +kernel
theorem dX0_countWays_116 : decode cX0_countWays 116 = .ok (.aload_n 0, 1) := by decide +kernel
theorem dX0_countWays_117 : decode cX0_countWays 117 = .ok (.invokevirtual 38, 3) := by decide +kernel
theorem dX0_countWays_120 : decode cX0_countWays 120 = .ok (.iload 5, 2) := by decide +kernel
theorem dX0_countWays_122 : decode cX0_countWays 122 = .ok (.isub, 1) := by decide +kernel
theorem dX0_countWays_123 : decode cX0_countWays 123 = .ok (.invokevirtual 65, 3) := by decide +kernel
theorem dX0_countWays_126 : decode cX0_countWays 126 = .ok (.iinc 4 1, 3) := by decide +kernel
theorem dX0_countWays_129 : decode cX0_countWays 129 = .ok (.goto (-111), 3) := by decide +kernel
theorem dX0_countWays_132 : decode cX0_countWays 132 = .ok (.return_, 1) := by decide +kernel
theorem flX0_50_19 {p : Program} {l : Launch} {e : Env} {R : Room} {s : State} {m : MethodId} {args : Array Value} {below : List Frame} {meth : Method} {c : Code} {H : Heap} {locs : List Loc} {cells slots : Nat} {Q : State → Prop} {cc : ByteArray} {pc nL : Nat} {ls : Array Slot} {rest : List Value} {ret : Option FieldType}  {G : xG} {β : Nat} {D : Nat → Prop} {x : XS} {v : Int32} (C : Cx p s m args meth c RX0 cc nL ret (KK G)) (hw : CW β D G x H) (hS : va_S D s.heap H locs) (hsz : ls.size = nL) (hW : (rest.map fun v => v.category).sum ≤ 8) (hR : 1 ≤ R.frames) (hR2 : 23 ≤ R.locals) (hcs : cells ≤ R.cells ∧ slots ≤ R.slots) (hd : decode cc pc = .ok (.invokestatic 50, 3)) (kk : ∀ (H1 : Heap) (locs1 : List Loc), CW β D G (xsF x 19 (fun _ => v)) H1 → va_S D s.heap H1 locs1 → W p l e R s m args below meth c H1 locs1 cells slots Q (F0 m (pc + 3) ls (rest))) : W p l e R s m args below meth c H locs cells slots Q (F0 m pc ls (.int v :: .ref (β + 19) :: rest)) :=
  xcallS C (As := [.ref (β + 19), .int v]) (rest := rest) (nA := 2) (kfill (n := 5) (f := x.2.1 19) (N := H.size) (by decide)) (tg 607 (by decide +kernel) rfl) (tg 157 (by decide +kernel) rfl) (tg 6 (by decide +kernel) rfl) (tg 158 (by decide +kernel) rfl) ⟨by decide +kernel, by decide +kernel, by decide +kernel⟩ rfl rfl ⟨hR, hR2⟩ ⟨rfl, hw.2.2.1 19 (by decide)⟩ hS (fun q (hq : q = _) => hq ▸ hw.2.1 19 (by decide)) rfl rfl hsz hW hd hcs (fun H1 locs1 hp hz hk hS => kk H1 locs1 (hw.setF 19 _ hp.2 (off_of hp.1 hk)) hS)
theorem gX0_9 {p : Program} {l : Launch} {e : Env} {R : Room} {s : State} {m : MethodId} {args : Array Value} {below : List Frame} {meth : Method} {c : Code} {H : Heap} {locs : List Loc} {cells slots : Nat} {Q : State → Prop} {cc : ByteArray} {pc nL : Nat} {ls : Array Slot} {rest : List Value} {ret : Option FieldType} {G : xG} {β : Nat} {D : Nat → Prop} {x : XS} (C : Cx p s m args meth c RX0 cc nL ret (KK G)) (hw : CW β D G x H) (hd : decode cc pc = .ok (.getfield 9, 3)) (kk : W p l e R s m args below meth c H locs cells slots Q (F0 m (pc + 3) ls (.ref (β + 17) :: rest))) : W p l e R s m args below meth c H locs cells slots Q (F0 m pc ls (.ref (β + 16) :: rest)) :=
  va_get C.1 C.2.1 C.2.2.2.2.1 iwX0 C.2.2.2.1 C.K.1 (xP1 (hw.2.2.1 16 (by decide))) 0 rfl rfl 0 (by decide) (C.2.2.2.2.1 (.fieldLink RX0 9 RX0 "bases" "[I") (tg 131 (by decide +kernel) rfl)) (fun _ h9 => h9) rfl hd kk
theorem alX_17 {p : Program} {l : Launch} {e : Env} {R : Room} {s : State} {m : MethodId} {args : Array Value} {below : List Frame} {meth : Method} {c : Code} {H : Heap} {locs : List Loc} {cells slots : Nat} {Q : State → Prop} {cc : ByteArray} {pc nL : Nat} {ls : Array Slot} {rest : List Value} {ret : Option FieldType} {G : xG} {β : Nat} {D : Nat → Prop} {x : XS} {own : String} {i : Int32} (C : Cx p s m args meth c own cc nL ret (KK G)) (hw : CW β D G x H) (hin : ib i 10) (hd : decode cc pc = .ok (.iaload, 1)) (kk : W p l e R s m args below meth c H locs cells slots Q (F0 m (pc + 1) ls (.int (x.2.1 17 i.toNatClampNeg) :: rest))) : W p l e R s m args below meth c H locs cells slots Q (F0 m pc ls (.int i :: .ref (β + 17) :: rest)) :=
  va_iald C.1 C.2.1 C.K.1 (xP1 (hw.2.2.1 17 (by decide))) 0 0 rfl rfl hin hd kk
theorem sX0_56 {p : Program} {l : Launch} {e : Env} {R : Room} {s : State} {m : MethodId} {args : Array Value} {below : List Frame} {meth : Method} {c : Code} {H : Heap} {locs : List Loc} {cells slots : Nat} {Q : State → Prop} {cc : ByteArray} {pc nL : Nat} {ls : Array Slot} {rest : List Value} {ret : Option FieldType}  {G : xG} {β : Nat} {D : Nat → Prop} {x : XS} {a1 : Int32} {a2 : Int32} {a3 : Int32} {r : Int32} (C : Cx p s m args meth c RX0 cc nL ret (KK G)) (h : fX8_bounded a1 a2 a3 = some r) (hw : CW β D G x H) (hS : va_S D s.heap H locs) (hsz : ls.size = nL) (hW : (rest.map fun v => v.category).sum ≤ 8) (hR : 2 ≤ R.frames) (hR2 : 43 ≤ R.locals) (hcs : cells ≤ R.cells ∧ slots ≤ R.slots) (hd : decode cc pc = .ok (.invokestatic 56, 3)) (kk : ∀ (H1 : Heap) (locs1 : List Loc), CW β D G x H1 → va_S D s.heap H1 locs1 → W p l e R s m args below meth c H1 locs1 cells slots Q (F0 m (pc + 3) ls (.int r :: rest))) : W p l e R s m args below meth c H locs cells slots Q (F0 m pc ls (.int a3 :: .int a2 :: .int a1 :: rest)) := by
  exact xcallSN C (As := [.int a1, .int a2, .int a3]) (rest := rest) (nA := 3) (kX8_bounded h) (C.K.2.2.1 (RX0, 56, yX8_bounded) (List.mem_of_getElem? (i := 3) rfl)) (tg 545 (by decide +kernel) rfl) (tg 1 (by decide +kernel) rfl) (tg 546 (by decide +kernel) rfl) ⟨by decide +kernel, by decide +kernel, by decide +kernel⟩ rfl rfl ⟨hR, hR2⟩ hw hS (fun _ q => q) rfl rfl hsz hW hd hcs (fun H1 locs1 hw hz hk hS => kk H1 locs1 hw hS)
theorem mmX0_60 {p : Program} {l : Launch} {e : Env} {R : Room} {s : State} {m : MethodId} {args : Array Value} {below : List Frame} {meth : Method} {c : Code} {H : Heap} {locs : List Loc} {cells slots : Nat} {Q : State → Prop} {cc : ByteArray} {pc nL : Nat} {ls : Array Slot} {rest : List Value} {ret : Option FieldType} {G : xG} {a : Int32} (C : Cx p s m args meth c RX0 cc nL ret (KK G)) (hsz : ls.size = nL) (hR : 1 ≤ R.frames) (hR2 : (rest.map fun v => v.category).sum + 13 ≤ R.locals) (hcs : cells ≤ R.cells ∧ slots ≤ R.slots) (hd : decode cc pc = .ok (.invokestatic 60, 3)) (kk : W p l e R s m args below meth c H locs cells slots Q (F0 m (pc + 3) ls (.int (iabs a) :: rest))) : W p l e R s m args below meth c H locs cells slots Q (F0 m pc ls (.int a :: rest)) :=
  va_mabs C.1 C.2.1 (C.2.2.1.trans hsz.symm) C.2.2.2.1 (C.2.2.2.2.1 (.methodLink RX0 60 Lib.Math.abs.name) (tg 617 (by decide +kernel) rfl)) (C.2.2.2.2.1 (.static Lib.Math.abs.name) (tg 618 (by decide +kernel) rfl)) (C.2.2.2.2.1 (.initialized "java/lang/Math") (tg 12 (by decide +kernel) rfl)) (C.2.2.2.2.1 (.code Lib.Math.abs.name Lib.Math.abs.code 1 (some .int)) (tg 619 (by decide +kernel) rfl)) hR hR2 hcs.1 hcs.2 hd kk
theorem sX0_65 {p : Program} {l : Launch} {e : Env} {R : Room} {s : State} {m : MethodId} {args : Array Value} {below : List Frame} {meth : Method} {c : Code} {H : Heap} {locs : List Loc} {cells slots : Nat} {Q : State → Prop} {cc : ByteArray} {pc nL : Nat} {ls : Array Slot} {rest : List Value} {ret : Option FieldType}  {G : xG} {β : Nat} {D : Nat → Prop} {x x' : XS} {a1 : Int32} {a2 : Int32} (C : Cx p s m args meth c RX0 cc nL ret (KK G)) (h : fX0_addWays x a1 a2 = some x') (hw : CW β D G x H) (hS : va_S D s.heap H locs) (hsz : ls.size = nL) (hW : (rest.map fun v => v.category).sum ≤ 8) (hR : 1 ≤ R.frames) (hR2 : 23 ≤ R.locals) (hcs : cells ≤ R.cells ∧ slots ≤ R.slots) (hd : decode cc pc = .ok (.invokevirtual 65, 3)) (kk : ∀ (H1 : Heap) (locs1 : List Loc), CW β D G x' H1 → va_S D s.heap H1 locs1 → W p l e R s m args below meth c H1 locs1 cells slots Q (F0 m (pc + 3) ls (rest))) : W p l e R s m args below meth c H locs cells slots Q (F0 m pc ls (.int a2 :: .int a1 :: .ref (β + 16) :: rest)) := by
  exact xcallV C (As := [.int a1, .int a2]) (rest := rest) (nA := 2) (ci := 0) (kX0_addWays h) (tg 620 (by decide +kernel) rfl) (tg 622 (by decide +kernel) rfl) (sg (List.mem_of_getElem? (i := 36) (by decide +kernel)) rfl) (tg 5 (by decide +kernel) rfl) (tg 623 (by decide +kernel) rfl) ⟨rfl, by decide +kernel, by decide +kernel, by decide +kernel⟩ rfl rfl rfl ⟨hR, hR2⟩ (hw.2.2.1 16 (by decide)) hw hS (fun _ q => q) rfl rfl hsz hW hd hcs (fun H1 locs1 hw hz hk hS => kk H1 locs1 hw hS)
def BX0_countWays_18 (q1 : Int32) (q2 : Int32) (q3 : Bool) (lp : Int32 → XS → Option (XS)) (u4 : Int32) (x : XS) : Option (XS) := if 10 ≤ u4 then some x else if u4 = q1 then lt (u4 + 1) fun v4 => lp v4 x else Option.bind (fX0_runs x u4) fun v5 => if v5 = true then if ib u4 10 then Option.bind (fX0_variants x) fun v9 => Option.bind (fX8_bounded (((x.2.1 17 u4.toNatClampNeg) + (x.1 16 6)) - q2) 0 v9) fun v11 => if ib u4 10 then Option.bind (if (x.1 16 6) < (iabs ((x.2.1 17 u4.toNatClampNeg) - q2)) then some false else some true) fun v14 => if q3 = true then Option.bind (fX0_variants x) fun v20 => Option.bind (fX0_addWays x (bI v14) ((v20 - v11) - (bI v14))) fun x22 => lt (u4 + 1) fun v24 => lp v24 x22 else Option.bind (fX0_variants x) fun v15 => Option.bind (fX0_addWays x v11 (v15 - v11)) fun x17 => lt (u4 + 1) fun v19 => lp v19 x17 else none else none else lt (u4 + 1) fun v7 => lp v7 x
def LX0_countWays_18 (q1 : Int32) (q2 : Int32) (q3 : Bool) : Nat → Int32 → XS → Option (XS)
  | 0, _, _ => none
  | n + 1, u4, x => BX0_countWays_18 q1 q2 q3 (LX0_countWays_18 q1 q2 q3 n) u4 x
def fX0_countWays (x : XS) (a1 : Int32) (a2 : Int32) (a3 : Bool) : Option (XS) := lt (xsF x 19 (fun _ => 0)) fun x1 => if ib 0 5 then lt (xsA x1 19 (0 : Int32).toNatClampNeg 1) fun x3 => Option.bind (LX0_countWays_18 a1 a2 a3 NF 0 x3) fun x25 => some x25 else none
set_option maxHeartbeats 4000000 in
set_option maxRecDepth 100000 in
theorem lX0_countWays_18 {p : Program} {l : Launch} {e : Env} {R : Room} {s : State} {m : MethodId} {args : Array Value} {below : List Frame} {meth : Method} {c : Code} {cells slots : Nat} {Q : State → Prop} {G : xG} {β : Nat} {D : Nat → Prop} (C : Cx p s m args meth c RX0 cX0_countWays 7 none (KK G)) (hRf : 2 ≤ R.frames) (hRl : 43 ≤ R.locals) (hcs : cells ≤ R.cells ∧ slots ≤ R.slots) (hf : Fz D G s.heap) (q1 : Int32) (q2 : Int32) (q3 : Bool) : ∀ (n : Nat) (u4 : Int32) (x : XS) (J : XS) (H : Heap) (locs : List Loc) (ls : Array Slot), LX0_countWays_18 q1 q2 q3 n u4 x = some J → CW β D G x H → va_S D s.heap H locs → lv_has ls 7 [(0, .ref (β + 16)), (1, .int q1), (2, .int q2), (3, .int (bI q3)), (4, .int u4)] → (∀ (x1 : XS), J = x1 → ∀ (H : Heap) (locs : List Loc) (ls : Array Slot), CW β D G x1 H → va_S D s.heap H locs → lv_has ls 7 [] → W p l e R s m args below meth c H locs cells slots Q (F0 m 132 ls [])) → W p l e R s m args below meth c H locs cells slots Q (F0 m 18 ls []) := by
  have hx := C.1
  have hb := C.2.1
  have ho := C.2.2.2.1
  have hts := C.2.2.2.2.1
  intro n
  induction n with
  | zero =>
    intro u4 x J H locs ls hm
    exact absurd hm (by simp [LX0_countWays_18])
  | succ n ih =>
    intro u4 x J H locs ls hm hw hS hl ke
    replace hm : BX0_countWays_18 q1 q2 q3 (LX0_countWays_18 q1 q2 q3 n) u4 x = some J := hm
    unfold BX0_countWays_18 at hm
    refine lv_iload hx hb dX0_countWays_18 (lv_at hl 4 rfl) ?_
    refine lv_bipush (v := 10) hx hb dX0_countWays_20 (by decide) ?_
    refine lv_icmp_ge (tgt := 132) hx hb dX0_countWays_22 (by decide) (fun cc => ?_) (fun cc => ?_)
    · replace hm := ite_p cc hm
      exact ke _ (Option.some.inj hm).symm _ _ _ hw hS (lv_sub hl [] rfl)
    · replace hm := ite_n cc hm
      refine lv_iload hx hb dX0_countWays_25 (lv_at hl 4 rfl) ?_
      refine lv_iload_n hx hb dX0_countWays_27 rfl (lv_at hl 1 rfl) ?_
      refine lv_icmp_eq (tgt := 126) hx hb dX0_countWays_28 (by decide) (fun cc => ?_) (fun cc => ?_)
      · replace hm := ite_p cc hm
        obtain ⟨v4, ev, hm⟩ := lt_e hm
        refine lv_iinc (v := v4) (lv' := [(4, .int v4), (0, .ref (β + 16)), (1, .int q1), (2, .int q2), (3, .int (bI q3))]) hx hb dX0_countWays_126 hl (k := 4) rfl (by rw [ev]; rfl) (by decide) rfl (fun ls hl => ?_)
        clear ev
        refine lv_goto (tgt := 18) hx hb dX0_countWays_129 (by decide) ?_
        exact ih _ _ _ _ _ _ hm hw hS (lv_sub hl [1, 2, 3, 4, 0] rfl) ke
      · replace hm := ite_n cc hm
        refine lv_aload_n hx hb dX0_countWays_31 rfl (lv_at hl 0 rfl) ?_
        refine lv_iload hx hb dX0_countWays_32 (lv_at hl 4 rfl) ?_
        obtain ⟨v5, h6, hm⟩ := bind_e hm
        refine sX0_34 C h6 hw hS hl.1 (Nat.le_of_ble_eq_true rfl) (Nat.le_trans (Nat.le_of_ble_eq_true rfl) hRf) (Nat.le_trans (Nat.le_of_ble_eq_true rfl) hRl) hcs dX0_countWays_34 (fun H locs hw hS => ?_)
        refine x_ifeqB hx hb dX0_countWays_37 (tgt := 126) (by decide) (fun cc => ?_) (fun cc => ?_)
        · replace hm := ite_n cc hm
          obtain ⟨v7, ev, hm⟩ := lt_e hm
          refine lv_iinc (v := v7) (lv' := [(4, .int v7), (0, .ref (β + 16)), (1, .int q1), (2, .int q2), (3, .int (bI q3))]) hx hb dX0_countWays_126 hl (k := 4) rfl (by rw [ev]; rfl) (by decide) rfl (fun ls hl => ?_)
          clear ev
          refine lv_goto (tgt := 18) hx hb dX0_countWays_129 (by decide) ?_
          exact ih _ _ _ _ _ _ hm hw hS (lv_sub hl [1, 2, 3, 4, 0] rfl) ke
        · replace hm := ite_p cc hm
          refine lv_aload_n hx hb dX0_countWays_40 rfl (lv_at hl 0 rfl) ?_
          refine gX0_9 C hw dX0_countWays_41 ?_
          refine lv_iload hx hb dX0_countWays_44 (lv_at hl 4 rfl) ?_
          obtain ⟨h8, hm⟩ := chk_e hm
          refine alX_17 C hw h8 dX0_countWays_46 ?_
          refine lv_aload_n hx hb dX0_countWays_47 rfl (lv_at hl 0 rfl) ?_
          refine gX0_31 C hw dX0_countWays_48 ?_
          refine lv_iadd hx hb dX0_countWays_51 ?_
          refine lv_iload_n hx hb dX0_countWays_52 rfl (lv_at hl 2 rfl) ?_
          refine lv_isub hx hb dX0_countWays_53 ?_
          refine lv_iconst (v := 0) hx hb dX0_countWays_54 (by decide) ?_
          refine lv_aload_n hx hb dX0_countWays_55 rfl (lv_at hl 0 rfl) ?_
          obtain ⟨v9, h10, hm⟩ := bind_e hm
          refine sX0_38 C h10 hw hS hl.1 (Nat.le_of_ble_eq_true rfl) (Nat.le_trans (Nat.le_of_ble_eq_true rfl) hRf) (Nat.le_trans (Nat.le_of_ble_eq_true rfl) hRl) hcs dX0_countWays_56 (fun H locs hw hS => ?_)
          obtain ⟨v11, h12, hm⟩ := bind_e hm
          refine sX0_56 C h12 hw hS hl.1 (Nat.le_of_ble_eq_true rfl) (Nat.le_trans (Nat.le_of_ble_eq_true rfl) hRf) (Nat.le_trans (Nat.le_of_ble_eq_true rfl) hRl) hcs dX0_countWays_59 (fun H locs hw hS => ?_)
          refine lv_istore (lv' := [(5, .int v11), (0, .ref (β + 16)), (1, .int q1), (2, .int q2), (3, .int (bI q3)), (4, .int u4)]) hx hb dX0_countWays_62 hl (by decide) rfl (fun ls hl => ?_)
          refine lv_aload_n hx hb dX0_countWays_64 rfl (lv_at hl 1 rfl) ?_
          refine gX0_9 C hw dX0_countWays_65 ?_
          refine lv_iload hx hb dX0_countWays_68 (lv_at hl 5 rfl) ?_
          obtain ⟨h13, hm⟩ := chk_e hm
          refine alX_17 C hw h13 dX0_countWays_70 ?_
          refine lv_iload_n hx hb dX0_countWays_71 rfl (lv_at hl 3 rfl) ?_
          refine lv_isub hx hb dX0_countWays_72 ?_
          refine mmX0_60 C hl.1 (Nat.le_trans (Nat.le_of_ble_eq_true rfl) hRf) (Nat.le_trans (Nat.le_of_ble_eq_true rfl) hRl) hcs dX0_countWays_73 ?_
          refine lv_aload_n hx hb dX0_countWays_76 rfl (lv_at hl 1 rfl) ?_
          refine gX0_31 C hw dX0_countWays_77 ?_
          obtain ⟨v14, hj, hm⟩ := bind_e hm
          have kk : ∀ (H : Heap) (locs : List Loc) (ls : Array Slot), CW β D G x H → va_S D s.heap H locs → lv_has ls 7 [(0, .ref (β + 16)), (1, .int q1), (2, .int q2), (3, .int (bI q3)), (4, .int u4), (5, .int v11)] → W p l e R s m args below meth c H locs cells slots Q (F0 m 88 ls [.int (bI v14)]) := by
            intro H locs ls hw hS hl
            refine lv_istore (lv' := [(6, .int (bI v14)), (0, .ref (β + 16)), (1, .int q1), (2, .int q2), (3, .int (bI q3)), (4, .int u4), (5, .int v11)]) hx hb dX0_countWays_88 hl (by decide) rfl (fun ls hl => ?_)
            refine lv_iload_n hx hb dX0_countWays_90 rfl (lv_at hl 4 rfl) ?_
            refine x_ifeqB hx hb dX0_countWays_91 (tgt := 113) (by decide) (fun cc => ?_) (fun cc => ?_)
            · replace hm := ite_n cc hm
              refine lv_aload_n hx hb dX0_countWays_113 rfl (lv_at hl 1 rfl) ?_
              refine lv_iload hx hb dX0_countWays_114 (lv_at hl 6 rfl) ?_
              refine lv_aload_n hx hb dX0_countWays_116 rfl (lv_at hl 1 rfl) ?_
              obtain ⟨v15, h16, hm⟩ := bind_e hm
              refine sX0_38 C h16 hw hS hl.1 (Nat.le_of_ble_eq_true rfl) (Nat.le_trans (Nat.le_of_ble_eq_true rfl) hRf) (Nat.le_trans (Nat.le_of_ble_eq_true rfl) hRl) hcs dX0_countWays_117 (fun H locs hw hS => ?_)
              refine lv_iload hx hb dX0_countWays_120 (lv_at hl 6 rfl) ?_
              refine lv_isub hx hb dX0_countWays_122 ?_
              obtain ⟨x17, h18, hm⟩ := bind_e hm
              refine sX0_65 C h18 hw hS hl.1 (Nat.le_of_ble_eq_true rfl) (Nat.le_trans (Nat.le_of_ble_eq_true rfl) hRf) (Nat.le_trans (Nat.le_of_ble_eq_true rfl) hRl) hcs dX0_countWays_123 (fun H locs hw hS => ?_)
              obtain ⟨v19, ev, hm⟩ := lt_e hm
              refine lv_iinc (v := v19) (lv' := [(4, .int v19), (6, .int (bI v14)), (0, .ref (β + 16)), (1, .int q1), (2, .int q2), (3, .int (bI q3)), (5, .int v11)]) hx hb dX0_countWays_126 hl (k := 5) rfl (by rw [ev]; rfl) (by decide) rfl (fun ls hl => ?_)
              clear ev
              refine lv_goto (tgt := 18) hx hb dX0_countWays_129 (by decide) ?_
              exact ih _ _ _ _ _ _ hm hw hS (lv_sub hl [2, 3, 4, 5, 0] rfl) ke
            · replace hm := ite_p cc hm
              refine lv_aload_n hx hb dX0_countWays_94 rfl (lv_at hl 1 rfl) ?_
              refine lv_iload hx hb dX0_countWays_95 (lv_at hl 0 rfl) ?_
              refine lv_aload_n hx hb dX0_countWays_97 rfl (lv_at hl 1 rfl) ?_
              obtain ⟨v20, h21, hm⟩ := bind_e hm
              refine sX0_38 C h21 hw hS hl.1 (Nat.le_of_ble_eq_true rfl) (Nat.le_trans (Nat.le_of_ble_eq_true rfl) hRf) (Nat.le_trans (Nat.le_of_ble_eq_true rfl) hRl) hcs dX0_countWays_98 (fun H locs hw hS => ?_)
              refine lv_iload hx hb dX0_countWays_101 (lv_at hl 6 rfl) ?_
              refine lv_isub hx hb dX0_countWays_103 ?_
              refine lv_iload hx hb dX0_countWays_104 (lv_at hl 0 rfl) ?_
              refine lv_isub hx hb dX0_countWays_106 ?_
              obtain ⟨x22, h23, hm⟩ := bind_e hm
              refine sX0_65 C h23 hw hS hl.1 (Nat.le_of_ble_eq_true rfl) (Nat.le_trans (Nat.le_of_ble_eq_true rfl) hRf) (Nat.le_trans (Nat.le_of_ble_eq_true rfl) hRl) hcs dX0_countWays_107 (fun H locs hw hS => ?_)
              refine lv_goto (tgt := 126) hx hb dX0_countWays_110 (by decide) ?_
              obtain ⟨v24, ev, hm⟩ := lt_e hm
              refine lv_iinc (v := v24) (lv' := [(4, .int v24), (6, .int (bI v14)), (0, .ref (β + 16)), (1, .int q1), (2, .int q2), (3, .int (bI q3)), (5, .int v11)]) hx hb dX0_countWays_126 hl (k := 5) rfl (by rw [ev]; rfl) (by decide) rfl (fun ls hl => ?_)
              clear ev
              refine lv_goto (tgt := 18) hx hb dX0_countWays_129 (by decide) ?_
              exact ih _ _ _ _ _ _ hm hw hS (lv_sub hl [2, 3, 4, 5, 0] rfl) ke
          clear hm
          replace hm := hj
          clear hj
          refine lv_icmp_gt (tgt := 87) hx hb dX0_countWays_80 (by decide) (fun cc => ?_) (fun cc => ?_)
          · replace hm := ite_p cc hm
            refine lv_iconst (v := 0) hx hb dX0_countWays_87 (by decide) ?_
            obtain rfl := Option.some.inj hm
            exact kk _ _ _ hw hS (lv_sub hl [1, 2, 3, 4, 5, 0] rfl)
          · replace hm := ite_n cc hm
            refine lv_iconst (v := 1) hx hb dX0_countWays_83 (by decide) ?_
            refine lv_goto (tgt := 88) hx hb dX0_countWays_84 (by decide) ?_
            obtain rfl := Option.some.inj hm
            exact kk _ _ _ hw hS (lv_sub hl [1, 2, 3, 4, 5, 0] rfl)
abbrev rmX0_countWays : Room := { frames := 2, cells := 0, slots := 0, locals := 43 }
set_option maxHeartbeats 4000000 in
set_option maxRecDepth 100000 in
theorem kX0_countWays {l : Launch} {G : xG} {β : Nat} {D : Nat → Prop} {x x' : XS} {a1 : Int32} {a2 : Int32} {a3 : Bool} (hm : fX0_countWays x a1 a2 a3 = some x') : Met l yX0_countWays (.code yX0_countWays cX0_countWays 7 none :: GT) rmX0_countWays (PcW [.ref (β + 16), .int a1, .int a2, .int (bI a3)] (CW β D G x) (KK G)) (QcW D none (CW β D G x')) 0 0 D := by
  unfold fX0_countWays at hm
  refine xpro (own := RX0) (by decide +kernel) rfl (Nat.le_of_ble_eq_true rfl) ?_
  intro p e s m args below meth c C hw ls hl
  have hx := C.1
  have hb := C.2.1
  have ho := C.2.2.2.1
  have hts := C.2.2.2.2.1
  have hf : Fz D G s.heap := hw.2.2.2.2
  have hS : va_S D s.heap s.heap [] := va_S.rf
  have hl : lv_has ls 7 [(0, .ref (β + 16)), (1, .int a1), (2, .int a2), (3, .int (bI a3))] := hl
  have hRf : 2 ≤ rmX0_countWays.frames := Nat.le_refl _
  have hRl : 43 ≤ rmX0_countWays.locals := Nat.le_refl _
  have hcs : 0 ≤ rmX0_countWays.cells ∧ 0 ≤ rmX0_countWays.slots := ⟨Nat.le_refl _, Nat.le_refl _⟩
  refine lv_aload_n hx hb dX0_countWays_0 rfl (lv_at hl 0 rfl) ?_
  refine gX0_18 C hw dX0_countWays_1 ?_
  refine lv_iconst (v := 0) hx hb dX0_countWays_4 (by decide) ?_
  refine flX0_50_19 C hw hS hl.1 (Nat.le_of_ble_eq_true rfl) (Nat.le_trans (Nat.le_of_ble_eq_true rfl) hRf) (Nat.le_trans (Nat.le_of_ble_eq_true rfl) hRl) hcs dX0_countWays_5 (fun H locs hw hS => ?_)
  obtain ⟨x1, ev, hm⟩ := lt_e hm
  rw [← ev] at hw
  clear ev
  refine lv_aload_n hx hb dX0_countWays_8 rfl (lv_at hl 0 rfl) ?_
  refine gX0_18 C hw dX0_countWays_9 ?_
  refine lv_iconst (v := 0) hx hb dX0_countWays_12 (by decide) ?_
  refine lv_iconst (v := 1) hx hb dX0_countWays_13 (by decide) ?_
  obtain ⟨h2, hm⟩ := chk_e hm
  refine asX_19 C hw hS h2 dX0_countWays_14 (fun H locs hw hS => ?_)
  obtain ⟨x3, ev, hm⟩ := lt_e hm
  rw [← ev] at hw
  clear ev
  refine lv_iconst (v := 0) hx hb dX0_countWays_15 (by decide) ?_
  refine lv_istore (lv' := [(4, .int 0), (0, .ref (β + 16)), (1, .int a1), (2, .int a2), (3, .int (bI a3))]) hx hb dX0_countWays_16 hl (by decide) rfl (fun ls hl => ?_)
  obtain ⟨x25, hj, hm⟩ := bind_e hm
  refine lX0_countWays_18 C hRf hRl hcs hf a1 a2 a3 NF _ _ _ _ _ _ hj hw hS (lv_sub hl [1, 2, 3, 4, 0] rfl) (fun x25_ e0 H locs ls hw hS hl => ?_)
  cases e0
  obtain rfl := Option.some.inj hm
  exact xret_v C hw hS dX0_countWays_132
theorem dX0_shareOf_0 : decode cX0_shareOf 0 = .ok (.iconst 0, 1) := by decide +kernel
theorem dX0_shareOf_1 : decode cX0_shareOf 1 = .ok (.istore_n 2, 1) := by decide +kernel
theorem dX0_shareOf_2 : decode cX0_shareOf 2 = .ok (.aload_n 0, 1) := by decide +kernel
theorem dX0_shareOf_3 : decode cX0_shareOf 3 = .ok (.getfield 31, 3) := by decide +kernel
theorem dX0_shareOf_6 : decode cX0_shareOf 6 = .ok (.ineg, 1) := by decide +kernel
theorem dX0_shareOf_7 : decode cX0_shareOf 7 = .ok (.istore_n 3, 1) := by decide +kernel
theorem dX0_shareOf_8 : decode cX0_shareOf 8 = .ok (.iload_n 3, 1) := by decide +kernel
theorem dX0_shareOf_9 : decode cX0_shareOf 9 = .ok (.aload_n 0, 1) := by decide +kernel
theorem dX0_shareOf_10 : decode cX0_shareOf 10 = .ok (.getfield 31, 3) := by decide +kernel
theorem dX0_shareOf_13 : decode cX0_shareOf 13 = .ok (.if_icmp .gt 60, 3) := by decide +kernel
theorem dX0_shareOf_16 : decode cX0_shareOf 16 = .ok (.aload_n 0, 1) := by decide +kernel
theorem dX0_shareOf_17 : decode cX0_shareOf 17 = .ok (.iload_n 1, 1) := by decide +kernel
theorem dX0_shareOf_18 : decode cX0_shareOf 18 = .ok (.aload_n 0, 1) := by decide +kernel
theorem dX0_shareOf_19 : decode cX0_shareOf 19 = .ok (.getfield 9, 3) := by decide +kernel
theorem dX0_shareOf_22 : decode cX0_shareOf 22 = .ok (.iload_n 1, 1) := by decide +kernel
theorem dX0_shareOf_23 : decode cX0_shareOf 23 = .ok (.iaload, 1) := by decide +kernel
theorem dX0_shareOf_24 : decode cX0_shareOf 24 = .ok (.iload_n 3, 1) := by decide +kernel
theorem dX0_shareOf_25 : decode cX0_shareOf 25 = .ok (.iadd, 1) := by decide +kernel
theorem dX0_shareOf_26 : decode cX0_shareOf 26 = .ok (.iconst 1, 1) := by decide +kernel
theorem dX0_shareOf_27 : decode cX0_shareOf 27 = .ok (.invokevirtual 46, 3) := by decide +kernel
theorem dX0_shareOf_30 : decode cX0_shareOf 30 = .ok (.iconst 0, 1) := by decide +kernel
theorem dX0_shareOf_31 : decode cX0_shareOf 31 = .ok (.istore 4, 2) := by decide +kernel
theorem dX0_shareOf_33 : decode cX0_shareOf 33 = .ok (.iload 4, 2) := by decide +kernel
theorem dX0_shareOf_35 : decode cX0_shareOf 35 = .ok (.aload_n 0, 1) := by decide +kernel
theorem dX0_shareOf_36 : decode cX0_shareOf 36 = .ok (.getfield 18, 3) := by decide +kernel
theorem dX0_shareOf_39 : decode cX0_shareOf 39 = .ok (.arraylength, 1) := by decide +kernel
theorem dX0_shareOf_40 : decode cX0_shareOf 40 = .ok (.if_icmp .ge 27, 3) := by decide +kernel
theorem dX0_shareOf_43 : decode cX0_shareOf 43 = .ok (.iload_n 2, 1) := by decide +kernel
theorem dX0_shareOf_44 : decode cX0_shareOf 44 = .ok (.aload_n 0, 1) := by decide +kernel
theorem dX0_shareOf_45 : decode cX0_shareOf 45 = .ok (.getfield 18, 3) := by decide +kernel
theorem dX0_shareOf_48 : decode cX0_shareOf 48 = .ok (.iload 4, 2) := by decide +kernel
theorem dX0_shareOf_50 : decode cX0_shareOf 50 = .ok (.iaload, 1) := by decide +kernel
theorem dX0_shareOf_51 : decode cX0_shareOf 51 = .ok (.bipush 60, 2) := by decide +kernel
theorem dX0_shareOf_53 : decode cX0_shareOf 53 = .ok (.iload 4, 2) := by decide +kernel
theorem dX0_shareOf_55 : decode cX0_shareOf 55 = .ok (.iconst 1, 1) := by decide +kernel
theorem dX0_shareOf_56 : decode cX0_shareOf 56 = .ok (.iadd, 1) := by decide +kernel
theorem dX0_shareOf_57 : decode cX0_shareOf 57 = .ok (.idiv, 1) := by decide +kernel
theorem dX0_shareOf_58 : decode cX0_shareOf 58 = .ok (.imul, 1) := by decide +kernel
theorem dX0_shareOf_59 : decode cX0_shareOf 59 = .ok (.iadd, 1) := by decide +kernel
theorem dX0_shareOf_60 : decode cX0_shareOf 60 = .ok (.istore_n 2, 1) := by decide +kernel
theorem dX0_shareOf_61 : decode cX0_shareOf 61 = .ok (.iinc 4 1, 3) := by decide +kernel
theorem dX0_shareOf_64 : decode cX0_shareOf 64 = .ok (.goto (-31), 3) := by decide +kernel
theorem dX0_shareOf_67 : decode cX0_shareOf 67 = .ok (.iinc 3 1, 3) := by decide +kernel
theorem dX0_shareOf_70 : decode cX0_shareOf 70 = .ok (.goto (-62), 3) := by decide +kernel
theorem dX0_shareOf_73 : decode cX0_shareOf 73 = .ok (.iload_n 2, 1) := by decide +kernel
theorem dX0_shareOf_74 : decode cX0_shareOf 74 = .ok (.ireturn, 1) := by decide +kernel
theorem sX0_46 {p : Program} {l : Launch} {e : Env} {R : Room} {s : State} {m : MethodId} {args : Array Value} {below : List Frame} {meth : Method} {c : Code} {H : Heap} {locs : List Loc} {cells slots : Nat} {Q : State → Prop} {cc : ByteArray} {pc nL : Nat} {ls : Array Slot} {rest : List Value} {ret : Option FieldType}  {G : xG} {β : Nat} {D : Nat → Prop} {x x' : XS} {a1 : Int32} {a2 : Int32} {a3 : Bool} (C : Cx p s m args meth c RX0 cc nL ret (KK G)) (h : fX0_countWays x a1 a2 a3 = some x') (hw : CW β D G x H) (hS : va_S D s.heap H locs) (hsz : ls.size = nL) (hW : (rest.map fun v => v.category).sum ≤ 8) (hR : 3 ≤ R.frames) (hR2 : 69 ≤ R.locals) (hcs : cells ≤ R.cells ∧ slots ≤ R.slots) (hd : decode cc pc = .ok (.invokevirtual 46, 3)) (kk : ∀ (H1 : Heap) (locs1 : List Loc), CW β D G x' H1 → va_S D s.heap H1 locs1 → W p l e R s m args below meth c H1 locs1 cells slots Q (F0 m (pc + 3) ls (rest))) : W p l e R s m args below meth c H locs cells slots Q (F0 m pc ls (.int (bI a3) :: .int a2 :: .int a1 :: .ref (β + 16) :: rest)) := by
  exact xcallV C (As := [.int a1, .int a2, .int (bI a3)]) (rest := rest) (nA := 3) (ci := 0) (kX0_countWays h) (tg 603 (by decide +kernel) rfl) (tg 605 (by decide +kernel) rfl) (sg (List.mem_of_getElem? (i := 33) (by decide +kernel)) rfl) (tg 5 (by decide +kernel) rfl) (tg 606 (by decide +kernel) rfl) ⟨rfl, by decide +kernel, by decide +kernel, by decide +kernel⟩ rfl rfl rfl ⟨hR, hR2⟩ (hw.2.2.1 16 (by decide)) hw hS (fun _ q => q) rfl rfl hsz hW hd hcs (fun H1 locs1 hw hz hk hS => kk H1 locs1 hw hS)
def BX0_shareOf_33 (x : XS) (q1 : Int32) (q3 : Int32) (lp : Int32 → Int32 → Option (Int32)) (u2 : Int32) (u4 : Int32) : Option (Int32) := if 5 ≤ u4 then some u2 else if ib u4 5 then if ¬ (u4 + 1) = 0 then lt (u2 + ((x.2.1 19 u4.toNatClampNeg) * (60 / (u4 + 1)))) fun v7 => lt (u4 + 1) fun v8 => lp v7 v8 else none else none
def LX0_shareOf_33 (x : XS) (q1 : Int32) (q3 : Int32) : Nat → Int32 → Int32 → Option (Int32)
  | 0, _, _ => none
  | n + 1, u2, u4 => BX0_shareOf_33 x q1 q3 (LX0_shareOf_33 x q1 q3 n) u2 u4
def BX0_shareOf_8 (q1 : Int32) (lp : Int32 → Int32 → XS → Option (Int32 × XS)) (u2 : Int32) (u3 : Int32) (x : XS) : Option (Int32 × XS) := if (x.1 16 6) < u3 then some (u2, x) else if ib q1 10 then Option.bind (fX0_countWays x q1 ((x.2.1 17 q1.toNatClampNeg) + u3) true) fun x3 => Option.bind (LX0_shareOf_33 x3 q1 u3 NF u2 0) fun v9 => lt (u3 + 1) fun v10 => lp v9 v10 x3 else none
def LX0_shareOf_8 (q1 : Int32) : Nat → Int32 → Int32 → XS → Option (Int32 × XS)
  | 0, _, _, _ => none
  | n + 1, u2, u3, x => BX0_shareOf_8 q1 (LX0_shareOf_8 q1 n) u2 u3 x
def fX0_shareOf (x : XS) (a1 : Int32) : Option (Int32 × XS) := lt (-(x.1 16 6)) fun v1 => bind2 (LX0_shareOf_8 a1 NF 0 v1 x) fun v11 x12 => some (v11, x12)
set_option maxHeartbeats 4000000 in
set_option maxRecDepth 100000 in
theorem lX0_shareOf_33 {p : Program} {l : Launch} {e : Env} {R : Room} {s : State} {m : MethodId} {args : Array Value} {below : List Frame} {meth : Method} {c : Code} {cells slots : Nat} {Q : State → Prop} {G : xG} {β : Nat} {D : Nat → Prop} (C : Cx p s m args meth c RX0 cX0_shareOf 5 (some .int) (KK G)) (hRf : 3 ≤ R.frames) (hRl : 69 ≤ R.locals) (hcs : cells ≤ R.cells ∧ slots ≤ R.slots) (hf : Fz D G s.heap) (x : XS) (q1 : Int32) (q3 : Int32) : ∀ (n : Nat) (u2 : Int32) (u4 : Int32) (J : Int32) (H : Heap) (locs : List Loc) (ls : Array Slot), LX0_shareOf_33 x q1 q3 n u2 u4 = some J → CW β D G x H → va_S D s.heap H locs → lv_has ls 5 [(0, .ref (β + 16)), (1, .int q1), (2, .int u2), (3, .int q3), (4, .int u4)] → (∀ (w2 : Int32), J = w2 → ∀ (H : Heap) (locs : List Loc) (ls : Array Slot), CW β D G x H → va_S D s.heap H locs → lv_has ls 5 [(0, .ref (β + 16)), (1, .int q1), (2, .int w2), (3, .int q3)] → W p l e R s m args below meth c H locs cells slots Q (F0 m 67 ls [])) → W p l e R s m args below meth c H locs cells slots Q (F0 m 33 ls []) := by
  have hx := C.1
  have hb := C.2.1
  have ho := C.2.2.2.1
  have hts := C.2.2.2.2.1
  intro n
  induction n with
  | zero =>
    intro u2 u4 J H locs ls hm
    exact absurd hm (by simp [LX0_shareOf_33])
  | succ n ih =>
    intro u2 u4 J H locs ls hm hw hS hl ke
    replace hm : BX0_shareOf_33 x q1 q3 (LX0_shareOf_33 x q1 q3 n) u2 u4 = some J := hm
    unfold BX0_shareOf_33 at hm
    refine lv_iload hx hb dX0_shareOf_33 (lv_at hl 4 rfl) ?_
    refine lv_aload_n hx hb dX0_shareOf_35 rfl (lv_at hl 0 rfl) ?_
    refine gX0_18 C hw dX0_shareOf_36 ?_
    refine anX_19 C hw dX0_shareOf_39 ?_
    refine lv_icmp_ge (tgt := 67) hx hb dX0_shareOf_40 (by decide) (fun cc => ?_) (fun cc => ?_)
    · replace hm := ite_p cc hm
      exact ke _ (Option.some.inj hm).symm _ _ _ hw hS (lv_sub hl [0, 1, 2, 3] rfl)
    · replace hm := ite_n cc hm
      refine lv_iload_n hx hb dX0_shareOf_43 rfl (lv_at hl 2 rfl) ?_
      refine lv_aload_n hx hb dX0_shareOf_44 rfl (lv_at hl 0 rfl) ?_
      refine gX0_18 C hw dX0_shareOf_45 ?_
      refine lv_iload hx hb dX0_shareOf_48 (lv_at hl 4 rfl) ?_
      obtain ⟨h5, hm⟩ := chk_e hm
      refine alX_19 C hw h5 dX0_shareOf_50 ?_
      refine lv_bipush (v := 60) hx hb dX0_shareOf_51 (by decide) ?_
      refine lv_iload hx hb dX0_shareOf_53 (lv_at hl 4 rfl) ?_
      refine lv_iconst (v := 1) hx hb dX0_shareOf_55 (by decide) ?_
      refine lv_iadd hx hb dX0_shareOf_56 ?_
      obtain ⟨h6, hm⟩ := chk_e hm
      refine lv_idiv hx hb dX0_shareOf_57 h6 ?_
      refine lv_imul hx hb dX0_shareOf_58 ?_
      refine lv_iadd hx hb dX0_shareOf_59 ?_
      refine topI hm (fun v7 hm => ?_)
      refine lv_istore_n (lv' := [(2, .int v7), (0, .ref (β + 16)), (1, .int q1), (3, .int q3), (4, .int u4)]) hx hb dX0_shareOf_60 rfl hl (by decide) rfl (fun ls hl => ?_)
      obtain ⟨v8, ev, hm⟩ := lt_e hm
      refine lv_iinc (v := v8) (lv' := [(4, .int v8), (2, .int v7), (0, .ref (β + 16)), (1, .int q1), (3, .int q3)]) hx hb dX0_shareOf_61 hl (k := 4) rfl (by rw [ev]; rfl) (by decide) rfl (fun ls hl => ?_)
      clear ev
      refine lv_goto (tgt := 33) hx hb dX0_shareOf_64 (by decide) ?_
      exact ih _ _ _ _ _ _ hm hw hS (lv_sub hl [2, 3, 1, 4, 0] rfl) ke
set_option maxHeartbeats 4000000 in
set_option maxRecDepth 100000 in
theorem lX0_shareOf_8 {p : Program} {l : Launch} {e : Env} {R : Room} {s : State} {m : MethodId} {args : Array Value} {below : List Frame} {meth : Method} {c : Code} {cells slots : Nat} {Q : State → Prop} {G : xG} {β : Nat} {D : Nat → Prop} (C : Cx p s m args meth c RX0 cX0_shareOf 5 (some .int) (KK G)) (hRf : 3 ≤ R.frames) (hRl : 69 ≤ R.locals) (hcs : cells ≤ R.cells ∧ slots ≤ R.slots) (hf : Fz D G s.heap) (q1 : Int32) : ∀ (n : Nat) (u2 : Int32) (u3 : Int32) (x : XS) (J : Int32 × XS) (H : Heap) (locs : List Loc) (ls : Array Slot), LX0_shareOf_8 q1 n u2 u3 x = some J → CW β D G x H → va_S D s.heap H locs → lv_has ls 5 [(0, .ref (β + 16)), (1, .int q1), (2, .int u2), (3, .int u3)] → (∀ (w2 : Int32) (x1 : XS), J = (w2, x1) → ∀ (H : Heap) (locs : List Loc) (ls : Array Slot), CW β D G x1 H → va_S D s.heap H locs → lv_has ls 5 [(2, .int w2)] → W p l e R s m args below meth c H locs cells slots Q (F0 m 73 ls [])) → W p l e R s m args below meth c H locs cells slots Q (F0 m 8 ls []) := by
  have hx := C.1
  have hb := C.2.1
  have ho := C.2.2.2.1
  have hts := C.2.2.2.2.1
  intro n
  induction n with
  | zero =>
    intro u2 u3 x J H locs ls hm
    exact absurd hm (by simp [LX0_shareOf_8])
  | succ n ih =>
    intro u2 u3 x J H locs ls hm hw hS hl ke
    replace hm : BX0_shareOf_8 q1 (LX0_shareOf_8 q1 n) u2 u3 x = some J := hm
    unfold BX0_shareOf_8 at hm
    refine lv_iload_n hx hb dX0_shareOf_8 rfl (lv_at hl 3 rfl) ?_
    refine lv_aload_n hx hb dX0_shareOf_9 rfl (lv_at hl 0 rfl) ?_
    refine gX0_31 C hw dX0_shareOf_10 ?_
    refine lv_icmp_gt (tgt := 73) hx hb dX0_shareOf_13 (by decide) (fun cc => ?_) (fun cc => ?_)
    · replace hm := ite_p cc hm
      exact ke _ _ (Option.some.inj hm).symm _ _ _ hw hS (lv_sub hl [2] rfl)
    · replace hm := ite_n cc hm
      refine lv_aload_n hx hb dX0_shareOf_16 rfl (lv_at hl 0 rfl) ?_
      refine lv_iload_n hx hb dX0_shareOf_17 rfl (lv_at hl 1 rfl) ?_
      refine lv_aload_n hx hb dX0_shareOf_18 rfl (lv_at hl 0 rfl) ?_
      refine gX0_9 C hw dX0_shareOf_19 ?_
      refine lv_iload_n hx hb dX0_shareOf_22 rfl (lv_at hl 1 rfl) ?_
      obtain ⟨h2, hm⟩ := chk_e hm
      refine alX_17 C hw h2 dX0_shareOf_23 ?_
      refine lv_iload_n hx hb dX0_shareOf_24 rfl (lv_at hl 3 rfl) ?_
      refine lv_iadd hx hb dX0_shareOf_25 ?_
      refine lv_iconst (v := 1) hx hb dX0_shareOf_26 (by decide) ?_
      obtain ⟨x3, h4, hm⟩ := bind_e hm
      refine sX0_46 (a1 := q1) (a2 := ((x.2.1 17 q1.toNatClampNeg) + u3)) (a3 := true) C h4 hw hS hl.1 (Nat.le_of_ble_eq_true rfl) (Nat.le_trans (Nat.le_of_ble_eq_true rfl) hRf) (Nat.le_trans (Nat.le_of_ble_eq_true rfl) hRl) hcs dX0_shareOf_27 (fun H locs hw hS => ?_)
      refine lv_iconst (v := 0) hx hb dX0_shareOf_30 (by decide) ?_
      refine lv_istore (lv' := [(4, .int 0), (0, .ref (β + 16)), (1, .int q1), (2, .int u2), (3, .int u3)]) hx hb dX0_shareOf_31 hl (by decide) rfl (fun ls hl => ?_)
      obtain ⟨v9, hj, hm⟩ := bind_e hm
      refine lX0_shareOf_33 C hRf hRl hcs hf x3 q1 u3 NF _ _ _ _ _ _ hj hw hS (lv_sub hl [1, 2, 3, 4, 0] rfl) (fun v9_ e0 H locs ls hw hS hl => ?_)
      cases e0
      obtain ⟨v10, ev, hm⟩ := lt_e hm
      refine lv_iinc (v := v10) (lv' := [(3, .int v10), (0, .ref (β + 16)), (1, .int q1), (2, .int v9)]) hx hb dX0_shareOf_67 hl (k := 3) rfl (by rw [ev]; rfl) (by decide) rfl (fun ls hl => ?_)
      clear ev
      refine lv_goto (tgt := 8) hx hb dX0_shareOf_70 (by decide) ?_
      exact ih _ _ _ _ _ _ _ hm hw hS (lv_sub hl [1, 2, 3, 0] rfl) ke
abbrev rmX0_shareOf : Room := { frames := 3, cells := 0, slots := 0, locals := 69 }
set_option maxHeartbeats 4000000 in
set_option maxRecDepth 100000 in
theorem kX0_shareOf {l : Launch} {G : xG} {β : Nat} {D : Nat → Prop} {x x' : XS} {a1 : Int32} {r : Int32} (hm : fX0_shareOf x a1 = some (r, x')) : Met l yX0_shareOf (.code yX0_shareOf cX0_shareOf 5 (some .int) :: GT) rmX0_shareOf (PcW [.ref (β + 16), .int a1] (CW β D G x) (KK G)) (QcW D (some (.int r)) (CW β D G x')) 0 0 D := by
  unfold fX0_shareOf at hm
  refine xpro (own := RX0) (by decide +kernel) rfl (Nat.le_of_ble_eq_true rfl) ?_
  intro p e s m args below meth c C hw ls hl
  have hx := C.1
  have hb := C.2.1
  have ho := C.2.2.2.1
  have hts := C.2.2.2.2.1
  have hf : Fz D G s.heap := hw.2.2.2.2
  have hS : va_S D s.heap s.heap [] := va_S.rf
  have hl : lv_has ls 5 [(0, .ref (β + 16)), (1, .int a1)] := hl
  have hRf : 3 ≤ rmX0_shareOf.frames := Nat.le_refl _
  have hRl : 69 ≤ rmX0_shareOf.locals := Nat.le_refl _
  have hcs : 0 ≤ rmX0_shareOf.cells ∧ 0 ≤ rmX0_shareOf.slots := ⟨Nat.le_refl _, Nat.le_refl _⟩
  refine lv_iconst (v := 0) hx hb dX0_shareOf_0 (by decide) ?_
  refine lv_istore_n (lv' := [(2, .int 0), (0, .ref (β + 16)), (1, .int a1)]) hx hb dX0_shareOf_1 rfl hl (by decide) rfl (fun ls hl => ?_)
  refine lv_aload_n hx hb dX0_shareOf_2 rfl (lv_at hl 1 rfl) ?_
  refine gX0_31 C hw dX0_shareOf_3 ?_
  refine lv_ineg hx hb dX0_shareOf_6 ?_
  refine topI hm (fun v1 hm => ?_)
  refine lv_istore_n (lv' := [(3, .int v1), (2, .int 0), (0, .ref (β + 16)), (1, .int a1)]) hx hb dX0_shareOf_7 rfl hl (by decide) rfl (fun ls hl => ?_)
  obtain ⟨v11, x12, hj, hm⟩ := bind2_e hm
  refine lX0_shareOf_8 C hRf hRl hcs hf a1 NF _ _ _ _ _ _ _ hj hw hS (lv_sub hl [2, 3, 1, 0] rfl) (fun v11_ x12_ e0 H locs ls hw hS hl => ?_)
  cases e0
  refine lv_iload_n hx hb dX0_shareOf_73 rfl (lv_at hl 0 rfl) ?_
  obtain ⟨rfl, rfl⟩ := inj2 hm
  exact xret_i C hw hS dX0_shareOf_74
theorem dX0_shareOut_0 : decode cX0_shareOut 0 = .ok (.iconst 0, 1) := by decide +kernel
theorem dX0_shareOut_1 : decode cX0_shareOut 1 = .ok (.istore_n 1, 1) := by decide +kernel
theorem dX0_shareOut_2 : decode cX0_shareOut 2 = .ok (.iload_n 1, 1) := by decide +kernel
theorem dX0_shareOut_3 : decode cX0_shareOut 3 = .ok (.bipush 10, 2) := by decide +kernel
theorem dX0_shareOut_5 : decode cX0_shareOut 5 = .ok (.if_icmp .ge 28, 3) := by decide +kernel
theorem dX0_shareOut_8 : decode cX0_shareOut 8 = .ok (.aload_n 0, 1) := by decide +kernel
theorem dX0_shareOut_9 : decode cX0_shareOut 9 = .ok (.iload_n 1, 1) := by decide +kernel
theorem dX0_shareOut_10 : decode cX0_shareOut 10 = .ok (.invokevirtual 34, 3) := by decide +kernel
theorem dX0_shareOut_13 : decode cX0_shareOut 13 = .ok (.ifCond .eq 14, 3) := by decide +kernel
theorem dX0_shareOut_16 : decode cX0_shareOut 16 = .ok (.aload_n 0, 1) := by decide +kernel
theorem dX0_shareOut_17 : decode cX0_shareOut 17 = .ok (.getfield 15, 3) := by decide +kernel
theorem dX0_shareOut_20 : decode cX0_shareOut 20 = .ok (.iload_n 1, 1) := by decide +kernel
theorem dX0_shareOut_21 : decode cX0_shareOut 21 = .ok (.aload_n 0, 1) := by decide +kernel
theorem dX0_shareOut_22 : decode cX0_shareOut 22 = .ok (.iload_n 1, 1) := by decide +kernel
theorem dX0_shareOut_23 : decode cX0_shareOut 23 = .ok (.invokevirtual 42, 3) := by decide +kernel
theorem dX0_shareOut_26 : decode cX0_shareOut 26 = .ok (.iastore, 1) := by decide +kernel
theorem dX0_shareOut_27 : decode cX0_shareOut 27 = .ok (.iinc 1 1, 3) := by decide +kernel
theorem dX0_shareOut_30 : decode cX0_shareOut 30 = .ok (.goto (-28), 3) := by decide +kernel
theorem dX0_shareOut_33 : decode cX0_shareOut 33 = .ok (.return_, 1) := by decide +kernel
theorem gX0_15 {p : Program} {l : Launch} {e : Env} {R : Room} {s : State} {m : MethodId} {args : Array Value} {below : List Frame} {meth : Method} {c : Code} {H : Heap} {locs : List Loc} {cells slots : Nat} {Q : State → Prop} {cc : ByteArray} {pc nL : Nat} {ls : Array Slot} {rest : List Value} {ret : Option FieldType} {G : xG} {β : Nat} {D : Nat → Prop} {x : XS} (C : Cx p s m args meth c RX0 cc nL ret (KK G)) (hw : CW β D G x H) (hd : decode cc pc = .ok (.getfield 15, 3)) (kk : W p l e R s m args below meth c H locs cells slots Q (F0 m (pc + 3) ls (.ref (β + 18) :: rest))) : W p l e R s m args below meth c H locs cells slots Q (F0 m pc ls (.ref (β + 16) :: rest)) :=
  va_get C.1 C.2.1 C.2.2.2.2.1 iwX0 C.2.2.2.1 C.K.1 (xP1 (hw.2.2.1 16 (by decide))) 0 rfl rfl 1 (by decide) (C.2.2.2.2.1 (.fieldLink RX0 15 RX0 "shares" "[I") (tg 133 (by decide +kernel) rfl)) (fun _ h9 => h9) rfl hd kk
theorem sX0_42 {p : Program} {l : Launch} {e : Env} {R : Room} {s : State} {m : MethodId} {args : Array Value} {below : List Frame} {meth : Method} {c : Code} {H : Heap} {locs : List Loc} {cells slots : Nat} {Q : State → Prop} {cc : ByteArray} {pc nL : Nat} {ls : Array Slot} {rest : List Value} {ret : Option FieldType}  {G : xG} {β : Nat} {D : Nat → Prop} {x x' : XS} {a1 : Int32} {r : Int32} (C : Cx p s m args meth c RX0 cc nL ret (KK G)) (h : fX0_shareOf x a1 = some (r, x')) (hw : CW β D G x H) (hS : va_S D s.heap H locs) (hsz : ls.size = nL) (hW : (rest.map fun v => v.category).sum ≤ 8) (hR : 4 ≤ R.frames) (hR2 : 93 ≤ R.locals) (hcs : cells ≤ R.cells ∧ slots ≤ R.slots) (hd : decode cc pc = .ok (.invokevirtual 42, 3)) (kk : ∀ (H1 : Heap) (locs1 : List Loc), CW β D G x' H1 → va_S D s.heap H1 locs1 → W p l e R s m args below meth c H1 locs1 cells slots Q (F0 m (pc + 3) ls (.int r :: rest))) : W p l e R s m args below meth c H locs cells slots Q (F0 m pc ls (.int a1 :: .ref (β + 16) :: rest)) := by
  exact xcallV C (As := [.int a1]) (rest := rest) (nA := 1) (ci := 0) (kX0_shareOf h) (tg 672 (by decide +kernel) rfl) (tg 600 (by decide +kernel) rfl) (tg 601 (by decide +kernel) rfl) (tg 5 (by decide +kernel) rfl) (tg 602 (by decide +kernel) rfl) ⟨rfl, by decide +kernel, by decide +kernel, by decide +kernel⟩ rfl rfl rfl ⟨hR, hR2⟩ (hw.2.2.1 16 (by decide)) hw hS (fun _ q => q) rfl rfl hsz hW hd hcs (fun H1 locs1 hw hz hk hS => kk H1 locs1 hw hS)
theorem asX_18 {p : Program} {l : Launch} {e : Env} {R : Room} {s : State} {m : MethodId} {args : Array Value} {below : List Frame} {meth : Method} {c : Code} {H : Heap} {locs : List Loc} {cells slots : Nat} {Q : State → Prop} {cc : ByteArray} {pc nL : Nat} {ls : Array Slot} {rest : List Value} {ret : Option FieldType} {G : xG} {β : Nat} {D : Nat → Prop} {x : XS} {own : String} {i : Int32} {v : Int32} (C : Cx p s m args meth c own cc nL ret (KK G)) (hw : CW β D G x H) (hS : va_S D s.heap H locs) (hin : ib i 10) (hd : decode cc pc = .ok (.iastore, 1)) (kk : ∀ (H1 : Heap) (locs1 : List Loc), CW β D G (xsA x 18 i.toNatClampNeg v) H1 → va_S D s.heap H1 locs1 → W p l e R s m args below meth c H1 locs1 cells slots Q (F0 m (pc + 1) ls (rest))) : W p l e R s m args below meth c H locs cells slots Q (F0 m pc ls (.int v :: .int i :: .ref (β + 18) :: rest)) :=
  x_iast C.1 C.2.1 C.K.1 hS 0 (hw.2.2.1 18 (by decide)) (hw.2.1 18 (by decide)) rfl hin hd (fun H1 locs1 hat ho hS => kk H1 locs1 (hw.setA 18 _ _ hat ho) hS)
def BX0_shareOut_2 (lp : Int32 → XS → Option (XS)) (u1 : Int32) (x : XS) : Option (XS) := if 10 ≤ u1 then some x else Option.bind (fX0_runs x u1) fun v1 => if v1 = true then bind2 (fX0_shareOf x u1) fun v4 x5 => if ib u1 10 then lt (xsA x5 18 u1.toNatClampNeg v4) fun x8 => lt (u1 + 1) fun v9 => lp v9 x8 else none else lt (u1 + 1) fun v3 => lp v3 x
def LX0_shareOut_2 : Nat → Int32 → XS → Option (XS)
  | 0, _, _ => none
  | n + 1, u1, x => BX0_shareOut_2 (LX0_shareOut_2 n) u1 x
def fX0_shareOut (x : XS) : Option (XS) := Option.bind (LX0_shareOut_2 NF 0 x) fun x10 => some x10
set_option maxHeartbeats 4000000 in
set_option maxRecDepth 100000 in
theorem lX0_shareOut_2 {p : Program} {l : Launch} {e : Env} {R : Room} {s : State} {m : MethodId} {args : Array Value} {below : List Frame} {meth : Method} {c : Code} {cells slots : Nat} {Q : State → Prop} {G : xG} {β : Nat} {D : Nat → Prop} (C : Cx p s m args meth c RX0 cX0_shareOut 2 none (KK G)) (hRf : 4 ≤ R.frames) (hRl : 93 ≤ R.locals) (hcs : cells ≤ R.cells ∧ slots ≤ R.slots) (hf : Fz D G s.heap) : ∀ (n : Nat) (u1 : Int32) (x : XS) (J : XS) (H : Heap) (locs : List Loc) (ls : Array Slot), LX0_shareOut_2 n u1 x = some J → CW β D G x H → va_S D s.heap H locs → lv_has ls 2 [(0, .ref (β + 16)), (1, .int u1)] → (∀ (x1 : XS), J = x1 → ∀ (H : Heap) (locs : List Loc) (ls : Array Slot), CW β D G x1 H → va_S D s.heap H locs → lv_has ls 2 [] → W p l e R s m args below meth c H locs cells slots Q (F0 m 33 ls [])) → W p l e R s m args below meth c H locs cells slots Q (F0 m 2 ls []) := by
  have hx := C.1
  have hb := C.2.1
  have ho := C.2.2.2.1
  have hts := C.2.2.2.2.1
  intro n
  induction n with
  | zero =>
    intro u1 x J H locs ls hm
    exact absurd hm (by simp [LX0_shareOut_2])
  | succ n ih =>
    intro u1 x J H locs ls hm hw hS hl ke
    replace hm : BX0_shareOut_2 (LX0_shareOut_2 n) u1 x = some J := hm
    unfold BX0_shareOut_2 at hm
    refine lv_iload_n hx hb dX0_shareOut_2 rfl (lv_at hl 1 rfl) ?_
    refine lv_bipush (v := 10) hx hb dX0_shareOut_3 (by decide) ?_
    refine lv_icmp_ge (tgt := 33) hx hb dX0_shareOut_5 (by decide) (fun cc => ?_) (fun cc => ?_)
    · replace hm := ite_p cc hm
      exact ke _ (Option.some.inj hm).symm _ _ _ hw hS (lv_sub hl [] rfl)
    · replace hm := ite_n cc hm
      refine lv_aload_n hx hb dX0_shareOut_8 rfl (lv_at hl 0 rfl) ?_
      refine lv_iload_n hx hb dX0_shareOut_9 rfl (lv_at hl 1 rfl) ?_
      obtain ⟨v1, h2, hm⟩ := bind_e hm
      refine sX0_34 C h2 hw hS hl.1 (Nat.le_of_ble_eq_true rfl) (Nat.le_trans (Nat.le_of_ble_eq_true rfl) hRf) (Nat.le_trans (Nat.le_of_ble_eq_true rfl) hRl) hcs dX0_shareOut_10 (fun H locs hw hS => ?_)
      refine x_ifeqB hx hb dX0_shareOut_13 (tgt := 27) (by decide) (fun cc => ?_) (fun cc => ?_)
      · replace hm := ite_n cc hm
        obtain ⟨v3, ev, hm⟩ := lt_e hm
        refine lv_iinc (v := v3) (lv' := [(1, .int v3), (0, .ref (β + 16))]) hx hb dX0_shareOut_27 hl (k := 1) rfl (by rw [ev]; rfl) (by decide) rfl (fun ls hl => ?_)
        clear ev
        refine lv_goto (tgt := 2) hx hb dX0_shareOut_30 (by decide) ?_
        exact ih _ _ _ _ _ _ hm hw hS (lv_sub hl [1, 0] rfl) ke
      · replace hm := ite_p cc hm
        refine lv_aload_n hx hb dX0_shareOut_16 rfl (lv_at hl 0 rfl) ?_
        refine gX0_15 C hw dX0_shareOut_17 ?_
        refine lv_iload_n hx hb dX0_shareOut_20 rfl (lv_at hl 1 rfl) ?_
        refine lv_aload_n hx hb dX0_shareOut_21 rfl (lv_at hl 0 rfl) ?_
        refine lv_iload_n hx hb dX0_shareOut_22 rfl (lv_at hl 1 rfl) ?_
        obtain ⟨v4, x5, h6, hm⟩ := bind2_e hm
        refine sX0_42 C h6 hw hS hl.1 (Nat.le_of_ble_eq_true rfl) (Nat.le_trans (Nat.le_of_ble_eq_true rfl) hRf) (Nat.le_trans (Nat.le_of_ble_eq_true rfl) hRl) hcs dX0_shareOut_23 (fun H locs hw hS => ?_)
        obtain ⟨h7, hm⟩ := chk_e hm
        refine asX_18 C hw hS h7 dX0_shareOut_26 (fun H locs hw hS => ?_)
        obtain ⟨x8, ev, hm⟩ := lt_e hm
        rw [← ev] at hw
        clear ev
        obtain ⟨v9, ev, hm⟩ := lt_e hm
        refine lv_iinc (v := v9) (lv' := [(1, .int v9), (0, .ref (β + 16))]) hx hb dX0_shareOut_27 hl (k := 1) rfl (by rw [ev]; rfl) (by decide) rfl (fun ls hl => ?_)
        clear ev
        refine lv_goto (tgt := 2) hx hb dX0_shareOut_30 (by decide) ?_
        exact ih _ _ _ _ _ _ hm hw hS (lv_sub hl [1, 0] rfl) ke
abbrev rmX0_shareOut : Room := { frames := 4, cells := 0, slots := 0, locals := 93 }
set_option maxHeartbeats 4000000 in
set_option maxRecDepth 100000 in
theorem kX0_shareOut {l : Launch} {G : xG} {β : Nat} {D : Nat → Prop} {x x' : XS} (hm : fX0_shareOut x = some x') : Met l yX0_shareOut (.code yX0_shareOut cX0_shareOut 2 none :: GT) rmX0_shareOut (PcW [.ref (β + 16)] (CW β D G x) (KK G)) (QcW D none (CW β D G x')) 0 0 D := by
  unfold fX0_shareOut at hm
  refine xpro (own := RX0) (by decide +kernel) rfl (Nat.le_of_ble_eq_true rfl) ?_
  intro p e s m args below meth c C hw ls hl
  have hx := C.1
  have hb := C.2.1
  have ho := C.2.2.2.1
  have hts := C.2.2.2.2.1
  have hf : Fz D G s.heap := hw.2.2.2.2
  have hS : va_S D s.heap s.heap [] := va_S.rf
  have hl : lv_has ls 2 [(0, .ref (β + 16))] := hl
  have hRf : 4 ≤ rmX0_shareOut.frames := Nat.le_refl _
  have hRl : 93 ≤ rmX0_shareOut.locals := Nat.le_refl _
  have hcs : 0 ≤ rmX0_shareOut.cells ∧ 0 ≤ rmX0_shareOut.slots := ⟨Nat.le_refl _, Nat.le_refl _⟩
  refine lv_iconst (v := 0) hx hb dX0_shareOut_0 (by decide) ?_
  refine lv_istore_n (lv' := [(1, .int 0), (0, .ref (β + 16))]) hx hb dX0_shareOut_1 rfl hl (by decide) rfl (fun ls hl => ?_)
  obtain ⟨x10, hj, hm⟩ := bind_e hm
  refine lX0_shareOut_2 C hRf hRl hcs hf NF _ _ _ _ _ _ hj hw hS (lv_sub hl [1, 0] rfl) (fun x10_ e0 H locs ls hw hS hl => ?_)
  cases e0
  obtain rfl := Option.some.inj hm
  exact xret_v C hw hS dX0_shareOut_33
theorem dX0_casesBehind_0 : decode cX0_casesBehind 0 = .ok (.iconst 0, 1) := by decide +kernel
theorem dX0_casesBehind_1 : decode cX0_casesBehind 1 = .ok (.istore_n 3, 1) := by decide +kernel
theorem dX0_casesBehind_2 : decode cX0_casesBehind 2 = .ok (.aload_n 0, 1) := by decide +kernel
theorem dX0_casesBehind_3 : decode cX0_casesBehind 3 = .ok (.getfield 31, 3) := by decide +kernel
theorem dX0_casesBehind_6 : decode cX0_casesBehind 6 = .ok (.ineg, 1) := by decide +kernel
theorem dX0_casesBehind_7 : decode cX0_casesBehind 7 = .ok (.istore 4, 2) := by decide +kernel
theorem dX0_casesBehind_9 : decode cX0_casesBehind 9 = .ok (.iload 4, 2) := by decide +kernel
theorem dX0_casesBehind_11 : decode cX0_casesBehind 11 = .ok (.aload_n 0, 1) := by decide +kernel
theorem dX0_casesBehind_12 : decode cX0_casesBehind 12 = .ok (.getfield 31, 3) := by decide +kernel
theorem dX0_casesBehind_15 : decode cX0_casesBehind 15 = .ok (.if_icmp .gt 53, 3) := by decide +kernel
theorem dX0_casesBehind_18 : decode cX0_casesBehind 18 = .ok (.aload_n 0, 1) := by decide +kernel
theorem dX0_casesBehind_19 : decode cX0_casesBehind 19 = .ok (.iload_n 1, 1) := by decide +kernel
theorem dX0_casesBehind_20 : decode cX0_casesBehind 20 = .ok (.aload_n 0, 1) := by decide +kernel
theorem dX0_casesBehind_21 : decode cX0_casesBehind 21 = .ok (.getfield 9, 3) := by decide +kernel
theorem dX0_casesBehind_24 : decode cX0_casesBehind 24 = .ok (.iload_n 1, 1) := by decide +kernel
theorem dX0_casesBehind_25 : decode cX0_casesBehind 25 = .ok (.iaload, 1) := by decide +kernel
theorem dX0_casesBehind_26 : decode cX0_casesBehind 26 = .ok (.iload 4, 2) := by decide +kernel
theorem dX0_casesBehind_28 : decode cX0_casesBehind 28 = .ok (.iadd, 1) := by decide +kernel
theorem dX0_casesBehind_29 : decode cX0_casesBehind 29 = .ok (.iconst 0, 1) := by decide +kernel
theorem dX0_casesBehind_30 : decode cX0_casesBehind 30 = .ok (.invokevirtual 46, 3) := by decide +kernel
theorem dX0_casesBehind_33 : decode cX0_casesBehind 33 = .ok (.iload_n 2, 1) := by decide +kernel
theorem dX0_casesBehind_34 : decode cX0_casesBehind 34 = .ok (.istore 5, 2) := by decide +kernel
theorem dX0_casesBehind_36 : decode cX0_casesBehind 36 = .ok (.iload 5, 2) := by decide +kernel
theorem dX0_casesBehind_38 : decode cX0_casesBehind 38 = .ok (.aload_n 0, 1) := by decide +kernel
theorem dX0_casesBehind_39 : decode cX0_casesBehind 39 = .ok (.getfield 18, 3) := by decide +kernel
theorem dX0_casesBehind_42 : decode cX0_casesBehind 42 = .ok (.arraylength, 1) := by decide +kernel
theorem dX0_casesBehind_43 : decode cX0_casesBehind 43 = .ok (.if_icmp .ge 19, 3) := by decide +kernel
theorem dX0_casesBehind_46 : decode cX0_casesBehind 46 = .ok (.iload_n 3, 1) := by decide +kernel
theorem dX0_casesBehind_47 : decode cX0_casesBehind 47 = .ok (.aload_n 0, 1) := by decide +kernel
theorem dX0_casesBehind_48 : decode cX0_casesBehind 48 = .ok (.getfield 18, 3) := by decide +kernel
theorem dX0_casesBehind_51 : decode cX0_casesBehind 51 = .ok (.iload 5, 2) := by decide +kernel
theorem dX0_casesBehind_53 : decode cX0_casesBehind 53 = .ok (.iaload, 1) := by decide +kernel
theorem dX0_casesBehind_54 : decode cX0_casesBehind 54 = .ok (.iadd, 1) := by decide +kernel
theorem dX0_casesBehind_55 : decode cX0_casesBehind 55 = .ok (.istore_n 3, 1) := by decide +kernel
theorem dX0_casesBehind_56 : decode cX0_casesBehind 56 = .ok (.iinc 5 1, 3) := by decide +kernel
theorem dX0_casesBehind_59 : decode cX0_casesBehind 59 = .ok (.goto (-23), 3) := by decide +kernel
theorem dX0_casesBehind_62 : decode cX0_casesBehind 62 = .ok (.iinc 4 1, 3) := by decide +kernel
theorem dX0_casesBehind_65 : decode cX0_casesBehind 65 = .ok (.goto (-56), 3) := by decide +kernel
theorem dX0_casesBehind_68 : decode cX0_casesBehind 68 = .ok (.iload_n 3, 1) := by decide +kernel
theorem dX0_casesBehind_69 : decode cX0_casesBehind 69 = .ok (.ireturn, 1) := by decide +kernel
def BX0_casesBehind_36 (x : XS) (q1 : Int32) (q2 : Int32) (q4 : Int32) (lp : Int32 → Int32 → Option (Int32)) (u3 : Int32) (u5 : Int32) : Option (Int32) := if 5 ≤ u5 then some u3 else if ib u5 5 then lt (u3 + (x.2.1 19 u5.toNatClampNeg)) fun v6 => lt (u5 + 1) fun v7 => lp v6 v7 else none
def LX0_casesBehind_36 (x : XS) (q1 : Int32) (q2 : Int32) (q4 : Int32) : Nat → Int32 → Int32 → Option (Int32)
  | 0, _, _ => none
  | n + 1, u3, u5 => BX0_casesBehind_36 x q1 q2 q4 (LX0_casesBehind_36 x q1 q2 q4 n) u3 u5
def BX0_casesBehind_9 (q1 : Int32) (q2 : Int32) (lp : Int32 → Int32 → XS → Option (Int32 × XS)) (u3 : Int32) (u4 : Int32) (x : XS) : Option (Int32 × XS) := if (x.1 16 6) < u4 then some (u3, x) else if ib q1 10 then Option.bind (fX0_countWays x q1 ((x.2.1 17 q1.toNatClampNeg) + u4) false) fun x3 => Option.bind (LX0_casesBehind_36 x3 q1 q2 u4 NF u3 q2) fun v8 => lt (u4 + 1) fun v9 => lp v8 v9 x3 else none
def LX0_casesBehind_9 (q1 : Int32) (q2 : Int32) : Nat → Int32 → Int32 → XS → Option (Int32 × XS)
  | 0, _, _, _ => none
  | n + 1, u3, u4, x => BX0_casesBehind_9 q1 q2 (LX0_casesBehind_9 q1 q2 n) u3 u4 x
def fX0_casesBehind (x : XS) (a1 : Int32) (a2 : Int32) : Option (Int32 × XS) := lt (-(x.1 16 6)) fun v1 => bind2 (LX0_casesBehind_9 a1 a2 NF 0 v1 x) fun v10 x11 => some (v10, x11)
set_option maxHeartbeats 4000000 in
set_option maxRecDepth 100000 in
theorem lX0_casesBehind_36 {p : Program} {l : Launch} {e : Env} {R : Room} {s : State} {m : MethodId} {args : Array Value} {below : List Frame} {meth : Method} {c : Code} {cells slots : Nat} {Q : State → Prop} {G : xG} {β : Nat} {D : Nat → Prop} (C : Cx p s m args meth c RX0 cX0_casesBehind 6 (some .int) (KK G)) (hRf : 3 ≤ R.frames) (hRl : 69 ≤ R.locals) (hcs : cells ≤ R.cells ∧ slots ≤ R.slots) (hf : Fz D G s.heap) (x : XS) (q1 : Int32) (q2 : Int32) (q4 : Int32) : ∀ (n : Nat) (u3 : Int32) (u5 : Int32) (J : Int32) (H : Heap) (locs : List Loc) (ls : Array Slot), LX0_casesBehind_36 x q1 q2 q4 n u3 u5 = some J → CW β D G x H → va_S D s.heap H locs → lv_has ls 6 [(0, .ref (β + 16)), (1, .int q1), (2, .int q2), (3, .int u3), (4, .int q4), (5, .int u5)] → (∀ (w3 : Int32), J = w3 → ∀ (H : Heap) (locs : List Loc) (ls : Array Slot), CW β D G x H → va_S D s.heap H locs → lv_has ls 6 [(0, .ref (β + 16)), (1, .int q1), (2, .int q2), (3, .int w3), (4, .int q4)] → W p l e R s m args below meth c H locs cells slots Q (F0 m 62 ls [])) → W p l e R s m args below meth c H locs cells slots Q (F0 m 36 ls []) := by
  have hx := C.1
  have hb := C.2.1
  have ho := C.2.2.2.1
  have hts := C.2.2.2.2.1
  intro n
  induction n with
  | zero =>
    intro u3 u5 J H locs ls hm
    exact absurd hm (by simp [LX0_casesBehind_36])
  | succ n ih =>
    intro u3 u5 J H locs ls hm hw hS hl ke
    replace hm : BX0_casesBehind_36 x q1 q2 q4 (LX0_casesBehind_36 x q1 q2 q4 n) u3 u5 = some J := hm
    unfold BX0_casesBehind_36 at hm
    refine lv_iload hx hb dX0_casesBehind_36 (lv_at hl 5 rfl) ?_
    refine lv_aload_n hx hb dX0_casesBehind_38 rfl (lv_at hl 0 rfl) ?_
    refine gX0_18 C hw dX0_casesBehind_39 ?_
    refine anX_19 C hw dX0_casesBehind_42 ?_
    refine lv_icmp_ge (tgt := 62) hx hb dX0_casesBehind_43 (by decide) (fun cc => ?_) (fun cc => ?_)
    · replace hm := ite_p cc hm
      exact ke _ (Option.some.inj hm).symm _ _ _ hw hS (lv_sub hl [0, 1, 2, 3, 4] rfl)
    · replace hm := ite_n cc hm
      refine lv_iload_n hx hb dX0_casesBehind_46 rfl (lv_at hl 3 rfl) ?_
      refine lv_aload_n hx hb dX0_casesBehind_47 rfl (lv_at hl 0 rfl) ?_
      refine gX0_18 C hw dX0_casesBehind_48 ?_
      refine lv_iload hx hb dX0_casesBehind_51 (lv_at hl 5 rfl) ?_
      obtain ⟨h5, hm⟩ := chk_e hm
      refine alX_19 C hw h5 dX0_casesBehind_53 ?_
      refine lv_iadd hx hb dX0_casesBehind_54 ?_
      refine topI hm (fun v6 hm => ?_)
      refine lv_istore_n (lv' := [(3, .int v6), (0, .ref (β + 16)), (1, .int q1), (2, .int q2), (4, .int q4), (5, .int u5)]) hx hb dX0_casesBehind_55 rfl hl (by decide) rfl (fun ls hl => ?_)
      obtain ⟨v7, ev, hm⟩ := lt_e hm
      refine lv_iinc (v := v7) (lv' := [(5, .int v7), (3, .int v6), (0, .ref (β + 16)), (1, .int q1), (2, .int q2), (4, .int q4)]) hx hb dX0_casesBehind_56 hl (k := 5) rfl (by rw [ev]; rfl) (by decide) rfl (fun ls hl => ?_)
      clear ev
      refine lv_goto (tgt := 36) hx hb dX0_casesBehind_59 (by decide) ?_
      exact ih _ _ _ _ _ _ hm hw hS (lv_sub hl [2, 3, 4, 1, 5, 0] rfl) ke
set_option maxHeartbeats 4000000 in
set_option maxRecDepth 100000 in
theorem lX0_casesBehind_9 {p : Program} {l : Launch} {e : Env} {R : Room} {s : State} {m : MethodId} {args : Array Value} {below : List Frame} {meth : Method} {c : Code} {cells slots : Nat} {Q : State → Prop} {G : xG} {β : Nat} {D : Nat → Prop} (C : Cx p s m args meth c RX0 cX0_casesBehind 6 (some .int) (KK G)) (hRf : 3 ≤ R.frames) (hRl : 69 ≤ R.locals) (hcs : cells ≤ R.cells ∧ slots ≤ R.slots) (hf : Fz D G s.heap) (q1 : Int32) (q2 : Int32) : ∀ (n : Nat) (u3 : Int32) (u4 : Int32) (x : XS) (J : Int32 × XS) (H : Heap) (locs : List Loc) (ls : Array Slot), LX0_casesBehind_9 q1 q2 n u3 u4 x = some J → CW β D G x H → va_S D s.heap H locs → lv_has ls 6 [(0, .ref (β + 16)), (1, .int q1), (2, .int q2), (3, .int u3), (4, .int u4)] → (∀ (w3 : Int32) (x1 : XS), J = (w3, x1) → ∀ (H : Heap) (locs : List Loc) (ls : Array Slot), CW β D G x1 H → va_S D s.heap H locs → lv_has ls 6 [(3, .int w3)] → W p l e R s m args below meth c H locs cells slots Q (F0 m 68 ls [])) → W p l e R s m args below meth c H locs cells slots Q (F0 m 9 ls []) := by
  have hx := C.1
  have hb := C.2.1
  have ho := C.2.2.2.1
  have hts := C.2.2.2.2.1
  intro n
  induction n with
  | zero =>
    intro u3 u4 x J H locs ls hm
    exact absurd hm (by simp [LX0_casesBehind_9])
  | succ n ih =>
    intro u3 u4 x J H locs ls hm hw hS hl ke
    replace hm : BX0_casesBehind_9 q1 q2 (LX0_casesBehind_9 q1 q2 n) u3 u4 x = some J := hm
    unfold BX0_casesBehind_9 at hm
    refine lv_iload hx hb dX0_casesBehind_9 (lv_at hl 4 rfl) ?_
    refine lv_aload_n hx hb dX0_casesBehind_11 rfl (lv_at hl 0 rfl) ?_
    refine gX0_31 C hw dX0_casesBehind_12 ?_
    refine lv_icmp_gt (tgt := 68) hx hb dX0_casesBehind_15 (by decide) (fun cc => ?_) (fun cc => ?_)
    · replace hm := ite_p cc hm
      exact ke _ _ (Option.some.inj hm).symm _ _ _ hw hS (lv_sub hl [3] rfl)
    · replace hm := ite_n cc hm
      refine lv_aload_n hx hb dX0_casesBehind_18 rfl (lv_at hl 0 rfl) ?_
      refine lv_iload_n hx hb dX0_casesBehind_19 rfl (lv_at hl 1 rfl) ?_
      refine lv_aload_n hx hb dX0_casesBehind_20 rfl (lv_at hl 0 rfl) ?_
      refine gX0_9 C hw dX0_casesBehind_21 ?_
      refine lv_iload_n hx hb dX0_casesBehind_24 rfl (lv_at hl 1 rfl) ?_
      obtain ⟨h2, hm⟩ := chk_e hm
      refine alX_17 C hw h2 dX0_casesBehind_25 ?_
      refine lv_iload hx hb dX0_casesBehind_26 (lv_at hl 4 rfl) ?_
      refine lv_iadd hx hb dX0_casesBehind_28 ?_
      refine lv_iconst (v := 0) hx hb dX0_casesBehind_29 (by decide) ?_
      obtain ⟨x3, h4, hm⟩ := bind_e hm
      refine sX0_46 (a1 := q1) (a2 := ((x.2.1 17 q1.toNatClampNeg) + u4)) (a3 := false) C h4 hw hS hl.1 (Nat.le_of_ble_eq_true rfl) (Nat.le_trans (Nat.le_of_ble_eq_true rfl) hRf) (Nat.le_trans (Nat.le_of_ble_eq_true rfl) hRl) hcs dX0_casesBehind_30 (fun H locs hw hS => ?_)
      refine lv_iload_n hx hb dX0_casesBehind_33 rfl (lv_at hl 2 rfl) ?_
      refine lv_istore (lv' := [(5, .int q2), (0, .ref (β + 16)), (1, .int q1), (2, .int q2), (3, .int u3), (4, .int u4)]) hx hb dX0_casesBehind_34 hl (by decide) rfl (fun ls hl => ?_)
      obtain ⟨v8, hj, hm⟩ := bind_e hm
      refine lX0_casesBehind_36 C hRf hRl hcs hf x3 q1 q2 u4 NF _ _ _ _ _ _ hj hw hS (lv_sub hl [1, 2, 3, 4, 5, 0] rfl) (fun v8_ e0 H locs ls hw hS hl => ?_)
      cases e0
      obtain ⟨v9, ev, hm⟩ := lt_e hm
      refine lv_iinc (v := v9) (lv' := [(4, .int v9), (0, .ref (β + 16)), (1, .int q1), (2, .int q2), (3, .int v8)]) hx hb dX0_casesBehind_62 hl (k := 4) rfl (by rw [ev]; rfl) (by decide) rfl (fun ls hl => ?_)
      clear ev
      refine lv_goto (tgt := 9) hx hb dX0_casesBehind_65 (by decide) ?_
      exact ih _ _ _ _ _ _ _ hm hw hS (lv_sub hl [1, 2, 3, 4, 0] rfl) ke
abbrev rmX0_casesBehind : Room := { frames := 3, cells := 0, slots := 0, locals := 69 }
set_option maxHeartbeats 4000000 in
set_option maxRecDepth 100000 in
theorem kX0_casesBehind {l : Launch} {G : xG} {β : Nat} {D : Nat → Prop} {x x' : XS} {a1 : Int32} {a2 : Int32} {r : Int32} (hm : fX0_casesBehind x a1 a2 = some (r, x')) : Met l yX0_casesBehind (.code yX0_casesBehind cX0_casesBehind 6 (some .int) :: GT) rmX0_casesBehind (PcW [.ref (β + 16), .int a1, .int a2] (CW β D G x) (KK G)) (QcW D (some (.int r)) (CW β D G x')) 0 0 D := by
  unfold fX0_casesBehind at hm
  refine xpro (own := RX0) (by decide +kernel) rfl (Nat.le_of_ble_eq_true rfl) ?_
  intro p e s m args below meth c C hw ls hl
  have hx := C.1
  have hb := C.2.1
  have ho := C.2.2.2.1
  have hts := C.2.2.2.2.1
  have hf : Fz D G s.heap := hw.2.2.2.2
  have hS : va_S D s.heap s.heap [] := va_S.rf
  have hl : lv_has ls 6 [(0, .ref (β + 16)), (1, .int a1), (2, .int a2)] := hl
  have hRf : 3 ≤ rmX0_casesBehind.frames := Nat.le_refl _
  have hRl : 69 ≤ rmX0_casesBehind.locals := Nat.le_refl _
  have hcs : 0 ≤ rmX0_casesBehind.cells ∧ 0 ≤ rmX0_casesBehind.slots := ⟨Nat.le_refl _, Nat.le_refl _⟩
  refine lv_iconst (v := 0) hx hb dX0_casesBehind_0 (by decide) ?_
  refine lv_istore_n (lv' := [(3, .int 0), (0, .ref (β + 16)), (1, .int a1), (2, .int a2)]) hx hb dX0_casesBehind_1 rfl hl (by decide) rfl (fun ls hl => ?_)
  refine lv_aload_n hx hb dX0_casesBehind_2 rfl (lv_at hl 1 rfl) ?_
  refine gX0_31 C hw dX0_casesBehind_3 ?_
  refine lv_ineg hx hb dX0_casesBehind_6 ?_
  refine topI hm (fun v1 hm => ?_)
  refine lv_istore (lv' := [(4, .int v1), (3, .int 0), (0, .ref (β + 16)), (1, .int a1), (2, .int a2)]) hx hb dX0_casesBehind_7 hl (by decide) rfl (fun ls hl => ?_)
  obtain ⟨v10, x11, hj, hm⟩ := bind2_e hm
  refine lX0_casesBehind_9 C hRf hRl hcs hf a1 a2 NF _ _ _ _ _ _ _ hj hw hS (lv_sub hl [2, 3, 4, 1, 0] rfl) (fun v10_ x11_ e0 H locs ls hw hS hl => ?_)
  cases e0
  refine lv_iload_n hx hb dX0_casesBehind_68 rfl (lv_at hl 0 rfl) ?_
  obtain ⟨rfl, rfl⟩ := inj2 hm
  exact xret_i C hw hS dX0_casesBehind_69
theorem dJ6_bitCount_0f7a4_0 : decode cJ6_bitCount_0f7a4 0 = .ok (.iload_n 0, 1) := by decide +kernel
theorem dJ6_bitCount_0f7a4_1 : decode cJ6_bitCount_0f7a4 1 = .ok (.iload_n 0, 1) := by decide +kernel
theorem dJ6_bitCount_0f7a4_2 : decode cJ6_bitCount_0f7a4 2 = .ok (.iconst 1, 1) := by decide +kernel
theorem dJ6_bitCount_0f7a4_3 : decode cJ6_bitCount_0f7a4 3 = .ok (.iushr, 1) := by decide +kernel
theorem dJ6_bitCount_0f7a4_4 : decode cJ6_bitCount_0f7a4 4 = .ok (.ldc_w 265, 3) := by decide +kernel
theorem dJ6_bitCount_0f7a4_7 : decode cJ6_bitCount_0f7a4 7 = .ok (.iand, 1) := by decide +kernel
theorem dJ6_bitCount_0f7a4_8 : decode cJ6_bitCount_0f7a4 8 = .ok (.isub, 1) := by decide +kernel
theorem dJ6_bitCount_0f7a4_9 : decode cJ6_bitCount_0f7a4 9 = .ok (.istore_n 0, 1) := by decide +kernel
theorem dJ6_bitCount_0f7a4_10 : decode cJ6_bitCount_0f7a4 10 = .ok (.iload_n 0, 1) := by decide +kernel
theorem dJ6_bitCount_0f7a4_11 : decode cJ6_bitCount_0f7a4 11 = .ok (.ldc_w 266, 3) := by decide +kernel
theorem dJ6_bitCount_0f7a4_14 : decode cJ6_bitCount_0f7a4 14 = .ok (.iand, 1) := by decide +kernel
theorem dJ6_bitCount_0f7a4_15 : decode cJ6_bitCount_0f7a4 15 = .ok (.iload_n 0, 1) := by decide +kernel
theorem dJ6_bitCount_0f7a4_16 : decode cJ6_bitCount_0f7a4 16 = .ok (.iconst 2, 1) := by decide +kernel
theorem dJ6_bitCount_0f7a4_17 : decode cJ6_bitCount_0f7a4 17 = .ok (.iushr, 1) := by decide +kernel
theorem dJ6_bitCount_0f7a4_18 : decode cJ6_bitCount_0f7a4 18 = .ok (.ldc_w 266, 3) := by decide +kernel
theorem dJ6_bitCount_0f7a4_21 : decode cJ6_bitCount_0f7a4 21 = .ok (.iand, 1) := by decide +kernel
theorem dJ6_bitCount_0f7a4_22 : decode cJ6_bitCount_0f7a4 22 = .ok (.iadd, 1) := by decide +kernel
theorem dJ6_bitCount_0f7a4_23 : decode cJ6_bitCount_0f7a4 23 = .ok (.istore_n 0, 1) := by decide +kernel
theorem dJ6_bitCount_0f7a4_24 : decode cJ6_bitCount_0f7a4 24 = .ok (.iload_n 0, 1) := by decide +kernel
theorem dJ6_bitCount_0f7a4_25 : decode cJ6_bitCount_0f7a4 25 = .ok (.iload_n 0, 1) := by decide +kernel
theorem dJ6_bitCount_0f7a4_26 : decode cJ6_bitCount_0f7a4 26 = .ok (.iconst 4, 1) := by decide +kernel
theorem dJ6_bitCount_0f7a4_27 : decode cJ6_bitCount_0f7a4 27 = .ok (.iushr, 1) := by decide +kernel
theorem dJ6_bitCount_0f7a4_28 : decode cJ6_bitCount_0f7a4 28 = .ok (.iadd, 1) := by decide +kernel
theorem dJ6_bitCount_0f7a4_29 : decode cJ6_bitCount_0f7a4 29 = .ok (.ldc_w 267, 3) := by decide +kernel
theorem dJ6_bitCount_0f7a4_32 : decode cJ6_bitCount_0f7a4 32 = .ok (.iand, 1) := by decide +kernel
theorem dJ6_bitCount_0f7a4_33 : decode cJ6_bitCount_0f7a4 33 = .ok (.istore_n 0, 1) := by decide +kernel
theorem dJ6_bitCount_0f7a4_34 : decode cJ6_bitCount_0f7a4 34 = .ok (.iload_n 0, 1) := by decide +kernel
theorem dJ6_bitCount_0f7a4_35 : decode cJ6_bitCount_0f7a4 35 = .ok (.iload_n 0, 1) := by decide +kernel
theorem dJ6_bitCount_0f7a4_36 : decode cJ6_bitCount_0f7a4 36 = .ok (.bipush 8, 2) := by decide +kernel
theorem dJ6_bitCount_0f7a4_38 : decode cJ6_bitCount_0f7a4 38 = .ok (.iushr, 1) := by decide +kernel
theorem dJ6_bitCount_0f7a4_39 : decode cJ6_bitCount_0f7a4 39 = .ok (.iadd, 1) := by decide +kernel
theorem dJ6_bitCount_0f7a4_40 : decode cJ6_bitCount_0f7a4 40 = .ok (.istore_n 0, 1) := by decide +kernel
theorem dJ6_bitCount_0f7a4_41 : decode cJ6_bitCount_0f7a4 41 = .ok (.iload_n 0, 1) := by decide +kernel
theorem dJ6_bitCount_0f7a4_42 : decode cJ6_bitCount_0f7a4 42 = .ok (.iload_n 0, 1) := by decide +kernel
theorem dJ6_bitCount_0f7a4_43 : decode cJ6_bitCount_0f7a4 43 = .ok (.bipush 16, 2) := by decide +kernel
theorem dJ6_bitCount_0f7a4_45 : decode cJ6_bitCount_0f7a4 45 = .ok (.iushr, 1) := by decide +kernel
theorem dJ6_bitCount_0f7a4_46 : decode cJ6_bitCount_0f7a4 46 = .ok (.iadd, 1) := by decide +kernel
theorem dJ6_bitCount_0f7a4_47 : decode cJ6_bitCount_0f7a4 47 = .ok (.istore_n 0, 1) := by decide +kernel
theorem dJ6_bitCount_0f7a4_48 : decode cJ6_bitCount_0f7a4 48 = .ok (.iload_n 0, 1) := by decide +kernel
theorem dJ6_bitCount_0f7a4_49 : decode cJ6_bitCount_0f7a4 49 = .ok (.bipush 63, 2) := by decide +kernel
theorem dJ6_bitCount_0f7a4_51 : decode cJ6_bitCount_0f7a4 51 = .ok (.iand, 1) := by decide +kernel
theorem dJ6_bitCount_0f7a4_52 : decode cJ6_bitCount_0f7a4 52 = .ok (.ireturn, 1) := by decide +kernel
def fJ6_bitCount_0f7a4 (a1 : Int32) : Option (Int32) := lt (a1 - (((a1.toUInt32 >>> ((1 : Int32).toUInt32 &&& Int32.toUInt32 31)).toInt32) &&& 1431655765)) fun v1 => lt ((v1 &&& 858993459) + (((v1.toUInt32 >>> ((2 : Int32).toUInt32 &&& Int32.toUInt32 31)).toInt32) &&& 858993459)) fun v2 => lt ((v2 + ((v2.toUInt32 >>> ((4 : Int32).toUInt32 &&& Int32.toUInt32 31)).toInt32)) &&& 252645135) fun v3 => lt (v3 + ((v3.toUInt32 >>> ((8 : Int32).toUInt32 &&& Int32.toUInt32 31)).toInt32)) fun v4 => lt (v4 + ((v4.toUInt32 >>> ((16 : Int32).toUInt32 &&& Int32.toUInt32 31)).toInt32)) fun v5 => some (v5 &&& 63)
abbrev rmJ6_bitCount_0f7a4 : Room := { frames := 0, cells := 0, slots := 0, locals := 0 }
set_option maxHeartbeats 4000000 in
set_option maxRecDepth 100000 in
theorem kJ6_bitCount_0f7a4 {l : Launch} {G : xG} {β : Nat} {D : Nat → Prop} {x : XS} {a1 : Int32} {r : Int32} (hm : fJ6_bitCount_0f7a4 a1 = some r) : Met l yJ6_bitCount_0f7a4 (.code yJ6_bitCount_0f7a4 cJ6_bitCount_0f7a4 1 (some .int) :: GT) rmJ6_bitCount_0f7a4 (PcW [.int a1] (CW β D G x) (KK G)) (QcW D (some (.int r)) (CW β D G x)) 0 0 D := by
  unfold fJ6_bitCount_0f7a4 at hm
  refine xpro (own := RJ6) (by decide +kernel) rfl (Nat.le_of_ble_eq_true rfl) ?_
  intro p e s m args below meth c C hw ls hl
  have hx := C.1
  have hb := C.2.1
  have ho := C.2.2.2.1
  have hts := C.2.2.2.2.1
  have hf : Fz D G s.heap := hw.2.2.2.2
  have hS : va_S D s.heap s.heap [] := va_S.rf
  have hl : lv_has ls 1 [(0, .int a1)] := hl
  have hRf : 0 ≤ rmJ6_bitCount_0f7a4.frames := Nat.le_refl _
  have hRl : 0 ≤ rmJ6_bitCount_0f7a4.locals := Nat.le_refl _
  have hcs : 0 ≤ rmJ6_bitCount_0f7a4.cells ∧ 0 ≤ rmJ6_bitCount_0f7a4.slots := ⟨Nat.le_refl _, Nat.le_refl _⟩
  refine lv_iload_n hx hb dJ6_bitCount_0f7a4_0 rfl (lv_at hl 0 rfl) ?_
  refine lv_iload_n hx hb dJ6_bitCount_0f7a4_1 rfl (lv_at hl 0 rfl) ?_
  refine lv_iconst (v := 1) hx hb dJ6_bitCount_0f7a4_2 (by decide) ?_
  refine lv_iushr hx hb dJ6_bitCount_0f7a4_3 rfl ?_
  refine lv_ldcw (v := 1431655765) hx hb ho (hts (.constant RJ6 265 1431655765) (tg 562 (by decide +kernel) rfl)) dJ6_bitCount_0f7a4_4 ?_
  refine lv_iand hx hb dJ6_bitCount_0f7a4_7 ?_
  refine lv_isub hx hb dJ6_bitCount_0f7a4_8 ?_
  refine topI hm (fun v1 hm => ?_)
  refine lv_istore_n (lv' := [(0, .int v1)]) hx hb dJ6_bitCount_0f7a4_9 rfl hl (by decide) rfl (fun ls hl => ?_)
  refine lv_iload_n hx hb dJ6_bitCount_0f7a4_10 rfl (lv_at hl 0 rfl) ?_
  refine lv_ldcw (v := 858993459) hx hb ho (hts (.constant RJ6 266 858993459) (tg 563 (by decide +kernel) rfl)) dJ6_bitCount_0f7a4_11 ?_
  refine lv_iand hx hb dJ6_bitCount_0f7a4_14 ?_
  refine lv_iload_n hx hb dJ6_bitCount_0f7a4_15 rfl (lv_at hl 0 rfl) ?_
  refine lv_iconst (v := 2) hx hb dJ6_bitCount_0f7a4_16 (by decide) ?_
  refine lv_iushr hx hb dJ6_bitCount_0f7a4_17 rfl ?_
  refine lv_ldcw (v := 858993459) hx hb ho (hts (.constant RJ6 266 858993459) (tg 563 (by decide +kernel) rfl)) dJ6_bitCount_0f7a4_18 ?_
  refine lv_iand hx hb dJ6_bitCount_0f7a4_21 ?_
  refine lv_iadd hx hb dJ6_bitCount_0f7a4_22 ?_
  refine topI hm (fun v2 hm => ?_)
  refine lv_istore_n (lv' := [(0, .int v2)]) hx hb dJ6_bitCount_0f7a4_23 rfl hl (by decide) rfl (fun ls hl => ?_)
  refine lv_iload_n hx hb dJ6_bitCount_0f7a4_24 rfl (lv_at hl 0 rfl) ?_
  refine lv_iload_n hx hb dJ6_bitCount_0f7a4_25 rfl (lv_at hl 0 rfl) ?_
  refine lv_iconst (v := 4) hx hb dJ6_bitCount_0f7a4_26 (by decide) ?_
  refine lv_iushr hx hb dJ6_bitCount_0f7a4_27 rfl ?_
  refine lv_iadd hx hb dJ6_bitCount_0f7a4_28 ?_
  refine lv_ldcw (v := 252645135) hx hb ho (hts (.constant RJ6 267 252645135) (tg 564 (by decide +kernel) rfl)) dJ6_bitCount_0f7a4_29 ?_
  refine lv_iand hx hb dJ6_bitCount_0f7a4_32 ?_
  refine topI hm (fun v3 hm => ?_)
  refine lv_istore_n (lv' := [(0, .int v3)]) hx hb dJ6_bitCount_0f7a4_33 rfl hl (by decide) rfl (fun ls hl => ?_)
  refine lv_iload_n hx hb dJ6_bitCount_0f7a4_34 rfl (lv_at hl 0 rfl) ?_
  refine lv_iload_n hx hb dJ6_bitCount_0f7a4_35 rfl (lv_at hl 0 rfl) ?_
  refine lv_bipush (v := 8) hx hb dJ6_bitCount_0f7a4_36 (by decide) ?_
  refine lv_iushr hx hb dJ6_bitCount_0f7a4_38 rfl ?_
  refine lv_iadd hx hb dJ6_bitCount_0f7a4_39 ?_
  refine topI hm (fun v4 hm => ?_)
  refine lv_istore_n (lv' := [(0, .int v4)]) hx hb dJ6_bitCount_0f7a4_40 rfl hl (by decide) rfl (fun ls hl => ?_)
  refine lv_iload_n hx hb dJ6_bitCount_0f7a4_41 rfl (lv_at hl 0 rfl) ?_
  refine lv_iload_n hx hb dJ6_bitCount_0f7a4_42 rfl (lv_at hl 0 rfl) ?_
  refine lv_bipush (v := 16) hx hb dJ6_bitCount_0f7a4_43 (by decide) ?_
  refine lv_iushr hx hb dJ6_bitCount_0f7a4_45 rfl ?_
  refine lv_iadd hx hb dJ6_bitCount_0f7a4_46 ?_
  refine topI hm (fun v5 hm => ?_)
  refine lv_istore_n (lv' := [(0, .int v5)]) hx hb dJ6_bitCount_0f7a4_47 rfl hl (by decide) rfl (fun ls hl => ?_)
  refine lv_iload_n hx hb dJ6_bitCount_0f7a4_48 rfl (lv_at hl 0 rfl) ?_
  refine lv_bipush (v := 63) hx hb dJ6_bitCount_0f7a4_49 (by decide) ?_
  refine lv_iand hx hb dJ6_bitCount_0f7a4_51 ?_
  obtain rfl := Option.some.inj hm
  exact xret_i C hw hS dJ6_bitCount_0f7a4_52
theorem dX0_lengthenTails_0 : decode cX0_lengthenTails 0 = .ok (.iconst 0, 1) := by decide +kernel
theorem dX0_lengthenTails_1 : decode cX0_lengthenTails 1 = .ok (.istore_n 3, 1) := by decide +kernel
theorem dX0_lengthenTails_2 : decode cX0_lengthenTails 2 = .ok (.iload_n 3, 1) := by decide +kernel
theorem dX0_lengthenTails_3 : decode cX0_lengthenTails 3 = .ok (.aload_n 0, 1) := by decide +kernel
theorem dX0_lengthenTails_4 : decode cX0_lengthenTails 4 = .ok (.invokevirtual 38, 3) := by decide +kernel
theorem dX0_lengthenTails_7 : decode cX0_lengthenTails 7 = .ok (.if_icmp .ge 60, 3) := by decide +kernel
theorem dX0_lengthenTails_10 : decode cX0_lengthenTails 10 = .ok (.aload_n 0, 1) := by decide +kernel
theorem dX0_lengthenTails_11 : decode cX0_lengthenTails 11 = .ok (.getfield 24, 3) := by decide +kernel
theorem dX0_lengthenTails_14 : decode cX0_lengthenTails 14 = .ok (.iload_n 3, 1) := by decide +kernel
theorem dX0_lengthenTails_15 : decode cX0_lengthenTails 15 = .ok (.iconst 0, 1) := by decide +kernel
theorem dX0_lengthenTails_16 : decode cX0_lengthenTails 16 = .ok (.iastore, 1) := by decide +kernel
theorem dX0_lengthenTails_17 : decode cX0_lengthenTails 17 = .ok (.iconst 0, 1) := by decide +kernel
theorem dX0_lengthenTails_18 : decode cX0_lengthenTails 18 = .ok (.istore 4, 2) := by decide +kernel
theorem dX0_lengthenTails_20 : decode cX0_lengthenTails 20 = .ok (.iload 4, 2) := by decide +kernel
theorem dX0_lengthenTails_22 : decode cX0_lengthenTails 22 = .ok (.aload_n 0, 1) := by decide +kernel
theorem dX0_lengthenTails_23 : decode cX0_lengthenTails 23 = .ok (.invokevirtual 38, 3) := by decide +kernel
theorem dX0_lengthenTails_26 : decode cX0_lengthenTails 26 = .ok (.if_icmp .ge 35, 3) := by decide +kernel
theorem dX0_lengthenTails_29 : decode cX0_lengthenTails 29 = .ok (.iload_n 1, 1) := by decide +kernel
theorem dX0_lengthenTails_30 : decode cX0_lengthenTails 30 = .ok (.iload_n 3, 1) := by decide +kernel
theorem dX0_lengthenTails_31 : decode cX0_lengthenTails 31 = .ok (.iadd, 1) := by decide +kernel
theorem dX0_lengthenTails_32 : decode cX0_lengthenTails 32 = .ok (.iload_n 2, 1) := by decide +kernel
theorem dX0_lengthenTails_33 : decode cX0_lengthenTails 33 = .ok (.iload 4, 2) := by decide +kernel
theorem dX0_lengthenTails_35 : decode cX0_lengthenTails 35 = .ok (.iadd, 1) := by decide +kernel
theorem dX0_lengthenTails_36 : decode cX0_lengthenTails 36 = .ok (.if_icmp .le 19, 3) := by decide +kernel
theorem dX0_lengthenTails_39 : decode cX0_lengthenTails 39 = .ok (.aload_n 0, 1) := by decide +kernel
theorem dX0_lengthenTails_40 : decode cX0_lengthenTails 40 = .ok (.getfield 24, 3) := by decide +kernel
theorem dX0_lengthenTails_43 : decode cX0_lengthenTails 43 = .ok (.iload_n 3, 1) := by decide +kernel
theorem dX0_lengthenTails_44 : decode cX0_lengthenTails 44 = .ok (.dup2, 1) := by decide +kernel
theorem dX0_lengthenTails_45 : decode cX0_lengthenTails 45 = .ok (.iaload, 1) := by decide +kernel
theorem dX0_lengthenTails_46 : decode cX0_lengthenTails 46 = .ok (.aload_n 0, 1) := by decide +kernel
theorem dX0_lengthenTails_47 : decode cX0_lengthenTails 47 = .ok (.getfield 21, 3) := by decide +kernel
theorem dX0_lengthenTails_50 : decode cX0_lengthenTails 50 = .ok (.iload 4, 2) := by decide +kernel
theorem dX0_lengthenTails_52 : decode cX0_lengthenTails 52 = .ok (.iaload, 1) := by decide +kernel
theorem dX0_lengthenTails_53 : decode cX0_lengthenTails 53 = .ok (.iadd, 1) := by decide +kernel
theorem dX0_lengthenTails_54 : decode cX0_lengthenTails 54 = .ok (.iastore, 1) := by decide +kernel
theorem dX0_lengthenTails_55 : decode cX0_lengthenTails 55 = .ok (.iinc 4 1, 3) := by decide +kernel
theorem dX0_lengthenTails_58 : decode cX0_lengthenTails 58 = .ok (.goto (-38), 3) := by decide +kernel
theorem dX0_lengthenTails_61 : decode cX0_lengthenTails 61 = .ok (.iinc 3 1, 3) := by decide +kernel
theorem dX0_lengthenTails_64 : decode cX0_lengthenTails 64 = .ok (.goto (-62), 3) := by decide +kernel
theorem dX0_lengthenTails_67 : decode cX0_lengthenTails 67 = .ok (.aload_n 0, 1) := by decide +kernel
theorem dX0_lengthenTails_68 : decode cX0_lengthenTails 68 = .ok (.getfield 24, 3) := by decide +kernel
theorem dX0_lengthenTails_71 : decode cX0_lengthenTails 71 = .ok (.iconst 0, 1) := by decide +kernel
theorem dX0_lengthenTails_72 : decode cX0_lengthenTails 72 = .ok (.aload_n 0, 1) := by decide +kernel
theorem dX0_lengthenTails_73 : decode cX0_lengthenTails 73 = .ok (.getfield 21, 3) := by decide +kernel
theorem dX0_lengthenTails_76 : decode cX0_lengthenTails 76 = .ok (.iconst 0, 1) := by decide +kernel
theorem dX0_lengthenTails_77 : decode cX0_lengthenTails 77 = .ok (.aload_n 0, 1) := by decide +kernel
theorem dX0_lengthenTails_78 : decode cX0_lengthenTails 78 = .ok (.invokevirtual 38, 3) := by decide +kernel
theorem dX0_lengthenTails_81 : decode cX0_lengthenTails 81 = .ok (.invokestatic 81, 3) := by decide +kernel
theorem dX0_lengthenTails_84 : decode cX0_lengthenTails 84 = .ok (.return_, 1) := by decide +kernel
theorem gX0_24 {p : Program} {l : Launch} {e : Env} {R : Room} {s : State} {m : MethodId} {args : Array Value} {below : List Frame} {meth : Method} {c : Code} {H : Heap} {locs : List Loc} {cells slots : Nat} {Q : State → Prop} {cc : ByteArray} {pc nL : Nat} {ls : Array Slot} {rest : List Value} {ret : Option FieldType} {G : xG} {β : Nat} {D : Nat → Prop} {x : XS} (C : Cx p s m args meth c RX0 cc nL ret (KK G)) (hw : CW β D G x H) (hd : decode cc pc = .ok (.getfield 24, 3)) (kk : W p l e R s m args below meth c H locs cells slots Q (F0 m (pc + 3) ls (.ref (β + 21) :: rest))) : W p l e R s m args below meth c H locs cells slots Q (F0 m pc ls (.ref (β + 16) :: rest)) :=
  va_get C.1 C.2.1 C.2.2.2.2.1 iwX0 C.2.2.2.1 C.K.1 (xP1 (hw.2.2.1 16 (by decide))) 0 rfl rfl 4 (by decide) (C.2.2.2.2.1 (.fieldLink RX0 24 RX0 "longerTails" "[I") (tg 136 (by decide +kernel) rfl)) (fun _ h9 => h9) rfl hd kk
theorem asX_21 {p : Program} {l : Launch} {e : Env} {R : Room} {s : State} {m : MethodId} {args : Array Value} {below : List Frame} {meth : Method} {c : Code} {H : Heap} {locs : List Loc} {cells slots : Nat} {Q : State → Prop} {cc : ByteArray} {pc nL : Nat} {ls : Array Slot} {rest : List Value} {ret : Option FieldType} {G : xG} {β : Nat} {D : Nat → Prop} {x : XS} {own : String} {i : Int32} {v : Int32} (C : Cx p s m args meth c own cc nL ret (KK G)) (hw : CW β D G x H) (hS : va_S D s.heap H locs) (hin : ib i 7) (hd : decode cc pc = .ok (.iastore, 1)) (kk : ∀ (H1 : Heap) (locs1 : List Loc), CW β D G (xsA x 21 i.toNatClampNeg v) H1 → va_S D s.heap H1 locs1 → W p l e R s m args below meth c H1 locs1 cells slots Q (F0 m (pc + 1) ls (rest))) : W p l e R s m args below meth c H locs cells slots Q (F0 m pc ls (.int v :: .int i :: .ref (β + 21) :: rest)) :=
  x_iast C.1 C.2.1 C.K.1 hS 0 (hw.2.2.1 21 (by decide)) (hw.2.1 21 (by decide)) rfl hin hd (fun H1 locs1 hat ho hS => kk H1 locs1 (hw.setA 21 _ _ hat ho) hS)
theorem alX_21 {p : Program} {l : Launch} {e : Env} {R : Room} {s : State} {m : MethodId} {args : Array Value} {below : List Frame} {meth : Method} {c : Code} {H : Heap} {locs : List Loc} {cells slots : Nat} {Q : State → Prop} {cc : ByteArray} {pc nL : Nat} {ls : Array Slot} {rest : List Value} {ret : Option FieldType} {G : xG} {β : Nat} {D : Nat → Prop} {x : XS} {own : String} {i : Int32} (C : Cx p s m args meth c own cc nL ret (KK G)) (hw : CW β D G x H) (hin : ib i 7) (hd : decode cc pc = .ok (.iaload, 1)) (kk : W p l e R s m args below meth c H locs cells slots Q (F0 m (pc + 1) ls (.int (x.2.1 21 i.toNatClampNeg) :: rest))) : W p l e R s m args below meth c H locs cells slots Q (F0 m pc ls (.int i :: .ref (β + 21) :: rest)) :=
  va_iald C.1 C.2.1 C.K.1 (xP1 (hw.2.2.1 21 (by decide))) 0 0 rfl rfl hin hd kk
theorem gX0_21 {p : Program} {l : Launch} {e : Env} {R : Room} {s : State} {m : MethodId} {args : Array Value} {below : List Frame} {meth : Method} {c : Code} {H : Heap} {locs : List Loc} {cells slots : Nat} {Q : State → Prop} {cc : ByteArray} {pc nL : Nat} {ls : Array Slot} {rest : List Value} {ret : Option FieldType} {G : xG} {β : Nat} {D : Nat → Prop} {x : XS} (C : Cx p s m args meth c RX0 cc nL ret (KK G)) (hw : CW β D G x H) (hd : decode cc pc = .ok (.getfield 21, 3)) (kk : W p l e R s m args below meth c H locs cells slots Q (F0 m (pc + 3) ls (.ref (β + 20) :: rest))) : W p l e R s m args below meth c H locs cells slots Q (F0 m pc ls (.ref (β + 16) :: rest)) :=
  va_get C.1 C.2.1 C.2.2.2.2.1 iwX0 C.2.2.2.1 C.K.1 (xP1 (hw.2.2.1 16 (by decide))) 0 rfl rfl 3 (by decide) (C.2.2.2.2.1 (.fieldLink RX0 21 RX0 "tails" "[I") (tg 135 (by decide +kernel) rfl)) (fun _ h9 => h9) rfl hd kk
theorem alX_20 {p : Program} {l : Launch} {e : Env} {R : Room} {s : State} {m : MethodId} {args : Array Value} {below : List Frame} {meth : Method} {c : Code} {H : Heap} {locs : List Loc} {cells slots : Nat} {Q : State → Prop} {cc : ByteArray} {pc nL : Nat} {ls : Array Slot} {rest : List Value} {ret : Option FieldType} {G : xG} {β : Nat} {D : Nat → Prop} {x : XS} {own : String} {i : Int32} (C : Cx p s m args meth c own cc nL ret (KK G)) (hw : CW β D G x H) (hin : ib i 7) (hd : decode cc pc = .ok (.iaload, 1)) (kk : W p l e R s m args below meth c H locs cells slots Q (F0 m (pc + 1) ls (.int (x.2.1 20 i.toNatClampNeg) :: rest))) : W p l e R s m args below meth c H locs cells slots Q (F0 m pc ls (.int i :: .ref (β + 20) :: rest)) :=
  va_iald C.1 C.2.1 C.K.1 (xP1 (hw.2.2.1 20 (by decide))) 0 0 rfl rfl hin hd kk
theorem cpX0_81_2120 {p : Program} {l : Launch} {e : Env} {R : Room} {s : State} {m : MethodId} {args : Array Value} {below : List Frame} {meth : Method} {c : Code} {H : Heap} {locs : List Loc} {cells slots : Nat} {Q : State → Prop} {cc : ByteArray} {pc nL : Nat} {ls : Array Slot} {rest : List Value} {ret : Option FieldType}  {G : xG} {β : Nat} {D : Nat → Prop} {x x' : XS} {sp dp n : Int32} (C : Cx p s m args meth c RX0 cc nL ret (KK G)) (h : cpF x 21 7 20 7 sp dp n = some x') (hw : CW β D G x H) (hS : va_S D s.heap H locs) (hsz : ls.size = nL) (hR : 1 ≤ R.frames) (hR2 : (rest.map fun v => v.category).sum + (nativeFrameWords "java/lang/System" "arraycopy" 5 + 11) ≤ R.locals) (hd : decode cc pc = .ok (.invokestatic 81, 3)) (kk : ∀ (H1 : Heap) (locs1 : List Loc), CW β D G x' H1 → va_S D s.heap H1 locs1 → W p l e R s m args below meth c H1 locs1 cells slots Q (F0 m (pc + 3) ls (rest))) : W p l e R s m args below meth c H locs cells slots Q (F0 m pc ls (.int n :: .int dp :: .ref (β + 20) :: .int sp :: .ref (β + 21) :: rest)) := by
  obtain ⟨h1, h2, h3, h4, h5, rfl⟩ := cpF_e h
  exact x_copyi C.1 C.2.1 (C.2.2.1.trans hsz.symm) C.2.2.2.1 (C.2.2.2.2.1 (.methodLink RX0 81 arraycopyName) (tg 655 (by decide +kernel) rfl)) (C.2.2.2.2.1 (.native arraycopyName) (tg 323 (by decide +kernel) rfl)) (C.2.2.2.2.1 (.static arraycopyName) (tg 322 (by decide +kernel) rfl)) (C.2.2.2.2.1 (.initialized "java/lang/System") (tg 13 (by decide +kernel) rfl)) C.K.1 hS 0 0 (hw.2.2.1 21 (by decide)) (hw.2.2.1 20 (by decide)) (hw.2.1 20 (by decide)) rfl rfl rfl h1 h2 h3 h4 h5 (fun _ _ => rfl) hR hR2 hd (fun H1 locs1 hat ho hS => kk H1 locs1 (hw.setF 20 _ hat ho) hS)
def BX0_lengthenTails_20 (q1 : Int32) (q2 : Int32) (q3 : Int32) (lp : Int32 → XS → Option (XS)) (u4 : Int32) (x : XS) : Option (XS) := Option.bind (fX0_variants x) fun v5 => if v5 ≤ u4 then some x else if (q1 + q3) ≤ (q2 + u4) then lt (u4 + 1) fun v7 => lp v7 x else if ib q3 7 then if ib u4 7 then if ib q3 7 then lt (xsA x 21 q3.toNatClampNeg ((x.2.1 21 q3.toNatClampNeg) + (x.2.1 20 u4.toNatClampNeg))) fun x11 => lt (u4 + 1) fun v12 => lp v12 x11 else none else none else none
def LX0_lengthenTails_20 (q1 : Int32) (q2 : Int32) (q3 : Int32) : Nat → Int32 → XS → Option (XS)
  | 0, _, _ => none
  | n + 1, u4, x => BX0_lengthenTails_20 q1 q2 q3 (LX0_lengthenTails_20 q1 q2 q3 n) u4 x
def BX0_lengthenTails_2 (q1 : Int32) (q2 : Int32) (lp : Int32 → XS → Option (XS)) (u3 : Int32) (x : XS) : Option (XS) := Option.bind (fX0_variants x) fun v1 => if v1 ≤ u3 then some x else if ib u3 7 then lt (xsA x 21 u3.toNatClampNeg 0) fun x4 => Option.bind (LX0_lengthenTails_20 q1 q2 u3 NF 0 x4) fun x13 => lt (u3 + 1) fun v14 => lp v14 x13 else none
def LX0_lengthenTails_2 (q1 : Int32) (q2 : Int32) : Nat → Int32 → XS → Option (XS)
  | 0, _, _ => none
  | n + 1, u3, x => BX0_lengthenTails_2 q1 q2 (LX0_lengthenTails_2 q1 q2 n) u3 x
def fX0_lengthenTails (x : XS) (a1 : Int32) (a2 : Int32) : Option (XS) := Option.bind (LX0_lengthenTails_2 a1 a2 NF 0 x) fun x15 => Option.bind (fX0_variants x15) fun v16 => Option.bind (cpF x15 21 7 20 7 0 0 v16) fun x18 => some x18
set_option maxHeartbeats 4000000 in
set_option maxRecDepth 100000 in
theorem lX0_lengthenTails_20 {p : Program} {l : Launch} {e : Env} {R : Room} {s : State} {m : MethodId} {args : Array Value} {below : List Frame} {meth : Method} {c : Code} {cells slots : Nat} {Q : State → Prop} {G : xG} {β : Nat} {D : Nat → Prop} (C : Cx p s m args meth c RX0 cX0_lengthenTails 5 none (KK G)) (hRf : 1 ≤ R.frames) (hRl : 40 ≤ R.locals) (hcs : cells ≤ R.cells ∧ slots ≤ R.slots) (hf : Fz D G s.heap) (q1 : Int32) (q2 : Int32) (q3 : Int32) : ∀ (n : Nat) (u4 : Int32) (x : XS) (J : XS) (H : Heap) (locs : List Loc) (ls : Array Slot), LX0_lengthenTails_20 q1 q2 q3 n u4 x = some J → CW β D G x H → va_S D s.heap H locs → lv_has ls 5 [(0, .ref (β + 16)), (1, .int q1), (2, .int q2), (3, .int q3), (4, .int u4)] → (∀ (x1 : XS), J = x1 → ∀ (H : Heap) (locs : List Loc) (ls : Array Slot), CW β D G x1 H → va_S D s.heap H locs → lv_has ls 5 [(0, .ref (β + 16)), (1, .int q1), (2, .int q2), (3, .int q3)] → W p l e R s m args below meth c H locs cells slots Q (F0 m 61 ls [])) → W p l e R s m args below meth c H locs cells slots Q (F0 m 20 ls []) := by
  have hx := C.1
  have hb := C.2.1
  have ho := C.2.2.2.1
  have hts := C.2.2.2.2.1
  intro n
  induction n with
  | zero =>
    intro u4 x J H locs ls hm
    exact absurd hm (by simp [LX0_lengthenTails_20])
  | succ n ih =>
    intro u4 x J H locs ls hm hw hS hl ke
    replace hm : BX0_lengthenTails_20 q1 q2 q3 (LX0_lengthenTails_20 q1 q2 q3 n) u4 x = some J := hm
    unfold BX0_lengthenTails_20 at hm
    refine lv_iload hx hb dX0_lengthenTails_20 (lv_at hl 4 rfl) ?_
    refine lv_aload_n hx hb dX0_lengthenTails_22 rfl (lv_at hl 0 rfl) ?_
    obtain ⟨v5, h6, hm⟩ := bind_e hm
    refine sX0_38 C h6 hw hS hl.1 (Nat.le_of_ble_eq_true rfl) (Nat.le_trans (Nat.le_of_ble_eq_true rfl) hRf) (Nat.le_trans (Nat.le_of_ble_eq_true rfl) hRl) hcs dX0_lengthenTails_23 (fun H locs hw hS => ?_)
    refine lv_icmp_ge (tgt := 61) hx hb dX0_lengthenTails_26 (by decide) (fun cc => ?_) (fun cc => ?_)
    · replace hm := ite_p cc hm
      exact ke _ (Option.some.inj hm).symm _ _ _ hw hS (lv_sub hl [0, 1, 2, 3] rfl)
    · replace hm := ite_n cc hm
      refine lv_iload_n hx hb dX0_lengthenTails_29 rfl (lv_at hl 1 rfl) ?_
      refine lv_iload_n hx hb dX0_lengthenTails_30 rfl (lv_at hl 3 rfl) ?_
      refine lv_iadd hx hb dX0_lengthenTails_31 ?_
      refine lv_iload_n hx hb dX0_lengthenTails_32 rfl (lv_at hl 2 rfl) ?_
      refine lv_iload hx hb dX0_lengthenTails_33 (lv_at hl 4 rfl) ?_
      refine lv_iadd hx hb dX0_lengthenTails_35 ?_
      refine lv_icmp_le (tgt := 55) hx hb dX0_lengthenTails_36 (by decide) (fun cc => ?_) (fun cc => ?_)
      · replace hm := ite_p cc hm
        obtain ⟨v7, ev, hm⟩ := lt_e hm
        refine lv_iinc (v := v7) (lv' := [(4, .int v7), (0, .ref (β + 16)), (1, .int q1), (2, .int q2), (3, .int q3)]) hx hb dX0_lengthenTails_55 hl (k := 4) rfl (by rw [ev]; rfl) (by decide) rfl (fun ls hl => ?_)
        clear ev
        refine lv_goto (tgt := 20) hx hb dX0_lengthenTails_58 (by decide) ?_
        exact ih _ _ _ _ _ _ hm hw hS (lv_sub hl [1, 2, 3, 4, 0] rfl) ke
      · replace hm := ite_n cc hm
        refine lv_aload_n hx hb dX0_lengthenTails_39 rfl (lv_at hl 0 rfl) ?_
        refine gX0_24 C hw dX0_lengthenTails_40 ?_
        refine lv_iload_n hx hb dX0_lengthenTails_43 rfl (lv_at hl 3 rfl) ?_
        refine lv_dup2_11 hx hb dX0_lengthenTails_44 rfl rfl ?_
        obtain ⟨h8, hm⟩ := chk_e hm
        refine alX_21 C hw h8 dX0_lengthenTails_45 ?_
        refine lv_aload_n hx hb dX0_lengthenTails_46 rfl (lv_at hl 0 rfl) ?_
        refine gX0_21 C hw dX0_lengthenTails_47 ?_
        refine lv_iload hx hb dX0_lengthenTails_50 (lv_at hl 4 rfl) ?_
        obtain ⟨h9, hm⟩ := chk_e hm
        refine alX_20 C hw h9 dX0_lengthenTails_52 ?_
        refine lv_iadd hx hb dX0_lengthenTails_53 ?_
        obtain ⟨h10, hm⟩ := chk_e hm
        refine asX_21 C hw hS h10 dX0_lengthenTails_54 (fun H locs hw hS => ?_)
        obtain ⟨x11, ev, hm⟩ := lt_e hm
        rw [← ev] at hw
        clear ev
        obtain ⟨v12, ev, hm⟩ := lt_e hm
        refine lv_iinc (v := v12) (lv' := [(4, .int v12), (0, .ref (β + 16)), (1, .int q1), (2, .int q2), (3, .int q3)]) hx hb dX0_lengthenTails_55 hl (k := 4) rfl (by rw [ev]; rfl) (by decide) rfl (fun ls hl => ?_)
        clear ev
        refine lv_goto (tgt := 20) hx hb dX0_lengthenTails_58 (by decide) ?_
        exact ih _ _ _ _ _ _ hm hw hS (lv_sub hl [1, 2, 3, 4, 0] rfl) ke
set_option maxHeartbeats 4000000 in
set_option maxRecDepth 100000 in
theorem lX0_lengthenTails_2 {p : Program} {l : Launch} {e : Env} {R : Room} {s : State} {m : MethodId} {args : Array Value} {below : List Frame} {meth : Method} {c : Code} {cells slots : Nat} {Q : State → Prop} {G : xG} {β : Nat} {D : Nat → Prop} (C : Cx p s m args meth c RX0 cX0_lengthenTails 5 none (KK G)) (hRf : 1 ≤ R.frames) (hRl : 40 ≤ R.locals) (hcs : cells ≤ R.cells ∧ slots ≤ R.slots) (hf : Fz D G s.heap) (q1 : Int32) (q2 : Int32) : ∀ (n : Nat) (u3 : Int32) (x : XS) (J : XS) (H : Heap) (locs : List Loc) (ls : Array Slot), LX0_lengthenTails_2 q1 q2 n u3 x = some J → CW β D G x H → va_S D s.heap H locs → lv_has ls 5 [(0, .ref (β + 16)), (1, .int q1), (2, .int q2), (3, .int u3)] → (∀ (x1 : XS), J = x1 → ∀ (H : Heap) (locs : List Loc) (ls : Array Slot), CW β D G x1 H → va_S D s.heap H locs → lv_has ls 5 [(0, .ref (β + 16))] → W p l e R s m args below meth c H locs cells slots Q (F0 m 67 ls [])) → W p l e R s m args below meth c H locs cells slots Q (F0 m 2 ls []) := by
  have hx := C.1
  have hb := C.2.1
  have ho := C.2.2.2.1
  have hts := C.2.2.2.2.1
  intro n
  induction n with
  | zero =>
    intro u3 x J H locs ls hm
    exact absurd hm (by simp [LX0_lengthenTails_2])
  | succ n ih =>
    intro u3 x J H locs ls hm hw hS hl ke
    replace hm : BX0_lengthenTails_2 q1 q2 (LX0_lengthenTails_2 q1 q2 n) u3 x = some J := hm
    unfold BX0_lengthenTails_2 at hm
    refine lv_iload_n hx hb dX0_lengthenTails_2 rfl (lv_at hl 3 rfl) ?_
    refine lv_aload_n hx hb dX0_lengthenTails_3 rfl (lv_at hl 0 rfl) ?_
    obtain ⟨v1, h2, hm⟩ := bind_e hm
    refine sX0_38 C h2 hw hS hl.1 (Nat.le_of_ble_eq_true rfl) (Nat.le_trans (Nat.le_of_ble_eq_true rfl) hRf) (Nat.le_trans (Nat.le_of_ble_eq_true rfl) hRl) hcs dX0_lengthenTails_4 (fun H locs hw hS => ?_)
    refine lv_icmp_ge (tgt := 67) hx hb dX0_lengthenTails_7 (by decide) (fun cc => ?_) (fun cc => ?_)
    · replace hm := ite_p cc hm
      exact ke _ (Option.some.inj hm).symm _ _ _ hw hS (lv_sub hl [0] rfl)
    · replace hm := ite_n cc hm
      refine lv_aload_n hx hb dX0_lengthenTails_10 rfl (lv_at hl 0 rfl) ?_
      refine gX0_24 C hw dX0_lengthenTails_11 ?_
      refine lv_iload_n hx hb dX0_lengthenTails_14 rfl (lv_at hl 3 rfl) ?_
      refine lv_iconst (v := 0) hx hb dX0_lengthenTails_15 (by decide) ?_
      obtain ⟨h3, hm⟩ := chk_e hm
      refine asX_21 C hw hS h3 dX0_lengthenTails_16 (fun H locs hw hS => ?_)
      obtain ⟨x4, ev, hm⟩ := lt_e hm
      rw [← ev] at hw
      clear ev
      refine lv_iconst (v := 0) hx hb dX0_lengthenTails_17 (by decide) ?_
      refine lv_istore (lv' := [(4, .int 0), (0, .ref (β + 16)), (1, .int q1), (2, .int q2), (3, .int u3)]) hx hb dX0_lengthenTails_18 hl (by decide) rfl (fun ls hl => ?_)
      obtain ⟨x13, hj, hm⟩ := bind_e hm
      refine lX0_lengthenTails_20 C hRf hRl hcs hf q1 q2 u3 NF _ _ _ _ _ _ hj hw hS (lv_sub hl [1, 2, 3, 4, 0] rfl) (fun x13_ e0 H locs ls hw hS hl => ?_)
      cases e0
      obtain ⟨v14, ev, hm⟩ := lt_e hm
      refine lv_iinc (v := v14) (lv' := [(3, .int v14), (0, .ref (β + 16)), (1, .int q1), (2, .int q2)]) hx hb dX0_lengthenTails_61 hl (k := 3) rfl (by rw [ev]; rfl) (by decide) rfl (fun ls hl => ?_)
      clear ev
      refine lv_goto (tgt := 2) hx hb dX0_lengthenTails_64 (by decide) ?_
      exact ih _ _ _ _ _ _ hm hw hS (lv_sub hl [1, 2, 3, 0] rfl) ke
abbrev rmX0_lengthenTails : Room := { frames := 1, cells := 0, slots := 0, locals := 40 }
set_option maxHeartbeats 4000000 in
set_option maxRecDepth 100000 in
theorem kX0_lengthenTails {l : Launch} {G : xG} {β : Nat} {D : Nat → Prop} {x x' : XS} {a1 : Int32} {a2 : Int32} (hm : fX0_lengthenTails x a1 a2 = some x') : Met l yX0_lengthenTails (.code yX0_lengthenTails cX0_lengthenTails 5 none :: GT) rmX0_lengthenTails (PcW [.ref (β + 16), .int a1, .int a2] (CW β D G x) (KK G)) (QcW D none (CW β D G x')) 0 0 D := by
  unfold fX0_lengthenTails at hm
  refine xpro (own := RX0) (by decide +kernel) rfl (Nat.le_of_ble_eq_true rfl) ?_
  intro p e s m args below meth c C hw ls hl
  have hx := C.1
  have hb := C.2.1
  have ho := C.2.2.2.1
  have hts := C.2.2.2.2.1
  have hf : Fz D G s.heap := hw.2.2.2.2
  have hS : va_S D s.heap s.heap [] := va_S.rf
  have hl : lv_has ls 5 [(0, .ref (β + 16)), (1, .int a1), (2, .int a2)] := hl
  have hRf : 1 ≤ rmX0_lengthenTails.frames := Nat.le_refl _
  have hRl : 40 ≤ rmX0_lengthenTails.locals := Nat.le_refl _
  have hcs : 0 ≤ rmX0_lengthenTails.cells ∧ 0 ≤ rmX0_lengthenTails.slots := ⟨Nat.le_refl _, Nat.le_refl _⟩
  refine lv_iconst (v := 0) hx hb dX0_lengthenTails_0 (by decide) ?_
  refine lv_istore_n (lv' := [(3, .int 0), (0, .ref (β + 16)), (1, .int a1), (2, .int a2)]) hx hb dX0_lengthenTails_1 rfl hl (by decide) rfl (fun ls hl => ?_)
  obtain ⟨x15, hj, hm⟩ := bind_e hm
  refine lX0_lengthenTails_2 C hRf hRl hcs hf a1 a2 NF _ _ _ _ _ _ hj hw hS (lv_sub hl [1, 2, 3, 0] rfl) (fun x15_ e0 H locs ls hw hS hl => ?_)
  cases e0
  refine lv_aload_n hx hb dX0_lengthenTails_67 rfl (lv_at hl 0 rfl) ?_
  refine gX0_24 C hw dX0_lengthenTails_68 ?_
  refine lv_iconst (v := 0) hx hb dX0_lengthenTails_71 (by decide) ?_
  refine lv_aload_n hx hb dX0_lengthenTails_72 rfl (lv_at hl 0 rfl) ?_
  refine gX0_21 C hw dX0_lengthenTails_73 ?_
  refine lv_iconst (v := 0) hx hb dX0_lengthenTails_76 (by decide) ?_
  refine lv_aload_n hx hb dX0_lengthenTails_77 rfl (lv_at hl 0 rfl) ?_
  obtain ⟨v16, h17, hm⟩ := bind_e hm
  refine sX0_38 C h17 hw hS hl.1 (Nat.le_of_ble_eq_true rfl) (Nat.le_trans (Nat.le_of_ble_eq_true rfl) hRf) (Nat.le_trans (Nat.le_of_ble_eq_true rfl) hRl) hcs dX0_lengthenTails_78 (fun H locs hw hS => ?_)
  obtain ⟨x18, h19, hm⟩ := bind_e hm
  refine cpX0_81_2120 C h19 hw hS hl.1 (Nat.le_trans (Nat.le_of_ble_eq_true rfl) hRf) (Nat.le_trans (Nat.le_of_ble_eq_true rfl) hRl) dX0_lengthenTails_81 (fun H locs hw hS => ?_)
  obtain rfl := Option.some.inj hm
  exact xret_v C hw hS dX0_lengthenTails_84
theorem dX0_casesInOrder_0 : decode cX0_casesInOrder 0 = .ok (.aload_n 0, 1) := by decide +kernel
theorem dX0_casesInOrder_1 : decode cX0_casesInOrder 1 = .ok (.getfield 27, 3) := by decide +kernel
theorem dX0_casesInOrder_4 : decode cX0_casesInOrder 4 = .ok (.invokestatic 69, 3) := by decide +kernel
theorem dX0_casesInOrder_7 : decode cX0_casesInOrder 7 = .ok (.aload_n 1, 1) := by decide +kernel
theorem dX0_casesInOrder_8 : decode cX0_casesInOrder 8 = .ok (.arraylength, 1) := by decide +kernel
theorem dX0_casesInOrder_9 : decode cX0_casesInOrder 9 = .ok (.invokestatic 74, 3) := by decide +kernel
theorem dX0_casesInOrder_12 : decode cX0_casesInOrder 12 = .ok (.istore_n 2, 1) := by decide +kernel
theorem dX0_casesInOrder_13 : decode cX0_casesInOrder 13 = .ok (.aload_n 0, 1) := by decide +kernel
theorem dX0_casesInOrder_14 : decode cX0_casesInOrder 14 = .ok (.getfield 21, 3) := by decide +kernel
theorem dX0_casesInOrder_17 : decode cX0_casesInOrder 17 = .ok (.iconst 1, 1) := by decide +kernel
theorem dX0_casesInOrder_18 : decode cX0_casesInOrder 18 = .ok (.invokestatic 50, 3) := by decide +kernel
theorem dX0_casesInOrder_21 : decode cX0_casesInOrder 21 = .ok (.iload_n 2, 1) := by decide +kernel
theorem dX0_casesInOrder_22 : decode cX0_casesInOrder 22 = .ok (.iconst 2, 1) := by decide +kernel
theorem dX0_casesInOrder_23 : decode cX0_casesInOrder 23 = .ok (.isub, 1) := by decide +kernel
theorem dX0_casesInOrder_24 : decode cX0_casesInOrder 24 = .ok (.istore_n 3, 1) := by decide +kernel
theorem dX0_casesInOrder_25 : decode cX0_casesInOrder 25 = .ok (.iload_n 3, 1) := by decide +kernel
theorem dX0_casesInOrder_26 : decode cX0_casesInOrder 26 = .ok (.ifCond .lt 31, 3) := by decide +kernel
theorem dX0_casesInOrder_29 : decode cX0_casesInOrder 29 = .ok (.aload_n 0, 1) := by decide +kernel
theorem dX0_casesInOrder_30 : decode cX0_casesInOrder 30 = .ok (.aload_n 0, 1) := by decide +kernel
theorem dX0_casesInOrder_31 : decode cX0_casesInOrder 31 = .ok (.getfield 9, 3) := by decide +kernel
theorem dX0_casesInOrder_34 : decode cX0_casesInOrder 34 = .ok (.aload_n 1, 1) := by decide +kernel
theorem dX0_casesInOrder_35 : decode cX0_casesInOrder 35 = .ok (.iload_n 3, 1) := by decide +kernel
theorem dX0_casesInOrder_36 : decode cX0_casesInOrder 36 = .ok (.iaload, 1) := by decide +kernel
theorem dX0_casesInOrder_37 : decode cX0_casesInOrder 37 = .ok (.iaload, 1) := by decide +kernel
theorem dX0_casesInOrder_38 : decode cX0_casesInOrder 38 = .ok (.aload_n 0, 1) := by decide +kernel
theorem dX0_casesInOrder_39 : decode cX0_casesInOrder 39 = .ok (.getfield 9, 3) := by decide +kernel
theorem dX0_casesInOrder_42 : decode cX0_casesInOrder 42 = .ok (.aload_n 1, 1) := by decide +kernel
theorem dX0_casesInOrder_43 : decode cX0_casesInOrder 43 = .ok (.iload_n 3, 1) := by decide +kernel
theorem dX0_casesInOrder_44 : decode cX0_casesInOrder 44 = .ok (.iconst 1, 1) := by decide +kernel
theorem dX0_casesInOrder_45 : decode cX0_casesInOrder 45 = .ok (.iadd, 1) := by decide +kernel
theorem dX0_casesInOrder_46 : decode cX0_casesInOrder 46 = .ok (.iaload, 1) := by decide +kernel
theorem dX0_casesInOrder_47 : decode cX0_casesInOrder 47 = .ok (.iaload, 1) := by decide +kernel
theorem dX0_casesInOrder_48 : decode cX0_casesInOrder 48 = .ok (.invokevirtual 78, 3) := by decide +kernel
theorem dX0_casesInOrder_51 : decode cX0_casesInOrder 51 = .ok (.iinc 3 (-1), 3) := by decide +kernel
theorem dX0_casesInOrder_54 : decode cX0_casesInOrder 54 = .ok (.goto (-29), 3) := by decide +kernel
theorem dX0_casesInOrder_57 : decode cX0_casesInOrder 57 = .ok (.iconst 0, 1) := by decide +kernel
theorem dX0_casesInOrder_58 : decode cX0_casesInOrder 58 = .ok (.istore_n 3, 1) := by decide +kernel
theorem dX0_casesInOrder_59 : decode cX0_casesInOrder 59 = .ok (.iconst 0, 1) := by decide +kernel
theorem dX0_casesInOrder_60 : decode cX0_casesInOrder 60 = .ok (.istore 4, 2) := by decide +kernel
theorem dX0_casesInOrder_62 : decode cX0_casesInOrder 62 = .ok (.iload 4, 2) := by decide +kernel
theorem dX0_casesInOrder_64 : decode cX0_casesInOrder 64 = .ok (.aload_n 0, 1) := by decide +kernel
theorem dX0_casesInOrder_65 : decode cX0_casesInOrder 65 = .ok (.invokevirtual 38, 3) := by decide +kernel
theorem dX0_casesInOrder_68 : decode cX0_casesInOrder 68 = .ok (.if_icmp .ge 19, 3) := by decide +kernel
theorem dX0_casesInOrder_71 : decode cX0_casesInOrder 71 = .ok (.iload_n 3, 1) := by decide +kernel
theorem dX0_casesInOrder_72 : decode cX0_casesInOrder 72 = .ok (.aload_n 0, 1) := by decide +kernel
theorem dX0_casesInOrder_73 : decode cX0_casesInOrder 73 = .ok (.getfield 21, 3) := by decide +kernel
theorem dX0_casesInOrder_76 : decode cX0_casesInOrder 76 = .ok (.iload 4, 2) := by decide +kernel
theorem dX0_casesInOrder_78 : decode cX0_casesInOrder 78 = .ok (.iaload, 1) := by decide +kernel
theorem dX0_casesInOrder_79 : decode cX0_casesInOrder 79 = .ok (.iadd, 1) := by decide +kernel
theorem dX0_casesInOrder_80 : decode cX0_casesInOrder 80 = .ok (.istore_n 3, 1) := by decide +kernel
theorem dX0_casesInOrder_81 : decode cX0_casesInOrder 81 = .ok (.iinc 4 1, 3) := by decide +kernel
theorem dX0_casesInOrder_84 : decode cX0_casesInOrder 84 = .ok (.goto (-22), 3) := by decide +kernel
theorem dX0_casesInOrder_87 : decode cX0_casesInOrder 87 = .ok (.iload_n 3, 1) := by decide +kernel
theorem dX0_casesInOrder_88 : decode cX0_casesInOrder 88 = .ok (.ireturn, 1) := by decide +kernel
theorem sX0_69 {p : Program} {l : Launch} {e : Env} {R : Room} {s : State} {m : MethodId} {args : Array Value} {below : List Frame} {meth : Method} {c : Code} {H : Heap} {locs : List Loc} {cells slots : Nat} {Q : State → Prop} {cc : ByteArray} {pc nL : Nat} {ls : Array Slot} {rest : List Value} {ret : Option FieldType}  {G : xG} {β : Nat} {D : Nat → Prop} {x : XS} {a1 : Int32} {r : Int32} (C : Cx p s m args meth c RX0 cc nL ret (KK G)) (h : fJ6_bitCount_0f7a4 a1 = some r) (hw : CW β D G x H) (hS : va_S D s.heap H locs) (hsz : ls.size = nL) (hW : (rest.map fun v => v.category).sum ≤ 8) (hR : 1 ≤ R.frames) (hR2 : 20 ≤ R.locals) (hcs : cells ≤ R.cells ∧ slots ≤ R.slots) (hd : decode cc pc = .ok (.invokestatic 69, 3)) (kk : ∀ (H1 : Heap) (locs1 : List Loc), CW β D G x H1 → va_S D s.heap H1 locs1 → W p l e R s m args below meth c H1 locs1 cells slots Q (F0 m (pc + 3) ls (.int r :: rest))) : W p l e R s m args below meth c H locs cells slots Q (F0 m pc ls (.int a1 :: rest)) := by
  exact xcallS C (As := [.int a1]) (rest := rest) (nA := 1) (kJ6_bitCount_0f7a4 h) (tg 649 (by decide +kernel) rfl) (tg 560 (by decide +kernel) rfl) (tg 16 (by decide +kernel) rfl) (tg 561 (by decide +kernel) rfl) ⟨by decide +kernel, by decide +kernel, by decide +kernel⟩ rfl rfl ⟨hR, hR2⟩ hw hS (fun _ q => q) rfl rfl hsz hW hd hcs (fun H1 locs1 hw hz hk hS => kk H1 locs1 hw hS)
theorem anX_23 {p : Program} {l : Launch} {e : Env} {R : Room} {s : State} {m : MethodId} {args : Array Value} {below : List Frame} {meth : Method} {c : Code} {H : Heap} {locs : List Loc} {cells slots : Nat} {Q : State → Prop} {cc : ByteArray} {pc nL : Nat} {ls : Array Slot} {rest : List Value} {ret : Option FieldType} {G : xG} {β : Nat} {D : Nat → Prop} {x : XS} {own : String} (C : Cx p s m args meth c own cc nL ret (KK G)) (hw : CW β D G x H) (hd : decode cc pc = .ok (.arraylength, 1)) (kk : W p l e R s m args below meth c H locs cells slots Q (F0 m (pc + 1) ls (.int 5 :: rest))) : W p l e R s m args below meth c H locs cells slots Q (F0 m pc ls (.ref (β + 23) :: rest)) :=
  va_alen C.1 C.2.1 C.K.1 (xP1 (hw.2.2.1 23 (by decide))) 0 0 rfl rfl rfl hd kk
theorem mmX0_74 {p : Program} {l : Launch} {e : Env} {R : Room} {s : State} {m : MethodId} {args : Array Value} {below : List Frame} {meth : Method} {c : Code} {H : Heap} {locs : List Loc} {cells slots : Nat} {Q : State → Prop} {cc : ByteArray} {pc nL : Nat} {ls : Array Slot} {rest : List Value} {ret : Option FieldType} {G : xG} {a b : Int32} (C : Cx p s m args meth c RX0 cc nL ret (KK G)) (hsz : ls.size = nL) (hR : 1 ≤ R.frames) (hR2 : (rest.map fun v => v.category).sum + 13 ≤ R.locals) (hcs : cells ≤ R.cells ∧ slots ≤ R.slots) (hd : decode cc pc = .ok (.invokestatic 74, 3)) (kk : W p l e R s m args below meth c H locs cells slots Q (F0 m (pc + 3) ls (.int (imin a b) :: rest))) : W p l e R s m args below meth c H locs cells slots Q (F0 m pc ls (.int b :: .int a :: rest)) :=
  va_mmin C.1 C.2.1 (C.2.2.1.trans hsz.symm) C.2.2.2.1 (C.2.2.2.2.1 (.methodLink RX0 74 Lib.Math.min.name) (tg 650 (by decide +kernel) rfl)) (C.2.2.2.2.1 (.static Lib.Math.min.name) (tg 319 (by decide +kernel) rfl)) (C.2.2.2.2.1 (.initialized "java/lang/Math") (tg 12 (by decide +kernel) rfl)) (C.2.2.2.2.1 (.code Lib.Math.min.name Lib.Math.min.code 2 (some .int)) (tg 320 (by decide +kernel) rfl)) hR hR2 hcs.1 hcs.2 hd kk
theorem flX0_50_20 {p : Program} {l : Launch} {e : Env} {R : Room} {s : State} {m : MethodId} {args : Array Value} {below : List Frame} {meth : Method} {c : Code} {H : Heap} {locs : List Loc} {cells slots : Nat} {Q : State → Prop} {cc : ByteArray} {pc nL : Nat} {ls : Array Slot} {rest : List Value} {ret : Option FieldType}  {G : xG} {β : Nat} {D : Nat → Prop} {x : XS} {v : Int32} (C : Cx p s m args meth c RX0 cc nL ret (KK G)) (hw : CW β D G x H) (hS : va_S D s.heap H locs) (hsz : ls.size = nL) (hW : (rest.map fun v => v.category).sum ≤ 8) (hR : 1 ≤ R.frames) (hR2 : 23 ≤ R.locals) (hcs : cells ≤ R.cells ∧ slots ≤ R.slots) (hd : decode cc pc = .ok (.invokestatic 50, 3)) (kk : ∀ (H1 : Heap) (locs1 : List Loc), CW β D G (xsF x 20 (fun _ => v)) H1 → va_S D s.heap H1 locs1 → W p l e R s m args below meth c H1 locs1 cells slots Q (F0 m (pc + 3) ls (rest))) : W p l e R s m args below meth c H locs cells slots Q (F0 m pc ls (.int v :: .ref (β + 20) :: rest)) :=
  xcallS C (As := [.ref (β + 20), .int v]) (rest := rest) (nA := 2) (kfill (n := 7) (f := x.2.1 20) (N := H.size) (by decide)) (tg 607 (by decide +kernel) rfl) (tg 157 (by decide +kernel) rfl) (tg 6 (by decide +kernel) rfl) (tg 158 (by decide +kernel) rfl) ⟨by decide +kernel, by decide +kernel, by decide +kernel⟩ rfl rfl ⟨hR, hR2⟩ ⟨rfl, hw.2.2.1 20 (by decide)⟩ hS (fun q (hq : q = _) => hq ▸ hw.2.1 20 (by decide)) rfl rfl hsz hW hd hcs (fun H1 locs1 hp hz hk hS => kk H1 locs1 (hw.setF 20 _ hp.2 (off_of hp.1 hk)) hS)
theorem alX_23 {p : Program} {l : Launch} {e : Env} {R : Room} {s : State} {m : MethodId} {args : Array Value} {below : List Frame} {meth : Method} {c : Code} {H : Heap} {locs : List Loc} {cells slots : Nat} {Q : State → Prop} {cc : ByteArray} {pc nL : Nat} {ls : Array Slot} {rest : List Value} {ret : Option FieldType} {G : xG} {β : Nat} {D : Nat → Prop} {x : XS} {own : String} {i : Int32} (C : Cx p s m args meth c own cc nL ret (KK G)) (hw : CW β D G x H) (hin : ib i 5) (hd : decode cc pc = .ok (.iaload, 1)) (kk : W p l e R s m args below meth c H locs cells slots Q (F0 m (pc + 1) ls (.int (x.2.1 23 i.toNatClampNeg) :: rest))) : W p l e R s m args below meth c H locs cells slots Q (F0 m pc ls (.int i :: .ref (β + 23) :: rest)) :=
  va_iald C.1 C.2.1 C.K.1 (xP1 (hw.2.2.1 23 (by decide))) 0 0 rfl rfl hin hd kk
theorem sX0_78 {p : Program} {l : Launch} {e : Env} {R : Room} {s : State} {m : MethodId} {args : Array Value} {below : List Frame} {meth : Method} {c : Code} {H : Heap} {locs : List Loc} {cells slots : Nat} {Q : State → Prop} {cc : ByteArray} {pc nL : Nat} {ls : Array Slot} {rest : List Value} {ret : Option FieldType}  {G : xG} {β : Nat} {D : Nat → Prop} {x x' : XS} {a1 : Int32} {a2 : Int32} (C : Cx p s m args meth c RX0 cc nL ret (KK G)) (h : fX0_lengthenTails x a1 a2 = some x') (hw : CW β D G x H) (hS : va_S D s.heap H locs) (hsz : ls.size = nL) (hW : (rest.map fun v => v.category).sum ≤ 8) (hR : 2 ≤ R.frames) (hR2 : 64 ≤ R.locals) (hcs : cells ≤ R.cells ∧ slots ≤ R.slots) (hd : decode cc pc = .ok (.invokevirtual 78, 3)) (kk : ∀ (H1 : Heap) (locs1 : List Loc), CW β D G x' H1 → va_S D s.heap H1 locs1 → W p l e R s m args below meth c H1 locs1 cells slots Q (F0 m (pc + 3) ls (rest))) : W p l e R s m args below meth c H locs cells slots Q (F0 m pc ls (.int a2 :: .int a1 :: .ref (β + 16) :: rest)) := by
  exact xcallV C (As := [.int a1, .int a2]) (rest := rest) (nA := 2) (ci := 0) (kX0_lengthenTails h) (tg 651 (by decide +kernel) rfl) (tg 653 (by decide +kernel) rfl) (sg (List.mem_of_getElem? (i := 38) (by decide +kernel)) rfl) (tg 5 (by decide +kernel) rfl) (tg 654 (by decide +kernel) rfl) ⟨rfl, by decide +kernel, by decide +kernel, by decide +kernel⟩ rfl rfl rfl ⟨hR, hR2⟩ (hw.2.2.1 16 (by decide)) hw hS (fun _ q => q) rfl rfl hsz hW hd hcs (fun H1 locs1 hw hz hk hS => kk H1 locs1 hw hS)
def BX0_casesInOrder_25 (lp : Int32 → XS → Option (XS)) (u3 : Int32) (x : XS) : Option (XS) := if u3 < 0 then some x else if ib u3 5 then if ib (x.2.1 23 u3.toNatClampNeg) 10 then if ib (u3 + 1) 5 then if ib (x.2.1 23 (u3 + 1).toNatClampNeg) 10 then Option.bind (fX0_lengthenTails x (x.2.1 17 (x.2.1 23 u3.toNatClampNeg).toNatClampNeg) (x.2.1 17 (x.2.1 23 (u3 + 1).toNatClampNeg).toNatClampNeg)) fun x10 => lt (u3 + (-1)) fun v12 => lp v12 x10 else none else none else none else none
def LX0_casesInOrder_25 : Nat → Int32 → XS → Option (XS)
  | 0, _, _ => none
  | n + 1, u3, x => BX0_casesInOrder_25 (LX0_casesInOrder_25 n) u3 x
def BX0_casesInOrder_62 (x : XS) (lp : Int32 → Int32 → Option (Int32)) (u3 : Int32) (u4 : Int32) : Option (Int32) := Option.bind (fX0_variants x) fun v14 => if v14 ≤ u4 then some u3 else if ib u4 7 then lt (u3 + (x.2.1 20 u4.toNatClampNeg)) fun v17 => lt (u4 + 1) fun v18 => lp v17 v18 else none
def LX0_casesInOrder_62 (x : XS) : Nat → Int32 → Int32 → Option (Int32)
  | 0, _, _ => none
  | n + 1, u3, u4 => BX0_casesInOrder_62 x (LX0_casesInOrder_62 x n) u3 u4
def fX0_casesInOrder (x : XS) : Option (Int32 × XS) := Option.bind (fJ6_bitCount_0f7a4 (x.1 16 5)) fun v1 => lt (imin v1 5) fun v3 => lt (xsF x 20 (fun _ => 1)) fun x4 => lt (v3 - 2) fun v5 => Option.bind (LX0_casesInOrder_25 NF v5 x4) fun x13 => Option.bind (LX0_casesInOrder_62 x13 NF 0 0) fun v19 => some (v19, x13)
set_option maxHeartbeats 4000000 in
set_option maxRecDepth 100000 in
theorem lX0_casesInOrder_25 {p : Program} {l : Launch} {e : Env} {R : Room} {s : State} {m : MethodId} {args : Array Value} {below : List Frame} {meth : Method} {c : Code} {cells slots : Nat} {Q : State → Prop} {G : xG} {β : Nat} {D : Nat → Prop} (C : Cx p s m args meth c RX0 cX0_casesInOrder 5 (some .int) (KK G)) (hRf : 2 ≤ R.frames) (hRl : 64 ≤ R.locals) (hcs : cells ≤ R.cells ∧ slots ≤ R.slots) (hf : Fz D G s.heap) : ∀ (n : Nat) (u3 : Int32) (x : XS) (J : XS) (H : Heap) (locs : List Loc) (ls : Array Slot), LX0_casesInOrder_25 n u3 x = some J → CW β D G x H → va_S D s.heap H locs → lv_has ls 5 [(0, .ref (β + 16)), (1, .ref (β + 23)), (3, .int u3)] → (∀ (x1 : XS), J = x1 → ∀ (H : Heap) (locs : List Loc) (ls : Array Slot), CW β D G x1 H → va_S D s.heap H locs → lv_has ls 5 [(0, .ref (β + 16))] → W p l e R s m args below meth c H locs cells slots Q (F0 m 57 ls [])) → W p l e R s m args below meth c H locs cells slots Q (F0 m 25 ls []) := by
  have hx := C.1
  have hb := C.2.1
  have ho := C.2.2.2.1
  have hts := C.2.2.2.2.1
  intro n
  induction n with
  | zero =>
    intro u3 x J H locs ls hm
    exact absurd hm (by simp [LX0_casesInOrder_25])
  | succ n ih =>
    intro u3 x J H locs ls hm hw hS hl ke
    replace hm : BX0_casesInOrder_25 (LX0_casesInOrder_25 n) u3 x = some J := hm
    unfold BX0_casesInOrder_25 at hm
    refine lv_iload_n hx hb dX0_casesInOrder_25 rfl (lv_at hl 2 rfl) ?_
    refine lv_if_lt (tgt := 57) hx hb dX0_casesInOrder_26 (by decide) (fun cc => ?_) (fun cc => ?_)
    · replace hm := ite_p cc hm
      exact ke _ (Option.some.inj hm).symm _ _ _ hw hS (lv_sub hl [0] rfl)
    · replace hm := ite_n cc hm
      refine lv_aload_n hx hb dX0_casesInOrder_29 rfl (lv_at hl 0 rfl) ?_
      refine lv_aload_n hx hb dX0_casesInOrder_30 rfl (lv_at hl 0 rfl) ?_
      refine gX0_9 C hw dX0_casesInOrder_31 ?_
      refine lv_aload_n hx hb dX0_casesInOrder_34 rfl (lv_at hl 1 rfl) ?_
      refine lv_iload_n hx hb dX0_casesInOrder_35 rfl (lv_at hl 2 rfl) ?_
      obtain ⟨h6, hm⟩ := chk_e hm
      refine alX_23 C hw h6 dX0_casesInOrder_36 ?_
      obtain ⟨h7, hm⟩ := chk_e hm
      refine alX_17 C hw h7 dX0_casesInOrder_37 ?_
      refine lv_aload_n hx hb dX0_casesInOrder_38 rfl (lv_at hl 0 rfl) ?_
      refine gX0_9 C hw dX0_casesInOrder_39 ?_
      refine lv_aload_n hx hb dX0_casesInOrder_42 rfl (lv_at hl 1 rfl) ?_
      refine lv_iload_n hx hb dX0_casesInOrder_43 rfl (lv_at hl 2 rfl) ?_
      refine lv_iconst (v := 1) hx hb dX0_casesInOrder_44 (by decide) ?_
      refine lv_iadd hx hb dX0_casesInOrder_45 ?_
      obtain ⟨h8, hm⟩ := chk_e hm
      refine alX_23 C hw h8 dX0_casesInOrder_46 ?_
      obtain ⟨h9, hm⟩ := chk_e hm
      refine alX_17 C hw h9 dX0_casesInOrder_47 ?_
      obtain ⟨x10, h11, hm⟩ := bind_e hm
      refine sX0_78 C h11 hw hS hl.1 (Nat.le_of_ble_eq_true rfl) (Nat.le_trans (Nat.le_of_ble_eq_true rfl) hRf) (Nat.le_trans (Nat.le_of_ble_eq_true rfl) hRl) hcs dX0_casesInOrder_48 (fun H locs hw hS => ?_)
      obtain ⟨v12, ev, hm⟩ := lt_e hm
      refine lv_iinc (v := v12) (lv' := [(3, .int v12), (0, .ref (β + 16)), (1, .ref (β + 23))]) hx hb dX0_casesInOrder_51 hl (k := 2) rfl (by rw [ev]; rfl) (by decide) rfl (fun ls hl => ?_)
      clear ev
      refine lv_goto (tgt := 25) hx hb dX0_casesInOrder_54 (by decide) ?_
      exact ih _ _ _ _ _ _ hm hw hS (lv_sub hl [1, 2, 0] rfl) ke
set_option maxHeartbeats 4000000 in
set_option maxRecDepth 100000 in
theorem lX0_casesInOrder_62 {p : Program} {l : Launch} {e : Env} {R : Room} {s : State} {m : MethodId} {args : Array Value} {below : List Frame} {meth : Method} {c : Code} {cells slots : Nat} {Q : State → Prop} {G : xG} {β : Nat} {D : Nat → Prop} (C : Cx p s m args meth c RX0 cX0_casesInOrder 5 (some .int) (KK G)) (hRf : 2 ≤ R.frames) (hRl : 64 ≤ R.locals) (hcs : cells ≤ R.cells ∧ slots ≤ R.slots) (hf : Fz D G s.heap) (x : XS) : ∀ (n : Nat) (u3 : Int32) (u4 : Int32) (J : Int32) (H : Heap) (locs : List Loc) (ls : Array Slot), LX0_casesInOrder_62 x n u3 u4 = some J → CW β D G x H → va_S D s.heap H locs → lv_has ls 5 [(0, .ref (β + 16)), (3, .int u3), (4, .int u4)] → (∀ (w3 : Int32), J = w3 → ∀ (H : Heap) (locs : List Loc) (ls : Array Slot), CW β D G x H → va_S D s.heap H locs → lv_has ls 5 [(3, .int w3)] → W p l e R s m args below meth c H locs cells slots Q (F0 m 87 ls [])) → W p l e R s m args below meth c H locs cells slots Q (F0 m 62 ls []) := by
  have hx := C.1
  have hb := C.2.1
  have ho := C.2.2.2.1
  have hts := C.2.2.2.2.1
  intro n
  induction n with
  | zero =>
    intro u3 u4 J H locs ls hm
    exact absurd hm (by simp [LX0_casesInOrder_62])
  | succ n ih =>
    intro u3 u4 J H locs ls hm hw hS hl ke
    replace hm : BX0_casesInOrder_62 x (LX0_casesInOrder_62 x n) u3 u4 = some J := hm
    unfold BX0_casesInOrder_62 at hm
    refine lv_iload hx hb dX0_casesInOrder_62 (lv_at hl 2 rfl) ?_
    refine lv_aload_n hx hb dX0_casesInOrder_64 rfl (lv_at hl 0 rfl) ?_
    obtain ⟨v14, h15, hm⟩ := bind_e hm
    refine sX0_38 C h15 hw hS hl.1 (Nat.le_of_ble_eq_true rfl) (Nat.le_trans (Nat.le_of_ble_eq_true rfl) hRf) (Nat.le_trans (Nat.le_of_ble_eq_true rfl) hRl) hcs dX0_casesInOrder_65 (fun H locs hw hS => ?_)
    refine lv_icmp_ge (tgt := 87) hx hb dX0_casesInOrder_68 (by decide) (fun cc => ?_) (fun cc => ?_)
    · replace hm := ite_p cc hm
      exact ke _ (Option.some.inj hm).symm _ _ _ hw hS (lv_sub hl [1] rfl)
    · replace hm := ite_n cc hm
      refine lv_iload_n hx hb dX0_casesInOrder_71 rfl (lv_at hl 1 rfl) ?_
      refine lv_aload_n hx hb dX0_casesInOrder_72 rfl (lv_at hl 0 rfl) ?_
      refine gX0_21 C hw dX0_casesInOrder_73 ?_
      refine lv_iload hx hb dX0_casesInOrder_76 (lv_at hl 2 rfl) ?_
      obtain ⟨h16, hm⟩ := chk_e hm
      refine alX_20 C hw h16 dX0_casesInOrder_78 ?_
      refine lv_iadd hx hb dX0_casesInOrder_79 ?_
      refine topI hm (fun v17 hm => ?_)
      refine lv_istore_n (lv' := [(3, .int v17), (0, .ref (β + 16)), (4, .int u4)]) hx hb dX0_casesInOrder_80 rfl hl (by decide) rfl (fun ls hl => ?_)
      obtain ⟨v18, ev, hm⟩ := lt_e hm
      refine lv_iinc (v := v18) (lv' := [(4, .int v18), (3, .int v17), (0, .ref (β + 16))]) hx hb dX0_casesInOrder_81 hl (k := 2) rfl (by rw [ev]; rfl) (by decide) rfl (fun ls hl => ?_)
      clear ev
      refine lv_goto (tgt := 62) hx hb dX0_casesInOrder_84 (by decide) ?_
      exact ih _ _ _ _ _ _ hm hw hS (lv_sub hl [2, 1, 0] rfl) ke
abbrev rmX0_casesInOrder : Room := { frames := 2, cells := 0, slots := 0, locals := 64 }
set_option maxHeartbeats 4000000 in
set_option maxRecDepth 100000 in
theorem kX0_casesInOrder {l : Launch} {G : xG} {β : Nat} {D : Nat → Prop} {x x' : XS} {r : Int32} (hm : fX0_casesInOrder x = some (r, x')) : Met l yX0_casesInOrder (.code yX0_casesInOrder cX0_casesInOrder 5 (some .int) :: GT) rmX0_casesInOrder (PcW [.ref (β + 16), .ref (β + 23)] (CW β D G x) (KK G)) (QcW D (some (.int r)) (CW β D G x')) 0 0 D := by
  unfold fX0_casesInOrder at hm
  refine xpro (own := RX0) (by decide +kernel) rfl (Nat.le_of_ble_eq_true rfl) ?_
  intro p e s m args below meth c C hw ls hl
  have hx := C.1
  have hb := C.2.1
  have ho := C.2.2.2.1
  have hts := C.2.2.2.2.1
  have hf : Fz D G s.heap := hw.2.2.2.2
  have hS : va_S D s.heap s.heap [] := va_S.rf
  have hl : lv_has ls 5 [(0, .ref (β + 16)), (1, .ref (β + 23))] := hl
  have hRf : 2 ≤ rmX0_casesInOrder.frames := Nat.le_refl _
  have hRl : 64 ≤ rmX0_casesInOrder.locals := Nat.le_refl _
  have hcs : 0 ≤ rmX0_casesInOrder.cells ∧ 0 ≤ rmX0_casesInOrder.slots := ⟨Nat.le_refl _, Nat.le_refl _⟩
  refine lv_aload_n hx hb dX0_casesInOrder_0 rfl (lv_at hl 0 rfl) ?_
  refine gX0_27 C hw dX0_casesInOrder_1 ?_
  obtain ⟨v1, h2, hm⟩ := bind_e hm
  refine sX0_69 C h2 hw hS hl.1 (Nat.le_of_ble_eq_true rfl) (Nat.le_trans (Nat.le_of_ble_eq_true rfl) hRf) (Nat.le_trans (Nat.le_of_ble_eq_true rfl) hRl) hcs dX0_casesInOrder_4 (fun H locs hw hS => ?_)
  refine lv_aload_n hx hb dX0_casesInOrder_7 rfl (lv_at hl 1 rfl) ?_
  refine anX_23 C hw dX0_casesInOrder_8 ?_
  refine mmX0_74 C hl.1 (Nat.le_trans (Nat.le_of_ble_eq_true rfl) hRf) (Nat.le_trans (Nat.le_of_ble_eq_true rfl) hRl) hcs dX0_casesInOrder_9 ?_
  refine topI hm (fun v3 hm => ?_)
  refine lv_istore_n (lv' := [(2, .int v3), (0, .ref (β + 16)), (1, .ref (β + 23))]) hx hb dX0_casesInOrder_12 rfl hl (by decide) rfl (fun ls hl => ?_)
  refine lv_aload_n hx hb dX0_casesInOrder_13 rfl (lv_at hl 1 rfl) ?_
  refine gX0_21 C hw dX0_casesInOrder_14 ?_
  refine lv_iconst (v := 1) hx hb dX0_casesInOrder_17 (by decide) ?_
  refine flX0_50_20 C hw hS hl.1 (Nat.le_of_ble_eq_true rfl) (Nat.le_trans (Nat.le_of_ble_eq_true rfl) hRf) (Nat.le_trans (Nat.le_of_ble_eq_true rfl) hRl) hcs dX0_casesInOrder_18 (fun H locs hw hS => ?_)
  obtain ⟨x4, ev, hm⟩ := lt_e hm
  rw [← ev] at hw
  clear ev
  refine lv_iload_n hx hb dX0_casesInOrder_21 rfl (lv_at hl 0 rfl) ?_
  refine lv_iconst (v := 2) hx hb dX0_casesInOrder_22 (by decide) ?_
  refine lv_isub hx hb dX0_casesInOrder_23 ?_
  refine topI hm (fun v5 hm => ?_)
  refine lv_istore_n (lv' := [(3, .int v5), (2, .int v3), (0, .ref (β + 16)), (1, .ref (β + 23))]) hx hb dX0_casesInOrder_24 rfl hl (by decide) rfl (fun ls hl => ?_)
  obtain ⟨x13, hj, hm⟩ := bind_e hm
  refine lX0_casesInOrder_25 C hRf hRl hcs hf NF _ _ _ _ _ _ hj hw hS (lv_sub hl [2, 3, 0] rfl) (fun x13_ e0 H locs ls hw hS hl => ?_)
  cases e0
  refine lv_iconst (v := 0) hx hb dX0_casesInOrder_57 (by decide) ?_
  refine lv_istore_n (lv' := [(3, .int 0), (0, .ref (β + 16))]) hx hb dX0_casesInOrder_58 rfl hl (by decide) rfl (fun ls hl => ?_)
  refine lv_iconst (v := 0) hx hb dX0_casesInOrder_59 (by decide) ?_
  refine lv_istore (lv' := [(4, .int 0), (3, .int 0), (0, .ref (β + 16))]) hx hb dX0_casesInOrder_60 hl (by decide) rfl (fun ls hl => ?_)
  obtain ⟨v19, hj, hm⟩ := bind_e hm
  refine lX0_casesInOrder_62 C hRf hRl hcs hf x13 NF _ _ _ _ _ _ hj hw hS (lv_sub hl [2, 1, 0] rfl) (fun v19_ e0 H locs ls hw hS hl => ?_)
  cases e0
  refine lv_iload_n hx hb dX0_casesInOrder_87 rfl (lv_at hl 0 rfl) ?_
  obtain ⟨rfl, rfl⟩ := inj2 hm
  exact xret_i C hw hS dX0_casesInOrder_88
theorem dX0_likeliest_0 : decode cX0_likeliest 0 = .ok (.iconst (-1), 1) := by decide +kernel
theorem dX0_likeliest_1 : decode cX0_likeliest 1 = .ok (.istore_n 1, 1) := by decide +kernel
theorem dX0_likeliest_2 : decode cX0_likeliest 2 = .ok (.iconst 0, 1) := by decide +kernel
theorem dX0_likeliest_3 : decode cX0_likeliest 3 = .ok (.istore_n 2, 1) := by decide +kernel
theorem dX0_likeliest_4 : decode cX0_likeliest 4 = .ok (.iload_n 2, 1) := by decide +kernel
theorem dX0_likeliest_5 : decode cX0_likeliest 5 = .ok (.bipush 10, 2) := by decide +kernel
theorem dX0_likeliest_7 : decode cX0_likeliest 7 = .ok (.if_icmp .ge 39, 3) := by decide +kernel
theorem dX0_likeliest_10 : decode cX0_likeliest 10 = .ok (.aload_n 0, 1) := by decide +kernel
theorem dX0_likeliest_11 : decode cX0_likeliest 11 = .ok (.iload_n 2, 1) := by decide +kernel
theorem dX0_likeliest_12 : decode cX0_likeliest 12 = .ok (.invokevirtual 34, 3) := by decide +kernel
theorem dX0_likeliest_15 : decode cX0_likeliest 15 = .ok (.ifCond .eq 25, 3) := by decide +kernel
theorem dX0_likeliest_18 : decode cX0_likeliest 18 = .ok (.iload_n 1, 1) := by decide +kernel
theorem dX0_likeliest_19 : decode cX0_likeliest 19 = .ok (.iconst (-1), 1) := by decide +kernel
theorem dX0_likeliest_20 : decode cX0_likeliest 20 = .ok (.if_icmp .eq 18, 3) := by decide +kernel
theorem dX0_likeliest_23 : decode cX0_likeliest 23 = .ok (.aload_n 0, 1) := by decide +kernel
theorem dX0_likeliest_24 : decode cX0_likeliest 24 = .ok (.getfield 15, 3) := by decide +kernel
theorem dX0_likeliest_27 : decode cX0_likeliest 27 = .ok (.iload_n 2, 1) := by decide +kernel
theorem dX0_likeliest_28 : decode cX0_likeliest 28 = .ok (.iaload, 1) := by decide +kernel
theorem dX0_likeliest_29 : decode cX0_likeliest 29 = .ok (.aload_n 0, 1) := by decide +kernel
theorem dX0_likeliest_30 : decode cX0_likeliest 30 = .ok (.getfield 15, 3) := by decide +kernel
theorem dX0_likeliest_33 : decode cX0_likeliest 33 = .ok (.iload_n 1, 1) := by decide +kernel
theorem dX0_likeliest_34 : decode cX0_likeliest 34 = .ok (.iaload, 1) := by decide +kernel
theorem dX0_likeliest_35 : decode cX0_likeliest 35 = .ok (.if_icmp .le 5, 3) := by decide +kernel
theorem dX0_likeliest_38 : decode cX0_likeliest 38 = .ok (.iload_n 2, 1) := by decide +kernel
theorem dX0_likeliest_39 : decode cX0_likeliest 39 = .ok (.istore_n 1, 1) := by decide +kernel
theorem dX0_likeliest_40 : decode cX0_likeliest 40 = .ok (.iinc 2 1, 3) := by decide +kernel
theorem dX0_likeliest_43 : decode cX0_likeliest 43 = .ok (.goto (-39), 3) := by decide +kernel
theorem dX0_likeliest_46 : decode cX0_likeliest 46 = .ok (.iconst 0, 1) := by decide +kernel
theorem dX0_likeliest_47 : decode cX0_likeliest 47 = .ok (.iload_n 1, 1) := by decide +kernel
theorem dX0_likeliest_48 : decode cX0_likeliest 48 = .ok (.invokestatic 87, 3) := by decide +kernel
theorem dX0_likeliest_51 : decode cX0_likeliest 51 = .ok (.ireturn, 1) := by decide +kernel
theorem alX_18 {p : Program} {l : Launch} {e : Env} {R : Room} {s : State} {m : MethodId} {args : Array Value} {below : List Frame} {meth : Method} {c : Code} {H : Heap} {locs : List Loc} {cells slots : Nat} {Q : State → Prop} {cc : ByteArray} {pc nL : Nat} {ls : Array Slot} {rest : List Value} {ret : Option FieldType} {G : xG} {β : Nat} {D : Nat → Prop} {x : XS} {own : String} {i : Int32} (C : Cx p s m args meth c own cc nL ret (KK G)) (hw : CW β D G x H) (hin : ib i 10) (hd : decode cc pc = .ok (.iaload, 1)) (kk : W p l e R s m args below meth c H locs cells slots Q (F0 m (pc + 1) ls (.int (x.2.1 18 i.toNatClampNeg) :: rest))) : W p l e R s m args below meth c H locs cells slots Q (F0 m pc ls (.int i :: .ref (β + 18) :: rest)) :=
  va_iald C.1 C.2.1 C.K.1 (xP1 (hw.2.2.1 18 (by decide))) 0 0 rfl rfl hin hd kk
theorem mmX0_87 {p : Program} {l : Launch} {e : Env} {R : Room} {s : State} {m : MethodId} {args : Array Value} {below : List Frame} {meth : Method} {c : Code} {H : Heap} {locs : List Loc} {cells slots : Nat} {Q : State → Prop} {cc : ByteArray} {pc nL : Nat} {ls : Array Slot} {rest : List Value} {ret : Option FieldType} {G : xG} {a b : Int32} (C : Cx p s m args meth c RX0 cc nL ret (KK G)) (hsz : ls.size = nL) (hR : 1 ≤ R.frames) (hR2 : (rest.map fun v => v.category).sum + 13 ≤ R.locals) (hcs : cells ≤ R.cells ∧ slots ≤ R.slots) (hd : decode cc pc = .ok (.invokestatic 87, 3)) (kk : W p l e R s m args below meth c H locs cells slots Q (F0 m (pc + 3) ls (.int (imax a b) :: rest))) : W p l e R s m args below meth c H locs cells slots Q (F0 m pc ls (.int b :: .int a :: rest)) :=
  va_mmax C.1 C.2.1 (C.2.2.1.trans hsz.symm) C.2.2.2.1 (C.2.2.2.2.1 (.methodLink RX0 87 Lib.Math.max.name) (tg 678 (by decide +kernel) rfl)) (C.2.2.2.2.1 (.static Lib.Math.max.name) (tg 549 (by decide +kernel) rfl)) (C.2.2.2.2.1 (.initialized "java/lang/Math") (tg 12 (by decide +kernel) rfl)) (C.2.2.2.2.1 (.code Lib.Math.max.name Lib.Math.max.code 2 (some .int)) (tg 550 (by decide +kernel) rfl)) hR hR2 hcs.1 hcs.2 hd kk
def BX0_likeliest_4 (x : XS) (lp : Int32 → Int32 → Option (Int32)) (u1 : Int32) (u2 : Int32) : Option (Int32) := if 10 ≤ u2 then some u1 else Option.bind (fX0_runs x u2) fun v1 => if v1 = true then if u1 = (-1) then lt (u2 + 1) fun v4 => lp u2 v4 else if ib u2 10 then if ib u1 10 then if (x.2.1 18 u2.toNatClampNeg) ≤ (x.2.1 18 u1.toNatClampNeg) then lt (u2 + 1) fun v7 => lp u1 v7 else lt (u2 + 1) fun v8 => lp u2 v8 else none else none else lt (u2 + 1) fun v3 => lp u1 v3
def LX0_likeliest_4 (x : XS) : Nat → Int32 → Int32 → Option (Int32)
  | 0, _, _ => none
  | n + 1, u1, u2 => BX0_likeliest_4 x (LX0_likeliest_4 x n) u1 u2
def fX0_likeliest (x : XS) : Option (Int32) := Option.bind (LX0_likeliest_4 x NF (-1) 0) fun v9 => some (imax 0 v9)
set_option maxHeartbeats 4000000 in
set_option maxRecDepth 100000 in
theorem lX0_likeliest_4 {p : Program} {l : Launch} {e : Env} {R : Room} {s : State} {m : MethodId} {args : Array Value} {below : List Frame} {meth : Method} {c : Code} {cells slots : Nat} {Q : State → Prop} {G : xG} {β : Nat} {D : Nat → Prop} (C : Cx p s m args meth c RX0 cX0_likeliest 3 (some .int) (KK G)) (hRf : 1 ≤ R.frames) (hRl : 21 ≤ R.locals) (hcs : cells ≤ R.cells ∧ slots ≤ R.slots) (hf : Fz D G s.heap) (x : XS) : ∀ (n : Nat) (u1 : Int32) (u2 : Int32) (J : Int32) (H : Heap) (locs : List Loc) (ls : Array Slot), LX0_likeliest_4 x n u1 u2 = some J → CW β D G x H → va_S D s.heap H locs → lv_has ls 3 [(0, .ref (β + 16)), (1, .int u1), (2, .int u2)] → (∀ (w1 : Int32), J = w1 → ∀ (H : Heap) (locs : List Loc) (ls : Array Slot), CW β D G x H → va_S D s.heap H locs → lv_has ls 3 [(1, .int w1)] → W p l e R s m args below meth c H locs cells slots Q (F0 m 46 ls [])) → W p l e R s m args below meth c H locs cells slots Q (F0 m 4 ls []) := by
  have hx := C.1
  have hb := C.2.1
  have ho := C.2.2.2.1
  have hts := C.2.2.2.2.1
  intro n
  induction n with
  | zero =>
    intro u1 u2 J H locs ls hm
    exact absurd hm (by simp [LX0_likeliest_4])
  | succ n ih =>
    intro u1 u2 J H locs ls hm hw hS hl ke
    replace hm : BX0_likeliest_4 x (LX0_likeliest_4 x n) u1 u2 = some J := hm
    unfold BX0_likeliest_4 at hm
    refine lv_iload_n hx hb dX0_likeliest_4 rfl (lv_at hl 2 rfl) ?_
    refine lv_bipush (v := 10) hx hb dX0_likeliest_5 (by decide) ?_
    refine lv_icmp_ge (tgt := 46) hx hb dX0_likeliest_7 (by decide) (fun cc => ?_) (fun cc => ?_)
    · replace hm := ite_p cc hm
      exact ke _ (Option.some.inj hm).symm _ _ _ hw hS (lv_sub hl [1] rfl)
    · replace hm := ite_n cc hm
      refine lv_aload_n hx hb dX0_likeliest_10 rfl (lv_at hl 0 rfl) ?_
      refine lv_iload_n hx hb dX0_likeliest_11 rfl (lv_at hl 2 rfl) ?_
      obtain ⟨v1, h2, hm⟩ := bind_e hm
      refine sX0_34 C h2 hw hS hl.1 (Nat.le_of_ble_eq_true rfl) (Nat.le_trans (Nat.le_of_ble_eq_true rfl) hRf) (Nat.le_trans (Nat.le_of_ble_eq_true rfl) hRl) hcs dX0_likeliest_12 (fun H locs hw hS => ?_)
      refine x_ifeqB hx hb dX0_likeliest_15 (tgt := 40) (by decide) (fun cc => ?_) (fun cc => ?_)
      · replace hm := ite_n cc hm
        obtain ⟨v3, ev, hm⟩ := lt_e hm
        refine lv_iinc (v := v3) (lv' := [(2, .int v3), (0, .ref (β + 16)), (1, .int u1)]) hx hb dX0_likeliest_40 hl (k := 2) rfl (by rw [ev]; rfl) (by decide) rfl (fun ls hl => ?_)
        clear ev
        refine lv_goto (tgt := 4) hx hb dX0_likeliest_43 (by decide) ?_
        exact ih _ _ _ _ _ _ hm hw hS (lv_sub hl [1, 2, 0] rfl) ke
      · replace hm := ite_p cc hm
        refine lv_iload_n hx hb dX0_likeliest_18 rfl (lv_at hl 1 rfl) ?_
        refine lv_iconst (v := (-1)) hx hb dX0_likeliest_19 (by decide) ?_
        refine lv_icmp_eq (tgt := 38) hx hb dX0_likeliest_20 (by decide) (fun cc => ?_) (fun cc => ?_)
        · replace hm := ite_p cc hm
          refine lv_iload_n hx hb dX0_likeliest_38 rfl (lv_at hl 2 rfl) ?_
          refine lv_istore_n (lv' := [(1, .int u2), (0, .ref (β + 16)), (2, .int u2)]) hx hb dX0_likeliest_39 rfl hl (by decide) rfl (fun ls hl => ?_)
          obtain ⟨v4, ev, hm⟩ := lt_e hm
          refine lv_iinc (v := v4) (lv' := [(2, .int v4), (1, .int u2), (0, .ref (β + 16))]) hx hb dX0_likeliest_40 hl (k := 2) rfl (by rw [ev]; rfl) (by decide) rfl (fun ls hl => ?_)
          clear ev
          refine lv_goto (tgt := 4) hx hb dX0_likeliest_43 (by decide) ?_
          exact ih _ _ _ _ _ _ hm hw hS (lv_sub hl [2, 1, 0] rfl) ke
        · replace hm := ite_n cc hm
          refine lv_aload_n hx hb dX0_likeliest_23 rfl (lv_at hl 0 rfl) ?_
          refine gX0_15 C hw dX0_likeliest_24 ?_
          refine lv_iload_n hx hb dX0_likeliest_27 rfl (lv_at hl 2 rfl) ?_
          obtain ⟨h5, hm⟩ := chk_e hm
          refine alX_18 C hw h5 dX0_likeliest_28 ?_
          refine lv_aload_n hx hb dX0_likeliest_29 rfl (lv_at hl 0 rfl) ?_
          refine gX0_15 C hw dX0_likeliest_30 ?_
          refine lv_iload_n hx hb dX0_likeliest_33 rfl (lv_at hl 1 rfl) ?_
          obtain ⟨h6, hm⟩ := chk_e hm
          refine alX_18 C hw h6 dX0_likeliest_34 ?_
          refine lv_icmp_le (tgt := 40) hx hb dX0_likeliest_35 (by decide) (fun cc => ?_) (fun cc => ?_)
          · replace hm := ite_p cc hm
            obtain ⟨v7, ev, hm⟩ := lt_e hm
            refine lv_iinc (v := v7) (lv' := [(2, .int v7), (0, .ref (β + 16)), (1, .int u1)]) hx hb dX0_likeliest_40 hl (k := 2) rfl (by rw [ev]; rfl) (by decide) rfl (fun ls hl => ?_)
            clear ev
            refine lv_goto (tgt := 4) hx hb dX0_likeliest_43 (by decide) ?_
            exact ih _ _ _ _ _ _ hm hw hS (lv_sub hl [1, 2, 0] rfl) ke
          · replace hm := ite_n cc hm
            refine lv_iload_n hx hb dX0_likeliest_38 rfl (lv_at hl 2 rfl) ?_
            refine lv_istore_n (lv' := [(1, .int u2), (0, .ref (β + 16)), (2, .int u2)]) hx hb dX0_likeliest_39 rfl hl (by decide) rfl (fun ls hl => ?_)
            obtain ⟨v8, ev, hm⟩ := lt_e hm
            refine lv_iinc (v := v8) (lv' := [(2, .int v8), (1, .int u2), (0, .ref (β + 16))]) hx hb dX0_likeliest_40 hl (k := 2) rfl (by rw [ev]; rfl) (by decide) rfl (fun ls hl => ?_)
            clear ev
            refine lv_goto (tgt := 4) hx hb dX0_likeliest_43 (by decide) ?_
            exact ih _ _ _ _ _ _ hm hw hS (lv_sub hl [2, 1, 0] rfl) ke
abbrev rmX0_likeliest : Room := { frames := 1, cells := 0, slots := 0, locals := 21 }
set_option maxHeartbeats 4000000 in
set_option maxRecDepth 100000 in
theorem kX0_likeliest {l : Launch} {G : xG} {β : Nat} {D : Nat → Prop} {x : XS} {r : Int32} (hm : fX0_likeliest x = some r) : Met l yX0_likeliest (.code yX0_likeliest cX0_likeliest 3 (some .int) :: GT) rmX0_likeliest (PcW [.ref (β + 16)] (CW β D G x) (KK G)) (QcW D (some (.int r)) (CW β D G x)) 0 0 D := by
  unfold fX0_likeliest at hm
  refine xpro (own := RX0) (by decide +kernel) rfl (Nat.le_of_ble_eq_true rfl) ?_
  intro p e s m args below meth c C hw ls hl
  have hx := C.1
  have hb := C.2.1
  have ho := C.2.2.2.1
  have hts := C.2.2.2.2.1
  have hf : Fz D G s.heap := hw.2.2.2.2
  have hS : va_S D s.heap s.heap [] := va_S.rf
  have hl : lv_has ls 3 [(0, .ref (β + 16))] := hl
  have hRf : 1 ≤ rmX0_likeliest.frames := Nat.le_refl _
  have hRl : 21 ≤ rmX0_likeliest.locals := Nat.le_refl _
  have hcs : 0 ≤ rmX0_likeliest.cells ∧ 0 ≤ rmX0_likeliest.slots := ⟨Nat.le_refl _, Nat.le_refl _⟩
  refine lv_iconst (v := (-1)) hx hb dX0_likeliest_0 (by decide) ?_
  refine lv_istore_n (lv' := [(1, .int (-1)), (0, .ref (β + 16))]) hx hb dX0_likeliest_1 rfl hl (by decide) rfl (fun ls hl => ?_)
  refine lv_iconst (v := 0) hx hb dX0_likeliest_2 (by decide) ?_
  refine lv_istore_n (lv' := [(2, .int 0), (1, .int (-1)), (0, .ref (β + 16))]) hx hb dX0_likeliest_3 rfl hl (by decide) rfl (fun ls hl => ?_)
  obtain ⟨v9, hj, hm⟩ := bind_e hm
  refine lX0_likeliest_4 C hRf hRl hcs hf x NF _ _ _ _ _ _ hj hw hS (lv_sub hl [2, 1, 0] rfl) (fun v9_ e0 H locs ls hw hS hl => ?_)
  cases e0
  refine lv_iconst (v := 0) hx hb dX0_likeliest_46 (by decide) ?_
  refine lv_iload_n hx hb dX0_likeliest_47 rfl (lv_at hl 0 rfl) ?_
  refine mmX0_87 C hl.1 (Nat.le_trans (Nat.le_of_ble_eq_true rfl) hRf) (Nat.le_trans (Nat.le_of_ble_eq_true rfl) hRl) hcs dX0_likeliest_48 ?_
  obtain rfl := Option.some.inj hm
  exact xret_i C hw hS dX0_likeliest_51
theorem dX0_gap_0 : decode cX0_gap 0 = .ok (.iconst 0, 1) := by decide +kernel
theorem dX0_gap_1 : decode cX0_gap 1 = .ok (.istore_n 1, 1) := by decide +kernel
theorem dX0_gap_2 : decode cX0_gap 2 = .ok (.bipush 60, 2) := by decide +kernel
theorem dX0_gap_4 : decode cX0_gap 4 = .ok (.aload_n 0, 1) := by decide +kernel
theorem dX0_gap_5 : decode cX0_gap 5 = .ok (.invokevirtual 90, 3) := by decide +kernel
theorem dX0_gap_8 : decode cX0_gap 8 = .ok (.imul, 1) := by decide +kernel
theorem dX0_gap_9 : decode cX0_gap 9 = .ok (.istore_n 2, 1) := by decide +kernel
theorem dX0_gap_10 : decode cX0_gap 10 = .ok (.iconst 0, 1) := by decide +kernel
theorem dX0_gap_11 : decode cX0_gap 11 = .ok (.istore_n 3, 1) := by decide +kernel
theorem dX0_gap_12 : decode cX0_gap 12 = .ok (.iload_n 3, 1) := by decide +kernel
theorem dX0_gap_13 : decode cX0_gap 13 = .ok (.bipush 10, 2) := by decide +kernel
theorem dX0_gap_15 : decode cX0_gap 15 = .ok (.if_icmp .ge 39, 3) := by decide +kernel
theorem dX0_gap_18 : decode cX0_gap 18 = .ok (.aload_n 0, 1) := by decide +kernel
theorem dX0_gap_19 : decode cX0_gap 19 = .ok (.iload_n 3, 1) := by decide +kernel
theorem dX0_gap_20 : decode cX0_gap 20 = .ok (.invokevirtual 34, 3) := by decide +kernel
theorem dX0_gap_23 : decode cX0_gap 23 = .ok (.ifCond .eq 25, 3) := by decide +kernel
theorem dX0_gap_26 : decode cX0_gap 26 = .ok (.iload_n 1, 1) := by decide +kernel
theorem dX0_gap_27 : decode cX0_gap 27 = .ok (.aload_n 0, 1) := by decide +kernel
theorem dX0_gap_28 : decode cX0_gap 28 = .ok (.getfield 15, 3) := by decide +kernel
theorem dX0_gap_31 : decode cX0_gap 31 = .ok (.iload_n 3, 1) := by decide +kernel
theorem dX0_gap_32 : decode cX0_gap 32 = .ok (.iaload, 1) := by decide +kernel
theorem dX0_gap_33 : decode cX0_gap 33 = .ok (.invokestatic 87, 3) := by decide +kernel
theorem dX0_gap_36 : decode cX0_gap 36 = .ok (.istore_n 1, 1) := by decide +kernel
theorem dX0_gap_37 : decode cX0_gap 37 = .ok (.iload_n 2, 1) := by decide +kernel
theorem dX0_gap_38 : decode cX0_gap 38 = .ok (.aload_n 0, 1) := by decide +kernel
theorem dX0_gap_39 : decode cX0_gap 39 = .ok (.getfield 15, 3) := by decide +kernel
theorem dX0_gap_42 : decode cX0_gap 42 = .ok (.iload_n 3, 1) := by decide +kernel
theorem dX0_gap_43 : decode cX0_gap 43 = .ok (.iaload, 1) := by decide +kernel
theorem dX0_gap_44 : decode cX0_gap 44 = .ok (.invokestatic 74, 3) := by decide +kernel
theorem dX0_gap_47 : decode cX0_gap 47 = .ok (.istore_n 2, 1) := by decide +kernel
theorem dX0_gap_48 : decode cX0_gap 48 = .ok (.iinc 3 1, 3) := by decide +kernel
theorem dX0_gap_51 : decode cX0_gap 51 = .ok (.goto (-39), 3) := by decide +kernel
theorem dX0_gap_54 : decode cX0_gap 54 = .ok (.iload_n 1, 1) := by decide +kernel
theorem dX0_gap_55 : decode cX0_gap 55 = .ok (.iload_n 2, 1) := by decide +kernel
theorem dX0_gap_56 : decode cX0_gap 56 = .ok (.isub, 1) := by decide +kernel
theorem dX0_gap_57 : decode cX0_gap 57 = .ok (.ireturn, 1) := by decide +kernel
theorem sX0_90 {p : Program} {l : Launch} {e : Env} {R : Room} {s : State} {m : MethodId} {args : Array Value} {below : List Frame} {meth : Method} {c : Code} {H : Heap} {locs : List Loc} {cells slots : Nat} {Q : State → Prop} {cc : ByteArray} {pc nL : Nat} {ls : Array Slot} {rest : List Value} {ret : Option FieldType}  {G : xG} {β : Nat} {D : Nat → Prop} {x : XS} {r : Int32} (C : Cx p s m args meth c RX0 cc nL ret (KK G)) (h : fX0_cases x = some r) (hw : CW β D G x H) (hS : va_S D s.heap H locs) (hsz : ls.size = nL) (hW : (rest.map fun v => v.category).sum ≤ 8) (hR : 2 ≤ R.frames) (hR2 : 43 ≤ R.locals) (hcs : cells ≤ R.cells ∧ slots ≤ R.slots) (hd : decode cc pc = .ok (.invokevirtual 90, 3)) (kk : ∀ (H1 : Heap) (locs1 : List Loc), CW β D G x H1 → va_S D s.heap H1 locs1 → W p l e R s m args below meth c H1 locs1 cells slots Q (F0 m (pc + 3) ls (.int r :: rest))) : W p l e R s m args below meth c H locs cells slots Q (F0 m pc ls (.ref (β + 16) :: rest)) := by
  exact xcallV C (As := []) (rest := rest) (nA := 0) (ci := 0) (kX0_cases h) (tg 677 (by decide +kernel) rfl) (tg 625 (by decide +kernel) rfl) (tg 626 (by decide +kernel) rfl) (tg 5 (by decide +kernel) rfl) (tg 627 (by decide +kernel) rfl) ⟨rfl, by decide +kernel, by decide +kernel, by decide +kernel⟩ rfl rfl rfl ⟨hR, hR2⟩ (hw.2.2.1 16 (by decide)) hw hS (fun _ q => q) rfl rfl hsz hW hd hcs (fun H1 locs1 hw hz hk hS => kk H1 locs1 hw hS)
def BX0_gap_12 (x : XS) (lp : Int32 → Int32 → Int32 → Option (Int32 × Int32)) (u1 : Int32) (u2 : Int32) (u3 : Int32) : Option (Int32 × Int32) := if 10 ≤ u3 then some (u1, u2) else Option.bind (fX0_runs x u3) fun v4 => if v4 = true then if ib u3 10 then lt (imax u1 (x.2.1 18 u3.toNatClampNeg)) fun v8 => if ib u3 10 then lt (imin u2 (x.2.1 18 u3.toNatClampNeg)) fun v10 => lt (u3 + 1) fun v11 => lp v8 v10 v11 else none else none else lt (u3 + 1) fun v6 => lp u1 u2 v6
def LX0_gap_12 (x : XS) : Nat → Int32 → Int32 → Int32 → Option (Int32 × Int32)
  | 0, _, _, _ => none
  | n + 1, u1, u2, u3 => BX0_gap_12 x (LX0_gap_12 x n) u1 u2 u3
def fX0_gap (x : XS) : Option (Int32) := Option.bind (fX0_cases x) fun v1 => lt (60 * v1) fun v3 => bind2 (LX0_gap_12 x NF 0 v3 0) fun v12 v13 => some (v12 - v13)
set_option maxHeartbeats 4000000 in
set_option maxRecDepth 100000 in
theorem lX0_gap_12 {p : Program} {l : Launch} {e : Env} {R : Room} {s : State} {m : MethodId} {args : Array Value} {below : List Frame} {meth : Method} {c : Code} {cells slots : Nat} {Q : State → Prop} {G : xG} {β : Nat} {D : Nat → Prop} (C : Cx p s m args meth c RX0 cX0_gap 4 (some .int) (KK G)) (hRf : 2 ≤ R.frames) (hRl : 43 ≤ R.locals) (hcs : cells ≤ R.cells ∧ slots ≤ R.slots) (hf : Fz D G s.heap) (x : XS) : ∀ (n : Nat) (u1 : Int32) (u2 : Int32) (u3 : Int32) (J : Int32 × Int32) (H : Heap) (locs : List Loc) (ls : Array Slot), LX0_gap_12 x n u1 u2 u3 = some J → CW β D G x H → va_S D s.heap H locs → lv_has ls 4 [(0, .ref (β + 16)), (1, .int u1), (2, .int u2), (3, .int u3)] → (∀ (w1 : Int32) (w2 : Int32), J = (w1, w2) → ∀ (H : Heap) (locs : List Loc) (ls : Array Slot), CW β D G x H → va_S D s.heap H locs → lv_has ls 4 [(1, .int w1), (2, .int w2)] → W p l e R s m args below meth c H locs cells slots Q (F0 m 54 ls [])) → W p l e R s m args below meth c H locs cells slots Q (F0 m 12 ls []) := by
  have hx := C.1
  have hb := C.2.1
  have ho := C.2.2.2.1
  have hts := C.2.2.2.2.1
  intro n
  induction n with
  | zero =>
    intro u1 u2 u3 J H locs ls hm
    exact absurd hm (by simp [LX0_gap_12])
  | succ n ih =>
    intro u1 u2 u3 J H locs ls hm hw hS hl ke
    replace hm : BX0_gap_12 x (LX0_gap_12 x n) u1 u2 u3 = some J := hm
    unfold BX0_gap_12 at hm
    refine lv_iload_n hx hb dX0_gap_12 rfl (lv_at hl 3 rfl) ?_
    refine lv_bipush (v := 10) hx hb dX0_gap_13 (by decide) ?_
    refine lv_icmp_ge (tgt := 54) hx hb dX0_gap_15 (by decide) (fun cc => ?_) (fun cc => ?_)
    · replace hm := ite_p cc hm
      exact ke _ _ (Option.some.inj hm).symm _ _ _ hw hS (lv_sub hl [1, 2] rfl)
    · replace hm := ite_n cc hm
      refine lv_aload_n hx hb dX0_gap_18 rfl (lv_at hl 0 rfl) ?_
      refine lv_iload_n hx hb dX0_gap_19 rfl (lv_at hl 3 rfl) ?_
      obtain ⟨v4, h5, hm⟩ := bind_e hm
      refine sX0_34 C h5 hw hS hl.1 (Nat.le_of_ble_eq_true rfl) (Nat.le_trans (Nat.le_of_ble_eq_true rfl) hRf) (Nat.le_trans (Nat.le_of_ble_eq_true rfl) hRl) hcs dX0_gap_20 (fun H locs hw hS => ?_)
      refine x_ifeqB hx hb dX0_gap_23 (tgt := 48) (by decide) (fun cc => ?_) (fun cc => ?_)
      · replace hm := ite_n cc hm
        obtain ⟨v6, ev, hm⟩ := lt_e hm
        refine lv_iinc (v := v6) (lv' := [(3, .int v6), (0, .ref (β + 16)), (1, .int u1), (2, .int u2)]) hx hb dX0_gap_48 hl (k := 3) rfl (by rw [ev]; rfl) (by decide) rfl (fun ls hl => ?_)
        clear ev
        refine lv_goto (tgt := 12) hx hb dX0_gap_51 (by decide) ?_
        exact ih _ _ _ _ _ _ _ hm hw hS (lv_sub hl [1, 2, 3, 0] rfl) ke
      · replace hm := ite_p cc hm
        refine lv_iload_n hx hb dX0_gap_26 rfl (lv_at hl 1 rfl) ?_
        refine lv_aload_n hx hb dX0_gap_27 rfl (lv_at hl 0 rfl) ?_
        refine gX0_15 C hw dX0_gap_28 ?_
        refine lv_iload_n hx hb dX0_gap_31 rfl (lv_at hl 3 rfl) ?_
        obtain ⟨h7, hm⟩ := chk_e hm
        refine alX_18 C hw h7 dX0_gap_32 ?_
        refine mmX0_87 C hl.1 (Nat.le_trans (Nat.le_of_ble_eq_true rfl) hRf) (Nat.le_trans (Nat.le_of_ble_eq_true rfl) hRl) hcs dX0_gap_33 ?_
        refine topI hm (fun v8 hm => ?_)
        refine lv_istore_n (lv' := [(1, .int v8), (0, .ref (β + 16)), (2, .int u2), (3, .int u3)]) hx hb dX0_gap_36 rfl hl (by decide) rfl (fun ls hl => ?_)
        refine lv_iload_n hx hb dX0_gap_37 rfl (lv_at hl 2 rfl) ?_
        refine lv_aload_n hx hb dX0_gap_38 rfl (lv_at hl 1 rfl) ?_
        refine gX0_15 C hw dX0_gap_39 ?_
        refine lv_iload_n hx hb dX0_gap_42 rfl (lv_at hl 3 rfl) ?_
        obtain ⟨h9, hm⟩ := chk_e hm
        refine alX_18 C hw h9 dX0_gap_43 ?_
        refine mmX0_74 C hl.1 (Nat.le_trans (Nat.le_of_ble_eq_true rfl) hRf) (Nat.le_trans (Nat.le_of_ble_eq_true rfl) hRl) hcs dX0_gap_44 ?_
        refine topI hm (fun v10 hm => ?_)
        refine lv_istore_n (lv' := [(2, .int v10), (1, .int v8), (0, .ref (β + 16)), (3, .int u3)]) hx hb dX0_gap_47 rfl hl (by decide) rfl (fun ls hl => ?_)
        obtain ⟨v11, ev, hm⟩ := lt_e hm
        refine lv_iinc (v := v11) (lv' := [(3, .int v11), (2, .int v10), (1, .int v8), (0, .ref (β + 16))]) hx hb dX0_gap_48 hl (k := 3) rfl (by rw [ev]; rfl) (by decide) rfl (fun ls hl => ?_)
        clear ev
        refine lv_goto (tgt := 12) hx hb dX0_gap_51 (by decide) ?_
        exact ih _ _ _ _ _ _ _ hm hw hS (lv_sub hl [3, 2, 1, 0] rfl) ke
abbrev rmX0_gap : Room := { frames := 2, cells := 0, slots := 0, locals := 43 }
set_option maxHeartbeats 4000000 in
set_option maxRecDepth 100000 in
theorem kX0_gap {l : Launch} {G : xG} {β : Nat} {D : Nat → Prop} {x : XS} {r : Int32} (hm : fX0_gap x = some r) : Met l yX0_gap (.code yX0_gap cX0_gap 4 (some .int) :: GT) rmX0_gap (PcW [.ref (β + 16)] (CW β D G x) (KK G)) (QcW D (some (.int r)) (CW β D G x)) 0 0 D := by
  unfold fX0_gap at hm
  refine xpro (own := RX0) (by decide +kernel) rfl (Nat.le_of_ble_eq_true rfl) ?_
  intro p e s m args below meth c C hw ls hl
  have hx := C.1
  have hb := C.2.1
  have ho := C.2.2.2.1
  have hts := C.2.2.2.2.1
  have hf : Fz D G s.heap := hw.2.2.2.2
  have hS : va_S D s.heap s.heap [] := va_S.rf
  have hl : lv_has ls 4 [(0, .ref (β + 16))] := hl
  have hRf : 2 ≤ rmX0_gap.frames := Nat.le_refl _
  have hRl : 43 ≤ rmX0_gap.locals := Nat.le_refl _
  have hcs : 0 ≤ rmX0_gap.cells ∧ 0 ≤ rmX0_gap.slots := ⟨Nat.le_refl _, Nat.le_refl _⟩
  refine lv_iconst (v := 0) hx hb dX0_gap_0 (by decide) ?_
  refine lv_istore_n (lv' := [(1, .int 0), (0, .ref (β + 16))]) hx hb dX0_gap_1 rfl hl (by decide) rfl (fun ls hl => ?_)
  refine lv_bipush (v := 60) hx hb dX0_gap_2 (by decide) ?_
  refine lv_aload_n hx hb dX0_gap_4 rfl (lv_at hl 1 rfl) ?_
  obtain ⟨v1, h2, hm⟩ := bind_e hm
  refine sX0_90 C h2 hw hS hl.1 (Nat.le_of_ble_eq_true rfl) (Nat.le_trans (Nat.le_of_ble_eq_true rfl) hRf) (Nat.le_trans (Nat.le_of_ble_eq_true rfl) hRl) hcs dX0_gap_5 (fun H locs hw hS => ?_)
  refine lv_imul hx hb dX0_gap_8 ?_
  refine topI hm (fun v3 hm => ?_)
  refine lv_istore_n (lv' := [(2, .int v3), (1, .int 0), (0, .ref (β + 16))]) hx hb dX0_gap_9 rfl hl (by decide) rfl (fun ls hl => ?_)
  refine lv_iconst (v := 0) hx hb dX0_gap_10 (by decide) ?_
  refine lv_istore_n (lv' := [(3, .int 0), (2, .int v3), (1, .int 0), (0, .ref (β + 16))]) hx hb dX0_gap_11 rfl hl (by decide) rfl (fun ls hl => ?_)
  obtain ⟨v12, v13, hj, hm⟩ := bind2_e hm
  refine lX0_gap_12 C hRf hRl hcs hf x NF _ _ _ _ _ _ _ hj hw hS (lv_sub hl [3, 2, 1, 0] rfl) (fun v12_ v13_ e0 H locs ls hw hS hl => ?_)
  cases e0
  refine lv_iload_n hx hb dX0_gap_54 rfl (lv_at hl 0 rfl) ?_
  refine lv_iload_n hx hb dX0_gap_55 rfl (lv_at hl 1 rfl) ?_
  refine lv_isub hx hb dX0_gap_56 ?_
  obtain rfl := Option.some.inj hm
  exact xret_i C hw hS dX0_gap_57
theorem dX1_isKind_0 : decode cX1_isKind 0 = .ok (.iload_n 0, 1) := by decide +kernel
theorem dX1_isKind_1 : decode cX1_isKind 1 = .ok (.ifCond .lt 15, 3) := by decide +kernel
theorem dX1_isKind_4 : decode cX1_isKind 4 = .ok (.iload_n 0, 1) := by decide +kernel
theorem dX1_isKind_5 : decode cX1_isKind 5 = .ok (.getstatic 30, 3) := by decide +kernel
theorem dX1_isKind_8 : decode cX1_isKind 8 = .ok (.arraylength, 1) := by decide +kernel
theorem dX1_isKind_9 : decode cX1_isKind 9 = .ok (.if_icmp .ge 7, 3) := by decide +kernel
theorem dX1_isKind_12 : decode cX1_isKind 12 = .ok (.iconst 1, 1) := by decide +kernel
theorem dX1_isKind_13 : decode cX1_isKind 13 = .ok (.goto 4, 3) := by decide +kernel
theorem dX1_isKind_16 : decode cX1_isKind 16 = .ok (.iconst 0, 1) := by decide +kernel
theorem dX1_isKind_17 : decode cX1_isKind 17 = .ok (.ireturn, 1) := by decide +kernel
def fX1_isKind (a1 : Int32) : Option (Bool) := if a1 < 0 then some false else if 6 ≤ a1 then some false else some true
abbrev rmX1_isKind : Room := { frames := 0, cells := 0, slots := 0, locals := 0 }
set_option maxHeartbeats 4000000 in
set_option maxRecDepth 100000 in
theorem kX1_isKind {l : Launch} {G : xG} {β : Nat} {D : Nat → Prop} {x : XS} {a1 : Int32} {r : Bool} (hm : fX1_isKind a1 = some r) : Met l yX1_isKind (.code yX1_isKind cX1_isKind 1 (some .boolean) :: GT) rmX1_isKind (PcW [.int a1] (CW β D G x) (KK G)) (QcW D (some (.int (bI r))) (CW β D G x)) 0 0 D := by
  unfold fX1_isKind at hm
  refine xpro (own := RX1) (by decide +kernel) rfl (Nat.le_of_ble_eq_true rfl) ?_
  intro p e s m args below meth c C hw ls hl
  have hx := C.1
  have hb := C.2.1
  have ho := C.2.2.2.1
  have hts := C.2.2.2.2.1
  have hf : Fz D G s.heap := hw.2.2.2.2
  have hS : va_S D s.heap s.heap [] := va_S.rf
  have hl : lv_has ls 1 [(0, .int a1)] := hl
  have hRf : 0 ≤ rmX1_isKind.frames := Nat.le_refl _
  have hRl : 0 ≤ rmX1_isKind.locals := Nat.le_refl _
  have hcs : 0 ≤ rmX1_isKind.cells ∧ 0 ≤ rmX1_isKind.slots := ⟨Nat.le_refl _, Nat.le_refl _⟩
  refine lv_iload_n hx hb dX1_isKind_0 rfl (lv_at hl 0 rfl) ?_
  refine lv_if_lt (tgt := 16) hx hb dX1_isKind_1 (by decide) (fun cc => ?_) (fun cc => ?_)
  · replace hm := ite_p cc hm
    refine lv_iconst (v := 0) hx hb dX1_isKind_16 (by decide) ?_
    obtain rfl := Option.some.inj hm
    exact xret_z (v := bI false) C (bI_nar _) hw hS dX1_isKind_17
  · replace hm := ite_n cc hm
    refine lv_iload_n hx hb dX1_isKind_4 rfl (lv_at hl 0 rfl) ?_
    refine va_gets hx hb (KS_Z C.K hf) hS ho (hts (.fieldLink RX1 30 "AtThePost$Horse" "ABOVE" "[I") (tg 415 (by decide +kernel) rfl)) (fun _ h9 => h9) dX1_isKind_5 ?_
    refine va_tlen (v := 6) hx hb (KS_T C.K hf) hS rfl dX1_isKind_8 ?_
    refine lv_icmp_ge (tgt := 16) hx hb dX1_isKind_9 (by decide) (fun cc => ?_) (fun cc => ?_)
    · replace hm := ite_p cc hm
      refine lv_iconst (v := 0) hx hb dX1_isKind_16 (by decide) ?_
      obtain rfl := Option.some.inj hm
      exact xret_z (v := bI false) C (bI_nar _) hw hS dX1_isKind_17
    · replace hm := ite_n cc hm
      refine lv_iconst (v := 1) hx hb dX1_isKind_12 (by decide) ?_
      refine lv_goto (tgt := 17) hx hb dX1_isKind_13 (by decide) ?_
      obtain rfl := Option.some.inj hm
      exact xret_z (v := bI true) C (bI_nar _) hw hS dX1_isKind_17
theorem dX1_isOfKind_0 : decode cX1_isOfKind 0 = .ok (.aload_n 0, 1) := by decide +kernel
theorem dX1_isOfKind_1 : decode cX1_isOfKind 1 = .ok (.getfield 15, 3) := by decide +kernel
theorem dX1_isOfKind_4 : decode cX1_isOfKind 4 = .ok (.istore_n 2, 1) := by decide +kernel
theorem dX1_isOfKind_5 : decode cX1_isOfKind 5 = .ok (.iconst 0, 1) := by decide +kernel
theorem dX1_isOfKind_6 : decode cX1_isOfKind 6 = .ok (.istore_n 3, 1) := by decide +kernel
theorem dX1_isOfKind_7 : decode cX1_isOfKind 7 = .ok (.iload_n 3, 1) := by decide +kernel
theorem dX1_isOfKind_8 : decode cX1_isOfKind 8 = .ok (.getstatic 30, 3) := by decide +kernel
theorem dX1_isOfKind_11 : decode cX1_isOfKind 11 = .ok (.arraylength, 1) := by decide +kernel
theorem dX1_isOfKind_12 : decode cX1_isOfKind 12 = .ok (.if_icmp .ge 29, 3) := by decide +kernel
theorem dX1_isOfKind_15 : decode cX1_isOfKind 15 = .ok (.iload_n 2, 1) := by decide +kernel
theorem dX1_isOfKind_16 : decode cX1_isOfKind 16 = .ok (.invokestatic 34, 3) := by decide +kernel
theorem dX1_isOfKind_19 : decode cX1_isOfKind 19 = .ok (.ifCond .eq 22, 3) := by decide +kernel
theorem dX1_isOfKind_22 : decode cX1_isOfKind 22 = .ok (.iload_n 2, 1) := by decide +kernel
theorem dX1_isOfKind_23 : decode cX1_isOfKind 23 = .ok (.iload_n 1, 1) := by decide +kernel
theorem dX1_isOfKind_24 : decode cX1_isOfKind 24 = .ok (.if_icmp .ne 5, 3) := by decide +kernel
theorem dX1_isOfKind_27 : decode cX1_isOfKind 27 = .ok (.iconst 1, 1) := by decide +kernel
theorem dX1_isOfKind_28 : decode cX1_isOfKind 28 = .ok (.ireturn, 1) := by decide +kernel
theorem dX1_isOfKind_29 : decode cX1_isOfKind 29 = .ok (.getstatic 30, 3) := by decide +kernel
theorem dX1_isOfKind_32 : decode cX1_isOfKind 32 = .ok (.iload_n 2, 1) := by decide +kernel
theorem dX1_isOfKind_33 : decode cX1_isOfKind 33 = .ok (.iaload, 1) := by decide +kernel
theorem dX1_isOfKind_34 : decode cX1_isOfKind 34 = .ok (.istore_n 2, 1) := by decide +kernel
theorem dX1_isOfKind_35 : decode cX1_isOfKind 35 = .ok (.iinc 3 1, 3) := by decide +kernel
theorem dX1_isOfKind_38 : decode cX1_isOfKind 38 = .ok (.goto (-31), 3) := by decide +kernel
theorem dX1_isOfKind_41 : decode cX1_isOfKind 41 = .ok (.iconst 0, 1) := by decide +kernel
theorem dX1_isOfKind_42 : decode cX1_isOfKind 42 = .ok (.ireturn, 1) := by decide +kernel
theorem iwX1 : ∀ w ∈ u_ws RX1 TX1 6, w ∈ GT := in_tb [443, 445, 447, 449, 451, 453] (by decide +kernel) (by decide +kernel)
theorem gdX1_15 {p : Program} {l : Launch} {e : Env} {R : Room} {s : State} {m : MethodId} {args : Array Value} {below : List Frame} {meth : Method} {c : Code} {H : Heap} {locs : List Loc} {cells slots : Nat} {Q : State → Prop} {cc : ByteArray} {pc nL : Nat} {ls : Array Slot} {rest : List Value} {ret : Option FieldType}  {G : xG} {β : Nat} {D : Nat → Prop} {x : XS} {a : Nat} {v : Int32} (C : Cx p s m args meth c RX1 cc nL ret (KK G)) (h : dI x a 1 0 = some v) (hw : CW β D G x H) (hd : decode cc pc = .ok (.getfield 15, 3)) (kk : W p l e R s m args below meth c H locs cells slots Q (F0 m (pc + 3) ls (.int v :: rest))) : W p l e R s m args below meth c H locs cells slots Q (F0 m pc ls (.ref a :: rest)) := by
  obtain ⟨fs, h1, h2⟩ := dI_e h
  exact va_get (ci := 1) (fs := fs) C.1 C.2.1 C.2.2.2.2.1 iwX1 C.2.2.2.1 C.K.1 (xP1 (hw.2.2.2.1 a _ h1).2.2.2) 0 rfl rfl 0 (by decide) (C.2.2.2.2.1 (.fieldLink RX1 15 RX1 "kind" "I") (tg 428 (by decide +kernel) rfl)) (fun _ h9 => h9) h2 hd kk
theorem sX1_34 {p : Program} {l : Launch} {e : Env} {R : Room} {s : State} {m : MethodId} {args : Array Value} {below : List Frame} {meth : Method} {c : Code} {H : Heap} {locs : List Loc} {cells slots : Nat} {Q : State → Prop} {cc : ByteArray} {pc nL : Nat} {ls : Array Slot} {rest : List Value} {ret : Option FieldType}  {G : xG} {β : Nat} {D : Nat → Prop} {x : XS} {a1 : Int32} {r : Bool} (C : Cx p s m args meth c RX1 cc nL ret (KK G)) (h : fX1_isKind a1 = some r) (hw : CW β D G x H) (hS : va_S D s.heap H locs) (hsz : ls.size = nL) (hW : (rest.map fun v => v.category).sum ≤ 8) (hR : 1 ≤ R.frames) (hR2 : 20 ≤ R.locals) (hcs : cells ≤ R.cells ∧ slots ≤ R.slots) (hd : decode cc pc = .ok (.invokestatic 34, 3)) (kk : ∀ (H1 : Heap) (locs1 : List Loc), CW β D G x H1 → va_S D s.heap H1 locs1 → W p l e R s m args below meth c H1 locs1 cells slots Q (F0 m (pc + 3) ls (.int (bI r) :: rest))) : W p l e R s m args below meth c H locs cells slots Q (F0 m pc ls (.int a1 :: rest)) := by
  exact xcallS C (As := [.int a1]) (rest := rest) (nA := 1) (kX1_isKind h) (tg 898 (by decide +kernel) rfl) (tg 413 (by decide +kernel) rfl) (tg 15 (by decide +kernel) rfl) (tg 414 (by decide +kernel) rfl) ⟨by decide +kernel, by decide +kernel, by decide +kernel⟩ rfl rfl ⟨hR, hR2⟩ hw hS (fun _ q => q) rfl rfl hsz hW hd hcs (fun H1 locs1 hw hz hk hS => kk H1 locs1 hw hS)
def BX1_isOfKind_7 (x : XS) (q1 : Int32) (lp : Int32 → Int32 → Option ((Bool) ⊕ (Unit))) (u2 : Int32) (u3 : Int32) : Option ((Bool) ⊕ (Unit)) := if 6 ≤ u3 then some (.inr ()) else Option.bind (fX1_isKind u2) fun v3 => if v3 = true then if u2 = q1 then some (.inl true) else if ib u2 6 then lt (abv.getD u2.toNatClampNeg 0) fun v6 => lt (u3 + 1) fun v7 => lp v6 v7 else none else some (.inr ())
def LX1_isOfKind_7 (x : XS) (q1 : Int32) : Nat → Int32 → Int32 → Option ((Bool) ⊕ (Unit))
  | 0, _, _ => none
  | n + 1, u2, u3 => BX1_isOfKind_7 x q1 (LX1_isOfKind_7 x q1 n) u2 u3
def fX1_isOfKind (x : XS) (a0 : Nat) (a1 : Int32) : Option (Bool) := Option.bind (dI x a0 1 0) fun v1 => bs (LX1_isOfKind_7 x a1 NF v1 0) (fun a => some a) (fun _ => some false)
set_option maxHeartbeats 4000000 in
set_option maxRecDepth 100000 in
theorem lX1_isOfKind_7 {p : Program} {l : Launch} {e : Env} {R : Room} {s : State} {m : MethodId} {args : Array Value} {below : List Frame} {meth : Method} {c : Code} {cells slots : Nat} {Q : State → Prop} {G : xG} {β : Nat} {D : Nat → Prop} (C : Cx p s m args meth c RX1 cX1_isOfKind 4 (some .boolean) (KK G)) (hRf : 1 ≤ R.frames) (hRl : 20 ≤ R.locals) (hcs : cells ≤ R.cells ∧ slots ≤ R.slots) (hf : Fz D G s.heap) (x : XS) (q1 : Int32) : ∀ (n : Nat) (u2 : Int32) (u3 : Int32) (J : (Bool) ⊕ (Unit)) (H : Heap) (locs : List Loc) (ls : Array Slot), LX1_isOfKind_7 x q1 n u2 u3 = some J → CW β D G x H → va_S D s.heap H locs → lv_has ls 4 [(1, .int q1), (2, .int u2), (3, .int u3)] → (∀ (w : Unit), J = .inr w → ∀ (H : Heap) (locs : List Loc) (ls : Array Slot), CW β D G x H → va_S D s.heap H locs → lv_has ls 4 [] → W p l e R s m args below meth c H locs cells slots Q (F0 m 41 ls [])) → (∀ (rv : Bool), J = .inl rv → ∀ (H : Heap) (locs : List Loc) (ls : Array Slot), CW β D G x H → va_S D s.heap H locs → W p l e R s m args below meth c H locs cells slots Q (F0 m 28 ls [.int (bI rv)])) → W p l e R s m args below meth c H locs cells slots Q (F0 m 7 ls []) := by
  have hx := C.1
  have hb := C.2.1
  have ho := C.2.2.2.1
  have hts := C.2.2.2.2.1
  intro n
  induction n with
  | zero =>
    intro u2 u3 J H locs ls hm
    exact absurd hm (by simp [LX1_isOfKind_7])
  | succ n ih =>
    intro u2 u3 J H locs ls hm hw hS hl ke kr28
    replace hm : BX1_isOfKind_7 x q1 (LX1_isOfKind_7 x q1 n) u2 u3 = some J := hm
    unfold BX1_isOfKind_7 at hm
    refine lv_iload_n hx hb dX1_isOfKind_7 rfl (lv_at hl 2 rfl) ?_
    refine va_gets hx hb (KS_Z C.K hf) hS ho (hts (.fieldLink RX1 30 "AtThePost$Horse" "ABOVE" "[I") (tg 415 (by decide +kernel) rfl)) (fun _ h9 => h9) dX1_isOfKind_8 ?_
    refine va_tlen (v := 6) hx hb (KS_T C.K hf) hS rfl dX1_isOfKind_11 ?_
    refine lv_icmp_ge (tgt := 41) hx hb dX1_isOfKind_12 (by decide) (fun cc => ?_) (fun cc => ?_)
    · replace hm := ite_p cc hm
      exact ke _ (Option.some.inj hm).symm _ _ _ hw hS (lv_sub hl [] rfl)
    · replace hm := ite_n cc hm
      refine lv_iload_n hx hb dX1_isOfKind_15 rfl (lv_at hl 1 rfl) ?_
      obtain ⟨v3, h4, hm⟩ := bind_e hm
      refine sX1_34 C h4 hw hS hl.1 (Nat.le_of_ble_eq_true rfl) (Nat.le_trans (Nat.le_of_ble_eq_true rfl) hRf) (Nat.le_trans (Nat.le_of_ble_eq_true rfl) hRl) hcs dX1_isOfKind_16 (fun H locs hw hS => ?_)
      refine x_ifeqB hx hb dX1_isOfKind_19 (tgt := 41) (by decide) (fun cc => ?_) (fun cc => ?_)
      · replace hm := ite_n cc hm
        exact ke _ (Option.some.inj hm).symm _ _ _ hw hS (lv_sub hl [] rfl)
      · replace hm := ite_p cc hm
        refine lv_iload_n hx hb dX1_isOfKind_22 rfl (lv_at hl 1 rfl) ?_
        refine lv_iload_n hx hb dX1_isOfKind_23 rfl (lv_at hl 0 rfl) ?_
        refine lv_icmp_ne (tgt := 29) hx hb dX1_isOfKind_24 (by decide) (fun cc => ?_) (fun cc => ?_)
        · replace hm := ite_n cc hm
          refine va_gets hx hb (KS_Z C.K hf) hS ho (hts (.fieldLink RX1 30 "AtThePost$Horse" "ABOVE" "[I") (tg 415 (by decide +kernel) rfl)) (fun _ h9 => h9) dX1_isOfKind_29 ?_
          refine lv_iload_n hx hb dX1_isOfKind_32 rfl (lv_at hl 1 rfl) ?_
          obtain ⟨h5, hm⟩ := chk_e hm
          refine va_ti hx hb (KS_T C.K hf) hS h5 rfl dX1_isOfKind_33 ?_
          refine topI hm (fun v6 hm => ?_)
          refine lv_istore_n (lv' := [(2, .int v6), (1, .int q1), (3, .int u3)]) hx hb dX1_isOfKind_34 rfl hl (by decide) rfl (fun ls hl => ?_)
          obtain ⟨v7, ev, hm⟩ := lt_e hm
          refine lv_iinc (v := v7) (lv' := [(3, .int v7), (2, .int v6), (1, .int q1)]) hx hb dX1_isOfKind_35 hl (k := 2) rfl (by rw [ev]; rfl) (by decide) rfl (fun ls hl => ?_)
          clear ev
          refine lv_goto (tgt := 7) hx hb dX1_isOfKind_38 (by decide) ?_
          exact ih _ _ _ _ _ _ hm hw hS (lv_sub hl [2, 1, 0] rfl) ke kr28
        · replace hm := ite_p cc hm
          refine lv_iconst (v := 1) hx hb dX1_isOfKind_27 (by decide) ?_
          exact kr28 _ (Option.some.inj hm).symm _ _ _ hw hS
abbrev rmX1_isOfKind : Room := { frames := 1, cells := 0, slots := 0, locals := 20 }
set_option maxHeartbeats 4000000 in
set_option maxRecDepth 100000 in
theorem kX1_isOfKind {l : Launch} {G : xG} {β : Nat} {D : Nat → Prop} {x : XS} {a0 : Nat} {a1 : Int32} {r : Bool} (hm : fX1_isOfKind x a0 a1 = some r) : Met l yX1_isOfKind (.code yX1_isOfKind cX1_isOfKind 4 (some .boolean) :: GT) rmX1_isOfKind (PcW [.ref a0, .int a1] (CW β D G x) (KK G)) (QcW D (some (.int (bI r))) (CW β D G x)) 0 0 D := by
  unfold fX1_isOfKind at hm
  refine xpro (own := RX1) (by decide +kernel) rfl (Nat.le_of_ble_eq_true rfl) ?_
  intro p e s m args below meth c C hw ls hl
  have hx := C.1
  have hb := C.2.1
  have ho := C.2.2.2.1
  have hts := C.2.2.2.2.1
  have hf : Fz D G s.heap := hw.2.2.2.2
  have hS : va_S D s.heap s.heap [] := va_S.rf
  have hl : lv_has ls 4 [(0, .ref a0), (1, .int a1)] := hl
  have hRf : 1 ≤ rmX1_isOfKind.frames := Nat.le_refl _
  have hRl : 20 ≤ rmX1_isOfKind.locals := Nat.le_refl _
  have hcs : 0 ≤ rmX1_isOfKind.cells ∧ 0 ≤ rmX1_isOfKind.slots := ⟨Nat.le_refl _, Nat.le_refl _⟩
  refine lv_aload_n hx hb dX1_isOfKind_0 rfl (lv_at hl 0 rfl) ?_
  obtain ⟨v1, h2, hm⟩ := bind_e hm
  refine gdX1_15 C h2 hw dX1_isOfKind_1 ?_
  refine lv_istore_n (lv' := [(2, .int v1), (0, .ref a0), (1, .int a1)]) hx hb dX1_isOfKind_4 rfl hl (by decide) rfl (fun ls hl => ?_)
  refine lv_iconst (v := 0) hx hb dX1_isOfKind_5 (by decide) ?_
  refine lv_istore_n (lv' := [(3, .int 0), (2, .int v1), (0, .ref a0), (1, .int a1)]) hx hb dX1_isOfKind_6 rfl hl (by decide) rfl (fun ls hl => ?_)
  rcases bs_e hm with ⟨a, hj, hm⟩ | ⟨b, hj, hm⟩
  · refine lX1_isOfKind_7 C hRf hRl hcs hf x a1 NF _ _ _ _ _ _ hj hw hS (lv_sub hl [3, 1, 0] rfl) (fun _ e0 => by cases e0) (fun rv e0 H locs ls hw hS => ?_)
    · cases e0
      obtain rfl := Option.some.inj hm
      exact xret_z C (bI_nar _) hw hS dX1_isOfKind_28
  · refine lX1_isOfKind_7 C hRf hRl hcs hf x a1 NF _ _ _ _ _ _ hj hw hS (lv_sub hl [3, 1, 0] rfl) (fun _ e0 H locs ls hw hS hl => ?_) (fun _ e0 => by cases e0)
    refine lv_iconst (v := 0) hx hb dX1_isOfKind_41 (by decide) ?_
    obtain rfl := Option.some.inj hm
    exact xret_z (v := bI false) C (bI_nar _) hw hS dX1_isOfKind_42
theorem dX1_promise_0 : decode cX1_promise 0 = .ok (.aload_n 0, 1) := by decide +kernel
theorem dX1_promise_1 : decode cX1_promise 1 = .ok (.getfield 21, 3) := by decide +kernel
theorem dX1_promise_4 : decode cX1_promise 4 = .ok (.bipush 6, 2) := by decide +kernel
theorem dX1_promise_6 : decode cX1_promise 6 = .ok (.if_icmp .ge 20, 3) := by decide +kernel
theorem dX1_promise_9 : decode cX1_promise 9 = .ok (.bipush 6, 2) := by decide +kernel
theorem dX1_promise_11 : decode cX1_promise 11 = .ok (.aload_n 0, 1) := by decide +kernel
theorem dX1_promise_12 : decode cX1_promise 12 = .ok (.getfield 21, 3) := by decide +kernel
theorem dX1_promise_15 : decode cX1_promise 15 = .ok (.isub, 1) := by decide +kernel
theorem dX1_promise_16 : decode cX1_promise 16 = .ok (.aload_n 0, 1) := by decide +kernel
theorem dX1_promise_17 : decode cX1_promise 17 = .ok (.getfield 24, 3) := by decide +kernel
theorem dX1_promise_20 : decode cX1_promise 20 = .ok (.imul, 1) := by decide +kernel
theorem dX1_promise_21 : decode cX1_promise 21 = .ok (.iconst 2, 1) := by decide +kernel
theorem dX1_promise_22 : decode cX1_promise 22 = .ok (.idiv, 1) := by decide +kernel
theorem dX1_promise_23 : decode cX1_promise 23 = .ok (.goto 4, 3) := by decide +kernel
theorem dX1_promise_26 : decode cX1_promise 26 = .ok (.iconst 0, 1) := by decide +kernel
theorem dX1_promise_27 : decode cX1_promise 27 = .ok (.ireturn, 1) := by decide +kernel
theorem gdX1_21 {p : Program} {l : Launch} {e : Env} {R : Room} {s : State} {m : MethodId} {args : Array Value} {below : List Frame} {meth : Method} {c : Code} {H : Heap} {locs : List Loc} {cells slots : Nat} {Q : State → Prop} {cc : ByteArray} {pc nL : Nat} {ls : Array Slot} {rest : List Value} {ret : Option FieldType}  {G : xG} {β : Nat} {D : Nat → Prop} {x : XS} {a : Nat} {v : Int32} (C : Cx p s m args meth c RX1 cc nL ret (KK G)) (h : dI x a 1 4 = some v) (hw : CW β D G x H) (hd : decode cc pc = .ok (.getfield 21, 3)) (kk : W p l e R s m args below meth c H locs cells slots Q (F0 m (pc + 3) ls (.int v :: rest))) : W p l e R s m args below meth c H locs cells slots Q (F0 m pc ls (.ref a :: rest)) := by
  obtain ⟨fs, h1, h2⟩ := dI_e h
  exact va_get (ci := 1) (fs := fs) C.1 C.2.1 C.2.2.2.2.1 iwX1 C.2.2.2.1 C.K.1 (xP1 (hw.2.2.2.1 a _ h1).2.2.2) 0 rfl rfl 4 (by decide) (C.2.2.2.2.1 (.fieldLink RX1 21 RX1 "age" "I") (tg 437 (by decide +kernel) rfl)) (fun _ h9 => h9) h2 hd kk
theorem gdX1_24 {p : Program} {l : Launch} {e : Env} {R : Room} {s : State} {m : MethodId} {args : Array Value} {below : List Frame} {meth : Method} {c : Code} {H : Heap} {locs : List Loc} {cells slots : Nat} {Q : State → Prop} {cc : ByteArray} {pc nL : Nat} {ls : Array Slot} {rest : List Value} {ret : Option FieldType}  {G : xG} {β : Nat} {D : Nat → Prop} {x : XS} {a : Nat} {v : Int32} (C : Cx p s m args meth c RX1 cc nL ret (KK G)) (h : dI x a 1 1 = some v) (hw : CW β D G x H) (hd : decode cc pc = .ok (.getfield 24, 3)) (kk : W p l e R s m args below meth c H locs cells slots Q (F0 m (pc + 3) ls (.int v :: rest))) : W p l e R s m args below meth c H locs cells slots Q (F0 m pc ls (.ref a :: rest)) := by
  obtain ⟨fs, h1, h2⟩ := dI_e h
  exact va_get (ci := 1) (fs := fs) C.1 C.2.1 C.2.2.2.2.1 iwX1 C.2.2.2.1 C.K.1 (xP1 (hw.2.2.2.1 a _ h1).2.2.2) 0 rfl rfl 1 (by decide) (C.2.2.2.2.1 (.fieldLink RX1 24 RX1 "number" "I") (tg 430 (by decide +kernel) rfl)) (fun _ h9 => h9) h2 hd kk
def fX1_promise (x : XS) (a0 : Nat) : Option (Int32) := Option.bind (dI x a0 1 4) fun v1 => if 6 ≤ v1 then some 0 else Option.bind (dI x a0 1 4) fun v3 => Option.bind (dI x a0 1 1) fun v5 => some (((6 - v3) * v5) / 2)
abbrev rmX1_promise : Room := { frames := 0, cells := 0, slots := 0, locals := 0 }
set_option maxHeartbeats 4000000 in
set_option maxRecDepth 100000 in
theorem kX1_promise {l : Launch} {G : xG} {β : Nat} {D : Nat → Prop} {x : XS} {a0 : Nat} {r : Int32} (hm : fX1_promise x a0 = some r) : Met l yX1_promise (.code yX1_promise cX1_promise 1 (some .int) :: GT) rmX1_promise (PcW [.ref a0] (CW β D G x) (KK G)) (QcW D (some (.int r)) (CW β D G x)) 0 0 D := by
  unfold fX1_promise at hm
  refine xpro (own := RX1) (by decide +kernel) rfl (Nat.le_of_ble_eq_true rfl) ?_
  intro p e s m args below meth c C hw ls hl
  have hx := C.1
  have hb := C.2.1
  have ho := C.2.2.2.1
  have hts := C.2.2.2.2.1
  have hf : Fz D G s.heap := hw.2.2.2.2
  have hS : va_S D s.heap s.heap [] := va_S.rf
  have hl : lv_has ls 1 [(0, .ref a0)] := hl
  have hRf : 0 ≤ rmX1_promise.frames := Nat.le_refl _
  have hRl : 0 ≤ rmX1_promise.locals := Nat.le_refl _
  have hcs : 0 ≤ rmX1_promise.cells ∧ 0 ≤ rmX1_promise.slots := ⟨Nat.le_refl _, Nat.le_refl _⟩
  refine lv_aload_n hx hb dX1_promise_0 rfl (lv_at hl 0 rfl) ?_
  obtain ⟨v1, h2, hm⟩ := bind_e hm
  refine gdX1_21 C h2 hw dX1_promise_1 ?_
  refine lv_bipush (v := 6) hx hb dX1_promise_4 (by decide) ?_
  refine lv_icmp_ge (tgt := 26) hx hb dX1_promise_6 (by decide) (fun cc => ?_) (fun cc => ?_)
  · replace hm := ite_p cc hm
    refine lv_iconst (v := 0) hx hb dX1_promise_26 (by decide) ?_
    obtain rfl := Option.some.inj hm
    exact xret_i C hw hS dX1_promise_27
  · replace hm := ite_n cc hm
    refine lv_bipush (v := 6) hx hb dX1_promise_9 (by decide) ?_
    refine lv_aload_n hx hb dX1_promise_11 rfl (lv_at hl 0 rfl) ?_
    obtain ⟨v3, h4, hm⟩ := bind_e hm
    refine gdX1_21 C h4 hw dX1_promise_12 ?_
    refine lv_isub hx hb dX1_promise_15 ?_
    refine lv_aload_n hx hb dX1_promise_16 rfl (lv_at hl 0 rfl) ?_
    obtain ⟨v5, h6, hm⟩ := bind_e hm
    refine gdX1_24 C h6 hw dX1_promise_17 ?_
    refine lv_imul hx hb dX1_promise_20 ?_
    refine lv_iconst (v := 2) hx hb dX1_promise_21 (by decide) ?_
    refine lv_idiv hx hb dX1_promise_22 (by decide) ?_
    refine lv_goto (tgt := 27) hx hb dX1_promise_23 (by decide) ?_
    obtain rfl := Option.some.inj hm
    exact xret_i C hw hS dX1_promise_27
theorem dX1_formOn_0 : decode cX1_formOn 0 = .ok (.aload_n 0, 1) := by decide +kernel
theorem dX1_formOn_1 : decode cX1_formOn 1 = .ok (.getfield 15, 3) := by decide +kernel
theorem dX1_formOn_4 : decode cX1_formOn 4 = .ok (.tableswitch 120 1 5 #[36, 46, 71, 81, 105], 36) := by decide +kernel
theorem dX1_formOn_40 : decode cX1_formOn 40 = .ok (.aload_n 0, 1) := by decide +kernel
theorem dX1_formOn_41 : decode cX1_formOn 41 = .ok (.getfield 18, 3) := by decide +kernel
theorem dX1_formOn_44 : decode cX1_formOn 44 = .ok (.aload_n 0, 1) := by decide +kernel
theorem dX1_formOn_45 : decode cX1_formOn 45 = .ok (.getfield 24, 3) := by decide +kernel
theorem dX1_formOn_48 : decode cX1_formOn 48 = .ok (.isub, 1) := by decide +kernel
theorem dX1_formOn_49 : decode cX1_formOn 49 = .ok (.ireturn, 1) := by decide +kernel
theorem dX1_formOn_50 : decode cX1_formOn 50 = .ok (.iload_n 1, 1) := by decide +kernel
theorem dX1_formOn_51 : decode cX1_formOn 51 = .ok (.aload_n 0, 1) := by decide +kernel
theorem dX1_formOn_52 : decode cX1_formOn 52 = .ok (.getfield 27, 3) := by decide +kernel
theorem dX1_formOn_55 : decode cX1_formOn 55 = .ok (.if_icmp .ne 10, 3) := by decide +kernel
theorem dX1_formOn_58 : decode cX1_formOn 58 = .ok (.aload_n 0, 1) := by decide +kernel
theorem dX1_formOn_59 : decode cX1_formOn 59 = .ok (.getfield 18, 3) := by decide +kernel
theorem dX1_formOn_62 : decode cX1_formOn 62 = .ok (.goto 12, 3) := by decide +kernel
theorem dX1_formOn_65 : decode cX1_formOn 65 = .ok (.aload_n 0, 1) := by decide +kernel
theorem dX1_formOn_66 : decode cX1_formOn 66 = .ok (.getfield 18, 3) := by decide +kernel
theorem dX1_formOn_69 : decode cX1_formOn 69 = .ok (.aload_n 0, 1) := by decide +kernel
theorem dX1_formOn_70 : decode cX1_formOn 70 = .ok (.getfield 24, 3) := by decide +kernel
theorem dX1_formOn_73 : decode cX1_formOn 73 = .ok (.isub, 1) := by decide +kernel
theorem dX1_formOn_74 : decode cX1_formOn 74 = .ok (.ireturn, 1) := by decide +kernel
theorem dX1_formOn_75 : decode cX1_formOn 75 = .ok (.aload_n 0, 1) := by decide +kernel
theorem dX1_formOn_76 : decode cX1_formOn 76 = .ok (.getfield 18, 3) := by decide +kernel
theorem dX1_formOn_79 : decode cX1_formOn 79 = .ok (.aload_n 0, 1) := by decide +kernel
theorem dX1_formOn_80 : decode cX1_formOn 80 = .ok (.invokevirtual 38, 3) := by decide +kernel
theorem dX1_formOn_83 : decode cX1_formOn 83 = .ok (.iadd, 1) := by decide +kernel
theorem dX1_formOn_84 : decode cX1_formOn 84 = .ok (.ireturn, 1) := by decide +kernel
theorem dX1_formOn_85 : decode cX1_formOn 85 = .ok (.iload_n 2, 1) := by decide +kernel
theorem dX1_formOn_86 : decode cX1_formOn 86 = .ok (.bipush 7, 2) := by decide +kernel
theorem dX1_formOn_88 : decode cX1_formOn 88 = .ok (.irem, 1) := by decide +kernel
theorem dX1_formOn_89 : decode cX1_formOn 89 = .ok (.ifCond .ne 10, 3) := by decide +kernel
theorem dX1_formOn_92 : decode cX1_formOn 92 = .ok (.aload_n 0, 1) := by decide +kernel
theorem dX1_formOn_93 : decode cX1_formOn 93 = .ok (.getfield 18, 3) := by decide +kernel
theorem dX1_formOn_96 : decode cX1_formOn 96 = .ok (.goto 12, 3) := by decide +kernel
theorem dX1_formOn_99 : decode cX1_formOn 99 = .ok (.aload_n 0, 1) := by decide +kernel
theorem dX1_formOn_100 : decode cX1_formOn 100 = .ok (.getfield 18, 3) := by decide +kernel
theorem dX1_formOn_103 : decode cX1_formOn 103 = .ok (.aload_n 0, 1) := by decide +kernel
theorem dX1_formOn_104 : decode cX1_formOn 104 = .ok (.getfield 24, 3) := by decide +kernel
theorem dX1_formOn_107 : decode cX1_formOn 107 = .ok (.isub, 1) := by decide +kernel
theorem dX1_formOn_108 : decode cX1_formOn 108 = .ok (.ireturn, 1) := by decide +kernel
theorem dX1_formOn_109 : decode cX1_formOn 109 = .ok (.aload_n 0, 1) := by decide +kernel
theorem dX1_formOn_110 : decode cX1_formOn 110 = .ok (.getfield 18, 3) := by decide +kernel
theorem dX1_formOn_113 : decode cX1_formOn 113 = .ok (.aload_n 0, 1) := by decide +kernel
theorem dX1_formOn_114 : decode cX1_formOn 114 = .ok (.invokevirtual 38, 3) := by decide +kernel
theorem dX1_formOn_117 : decode cX1_formOn 117 = .ok (.iadd, 1) := by decide +kernel
theorem dX1_formOn_118 : decode cX1_formOn 118 = .ok (.aload_n 0, 1) := by decide +kernel
theorem dX1_formOn_119 : decode cX1_formOn 119 = .ok (.getfield 21, 3) := by decide +kernel
theorem dX1_formOn_122 : decode cX1_formOn 122 = .ok (.isub, 1) := by decide +kernel
theorem dX1_formOn_123 : decode cX1_formOn 123 = .ok (.ireturn, 1) := by decide +kernel
theorem dX1_formOn_124 : decode cX1_formOn 124 = .ok (.aload_n 0, 1) := by decide +kernel
theorem dX1_formOn_125 : decode cX1_formOn 125 = .ok (.getfield 18, 3) := by decide +kernel
theorem dX1_formOn_128 : decode cX1_formOn 128 = .ok (.ireturn, 1) := by decide +kernel
theorem gdX1_18 {p : Program} {l : Launch} {e : Env} {R : Room} {s : State} {m : MethodId} {args : Array Value} {below : List Frame} {meth : Method} {c : Code} {H : Heap} {locs : List Loc} {cells slots : Nat} {Q : State → Prop} {cc : ByteArray} {pc nL : Nat} {ls : Array Slot} {rest : List Value} {ret : Option FieldType}  {G : xG} {β : Nat} {D : Nat → Prop} {x : XS} {a : Nat} {v : Int32} (C : Cx p s m args meth c RX1 cc nL ret (KK G)) (h : dI x a 1 3 = some v) (hw : CW β D G x H) (hd : decode cc pc = .ok (.getfield 18, 3)) (kk : W p l e R s m args below meth c H locs cells slots Q (F0 m (pc + 3) ls (.int v :: rest))) : W p l e R s m args below meth c H locs cells slots Q (F0 m pc ls (.ref a :: rest)) := by
  obtain ⟨fs, h1, h2⟩ := dI_e h
  exact va_get (ci := 1) (fs := fs) C.1 C.2.1 C.2.2.2.2.1 iwX1 C.2.2.2.1 C.K.1 (xP1 (hw.2.2.2.1 a _ h1).2.2.2) 0 rfl rfl 3 (by decide) (C.2.2.2.2.1 (.fieldLink RX1 18 RX1 "strength" "I") (tg 434 (by decide +kernel) rfl)) (fun _ h9 => h9) h2 hd kk
theorem gdX1_27 {p : Program} {l : Launch} {e : Env} {R : Room} {s : State} {m : MethodId} {args : Array Value} {below : List Frame} {meth : Method} {c : Code} {H : Heap} {locs : List Loc} {cells slots : Nat} {Q : State → Prop} {cc : ByteArray} {pc nL : Nat} {ls : Array Slot} {rest : List Value} {ret : Option FieldType}  {G : xG} {β : Nat} {D : Nat → Prop} {x : XS} {a : Nat} {v : Int32} (C : Cx p s m args meth c RX1 cc nL ret (KK G)) (h : dI x a 1 2 = some v) (hw : CW β D G x H) (hd : decode cc pc = .ok (.getfield 27, 3)) (kk : W p l e R s m args below meth c H locs cells slots Q (F0 m (pc + 3) ls (.int v :: rest))) : W p l e R s m args below meth c H locs cells slots Q (F0 m pc ls (.ref a :: rest)) := by
  obtain ⟨fs, h1, h2⟩ := dI_e h
  exact va_get (ci := 1) (fs := fs) C.1 C.2.1 C.2.2.2.2.1 iwX1 C.2.2.2.1 C.K.1 (xP1 (hw.2.2.2.1 a _ h1).2.2.2) 0 rfl rfl 2 (by decide) (C.2.2.2.2.1 (.fieldLink RX1 27 RX1 "homeGround" "I") (tg 432 (by decide +kernel) rfl)) (fun _ h9 => h9) h2 hd kk
theorem sX1_38 {p : Program} {l : Launch} {e : Env} {R : Room} {s : State} {m : MethodId} {args : Array Value} {below : List Frame} {meth : Method} {c : Code} {H : Heap} {locs : List Loc} {cells slots : Nat} {Q : State → Prop} {cc : ByteArray} {pc nL : Nat} {ls : Array Slot} {rest : List Value} {ret : Option FieldType}  {G : xG} {β : Nat} {D : Nat → Prop} {x : XS} {a0 : Nat} {r : Int32} (C : Cx p s m args meth c RX1 cc nL ret (KK G)) (hk : dK x a0 1 = true) (h : fX1_promise x a0 = some r) (hw : CW β D G x H) (hS : va_S D s.heap H locs) (hsz : ls.size = nL) (hW : (rest.map fun v => v.category).sum ≤ 8) (hR : 1 ≤ R.frames) (hR2 : 20 ≤ R.locals) (hcs : cells ≤ R.cells ∧ slots ≤ R.slots) (hd : decode cc pc = .ok (.invokevirtual 38, 3)) (kk : ∀ (H1 : Heap) (locs1 : List Loc), CW β D G x H1 → va_S D s.heap H1 locs1 → W p l e R s m args below meth c H1 locs1 cells slots Q (F0 m (pc + 3) ls (.int r :: rest))) : W p l e R s m args below meth c H locs cells slots Q (F0 m pc ls (.ref a0 :: rest)) := by
  obtain ⟨fs0, hfs0⟩ := dK_e hk
  exact xcallV C (As := []) (rest := rest) (nA := 0) (ci := 1) (kX1_promise h) (tg 485 (by decide +kernel) rfl) (tg 487 (by decide +kernel) rfl) (sg (List.mem_of_getElem? (i := 16) (by decide +kernel)) rfl) (tg 15 (by decide +kernel) rfl) (tg 488 (by decide +kernel) rfl) ⟨rfl, by decide +kernel, by decide +kernel, by decide +kernel⟩ rfl rfl rfl ⟨hR, hR2⟩ ((hw.2.2.2.1 a0 _ hfs0).2.2.2) hw hS (fun _ q => q) rfl rfl hsz hW hd hcs (fun H1 locs1 hw hz hk hS => kk H1 locs1 hw hS)
def fX1_formOn (x : XS) (a0 : Nat) (a1 : Int32) (a2 : Int32) : Option (Int32) := Option.bind (dI x a0 1 0) fun v1 => if v1 = 1 then Option.bind (dI x a0 1 3) fun v3 => Option.bind (dI x a0 1 1) fun v5 => some (v3 - v5) else if v1 = 2 then Option.bind (dI x a0 1 2) fun v7 => if a1 = v7 then Option.bind (dI x a0 1 3) fun v13 => some v13 else Option.bind (dI x a0 1 3) fun v9 => Option.bind (dI x a0 1 1) fun v11 => some (v9 - v11) else if v1 = 3 then Option.bind (dI x a0 1 3) fun v15 => if dK x a0 1 = true then Option.bind (fX1_promise x a0) fun v18 => some (v15 + v18) else none else if v1 = 4 then if (irm a2 7) = 0 then Option.bind (dI x a0 1 3) fun v24 => some v24 else Option.bind (dI x a0 1 3) fun v20 => Option.bind (dI x a0 1 1) fun v22 => some (v20 - v22) else if v1 = 5 then Option.bind (dI x a0 1 3) fun v26 => if dK x a0 1 = true then Option.bind (fX1_promise x a0) fun v29 => Option.bind (dI x a0 1 4) fun v31 => some ((v26 + v29) - v31) else none else Option.bind (dI x a0 1 3) fun v33 => some v33
abbrev rmX1_formOn : Room := { frames := 1, cells := 0, slots := 0, locals := 20 }
set_option maxHeartbeats 4000000 in
set_option maxRecDepth 100000 in
theorem kX1_formOn {l : Launch} {G : xG} {β : Nat} {D : Nat → Prop} {x : XS} {a0 : Nat} {a1 : Int32} {a2 : Int32} {r : Int32} (hm : fX1_formOn x a0 a1 a2 = some r) : Met l yX1_formOn (.code yX1_formOn cX1_formOn 3 (some .int) :: GT) rmX1_formOn (PcW [.ref a0, .int a1, .int a2] (CW β D G x) (KK G)) (QcW D (some (.int r)) (CW β D G x)) 0 0 D := by
  unfold fX1_formOn at hm
  refine xpro (own := RX1) (by decide +kernel) rfl (Nat.le_of_ble_eq_true rfl) ?_
  intro p e s m args below meth c C hw ls hl
  have hx := C.1
  have hb := C.2.1
  have ho := C.2.2.2.1
  have hts := C.2.2.2.2.1
  have hf : Fz D G s.heap := hw.2.2.2.2
  have hS : va_S D s.heap s.heap [] := va_S.rf
  have hl : lv_has ls 3 [(0, .ref a0), (1, .int a1), (2, .int a2)] := hl
  have hRf : 1 ≤ rmX1_formOn.frames := Nat.le_refl _
  have hRl : 20 ≤ rmX1_formOn.locals := Nat.le_refl _
  have hcs : 0 ≤ rmX1_formOn.cells ∧ 0 ≤ rmX1_formOn.slots := ⟨Nat.le_refl _, Nat.le_refl _⟩
  refine lv_aload_n hx hb dX1_formOn_0 rfl (lv_at hl 0 rfl) ?_
  obtain ⟨v1, h2, hm⟩ := bind_e hm
  refine gdX1_15 C h2 hw dX1_formOn_1 ?_
  by_cases k0 : v1 = 1
  · replace hm := ite_p k0 hm
    refine lv_tableIn (tgt := 40) (off := 36) hx hb dX1_formOn_4 (by rw [k0]; decide) (by rw [k0]; decide) (by rw [k0]; rfl) (by decide) ?_
    refine lv_aload_n hx hb dX1_formOn_40 rfl (lv_at hl 0 rfl) ?_
    obtain ⟨v3, h4, hm⟩ := bind_e hm
    refine gdX1_18 C h4 hw dX1_formOn_41 ?_
    refine lv_aload_n hx hb dX1_formOn_44 rfl (lv_at hl 0 rfl) ?_
    obtain ⟨v5, h6, hm⟩ := bind_e hm
    refine gdX1_24 C h6 hw dX1_formOn_45 ?_
    refine lv_isub hx hb dX1_formOn_48 ?_
    obtain rfl := Option.some.inj hm
    exact xret_i C hw hS dX1_formOn_49
  replace hm := ite_n k0 hm
  by_cases k1 : v1 = 2
  · replace hm := ite_p k1 hm
    refine lv_tableIn (tgt := 50) (off := 46) hx hb dX1_formOn_4 (by rw [k1]; decide) (by rw [k1]; decide) (by rw [k1]; rfl) (by decide) ?_
    refine lv_iload_n hx hb dX1_formOn_50 rfl (lv_at hl 1 rfl) ?_
    refine lv_aload_n hx hb dX1_formOn_51 rfl (lv_at hl 0 rfl) ?_
    obtain ⟨v7, h8, hm⟩ := bind_e hm
    refine gdX1_27 C h8 hw dX1_formOn_52 ?_
    refine lv_icmp_ne (tgt := 65) hx hb dX1_formOn_55 (by decide) (fun cc => ?_) (fun cc => ?_)
    · replace hm := ite_n cc hm
      refine lv_aload_n hx hb dX1_formOn_65 rfl (lv_at hl 0 rfl) ?_
      obtain ⟨v9, h10, hm⟩ := bind_e hm
      refine gdX1_18 C h10 hw dX1_formOn_66 ?_
      refine lv_aload_n hx hb dX1_formOn_69 rfl (lv_at hl 0 rfl) ?_
      obtain ⟨v11, h12, hm⟩ := bind_e hm
      refine gdX1_24 C h12 hw dX1_formOn_70 ?_
      refine lv_isub hx hb dX1_formOn_73 ?_
      obtain rfl := Option.some.inj hm
      exact xret_i C hw hS dX1_formOn_74
    · replace hm := ite_p cc hm
      refine lv_aload_n hx hb dX1_formOn_58 rfl (lv_at hl 0 rfl) ?_
      obtain ⟨v13, h14, hm⟩ := bind_e hm
      refine gdX1_18 C h14 hw dX1_formOn_59 ?_
      refine lv_goto (tgt := 74) hx hb dX1_formOn_62 (by decide) ?_
      obtain rfl := Option.some.inj hm
      exact xret_i C hw hS dX1_formOn_74
  replace hm := ite_n k1 hm
  by_cases k2 : v1 = 3
  · replace hm := ite_p k2 hm
    refine lv_tableIn (tgt := 75) (off := 71) hx hb dX1_formOn_4 (by rw [k2]; decide) (by rw [k2]; decide) (by rw [k2]; rfl) (by decide) ?_
    refine lv_aload_n hx hb dX1_formOn_75 rfl (lv_at hl 0 rfl) ?_
    obtain ⟨v15, h16, hm⟩ := bind_e hm
    refine gdX1_18 C h16 hw dX1_formOn_76 ?_
    refine lv_aload_n hx hb dX1_formOn_79 rfl (lv_at hl 0 rfl) ?_
    obtain ⟨h17, hm⟩ := chk_e hm
    obtain ⟨v18, h19, hm⟩ := bind_e hm
    refine sX1_38 C h17 h19 hw hS hl.1 (Nat.le_of_ble_eq_true rfl) (Nat.le_trans (Nat.le_of_ble_eq_true rfl) hRf) (Nat.le_trans (Nat.le_of_ble_eq_true rfl) hRl) hcs dX1_formOn_80 (fun H locs hw hS => ?_)
    refine lv_iadd hx hb dX1_formOn_83 ?_
    obtain rfl := Option.some.inj hm
    exact xret_i C hw hS dX1_formOn_84
  replace hm := ite_n k2 hm
  by_cases k3 : v1 = 4
  · replace hm := ite_p k3 hm
    refine lv_tableIn (tgt := 85) (off := 81) hx hb dX1_formOn_4 (by rw [k3]; decide) (by rw [k3]; decide) (by rw [k3]; rfl) (by decide) ?_
    refine lv_iload_n hx hb dX1_formOn_85 rfl (lv_at hl 2 rfl) ?_
    refine lv_bipush (v := 7) hx hb dX1_formOn_86 (by decide) ?_
    refine lv_irem hx hb dX1_formOn_88 (by decide) ?_
    refine lv_if_ne (tgt := 99) hx hb dX1_formOn_89 (by decide) (fun cc => ?_) (fun cc => ?_)
    · replace hm := ite_n cc hm
      refine lv_aload_n hx hb dX1_formOn_99 rfl (lv_at hl 0 rfl) ?_
      obtain ⟨v20, h21, hm⟩ := bind_e hm
      refine gdX1_18 C h21 hw dX1_formOn_100 ?_
      refine lv_aload_n hx hb dX1_formOn_103 rfl (lv_at hl 0 rfl) ?_
      obtain ⟨v22, h23, hm⟩ := bind_e hm
      refine gdX1_24 C h23 hw dX1_formOn_104 ?_
      refine lv_isub hx hb dX1_formOn_107 ?_
      obtain rfl := Option.some.inj hm
      exact xret_i C hw hS dX1_formOn_108
    · replace hm := ite_p cc hm
      refine lv_aload_n hx hb dX1_formOn_92 rfl (lv_at hl 0 rfl) ?_
      obtain ⟨v24, h25, hm⟩ := bind_e hm
      refine gdX1_18 C h25 hw dX1_formOn_93 ?_
      refine lv_goto (tgt := 108) hx hb dX1_formOn_96 (by decide) ?_
      obtain rfl := Option.some.inj hm
      exact xret_i C hw hS dX1_formOn_108
  replace hm := ite_n k3 hm
  by_cases k4 : v1 = 5
  · replace hm := ite_p k4 hm
    refine lv_tableIn (tgt := 109) (off := 105) hx hb dX1_formOn_4 (by rw [k4]; decide) (by rw [k4]; decide) (by rw [k4]; rfl) (by decide) ?_
    refine lv_aload_n hx hb dX1_formOn_109 rfl (lv_at hl 0 rfl) ?_
    obtain ⟨v26, h27, hm⟩ := bind_e hm
    refine gdX1_18 C h27 hw dX1_formOn_110 ?_
    refine lv_aload_n hx hb dX1_formOn_113 rfl (lv_at hl 0 rfl) ?_
    obtain ⟨h28, hm⟩ := chk_e hm
    obtain ⟨v29, h30, hm⟩ := bind_e hm
    refine sX1_38 C h28 h30 hw hS hl.1 (Nat.le_of_ble_eq_true rfl) (Nat.le_trans (Nat.le_of_ble_eq_true rfl) hRf) (Nat.le_trans (Nat.le_of_ble_eq_true rfl) hRl) hcs dX1_formOn_114 (fun H locs hw hS => ?_)
    refine lv_iadd hx hb dX1_formOn_117 ?_
    refine lv_aload_n hx hb dX1_formOn_118 rfl (lv_at hl 0 rfl) ?_
    obtain ⟨v31, h32, hm⟩ := bind_e hm
    refine gdX1_21 C h32 hw dX1_formOn_119 ?_
    refine lv_isub hx hb dX1_formOn_122 ?_
    obtain rfl := Option.some.inj hm
    exact xret_i C hw hS dX1_formOn_123
  replace hm := ite_n k4 hm
  have k0i := lv_neT k0 (a := 1) (by decide)
  have k1i := lv_neT k1 (a := 2) (by decide)
  have k2i := lv_neT k2 (a := 3) (by decide)
  have k3i := lv_neT k3 (a := 4) (by decide)
  have k4i := lv_neT k4 (a := 5) (by decide)
  refine lv_tableOut (tgt := 124) hx hb dX1_formOn_4 (by omega) (by decide) ?_
  refine lv_aload_n hx hb dX1_formOn_124 rfl (lv_at hl 0 rfl) ?_
  obtain ⟨v33, h34, hm⟩ := bind_e hm
  refine gdX1_18 C h34 hw dX1_formOn_125 ?_
  obtain rfl := Option.some.inj hm
  exact xret_i C hw hS dX1_formOn_128
theorem dX2_take_0 : decode cX2_take 0 = .ok (.aload_n 2, 1) := by decide +kernel
theorem dX2_take_1 : decode cX2_take 1 = .ok (.ifnull 33, 3) := by decide +kernel
theorem dX2_take_4 : decode cX2_take 4 = .ok (.aload_n 0, 1) := by decide +kernel
theorem dX2_take_5 : decode cX2_take 5 = .ok (.getfield 32, 3) := by decide +kernel
theorem dX2_take_8 : decode cX2_take 8 = .ok (.iload_n 1, 1) := by decide +kernel
theorem dX2_take_9 : decode cX2_take 9 = .ok (.aload_n 2, 1) := by decide +kernel
theorem dX2_take_10 : decode cX2_take 10 = .ok (.getfield 41, 3) := by decide +kernel
theorem dX2_take_13 : decode cX2_take 13 = .ok (.iastore, 1) := by decide +kernel
theorem dX2_take_14 : decode cX2_take 14 = .ok (.aload_n 0, 1) := by decide +kernel
theorem dX2_take_15 : decode cX2_take 15 = .ok (.getfield 35, 3) := by decide +kernel
theorem dX2_take_18 : decode cX2_take 18 = .ok (.iload_n 1, 1) := by decide +kernel
theorem dX2_take_19 : decode cX2_take 19 = .ok (.aload_n 2, 1) := by decide +kernel
theorem dX2_take_20 : decode cX2_take 20 = .ok (.getfield 46, 3) := by decide +kernel
theorem dX2_take_23 : decode cX2_take 23 = .ok (.iastore, 1) := by decide +kernel
theorem dX2_take_24 : decode cX2_take 24 = .ok (.aload_n 0, 1) := by decide +kernel
theorem dX2_take_25 : decode cX2_take 25 = .ok (.getfield 38, 3) := by decide +kernel
theorem dX2_take_28 : decode cX2_take 28 = .ok (.iload_n 1, 1) := by decide +kernel
theorem dX2_take_29 : decode cX2_take 29 = .ok (.aload_n 2, 1) := by decide +kernel
theorem dX2_take_30 : decode cX2_take 30 = .ok (.getfield 49, 3) := by decide +kernel
theorem dX2_take_33 : decode cX2_take 33 = .ok (.iastore, 1) := by decide +kernel
theorem dX2_take_34 : decode cX2_take 34 = .ok (.return_, 1) := by decide +kernel
theorem iwX2 : ∀ w ∈ u_ws RX2 TX2 9, w ∈ GT := in_tb [106, 108, 110, 112, 114, 116, 118, 120, 122] (by decide +kernel) (by decide +kernel)
theorem gX2_32 {p : Program} {l : Launch} {e : Env} {R : Room} {s : State} {m : MethodId} {args : Array Value} {below : List Frame} {meth : Method} {c : Code} {H : Heap} {locs : List Loc} {cells slots : Nat} {Q : State → Prop} {cc : ByteArray} {pc nL : Nat} {ls : Array Slot} {rest : List Value} {ret : Option FieldType} {G : xG} {β : Nat} {D : Nat → Prop} {x : XS} (C : Cx p s m args meth c RX2 cc nL ret (KK G)) (hw : CW β D G x H) (hd : decode cc pc = .ok (.getfield 32, 3)) (kk : W p l e R s m args below meth c H locs cells slots Q (F0 m (pc + 3) ls (.ref (β + 13) :: rest))) : W p l e R s m args below meth c H locs cells slots Q (F0 m pc ls (.ref (β + 11) :: rest)) :=
  va_get C.1 C.2.1 C.2.2.2.2.1 iwX2 C.2.2.2.1 C.K.1 (xP1 (hw.2.2.1 11 (by decide))) 0 rfl rfl 6 (by decide) (C.2.2.2.2.1 (.fieldLink RX2 32 RX2 "strengths" "[I") (tg 103 (by decide +kernel) rfl)) (fun _ h9 => h9) rfl hd kk
theorem gdX2_41 {p : Program} {l : Launch} {e : Env} {R : Room} {s : State} {m : MethodId} {args : Array Value} {below : List Frame} {meth : Method} {c : Code} {H : Heap} {locs : List Loc} {cells slots : Nat} {Q : State → Prop} {cc : ByteArray} {pc nL : Nat} {ls : Array Slot} {rest : List Value} {ret : Option FieldType}  {G : xG} {β : Nat} {D : Nat → Prop} {x : XS} {a : Nat} {v : Int32} (C : Cx p s m args meth c RX2 cc nL ret (KK G)) (h : dI x a 1 3 = some v) (hw : CW β D G x H) (hd : decode cc pc = .ok (.getfield 41, 3)) (kk : W p l e R s m args below meth c H locs cells slots Q (F0 m (pc + 3) ls (.int v :: rest))) : W p l e R s m args below meth c H locs cells slots Q (F0 m pc ls (.ref a :: rest)) := by
  obtain ⟨fs, h1, h2⟩ := dI_e h
  exact va_getN (ci := 1) (fs := fs) C.1 C.2.1 C.2.2.2.2.1 iwX1 C.2.2.2.1 C.K.1 (xP1 (hw.2.2.2.1 a _ h1).2.2.2) 0 rfl rfl 3 (by decide) (va_Nw.use (w := .fieldLinkNest RX2 41 RX1 "strength" "I" "AtThePost") rfl (C.K.2.1 (RX2, 41, RX1, "strength", "I") (List.mem_of_getElem? (i := 16) rfl))) (fun _ h9 => h9) h2 hd kk
theorem asX_13 {p : Program} {l : Launch} {e : Env} {R : Room} {s : State} {m : MethodId} {args : Array Value} {below : List Frame} {meth : Method} {c : Code} {H : Heap} {locs : List Loc} {cells slots : Nat} {Q : State → Prop} {cc : ByteArray} {pc nL : Nat} {ls : Array Slot} {rest : List Value} {ret : Option FieldType} {G : xG} {β : Nat} {D : Nat → Prop} {x : XS} {own : String} {i : Int32} {v : Int32} (C : Cx p s m args meth c own cc nL ret (KK G)) (hw : CW β D G x H) (hS : va_S D s.heap H locs) (hin : ib i 10) (hd : decode cc pc = .ok (.iastore, 1)) (kk : ∀ (H1 : Heap) (locs1 : List Loc), CW β D G (xsA x 13 i.toNatClampNeg v) H1 → va_S D s.heap H1 locs1 → W p l e R s m args below meth c H1 locs1 cells slots Q (F0 m (pc + 1) ls (rest))) : W p l e R s m args below meth c H locs cells slots Q (F0 m pc ls (.int v :: .int i :: .ref (β + 13) :: rest)) :=
  x_iast C.1 C.2.1 C.K.1 hS 0 (hw.2.2.1 13 (by decide)) (hw.2.1 13 (by decide)) rfl hin hd (fun H1 locs1 hat ho hS => kk H1 locs1 (hw.setA 13 _ _ hat ho) hS)
theorem gX2_35 {p : Program} {l : Launch} {e : Env} {R : Room} {s : State} {m : MethodId} {args : Array Value} {below : List Frame} {meth : Method} {c : Code} {H : Heap} {locs : List Loc} {cells slots : Nat} {Q : State → Prop} {cc : ByteArray} {pc nL : Nat} {ls : Array Slot} {rest : List Value} {ret : Option FieldType} {G : xG} {β : Nat} {D : Nat → Prop} {x : XS} (C : Cx p s m args meth c RX2 cc nL ret (KK G)) (hw : CW β D G x H) (hd : decode cc pc = .ok (.getfield 35, 3)) (kk : W p l e R s m args below meth c H locs cells slots Q (F0 m (pc + 3) ls (.ref (β + 14) :: rest))) : W p l e R s m args below meth c H locs cells slots Q (F0 m pc ls (.ref (β + 11) :: rest)) :=
  va_get C.1 C.2.1 C.2.2.2.2.1 iwX2 C.2.2.2.1 C.K.1 (xP1 (hw.2.2.1 11 (by decide))) 0 rfl rfl 7 (by decide) (C.2.2.2.2.1 (.fieldLink RX2 35 RX2 "ages" "[I") (tg 104 (by decide +kernel) rfl)) (fun _ h9 => h9) rfl hd kk
theorem gdX2_46 {p : Program} {l : Launch} {e : Env} {R : Room} {s : State} {m : MethodId} {args : Array Value} {below : List Frame} {meth : Method} {c : Code} {H : Heap} {locs : List Loc} {cells slots : Nat} {Q : State → Prop} {cc : ByteArray} {pc nL : Nat} {ls : Array Slot} {rest : List Value} {ret : Option FieldType}  {G : xG} {β : Nat} {D : Nat → Prop} {x : XS} {a : Nat} {v : Int32} (C : Cx p s m args meth c RX2 cc nL ret (KK G)) (h : dI x a 1 4 = some v) (hw : CW β D G x H) (hd : decode cc pc = .ok (.getfield 46, 3)) (kk : W p l e R s m args below meth c H locs cells slots Q (F0 m (pc + 3) ls (.int v :: rest))) : W p l e R s m args below meth c H locs cells slots Q (F0 m pc ls (.ref a :: rest)) := by
  obtain ⟨fs, h1, h2⟩ := dI_e h
  exact va_getN (ci := 1) (fs := fs) C.1 C.2.1 C.2.2.2.2.1 iwX1 C.2.2.2.1 C.K.1 (xP1 (hw.2.2.2.1 a _ h1).2.2.2) 0 rfl rfl 4 (by decide) (va_Nw.use (w := .fieldLinkNest RX2 46 RX1 "age" "I" "AtThePost") rfl (C.K.2.1 (RX2, 46, RX1, "age", "I") (List.mem_of_getElem? (i := 18) rfl))) (fun _ h9 => h9) h2 hd kk
theorem asX_14 {p : Program} {l : Launch} {e : Env} {R : Room} {s : State} {m : MethodId} {args : Array Value} {below : List Frame} {meth : Method} {c : Code} {H : Heap} {locs : List Loc} {cells slots : Nat} {Q : State → Prop} {cc : ByteArray} {pc nL : Nat} {ls : Array Slot} {rest : List Value} {ret : Option FieldType} {G : xG} {β : Nat} {D : Nat → Prop} {x : XS} {own : String} {i : Int32} {v : Int32} (C : Cx p s m args meth c own cc nL ret (KK G)) (hw : CW β D G x H) (hS : va_S D s.heap H locs) (hin : ib i 10) (hd : decode cc pc = .ok (.iastore, 1)) (kk : ∀ (H1 : Heap) (locs1 : List Loc), CW β D G (xsA x 14 i.toNatClampNeg v) H1 → va_S D s.heap H1 locs1 → W p l e R s m args below meth c H1 locs1 cells slots Q (F0 m (pc + 1) ls (rest))) : W p l e R s m args below meth c H locs cells slots Q (F0 m pc ls (.int v :: .int i :: .ref (β + 14) :: rest)) :=
  x_iast C.1 C.2.1 C.K.1 hS 0 (hw.2.2.1 14 (by decide)) (hw.2.1 14 (by decide)) rfl hin hd (fun H1 locs1 hat ho hS => kk H1 locs1 (hw.setA 14 _ _ hat ho) hS)
theorem gX2_38 {p : Program} {l : Launch} {e : Env} {R : Room} {s : State} {m : MethodId} {args : Array Value} {below : List Frame} {meth : Method} {c : Code} {H : Heap} {locs : List Loc} {cells slots : Nat} {Q : State → Prop} {cc : ByteArray} {pc nL : Nat} {ls : Array Slot} {rest : List Value} {ret : Option FieldType} {G : xG} {β : Nat} {D : Nat → Prop} {x : XS} (C : Cx p s m args meth c RX2 cc nL ret (KK G)) (hw : CW β D G x H) (hd : decode cc pc = .ok (.getfield 38, 3)) (kk : W p l e R s m args below meth c H locs cells slots Q (F0 m (pc + 3) ls (.ref (β + 15) :: rest))) : W p l e R s m args below meth c H locs cells slots Q (F0 m pc ls (.ref (β + 11) :: rest)) :=
  va_get C.1 C.2.1 C.2.2.2.2.1 iwX2 C.2.2.2.1 C.K.1 (xP1 (hw.2.2.1 11 (by decide))) 0 rfl rfl 8 (by decide) (C.2.2.2.2.1 (.fieldLink RX2 38 RX2 "leads" "[I") (tg 105 (by decide +kernel) rfl)) (fun _ h9 => h9) rfl hd kk
theorem gdX2_49 {p : Program} {l : Launch} {e : Env} {R : Room} {s : State} {m : MethodId} {args : Array Value} {below : List Frame} {meth : Method} {c : Code} {H : Heap} {locs : List Loc} {cells slots : Nat} {Q : State → Prop} {cc : ByteArray} {pc nL : Nat} {ls : Array Slot} {rest : List Value} {ret : Option FieldType}  {G : xG} {β : Nat} {D : Nat → Prop} {x : XS} {a : Nat} {v : Int32} (C : Cx p s m args meth c RX2 cc nL ret (KK G)) (h : dI x a 1 5 = some v) (hw : CW β D G x H) (hd : decode cc pc = .ok (.getfield 49, 3)) (kk : W p l e R s m args below meth c H locs cells slots Q (F0 m (pc + 3) ls (.int v :: rest))) : W p l e R s m args below meth c H locs cells slots Q (F0 m pc ls (.ref a :: rest)) := by
  obtain ⟨fs, h1, h2⟩ := dI_e h
  exact va_getN (ci := 1) (fs := fs) C.1 C.2.1 C.2.2.2.2.1 iwX1 C.2.2.2.1 C.K.1 (xP1 (hw.2.2.2.1 a _ h1).2.2.2) 0 rfl rfl 5 (by decide) (va_Nw.use (w := .fieldLinkNest RX2 49 RX1 "lead" "I" "AtThePost") rfl (C.K.2.1 (RX2, 49, RX1, "lead", "I") (List.mem_of_getElem? (i := 20) rfl))) (fun _ h9 => h9) h2 hd kk
theorem asX_15 {p : Program} {l : Launch} {e : Env} {R : Room} {s : State} {m : MethodId} {args : Array Value} {below : List Frame} {meth : Method} {c : Code} {H : Heap} {locs : List Loc} {cells slots : Nat} {Q : State → Prop} {cc : ByteArray} {pc nL : Nat} {ls : Array Slot} {rest : List Value} {ret : Option FieldType} {G : xG} {β : Nat} {D : Nat → Prop} {x : XS} {own : String} {i : Int32} {v : Int32} (C : Cx p s m args meth c own cc nL ret (KK G)) (hw : CW β D G x H) (hS : va_S D s.heap H locs) (hin : ib i 10) (hd : decode cc pc = .ok (.iastore, 1)) (kk : ∀ (H1 : Heap) (locs1 : List Loc), CW β D G (xsA x 15 i.toNatClampNeg v) H1 → va_S D s.heap H1 locs1 → W p l e R s m args below meth c H1 locs1 cells slots Q (F0 m (pc + 1) ls (rest))) : W p l e R s m args below meth c H locs cells slots Q (F0 m pc ls (.int v :: .int i :: .ref (β + 15) :: rest)) :=
  x_iast C.1 C.2.1 C.K.1 hS 0 (hw.2.2.1 15 (by decide)) (hw.2.1 15 (by decide)) rfl hin hd (fun H1 locs1 hat ho hS => kk H1 locs1 (hw.setA 15 _ _ hat ho) hS)
def fX2_take (x : XS) (a1 : Int32) (a2 : Option Nat) : Option (XS) := oc a2 (some x) (fun p1 => Option.bind (dI x p1 1 3) fun v2 => if ib a1 10 then lt (xsA x 13 a1.toNatClampNeg v2) fun x5 => Option.bind (dI x5 p1 1 4) fun v6 => if ib a1 10 then lt (xsA x5 14 a1.toNatClampNeg v6) fun x9 => Option.bind (dI x9 p1 1 5) fun v10 => if ib a1 10 then lt (xsA x9 15 a1.toNatClampNeg v10) fun x13 => some x13 else none else none else none)
abbrev rmX2_take : Room := { frames := 0, cells := 0, slots := 0, locals := 0 }
set_option maxHeartbeats 4000000 in
set_option maxRecDepth 100000 in
theorem kX2_take {l : Launch} {G : xG} {β : Nat} {D : Nat → Prop} {x x' : XS} {a1 : Int32} {a2 : Option Nat} (hm : fX2_take x a1 a2 = some x') : Met l yX2_take (.code yX2_take cX2_take 3 none :: GT) rmX2_take (PcW [.ref (β + 11), .int a1, va_rf a2] (CW β D G x) (KK G)) (QcW D none (CW β D G x')) 0 0 D := by
  unfold fX2_take at hm
  refine xpro (own := RX2) (by decide +kernel) rfl (by cases a2 <;> exact Nat.le_of_ble_eq_true rfl) ?_
  intro p e s m args below meth c C hw ls hl
  have hx := C.1
  have hb := C.2.1
  have ho := C.2.2.2.1
  have hts := C.2.2.2.2.1
  have hf : Fz D G s.heap := hw.2.2.2.2
  have hS : va_S D s.heap s.heap [] := va_S.rf
  have hl : lv_has ls 3 [(0, .ref (β + 11)), (1, .int a1), (2, va_rf a2)] := by cases a2 <;> exact hl
  have hRf : 0 ≤ rmX2_take.frames := Nat.le_refl _
  have hRl : 0 ≤ rmX2_take.locals := Nat.le_refl _
  have hcs : 0 ≤ rmX2_take.cells ∧ 0 ≤ rmX2_take.slots := ⟨Nat.le_refl _, Nat.le_refl _⟩
  refine x_aload_nq hx hb dX2_take_0 rfl (lv_at hl 2 rfl) ?_
  rcases a2 with _ | p1
  · replace hm := oc_n hm
    refine lv_ifnullN (tgt := 34) hx hb dX2_take_1 (by decide) ?_
    obtain rfl := Option.some.inj hm
    exact xret_v C hw hS dX2_take_34
  · replace hm := oc_s hm
    refine lv_ifnull hx hb dX2_take_1 ?_
    refine lv_aload_n hx hb dX2_take_4 rfl (lv_at hl 0 rfl) ?_
    refine gX2_32 C hw dX2_take_5 ?_
    refine lv_iload_n hx hb dX2_take_8 rfl (lv_at hl 1 rfl) ?_
    refine lv_aload_n hx hb dX2_take_9 rfl (lv_at hl 2 rfl) ?_
    obtain ⟨v2, h3, hm⟩ := bind_e hm
    refine gdX2_41 C h3 hw dX2_take_10 ?_
    obtain ⟨h4, hm⟩ := chk_e hm
    refine asX_13 C hw hS h4 dX2_take_13 (fun H locs hw hS => ?_)
    obtain ⟨x5, ev, hm⟩ := lt_e hm
    rw [← ev] at hw
    clear ev
    refine lv_aload_n hx hb dX2_take_14 rfl (lv_at hl 0 rfl) ?_
    refine gX2_35 C hw dX2_take_15 ?_
    refine lv_iload_n hx hb dX2_take_18 rfl (lv_at hl 1 rfl) ?_
    refine lv_aload_n hx hb dX2_take_19 rfl (lv_at hl 2 rfl) ?_
    obtain ⟨v6, h7, hm⟩ := bind_e hm
    refine gdX2_46 C h7 hw dX2_take_20 ?_
    obtain ⟨h8, hm⟩ := chk_e hm
    refine asX_14 C hw hS h8 dX2_take_23 (fun H locs hw hS => ?_)
    obtain ⟨x9, ev, hm⟩ := lt_e hm
    rw [← ev] at hw
    clear ev
    refine lv_aload_n hx hb dX2_take_24 rfl (lv_at hl 0 rfl) ?_
    refine gX2_38 C hw dX2_take_25 ?_
    refine lv_iload_n hx hb dX2_take_28 rfl (lv_at hl 1 rfl) ?_
    refine lv_aload_n hx hb dX2_take_29 rfl (lv_at hl 2 rfl) ?_
    obtain ⟨v10, h11, hm⟩ := bind_e hm
    refine gdX2_49 C h11 hw dX2_take_30 ?_
    obtain ⟨h12, hm⟩ := chk_e hm
    refine asX_15 C hw hS h12 dX2_take_33 (fun H locs hw hS => ?_)
    obtain ⟨x13, ev, hm⟩ := lt_e hm
    rw [← ev] at hw
    clear ev
    obtain rfl := Option.some.inj hm
    exact xret_v C hw hS dX2_take_34
