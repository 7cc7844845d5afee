theorem dX8_isField_0 : decode cX8_isField 0 = .ok (.iload_n 1, 1) := by decide +kernel
theorem dX8_isField_1 : decode cX8_isField 1 = .ok (.iconst 1, 1) := by decide +kernel
theorem dX8_isField_2 : decode cX8_isField 2 = .ok (.iconst 1, 1) := by decide +kernel
theorem dX8_isField_3 : decode cX8_isField 3 = .ok (.aload_n 0, 1) := by decide +kernel
theorem dX8_isField_4 : decode cX8_isField 4 = .ok (.getfield 15, 3) := by decide +kernel
theorem dX8_isField_7 : decode cX8_isField 7 = .ok (.ishl, 1) := by decide +kernel
theorem dX8_isField_8 : decode cX8_isField 8 = .ok (.iconst 1, 1) := by decide +kernel
theorem dX8_isField_9 : decode cX8_isField 9 = .ok (.isub, 1) := by decide +kernel
theorem dX8_isField_10 : decode cX8_isField 10 = .ok (.invokestatic 138, 3) := by decide +kernel
theorem dX8_isField_13 : decode cX8_isField 13 = .ok (.ifCond .eq 15, 3) := by decide +kernel
theorem dX8_isField_16 : decode cX8_isField 16 = .ok (.iload_n 1, 1) := by decide +kernel
theorem dX8_isField_17 : decode cX8_isField 17 = .ok (.invokestatic 241, 3) := by decide +kernel
theorem dX8_isField_20 : decode cX8_isField 20 = .ok (.iconst 5, 1) := by decide +kernel
theorem dX8_isField_21 : decode cX8_isField 21 = .ok (.if_icmp .gt 7, 3) := by decide +kernel
theorem dX8_isField_24 : decode cX8_isField 24 = .ok (.iconst 1, 1) := by decide +kernel
theorem dX8_isField_25 : decode cX8_isField 25 = .ok (.goto 4, 3) := by decide +kernel
theorem dX8_isField_28 : decode cX8_isField 28 = .ok (.iconst 0, 1) := by decide +kernel
theorem dX8_isField_29 : decode cX8_isField 29 = .ok (.ireturn, 1) := by decide +kernel
theorem sX8_241 {p : Program} {l : Launch} {e : Env} {R : Room} {s : State} {m : MethodId} {args : Array Value} {below : List Frame} {meth : Method} {c : Code} {H : Heap} {locs : List Loc} {cells slots : Nat} {Q : State → Prop} {cc : ByteArray} {pc nL : Nat} {ls : Array Slot} {rest : List Value} {ret : Option FieldType}  {G : xG} {β : Nat} {D : Nat → Prop} {x : XS} {a1 : Int32} {r : Int32} (C : Cx p s m args meth c RX8 cc nL ret (KK G)) (h : fJ6_bitCount_0f7a4 a1 = some r) (hw : CW β D G x H) (hS : va_S D s.heap H locs) (hsz : ls.size = nL) (hW : (rest.map fun v => v.category).sum ≤ 8) (hR : 1 ≤ R.frames) (hR2 : 20 ≤ R.locals) (hcs : cells ≤ R.cells ∧ slots ≤ R.slots) (hd : decode cc pc = .ok (.invokestatic 241, 3)) (kk : ∀ (H1 : Heap) (locs1 : List Loc), CW β D G x H1 → va_S D s.heap H1 locs1 → W p l e R s m args below meth c H1 locs1 cells slots Q (F0 m (pc + 3) ls (.int r :: rest))) : W p l e R s m args below meth c H locs cells slots Q (F0 m pc ls (.int a1 :: rest)) := by
  exact xcallS C (As := [.int a1]) (rest := rest) (nA := 1) (kJ6_bitCount_0f7a4 h) (tg 559 (by decide +kernel) rfl) (tg 560 (by decide +kernel) rfl) (tg 16 (by decide +kernel) rfl) (tg 561 (by decide +kernel) rfl) ⟨by decide +kernel, by decide +kernel, by decide +kernel⟩ rfl rfl ⟨hR, hR2⟩ hw hS (fun _ q => q) rfl rfl hsz hW hd hcs (fun H1 locs1 hw hz hk hS => kk H1 locs1 hw hS)
def fX8_isField (x : XS) (a1 : Int32) : Option (Bool) := Option.bind (fX8_isWithin a1 1 (((1 : Int32) <<< ((x.1 0 1) &&& 31)) - 1)) fun v1 => if v1 = true then Option.bind (fJ6_bitCount_0f7a4 a1) fun v3 => if 5 < v3 then some false else some true else some false
abbrev rmX8_isField : Room := { frames := 1, cells := 0, slots := 0, locals := 22 }
set_option maxHeartbeats 4000000 in
set_option maxRecDepth 100000 in
theorem kX8_isField {l : Launch} {G : xG} {β : Nat} {D : Nat → Prop} {x : XS} {a1 : Int32} {r : Bool} (hm : fX8_isField x a1 = some r) : Met l yX8_isField (.code yX8_isField cX8_isField 2 (some .boolean) :: GT) rmX8_isField (PcW [.ref β, .int a1] (CW β D G x) (KK G)) (QcW D (some (.int (bI r))) (CW β D G x)) 0 0 D := by
  unfold fX8_isField at hm
  refine xpro (own := RX8) (by decide +kernel) rfl (Nat.le_of_ble_eq_true rfl) ?_
  intro p e s m args below meth c C hw ls hl
  have hx := C.1
  have hb := C.2.1
  have ho := C.2.2.2.1
  have hts := C.2.2.2.2.1
  have hf : Fz D G s.heap := hw.2.2.2.2
  have hS : va_S D s.heap s.heap [] := va_S.rf
  have hl : lv_has ls 2 [(0, .ref β), (1, .int a1)] := hl
  have hRf : 1 ≤ rmX8_isField.frames := Nat.le_refl _
  have hRl : 22 ≤ rmX8_isField.locals := Nat.le_refl _
  have hcs : 0 ≤ rmX8_isField.cells ∧ 0 ≤ rmX8_isField.slots := ⟨Nat.le_refl _, Nat.le_refl _⟩
  refine lv_iload_n hx hb dX8_isField_0 rfl (lv_at hl 1 rfl) ?_
  refine lv_iconst (v := 1) hx hb dX8_isField_1 (by decide) ?_
  refine lv_iconst (v := 1) hx hb dX8_isField_2 (by decide) ?_
  refine lv_aload_n hx hb dX8_isField_3 rfl (lv_at hl 0 rfl) ?_
  refine gX8_15 C hw dX8_isField_4 ?_
  refine lv_ishl hx hb dX8_isField_7 ?_
  refine lv_iconst (v := 1) hx hb dX8_isField_8 (by decide) ?_
  refine lv_isub hx hb dX8_isField_9 ?_
  obtain ⟨v1, h2, hm⟩ := bind_e hm
  refine sX8_138 C h2 hw hS hl.1 (Nat.le_of_ble_eq_true rfl) (Nat.le_trans (Nat.le_of_ble_eq_true rfl) hRf) (Nat.le_trans (Nat.le_of_ble_eq_true rfl) hRl) hcs dX8_isField_10 (fun H locs hw hS => ?_)
  refine x_ifeqB hx hb dX8_isField_13 (tgt := 28) (by decide) (fun cc => ?_) (fun cc => ?_)
  · replace hm := ite_n cc hm
    refine lv_iconst (v := 0) hx hb dX8_isField_28 (by decide) ?_
    obtain rfl := Option.some.inj hm
    exact xret_z (v := bI false) C (bI_nar _) hw hS dX8_isField_29
  · replace hm := ite_p cc hm
    refine lv_iload_n hx hb dX8_isField_16 rfl (lv_at hl 1 rfl) ?_
    obtain ⟨v3, h4, hm⟩ := bind_e hm
    refine sX8_241 C h4 hw hS hl.1 (Nat.le_of_ble_eq_true rfl) (Nat.le_trans (Nat.le_of_ble_eq_true rfl) hRf) (Nat.le_trans (Nat.le_of_ble_eq_true rfl) hRl) hcs dX8_isField_17 (fun H locs hw hS => ?_)
    refine lv_iconst (v := 5) hx hb dX8_isField_20 (by decide) ?_
    refine lv_icmp_gt (tgt := 28) hx hb dX8_isField_21 (by decide) (fun cc => ?_) (fun cc => ?_)
    · replace hm := ite_p cc hm
      refine lv_iconst (v := 0) hx hb dX8_isField_28 (by decide) ?_
      obtain rfl := Option.some.inj hm
      exact xret_z (v := bI false) C (bI_nar _) hw hS dX8_isField_29
    · replace hm := ite_n cc hm
      refine lv_iconst (v := 1) hx hb dX8_isField_24 (by decide) ?_
      refine lv_goto (tgt := 29) hx hb dX8_isField_25 (by decide) ?_
      obtain rfl := Option.some.inj hm
      exact xret_z (v := bI true) C (bI_nar _) hw hS dX8_isField_29
theorem dX8_isIn_0 : decode cX8_isIn 0 = .ok (.aload_n 0, 1) := by decide +kernel
theorem dX8_isIn_1 : decode cX8_isIn 1 = .ok (.iload_n 2, 1) := by decide +kernel
theorem dX8_isIn_2 : decode cX8_isIn 2 = .ok (.invokevirtual 154, 3) := by decide +kernel
theorem dX8_isIn_5 : decode cX8_isIn 5 = .ok (.ifCond .eq 16, 3) := by decide +kernel
theorem dX8_isIn_8 : decode cX8_isIn 8 = .ok (.iload_n 1, 1) := by decide +kernel
theorem dX8_isIn_9 : decode cX8_isIn 9 = .ok (.iload_n 2, 1) := by decide +kernel
theorem dX8_isIn_10 : decode cX8_isIn 10 = .ok (.ishr, 1) := by decide +kernel
theorem dX8_isIn_11 : decode cX8_isIn 11 = .ok (.iconst 1, 1) := by decide +kernel
theorem dX8_isIn_12 : decode cX8_isIn 12 = .ok (.iand, 1) := by decide +kernel
theorem dX8_isIn_13 : decode cX8_isIn 13 = .ok (.iconst 1, 1) := by decide +kernel
theorem dX8_isIn_14 : decode cX8_isIn 14 = .ok (.if_icmp .ne 7, 3) := by decide +kernel
theorem dX8_isIn_17 : decode cX8_isIn 17 = .ok (.iconst 1, 1) := by decide +kernel
theorem dX8_isIn_18 : decode cX8_isIn 18 = .ok (.goto 4, 3) := by decide +kernel
theorem dX8_isIn_21 : decode cX8_isIn 21 = .ok (.iconst 0, 1) := by decide +kernel
theorem dX8_isIn_22 : decode cX8_isIn 22 = .ok (.ireturn, 1) := by decide +kernel
def fX8_isIn (x : XS) (a1 : Int32) (a2 : Int32) : Option (Bool) := Option.bind (fX8_isHorse x a2) fun v1 => if v1 = true then if ((a1 >>> (a2 &&& 31)) &&& 1) = 1 then some true else some false else some false
abbrev rmX8_isIn : Room := { frames := 2, cells := 0, slots := 0, locals := 43 }
set_option maxHeartbeats 4000000 in
set_option maxRecDepth 100000 in
theorem kX8_isIn {l : Launch} {G : xG} {β : Nat} {D : Nat → Prop} {x : XS} {a1 : Int32} {a2 : Int32} {r : Bool} (hm : fX8_isIn x a1 a2 = some r) : Met l yX8_isIn (.code yX8_isIn cX8_isIn 3 (some .boolean) :: GT) rmX8_isIn (PcW [.ref β, .int a1, .int a2] (CW β D G x) (KK G)) (QcW D (some (.int (bI r))) (CW β D G x)) 0 0 D := by
  unfold fX8_isIn at hm
  refine xpro (own := RX8) (by decide +kernel) rfl (Nat.le_of_ble_eq_true rfl) ?_
  intro p e s m args below meth c C hw ls hl
  have hx := C.1
  have hb := C.2.1
  have ho := C.2.2.2.1
  have hts := C.2.2.2.2.1
  have hf : Fz D G s.heap := hw.2.2.2.2
  have hS : va_S D s.heap s.heap [] := va_S.rf
  have hl : lv_has ls 3 [(0, .ref β), (1, .int a1), (2, .int a2)] := hl
  have hRf : 2 ≤ rmX8_isIn.frames := Nat.le_refl _
  have hRl : 43 ≤ rmX8_isIn.locals := Nat.le_refl _
  have hcs : 0 ≤ rmX8_isIn.cells ∧ 0 ≤ rmX8_isIn.slots := ⟨Nat.le_refl _, Nat.le_refl _⟩
  refine lv_aload_n hx hb dX8_isIn_0 rfl (lv_at hl 0 rfl) ?_
  refine lv_iload_n hx hb dX8_isIn_1 rfl (lv_at hl 2 rfl) ?_
  obtain ⟨v1, h2, hm⟩ := bind_e hm
  refine sX8_154 C h2 hw hS hl.1 (Nat.le_of_ble_eq_true rfl) (Nat.le_trans (Nat.le_of_ble_eq_true rfl) hRf) (Nat.le_trans (Nat.le_of_ble_eq_true rfl) hRl) hcs dX8_isIn_2 (fun H locs hw hS => ?_)
  refine x_ifeqB hx hb dX8_isIn_5 (tgt := 21) (by decide) (fun cc => ?_) (fun cc => ?_)
  · replace hm := ite_n cc hm
    refine lv_iconst (v := 0) hx hb dX8_isIn_21 (by decide) ?_
    obtain rfl := Option.some.inj hm
    exact xret_z (v := bI false) C (bI_nar _) hw hS dX8_isIn_22
  · replace hm := ite_p cc hm
    refine lv_iload_n hx hb dX8_isIn_8 rfl (lv_at hl 1 rfl) ?_
    refine lv_iload_n hx hb dX8_isIn_9 rfl (lv_at hl 2 rfl) ?_
    refine lv_ishr hx hb dX8_isIn_10 ?_
    refine lv_iconst (v := 1) hx hb dX8_isIn_11 (by decide) ?_
    refine lv_iand hx hb dX8_isIn_12 ?_
    refine lv_iconst (v := 1) hx hb dX8_isIn_13 (by decide) ?_
    refine lv_icmp_ne (tgt := 21) hx hb dX8_isIn_14 (by decide) (fun cc => ?_) (fun cc => ?_)
    · replace hm := ite_n cc hm
      refine lv_iconst (v := 0) hx hb dX8_isIn_21 (by decide) ?_
      obtain rfl := Option.some.inj hm
      exact xret_z (v := bI false) C (bI_nar _) hw hS dX8_isIn_22
    · replace hm := ite_p cc hm
      refine lv_iconst (v := 1) hx hb dX8_isIn_17 (by decide) ?_
      refine lv_goto (tgt := 22) hx hb dX8_isIn_18 (by decide) ?_
      obtain rfl := Option.some.inj hm
      exact xret_z (v := bI true) C (bI_nar _) hw hS dX8_isIn_22
theorem dX8_isPart_0 : decode cX8_isPart 0 = .ok (.iload_n 0, 1) := by decide +kernel
theorem dX8_isPart_1 : decode cX8_isPart 1 = .ok (.iconst 0, 1) := by decide +kernel
theorem dX8_isPart_2 : decode cX8_isPart 2 = .ok (.iconst 1, 1) := by decide +kernel
theorem dX8_isPart_3 : decode cX8_isPart 3 = .ok (.invokestatic 138, 3) := by decide +kernel
theorem dX8_isPart_6 : decode cX8_isPart 6 = .ok (.ireturn, 1) := by decide +kernel
def fX8_isPart (a1 : Int32) : Option (Bool) := Option.bind (fX8_isWithin a1 0 1) fun v1 => some v1
abbrev rmX8_isPart : Room := { frames := 1, cells := 0, slots := 0, locals := 22 }
set_option maxHeartbeats 4000000 in
set_option maxRecDepth 100000 in
theorem kX8_isPart {l : Launch} {G : xG} {β : Nat} {D : Nat → Prop} {x : XS} {a1 : Int32} {r : Bool} (hm : fX8_isPart a1 = some r) : Met l yX8_isPart (.code yX8_isPart cX8_isPart 1 (some .boolean) :: GT) rmX8_isPart (PcW [.int a1] (CW β D G x) (KK G)) (QcW D (some (.int (bI r))) (CW β D G x)) 0 0 D := by
  unfold fX8_isPart at hm
  refine xpro (own := RX8) (by decide +kernel) rfl (Nat.le_of_ble_eq_true rfl) ?_
  intro p e s m args below meth c C hw ls hl
  have hx := C.1
  have hb := C.2.1
  have ho := C.2.2.2.1
  have hts := C.2.2.2.2.1
  have hf : Fz D G s.heap := hw.2.2.2.2
  have hS : va_S D s.heap s.heap [] := va_S.rf
  have hl : lv_has ls 1 [(0, .int a1)] := hl
  have hRf : 1 ≤ rmX8_isPart.frames := Nat.le_refl _
  have hRl : 22 ≤ rmX8_isPart.locals := Nat.le_refl _
  have hcs : 0 ≤ rmX8_isPart.cells ∧ 0 ≤ rmX8_isPart.slots := ⟨Nat.le_refl _, Nat.le_refl _⟩
  refine lv_iload_n hx hb dX8_isPart_0 rfl (lv_at hl 0 rfl) ?_
  refine lv_iconst (v := 0) hx hb dX8_isPart_1 (by decide) ?_
  refine lv_iconst (v := 1) hx hb dX8_isPart_2 (by decide) ?_
  obtain ⟨v1, h2, hm⟩ := bind_e hm
  refine sX8_138 C h2 hw hS hl.1 (Nat.le_of_ble_eq_true rfl) (Nat.le_trans (Nat.le_of_ble_eq_true rfl) hRf) (Nat.le_trans (Nat.le_of_ble_eq_true rfl) hRl) hcs dX8_isPart_3 (fun H locs hw hS => ?_)
  obtain rfl := Option.some.inj hm
  exact xret_z C (bI_nar _) hw hS dX8_isPart_6
theorem dX8_isWhen_0 : decode cX8_isWhen 0 = .ok (.iload_n 0, 1) := by decide +kernel
theorem dX8_isWhen_1 : decode cX8_isWhen 1 = .ok (.iconst 0, 1) := by decide +kernel
theorem dX8_isWhen_2 : decode cX8_isWhen 2 = .ok (.sipush 399, 3) := by decide +kernel
theorem dX8_isWhen_5 : decode cX8_isWhen 5 = .ok (.invokestatic 138, 3) := by decide +kernel
theorem dX8_isWhen_8 : decode cX8_isWhen 8 = .ok (.ireturn, 1) := by decide +kernel
def fX8_isWhen (a1 : Int32) : Option (Bool) := Option.bind (fX8_isWithin a1 0 399) fun v1 => some v1
abbrev rmX8_isWhen : Room := { frames := 1, cells := 0, slots := 0, locals := 22 }
set_option maxHeartbeats 4000000 in
set_option maxRecDepth 100000 in
theorem kX8_isWhen {l : Launch} {G : xG} {β : Nat} {D : Nat → Prop} {x : XS} {a1 : Int32} {r : Bool} (hm : fX8_isWhen a1 = some r) : Met l yX8_isWhen (.code yX8_isWhen cX8_isWhen 1 (some .boolean) :: GT) rmX8_isWhen (PcW [.int a1] (CW β D G x) (KK G)) (QcW D (some (.int (bI r))) (CW β D G x)) 0 0 D := by
  unfold fX8_isWhen at hm
  refine xpro (own := RX8) (by decide +kernel) rfl (Nat.le_of_ble_eq_true rfl) ?_
  intro p e s m args below meth c C hw ls hl
  have hx := C.1
  have hb := C.2.1
  have ho := C.2.2.2.1
  have hts := C.2.2.2.2.1
  have hf : Fz D G s.heap := hw.2.2.2.2
  have hS : va_S D s.heap s.heap [] := va_S.rf
  have hl : lv_has ls 1 [(0, .int a1)] := hl
  have hRf : 1 ≤ rmX8_isWhen.frames := Nat.le_refl _
  have hRl : 22 ≤ rmX8_isWhen.locals := Nat.le_refl _
  have hcs : 0 ≤ rmX8_isWhen.cells ∧ 0 ≤ rmX8_isWhen.slots := ⟨Nat.le_refl _, Nat.le_refl _⟩
  refine lv_iload_n hx hb dX8_isWhen_0 rfl (lv_at hl 0 rfl) ?_
  refine lv_iconst (v := 0) hx hb dX8_isWhen_1 (by decide) ?_
  refine lv_sipush (v := 399) hx hb dX8_isWhen_2 (by decide) ?_
  obtain ⟨v1, h2, hm⟩ := bind_e hm
  refine sX8_138 C h2 hw hS hl.1 (Nat.le_of_ble_eq_true rfl) (Nat.le_trans (Nat.le_of_ble_eq_true rfl) hRf) (Nat.le_trans (Nat.le_of_ble_eq_true rfl) hRl) hcs dX8_isWhen_5 (fun H locs hw hS => ?_)
  obtain rfl := Option.some.inj hm
  exact xret_z C (bI_nar _) hw hS dX8_isWhen_8
theorem dX8_wins_0 : decode cX8_wins 0 = .ok (.aload_n 0, 1) := by decide +kernel
theorem dX8_wins_1 : decode cX8_wins 1 = .ok (.iload_n 1, 1) := by decide +kernel
theorem dX8_wins_2 : decode cX8_wins 2 = .ok (.invokevirtual 187, 3) := by decide +kernel
theorem dX8_wins_5 : decode cX8_wins 5 = .ok (.ifCond .eq 27, 3) := by decide +kernel
theorem dX8_wins_8 : decode cX8_wins 8 = .ok (.iload_n 2, 1) := by decide +kernel
theorem dX8_wins_9 : decode cX8_wins 9 = .ok (.invokestatic 190, 3) := by decide +kernel
theorem dX8_wins_12 : decode cX8_wins 12 = .ok (.ifCond .eq 20, 3) := by decide +kernel
theorem dX8_wins_15 : decode cX8_wins 15 = .ok (.aload_n 0, 1) := by decide +kernel
theorem dX8_wins_16 : decode cX8_wins 16 = .ok (.iload_n 1, 1) := by decide +kernel
theorem dX8_wins_17 : decode cX8_wins 17 = .ok (.iload_n 3, 1) := by decide +kernel
theorem dX8_wins_18 : decode cX8_wins 18 = .ok (.invokevirtual 193, 3) := by decide +kernel
theorem dX8_wins_21 : decode cX8_wins 21 = .ok (.ifCond .eq 11, 3) := by decide +kernel
theorem dX8_wins_24 : decode cX8_wins 24 = .ok (.iload 4, 2) := by decide +kernel
theorem dX8_wins_26 : decode cX8_wins 26 = .ok (.invokestatic 197, 3) := by decide +kernel
theorem dX8_wins_29 : decode cX8_wins 29 = .ok (.ifCond .ne 7, 3) := by decide +kernel
theorem dX8_wins_32 : decode cX8_wins 32 = .ok (.ldc2_w 157, 3) := by decide +kernel
theorem dX8_wins_35 : decode cX8_wins 35 = .ok (.lreturn, 1) := by decide +kernel
theorem dX8_wins_36 : decode cX8_wins 36 = .ok (.aload_n 0, 1) := by decide +kernel
theorem dX8_wins_37 : decode cX8_wins 37 = .ok (.iload_n 1, 1) := by decide +kernel
theorem dX8_wins_38 : decode cX8_wins 38 = .ok (.iload_n 2, 1) := by decide +kernel
theorem dX8_wins_39 : decode cX8_wins 39 = .ok (.invokevirtual 200, 3) := by decide +kernel
theorem dX8_wins_42 : decode cX8_wins 42 = .ok (.aload_n 0, 1) := by decide +kernel
theorem dX8_wins_43 : decode cX8_wins 43 = .ok (.getfield 79, 3) := by decide +kernel
theorem dX8_wins_46 : decode cX8_wins 46 = .ok (.iload_n 3, 1) := by decide +kernel
theorem dX8_wins_47 : decode cX8_wins 47 = .ok (.invokevirtual 204, 3) := by decide +kernel
theorem dX8_wins_50 : decode cX8_wins 50 = .ok (.bipush 60, 2) := by decide +kernel
theorem dX8_wins_52 : decode cX8_wins 52 = .ok (.aload_n 0, 1) := by decide +kernel
theorem dX8_wins_53 : decode cX8_wins 53 = .ok (.getfield 79, 3) := by decide +kernel
theorem dX8_wins_56 : decode cX8_wins 56 = .ok (.invokevirtual 207, 3) := by decide +kernel
theorem dX8_wins_59 : decode cX8_wins 59 = .ok (.imul, 1) := by decide +kernel
theorem dX8_wins_60 : decode cX8_wins 60 = .ok (.iload 4, 2) := by decide +kernel
theorem dX8_wins_62 : decode cX8_wins 62 = .ok (.invokestatic 210, 3) := by decide +kernel
theorem dX8_wins_65 : decode cX8_wins 65 = .ok (.lreturn, 1) := by decide +kernel
theorem sX8_187 {p : Program} {l : Launch} {e : Env} {R : Room} {s : State} {m : MethodId} {args : Array Value} {below : List Frame} {meth : Method} {c : Code} {H : Heap} {locs : List Loc} {cells slots : Nat} {Q : State → Prop} {cc : ByteArray} {pc nL : Nat} {ls : Array Slot} {rest : List Value} {ret : Option FieldType}  {G : xG} {β : Nat} {D : Nat → Prop} {x : XS} {a1 : Int32} {r : Bool} (C : Cx p s m args meth c RX8 cc nL ret (KK G)) (h : fX8_isField x a1 = some r) (hw : CW β D G x H) (hS : va_S D s.heap H locs) (hsz : ls.size = nL) (hW : (rest.map fun v => v.category).sum ≤ 8) (hR : 2 ≤ R.frames) (hR2 : 43 ≤ R.locals) (hcs : cells ≤ R.cells ∧ slots ≤ R.slots) (hd : decode cc pc = .ok (.invokevirtual 187, 3)) (kk : ∀ (H1 : Heap) (locs1 : List Loc), CW β D G x H1 → va_S D s.heap H1 locs1 → W p l e R s m args below meth c H1 locs1 cells slots Q (F0 m (pc + 3) ls (.int (bI r) :: rest))) : W p l e R s m args below meth c H locs cells slots Q (F0 m pc ls (.int a1 :: .ref β :: rest)) := by
  exact xcallV C (As := [.int a1]) (rest := rest) (nA := 1) (ci := 8) (kX8_isField h) (tg 555 (by decide +kernel) rfl) (tg 557 (by decide +kernel) rfl) (sg (List.mem_of_getElem? (i := 25) (by decide +kernel)) rfl) (tg 1 (by decide +kernel) rfl) (tg 558 (by decide +kernel) rfl) ⟨rfl, by decide +kernel, by decide +kernel, by decide +kernel⟩ rfl rfl rfl ⟨hR, hR2⟩ (hw.2.2.1 0 (by decide)) hw hS (fun _ q => q) rfl rfl hsz hW hd hcs (fun H1 locs1 hw hz hk hS => kk H1 locs1 hw hS)
theorem sX8_190 {p : Program} {l : Launch} {e : Env} {R : Room} {s : State} {m : MethodId} {args : Array Value} {below : List Frame} {meth : Method} {c : Code} {H : Heap} {locs : List Loc} {cells slots : Nat} {Q : State → Prop} {cc : ByteArray} {pc nL : Nat} {ls : Array Slot} {rest : List Value} {ret : Option FieldType}  {G : xG} {β : Nat} {D : Nat → Prop} {x : XS} {a1 : Int32} {r : Bool} (C : Cx p s m args meth c RX8 cc nL ret (KK G)) (h : fX8_isWhen a1 = some r) (hw : CW β D G x H) (hS : va_S D s.heap H locs) (hsz : ls.size = nL) (hW : (rest.map fun v => v.category).sum ≤ 8) (hR : 2 ≤ R.frames) (hR2 : 42 ≤ R.locals) (hcs : cells ≤ R.cells ∧ slots ≤ R.slots) (hd : decode cc pc = .ok (.invokestatic 190, 3)) (kk : ∀ (H1 : Heap) (locs1 : List Loc), CW β D G x H1 → va_S D s.heap H1 locs1 → W p l e R s m args below meth c H1 locs1 cells slots Q (F0 m (pc + 3) ls (.int (bI r) :: rest))) : W p l e R s m args below meth c H locs cells slots Q (F0 m pc ls (.int a1 :: rest)) := by
  exact xcallS C (As := [.int a1]) (rest := rest) (nA := 1) (kX8_isWhen h) (tg 565 (by decide +kernel) rfl) (tg 566 (by decide +kernel) rfl) (tg 1 (by decide +kernel) rfl) (tg 567 (by decide +kernel) rfl) ⟨by decide +kernel, by decide +kernel, by decide +kernel⟩ rfl rfl ⟨hR, hR2⟩ hw hS (fun _ q => q) rfl rfl hsz hW hd hcs (fun H1 locs1 hw hz hk hS => kk H1 locs1 hw hS)
theorem sX8_193 {p : Program} {l : Launch} {e : Env} {R : Room} {s : State} {m : MethodId} {args : Array Value} {below : List Frame} {meth : Method} {c : Code} {H : Heap} {locs : List Loc} {cells slots : Nat} {Q : State → Prop} {cc : ByteArray} {pc nL : Nat} {ls : Array Slot} {rest : List Value} {ret : Option FieldType}  {G : xG} {β : Nat} {D : Nat → Prop} {x : XS} {a1 : Int32} {a2 : Int32} {r : Bool} (C : Cx p s m args meth c RX8 cc nL ret (KK G)) (h : fX8_isIn x a1 a2 = some r) (hw : CW β D G x H) (hS : va_S D s.heap H locs) (hsz : ls.size = nL) (hW : (rest.map fun v => v.category).sum ≤ 8) (hR : 3 ≤ R.frames) (hR2 : 65 ≤ R.locals) (hcs : cells ≤ R.cells ∧ slots ≤ R.slots) (hd : decode cc pc = .ok (.invokevirtual 193, 3)) (kk : ∀ (H1 : Heap) (locs1 : List Loc), CW β D G x H1 → va_S D s.heap H1 locs1 → W p l e R s m args below meth c H1 locs1 cells slots Q (F0 m (pc + 3) ls (.int (bI r) :: rest))) : W p l e R s m args below meth c H locs cells slots Q (F0 m pc ls (.int a2 :: .int a1 :: .ref β :: rest)) := by
  exact xcallV C (As := [.int a1, .int a2]) (rest := rest) (nA := 2) (ci := 8) (kX8_isIn h) (tg 568 (by decide +kernel) rfl) (tg 570 (by decide +kernel) rfl) (sg (List.mem_of_getElem? (i := 26) (by decide +kernel)) rfl) (tg 1 (by decide +kernel) rfl) (tg 571 (by decide +kernel) rfl) ⟨rfl, by decide +kernel, by decide +kernel, by decide +kernel⟩ rfl rfl rfl ⟨hR, hR2⟩ (hw.2.2.1 0 (by decide)) hw hS (fun _ q => q) rfl rfl hsz hW hd hcs (fun H1 locs1 hw hz hk hS => kk H1 locs1 hw hS)
theorem sX8_197 {p : Program} {l : Launch} {e : Env} {R : Room} {s : State} {m : MethodId} {args : Array Value} {below : List Frame} {meth : Method} {c : Code} {H : Heap} {locs : List Loc} {cells slots : Nat} {Q : State → Prop} {cc : ByteArray} {pc nL : Nat} {ls : Array Slot} {rest : List Value} {ret : Option FieldType}  {G : xG} {β : Nat} {D : Nat → Prop} {x : XS} {a1 : Int32} {r : Bool} (C : Cx p s m args meth c RX8 cc nL ret (KK G)) (h : fX8_isPart a1 = some r) (hw : CW β D G x H) (hS : va_S D s.heap H locs) (hsz : ls.size = nL) (hW : (rest.map fun v => v.category).sum ≤ 8) (hR : 2 ≤ R.frames) (hR2 : 42 ≤ R.locals) (hcs : cells ≤ R.cells ∧ slots ≤ R.slots) (hd : decode cc pc = .ok (.invokestatic 197, 3)) (kk : ∀ (H1 : Heap) (locs1 : List Loc), CW β D G x H1 → va_S D s.heap H1 locs1 → W p l e R s m args below meth c H1 locs1 cells slots Q (F0 m (pc + 3) ls (.int (bI r) :: rest))) : W p l e R s m args below meth c H locs cells slots Q (F0 m pc ls (.int a1 :: rest)) := by
  exact xcallS C (As := [.int a1]) (rest := rest) (nA := 1) (kX8_isPart h) (tg 572 (by decide +kernel) rfl) (tg 573 (by decide +kernel) rfl) (tg 1 (by decide +kernel) rfl) (tg 574 (by decide +kernel) rfl) ⟨by decide +kernel, by decide +kernel, by decide +kernel⟩ rfl rfl ⟨hR, hR2⟩ hw hS (fun _ q => q) rfl rfl hsz hW hd hcs (fun H1 locs1 hw hz hk hS => kk H1 locs1 hw hS)
theorem sX8_200 {p : Program} {l : Launch} {e : Env} {R : Room} {s : State} {m : MethodId} {args : Array Value} {below : List Frame} {meth : Method} {c : Code} {H : Heap} {locs : List Loc} {cells slots : Nat} {Q : State → Prop} {cc : ByteArray} {pc nL : Nat} {ls : Array Slot} {rest : List Value} {ret : Option FieldType}  {G : xG} {β : Nat} {D : Nat → Prop} {x x' : XS} {a1 : Int32} {a2 : Int32} (C : Cx p s m args meth c RX8 cc nL ret (KK G)) (h : fX8_enter x a1 a2 = some x') (hw : CW β D G x H) (hS : va_S D s.heap H locs) (hsz : ls.size = nL) (hW : (rest.map fun v => v.category).sum ≤ 8) (hR : 6 ≤ R.frames) (hR2 : 135 ≤ R.locals) (hcs : cells ≤ R.cells ∧ slots ≤ R.slots) (hd : decode cc pc = .ok (.invokevirtual 200, 3)) (kk : ∀ (H1 : Heap) (locs1 : List Loc), CW β D G x' H1 → va_S D s.heap H1 locs1 → W p l e R s m args below meth c H1 locs1 cells slots Q (F0 m (pc + 3) ls (rest))) : W p l e R s m args below meth c H locs cells slots Q (F0 m pc ls (.int a2 :: .int a1 :: .ref β :: rest)) := by
  exact xcallV C (As := [.int a1, .int a2]) (rest := rest) (nA := 2) (ci := 8) (kX8_enter h) (tg 575 (by decide +kernel) rfl) (tg 577 (by decide +kernel) rfl) (sg (List.mem_of_getElem? (i := 27) (by decide +kernel)) rfl) (tg 1 (by decide +kernel) rfl) (tg 578 (by decide +kernel) rfl) ⟨rfl, by decide +kernel, by decide +kernel, by decide +kernel⟩ rfl rfl rfl ⟨hR, hR2⟩ (hw.2.2.1 0 (by decide)) hw hS (fun _ q => q) rfl rfl hsz hW hd hcs (fun H1 locs1 hw hz hk hS => kk H1 locs1 hw hS)
theorem sX8_204 {p : Program} {l : Launch} {e : Env} {R : Room} {s : State} {m : MethodId} {args : Array Value} {below : List Frame} {meth : Method} {c : Code} {H : Heap} {locs : List Loc} {cells slots : Nat} {Q : State → Prop} {cc : ByteArray} {pc nL : Nat} {ls : Array Slot} {rest : List Value} {ret : Option FieldType}  {G : xG} {β : Nat} {D : Nat → Prop} {x x' : XS} {a1 : Int32} {r : Int32} (C : Cx p s m args meth c RX8 cc nL ret (KK G)) (h : fX0_shareOf x a1 = some (r, x')) (hw : CW β D G x H) (hS : va_S D s.heap H locs) (hsz : ls.size = nL) (hW : (rest.map fun v => v.category).sum ≤ 8) (hR : 4 ≤ R.frames) (hR2 : 93 ≤ R.locals) (hcs : cells ≤ R.cells ∧ slots ≤ R.slots) (hd : decode cc pc = .ok (.invokevirtual 204, 3)) (kk : ∀ (H1 : Heap) (locs1 : List Loc), CW β D G x' H1 → va_S D s.heap H1 locs1 → W p l e R s m args below meth c H1 locs1 cells slots Q (F0 m (pc + 3) ls (.int r :: rest))) : W p l e R s m args below meth c H locs cells slots Q (F0 m pc ls (.int a1 :: .ref (β + 16) :: rest)) := by
  exact xcallV C (As := [.int a1]) (rest := rest) (nA := 1) (ci := 0) (kX0_shareOf h) (tg 599 (by decide +kernel) rfl) (tg 600 (by decide +kernel) rfl) (tg 601 (by decide +kernel) rfl) (tg 5 (by decide +kernel) rfl) (tg 602 (by decide +kernel) rfl) ⟨rfl, by decide +kernel, by decide +kernel, by decide +kernel⟩ rfl rfl rfl ⟨hR, hR2⟩ (hw.2.2.1 16 (by decide)) hw hS (fun _ q => q) rfl rfl hsz hW hd hcs (fun H1 locs1 hw hz hk hS => kk H1 locs1 hw hS)
theorem sX8_207 {p : Program} {l : Launch} {e : Env} {R : Room} {s : State} {m : MethodId} {args : Array Value} {below : List Frame} {meth : Method} {c : Code} {H : Heap} {locs : List Loc} {cells slots : Nat} {Q : State → Prop} {cc : ByteArray} {pc nL : Nat} {ls : Array Slot} {rest : List Value} {ret : Option FieldType}  {G : xG} {β : Nat} {D : Nat → Prop} {x : XS} {r : Int32} (C : Cx p s m args meth c RX8 cc nL ret (KK G)) (h : fX0_cases x = some r) (hw : CW β D G x H) (hS : va_S D s.heap H locs) (hsz : ls.size = nL) (hW : (rest.map fun v => v.category).sum ≤ 8) (hR : 2 ≤ R.frames) (hR2 : 43 ≤ R.locals) (hcs : cells ≤ R.cells ∧ slots ≤ R.slots) (hd : decode cc pc = .ok (.invokevirtual 207, 3)) (kk : ∀ (H1 : Heap) (locs1 : List Loc), CW β D G x H1 → va_S D s.heap H1 locs1 → W p l e R s m args below meth c H1 locs1 cells slots Q (F0 m (pc + 3) ls (.int r :: rest))) : W p l e R s m args below meth c H locs cells slots Q (F0 m pc ls (.ref (β + 16) :: rest)) := by
  exact xcallV C (As := []) (rest := rest) (nA := 0) (ci := 0) (kX0_cases h) (tg 624 (by decide +kernel) rfl) (tg 625 (by decide +kernel) rfl) (tg 626 (by decide +kernel) rfl) (tg 5 (by decide +kernel) rfl) (tg 627 (by decide +kernel) rfl) ⟨rfl, by decide +kernel, by decide +kernel, by decide +kernel⟩ rfl rfl rfl ⟨hR, hR2⟩ (hw.2.2.1 16 (by decide)) hw hS (fun _ q => q) rfl rfl hsz hW hd hcs (fun H1 locs1 hw hz hk hS => kk H1 locs1 hw hS)
theorem sX8_210 {p : Program} {l : Launch} {e : Env} {R : Room} {s : State} {m : MethodId} {args : Array Value} {below : List Frame} {meth : Method} {c : Code} {H : Heap} {locs : List Loc} {cells slots : Nat} {Q : State → Prop} {cc : ByteArray} {pc nL : Nat} {ls : Array Slot} {rest : List Value} {ret : Option FieldType}  {G : xG} {β : Nat} {D : Nat → Prop} {x : XS} {a1 : Int32} {a2 : Int32} {a3 : Int32} {r : Int64} (C : Cx p s m args meth c RX8 cc nL ret (KK G)) (h : fX8_inLowestTerms a1 a2 a3 = some r) (hw : CW β D G x H) (hS : va_S D s.heap H locs) (hsz : ls.size = nL) (hW : (rest.map fun v => v.category).sum ≤ 8) (hR : 2 ≤ R.frames) (hR2 : 48 ≤ R.locals) (hcs : cells ≤ R.cells ∧ slots ≤ R.slots) (hd : decode cc pc = .ok (.invokestatic 210, 3)) (kk : ∀ (H1 : Heap) (locs1 : List Loc), CW β D G x H1 → va_S D s.heap H1 locs1 → W p l e R s m args below meth c H1 locs1 cells slots Q (F0 m (pc + 3) ls (.long r :: rest))) : W p l e R s m args below meth c H locs cells slots Q (F0 m pc ls (.int a3 :: .int a2 :: .int a1 :: rest)) := by
  exact xcallS C (As := [.int a1, .int a2, .int a3]) (rest := rest) (nA := 3) (kX8_inLowestTerms h) (tg 628 (by decide +kernel) rfl) (tg 629 (by decide +kernel) rfl) (tg 1 (by decide +kernel) rfl) (tg 630 (by decide +kernel) rfl) ⟨by decide +kernel, by decide +kernel, by decide +kernel⟩ rfl rfl ⟨hR, hR2⟩ hw hS (fun _ q => q) rfl rfl hsz hW hd hcs (fun H1 locs1 hw hz hk hS => kk H1 locs1 hw hS)
def fX8_wins (x : XS) (a1 : Int32) (a2 : Int32) (a3 : Int32) (a4 : Int32) : Option (Int64 × XS) := Option.bind (fX8_isField x a1) fun v1 => if v1 = true then Option.bind (fX8_isWhen a2) fun v3 => if v3 = true then Option.bind (fX8_isIn x a1 a3) fun v5 => if v5 = true then Option.bind (fX8_isPart a4) fun v7 => if v7 = true then Option.bind (fX8_enter x a1 a2) fun x9 => bind2 (fX0_shareOf x9 a3) fun v11 x12 => Option.bind (fX0_cases x12) fun v14 => Option.bind (fX8_inLowestTerms v11 (60 * v14) a4) fun v16 => some (v16, x12) else some ((-4611686018427387904), x) else some ((-4611686018427387904), x) else some ((-4611686018427387904), x) else some ((-4611686018427387904), x)
abbrev rmX8_wins : Room := { frames := 6, cells := 0, slots := 0, locals := 135 }
set_option maxHeartbeats 4000000 in
set_option maxRecDepth 100000 in
theorem kX8_wins {l : Launch} {G : xG} {β : Nat} {D : Nat → Prop} {x x' : XS} {a1 : Int32} {a2 : Int32} {a3 : Int32} {a4 : Int32} {r : Int64} (hm : fX8_wins x a1 a2 a3 a4 = some (r, x')) : Met l yX8_wins (.code yX8_wins cX8_wins 5 (some .long) :: GT) rmX8_wins (PcW [.ref β, .int a1, .int a2, .int a3, .int a4] (CW β D G x) (KK G)) (QcW D (some (.long r)) (CW β D G x')) 0 0 D := by
  unfold fX8_wins at hm
  refine xpro (own := RX8) (by decide +kernel) rfl (Nat.le_of_ble_eq_true rfl) ?_
  intro p e s m args below meth c C hw ls hl
  have hx := C.1
  have hb := C.2.1
  have ho := C.2.2.2.1
  have hts := C.2.2.2.2.1
  have hf : Fz D G s.heap := hw.2.2.2.2
  have hS : va_S D s.heap s.heap [] := va_S.rf
  have hl : lv_has ls 5 [(0, .ref β), (1, .int a1), (2, .int a2), (3, .int a3), (4, .int a4)] := hl
  have hRf : 6 ≤ rmX8_wins.frames := Nat.le_refl _
  have hRl : 135 ≤ rmX8_wins.locals := Nat.le_refl _
  have hcs : 0 ≤ rmX8_wins.cells ∧ 0 ≤ rmX8_wins.slots := ⟨Nat.le_refl _, Nat.le_refl _⟩
  refine lv_aload_n hx hb dX8_wins_0 rfl (lv_at hl 0 rfl) ?_
  refine lv_iload_n hx hb dX8_wins_1 rfl (lv_at hl 1 rfl) ?_
  obtain ⟨v1, h2, hm⟩ := bind_e hm
  refine sX8_187 C h2 hw hS hl.1 (Nat.le_of_ble_eq_true rfl) (Nat.le_trans (Nat.le_of_ble_eq_true rfl) hRf) (Nat.le_trans (Nat.le_of_ble_eq_true rfl) hRl) hcs dX8_wins_2 (fun H locs hw hS => ?_)
  refine x_ifeqB hx hb dX8_wins_5 (tgt := 32) (by decide) (fun cc => ?_) (fun cc => ?_)
  · replace hm := ite_n cc hm
    refine lv_ldc2 (v := (-4611686018427387904)) hx hb ho (hts (.constantLong RX8 157 (-4611686018427387904)) (tg 476 (by decide +kernel) rfl)) dX8_wins_32 ?_
    obtain ⟨rfl, rfl⟩ := inj2 hm
    exact xret_l C hw hS dX8_wins_35
  · replace hm := ite_p cc hm
    refine lv_iload_n hx hb dX8_wins_8 rfl (lv_at hl 2 rfl) ?_
    obtain ⟨v3, h4, hm⟩ := bind_e hm
    refine sX8_190 C h4 hw hS hl.1 (Nat.le_of_ble_eq_true rfl) (Nat.le_trans (Nat.le_of_ble_eq_true rfl) hRf) (Nat.le_trans (Nat.le_of_ble_eq_true rfl) hRl) hcs dX8_wins_9 (fun H locs hw hS => ?_)
    refine x_ifeqB hx hb dX8_wins_12 (tgt := 32) (by decide) (fun cc => ?_) (fun cc => ?_)
    · replace hm := ite_n cc hm
      refine lv_ldc2 (v := (-4611686018427387904)) hx hb ho (hts (.constantLong RX8 157 (-4611686018427387904)) (tg 476 (by decide +kernel) rfl)) dX8_wins_32 ?_
      obtain ⟨rfl, rfl⟩ := inj2 hm
      exact xret_l C hw hS dX8_wins_35
    · replace hm := ite_p cc hm
      refine lv_aload_n hx hb dX8_wins_15 rfl (lv_at hl 0 rfl) ?_
      refine lv_iload_n hx hb dX8_wins_16 rfl (lv_at hl 1 rfl) ?_
      refine lv_iload_n hx hb dX8_wins_17 rfl (lv_at hl 3 rfl) ?_
      obtain ⟨v5, h6, hm⟩ := bind_e hm
      refine sX8_193 C h6 hw hS hl.1 (Nat.le_of_ble_eq_true rfl) (Nat.le_trans (Nat.le_of_ble_eq_true rfl) hRf) (Nat.le_trans (Nat.le_of_ble_eq_true rfl) hRl) hcs dX8_wins_18 (fun H locs hw hS => ?_)
      refine x_ifeqB hx hb dX8_wins_21 (tgt := 32) (by decide) (fun cc => ?_) (fun cc => ?_)
      · replace hm := ite_n cc hm
        refine lv_ldc2 (v := (-4611686018427387904)) hx hb ho (hts (.constantLong RX8 157 (-4611686018427387904)) (tg 476 (by decide +kernel) rfl)) dX8_wins_32 ?_
        obtain ⟨rfl, rfl⟩ := inj2 hm
        exact xret_l C hw hS dX8_wins_35
      · replace hm := ite_p cc hm
        refine lv_iload hx hb dX8_wins_24 (lv_at hl 4 rfl) ?_
        obtain ⟨v7, h8, hm⟩ := bind_e hm
        refine sX8_197 C h8 hw hS hl.1 (Nat.le_of_ble_eq_true rfl) (Nat.le_trans (Nat.le_of_ble_eq_true rfl) hRf) (Nat.le_trans (Nat.le_of_ble_eq_true rfl) hRl) hcs dX8_wins_26 (fun H locs hw hS => ?_)
        refine x_ifneB hx hb dX8_wins_29 (tgt := 36) (by decide) (fun cc => ?_) (fun cc => ?_)
        · replace hm := ite_p cc hm
          refine lv_aload_n hx hb dX8_wins_36 rfl (lv_at hl 0 rfl) ?_
          refine lv_iload_n hx hb dX8_wins_37 rfl (lv_at hl 1 rfl) ?_
          refine lv_iload_n hx hb dX8_wins_38 rfl (lv_at hl 2 rfl) ?_
          obtain ⟨x9, h10, hm⟩ := bind_e hm
          refine sX8_200 C h10 hw hS hl.1 (Nat.le_of_ble_eq_true rfl) (Nat.le_trans (Nat.le_of_ble_eq_true rfl) hRf) (Nat.le_trans (Nat.le_of_ble_eq_true rfl) hRl) hcs dX8_wins_39 (fun H locs hw hS => ?_)
          refine lv_aload_n hx hb dX8_wins_42 rfl (lv_at hl 0 rfl) ?_
          refine gX8_79 C hw dX8_wins_43 ?_
          refine lv_iload_n hx hb dX8_wins_46 rfl (lv_at hl 3 rfl) ?_
          obtain ⟨v11, x12, h13, hm⟩ := bind2_e hm
          refine sX8_204 C h13 hw hS hl.1 (Nat.le_of_ble_eq_true rfl) (Nat.le_trans (Nat.le_of_ble_eq_true rfl) hRf) (Nat.le_trans (Nat.le_of_ble_eq_true rfl) hRl) hcs dX8_wins_47 (fun H locs hw hS => ?_)
          refine lv_bipush (v := 60) hx hb dX8_wins_50 (by decide) ?_
          refine lv_aload_n hx hb dX8_wins_52 rfl (lv_at hl 0 rfl) ?_
          refine gX8_79 C hw dX8_wins_53 ?_
          obtain ⟨v14, h15, hm⟩ := bind_e hm
          refine sX8_207 C h15 hw hS hl.1 (Nat.le_of_ble_eq_true rfl) (Nat.le_trans (Nat.le_of_ble_eq_true rfl) hRf) (Nat.le_trans (Nat.le_of_ble_eq_true rfl) hRl) hcs dX8_wins_56 (fun H locs hw hS => ?_)
          refine lv_imul hx hb dX8_wins_59 ?_
          refine lv_iload hx hb dX8_wins_60 (lv_at hl 4 rfl) ?_
          obtain ⟨v16, h17, hm⟩ := bind_e hm
          refine sX8_210 C h17 hw hS hl.1 (Nat.le_of_ble_eq_true rfl) (Nat.le_trans (Nat.le_of_ble_eq_true rfl) hRf) (Nat.le_trans (Nat.le_of_ble_eq_true rfl) hRl) hcs dX8_wins_62 (fun H locs hw hS => ?_)
          obtain ⟨rfl, rfl⟩ := inj2 hm
          exact xret_l C hw hS dX8_wins_65
        · replace hm := ite_n cc hm
          refine lv_ldc2 (v := (-4611686018427387904)) hx hb ho (hts (.constantLong RX8 157 (-4611686018427387904)) (tg 476 (by decide +kernel) rfl)) dX8_wins_32 ?_
          obtain ⟨rfl, rfl⟩ := inj2 hm
          exact xret_l C hw hS dX8_wins_35
theorem dX8_digitsBehindOne_0 : decode cX8_digitsBehindOne 0 = .ok (.bipush 10, 2) := by decide +kernel
theorem dX8_digitsBehindOne_2 : decode cX8_digitsBehindOne 2 = .ok (.istore_n 1, 1) := by decide +kernel
theorem dX8_digitsBehindOne_3 : decode cX8_digitsBehindOne 3 = .ok (.iconst 1, 1) := by decide +kernel
theorem dX8_digitsBehindOne_4 : decode cX8_digitsBehindOne 4 = .ok (.istore_n 2, 1) := by decide +kernel
theorem dX8_digitsBehindOne_5 : decode cX8_digitsBehindOne 5 = .ok (.iload_n 2, 1) := by decide +kernel
theorem dX8_digitsBehindOne_6 : decode cX8_digitsBehindOne 6 = .ok (.iconst 5, 1) := by decide +kernel
theorem dX8_digitsBehindOne_7 : decode cX8_digitsBehindOne 7 = .ok (.if_icmp .gt 29, 3) := by decide +kernel
theorem dX8_digitsBehindOne_10 : decode cX8_digitsBehindOne 10 = .ok (.iload_n 0, 1) := by decide +kernel
theorem dX8_digitsBehindOne_11 : decode cX8_digitsBehindOne 11 = .ok (.iload_n 1, 1) := by decide +kernel
theorem dX8_digitsBehindOne_12 : decode cX8_digitsBehindOne 12 = .ok (.iconst 2, 1) := by decide +kernel
theorem dX8_digitsBehindOne_13 : decode cX8_digitsBehindOne 13 = .ok (.iload_n 1, 1) := by decide +kernel
theorem dX8_digitsBehindOne_14 : decode cX8_digitsBehindOne 14 = .ok (.imul, 1) := by decide +kernel
theorem dX8_digitsBehindOne_15 : decode cX8_digitsBehindOne 15 = .ok (.iconst 1, 1) := by decide +kernel
theorem dX8_digitsBehindOne_16 : decode cX8_digitsBehindOne 16 = .ok (.isub, 1) := by decide +kernel
theorem dX8_digitsBehindOne_17 : decode cX8_digitsBehindOne 17 = .ok (.invokestatic 138, 3) := by decide +kernel
theorem dX8_digitsBehindOne_20 : decode cX8_digitsBehindOne 20 = .ok (.ifCond .eq 5, 3) := by decide +kernel
theorem dX8_digitsBehindOne_23 : decode cX8_digitsBehindOne 23 = .ok (.iload_n 2, 1) := by decide +kernel
theorem dX8_digitsBehindOne_24 : decode cX8_digitsBehindOne 24 = .ok (.ireturn, 1) := by decide +kernel
theorem dX8_digitsBehindOne_25 : decode cX8_digitsBehindOne 25 = .ok (.iload_n 1, 1) := by decide +kernel
theorem dX8_digitsBehindOne_26 : decode cX8_digitsBehindOne 26 = .ok (.bipush 10, 2) := by decide +kernel
theorem dX8_digitsBehindOne_28 : decode cX8_digitsBehindOne 28 = .ok (.imul, 1) := by decide +kernel
theorem dX8_digitsBehindOne_29 : decode cX8_digitsBehindOne 29 = .ok (.istore_n 1, 1) := by decide +kernel
theorem dX8_digitsBehindOne_30 : decode cX8_digitsBehindOne 30 = .ok (.iinc 2 1, 3) := by decide +kernel
theorem dX8_digitsBehindOne_33 : decode cX8_digitsBehindOne 33 = .ok (.goto (-28), 3) := by decide +kernel
theorem dX8_digitsBehindOne_36 : decode cX8_digitsBehindOne 36 = .ok (.iconst 0, 1) := by decide +kernel
theorem dX8_digitsBehindOne_37 : decode cX8_digitsBehindOne 37 = .ok (.ireturn, 1) := by decide +kernel
def BX8_digitsBehindOne_5 (q0 : Int32) (lp : Int32 → Int32 → Option ((Int32) ⊕ (Unit))) (u1 : Int32) (u2 : Int32) : Option ((Int32) ⊕ (Unit)) := if 5 < u2 then some (.inr ()) else Option.bind (fX8_isWithin q0 u1 ((2 * u1) - 1)) fun v1 => if v1 = true then some (.inl u2) else lt (u1 * 10) fun v3 => lt (u2 + 1) fun v4 => lp v3 v4
def LX8_digitsBehindOne_5 (q0 : Int32) : Nat → Int32 → Int32 → Option ((Int32) ⊕ (Unit))
  | 0, _, _ => none
  | n + 1, u1, u2 => BX8_digitsBehindOne_5 q0 (LX8_digitsBehindOne_5 q0 n) u1 u2
def fX8_digitsBehindOne (a1 : Int32) : Option (Int32) := bs (LX8_digitsBehindOne_5 a1 NF 10 1) (fun a => some a) (fun _ => some 0)
set_option maxHeartbeats 4000000 in
set_option maxRecDepth 100000 in
theorem lX8_digitsBehindOne_5 {p : Program} {l : Launch} {e : Env} {R : Room} {s : State} {m : MethodId} {args : Array Value} {below : List Frame} {meth : Method} {c : Code} {cells slots : Nat} {Q : State → Prop} {G : xG} {β : Nat} {D : Nat → Prop} (C : Cx p s m args meth c RX8 cX8_digitsBehindOne 3 (some .int) (KK G)) (hRf : 1 ≤ R.frames) (hRl : 22 ≤ R.locals) (hcs : cells ≤ R.cells ∧ slots ≤ R.slots) (hf : Fz D G s.heap) {x : XS} (q0 : Int32) : ∀ (n : Nat) (u1 : Int32) (u2 : Int32) (J : (Int32) ⊕ (Unit)) (H : Heap) (locs : List Loc) (ls : Array Slot), LX8_digitsBehindOne_5 q0 n u1 u2 = some J → CW β D G x H → va_S D s.heap H locs → lv_has ls 3 [(0, .int q0), (1, .int u1), (2, .int u2)] → (∀ (w : Unit), J = .inr w → ∀ (H : Heap) (locs : List Loc) (ls : Array Slot), CW β D G x H → va_S D s.heap H locs → lv_has ls 3 [] → W p l e R s m args below meth c H locs cells slots Q (F0 m 36 ls [])) → (∀ (rv : Int32), J = .inl rv → ∀ (H : Heap) (locs : List Loc) (ls : Array Slot), CW β D G x H → va_S D s.heap H locs → W p l e R s m args below meth c H locs cells slots Q (F0 m 24 ls [.int rv])) → W p l e R s m args below meth c H locs cells slots Q (F0 m 5 ls []) := by
  have hx := C.1
  have hb := C.2.1
  have ho := C.2.2.2.1
  have hts := C.2.2.2.2.1
  intro n
  induction n with
  | zero =>
    intro u1 u2 J H locs ls hm
    exact absurd hm (by simp [LX8_digitsBehindOne_5])
  | succ n ih =>
    intro u1 u2 J H locs ls hm hw hS hl ke kr24
    replace hm : BX8_digitsBehindOne_5 q0 (LX8_digitsBehindOne_5 q0 n) u1 u2 = some J := hm
    unfold BX8_digitsBehindOne_5 at hm
    refine lv_iload_n hx hb dX8_digitsBehindOne_5 rfl (lv_at hl 2 rfl) ?_
    refine lv_iconst (v := 5) hx hb dX8_digitsBehindOne_6 (by decide) ?_
    refine lv_icmp_gt (tgt := 36) hx hb dX8_digitsBehindOne_7 (by decide) (fun cc => ?_) (fun cc => ?_)
    · replace hm := ite_p cc hm
      exact ke _ (Option.some.inj hm).symm _ _ _ hw hS (lv_sub hl [] rfl)
    · replace hm := ite_n cc hm
      refine lv_iload_n hx hb dX8_digitsBehindOne_10 rfl (lv_at hl 0 rfl) ?_
      refine lv_iload_n hx hb dX8_digitsBehindOne_11 rfl (lv_at hl 1 rfl) ?_
      refine lv_iconst (v := 2) hx hb dX8_digitsBehindOne_12 (by decide) ?_
      refine lv_iload_n hx hb dX8_digitsBehindOne_13 rfl (lv_at hl 1 rfl) ?_
      refine lv_imul hx hb dX8_digitsBehindOne_14 ?_
      refine lv_iconst (v := 1) hx hb dX8_digitsBehindOne_15 (by decide) ?_
      refine lv_isub hx hb dX8_digitsBehindOne_16 ?_
      obtain ⟨v1, h2, hm⟩ := bind_e hm
      refine sX8_138 C h2 hw hS hl.1 (Nat.le_of_ble_eq_true rfl) (Nat.le_trans (Nat.le_of_ble_eq_true rfl) hRf) (Nat.le_trans (Nat.le_of_ble_eq_true rfl) hRl) hcs dX8_digitsBehindOne_17 (fun H locs hw hS => ?_)
      refine x_ifeqB hx hb dX8_digitsBehindOne_20 (tgt := 25) (by decide) (fun cc => ?_) (fun cc => ?_)
      · replace hm := ite_n cc hm
        refine lv_iload_n hx hb dX8_digitsBehindOne_25 rfl (lv_at hl 1 rfl) ?_
        refine lv_bipush (v := 10) hx hb dX8_digitsBehindOne_26 (by decide) ?_
        refine lv_imul hx hb dX8_digitsBehindOne_28 ?_
        refine topI hm (fun v3 hm => ?_)
        refine lv_istore_n (lv' := [(1, .int v3), (0, .int q0), (2, .int u2)]) hx hb dX8_digitsBehindOne_29 rfl hl (by decide) rfl (fun ls hl => ?_)
        obtain ⟨v4, ev, hm⟩ := lt_e hm
        refine lv_iinc (v := v4) (lv' := [(2, .int v4), (1, .int v3), (0, .int q0)]) hx hb dX8_digitsBehindOne_30 hl (k := 2) rfl (by rw [ev]; rfl) (by decide) rfl (fun ls hl => ?_)
        clear ev
        refine lv_goto (tgt := 5) hx hb dX8_digitsBehindOne_33 (by decide) ?_
        exact ih _ _ _ _ _ _ hm hw hS (lv_sub hl [2, 1, 0] rfl) ke kr24
      · replace hm := ite_p cc hm
        refine lv_iload_n hx hb dX8_digitsBehindOne_23 rfl (lv_at hl 2 rfl) ?_
        exact kr24 _ (Option.some.inj hm).symm _ _ _ hw hS
abbrev rmX8_digitsBehindOne : Room := { frames := 1, cells := 0, slots := 0, locals := 22 }
set_option maxHeartbeats 4000000 in
set_option maxRecDepth 100000 in
theorem kX8_digitsBehindOne {l : Launch} {G : xG} {β : Nat} {D : Nat → Prop} {x : XS} {a1 : Int32} {r : Int32} (hm : fX8_digitsBehindOne a1 = some r) : Met l yX8_digitsBehindOne (.code yX8_digitsBehindOne cX8_digitsBehindOne 3 (some .int) :: GT) rmX8_digitsBehindOne (PcW [.int a1] (CW β D G x) (KK G)) (QcW D (some (.int r)) (CW β D G x)) 0 0 D := by
  unfold fX8_digitsBehindOne at hm
  refine xpro (own := RX8) (by decide +kernel) rfl (Nat.le_of_ble_eq_true rfl) ?_
  intro p e s m args below meth c C hw ls hl
  have hx := C.1
  have hb := C.2.1
  have ho := C.2.2.2.1
  have hts := C.2.2.2.2.1
  have hf : Fz D G s.heap := hw.2.2.2.2
  have hS : va_S D s.heap s.heap [] := va_S.rf
  have hl : lv_has ls 3 [(0, .int a1)] := hl
  have hRf : 1 ≤ rmX8_digitsBehindOne.frames := Nat.le_refl _
  have hRl : 22 ≤ rmX8_digitsBehindOne.locals := Nat.le_refl _
  have hcs : 0 ≤ rmX8_digitsBehindOne.cells ∧ 0 ≤ rmX8_digitsBehindOne.slots := ⟨Nat.le_refl _, Nat.le_refl _⟩
  refine lv_bipush (v := 10) hx hb dX8_digitsBehindOne_0 (by decide) ?_
  refine lv_istore_n (lv' := [(1, .int 10), (0, .int a1)]) hx hb dX8_digitsBehindOne_2 rfl hl (by decide) rfl (fun ls hl => ?_)
  refine lv_iconst (v := 1) hx hb dX8_digitsBehindOne_3 (by decide) ?_
  refine lv_istore_n (lv' := [(2, .int 1), (1, .int 10), (0, .int a1)]) hx hb dX8_digitsBehindOne_4 rfl hl (by decide) rfl (fun ls hl => ?_)
  rcases bs_e hm with ⟨a, hj, hm⟩ | ⟨b, hj, hm⟩
  · refine lX8_digitsBehindOne_5 C hRf hRl hcs hf a1 NF _ _ _ _ _ _ hj hw hS (lv_sub hl [2, 1, 0] rfl) (fun _ e0 => by cases e0) (fun rv e0 H locs ls hw hS => ?_)
    · cases e0
      obtain rfl := Option.some.inj hm
      exact xret_i C hw hS dX8_digitsBehindOne_24
  · refine lX8_digitsBehindOne_5 C hRf hRl hcs hf a1 NF _ _ _ _ _ _ hj hw hS (lv_sub hl [2, 1, 0] rfl) (fun _ e0 H locs ls hw hS hl => ?_) (fun _ e0 => by cases e0)
    refine lv_iconst (v := 0) hx hb dX8_digitsBehindOne_36 (by decide) ?_
    obtain rfl := Option.some.inj hm
    exact xret_i C hw hS dX8_digitsBehindOne_37
theorem dX8_readOrder_0 : decode cX8_readOrder 0 = .ok (.iload_n 1, 1) := by decide +kernel
theorem dX8_readOrder_1 : decode cX8_readOrder 1 = .ok (.invokestatic 360, 3) := by decide +kernel
theorem dX8_readOrder_4 : decode cX8_readOrder 4 = .ok (.istore_n 2, 1) := by decide +kernel
theorem dX8_readOrder_5 : decode cX8_readOrder 5 = .ok (.iconst 0, 1) := by decide +kernel
theorem dX8_readOrder_6 : decode cX8_readOrder 6 = .ok (.istore_n 3, 1) := by decide +kernel
theorem dX8_readOrder_7 : decode cX8_readOrder 7 = .ok (.iload_n 1, 1) := by decide +kernel
theorem dX8_readOrder_8 : decode cX8_readOrder 8 = .ok (.istore 4, 2) := by decide +kernel
theorem dX8_readOrder_10 : decode cX8_readOrder 10 = .ok (.iload_n 2, 1) := by decide +kernel
theorem dX8_readOrder_11 : decode cX8_readOrder 11 = .ok (.iconst 1, 1) := by decide +kernel
theorem dX8_readOrder_12 : decode cX8_readOrder 12 = .ok (.isub, 1) := by decide +kernel
theorem dX8_readOrder_13 : decode cX8_readOrder 13 = .ok (.istore 5, 2) := by decide +kernel
theorem dX8_readOrder_15 : decode cX8_readOrder 15 = .ok (.iload 5, 2) := by decide +kernel
theorem dX8_readOrder_17 : decode cX8_readOrder 17 = .ok (.ifCond .lt 60, 3) := by decide +kernel
theorem dX8_readOrder_20 : decode cX8_readOrder 20 = .ok (.iload 4, 2) := by decide +kernel
theorem dX8_readOrder_22 : decode cX8_readOrder 22 = .ok (.bipush 10, 2) := by decide +kernel
theorem dX8_readOrder_24 : decode cX8_readOrder 24 = .ok (.irem, 1) := by decide +kernel
theorem dX8_readOrder_25 : decode cX8_readOrder 25 = .ok (.istore 6, 2) := by decide +kernel
theorem dX8_readOrder_27 : decode cX8_readOrder 27 = .ok (.aload_n 0, 1) := by decide +kernel
theorem dX8_readOrder_28 : decode cX8_readOrder 28 = .ok (.iload 6, 2) := by decide +kernel
theorem dX8_readOrder_30 : decode cX8_readOrder 30 = .ok (.invokevirtual 154, 3) := by decide +kernel
theorem dX8_readOrder_33 : decode cX8_readOrder 33 = .ok (.ifCond .eq 13, 3) := by decide +kernel
theorem dX8_readOrder_36 : decode cX8_readOrder 36 = .ok (.aload_n 0, 1) := by decide +kernel
theorem dX8_readOrder_37 : decode cX8_readOrder 37 = .ok (.iload_n 3, 1) := by decide +kernel
theorem dX8_readOrder_38 : decode cX8_readOrder 38 = .ok (.iload 6, 2) := by decide +kernel
theorem dX8_readOrder_40 : decode cX8_readOrder 40 = .ok (.invokevirtual 193, 3) := by decide +kernel
theorem dX8_readOrder_43 : decode cX8_readOrder 43 = .ok (.ifCond .eq 5, 3) := by decide +kernel
theorem dX8_readOrder_46 : decode cX8_readOrder 46 = .ok (.iconst 0, 1) := by decide +kernel
theorem dX8_readOrder_47 : decode cX8_readOrder 47 = .ok (.ireturn, 1) := by decide +kernel
theorem dX8_readOrder_48 : decode cX8_readOrder 48 = .ok (.iload_n 3, 1) := by decide +kernel
theorem dX8_readOrder_49 : decode cX8_readOrder 49 = .ok (.iconst 1, 1) := by decide +kernel
theorem dX8_readOrder_50 : decode cX8_readOrder 50 = .ok (.iload 6, 2) := by decide +kernel
theorem dX8_readOrder_52 : decode cX8_readOrder 52 = .ok (.ishl, 1) := by decide +kernel
theorem dX8_readOrder_53 : decode cX8_readOrder 53 = .ok (.ior, 1) := by decide +kernel
theorem dX8_readOrder_54 : decode cX8_readOrder 54 = .ok (.istore_n 3, 1) := by decide +kernel
theorem dX8_readOrder_55 : decode cX8_readOrder 55 = .ok (.aload_n 0, 1) := by decide +kernel
theorem dX8_readOrder_56 : decode cX8_readOrder 56 = .ok (.getfield 86, 3) := by decide +kernel
theorem dX8_readOrder_59 : decode cX8_readOrder 59 = .ok (.iload 5, 2) := by decide +kernel
theorem dX8_readOrder_61 : decode cX8_readOrder 61 = .ok (.iload 6, 2) := by decide +kernel
theorem dX8_readOrder_63 : decode cX8_readOrder 63 = .ok (.iastore, 1) := by decide +kernel
theorem dX8_readOrder_64 : decode cX8_readOrder 64 = .ok (.iload 4, 2) := by decide +kernel
theorem dX8_readOrder_66 : decode cX8_readOrder 66 = .ok (.bipush 10, 2) := by decide +kernel
theorem dX8_readOrder_68 : decode cX8_readOrder 68 = .ok (.idiv, 1) := by decide +kernel
theorem dX8_readOrder_69 : decode cX8_readOrder 69 = .ok (.istore 4, 2) := by decide +kernel
theorem dX8_readOrder_71 : decode cX8_readOrder 71 = .ok (.iinc 5 (-1), 3) := by decide +kernel
theorem dX8_readOrder_74 : decode cX8_readOrder 74 = .ok (.goto (-59), 3) := by decide +kernel
theorem dX8_readOrder_77 : decode cX8_readOrder 77 = .ok (.iload_n 3, 1) := by decide +kernel
theorem dX8_readOrder_78 : decode cX8_readOrder 78 = .ok (.ireturn, 1) := by decide +kernel
theorem sX8_360 {p : Program} {l : Launch} {e : Env} {R : Room} {s : State} {m : MethodId} {args : Array Value} {below : List Frame} {meth : Method} {c : Code} {H : Heap} {locs : List Loc} {cells slots : Nat} {Q : State → Prop} {cc : ByteArray} {pc nL : Nat} {ls : Array Slot} {rest : List Value} {ret : Option FieldType}  {G : xG} {β : Nat} {D : Nat → Prop} {x : XS} {a1 : Int32} {r : Int32} (C : Cx p s m args meth c RX8 cc nL ret (KK G)) (h : fX8_digitsBehindOne a1 = some r) (hw : CW β D G x H) (hS : va_S D s.heap H locs) (hsz : ls.size = nL) (hW : (rest.map fun v => v.category).sum ≤ 8) (hR : 2 ≤ R.frames) (hR2 : 44 ≤ R.locals) (hcs : cells ≤ R.cells ∧ slots ≤ R.slots) (hd : decode cc pc = .ok (.invokestatic 360, 3)) (kk : ∀ (H1 : Heap) (locs1 : List Loc), CW β D G x H1 → va_S D s.heap H1 locs1 → W p l e R s m args below meth c H1 locs1 cells slots Q (F0 m (pc + 3) ls (.int r :: rest))) : W p l e R s m args below meth c H locs cells slots Q (F0 m pc ls (.int a1 :: rest)) := by
  exact xcallS C (As := [.int a1]) (rest := rest) (nA := 1) (kX8_digitsBehindOne h) (tg 642 (by decide +kernel) rfl) (tg 643 (by decide +kernel) rfl) (tg 1 (by decide +kernel) rfl) (tg 644 (by decide +kernel) rfl) ⟨by decide +kernel, by decide +kernel, by decide +kernel⟩ rfl rfl ⟨hR, hR2⟩ hw hS (fun _ q => q) rfl rfl hsz hW hd hcs (fun H1 locs1 hw hz hk hS => kk H1 locs1 hw hS)
theorem gX8_86 {p : Program} {l : Launch} {e : Env} {R : Room} {s : State} {m : MethodId} {args : Array Value} {below : List Frame} {meth : Method} {c : Code} {H : Heap} {locs : List Loc} {cells slots : Nat} {Q : State → Prop} {cc : ByteArray} {pc nL : Nat} {ls : Array Slot} {rest : List Value} {ret : Option FieldType} {G : xG} {β : Nat} {D : Nat → Prop} {x : XS} (C : Cx p s m args meth c RX8 cc nL ret (KK G)) (hw : CW β D G x H) (hd : decode cc pc = .ok (.getfield 86, 3)) (kk : W p l e R s m args below meth c H locs cells slots Q (F0 m (pc + 3) ls (.ref (β + 23) :: rest))) : W p l e R s m args below meth c H locs cells slots Q (F0 m pc ls (.ref β :: rest)) :=
  va_get C.1 C.2.1 C.2.2.2.2.1 iwX8 C.2.2.2.1 C.K.1 (xP1 (hw.2.2.1 0 (by decide))) 0 rfl rfl 15 (by decide) (C.2.2.2.2.1 (.fieldLink RX8 86 RX8 "placed" "[I") (tg 362 (by decide +kernel) rfl)) (fun _ h9 => h9) rfl hd kk
theorem asX_23 {p : Program} {l : Launch} {e : Env} {R : Room} {s : State} {m : MethodId} {args : Array Value} {below : List Frame} {meth : Method} {c : Code} {H : Heap} {locs : List Loc} {cells slots : Nat} {Q : State → Prop} {cc : ByteArray} {pc nL : Nat} {ls : Array Slot} {rest : List Value} {ret : Option FieldType} {G : xG} {β : Nat} {D : Nat → Prop} {x : XS} {own : String} {i : Int32} {v : Int32} (C : Cx p s m args meth c own cc nL ret (KK G)) (hw : CW β D G x H) (hS : va_S D s.heap H locs) (hin : ib i 5) (hd : decode cc pc = .ok (.iastore, 1)) (kk : ∀ (H1 : Heap) (locs1 : List Loc), CW β D G (xsA x 23 i.toNatClampNeg v) H1 → va_S D s.heap H1 locs1 → W p l e R s m args below meth c H1 locs1 cells slots Q (F0 m (pc + 1) ls (rest))) : W p l e R s m args below meth c H locs cells slots Q (F0 m pc ls (.int v :: .int i :: .ref (β + 23) :: rest)) :=
  x_iast C.1 C.2.1 C.K.1 hS 0 (hw.2.2.1 23 (by decide)) (hw.2.1 23 (by decide)) rfl hin hd (fun H1 locs1 hat ho hS => kk H1 locs1 (hw.setA 23 _ _ hat ho) hS)
def BX8_readOrder_15 (lp : Int32 → Int32 → Int32 → XS → Option ((Int32 × XS) ⊕ (Int32 × XS))) (u3 : Int32) (u4 : Int32) (u5 : Int32) (x : XS) : Option ((Int32 × XS) ⊕ (Int32 × XS)) := if u5 < 0 then some (.inr (u3, x)) else lt (irm u4 10) fun v4 => Option.bind (fX8_isHorse x v4) fun v5 => if v5 = true then Option.bind (fX8_isIn x u3 v4) fun v7 => if v7 = true then some (.inl (0, x)) else lt (u3 ||| ((1 : Int32) <<< (v4 &&& 31))) fun v9 => if ib u5 5 then lt (xsA x 23 u5.toNatClampNeg v4) fun x11 => lt (u4 / 10) fun v12 => lt (u5 + (-1)) fun v13 => lp v9 v12 v13 x11 else none else some (.inl (0, x))
def LX8_readOrder_15 : Nat → Int32 → Int32 → Int32 → XS → Option ((Int32 × XS) ⊕ (Int32 × XS))
  | 0, _, _, _, _ => none
  | n + 1, u3, u4, u5, x => BX8_readOrder_15 (LX8_readOrder_15 n) u3 u4 u5 x
def fX8_readOrder (x : XS) (a1 : Int32) : Option (Int32 × XS) := Option.bind (fX8_digitsBehindOne a1) fun v1 => lt (v1 - 1) fun v3 => bs (LX8_readOrder_15 NF 0 a1 v3 x) (fun a => some a) (fun b => bind2 (some b) fun v14 x15 => some (v14, x15))
set_option maxHeartbeats 4000000 in
set_option maxRecDepth 100000 in
theorem lX8_readOrder_15 {p : Program} {l : Launch} {e : Env} {R : Room} {s : State} {m : MethodId} {args : Array Value} {below : List Frame} {meth : Method} {c : Code} {cells slots : Nat} {Q : State → Prop} {G : xG} {β : Nat} {D : Nat → Prop} (C : Cx p s m args meth c RX8 cX8_readOrder 7 (some .int) (KK G)) (hRf : 3 ≤ R.frames) (hRl : 65 ≤ R.locals) (hcs : cells ≤ R.cells ∧ slots ≤ R.slots) (hf : Fz D G s.heap) : ∀ (n : Nat) (u3 : Int32) (u4 : Int32) (u5 : Int32) (x : XS) (J : (Int32 × XS) ⊕ (Int32 × XS)) (H : Heap) (locs : List Loc) (ls : Array Slot), LX8_readOrder_15 n u3 u4 u5 x = some J → CW β D G x H → va_S D s.heap H locs → lv_has ls 7 [(0, .ref β), (3, .int u3), (4, .int u4), (5, .int u5)] → (∀ (w3 : Int32) (x1 : XS), J = .inr (w3, x1) → ∀ (H : Heap) (locs : List Loc) (ls : Array Slot), CW β D G x1 H → va_S D s.heap H locs → lv_has ls 7 [(3, .int w3)] → W p l e R s m args below meth c H locs cells slots Q (F0 m 77 ls [])) → (∀ (rv : Int32) (x1 : XS), J = .inl (rv, x1) → ∀ (H : Heap) (locs : List Loc) (ls : Array Slot), CW β D G x1 H → va_S D s.heap H locs → W p l e R s m args below meth c H locs cells slots Q (F0 m 47 ls [.int rv])) → W p l e R s m args below meth c H locs cells slots Q (F0 m 15 ls []) := by
  have hx := C.1
  have hb := C.2.1
  have ho := C.2.2.2.1
  have hts := C.2.2.2.2.1
  intro n
  induction n with
  | zero =>
    intro u3 u4 u5 x J H locs ls hm
    exact absurd hm (by simp [LX8_readOrder_15])
  | succ n ih =>
    intro u3 u4 u5 x J H locs ls hm hw hS hl ke kr47
    replace hm : BX8_readOrder_15 (LX8_readOrder_15 n) u3 u4 u5 x = some J := hm
    unfold BX8_readOrder_15 at hm
    refine lv_iload hx hb dX8_readOrder_15 (lv_at hl 3 rfl) ?_
    refine lv_if_lt (tgt := 77) hx hb dX8_readOrder_17 (by decide) (fun cc => ?_) (fun cc => ?_)
    · replace hm := ite_p cc hm
      exact ke _ _ (Option.some.inj hm).symm _ _ _ hw hS (lv_sub hl [1] rfl)
    · replace hm := ite_n cc hm
      refine lv_iload hx hb dX8_readOrder_20 (lv_at hl 2 rfl) ?_
      refine lv_bipush (v := 10) hx hb dX8_readOrder_22 (by decide) ?_
      refine lv_irem hx hb dX8_readOrder_24 (by decide) ?_
      refine topI hm (fun v4 hm => ?_)
      refine lv_istore (lv' := [(6, .int v4), (0, .ref β), (3, .int u3), (4, .int u4), (5, .int u5)]) hx hb dX8_readOrder_25 hl (by decide) rfl (fun ls hl => ?_)
      refine lv_aload_n hx hb dX8_readOrder_27 rfl (lv_at hl 1 rfl) ?_
      refine lv_iload hx hb dX8_readOrder_28 (lv_at hl 0 rfl) ?_
      obtain ⟨v5, h6, hm⟩ := bind_e hm
      refine sX8_154 C h6 hw hS hl.1 (Nat.le_of_ble_eq_true rfl) (Nat.le_trans (Nat.le_of_ble_eq_true rfl) hRf) (Nat.le_trans (Nat.le_of_ble_eq_true rfl) hRl) hcs dX8_readOrder_30 (fun H locs hw hS => ?_)
      refine x_ifeqB hx hb dX8_readOrder_33 (tgt := 46) (by decide) (fun cc => ?_) (fun cc => ?_)
      · replace hm := ite_n cc hm
        refine lv_iconst (v := 0) hx hb dX8_readOrder_46 (by decide) ?_
        exact kr47 _ _ (Option.some.inj hm).symm _ _ _ hw hS
      · replace hm := ite_p cc hm
        refine lv_aload_n hx hb dX8_readOrder_36 rfl (lv_at hl 1 rfl) ?_
        refine lv_iload_n hx hb dX8_readOrder_37 rfl (lv_at hl 2 rfl) ?_
        refine lv_iload hx hb dX8_readOrder_38 (lv_at hl 0 rfl) ?_
        obtain ⟨v7, h8, hm⟩ := bind_e hm
        refine sX8_193 C h8 hw hS hl.1 (Nat.le_of_ble_eq_true rfl) (Nat.le_trans (Nat.le_of_ble_eq_true rfl) hRf) (Nat.le_trans (Nat.le_of_ble_eq_true rfl) hRl) hcs dX8_readOrder_40 (fun H locs hw hS => ?_)
        refine x_ifeqB hx hb dX8_readOrder_43 (tgt := 48) (by decide) (fun cc => ?_) (fun cc => ?_)
        · replace hm := ite_n cc hm
          refine lv_iload_n hx hb dX8_readOrder_48 rfl (lv_at hl 2 rfl) ?_
          refine lv_iconst (v := 1) hx hb dX8_readOrder_49 (by decide) ?_
          refine lv_iload hx hb dX8_readOrder_50 (lv_at hl 0 rfl) ?_
          refine lv_ishl hx hb dX8_readOrder_52 ?_
          refine lv_ior hx hb dX8_readOrder_53 ?_
          refine topI hm (fun v9 hm => ?_)
          refine lv_istore_n (lv' := [(3, .int v9), (6, .int v4), (0, .ref β), (4, .int u4), (5, .int u5)]) hx hb dX8_readOrder_54 rfl hl (by decide) rfl (fun ls hl => ?_)
          refine lv_aload_n hx hb dX8_readOrder_55 rfl (lv_at hl 2 rfl) ?_
          refine gX8_86 C hw dX8_readOrder_56 ?_
          refine lv_iload hx hb dX8_readOrder_59 (lv_at hl 4 rfl) ?_
          refine lv_iload hx hb dX8_readOrder_61 (lv_at hl 1 rfl) ?_
          obtain ⟨h10, hm⟩ := chk_e hm
          refine asX_23 C hw hS h10 dX8_readOrder_63 (fun H locs hw hS => ?_)
          obtain ⟨x11, ev, hm⟩ := lt_e hm
          rw [← ev] at hw
          clear ev
          refine lv_iload hx hb dX8_readOrder_64 (lv_at hl 3 rfl) ?_
          refine lv_bipush (v := 10) hx hb dX8_readOrder_66 (by decide) ?_
          refine lv_idiv hx hb dX8_readOrder_68 (by decide) ?_
          refine topI hm (fun v12 hm => ?_)
          refine lv_istore (lv' := [(4, .int v12), (3, .int v9), (6, .int v4), (0, .ref β), (5, .int u5)]) hx hb dX8_readOrder_69 hl (by decide) rfl (fun ls hl => ?_)
          obtain ⟨v13, ev, hm⟩ := lt_e hm
          refine lv_iinc (v := v13) (lv' := [(5, .int v13), (4, .int v12), (3, .int v9), (6, .int v4), (0, .ref β)]) hx hb dX8_readOrder_71 hl (k := 4) rfl (by rw [ev]; rfl) (by decide) rfl (fun ls hl => ?_)
          clear ev
          refine lv_goto (tgt := 15) hx hb dX8_readOrder_74 (by decide) ?_
          exact ih _ _ _ _ _ _ _ _ hm hw hS (lv_sub hl [4, 2, 1, 0] rfl) ke kr47
        · replace hm := ite_p cc hm
          refine lv_iconst (v := 0) hx hb dX8_readOrder_46 (by decide) ?_
          exact kr47 _ _ (Option.some.inj hm).symm _ _ _ hw hS
abbrev rmX8_readOrder : Room := { frames := 3, cells := 0, slots := 0, locals := 65 }
set_option maxHeartbeats 4000000 in
set_option maxRecDepth 100000 in
theorem kX8_readOrder {l : Launch} {G : xG} {β : Nat} {D : Nat → Prop} {x x' : XS} {a1 : Int32} {r : Int32} (hm : fX8_readOrder x a1 = some (r, x')) : Met l yX8_readOrder (.code yX8_readOrder cX8_readOrder 7 (some .int) :: GT) rmX8_readOrder (PcW [.ref β, .int a1] (CW β D G x) (KK G)) (QcW D (some (.int r)) (CW β D G x')) 0 0 D := by
  unfold fX8_readOrder at hm
  refine xpro (own := RX8) (by decide +kernel) rfl (Nat.le_of_ble_eq_true rfl) ?_
  intro p e s m args below meth c C hw ls hl
  have hx := C.1
  have hb := C.2.1
  have ho := C.2.2.2.1
  have hts := C.2.2.2.2.1
  have hf : Fz D G s.heap := hw.2.2.2.2
  have hS : va_S D s.heap s.heap [] := va_S.rf
  have hl : lv_has ls 7 [(0, .ref β), (1, .int a1)] := hl
  have hRf : 3 ≤ rmX8_readOrder.frames := Nat.le_refl _
  have hRl : 65 ≤ rmX8_readOrder.locals := Nat.le_refl _
  have hcs : 0 ≤ rmX8_readOrder.cells ∧ 0 ≤ rmX8_readOrder.slots := ⟨Nat.le_refl _, Nat.le_refl _⟩
  refine lv_iload_n hx hb dX8_readOrder_0 rfl (lv_at hl 1 rfl) ?_
  obtain ⟨v1, h2, hm⟩ := bind_e hm
  refine sX8_360 C h2 hw hS hl.1 (Nat.le_of_ble_eq_true rfl) (Nat.le_trans (Nat.le_of_ble_eq_true rfl) hRf) (Nat.le_trans (Nat.le_of_ble_eq_true rfl) hRl) hcs dX8_readOrder_1 (fun H locs hw hS => ?_)
  refine lv_istore_n (lv' := [(2, .int v1), (0, .ref β), (1, .int a1)]) hx hb dX8_readOrder_4 rfl hl (by decide) rfl (fun ls hl => ?_)
  refine lv_iconst (v := 0) hx hb dX8_readOrder_5 (by decide) ?_
  refine lv_istore_n (lv' := [(3, .int 0), (2, .int v1), (0, .ref β), (1, .int a1)]) hx hb dX8_readOrder_6 rfl hl (by decide) rfl (fun ls hl => ?_)
  refine lv_iload_n hx hb dX8_readOrder_7 rfl (lv_at hl 3 rfl) ?_
  refine lv_istore (lv' := [(4, .int a1), (3, .int 0), (2, .int v1), (0, .ref β), (1, .int a1)]) hx hb dX8_readOrder_8 hl (by decide) rfl (fun ls hl => ?_)
  refine lv_iload_n hx hb dX8_readOrder_10 rfl (lv_at hl 2 rfl) ?_
  refine lv_iconst (v := 1) hx hb dX8_readOrder_11 (by decide) ?_
  refine lv_isub hx hb dX8_readOrder_12 ?_
  refine topI hm (fun v3 hm => ?_)
  refine lv_istore (lv' := [(5, .int v3), (4, .int a1), (3, .int 0), (2, .int v1), (0, .ref β), (1, .int a1)]) hx hb dX8_readOrder_13 hl (by decide) rfl (fun ls hl => ?_)
  rcases bs_e hm with ⟨a, hj, hm⟩ | ⟨b, hj, hm⟩
  · refine lX8_readOrder_15 C hRf hRl hcs hf NF _ _ _ _ _ _ _ _ hj hw hS (lv_sub hl [4, 2, 1, 0] rfl) (fun _ _ e0 => by cases e0) (fun rv x1 e0 H locs ls hw hS => ?_)
    · cases e0
      obtain ⟨rfl, rfl⟩ := inj2 hm
      exact xret_i C hw hS dX8_readOrder_47
  · obtain ⟨v14, x15, e1, hm⟩ := bind2_e hm
    cases e1
    refine lX8_readOrder_15 C hRf hRl hcs hf NF _ _ _ _ _ _ _ _ hj hw hS (lv_sub hl [4, 2, 1, 0] rfl) (fun v14_ x15_ e0 H locs ls hw hS hl => ?_) (fun _ _ e0 => by cases e0)
    cases e0
    refine lv_iload_n hx hb dX8_readOrder_77 rfl (lv_at hl 0 rfl) ?_
    obtain ⟨rfl, rfl⟩ := inj2 hm
    exact xret_i C hw hS dX8_readOrder_78
theorem dX8_comes_0 : decode cX8_comes 0 = .ok (.aload_n 0, 1) := by decide +kernel
theorem dX8_comes_1 : decode cX8_comes 1 = .ok (.iload_n 1, 1) := by decide +kernel
theorem dX8_comes_2 : decode cX8_comes 2 = .ok (.invokevirtual 187, 3) := by decide +kernel
theorem dX8_comes_5 : decode cX8_comes 5 = .ok (.ifCond .eq 27, 3) := by decide +kernel
theorem dX8_comes_8 : decode cX8_comes 8 = .ok (.iload_n 2, 1) := by decide +kernel
theorem dX8_comes_9 : decode cX8_comes 9 = .ok (.invokestatic 190, 3) := by decide +kernel
theorem dX8_comes_12 : decode cX8_comes 12 = .ok (.ifCond .eq 20, 3) := by decide +kernel
theorem dX8_comes_15 : decode cX8_comes 15 = .ok (.aload_n 0, 1) := by decide +kernel
theorem dX8_comes_16 : decode cX8_comes 16 = .ok (.iload_n 3, 1) := by decide +kernel
theorem dX8_comes_17 : decode cX8_comes 17 = .ok (.invokevirtual 214, 3) := by decide +kernel
theorem dX8_comes_20 : decode cX8_comes 20 = .ok (.iload_n 1, 1) := by decide +kernel
theorem dX8_comes_21 : decode cX8_comes 21 = .ok (.if_icmp .ne 11, 3) := by decide +kernel
theorem dX8_comes_24 : decode cX8_comes 24 = .ok (.iload 4, 2) := by decide +kernel
theorem dX8_comes_26 : decode cX8_comes 26 = .ok (.invokestatic 197, 3) := by decide +kernel
theorem dX8_comes_29 : decode cX8_comes 29 = .ok (.ifCond .ne 7, 3) := by decide +kernel
theorem dX8_comes_32 : decode cX8_comes 32 = .ok (.ldc2_w 157, 3) := by decide +kernel
theorem dX8_comes_35 : decode cX8_comes 35 = .ok (.lreturn, 1) := by decide +kernel
theorem dX8_comes_36 : decode cX8_comes 36 = .ok (.aload_n 0, 1) := by decide +kernel
theorem dX8_comes_37 : decode cX8_comes 37 = .ok (.iload_n 1, 1) := by decide +kernel
theorem dX8_comes_38 : decode cX8_comes 38 = .ok (.iload_n 2, 1) := by decide +kernel
theorem dX8_comes_39 : decode cX8_comes 39 = .ok (.invokevirtual 200, 3) := by decide +kernel
theorem dX8_comes_42 : decode cX8_comes 42 = .ok (.aload_n 0, 1) := by decide +kernel
theorem dX8_comes_43 : decode cX8_comes 43 = .ok (.getfield 79, 3) := by decide +kernel
theorem dX8_comes_46 : decode cX8_comes 46 = .ok (.aload_n 0, 1) := by decide +kernel
theorem dX8_comes_47 : decode cX8_comes 47 = .ok (.getfield 86, 3) := by decide +kernel
theorem dX8_comes_50 : decode cX8_comes 50 = .ok (.invokevirtual 217, 3) := by decide +kernel
theorem dX8_comes_53 : decode cX8_comes 53 = .ok (.aload_n 0, 1) := by decide +kernel
theorem dX8_comes_54 : decode cX8_comes 54 = .ok (.getfield 79, 3) := by decide +kernel
theorem dX8_comes_57 : decode cX8_comes 57 = .ok (.invokevirtual 207, 3) := by decide +kernel
theorem dX8_comes_60 : decode cX8_comes 60 = .ok (.iload 4, 2) := by decide +kernel
theorem dX8_comes_62 : decode cX8_comes 62 = .ok (.invokestatic 210, 3) := by decide +kernel
theorem dX8_comes_65 : decode cX8_comes 65 = .ok (.lreturn, 1) := by decide +kernel
theorem sX8_214 {p : Program} {l : Launch} {e : Env} {R : Room} {s : State} {m : MethodId} {args : Array Value} {below : List Frame} {meth : Method} {c : Code} {H : Heap} {locs : List Loc} {cells slots : Nat} {Q : State → Prop} {cc : ByteArray} {pc nL : Nat} {ls : Array Slot} {rest : List Value} {ret : Option FieldType}  {G : xG} {β : Nat} {D : Nat → Prop} {x x' : XS} {a1 : Int32} {r : Int32} (C : Cx p s m args meth c RX8 cc nL ret (KK G)) (h : fX8_readOrder x a1 = some (r, x')) (hw : CW β D G x H) (hS : va_S D s.heap H locs) (hsz : ls.size = nL) (hW : (rest.map fun v => v.category).sum ≤ 8) (hR : 4 ≤ R.frames) (hR2 : 91 ≤ R.locals) (hcs : cells ≤ R.cells ∧ slots ≤ R.slots) (hd : decode cc pc = .ok (.invokevirtual 214, 3)) (kk : ∀ (H1 : Heap) (locs1 : List Loc), CW β D G x' H1 → va_S D s.heap H1 locs1 → W p l e R s m args below meth c H1 locs1 cells slots Q (F0 m (pc + 3) ls (.int r :: rest))) : W p l e R s m args below meth c H locs cells slots Q (F0 m pc ls (.int a1 :: .ref β :: rest)) := by
  exact xcallV C (As := [.int a1]) (rest := rest) (nA := 1) (ci := 8) (kX8_readOrder h) (tg 638 (by decide +kernel) rfl) (tg 640 (by decide +kernel) rfl) (sg (List.mem_of_getElem? (i := 37) (by decide +kernel)) rfl) (tg 1 (by decide +kernel) rfl) (tg 641 (by decide +kernel) rfl) ⟨rfl, by decide +kernel, by decide +kernel, by decide +kernel⟩ rfl rfl rfl ⟨hR, hR2⟩ (hw.2.2.1 0 (by decide)) hw hS (fun _ q => q) rfl rfl hsz hW hd hcs (fun H1 locs1 hw hz hk hS => kk H1 locs1 hw hS)
theorem sX8_217 {p : Program} {l : Launch} {e : Env} {R : Room} {s : State} {m : MethodId} {args : Array Value} {below : List Frame} {meth : Method} {c : Code} {H : Heap} {locs : List Loc} {cells slots : Nat} {Q : State → Prop} {cc : ByteArray} {pc nL : Nat} {ls : Array Slot} {rest : List Value} {ret : Option FieldType}  {G : xG} {β : Nat} {D : Nat → Prop} {x x' : XS} {r : Int32} (C : Cx p s m args meth c RX8 cc nL ret (KK G)) (h : fX0_casesInOrder x = some (r, x')) (hw : CW β D G x H) (hS : va_S D s.heap H locs) (hsz : ls.size = nL) (hW : (rest.map fun v => v.category).sum ≤ 8) (hR : 3 ≤ R.frames) (hR2 : 88 ≤ R.locals) (hcs : cells ≤ R.cells ∧ slots ≤ R.slots) (hd : decode cc pc = .ok (.invokevirtual 217, 3)) (kk : ∀ (H1 : Heap) (locs1 : List Loc), CW β D G x' H1 → va_S D s.heap H1 locs1 → W p l e R s m args below meth c H1 locs1 cells slots Q (F0 m (pc + 3) ls (.int r :: rest))) : W p l e R s m args below meth c H locs cells slots Q (F0 m pc ls (.ref (β + 23) :: .ref (β + 16) :: rest)) := by
  exact xcallV C (As := [.ref (β + 23)]) (rest := rest) (nA := 1) (ci := 0) (kX0_casesInOrder h) (tg 645 (by decide +kernel) rfl) (tg 646 (by decide +kernel) rfl) (tg 647 (by decide +kernel) rfl) (tg 5 (by decide +kernel) rfl) (tg 648 (by decide +kernel) rfl) ⟨rfl, by decide +kernel, by decide +kernel, by decide +kernel⟩ rfl rfl rfl ⟨hR, hR2⟩ (hw.2.2.1 16 (by decide)) hw hS (fun _ q => q) rfl rfl hsz hW hd hcs (fun H1 locs1 hw hz hk hS => kk H1 locs1 hw hS)
def fX8_comes (x : XS) (a1 : Int32) (a2 : Int32) (a3 : Int32) (a4 : Int32) : Option (Int64 × XS) := Option.bind (fX8_isField x a1) fun v1 => if v1 = true then Option.bind (fX8_isWhen a2) fun v3 => if v3 = true then bind2 (fX8_readOrder x a3) fun v5 x6 => if v5 = a1 then Option.bind (fX8_isPart a4) fun v8 => if v8 = true then Option.bind (fX8_enter x6 a1 a2) fun x10 => bind2 (fX0_casesInOrder x10) fun v12 x13 => Option.bind (fX0_cases x13) fun v15 => Option.bind (fX8_inLowestTerms v12 v15 a4) fun v17 => some (v17, x13) else some ((-4611686018427387904), x6) else some ((-4611686018427387904), x6) else some ((-4611686018427387904), x) else some ((-4611686018427387904), x)
abbrev rmX8_comes : Room := { frames := 6, cells := 0, slots := 0, locals := 135 }
set_option maxHeartbeats 4000000 in
set_option maxRecDepth 100000 in
theorem kX8_comes {l : Launch} {G : xG} {β : Nat} {D : Nat → Prop} {x x' : XS} {a1 : Int32} {a2 : Int32} {a3 : Int32} {a4 : Int32} {r : Int64} (hm : fX8_comes x a1 a2 a3 a4 = some (r, x')) : Met l yX8_comes (.code yX8_comes cX8_comes 5 (some .long) :: GT) rmX8_comes (PcW [.ref β, .int a1, .int a2, .int a3, .int a4] (CW β D G x) (KK G)) (QcW D (some (.long r)) (CW β D G x')) 0 0 D := by
  unfold fX8_comes at hm
  refine xpro (own := RX8) (by decide +kernel) rfl (Nat.le_of_ble_eq_true rfl) ?_
  intro p e s m args below meth c C hw ls hl
  have hx := C.1
  have hb := C.2.1
  have ho := C.2.2.2.1
  have hts := C.2.2.2.2.1
  have hf : Fz D G s.heap := hw.2.2.2.2
  have hS : va_S D s.heap s.heap [] := va_S.rf
  have hl : lv_has ls 5 [(0, .ref β), (1, .int a1), (2, .int a2), (3, .int a3), (4, .int a4)] := hl
  have hRf : 6 ≤ rmX8_comes.frames := Nat.le_refl _
  have hRl : 135 ≤ rmX8_comes.locals := Nat.le_refl _
  have hcs : 0 ≤ rmX8_comes.cells ∧ 0 ≤ rmX8_comes.slots := ⟨Nat.le_refl _, Nat.le_refl _⟩
  refine lv_aload_n hx hb dX8_comes_0 rfl (lv_at hl 0 rfl) ?_
  refine lv_iload_n hx hb dX8_comes_1 rfl (lv_at hl 1 rfl) ?_
  obtain ⟨v1, h2, hm⟩ := bind_e hm
  refine sX8_187 C h2 hw hS hl.1 (Nat.le_of_ble_eq_true rfl) (Nat.le_trans (Nat.le_of_ble_eq_true rfl) hRf) (Nat.le_trans (Nat.le_of_ble_eq_true rfl) hRl) hcs dX8_comes_2 (fun H locs hw hS => ?_)
  refine x_ifeqB hx hb dX8_comes_5 (tgt := 32) (by decide) (fun cc => ?_) (fun cc => ?_)
  · replace hm := ite_n cc hm
    refine lv_ldc2 (v := (-4611686018427387904)) hx hb ho (hts (.constantLong RX8 157 (-4611686018427387904)) (tg 476 (by decide +kernel) rfl)) dX8_comes_32 ?_
    obtain ⟨rfl, rfl⟩ := inj2 hm
    exact xret_l C hw hS dX8_comes_35
  · replace hm := ite_p cc hm
    refine lv_iload_n hx hb dX8_comes_8 rfl (lv_at hl 2 rfl) ?_
    obtain ⟨v3, h4, hm⟩ := bind_e hm
    refine sX8_190 C h4 hw hS hl.1 (Nat.le_of_ble_eq_true rfl) (Nat.le_trans (Nat.le_of_ble_eq_true rfl) hRf) (Nat.le_trans (Nat.le_of_ble_eq_true rfl) hRl) hcs dX8_comes_9 (fun H locs hw hS => ?_)
    refine x_ifeqB hx hb dX8_comes_12 (tgt := 32) (by decide) (fun cc => ?_) (fun cc => ?_)
    · replace hm := ite_n cc hm
      refine lv_ldc2 (v := (-4611686018427387904)) hx hb ho (hts (.constantLong RX8 157 (-4611686018427387904)) (tg 476 (by decide +kernel) rfl)) dX8_comes_32 ?_
      obtain ⟨rfl, rfl⟩ := inj2 hm
      exact xret_l C hw hS dX8_comes_35
    · replace hm := ite_p cc hm
      refine lv_aload_n hx hb dX8_comes_15 rfl (lv_at hl 0 rfl) ?_
      refine lv_iload_n hx hb dX8_comes_16 rfl (lv_at hl 3 rfl) ?_
      obtain ⟨v5, x6, h7, hm⟩ := bind2_e hm
      refine sX8_214 C h7 hw hS hl.1 (Nat.le_of_ble_eq_true rfl) (Nat.le_trans (Nat.le_of_ble_eq_true rfl) hRf) (Nat.le_trans (Nat.le_of_ble_eq_true rfl) hRl) hcs dX8_comes_17 (fun H locs hw hS => ?_)
      refine lv_iload_n hx hb dX8_comes_20 rfl (lv_at hl 1 rfl) ?_
      refine lv_icmp_ne (tgt := 32) hx hb dX8_comes_21 (by decide) (fun cc => ?_) (fun cc => ?_)
      · replace hm := ite_n cc hm
        refine lv_ldc2 (v := (-4611686018427387904)) hx hb ho (hts (.constantLong RX8 157 (-4611686018427387904)) (tg 476 (by decide +kernel) rfl)) dX8_comes_32 ?_
        obtain ⟨rfl, rfl⟩ := inj2 hm
        exact xret_l C hw hS dX8_comes_35
      · replace hm := ite_p cc hm
        refine lv_iload hx hb dX8_comes_24 (lv_at hl 4 rfl) ?_
        obtain ⟨v8, h9, hm⟩ := bind_e hm
        refine sX8_197 C h9 hw hS hl.1 (Nat.le_of_ble_eq_true rfl) (Nat.le_trans (Nat.le_of_ble_eq_true rfl) hRf) (Nat.le_trans (Nat.le_of_ble_eq_true rfl) hRl) hcs dX8_comes_26 (fun H locs hw hS => ?_)
        refine x_ifneB hx hb dX8_comes_29 (tgt := 36) (by decide) (fun cc => ?_) (fun cc => ?_)
        · replace hm := ite_p cc hm
          refine lv_aload_n hx hb dX8_comes_36 rfl (lv_at hl 0 rfl) ?_
          refine lv_iload_n hx hb dX8_comes_37 rfl (lv_at hl 1 rfl) ?_
          refine lv_iload_n hx hb dX8_comes_38 rfl (lv_at hl 2 rfl) ?_
          obtain ⟨x10, h11, hm⟩ := bind_e hm
          refine sX8_200 C h11 hw hS hl.1 (Nat.le_of_ble_eq_true rfl) (Nat.le_trans (Nat.le_of_ble_eq_true rfl) hRf) (Nat.le_trans (Nat.le_of_ble_eq_true rfl) hRl) hcs dX8_comes_39 (fun H locs hw hS => ?_)
          refine lv_aload_n hx hb dX8_comes_42 rfl (lv_at hl 0 rfl) ?_
          refine gX8_79 C hw dX8_comes_43 ?_
          refine lv_aload_n hx hb dX8_comes_46 rfl (lv_at hl 0 rfl) ?_
          refine gX8_86 C hw dX8_comes_47 ?_
          obtain ⟨v12, x13, h14, hm⟩ := bind2_e hm
          refine sX8_217 C h14 hw hS hl.1 (Nat.le_of_ble_eq_true rfl) (Nat.le_trans (Nat.le_of_ble_eq_true rfl) hRf) (Nat.le_trans (Nat.le_of_ble_eq_true rfl) hRl) hcs dX8_comes_50 (fun H locs hw hS => ?_)
          refine lv_aload_n hx hb dX8_comes_53 rfl (lv_at hl 0 rfl) ?_
          refine gX8_79 C hw dX8_comes_54 ?_
          obtain ⟨v15, h16, hm⟩ := bind_e hm
          refine sX8_207 C h16 hw hS hl.1 (Nat.le_of_ble_eq_true rfl) (Nat.le_trans (Nat.le_of_ble_eq_true rfl) hRf) (Nat.le_trans (Nat.le_of_ble_eq_true rfl) hRl) hcs dX8_comes_57 (fun H locs hw hS => ?_)
          refine lv_iload hx hb dX8_comes_60 (lv_at hl 4 rfl) ?_
          obtain ⟨v17, h18, hm⟩ := bind_e hm
          refine sX8_210 C h18 hw hS hl.1 (Nat.le_of_ble_eq_true rfl) (Nat.le_trans (Nat.le_of_ble_eq_true rfl) hRf) (Nat.le_trans (Nat.le_of_ble_eq_true rfl) hRl) hcs dX8_comes_62 (fun H locs hw hS => ?_)
          obtain ⟨rfl, rfl⟩ := inj2 hm
          exact xret_l C hw hS dX8_comes_65
        · replace hm := ite_n cc hm
          refine lv_ldc2 (v := (-4611686018427387904)) hx hb ho (hts (.constantLong RX8 157 (-4611686018427387904)) (tg 476 (by decide +kernel) rfl)) dX8_comes_32 ?_
          obtain ⟨rfl, rfl⟩ := inj2 hm
          exact xret_l C hw hS dX8_comes_35
theorem dX8_worse_0 : decode cX8_worse 0 = .ok (.aload_n 0, 1) := by decide +kernel
theorem dX8_worse_1 : decode cX8_worse 1 = .ok (.iload_n 1, 1) := by decide +kernel
theorem dX8_worse_2 : decode cX8_worse 2 = .ok (.invokevirtual 187, 3) := by decide +kernel
theorem dX8_worse_5 : decode cX8_worse 5 = .ok (.ifCond .eq 37, 3) := by decide +kernel
theorem dX8_worse_8 : decode cX8_worse 8 = .ok (.iload_n 2, 1) := by decide +kernel
theorem dX8_worse_9 : decode cX8_worse 9 = .ok (.invokestatic 190, 3) := by decide +kernel
theorem dX8_worse_12 : decode cX8_worse 12 = .ok (.ifCond .eq 30, 3) := by decide +kernel
theorem dX8_worse_15 : decode cX8_worse 15 = .ok (.aload_n 0, 1) := by decide +kernel
theorem dX8_worse_16 : decode cX8_worse 16 = .ok (.iload_n 1, 1) := by decide +kernel
theorem dX8_worse_17 : decode cX8_worse 17 = .ok (.iload_n 3, 1) := by decide +kernel
theorem dX8_worse_18 : decode cX8_worse 18 = .ok (.invokevirtual 193, 3) := by decide +kernel
theorem dX8_worse_21 : decode cX8_worse 21 = .ok (.ifCond .eq 21, 3) := by decide +kernel
theorem dX8_worse_24 : decode cX8_worse 24 = .ok (.iload 4, 2) := by decide +kernel
theorem dX8_worse_26 : decode cX8_worse 26 = .ok (.iconst 1, 1) := by decide +kernel
theorem dX8_worse_27 : decode cX8_worse 27 = .ok (.iconst 4, 1) := by decide +kernel
theorem dX8_worse_28 : decode cX8_worse 28 = .ok (.invokestatic 138, 3) := by decide +kernel
theorem dX8_worse_31 : decode cX8_worse 31 = .ok (.ifCond .eq 11, 3) := by decide +kernel
theorem dX8_worse_34 : decode cX8_worse 34 = .ok (.iload 5, 2) := by decide +kernel
theorem dX8_worse_36 : decode cX8_worse 36 = .ok (.invokestatic 197, 3) := by decide +kernel
theorem dX8_worse_39 : decode cX8_worse 39 = .ok (.ifCond .ne 7, 3) := by decide +kernel
theorem dX8_worse_42 : decode cX8_worse 42 = .ok (.ldc2_w 157, 3) := by decide +kernel
theorem dX8_worse_45 : decode cX8_worse 45 = .ok (.lreturn, 1) := by decide +kernel
theorem dX8_worse_46 : decode cX8_worse 46 = .ok (.aload_n 0, 1) := by decide +kernel
theorem dX8_worse_47 : decode cX8_worse 47 = .ok (.iload_n 1, 1) := by decide +kernel
theorem dX8_worse_48 : decode cX8_worse 48 = .ok (.iload_n 2, 1) := by decide +kernel
theorem dX8_worse_49 : decode cX8_worse 49 = .ok (.invokevirtual 200, 3) := by decide +kernel
theorem dX8_worse_52 : decode cX8_worse 52 = .ok (.aload_n 0, 1) := by decide +kernel
theorem dX8_worse_53 : decode cX8_worse 53 = .ok (.getfield 79, 3) := by decide +kernel
theorem dX8_worse_56 : decode cX8_worse 56 = .ok (.iload_n 3, 1) := by decide +kernel
theorem dX8_worse_57 : decode cX8_worse 57 = .ok (.iload 4, 2) := by decide +kernel
theorem dX8_worse_59 : decode cX8_worse 59 = .ok (.invokevirtual 221, 3) := by decide +kernel
theorem dX8_worse_62 : decode cX8_worse 62 = .ok (.aload_n 0, 1) := by decide +kernel
theorem dX8_worse_63 : decode cX8_worse 63 = .ok (.getfield 79, 3) := by decide +kernel
theorem dX8_worse_66 : decode cX8_worse 66 = .ok (.invokevirtual 207, 3) := by decide +kernel
theorem dX8_worse_69 : decode cX8_worse 69 = .ok (.iload 5, 2) := by decide +kernel
theorem dX8_worse_71 : decode cX8_worse 71 = .ok (.invokestatic 210, 3) := by decide +kernel
theorem dX8_worse_74 : decode cX8_worse 74 = .ok (.lreturn, 1) := by decide +kernel
theorem sX8_221 {p : Program} {l : Launch} {e : Env} {R : Room} {s : State} {m : MethodId} {args : Array Value} {below : List Frame} {meth : Method} {c : Code} {H : Heap} {locs : List Loc} {cells slots : Nat} {Q : State → Prop} {cc : ByteArray} {pc nL : Nat} {ls : Array Slot} {rest : List Value} {ret : Option FieldType}  {G : xG} {β : Nat} {D : Nat → Prop} {x x' : XS} {a1 : Int32} {a2 : Int32} {r : Int32} (C : Cx p s m args meth c RX8 cc nL ret (KK G)) (h : fX0_casesBehind x a1 a2 = some (r, x')) (hw : CW β D G x H) (hS : va_S D s.heap H locs) (hsz : ls.size = nL) (hW : (rest.map fun v => v.category).sum ≤ 8) (hR : 4 ≤ R.frames) (hR2 : 94 ≤ R.locals) (hcs : cells ≤ R.cells ∧ slots ≤ R.slots) (hd : decode cc pc = .ok (.invokevirtual 221, 3)) (kk : ∀ (H1 : Heap) (locs1 : List Loc), CW β D G x' H1 → va_S D s.heap H1 locs1 → W p l e R s m args below meth c H1 locs1 cells slots Q (F0 m (pc + 3) ls (.int r :: rest))) : W p l e R s m args below meth c H locs cells slots Q (F0 m pc ls (.int a2 :: .int a1 :: .ref (β + 16) :: rest)) := by
  exact xcallV C (As := [.int a1, .int a2]) (rest := rest) (nA := 2) (ci := 0) (kX0_casesBehind h) (tg 660 (by decide +kernel) rfl) (tg 661 (by decide +kernel) rfl) (tg 662 (by decide +kernel) rfl) (tg 5 (by decide +kernel) rfl) (tg 663 (by decide +kernel) rfl) ⟨rfl, by decide +kernel, by decide +kernel, by decide +kernel⟩ rfl rfl rfl ⟨hR, hR2⟩ (hw.2.2.1 16 (by decide)) hw hS (fun _ q => q) rfl rfl hsz hW hd hcs (fun H1 locs1 hw hz hk hS => kk H1 locs1 hw hS)
def fX8_worse (x : XS) (a1 : Int32) (a2 : Int32) (a3 : Int32) (a4 : Int32) (a5 : Int32) : Option (Int64 × XS) := Option.bind (fX8_isField x a1) fun v1 => if v1 = true then Option.bind (fX8_isWhen a2) fun v3 => if v3 = true then Option.bind (fX8_isIn x a1 a3) fun v5 => if v5 = true then Option.bind (fX8_isWithin a4 1 4) fun v7 => if v7 = true then Option.bind (fX8_isPart a5) fun v9 => if v9 = true then Option.bind (fX8_enter x a1 a2) fun x11 => bind2 (fX0_casesBehind x11 a3 a4) fun v13 x14 => Option.bind (fX0_cases x14) fun v16 => Option.bind (fX8_inLowestTerms v13 v16 a5) fun v18 => some (v18, x14) else some ((-4611686018427387904), x) else some ((-4611686018427387904), x) else some ((-4611686018427387904), x) else some ((-4611686018427387904), x) else some ((-4611686018427387904), x)
abbrev rmX8_worse : Room := { frames := 6, cells := 0, slots := 0, locals := 135 }
set_option maxHeartbeats 4000000 in
set_option maxRecDepth 100000 in
theorem kX8_worse {l : Launch} {G : xG} {β : Nat} {D : Nat → Prop} {x x' : XS} {a1 : Int32} {a2 : Int32} {a3 : Int32} {a4 : Int32} {a5 : Int32} {r : Int64} (hm : fX8_worse x a1 a2 a3 a4 a5 = some (r, x')) : Met l yX8_worse (.code yX8_worse cX8_worse 6 (some .long) :: GT) rmX8_worse (PcW [.ref β, .int a1, .int a2, .int a3, .int a4, .int a5] (CW β D G x) (KK G)) (QcW D (some (.long r)) (CW β D G x')) 0 0 D := by
  unfold fX8_worse at hm
  refine xpro (own := RX8) (by decide +kernel) rfl (Nat.le_of_ble_eq_true rfl) ?_
  intro p e s m args below meth c C hw ls hl
  have hx := C.1
  have hb := C.2.1
  have ho := C.2.2.2.1
  have hts := C.2.2.2.2.1
  have hf : Fz D G s.heap := hw.2.2.2.2
  have hS : va_S D s.heap s.heap [] := va_S.rf
  have hl : lv_has ls 6 [(0, .ref β), (1, .int a1), (2, .int a2), (3, .int a3), (4, .int a4), (5, .int a5)] := hl
  have hRf : 6 ≤ rmX8_worse.frames := Nat.le_refl _
  have hRl : 135 ≤ rmX8_worse.locals := Nat.le_refl _
  have hcs : 0 ≤ rmX8_worse.cells ∧ 0 ≤ rmX8_worse.slots := ⟨Nat.le_refl _, Nat.le_refl _⟩
  refine lv_aload_n hx hb dX8_worse_0 rfl (lv_at hl 0 rfl) ?_
  refine lv_iload_n hx hb dX8_worse_1 rfl (lv_at hl 1 rfl) ?_
  obtain ⟨v1, h2, hm⟩ := bind_e hm
  refine sX8_187 C h2 hw hS hl.1 (Nat.le_of_ble_eq_true rfl) (Nat.le_trans (Nat.le_of_ble_eq_true rfl) hRf) (Nat.le_trans (Nat.le_of_ble_eq_true rfl) hRl) hcs dX8_worse_2 (fun H locs hw hS => ?_)
  refine x_ifeqB hx hb dX8_worse_5 (tgt := 42) (by decide) (fun cc => ?_) (fun cc => ?_)
  · replace hm := ite_n cc hm
    refine lv_ldc2 (v := (-4611686018427387904)) hx hb ho (hts (.constantLong RX8 157 (-4611686018427387904)) (tg 476 (by decide +kernel) rfl)) dX8_worse_42 ?_
    obtain ⟨rfl, rfl⟩ := inj2 hm
    exact xret_l C hw hS dX8_worse_45
  · replace hm := ite_p cc hm
    refine lv_iload_n hx hb dX8_worse_8 rfl (lv_at hl 2 rfl) ?_
    obtain ⟨v3, h4, hm⟩ := bind_e hm
    refine sX8_190 C h4 hw hS hl.1 (Nat.le_of_ble_eq_true rfl) (Nat.le_trans (Nat.le_of_ble_eq_true rfl) hRf) (Nat.le_trans (Nat.le_of_ble_eq_true rfl) hRl) hcs dX8_worse_9 (fun H locs hw hS => ?_)
    refine x_ifeqB hx hb dX8_worse_12 (tgt := 42) (by decide) (fun cc => ?_) (fun cc => ?_)
    · replace hm := ite_n cc hm
      refine lv_ldc2 (v := (-4611686018427387904)) hx hb ho (hts (.constantLong RX8 157 (-4611686018427387904)) (tg 476 (by decide +kernel) rfl)) dX8_worse_42 ?_
      obtain ⟨rfl, rfl⟩ := inj2 hm
      exact xret_l C hw hS dX8_worse_45
    · replace hm := ite_p cc hm
      refine lv_aload_n hx hb dX8_worse_15 rfl (lv_at hl 0 rfl) ?_
      refine lv_iload_n hx hb dX8_worse_16 rfl (lv_at hl 1 rfl) ?_
      refine lv_iload_n hx hb dX8_worse_17 rfl (lv_at hl 3 rfl) ?_
      obtain ⟨v5, h6, hm⟩ := bind_e hm
      refine sX8_193 C h6 hw hS hl.1 (Nat.le_of_ble_eq_true rfl) (Nat.le_trans (Nat.le_of_ble_eq_true rfl) hRf) (Nat.le_trans (Nat.le_of_ble_eq_true rfl) hRl) hcs dX8_worse_18 (fun H locs hw hS => ?_)
      refine x_ifeqB hx hb dX8_worse_21 (tgt := 42) (by decide) (fun cc => ?_) (fun cc => ?_)
      · replace hm := ite_n cc hm
        refine lv_ldc2 (v := (-4611686018427387904)) hx hb ho (hts (.constantLong RX8 157 (-4611686018427387904)) (tg 476 (by decide +kernel) rfl)) dX8_worse_42 ?_
        obtain ⟨rfl, rfl⟩ := inj2 hm
        exact xret_l C hw hS dX8_worse_45
      · replace hm := ite_p cc hm
        refine lv_iload hx hb dX8_worse_24 (lv_at hl 4 rfl) ?_
        refine lv_iconst (v := 1) hx hb dX8_worse_26 (by decide) ?_
        refine lv_iconst (v := 4) hx hb dX8_worse_27 (by decide) ?_
        obtain ⟨v7, h8, hm⟩ := bind_e hm
        refine sX8_138 C h8 hw hS hl.1 (Nat.le_of_ble_eq_true rfl) (Nat.le_trans (Nat.le_of_ble_eq_true rfl) hRf) (Nat.le_trans (Nat.le_of_ble_eq_true rfl) hRl) hcs dX8_worse_28 (fun H locs hw hS => ?_)
        refine x_ifeqB hx hb dX8_worse_31 (tgt := 42) (by decide) (fun cc => ?_) (fun cc => ?_)
        · replace hm := ite_n cc hm
          refine lv_ldc2 (v := (-4611686018427387904)) hx hb ho (hts (.constantLong RX8 157 (-4611686018427387904)) (tg 476 (by decide +kernel) rfl)) dX8_worse_42 ?_
          obtain ⟨rfl, rfl⟩ := inj2 hm
          exact xret_l C hw hS dX8_worse_45
        · replace hm := ite_p cc hm
          refine lv_iload hx hb dX8_worse_34 (lv_at hl 5 rfl) ?_
          obtain ⟨v9, h10, hm⟩ := bind_e hm
          refine sX8_197 C h10 hw hS hl.1 (Nat.le_of_ble_eq_true rfl) (Nat.le_trans (Nat.le_of_ble_eq_true rfl) hRf) (Nat.le_trans (Nat.le_of_ble_eq_true rfl) hRl) hcs dX8_worse_36 (fun H locs hw hS => ?_)
          refine x_ifneB hx hb dX8_worse_39 (tgt := 46) (by decide) (fun cc => ?_) (fun cc => ?_)
          · replace hm := ite_p cc hm
            refine lv_aload_n hx hb dX8_worse_46 rfl (lv_at hl 0 rfl) ?_
            refine lv_iload_n hx hb dX8_worse_47 rfl (lv_at hl 1 rfl) ?_
            refine lv_iload_n hx hb dX8_worse_48 rfl (lv_at hl 2 rfl) ?_
            obtain ⟨x11, h12, hm⟩ := bind_e hm
            refine sX8_200 C h12 hw hS hl.1 (Nat.le_of_ble_eq_true rfl) (Nat.le_trans (Nat.le_of_ble_eq_true rfl) hRf) (Nat.le_trans (Nat.le_of_ble_eq_true rfl) hRl) hcs dX8_worse_49 (fun H locs hw hS => ?_)
            refine lv_aload_n hx hb dX8_worse_52 rfl (lv_at hl 0 rfl) ?_
            refine gX8_79 C hw dX8_worse_53 ?_
            refine lv_iload_n hx hb dX8_worse_56 rfl (lv_at hl 3 rfl) ?_
            refine lv_iload hx hb dX8_worse_57 (lv_at hl 4 rfl) ?_
            obtain ⟨v13, x14, h15, hm⟩ := bind2_e hm
            refine sX8_221 C h15 hw hS hl.1 (Nat.le_of_ble_eq_true rfl) (Nat.le_trans (Nat.le_of_ble_eq_true rfl) hRf) (Nat.le_trans (Nat.le_of_ble_eq_true rfl) hRl) hcs dX8_worse_59 (fun H locs hw hS => ?_)
            refine lv_aload_n hx hb dX8_worse_62 rfl (lv_at hl 0 rfl) ?_
            refine gX8_79 C hw dX8_worse_63 ?_
            obtain ⟨v16, h17, hm⟩ := bind_e hm
            refine sX8_207 C h17 hw hS hl.1 (Nat.le_of_ble_eq_true rfl) (Nat.le_trans (Nat.le_of_ble_eq_true rfl) hRf) (Nat.le_trans (Nat.le_of_ble_eq_true rfl) hRl) hcs dX8_worse_66 (fun H locs hw hS => ?_)
            refine lv_iload hx hb dX8_worse_69 (lv_at hl 5 rfl) ?_
            obtain ⟨v18, h19, hm⟩ := bind_e hm
            refine sX8_210 C h19 hw hS hl.1 (Nat.le_of_ble_eq_true rfl) (Nat.le_trans (Nat.le_of_ble_eq_true rfl) hRf) (Nat.le_trans (Nat.le_of_ble_eq_true rfl) hRl) hcs dX8_worse_71 (fun H locs hw hS => ?_)
            obtain ⟨rfl, rfl⟩ := inj2 hm
            exact xret_l C hw hS dX8_worse_74
          · replace hm := ite_n cc hm
            refine lv_ldc2 (v := (-4611686018427387904)) hx hb ho (hts (.constantLong RX8 157 (-4611686018427387904)) (tg 476 (by decide +kernel) rfl)) dX8_worse_42 ?_
            obtain ⟨rfl, rfl⟩ := inj2 hm
            exact xret_l C hw hS dX8_worse_45
theorem dX8_even_0 : decode cX8_even 0 = .ok (.aload_n 0, 1) := by decide +kernel
theorem dX8_even_1 : decode cX8_even 1 = .ok (.iload_n 1, 1) := by decide +kernel
theorem dX8_even_2 : decode cX8_even 2 = .ok (.invokevirtual 187, 3) := by decide +kernel
theorem dX8_even_5 : decode cX8_even 5 = .ok (.ifCond .eq 17, 3) := by decide +kernel
theorem dX8_even_8 : decode cX8_even 8 = .ok (.iload_n 2, 1) := by decide +kernel
theorem dX8_even_9 : decode cX8_even 9 = .ok (.invokestatic 190, 3) := by decide +kernel
theorem dX8_even_12 : decode cX8_even 12 = .ok (.ifCond .eq 10, 3) := by decide +kernel
theorem dX8_even_15 : decode cX8_even 15 = .ok (.iload_n 3, 1) := by decide +kernel
theorem dX8_even_16 : decode cX8_even 16 = .ok (.invokestatic 197, 3) := by decide +kernel
theorem dX8_even_19 : decode cX8_even 19 = .ok (.ifCond .ne 7, 3) := by decide +kernel
theorem dX8_even_22 : decode cX8_even 22 = .ok (.ldc2_w 157, 3) := by decide +kernel
theorem dX8_even_25 : decode cX8_even 25 = .ok (.lreturn, 1) := by decide +kernel
theorem dX8_even_26 : decode cX8_even 26 = .ok (.aload_n 0, 1) := by decide +kernel
theorem dX8_even_27 : decode cX8_even 27 = .ok (.iload_n 1, 1) := by decide +kernel
theorem dX8_even_28 : decode cX8_even 28 = .ok (.iload_n 2, 1) := by decide +kernel
theorem dX8_even_29 : decode cX8_even 29 = .ok (.invokevirtual 200, 3) := by decide +kernel
theorem dX8_even_32 : decode cX8_even 32 = .ok (.aload_n 0, 1) := by decide +kernel
theorem dX8_even_33 : decode cX8_even 33 = .ok (.getfield 79, 3) := by decide +kernel
theorem dX8_even_36 : decode cX8_even 36 = .ok (.invokevirtual 224, 3) := by decide +kernel
theorem dX8_even_39 : decode cX8_even 39 = .ok (.aload_n 0, 1) := by decide +kernel
theorem dX8_even_40 : decode cX8_even 40 = .ok (.getfield 79, 3) := by decide +kernel
theorem dX8_even_43 : decode cX8_even 43 = .ok (.invokevirtual 227, 3) := by decide +kernel
theorem dX8_even_46 : decode cX8_even 46 = .ok (.bipush 60, 2) := by decide +kernel
theorem dX8_even_48 : decode cX8_even 48 = .ok (.aload_n 0, 1) := by decide +kernel
theorem dX8_even_49 : decode cX8_even 49 = .ok (.getfield 79, 3) := by decide +kernel
theorem dX8_even_52 : decode cX8_even 52 = .ok (.invokevirtual 207, 3) := by decide +kernel
theorem dX8_even_55 : decode cX8_even 55 = .ok (.imul, 1) := by decide +kernel
theorem dX8_even_56 : decode cX8_even 56 = .ok (.iload_n 3, 1) := by decide +kernel
theorem dX8_even_57 : decode cX8_even 57 = .ok (.invokestatic 210, 3) := by decide +kernel
theorem dX8_even_60 : decode cX8_even 60 = .ok (.lreturn, 1) := by decide +kernel
theorem sX8_224 {p : Program} {l : Launch} {e : Env} {R : Room} {s : State} {m : MethodId} {args : Array Value} {below : List Frame} {meth : Method} {c : Code} {H : Heap} {locs : List Loc} {cells slots : Nat} {Q : State → Prop} {cc : ByteArray} {pc nL : Nat} {ls : Array Slot} {rest : List Value} {ret : Option FieldType}  {G : xG} {β : Nat} {D : Nat → Prop} {x x' : XS} (C : Cx p s m args meth c RX8 cc nL ret (KK G)) (h : fX0_shareOut x = some x') (hw : CW β D G x H) (hS : va_S D s.heap H locs) (hsz : ls.size = nL) (hW : (rest.map fun v => v.category).sum ≤ 8) (hR : 5 ≤ R.frames) (hR2 : 114 ≤ R.locals) (hcs : cells ≤ R.cells ∧ slots ≤ R.slots) (hd : decode cc pc = .ok (.invokevirtual 224, 3)) (kk : ∀ (H1 : Heap) (locs1 : List Loc), CW β D G x' H1 → va_S D s.heap H1 locs1 → W p l e R s m args below meth c H1 locs1 cells slots Q (F0 m (pc + 3) ls (rest))) : W p l e R s m args below meth c H locs cells slots Q (F0 m pc ls (.ref (β + 16) :: rest)) := by
  exact xcallV C (As := []) (rest := rest) (nA := 0) (ci := 0) (kX0_shareOut h) (tg 668 (by decide +kernel) rfl) (tg 669 (by decide +kernel) rfl) (tg 670 (by decide +kernel) rfl) (tg 5 (by decide +kernel) rfl) (tg 671 (by decide +kernel) rfl) ⟨rfl, by decide +kernel, by decide +kernel, by decide +kernel⟩ rfl rfl rfl ⟨hR, hR2⟩ (hw.2.2.1 16 (by decide)) hw hS (fun _ q => q) rfl rfl hsz hW hd hcs (fun H1 locs1 hw hz hk hS => kk H1 locs1 hw hS)
theorem sX8_227 {p : Program} {l : Launch} {e : Env} {R : Room} {s : State} {m : MethodId} {args : Array Value} {below : List Frame} {meth : Method} {c : Code} {H : Heap} {locs : List Loc} {cells slots : Nat} {Q : State → Prop} {cc : ByteArray} {pc nL : Nat} {ls : Array Slot} {rest : List Value} {ret : Option FieldType}  {G : xG} {β : Nat} {D : Nat → Prop} {x : XS} {r : Int32} (C : Cx p s m args meth c RX8 cc nL ret (KK G)) (h : fX0_gap x = some r) (hw : CW β D G x H) (hS : va_S D s.heap H locs) (hsz : ls.size = nL) (hW : (rest.map fun v => v.category).sum ≤ 8) (hR : 3 ≤ R.frames) (hR2 : 66 ≤ R.locals) (hcs : cells ≤ R.cells ∧ slots ≤ R.slots) (hd : decode cc pc = .ok (.invokevirtual 227, 3)) (kk : ∀ (H1 : Heap) (locs1 : List Loc), CW β D G x H1 → va_S D s.heap H1 locs1 → W p l e R s m args below meth c H1 locs1 cells slots Q (F0 m (pc + 3) ls (.int r :: rest))) : W p l e R s m args below meth c H locs cells slots Q (F0 m pc ls (.ref (β + 16) :: rest)) := by
  exact xcallV C (As := []) (rest := rest) (nA := 0) (ci := 0) (kX0_gap h) (tg 673 (by decide +kernel) rfl) (tg 674 (by decide +kernel) rfl) (tg 675 (by decide +kernel) rfl) (tg 5 (by decide +kernel) rfl) (tg 676 (by decide +kernel) rfl) ⟨rfl, by decide +kernel, by decide +kernel, by decide +kernel⟩ rfl rfl rfl ⟨hR, hR2⟩ (hw.2.2.1 16 (by decide)) hw hS (fun _ q => q) rfl rfl hsz hW hd hcs (fun H1 locs1 hw hz hk hS => kk H1 locs1 hw hS)
def fX8_even (x : XS) (a1 : Int32) (a2 : Int32) (a3 : Int32) : Option (Int64 × XS) := Option.bind (fX8_isField x a1) fun v1 => if v1 = true then Option.bind (fX8_isWhen a2) fun v3 => if v3 = true then Option.bind (fX8_isPart a3) fun v5 => if v5 = true then Option.bind (fX8_enter x a1 a2) fun x7 => Option.bind (fX0_shareOut x7) fun x9 => Option.bind (fX0_gap x9) fun v11 => Option.bind (fX0_cases x9) fun v13 => Option.bind (fX8_inLowestTerms v11 (60 * v13) a3) fun v15 => some (v15, x9) else some ((-4611686018427387904), x) else some ((-4611686018427387904), x) else some ((-4611686018427387904), x)
abbrev rmX8_even : Room := { frames := 6, cells := 0, slots := 0, locals := 135 }
set_option maxHeartbeats 4000000 in
set_option maxRecDepth 100000 in
theorem kX8_even {l : Launch} {G : xG} {β : Nat} {D : Nat → Prop} {x x' : XS} {a1 : Int32} {a2 : Int32} {a3 : Int32} {r : Int64} (hm : fX8_even x a1 a2 a3 = some (r, x')) : Met l yX8_even (.code yX8_even cX8_even 4 (some .long) :: GT) rmX8_even (PcW [.ref β, .int a1, .int a2, .int a3] (CW β D G x) (KK G)) (QcW D (some (.long r)) (CW β D G x')) 0 0 D := by
  unfold fX8_even at hm
  refine xpro (own := RX8) (by decide +kernel) rfl (Nat.le_of_ble_eq_true rfl) ?_
  intro p e s m args below meth c C hw ls hl
  have hx := C.1
  have hb := C.2.1
  have ho := C.2.2.2.1
  have hts := C.2.2.2.2.1
  have hf : Fz D G s.heap := hw.2.2.2.2
  have hS : va_S D s.heap s.heap [] := va_S.rf
  have hl : lv_has ls 4 [(0, .ref β), (1, .int a1), (2, .int a2), (3, .int a3)] := hl
  have hRf : 6 ≤ rmX8_even.frames := Nat.le_refl _
  have hRl : 135 ≤ rmX8_even.locals := Nat.le_refl _
  have hcs : 0 ≤ rmX8_even.cells ∧ 0 ≤ rmX8_even.slots := ⟨Nat.le_refl _, Nat.le_refl _⟩
  refine lv_aload_n hx hb dX8_even_0 rfl (lv_at hl 0 rfl) ?_
  refine lv_iload_n hx hb dX8_even_1 rfl (lv_at hl 1 rfl) ?_
  obtain ⟨v1, h2, hm⟩ := bind_e hm
  refine sX8_187 C h2 hw hS hl.1 (Nat.le_of_ble_eq_true rfl) (Nat.le_trans (Nat.le_of_ble_eq_true rfl) hRf) (Nat.le_trans (Nat.le_of_ble_eq_true rfl) hRl) hcs dX8_even_2 (fun H locs hw hS => ?_)
  refine x_ifeqB hx hb dX8_even_5 (tgt := 22) (by decide) (fun cc => ?_) (fun cc => ?_)
  · replace hm := ite_n cc hm
    refine lv_ldc2 (v := (-4611686018427387904)) hx hb ho (hts (.constantLong RX8 157 (-4611686018427387904)) (tg 476 (by decide +kernel) rfl)) dX8_even_22 ?_
    obtain ⟨rfl, rfl⟩ := inj2 hm
    exact xret_l C hw hS dX8_even_25
  · replace hm := ite_p cc hm
    refine lv_iload_n hx hb dX8_even_8 rfl (lv_at hl 2 rfl) ?_
    obtain ⟨v3, h4, hm⟩ := bind_e hm
    refine sX8_190 C h4 hw hS hl.1 (Nat.le_of_ble_eq_true rfl) (Nat.le_trans (Nat.le_of_ble_eq_true rfl) hRf) (Nat.le_trans (Nat.le_of_ble_eq_true rfl) hRl) hcs dX8_even_9 (fun H locs hw hS => ?_)
    refine x_ifeqB hx hb dX8_even_12 (tgt := 22) (by decide) (fun cc => ?_) (fun cc => ?_)
    · replace hm := ite_n cc hm
      refine lv_ldc2 (v := (-4611686018427387904)) hx hb ho (hts (.constantLong RX8 157 (-4611686018427387904)) (tg 476 (by decide +kernel) rfl)) dX8_even_22 ?_
      obtain ⟨rfl, rfl⟩ := inj2 hm
      exact xret_l C hw hS dX8_even_25
    · replace hm := ite_p cc hm
      refine lv_iload_n hx hb dX8_even_15 rfl (lv_at hl 3 rfl) ?_
      obtain ⟨v5, h6, hm⟩ := bind_e hm
      refine sX8_197 C h6 hw hS hl.1 (Nat.le_of_ble_eq_true rfl) (Nat.le_trans (Nat.le_of_ble_eq_true rfl) hRf) (Nat.le_trans (Nat.le_of_ble_eq_true rfl) hRl) hcs dX8_even_16 (fun H locs hw hS => ?_)
      refine x_ifneB hx hb dX8_even_19 (tgt := 26) (by decide) (fun cc => ?_) (fun cc => ?_)
      · replace hm := ite_p cc hm
        refine lv_aload_n hx hb dX8_even_26 rfl (lv_at hl 0 rfl) ?_
        refine lv_iload_n hx hb dX8_even_27 rfl (lv_at hl 1 rfl) ?_
        refine lv_iload_n hx hb dX8_even_28 rfl (lv_at hl 2 rfl) ?_
        obtain ⟨x7, h8, hm⟩ := bind_e hm
        refine sX8_200 C h8 hw hS hl.1 (Nat.le_of_ble_eq_true rfl) (Nat.le_trans (Nat.le_of_ble_eq_true rfl) hRf) (Nat.le_trans (Nat.le_of_ble_eq_true rfl) hRl) hcs dX8_even_29 (fun H locs hw hS => ?_)
        refine lv_aload_n hx hb dX8_even_32 rfl (lv_at hl 0 rfl) ?_
        refine gX8_79 C hw dX8_even_33 ?_
        obtain ⟨x9, h10, hm⟩ := bind_e hm
        refine sX8_224 C h10 hw hS hl.1 (Nat.le_of_ble_eq_true rfl) (Nat.le_trans (Nat.le_of_ble_eq_true rfl) hRf) (Nat.le_trans (Nat.le_of_ble_eq_true rfl) hRl) hcs dX8_even_36 (fun H locs hw hS => ?_)
        refine lv_aload_n hx hb dX8_even_39 rfl (lv_at hl 0 rfl) ?_
        refine gX8_79 C hw dX8_even_40 ?_
        obtain ⟨v11, h12, hm⟩ := bind_e hm
        refine sX8_227 C h12 hw hS hl.1 (Nat.le_of_ble_eq_true rfl) (Nat.le_trans (Nat.le_of_ble_eq_true rfl) hRf) (Nat.le_trans (Nat.le_of_ble_eq_true rfl) hRl) hcs dX8_even_43 (fun H locs hw hS => ?_)
        refine lv_bipush (v := 60) hx hb dX8_even_46 (by decide) ?_
        refine lv_aload_n hx hb dX8_even_48 rfl (lv_at hl 0 rfl) ?_
        refine gX8_79 C hw dX8_even_49 ?_
        obtain ⟨v13, h14, hm⟩ := bind_e hm
        refine sX8_207 C h14 hw hS hl.1 (Nat.le_of_ble_eq_true rfl) (Nat.le_trans (Nat.le_of_ble_eq_true rfl) hRf) (Nat.le_trans (Nat.le_of_ble_eq_true rfl) hRl) hcs dX8_even_52 (fun H locs hw hS => ?_)
        refine lv_imul hx hb dX8_even_55 ?_
        refine lv_iload_n hx hb dX8_even_56 rfl (lv_at hl 3 rfl) ?_
        obtain ⟨v15, h16, hm⟩ := bind_e hm
        refine sX8_210 C h16 hw hS hl.1 (Nat.le_of_ble_eq_true rfl) (Nat.le_trans (Nat.le_of_ble_eq_true rfl) hRf) (Nat.le_trans (Nat.le_of_ble_eq_true rfl) hRl) hcs dX8_even_57 (fun H locs hw hS => ?_)
        obtain ⟨rfl, rfl⟩ := inj2 hm
        exact xret_l C hw hS dX8_even_60
      · replace hm := ite_n cc hm
        refine lv_ldc2 (v := (-4611686018427387904)) hx hb ho (hts (.constantLong RX8 157 (-4611686018427387904)) (tg 476 (by decide +kernel) rfl)) dX8_even_22 ?_
        obtain ⟨rfl, rfl⟩ := inj2 hm
        exact xret_l C hw hS dX8_even_25
theorem dX8_addLead_0 : decode cX8_addLead 0 = .ok (.aload_n 0, 1) := by decide +kernel
theorem dX8_addLead_1 : decode cX8_addLead 1 = .ok (.getfield 89, 3) := by decide +kernel
theorem dX8_addLead_4 : decode cX8_addLead 4 = .ok (.iload_n 1, 1) := by decide +kernel
theorem dX8_addLead_5 : decode cX8_addLead 5 = .ok (.dup2, 1) := by decide +kernel
theorem dX8_addLead_6 : decode cX8_addLead 6 = .ok (.iaload, 1) := by decide +kernel
theorem dX8_addLead_7 : decode cX8_addLead 7 = .ok (.iload_n 2, 1) := by decide +kernel
theorem dX8_addLead_8 : decode cX8_addLead 8 = .ok (.iadd, 1) := by decide +kernel
theorem dX8_addLead_9 : decode cX8_addLead 9 = .ok (.iastore, 1) := by decide +kernel
theorem dX8_addLead_10 : decode cX8_addLead 10 = .ok (.aload_n 0, 1) := by decide +kernel
theorem dX8_addLead_11 : decode cX8_addLead 11 = .ok (.iload_n 1, 1) := by decide +kernel
theorem dX8_addLead_12 : decode cX8_addLead 12 = .ok (.iload_n 3, 1) := by decide +kernel
theorem dX8_addLead_13 : decode cX8_addLead 13 = .ok (.invokevirtual 370, 3) := by decide +kernel
theorem dX8_addLead_16 : decode cX8_addLead 16 = .ok (.aload_n 0, 1) := by decide +kernel
theorem dX8_addLead_17 : decode cX8_addLead 17 = .ok (.getfield 79, 3) := by decide +kernel
theorem dX8_addLead_20 : decode cX8_addLead 20 = .ok (.invokevirtual 224, 3) := by decide +kernel
theorem dX8_addLead_23 : decode cX8_addLead 23 = .ok (.return_, 1) := by decide +kernel
def fX8_addLead (x : XS) (a1 : Int32) (a2 : Int32) (a3 : Int32) : Option (XS) := if ib a1 10 then if ib a1 10 then lt (xsA x 24 a1.toNatClampNeg ((x.2.1 24 a1.toNatClampNeg) + a2)) fun x3 => Option.bind (fX8_weigh x3 a1 a3) fun x4 => Option.bind (fX0_shareOut x4) fun x6 => some x6 else none else none
abbrev rmX8_addLead : Room := { frames := 5, cells := 0, slots := 0, locals := 114 }
set_option maxHeartbeats 4000000 in
set_option maxRecDepth 100000 in
theorem kX8_addLead {l : Launch} {G : xG} {β : Nat} {D : Nat → Prop} {x x' : XS} {a1 : Int32} {a2 : Int32} {a3 : Int32} (hm : fX8_addLead x a1 a2 a3 = some x') : Met l yX8_addLead (.code yX8_addLead cX8_addLead 4 none :: GT) rmX8_addLead (PcW [.ref β, .int a1, .int a2, .int a3] (CW β D G x) (KK G)) (QcW D none (CW β D G x')) 0 0 D := by
  unfold fX8_addLead at hm
  refine xpro (own := RX8) (by decide +kernel) rfl (Nat.le_of_ble_eq_true rfl) ?_
  intro p e s m args below meth c C hw ls hl
  have hx := C.1
  have hb := C.2.1
  have ho := C.2.2.2.1
  have hts := C.2.2.2.2.1
  have hf : Fz D G s.heap := hw.2.2.2.2
  have hS : va_S D s.heap s.heap [] := va_S.rf
  have hl : lv_has ls 4 [(0, .ref β), (1, .int a1), (2, .int a2), (3, .int a3)] := hl
  have hRf : 5 ≤ rmX8_addLead.frames := Nat.le_refl _
  have hRl : 114 ≤ rmX8_addLead.locals := Nat.le_refl _
  have hcs : 0 ≤ rmX8_addLead.cells ∧ 0 ≤ rmX8_addLead.slots := ⟨Nat.le_refl _, Nat.le_refl _⟩
  refine lv_aload_n hx hb dX8_addLead_0 rfl (lv_at hl 0 rfl) ?_
  refine gX8_89 C hw dX8_addLead_1 ?_
  refine lv_iload_n hx hb dX8_addLead_4 rfl (lv_at hl 1 rfl) ?_
  refine lv_dup2_11 hx hb dX8_addLead_5 rfl rfl ?_
  obtain ⟨h1, hm⟩ := chk_e hm
  refine alX_24 C hw h1 dX8_addLead_6 ?_
  refine lv_iload_n hx hb dX8_addLead_7 rfl (lv_at hl 2 rfl) ?_
  refine lv_iadd hx hb dX8_addLead_8 ?_
  obtain ⟨h2, hm⟩ := chk_e hm
  refine asX_24 C hw hS h2 dX8_addLead_9 (fun H locs hw hS => ?_)
  obtain ⟨x3, ev, hm⟩ := lt_e hm
  rw [← ev] at hw
  clear ev
  refine lv_aload_n hx hb dX8_addLead_10 rfl (lv_at hl 0 rfl) ?_
  refine lv_iload_n hx hb dX8_addLead_11 rfl (lv_at hl 1 rfl) ?_
  refine lv_iload_n hx hb dX8_addLead_12 rfl (lv_at hl 3 rfl) ?_
  obtain ⟨x4, h5, hm⟩ := bind_e hm
  refine sX8_370 C h5 hw hS hl.1 (Nat.le_of_ble_eq_true rfl) (Nat.le_trans (Nat.le_of_ble_eq_true rfl) hRf) (Nat.le_trans (Nat.le_of_ble_eq_true rfl) hRl) hcs dX8_addLead_13 (fun H locs hw hS => ?_)
  refine lv_aload_n hx hb dX8_addLead_16 rfl (lv_at hl 0 rfl) ?_
  refine gX8_79 C hw dX8_addLead_17 ?_
  obtain ⟨x6, h7, hm⟩ := bind_e hm
  refine sX8_224 C h7 hw hS hl.1 (Nat.le_of_ble_eq_true rfl) (Nat.le_trans (Nat.le_of_ble_eq_true rfl) hRf) (Nat.le_trans (Nat.le_of_ble_eq_true rfl) hRl) hcs dX8_addLead_20 (fun H locs hw hS => ?_)
  obtain rfl := Option.some.inj hm
  exact xret_v C hw hS dX8_addLead_23
theorem dX8_balance_0 : decode cX8_balance 0 = .ok (.aload_n 0, 1) := by decide +kernel
theorem dX8_balance_1 : decode cX8_balance 1 = .ok (.iload_n 1, 1) := by decide +kernel
theorem dX8_balance_2 : decode cX8_balance 2 = .ok (.iload_n 2, 1) := by decide +kernel
theorem dX8_balance_3 : decode cX8_balance 3 = .ok (.invokevirtual 200, 3) := by decide +kernel
theorem dX8_balance_6 : decode cX8_balance 6 = .ok (.aload_n 0, 1) := by decide +kernel
theorem dX8_balance_7 : decode cX8_balance 7 = .ok (.getfield 79, 3) := by decide +kernel
theorem dX8_balance_10 : decode cX8_balance 10 = .ok (.invokevirtual 224, 3) := by decide +kernel
theorem dX8_balance_13 : decode cX8_balance 13 = .ok (.iconst 0, 1) := by decide +kernel
theorem dX8_balance_14 : decode cX8_balance 14 = .ok (.istore_n 3, 1) := by decide +kernel
theorem dX8_balance_15 : decode cX8_balance 15 = .ok (.iload_n 3, 1) := by decide +kernel
theorem dX8_balance_16 : decode cX8_balance 16 = .ok (.bipush 40, 2) := by decide +kernel
theorem dX8_balance_18 : decode cX8_balance 18 = .ok (.if_icmp .ge 71, 3) := by decide +kernel
theorem dX8_balance_21 : decode cX8_balance 21 = .ok (.aload_n 0, 1) := by decide +kernel
theorem dX8_balance_22 : decode cX8_balance 22 = .ok (.getfield 79, 3) := by decide +kernel
theorem dX8_balance_25 : decode cX8_balance 25 = .ok (.invokevirtual 227, 3) := by decide +kernel
theorem dX8_balance_28 : decode cX8_balance 28 = .ok (.istore 4, 2) := by decide +kernel
theorem dX8_balance_30 : decode cX8_balance 30 = .ok (.aload_n 0, 1) := by decide +kernel
theorem dX8_balance_31 : decode cX8_balance 31 = .ok (.getfield 79, 3) := by decide +kernel
theorem dX8_balance_34 : decode cX8_balance 34 = .ok (.invokevirtual 380, 3) := by decide +kernel
theorem dX8_balance_37 : decode cX8_balance 37 = .ok (.istore 5, 2) := by decide +kernel
theorem dX8_balance_39 : decode cX8_balance 39 = .ok (.aload_n 0, 1) := by decide +kernel
theorem dX8_balance_40 : decode cX8_balance 40 = .ok (.getfield 89, 3) := by decide +kernel
theorem dX8_balance_43 : decode cX8_balance 43 = .ok (.iload 5, 2) := by decide +kernel
theorem dX8_balance_45 : decode cX8_balance 45 = .ok (.iaload, 1) := by decide +kernel
theorem dX8_balance_46 : decode cX8_balance 46 = .ok (.bipush 60, 2) := by decide +kernel
theorem dX8_balance_48 : decode cX8_balance 48 = .ok (.if_icmp .lt 5, 3) := by decide +kernel
theorem dX8_balance_51 : decode cX8_balance 51 = .ok (.iload_n 3, 1) := by decide +kernel
theorem dX8_balance_52 : decode cX8_balance 52 = .ok (.ireturn, 1) := by decide +kernel
theorem dX8_balance_53 : decode cX8_balance 53 = .ok (.aload_n 0, 1) := by decide +kernel
theorem dX8_balance_54 : decode cX8_balance 54 = .ok (.iload 5, 2) := by decide +kernel
theorem dX8_balance_56 : decode cX8_balance 56 = .ok (.iconst 1, 1) := by decide +kernel
theorem dX8_balance_57 : decode cX8_balance 57 = .ok (.iload_n 2, 1) := by decide +kernel
theorem dX8_balance_58 : decode cX8_balance 58 = .ok (.invokevirtual 383, 3) := by decide +kernel
theorem dX8_balance_61 : decode cX8_balance 61 = .ok (.aload_n 0, 1) := by decide +kernel
theorem dX8_balance_62 : decode cX8_balance 62 = .ok (.getfield 79, 3) := by decide +kernel
theorem dX8_balance_65 : decode cX8_balance 65 = .ok (.invokevirtual 227, 3) := by decide +kernel
theorem dX8_balance_68 : decode cX8_balance 68 = .ok (.iload 4, 2) := by decide +kernel
theorem dX8_balance_70 : decode cX8_balance 70 = .ok (.if_icmp .lt 13, 3) := by decide +kernel
theorem dX8_balance_73 : decode cX8_balance 73 = .ok (.aload_n 0, 1) := by decide +kernel
theorem dX8_balance_74 : decode cX8_balance 74 = .ok (.iload 5, 2) := by decide +kernel
theorem dX8_balance_76 : decode cX8_balance 76 = .ok (.iconst (-1), 1) := by decide +kernel
theorem dX8_balance_77 : decode cX8_balance 77 = .ok (.iload_n 2, 1) := by decide +kernel
theorem dX8_balance_78 : decode cX8_balance 78 = .ok (.invokevirtual 383, 3) := by decide +kernel
theorem dX8_balance_81 : decode cX8_balance 81 = .ok (.iload_n 3, 1) := by decide +kernel
theorem dX8_balance_82 : decode cX8_balance 82 = .ok (.ireturn, 1) := by decide +kernel
theorem dX8_balance_83 : decode cX8_balance 83 = .ok (.iinc 3 1, 3) := by decide +kernel
theorem dX8_balance_86 : decode cX8_balance 86 = .ok (.goto (-71), 3) := by decide +kernel
theorem dX8_balance_89 : decode cX8_balance 89 = .ok (.bipush 40, 2) := by decide +kernel
theorem dX8_balance_91 : decode cX8_balance 91 = .ok (.ireturn, 1) := by decide +kernel
theorem sX8_380 {p : Program} {l : Launch} {e : Env} {R : Room} {s : State} {m : MethodId} {args : Array Value} {below : List Frame} {meth : Method} {c : Code} {H : Heap} {locs : List Loc} {cells slots : Nat} {Q : State → Prop} {cc : ByteArray} {pc nL : Nat} {ls : Array Slot} {rest : List Value} {ret : Option FieldType}  {G : xG} {β : Nat} {D : Nat → Prop} {x : XS} {r : Int32} (C : Cx p s m args meth c RX8 cc nL ret (KK G)) (h : fX0_likeliest x = some r) (hw : CW β D G x H) (hS : va_S D s.heap H locs) (hsz : ls.size = nL) (hW : (rest.map fun v => v.category).sum ≤ 8) (hR : 2 ≤ R.frames) (hR2 : 43 ≤ R.locals) (hcs : cells ≤ R.cells ∧ slots ≤ R.slots) (hd : decode cc pc = .ok (.invokevirtual 380, 3)) (kk : ∀ (H1 : Heap) (locs1 : List Loc), CW β D G x H1 → va_S D s.heap H1 locs1 → W p l e R s m args below meth c H1 locs1 cells slots Q (F0 m (pc + 3) ls (.int r :: rest))) : W p l e R s m args below meth c H locs cells slots Q (F0 m pc ls (.ref (β + 16) :: rest)) := by
  exact xcallV C (As := []) (rest := rest) (nA := 0) (ci := 0) (kX0_likeliest h) (tg 687 (by decide +kernel) rfl) (tg 688 (by decide +kernel) rfl) (tg 689 (by decide +kernel) rfl) (tg 5 (by decide +kernel) rfl) (tg 690 (by decide +kernel) rfl) ⟨rfl, by decide +kernel, by decide +kernel, by decide +kernel⟩ rfl rfl rfl ⟨hR, hR2⟩ (hw.2.2.1 16 (by decide)) hw hS (fun _ q => q) rfl rfl hsz hW hd hcs (fun H1 locs1 hw hz hk hS => kk H1 locs1 hw hS)
theorem sX8_383 {p : Program} {l : Launch} {e : Env} {R : Room} {s : State} {m : MethodId} {args : Array Value} {below : List Frame} {meth : Method} {c : Code} {H : Heap} {locs : List Loc} {cells slots : Nat} {Q : State → Prop} {cc : ByteArray} {pc nL : Nat} {ls : Array Slot} {rest : List Value} {ret : Option FieldType}  {G : xG} {β : Nat} {D : Nat → Prop} {x x' : XS} {a1 : Int32} {a2 : Int32} {a3 : Int32} (C : Cx p s m args meth c RX8 cc nL ret (KK G)) (h : fX8_addLead x a1 a2 a3 = some x') (hw : CW β D G x H) (hS : va_S D s.heap H locs) (hsz : ls.size = nL) (hW : (rest.map fun v => v.category).sum ≤ 8) (hR : 6 ≤ R.frames) (hR2 : 137 ≤ R.locals) (hcs : cells ≤ R.cells ∧ slots ≤ R.slots) (hd : decode cc pc = .ok (.invokevirtual 383, 3)) (kk : ∀ (H1 : Heap) (locs1 : List Loc), CW β D G x' H1 → va_S D s.heap H1 locs1 → W p l e R s m args below meth c H1 locs1 cells slots Q (F0 m (pc + 3) ls (rest))) : W p l e R s m args below meth c H locs cells slots Q (F0 m pc ls (.int a3 :: .int a2 :: .int a1 :: .ref β :: rest)) := by
  exact xcallV C (As := [.int a1, .int a2, .int a3]) (rest := rest) (nA := 3) (ci := 8) (kX8_addLead h) (tg 691 (by decide +kernel) rfl) (tg 693 (by decide +kernel) rfl) (sg (List.mem_of_getElem? (i := 40) (by decide +kernel)) rfl) (tg 1 (by decide +kernel) rfl) (tg 694 (by decide +kernel) rfl) ⟨rfl, by decide +kernel, by decide +kernel, by decide +kernel⟩ rfl rfl rfl ⟨hR, hR2⟩ (hw.2.2.1 0 (by decide)) hw hS (fun _ q => q) rfl rfl hsz hW hd hcs (fun H1 locs1 hw hz hk hS => kk H1 locs1 hw hS)
def BX8_balance_15 (q2 : Int32) (lp : Int32 → XS → Option ((Int32 × XS) ⊕ (XS))) (u3 : Int32) (x : XS) : Option ((Int32 × XS) ⊕ (XS)) := if 40 ≤ u3 then some (.inr x) else Option.bind (fX0_gap x) fun v5 => Option.bind (fX0_likeliest x) fun v7 => if ib v7 10 then if (x.2.1 24 v7.toNatClampNeg) < 60 then Option.bind (fX8_addLead x v7 1 q2) fun x10 => Option.bind (fX0_gap x10) fun v12 => if v12 < v5 then lt (u3 + 1) fun v14 => lp v14 x10 else Option.bind (fX8_addLead x10 v7 (-1) q2) fun x15 => some (.inl (u3, x15)) else some (.inl (u3, x)) else none
def LX8_balance_15 (q2 : Int32) : Nat → Int32 → XS → Option ((Int32 × XS) ⊕ (XS))
  | 0, _, _ => none
  | n + 1, u3, x => BX8_balance_15 q2 (LX8_balance_15 q2 n) u3 x
def fX8_balance (x : XS) (a1 : Int32) (a2 : Int32) : Option (Int32 × XS) := Option.bind (fX8_enter x a1 a2) fun x1 => Option.bind (fX0_shareOut x1) fun x3 => bs (LX8_balance_15 a2 NF 0 x3) (fun a => some a) (fun x17 => some (40, x17))
set_option maxHeartbeats 4000000 in
set_option maxRecDepth 100000 in
theorem lX8_balance_15 {p : Program} {l : Launch} {e : Env} {R : Room} {s : State} {m : MethodId} {args : Array Value} {below : List Frame} {meth : Method} {c : Code} {cells slots : Nat} {Q : State → Prop} {G : xG} {β : Nat} {D : Nat → Prop} (C : Cx p s m args meth c RX8 cX8_balance 6 (some .int) (KK G)) (hRf : 6 ≤ R.frames) (hRl : 137 ≤ R.locals) (hcs : cells ≤ R.cells ∧ slots ≤ R.slots) (hf : Fz D G s.heap) (q2 : Int32) : ∀ (n : Nat) (u3 : Int32) (x : XS) (J : (Int32 × XS) ⊕ (XS)) (H : Heap) (locs : List Loc) (ls : Array Slot), LX8_balance_15 q2 n u3 x = some J → CW β D G x H → va_S D s.heap H locs → lv_has ls 6 [(0, .ref β), (2, .int q2), (3, .int u3)] → (∀ (x1 : XS), J = .inr x1 → ∀ (H : Heap) (locs : List Loc) (ls : Array Slot), CW β D G x1 H → va_S D s.heap H locs → lv_has ls 6 [] → W p l e R s m args below meth c H locs cells slots Q (F0 m 89 ls [])) → (∀ (rv : Int32) (x1 : XS), J = .inl (rv, x1) → ∀ (H : Heap) (locs : List Loc) (ls : Array Slot), CW β D G x1 H → va_S D s.heap H locs → W p l e R s m args below meth c H locs cells slots Q (F0 m 52 ls [.int rv])) → (∀ (rv : Int32) (x1 : XS), J = .inl (rv, x1) → ∀ (H : Heap) (locs : List Loc) (ls : Array Slot), CW β D G x1 H → va_S D s.heap H locs → W p l e R s m args below meth c H locs cells slots Q (F0 m 82 ls [.int rv])) → W p l e R s m args below meth c H locs cells slots Q (F0 m 15 ls []) := by
  have hx := C.1
  have hb := C.2.1
  have ho := C.2.2.2.1
  have hts := C.2.2.2.2.1
  intro n
  induction n with
  | zero =>
    intro u3 x J H locs ls hm
    exact absurd hm (by simp [LX8_balance_15])
  | succ n ih =>
    intro u3 x J H locs ls hm hw hS hl ke kr52 kr82
    replace hm : BX8_balance_15 q2 (LX8_balance_15 q2 n) u3 x = some J := hm
    unfold BX8_balance_15 at hm
    refine lv_iload_n hx hb dX8_balance_15 rfl (lv_at hl 2 rfl) ?_
    refine lv_bipush (v := 40) hx hb dX8_balance_16 (by decide) ?_
    refine lv_icmp_ge (tgt := 89) hx hb dX8_balance_18 (by decide) (fun cc => ?_) (fun cc => ?_)
    · replace hm := ite_p cc hm
      exact ke _ (Option.some.inj hm).symm _ _ _ hw hS (lv_sub hl [] rfl)
    · replace hm := ite_n cc hm
      refine lv_aload_n hx hb dX8_balance_21 rfl (lv_at hl 0 rfl) ?_
      refine gX8_79 C hw dX8_balance_22 ?_
      obtain ⟨v5, h6, hm⟩ := bind_e hm
      refine sX8_227 C h6 hw hS hl.1 (Nat.le_of_ble_eq_true rfl) (Nat.le_trans (Nat.le_of_ble_eq_true rfl) hRf) (Nat.le_trans (Nat.le_of_ble_eq_true rfl) hRl) hcs dX8_balance_25 (fun H locs hw hS => ?_)
      refine lv_istore (lv' := [(4, .int v5), (0, .ref β), (2, .int q2), (3, .int u3)]) hx hb dX8_balance_28 hl (by decide) rfl (fun ls hl => ?_)
      refine lv_aload_n hx hb dX8_balance_30 rfl (lv_at hl 1 rfl) ?_
      refine gX8_79 C hw dX8_balance_31 ?_
      obtain ⟨v7, h8, hm⟩ := bind_e hm
      refine sX8_380 C h8 hw hS hl.1 (Nat.le_of_ble_eq_true rfl) (Nat.le_trans (Nat.le_of_ble_eq_true rfl) hRf) (Nat.le_trans (Nat.le_of_ble_eq_true rfl) hRl) hcs dX8_balance_34 (fun H locs hw hS => ?_)
      refine lv_istore (lv' := [(5, .int v7), (4, .int v5), (0, .ref β), (2, .int q2), (3, .int u3)]) hx hb dX8_balance_37 hl (by decide) rfl (fun ls hl => ?_)
      refine lv_aload_n hx hb dX8_balance_39 rfl (lv_at hl 2 rfl) ?_
      refine gX8_89 C hw dX8_balance_40 ?_
      refine lv_iload hx hb dX8_balance_43 (lv_at hl 0 rfl) ?_
      obtain ⟨h9, hm⟩ := chk_e hm
      refine alX_24 C hw h9 dX8_balance_45 ?_
      refine lv_bipush (v := 60) hx hb dX8_balance_46 (by decide) ?_
      refine lv_icmp_lt (tgt := 53) hx hb dX8_balance_48 (by decide) (fun cc => ?_) (fun cc => ?_)
      · replace hm := ite_p cc hm
        refine lv_aload_n hx hb dX8_balance_53 rfl (lv_at hl 2 rfl) ?_
        refine lv_iload hx hb dX8_balance_54 (lv_at hl 0 rfl) ?_
        refine lv_iconst (v := 1) hx hb dX8_balance_56 (by decide) ?_
        refine lv_iload_n hx hb dX8_balance_57 rfl (lv_at hl 3 rfl) ?_
        obtain ⟨x10, h11, hm⟩ := bind_e hm
        refine sX8_383 C h11 hw hS hl.1 (Nat.le_of_ble_eq_true rfl) (Nat.le_trans (Nat.le_of_ble_eq_true rfl) hRf) (Nat.le_trans (Nat.le_of_ble_eq_true rfl) hRl) hcs dX8_balance_58 (fun H locs hw hS => ?_)
        refine lv_aload_n hx hb dX8_balance_61 rfl (lv_at hl 2 rfl) ?_
        refine gX8_79 C hw dX8_balance_62 ?_
        obtain ⟨v12, h13, hm⟩ := bind_e hm
        refine sX8_227 C h13 hw hS hl.1 (Nat.le_of_ble_eq_true rfl) (Nat.le_trans (Nat.le_of_ble_eq_true rfl) hRf) (Nat.le_trans (Nat.le_of_ble_eq_true rfl) hRl) hcs dX8_balance_65 (fun H locs hw hS => ?_)
        refine lv_iload hx hb dX8_balance_68 (lv_at hl 1 rfl) ?_
        refine lv_icmp_lt (tgt := 83) hx hb dX8_balance_70 (by decide) (fun cc => ?_) (fun cc => ?_)
        · replace hm := ite_p cc hm
          obtain ⟨v14, ev, hm⟩ := lt_e hm
          refine lv_iinc (v := v14) (lv' := [(3, .int v14), (5, .int v7), (4, .int v5), (0, .ref β), (2, .int q2)]) hx hb dX8_balance_83 hl (k := 4) rfl (by rw [ev]; rfl) (by decide) rfl (fun ls hl => ?_)
          clear ev
          refine lv_goto (tgt := 15) hx hb dX8_balance_86 (by decide) ?_
          exact ih _ _ _ _ _ _ hm hw hS (lv_sub hl [3, 4, 0] rfl) ke kr52 kr82
        · replace hm := ite_n cc hm
          refine lv_aload_n hx hb dX8_balance_73 rfl (lv_at hl 2 rfl) ?_
          refine lv_iload hx hb dX8_balance_74 (lv_at hl 0 rfl) ?_
          refine lv_iconst (v := (-1)) hx hb dX8_balance_76 (by decide) ?_
          refine lv_iload_n hx hb dX8_balance_77 rfl (lv_at hl 3 rfl) ?_
          obtain ⟨x15, h16, hm⟩ := bind_e hm
          refine sX8_383 C h16 hw hS hl.1 (Nat.le_of_ble_eq_true rfl) (Nat.le_trans (Nat.le_of_ble_eq_true rfl) hRf) (Nat.le_trans (Nat.le_of_ble_eq_true rfl) hRl) hcs dX8_balance_78 (fun H locs hw hS => ?_)
          refine lv_iload_n hx hb dX8_balance_81 rfl (lv_at hl 4 rfl) ?_
          exact kr82 _ _ (Option.some.inj hm).symm _ _ _ hw hS
      · replace hm := ite_n cc hm
        refine lv_iload_n hx hb dX8_balance_51 rfl (lv_at hl 4 rfl) ?_
        exact kr52 _ _ (Option.some.inj hm).symm _ _ _ hw hS
abbrev rmX8_balance : Room := { frames := 6, cells := 0, slots := 0, locals := 137 }
set_option maxHeartbeats 4000000 in
set_option maxRecDepth 100000 in
theorem kX8_balance {l : Launch} {G : xG} {β : Nat} {D : Nat → Prop} {x x' : XS} {a1 : Int32} {a2 : Int32} {r : Int32} (hm : fX8_balance x a1 a2 = some (r, x')) : Met l yX8_balance (.code yX8_balance cX8_balance 6 (some .int) :: GT) rmX8_balance (PcW [.ref β, .int a1, .int a2] (CW β D G x) (KK G)) (QcW D (some (.int r)) (CW β D G x')) 0 0 D := by
  unfold fX8_balance at hm
  refine xpro (own := RX8) (by decide +kernel) rfl (Nat.le_of_ble_eq_true rfl) ?_
  intro p e s m args below meth c C hw ls hl
  have hx := C.1
  have hb := C.2.1
  have ho := C.2.2.2.1
  have hts := C.2.2.2.2.1
  have hf : Fz D G s.heap := hw.2.2.2.2
  have hS : va_S D s.heap s.heap [] := va_S.rf
  have hl : lv_has ls 6 [(0, .ref β), (1, .int a1), (2, .int a2)] := hl
  have hRf : 6 ≤ rmX8_balance.frames := Nat.le_refl _
  have hRl : 137 ≤ rmX8_balance.locals := Nat.le_refl _
  have hcs : 0 ≤ rmX8_balance.cells ∧ 0 ≤ rmX8_balance.slots := ⟨Nat.le_refl _, Nat.le_refl _⟩
  refine lv_aload_n hx hb dX8_balance_0 rfl (lv_at hl 0 rfl) ?_
  refine lv_iload_n hx hb dX8_balance_1 rfl (lv_at hl 1 rfl) ?_
  refine lv_iload_n hx hb dX8_balance_2 rfl (lv_at hl 2 rfl) ?_
  obtain ⟨x1, h2, hm⟩ := bind_e hm
  refine sX8_200 C h2 hw hS hl.1 (Nat.le_of_ble_eq_true rfl) (Nat.le_trans (Nat.le_of_ble_eq_true rfl) hRf) (Nat.le_trans (Nat.le_of_ble_eq_true rfl) hRl) hcs dX8_balance_3 (fun H locs hw hS => ?_)
  refine lv_aload_n hx hb dX8_balance_6 rfl (lv_at hl 0 rfl) ?_
  refine gX8_79 C hw dX8_balance_7 ?_
  obtain ⟨x3, h4, hm⟩ := bind_e hm
  refine sX8_224 C h4 hw hS hl.1 (Nat.le_of_ble_eq_true rfl) (Nat.le_trans (Nat.le_of_ble_eq_true rfl) hRf) (Nat.le_trans (Nat.le_of_ble_eq_true rfl) hRl) hcs dX8_balance_10 (fun H locs hw hS => ?_)
  refine lv_iconst (v := 0) hx hb dX8_balance_13 (by decide) ?_
  refine lv_istore_n (lv' := [(3, .int 0), (0, .ref β), (1, .int a1), (2, .int a2)]) hx hb dX8_balance_14 rfl hl (by decide) rfl (fun ls hl => ?_)
  rcases bs_e hm with ⟨a, hj, hm⟩ | ⟨b, hj, hm⟩
  · refine lX8_balance_15 C hRf hRl hcs hf a2 NF _ _ _ _ _ _ hj hw hS (lv_sub hl [1, 3, 0] rfl) (fun _ e0 => by cases e0) (fun rv x1 e0 H locs ls hw hS => ?_) (fun rv x1 e0 H locs ls hw hS => ?_)
    · cases e0
      obtain ⟨rfl, rfl⟩ := inj2 hm
      exact xret_i C hw hS dX8_balance_52
    · cases e0
      obtain ⟨rfl, rfl⟩ := inj2 hm
      exact xret_i C hw hS dX8_balance_82
  · refine lX8_balance_15 C hRf hRl hcs hf a2 NF _ _ _ _ _ _ hj hw hS (lv_sub hl [1, 3, 0] rfl) (fun x17 e0 H locs ls hw hS hl => ?_) (fun _ _ e0 => by cases e0) (fun _ _ e0 => by cases e0)
    cases e0
    refine lv_bipush (v := 40) hx hb dX8_balance_89 (by decide) ?_
    obtain ⟨rfl, rfl⟩ := inj2 hm
    exact xret_i C hw hS dX8_balance_91
theorem dX8_near_0 : decode cX8_near 0 = .ok (.iload_n 3, 1) := by decide +kernel
theorem dX8_near_1 : decode cX8_near 1 = .ok (.bipush 10, 2) := by decide +kernel
theorem dX8_near_3 : decode cX8_near 3 = .ok (.if_icmp .lt 19, 3) := by decide +kernel
theorem dX8_near_6 : decode cX8_near 6 = .ok (.aload_n 0, 1) := by decide +kernel
theorem dX8_near_7 : decode cX8_near 7 = .ok (.iload_n 1, 1) := by decide +kernel
theorem dX8_near_8 : decode cX8_near 8 = .ok (.iload_n 3, 1) := by decide +kernel
theorem dX8_near_9 : decode cX8_near 9 = .ok (.bipush 10, 2) := by decide +kernel
theorem dX8_near_11 : decode cX8_near 11 = .ok (.isub, 1) := by decide +kernel
theorem dX8_near_12 : decode cX8_near 12 = .ok (.invokevirtual 193, 3) := by decide +kernel
theorem dX8_near_15 : decode cX8_near 15 = .ok (.ifCond .eq 7, 3) := by decide +kernel
theorem dX8_near_18 : decode cX8_near 18 = .ok (.iconst 1, 1) := by decide +kernel
theorem dX8_near_19 : decode cX8_near 19 = .ok (.goto 4, 3) := by decide +kernel
theorem dX8_near_22 : decode cX8_near 22 = .ok (.iconst 0, 1) := by decide +kernel
theorem dX8_near_23 : decode cX8_near 23 = .ok (.istore 4, 2) := by decide +kernel
theorem dX8_near_25 : decode cX8_near 25 = .ok (.aload_n 0, 1) := by decide +kernel
theorem dX8_near_26 : decode cX8_near 26 = .ok (.iload_n 1, 1) := by decide +kernel
theorem dX8_near_27 : decode cX8_near 27 = .ok (.invokevirtual 187, 3) := by decide +kernel
theorem dX8_near_30 : decode cX8_near 30 = .ok (.ifCond .eq 24, 3) := by decide +kernel
theorem dX8_near_33 : decode cX8_near 33 = .ok (.iload_n 2, 1) := by decide +kernel
theorem dX8_near_34 : decode cX8_near 34 = .ok (.invokestatic 190, 3) := by decide +kernel
theorem dX8_near_37 : decode cX8_near 37 = .ok (.ifCond .eq 17, 3) := by decide +kernel
theorem dX8_near_40 : decode cX8_near 40 = .ok (.iload 4, 2) := by decide +kernel
theorem dX8_near_42 : decode cX8_near 42 = .ok (.ifCond .ne 16, 3) := by decide +kernel
theorem dX8_near_45 : decode cX8_near 45 = .ok (.iload_n 3, 1) := by decide +kernel
theorem dX8_near_46 : decode cX8_near 46 = .ok (.iconst 0, 1) := by decide +kernel
theorem dX8_near_47 : decode cX8_near 47 = .ok (.iconst 2, 1) := by decide +kernel
theorem dX8_near_48 : decode cX8_near 48 = .ok (.invokestatic 138, 3) := by decide +kernel
theorem dX8_near_51 : decode cX8_near 51 = .ok (.ifCond .ne 7, 3) := by decide +kernel
theorem dX8_near_54 : decode cX8_near 54 = .ok (.ldc2_w 157, 3) := by decide +kernel
theorem dX8_near_57 : decode cX8_near 57 = .ok (.lreturn, 1) := by decide +kernel
theorem dX8_near_58 : decode cX8_near 58 = .ok (.aload_n 0, 1) := by decide +kernel
theorem dX8_near_59 : decode cX8_near 59 = .ok (.iload_n 1, 1) := by decide +kernel
theorem dX8_near_60 : decode cX8_near 60 = .ok (.iload_n 2, 1) := by decide +kernel
theorem dX8_near_61 : decode cX8_near 61 = .ok (.invokevirtual 230, 3) := by decide +kernel
theorem dX8_near_64 : decode cX8_near 64 = .ok (.istore 5, 2) := by decide +kernel
theorem dX8_near_66 : decode cX8_near 66 = .ok (.iload_n 3, 1) := by decide +kernel
theorem dX8_near_67 : decode cX8_near 67 = .ok (.ifCond .ne 7, 3) := by decide +kernel
theorem dX8_near_70 : decode cX8_near 70 = .ok (.iload 5, 2) := by decide +kernel
theorem dX8_near_72 : decode cX8_near 72 = .ok (.i2l, 1) := by decide +kernel
theorem dX8_near_73 : decode cX8_near 73 = .ok (.lreturn, 1) := by decide +kernel
theorem dX8_near_74 : decode cX8_near 74 = .ok (.iload 4, 2) := by decide +kernel
theorem dX8_near_76 : decode cX8_near 76 = .ok (.ifCond .eq 14, 3) := by decide +kernel
theorem dX8_near_79 : decode cX8_near 79 = .ok (.aload_n 0, 1) := by decide +kernel
theorem dX8_near_80 : decode cX8_near 80 = .ok (.getfield 89, 3) := by decide +kernel
theorem dX8_near_83 : decode cX8_near 83 = .ok (.iload_n 3, 1) := by decide +kernel
theorem dX8_near_84 : decode cX8_near 84 = .ok (.bipush 10, 2) := by decide +kernel
theorem dX8_near_86 : decode cX8_near 86 = .ok (.isub, 1) := by decide +kernel
theorem dX8_near_87 : decode cX8_near 87 = .ok (.iaload, 1) := by decide +kernel
theorem dX8_near_88 : decode cX8_near 88 = .ok (.i2l, 1) := by decide +kernel
theorem dX8_near_89 : decode cX8_near 89 = .ok (.lreturn, 1) := by decide +kernel
theorem dX8_near_90 : decode cX8_near 90 = .ok (.aload_n 0, 1) := by decide +kernel
theorem dX8_near_91 : decode cX8_near 91 = .ok (.getfield 79, 3) := by decide +kernel
theorem dX8_near_94 : decode cX8_near 94 = .ok (.invokevirtual 227, 3) := by decide +kernel
theorem dX8_near_97 : decode cX8_near 97 = .ok (.bipush 60, 2) := by decide +kernel
theorem dX8_near_99 : decode cX8_near 99 = .ok (.aload_n 0, 1) := by decide +kernel
theorem dX8_near_100 : decode cX8_near 100 = .ok (.getfield 79, 3) := by decide +kernel
theorem dX8_near_103 : decode cX8_near 103 = .ok (.invokevirtual 207, 3) := by decide +kernel
theorem dX8_near_106 : decode cX8_near 106 = .ok (.imul, 1) := by decide +kernel
theorem dX8_near_107 : decode cX8_near 107 = .ok (.iload_n 3, 1) := by decide +kernel
theorem dX8_near_108 : decode cX8_near 108 = .ok (.iconst 1, 1) := by decide +kernel
theorem dX8_near_109 : decode cX8_near 109 = .ok (.isub, 1) := by decide +kernel
theorem dX8_near_110 : decode cX8_near 110 = .ok (.invokestatic 210, 3) := by decide +kernel
theorem dX8_near_113 : decode cX8_near 113 = .ok (.lreturn, 1) := by decide +kernel
theorem sX8_230 {p : Program} {l : Launch} {e : Env} {R : Room} {s : State} {m : MethodId} {args : Array Value} {below : List Frame} {meth : Method} {c : Code} {H : Heap} {locs : List Loc} {cells slots : Nat} {Q : State → Prop} {cc : ByteArray} {pc nL : Nat} {ls : Array Slot} {rest : List Value} {ret : Option FieldType}  {G : xG} {β : Nat} {D : Nat → Prop} {x x' : XS} {a1 : Int32} {a2 : Int32} {r : Int32} (C : Cx p s m args meth c RX8 cc nL ret (KK G)) (h : fX8_balance x a1 a2 = some (r, x')) (hw : CW β D G x H) (hS : va_S D s.heap H locs) (hsz : ls.size = nL) (hW : (rest.map fun v => v.category).sum ≤ 8) (hR : 7 ≤ R.frames) (hR2 : 162 ≤ R.locals) (hcs : cells ≤ R.cells ∧ slots ≤ R.slots) (hd : decode cc pc = .ok (.invokevirtual 230, 3)) (kk : ∀ (H1 : Heap) (locs1 : List Loc), CW β D G x' H1 → va_S D s.heap H1 locs1 → W p l e R s m args below meth c H1 locs1 cells slots Q (F0 m (pc + 3) ls (.int r :: rest))) : W p l e R s m args below meth c H locs cells slots Q (F0 m pc ls (.int a2 :: .int a1 :: .ref β :: rest)) := by
  exact xcallV C (As := [.int a1, .int a2]) (rest := rest) (nA := 2) (ci := 8) (kX8_balance h) (tg 683 (by decide +kernel) rfl) (tg 685 (by decide +kernel) rfl) (sg (List.mem_of_getElem? (i := 39) (by decide +kernel)) rfl) (tg 1 (by decide +kernel) rfl) (tg 686 (by decide +kernel) rfl) ⟨rfl, by decide +kernel, by decide +kernel, by decide +kernel⟩ rfl rfl rfl ⟨hR, hR2⟩ (hw.2.2.1 0 (by decide)) hw hS (fun _ q => q) rfl rfl hsz hW hd hcs (fun H1 locs1 hw hz hk hS => kk H1 locs1 hw hS)
def fX8_near (x : XS) (a1 : Int32) (a2 : Int32) (a3 : Int32) : Option (Int64 × XS) := Option.bind (if a3 < 10 then some false else Option.bind (fX8_isIn x a1 (a3 - 10)) fun v1 => if v1 = true then some true else some false) fun v3 => Option.bind (fX8_isField x a1) fun v4 => if v4 = true then Option.bind (fX8_isWhen a2) fun v6 => if v6 = true then if v3 = true then bind2 (fX8_balance x a1 a2) fun v8 x9 => if a3 = 0 then some (v8.toInt64, x9) else if v3 = true then if ib (a3 - 10) 10 then some ((x9.2.1 24 (a3 - 10).toNatClampNeg).toInt64, x9) else none else Option.bind (fX0_gap x9) fun v11 => Option.bind (fX0_cases x9) fun v13 => Option.bind (fX8_inLowestTerms v11 (60 * v13) (a3 - 1)) fun v15 => some (v15, x9) else Option.bind (fX8_isWithin a3 0 2) fun v18 => if v18 = true then bind2 (fX8_balance x a1 a2) fun v20 x21 => if a3 = 0 then some (v20.toInt64, x21) else if v3 = true then if ib (a3 - 10) 10 then some ((x21.2.1 24 (a3 - 10).toNatClampNeg).toInt64, x21) else none else Option.bind (fX0_gap x21) fun v23 => Option.bind (fX0_cases x21) fun v25 => Option.bind (fX8_inLowestTerms v23 (60 * v25) (a3 - 1)) fun v27 => some (v27, x21) else some ((-4611686018427387904), x) else some ((-4611686018427387904), x) else some ((-4611686018427387904), x)
abbrev rmX8_near : Room := { frames := 7, cells := 0, slots := 0, locals := 162 }
set_option maxHeartbeats 4000000 in
set_option maxRecDepth 100000 in
theorem kX8_near {l : Launch} {G : xG} {β : Nat} {D : Nat → Prop} {x x' : XS} {a1 : Int32} {a2 : Int32} {a3 : Int32} {r : Int64} (hm : fX8_near x a1 a2 a3 = some (r, x')) : Met l yX8_near (.code yX8_near cX8_near 6 (some .long) :: GT) rmX8_near (PcW [.ref β, .int a1, .int a2, .int a3] (CW β D G x) (KK G)) (QcW D (some (.long r)) (CW β D G x')) 0 0 D := by
  unfold fX8_near at hm
  refine xpro (own := RX8) (by decide +kernel) rfl (Nat.le_of_ble_eq_true rfl) ?_
  intro p e s m args below meth c C hw ls hl
  have hx := C.1
  have hb := C.2.1
  have ho := C.2.2.2.1
  have hts := C.2.2.2.2.1
  have hf : Fz D G s.heap := hw.2.2.2.2
  have hS : va_S D s.heap s.heap [] := va_S.rf
  have hl : lv_has ls 6 [(0, .ref β), (1, .int a1), (2, .int a2), (3, .int a3)] := hl
  have hRf : 7 ≤ rmX8_near.frames := Nat.le_refl _
  have hRl : 162 ≤ rmX8_near.locals := Nat.le_refl _
  have hcs : 0 ≤ rmX8_near.cells ∧ 0 ≤ rmX8_near.slots := ⟨Nat.le_refl _, Nat.le_refl _⟩
  refine lv_iload_n hx hb dX8_near_0 rfl (lv_at hl 3 rfl) ?_
  refine lv_bipush (v := 10) hx hb dX8_near_1 (by decide) ?_
  obtain ⟨v3, hj, hm⟩ := bind_e hm
  have kk : ∀ (H : Heap) (locs : List Loc) (ls : Array Slot), CW β D G x H → va_S D s.heap H locs → lv_has ls 6 [(0, .ref β), (1, .int a1), (2, .int a2), (3, .int a3)] → W p l e rmX8_near s m args below meth c H locs 0 0 (MQ below (QcW D (some (.long r)) (CW β D G x')) args s 0 0 D) (F0 m 23 ls [.int (bI v3)]) := by
    intro H locs ls hw hS hl
    refine lv_istore (lv' := [(4, .int (bI v3)), (0, .ref β), (1, .int a1), (2, .int a2), (3, .int a3)]) hx hb dX8_near_23 hl (by decide) rfl (fun ls hl => ?_)
    refine lv_aload_n hx hb dX8_near_25 rfl (lv_at hl 1 rfl) ?_
    refine lv_iload_n hx hb dX8_near_26 rfl (lv_at hl 2 rfl) ?_
    obtain ⟨v4, h5, hm⟩ := bind_e hm
    refine sX8_187 C h5 hw hS hl.1 (Nat.le_of_ble_eq_true rfl) (Nat.le_trans (Nat.le_of_ble_eq_true rfl) hRf) (Nat.le_trans (Nat.le_of_ble_eq_true rfl) hRl) hcs dX8_near_27 (fun H locs hw hS => ?_)
    refine x_ifeqB hx hb dX8_near_30 (tgt := 54) (by decide) (fun cc => ?_) (fun cc => ?_)
    · replace hm := ite_n cc hm
      refine lv_ldc2 (v := (-4611686018427387904)) hx hb ho (hts (.constantLong RX8 157 (-4611686018427387904)) (tg 476 (by decide +kernel) rfl)) dX8_near_54 ?_
      obtain ⟨rfl, rfl⟩ := inj2 hm
      exact xret_l C hw hS dX8_near_57
    · replace hm := ite_p cc hm
      refine lv_iload_n hx hb dX8_near_33 rfl (lv_at hl 3 rfl) ?_
      obtain ⟨v6, h7, hm⟩ := bind_e hm
      refine sX8_190 C h7 hw hS hl.1 (Nat.le_of_ble_eq_true rfl) (Nat.le_trans (Nat.le_of_ble_eq_true rfl) hRf) (Nat.le_trans (Nat.le_of_ble_eq_true rfl) hRl) hcs dX8_near_34 (fun H locs hw hS => ?_)
      refine x_ifeqB hx hb dX8_near_37 (tgt := 54) (by decide) (fun cc => ?_) (fun cc => ?_)
      · replace hm := ite_n cc hm
        refine lv_ldc2 (v := (-4611686018427387904)) hx hb ho (hts (.constantLong RX8 157 (-4611686018427387904)) (tg 476 (by decide +kernel) rfl)) dX8_near_54 ?_
        obtain ⟨rfl, rfl⟩ := inj2 hm
        exact xret_l C hw hS dX8_near_57
      · replace hm := ite_p cc hm
        refine lv_iload hx hb dX8_near_40 (lv_at hl 0 rfl) ?_
        refine x_ifneB hx hb dX8_near_42 (tgt := 58) (by decide) (fun cc => ?_) (fun cc => ?_)
        · replace hm := ite_p cc hm
          refine lv_aload_n hx hb dX8_near_58 rfl (lv_at hl 1 rfl) ?_
          refine lv_iload_n hx hb dX8_near_59 rfl (lv_at hl 2 rfl) ?_
          refine lv_iload_n hx hb dX8_near_60 rfl (lv_at hl 3 rfl) ?_
          obtain ⟨v8, x9, h10, hm⟩ := bind2_e hm
          refine sX8_230 C h10 hw hS hl.1 (Nat.le_of_ble_eq_true rfl) (Nat.le_trans (Nat.le_of_ble_eq_true rfl) hRf) (Nat.le_trans (Nat.le_of_ble_eq_true rfl) hRl) hcs dX8_near_61 (fun H locs hw hS => ?_)
          refine lv_istore (lv' := [(5, .int v8), (4, .int (bI v3)), (0, .ref β), (1, .int a1), (2, .int a2), (3, .int a3)]) hx hb dX8_near_64 hl (by decide) rfl (fun ls hl => ?_)
          refine lv_iload_n hx hb dX8_near_66 rfl (lv_at hl 5 rfl) ?_
          refine lv_if_ne (tgt := 74) hx hb dX8_near_67 (by decide) (fun cc => ?_) (fun cc => ?_)
          · replace hm := ite_n cc hm
            refine lv_iload hx hb dX8_near_74 (lv_at hl 1 rfl) ?_
            refine x_ifeqB hx hb dX8_near_76 (tgt := 90) (by decide) (fun cc => ?_) (fun cc => ?_)
            · replace hm := ite_n cc hm
              refine lv_aload_n hx hb dX8_near_90 rfl (lv_at hl 2 rfl) ?_
              refine gX8_79 C hw dX8_near_91 ?_
              obtain ⟨v11, h12, hm⟩ := bind_e hm
              refine sX8_227 C h12 hw hS hl.1 (Nat.le_of_ble_eq_true rfl) (Nat.le_trans (Nat.le_of_ble_eq_true rfl) hRf) (Nat.le_trans (Nat.le_of_ble_eq_true rfl) hRl) hcs dX8_near_94 (fun H locs hw hS => ?_)
              refine lv_bipush (v := 60) hx hb dX8_near_97 (by decide) ?_
              refine lv_aload_n hx hb dX8_near_99 rfl (lv_at hl 2 rfl) ?_
              refine gX8_79 C hw dX8_near_100 ?_
              obtain ⟨v13, h14, hm⟩ := bind_e hm
              refine sX8_207 C h14 hw hS hl.1 (Nat.le_of_ble_eq_true rfl) (Nat.le_trans (Nat.le_of_ble_eq_true rfl) hRf) (Nat.le_trans (Nat.le_of_ble_eq_true rfl) hRl) hcs dX8_near_103 (fun H locs hw hS => ?_)
              refine lv_imul hx hb dX8_near_106 ?_
              refine lv_iload_n hx hb dX8_near_107 rfl (lv_at hl 5 rfl) ?_
              refine lv_iconst (v := 1) hx hb dX8_near_108 (by decide) ?_
              refine lv_isub hx hb dX8_near_109 ?_
              obtain ⟨v15, h16, hm⟩ := bind_e hm
              refine sX8_210 C h16 hw hS hl.1 (Nat.le_of_ble_eq_true rfl) (Nat.le_trans (Nat.le_of_ble_eq_true rfl) hRf) (Nat.le_trans (Nat.le_of_ble_eq_true rfl) hRl) hcs dX8_near_110 (fun H locs hw hS => ?_)
              obtain ⟨rfl, rfl⟩ := inj2 hm
              exact xret_l C hw hS dX8_near_113
            · replace hm := ite_p cc hm
              refine lv_aload_n hx hb dX8_near_79 rfl (lv_at hl 2 rfl) ?_
              refine gX8_89 C hw dX8_near_80 ?_
              refine lv_iload_n hx hb dX8_near_83 rfl (lv_at hl 5 rfl) ?_
              refine lv_bipush (v := 10) hx hb dX8_near_84 (by decide) ?_
              refine lv_isub hx hb dX8_near_86 ?_
              obtain ⟨h17, hm⟩ := chk_e hm
              refine alX_24 C hw h17 dX8_near_87 ?_
              refine lv_i2l hx hb dX8_near_88 rfl ?_
              obtain ⟨rfl, rfl⟩ := inj2 hm
              exact xret_l C hw hS dX8_near_89
          · replace hm := ite_p cc hm
            refine lv_iload hx hb dX8_near_70 (lv_at hl 0 rfl) ?_
            refine lv_i2l hx hb dX8_near_72 rfl ?_
            obtain ⟨rfl, rfl⟩ := inj2 hm
            exact xret_l C hw hS dX8_near_73
        · replace hm := ite_n cc hm
          refine lv_iload_n hx hb dX8_near_45 rfl (lv_at hl 4 rfl) ?_
          refine lv_iconst (v := 0) hx hb dX8_near_46 (by decide) ?_
          refine lv_iconst (v := 2) hx hb dX8_near_47 (by decide) ?_
          obtain ⟨v18, h19, hm⟩ := bind_e hm
          refine sX8_138 C h19 hw hS hl.1 (Nat.le_of_ble_eq_true rfl) (Nat.le_trans (Nat.le_of_ble_eq_true rfl) hRf) (Nat.le_trans (Nat.le_of_ble_eq_true rfl) hRl) hcs dX8_near_48 (fun H locs hw hS => ?_)
          refine x_ifneB hx hb dX8_near_51 (tgt := 58) (by decide) (fun cc => ?_) (fun cc => ?_)
          · replace hm := ite_p cc hm
            refine lv_aload_n hx hb dX8_near_58 rfl (lv_at hl 1 rfl) ?_
            refine lv_iload_n hx hb dX8_near_59 rfl (lv_at hl 2 rfl) ?_
            refine lv_iload_n hx hb dX8_near_60 rfl (lv_at hl 3 rfl) ?_
            obtain ⟨v20, x21, h22, hm⟩ := bind2_e hm
            refine sX8_230 C h22 hw hS hl.1 (Nat.le_of_ble_eq_true rfl) (Nat.le_trans (Nat.le_of_ble_eq_true rfl) hRf) (Nat.le_trans (Nat.le_of_ble_eq_true rfl) hRl) hcs dX8_near_61 (fun H locs hw hS => ?_)
            refine lv_istore (lv' := [(5, .int v20), (4, .int (bI v3)), (0, .ref β), (1, .int a1), (2, .int a2), (3, .int a3)]) hx hb dX8_near_64 hl (by decide) rfl (fun ls hl => ?_)
            refine lv_iload_n hx hb dX8_near_66 rfl (lv_at hl 5 rfl) ?_
            refine lv_if_ne (tgt := 74) hx hb dX8_near_67 (by decide) (fun cc => ?_) (fun cc => ?_)
            · replace hm := ite_n cc hm
              refine lv_iload hx hb dX8_near_74 (lv_at hl 1 rfl) ?_
              refine x_ifeqB hx hb dX8_near_76 (tgt := 90) (by decide) (fun cc => ?_) (fun cc => ?_)
              · replace hm := ite_n cc hm
                refine lv_aload_n hx hb dX8_near_90 rfl (lv_at hl 2 rfl) ?_
                refine gX8_79 C hw dX8_near_91 ?_
                obtain ⟨v23, h24, hm⟩ := bind_e hm
                refine sX8_227 C h24 hw hS hl.1 (Nat.le_of_ble_eq_true rfl) (Nat.le_trans (Nat.le_of_ble_eq_true rfl) hRf) (Nat.le_trans (Nat.le_of_ble_eq_true rfl) hRl) hcs dX8_near_94 (fun H locs hw hS => ?_)
                refine lv_bipush (v := 60) hx hb dX8_near_97 (by decide) ?_
                refine lv_aload_n hx hb dX8_near_99 rfl (lv_at hl 2 rfl) ?_
                refine gX8_79 C hw dX8_near_100 ?_
                obtain ⟨v25, h26, hm⟩ := bind_e hm
                refine sX8_207 C h26 hw hS hl.1 (Nat.le_of_ble_eq_true rfl) (Nat.le_trans (Nat.le_of_ble_eq_true rfl) hRf) (Nat.le_trans (Nat.le_of_ble_eq_true rfl) hRl) hcs dX8_near_103 (fun H locs hw hS => ?_)
                refine lv_imul hx hb dX8_near_106 ?_
                refine lv_iload_n hx hb dX8_near_107 rfl (lv_at hl 5 rfl) ?_
                refine lv_iconst (v := 1) hx hb dX8_near_108 (by decide) ?_
                refine lv_isub hx hb dX8_near_109 ?_
                obtain ⟨v27, h28, hm⟩ := bind_e hm
                refine sX8_210 C h28 hw hS hl.1 (Nat.le_of_ble_eq_true rfl) (Nat.le_trans (Nat.le_of_ble_eq_true rfl) hRf) (Nat.le_trans (Nat.le_of_ble_eq_true rfl) hRl) hcs dX8_near_110 (fun H locs hw hS => ?_)
                obtain ⟨rfl, rfl⟩ := inj2 hm
                exact xret_l C hw hS dX8_near_113
              · replace hm := ite_p cc hm
                refine lv_aload_n hx hb dX8_near_79 rfl (lv_at hl 2 rfl) ?_
                refine gX8_89 C hw dX8_near_80 ?_
                refine lv_iload_n hx hb dX8_near_83 rfl (lv_at hl 5 rfl) ?_
                refine lv_bipush (v := 10) hx hb dX8_near_84 (by decide) ?_
                refine lv_isub hx hb dX8_near_86 ?_
                obtain ⟨h29, hm⟩ := chk_e hm
                refine alX_24 C hw h29 dX8_near_87 ?_
                refine lv_i2l hx hb dX8_near_88 rfl ?_
                obtain ⟨rfl, rfl⟩ := inj2 hm
                exact xret_l C hw hS dX8_near_89
            · replace hm := ite_p cc hm
              refine lv_iload hx hb dX8_near_70 (lv_at hl 0 rfl) ?_
              refine lv_i2l hx hb dX8_near_72 rfl ?_
              obtain ⟨rfl, rfl⟩ := inj2 hm
              exact xret_l C hw hS dX8_near_73
          · replace hm := ite_n cc hm
            refine lv_ldc2 (v := (-4611686018427387904)) hx hb ho (hts (.constantLong RX8 157 (-4611686018427387904)) (tg 476 (by decide +kernel) rfl)) dX8_near_54 ?_
            obtain ⟨rfl, rfl⟩ := inj2 hm
            exact xret_l C hw hS dX8_near_57
  clear hm
  replace hm := hj
  clear hj
  refine lv_icmp_lt (tgt := 22) hx hb dX8_near_3 (by decide) (fun cc => ?_) (fun cc => ?_)
  · replace hm := ite_p cc hm
    refine lv_iconst (v := 0) hx hb dX8_near_22 (by decide) ?_
    obtain rfl := Option.some.inj hm
    exact kk _ _ _ hw hS (lv_sub hl [0, 1, 2, 3] rfl)
  · replace hm := ite_n cc hm
    refine lv_aload_n hx hb dX8_near_6 rfl (lv_at hl 0 rfl) ?_
    refine lv_iload_n hx hb dX8_near_7 rfl (lv_at hl 1 rfl) ?_
    refine lv_iload_n hx hb dX8_near_8 rfl (lv_at hl 3 rfl) ?_
    refine lv_bipush (v := 10) hx hb dX8_near_9 (by decide) ?_
    refine lv_isub hx hb dX8_near_11 ?_
    obtain ⟨v1, h2, hm⟩ := bind_e hm
    refine sX8_193 C h2 hw hS hl.1 (Nat.le_of_ble_eq_true rfl) (Nat.le_trans (Nat.le_of_ble_eq_true rfl) hRf) (Nat.le_trans (Nat.le_of_ble_eq_true rfl) hRl) hcs dX8_near_12 (fun H locs hw hS => ?_)
    refine x_ifeqB hx hb dX8_near_15 (tgt := 22) (by decide) (fun cc => ?_) (fun cc => ?_)
    · replace hm := ite_n cc hm
      refine lv_iconst (v := 0) hx hb dX8_near_22 (by decide) ?_
      obtain rfl := Option.some.inj hm
      exact kk _ _ _ hw hS (lv_sub hl [0, 1, 2, 3] rfl)
    · replace hm := ite_p cc hm
      refine lv_iconst (v := 1) hx hb dX8_near_18 (by decide) ?_
      refine lv_goto (tgt := 23) hx hb dX8_near_19 (by decide) ?_
      obtain rfl := Option.some.inj hm
      exact kk _ _ _ hw hS (lv_sub hl [0, 1, 2, 3] rfl)
theorem dX8_lay_0 : decode cX8_lay 0 = .ok (.aload_n 0, 1) := by decide +kernel
theorem dX8_lay_1 : decode cX8_lay 1 = .ok (.iload_n 1, 1) := by decide +kernel
theorem dX8_lay_2 : decode cX8_lay 2 = .ok (.invokevirtual 187, 3) := by decide +kernel
theorem dX8_lay_5 : decode cX8_lay 5 = .ok (.ifCond .eq 10, 3) := by decide +kernel
theorem dX8_lay_8 : decode cX8_lay 8 = .ok (.iload_n 2, 1) := by decide +kernel
theorem dX8_lay_9 : decode cX8_lay 9 = .ok (.invokestatic 190, 3) := by decide +kernel
theorem dX8_lay_12 : decode cX8_lay 12 = .ok (.ifCond .ne 6, 3) := by decide +kernel
theorem dX8_lay_15 : decode cX8_lay 15 = .ok (.bipush (-2), 2) := by decide +kernel
theorem dX8_lay_17 : decode cX8_lay 17 = .ok (.ireturn, 1) := by decide +kernel
theorem dX8_lay_18 : decode cX8_lay 18 = .ok (.aload_n 0, 1) := by decide +kernel
theorem dX8_lay_19 : decode cX8_lay 19 = .ok (.iload_n 1, 1) := by decide +kernel
theorem dX8_lay_20 : decode cX8_lay 20 = .ok (.iload_n 2, 1) := by decide +kernel
theorem dX8_lay_21 : decode cX8_lay 21 = .ok (.invokevirtual 230, 3) := by decide +kernel
theorem dX8_lay_24 : decode cX8_lay 24 = .ok (.istore_n 3, 1) := by decide +kernel
theorem dX8_lay_25 : decode cX8_lay 25 = .ok (.iconst 0, 1) := by decide +kernel
theorem dX8_lay_26 : decode cX8_lay 26 = .ok (.istore 4, 2) := by decide +kernel
theorem dX8_lay_28 : decode cX8_lay 28 = .ok (.iload 4, 2) := by decide +kernel
theorem dX8_lay_30 : decode cX8_lay 30 = .ok (.aload_n 0, 1) := by decide +kernel
theorem dX8_lay_31 : decode cX8_lay 31 = .ok (.getfield 15, 3) := by decide +kernel
theorem dX8_lay_34 : decode cX8_lay 34 = .ok (.if_icmp .ge 34, 3) := by decide +kernel
theorem dX8_lay_37 : decode cX8_lay 37 = .ok (.aload_n 0, 1) := by decide +kernel
theorem dX8_lay_38 : decode cX8_lay 38 = .ok (.iload 4, 2) := by decide +kernel
theorem dX8_lay_40 : decode cX8_lay 40 = .ok (.invokevirtual 134, 3) := by decide +kernel
theorem dX8_lay_43 : decode cX8_lay 43 = .ok (.astore 5, 2) := by decide +kernel
theorem dX8_lay_45 : decode cX8_lay 45 = .ok (.aload 5, 2) := by decide +kernel
theorem dX8_lay_47 : decode cX8_lay 47 = .ok (.ifnull 15, 3) := by decide +kernel
theorem dX8_lay_50 : decode cX8_lay 50 = .ok (.aload 5, 2) := by decide +kernel
theorem dX8_lay_52 : decode cX8_lay 52 = .ok (.aload_n 0, 1) := by decide +kernel
theorem dX8_lay_53 : decode cX8_lay 53 = .ok (.getfield 89, 3) := by decide +kernel
theorem dX8_lay_56 : decode cX8_lay 56 = .ok (.iload 4, 2) := by decide +kernel
theorem dX8_lay_58 : decode cX8_lay 58 = .ok (.iaload, 1) := by decide +kernel
theorem dX8_lay_59 : decode cX8_lay 59 = .ok (.putfield 147, 3) := by decide +kernel
theorem dX8_lay_62 : decode cX8_lay 62 = .ok (.iinc 4 1, 3) := by decide +kernel
theorem dX8_lay_65 : decode cX8_lay 65 = .ok (.goto (-37), 3) := by decide +kernel
theorem dX8_lay_68 : decode cX8_lay 68 = .ok (.iload_n 3, 1) := by decide +kernel
theorem dX8_lay_69 : decode cX8_lay 69 = .ok (.ireturn, 1) := by decide +kernel
def BX8_lay_28 (q3 : Int32) (lp : Int32 → XS → Option (XS)) (u4 : Int32) (x : XS) : Option (XS) := if (x.1 0 1) ≤ u4 then some x else Option.bind (fX8_horseAt x u4) fun v8 => oc v8 (lt (u4 + 1) fun v11 => lp v11 x) (fun p10 => if ib u4 10 then Option.bind (dPut x p10 1 5 (.int (x.2.1 24 u4.toNatClampNeg))) fun x13 => lt (u4 + 1) fun v15 => lp v15 x13 else none)
def LX8_lay_28 (q3 : Int32) : Nat → Int32 → XS → Option (XS)
  | 0, _, _ => none
  | n + 1, u4, x => BX8_lay_28 q3 (LX8_lay_28 q3 n) u4 x
def fX8_lay (x : XS) (a1 : Int32) (a2 : Int32) : Option (Int32 × XS) := Option.bind (fX8_isField x a1) fun v1 => if v1 = true then Option.bind (fX8_isWhen a2) fun v3 => if v3 = true then bind2 (fX8_balance x a1 a2) fun v5 x6 => Option.bind (LX8_lay_28 v5 NF 0 x6) fun x16 => some (v5, x16) else some ((-2), x) else some ((-2), x)
set_option maxHeartbeats 4000000 in
set_option maxRecDepth 100000 in
theorem lX8_lay_28 {p : Program} {l : Launch} {e : Env} {R : Room} {s : State} {m : MethodId} {args : Array Value} {below : List Frame} {meth : Method} {c : Code} {cells slots : Nat} {Q : State → Prop} {G : xG} {β : Nat} {D : Nat → Prop} (C : Cx p s m args meth c RX8 cX8_lay 6 (some .int) (KK G)) (hRf : 7 ≤ R.frames) (hRl : 162 ≤ R.locals) (hcs : cells ≤ R.cells ∧ slots ≤ R.slots) (hf : Fz D G s.heap) (q3 : Int32) : ∀ (n : Nat) (u4 : Int32) (x : XS) (J : XS) (H : Heap) (locs : List Loc) (ls : Array Slot), LX8_lay_28 q3 n u4 x = some J → CW β D G x H → va_S D s.heap H locs → lv_has ls 6 [(0, .ref β), (3, .int q3), (4, .int u4)] → (∀ (x1 : XS), J = x1 → ∀ (H : Heap) (locs : List Loc) (ls : Array Slot), CW β D G x1 H → va_S D s.heap H locs → lv_has ls 6 [(3, .int q3)] → W p l e R s m args below meth c H locs cells slots Q (F0 m 68 ls [])) → W p l e R s m args below meth c H locs cells slots Q (F0 m 28 ls []) := by
  have hx := C.1
  have hb := C.2.1
  have ho := C.2.2.2.1
  have hts := C.2.2.2.2.1
  intro n
  induction n with
  | zero =>
    intro u4 x J H locs ls hm
    exact absurd hm (by simp [LX8_lay_28])
  | succ n ih =>
    intro u4 x J H locs ls hm hw hS hl ke
    replace hm : BX8_lay_28 q3 (LX8_lay_28 q3 n) u4 x = some J := hm
    unfold BX8_lay_28 at hm
    refine lv_iload hx hb dX8_lay_28 (lv_at hl 2 rfl) ?_
    refine lv_aload_n hx hb dX8_lay_30 rfl (lv_at hl 0 rfl) ?_
    refine gX8_15 C hw dX8_lay_31 ?_
    refine lv_icmp_ge (tgt := 68) hx hb dX8_lay_34 (by decide) (fun cc => ?_) (fun cc => ?_)
    · replace hm := ite_p cc hm
      exact ke _ (Option.some.inj hm).symm _ _ _ hw hS (lv_sub hl [1] rfl)
    · replace hm := ite_n cc hm
      refine lv_aload_n hx hb dX8_lay_37 rfl (lv_at hl 0 rfl) ?_
      refine lv_iload hx hb dX8_lay_38 (lv_at hl 2 rfl) ?_
      obtain ⟨v8, h9, hm⟩ := bind_e hm
      refine sX8_134 C h9 hw hS hl.1 (Nat.le_of_ble_eq_true rfl) (Nat.le_trans (Nat.le_of_ble_eq_true rfl) hRf) (Nat.le_trans (Nat.le_of_ble_eq_true rfl) hRl) hcs dX8_lay_40 (fun H locs hw hS => ?_)
      refine x_astoreq (lv' := [(5, va_rf v8), (0, .ref β), (3, .int q3), (4, .int u4)]) hx hb dX8_lay_43 hl (by decide) rfl (fun ls hl => ?_)
      refine x_aloadq hx hb dX8_lay_45 (lv_at hl 0 rfl) ?_
      rcases v8 with _ | p10
      · replace hm := oc_n hm
        refine lv_ifnullN (tgt := 62) hx hb dX8_lay_47 (by decide) ?_
        obtain ⟨v11, ev, hm⟩ := lt_e hm
        refine lv_iinc (v := v11) (lv' := [(4, .int v11), (5, .null), (0, .ref β), (3, .int q3)]) hx hb dX8_lay_62 hl (k := 3) rfl (by rw [ev]; rfl) (by decide) rfl (fun ls hl => ?_)
        clear ev
        refine lv_goto (tgt := 28) hx hb dX8_lay_65 (by decide) ?_
        exact ih _ _ _ _ _ _ hm hw hS (lv_sub hl [2, 3, 0] rfl) ke
      · replace hm := oc_s hm
        refine lv_ifnull hx hb dX8_lay_47 ?_
        refine lv_aload hx hb dX8_lay_50 (lv_at hl 0 rfl) ?_
        refine lv_aload_n hx hb dX8_lay_52 rfl (lv_at hl 1 rfl) ?_
        refine gX8_89 C hw dX8_lay_53 ?_
        refine lv_iload hx hb dX8_lay_56 (lv_at hl 3 rfl) ?_
        obtain ⟨h12, hm⟩ := chk_e hm
        refine alX_24 C hw h12 dX8_lay_58 ?_
        obtain ⟨x13, h14, hm⟩ := bind_e hm
        refine pdX8_147 C h14 hw hS dX8_lay_59 (fun H locs hw hS => ?_)
        obtain ⟨v15, ev, hm⟩ := lt_e hm
        refine lv_iinc (v := v15) (lv' := [(4, .int v15), (5, .ref p10), (0, .ref β), (3, .int q3)]) hx hb dX8_lay_62 hl (k := 3) rfl (by rw [ev]; rfl) (by decide) rfl (fun ls hl => ?_)
        clear ev
        refine lv_goto (tgt := 28) hx hb dX8_lay_65 (by decide) ?_
        exact ih _ _ _ _ _ _ hm hw hS (lv_sub hl [2, 3, 0] rfl) ke
abbrev rmX8_lay : Room := { frames := 7, cells := 0, slots := 0, locals := 162 }
set_option maxHeartbeats 4000000 in
set_option maxRecDepth 100000 in
theorem kX8_lay {l : Launch} {G : xG} {β : Nat} {D : Nat → Prop} {x x' : XS} {a1 : Int32} {a2 : Int32} {r : Int32} (hm : fX8_lay x a1 a2 = some (r, x')) : Met l yX8_lay (.code yX8_lay cX8_lay 6 (some .int) :: GT) rmX8_lay (PcW [.ref β, .int a1, .int a2] (CW β D G x) (KK G)) (QcW D (some (.int r)) (CW β D G x')) 0 0 D := by
  unfold fX8_lay at hm
  refine xpro (own := RX8) (by decide +kernel) rfl (Nat.le_of_ble_eq_true rfl) ?_
  intro p e s m args below meth c C hw ls hl
  have hx := C.1
  have hb := C.2.1
  have ho := C.2.2.2.1
  have hts := C.2.2.2.2.1
  have hf : Fz D G s.heap := hw.2.2.2.2
  have hS : va_S D s.heap s.heap [] := va_S.rf
  have hl : lv_has ls 6 [(0, .ref β), (1, .int a1), (2, .int a2)] := hl
  have hRf : 7 ≤ rmX8_lay.frames := Nat.le_refl _
  have hRl : 162 ≤ rmX8_lay.locals := Nat.le_refl _
  have hcs : 0 ≤ rmX8_lay.cells ∧ 0 ≤ rmX8_lay.slots := ⟨Nat.le_refl _, Nat.le_refl _⟩
  refine lv_aload_n hx hb dX8_lay_0 rfl (lv_at hl 0 rfl) ?_
  refine lv_iload_n hx hb dX8_lay_1 rfl (lv_at hl 1 rfl) ?_
  obtain ⟨v1, h2, hm⟩ := bind_e hm
  refine sX8_187 C h2 hw hS hl.1 (Nat.le_of_ble_eq_true rfl) (Nat.le_trans (Nat.le_of_ble_eq_true rfl) hRf) (Nat.le_trans (Nat.le_of_ble_eq_true rfl) hRl) hcs dX8_lay_2 (fun H locs hw hS => ?_)
  refine x_ifeqB hx hb dX8_lay_5 (tgt := 15) (by decide) (fun cc => ?_) (fun cc => ?_)
  · replace hm := ite_n cc hm
    refine lv_bipush (v := (-2)) hx hb dX8_lay_15 (by decide) ?_
    obtain ⟨rfl, rfl⟩ := inj2 hm
    exact xret_i C hw hS dX8_lay_17
  · replace hm := ite_p cc hm
    refine lv_iload_n hx hb dX8_lay_8 rfl (lv_at hl 2 rfl) ?_
    obtain ⟨v3, h4, hm⟩ := bind_e hm
    refine sX8_190 C h4 hw hS hl.1 (Nat.le_of_ble_eq_true rfl) (Nat.le_trans (Nat.le_of_ble_eq_true rfl) hRf) (Nat.le_trans (Nat.le_of_ble_eq_true rfl) hRl) hcs dX8_lay_9 (fun H locs hw hS => ?_)
    refine x_ifneB hx hb dX8_lay_12 (tgt := 18) (by decide) (fun cc => ?_) (fun cc => ?_)
    · replace hm := ite_p cc hm
      refine lv_aload_n hx hb dX8_lay_18 rfl (lv_at hl 0 rfl) ?_
      refine lv_iload_n hx hb dX8_lay_19 rfl (lv_at hl 1 rfl) ?_
      refine lv_iload_n hx hb dX8_lay_20 rfl (lv_at hl 2 rfl) ?_
      obtain ⟨v5, x6, h7, hm⟩ := bind2_e hm
      refine sX8_230 C h7 hw hS hl.1 (Nat.le_of_ble_eq_true rfl) (Nat.le_trans (Nat.le_of_ble_eq_true rfl) hRf) (Nat.le_trans (Nat.le_of_ble_eq_true rfl) hRl) hcs dX8_lay_21 (fun H locs hw hS => ?_)
      refine lv_istore_n (lv' := [(3, .int v5), (0, .ref β), (1, .int a1), (2, .int a2)]) hx hb dX8_lay_24 rfl hl (by decide) rfl (fun ls hl => ?_)
      refine lv_iconst (v := 0) hx hb dX8_lay_25 (by decide) ?_
      refine lv_istore (lv' := [(4, .int 0), (3, .int v5), (0, .ref β), (1, .int a1), (2, .int a2)]) hx hb dX8_lay_26 hl (by decide) rfl (fun ls hl => ?_)
      obtain ⟨x16, hj, hm⟩ := bind_e hm
      refine lX8_lay_28 C hRf hRl hcs hf v5 NF _ _ _ _ _ _ hj hw hS (lv_sub hl [2, 1, 0] rfl) (fun x16_ e0 H locs ls hw hS hl => ?_)
      cases e0
      refine lv_iload_n hx hb dX8_lay_68 rfl (lv_at hl 0 rfl) ?_
      obtain ⟨rfl, rfl⟩ := inj2 hm
      exact xret_i C hw hS dX8_lay_69
    · replace hm := ite_n cc hm
      refine lv_bipush (v := (-2)) hx hb dX8_lay_15 (by decide) ?_
      obtain ⟨rfl, rfl⟩ := inj2 hm
      exact xret_i C hw hS dX8_lay_17
theorem dX8_feed_0 : decode cX8_feed 0 = .ok (.iload_n 1, 1) := by decide +kernel
theorem dX8_feed_1 : decode cX8_feed 1 = .ok (.iconst 1, 1) := by decide +kernel
theorem dX8_feed_2 : decode cX8_feed 2 = .ok (.bipush 8, 2) := by decide +kernel
theorem dX8_feed_4 : decode cX8_feed 4 = .ok (.invokestatic 138, 3) := by decide +kernel
theorem dX8_feed_7 : decode cX8_feed 7 = .ok (.ifCond .ne 6, 3) := by decide +kernel
theorem dX8_feed_10 : decode cX8_feed 10 = .ok (.bipush (-2), 2) := by decide +kernel
theorem dX8_feed_12 : decode cX8_feed 12 = .ok (.ireturn, 1) := by decide +kernel
theorem dX8_feed_13 : decode cX8_feed 13 = .ok (.aload_n 0, 1) := by decide +kernel
theorem dX8_feed_14 : decode cX8_feed 14 = .ok (.getfield 38, 3) := by decide +kernel
theorem dX8_feed_17 : decode cX8_feed 17 = .ok (.getfield 233, 3) := by decide +kernel
theorem dX8_feed_20 : decode cX8_feed 20 = .ok (.iload_n 1, 1) := by decide +kernel
theorem dX8_feed_21 : decode cX8_feed 21 = .ok (.iadd, 1) := by decide +kernel
theorem dX8_feed_22 : decode cX8_feed 22 = .ok (.sipush 160, 3) := by decide +kernel
theorem dX8_feed_25 : decode cX8_feed 25 = .ok (.if_icmp .le 6, 3) := by decide +kernel
theorem dX8_feed_28 : decode cX8_feed 28 = .ok (.bipush (-4), 2) := by decide +kernel
theorem dX8_feed_30 : decode cX8_feed 30 = .ok (.ireturn, 1) := by decide +kernel
theorem dX8_feed_31 : decode cX8_feed 31 = .ok (.iconst 0, 1) := by decide +kernel
theorem dX8_feed_32 : decode cX8_feed 32 = .ok (.istore 4, 2) := by decide +kernel
theorem dX8_feed_34 : decode cX8_feed 34 = .ok (.iload 4, 2) := by decide +kernel
theorem dX8_feed_36 : decode cX8_feed 36 = .ok (.iload_n 1, 1) := by decide +kernel
theorem dX8_feed_37 : decode cX8_feed 37 = .ok (.if_icmp .ge 28, 3) := by decide +kernel
theorem dX8_feed_40 : decode cX8_feed 40 = .ok (.aload_n 0, 1) := by decide +kernel
theorem dX8_feed_41 : decode cX8_feed 41 = .ok (.getfield 38, 3) := by decide +kernel
theorem dX8_feed_44 : decode cX8_feed 44 = .ok (.lload_n 2, 1) := by decide +kernel
theorem dX8_feed_45 : decode cX8_feed 45 = .ok (.bipush 8, 2) := by decide +kernel
theorem dX8_feed_47 : decode cX8_feed 47 = .ok (.iload 4, 2) := by decide +kernel
theorem dX8_feed_49 : decode cX8_feed 49 = .ok (.imul, 1) := by decide +kernel
theorem dX8_feed_50 : decode cX8_feed 50 = .ok (.lshr, 1) := by decide +kernel
theorem dX8_feed_51 : decode cX8_feed 51 = .ok (.ldc2_w 236, 3) := by decide +kernel
theorem dX8_feed_54 : decode cX8_feed 54 = .ok (.land, 1) := by decide +kernel
theorem dX8_feed_55 : decode cX8_feed 55 = .ok (.l2i, 1) := by decide +kernel
theorem dX8_feed_56 : decode cX8_feed 56 = .ok (.invokevirtual 116, 3) := by decide +kernel
theorem dX8_feed_59 : decode cX8_feed 59 = .ok (.iinc 4 1, 3) := by decide +kernel
theorem dX8_feed_62 : decode cX8_feed 62 = .ok (.goto (-28), 3) := by decide +kernel
theorem dX8_feed_65 : decode cX8_feed 65 = .ok (.aload_n 0, 1) := by decide +kernel
theorem dX8_feed_66 : decode cX8_feed 66 = .ok (.getfield 38, 3) := by decide +kernel
theorem dX8_feed_69 : decode cX8_feed 69 = .ok (.getfield 233, 3) := by decide +kernel
theorem dX8_feed_72 : decode cX8_feed 72 = .ok (.ireturn, 1) := by decide +kernel
theorem gX8_38 {p : Program} {l : Launch} {e : Env} {R : Room} {s : State} {m : MethodId} {args : Array Value} {below : List Frame} {meth : Method} {c : Code} {H : Heap} {locs : List Loc} {cells slots : Nat} {Q : State → Prop} {cc : ByteArray} {pc nL : Nat} {ls : Array Slot} {rest : List Value} {ret : Option FieldType} {G : xG} {β : Nat} {D : Nat → Prop} {x : XS} (C : Cx p s m args meth c RX8 cc nL ret (KK G)) (hw : CW β D G x H) (hd : decode cc pc = .ok (.getfield 38, 3)) (kk : W p l e R s m args below meth c H locs cells slots Q (F0 m (pc + 3) ls (.ref (β + 4) :: rest))) : W p l e R s m args below meth c H locs cells slots Q (F0 m pc ls (.ref β :: rest)) :=
  va_get C.1 C.2.1 C.2.2.2.2.1 iwX8 C.2.2.2.1 C.K.1 (xP1 (hw.2.2.1 0 (by decide))) 0 rfl rfl 6 (by decide) (C.2.2.2.2.1 (.fieldLink RX8 38 RX8 "tape" "LAtThePost$Tape;") (tg 353 (by decide +kernel) rfl)) (fun _ h9 => h9) rfl hd kk
theorem gX8_233 {p : Program} {l : Launch} {e : Env} {R : Room} {s : State} {m : MethodId} {args : Array Value} {below : List Frame} {meth : Method} {c : Code} {H : Heap} {locs : List Loc} {cells slots : Nat} {Q : State → Prop} {cc : ByteArray} {pc nL : Nat} {ls : Array Slot} {rest : List Value} {ret : Option FieldType} {G : xG} {β : Nat} {D : Nat → Prop} {x : XS} (C : Cx p s m args meth c RX8 cc nL ret (KK G)) (hw : CW β D G x H) (hd : decode cc pc = .ok (.getfield 233, 3)) (kk : W p l e R s m args below meth c H locs cells slots Q (F0 m (pc + 3) ls (.int (x.1 4 1) :: rest))) : W p l e R s m args below meth c H locs cells slots Q (F0 m pc ls (.ref (β + 4) :: rest)) :=
  va_getN C.1 C.2.1 C.2.2.2.2.1 iwX6 C.2.2.2.1 C.K.1 (xP1 (hw.2.2.1 4 (by decide))) 0 rfl rfl 1 (by decide) (va_Nw.use (w := .fieldLinkNest RX8 233 RX6 "size" "I" "AtThePost") rfl (C.K.2.1 (RX8, 233, RX6, "size", "I") (List.mem_of_getElem? (i := 0) rfl))) (fun _ h9 => h9) rfl hd kk
theorem sX8_116 {p : Program} {l : Launch} {e : Env} {R : Room} {s : State} {m : MethodId} {args : Array Value} {below : List Frame} {meth : Method} {c : Code} {H : Heap} {locs : List Loc} {cells slots : Nat} {Q : State → Prop} {cc : ByteArray} {pc nL : Nat} {ls : Array Slot} {rest : List Value} {ret : Option FieldType}  {G : xG} {β : Nat} {D : Nat → Prop} {x x' : XS} {a1 : Int32} (C : Cx p s m args meth c RX8 cc nL ret (KK G)) (h : fX6_append x a1 = some x') (hw : CW β D G x H) (hS : va_S D s.heap H locs) (hsz : ls.size = nL) (hW : (rest.map fun v => v.category).sum ≤ 8) (hR : 1 ≤ R.frames) (hR2 : 21 ≤ R.locals) (hcs : cells ≤ R.cells ∧ slots ≤ R.slots) (hd : decode cc pc = .ok (.invokevirtual 116, 3)) (kk : ∀ (H1 : Heap) (locs1 : List Loc), CW β D G x' H1 → va_S D s.heap H1 locs1 → W p l e R s m args below meth c H1 locs1 cells slots Q (F0 m (pc + 3) ls (rest))) : W p l e R s m args below meth c H locs cells slots Q (F0 m pc ls (.int a1 :: .ref (β + 4) :: rest)) := by
  exact xcallV C (As := [.int a1]) (rest := rest) (nA := 1) (ci := 6) (kX6_append h) (tg 208 (by decide +kernel) rfl) (tg 209 (by decide +kernel) rfl) (tg 210 (by decide +kernel) rfl) (tg 2 (by decide +kernel) rfl) (tg 211 (by decide +kernel) rfl) ⟨rfl, by decide +kernel, by decide +kernel, by decide +kernel⟩ rfl rfl rfl ⟨hR, hR2⟩ (hw.2.2.1 4 (by decide)) hw hS (fun _ q => q) rfl rfl hsz hW hd hcs (fun H1 locs1 hw hz hk hS => kk H1 locs1 hw hS)
def BX8_feed_34 (q1 : Int32) (q2 : Int64) (lp : Int32 → XS → Option (XS)) (u4 : Int32) (x : XS) : Option (XS) := if q1 ≤ u4 then some x else Option.bind (fX6_append x (((q2 >>> ((8 * u4).toInt64 &&& 63)) &&& 255).toInt32)) fun x3 => lt (u4 + 1) fun v5 => lp v5 x3
def LX8_feed_34 (q1 : Int32) (q2 : Int64) : Nat → Int32 → XS → Option (XS)
  | 0, _, _ => none
  | n + 1, u4, x => BX8_feed_34 q1 q2 (LX8_feed_34 q1 q2 n) u4 x
def fX8_feed (x : XS) (a1 : Int32) (a2 : Int64) : Option (Int32 × XS) := Option.bind (fX8_isWithin a1 1 8) fun v1 => if v1 = true then if ((x.1 4 1) + a1) ≤ 160 then Option.bind (LX8_feed_34 a1 a2 NF 0 x) fun x6 => some (x6.1 4 1, x6) else some ((-4), x) else some ((-2), x)
set_option maxHeartbeats 4000000 in
set_option maxRecDepth 100000 in
theorem lX8_feed_34 {p : Program} {l : Launch} {e : Env} {R : Room} {s : State} {m : MethodId} {args : Array Value} {below : List Frame} {meth : Method} {c : Code} {cells slots : Nat} {Q : State → Prop} {G : xG} {β : Nat} {D : Nat → Prop} (C : Cx p s m args meth c RX8 cX8_feed 5 (some .int) (KK G)) (hRf : 1 ≤ R.frames) (hRl : 22 ≤ R.locals) (hcs : cells ≤ R.cells ∧ slots ≤ R.slots) (hf : Fz D G s.heap) (q1 : Int32) (q2 : Int64) : ∀ (n : Nat) (u4 : Int32) (x : XS) (J : XS) (H : Heap) (locs : List Loc) (ls : Array Slot), LX8_feed_34 q1 q2 n u4 x = some J → CW β D G x H → va_S D s.heap H locs → lv_has ls 5 [(0, .ref β), (1, .int q1), (2, .long q2), (4, .int u4)] → (∀ (x1 : XS), J = x1 → ∀ (H : Heap) (locs : List Loc) (ls : Array Slot), CW β D G x1 H → va_S D s.heap H locs → lv_has ls 5 [(0, .ref β)] → W p l e R s m args below meth c H locs cells slots Q (F0 m 65 ls [])) → W p l e R s m args below meth c H locs cells slots Q (F0 m 34 ls []) := by
  have hx := C.1
  have hb := C.2.1
  have ho := C.2.2.2.1
  have hts := C.2.2.2.2.1
  intro n
  induction n with
  | zero =>
    intro u4 x J H locs ls hm
    exact absurd hm (by simp [LX8_feed_34])
  | succ n ih =>
    intro u4 x J H locs ls hm hw hS hl ke
    replace hm : BX8_feed_34 q1 q2 (LX8_feed_34 q1 q2 n) u4 x = some J := hm
    unfold BX8_feed_34 at hm
    refine lv_iload hx hb dX8_feed_34 (lv_at hl 3 rfl) ?_
    refine lv_iload_n hx hb dX8_feed_36 rfl (lv_at hl 1 rfl) ?_
    refine lv_icmp_ge (tgt := 65) hx hb dX8_feed_37 (by decide) (fun cc => ?_) (fun cc => ?_)
    · replace hm := ite_p cc hm
      exact ke _ (Option.some.inj hm).symm _ _ _ hw hS (lv_sub hl [0] rfl)
    · replace hm := ite_n cc hm
      refine lv_aload_n hx hb dX8_feed_40 rfl (lv_at hl 0 rfl) ?_
      refine gX8_38 C hw dX8_feed_41 ?_
      refine lv_lload_n hx hb dX8_feed_44 rfl (lv_at hl 2 rfl) ?_
      refine lv_bipush (v := 8) hx hb dX8_feed_45 (by decide) ?_
      refine lv_iload hx hb dX8_feed_47 (lv_at hl 3 rfl) ?_
      refine lv_imul hx hb dX8_feed_49 ?_
      refine lv_lshr hx hb dX8_feed_50 rfl ?_
      refine lv_ldc2 (v := 255) hx hb ho (hts (.constantLong RX8 236 255) (tg 703 (by decide +kernel) rfl)) dX8_feed_51 ?_
      refine lv_land hx hb dX8_feed_54 ?_
      refine lv_l2i hx hb dX8_feed_55 rfl ?_
      obtain ⟨x3, h4, hm⟩ := bind_e hm
      refine sX8_116 C h4 hw hS hl.1 (Nat.le_of_ble_eq_true rfl) (Nat.le_trans (Nat.le_of_ble_eq_true rfl) hRf) (Nat.le_trans (Nat.le_of_ble_eq_true rfl) hRl) hcs dX8_feed_56 (fun H locs hw hS => ?_)
      obtain ⟨v5, ev, hm⟩ := lt_e hm
      refine lv_iinc (v := v5) (lv' := [(4, .int v5), (0, .ref β), (1, .int q1), (2, .long q2)]) hx hb dX8_feed_59 hl (k := 3) rfl (by rw [ev]; rfl) (by decide) rfl (fun ls hl => ?_)
      clear ev
      refine lv_goto (tgt := 34) hx hb dX8_feed_62 (by decide) ?_
      exact ih _ _ _ _ _ _ hm hw hS (lv_sub hl [1, 2, 3, 0] rfl) ke
abbrev rmX8_feed : Room := { frames := 1, cells := 0, slots := 0, locals := 22 }
set_option maxHeartbeats 4000000 in
set_option maxRecDepth 100000 in
theorem kX8_feed {l : Launch} {G : xG} {β : Nat} {D : Nat → Prop} {x x' : XS} {a1 : Int32} {a2 : Int64} {r : Int32} (hm : fX8_feed x a1 a2 = some (r, x')) : Met l yX8_feed (.code yX8_feed cX8_feed 5 (some .int) :: GT) rmX8_feed (PcW [.ref β, .int a1, .long a2] (CW β D G x) (KK G)) (QcW D (some (.int r)) (CW β D G x')) 0 0 D := by
  unfold fX8_feed at hm
  refine xpro (own := RX8) (by decide +kernel) rfl (Nat.le_of_ble_eq_true rfl) ?_
  intro p e s m args below meth c C hw ls hl
  have hx := C.1
  have hb := C.2.1
  have ho := C.2.2.2.1
  have hts := C.2.2.2.2.1
  have hf : Fz D G s.heap := hw.2.2.2.2
  have hS : va_S D s.heap s.heap [] := va_S.rf
  have hl : lv_has ls 5 [(0, .ref β), (1, .int a1), (2, .long a2)] := hl
  have hRf : 1 ≤ rmX8_feed.frames := Nat.le_refl _
  have hRl : 22 ≤ rmX8_feed.locals := Nat.le_refl _
  have hcs : 0 ≤ rmX8_feed.cells ∧ 0 ≤ rmX8_feed.slots := ⟨Nat.le_refl _, Nat.le_refl _⟩
  refine lv_iload_n hx hb dX8_feed_0 rfl (lv_at hl 1 rfl) ?_
  refine lv_iconst (v := 1) hx hb dX8_feed_1 (by decide) ?_
  refine lv_bipush (v := 8) hx hb dX8_feed_2 (by decide) ?_
  obtain ⟨v1, h2, hm⟩ := bind_e hm
  refine sX8_138 C h2 hw hS hl.1 (Nat.le_of_ble_eq_true rfl) (Nat.le_trans (Nat.le_of_ble_eq_true rfl) hRf) (Nat.le_trans (Nat.le_of_ble_eq_true rfl) hRl) hcs dX8_feed_4 (fun H locs hw hS => ?_)
  refine x_ifneB hx hb dX8_feed_7 (tgt := 13) (by decide) (fun cc => ?_) (fun cc => ?_)
  · replace hm := ite_p cc hm
    refine lv_aload_n hx hb dX8_feed_13 rfl (lv_at hl 0 rfl) ?_
    refine gX8_38 C hw dX8_feed_14 ?_
    refine gX8_233 C hw dX8_feed_17 ?_
    refine lv_iload_n hx hb dX8_feed_20 rfl (lv_at hl 1 rfl) ?_
    refine lv_iadd hx hb dX8_feed_21 ?_
    refine lv_sipush (v := 160) hx hb dX8_feed_22 (by decide) ?_
    refine lv_icmp_le (tgt := 31) hx hb dX8_feed_25 (by decide) (fun cc => ?_) (fun cc => ?_)
    · replace hm := ite_p cc hm
      refine lv_iconst (v := 0) hx hb dX8_feed_31 (by decide) ?_
      refine lv_istore (lv' := [(4, .int 0), (0, .ref β), (1, .int a1), (2, .long a2)]) hx hb dX8_feed_32 hl (by decide) rfl (fun ls hl => ?_)
      obtain ⟨x6, hj, hm⟩ := bind_e hm
      refine lX8_feed_34 C hRf hRl hcs hf a1 a2 NF _ _ _ _ _ _ hj hw hS (lv_sub hl [1, 2, 3, 0] rfl) (fun x6_ e0 H locs ls hw hS hl => ?_)
      cases e0
      refine lv_aload_n hx hb dX8_feed_65 rfl (lv_at hl 0 rfl) ?_
      refine gX8_38 C hw dX8_feed_66 ?_
      refine gX8_233 C hw dX8_feed_69 ?_
      obtain ⟨rfl, rfl⟩ := inj2 hm
      exact xret_i C hw hS dX8_feed_72
    · replace hm := ite_n cc hm
      refine lv_bipush (v := (-4)) hx hb dX8_feed_28 (by decide) ?_
      obtain ⟨rfl, rfl⟩ := inj2 hm
      exact xret_i C hw hS dX8_feed_30
  · replace hm := ite_n cc hm
    refine lv_bipush (v := (-2)) hx hb dX8_feed_10 (by decide) ?_
    obtain ⟨rfl, rfl⟩ := inj2 hm
    exact xret_i C hw hS dX8_feed_12
theorem dX8_force_0 : decode cX8_force 0 = .ok (.iload_n 1, 1) := by decide +kernel
theorem dX8_force_1 : decode cX8_force 1 = .ok (.iconst 0, 1) := by decide +kernel
theorem dX8_force_2 : decode cX8_force 2 = .ok (.aload_n 0, 1) := by decide +kernel
theorem dX8_force_3 : decode cX8_force 3 = .ok (.getfield 57, 3) := by decide +kernel
theorem dX8_force_6 : decode cX8_force 6 = .ok (.iconst 1, 1) := by decide +kernel
theorem dX8_force_7 : decode cX8_force 7 = .ok (.isub, 1) := by decide +kernel
theorem dX8_force_8 : decode cX8_force 8 = .ok (.invokestatic 138, 3) := by decide +kernel
theorem dX8_force_11 : decode cX8_force 11 = .ok (.ifCond .ne 6, 3) := by decide +kernel
theorem dX8_force_14 : decode cX8_force 14 = .ok (.bipush (-2), 2) := by decide +kernel
theorem dX8_force_16 : decode cX8_force 16 = .ok (.ireturn, 1) := by decide +kernel
theorem dX8_force_17 : decode cX8_force 17 = .ok (.aload_n 0, 1) := by decide +kernel
theorem dX8_force_18 : decode cX8_force 18 = .ok (.getfield 60, 3) := by decide +kernel
theorem dX8_force_21 : decode cX8_force 21 = .ok (.istore_n 2, 1) := by decide +kernel
theorem dX8_force_22 : decode cX8_force 22 = .ok (.aload_n 0, 1) := by decide +kernel
theorem dX8_force_23 : decode cX8_force 23 = .ok (.iload_n 1, 1) := by decide +kernel
theorem dX8_force_24 : decode cX8_force 24 = .ok (.putfield 60, 3) := by decide +kernel
theorem dX8_force_27 : decode cX8_force 27 = .ok (.iload_n 2, 1) := by decide +kernel
theorem dX8_force_28 : decode cX8_force 28 = .ok (.ireturn, 1) := by decide +kernel
theorem pX8_60 {p : Program} {l : Launch} {e : Env} {R : Room} {s : State} {m : MethodId} {args : Array Value} {below : List Frame} {meth : Method} {c : Code} {H : Heap} {locs : List Loc} {cells slots : Nat} {Q : State → Prop} {cc : ByteArray} {pc nL : Nat} {ls : Array Slot} {rest : List Value} {ret : Option FieldType} {G : xG} {β : Nat} {D : Nat → Prop} {x : XS} {v : Int32} (C : Cx p s m args meth c RX8 cc nL ret (KK G)) (hw : CW β D G x H) (hS : va_S D s.heap H locs) (hd : decode cc pc = .ok (.putfield 60, 3)) (kk : ∀ (H1 : Heap) (locs1 : List Loc), CW β D G (xsS x 0 10 v) H1 → va_S D s.heap H1 locs1 → W p l e R s m args below meth c H1 locs1 cells slots Q (F0 m (pc + 3) ls (rest))) : W p l e R s m args below meth c H locs cells slots Q (F0 m pc ls (.int v :: .ref β :: rest)) :=
  x_put C.1 C.2.1 C.2.2.2.2.1 iwX8 tyX8 tyX8_ok nmX8 C.2.2.2.1 C.K.1 hS (hw.2.2.1 0 (by decide)) (hw.2.1 0 (by decide)) rfl 10 (by decide) (C.2.2.2.2.1 (.fieldLink RX8 60 RX8 "rule" "I") (tg 357 (by decide +kernel) rfl)) (fun _ h9 => h9) rfl (ty := .int) (by decide +kernel) rfl rfl (Nat.le_of_ble_eq_true rfl) hd (fun H1 locs1 hat ho hS => kk H1 locs1 (hw.setS 0 10 v hat ho) hS)
def fX8_force (x : XS) (a1 : Int32) : Option (Int32 × XS) := Option.bind (fX8_isWithin a1 0 ((x.1 0 9) - 1)) fun v1 => if v1 = true then lt (x.1 0 10) fun v3 => lt (xsS x 0 10 a1) fun x4 => some (v3, x4) else some ((-2), x)
abbrev rmX8_force : Room := { frames := 1, cells := 0, slots := 0, locals := 22 }
set_option maxHeartbeats 4000000 in
set_option maxRecDepth 100000 in
theorem kX8_force {l : Launch} {G : xG} {β : Nat} {D : Nat → Prop} {x x' : XS} {a1 : Int32} {r : Int32} (hm : fX8_force x a1 = some (r, x')) : Met l yX8_force (.code yX8_force cX8_force 3 (some .int) :: GT) rmX8_force (PcW [.ref β, .int a1] (CW β D G x) (KK G)) (QcW D (some (.int r)) (CW β D G x')) 0 0 D := by
  unfold fX8_force at hm
  refine xpro (own := RX8) (by decide +kernel) rfl (Nat.le_of_ble_eq_true rfl) ?_
  intro p e s m args below meth c C hw ls hl
  have hx := C.1
  have hb := C.2.1
  have ho := C.2.2.2.1
  have hts := C.2.2.2.2.1
  have hf : Fz D G s.heap := hw.2.2.2.2
  have hS : va_S D s.heap s.heap [] := va_S.rf
  have hl : lv_has ls 3 [(0, .ref β), (1, .int a1)] := hl
  have hRf : 1 ≤ rmX8_force.frames := Nat.le_refl _
  have hRl : 22 ≤ rmX8_force.locals := Nat.le_refl _
  have hcs : 0 ≤ rmX8_force.cells ∧ 0 ≤ rmX8_force.slots := ⟨Nat.le_refl _, Nat.le_refl _⟩
  refine lv_iload_n hx hb dX8_force_0 rfl (lv_at hl 1 rfl) ?_
  refine lv_iconst (v := 0) hx hb dX8_force_1 (by decide) ?_
  refine lv_aload_n hx hb dX8_force_2 rfl (lv_at hl 0 rfl) ?_
  refine gX8_57 C hw dX8_force_3 ?_
  refine lv_iconst (v := 1) hx hb dX8_force_6 (by decide) ?_
  refine lv_isub hx hb dX8_force_7 ?_
  obtain ⟨v1, h2, hm⟩ := bind_e hm
  refine sX8_138 C h2 hw hS hl.1 (Nat.le_of_ble_eq_true rfl) (Nat.le_trans (Nat.le_of_ble_eq_true rfl) hRf) (Nat.le_trans (Nat.le_of_ble_eq_true rfl) hRl) hcs dX8_force_8 (fun H locs hw hS => ?_)
  refine x_ifneB hx hb dX8_force_11 (tgt := 17) (by decide) (fun cc => ?_) (fun cc => ?_)
  · replace hm := ite_p cc hm
    refine lv_aload_n hx hb dX8_force_17 rfl (lv_at hl 0 rfl) ?_
    refine gX8_60 C hw dX8_force_18 ?_
    refine topI hm (fun v3 hm => ?_)
    refine lv_istore_n (lv' := [(2, .int v3), (0, .ref β), (1, .int a1)]) hx hb dX8_force_21 rfl hl (by decide) rfl (fun ls hl => ?_)
    refine lv_aload_n hx hb dX8_force_22 rfl (lv_at hl 1 rfl) ?_
    refine lv_iload_n hx hb dX8_force_23 rfl (lv_at hl 2 rfl) ?_
    refine pX8_60 C hw hS dX8_force_24 (fun H locs hw hS => ?_)
    obtain ⟨x4, ev, hm⟩ := lt_e hm
    rw [← ev] at hw
    clear ev
    refine lv_iload_n hx hb dX8_force_27 rfl (lv_at hl 0 rfl) ?_
    obtain ⟨rfl, rfl⟩ := inj2 hm
    exact xret_i C hw hS dX8_force_28
  · replace hm := ite_n cc hm
    refine lv_bipush (v := (-2)) hx hb dX8_force_14 (by decide) ?_
    obtain ⟨rfl, rfl⟩ := inj2 hm
    exact xret_i C hw hS dX8_force_16
theorem dX8_raceTold_0 : decode cX8_raceTold 0 = .ok (.aload_n 0, 1) := by decide +kernel
theorem dX8_raceTold_1 : decode cX8_raceTold 1 = .ok (.iload_n 1, 1) := by decide +kernel
theorem dX8_raceTold_2 : decode cX8_raceTold 2 = .ok (.invokevirtual 265, 3) := by decide +kernel
theorem dX8_raceTold_5 : decode cX8_raceTold 5 = .ok (.astore_n 3, 1) := by decide +kernel
theorem dX8_raceTold_6 : decode cX8_raceTold 6 = .ok (.aload_n 3, 1) := by decide +kernel
theorem dX8_raceTold_7 : decode cX8_raceTold 7 = .ok (.ifnonnull 6, 3) := by decide +kernel
theorem dX8_raceTold_10 : decode cX8_raceTold 10 = .ok (.bipush (-5), 2) := by decide +kernel
theorem dX8_raceTold_12 : decode cX8_raceTold 12 = .ok (.ireturn, 1) := by decide +kernel
theorem dX8_raceTold_13 : decode cX8_raceTold 13 = .ok (.iload_n 2, 1) := by decide +kernel
theorem dX8_raceTold_14 : decode cX8_raceTold 14 = .ok (.ifCond .ne 8, 3) := by decide +kernel
theorem dX8_raceTold_17 : decode cX8_raceTold 17 = .ok (.aload_n 3, 1) := by decide +kernel
theorem dX8_raceTold_18 : decode cX8_raceTold 18 = .ok (.getfield 269, 3) := by decide +kernel
theorem dX8_raceTold_21 : decode cX8_raceTold 21 = .ok (.ireturn, 1) := by decide +kernel
theorem dX8_raceTold_22 : decode cX8_raceTold 22 = .ok (.iload_n 2, 1) := by decide +kernel
theorem dX8_raceTold_23 : decode cX8_raceTold 23 = .ok (.iconst 1, 1) := by decide +kernel
theorem dX8_raceTold_24 : decode cX8_raceTold 24 = .ok (.if_icmp .ne 8, 3) := by decide +kernel
theorem dX8_raceTold_27 : decode cX8_raceTold 27 = .ok (.aload_n 3, 1) := by decide +kernel
theorem dX8_raceTold_28 : decode cX8_raceTold 28 = .ok (.getfield 272, 3) := by decide +kernel
theorem dX8_raceTold_31 : decode cX8_raceTold 31 = .ok (.ireturn, 1) := by decide +kernel
theorem dX8_raceTold_32 : decode cX8_raceTold 32 = .ok (.iload_n 2, 1) := by decide +kernel
theorem dX8_raceTold_33 : decode cX8_raceTold 33 = .ok (.iconst 2, 1) := by decide +kernel
theorem dX8_raceTold_34 : decode cX8_raceTold 34 = .ok (.if_icmp .ne 8, 3) := by decide +kernel
theorem dX8_raceTold_37 : decode cX8_raceTold 37 = .ok (.aload_n 3, 1) := by decide +kernel
theorem dX8_raceTold_38 : decode cX8_raceTold 38 = .ok (.getfield 275, 3) := by decide +kernel
theorem dX8_raceTold_41 : decode cX8_raceTold 41 = .ok (.ireturn, 1) := by decide +kernel
theorem dX8_raceTold_42 : decode cX8_raceTold 42 = .ok (.iload_n 2, 1) := by decide +kernel
theorem dX8_raceTold_43 : decode cX8_raceTold 43 = .ok (.iconst 3, 1) := by decide +kernel
theorem dX8_raceTold_44 : decode cX8_raceTold 44 = .ok (.aload_n 3, 1) := by decide +kernel
theorem dX8_raceTold_45 : decode cX8_raceTold 45 = .ok (.getfield 275, 3) := by decide +kernel
theorem dX8_raceTold_48 : decode cX8_raceTold 48 = .ok (.iconst 2, 1) := by decide +kernel
theorem dX8_raceTold_49 : decode cX8_raceTold 49 = .ok (.iadd, 1) := by decide +kernel
theorem dX8_raceTold_50 : decode cX8_raceTold 50 = .ok (.invokestatic 138, 3) := by decide +kernel
theorem dX8_raceTold_53 : decode cX8_raceTold 53 = .ok (.ifCond .eq 12, 3) := by decide +kernel
theorem dX8_raceTold_56 : decode cX8_raceTold 56 = .ok (.aload_n 3, 1) := by decide +kernel
theorem dX8_raceTold_57 : decode cX8_raceTold 57 = .ok (.getfield 252, 3) := by decide +kernel
theorem dX8_raceTold_60 : decode cX8_raceTold 60 = .ok (.iload_n 2, 1) := by decide +kernel
theorem dX8_raceTold_61 : decode cX8_raceTold 61 = .ok (.iconst 3, 1) := by decide +kernel
theorem dX8_raceTold_62 : decode cX8_raceTold 62 = .ok (.isub, 1) := by decide +kernel
theorem dX8_raceTold_63 : decode cX8_raceTold 63 = .ok (.iaload, 1) := by decide +kernel
theorem dX8_raceTold_64 : decode cX8_raceTold 64 = .ok (.ireturn, 1) := by decide +kernel
theorem dX8_raceTold_65 : decode cX8_raceTold 65 = .ok (.iload_n 2, 1) := by decide +kernel
theorem dX8_raceTold_66 : decode cX8_raceTold 66 = .ok (.bipush 8, 2) := by decide +kernel
theorem dX8_raceTold_68 : decode cX8_raceTold 68 = .ok (.aload_n 3, 1) := by decide +kernel
theorem dX8_raceTold_69 : decode cX8_raceTold 69 = .ok (.getfield 275, 3) := by decide +kernel
theorem dX8_raceTold_72 : decode cX8_raceTold 72 = .ok (.bipush 7, 2) := by decide +kernel
theorem dX8_raceTold_74 : decode cX8_raceTold 74 = .ok (.iadd, 1) := by decide +kernel
theorem dX8_raceTold_75 : decode cX8_raceTold 75 = .ok (.invokestatic 138, 3) := by decide +kernel
theorem dX8_raceTold_78 : decode cX8_raceTold 78 = .ok (.ifCond .eq 13, 3) := by decide +kernel
theorem dX8_raceTold_81 : decode cX8_raceTold 81 = .ok (.aload_n 3, 1) := by decide +kernel
theorem dX8_raceTold_82 : decode cX8_raceTold 82 = .ok (.getfield 255, 3) := by decide +kernel
theorem dX8_raceTold_85 : decode cX8_raceTold 85 = .ok (.iload_n 2, 1) := by decide +kernel
theorem dX8_raceTold_86 : decode cX8_raceTold 86 = .ok (.bipush 8, 2) := by decide +kernel
theorem dX8_raceTold_88 : decode cX8_raceTold 88 = .ok (.isub, 1) := by decide +kernel
theorem dX8_raceTold_89 : decode cX8_raceTold 89 = .ok (.iaload, 1) := by decide +kernel
theorem dX8_raceTold_90 : decode cX8_raceTold 90 = .ok (.ireturn, 1) := by decide +kernel
theorem dX8_raceTold_91 : decode cX8_raceTold 91 = .ok (.bipush (-5), 2) := by decide +kernel
theorem dX8_raceTold_93 : decode cX8_raceTold 93 = .ok (.ireturn, 1) := by decide +kernel
theorem gdX8_275 {p : Program} {l : Launch} {e : Env} {R : Room} {s : State} {m : MethodId} {args : Array Value} {below : List Frame} {meth : Method} {c : Code} {H : Heap} {locs : List Loc} {cells slots : Nat} {Q : State → Prop} {cc : ByteArray} {pc nL : Nat} {ls : Array Slot} {rest : List Value} {ret : Option FieldType}  {G : xG} {β : Nat} {D : Nat → Prop} {x : XS} {a : Nat} {v : Int32} (C : Cx p s m args meth c RX8 cc nL ret (KK G)) (h : dI x a 3 2 = some v) (hw : CW β D G x H) (hd : decode cc pc = .ok (.getfield 275, 3)) (kk : W p l e R s m args below meth c H locs cells slots Q (F0 m (pc + 3) ls (.int v :: rest))) : W p l e R s m args below meth c H locs cells slots Q (F0 m pc ls (.ref a :: rest)) := by
  obtain ⟨fs, h1, h2⟩ := dI_e h
  exact va_getN (ci := 3) (fs := fs) C.1 C.2.1 C.2.2.2.2.1 iwX3 C.2.2.2.1 C.K.1 (xP1 (hw.2.2.2.1 a _ h1).2.2.2) 0 rfl rfl 2 (by decide) (va_Nw.use (w := .fieldLinkNest RX8 275 RX3 "size" "I" "AtThePost") rfl (C.K.2.1 (RX8, 275, RX3, "size", "I") (List.mem_of_getElem? (i := 24) rfl))) (fun _ h9 => h9) h2 hd kk
theorem gdX8_255 {p : Program} {l : Launch} {e : Env} {R : Room} {s : State} {m : MethodId} {args : Array Value} {below : List Frame} {meth : Method} {c : Code} {H : Heap} {locs : List Loc} {cells slots : Nat} {Q : State → Prop} {cc : ByteArray} {pc nL : Nat} {ls : Array Slot} {rest : List Value} {ret : Option FieldType}  {G : xG} {β : Nat} {D : Nat → Prop} {x : XS} {a : Nat} {v : Nat} (C : Cx p s m args meth c RX8 cc nL ret (KK G)) (h : dP x a 3 4 = some v) (hw : CW β D G x H) (hd : decode cc pc = .ok (.getfield 255, 3)) (kk : W p l e R s m args below meth c H locs cells slots Q (F0 m (pc + 3) ls (.ref v :: rest))) : W p l e R s m args below meth c H locs cells slots Q (F0 m pc ls (.ref a :: rest)) := by
  obtain ⟨fs, h1, h2⟩ := dP_e h
  exact va_getN (ci := 3) (fs := fs) C.1 C.2.1 C.2.2.2.2.1 iwX3 C.2.2.2.1 C.K.1 (xP1 (hw.2.2.2.1 a _ h1).2.2.2) 0 rfl rfl 4 (by decide) (va_Nw.use (w := .fieldLinkNest RX8 255 RX3 "leads" "[I" "AtThePost") rfl (C.K.2.1 (RX8, 255, RX3, "leads", "[I") (List.mem_of_getElem? (i := 26) rfl))) (fun _ h9 => h9) h2 hd kk
theorem gdX8_252 {p : Program} {l : Launch} {e : Env} {R : Room} {s : State} {m : MethodId} {args : Array Value} {below : List Frame} {meth : Method} {c : Code} {H : Heap} {locs : List Loc} {cells slots : Nat} {Q : State → Prop} {cc : ByteArray} {pc nL : Nat} {ls : Array Slot} {rest : List Value} {ret : Option FieldType}  {G : xG} {β : Nat} {D : Nat → Prop} {x : XS} {a : Nat} {v : Nat} (C : Cx p s m args meth c RX8 cc nL ret (KK G)) (h : dP x a 3 3 = some v) (hw : CW β D G x H) (hd : decode cc pc = .ok (.getfield 252, 3)) (kk : W p l e R s m args below meth c H locs cells slots Q (F0 m (pc + 3) ls (.ref v :: rest))) : W p l e R s m args below meth c H locs cells slots Q (F0 m pc ls (.ref a :: rest)) := by
  obtain ⟨fs, h1, h2⟩ := dP_e h
  exact va_getN (ci := 3) (fs := fs) C.1 C.2.1 C.2.2.2.2.1 iwX3 C.2.2.2.1 C.K.1 (xP1 (hw.2.2.2.1 a _ h1).2.2.2) 0 rfl rfl 3 (by decide) (va_Nw.use (w := .fieldLinkNest RX8 252 RX3 "order" "[I" "AtThePost") rfl (C.K.2.1 (RX8, 252, RX3, "order", "[I") (List.mem_of_getElem? (i := 25) rfl))) (fun _ h9 => h9) h2 hd kk
theorem gdX8_272 {p : Program} {l : Launch} {e : Env} {R : Room} {s : State} {m : MethodId} {args : Array Value} {below : List Frame} {meth : Method} {c : Code} {H : Heap} {locs : List Loc} {cells slots : Nat} {Q : State → Prop} {cc : ByteArray} {pc nL : Nat} {ls : Array Slot} {rest : List Value} {ret : Option FieldType}  {G : xG} {β : Nat} {D : Nat → Prop} {x : XS} {a : Nat} {v : Int32} (C : Cx p s m args meth c RX8 cc nL ret (KK G)) (h : dI x a 3 1 = some v) (hw : CW β D G x H) (hd : decode cc pc = .ok (.getfield 272, 3)) (kk : W p l e R s m args below meth c H locs cells slots Q (F0 m (pc + 3) ls (.int v :: rest))) : W p l e R s m args below meth c H locs cells slots Q (F0 m pc ls (.ref a :: rest)) := by
  obtain ⟨fs, h1, h2⟩ := dI_e h
  exact va_getN (ci := 3) (fs := fs) C.1 C.2.1 C.2.2.2.2.1 iwX3 C.2.2.2.1 C.K.1 (xP1 (hw.2.2.2.1 a _ h1).2.2.2) 0 rfl rfl 1 (by decide) (va_Nw.use (w := .fieldLinkNest RX8 272 RX3 "day" "I" "AtThePost") rfl (C.K.2.1 (RX8, 272, RX3, "day", "I") (List.mem_of_getElem? (i := 23) rfl))) (fun _ h9 => h9) h2 hd kk
theorem gdX8_269 {p : Program} {l : Launch} {e : Env} {R : Room} {s : State} {m : MethodId} {args : Array Value} {below : List Frame} {meth : Method} {c : Code} {H : Heap} {locs : List Loc} {cells slots : Nat} {Q : State → Prop} {cc : ByteArray} {pc nL : Nat} {ls : Array Slot} {rest : List Value} {ret : Option FieldType}  {G : xG} {β : Nat} {D : Nat → Prop} {x : XS} {a : Nat} {v : Int32} (C : Cx p s m args meth c RX8 cc nL ret (KK G)) (h : dI x a 3 0 = some v) (hw : CW β D G x H) (hd : decode cc pc = .ok (.getfield 269, 3)) (kk : W p l e R s m args below meth c H locs cells slots Q (F0 m (pc + 3) ls (.int v :: rest))) : W p l e R s m args below meth c H locs cells slots Q (F0 m pc ls (.ref a :: rest)) := by
  obtain ⟨fs, h1, h2⟩ := dI_e h
  exact va_getN (ci := 3) (fs := fs) C.1 C.2.1 C.2.2.2.2.1 iwX3 C.2.2.2.1 C.K.1 (xP1 (hw.2.2.2.1 a _ h1).2.2.2) 0 rfl rfl 0 (by decide) (va_Nw.use (w := .fieldLinkNest RX8 269 RX3 "ground" "I" "AtThePost") rfl (C.K.2.1 (RX8, 269, RX3, "ground", "I") (List.mem_of_getElem? (i := 22) rfl))) (fun _ h9 => h9) h2 hd kk
def fX8_raceTold (x : XS) (a1 : Int32) (a2 : Int32) : Option (Int32) := Option.bind (fX8_raceAt x a1) fun v1 => oc v1 (some (-5)) (fun p3 => if a2 = 0 then Option.bind (dI x p3 3 0) fun v24 => some v24 else if a2 = 1 then Option.bind (dI x p3 3 1) fun v22 => some v22 else if a2 = 2 then Option.bind (dI x p3 3 2) fun v20 => some v20 else Option.bind (dI x p3 3 2) fun v4 => Option.bind (fX8_isWithin a2 3 (v4 + 2)) fun v6 => if v6 = true then Option.bind (dP x p3 3 3) fun v16 => Option.bind (dA x v16 (a2 - 3)) fun v18 => some v18 else Option.bind (dI x p3 3 2) fun v8 => Option.bind (fX8_isWithin a2 8 (v8 + 7)) fun v10 => if v10 = true then Option.bind (dP x p3 3 4) fun v12 => Option.bind (dA x v12 (a2 - 8)) fun v14 => some v14 else some (-5))
abbrev rmX8_raceTold : Room := { frames := 2, cells := 0, slots := 0, locals := 43 }
set_option maxHeartbeats 4000000 in
set_option maxRecDepth 100000 in
theorem kX8_raceTold {l : Launch} {G : xG} {β : Nat} {D : Nat → Prop} {x : XS} {a1 : Int32} {a2 : Int32} {r : Int32} (hm : fX8_raceTold x a1 a2 = some r) : Met l yX8_raceTold (.code yX8_raceTold cX8_raceTold 4 (some .int) :: GT) rmX8_raceTold (PcW [.ref β, .int a1, .int a2] (CW β D G x) (KK G)) (QcW D (some (.int r)) (CW β D G x)) 0 0 D := by
  unfold fX8_raceTold at hm
  refine xpro (own := RX8) (by decide +kernel) rfl (Nat.le_of_ble_eq_true rfl) ?_
  intro p e s m args below meth c C hw ls hl
  have hx := C.1
  have hb := C.2.1
  have ho := C.2.2.2.1
  have hts := C.2.2.2.2.1
  have hf : Fz D G s.heap := hw.2.2.2.2
  have hS : va_S D s.heap s.heap [] := va_S.rf
  have hl : lv_has ls 4 [(0, .ref β), (1, .int a1), (2, .int a2)] := hl
  have hRf : 2 ≤ rmX8_raceTold.frames := Nat.le_refl _
  have hRl : 43 ≤ rmX8_raceTold.locals := Nat.le_refl _
  have hcs : 0 ≤ rmX8_raceTold.cells ∧ 0 ≤ rmX8_raceTold.slots := ⟨Nat.le_refl _, Nat.le_refl _⟩
  refine lv_aload_n hx hb dX8_raceTold_0 rfl (lv_at hl 0 rfl) ?_
  refine lv_iload_n hx hb dX8_raceTold_1 rfl (lv_at hl 1 rfl) ?_
  obtain ⟨v1, h2, hm⟩ := bind_e hm
  refine sX8_265 C h2 hw hS hl.1 (Nat.le_of_ble_eq_true rfl) (Nat.le_trans (Nat.le_of_ble_eq_true rfl) hRf) (Nat.le_trans (Nat.le_of_ble_eq_true rfl) hRl) hcs dX8_raceTold_2 (fun H locs hw hS => ?_)
  refine x_astore_nq (lv' := [(3, va_rf v1), (0, .ref β), (1, .int a1), (2, .int a2)]) hx hb dX8_raceTold_5 rfl hl (by decide) rfl (fun ls hl => ?_)
  refine x_aload_nq hx hb dX8_raceTold_6 rfl (lv_at hl 0 rfl) ?_
  rcases v1 with _ | p3
  · replace hm := oc_n hm
    refine lv_ifnonnullN hx hb dX8_raceTold_7 ?_
    refine lv_bipush (v := (-5)) hx hb dX8_raceTold_10 (by decide) ?_
    obtain rfl := Option.some.inj hm
    exact xret_i C hw hS dX8_raceTold_12
  · replace hm := oc_s hm
    refine lv_ifnonnull (tgt := 13) hx hb dX8_raceTold_7 (by decide) ?_
    refine lv_iload_n hx hb dX8_raceTold_13 rfl (lv_at hl 3 rfl) ?_
    refine lv_if_ne (tgt := 22) hx hb dX8_raceTold_14 (by decide) (fun cc => ?_) (fun cc => ?_)
    · replace hm := ite_n cc hm
      refine lv_iload_n hx hb dX8_raceTold_22 rfl (lv_at hl 3 rfl) ?_
      refine lv_iconst (v := 1) hx hb dX8_raceTold_23 (by decide) ?_
      refine lv_icmp_ne (tgt := 32) hx hb dX8_raceTold_24 (by decide) (fun cc => ?_) (fun cc => ?_)
      · replace hm := ite_n cc hm
        refine lv_iload_n hx hb dX8_raceTold_32 rfl (lv_at hl 3 rfl) ?_
        refine lv_iconst (v := 2) hx hb dX8_raceTold_33 (by decide) ?_
        refine lv_icmp_ne (tgt := 42) hx hb dX8_raceTold_34 (by decide) (fun cc => ?_) (fun cc => ?_)
        · replace hm := ite_n cc hm
          refine lv_iload_n hx hb dX8_raceTold_42 rfl (lv_at hl 3 rfl) ?_
          refine lv_iconst (v := 3) hx hb dX8_raceTold_43 (by decide) ?_
          refine lv_aload_n hx hb dX8_raceTold_44 rfl (lv_at hl 0 rfl) ?_
          obtain ⟨v4, h5, hm⟩ := bind_e hm
          refine gdX8_275 C h5 hw dX8_raceTold_45 ?_
          refine lv_iconst (v := 2) hx hb dX8_raceTold_48 (by decide) ?_
          refine lv_iadd hx hb dX8_raceTold_49 ?_
          obtain ⟨v6, h7, hm⟩ := bind_e hm
          refine sX8_138 C h7 hw hS hl.1 (Nat.le_of_ble_eq_true rfl) (Nat.le_trans (Nat.le_of_ble_eq_true rfl) hRf) (Nat.le_trans (Nat.le_of_ble_eq_true rfl) hRl) hcs dX8_raceTold_50 (fun H locs hw hS => ?_)
          refine x_ifeqB hx hb dX8_raceTold_53 (tgt := 65) (by decide) (fun cc => ?_) (fun cc => ?_)
          · replace hm := ite_n cc hm
            refine lv_iload_n hx hb dX8_raceTold_65 rfl (lv_at hl 3 rfl) ?_
            refine lv_bipush (v := 8) hx hb dX8_raceTold_66 (by decide) ?_
            refine lv_aload_n hx hb dX8_raceTold_68 rfl (lv_at hl 0 rfl) ?_
            obtain ⟨v8, h9, hm⟩ := bind_e hm
            refine gdX8_275 C h9 hw dX8_raceTold_69 ?_
            refine lv_bipush (v := 7) hx hb dX8_raceTold_72 (by decide) ?_
            refine lv_iadd hx hb dX8_raceTold_74 ?_
            obtain ⟨v10, h11, hm⟩ := bind_e hm
            refine sX8_138 C h11 hw hS hl.1 (Nat.le_of_ble_eq_true rfl) (Nat.le_trans (Nat.le_of_ble_eq_true rfl) hRf) (Nat.le_trans (Nat.le_of_ble_eq_true rfl) hRl) hcs dX8_raceTold_75 (fun H locs hw hS => ?_)
            refine x_ifeqB hx hb dX8_raceTold_78 (tgt := 91) (by decide) (fun cc => ?_) (fun cc => ?_)
            · replace hm := ite_n cc hm
              refine lv_bipush (v := (-5)) hx hb dX8_raceTold_91 (by decide) ?_
              obtain rfl := Option.some.inj hm
              exact xret_i C hw hS dX8_raceTold_93
            · replace hm := ite_p cc hm
              refine lv_aload_n hx hb dX8_raceTold_81 rfl (lv_at hl 0 rfl) ?_
              obtain ⟨v12, h13, hm⟩ := bind_e hm
              refine gdX8_255 C h13 hw dX8_raceTold_82 ?_
              refine lv_iload_n hx hb dX8_raceTold_85 rfl (lv_at hl 3 rfl) ?_
              refine lv_bipush (v := 8) hx hb dX8_raceTold_86 (by decide) ?_
              refine lv_isub hx hb dX8_raceTold_88 ?_
              obtain ⟨v14, h15, hm⟩ := bind_e hm
              refine x_dald C h15 hw dX8_raceTold_89 ?_
              obtain rfl := Option.some.inj hm
              exact xret_i C hw hS dX8_raceTold_90
          · replace hm := ite_p cc hm
            refine lv_aload_n hx hb dX8_raceTold_56 rfl (lv_at hl 0 rfl) ?_
            obtain ⟨v16, h17, hm⟩ := bind_e hm
            refine gdX8_252 C h17 hw dX8_raceTold_57 ?_
            refine lv_iload_n hx hb dX8_raceTold_60 rfl (lv_at hl 3 rfl) ?_
            refine lv_iconst (v := 3) hx hb dX8_raceTold_61 (by decide) ?_
            refine lv_isub hx hb dX8_raceTold_62 ?_
            obtain ⟨v18, h19, hm⟩ := bind_e hm
            refine x_dald C h19 hw dX8_raceTold_63 ?_
            obtain rfl := Option.some.inj hm
            exact xret_i C hw hS dX8_raceTold_64
        · replace hm := ite_p cc hm
          refine lv_aload_n hx hb dX8_raceTold_37 rfl (lv_at hl 0 rfl) ?_
          obtain ⟨v20, h21, hm⟩ := bind_e hm
          refine gdX8_275 C h21 hw dX8_raceTold_38 ?_
          obtain rfl := Option.some.inj hm
          exact xret_i C hw hS dX8_raceTold_41
      · replace hm := ite_p cc hm
        refine lv_aload_n hx hb dX8_raceTold_27 rfl (lv_at hl 0 rfl) ?_
        obtain ⟨v22, h23, hm⟩ := bind_e hm
        refine gdX8_272 C h23 hw dX8_raceTold_28 ?_
        obtain rfl := Option.some.inj hm
        exact xret_i C hw hS dX8_raceTold_31
    · replace hm := ite_p cc hm
      refine lv_aload_n hx hb dX8_raceTold_17 rfl (lv_at hl 0 rfl) ?_
      obtain ⟨v24, h25, hm⟩ := bind_e hm
      refine gdX8_269 C h25 hw dX8_raceTold_18 ?_
      obtain rfl := Option.some.inj hm
      exact xret_i C hw hS dX8_raceTold_21
theorem dX8_ratingIn_0 : decode cX8_ratingIn 0 = .ok (.aload_n 0, 1) := by decide +kernel
theorem dX8_ratingIn_1 : decode cX8_ratingIn 1 = .ok (.aload_n 1, 1) := by decide +kernel
theorem dX8_ratingIn_2 : decode cX8_ratingIn 2 = .ok (.getfield 252, 3) := by decide +kernel
theorem dX8_ratingIn_5 : decode cX8_ratingIn 5 = .ok (.iload_n 2, 1) := by decide +kernel
theorem dX8_ratingIn_6 : decode cX8_ratingIn 6 = .ok (.iaload, 1) := by decide +kernel
theorem dX8_ratingIn_7 : decode cX8_ratingIn 7 = .ok (.aload_n 1, 1) := by decide +kernel
theorem dX8_ratingIn_8 : decode cX8_ratingIn 8 = .ok (.getfield 269, 3) := by decide +kernel
theorem dX8_ratingIn_11 : decode cX8_ratingIn 11 = .ok (.aload_n 1, 1) := by decide +kernel
theorem dX8_ratingIn_12 : decode cX8_ratingIn 12 = .ok (.getfield 272, 3) := by decide +kernel
theorem dX8_ratingIn_15 : decode cX8_ratingIn 15 = .ok (.invokevirtual 159, 3) := by decide +kernel
theorem dX8_ratingIn_18 : decode cX8_ratingIn 18 = .ok (.aload_n 1, 1) := by decide +kernel
theorem dX8_ratingIn_19 : decode cX8_ratingIn 19 = .ok (.getfield 255, 3) := by decide +kernel
theorem dX8_ratingIn_22 : decode cX8_ratingIn 22 = .ok (.iload_n 2, 1) := by decide +kernel
theorem dX8_ratingIn_23 : decode cX8_ratingIn 23 = .ok (.iaload, 1) := by decide +kernel
theorem dX8_ratingIn_24 : decode cX8_ratingIn 24 = .ok (.iload_n 3, 1) := by decide +kernel
theorem dX8_ratingIn_25 : decode cX8_ratingIn 25 = .ok (.imul, 1) := by decide +kernel
theorem dX8_ratingIn_26 : decode cX8_ratingIn 26 = .ok (.bipush 10, 2) := by decide +kernel
theorem dX8_ratingIn_28 : decode cX8_ratingIn 28 = .ok (.idiv, 1) := by decide +kernel
theorem dX8_ratingIn_29 : decode cX8_ratingIn 29 = .ok (.isub, 1) := by decide +kernel
theorem dX8_ratingIn_30 : decode cX8_ratingIn 30 = .ok (.ireturn, 1) := by decide +kernel
def fX8_ratingIn (x : XS) (a1 : Option Nat) (a2 : Int32) (a3 : Int32) : Option (Int32) := Option.bind a1 fun p1 => Option.bind (dP x p1 3 3) fun v2 => Option.bind (dA x v2 a2) fun v4 => Option.bind (dI x p1 3 0) fun v6 => Option.bind (dI x p1 3 1) fun v8 => Option.bind (fX8_formOf x v4 v6 v8) fun v10 => Option.bind (dP x p1 3 4) fun v12 => Option.bind (dA x v12 a2) fun v14 => some (v10 - ((v14 * a3) / 10))
abbrev rmX8_ratingIn : Room := { frames := 3, cells := 0, slots := 0, locals := 66 }
set_option maxHeartbeats 4000000 in
set_option maxRecDepth 100000 in
theorem kX8_ratingIn {l : Launch} {G : xG} {β : Nat} {D : Nat → Prop} {x : XS} {a1 : Option Nat} {a2 : Int32} {a3 : Int32} {r : Int32} (hm : fX8_ratingIn x a1 a2 a3 = some r) : Met l yX8_ratingIn (.code yX8_ratingIn cX8_ratingIn 4 (some .int) :: GT) rmX8_ratingIn (PcW [.ref β, va_rf a1, .int a2, .int a3] (CW β D G x) (KK G)) (QcW D (some (.int r)) (CW β D G x)) 0 0 D := by
  unfold fX8_ratingIn at hm
  refine xpro (own := RX8) (by decide +kernel) rfl (by cases a1 <;> exact Nat.le_of_ble_eq_true rfl) ?_
  intro p e s m args below meth c C hw ls hl
  have hx := C.1
  have hb := C.2.1
  have ho := C.2.2.2.1
  have hts := C.2.2.2.2.1
  have hf : Fz D G s.heap := hw.2.2.2.2
  have hS : va_S D s.heap s.heap [] := va_S.rf
  have hl : lv_has ls 4 [(0, .ref β), (1, va_rf a1), (2, .int a2), (3, .int a3)] := by cases a1 <;> exact hl
  have hRf : 3 ≤ rmX8_ratingIn.frames := Nat.le_refl _
  have hRl : 66 ≤ rmX8_ratingIn.locals := Nat.le_refl _
  have hcs : 0 ≤ rmX8_ratingIn.cells ∧ 0 ≤ rmX8_ratingIn.slots := ⟨Nat.le_refl _, Nat.le_refl _⟩
  refine lv_aload_n hx hb dX8_ratingIn_0 rfl (lv_at hl 0 rfl) ?_
  refine x_aload_nq hx hb dX8_ratingIn_1 rfl (lv_at hl 1 rfl) ?_
  obtain ⟨p1, hq, hz⟩ := bind_e hm
  clear hm
  subst hq
  have hm := hz
  clear hz
  obtain ⟨v2, h3, hm⟩ := bind_e hm
  refine gdX8_252 C h3 hw dX8_ratingIn_2 ?_
  refine lv_iload_n hx hb dX8_ratingIn_5 rfl (lv_at hl 2 rfl) ?_
  obtain ⟨v4, h5, hm⟩ := bind_e hm
  refine x_dald C h5 hw dX8_ratingIn_6 ?_
  refine lv_aload_n hx hb dX8_ratingIn_7 rfl (lv_at hl 1 rfl) ?_
  obtain ⟨v6, h7, hm⟩ := bind_e hm
  refine gdX8_269 C h7 hw dX8_ratingIn_8 ?_
  refine lv_aload_n hx hb dX8_ratingIn_11 rfl (lv_at hl 1 rfl) ?_
  obtain ⟨v8, h9, hm⟩ := bind_e hm
  refine gdX8_272 C h9 hw dX8_ratingIn_12 ?_
  obtain ⟨v10, h11, hm⟩ := bind_e hm
  refine sX8_159 C h11 hw hS hl.1 (Nat.le_of_ble_eq_true rfl) (Nat.le_trans (Nat.le_of_ble_eq_true rfl) hRf) (Nat.le_trans (Nat.le_of_ble_eq_true rfl) hRl) hcs dX8_ratingIn_15 (fun H locs hw hS => ?_)
  refine lv_aload_n hx hb dX8_ratingIn_18 rfl (lv_at hl 1 rfl) ?_
  obtain ⟨v12, h13, hm⟩ := bind_e hm
  refine gdX8_255 C h13 hw dX8_ratingIn_19 ?_
  refine lv_iload_n hx hb dX8_ratingIn_22 rfl (lv_at hl 2 rfl) ?_
  obtain ⟨v14, h15, hm⟩ := bind_e hm
  refine x_dald C h15 hw dX8_ratingIn_23 ?_
  refine lv_iload_n hx hb dX8_ratingIn_24 rfl (lv_at hl 3 rfl) ?_
  refine lv_imul hx hb dX8_ratingIn_25 ?_
  refine lv_bipush (v := 10) hx hb dX8_ratingIn_26 (by decide) ?_
  refine lv_idiv hx hb dX8_ratingIn_28 (by decide) ?_
  refine lv_isub hx hb dX8_ratingIn_29 ?_
  obtain rfl := Option.some.inj hm
  exact xret_i C hw hS dX8_ratingIn_30
theorem dX8_pairsAgainstIn_0 : decode cX8_pairsAgainstIn 0 = .ok (.iconst 0, 1) := by decide +kernel
theorem dX8_pairsAgainstIn_1 : decode cX8_pairsAgainstIn 1 = .ok (.istore_n 3, 1) := by decide +kernel
theorem dX8_pairsAgainstIn_2 : decode cX8_pairsAgainstIn 2 = .ok (.iconst 0, 1) := by decide +kernel
theorem dX8_pairsAgainstIn_3 : decode cX8_pairsAgainstIn 3 = .ok (.istore 4, 2) := by decide +kernel
theorem dX8_pairsAgainstIn_5 : decode cX8_pairsAgainstIn 5 = .ok (.iload 4, 2) := by decide +kernel
theorem dX8_pairsAgainstIn_7 : decode cX8_pairsAgainstIn 7 = .ok (.aload_n 1, 1) := by decide +kernel
theorem dX8_pairsAgainstIn_8 : decode cX8_pairsAgainstIn 8 = .ok (.getfield 275, 3) := by decide +kernel
theorem dX8_pairsAgainstIn_11 : decode cX8_pairsAgainstIn 11 = .ok (.if_icmp .ge 52, 3) := by decide +kernel
theorem dX8_pairsAgainstIn_14 : decode cX8_pairsAgainstIn 14 = .ok (.iload 4, 2) := by decide +kernel
theorem dX8_pairsAgainstIn_16 : decode cX8_pairsAgainstIn 16 = .ok (.iconst 1, 1) := by decide +kernel
theorem dX8_pairsAgainstIn_17 : decode cX8_pairsAgainstIn 17 = .ok (.iadd, 1) := by decide +kernel
theorem dX8_pairsAgainstIn_18 : decode cX8_pairsAgainstIn 18 = .ok (.istore 5, 2) := by decide +kernel
theorem dX8_pairsAgainstIn_20 : decode cX8_pairsAgainstIn 20 = .ok (.iload 5, 2) := by decide +kernel
theorem dX8_pairsAgainstIn_22 : decode cX8_pairsAgainstIn 22 = .ok (.aload_n 1, 1) := by decide +kernel
theorem dX8_pairsAgainstIn_23 : decode cX8_pairsAgainstIn 23 = .ok (.getfield 275, 3) := by decide +kernel
theorem dX8_pairsAgainstIn_26 : decode cX8_pairsAgainstIn 26 = .ok (.if_icmp .ge 31, 3) := by decide +kernel
theorem dX8_pairsAgainstIn_29 : decode cX8_pairsAgainstIn 29 = .ok (.aload_n 0, 1) := by decide +kernel
theorem dX8_pairsAgainstIn_30 : decode cX8_pairsAgainstIn 30 = .ok (.aload_n 1, 1) := by decide +kernel
theorem dX8_pairsAgainstIn_31 : decode cX8_pairsAgainstIn 31 = .ok (.iload 5, 2) := by decide +kernel
theorem dX8_pairsAgainstIn_33 : decode cX8_pairsAgainstIn 33 = .ok (.iload_n 2, 1) := by decide +kernel
theorem dX8_pairsAgainstIn_34 : decode cX8_pairsAgainstIn 34 = .ok (.invokevirtual 410, 3) := by decide +kernel
theorem dX8_pairsAgainstIn_37 : decode cX8_pairsAgainstIn 37 = .ok (.aload_n 0, 1) := by decide +kernel
theorem dX8_pairsAgainstIn_38 : decode cX8_pairsAgainstIn 38 = .ok (.aload_n 1, 1) := by decide +kernel
theorem dX8_pairsAgainstIn_39 : decode cX8_pairsAgainstIn 39 = .ok (.iload 4, 2) := by decide +kernel
theorem dX8_pairsAgainstIn_41 : decode cX8_pairsAgainstIn 41 = .ok (.iload_n 2, 1) := by decide +kernel
theorem dX8_pairsAgainstIn_42 : decode cX8_pairsAgainstIn 42 = .ok (.invokevirtual 410, 3) := by decide +kernel
theorem dX8_pairsAgainstIn_45 : decode cX8_pairsAgainstIn 45 = .ok (.if_icmp .le 6, 3) := by decide +kernel
theorem dX8_pairsAgainstIn_48 : decode cX8_pairsAgainstIn 48 = .ok (.iinc 3 1, 3) := by decide +kernel
theorem dX8_pairsAgainstIn_51 : decode cX8_pairsAgainstIn 51 = .ok (.iinc 5 1, 3) := by decide +kernel
theorem dX8_pairsAgainstIn_54 : decode cX8_pairsAgainstIn 54 = .ok (.goto (-34), 3) := by decide +kernel
theorem dX8_pairsAgainstIn_57 : decode cX8_pairsAgainstIn 57 = .ok (.iinc 4 1, 3) := by decide +kernel
theorem dX8_pairsAgainstIn_60 : decode cX8_pairsAgainstIn 60 = .ok (.goto (-55), 3) := by decide +kernel
theorem dX8_pairsAgainstIn_63 : decode cX8_pairsAgainstIn 63 = .ok (.iload_n 3, 1) := by decide +kernel
theorem dX8_pairsAgainstIn_64 : decode cX8_pairsAgainstIn 64 = .ok (.ireturn, 1) := by decide +kernel
theorem sX8_410 {p : Program} {l : Launch} {e : Env} {R : Room} {s : State} {m : MethodId} {args : Array Value} {below : List Frame} {meth : Method} {c : Code} {H : Heap} {locs : List Loc} {cells slots : Nat} {Q : State → Prop} {cc : ByteArray} {pc nL : Nat} {ls : Array Slot} {rest : List Value} {ret : Option FieldType}  {G : xG} {β : Nat} {D : Nat → Prop} {x : XS} {a1 : Option Nat} {a2 : Int32} {a3 : Int32} {r : Int32} (C : Cx p s m args meth c RX8 cc nL ret (KK G)) (h : fX8_ratingIn x a1 a2 a3 = some r) (hw : CW β D G x H) (hS : va_S D s.heap H locs) (hsz : ls.size = nL) (hW : (rest.map fun v => v.category).sum ≤ 8) (hR : 4 ≤ R.frames) (hR2 : 89 ≤ R.locals) (hcs : cells ≤ R.cells ∧ slots ≤ R.slots) (hd : decode cc pc = .ok (.invokevirtual 410, 3)) (kk : ∀ (H1 : Heap) (locs1 : List Loc), CW β D G x H1 → va_S D s.heap H1 locs1 → W p l e R s m args below meth c H1 locs1 cells slots Q (F0 m (pc + 3) ls (.int r :: rest))) : W p l e R s m args below meth c H locs cells slots Q (F0 m pc ls (.int a3 :: .int a2 :: va_rf a1 :: .ref β :: rest)) := by
  exact xcallV C (As := [va_rf a1, .int a2, .int a3]) (rest := rest) (nA := 3) (ci := 8) (kX8_ratingIn h) (tg 771 (by decide +kernel) rfl) (tg 773 (by decide +kernel) rfl) (sg (List.mem_of_getElem? (i := 46) (by decide +kernel)) rfl) (tg 1 (by decide +kernel) rfl) (tg 774 (by decide +kernel) rfl) ⟨rfl, by decide +kernel, by decide +kernel, by decide +kernel⟩ rfl rfl rfl ⟨hR, hR2⟩ (hw.2.2.1 0 (by decide)) hw hS (fun _ q => q) rfl rfl hsz hW hd hcs (fun H1 locs1 hw hz hk hS => kk H1 locs1 hw hS)
def BX8_pairsAgainstIn_20 (x : XS) (q1 : Nat) (q2 : Int32) (q4 : Int32) (lp : Int32 → Int32 → Option (Int32)) (u3 : Int32) (u5 : Int32) : Option (Int32) := Option.bind (dI x q1 3 2) fun v5 => if v5 ≤ u5 then some u3 else Option.bind (fX8_ratingIn x (some q1) u5 q2) fun v7 => Option.bind (fX8_ratingIn x (some q1) q4 q2) fun v9 => if v7 ≤ v9 then lt (u5 + 1) fun v11 => lp u3 v11 else lt (u3 + 1) fun v12 => lt (u5 + 1) fun v13 => lp v12 v13
def LX8_pairsAgainstIn_20 (x : XS) (q1 : Nat) (q2 : Int32) (q4 : Int32) : Nat → Int32 → Int32 → Option (Int32)
  | 0, _, _ => none
  | n + 1, u3, u5 => BX8_pairsAgainstIn_20 x q1 q2 q4 (LX8_pairsAgainstIn_20 x q1 q2 q4 n) u3 u5
def BX8_pairsAgainstIn_5 (x : XS) (q1 : Option Nat) (q2 : Int32) (lp : Int32 → Int32 → Option (Int32)) (u3 : Int32) (u4 : Int32) : Option (Int32) := Option.bind q1 fun p1 => Option.bind (dI x p1 3 2) fun v2 => if v2 ≤ u4 then some u3 else lt (u4 + 1) fun v4 => Option.bind (LX8_pairsAgainstIn_20 x p1 q2 u4 NF u3 v4) fun v14 => lt (u4 + 1) fun v15 => lp v14 v15
def LX8_pairsAgainstIn_5 (x : XS) (q1 : Option Nat) (q2 : Int32) : Nat → Int32 → Int32 → Option (Int32)
  | 0, _, _ => none
  | n + 1, u3, u4 => BX8_pairsAgainstIn_5 x q1 q2 (LX8_pairsAgainstIn_5 x q1 q2 n) u3 u4
def fX8_pairsAgainstIn (x : XS) (a1 : Option Nat) (a2 : Int32) : Option (Int32) := Option.bind (LX8_pairsAgainstIn_5 x a1 a2 NF 0 0) fun v16 => some v16
set_option maxHeartbeats 4000000 in
set_option maxRecDepth 100000 in
theorem lX8_pairsAgainstIn_20 {p : Program} {l : Launch} {e : Env} {R : Room} {s : State} {m : MethodId} {args : Array Value} {below : List Frame} {meth : Method} {c : Code} {cells slots : Nat} {Q : State → Prop} {G : xG} {β : Nat} {D : Nat → Prop} (C : Cx p s m args meth c RX8 cX8_pairsAgainstIn 6 (some .int) (KK G)) (hRf : 4 ≤ R.frames) (hRl : 89 ≤ R.locals) (hcs : cells ≤ R.cells ∧ slots ≤ R.slots) (hf : Fz D G s.heap) (x : XS) (q1 : Nat) (q2 : Int32) (q4 : Int32) : ∀ (n : Nat) (u3 : Int32) (u5 : Int32) (J : Int32) (H : Heap) (locs : List Loc) (ls : Array Slot), LX8_pairsAgainstIn_20 x q1 q2 q4 n u3 u5 = some J → CW β D G x H → va_S D s.heap H locs → lv_has ls 6 [(0, .ref β), (1, .ref q1), (2, .int q2), (3, .int u3), (4, .int q4), (5, .int u5)] → (∀ (w3 : Int32), J = w3 → ∀ (H : Heap) (locs : List Loc) (ls : Array Slot), CW β D G x H → va_S D s.heap H locs → lv_has ls 6 [(0, .ref β), (1, .ref q1), (2, .int q2), (3, .int w3), (4, .int q4)] → W p l e R s m args below meth c H locs cells slots Q (F0 m 57 ls [])) → W p l e R s m args below meth c H locs cells slots Q (F0 m 20 ls []) := by
  have hx := C.1
  have hb := C.2.1
  have ho := C.2.2.2.1
  have hts := C.2.2.2.2.1
  intro n
  induction n with
  | zero =>
    intro u3 u5 J H locs ls hm
    exact absurd hm (by simp [LX8_pairsAgainstIn_20])
  | succ n ih =>
    intro u3 u5 J H locs ls hm hw hS hl ke
    replace hm : BX8_pairsAgainstIn_20 x q1 q2 q4 (LX8_pairsAgainstIn_20 x q1 q2 q4 n) u3 u5 = some J := hm
    unfold BX8_pairsAgainstIn_20 at hm
    refine lv_iload hx hb dX8_pairsAgainstIn_20 (lv_at hl 5 rfl) ?_
    refine lv_aload_n hx hb dX8_pairsAgainstIn_22 rfl (lv_at hl 1 rfl) ?_
    obtain ⟨v5, h6, hm⟩ := bind_e hm
    refine gdX8_275 C h6 hw dX8_pairsAgainstIn_23 ?_
    refine lv_icmp_ge (tgt := 57) hx hb dX8_pairsAgainstIn_26 (by decide) (fun cc => ?_) (fun cc => ?_)
    · replace hm := ite_p cc hm
      exact ke _ (Option.some.inj hm).symm _ _ _ hw hS (lv_sub hl [0, 1, 2, 3, 4] rfl)
    · replace hm := ite_n cc hm
      refine lv_aload_n hx hb dX8_pairsAgainstIn_29 rfl (lv_at hl 0 rfl) ?_
      refine lv_aload_n hx hb dX8_pairsAgainstIn_30 rfl (lv_at hl 1 rfl) ?_
      refine lv_iload hx hb dX8_pairsAgainstIn_31 (lv_at hl 5 rfl) ?_
      refine lv_iload_n hx hb dX8_pairsAgainstIn_33 rfl (lv_at hl 2 rfl) ?_
      obtain ⟨v7, h8, hm⟩ := bind_e hm
      refine sX8_410 (a1 := (some q1)) (a2 := u5) (a3 := q2) C h8 hw hS hl.1 (Nat.le_of_ble_eq_true rfl) (Nat.le_trans (Nat.le_of_ble_eq_true rfl) hRf) (Nat.le_trans (Nat.le_of_ble_eq_true rfl) hRl) hcs dX8_pairsAgainstIn_34 (fun H locs hw hS => ?_)
      refine lv_aload_n hx hb dX8_pairsAgainstIn_37 rfl (lv_at hl 0 rfl) ?_
      refine lv_aload_n hx hb dX8_pairsAgainstIn_38 rfl (lv_at hl 1 rfl) ?_
      refine lv_iload hx hb dX8_pairsAgainstIn_39 (lv_at hl 4 rfl) ?_
      refine lv_iload_n hx hb dX8_pairsAgainstIn_41 rfl (lv_at hl 2 rfl) ?_
      obtain ⟨v9, h10, hm⟩ := bind_e hm
      refine sX8_410 (a1 := (some q1)) (a2 := q4) (a3 := q2) C h10 hw hS hl.1 (Nat.le_of_ble_eq_true rfl) (Nat.le_trans (Nat.le_of_ble_eq_true rfl) hRf) (Nat.le_trans (Nat.le_of_ble_eq_true rfl) hRl) hcs dX8_pairsAgainstIn_42 (fun H locs hw hS => ?_)
      refine lv_icmp_le (tgt := 51) hx hb dX8_pairsAgainstIn_45 (by decide) (fun cc => ?_) (fun cc => ?_)
      · replace hm := ite_p cc hm
        obtain ⟨v11, ev, hm⟩ := lt_e hm
        refine lv_iinc (v := v11) (lv' := [(5, .int v11), (0, .ref β), (1, .ref q1), (2, .int q2), (3, .int u3), (4, .int q4)]) hx hb dX8_pairsAgainstIn_51 hl (k := 5) rfl (by rw [ev]; rfl) (by decide) rfl (fun ls hl => ?_)
        clear ev
        refine lv_goto (tgt := 20) hx hb dX8_pairsAgainstIn_54 (by decide) ?_
        exact ih _ _ _ _ _ _ hm hw hS (lv_sub hl [1, 2, 3, 4, 5, 0] rfl) ke
      · replace hm := ite_n cc hm
        obtain ⟨v12, ev, hm⟩ := lt_e hm
        refine lv_iinc (v := v12) (lv' := [(3, .int v12), (0, .ref β), (1, .ref q1), (2, .int q2), (4, .int q4), (5, .int u5)]) hx hb dX8_pairsAgainstIn_48 hl (k := 3) rfl (by rw [ev]; rfl) (by decide) rfl (fun ls hl => ?_)
        clear ev
        obtain ⟨v13, ev, hm⟩ := lt_e hm
        refine lv_iinc (v := v13) (lv' := [(5, .int v13), (3, .int v12), (0, .ref β), (1, .ref q1), (2, .int q2), (4, .int q4)]) hx hb dX8_pairsAgainstIn_51 hl (k := 5) rfl (by rw [ev]; rfl) (by decide) rfl (fun ls hl => ?_)
        clear ev
        refine lv_goto (tgt := 20) hx hb dX8_pairsAgainstIn_54 (by decide) ?_
        exact ih _ _ _ _ _ _ hm hw hS (lv_sub hl [2, 3, 4, 1, 5, 0] rfl) ke
set_option maxHeartbeats 4000000 in
set_option maxRecDepth 100000 in
theorem lX8_pairsAgainstIn_5 {p : Program} {l : Launch} {e : Env} {R : Room} {s : State} {m : MethodId} {args : Array Value} {below : List Frame} {meth : Method} {c : Code} {cells slots : Nat} {Q : State → Prop} {G : xG} {β : Nat} {D : Nat → Prop} (C : Cx p s m args meth c RX8 cX8_pairsAgainstIn 6 (some .int) (KK G)) (hRf : 4 ≤ R.frames) (hRl : 89 ≤ R.locals) (hcs : cells ≤ R.cells ∧ slots ≤ R.slots) (hf : Fz D G s.heap) (x : XS) (q1 : Option Nat) (q2 : Int32) : ∀ (n : Nat) (u3 : Int32) (u4 : Int32) (J : Int32) (H : Heap) (locs : List Loc) (ls : Array Slot), LX8_pairsAgainstIn_5 x q1 q2 n u3 u4 = some J → CW β D G x H → va_S D s.heap H locs → lv_has ls 6 [(0, .ref β), (1, va_rf q1), (2, .int q2), (3, .int u3), (4, .int u4)] → (∀ (w3 : Int32), J = w3 → ∀ (H : Heap) (locs : List Loc) (ls : Array Slot), CW β D G x H → va_S D s.heap H locs → lv_has ls 6 [(3, .int w3)] → W p l e R s m args below meth c H locs cells slots Q (F0 m 63 ls [])) → W p l e R s m args below meth c H locs cells slots Q (F0 m 5 ls []) := by
  have hx := C.1
  have hb := C.2.1
  have ho := C.2.2.2.1
  have hts := C.2.2.2.2.1
  intro n
  induction n with
  | zero =>
    intro u3 u4 J H locs ls hm
    exact absurd hm (by simp [LX8_pairsAgainstIn_5])
  | succ n ih =>
    intro u3 u4 J H locs ls hm hw hS hl ke
    replace hm : BX8_pairsAgainstIn_5 x q1 q2 (LX8_pairsAgainstIn_5 x q1 q2 n) u3 u4 = some J := hm
    unfold BX8_pairsAgainstIn_5 at hm
    refine lv_iload hx hb dX8_pairsAgainstIn_5 (lv_at hl 4 rfl) ?_
    refine x_aload_nq hx hb dX8_pairsAgainstIn_7 rfl (lv_at hl 1 rfl) ?_
    obtain ⟨p1, hq, hz⟩ := bind_e hm
    clear hm
    subst hq
    have hm := hz
    clear hz
    obtain ⟨v2, h3, hm⟩ := bind_e hm
    refine gdX8_275 C h3 hw dX8_pairsAgainstIn_8 ?_
    refine lv_icmp_ge (tgt := 63) hx hb dX8_pairsAgainstIn_11 (by decide) (fun cc => ?_) (fun cc => ?_)
    · replace hm := ite_p cc hm
      exact ke _ (Option.some.inj hm).symm _ _ _ hw hS (lv_sub hl [3] rfl)
    · replace hm := ite_n cc hm
      refine lv_iload hx hb dX8_pairsAgainstIn_14 (lv_at hl 4 rfl) ?_
      refine lv_iconst (v := 1) hx hb dX8_pairsAgainstIn_16 (by decide) ?_
      refine lv_iadd hx hb dX8_pairsAgainstIn_17 ?_
      refine topI hm (fun v4 hm => ?_)
      refine lv_istore (lv' := [(5, .int v4), (0, .ref β), (1, .ref p1), (2, .int q2), (3, .int u3), (4, .int u4)]) hx hb dX8_pairsAgainstIn_18 hl (by decide) rfl (fun ls hl => ?_)
      obtain ⟨v14, hj, hm⟩ := bind_e hm
      refine lX8_pairsAgainstIn_20 C hRf hRl hcs hf x p1 q2 u4 NF _ _ _ _ _ _ hj hw hS (lv_sub hl [1, 2, 3, 4, 5, 0] rfl) (fun v14_ e0 H locs ls hw hS hl => ?_)
      cases e0
      obtain ⟨v15, ev, hm⟩ := lt_e hm
      refine lv_iinc (v := v15) (lv' := [(4, .int v15), (0, .ref β), (1, .ref p1), (2, .int q2), (3, .int v14)]) hx hb dX8_pairsAgainstIn_57 hl (k := 4) rfl (by rw [ev]; rfl) (by decide) rfl (fun ls hl => ?_)
      clear ev
      refine lv_goto (tgt := 5) hx hb dX8_pairsAgainstIn_60 (by decide) ?_
      exact ih _ _ _ _ _ _ hm hw hS (lv_sub hl [1, 2, 3, 4, 0] rfl) ke
abbrev rmX8_pairsAgainstIn : Room := { frames := 4, cells := 0, slots := 0, locals := 89 }
set_option maxHeartbeats 4000000 in
set_option maxRecDepth 100000 in
theorem kX8_pairsAgainstIn {l : Launch} {G : xG} {β : Nat} {D : Nat → Prop} {x : XS} {a1 : Option Nat} {a2 : Int32} {r : Int32} (hm : fX8_pairsAgainstIn x a1 a2 = some r) : Met l yX8_pairsAgainstIn (.code yX8_pairsAgainstIn cX8_pairsAgainstIn 6 (some .int) :: GT) rmX8_pairsAgainstIn (PcW [.ref β, va_rf a1, .int a2] (CW β D G x) (KK G)) (QcW D (some (.int r)) (CW β D G x)) 0 0 D := by
  unfold fX8_pairsAgainstIn at hm
  refine xpro (own := RX8) (by decide +kernel) rfl (by cases a1 <;> exact Nat.le_of_ble_eq_true rfl) ?_
  intro p e s m args below meth c C hw ls hl
  have hx := C.1
  have hb := C.2.1
  have ho := C.2.2.2.1
  have hts := C.2.2.2.2.1
  have hf : Fz D G s.heap := hw.2.2.2.2
  have hS : va_S D s.heap s.heap [] := va_S.rf
  have hl : lv_has ls 6 [(0, .ref β), (1, va_rf a1), (2, .int a2)] := by cases a1 <;> exact hl
  have hRf : 4 ≤ rmX8_pairsAgainstIn.frames := Nat.le_refl _
  have hRl : 89 ≤ rmX8_pairsAgainstIn.locals := Nat.le_refl _
  have hcs : 0 ≤ rmX8_pairsAgainstIn.cells ∧ 0 ≤ rmX8_pairsAgainstIn.slots := ⟨Nat.le_refl _, Nat.le_refl _⟩
  refine lv_iconst (v := 0) hx hb dX8_pairsAgainstIn_0 (by decide) ?_
  refine lv_istore_n (lv' := [(3, .int 0), (0, .ref β), (1, va_rf a1), (2, .int a2)]) hx hb dX8_pairsAgainstIn_1 rfl hl (by decide) rfl (fun ls hl => ?_)
  refine lv_iconst (v := 0) hx hb dX8_pairsAgainstIn_2 (by decide) ?_
  refine lv_istore (lv' := [(4, .int 0), (3, .int 0), (0, .ref β), (1, va_rf a1), (2, .int a2)]) hx hb dX8_pairsAgainstIn_3 hl (by decide) rfl (fun ls hl => ?_)
  obtain ⟨v16, hj, hm⟩ := bind_e hm
  refine lX8_pairsAgainstIn_5 C hRf hRl hcs hf x a1 a2 NF _ _ _ _ _ _ hj hw hS (lv_sub hl [2, 3, 4, 1, 0] rfl) (fun v16_ e0 H locs ls hw hS hl => ?_)
  cases e0
  refine lv_iload_n hx hb dX8_pairsAgainstIn_63 rfl (lv_at hl 0 rfl) ?_
  obtain rfl := Option.some.inj hm
  exact xret_i C hw hS dX8_pairsAgainstIn_64
