theorem dX4_readPart_0 : decode cX4_readPart 0 = .ok (.aload_n 0, 1) := by decide +kernel
theorem dX4_readPart_1 : decode cX4_readPart 1 = .ok (.iload_n 1, 1) := by decide +kernel
theorem dX4_readPart_2 : decode cX4_readPart 2 = .ok (.invokevirtual 49, 3) := by decide +kernel
theorem dX4_readPart_5 : decode cX4_readPart 5 = .ok (.ifCond .eq 11, 3) := by decide +kernel
theorem dX4_readPart_8 : decode cX4_readPart 8 = .ok (.aload_n 0, 1) := by decide +kernel
theorem dX4_readPart_9 : decode cX4_readPart 9 = .ok (.iconst 0, 1) := by decide +kernel
theorem dX4_readPart_10 : decode cX4_readPart 10 = .ok (.invokevirtual 53, 3) := by decide +kernel
theorem dX4_readPart_13 : decode cX4_readPart 13 = .ok (.ifCond .ne 5, 3) := by decide +kernel
theorem dX4_readPart_16 : decode cX4_readPart 16 = .ok (.iconst 0, 1) := by decide +kernel
theorem dX4_readPart_17 : decode cX4_readPart 17 = .ok (.ireturn, 1) := by decide +kernel
theorem dX4_readPart_18 : decode cX4_readPart 18 = .ok (.aload_n 0, 1) := by decide +kernel
theorem dX4_readPart_19 : decode cX4_readPart 19 = .ok (.getfield 15, 3) := by decide +kernel
theorem dX4_readPart_22 : decode cX4_readPart 22 = .ok (.iload_n 2, 1) := by decide +kernel
theorem dX4_readPart_23 : decode cX4_readPart 23 = .ok (.aload_n 0, 1) := by decide +kernel
theorem dX4_readPart_24 : decode cX4_readPart 24 = .ok (.getfield 18, 3) := by decide +kernel
theorem dX4_readPart_27 : decode cX4_readPart 27 = .ok (.iastore, 1) := by decide +kernel
theorem dX4_readPart_28 : decode cX4_readPart 28 = .ok (.aload_n 0, 1) := by decide +kernel
theorem dX4_readPart_29 : decode cX4_readPart 29 = .ok (.bipush (-33), 2) := by decide +kernel
theorem dX4_readPart_31 : decode cX4_readPart 31 = .ok (.invokevirtual 49, 3) := by decide +kernel
theorem dX4_readPart_34 : decode cX4_readPart 34 = .ok (.ireturn, 1) := by decide +kernel
theorem sX4_53 {p : Program} {l : Launch} {e : Env} {R : Room} {s : State} {m : MethodId} {args : Array Value} {below : List Frame} {meth : Method} {c : Code} {H : Heap} {locs : List Loc} {cells slots : Nat} {Q : State → Prop} {cc : ByteArray} {pc nL : Nat} {ls : Array Slot} {rest : List Value} {ret : Option FieldType}  {G : xG} {β : Nat} {D : Nat → Prop} {x x' : XS} {a1 : Int32} {r : Bool} (C : Cx p s m args meth c RX4 cc nL ret (KK G)) (h : GRd MF 0 x a1 = some (r, x')) (hw : CW β D G x H) (hS : va_S D s.heap H locs) (hsz : ls.size = nL) (hW : (rest.map fun v => v.category).sum ≤ 8) (hR : 109 ≤ R.frames) (hR2 : 2591 ≤ R.locals) (hcs : cells ≤ R.cells ∧ slots ≤ R.slots) (hd : decode cc pc = .ok (.invokevirtual 53, 3)) (kk : ∀ (H1 : Heap) (locs1 : List Loc), CW β D G x' H1 → va_S D s.heap H1 locs1 → W p l e R s m args below meth c H1 locs1 cells slots Q (F0 m (pc + 3) ls (.int (bI r) :: rest))) : W p l e R s m args below meth c H locs cells slots Q (F0 m pc ls (.int a1 :: .ref (β + 6) :: rest)) := by
  exact xcallV C (As := [.int a1]) (rest := rest) (nA := 1) (ci := 4) (kgX4_readOr h) (tg 271 (by decide +kernel) rfl) (tg 273 (by decide +kernel) rfl) (sg (List.mem_of_getElem? (i := 5) (by decide +kernel)) rfl) (tg 3 (by decide +kernel) rfl) (tg 274 (by decide +kernel) rfl) ⟨rfl, by decide +kernel, by decide +kernel, by decide +kernel⟩ rfl rfl rfl ⟨hR, hR2⟩ (hw.2.2.1 6 (by decide)) hw hS (fun _ q => q) rfl rfl hsz hW hd hcs (fun H1 locs1 hw hz hk hS => kk H1 locs1 hw hS)
theorem gX4_15 {p : Program} {l : Launch} {e : Env} {R : Room} {s : State} {m : MethodId} {args : Array Value} {below : List Frame} {meth : Method} {c : Code} {H : Heap} {locs : List Loc} {cells slots : Nat} {Q : State → Prop} {cc : ByteArray} {pc nL : Nat} {ls : Array Slot} {rest : List Value} {ret : Option FieldType} {G : xG} {β : Nat} {D : Nat → Prop} {x : XS} (C : Cx p s m args meth c RX4 cc nL ret (KK G)) (hw : CW β D G x H) (hd : decode cc pc = .ok (.getfield 15, 3)) (kk : W p l e R s m args below meth c H locs cells slots Q (F0 m (pc + 3) ls (.ref (β + 8) :: rest))) : W p l e R s m args below meth c H locs cells slots Q (F0 m pc ls (.ref (β + 6) :: rest)) :=
  va_get C.1 C.2.1 C.2.2.2.2.1 iwX4 C.2.2.2.1 C.K.1 (xP1 (hw.2.2.1 6 (by decide))) 0 rfl rfl 2 (by decide) (C.2.2.2.2.1 (.fieldLink RX4 15 RX4 "ends" "[I") (tg 70 (by decide +kernel) rfl)) (fun _ h9 => h9) rfl hd kk
theorem asX_8 {p : Program} {l : Launch} {e : Env} {R : Room} {s : State} {m : MethodId} {args : Array Value} {below : List Frame} {meth : Method} {c : Code} {H : Heap} {locs : List Loc} {cells slots : Nat} {Q : State → Prop} {cc : ByteArray} {pc nL : Nat} {ls : Array Slot} {rest : List Value} {ret : Option FieldType} {G : xG} {β : Nat} {D : Nat → Prop} {x : XS} {own : String} {i : Int32} {v : Int32} (C : Cx p s m args meth c own cc nL ret (KK G)) (hw : CW β D G x H) (hS : va_S D s.heap H locs) (hin : ib i 3) (hd : decode cc pc = .ok (.iastore, 1)) (kk : ∀ (H1 : Heap) (locs1 : List Loc), CW β D G (xsA x 8 i.toNatClampNeg v) H1 → va_S D s.heap H1 locs1 → W p l e R s m args below meth c H1 locs1 cells slots Q (F0 m (pc + 1) ls (rest))) : W p l e R s m args below meth c H locs cells slots Q (F0 m pc ls (.int v :: .int i :: .ref (β + 8) :: rest)) :=
  x_iast C.1 C.2.1 C.K.1 hS 0 (hw.2.2.1 8 (by decide)) (hw.2.1 8 (by decide)) rfl hin hd (fun H1 locs1 hat ho hS => kk H1 locs1 (hw.setA 8 _ _ hat ho) hS)
def fX4_readPart (x : XS) (a1 : Int32) (a2 : Int32) : Option (Bool × XS) := bind2 (fX4_passes x a1) fun v1 x2 => if v1 = true then bind2 (GRd MF 0 x2 0) fun v4 x5 => if v4 = true then if ib a2 3 then lt (xsA x5 8 a2.toNatClampNeg (x5.1 6 3)) fun x8 => bind2 (fX4_passes x8 (-33)) fun v9 x10 => some (v9, x10) else none else some (false, x5) else some (false, x2)
abbrev rmX4_readPart : Room := { frames := 109, cells := 0, slots := 0, locals := 2591 }
set_option maxHeartbeats 4000000 in
set_option maxRecDepth 100000 in
theorem kX4_readPart {l : Launch} {G : xG} {β : Nat} {D : Nat → Prop} {x x' : XS} {a1 : Int32} {a2 : Int32} {r : Bool} (hm : fX4_readPart x a1 a2 = some (r, x')) : Met l yX4_readPart (.code yX4_readPart cX4_readPart 3 (some .boolean) :: GT) rmX4_readPart (PcW [.ref (β + 6), .int a1, .int a2] (CW β D G x) (KK G)) (QcW D (some (.int (bI r))) (CW β D G x')) 0 0 D := by
  unfold fX4_readPart at hm
  refine xpro (own := RX4) (by decide +kernel) rfl (Nat.le_of_ble_eq_true rfl) ?_
  intro p e s m args below meth c C hw ls hl
  have hx := C.1
  have hb := C.2.1
  have ho := C.2.2.2.1
  have hts := C.2.2.2.2.1
  have hf : Fz D G s.heap := hw.2.2.2.2
  have hS : va_S D s.heap s.heap [] := va_S.rf
  have hl : lv_has ls 3 [(0, .ref (β + 6)), (1, .int a1), (2, .int a2)] := hl
  have hRf : 109 ≤ rmX4_readPart.frames := Nat.le_refl _
  have hRl : 2591 ≤ rmX4_readPart.locals := Nat.le_refl _
  have hcs : 0 ≤ rmX4_readPart.cells ∧ 0 ≤ rmX4_readPart.slots := ⟨Nat.le_refl _, Nat.le_refl _⟩
  refine lv_aload_n hx hb dX4_readPart_0 rfl (lv_at hl 0 rfl) ?_
  refine lv_iload_n hx hb dX4_readPart_1 rfl (lv_at hl 1 rfl) ?_
  obtain ⟨v1, x2, h3, hm⟩ := bind2_e hm
  refine sX4_49 C h3 hw hS hl.1 (Nat.le_of_ble_eq_true rfl) (Nat.le_trans (Nat.le_of_ble_eq_true rfl) hRf) (Nat.le_trans (Nat.le_of_ble_eq_true rfl) hRl) hcs dX4_readPart_2 (fun H locs hw hS => ?_)
  refine x_ifeqB hx hb dX4_readPart_5 (tgt := 16) (by decide) (fun cc => ?_) (fun cc => ?_)
  · replace hm := ite_n cc hm
    refine lv_iconst (v := 0) hx hb dX4_readPart_16 (by decide) ?_
    obtain ⟨rfl, rfl⟩ := inj2 hm
    exact xret_z (v := bI false) C (bI_nar _) hw hS dX4_readPart_17
  · replace hm := ite_p cc hm
    refine lv_aload_n hx hb dX4_readPart_8 rfl (lv_at hl 0 rfl) ?_
    refine lv_iconst (v := 0) hx hb dX4_readPart_9 (by decide) ?_
    obtain ⟨v4, x5, h6, hm⟩ := bind2_e hm
    refine sX4_53 C h6 hw hS hl.1 (Nat.le_of_ble_eq_true rfl) (Nat.le_trans (Nat.le_of_ble_eq_true rfl) hRf) (Nat.le_trans (Nat.le_of_ble_eq_true rfl) hRl) hcs dX4_readPart_10 (fun H locs hw hS => ?_)
    refine x_ifneB hx hb dX4_readPart_13 (tgt := 18) (by decide) (fun cc => ?_) (fun cc => ?_)
    · replace hm := ite_p cc hm
      refine lv_aload_n hx hb dX4_readPart_18 rfl (lv_at hl 0 rfl) ?_
      refine gX4_15 C hw dX4_readPart_19 ?_
      refine lv_iload_n hx hb dX4_readPart_22 rfl (lv_at hl 2 rfl) ?_
      refine lv_aload_n hx hb dX4_readPart_23 rfl (lv_at hl 0 rfl) ?_
      refine gX4_18 C hw dX4_readPart_24 ?_
      obtain ⟨h7, hm⟩ := chk_e hm
      refine asX_8 C hw hS h7 dX4_readPart_27 (fun H locs hw hS => ?_)
      obtain ⟨x8, ev, hm⟩ := lt_e hm
      rw [← ev] at hw
      clear ev
      refine lv_aload_n hx hb dX4_readPart_28 rfl (lv_at hl 0 rfl) ?_
      refine lv_bipush (v := (-33)) hx hb dX4_readPart_29 (by decide) ?_
      obtain ⟨v9, x10, h11, hm⟩ := bind2_e hm
      refine sX4_49 C h11 hw hS hl.1 (Nat.le_of_ble_eq_true rfl) (Nat.le_trans (Nat.le_of_ble_eq_true rfl) hRf) (Nat.le_trans (Nat.le_of_ble_eq_true rfl) hRl) hcs dX4_readPart_31 (fun H locs hw hS => ?_)
      obtain ⟨rfl, rfl⟩ := inj2 hm
      exact xret_z C (bI_nar _) hw hS dX4_readPart_34
    · replace hm := ite_n cc hm
      refine lv_iconst (v := 0) hx hb dX4_readPart_16 (by decide) ?_
      obtain ⟨rfl, rfl⟩ := inj2 hm
      exact xret_z (v := bI false) C (bI_nar _) hw hS dX4_readPart_17
theorem dX1_init_0 : decode cX1_init 0 = .ok (.aload_n 0, 1) := by decide +kernel
theorem dX1_init_1 : decode cX1_init 1 = .ok (.invokespecial 3, 3) := by decide +kernel
theorem dX1_init_4 : decode cX1_init 4 = .ok (.aload_n 0, 1) := by decide +kernel
theorem dX1_init_5 : decode cX1_init 5 = .ok (.iconst 0, 1) := by decide +kernel
theorem dX1_init_6 : decode cX1_init 6 = .ok (.putfield 9, 3) := by decide +kernel
theorem dX1_init_9 : decode cX1_init 9 = .ok (.aload_n 0, 1) := by decide +kernel
theorem dX1_init_10 : decode cX1_init 10 = .ok (.iload_n 1, 1) := by decide +kernel
theorem dX1_init_11 : decode cX1_init 11 = .ok (.putfield 15, 3) := by decide +kernel
theorem dX1_init_14 : decode cX1_init 14 = .ok (.aload_n 0, 1) := by decide +kernel
theorem dX1_init_15 : decode cX1_init 15 = .ok (.iload_n 2, 1) := by decide +kernel
theorem dX1_init_16 : decode cX1_init 16 = .ok (.putfield 18, 3) := by decide +kernel
theorem dX1_init_19 : decode cX1_init 19 = .ok (.aload_n 0, 1) := by decide +kernel
theorem dX1_init_20 : decode cX1_init 20 = .ok (.iload_n 3, 1) := by decide +kernel
theorem dX1_init_21 : decode cX1_init 21 = .ok (.putfield 21, 3) := by decide +kernel
theorem dX1_init_24 : decode cX1_init 24 = .ok (.aload_n 0, 1) := by decide +kernel
theorem dX1_init_25 : decode cX1_init 25 = .ok (.iload 4, 2) := by decide +kernel
theorem dX1_init_27 : decode cX1_init 27 = .ok (.putfield 24, 3) := by decide +kernel
theorem dX1_init_30 : decode cX1_init 30 = .ok (.aload_n 0, 1) := by decide +kernel
theorem dX1_init_31 : decode cX1_init 31 = .ok (.iload 5, 2) := by decide +kernel
theorem dX1_init_33 : decode cX1_init 33 = .ok (.putfield 27, 3) := by decide +kernel
theorem dX1_init_36 : decode cX1_init 36 = .ok (.return_, 1) := by decide +kernel
theorem pdX1_9 {p : Program} {l : Launch} {e : Env} {R : Room} {s : State} {m : MethodId} {args : Array Value} {below : List Frame} {meth : Method} {c : Code} {H : Heap} {locs : List Loc} {cells slots : Nat} {Q : State → Prop} {cc : ByteArray} {pc nL : Nat} {ls : Array Slot} {rest : List Value} {ret : Option FieldType}  {G : xG} {β : Nat} {D : Nat → Prop} {x x' : XS} {a : Nat} {v : Int32} (C : Cx p s m args meth c RX1 cc nL ret (KK G)) (h : dPut x a 1 5 (.int v) = some x') (hw : CW β D G x H) (hS : va_S D s.heap H locs) (hd : decode cc pc = .ok (.putfield 9, 3)) (kk : ∀ (H1 : Heap) (locs1 : List Loc), CW β D G x' H1 → va_S D s.heap H1 locs1 → W p l e R s m args below meth c H1 locs1 cells slots Q (F0 m (pc + 3) ls (rest))) : W p l e R s m args below meth c H locs cells slots Q (F0 m pc ls (.int v :: .ref a :: rest)) := by
  obtain ⟨fs, h1, h2, rfl⟩ := dPut_e h
  exact x_put (ci := 1) (fs := fs) C.1 C.2.1 C.2.2.2.2.1 iwX1 tyX1 tyX1_ok nmX1 C.2.2.2.1 C.K.1 hS (hw.2.2.2.1 a _ h1).2.2.2 (hw.2.2.2.1 a _ h1).1 rfl 5 (by decide) (C.2.2.2.2.1 (.fieldLink RX1 9 RX1 "lead" "I") (tg 440 (by decide +kernel) rfl)) (fun _ h9 => h9) rfl (ty := .int) (by decide +kernel) rfl rfl h2 hd (fun H1 locs1 hat ho hS => kk H1 locs1 (hw.setD h1 hat ho) hS)
theorem pdX1_15 {p : Program} {l : Launch} {e : Env} {R : Room} {s : State} {m : MethodId} {args : Array Value} {below : List Frame} {meth : Method} {c : Code} {H : Heap} {locs : List Loc} {cells slots : Nat} {Q : State → Prop} {cc : ByteArray} {pc nL : Nat} {ls : Array Slot} {rest : List Value} {ret : Option FieldType}  {G : xG} {β : Nat} {D : Nat → Prop} {x x' : XS} {a : Nat} {v : Int32} (C : Cx p s m args meth c RX1 cc nL ret (KK G)) (hin : meth.name = "<init>") (h : dPut x a 1 0 (.int v) = some x') (hw : CW β D G x H) (hS : va_S D s.heap H locs) (hd : decode cc pc = .ok (.putfield 15, 3)) (kk : ∀ (H1 : Heap) (locs1 : List Loc), CW β D G x' H1 → va_S D s.heap H1 locs1 → W p l e R s m args below meth c H1 locs1 cells slots Q (F0 m (pc + 3) ls (rest))) : W p l e R s m args below meth c H locs cells slots Q (F0 m pc ls (.int v :: .ref a :: rest)) := by
  obtain ⟨fs, h1, h2, rfl⟩ := dPut_e h
  exact x_putF (ci := 1) (fs := fs) C.1 C.2.1 C.2.2.2.2.1 iwX1 tyX1 tyX1_ok nmX1 C.2.2.2.1 C.K.1 hS (hw.2.2.2.1 a _ h1).2.2.2 (hw.2.2.2.1 a _ h1).1 rfl 0 (by decide) (C.2.2.2.2.1 (.fieldLink RX1 15 RX1 "kind" "I") (tg 428 (by decide +kernel) rfl)) (fun _ h9 => h9) rfl hin rfl (ty := .int) (by decide +kernel) rfl rfl h2 hd (fun H1 locs1 hat ho hS => kk H1 locs1 (hw.setD h1 hat ho) hS)
theorem pdX1_18 {p : Program} {l : Launch} {e : Env} {R : Room} {s : State} {m : MethodId} {args : Array Value} {below : List Frame} {meth : Method} {c : Code} {H : Heap} {locs : List Loc} {cells slots : Nat} {Q : State → Prop} {cc : ByteArray} {pc nL : Nat} {ls : Array Slot} {rest : List Value} {ret : Option FieldType}  {G : xG} {β : Nat} {D : Nat → Prop} {x x' : XS} {a : Nat} {v : Int32} (C : Cx p s m args meth c RX1 cc nL ret (KK G)) (h : dPut x a 1 3 (.int v) = some x') (hw : CW β D G x H) (hS : va_S D s.heap H locs) (hd : decode cc pc = .ok (.putfield 18, 3)) (kk : ∀ (H1 : Heap) (locs1 : List Loc), CW β D G x' H1 → va_S D s.heap H1 locs1 → W p l e R s m args below meth c H1 locs1 cells slots Q (F0 m (pc + 3) ls (rest))) : W p l e R s m args below meth c H locs cells slots Q (F0 m pc ls (.int v :: .ref a :: rest)) := by
  obtain ⟨fs, h1, h2, rfl⟩ := dPut_e h
  exact x_put (ci := 1) (fs := fs) C.1 C.2.1 C.2.2.2.2.1 iwX1 tyX1 tyX1_ok nmX1 C.2.2.2.1 C.K.1 hS (hw.2.2.2.1 a _ h1).2.2.2 (hw.2.2.2.1 a _ h1).1 rfl 3 (by decide) (C.2.2.2.2.1 (.fieldLink RX1 18 RX1 "strength" "I") (tg 434 (by decide +kernel) rfl)) (fun _ h9 => h9) rfl (ty := .int) (by decide +kernel) rfl rfl h2 hd (fun H1 locs1 hat ho hS => kk H1 locs1 (hw.setD h1 hat ho) hS)
theorem pdX1_21 {p : Program} {l : Launch} {e : Env} {R : Room} {s : State} {m : MethodId} {args : Array Value} {below : List Frame} {meth : Method} {c : Code} {H : Heap} {locs : List Loc} {cells slots : Nat} {Q : State → Prop} {cc : ByteArray} {pc nL : Nat} {ls : Array Slot} {rest : List Value} {ret : Option FieldType}  {G : xG} {β : Nat} {D : Nat → Prop} {x x' : XS} {a : Nat} {v : Int32} (C : Cx p s m args meth c RX1 cc nL ret (KK G)) (h : dPut x a 1 4 (.int v) = some x') (hw : CW β D G x H) (hS : va_S D s.heap H locs) (hd : decode cc pc = .ok (.putfield 21, 3)) (kk : ∀ (H1 : Heap) (locs1 : List Loc), CW β D G x' H1 → va_S D s.heap H1 locs1 → W p l e R s m args below meth c H1 locs1 cells slots Q (F0 m (pc + 3) ls (rest))) : W p l e R s m args below meth c H locs cells slots Q (F0 m pc ls (.int v :: .ref a :: rest)) := by
  obtain ⟨fs, h1, h2, rfl⟩ := dPut_e h
  exact x_put (ci := 1) (fs := fs) C.1 C.2.1 C.2.2.2.2.1 iwX1 tyX1 tyX1_ok nmX1 C.2.2.2.1 C.K.1 hS (hw.2.2.2.1 a _ h1).2.2.2 (hw.2.2.2.1 a _ h1).1 rfl 4 (by decide) (C.2.2.2.2.1 (.fieldLink RX1 21 RX1 "age" "I") (tg 437 (by decide +kernel) rfl)) (fun _ h9 => h9) rfl (ty := .int) (by decide +kernel) rfl rfl h2 hd (fun H1 locs1 hat ho hS => kk H1 locs1 (hw.setD h1 hat ho) hS)
theorem pdX1_24 {p : Program} {l : Launch} {e : Env} {R : Room} {s : State} {m : MethodId} {args : Array Value} {below : List Frame} {meth : Method} {c : Code} {H : Heap} {locs : List Loc} {cells slots : Nat} {Q : State → Prop} {cc : ByteArray} {pc nL : Nat} {ls : Array Slot} {rest : List Value} {ret : Option FieldType}  {G : xG} {β : Nat} {D : Nat → Prop} {x x' : XS} {a : Nat} {v : Int32} (C : Cx p s m args meth c RX1 cc nL ret (KK G)) (hin : meth.name = "<init>") (h : dPut x a 1 1 (.int v) = some x') (hw : CW β D G x H) (hS : va_S D s.heap H locs) (hd : decode cc pc = .ok (.putfield 24, 3)) (kk : ∀ (H1 : Heap) (locs1 : List Loc), CW β D G x' H1 → va_S D s.heap H1 locs1 → W p l e R s m args below meth c H1 locs1 cells slots Q (F0 m (pc + 3) ls (rest))) : W p l e R s m args below meth c H locs cells slots Q (F0 m pc ls (.int v :: .ref a :: rest)) := by
  obtain ⟨fs, h1, h2, rfl⟩ := dPut_e h
  exact x_putF (ci := 1) (fs := fs) C.1 C.2.1 C.2.2.2.2.1 iwX1 tyX1 tyX1_ok nmX1 C.2.2.2.1 C.K.1 hS (hw.2.2.2.1 a _ h1).2.2.2 (hw.2.2.2.1 a _ h1).1 rfl 1 (by decide) (C.2.2.2.2.1 (.fieldLink RX1 24 RX1 "number" "I") (tg 430 (by decide +kernel) rfl)) (fun _ h9 => h9) rfl hin rfl (ty := .int) (by decide +kernel) rfl rfl h2 hd (fun H1 locs1 hat ho hS => kk H1 locs1 (hw.setD h1 hat ho) hS)
theorem pdX1_27 {p : Program} {l : Launch} {e : Env} {R : Room} {s : State} {m : MethodId} {args : Array Value} {below : List Frame} {meth : Method} {c : Code} {H : Heap} {locs : List Loc} {cells slots : Nat} {Q : State → Prop} {cc : ByteArray} {pc nL : Nat} {ls : Array Slot} {rest : List Value} {ret : Option FieldType}  {G : xG} {β : Nat} {D : Nat → Prop} {x x' : XS} {a : Nat} {v : Int32} (C : Cx p s m args meth c RX1 cc nL ret (KK G)) (hin : meth.name = "<init>") (h : dPut x a 1 2 (.int v) = some x') (hw : CW β D G x H) (hS : va_S D s.heap H locs) (hd : decode cc pc = .ok (.putfield 27, 3)) (kk : ∀ (H1 : Heap) (locs1 : List Loc), CW β D G x' H1 → va_S D s.heap H1 locs1 → W p l e R s m args below meth c H1 locs1 cells slots Q (F0 m (pc + 3) ls (rest))) : W p l e R s m args below meth c H locs cells slots Q (F0 m pc ls (.int v :: .ref a :: rest)) := by
  obtain ⟨fs, h1, h2, rfl⟩ := dPut_e h
  exact x_putF (ci := 1) (fs := fs) C.1 C.2.1 C.2.2.2.2.1 iwX1 tyX1 tyX1_ok nmX1 C.2.2.2.1 C.K.1 hS (hw.2.2.2.1 a _ h1).2.2.2 (hw.2.2.2.1 a _ h1).1 rfl 2 (by decide) (C.2.2.2.2.1 (.fieldLink RX1 27 RX1 "homeGround" "I") (tg 432 (by decide +kernel) rfl)) (fun _ h9 => h9) rfl hin rfl (ty := .int) (by decide +kernel) rfl rfl h2 hd (fun H1 locs1 hat ho hS => kk H1 locs1 (hw.setD h1 hat ho) hS)
def fX1_init (x : XS) (a0 : Nat) (a1 : Int32) (a2 : Int32) (a3 : Int32) (a4 : Int32) (a5 : Int32) : Option (XS) := Option.bind (dPut x a0 1 5 (.int 0)) fun x1 => Option.bind (dPut x1 a0 1 0 (.int a1)) fun x3 => Option.bind (dPut x3 a0 1 3 (.int a2)) fun x5 => Option.bind (dPut x5 a0 1 4 (.int a3)) fun x7 => Option.bind (dPut x7 a0 1 1 (.int a4)) fun x9 => Option.bind (dPut x9 a0 1 2 (.int a5)) fun x11 => some x11
abbrev rmX1_init : Room := { frames := 1, cells := 0, slots := 0, locals := 12 }
set_option maxHeartbeats 4000000 in
set_option maxRecDepth 100000 in
theorem kX1_init {l : Launch} {G : xG} {β : Nat} {D : Nat → Prop} {x x' : XS} {a0 : Nat} {a1 : Int32} {a2 : Int32} {a3 : Int32} {a4 : Int32} {a5 : Int32} (hm : fX1_init x a0 a1 a2 a3 a4 a5 = some x') : Met l yX1_init (.code yX1_init cX1_init 6 none :: GT) rmX1_init (PcW [.ref a0, .int a1, .int a2, .int a3, .int a4, .int a5] (CW β D G x) (KK G)) (QcW D none (CW β D G x')) 0 0 D := by
  unfold fX1_init at hm
  refine xproI (own := RX1) (by decide +kernel) rfl (Nat.le_of_ble_eq_true rfl) ?_
  intro p e s m args below meth c C hin hw ls hl
  have hx := C.1
  have hb := C.2.1
  have ho := C.2.2.2.1
  have hts := C.2.2.2.2.1
  have hf : Fz D G s.heap := hw.2.2.2.2
  have hS : va_S D s.heap s.heap [] := va_S.rf
  have hl : lv_has ls 6 [(0, .ref a0), (1, .int a1), (2, .int a2), (3, .int a3), (4, .int a4), (5, .int a5)] := hl
  have hRf : 1 ≤ rmX1_init.frames := Nat.le_refl _
  have hRl : 12 ≤ rmX1_init.locals := Nat.le_refl _
  have hcs : 0 ≤ rmX1_init.cells ∧ 0 ≤ rmX1_init.slots := ⟨Nat.le_refl _, Nat.le_refl _⟩
  refine lv_aload_n hx hb dX1_init_0 rfl (lv_at hl 0 rfl) ?_
  refine W.objInit hx hb ho (hts (.methodLink RX1 3 objectInit) (tg 427 (by decide +kernel) rfl)) (hts (.instanceMethod objectInit) (tg 25 (by decide +kernel) rfl)) (hts (.code objectInit ⟨#[0xb1]⟩ 1 none) (tg 26 (by decide +kernel) rfl)) rfl (by rw [C.2.2.1]; exact hl.1) rfl dX1_init_1 (Nat.le_trans (Nat.le_of_ble_eq_true rfl) hRf) (Nat.le_trans (Nat.le_of_ble_eq_true rfl) hRl) ?_
  refine W.eq (g2 := F0 m 4 ls []) rfl ?_
  refine lv_aload_n hx hb dX1_init_4 rfl (lv_at hl 0 rfl) ?_
  refine lv_iconst (v := 0) hx hb dX1_init_5 (by decide) ?_
  obtain ⟨x1, h2, hm⟩ := bind_e hm
  refine pdX1_9 C h2 hw hS dX1_init_6 (fun H locs hw hS => ?_)
  refine lv_aload_n hx hb dX1_init_9 rfl (lv_at hl 0 rfl) ?_
  refine lv_iload_n hx hb dX1_init_10 rfl (lv_at hl 1 rfl) ?_
  obtain ⟨x3, h4, hm⟩ := bind_e hm
  refine pdX1_15 C hin h4 hw hS dX1_init_11 (fun H locs hw hS => ?_)
  refine lv_aload_n hx hb dX1_init_14 rfl (lv_at hl 0 rfl) ?_
  refine lv_iload_n hx hb dX1_init_15 rfl (lv_at hl 2 rfl) ?_
  obtain ⟨x5, h6, hm⟩ := bind_e hm
  refine pdX1_18 C h6 hw hS dX1_init_16 (fun H locs hw hS => ?_)
  refine lv_aload_n hx hb dX1_init_19 rfl (lv_at hl 0 rfl) ?_
  refine lv_iload_n hx hb dX1_init_20 rfl (lv_at hl 3 rfl) ?_
  obtain ⟨x7, h8, hm⟩ := bind_e hm
  refine pdX1_21 C h8 hw hS dX1_init_21 (fun H locs hw hS => ?_)
  refine lv_aload_n hx hb dX1_init_24 rfl (lv_at hl 0 rfl) ?_
  refine lv_iload hx hb dX1_init_25 (lv_at hl 4 rfl) ?_
  obtain ⟨x9, h10, hm⟩ := bind_e hm
  refine pdX1_24 C hin h10 hw hS dX1_init_27 (fun H locs hw hS => ?_)
  refine lv_aload_n hx hb dX1_init_30 rfl (lv_at hl 0 rfl) ?_
  refine lv_iload hx hb dX1_init_31 (lv_at hl 5 rfl) ?_
  obtain ⟨x11, h12, hm⟩ := bind_e hm
  refine pdX1_27 C hin h12 hw hS dX1_init_33 (fun H locs hw hS => ?_)
  obtain rfl := Option.some.inj hm
  exact xret_v C hw hS dX1_init_36
theorem dX3_init_0 : decode cX3_init 0 = .ok (.aload_n 0, 1) := by decide +kernel
theorem dX3_init_1 : decode cX3_init 1 = .ok (.invokespecial 3, 3) := by decide +kernel
theorem dX3_init_4 : decode cX3_init 4 = .ok (.aload_n 0, 1) := by decide +kernel
theorem dX3_init_5 : decode cX3_init 5 = .ok (.iconst 5, 1) := by decide +kernel
theorem dX3_init_6 : decode cX3_init 6 = .ok (.newarray .int, 2) := by decide +kernel
theorem dX3_init_8 : decode cX3_init 8 = .ok (.putfield 9, 3) := by decide +kernel
theorem dX3_init_11 : decode cX3_init 11 = .ok (.aload_n 0, 1) := by decide +kernel
theorem dX3_init_12 : decode cX3_init 12 = .ok (.iconst 5, 1) := by decide +kernel
theorem dX3_init_13 : decode cX3_init 13 = .ok (.newarray .int, 2) := by decide +kernel
theorem dX3_init_15 : decode cX3_init 15 = .ok (.putfield 15, 3) := by decide +kernel
theorem dX3_init_18 : decode cX3_init 18 = .ok (.aload_n 0, 1) := by decide +kernel
theorem dX3_init_19 : decode cX3_init 19 = .ok (.iload_n 1, 1) := by decide +kernel
theorem dX3_init_20 : decode cX3_init 20 = .ok (.putfield 18, 3) := by decide +kernel
theorem dX3_init_23 : decode cX3_init 23 = .ok (.aload_n 0, 1) := by decide +kernel
theorem dX3_init_24 : decode cX3_init 24 = .ok (.iload_n 2, 1) := by decide +kernel
theorem dX3_init_25 : decode cX3_init 25 = .ok (.putfield 22, 3) := by decide +kernel
theorem dX3_init_28 : decode cX3_init 28 = .ok (.aload_n 0, 1) := by decide +kernel
theorem dX3_init_29 : decode cX3_init 29 = .ok (.iload_n 3, 1) := by decide +kernel
theorem dX3_init_30 : decode cX3_init 30 = .ok (.iconst 5, 1) := by decide +kernel
theorem dX3_init_31 : decode cX3_init 31 = .ok (.invokestatic 25, 3) := by decide +kernel
theorem dX3_init_34 : decode cX3_init 34 = .ok (.putfield 31, 3) := by decide +kernel
theorem dX3_init_37 : decode cX3_init 37 = .ok (.return_, 1) := by decide +kernel
theorem nwaX3 {p : Program} {l : Launch} {e : Env} {R : Room} {s : State} {m : MethodId} {args : Array Value} {below : List Frame} {meth : Method} {c : Code} {H : Heap} {locs : List Loc} {cells slots : Nat} {Q : State → Prop} {cc : ByteArray} {pc nL : Nat} {ls : Array Slot} {rest : List Value} {ret : Option FieldType}  {G : xG} {β : Nat} {D : Nat → Prop} {x : XS} {v : Int32} (C : Cx p s m args meth c RX3 cc nL ret (KK G)) (hn : ∀ q, s.heap.size ≤ q → D q) (hw : CW β D G x H) (hS : va_S D s.heap H locs) (h0 : ¬ v < 0) (hc1 : cells + 1 ≤ R.cells) (hc2 : slots + v.toNatClampNeg ≤ R.slots) (hc3 : v.toNatClampNeg ≤ 1000) (hd : decode cc pc = .ok (.newarray .int, 2)) (kk : ∀ (H1 : Heap), CW β D G (xsN x (.inr (v.toNatClampNeg, fun _ => 0))) H1 → va_S D s.heap H1 locs → W p l e R s m args below meth c H1 locs (cells + 1) (slots + v.toNatClampNeg) Q (F0 m (pc + 2) ls (.ref x.2.2.2.2 :: rest))) : W p l e R s m args below meth c H locs cells slots Q (F0 m pc ls (.int v :: rest)) := by
  refine x_newa (G := G) (cl := vwCl) C.1 C.2.1 (C.2.2.2.2.1 (.arrayClass .int) (tg 60 (by decide +kernel) rfl)) C.K hS h0 rfl (by show _ * 4 ≤ _; omega) hc1 hc2 hd (fun H1 hat ho hS1 => ?_)
  rw [hw.1]
  exact kk H1 (hw.setN (hn _ hS.1) hat ho (by have := (hw.2.2.1 26 (by decide)).lt; exact Nat.succ_le_of_lt this)) hS1
theorem pdX3_9 {p : Program} {l : Launch} {e : Env} {R : Room} {s : State} {m : MethodId} {args : Array Value} {below : List Frame} {meth : Method} {c : Code} {H : Heap} {locs : List Loc} {cells slots : Nat} {Q : State → Prop} {cc : ByteArray} {pc nL : Nat} {ls : Array Slot} {rest : List Value} {ret : Option FieldType}  {G : xG} {β : Nat} {D : Nat → Prop} {x x' : XS} {a : Nat} {v : Nat} (C : Cx p s m args meth c RX3 cc nL ret (KK G)) (hin : meth.name = "<init>") (h : dPut x a 3 3 (.ref v) = some x') (hw : CW β D G x H) (hS : va_S D s.heap H locs) (hd : decode cc pc = .ok (.putfield 9, 3)) (kk : ∀ (H1 : Heap) (locs1 : List Loc), CW β D G x' H1 → va_S D s.heap H1 locs1 → W p l e R s m args below meth c H1 locs1 cells slots Q (F0 m (pc + 3) ls (rest))) : W p l e R s m args below meth c H locs cells slots Q (F0 m pc ls (.ref v :: .ref a :: rest)) := by
  obtain ⟨fs, h1, h2, rfl⟩ := dPut_e h
  exact x_putF (ci := 3) (fs := fs) C.1 C.2.1 C.2.2.2.2.1 iwX3 tyX3 tyX3_ok nmX3 C.2.2.2.1 C.K.1 hS (hw.2.2.2.1 a _ h1).2.2.2 (hw.2.2.2.1 a _ h1).1 rfl 3 (by decide) (C.2.2.2.2.1 (.fieldLink RX3 9 RX3 "order" "[I") (tg 732 (by decide +kernel) rfl)) (fun _ h9 => h9) rfl hin rfl (ty := (.array .int)) (by decide +kernel) rfl rfl h2 hd (fun H1 locs1 hat ho hS => kk H1 locs1 (hw.setD h1 hat ho) hS)
theorem pdX3_15 {p : Program} {l : Launch} {e : Env} {R : Room} {s : State} {m : MethodId} {args : Array Value} {below : List Frame} {meth : Method} {c : Code} {H : Heap} {locs : List Loc} {cells slots : Nat} {Q : State → Prop} {cc : ByteArray} {pc nL : Nat} {ls : Array Slot} {rest : List Value} {ret : Option FieldType}  {G : xG} {β : Nat} {D : Nat → Prop} {x x' : XS} {a : Nat} {v : Nat} (C : Cx p s m args meth c RX3 cc nL ret (KK G)) (hin : meth.name = "<init>") (h : dPut x a 3 4 (.ref v) = some x') (hw : CW β D G x H) (hS : va_S D s.heap H locs) (hd : decode cc pc = .ok (.putfield 15, 3)) (kk : ∀ (H1 : Heap) (locs1 : List Loc), CW β D G x' H1 → va_S D s.heap H1 locs1 → W p l e R s m args below meth c H1 locs1 cells slots Q (F0 m (pc + 3) ls (rest))) : W p l e R s m args below meth c H locs cells slots Q (F0 m pc ls (.ref v :: .ref a :: rest)) := by
  obtain ⟨fs, h1, h2, rfl⟩ := dPut_e h
  exact x_putF (ci := 3) (fs := fs) C.1 C.2.1 C.2.2.2.2.1 iwX3 tyX3 tyX3_ok nmX3 C.2.2.2.1 C.K.1 hS (hw.2.2.2.1 a _ h1).2.2.2 (hw.2.2.2.1 a _ h1).1 rfl 4 (by decide) (C.2.2.2.2.1 (.fieldLink RX3 15 RX3 "leads" "[I") (tg 734 (by decide +kernel) rfl)) (fun _ h9 => h9) rfl hin rfl (ty := (.array .int)) (by decide +kernel) rfl rfl h2 hd (fun H1 locs1 hat ho hS => kk H1 locs1 (hw.setD h1 hat ho) hS)
theorem pdX3_18 {p : Program} {l : Launch} {e : Env} {R : Room} {s : State} {m : MethodId} {args : Array Value} {below : List Frame} {meth : Method} {c : Code} {H : Heap} {locs : List Loc} {cells slots : Nat} {Q : State → Prop} {cc : ByteArray} {pc nL : Nat} {ls : Array Slot} {rest : List Value} {ret : Option FieldType}  {G : xG} {β : Nat} {D : Nat → Prop} {x x' : XS} {a : Nat} {v : Int32} (C : Cx p s m args meth c RX3 cc nL ret (KK G)) (hin : meth.name = "<init>") (h : dPut x a 3 0 (.int v) = some x') (hw : CW β D G x H) (hS : va_S D s.heap H locs) (hd : decode cc pc = .ok (.putfield 18, 3)) (kk : ∀ (H1 : Heap) (locs1 : List Loc), CW β D G x' H1 → va_S D s.heap H1 locs1 → W p l e R s m args below meth c H1 locs1 cells slots Q (F0 m (pc + 3) ls (rest))) : W p l e R s m args below meth c H locs cells slots Q (F0 m pc ls (.int v :: .ref a :: rest)) := by
  obtain ⟨fs, h1, h2, rfl⟩ := dPut_e h
  exact x_putF (ci := 3) (fs := fs) C.1 C.2.1 C.2.2.2.2.1 iwX3 tyX3 tyX3_ok nmX3 C.2.2.2.1 C.K.1 hS (hw.2.2.2.1 a _ h1).2.2.2 (hw.2.2.2.1 a _ h1).1 rfl 0 (by decide) (C.2.2.2.2.1 (.fieldLink RX3 18 RX3 "ground" "I") (tg 726 (by decide +kernel) rfl)) (fun _ h9 => h9) rfl hin rfl (ty := .int) (by decide +kernel) rfl rfl h2 hd (fun H1 locs1 hat ho hS => kk H1 locs1 (hw.setD h1 hat ho) hS)
theorem pdX3_22 {p : Program} {l : Launch} {e : Env} {R : Room} {s : State} {m : MethodId} {args : Array Value} {below : List Frame} {meth : Method} {c : Code} {H : Heap} {locs : List Loc} {cells slots : Nat} {Q : State → Prop} {cc : ByteArray} {pc nL : Nat} {ls : Array Slot} {rest : List Value} {ret : Option FieldType}  {G : xG} {β : Nat} {D : Nat → Prop} {x x' : XS} {a : Nat} {v : Int32} (C : Cx p s m args meth c RX3 cc nL ret (KK G)) (hin : meth.name = "<init>") (h : dPut x a 3 1 (.int v) = some x') (hw : CW β D G x H) (hS : va_S D s.heap H locs) (hd : decode cc pc = .ok (.putfield 22, 3)) (kk : ∀ (H1 : Heap) (locs1 : List Loc), CW β D G x' H1 → va_S D s.heap H1 locs1 → W p l e R s m args below meth c H1 locs1 cells slots Q (F0 m (pc + 3) ls (rest))) : W p l e R s m args below meth c H locs cells slots Q (F0 m pc ls (.int v :: .ref a :: rest)) := by
  obtain ⟨fs, h1, h2, rfl⟩ := dPut_e h
  exact x_putF (ci := 3) (fs := fs) C.1 C.2.1 C.2.2.2.2.1 iwX3 tyX3 tyX3_ok nmX3 C.2.2.2.1 C.K.1 hS (hw.2.2.2.1 a _ h1).2.2.2 (hw.2.2.2.1 a _ h1).1 rfl 1 (by decide) (C.2.2.2.2.1 (.fieldLink RX3 22 RX3 "day" "I") (tg 728 (by decide +kernel) rfl)) (fun _ h9 => h9) rfl hin rfl (ty := .int) (by decide +kernel) rfl rfl h2 hd (fun H1 locs1 hat ho hS => kk H1 locs1 (hw.setD h1 hat ho) hS)
theorem mmX3_25 {p : Program} {l : Launch} {e : Env} {R : Room} {s : State} {m : MethodId} {args : Array Value} {below : List Frame} {meth : Method} {c : Code} {H : Heap} {locs : List Loc} {cells slots : Nat} {Q : State → Prop} {cc : ByteArray} {pc nL : Nat} {ls : Array Slot} {rest : List Value} {ret : Option FieldType} {G : xG} {a b : Int32} (C : Cx p s m args meth c RX3 cc nL ret (KK G)) (hsz : ls.size = nL) (hR : 1 ≤ R.frames) (hR2 : (rest.map fun v => v.category).sum + 13 ≤ R.locals) (hcs : cells ≤ R.cells ∧ slots ≤ R.slots) (hd : decode cc pc = .ok (.invokestatic 25, 3)) (kk : W p l e R s m args below meth c H locs cells slots Q (F0 m (pc + 3) ls (.int (imin a b) :: rest))) : W p l e R s m args below meth c H locs cells slots Q (F0 m pc ls (.int b :: .int a :: rest)) :=
  va_mmin C.1 C.2.1 (C.2.2.1.trans hsz.symm) C.2.2.2.1 (C.2.2.2.2.1 (.methodLink RX3 25 Lib.Math.min.name) (tg 725 (by decide +kernel) rfl)) (C.2.2.2.2.1 (.static Lib.Math.min.name) (tg 319 (by decide +kernel) rfl)) (C.2.2.2.2.1 (.initialized "java/lang/Math") (tg 12 (by decide +kernel) rfl)) (C.2.2.2.2.1 (.code Lib.Math.min.name Lib.Math.min.code 2 (some .int)) (tg 320 (by decide +kernel) rfl)) hR hR2 hcs.1 hcs.2 hd kk
theorem pdX3_31 {p : Program} {l : Launch} {e : Env} {R : Room} {s : State} {m : MethodId} {args : Array Value} {below : List Frame} {meth : Method} {c : Code} {H : Heap} {locs : List Loc} {cells slots : Nat} {Q : State → Prop} {cc : ByteArray} {pc nL : Nat} {ls : Array Slot} {rest : List Value} {ret : Option FieldType}  {G : xG} {β : Nat} {D : Nat → Prop} {x x' : XS} {a : Nat} {v : Int32} (C : Cx p s m args meth c RX3 cc nL ret (KK G)) (hin : meth.name = "<init>") (h : dPut x a 3 2 (.int v) = some x') (hw : CW β D G x H) (hS : va_S D s.heap H locs) (hd : decode cc pc = .ok (.putfield 31, 3)) (kk : ∀ (H1 : Heap) (locs1 : List Loc), CW β D G x' H1 → va_S D s.heap H1 locs1 → W p l e R s m args below meth c H1 locs1 cells slots Q (F0 m (pc + 3) ls (rest))) : W p l e R s m args below meth c H locs cells slots Q (F0 m pc ls (.int v :: .ref a :: rest)) := by
  obtain ⟨fs, h1, h2, rfl⟩ := dPut_e h
  exact x_putF (ci := 3) (fs := fs) C.1 C.2.1 C.2.2.2.2.1 iwX3 tyX3 tyX3_ok nmX3 C.2.2.2.1 C.K.1 hS (hw.2.2.2.1 a _ h1).2.2.2 (hw.2.2.2.1 a _ h1).1 rfl 2 (by decide) (C.2.2.2.2.1 (.fieldLink RX3 31 RX3 "size" "I") (tg 730 (by decide +kernel) rfl)) (fun _ h9 => h9) rfl hin rfl (ty := .int) (by decide +kernel) rfl rfl h2 hd (fun H1 locs1 hat ho hS => kk H1 locs1 (hw.setD h1 hat ho) hS)
def fX3_init (x : XS) (a0 : Nat) (a1 : Int32) (a2 : Int32) (a3 : Int32) : Option (XS) := lt x.2.2.2.2 fun p1 => lt (xsN x (.inr ((5 : Int32).toNatClampNeg, fun _ => 0))) fun x2 => Option.bind (dPut x2 a0 3 3 (.ref p1)) fun x3 => lt x3.2.2.2.2 fun p5 => lt (xsN x3 (.inr ((5 : Int32).toNatClampNeg, fun _ => 0))) fun x6 => Option.bind (dPut x6 a0 3 4 (.ref p5)) fun x7 => Option.bind (dPut x7 a0 3 0 (.int a1)) fun x9 => Option.bind (dPut x9 a0 3 1 (.int a2)) fun x11 => Option.bind (dPut x11 a0 3 2 (.int (imin a3 5))) fun x13 => some x13
abbrev rmX3_init : Room := { frames := 1, cells := 2, slots := 10, locals := 21 }
set_option maxHeartbeats 4000000 in
set_option maxRecDepth 100000 in
theorem kX3_init {l : Launch} {G : xG} {β : Nat} {D : Nat → Prop} {x x' : XS} {a0 : Nat} {a1 : Int32} {a2 : Int32} {a3 : Int32} (hn : ∀ q, x.2.2.2.2 ≤ q → D q) (hm : fX3_init x a0 a1 a2 a3 = some x') : Met l yX3_init (.code yX3_init cX3_init 4 none :: GT) rmX3_init (PcW [.ref a0, .int a1, .int a2, .int a3] (CW β D G x) (KK G)) (QcW D none (CW β D G x')) 2 10 D := by
  unfold fX3_init at hm
  refine xproI (own := RX3) (by decide +kernel) rfl (Nat.le_of_ble_eq_true rfl) ?_
  intro p e s m args below meth c C hin hw ls hl
  have hx := C.1
  have hb := C.2.1
  have ho := C.2.2.2.1
  have hts := C.2.2.2.2.1
  have hf : Fz D G s.heap := hw.2.2.2.2
  have hn : ∀ q, s.heap.size ≤ q → D q := fun q h => hn q (by rw [← hw.1]; exact h)
  have hS : va_S D s.heap s.heap [] := va_S.rf
  have hl : lv_has ls 4 [(0, .ref a0), (1, .int a1), (2, .int a2), (3, .int a3)] := hl
  have hRf : 1 ≤ rmX3_init.frames := Nat.le_refl _
  have hRl : 21 ≤ rmX3_init.locals := Nat.le_refl _
  have hcs : 0 ≤ rmX3_init.cells ∧ 0 ≤ rmX3_init.slots := ⟨Nat.zero_le _, Nat.zero_le _⟩
  refine lv_aload_n hx hb dX3_init_0 rfl (lv_at hl 0 rfl) ?_
  refine W.objInit hx hb ho (hts (.methodLink RX3 3 objectInit) (tg 724 (by decide +kernel) rfl)) (hts (.instanceMethod objectInit) (tg 25 (by decide +kernel) rfl)) (hts (.code objectInit ⟨#[0xb1]⟩ 1 none) (tg 26 (by decide +kernel) rfl)) rfl (by rw [C.2.2.1]; exact hl.1) rfl dX3_init_1 (Nat.le_trans (Nat.le_of_ble_eq_true rfl) hRf) (Nat.le_trans (Nat.le_of_ble_eq_true rfl) hRl) ?_
  refine W.eq (g2 := F0 m 4 ls []) rfl ?_
  refine lv_aload_n hx hb dX3_init_4 rfl (lv_at hl 0 rfl) ?_
  refine lv_iconst (v := 5) hx hb dX3_init_5 (by decide) ?_
  refine nwaX3 (v := 5) C hn hw hS (by decide) (Nat.le_of_ble_eq_true rfl) (Nat.le_of_ble_eq_true rfl) (Nat.le_of_ble_eq_true rfl) dX3_init_6 (fun H hw hS => ?_)
  obtain ⟨p1, ep, hm⟩ := lt_e hm
  rw [← ep]
  clear ep
  obtain ⟨x2, ev, hm⟩ := lt_e hm
  rw [← ev] at hw
  clear ev
  refine W.widen (k := 1) (n := 5) (Nat.le_of_ble_eq_true rfl) (Nat.le_of_ble_eq_true rfl) ?_
  have hcs : 1 ≤ rmX3_init.cells ∧ 5 ≤ rmX3_init.slots := ⟨Nat.le_of_ble_eq_true rfl, Nat.le_of_ble_eq_true rfl⟩
  obtain ⟨x3, h4, hm⟩ := bind_e hm
  refine pdX3_9 C hin h4 hw hS dX3_init_8 (fun H locs hw hS => ?_)
  refine lv_aload_n hx hb dX3_init_11 rfl (lv_at hl 0 rfl) ?_
  refine lv_iconst (v := 5) hx hb dX3_init_12 (by decide) ?_
  refine nwaX3 (v := 5) C hn hw hS (by decide) (Nat.le_of_ble_eq_true rfl) (Nat.le_of_ble_eq_true rfl) (Nat.le_of_ble_eq_true rfl) dX3_init_13 (fun H hw hS => ?_)
  obtain ⟨p5, ep, hm⟩ := lt_e hm
  rw [← ep]
  clear ep
  obtain ⟨x6, ev, hm⟩ := lt_e hm
  rw [← ev] at hw
  clear ev
  refine W.widen (k := 2) (n := 10) (Nat.le_of_ble_eq_true rfl) (Nat.le_of_ble_eq_true rfl) ?_
  have hcs : 2 ≤ rmX3_init.cells ∧ 10 ≤ rmX3_init.slots := ⟨Nat.le_of_ble_eq_true rfl, Nat.le_of_ble_eq_true rfl⟩
  obtain ⟨x7, h8, hm⟩ := bind_e hm
  refine pdX3_15 C hin h8 hw hS dX3_init_15 (fun H locs hw hS => ?_)
  refine lv_aload_n hx hb dX3_init_18 rfl (lv_at hl 0 rfl) ?_
  refine lv_iload_n hx hb dX3_init_19 rfl (lv_at hl 1 rfl) ?_
  obtain ⟨x9, h10, hm⟩ := bind_e hm
  refine pdX3_18 C hin h10 hw hS dX3_init_20 (fun H locs hw hS => ?_)
  refine lv_aload_n hx hb dX3_init_23 rfl (lv_at hl 0 rfl) ?_
  refine lv_iload_n hx hb dX3_init_24 rfl (lv_at hl 2 rfl) ?_
  obtain ⟨x11, h12, hm⟩ := bind_e hm
  refine pdX3_22 C hin h12 hw hS dX3_init_25 (fun H locs hw hS => ?_)
  refine lv_aload_n hx hb dX3_init_28 rfl (lv_at hl 0 rfl) ?_
  refine lv_iload_n hx hb dX3_init_29 rfl (lv_at hl 3 rfl) ?_
  refine lv_iconst (v := 5) hx hb dX3_init_30 (by decide) ?_
  refine mmX3_25 C hl.1 (Nat.le_trans (Nat.le_of_ble_eq_true rfl) hRf) (Nat.le_trans (Nat.le_of_ble_eq_true rfl) hRl) hcs dX3_init_31 ?_
  obtain ⟨x13, h14, hm⟩ := bind_e hm
  refine pdX3_31 C hin h14 hw hS dX3_init_34 (fun H locs hw hS => ?_)
  obtain rfl := Option.some.inj hm
  exact xret_v C hw hS dX3_init_37
theorem dX5_init_0 : decode cX5_init 0 = .ok (.aload_n 0, 1) := by decide +kernel
theorem dX5_init_1 : decode cX5_init 1 = .ok (.invokespecial 1, 3) := by decide +kernel
theorem dX5_init_4 : decode cX5_init 4 = .ok (.aload_n 0, 1) := by decide +kernel
theorem dX5_init_5 : decode cX5_init 5 = .ok (.iload_n 1, 1) := by decide +kernel
theorem dX5_init_6 : decode cX5_init 6 = .ok (.putfield 7, 3) := by decide +kernel
theorem dX5_init_9 : decode cX5_init 9 = .ok (.aload_n 0, 1) := by decide +kernel
theorem dX5_init_10 : decode cX5_init 10 = .ok (.iconst 0, 1) := by decide +kernel
theorem dX5_init_11 : decode cX5_init 11 = .ok (.iload_n 2, 1) := by decide +kernel
theorem dX5_init_12 : decode cX5_init 12 = .ok (.invokestatic 13, 3) := by decide +kernel
theorem dX5_init_15 : decode cX5_init 15 = .ok (.newarray .int, 2) := by decide +kernel
theorem dX5_init_17 : decode cX5_init 17 = .ok (.putfield 19, 3) := by decide +kernel
theorem dX5_init_20 : decode cX5_init 20 = .ok (.return_, 1) := by decide +kernel
theorem pdX5_7 {p : Program} {l : Launch} {e : Env} {R : Room} {s : State} {m : MethodId} {args : Array Value} {below : List Frame} {meth : Method} {c : Code} {H : Heap} {locs : List Loc} {cells slots : Nat} {Q : State → Prop} {cc : ByteArray} {pc nL : Nat} {ls : Array Slot} {rest : List Value} {ret : Option FieldType}  {G : xG} {β : Nat} {D : Nat → Prop} {x x' : XS} {a : Nat} {v : Int32} (C : Cx p s m args meth c RX5 cc nL ret (KK G)) (hin : meth.name = "<init>") (h : dPut x a 5 0 (.int v) = some x') (hw : CW β D G x H) (hS : va_S D s.heap H locs) (hd : decode cc pc = .ok (.putfield 7, 3)) (kk : ∀ (H1 : Heap) (locs1 : List Loc), CW β D G x' H1 → va_S D s.heap H1 locs1 → W p l e R s m args below meth c H1 locs1 cells slots Q (F0 m (pc + 3) ls (rest))) : W p l e R s m args below meth c H locs cells slots Q (F0 m pc ls (.int v :: .ref a :: rest)) := by
  obtain ⟨fs, h1, h2, rfl⟩ := dPut_e h
  exact x_putF (ci := 5) (fs := fs) C.1 C.2.1 C.2.2.2.2.1 iwX5 tyX5 tyX5_ok nmX5 C.2.2.2.1 C.K.1 hS (hw.2.2.2.1 a _ h1).2.2.2 (hw.2.2.2.1 a _ h1).1 rfl 0 (by decide) (C.2.2.2.2.1 (.fieldLink RX5 7 RX5 "sort" "I") (tg 860 (by decide +kernel) rfl)) (fun _ h9 => h9) rfl hin rfl (ty := .int) (by decide +kernel) rfl rfl h2 hd (fun H1 locs1 hat ho hS => kk H1 locs1 (hw.setD h1 hat ho) hS)
theorem mmX5_13 {p : Program} {l : Launch} {e : Env} {R : Room} {s : State} {m : MethodId} {args : Array Value} {below : List Frame} {meth : Method} {c : Code} {H : Heap} {locs : List Loc} {cells slots : Nat} {Q : State → Prop} {cc : ByteArray} {pc nL : Nat} {ls : Array Slot} {rest : List Value} {ret : Option FieldType} {G : xG} {a b : Int32} (C : Cx p s m args meth c RX5 cc nL ret (KK G)) (hsz : ls.size = nL) (hR : 1 ≤ R.frames) (hR2 : (rest.map fun v => v.category).sum + 13 ≤ R.locals) (hcs : cells ≤ R.cells ∧ slots ≤ R.slots) (hd : decode cc pc = .ok (.invokestatic 13, 3)) (kk : W p l e R s m args below meth c H locs cells slots Q (F0 m (pc + 3) ls (.int (imax a b) :: rest))) : W p l e R s m args below meth c H locs cells slots Q (F0 m pc ls (.int b :: .int a :: rest)) :=
  va_mmax C.1 C.2.1 (C.2.2.1.trans hsz.symm) C.2.2.2.1 (C.2.2.2.2.1 (.methodLink RX5 13 Lib.Math.max.name) (tg 859 (by decide +kernel) rfl)) (C.2.2.2.2.1 (.static Lib.Math.max.name) (tg 549 (by decide +kernel) rfl)) (C.2.2.2.2.1 (.initialized "java/lang/Math") (tg 12 (by decide +kernel) rfl)) (C.2.2.2.2.1 (.code Lib.Math.max.name Lib.Math.max.code 2 (some .int)) (tg 550 (by decide +kernel) rfl)) hR hR2 hcs.1 hcs.2 hd kk
theorem nwaX5 {p : Program} {l : Launch} {e : Env} {R : Room} {s : State} {m : MethodId} {args : Array Value} {below : List Frame} {meth : Method} {c : Code} {H : Heap} {locs : List Loc} {cells slots : Nat} {Q : State → Prop} {cc : ByteArray} {pc nL : Nat} {ls : Array Slot} {rest : List Value} {ret : Option FieldType}  {G : xG} {β : Nat} {D : Nat → Prop} {x : XS} {v : Int32} (C : Cx p s m args meth c RX5 cc nL ret (KK G)) (hn : ∀ q, s.heap.size ≤ q → D q) (hw : CW β D G x H) (hS : va_S D s.heap H locs) (h0 : ¬ v < 0) (hc1 : cells + 1 ≤ R.cells) (hc2 : slots + v.toNatClampNeg ≤ R.slots) (hc3 : v.toNatClampNeg ≤ 1000) (hd : decode cc pc = .ok (.newarray .int, 2)) (kk : ∀ (H1 : Heap), CW β D G (xsN x (.inr (v.toNatClampNeg, fun _ => 0))) H1 → va_S D s.heap H1 locs → W p l e R s m args below meth c H1 locs (cells + 1) (slots + v.toNatClampNeg) Q (F0 m (pc + 2) ls (.ref x.2.2.2.2 :: rest))) : W p l e R s m args below meth c H locs cells slots Q (F0 m pc ls (.int v :: rest)) := by
  refine x_newa (G := G) (cl := vwCl) C.1 C.2.1 (C.2.2.2.2.1 (.arrayClass .int) (tg 60 (by decide +kernel) rfl)) C.K hS h0 rfl (by show _ * 4 ≤ _; omega) hc1 hc2 hd (fun H1 hat ho hS1 => ?_)
  rw [hw.1]
  exact kk H1 (hw.setN (hn _ hS.1) hat ho (by have := (hw.2.2.1 26 (by decide)).lt; exact Nat.succ_le_of_lt this)) hS1
theorem pdX5_19 {p : Program} {l : Launch} {e : Env} {R : Room} {s : State} {m : MethodId} {args : Array Value} {below : List Frame} {meth : Method} {c : Code} {H : Heap} {locs : List Loc} {cells slots : Nat} {Q : State → Prop} {cc : ByteArray} {pc nL : Nat} {ls : Array Slot} {rest : List Value} {ret : Option FieldType}  {G : xG} {β : Nat} {D : Nat → Prop} {x x' : XS} {a : Nat} {v : Nat} (C : Cx p s m args meth c RX5 cc nL ret (KK G)) (hin : meth.name = "<init>") (h : dPut x a 5 1 (.ref v) = some x') (hw : CW β D G x H) (hS : va_S D s.heap H locs) (hd : decode cc pc = .ok (.putfield 19, 3)) (kk : ∀ (H1 : Heap) (locs1 : List Loc), CW β D G x' H1 → va_S D s.heap H1 locs1 → W p l e R s m args below meth c H1 locs1 cells slots Q (F0 m (pc + 3) ls (rest))) : W p l e R s m args below meth c H locs cells slots Q (F0 m pc ls (.ref v :: .ref a :: rest)) := by
  obtain ⟨fs, h1, h2, rfl⟩ := dPut_e h
  exact x_putF (ci := 5) (fs := fs) C.1 C.2.1 C.2.2.2.2.1 iwX5 tyX5 tyX5_ok nmX5 C.2.2.2.1 C.K.1 hS (hw.2.2.2.1 a _ h1).2.2.2 (hw.2.2.2.1 a _ h1).1 rfl 1 (by decide) (C.2.2.2.2.1 (.fieldLink RX5 19 RX5 "items" "[I") (tg 862 (by decide +kernel) rfl)) (fun _ h9 => h9) rfl hin rfl (ty := (.array .int)) (by decide +kernel) rfl rfl h2 hd (fun H1 locs1 hat ho hS => kk H1 locs1 (hw.setD h1 hat ho) hS)
def fX5_init (x : XS) (a0 : Nat) (a1 : Int32) (a2 : Int32) : Option (XS) := Option.bind (dPut x a0 5 0 (.int a1)) fun x1 => if ¬ (imax 0 a2) < 0 ∧ (imax 0 a2).toNatClampNeg ≤ 40 then lt x1.2.2.2.2 fun p3 => lt (xsN x1 (.inr ((imax 0 a2).toNatClampNeg, fun _ => 0))) fun x4 => Option.bind (dPut x4 a0 5 1 (.ref p3)) fun x6 => some x6 else none
abbrev rmX5_init : Room := { frames := 1, cells := 1, slots := 40, locals := 21 }
set_option maxHeartbeats 4000000 in
set_option maxRecDepth 100000 in
theorem kX5_init {l : Launch} {G : xG} {β : Nat} {D : Nat → Prop} {x x' : XS} {a0 : Nat} {a1 : Int32} {a2 : Int32} (hn : ∀ q, x.2.2.2.2 ≤ q → D q) (hm : fX5_init x a0 a1 a2 = some x') : Met l yX5_init (.code yX5_init cX5_init 3 none :: GT) rmX5_init (PcW [.ref a0, .int a1, .int a2] (CW β D G x) (KK G)) (QcW D none (CW β D G x')) 1 40 D := by
  unfold fX5_init at hm
  refine xproI (own := RX5) (by decide +kernel) rfl (Nat.le_of_ble_eq_true rfl) ?_
  intro p e s m args below meth c C hin hw ls hl
  have hx := C.1
  have hb := C.2.1
  have ho := C.2.2.2.1
  have hts := C.2.2.2.2.1
  have hf : Fz D G s.heap := hw.2.2.2.2
  have hn : ∀ q, s.heap.size ≤ q → D q := fun q h => hn q (by rw [← hw.1]; exact h)
  have hS : va_S D s.heap s.heap [] := va_S.rf
  have hl : lv_has ls 3 [(0, .ref a0), (1, .int a1), (2, .int a2)] := hl
  have hRf : 1 ≤ rmX5_init.frames := Nat.le_refl _
  have hRl : 21 ≤ rmX5_init.locals := Nat.le_refl _
  have hcs : 0 ≤ rmX5_init.cells ∧ 0 ≤ rmX5_init.slots := ⟨Nat.zero_le _, Nat.zero_le _⟩
  refine lv_aload_n hx hb dX5_init_0 rfl (lv_at hl 0 rfl) ?_
  refine W.objInit hx hb ho (hts (.methodLink RX5 1 objectInit) (tg 858 (by decide +kernel) rfl)) (hts (.instanceMethod objectInit) (tg 25 (by decide +kernel) rfl)) (hts (.code objectInit ⟨#[0xb1]⟩ 1 none) (tg 26 (by decide +kernel) rfl)) rfl (by rw [C.2.2.1]; exact hl.1) rfl dX5_init_1 (Nat.le_trans (Nat.le_of_ble_eq_true rfl) hRf) (Nat.le_trans (Nat.le_of_ble_eq_true rfl) hRl) ?_
  refine W.eq (g2 := F0 m 4 ls []) rfl ?_
  refine lv_aload_n hx hb dX5_init_4 rfl (lv_at hl 0 rfl) ?_
  refine lv_iload_n hx hb dX5_init_5 rfl (lv_at hl 1 rfl) ?_
  obtain ⟨x1, h2, hm⟩ := bind_e hm
  refine pdX5_7 C hin h2 hw hS dX5_init_6 (fun H locs hw hS => ?_)
  refine lv_aload_n hx hb dX5_init_9 rfl (lv_at hl 0 rfl) ?_
  refine lv_iconst (v := 0) hx hb dX5_init_10 (by decide) ?_
  refine lv_iload_n hx hb dX5_init_11 rfl (lv_at hl 2 rfl) ?_
  refine mmX5_13 C hl.1 (Nat.le_trans (Nat.le_of_ble_eq_true rfl) hRf) (Nat.le_trans (Nat.le_of_ble_eq_true rfl) hRl) hcs dX5_init_12 ?_
  obtain ⟨h5, hm⟩ := chk_e hm
  refine nwaX5 (v := imax 0 a2) C hn hw hS h5.1 (Nat.le_of_ble_eq_true rfl) (by have := h5.2; show 0 + _ ≤ 40; omega) (by have := h5.2; omega) dX5_init_15 (fun H hw hS => ?_)
  obtain ⟨p3, ep, hm⟩ := lt_e hm
  rw [← ep]
  clear ep
  obtain ⟨x4, ev, hm⟩ := lt_e hm
  rw [← ev] at hw
  clear ev
  refine W.widen (k := 1) (n := 40) (Nat.le_of_ble_eq_true rfl) (by have := h5.2; show 0 + _ ≤ 40; omega) ?_
  have hcs : 1 ≤ rmX5_init.cells ∧ 40 ≤ rmX5_init.slots := ⟨Nat.le_of_ble_eq_true rfl, Nat.le_of_ble_eq_true rfl⟩
  obtain ⟨x6, h7, hm⟩ := bind_e hm
  refine pdX5_19 C hin h7 hw hS dX5_init_17 (fun H locs hw hS => ?_)
  obtain rfl := Option.some.inj hm
  exact xret_v C hw hS dX5_init_20
theorem dX7_init_0 : decode cX7_init 0 = .ok (.aload_n 0, 1) := by decide +kernel
theorem dX7_init_1 : decode cX7_init 1 = .ok (.invokespecial 3, 3) := by decide +kernel
theorem dX7_init_4 : decode cX7_init 4 = .ok (.aload_n 0, 1) := by decide +kernel
theorem dX7_init_5 : decode cX7_init 5 = .ok (.iconst 3, 1) := by decide +kernel
theorem dX7_init_6 : decode cX7_init 6 = .ok (.newarray .int, 2) := by decide +kernel
theorem dX7_init_8 : decode cX7_init 8 = .ok (.putfield 9, 3) := by decide +kernel
theorem dX7_init_11 : decode cX7_init 11 = .ok (.aload_n 0, 1) := by decide +kernel
theorem dX7_init_12 : decode cX7_init 12 = .ok (.bipush 40, 2) := by decide +kernel
theorem dX7_init_14 : decode cX7_init 14 = .ok (.newarray .int, 2) := by decide +kernel
theorem dX7_init_16 : decode cX7_init 16 = .ok (.putfield 15, 3) := by decide +kernel
theorem dX7_init_19 : decode cX7_init 19 = .ok (.aload_n 0, 1) := by decide +kernel
theorem dX7_init_20 : decode cX7_init 20 = .ok (.iconst 0, 1) := by decide +kernel
theorem dX7_init_21 : decode cX7_init 21 = .ok (.putfield 18, 3) := by decide +kernel
theorem dX7_init_24 : decode cX7_init 24 = .ok (.aload_n 0, 1) := by decide +kernel
theorem dX7_init_25 : decode cX7_init 25 = .ok (.aload_n 1, 1) := by decide +kernel
theorem dX7_init_26 : decode cX7_init 26 = .ok (.putfield 22, 3) := by decide +kernel
theorem dX7_init_29 : decode cX7_init 29 = .ok (.aload_n 2, 1) := by decide +kernel
theorem dX7_init_30 : decode cX7_init 30 = .ok (.iconst 0, 1) := by decide +kernel
theorem dX7_init_31 : decode cX7_init 31 = .ok (.aload_n 0, 1) := by decide +kernel
theorem dX7_init_32 : decode cX7_init 32 = .ok (.getfield 9, 3) := by decide +kernel
theorem dX7_init_35 : decode cX7_init 35 = .ok (.iconst 0, 1) := by decide +kernel
theorem dX7_init_36 : decode cX7_init 36 = .ok (.iconst 3, 1) := by decide +kernel
theorem dX7_init_37 : decode cX7_init 37 = .ok (.invokestatic 25, 3) := by decide +kernel
theorem dX7_init_40 : decode cX7_init 40 = .ok (.return_, 1) := by decide +kernel
theorem nwaX7 {p : Program} {l : Launch} {e : Env} {R : Room} {s : State} {m : MethodId} {args : Array Value} {below : List Frame} {meth : Method} {c : Code} {H : Heap} {locs : List Loc} {cells slots : Nat} {Q : State → Prop} {cc : ByteArray} {pc nL : Nat} {ls : Array Slot} {rest : List Value} {ret : Option FieldType}  {G : xG} {β : Nat} {D : Nat → Prop} {x : XS} {v : Int32} (C : Cx p s m args meth c RX7 cc nL ret (KK G)) (hn : ∀ q, s.heap.size ≤ q → D q) (hw : CW β D G x H) (hS : va_S D s.heap H locs) (h0 : ¬ v < 0) (hc1 : cells + 1 ≤ R.cells) (hc2 : slots + v.toNatClampNeg ≤ R.slots) (hc3 : v.toNatClampNeg ≤ 1000) (hd : decode cc pc = .ok (.newarray .int, 2)) (kk : ∀ (H1 : Heap), CW β D G (xsN x (.inr (v.toNatClampNeg, fun _ => 0))) H1 → va_S D s.heap H1 locs → W p l e R s m args below meth c H1 locs (cells + 1) (slots + v.toNatClampNeg) Q (F0 m (pc + 2) ls (.ref x.2.2.2.2 :: rest))) : W p l e R s m args below meth c H locs cells slots Q (F0 m pc ls (.int v :: rest)) := by
  refine x_newa (G := G) (cl := vwCl) C.1 C.2.1 (C.2.2.2.2.1 (.arrayClass .int) (tg 60 (by decide +kernel) rfl)) C.K hS h0 rfl (by show _ * 4 ≤ _; omega) hc1 hc2 hd (fun H1 hat ho hS1 => ?_)
  rw [hw.1]
  exact kk H1 (hw.setN (hn _ hS.1) hat ho (by have := (hw.2.2.1 26 (by decide)).lt; exact Nat.succ_le_of_lt this)) hS1
theorem pdX7_9 {p : Program} {l : Launch} {e : Env} {R : Room} {s : State} {m : MethodId} {args : Array Value} {below : List Frame} {meth : Method} {c : Code} {H : Heap} {locs : List Loc} {cells slots : Nat} {Q : State → Prop} {cc : ByteArray} {pc nL : Nat} {ls : Array Slot} {rest : List Value} {ret : Option FieldType}  {G : xG} {β : Nat} {D : Nat → Prop} {x x' : XS} {a : Nat} {v : Nat} (C : Cx p s m args meth c RX7 cc nL ret (KK G)) (hin : meth.name = "<init>") (h : dPut x a 7 1 (.ref v) = some x') (hw : CW β D G x H) (hS : va_S D s.heap H locs) (hd : decode cc pc = .ok (.putfield 9, 3)) (kk : ∀ (H1 : Heap) (locs1 : List Loc), CW β D G x' H1 → va_S D s.heap H1 locs1 → W p l e R s m args below meth c H1 locs1 cells slots Q (F0 m (pc + 3) ls (rest))) : W p l e R s m args below meth c H locs cells slots Q (F0 m pc ls (.ref v :: .ref a :: rest)) := by
  obtain ⟨fs, h1, h2, rfl⟩ := dPut_e h
  exact x_putF (ci := 7) (fs := fs) C.1 C.2.1 C.2.2.2.2.1 iwX7 tyX7 tyX7_ok nmX7 C.2.2.2.1 C.K.1 hS (hw.2.2.2.1 a _ h1).2.2.2 (hw.2.2.2.1 a _ h1).1 rfl 1 (by decide) (C.2.2.2.2.1 (.fieldLink RX7 9 RX7 "ends" "[I") (tg 330 (by decide +kernel) rfl)) (fun _ h9 => h9) rfl hin rfl (ty := (.array .int)) (by decide +kernel) rfl rfl h2 hd (fun H1 locs1 hat ho hS => kk H1 locs1 (hw.setD h1 hat ho) hS)
theorem pdX7_15 {p : Program} {l : Launch} {e : Env} {R : Room} {s : State} {m : MethodId} {args : Array Value} {below : List Frame} {meth : Method} {c : Code} {H : Heap} {locs : List Loc} {cells slots : Nat} {Q : State → Prop} {cc : ByteArray} {pc nL : Nat} {ls : Array Slot} {rest : List Value} {ret : Option FieldType}  {G : xG} {β : Nat} {D : Nat → Prop} {x x' : XS} {a : Nat} {v : Nat} (C : Cx p s m args meth c RX7 cc nL ret (KK G)) (hin : meth.name = "<init>") (h : dPut x a 7 2 (.ref v) = some x') (hw : CW β D G x H) (hS : va_S D s.heap H locs) (hd : decode cc pc = .ok (.putfield 15, 3)) (kk : ∀ (H1 : Heap) (locs1 : List Loc), CW β D G x' H1 → va_S D s.heap H1 locs1 → W p l e R s m args below meth c H1 locs1 cells slots Q (F0 m (pc + 3) ls (rest))) : W p l e R s m args below meth c H locs cells slots Q (F0 m pc ls (.ref v :: .ref a :: rest)) := by
  obtain ⟨fs, h1, h2, rfl⟩ := dPut_e h
  exact x_putF (ci := 7) (fs := fs) C.1 C.2.1 C.2.2.2.2.1 iwX7 tyX7 tyX7_ok nmX7 C.2.2.2.1 C.K.1 hS (hw.2.2.2.1 a _ h1).2.2.2 (hw.2.2.2.1 a _ h1).1 rfl 2 (by decide) (C.2.2.2.2.1 (.fieldLink RX7 15 RX7 "waiting" "[I") (tg 331 (by decide +kernel) rfl)) (fun _ h9 => h9) rfl hin rfl (ty := (.array .int)) (by decide +kernel) rfl rfl h2 hd (fun H1 locs1 hat ho hS => kk H1 locs1 (hw.setD h1 hat ho) hS)
theorem pdX7_22 {p : Program} {l : Launch} {e : Env} {R : Room} {s : State} {m : MethodId} {args : Array Value} {below : List Frame} {meth : Method} {c : Code} {H : Heap} {locs : List Loc} {cells slots : Nat} {Q : State → Prop} {cc : ByteArray} {pc nL : Nat} {ls : Array Slot} {rest : List Value} {ret : Option FieldType}  {G : xG} {β : Nat} {D : Nat → Prop} {x x' : XS} {a : Nat} {v : Nat} (C : Cx p s m args meth c RX7 cc nL ret (KK G)) (hin : meth.name = "<init>") (h : dPut x a 7 0 (.ref v) = some x') (hw : CW β D G x H) (hS : va_S D s.heap H locs) (hd : decode cc pc = .ok (.putfield 22, 3)) (kk : ∀ (H1 : Heap) (locs1 : List Loc), CW β D G x' H1 → va_S D s.heap H1 locs1 → W p l e R s m args below meth c H1 locs1 cells slots Q (F0 m (pc + 3) ls (rest))) : W p l e R s m args below meth c H locs cells slots Q (F0 m pc ls (.ref v :: .ref a :: rest)) := by
  obtain ⟨fs, h1, h2, rfl⟩ := dPut_e h
  exact x_putF (ci := 7) (fs := fs) C.1 C.2.1 C.2.2.2.2.1 iwX7 tyX7 tyX7_ok nmX7 C.2.2.2.1 C.K.1 hS (hw.2.2.2.1 a _ h1).2.2.2 (hw.2.2.2.1 a _ h1).1 rfl 0 (by decide) (C.2.2.2.2.1 (.fieldLink RX7 22 RX7 "code" "[I") (tg 329 (by decide +kernel) rfl)) (fun _ h9 => h9) rfl hin rfl (ty := (.array .int)) (by decide +kernel) rfl rfl h2 hd (fun H1 locs1 hat ho hS => kk H1 locs1 (hw.setD h1 hat ho) hS)
theorem cpX7_25_8D {p : Program} {l : Launch} {e : Env} {R : Room} {s : State} {m : MethodId} {args : Array Value} {below : List Frame} {meth : Method} {c : Code} {H : Heap} {locs : List Loc} {cells slots : Nat} {Q : State → Prop} {cc : ByteArray} {pc nL : Nat} {ls : Array Slot} {rest : List Value} {ret : Option FieldType}  {G : xG} {β : Nat} {D : Nat → Prop} {x x' : XS} {b : Nat} {sp dp n : Int32} (C : Cx p s m args meth c RX7 cc nL ret (KK G)) (h : cpFD x 8 3 b sp dp n = some x') (hw : CW β D G x H) (hS : va_S D s.heap H locs) (hsz : ls.size = nL) (hR : 1 ≤ R.frames) (hR2 : (rest.map fun v => v.category).sum + (nativeFrameWords "java/lang/System" "arraycopy" 5 + 11) ≤ R.locals) (hd : decode cc pc = .ok (.invokestatic 25, 3)) (kk : ∀ (H1 : Heap) (locs1 : List Loc), CW β D G x' H1 → va_S D s.heap H1 locs1 → W p l e R s m args below meth c H1 locs1 cells slots Q (F0 m (pc + 3) ls (rest))) : W p l e R s m args below meth c H locs cells slots Q (F0 m pc ls (.int n :: .int dp :: .ref b :: .int sp :: .ref (β + 8) :: rest)) := by
  obtain ⟨n1, g, hg, h1, h2, h3, h4, h5, rfl⟩ := cpFD_e h
  exact x_copyi C.1 C.2.1 (C.2.2.1.trans hsz.symm) C.2.2.2.1 (C.2.2.2.2.1 (.methodLink RX7 25 arraycopyName) (tg 328 (by decide +kernel) rfl)) (C.2.2.2.2.1 (.native arraycopyName) (tg 323 (by decide +kernel) rfl)) (C.2.2.2.2.1 (.static arraycopyName) (tg 322 (by decide +kernel) rfl)) (C.2.2.2.2.1 (.initialized "java/lang/System") (tg 13 (by decide +kernel) rfl)) C.K.1 hS 0 0 (hw.2.2.1 8 (by decide)) (hw.2.2.2.1 b _ hg).2.2.2 (hw.2.2.2.1 b _ hg).1 rfl rfl rfl h1 h2 h3 h4 h5 (fun _ _ => rfl) hR hR2 hd (fun H1 locs1 hat ho hS => kk H1 locs1 (hw.setD hg hat ho) hS)
def fX7_init (x : XS) (a0 : Nat) (a1 : Nat) : Option (XS) := lt x.2.2.2.2 fun p1 => lt (xsN x (.inr ((3 : Int32).toNatClampNeg, fun _ => 0))) fun x2 => Option.bind (dPut x2 a0 7 1 (.ref p1)) fun x3 => lt x3.2.2.2.2 fun p5 => lt (xsN x3 (.inr ((40 : Int32).toNatClampNeg, fun _ => 0))) fun x6 => Option.bind (dPut x6 a0 7 2 (.ref p5)) fun x7 => Option.bind (dPut x7 a0 7 3 (.int 0)) fun x9 => Option.bind (dPut x9 a0 7 0 (.ref a1)) fun x11 => Option.bind (dP x11 a0 7 1) fun v13 => Option.bind (cpFD x11 8 3 v13 0 0 3) fun x15 => some x15
abbrev rmX7_init : Room := { frames := 1, cells := 2, slots := 43, locals := 40 }
set_option maxHeartbeats 4000000 in
set_option maxRecDepth 100000 in
theorem kX7_init {l : Launch} {G : xG} {β : Nat} {D : Nat → Prop} {x x' : XS} {a0 : Nat} {a1 : Nat} (hn : ∀ q, x.2.2.2.2 ≤ q → D q) (hm : fX7_init x a0 a1 = some x') : Met l yX7_init (.code yX7_init cX7_init 3 none :: GT) rmX7_init (PcW [.ref a0, .ref a1, .ref (β + 8)] (CW β D G x) (KK G)) (QcW D none (CW β D G x')) 2 43 D := by
  unfold fX7_init at hm
  refine xproI (own := RX7) (by decide +kernel) rfl (Nat.le_of_ble_eq_true rfl) ?_
  intro p e s m args below meth c C hin hw ls hl
  have hx := C.1
  have hb := C.2.1
  have ho := C.2.2.2.1
  have hts := C.2.2.2.2.1
  have hf : Fz D G s.heap := hw.2.2.2.2
  have hn : ∀ q, s.heap.size ≤ q → D q := fun q h => hn q (by rw [← hw.1]; exact h)
  have hS : va_S D s.heap s.heap [] := va_S.rf
  have hl : lv_has ls 3 [(0, .ref a0), (1, .ref a1), (2, .ref (β + 8))] := hl
  have hRf : 1 ≤ rmX7_init.frames := Nat.le_refl _
  have hRl : 40 ≤ rmX7_init.locals := Nat.le_refl _
  have hcs : 0 ≤ rmX7_init.cells ∧ 0 ≤ rmX7_init.slots := ⟨Nat.zero_le _, Nat.zero_le _⟩
  refine lv_aload_n hx hb dX7_init_0 rfl (lv_at hl 0 rfl) ?_
  refine W.objInit hx hb ho (hts (.methodLink RX7 3 objectInit) (tg 327 (by decide +kernel) rfl)) (hts (.instanceMethod objectInit) (tg 25 (by decide +kernel) rfl)) (hts (.code objectInit ⟨#[0xb1]⟩ 1 none) (tg 26 (by decide +kernel) rfl)) rfl (by rw [C.2.2.1]; exact hl.1) rfl dX7_init_1 (Nat.le_trans (Nat.le_of_ble_eq_true rfl) hRf) (Nat.le_trans (Nat.le_of_ble_eq_true rfl) hRl) ?_
  refine W.eq (g2 := F0 m 4 ls []) rfl ?_
  refine lv_aload_n hx hb dX7_init_4 rfl (lv_at hl 0 rfl) ?_
  refine lv_iconst (v := 3) hx hb dX7_init_5 (by decide) ?_
  refine nwaX7 (v := 3) C hn hw hS (by decide) (Nat.le_of_ble_eq_true rfl) (Nat.le_of_ble_eq_true rfl) (Nat.le_of_ble_eq_true rfl) dX7_init_6 (fun H hw hS => ?_)
  obtain ⟨p1, ep, hm⟩ := lt_e hm
  rw [← ep]
  clear ep
  obtain ⟨x2, ev, hm⟩ := lt_e hm
  rw [← ev] at hw
  clear ev
  refine W.widen (k := 1) (n := 3) (Nat.le_of_ble_eq_true rfl) (Nat.le_of_ble_eq_true rfl) ?_
  have hcs : 1 ≤ rmX7_init.cells ∧ 3 ≤ rmX7_init.slots := ⟨Nat.le_of_ble_eq_true rfl, Nat.le_of_ble_eq_true rfl⟩
  obtain ⟨x3, h4, hm⟩ := bind_e hm
  refine pdX7_9 C hin h4 hw hS dX7_init_8 (fun H locs hw hS => ?_)
  refine lv_aload_n hx hb dX7_init_11 rfl (lv_at hl 0 rfl) ?_
  refine lv_bipush (v := 40) hx hb dX7_init_12 (by decide) ?_
  refine nwaX7 (v := 40) C hn hw hS (by decide) (Nat.le_of_ble_eq_true rfl) (Nat.le_of_ble_eq_true rfl) (Nat.le_of_ble_eq_true rfl) dX7_init_14 (fun H hw hS => ?_)
  obtain ⟨p5, ep, hm⟩ := lt_e hm
  rw [← ep]
  clear ep
  obtain ⟨x6, ev, hm⟩ := lt_e hm
  rw [← ev] at hw
  clear ev
  refine W.widen (k := 2) (n := 43) (Nat.le_of_ble_eq_true rfl) (Nat.le_of_ble_eq_true rfl) ?_
  have hcs : 2 ≤ rmX7_init.cells ∧ 43 ≤ rmX7_init.slots := ⟨Nat.le_of_ble_eq_true rfl, Nat.le_of_ble_eq_true rfl⟩
  obtain ⟨x7, h8, hm⟩ := bind_e hm
  refine pdX7_15 C hin h8 hw hS dX7_init_16 (fun H locs hw hS => ?_)
  refine lv_aload_n hx hb dX7_init_19 rfl (lv_at hl 0 rfl) ?_
  refine lv_iconst (v := 0) hx hb dX7_init_20 (by decide) ?_
  obtain ⟨x9, h10, hm⟩ := bind_e hm
  refine pdX7_18 C h10 hw hS dX7_init_21 (fun H locs hw hS => ?_)
  refine lv_aload_n hx hb dX7_init_24 rfl (lv_at hl 0 rfl) ?_
  refine lv_aload_n hx hb dX7_init_25 rfl (lv_at hl 1 rfl) ?_
  obtain ⟨x11, h12, hm⟩ := bind_e hm
  refine pdX7_22 C hin h12 hw hS dX7_init_26 (fun H locs hw hS => ?_)
  refine lv_aload_n hx hb dX7_init_29 rfl (lv_at hl 2 rfl) ?_
  refine lv_iconst (v := 0) hx hb dX7_init_30 (by decide) ?_
  refine lv_aload_n hx hb dX7_init_31 rfl (lv_at hl 0 rfl) ?_
  obtain ⟨v13, h14, hm⟩ := bind_e hm
  refine gdX7_9 C h14 hw dX7_init_32 ?_
  refine lv_iconst (v := 0) hx hb dX7_init_35 (by decide) ?_
  refine lv_iconst (v := 3) hx hb dX7_init_36 (by decide) ?_
  obtain ⟨x15, h16, hm⟩ := bind_e hm
  refine cpX7_25_8D C h16 hw hS hl.1 (Nat.le_trans (Nat.le_of_ble_eq_true rfl) hRf) (Nat.le_trans (Nat.le_of_ble_eq_true rfl) hRl) dX7_init_37 (fun H locs hw hS => ?_)
  obtain rfl := Option.some.inj hm
  exact xret_v C hw hS dX7_init_40
theorem dJ7_copyOf_59c91_0 : decode cJ7_copyOf_59c91 0 = .ok (.iload_n 1, 1) := by decide +kernel
theorem dJ7_copyOf_59c91_1 : decode cJ7_copyOf_59c91 1 = .ok (.aload_n 0, 1) := by decide +kernel
theorem dJ7_copyOf_59c91_2 : decode cJ7_copyOf_59c91 2 = .ok (.arraylength, 1) := by decide +kernel
theorem dJ7_copyOf_59c91_3 : decode cJ7_copyOf_59c91 3 = .ok (.if_icmp .ne 11, 3) := by decide +kernel
theorem dJ7_copyOf_59c91_6 : decode cJ7_copyOf_59c91 6 = .ok (.aload_n 0, 1) := by decide +kernel
theorem dJ7_copyOf_59c91_7 : decode cJ7_copyOf_59c91 7 = .ok (.invokevirtual 316, 3) := by decide +kernel
theorem dJ7_copyOf_59c91_14 : decode cJ7_copyOf_59c91 14 = .ok (.iload_n 1, 1) := by decide +kernel
theorem dJ7_copyOf_59c91_15 : decode cJ7_copyOf_59c91 15 = .ok (.newarray .int, 2) := by decide +kernel
theorem dJ7_copyOf_59c91_17 : decode cJ7_copyOf_59c91 17 = .ok (.astore_n 2, 1) := by decide +kernel
theorem dJ7_copyOf_59c91_18 : decode cJ7_copyOf_59c91 18 = .ok (.aload_n 0, 1) := by decide +kernel
theorem dJ7_copyOf_59c91_19 : decode cJ7_copyOf_59c91 19 = .ok (.iconst 0, 1) := by decide +kernel
theorem dJ7_copyOf_59c91_20 : decode cJ7_copyOf_59c91 20 = .ok (.aload_n 2, 1) := by decide +kernel
theorem dJ7_copyOf_59c91_21 : decode cJ7_copyOf_59c91 21 = .ok (.iconst 0, 1) := by decide +kernel
theorem dJ7_copyOf_59c91_22 : decode cJ7_copyOf_59c91 22 = .ok (.aload_n 0, 1) := by decide +kernel
theorem dJ7_copyOf_59c91_23 : decode cJ7_copyOf_59c91 23 = .ok (.arraylength, 1) := by decide +kernel
theorem dJ7_copyOf_59c91_24 : decode cJ7_copyOf_59c91 24 = .ok (.iload_n 1, 1) := by decide +kernel
theorem dJ7_copyOf_59c91_25 : decode cJ7_copyOf_59c91 25 = .ok (.invokestatic 304, 3) := by decide +kernel
theorem dJ7_copyOf_59c91_28 : decode cJ7_copyOf_59c91 28 = .ok (.invokestatic 150, 3) := by decide +kernel
theorem dJ7_copyOf_59c91_31 : decode cJ7_copyOf_59c91 31 = .ok (.aload_n 2, 1) := by decide +kernel
theorem dJ7_copyOf_59c91_32 : decode cJ7_copyOf_59c91 32 = .ok (.areturn, 1) := by decide +kernel
theorem nwaJ7 {p : Program} {l : Launch} {e : Env} {R : Room} {s : State} {m : MethodId} {args : Array Value} {below : List Frame} {meth : Method} {c : Code} {H : Heap} {locs : List Loc} {cells slots : Nat} {Q : State → Prop} {cc : ByteArray} {pc nL : Nat} {ls : Array Slot} {rest : List Value} {ret : Option FieldType}  {G : xG} {β : Nat} {D : Nat → Prop} {x : XS} {v : Int32} (C : Cx p s m args meth c RJ7 cc nL ret (KK G)) (hn : ∀ q, s.heap.size ≤ q → D q) (hw : CW β D G x H) (hS : va_S D s.heap H locs) (h0 : ¬ v < 0) (hc1 : cells + 1 ≤ R.cells) (hc2 : slots + v.toNatClampNeg ≤ R.slots) (hc3 : v.toNatClampNeg ≤ 1000) (hd : decode cc pc = .ok (.newarray .int, 2)) (kk : ∀ (H1 : Heap), CW β D G (xsN x (.inr (v.toNatClampNeg, fun _ => 0))) H1 → va_S D s.heap H1 locs → W p l e R s m args below meth c H1 locs (cells + 1) (slots + v.toNatClampNeg) Q (F0 m (pc + 2) ls (.ref x.2.2.2.2 :: rest))) : W p l e R s m args below meth c H locs cells slots Q (F0 m pc ls (.int v :: rest)) := by
  refine x_newa (G := G) (cl := vwCl) C.1 C.2.1 (C.2.2.2.2.1 (.arrayClass .int) (tg 60 (by decide +kernel) rfl)) C.K hS h0 rfl (by show _ * 4 ≤ _; omega) hc1 hc2 hd (fun H1 hat ho hS1 => ?_)
  rw [hw.1]
  exact kk H1 (hw.setN (hn _ hS.1) hat ho (by have := (hw.2.2.1 26 (by decide)).lt; exact Nat.succ_le_of_lt this)) hS1
theorem mmJ7_304 {p : Program} {l : Launch} {e : Env} {R : Room} {s : State} {m : MethodId} {args : Array Value} {below : List Frame} {meth : Method} {c : Code} {H : Heap} {locs : List Loc} {cells slots : Nat} {Q : State → Prop} {cc : ByteArray} {pc nL : Nat} {ls : Array Slot} {rest : List Value} {ret : Option FieldType} {G : xG} {a b : Int32} (C : Cx p s m args meth c RJ7 cc nL ret (KK G)) (hsz : ls.size = nL) (hR : 1 ≤ R.frames) (hR2 : (rest.map fun v => v.category).sum + 13 ≤ R.locals) (hcs : cells ≤ R.cells ∧ slots ≤ R.slots) (hd : decode cc pc = .ok (.invokestatic 304, 3)) (kk : W p l e R s m args below meth c H locs cells slots Q (F0 m (pc + 3) ls (.int (imin a b) :: rest))) : W p l e R s m args below meth c H locs cells slots Q (F0 m pc ls (.int b :: .int a :: rest)) :=
  va_mmin C.1 C.2.1 (C.2.2.1.trans hsz.symm) C.2.2.2.1 (C.2.2.2.2.1 (.methodLink RJ7 304 Lib.Math.min.name) (tg 318 (by decide +kernel) rfl)) (C.2.2.2.2.1 (.static Lib.Math.min.name) (tg 319 (by decide +kernel) rfl)) (C.2.2.2.2.1 (.initialized "java/lang/Math") (tg 12 (by decide +kernel) rfl)) (C.2.2.2.2.1 (.code Lib.Math.min.name Lib.Math.min.code 2 (some .int)) (tg 320 (by decide +kernel) rfl)) hR hR2 hcs.1 hcs.2 hd kk
theorem cpJ7_150_7D {p : Program} {l : Launch} {e : Env} {R : Room} {s : State} {m : MethodId} {args : Array Value} {below : List Frame} {meth : Method} {c : Code} {H : Heap} {locs : List Loc} {cells slots : Nat} {Q : State → Prop} {cc : ByteArray} {pc nL : Nat} {ls : Array Slot} {rest : List Value} {ret : Option FieldType}  {G : xG} {β : Nat} {D : Nat → Prop} {x x' : XS} {b : Nat} {sp dp n : Int32} (C : Cx p s m args meth c RJ7 cc nL ret (KK G)) (h : cpFD x 7 160 b sp dp n = some x') (hw : CW β D G x H) (hS : va_S D s.heap H locs) (hsz : ls.size = nL) (hR : 1 ≤ R.frames) (hR2 : (rest.map fun v => v.category).sum + (nativeFrameWords "java/lang/System" "arraycopy" 5 + 11) ≤ R.locals) (hd : decode cc pc = .ok (.invokestatic 150, 3)) (kk : ∀ (H1 : Heap) (locs1 : List Loc), CW β D G x' H1 → va_S D s.heap H1 locs1 → W p l e R s m args below meth c H1 locs1 cells slots Q (F0 m (pc + 3) ls (rest))) : W p l e R s m args below meth c H locs cells slots Q (F0 m pc ls (.int n :: .int dp :: .ref b :: .int sp :: .ref (β + 7) :: rest)) := by
  obtain ⟨n1, g, hg, h1, h2, h3, h4, h5, rfl⟩ := cpFD_e h
  exact x_copyi C.1 C.2.1 (C.2.2.1.trans hsz.symm) C.2.2.2.1 (C.2.2.2.2.1 (.methodLink RJ7 150 arraycopyName) (tg 321 (by decide +kernel) rfl)) (C.2.2.2.2.1 (.native arraycopyName) (tg 323 (by decide +kernel) rfl)) (C.2.2.2.2.1 (.static arraycopyName) (tg 322 (by decide +kernel) rfl)) (C.2.2.2.2.1 (.initialized "java/lang/System") (tg 13 (by decide +kernel) rfl)) C.K.1 hS 0 0 (hw.2.2.1 7 (by decide)) (hw.2.2.2.1 b _ hg).2.2.2 (hw.2.2.2.1 b _ hg).1 rfl rfl rfl h1 h2 h3 h4 h5 (fun _ _ => rfl) hR hR2 hd (fun H1 locs1 hat ho hS => kk H1 locs1 (hw.setD hg hat ho) hS)
def fJ7_copyOf_59c91 (x : XS) (a2 : Int32) : Option (Option Nat × XS) := if a2 = 160 then none else if ¬ a2 < 0 ∧ a2.toNatClampNeg ≤ 160 then lt x.2.2.2.2 fun p1 => lt (xsN x (.inr (a2.toNatClampNeg, fun _ => 0))) fun x2 => Option.bind (cpFD x2 7 160 p1 0 0 (imin 160 a2)) fun x4 => some ((some p1), x4) else none
abbrev rmJ7_copyOf_59c91 : Room := { frames := 1, cells := 1, slots := 160, locals := 40 }
set_option maxHeartbeats 4000000 in
set_option maxRecDepth 100000 in
theorem kJ7_copyOf_59c91 {l : Launch} {G : xG} {β : Nat} {D : Nat → Prop} {x x' : XS} {a2 : Int32} {r : Option Nat} (hn : ∀ q, x.2.2.2.2 ≤ q → D q) (hm : fJ7_copyOf_59c91 x a2 = some (r, x')) : Met l yJ7_copyOf_59c91 (.code yJ7_copyOf_59c91 cJ7_copyOf_59c91 3 (some (.array .int)) :: GT) rmJ7_copyOf_59c91 (PcW [.ref (β + 7), .int a2] (CW β D G x) (KK G)) (QcW D (some (va_rf r)) (CW β D G x')) 1 160 D := by
  unfold fJ7_copyOf_59c91 at hm
  refine xpro (own := RJ7) (by decide +kernel) rfl (Nat.le_of_ble_eq_true rfl) ?_
  intro p e s m args below meth c C hw ls hl
  have hx := C.1
  have hb := C.2.1
  have ho := C.2.2.2.1
  have hts := C.2.2.2.2.1
  have hf : Fz D G s.heap := hw.2.2.2.2
  have hn : ∀ q, s.heap.size ≤ q → D q := fun q h => hn q (by rw [← hw.1]; exact h)
  have hS : va_S D s.heap s.heap [] := va_S.rf
  have hl : lv_has ls 3 [(0, .ref (β + 7)), (1, .int a2)] := hl
  have hRf : 1 ≤ rmJ7_copyOf_59c91.frames := Nat.le_refl _
  have hRl : 40 ≤ rmJ7_copyOf_59c91.locals := Nat.le_refl _
  have hcs : 0 ≤ rmJ7_copyOf_59c91.cells ∧ 0 ≤ rmJ7_copyOf_59c91.slots := ⟨Nat.zero_le _, Nat.zero_le _⟩
  refine lv_iload_n hx hb dJ7_copyOf_59c91_0 rfl (lv_at hl 1 rfl) ?_
  refine lv_aload_n hx hb dJ7_copyOf_59c91_1 rfl (lv_at hl 0 rfl) ?_
  refine anX_7 C hw dJ7_copyOf_59c91_2 ?_
  refine lv_icmp_ne (tgt := 14) hx hb dJ7_copyOf_59c91_3 (by decide) (fun cc => ?_) (fun cc => ?_)
  · replace hm := ite_n cc hm
    refine lv_iload_n hx hb dJ7_copyOf_59c91_14 rfl (lv_at hl 1 rfl) ?_
    obtain ⟨h3, hm⟩ := chk_e hm
    refine nwaJ7 (v := a2) C hn hw hS h3.1 (Nat.le_of_ble_eq_true rfl) (by have := h3.2; show 0 + _ ≤ 160; omega) (by have := h3.2; omega) dJ7_copyOf_59c91_15 (fun H hw hS => ?_)
    obtain ⟨p1, ep, hm⟩ := lt_e hm
    rw [← ep]
    clear ep
    obtain ⟨x2, ev, hm⟩ := lt_e hm
    rw [← ev] at hw
    clear ev
    refine W.widen (k := 1) (n := 160) (Nat.le_of_ble_eq_true rfl) (by have := h3.2; show 0 + _ ≤ 160; omega) ?_
    have hcs : 1 ≤ rmJ7_copyOf_59c91.cells ∧ 160 ≤ rmJ7_copyOf_59c91.slots := ⟨Nat.le_of_ble_eq_true rfl, Nat.le_of_ble_eq_true rfl⟩
    refine lv_astore_n (lv' := [(2, .ref p1), (0, .ref (β + 7)), (1, .int a2)]) hx hb dJ7_copyOf_59c91_17 rfl hl (by decide) rfl (fun ls hl => ?_)
    refine lv_aload_n hx hb dJ7_copyOf_59c91_18 rfl (lv_at hl 1 rfl) ?_
    refine lv_iconst (v := 0) hx hb dJ7_copyOf_59c91_19 (by decide) ?_
    refine lv_aload_n hx hb dJ7_copyOf_59c91_20 rfl (lv_at hl 0 rfl) ?_
    refine lv_iconst (v := 0) hx hb dJ7_copyOf_59c91_21 (by decide) ?_
    refine lv_aload_n hx hb dJ7_copyOf_59c91_22 rfl (lv_at hl 1 rfl) ?_
    refine anX_7 C hw dJ7_copyOf_59c91_23 ?_
    refine lv_iload_n hx hb dJ7_copyOf_59c91_24 rfl (lv_at hl 2 rfl) ?_
    refine mmJ7_304 C hl.1 (Nat.le_trans (Nat.le_of_ble_eq_true rfl) hRf) (Nat.le_trans (Nat.le_of_ble_eq_true rfl) hRl) hcs dJ7_copyOf_59c91_25 ?_
    obtain ⟨x4, h5, hm⟩ := bind_e hm
    refine cpJ7_150_7D C h5 hw hS hl.1 (Nat.le_trans (Nat.le_of_ble_eq_true rfl) hRf) (Nat.le_trans (Nat.le_of_ble_eq_true rfl) hRl) dJ7_copyOf_59c91_28 (fun H locs hw hS => ?_)
    refine lv_aload_n hx hb dJ7_copyOf_59c91_31 rfl (lv_at hl 0 rfl) ?_
    obtain ⟨rfl, rfl⟩ := inj2 hm
    exact xret_ar (v := (some p1)) C hw hS dJ7_copyOf_59c91_32
  · replace hm := ite_p cc hm
    refine lv_aload_n hx hb dJ7_copyOf_59c91_6 rfl (lv_at hl 0 rfl) ?_
    cases hm
theorem dX4_read_0 : decode cX4_read 0 = .ok (.aload_n 0, 1) := by decide +kernel
theorem dX4_read_1 : decode cX4_read 1 = .ok (.iconst 0, 1) := by decide +kernel
theorem dX4_read_2 : decode cX4_read 2 = .ok (.putfield 18, 3) := by decide +kernel
theorem dX4_read_5 : decode cX4_read 5 = .ok (.aload_n 0, 1) := by decide +kernel
theorem dX4_read_6 : decode cX4_read 6 = .ok (.getfield 22, 3) := by decide +kernel
theorem dX4_read_9 : decode cX4_read 9 = .ok (.invokevirtual 26, 3) := by decide +kernel
theorem dX4_read_12 : decode cX4_read 12 = .ok (.aload_n 0, 1) := by decide +kernel
theorem dX4_read_13 : decode cX4_read 13 = .ok (.bipush (-11), 2) := by decide +kernel
theorem dX4_read_15 : decode cX4_read 15 = .ok (.iconst 0, 1) := by decide +kernel
theorem dX4_read_16 : decode cX4_read 16 = .ok (.invokevirtual 31, 3) := by decide +kernel
theorem dX4_read_19 : decode cX4_read 19 = .ok (.ifCond .eq 35, 3) := by decide +kernel
theorem dX4_read_22 : decode cX4_read 22 = .ok (.aload_n 0, 1) := by decide +kernel
theorem dX4_read_23 : decode cX4_read 23 = .ok (.bipush (-12), 2) := by decide +kernel
theorem dX4_read_25 : decode cX4_read 25 = .ok (.iconst 1, 1) := by decide +kernel
theorem dX4_read_26 : decode cX4_read 26 = .ok (.invokevirtual 31, 3) := by decide +kernel
theorem dX4_read_29 : decode cX4_read 29 = .ok (.ifCond .eq 25, 3) := by decide +kernel
theorem dX4_read_32 : decode cX4_read 32 = .ok (.aload_n 0, 1) := by decide +kernel
theorem dX4_read_33 : decode cX4_read 33 = .ok (.bipush (-13), 2) := by decide +kernel
theorem dX4_read_35 : decode cX4_read 35 = .ok (.iconst 2, 1) := by decide +kernel
theorem dX4_read_36 : decode cX4_read 36 = .ok (.invokevirtual 31, 3) := by decide +kernel
theorem dX4_read_39 : decode cX4_read 39 = .ok (.ifCond .eq 15, 3) := by decide +kernel
theorem dX4_read_42 : decode cX4_read 42 = .ok (.aload_n 0, 1) := by decide +kernel
theorem dX4_read_43 : decode cX4_read 43 = .ok (.getfield 22, 3) := by decide +kernel
theorem dX4_read_46 : decode cX4_read 46 = .ok (.getfield 35, 3) := by decide +kernel
theorem dX4_read_49 : decode cX4_read 49 = .ok (.bipush (-35), 2) := by decide +kernel
theorem dX4_read_51 : decode cX4_read 51 = .ok (.if_icmp .eq 5, 3) := by decide +kernel
theorem dX4_read_54 : decode cX4_read 54 = .ok (.aconst_null, 1) := by decide +kernel
theorem dX4_read_55 : decode cX4_read 55 = .ok (.areturn, 1) := by decide +kernel
theorem dX4_read_56 : decode cX4_read 56 = .ok (.new 38, 3) := by decide +kernel
theorem dX4_read_59 : decode cX4_read 59 = .ok (.dup, 1) := by decide +kernel
theorem dX4_read_60 : decode cX4_read 60 = .ok (.aload_n 0, 1) := by decide +kernel
theorem dX4_read_61 : decode cX4_read 61 = .ok (.getfield 9, 3) := by decide +kernel
theorem dX4_read_64 : decode cX4_read 64 = .ok (.aload_n 0, 1) := by decide +kernel
theorem dX4_read_65 : decode cX4_read 65 = .ok (.getfield 18, 3) := by decide +kernel
theorem dX4_read_68 : decode cX4_read 68 = .ok (.invokestatic 40, 3) := by decide +kernel
theorem dX4_read_71 : decode cX4_read 71 = .ok (.aload_n 0, 1) := by decide +kernel
theorem dX4_read_72 : decode cX4_read 72 = .ok (.getfield 15, 3) := by decide +kernel
theorem dX4_read_75 : decode cX4_read 75 = .ok (.invokespecial 46, 3) := by decide +kernel
theorem dX4_read_78 : decode cX4_read 78 = .ok (.areturn, 1) := by decide +kernel
theorem sX4_26 {p : Program} {l : Launch} {e : Env} {R : Room} {s : State} {m : MethodId} {args : Array Value} {below : List Frame} {meth : Method} {c : Code} {H : Heap} {locs : List Loc} {cells slots : Nat} {Q : State → Prop} {cc : ByteArray} {pc nL : Nat} {ls : Array Slot} {rest : List Value} {ret : Option FieldType}  {G : xG} {β : Nat} {D : Nat → Prop} {x x' : XS} (C : Cx p s m args meth c RX4 cc nL ret (KK G)) (h : fX6_rewind x = some x') (hw : CW β D G x H) (hS : va_S D s.heap H locs) (hsz : ls.size = nL) (hW : (rest.map fun v => v.category).sum ≤ 8) (hR : 8 ≤ R.frames) (hR2 : 167 ≤ R.locals) (hcs : cells ≤ R.cells ∧ slots ≤ R.slots) (hd : decode cc pc = .ok (.invokevirtual 26, 3)) (kk : ∀ (H1 : Heap) (locs1 : List Loc), CW β D G x' H1 → va_S D s.heap H1 locs1 → W p l e R s m args below meth c H1 locs1 cells slots Q (F0 m (pc + 3) ls (rest))) : W p l e R s m args below meth c H locs cells slots Q (F0 m pc ls (.ref (β + 4) :: rest)) := by
  exact xcallV C (As := []) (rest := rest) (nA := 0) (ci := 6) (kX6_rewind h) (tg 216 (by decide +kernel) rfl) (tg 217 (by decide +kernel) rfl) (tg 218 (by decide +kernel) rfl) (tg 2 (by decide +kernel) rfl) (tg 219 (by decide +kernel) rfl) ⟨rfl, by decide +kernel, by decide +kernel, by decide +kernel⟩ rfl rfl rfl ⟨hR, hR2⟩ (hw.2.2.1 4 (by decide)) hw hS (fun _ q => q) rfl rfl hsz hW hd hcs (fun H1 locs1 hw hz hk hS => kk H1 locs1 hw hS)
theorem sX4_31 {p : Program} {l : Launch} {e : Env} {R : Room} {s : State} {m : MethodId} {args : Array Value} {below : List Frame} {meth : Method} {c : Code} {H : Heap} {locs : List Loc} {cells slots : Nat} {Q : State → Prop} {cc : ByteArray} {pc nL : Nat} {ls : Array Slot} {rest : List Value} {ret : Option FieldType}  {G : xG} {β : Nat} {D : Nat → Prop} {x x' : XS} {a1 : Int32} {a2 : Int32} {r : Bool} (C : Cx p s m args meth c RX4 cc nL ret (KK G)) (h : fX4_readPart x a1 a2 = some (r, x')) (hw : CW β D G x H) (hS : va_S D s.heap H locs) (hsz : ls.size = nL) (hW : (rest.map fun v => v.category).sum ≤ 8) (hR : 110 ≤ R.frames) (hR2 : 2613 ≤ R.locals) (hcs : cells ≤ R.cells ∧ slots ≤ R.slots) (hd : decode cc pc = .ok (.invokevirtual 31, 3)) (kk : ∀ (H1 : Heap) (locs1 : List Loc), CW β D G x' H1 → va_S D s.heap H1 locs1 → W p l e R s m args below meth c H1 locs1 cells slots Q (F0 m (pc + 3) ls (.int (bI r) :: rest))) : W p l e R s m args below meth c H locs cells slots Q (F0 m pc ls (.int a2 :: .int a1 :: .ref (β + 6) :: rest)) := by
  exact xcallV C (As := [.int a1, .int a2]) (rest := rest) (nA := 2) (ci := 4) (kX4_readPart h) (tg 262 (by decide +kernel) rfl) (tg 264 (by decide +kernel) rfl) (sg (List.mem_of_getElem? (i := 3) (by decide +kernel)) rfl) (tg 3 (by decide +kernel) rfl) (tg 265 (by decide +kernel) rfl) ⟨rfl, by decide +kernel, by decide +kernel, by decide +kernel⟩ rfl rfl rfl ⟨hR, hR2⟩ (hw.2.2.1 6 (by decide)) hw hS (fun _ q => q) rfl rfl hsz hW hd hcs (fun H1 locs1 hw hz hk hS => kk H1 locs1 hw hS)
theorem nwX4_38 {p : Program} {l : Launch} {e : Env} {R : Room} {s : State} {m : MethodId} {args : Array Value} {below : List Frame} {meth : Method} {c : Code} {H : Heap} {locs : List Loc} {cells slots : Nat} {Q : State → Prop} {cc : ByteArray} {pc nL : Nat} {ls : Array Slot} {rest : List Value} {ret : Option FieldType}  {G : xG} {β : Nat} {D : Nat → Prop} {x : XS} (C : Cx p s m args meth c RX4 cc nL ret (KK G)) (hn : ∀ q, s.heap.size ≤ q → D q) (hw : CW β D G x H) (hS : va_S D s.heap H locs) (hc1 : cells + 1 ≤ R.cells) (hc2 : slots + 4 ≤ R.slots) (hd : decode cc pc = .ok (.new 38, 3)) (kk : ∀ (H1 : Heap), CW β D G (xsN x (.inl (7, [.null, .null, .null, .int 0]))) H1 → va_S D s.heap H1 locs → W p l e R s m args below meth c H1 locs (cells + 1) (slots + 4) Q (F0 m (pc + 3) ls (.ref x.2.2.2.2 :: rest))) : W p l e R s m args below meth c H locs cells slots Q (F0 m pc ls (rest)) := by
  refine x_new (ci := 7) (fs := [.null, .null, .null, .int 0]) C.1 C.2.1 C.2.2.2.2.1 iwX7 tyX7 tyX7_ok C.2.2.2.1 (C.2.2.2.2.1 (.classLink RX4 38 RX7) (tg 306 (by decide +kernel) rfl)) (C.2.2.2.2.1 (.instantiable RX7 4) (tg 307 (by decide +kernel) rfl)) (C.2.2.2.2.1 (.initialized RX7) (tg 11 (by decide +kernel) rfl)) C.K.1 hS rfl (fun j hj => by rcases (show j = 0 ∨ j = 1 ∨ j = 2 ∨ j = 3 by omega) with rfl | rfl | rfl | rfl <;> rfl) hc1 hc2 hd (fun H1 hat ho hS1 => ?_)
  rw [hw.1]
  exact kk H1 (hw.setN (hn _ hS.1) hat ho (by have := (hw.2.2.1 26 (by decide)).lt; exact Nat.succ_le_of_lt this)) hS1
theorem sX4_40 {p : Program} {l : Launch} {e : Env} {R : Room} {s : State} {m : MethodId} {args : Array Value} {below : List Frame} {meth : Method} {c : Code} {H : Heap} {locs : List Loc} {cells slots : Nat} {Q : State → Prop} {cc : ByteArray} {pc nL : Nat} {ls : Array Slot} {rest : List Value} {ret : Option FieldType}  {G : xG} {β : Nat} {D : Nat → Prop} {x x' : XS} {a2 : Int32} {r : Option Nat} (C : Cx p s m args meth c RX4 cc nL ret (KK G)) (hn : ∀ q, s.heap.size ≤ q → D q) (h : fJ7_copyOf_59c91 x a2 = some (r, x')) (hw : CW β D G x H) (hS : va_S D s.heap H locs) (hsz : ls.size = nL) (hW : (rest.map fun v => v.category).sum ≤ 8) (hR : 2 ≤ R.frames) (hR2 : 62 ≤ R.locals) (hcs : cells + 1 ≤ R.cells ∧ slots + 160 ≤ R.slots) (hd : decode cc pc = .ok (.invokestatic 40, 3)) (kk : ∀ (H1 : Heap) (locs1 : List Loc), CW β D G x' H1 → va_S D s.heap H1 locs1 → W p l e R s m args below meth c H1 locs1 (cells + 1) (slots + 160) Q (F0 m (pc + 3) ls (va_rf r :: rest))) : W p l e R s m args below meth c H locs cells slots Q (F0 m pc ls (.int a2 :: .ref (β + 7) :: rest)) := by
  exact xcallS C (As := [.ref (β + 7), .int a2]) (rest := rest) (nA := 2) (kJ7_copyOf_59c91 (hnx hw hS hn) h) (tg 308 (by decide +kernel) rfl) (tg 309 (by decide +kernel) rfl) (tg 6 (by decide +kernel) rfl) (tg 310 (by decide +kernel) rfl) ⟨by decide +kernel, by decide +kernel, by decide +kernel⟩ rfl rfl ⟨hR, hR2⟩ hw hS (fun _ q => q) rfl rfl hsz hW hd hcs (fun H1 locs1 hw hz hk hS => kk H1 locs1 hw hS)
theorem sX4_46 {p : Program} {l : Launch} {e : Env} {R : Room} {s : State} {m : MethodId} {args : Array Value} {below : List Frame} {meth : Method} {c : Code} {H : Heap} {locs : List Loc} {cells slots : Nat} {Q : State → Prop} {cc : ByteArray} {pc nL : Nat} {ls : Array Slot} {rest : List Value} {ret : Option FieldType}  {G : xG} {β : Nat} {D : Nat → Prop} {x x' : XS} {a0 : Nat} {a1 : Nat} (C : Cx p s m args meth c RX4 cc nL ret (KK G)) (hk : dK x a0 7 = true) (hn : ∀ q, s.heap.size ≤ q → D q) (h : fX7_init x a0 a1 = some x') (hw : CW β D G x H) (hS : va_S D s.heap H locs) (hsz : ls.size = nL) (hW : (rest.map fun v => v.category).sum ≤ 8) (hR : 2 ≤ R.frames) (hR2 : 62 ≤ R.locals) (hcs : cells + 2 ≤ R.cells ∧ slots + 43 ≤ R.slots) (hd : decode cc pc = .ok (.invokespecial 46, 3)) (kk : ∀ (H1 : Heap) (locs1 : List Loc), CW β D G x' H1 → va_S D s.heap H1 locs1 → W p l e R s m args below meth c H1 locs1 (cells + 2) (slots + 43) Q (F0 m (pc + 3) ls (rest))) : W p l e R s m args below meth c H locs cells slots Q (F0 m pc ls (.ref (β + 8) :: .ref a1 :: .ref a0 :: rest)) := by
  obtain ⟨fs0, hfs0⟩ := dK_e hk
  exact xcallI C (As := [.ref a1, .ref (β + 8)]) (rest := rest) (nA := 2) (kX7_init (hnx hw hS hn) h) (tg 324 (by decide +kernel) rfl) (tg 325 (by decide +kernel) rfl) (tg 11 (by decide +kernel) rfl) (tg 326 (by decide +kernel) rfl) rfl ⟨by decide +kernel, by decide +kernel, by decide +kernel⟩ rfl rfl ⟨hR, hR2⟩ hw hS (fun _ q => q) rfl rfl hsz hW hd hcs (fun H1 locs1 hw hz hk hS => kk H1 locs1 hw hS)
def fX4_read (x : XS) : Option (Option Nat × XS) := lt (xsS x 6 3 0) fun x1 => Option.bind (fX6_rewind x1) fun x2 => bind2 (fX4_readPart x2 (-11) 0) fun v4 x5 => if v4 = true then bind2 (fX4_readPart x5 (-12) 1) fun v7 x8 => if v7 = true then bind2 (fX4_readPart x8 (-13) 2) fun v10 x11 => if v10 = true then if (x11.1 4 4) = (-35) then lt x11.2.2.2.2 fun p13 => lt (xsN x11 (.inl (7, [.null, .null, .null, .int 0]))) fun x14 => bind2 (fJ7_copyOf_59c91 x14 (x14.1 6 3)) fun v15 x16 => if dK x16 p13 7 = true then Option.bind v15 fun p19 => Option.bind (fX7_init x16 p13 p19) fun x20 => some ((some p13), x20) else none else some (none, x11) else some (none, x11) else some (none, x8) else some (none, x5)
abbrev rmX4_read : Room := { frames := 110, cells := 4, slots := 207, locals := 2613 }
set_option maxHeartbeats 4000000 in
set_option maxRecDepth 100000 in
theorem kX4_read {l : Launch} {G : xG} {β : Nat} {D : Nat → Prop} {x x' : XS} {r : Option Nat} (hn : ∀ q, x.2.2.2.2 ≤ q → D q) (hm : fX4_read x = some (r, x')) : Met l yX4_read (.code yX4_read cX4_read 1 (some (.object "AtThePost$Text")) :: GT) rmX4_read (PcW [.ref (β + 6)] (CW β D G x) (KK G)) (QcW D (some (va_rf r)) (CW β D G x')) 4 207 D := by
  unfold fX4_read at hm
  refine xpro (own := RX4) (by decide +kernel) rfl (Nat.le_of_ble_eq_true rfl) ?_
  intro p e s m args below meth c C hw ls hl
  have hx := C.1
  have hb := C.2.1
  have ho := C.2.2.2.1
  have hts := C.2.2.2.2.1
  have hf : Fz D G s.heap := hw.2.2.2.2
  have hn : ∀ q, s.heap.size ≤ q → D q := fun q h => hn q (by rw [← hw.1]; exact h)
  have hS : va_S D s.heap s.heap [] := va_S.rf
  have hl : lv_has ls 1 [(0, .ref (β + 6))] := hl
  have hRf : 110 ≤ rmX4_read.frames := Nat.le_refl _
  have hRl : 2613 ≤ rmX4_read.locals := Nat.le_refl _
  have hcs : 0 ≤ rmX4_read.cells ∧ 0 ≤ rmX4_read.slots := ⟨Nat.zero_le _, Nat.zero_le _⟩
  refine lv_aload_n hx hb dX4_read_0 rfl (lv_at hl 0 rfl) ?_
  refine lv_iconst (v := 0) hx hb dX4_read_1 (by decide) ?_
  refine pX4_18 C hw hS dX4_read_2 (fun H locs hw hS => ?_)
  obtain ⟨x1, ev, hm⟩ := lt_e hm
  rw [← ev] at hw
  clear ev
  refine lv_aload_n hx hb dX4_read_5 rfl (lv_at hl 0 rfl) ?_
  refine gX4_22 C hw dX4_read_6 ?_
  obtain ⟨x2, h3, hm⟩ := bind_e hm
  refine sX4_26 C h3 hw hS hl.1 (Nat.le_of_ble_eq_true rfl) (Nat.le_trans (Nat.le_of_ble_eq_true rfl) hRf) (Nat.le_trans (Nat.le_of_ble_eq_true rfl) hRl) hcs dX4_read_9 (fun H locs hw hS => ?_)
  refine lv_aload_n hx hb dX4_read_12 rfl (lv_at hl 0 rfl) ?_
  refine lv_bipush (v := (-11)) hx hb dX4_read_13 (by decide) ?_
  refine lv_iconst (v := 0) hx hb dX4_read_15 (by decide) ?_
  obtain ⟨v4, x5, h6, hm⟩ := bind2_e hm
  refine sX4_31 C h6 hw hS hl.1 (Nat.le_of_ble_eq_true rfl) (Nat.le_trans (Nat.le_of_ble_eq_true rfl) hRf) (Nat.le_trans (Nat.le_of_ble_eq_true rfl) hRl) hcs dX4_read_16 (fun H locs hw hS => ?_)
  refine x_ifeqB hx hb dX4_read_19 (tgt := 54) (by decide) (fun cc => ?_) (fun cc => ?_)
  · replace hm := ite_n cc hm
    refine lv_null hx hb dX4_read_54 ?_
    refine W.widen (k := 4) (n := 207) (Nat.le_of_ble_eq_true rfl) (Nat.le_of_ble_eq_true rfl) ?_
    obtain ⟨rfl, rfl⟩ := inj2 hm
    exact xret_a (v := none) C hw hS dX4_read_55
  · replace hm := ite_p cc hm
    refine lv_aload_n hx hb dX4_read_22 rfl (lv_at hl 0 rfl) ?_
    refine lv_bipush (v := (-12)) hx hb dX4_read_23 (by decide) ?_
    refine lv_iconst (v := 1) hx hb dX4_read_25 (by decide) ?_
    obtain ⟨v7, x8, h9, hm⟩ := bind2_e hm
    refine sX4_31 C h9 hw hS hl.1 (Nat.le_of_ble_eq_true rfl) (Nat.le_trans (Nat.le_of_ble_eq_true rfl) hRf) (Nat.le_trans (Nat.le_of_ble_eq_true rfl) hRl) hcs dX4_read_26 (fun H locs hw hS => ?_)
    refine x_ifeqB hx hb dX4_read_29 (tgt := 54) (by decide) (fun cc => ?_) (fun cc => ?_)
    · replace hm := ite_n cc hm
      refine lv_null hx hb dX4_read_54 ?_
      refine W.widen (k := 4) (n := 207) (Nat.le_of_ble_eq_true rfl) (Nat.le_of_ble_eq_true rfl) ?_
      obtain ⟨rfl, rfl⟩ := inj2 hm
      exact xret_a (v := none) C hw hS dX4_read_55
    · replace hm := ite_p cc hm
      refine lv_aload_n hx hb dX4_read_32 rfl (lv_at hl 0 rfl) ?_
      refine lv_bipush (v := (-13)) hx hb dX4_read_33 (by decide) ?_
      refine lv_iconst (v := 2) hx hb dX4_read_35 (by decide) ?_
      obtain ⟨v10, x11, h12, hm⟩ := bind2_e hm
      refine sX4_31 C h12 hw hS hl.1 (Nat.le_of_ble_eq_true rfl) (Nat.le_trans (Nat.le_of_ble_eq_true rfl) hRf) (Nat.le_trans (Nat.le_of_ble_eq_true rfl) hRl) hcs dX4_read_36 (fun H locs hw hS => ?_)
      refine x_ifeqB hx hb dX4_read_39 (tgt := 54) (by decide) (fun cc => ?_) (fun cc => ?_)
      · replace hm := ite_n cc hm
        refine lv_null hx hb dX4_read_54 ?_
        refine W.widen (k := 4) (n := 207) (Nat.le_of_ble_eq_true rfl) (Nat.le_of_ble_eq_true rfl) ?_
        obtain ⟨rfl, rfl⟩ := inj2 hm
        exact xret_a (v := none) C hw hS dX4_read_55
      · replace hm := ite_p cc hm
        refine lv_aload_n hx hb dX4_read_42 rfl (lv_at hl 0 rfl) ?_
        refine gX4_22 C hw dX4_read_43 ?_
        refine gX4_35 C hw dX4_read_46 ?_
        refine lv_bipush (v := (-35)) hx hb dX4_read_49 (by decide) ?_
        refine lv_icmp_eq (tgt := 56) hx hb dX4_read_51 (by decide) (fun cc => ?_) (fun cc => ?_)
        · replace hm := ite_p cc hm
          refine nwX4_38 C hn hw hS (Nat.le_of_ble_eq_true rfl) (Nat.le_of_ble_eq_true rfl) dX4_read_56 (fun H hw hS => ?_)
          obtain ⟨p13, ep, hm⟩ := lt_e hm
          rw [← ep]
          clear ep
          obtain ⟨x14, ev, hm⟩ := lt_e hm
          rw [← ev] at hw
          clear ev
          refine W.widen (k := 1) (n := 4) (Nat.le_of_ble_eq_true rfl) (Nat.le_of_ble_eq_true rfl) ?_
          have hcs : 1 ≤ rmX4_read.cells ∧ 4 ≤ rmX4_read.slots := ⟨Nat.le_of_ble_eq_true rfl, Nat.le_of_ble_eq_true rfl⟩
          refine lv_dup hx hb dX4_read_59 rfl ?_
          refine lv_aload_n hx hb dX4_read_60 rfl (lv_at hl 0 rfl) ?_
          refine gX4_9 C hw dX4_read_61 ?_
          refine lv_aload_n hx hb dX4_read_64 rfl (lv_at hl 0 rfl) ?_
          refine gX4_18 C hw dX4_read_65 ?_
          obtain ⟨v15, x16, h17, hm⟩ := bind2_e hm
          refine sX4_40 C hn h17 hw hS hl.1 (Nat.le_of_ble_eq_true rfl) (Nat.le_trans (Nat.le_of_ble_eq_true rfl) hRf) (Nat.le_trans (Nat.le_of_ble_eq_true rfl) hRl) ⟨Nat.le_of_ble_eq_true rfl, Nat.le_of_ble_eq_true rfl⟩ dX4_read_68 (fun H locs hw hS => ?_)
          refine W.widen (k := 2) (n := 164) (Nat.le_of_ble_eq_true rfl) (Nat.le_of_ble_eq_true rfl) ?_
          have hcs : 2 ≤ rmX4_read.cells ∧ 164 ≤ rmX4_read.slots := ⟨Nat.le_of_ble_eq_true rfl, Nat.le_of_ble_eq_true rfl⟩
          refine lv_aload_n hx hb dX4_read_71 rfl (lv_at hl 0 rfl) ?_
          refine gX4_15 C hw dX4_read_72 ?_
          obtain ⟨h18, hm⟩ := chk_e hm
          obtain ⟨p19, hq, hz⟩ := bind_e hm
          clear hm
          subst hq
          have hm := hz
          clear hz
          obtain ⟨x20, h21, hm⟩ := bind_e hm
          refine sX4_46 C h18 hn h21 hw hS hl.1 (Nat.le_of_ble_eq_true rfl) (Nat.le_trans (Nat.le_of_ble_eq_true rfl) hRf) (Nat.le_trans (Nat.le_of_ble_eq_true rfl) hRl) ⟨Nat.le_of_ble_eq_true rfl, Nat.le_of_ble_eq_true rfl⟩ dX4_read_75 (fun H locs hw hS => ?_)
          refine W.widen (k := 4) (n := 207) (Nat.le_of_ble_eq_true rfl) (Nat.le_of_ble_eq_true rfl) ?_
          have hcs : 4 ≤ rmX4_read.cells ∧ 207 ≤ rmX4_read.slots := ⟨Nat.le_of_ble_eq_true rfl, Nat.le_of_ble_eq_true rfl⟩
          obtain ⟨rfl, rfl⟩ := inj2 hm
          exact xret_a (v := (some p13)) C hw hS dX4_read_78
        · replace hm := ite_n cc hm
          refine lv_null hx hb dX4_read_54 ?_
          refine W.widen (k := 4) (n := 207) (Nat.le_of_ble_eq_true rfl) (Nat.le_of_ble_eq_true rfl) ?_
          obtain ⟨rfl, rfl⟩ := inj2 hm
          exact xret_a (v := none) C hw hS dX4_read_55
theorem dX8_horse_0 : decode cX8_horse 0 = .ok (.iload_n 1, 1) := by decide +kernel
theorem dX8_horse_1 : decode cX8_horse 1 = .ok (.iload_n 2, 1) := by decide +kernel
theorem dX8_horse_2 : decode cX8_horse 2 = .ok (.iload_n 3, 1) := by decide +kernel
theorem dX8_horse_3 : decode cX8_horse 3 = .ok (.invokestatic 127, 3) := by decide +kernel
theorem dX8_horse_6 : decode cX8_horse 6 = .ok (.ifCond .ne 6, 3) := by decide +kernel
theorem dX8_horse_9 : decode cX8_horse 9 = .ok (.bipush (-2), 2) := by decide +kernel
theorem dX8_horse_11 : decode cX8_horse 11 = .ok (.ireturn, 1) := by decide +kernel
theorem dX8_horse_12 : decode cX8_horse 12 = .ok (.aload_n 0, 1) := by decide +kernel
theorem dX8_horse_13 : decode cX8_horse 13 = .ok (.getfield 15, 3) := by decide +kernel
theorem dX8_horse_16 : decode cX8_horse 16 = .ok (.bipush 10, 2) := by decide +kernel
theorem dX8_horse_18 : decode cX8_horse 18 = .ok (.if_icmp .lt 6, 3) := by decide +kernel
theorem dX8_horse_21 : decode cX8_horse 21 = .ok (.bipush (-4), 2) := by decide +kernel
theorem dX8_horse_23 : decode cX8_horse 23 = .ok (.ireturn, 1) := by decide +kernel
theorem dX8_horse_24 : decode cX8_horse 24 = .ok (.aload_n 0, 1) := by decide +kernel
theorem dX8_horse_25 : decode cX8_horse 25 = .ok (.getfield 11, 3) := by decide +kernel
theorem dX8_horse_28 : decode cX8_horse 28 = .ok (.aload_n 0, 1) := by decide +kernel
theorem dX8_horse_29 : decode cX8_horse 29 = .ok (.getfield 15, 3) := by decide +kernel
theorem dX8_horse_32 : decode cX8_horse 32 = .ok (.new 9, 3) := by decide +kernel
theorem dX8_horse_35 : decode cX8_horse 35 = .ok (.dup, 1) := by decide +kernel
theorem dX8_horse_36 : decode cX8_horse 36 = .ok (.iload_n 1, 1) := by decide +kernel
theorem dX8_horse_37 : decode cX8_horse 37 = .ok (.iload_n 2, 1) := by decide +kernel
theorem dX8_horse_38 : decode cX8_horse 38 = .ok (.iload_n 3, 1) := by decide +kernel
theorem dX8_horse_39 : decode cX8_horse 39 = .ok (.sipush 1000, 3) := by decide +kernel
theorem dX8_horse_42 : decode cX8_horse 42 = .ok (.idiv, 1) := by decide +kernel
theorem dX8_horse_43 : decode cX8_horse 43 = .ok (.iload_n 3, 1) := by decide +kernel
theorem dX8_horse_44 : decode cX8_horse 44 = .ok (.sipush 1000, 3) := by decide +kernel
theorem dX8_horse_47 : decode cX8_horse 47 = .ok (.irem, 1) := by decide +kernel
theorem dX8_horse_48 : decode cX8_horse 48 = .ok (.bipush 10, 2) := by decide +kernel
theorem dX8_horse_50 : decode cX8_horse 50 = .ok (.idiv, 1) := by decide +kernel
theorem dX8_horse_51 : decode cX8_horse 51 = .ok (.iload_n 3, 1) := by decide +kernel
theorem dX8_horse_52 : decode cX8_horse 52 = .ok (.bipush 10, 2) := by decide +kernel
theorem dX8_horse_54 : decode cX8_horse 54 = .ok (.irem, 1) := by decide +kernel
theorem dX8_horse_55 : decode cX8_horse 55 = .ok (.invokespecial 131, 3) := by decide +kernel
theorem dX8_horse_58 : decode cX8_horse 58 = .ok (.aastore, 1) := by decide +kernel
theorem dX8_horse_59 : decode cX8_horse 59 = .ok (.aload_n 0, 1) := by decide +kernel
theorem dX8_horse_60 : decode cX8_horse 60 = .ok (.dup, 1) := by decide +kernel
theorem dX8_horse_61 : decode cX8_horse 61 = .ok (.getfield 15, 3) := by decide +kernel
theorem dX8_horse_64 : decode cX8_horse 64 = .ok (.iconst 1, 1) := by decide +kernel
theorem dX8_horse_65 : decode cX8_horse 65 = .ok (.iadd, 1) := by decide +kernel
theorem dX8_horse_66 : decode cX8_horse 66 = .ok (.putfield 15, 3) := by decide +kernel
theorem dX8_horse_69 : decode cX8_horse 69 = .ok (.aload_n 0, 1) := by decide +kernel
theorem dX8_horse_70 : decode cX8_horse 70 = .ok (.getfield 15, 3) := by decide +kernel
theorem dX8_horse_73 : decode cX8_horse 73 = .ok (.iconst 1, 1) := by decide +kernel
theorem dX8_horse_74 : decode cX8_horse 74 = .ok (.isub, 1) := by decide +kernel
theorem dX8_horse_75 : decode cX8_horse 75 = .ok (.ireturn, 1) := by decide +kernel
theorem sX8_127 {p : Program} {l : Launch} {e : Env} {R : Room} {s : State} {m : MethodId} {args : Array Value} {below : List Frame} {meth : Method} {c : Code} {H : Heap} {locs : List Loc} {cells slots : Nat} {Q : State → Prop} {cc : ByteArray} {pc nL : Nat} {ls : Array Slot} {rest : List Value} {ret : Option FieldType}  {G : xG} {β : Nat} {D : Nat → Prop} {x : XS} {a1 : Int32} {a2 : Int32} {a3 : Int32} {r : Bool} (C : Cx p s m args meth c RX8 cc nL ret (KK G)) (h : fX8_isHorseToBe a1 a2 a3 = some r) (hw : CW β D G x H) (hS : va_S D s.heap H locs) (hsz : ls.size = nL) (hW : (rest.map fun v => v.category).sum ≤ 8) (hR : 3 ≤ R.frames) (hR2 : 64 ≤ R.locals) (hcs : cells ≤ R.cells ∧ slots ≤ R.slots) (hd : decode cc pc = .ok (.invokestatic 127, 3)) (kk : ∀ (H1 : Heap) (locs1 : List Loc), CW β D G x H1 → va_S D s.heap H1 locs1 → W p l e R s m args below meth c H1 locs1 cells slots Q (F0 m (pc + 3) ls (.int (bI r) :: rest))) : W p l e R s m args below meth c H locs cells slots Q (F0 m pc ls (.int a3 :: .int a2 :: .int a1 :: rest)) := by
  exact xcallS C (As := [.int a1, .int a2, .int a3]) (rest := rest) (nA := 3) (kX8_isHorseToBe h) (tg 409 (by decide +kernel) rfl) (tg 410 (by decide +kernel) rfl) (tg 1 (by decide +kernel) rfl) (tg 411 (by decide +kernel) rfl) ⟨by decide +kernel, by decide +kernel, by decide +kernel⟩ rfl rfl ⟨hR, hR2⟩ hw hS (fun _ q => q) rfl rfl hsz hW hd hcs (fun H1 locs1 hw hz hk hS => kk H1 locs1 hw hS)
theorem nwX8_9 {p : Program} {l : Launch} {e : Env} {R : Room} {s : State} {m : MethodId} {args : Array Value} {below : List Frame} {meth : Method} {c : Code} {H : Heap} {locs : List Loc} {cells slots : Nat} {Q : State → Prop} {cc : ByteArray} {pc nL : Nat} {ls : Array Slot} {rest : List Value} {ret : Option FieldType}  {G : xG} {β : Nat} {D : Nat → Prop} {x : XS} (C : Cx p s m args meth c RX8 cc nL ret (KK G)) (hn : ∀ q, s.heap.size ≤ q → D q) (hw : CW β D G x H) (hS : va_S D s.heap H locs) (hc1 : cells + 1 ≤ R.cells) (hc2 : slots + 6 ≤ R.slots) (hd : decode cc pc = .ok (.new 9, 3)) (kk : ∀ (H1 : Heap), CW β D G (xsN x (.inl (1, [.int 0, .int 0, .int 0, .int 0, .int 0, .int 0]))) H1 → va_S D s.heap H1 locs → W p l e R s m args below meth c H1 locs (cells + 1) (slots + 6) Q (F0 m (pc + 3) ls (.ref x.2.2.2.2 :: rest))) : W p l e R s m args below meth c H locs cells slots Q (F0 m pc ls (rest)) := by
  refine x_new (ci := 1) (fs := [.int 0, .int 0, .int 0, .int 0, .int 0, .int 0]) C.1 C.2.1 C.2.2.2.2.1 iwX1 tyX1 tyX1_ok C.2.2.2.1 (C.2.2.2.2.1 (.classLink RX8 9 RX1) (tg 27 (by decide +kernel) rfl)) (C.2.2.2.2.1 (.instantiable RX1 6) (tg 423 (by decide +kernel) rfl)) (C.2.2.2.2.1 (.initialized RX1) (tg 15 (by decide +kernel) rfl)) C.K.1 hS rfl (fun j hj => by rcases (show j = 0 ∨ j = 1 ∨ j = 2 ∨ j = 3 ∨ j = 4 ∨ j = 5 by omega) with rfl | rfl | rfl | rfl | rfl | rfl <;> rfl) hc1 hc2 hd (fun H1 hat ho hS1 => ?_)
  rw [hw.1]
  exact kk H1 (hw.setN (hn _ hS.1) hat ho (by have := (hw.2.2.1 26 (by decide)).lt; exact Nat.succ_le_of_lt this)) hS1
theorem sX8_131 {p : Program} {l : Launch} {e : Env} {R : Room} {s : State} {m : MethodId} {args : Array Value} {below : List Frame} {meth : Method} {c : Code} {H : Heap} {locs : List Loc} {cells slots : Nat} {Q : State → Prop} {cc : ByteArray} {pc nL : Nat} {ls : Array Slot} {rest : List Value} {ret : Option FieldType}  {G : xG} {β : Nat} {D : Nat → Prop} {x x' : XS} {a0 : Nat} {a1 : Int32} {a2 : Int32} {a3 : Int32} {a4 : Int32} {a5 : Int32} (C : Cx p s m args meth c RX8 cc nL ret (KK G)) (hk : dK x a0 1 = true) (h : fX1_init x a0 a1 a2 a3 a4 a5 = some x') (hw : CW β D G x H) (hS : va_S D s.heap H locs) (hsz : ls.size = nL) (hW : (rest.map fun v => v.category).sum ≤ 8) (hR : 2 ≤ R.frames) (hR2 : 37 ≤ R.locals) (hcs : cells ≤ R.cells ∧ slots ≤ R.slots) (hd : decode cc pc = .ok (.invokespecial 131, 3)) (kk : ∀ (H1 : Heap) (locs1 : List Loc), CW β D G x' H1 → va_S D s.heap H1 locs1 → W p l e R s m args below meth c H1 locs1 cells slots Q (F0 m (pc + 3) ls (rest))) : W p l e R s m args below meth c H locs cells slots Q (F0 m pc ls (.int a5 :: .int a4 :: .int a3 :: .int a2 :: .int a1 :: .ref a0 :: rest)) := by
  obtain ⟨fs0, hfs0⟩ := dK_e hk
  exact xcallI C (As := [.int a1, .int a2, .int a3, .int a4, .int a5]) (rest := rest) (nA := 5) (kX1_init h) (tg 424 (by decide +kernel) rfl) (tg 425 (by decide +kernel) rfl) (tg 15 (by decide +kernel) rfl) (tg 426 (by decide +kernel) rfl) rfl ⟨by decide +kernel, by decide +kernel, by decide +kernel⟩ rfl rfl ⟨hR, hR2⟩ hw hS (fun _ q => q) rfl rfl hsz hW hd hcs (fun H1 locs1 hw hz hk hS => kk H1 locs1 hw hS)
theorem asX_1 {p : Program} {l : Launch} {e : Env} {R : Room} {s : State} {m : MethodId} {args : Array Value} {below : List Frame} {meth : Method} {c : Code} {H : Heap} {locs : List Loc} {cells slots : Nat} {Q : State → Prop} {cc : ByteArray} {pc nL : Nat} {ls : Array Slot} {rest : List Value} {ret : Option FieldType}  {G : xG} {β : Nat} {D : Nat → Prop} {x : XS} {own : String} {i : Int32} {v : Nat} (C : Cx p s m args meth c own cc nL ret (KK G)) (hk : dK x v 1 = true) (hw : CW β D G x H) (hS : va_S D s.heap H locs) (hin : ib i 10) (hd : decode cc pc = .ok (.aastore, 1)) (kk : ∀ (H1 : Heap) (locs1 : List Loc), CW β D G (xsR x 1 i.toNatClampNeg (some v)) H1 → va_S D s.heap H1 locs1 → W p l e R s m args below meth c H1 locs1 cells slots Q (F0 m (pc + 1) ls (rest))) : W p l e R s m args below meth c H locs cells slots Q (F0 m pc ls (.ref v :: .int i :: .ref (β + 1) :: rest)) := by
  obtain ⟨vs, hv⟩ := dK_e hk
  exact x_astq (ci := 1) (vs := vs) C.1 C.2.1 C.K.1 hS 4 (hw.2.2.1 1 (by decide)) (hw.2.1 1 (by decide)) rfl (hw.2.2.2.1 v _ hv).2.2.2 rfl hin hd (fun H1 locs1 hat ho hS => kk H1 locs1 (hw.setR 1 _ _ hat ho) hS)
theorem pX8_15 {p : Program} {l : Launch} {e : Env} {R : Room} {s : State} {m : MethodId} {args : Array Value} {below : List Frame} {meth : Method} {c : Code} {H : Heap} {locs : List Loc} {cells slots : Nat} {Q : State → Prop} {cc : ByteArray} {pc nL : Nat} {ls : Array Slot} {rest : List Value} {ret : Option FieldType} {G : xG} {β : Nat} {D : Nat → Prop} {x : XS} {v : Int32} (C : Cx p s m args meth c RX8 cc nL ret (KK G)) (hw : CW β D G x H) (hS : va_S D s.heap H locs) (hd : decode cc pc = .ok (.putfield 15, 3)) (kk : ∀ (H1 : Heap) (locs1 : List Loc), CW β D G (xsS x 0 1 v) H1 → va_S D s.heap H1 locs1 → W p l e R s m args below meth c H1 locs1 cells slots Q (F0 m (pc + 3) ls (rest))) : W p l e R s m args below meth c H locs cells slots Q (F0 m pc ls (.int v :: .ref β :: rest)) :=
  x_put C.1 C.2.1 C.2.2.2.2.1 iwX8 tyX8 tyX8_ok nmX8 C.2.2.2.1 C.K.1 hS (hw.2.2.1 0 (by decide)) (hw.2.1 0 (by decide)) rfl 1 (by decide) (C.2.2.2.2.1 (.fieldLink RX8 15 RX8 "horseCount" "I") (tg 348 (by decide +kernel) rfl)) (fun _ h9 => h9) rfl (ty := .int) (by decide +kernel) rfl rfl (Nat.le_of_ble_eq_true rfl) hd (fun H1 locs1 hat ho hS => kk H1 locs1 (hw.setS 0 1 v hat ho) hS)
def fX8_horse (x : XS) (a1 : Int32) (a2 : Int32) (a3 : Int32) : Option (Int32 × XS) := Option.bind (fX8_isHorseToBe a1 a2 a3) fun v1 => if v1 = true then if (x.1 0 1) < 10 then lt x.2.2.2.2 fun p3 => lt (xsN x (.inl (1, [.int 0, .int 0, .int 0, .int 0, .int 0, .int 0]))) fun x4 => if dK x4 p3 1 = true then Option.bind (fX1_init x4 p3 a1 a2 (a3 / 1000) ((irm a3 1000) / 10) (irm a3 10)) fun x6 => if ib (x.1 0 1) 10 then if dK x6 p3 1 = true then lt (xsR x6 1 (x.1 0 1).toNatClampNeg (some p3)) fun x9 => lt (xsS x9 0 1 ((x9.1 0 1) + 1)) fun x11 => some ((x11.1 0 1) - 1, x11) else none else none else none else some ((-4), x) else some ((-2), x)
abbrev rmX8_horse : Room := { frames := 3, cells := 1, slots := 6, locals := 64 }
set_option maxHeartbeats 4000000 in
set_option maxRecDepth 100000 in
theorem kX8_horse {l : Launch} {G : xG} {β : Nat} {D : Nat → Prop} {x x' : XS} {a1 : Int32} {a2 : Int32} {a3 : Int32} {r : Int32} (hn : ∀ q, x.2.2.2.2 ≤ q → D q) (hm : fX8_horse x a1 a2 a3 = some (r, x')) : Met l yX8_horse (.code yX8_horse cX8_horse 4 (some .int) :: GT) rmX8_horse (PcW [.ref β, .int a1, .int a2, .int a3] (CW β D G x) (KK G)) (QcW D (some (.int r)) (CW β D G x')) 1 6 D := by
  unfold fX8_horse at hm
  refine xpro (own := RX8) (by decide +kernel) rfl (Nat.le_of_ble_eq_true rfl) ?_
  intro p e s m args below meth c C hw ls hl
  have hx := C.1
  have hb := C.2.1
  have ho := C.2.2.2.1
  have hts := C.2.2.2.2.1
  have hf : Fz D G s.heap := hw.2.2.2.2
  have hn : ∀ q, s.heap.size ≤ q → D q := fun q h => hn q (by rw [← hw.1]; exact h)
  have hS : va_S D s.heap s.heap [] := va_S.rf
  have hl : lv_has ls 4 [(0, .ref β), (1, .int a1), (2, .int a2), (3, .int a3)] := hl
  have hRf : 3 ≤ rmX8_horse.frames := Nat.le_refl _
  have hRl : 64 ≤ rmX8_horse.locals := Nat.le_refl _
  have hcs : 0 ≤ rmX8_horse.cells ∧ 0 ≤ rmX8_horse.slots := ⟨Nat.zero_le _, Nat.zero_le _⟩
  refine lv_iload_n hx hb dX8_horse_0 rfl (lv_at hl 1 rfl) ?_
  refine lv_iload_n hx hb dX8_horse_1 rfl (lv_at hl 2 rfl) ?_
  refine lv_iload_n hx hb dX8_horse_2 rfl (lv_at hl 3 rfl) ?_
  obtain ⟨v1, h2, hm⟩ := bind_e hm
  refine sX8_127 C h2 hw hS hl.1 (Nat.le_of_ble_eq_true rfl) (Nat.le_trans (Nat.le_of_ble_eq_true rfl) hRf) (Nat.le_trans (Nat.le_of_ble_eq_true rfl) hRl) hcs dX8_horse_3 (fun H locs hw hS => ?_)
  refine x_ifneB hx hb dX8_horse_6 (tgt := 12) (by decide) (fun cc => ?_) (fun cc => ?_)
  · replace hm := ite_p cc hm
    refine lv_aload_n hx hb dX8_horse_12 rfl (lv_at hl 0 rfl) ?_
    refine gX8_15 C hw dX8_horse_13 ?_
    refine lv_bipush (v := 10) hx hb dX8_horse_16 (by decide) ?_
    refine lv_icmp_lt (tgt := 24) hx hb dX8_horse_18 (by decide) (fun cc => ?_) (fun cc => ?_)
    · replace hm := ite_p cc hm
      refine lv_aload_n hx hb dX8_horse_24 rfl (lv_at hl 0 rfl) ?_
      refine gX8_11 C hw dX8_horse_25 ?_
      refine lv_aload_n hx hb dX8_horse_28 rfl (lv_at hl 0 rfl) ?_
      refine gX8_15 C hw dX8_horse_29 ?_
      refine nwX8_9 C hn hw hS (Nat.le_of_ble_eq_true rfl) (Nat.le_of_ble_eq_true rfl) dX8_horse_32 (fun H hw hS => ?_)
      obtain ⟨p3, ep, hm⟩ := lt_e hm
      rw [← ep]
      clear ep
      obtain ⟨x4, ev, hm⟩ := lt_e hm
      rw [← ev] at hw
      clear ev
      refine W.widen (k := 1) (n := 6) (Nat.le_of_ble_eq_true rfl) (Nat.le_of_ble_eq_true rfl) ?_
      have hcs : 1 ≤ rmX8_horse.cells ∧ 6 ≤ rmX8_horse.slots := ⟨Nat.le_of_ble_eq_true rfl, Nat.le_of_ble_eq_true rfl⟩
      refine lv_dup hx hb dX8_horse_35 rfl ?_
      refine lv_iload_n hx hb dX8_horse_36 rfl (lv_at hl 1 rfl) ?_
      refine lv_iload_n hx hb dX8_horse_37 rfl (lv_at hl 2 rfl) ?_
      refine lv_iload_n hx hb dX8_horse_38 rfl (lv_at hl 3 rfl) ?_
      refine lv_sipush (v := 1000) hx hb dX8_horse_39 (by decide) ?_
      refine lv_idiv hx hb dX8_horse_42 (by decide) ?_
      refine lv_iload_n hx hb dX8_horse_43 rfl (lv_at hl 3 rfl) ?_
      refine lv_sipush (v := 1000) hx hb dX8_horse_44 (by decide) ?_
      refine lv_irem hx hb dX8_horse_47 (by decide) ?_
      refine lv_bipush (v := 10) hx hb dX8_horse_48 (by decide) ?_
      refine lv_idiv hx hb dX8_horse_50 (by decide) ?_
      refine lv_iload_n hx hb dX8_horse_51 rfl (lv_at hl 3 rfl) ?_
      refine lv_bipush (v := 10) hx hb dX8_horse_52 (by decide) ?_
      refine lv_irem hx hb dX8_horse_54 (by decide) ?_
      obtain ⟨h5, hm⟩ := chk_e hm
      obtain ⟨x6, h7, hm⟩ := bind_e hm
      refine sX8_131 C h5 h7 hw hS hl.1 (Nat.le_of_ble_eq_true rfl) (Nat.le_trans (Nat.le_of_ble_eq_true rfl) hRf) (Nat.le_trans (Nat.le_of_ble_eq_true rfl) hRl) hcs dX8_horse_55 (fun H locs hw hS => ?_)
      obtain ⟨h8, hm⟩ := chk_e hm
      obtain ⟨h10, hm⟩ := chk_e hm
      refine asX_1 C h10 hw hS h8 dX8_horse_58 (fun H locs hw hS => ?_)
      obtain ⟨x9, ev, hm⟩ := lt_e hm
      rw [← ev] at hw
      clear ev
      refine lv_aload_n hx hb dX8_horse_59 rfl (lv_at hl 0 rfl) ?_
      refine lv_dup hx hb dX8_horse_60 rfl ?_
      refine gX8_15 C hw dX8_horse_61 ?_
      refine lv_iconst (v := 1) hx hb dX8_horse_64 (by decide) ?_
      refine lv_iadd hx hb dX8_horse_65 ?_
      refine pX8_15 C hw hS dX8_horse_66 (fun H locs hw hS => ?_)
      obtain ⟨x11, ev, hm⟩ := lt_e hm
      rw [← ev] at hw
      clear ev
      refine lv_aload_n hx hb dX8_horse_69 rfl (lv_at hl 0 rfl) ?_
      refine gX8_15 C hw dX8_horse_70 ?_
      refine lv_iconst (v := 1) hx hb dX8_horse_73 (by decide) ?_
      refine lv_isub hx hb dX8_horse_74 ?_
      obtain ⟨rfl, rfl⟩ := inj2 hm
      exact xret_i C hw hS dX8_horse_75
    · replace hm := ite_n cc hm
      refine lv_bipush (v := (-4)) hx hb dX8_horse_21 (by decide) ?_
      refine W.widen (k := 1) (n := 6) (Nat.le_of_ble_eq_true rfl) (Nat.le_of_ble_eq_true rfl) ?_
      obtain ⟨rfl, rfl⟩ := inj2 hm
      exact xret_i C hw hS dX8_horse_23
  · replace hm := ite_n cc hm
    refine lv_bipush (v := (-2)) hx hb dX8_horse_9 (by decide) ?_
    refine W.widen (k := 1) (n := 6) (Nat.le_of_ble_eq_true rfl) (Nat.le_of_ble_eq_true rfl) ?_
    obtain ⟨rfl, rfl⟩ := inj2 hm
    exact xret_i C hw hS dX8_horse_11
theorem dX8_race_0 : decode cX8_race 0 = .ok (.aload_n 0, 1) := by decide +kernel
theorem dX8_race_1 : decode cX8_race 1 = .ok (.iload_n 2, 1) := by decide +kernel
theorem dX8_race_2 : decode cX8_race 2 = .ok (.invokevirtual 214, 3) := by decide +kernel
theorem dX8_race_5 : decode cX8_race 5 = .ok (.invokestatic 241, 3) := by decide +kernel
theorem dX8_race_8 : decode cX8_race 8 = .ok (.istore 4, 2) := by decide +kernel
theorem dX8_race_10 : decode cX8_race 10 = .ok (.iload_n 1, 1) := by decide +kernel
theorem dX8_race_11 : decode cX8_race 11 = .ok (.invokestatic 190, 3) := by decide +kernel
theorem dX8_race_14 : decode cX8_race 14 = .ok (.ifCond .eq 29, 3) := by decide +kernel
theorem dX8_race_17 : decode cX8_race 17 = .ok (.iload 4, 2) := by decide +kernel
theorem dX8_race_19 : decode cX8_race 19 = .ok (.iconst 2, 1) := by decide +kernel
theorem dX8_race_20 : decode cX8_race 20 = .ok (.if_icmp .lt 23, 3) := by decide +kernel
theorem dX8_race_23 : decode cX8_race 23 = .ok (.iload_n 3, 1) := by decide +kernel
theorem dX8_race_24 : decode cX8_race 24 = .ok (.iconst 0, 1) := by decide +kernel
theorem dX8_race_25 : decode cX8_race 25 = .ok (.iconst 1, 1) := by decide +kernel
theorem dX8_race_26 : decode cX8_race 26 = .ok (.invokestatic 138, 3) := by decide +kernel
theorem dX8_race_29 : decode cX8_race 29 = .ok (.ifCond .eq 14, 3) := by decide +kernel
theorem dX8_race_32 : decode cX8_race 32 = .ok (.iload_n 1, 1) := by decide +kernel
theorem dX8_race_33 : decode cX8_race 33 = .ok (.bipush 100, 2) := by decide +kernel
theorem dX8_race_35 : decode cX8_race 35 = .ok (.irem, 1) := by decide +kernel
theorem dX8_race_36 : decode cX8_race 36 = .ok (.aload_n 0, 1) := by decide +kernel
theorem dX8_race_37 : decode cX8_race 37 = .ok (.invokevirtual 246, 3) := by decide +kernel
theorem dX8_race_40 : decode cX8_race 40 = .ok (.if_icmp .ge 6, 3) := by decide +kernel
theorem dX8_race_43 : decode cX8_race 43 = .ok (.bipush (-2), 2) := by decide +kernel
theorem dX8_race_45 : decode cX8_race 45 = .ok (.ireturn, 1) := by decide +kernel
theorem dX8_race_46 : decode cX8_race 46 = .ok (.aload_n 0, 1) := by decide +kernel
theorem dX8_race_47 : decode cX8_race 47 = .ok (.getfield 32, 3) := by decide +kernel
theorem dX8_race_50 : decode cX8_race 50 = .ok (.bipush 24, 2) := by decide +kernel
theorem dX8_race_52 : decode cX8_race 52 = .ok (.if_icmp .lt 6, 3) := by decide +kernel
theorem dX8_race_55 : decode cX8_race 55 = .ok (.bipush (-4), 2) := by decide +kernel
theorem dX8_race_57 : decode cX8_race 57 = .ok (.ireturn, 1) := by decide +kernel
theorem dX8_race_58 : decode cX8_race 58 = .ok (.new 26, 3) := by decide +kernel
theorem dX8_race_61 : decode cX8_race 61 = .ok (.dup, 1) := by decide +kernel
theorem dX8_race_62 : decode cX8_race 62 = .ok (.iload_n 1, 1) := by decide +kernel
theorem dX8_race_63 : decode cX8_race 63 = .ok (.bipush 100, 2) := by decide +kernel
theorem dX8_race_65 : decode cX8_race 65 = .ok (.idiv, 1) := by decide +kernel
theorem dX8_race_66 : decode cX8_race 66 = .ok (.iload_n 1, 1) := by decide +kernel
theorem dX8_race_67 : decode cX8_race 67 = .ok (.bipush 100, 2) := by decide +kernel
theorem dX8_race_69 : decode cX8_race 69 = .ok (.irem, 1) := by decide +kernel
theorem dX8_race_70 : decode cX8_race 70 = .ok (.iload 4, 2) := by decide +kernel
theorem dX8_race_72 : decode cX8_race 72 = .ok (.invokespecial 249, 3) := by decide +kernel
theorem dX8_race_75 : decode cX8_race 75 = .ok (.astore 5, 2) := by decide +kernel
theorem dX8_race_77 : decode cX8_race 77 = .ok (.iconst 0, 1) := by decide +kernel
theorem dX8_race_78 : decode cX8_race 78 = .ok (.istore 6, 2) := by decide +kernel
theorem dX8_race_80 : decode cX8_race 80 = .ok (.iload 6, 2) := by decide +kernel
theorem dX8_race_82 : decode cX8_race 82 = .ok (.iload 4, 2) := by decide +kernel
theorem dX8_race_84 : decode cX8_race 84 = .ok (.if_icmp .ge 43, 3) := by decide +kernel
theorem dX8_race_87 : decode cX8_race 87 = .ok (.aload 5, 2) := by decide +kernel
theorem dX8_race_89 : decode cX8_race 89 = .ok (.getfield 252, 3) := by decide +kernel
theorem dX8_race_92 : decode cX8_race 92 = .ok (.iload 6, 2) := by decide +kernel
theorem dX8_race_94 : decode cX8_race 94 = .ok (.aload_n 0, 1) := by decide +kernel
theorem dX8_race_95 : decode cX8_race 95 = .ok (.getfield 86, 3) := by decide +kernel
theorem dX8_race_98 : decode cX8_race 98 = .ok (.iload 6, 2) := by decide +kernel
theorem dX8_race_100 : decode cX8_race 100 = .ok (.iaload, 1) := by decide +kernel
theorem dX8_race_101 : decode cX8_race 101 = .ok (.iastore, 1) := by decide +kernel
theorem dX8_race_102 : decode cX8_race 102 = .ok (.aload 5, 2) := by decide +kernel
theorem dX8_race_104 : decode cX8_race 104 = .ok (.getfield 255, 3) := by decide +kernel
theorem dX8_race_107 : decode cX8_race 107 = .ok (.iload 6, 2) := by decide +kernel
theorem dX8_race_109 : decode cX8_race 109 = .ok (.aload_n 0, 1) := by decide +kernel
theorem dX8_race_110 : decode cX8_race 110 = .ok (.aload_n 0, 1) := by decide +kernel
theorem dX8_race_111 : decode cX8_race 111 = .ok (.getfield 86, 3) := by decide +kernel
theorem dX8_race_114 : decode cX8_race 114 = .ok (.iload 6, 2) := by decide +kernel
theorem dX8_race_116 : decode cX8_race 116 = .ok (.iaload, 1) := by decide +kernel
theorem dX8_race_117 : decode cX8_race 117 = .ok (.invokevirtual 258, 3) := by decide +kernel
theorem dX8_race_120 : decode cX8_race 120 = .ok (.iastore, 1) := by decide +kernel
theorem dX8_race_121 : decode cX8_race 121 = .ok (.iinc 6 1, 3) := by decide +kernel
theorem dX8_race_124 : decode cX8_race 124 = .ok (.goto (-44), 3) := by decide +kernel
theorem dX8_race_127 : decode cX8_race 127 = .ok (.aload_n 0, 1) := by decide +kernel
theorem dX8_race_128 : decode cX8_race 128 = .ok (.getfield 28, 3) := by decide +kernel
theorem dX8_race_131 : decode cX8_race 131 = .ok (.aload_n 0, 1) := by decide +kernel
theorem dX8_race_132 : decode cX8_race 132 = .ok (.getfield 32, 3) := by decide +kernel
theorem dX8_race_135 : decode cX8_race 135 = .ok (.aload 5, 2) := by decide +kernel
theorem dX8_race_137 : decode cX8_race 137 = .ok (.aastore, 1) := by decide +kernel
theorem dX8_race_138 : decode cX8_race 138 = .ok (.aload_n 0, 1) := by decide +kernel
theorem dX8_race_139 : decode cX8_race 139 = .ok (.dup, 1) := by decide +kernel
theorem dX8_race_140 : decode cX8_race 140 = .ok (.getfield 32, 3) := by decide +kernel
theorem dX8_race_143 : decode cX8_race 143 = .ok (.iconst 1, 1) := by decide +kernel
theorem dX8_race_144 : decode cX8_race 144 = .ok (.iadd, 1) := by decide +kernel
theorem dX8_race_145 : decode cX8_race 145 = .ok (.putfield 32, 3) := by decide +kernel
theorem dX8_race_148 : decode cX8_race 148 = .ok (.iload_n 3, 1) := by decide +kernel
theorem dX8_race_149 : decode cX8_race 149 = .ok (.iconst 1, 1) := by decide +kernel
theorem dX8_race_150 : decode cX8_race 150 = .ok (.if_icmp .ne 9, 3) := by decide +kernel
theorem dX8_race_153 : decode cX8_race 153 = .ok (.aload_n 0, 1) := by decide +kernel
theorem dX8_race_154 : decode cX8_race 154 = .ok (.aload 5, 2) := by decide +kernel
theorem dX8_race_156 : decode cX8_race 156 = .ok (.invokevirtual 261, 3) := by decide +kernel
theorem dX8_race_159 : decode cX8_race 159 = .ok (.aload_n 0, 1) := by decide +kernel
theorem dX8_race_160 : decode cX8_race 160 = .ok (.getfield 32, 3) := by decide +kernel
theorem dX8_race_163 : decode cX8_race 163 = .ok (.iconst 1, 1) := by decide +kernel
theorem dX8_race_164 : decode cX8_race 164 = .ok (.isub, 1) := by decide +kernel
theorem dX8_race_165 : decode cX8_race 165 = .ok (.ireturn, 1) := by decide +kernel
theorem sX8_246 {p : Program} {l : Launch} {e : Env} {R : Room} {s : State} {m : MethodId} {args : Array Value} {below : List Frame} {meth : Method} {c : Code} {H : Heap} {locs : List Loc} {cells slots : Nat} {Q : State → Prop} {cc : ByteArray} {pc nL : Nat} {ls : Array Slot} {rest : List Value} {ret : Option FieldType}  {G : xG} {β : Nat} {D : Nat → Prop} {x : XS} {r : Int32} (C : Cx p s m args meth c RX8 cc nL ret (KK G)) (h : fX8_lastDay x = some r) (hw : CW β D G x H) (hS : va_S D s.heap H locs) (hsz : ls.size = nL) (hW : (rest.map fun v => v.category).sum ≤ 8) (hR : 3 ≤ R.frames) (hR2 : 64 ≤ R.locals) (hcs : cells ≤ R.cells ∧ slots ≤ R.slots) (hd : decode cc pc = .ok (.invokevirtual 246, 3)) (kk : ∀ (H1 : Heap) (locs1 : List Loc), CW β D G x H1 → va_S D s.heap H1 locs1 → W p l e R s m args below meth c H1 locs1 cells slots Q (F0 m (pc + 3) ls (.int r :: rest))) : W p l e R s m args below meth c H locs cells slots Q (F0 m pc ls (.ref β :: rest)) := by
  exact xcallV C (As := []) (rest := rest) (nA := 0) (ci := 8) (kX8_lastDay h) (tg 716 (by decide +kernel) rfl) (tg 718 (by decide +kernel) rfl) (sg (List.mem_of_getElem? (i := 41) (by decide +kernel)) rfl) (tg 1 (by decide +kernel) rfl) (tg 719 (by decide +kernel) rfl) ⟨rfl, by decide +kernel, by decide +kernel, by decide +kernel⟩ rfl rfl rfl ⟨hR, hR2⟩ (hw.2.2.1 0 (by decide)) hw hS (fun _ q => q) rfl rfl hsz hW hd hcs (fun H1 locs1 hw hz hk hS => kk H1 locs1 hw hS)
theorem nwX8_26 {p : Program} {l : Launch} {e : Env} {R : Room} {s : State} {m : MethodId} {args : Array Value} {below : List Frame} {meth : Method} {c : Code} {H : Heap} {locs : List Loc} {cells slots : Nat} {Q : State → Prop} {cc : ByteArray} {pc nL : Nat} {ls : Array Slot} {rest : List Value} {ret : Option FieldType}  {G : xG} {β : Nat} {D : Nat → Prop} {x : XS} (C : Cx p s m args meth c RX8 cc nL ret (KK G)) (hn : ∀ q, s.heap.size ≤ q → D q) (hw : CW β D G x H) (hS : va_S D s.heap H locs) (hc1 : cells + 1 ≤ R.cells) (hc2 : slots + 5 ≤ R.slots) (hd : decode cc pc = .ok (.new 26, 3)) (kk : ∀ (H1 : Heap), CW β D G (xsN x (.inl (3, [.int 0, .int 0, .int 0, .null, .null]))) H1 → va_S D s.heap H1 locs → W p l e R s m args below meth c H1 locs (cells + 1) (slots + 5) Q (F0 m (pc + 3) ls (.ref x.2.2.2.2 :: rest))) : W p l e R s m args below meth c H locs cells slots Q (F0 m pc ls (rest)) := by
  refine x_new (ci := 3) (fs := [.int 0, .int 0, .int 0, .null, .null]) C.1 C.2.1 C.2.2.2.2.1 iwX3 tyX3 tyX3_ok C.2.2.2.1 (C.2.2.2.2.1 (.classLink RX8 26 RX3) (tg 29 (by decide +kernel) rfl)) (C.2.2.2.2.1 (.instantiable RX3 5) (tg 720 (by decide +kernel) rfl)) (C.2.2.2.2.1 (.initialized RX3) (tg 17 (by decide +kernel) rfl)) C.K.1 hS rfl (fun j hj => by rcases (show j = 0 ∨ j = 1 ∨ j = 2 ∨ j = 3 ∨ j = 4 by omega) with rfl | rfl | rfl | rfl | rfl <;> rfl) hc1 hc2 hd (fun H1 hat ho hS1 => ?_)
  rw [hw.1]
  exact kk H1 (hw.setN (hn _ hS.1) hat ho (by have := (hw.2.2.1 26 (by decide)).lt; exact Nat.succ_le_of_lt this)) hS1
theorem sX8_249 {p : Program} {l : Launch} {e : Env} {R : Room} {s : State} {m : MethodId} {args : Array Value} {below : List Frame} {meth : Method} {c : Code} {H : Heap} {locs : List Loc} {cells slots : Nat} {Q : State → Prop} {cc : ByteArray} {pc nL : Nat} {ls : Array Slot} {rest : List Value} {ret : Option FieldType}  {G : xG} {β : Nat} {D : Nat → Prop} {x x' : XS} {a0 : Nat} {a1 : Int32} {a2 : Int32} {a3 : Int32} (C : Cx p s m args meth c RX8 cc nL ret (KK G)) (hk : dK x a0 3 = true) (hn : ∀ q, s.heap.size ≤ q → D q) (h : fX3_init x a0 a1 a2 a3 = some x') (hw : CW β D G x H) (hS : va_S D s.heap H locs) (hsz : ls.size = nL) (hW : (rest.map fun v => v.category).sum ≤ 8) (hR : 2 ≤ R.frames) (hR2 : 44 ≤ R.locals) (hcs : cells + 2 ≤ R.cells ∧ slots + 10 ≤ R.slots) (hd : decode cc pc = .ok (.invokespecial 249, 3)) (kk : ∀ (H1 : Heap) (locs1 : List Loc), CW β D G x' H1 → va_S D s.heap H1 locs1 → W p l e R s m args below meth c H1 locs1 (cells + 2) (slots + 10) Q (F0 m (pc + 3) ls (rest))) : W p l e R s m args below meth c H locs cells slots Q (F0 m pc ls (.int a3 :: .int a2 :: .int a1 :: .ref a0 :: rest)) := by
  obtain ⟨fs0, hfs0⟩ := dK_e hk
  exact xcallI C (As := [.int a1, .int a2, .int a3]) (rest := rest) (nA := 3) (kX3_init (hnx hw hS hn) h) (tg 721 (by decide +kernel) rfl) (tg 722 (by decide +kernel) rfl) (tg 17 (by decide +kernel) rfl) (tg 723 (by decide +kernel) rfl) rfl ⟨by decide +kernel, by decide +kernel, by decide +kernel⟩ rfl rfl ⟨hR, hR2⟩ hw hS (fun _ q => q) rfl rfl hsz hW hd hcs (fun H1 locs1 hw hz hk hS => kk H1 locs1 hw hS)
theorem asX_3 {p : Program} {l : Launch} {e : Env} {R : Room} {s : State} {m : MethodId} {args : Array Value} {below : List Frame} {meth : Method} {c : Code} {H : Heap} {locs : List Loc} {cells slots : Nat} {Q : State → Prop} {cc : ByteArray} {pc nL : Nat} {ls : Array Slot} {rest : List Value} {ret : Option FieldType}  {G : xG} {β : Nat} {D : Nat → Prop} {x : XS} {own : String} {i : Int32} {v : Nat} (C : Cx p s m args meth c own cc nL ret (KK G)) (hk : dK x v 3 = true) (hw : CW β D G x H) (hS : va_S D s.heap H locs) (hin : ib i 24) (hd : decode cc pc = .ok (.aastore, 1)) (kk : ∀ (H1 : Heap) (locs1 : List Loc), CW β D G (xsR x 3 i.toNatClampNeg (some v)) H1 → va_S D s.heap H1 locs1 → W p l e R s m args below meth c H1 locs1 cells slots Q (F0 m (pc + 1) ls (rest))) : W p l e R s m args below meth c H locs cells slots Q (F0 m pc ls (.ref v :: .int i :: .ref (β + 3) :: rest)) := by
  obtain ⟨vs, hv⟩ := dK_e hk
  exact x_astq (ci := 3) (vs := vs) C.1 C.2.1 C.K.1 hS 5 (hw.2.2.1 3 (by decide)) (hw.2.1 3 (by decide)) rfl (hw.2.2.2.1 v _ hv).2.2.2 rfl hin hd (fun H1 locs1 hat ho hS => kk H1 locs1 (hw.setR 3 _ _ hat ho) hS)
theorem sX8_261 {p : Program} {l : Launch} {e : Env} {R : Room} {s : State} {m : MethodId} {args : Array Value} {below : List Frame} {meth : Method} {c : Code} {H : Heap} {locs : List Loc} {cells slots : Nat} {Q : State → Prop} {cc : ByteArray} {pc nL : Nat} {ls : Array Slot} {rest : List Value} {ret : Option FieldType}  {G : xG} {β : Nat} {D : Nat → Prop} {x x' : XS} {a1 : Option Nat} (C : Cx p s m args meth c RX8 cc nL ret (KK G)) (h : fX8_leadAnew x a1 = some x') (hw : CW β D G x H) (hS : va_S D s.heap H locs) (hsz : ls.size = nL) (hW : (rest.map fun v => v.category).sum ≤ 8) (hR : 6 ≤ R.frames) (hR2 : 145 ≤ R.locals) (hcs : cells ≤ R.cells ∧ slots ≤ R.slots) (hd : decode cc pc = .ok (.invokevirtual 261, 3)) (kk : ∀ (H1 : Heap) (locs1 : List Loc), CW β D G x' H1 → va_S D s.heap H1 locs1 → W p l e R s m args below meth c H1 locs1 cells slots Q (F0 m (pc + 3) ls (rest))) : W p l e R s m args below meth c H locs cells slots Q (F0 m pc ls (va_rf a1 :: .ref β :: rest)) := by
  exact xcallV C (As := [va_rf a1]) (rest := rest) (nA := 1) (ci := 8) (kX8_leadAnew h) (tg 747 (by decide +kernel) rfl) (tg 749 (by decide +kernel) rfl) (sg (List.mem_of_getElem? (i := 42) (by decide +kernel)) rfl) (tg 1 (by decide +kernel) rfl) (tg 750 (by decide +kernel) rfl) ⟨rfl, by decide +kernel, by decide +kernel, by decide +kernel⟩ rfl rfl rfl ⟨hR, hR2⟩ (hw.2.2.1 0 (by decide)) hw hS (fun _ q => q) rfl rfl hsz hW hd hcs (fun H1 locs1 hw hz hk hS => kk H1 locs1 hw hS)
def BX8_race_80 (q3 : Int32) (q4 : Int32) (q5 : Nat) (lp : Int32 → XS → Option (XS)) (u6 : Int32) (x : XS) : Option (XS) := if q4 ≤ u6 then some x else Option.bind (dP x q5 3 3) fun v17 => if ib u6 5 then Option.bind (dAs x v17 u6 (x.2.1 23 u6.toNatClampNeg)) fun x20 => Option.bind (dP x20 q5 3 4) fun v22 => if ib u6 5 then Option.bind (fX8_leadOf x20 (x20.2.1 23 u6.toNatClampNeg)) fun v25 => Option.bind (dAs x20 v22 u6 v25) fun x27 => lt (u6 + 1) fun v29 => lp v29 x27 else none else none
def LX8_race_80 (q3 : Int32) (q4 : Int32) (q5 : Nat) : Nat → Int32 → XS → Option (XS)
  | 0, _, _ => none
  | n + 1, u6, x => BX8_race_80 q3 q4 q5 (LX8_race_80 q3 q4 q5 n) u6 x
def fX8_race (x : XS) (a1 : Int32) (a2 : Int32) (a3 : Int32) : Option (Int32 × XS) := bind2 (fX8_readOrder x a2) fun v1 x2 => Option.bind (fJ6_bitCount_0f7a4 v1) fun v4 => Option.bind (fX8_isWhen a1) fun v6 => if v6 = true then if v4 < 2 then some ((-2), x2) else Option.bind (fX8_isWithin a3 0 1) fun v8 => if v8 = true then Option.bind (fX8_lastDay x2) fun v10 => if v10 ≤ (irm a1 100) then if (x2.1 0 5) < 24 then lt x2.2.2.2.2 fun p12 => lt (xsN x2 (.inl (3, [.int 0, .int 0, .int 0, .null, .null]))) fun x13 => if dK x13 p12 3 = true then Option.bind (fX3_init x13 p12 (a1 / 100) (irm a1 100) v4) fun x15 => Option.bind (LX8_race_80 a3 v4 p12 NF 0 x15) fun x30 => if ib (x30.1 0 5) 24 then if dK x30 p12 3 = true then lt (xsR x30 3 (x30.1 0 5).toNatClampNeg (some p12)) fun x32 => lt (xsS x32 0 5 ((x32.1 0 5) + 1)) fun x34 => if a3 = 1 then Option.bind (fX8_leadAnew x34 (some p12)) fun x35 => some ((x35.1 0 5) - 1, x35) else some ((x34.1 0 5) - 1, x34) else none else none else none else some ((-4), x2) else some ((-2), x2) else some ((-2), x2) else some ((-2), x2)
set_option maxHeartbeats 4000000 in
set_option maxRecDepth 100000 in
theorem lX8_race_80 {p : Program} {l : Launch} {e : Env} {R : Room} {s : State} {m : MethodId} {args : Array Value} {below : List Frame} {meth : Method} {c : Code} {cells slots : Nat} {Q : State → Prop} {G : xG} {β : Nat} {D : Nat → Prop} (C : Cx p s m args meth c RX8 cX8_race 7 (some .int) (KK G)) (hRf : 6 ≤ R.frames) (hRl : 145 ≤ R.locals) (hcs : cells ≤ R.cells ∧ slots ≤ R.slots) (hf : Fz D G s.heap) (q3 : Int32) (q4 : Int32) (q5 : Nat) : ∀ (n : Nat) (u6 : Int32) (x : XS) (J : XS) (H : Heap) (locs : List Loc) (ls : Array Slot), LX8_race_80 q3 q4 q5 n u6 x = some J → CW β D G x H → va_S D s.heap H locs → lv_has ls 7 [(0, .ref β), (3, .int q3), (4, .int q4), (5, .ref q5), (6, .int u6)] → (∀ (x1 : XS), J = x1 → ∀ (H : Heap) (locs : List Loc) (ls : Array Slot), CW β D G x1 H → va_S D s.heap H locs → lv_has ls 7 [(0, .ref β), (3, .int q3), (5, .ref q5)] → W p l e R s m args below meth c H locs cells slots Q (F0 m 127 ls [])) → W p l e R s m args below meth c H locs cells slots Q (F0 m 80 ls []) := by
  have hx := C.1
  have hb := C.2.1
  have ho := C.2.2.2.1
  have hts := C.2.2.2.2.1
  intro n
  induction n with
  | zero =>
    intro u6 x J H locs ls hm
    exact absurd hm (by simp [LX8_race_80])
  | succ n ih =>
    intro u6 x J H locs ls hm hw hS hl ke
    replace hm : BX8_race_80 q3 q4 q5 (LX8_race_80 q3 q4 q5 n) u6 x = some J := hm
    unfold BX8_race_80 at hm
    refine lv_iload hx hb dX8_race_80 (lv_at hl 4 rfl) ?_
    refine lv_iload hx hb dX8_race_82 (lv_at hl 2 rfl) ?_
    refine lv_icmp_ge (tgt := 127) hx hb dX8_race_84 (by decide) (fun cc => ?_) (fun cc => ?_)
    · replace hm := ite_p cc hm
      exact ke _ (Option.some.inj hm).symm _ _ _ hw hS (lv_sub hl [0, 1, 3] rfl)
    · replace hm := ite_n cc hm
      refine lv_aload hx hb dX8_race_87 (lv_at hl 3 rfl) ?_
      obtain ⟨v17, h18, hm⟩ := bind_e hm
      refine gdX8_252 C h18 hw dX8_race_89 ?_
      refine lv_iload hx hb dX8_race_92 (lv_at hl 4 rfl) ?_
      refine lv_aload_n hx hb dX8_race_94 rfl (lv_at hl 0 rfl) ?_
      refine gX8_86 C hw dX8_race_95 ?_
      refine lv_iload hx hb dX8_race_98 (lv_at hl 4 rfl) ?_
      obtain ⟨h19, hm⟩ := chk_e hm
      refine alX_23 C hw h19 dX8_race_100 ?_
      obtain ⟨x20, h21, hm⟩ := bind_e hm
      refine x_dast C h21 hw hS dX8_race_101 (fun H locs hw hS => ?_)
      refine lv_aload hx hb dX8_race_102 (lv_at hl 3 rfl) ?_
      obtain ⟨v22, h23, hm⟩ := bind_e hm
      refine gdX8_255 C h23 hw dX8_race_104 ?_
      refine lv_iload hx hb dX8_race_107 (lv_at hl 4 rfl) ?_
      refine lv_aload_n hx hb dX8_race_109 rfl (lv_at hl 0 rfl) ?_
      refine lv_aload_n hx hb dX8_race_110 rfl (lv_at hl 0 rfl) ?_
      refine gX8_86 C hw dX8_race_111 ?_
      refine lv_iload hx hb dX8_race_114 (lv_at hl 4 rfl) ?_
      obtain ⟨h24, hm⟩ := chk_e hm
      refine alX_23 C hw h24 dX8_race_116 ?_
      obtain ⟨v25, h26, hm⟩ := bind_e hm
      refine sX8_258 C h26 hw hS hl.1 (Nat.le_of_ble_eq_true rfl) (Nat.le_trans (Nat.le_of_ble_eq_true rfl) hRf) (Nat.le_trans (Nat.le_of_ble_eq_true rfl) hRl) hcs dX8_race_117 (fun H locs hw hS => ?_)
      obtain ⟨x27, h28, hm⟩ := bind_e hm
      refine x_dast C h28 hw hS dX8_race_120 (fun H locs hw hS => ?_)
      obtain ⟨v29, ev, hm⟩ := lt_e hm
      refine lv_iinc (v := v29) (lv' := [(6, .int v29), (0, .ref β), (3, .int q3), (4, .int q4), (5, .ref q5)]) hx hb dX8_race_121 hl (k := 4) rfl (by rw [ev]; rfl) (by decide) rfl (fun ls hl => ?_)
      clear ev
      refine lv_goto (tgt := 80) hx hb dX8_race_124 (by decide) ?_
      exact ih _ _ _ _ _ _ hm hw hS (lv_sub hl [1, 2, 3, 4, 0] rfl) ke
abbrev rmX8_race : Room := { frames := 6, cells := 3, slots := 15, locals := 145 }
set_option maxHeartbeats 4000000 in
set_option maxRecDepth 100000 in
theorem kX8_race {l : Launch} {G : xG} {β : Nat} {D : Nat → Prop} {x x' : XS} {a1 : Int32} {a2 : Int32} {a3 : Int32} {r : Int32} (hn : ∀ q, x.2.2.2.2 ≤ q → D q) (hm : fX8_race x a1 a2 a3 = some (r, x')) : Met l yX8_race (.code yX8_race cX8_race 7 (some .int) :: GT) rmX8_race (PcW [.ref β, .int a1, .int a2, .int a3] (CW β D G x) (KK G)) (QcW D (some (.int r)) (CW β D G x')) 3 15 D := by
  unfold fX8_race at hm
  refine xpro (own := RX8) (by decide +kernel) rfl (Nat.le_of_ble_eq_true rfl) ?_
  intro p e s m args below meth c C hw ls hl
  have hx := C.1
  have hb := C.2.1
  have ho := C.2.2.2.1
  have hts := C.2.2.2.2.1
  have hf : Fz D G s.heap := hw.2.2.2.2
  have hn : ∀ q, s.heap.size ≤ q → D q := fun q h => hn q (by rw [← hw.1]; exact h)
  have hS : va_S D s.heap s.heap [] := va_S.rf
  have hl : lv_has ls 7 [(0, .ref β), (1, .int a1), (2, .int a2), (3, .int a3)] := hl
  have hRf : 6 ≤ rmX8_race.frames := Nat.le_refl _
  have hRl : 145 ≤ rmX8_race.locals := Nat.le_refl _
  have hcs : 0 ≤ rmX8_race.cells ∧ 0 ≤ rmX8_race.slots := ⟨Nat.zero_le _, Nat.zero_le _⟩
  refine lv_aload_n hx hb dX8_race_0 rfl (lv_at hl 0 rfl) ?_
  refine lv_iload_n hx hb dX8_race_1 rfl (lv_at hl 2 rfl) ?_
  obtain ⟨v1, x2, h3, hm⟩ := bind2_e hm
  refine sX8_214 C h3 hw hS hl.1 (Nat.le_of_ble_eq_true rfl) (Nat.le_trans (Nat.le_of_ble_eq_true rfl) hRf) (Nat.le_trans (Nat.le_of_ble_eq_true rfl) hRl) hcs dX8_race_2 (fun H locs hw hS => ?_)
  obtain ⟨v4, h5, hm⟩ := bind_e hm
  refine sX8_241 C h5 hw hS hl.1 (Nat.le_of_ble_eq_true rfl) (Nat.le_trans (Nat.le_of_ble_eq_true rfl) hRf) (Nat.le_trans (Nat.le_of_ble_eq_true rfl) hRl) hcs dX8_race_5 (fun H locs hw hS => ?_)
  refine lv_istore (lv' := [(4, .int v4), (0, .ref β), (1, .int a1), (2, .int a2), (3, .int a3)]) hx hb dX8_race_8 hl (by decide) rfl (fun ls hl => ?_)
  refine lv_iload_n hx hb dX8_race_10 rfl (lv_at hl 2 rfl) ?_
  obtain ⟨v6, h7, hm⟩ := bind_e hm
  refine sX8_190 C h7 hw hS hl.1 (Nat.le_of_ble_eq_true rfl) (Nat.le_trans (Nat.le_of_ble_eq_true rfl) hRf) (Nat.le_trans (Nat.le_of_ble_eq_true rfl) hRl) hcs dX8_race_11 (fun H locs hw hS => ?_)
  refine x_ifeqB hx hb dX8_race_14 (tgt := 43) (by decide) (fun cc => ?_) (fun cc => ?_)
  · replace hm := ite_n cc hm
    refine lv_bipush (v := (-2)) hx hb dX8_race_43 (by decide) ?_
    refine W.widen (k := 3) (n := 15) (Nat.le_of_ble_eq_true rfl) (Nat.le_of_ble_eq_true rfl) ?_
    obtain ⟨rfl, rfl⟩ := inj2 hm
    exact xret_i C hw hS dX8_race_45
  · replace hm := ite_p cc hm
    refine lv_iload hx hb dX8_race_17 (lv_at hl 0 rfl) ?_
    refine lv_iconst (v := 2) hx hb dX8_race_19 (by decide) ?_
    refine lv_icmp_lt (tgt := 43) hx hb dX8_race_20 (by decide) (fun cc => ?_) (fun cc => ?_)
    · replace hm := ite_p cc hm
      refine lv_bipush (v := (-2)) hx hb dX8_race_43 (by decide) ?_
      refine W.widen (k := 3) (n := 15) (Nat.le_of_ble_eq_true rfl) (Nat.le_of_ble_eq_true rfl) ?_
      obtain ⟨rfl, rfl⟩ := inj2 hm
      exact xret_i C hw hS dX8_race_45
    · replace hm := ite_n cc hm
      refine lv_iload_n hx hb dX8_race_23 rfl (lv_at hl 4 rfl) ?_
      refine lv_iconst (v := 0) hx hb dX8_race_24 (by decide) ?_
      refine lv_iconst (v := 1) hx hb dX8_race_25 (by decide) ?_
      obtain ⟨v8, h9, hm⟩ := bind_e hm
      refine sX8_138 C h9 hw hS hl.1 (Nat.le_of_ble_eq_true rfl) (Nat.le_trans (Nat.le_of_ble_eq_true rfl) hRf) (Nat.le_trans (Nat.le_of_ble_eq_true rfl) hRl) hcs dX8_race_26 (fun H locs hw hS => ?_)
      refine x_ifeqB hx hb dX8_race_29 (tgt := 43) (by decide) (fun cc => ?_) (fun cc => ?_)
      · replace hm := ite_n cc hm
        refine lv_bipush (v := (-2)) hx hb dX8_race_43 (by decide) ?_
        refine W.widen (k := 3) (n := 15) (Nat.le_of_ble_eq_true rfl) (Nat.le_of_ble_eq_true rfl) ?_
        obtain ⟨rfl, rfl⟩ := inj2 hm
        exact xret_i C hw hS dX8_race_45
      · replace hm := ite_p cc hm
        refine lv_iload_n hx hb dX8_race_32 rfl (lv_at hl 2 rfl) ?_
        refine lv_bipush (v := 100) hx hb dX8_race_33 (by decide) ?_
        refine lv_irem hx hb dX8_race_35 (by decide) ?_
        refine lv_aload_n hx hb dX8_race_36 rfl (lv_at hl 1 rfl) ?_
        obtain ⟨v10, h11, hm⟩ := bind_e hm
        refine sX8_246 C h11 hw hS hl.1 (Nat.le_of_ble_eq_true rfl) (Nat.le_trans (Nat.le_of_ble_eq_true rfl) hRf) (Nat.le_trans (Nat.le_of_ble_eq_true rfl) hRl) hcs dX8_race_37 (fun H locs hw hS => ?_)
        refine lv_icmp_ge (tgt := 46) hx hb dX8_race_40 (by decide) (fun cc => ?_) (fun cc => ?_)
        · replace hm := ite_p cc hm
          refine lv_aload_n hx hb dX8_race_46 rfl (lv_at hl 1 rfl) ?_
          refine gX8_32 C hw dX8_race_47 ?_
          refine lv_bipush (v := 24) hx hb dX8_race_50 (by decide) ?_
          refine lv_icmp_lt (tgt := 58) hx hb dX8_race_52 (by decide) (fun cc => ?_) (fun cc => ?_)
          · replace hm := ite_p cc hm
            refine nwX8_26 C hn hw hS (Nat.le_of_ble_eq_true rfl) (Nat.le_of_ble_eq_true rfl) dX8_race_58 (fun H hw hS => ?_)
            obtain ⟨p12, ep, hm⟩ := lt_e hm
            rw [← ep]
            clear ep
            obtain ⟨x13, ev, hm⟩ := lt_e hm
            rw [← ev] at hw
            clear ev
            refine W.widen (k := 1) (n := 5) (Nat.le_of_ble_eq_true rfl) (Nat.le_of_ble_eq_true rfl) ?_
            have hcs : 1 ≤ rmX8_race.cells ∧ 5 ≤ rmX8_race.slots := ⟨Nat.le_of_ble_eq_true rfl, Nat.le_of_ble_eq_true rfl⟩
            refine lv_dup hx hb dX8_race_61 rfl ?_
            refine lv_iload_n hx hb dX8_race_62 rfl (lv_at hl 2 rfl) ?_
            refine lv_bipush (v := 100) hx hb dX8_race_63 (by decide) ?_
            refine lv_idiv hx hb dX8_race_65 (by decide) ?_
            refine lv_iload_n hx hb dX8_race_66 rfl (lv_at hl 2 rfl) ?_
            refine lv_bipush (v := 100) hx hb dX8_race_67 (by decide) ?_
            refine lv_irem hx hb dX8_race_69 (by decide) ?_
            refine lv_iload hx hb dX8_race_70 (lv_at hl 0 rfl) ?_
            obtain ⟨h14, hm⟩ := chk_e hm
            obtain ⟨x15, h16, hm⟩ := bind_e hm
            refine sX8_249 C h14 hn h16 hw hS hl.1 (Nat.le_of_ble_eq_true rfl) (Nat.le_trans (Nat.le_of_ble_eq_true rfl) hRf) (Nat.le_trans (Nat.le_of_ble_eq_true rfl) hRl) ⟨Nat.le_of_ble_eq_true rfl, Nat.le_of_ble_eq_true rfl⟩ dX8_race_72 (fun H locs hw hS => ?_)
            refine W.widen (k := 3) (n := 15) (Nat.le_of_ble_eq_true rfl) (Nat.le_of_ble_eq_true rfl) ?_
            have hcs : 3 ≤ rmX8_race.cells ∧ 15 ≤ rmX8_race.slots := ⟨Nat.le_of_ble_eq_true rfl, Nat.le_of_ble_eq_true rfl⟩
            refine lv_astore (lv' := [(5, .ref p12), (4, .int v4), (0, .ref β), (1, .int a1), (2, .int a2), (3, .int a3)]) hx hb dX8_race_75 hl (by decide) rfl (fun ls hl => ?_)
            refine lv_iconst (v := 0) hx hb dX8_race_77 (by decide) ?_
            refine lv_istore (lv' := [(6, .int 0), (5, .ref p12), (4, .int v4), (0, .ref β), (1, .int a1), (2, .int a2), (3, .int a3)]) hx hb dX8_race_78 hl (by decide) rfl (fun ls hl => ?_)
            obtain ⟨x30, hj, hm⟩ := bind_e hm
            refine lX8_race_80 C hRf hRl hcs hf a3 v4 p12 NF _ _ _ _ _ _ hj hw hS (lv_sub hl [3, 6, 2, 1, 0] rfl) (fun x30_ e0 H locs ls hw hS hl => ?_)
            cases e0
            refine lv_aload_n hx hb dX8_race_127 rfl (lv_at hl 0 rfl) ?_
            refine gX8_28 C hw dX8_race_128 ?_
            refine lv_aload_n hx hb dX8_race_131 rfl (lv_at hl 0 rfl) ?_
            refine gX8_32 C hw dX8_race_132 ?_
            refine lv_aload hx hb dX8_race_135 (lv_at hl 2 rfl) ?_
            obtain ⟨h31, hm⟩ := chk_e hm
            obtain ⟨h33, hm⟩ := chk_e hm
            refine asX_3 C h33 hw hS h31 dX8_race_137 (fun H locs hw hS => ?_)
            obtain ⟨x32, ev, hm⟩ := lt_e hm
            rw [← ev] at hw
            clear ev
            refine lv_aload_n hx hb dX8_race_138 rfl (lv_at hl 0 rfl) ?_
            refine lv_dup hx hb dX8_race_139 rfl ?_
            refine gX8_32 C hw dX8_race_140 ?_
            refine lv_iconst (v := 1) hx hb dX8_race_143 (by decide) ?_
            refine lv_iadd hx hb dX8_race_144 ?_
            refine pX8_32 C hw hS dX8_race_145 (fun H locs hw hS => ?_)
            obtain ⟨x34, ev, hm⟩ := lt_e hm
            rw [← ev] at hw
            clear ev
            refine lv_iload_n hx hb dX8_race_148 rfl (lv_at hl 1 rfl) ?_
            refine lv_iconst (v := 1) hx hb dX8_race_149 (by decide) ?_
            refine lv_icmp_ne (tgt := 159) hx hb dX8_race_150 (by decide) (fun cc => ?_) (fun cc => ?_)
            · replace hm := ite_n cc hm
              refine lv_aload_n hx hb dX8_race_159 rfl (lv_at hl 0 rfl) ?_
              refine gX8_32 C hw dX8_race_160 ?_
              refine lv_iconst (v := 1) hx hb dX8_race_163 (by decide) ?_
              refine lv_isub hx hb dX8_race_164 ?_
              obtain ⟨rfl, rfl⟩ := inj2 hm
              exact xret_i C hw hS dX8_race_165
            · replace hm := ite_p cc hm
              refine lv_aload_n hx hb dX8_race_153 rfl (lv_at hl 0 rfl) ?_
              refine lv_aload hx hb dX8_race_154 (lv_at hl 2 rfl) ?_
              obtain ⟨x35, h36, hm⟩ := bind_e hm
              refine sX8_261 (a1 := (some p12)) C h36 hw hS hl.1 (Nat.le_of_ble_eq_true rfl) (Nat.le_trans (Nat.le_of_ble_eq_true rfl) hRf) (Nat.le_trans (Nat.le_of_ble_eq_true rfl) hRl) hcs dX8_race_156 (fun H locs hw hS => ?_)
              refine lv_aload_n hx hb dX8_race_159 rfl (lv_at hl 0 rfl) ?_
              refine gX8_32 C hw dX8_race_160 ?_
              refine lv_iconst (v := 1) hx hb dX8_race_163 (by decide) ?_
              refine lv_isub hx hb dX8_race_164 ?_
              obtain ⟨rfl, rfl⟩ := inj2 hm
              exact xret_i C hw hS dX8_race_165
          · replace hm := ite_n cc hm
            refine lv_bipush (v := (-4)) hx hb dX8_race_55 (by decide) ?_
            refine W.widen (k := 3) (n := 15) (Nat.le_of_ble_eq_true rfl) (Nat.le_of_ble_eq_true rfl) ?_
            obtain ⟨rfl, rfl⟩ := inj2 hm
            exact xret_i C hw hS dX8_race_57
        · replace hm := ite_n cc hm
          refine lv_bipush (v := (-2)) hx hb dX8_race_43 (by decide) ?_
          refine W.widen (k := 3) (n := 15) (Nat.le_of_ble_eq_true rfl) (Nat.le_of_ble_eq_true rfl) ?_
          obtain ⟨rfl, rfl⟩ := inj2 hm
          exact xret_i C hw hS dX8_race_45
theorem dX8_sheet_0 : decode cX8_sheet 0 = .ok (.iload_n 1, 1) := by decide +kernel
theorem dX8_sheet_1 : decode cX8_sheet 1 = .ok (.invokestatic 331, 3) := by decide +kernel
theorem dX8_sheet_4 : decode cX8_sheet 4 = .ok (.ifCond .eq 12, 3) := by decide +kernel
theorem dX8_sheet_7 : decode cX8_sheet 7 = .ok (.iload_n 2, 1) := by decide +kernel
theorem dX8_sheet_8 : decode cX8_sheet 8 = .ok (.iconst (-1), 1) := by decide +kernel
theorem dX8_sheet_9 : decode cX8_sheet 9 = .ok (.iconst 2, 1) := by decide +kernel
theorem dX8_sheet_10 : decode cX8_sheet 10 = .ok (.invokestatic 138, 3) := by decide +kernel
theorem dX8_sheet_13 : decode cX8_sheet 13 = .ok (.ifCond .ne 6, 3) := by decide +kernel
theorem dX8_sheet_16 : decode cX8_sheet 16 = .ok (.bipush (-2), 2) := by decide +kernel
theorem dX8_sheet_18 : decode cX8_sheet 18 = .ok (.ireturn, 1) := by decide +kernel
theorem dX8_sheet_19 : decode cX8_sheet 19 = .ok (.iload_n 2, 1) := by decide +kernel
theorem dX8_sheet_20 : decode cX8_sheet 20 = .ok (.iconst (-1), 1) := by decide +kernel
theorem dX8_sheet_21 : decode cX8_sheet 21 = .ok (.if_icmp .ne 12, 3) := by decide +kernel
theorem dX8_sheet_24 : decode cX8_sheet 24 = .ok (.aload_n 0, 1) := by decide +kernel
theorem dX8_sheet_25 : decode cX8_sheet 25 = .ok (.getfield 65, 3) := by decide +kernel
theorem dX8_sheet_28 : decode cX8_sheet 28 = .ok (.iload_n 1, 1) := by decide +kernel
theorem dX8_sheet_29 : decode cX8_sheet 29 = .ok (.aconst_null, 1) := by decide +kernel
theorem dX8_sheet_30 : decode cX8_sheet 30 = .ok (.aastore, 1) := by decide +kernel
theorem dX8_sheet_31 : decode cX8_sheet 31 = .ok (.iconst 1, 1) := by decide +kernel
theorem dX8_sheet_32 : decode cX8_sheet 32 = .ok (.ireturn, 1) := by decide +kernel
theorem dX8_sheet_33 : decode cX8_sheet 33 = .ok (.iload_n 3, 1) := by decide +kernel
theorem dX8_sheet_34 : decode cX8_sheet 34 = .ok (.bipush 40, 2) := by decide +kernel
theorem dX8_sheet_36 : decode cX8_sheet 36 = .ok (.if_icmp .le 6, 3) := by decide +kernel
theorem dX8_sheet_39 : decode cX8_sheet 39 = .ok (.bipush (-2), 2) := by decide +kernel
theorem dX8_sheet_41 : decode cX8_sheet 41 = .ok (.ireturn, 1) := by decide +kernel
theorem dX8_sheet_42 : decode cX8_sheet 42 = .ok (.iload_n 3, 1) := by decide +kernel
theorem dX8_sheet_43 : decode cX8_sheet 43 = .ok (.ifCond .ge 6, 3) := by decide +kernel
theorem dX8_sheet_46 : decode cX8_sheet 46 = .ok (.bipush (-14), 2) := by decide +kernel
theorem dX8_sheet_48 : decode cX8_sheet 48 = .ok (.ireturn, 1) := by decide +kernel
theorem dX8_sheet_49 : decode cX8_sheet 49 = .ok (.aload_n 0, 1) := by decide +kernel
theorem dX8_sheet_50 : decode cX8_sheet 50 = .ok (.getfield 65, 3) := by decide +kernel
theorem dX8_sheet_53 : decode cX8_sheet 53 = .ok (.iload_n 1, 1) := by decide +kernel
theorem dX8_sheet_54 : decode cX8_sheet 54 = .ok (.new 63, 3) := by decide +kernel
theorem dX8_sheet_57 : decode cX8_sheet 57 = .ok (.dup, 1) := by decide +kernel
theorem dX8_sheet_58 : decode cX8_sheet 58 = .ok (.iload_n 2, 1) := by decide +kernel
theorem dX8_sheet_59 : decode cX8_sheet 59 = .ok (.iload_n 3, 1) := by decide +kernel
theorem dX8_sheet_60 : decode cX8_sheet 60 = .ok (.invokespecial 334, 3) := by decide +kernel
theorem dX8_sheet_63 : decode cX8_sheet 63 = .ok (.aastore, 1) := by decide +kernel
theorem dX8_sheet_64 : decode cX8_sheet 64 = .ok (.iconst 1, 1) := by decide +kernel
theorem dX8_sheet_65 : decode cX8_sheet 65 = .ok (.ireturn, 1) := by decide +kernel
theorem nwX8_63 {p : Program} {l : Launch} {e : Env} {R : Room} {s : State} {m : MethodId} {args : Array Value} {below : List Frame} {meth : Method} {c : Code} {H : Heap} {locs : List Loc} {cells slots : Nat} {Q : State → Prop} {cc : ByteArray} {pc nL : Nat} {ls : Array Slot} {rest : List Value} {ret : Option FieldType}  {G : xG} {β : Nat} {D : Nat → Prop} {x : XS} (C : Cx p s m args meth c RX8 cc nL ret (KK G)) (hn : ∀ q, s.heap.size ≤ q → D q) (hw : CW β D G x H) (hS : va_S D s.heap H locs) (hc1 : cells + 1 ≤ R.cells) (hc2 : slots + 2 ≤ R.slots) (hd : decode cc pc = .ok (.new 63, 3)) (kk : ∀ (H1 : Heap), CW β D G (xsN x (.inl (5, [.int 0, .null]))) H1 → va_S D s.heap H1 locs → W p l e R s m args below meth c H1 locs (cells + 1) (slots + 2) Q (F0 m (pc + 3) ls (.ref x.2.2.2.2 :: rest))) : W p l e R s m args below meth c H locs cells slots Q (F0 m pc ls (rest)) := by
  refine x_new (ci := 5) (fs := [.int 0, .null]) C.1 C.2.1 C.2.2.2.2.1 iwX5 tyX5 tyX5_ok C.2.2.2.1 (C.2.2.2.2.1 (.classLink RX8 63 RX5) (tg 83 (by decide +kernel) rfl)) (C.2.2.2.2.1 (.instantiable RX5 2) (tg 854 (by decide +kernel) rfl)) (C.2.2.2.2.1 (.initialized RX5) (tg 18 (by decide +kernel) rfl)) C.K.1 hS rfl (fun j hj => by rcases (show j = 0 ∨ j = 1 by omega) with rfl | rfl <;> rfl) hc1 hc2 hd (fun H1 hat ho hS1 => ?_)
  rw [hw.1]
  exact kk H1 (hw.setN (hn _ hS.1) hat ho (by have := (hw.2.2.1 26 (by decide)).lt; exact Nat.succ_le_of_lt this)) hS1
theorem sX8_334 {p : Program} {l : Launch} {e : Env} {R : Room} {s : State} {m : MethodId} {args : Array Value} {below : List Frame} {meth : Method} {c : Code} {H : Heap} {locs : List Loc} {cells slots : Nat} {Q : State → Prop} {cc : ByteArray} {pc nL : Nat} {ls : Array Slot} {rest : List Value} {ret : Option FieldType}  {G : xG} {β : Nat} {D : Nat → Prop} {x x' : XS} {a0 : Nat} {a1 : Int32} {a2 : Int32} (C : Cx p s m args meth c RX8 cc nL ret (KK G)) (hk : dK x a0 5 = true) (hn : ∀ q, s.heap.size ≤ q → D q) (h : fX5_init x a0 a1 a2 = some x') (hw : CW β D G x H) (hS : va_S D s.heap H locs) (hsz : ls.size = nL) (hW : (rest.map fun v => v.category).sum ≤ 8) (hR : 2 ≤ R.frames) (hR2 : 43 ≤ R.locals) (hcs : cells + 1 ≤ R.cells ∧ slots + 40 ≤ R.slots) (hd : decode cc pc = .ok (.invokespecial 334, 3)) (kk : ∀ (H1 : Heap) (locs1 : List Loc), CW β D G x' H1 → va_S D s.heap H1 locs1 → W p l e R s m args below meth c H1 locs1 (cells + 1) (slots + 40) Q (F0 m (pc + 3) ls (rest))) : W p l e R s m args below meth c H locs cells slots Q (F0 m pc ls (.int a2 :: .int a1 :: .ref a0 :: rest)) := by
  obtain ⟨fs0, hfs0⟩ := dK_e hk
  exact xcallI C (As := [.int a1, .int a2]) (rest := rest) (nA := 2) (kX5_init (hnx hw hS hn) h) (tg 855 (by decide +kernel) rfl) (tg 856 (by decide +kernel) rfl) (tg 18 (by decide +kernel) rfl) (tg 857 (by decide +kernel) rfl) rfl ⟨by decide +kernel, by decide +kernel, by decide +kernel⟩ rfl rfl ⟨hR, hR2⟩ hw hS (fun _ q => q) rfl rfl hsz hW hd hcs (fun H1 locs1 hw hz hk hS => kk H1 locs1 hw hS)
theorem asX_10 {p : Program} {l : Launch} {e : Env} {R : Room} {s : State} {m : MethodId} {args : Array Value} {below : List Frame} {meth : Method} {c : Code} {H : Heap} {locs : List Loc} {cells slots : Nat} {Q : State → Prop} {cc : ByteArray} {pc nL : Nat} {ls : Array Slot} {rest : List Value} {ret : Option FieldType}  {G : xG} {β : Nat} {D : Nat → Prop} {x : XS} {own : String} {i : Int32} {v : Nat} (C : Cx p s m args meth c own cc nL ret (KK G)) (hk : dK x v 5 = true) (hw : CW β D G x H) (hS : va_S D s.heap H locs) (hin : ib i 4) (hd : decode cc pc = .ok (.aastore, 1)) (kk : ∀ (H1 : Heap) (locs1 : List Loc), CW β D G (xsR x 10 i.toNatClampNeg (some v)) H1 → va_S D s.heap H1 locs1 → W p l e R s m args below meth c H1 locs1 cells slots Q (F0 m (pc + 1) ls (rest))) : W p l e R s m args below meth c H locs cells slots Q (F0 m pc ls (.ref v :: .int i :: .ref (β + 10) :: rest)) := by
  obtain ⟨vs, hv⟩ := dK_e hk
  exact x_astq (ci := 5) (vs := vs) C.1 C.2.1 C.K.1 hS 6 (hw.2.2.1 10 (by decide)) (hw.2.1 10 (by decide)) rfl (hw.2.2.2.1 v _ hv).2.2.2 rfl hin hd (fun H1 locs1 hat ho hS => kk H1 locs1 (hw.setR 10 _ _ hat ho) hS)
theorem asXn_10 {p : Program} {l : Launch} {e : Env} {R : Room} {s : State} {m : MethodId} {args : Array Value} {below : List Frame} {meth : Method} {c : Code} {H : Heap} {locs : List Loc} {cells slots : Nat} {Q : State → Prop} {cc : ByteArray} {pc nL : Nat} {ls : Array Slot} {rest : List Value} {ret : Option FieldType}  {G : xG} {β : Nat} {D : Nat → Prop} {x : XS} {own : String} {i : Int32} (C : Cx p s m args meth c own cc nL ret (KK G)) (hw : CW β D G x H) (hS : va_S D s.heap H locs) (hin : ib i 4) (hd : decode cc pc = .ok (.aastore, 1)) (kk : ∀ (H1 : Heap) (locs1 : List Loc), CW β D G (xsR x 10 i.toNatClampNeg none) H1 → va_S D s.heap H1 locs1 → W p l e R s m args below meth c H1 locs1 cells slots Q (F0 m (pc + 1) ls (rest))) : W p l e R s m args below meth c H locs cells slots Q (F0 m pc ls (.null :: .int i :: .ref (β + 10) :: rest)) :=
  x_astqN (C := "AtThePost$Sheet") C.1 C.2.1 C.K.1 hS 6 (hw.2.2.1 10 (by decide)) (hw.2.1 10 (by decide)) rfl hin hd (fun H1 locs1 hat ho hS => kk H1 locs1 (hw.setR 10 _ _ hat ho) hS)
def fX8_sheet (x : XS) (a1 : Int32) (a2 : Int32) (a3 : Int32) : Option (Int32 × XS) := Option.bind (fX8_isSheet a1) fun v1 => if v1 = true then Option.bind (fX8_isWithin a2 (-1) 2) fun v3 => if v3 = true then if a2 = (-1) then if ib a1 4 then lt (xsR x 10 a1.toNatClampNeg none) fun x14 => some (1, x14) else none else if a3 ≤ 40 then if 0 ≤ a3 then lt x.2.2.2.2 fun p5 => lt (xsN x (.inl (5, [.int 0, .null]))) fun x6 => if dK x6 p5 5 = true then Option.bind (fX5_init x6 p5 a2 a3) fun x8 => if ib a1 4 then if dK x8 p5 5 = true then lt (xsR x8 10 a1.toNatClampNeg (some p5)) fun x11 => some (1, x11) else none else none else none else some ((-14), x) else some ((-2), x) else some ((-2), x) else some ((-2), x)
abbrev rmX8_sheet : Room := { frames := 2, cells := 2, slots := 42, locals := 43 }
set_option maxHeartbeats 4000000 in
set_option maxRecDepth 100000 in
theorem kX8_sheet {l : Launch} {G : xG} {β : Nat} {D : Nat → Prop} {x x' : XS} {a1 : Int32} {a2 : Int32} {a3 : Int32} {r : Int32} (hn : ∀ q, x.2.2.2.2 ≤ q → D q) (hm : fX8_sheet x a1 a2 a3 = some (r, x')) : Met l yX8_sheet (.code yX8_sheet cX8_sheet 4 (some .int) :: GT) rmX8_sheet (PcW [.ref β, .int a1, .int a2, .int a3] (CW β D G x) (KK G)) (QcW D (some (.int r)) (CW β D G x')) 2 42 D := by
  unfold fX8_sheet at hm
  refine xpro (own := RX8) (by decide +kernel) rfl (Nat.le_of_ble_eq_true rfl) ?_
  intro p e s m args below meth c C hw ls hl
  have hx := C.1
  have hb := C.2.1
  have ho := C.2.2.2.1
  have hts := C.2.2.2.2.1
  have hf : Fz D G s.heap := hw.2.2.2.2
  have hn : ∀ q, s.heap.size ≤ q → D q := fun q h => hn q (by rw [← hw.1]; exact h)
  have hS : va_S D s.heap s.heap [] := va_S.rf
  have hl : lv_has ls 4 [(0, .ref β), (1, .int a1), (2, .int a2), (3, .int a3)] := hl
  have hRf : 2 ≤ rmX8_sheet.frames := Nat.le_refl _
  have hRl : 43 ≤ rmX8_sheet.locals := Nat.le_refl _
  have hcs : 0 ≤ rmX8_sheet.cells ∧ 0 ≤ rmX8_sheet.slots := ⟨Nat.zero_le _, Nat.zero_le _⟩
  refine lv_iload_n hx hb dX8_sheet_0 rfl (lv_at hl 1 rfl) ?_
  obtain ⟨v1, h2, hm⟩ := bind_e hm
  refine sX8_331 C h2 hw hS hl.1 (Nat.le_of_ble_eq_true rfl) (Nat.le_trans (Nat.le_of_ble_eq_true rfl) hRf) (Nat.le_trans (Nat.le_of_ble_eq_true rfl) hRl) hcs dX8_sheet_1 (fun H locs hw hS => ?_)
  refine x_ifeqB hx hb dX8_sheet_4 (tgt := 16) (by decide) (fun cc => ?_) (fun cc => ?_)
  · replace hm := ite_n cc hm
    refine lv_bipush (v := (-2)) hx hb dX8_sheet_16 (by decide) ?_
    refine W.widen (k := 2) (n := 42) (Nat.le_of_ble_eq_true rfl) (Nat.le_of_ble_eq_true rfl) ?_
    obtain ⟨rfl, rfl⟩ := inj2 hm
    exact xret_i C hw hS dX8_sheet_18
  · replace hm := ite_p cc hm
    refine lv_iload_n hx hb dX8_sheet_7 rfl (lv_at hl 2 rfl) ?_
    refine lv_iconst (v := (-1)) hx hb dX8_sheet_8 (by decide) ?_
    refine lv_iconst (v := 2) hx hb dX8_sheet_9 (by decide) ?_
    obtain ⟨v3, h4, hm⟩ := bind_e hm
    refine sX8_138 C h4 hw hS hl.1 (Nat.le_of_ble_eq_true rfl) (Nat.le_trans (Nat.le_of_ble_eq_true rfl) hRf) (Nat.le_trans (Nat.le_of_ble_eq_true rfl) hRl) hcs dX8_sheet_10 (fun H locs hw hS => ?_)
    refine x_ifneB hx hb dX8_sheet_13 (tgt := 19) (by decide) (fun cc => ?_) (fun cc => ?_)
    · replace hm := ite_p cc hm
      refine lv_iload_n hx hb dX8_sheet_19 rfl (lv_at hl 2 rfl) ?_
      refine lv_iconst (v := (-1)) hx hb dX8_sheet_20 (by decide) ?_
      refine lv_icmp_ne (tgt := 33) hx hb dX8_sheet_21 (by decide) (fun cc => ?_) (fun cc => ?_)
      · replace hm := ite_n cc hm
        refine lv_iload_n hx hb dX8_sheet_33 rfl (lv_at hl 3 rfl) ?_
        refine lv_bipush (v := 40) hx hb dX8_sheet_34 (by decide) ?_
        refine lv_icmp_le (tgt := 42) hx hb dX8_sheet_36 (by decide) (fun cc => ?_) (fun cc => ?_)
        · replace hm := ite_p cc hm
          refine lv_iload_n hx hb dX8_sheet_42 rfl (lv_at hl 3 rfl) ?_
          refine lv_if_ge (tgt := 49) hx hb dX8_sheet_43 (by decide) (fun cc => ?_) (fun cc => ?_)
          · replace hm := ite_p cc hm
            refine lv_aload_n hx hb dX8_sheet_49 rfl (lv_at hl 0 rfl) ?_
            refine gX8_65 C hw dX8_sheet_50 ?_
            refine lv_iload_n hx hb dX8_sheet_53 rfl (lv_at hl 1 rfl) ?_
            refine nwX8_63 C hn hw hS (Nat.le_of_ble_eq_true rfl) (Nat.le_of_ble_eq_true rfl) dX8_sheet_54 (fun H hw hS => ?_)
            obtain ⟨p5, ep, hm⟩ := lt_e hm
            rw [← ep]
            clear ep
            obtain ⟨x6, ev, hm⟩ := lt_e hm
            rw [← ev] at hw
            clear ev
            refine W.widen (k := 1) (n := 2) (Nat.le_of_ble_eq_true rfl) (Nat.le_of_ble_eq_true rfl) ?_
            have hcs : 1 ≤ rmX8_sheet.cells ∧ 2 ≤ rmX8_sheet.slots := ⟨Nat.le_of_ble_eq_true rfl, Nat.le_of_ble_eq_true rfl⟩
            refine lv_dup hx hb dX8_sheet_57 rfl ?_
            refine lv_iload_n hx hb dX8_sheet_58 rfl (lv_at hl 2 rfl) ?_
            refine lv_iload_n hx hb dX8_sheet_59 rfl (lv_at hl 3 rfl) ?_
            obtain ⟨h7, hm⟩ := chk_e hm
            obtain ⟨x8, h9, hm⟩ := bind_e hm
            refine sX8_334 C h7 hn h9 hw hS hl.1 (Nat.le_of_ble_eq_true rfl) (Nat.le_trans (Nat.le_of_ble_eq_true rfl) hRf) (Nat.le_trans (Nat.le_of_ble_eq_true rfl) hRl) ⟨Nat.le_of_ble_eq_true rfl, Nat.le_of_ble_eq_true rfl⟩ dX8_sheet_60 (fun H locs hw hS => ?_)
            refine W.widen (k := 2) (n := 42) (Nat.le_of_ble_eq_true rfl) (Nat.le_of_ble_eq_true rfl) ?_
            have hcs : 2 ≤ rmX8_sheet.cells ∧ 42 ≤ rmX8_sheet.slots := ⟨Nat.le_of_ble_eq_true rfl, Nat.le_of_ble_eq_true rfl⟩
            obtain ⟨h10, hm⟩ := chk_e hm
            obtain ⟨h12, hm⟩ := chk_e hm
            refine asX_10 C h12 hw hS h10 dX8_sheet_63 (fun H locs hw hS => ?_)
            obtain ⟨x11, ev, hm⟩ := lt_e hm
            rw [← ev] at hw
            clear ev
            refine lv_iconst (v := 1) hx hb dX8_sheet_64 (by decide) ?_
            obtain ⟨rfl, rfl⟩ := inj2 hm
            exact xret_i C hw hS dX8_sheet_65
          · replace hm := ite_n cc hm
            refine lv_bipush (v := (-14)) hx hb dX8_sheet_46 (by decide) ?_
            refine W.widen (k := 2) (n := 42) (Nat.le_of_ble_eq_true rfl) (Nat.le_of_ble_eq_true rfl) ?_
            obtain ⟨rfl, rfl⟩ := inj2 hm
            exact xret_i C hw hS dX8_sheet_48
        · replace hm := ite_n cc hm
          refine lv_bipush (v := (-2)) hx hb dX8_sheet_39 (by decide) ?_
          refine W.widen (k := 2) (n := 42) (Nat.le_of_ble_eq_true rfl) (Nat.le_of_ble_eq_true rfl) ?_
          obtain ⟨rfl, rfl⟩ := inj2 hm
          exact xret_i C hw hS dX8_sheet_41
      · replace hm := ite_p cc hm
        refine lv_aload_n hx hb dX8_sheet_24 rfl (lv_at hl 0 rfl) ?_
        refine gX8_65 C hw dX8_sheet_25 ?_
        refine lv_iload_n hx hb dX8_sheet_28 rfl (lv_at hl 1 rfl) ?_
        refine lv_null hx hb dX8_sheet_29 ?_
        obtain ⟨h13, hm⟩ := chk_e hm
        refine asXn_10 C hw hS h13 dX8_sheet_30 (fun H locs hw hS => ?_)
        obtain ⟨x14, ev, hm⟩ := lt_e hm
        rw [← ev] at hw
        clear ev
        refine lv_iconst (v := 1) hx hb dX8_sheet_31 (by decide) ?_
        refine W.widen (k := 2) (n := 42) (Nat.le_of_ble_eq_true rfl) (Nat.le_of_ble_eq_true rfl) ?_
        obtain ⟨rfl, rfl⟩ := inj2 hm
        exact xret_i C hw hS dX8_sheet_32
    · replace hm := ite_n cc hm
      refine lv_bipush (v := (-2)) hx hb dX8_sheet_16 (by decide) ?_
      refine W.widen (k := 2) (n := 42) (Nat.le_of_ble_eq_true rfl) (Nat.le_of_ble_eq_true rfl) ?_
      obtain ⟨rfl, rfl⟩ := inj2 hm
      exact xret_i C hw hS dX8_sheet_18
theorem dX8_text_0 : decode cX8_text 0 = .ok (.aload_n 0, 1) := by decide +kernel
theorem dX8_text_1 : decode cX8_text 1 = .ok (.getfield 57, 3) := by decide +kernel
theorem dX8_text_4 : decode cX8_text 4 = .ok (.bipush 6, 2) := by decide +kernel
theorem dX8_text_6 : decode cX8_text 6 = .ok (.if_icmp .lt 6, 3) := by decide +kernel
theorem dX8_text_9 : decode cX8_text 9 = .ok (.bipush (-4), 2) := by decide +kernel
theorem dX8_text_11 : decode cX8_text 11 = .ok (.ireturn, 1) := by decide +kernel
theorem dX8_text_12 : decode cX8_text 12 = .ok (.aload_n 0, 1) := by decide +kernel
theorem dX8_text_13 : decode cX8_text 13 = .ok (.getfield 47, 3) := by decide +kernel
theorem dX8_text_16 : decode cX8_text 16 = .ok (.invokevirtual 120, 3) := by decide +kernel
theorem dX8_text_19 : decode cX8_text 19 = .ok (.astore_n 1, 1) := by decide +kernel
theorem dX8_text_20 : decode cX8_text 20 = .ok (.aload_n 0, 1) := by decide +kernel
theorem dX8_text_21 : decode cX8_text 21 = .ok (.getfield 38, 3) := by decide +kernel
theorem dX8_text_24 : decode cX8_text 24 = .ok (.getfield 238, 3) := by decide +kernel
theorem dX8_text_27 : decode cX8_text 27 = .ok (.istore_n 2, 1) := by decide +kernel
theorem dX8_text_28 : decode cX8_text 28 = .ok (.aload_n 0, 1) := by decide +kernel
theorem dX8_text_29 : decode cX8_text 29 = .ok (.getfield 38, 3) := by decide +kernel
theorem dX8_text_32 : decode cX8_text 32 = .ok (.invokevirtual 124, 3) := by decide +kernel
theorem dX8_text_35 : decode cX8_text 35 = .ok (.aload_n 1, 1) := by decide +kernel
theorem dX8_text_36 : decode cX8_text 36 = .ok (.ifnonnull 8, 3) := by decide +kernel
theorem dX8_text_39 : decode cX8_text 39 = .ok (.bipush (-100), 2) := by decide +kernel
theorem dX8_text_41 : decode cX8_text 41 = .ok (.iload_n 2, 1) := by decide +kernel
theorem dX8_text_42 : decode cX8_text 42 = .ok (.isub, 1) := by decide +kernel
theorem dX8_text_43 : decode cX8_text 43 = .ok (.ireturn, 1) := by decide +kernel
theorem dX8_text_44 : decode cX8_text 44 = .ok (.aload_n 0, 1) := by decide +kernel
theorem dX8_text_45 : decode cX8_text 45 = .ok (.getfield 53, 3) := by decide +kernel
theorem dX8_text_48 : decode cX8_text 48 = .ok (.aload_n 0, 1) := by decide +kernel
theorem dX8_text_49 : decode cX8_text 49 = .ok (.getfield 57, 3) := by decide +kernel
theorem dX8_text_52 : decode cX8_text 52 = .ok (.aload_n 1, 1) := by decide +kernel
theorem dX8_text_53 : decode cX8_text 53 = .ok (.aastore, 1) := by decide +kernel
theorem dX8_text_54 : decode cX8_text 54 = .ok (.aload_n 0, 1) := by decide +kernel
theorem dX8_text_55 : decode cX8_text 55 = .ok (.dup, 1) := by decide +kernel
theorem dX8_text_56 : decode cX8_text 56 = .ok (.getfield 57, 3) := by decide +kernel
theorem dX8_text_59 : decode cX8_text 59 = .ok (.iconst 1, 1) := by decide +kernel
theorem dX8_text_60 : decode cX8_text 60 = .ok (.iadd, 1) := by decide +kernel
theorem dX8_text_61 : decode cX8_text 61 = .ok (.putfield 57, 3) := by decide +kernel
theorem dX8_text_64 : decode cX8_text 64 = .ok (.aload_n 0, 1) := by decide +kernel
theorem dX8_text_65 : decode cX8_text 65 = .ok (.getfield 57, 3) := by decide +kernel
theorem dX8_text_68 : decode cX8_text 68 = .ok (.iconst 1, 1) := by decide +kernel
theorem dX8_text_69 : decode cX8_text 69 = .ok (.isub, 1) := by decide +kernel
theorem dX8_text_70 : decode cX8_text 70 = .ok (.ireturn, 1) := by decide +kernel
theorem gX8_47 {p : Program} {l : Launch} {e : Env} {R : Room} {s : State} {m : MethodId} {args : Array Value} {below : List Frame} {meth : Method} {c : Code} {H : Heap} {locs : List Loc} {cells slots : Nat} {Q : State → Prop} {cc : ByteArray} {pc nL : Nat} {ls : Array Slot} {rest : List Value} {ret : Option FieldType} {G : xG} {β : Nat} {D : Nat → Prop} {x : XS} (C : Cx p s m args meth c RX8 cc nL ret (KK G)) (hw : CW β D G x H) (hd : decode cc pc = .ok (.getfield 47, 3)) (kk : W p l e R s m args below meth c H locs cells slots Q (F0 m (pc + 3) ls (.ref (β + 6) :: rest))) : W p l e R s m args below meth c H locs cells slots Q (F0 m pc ls (.ref β :: rest)) :=
  va_get C.1 C.2.1 C.2.2.2.2.1 iwX8 C.2.2.2.1 C.K.1 (xP1 (hw.2.2.1 0 (by decide))) 0 rfl rfl 7 (by decide) (C.2.2.2.2.1 (.fieldLink RX8 47 RX8 "reader" "LAtThePost$Reader;") (tg 354 (by decide +kernel) rfl)) (fun _ h9 => h9) rfl hd kk
theorem sX8_120 {p : Program} {l : Launch} {e : Env} {R : Room} {s : State} {m : MethodId} {args : Array Value} {below : List Frame} {meth : Method} {c : Code} {H : Heap} {locs : List Loc} {cells slots : Nat} {Q : State → Prop} {cc : ByteArray} {pc nL : Nat} {ls : Array Slot} {rest : List Value} {ret : Option FieldType}  {G : xG} {β : Nat} {D : Nat → Prop} {x x' : XS} {r : Option Nat} (C : Cx p s m args meth c RX8 cc nL ret (KK G)) (hn : ∀ q, s.heap.size ≤ q → D q) (h : fX4_read x = some (r, x')) (hw : CW β D G x H) (hS : va_S D s.heap H locs) (hsz : ls.size = nL) (hW : (rest.map fun v => v.category).sum ≤ 8) (hR : 111 ≤ R.frames) (hR2 : 2633 ≤ R.locals) (hcs : cells + 4 ≤ R.cells ∧ slots + 207 ≤ R.slots) (hd : decode cc pc = .ok (.invokevirtual 120, 3)) (kk : ∀ (H1 : Heap) (locs1 : List Loc), CW β D G x' H1 → va_S D s.heap H1 locs1 → W p l e R s m args below meth c H1 locs1 (cells + 4) (slots + 207) Q (F0 m (pc + 3) ls (va_rf r :: rest))) : W p l e R s m args below meth c H locs cells slots Q (F0 m pc ls (.ref (β + 6) :: rest)) := by
  exact xcallV C (As := []) (rest := rest) (nA := 0) (ci := 4) (kX4_read (hnx hw hS hn) h) (tg 212 (by decide +kernel) rfl) (tg 213 (by decide +kernel) rfl) (tg 214 (by decide +kernel) rfl) (tg 3 (by decide +kernel) rfl) (tg 215 (by decide +kernel) rfl) ⟨rfl, by decide +kernel, by decide +kernel, by decide +kernel⟩ rfl rfl rfl ⟨hR, hR2⟩ (hw.2.2.1 6 (by decide)) hw hS (fun _ q => q) rfl rfl hsz hW hd hcs (fun H1 locs1 hw hz hk hS => kk H1 locs1 hw hS)
theorem gX8_238 {p : Program} {l : Launch} {e : Env} {R : Room} {s : State} {m : MethodId} {args : Array Value} {below : List Frame} {meth : Method} {c : Code} {H : Heap} {locs : List Loc} {cells slots : Nat} {Q : State → Prop} {cc : ByteArray} {pc nL : Nat} {ls : Array Slot} {rest : List Value} {ret : Option FieldType} {G : xG} {β : Nat} {D : Nat → Prop} {x : XS} (C : Cx p s m args meth c RX8 cc nL ret (KK G)) (hw : CW β D G x H) (hd : decode cc pc = .ok (.getfield 238, 3)) (kk : W p l e R s m args below meth c H locs cells slots Q (F0 m (pc + 3) ls (.int (x.1 4 2) :: rest))) : W p l e R s m args below meth c H locs cells slots Q (F0 m pc ls (.ref (β + 4) :: rest)) :=
  va_getN C.1 C.2.1 C.2.2.2.2.1 iwX6 C.2.2.2.1 C.K.1 (xP1 (hw.2.2.1 4 (by decide))) 0 rfl rfl 2 (by decide) (va_Nw.use (w := .fieldLinkNest RX8 238 RX6 "start" "I" "AtThePost") rfl (C.K.2.1 (RX8, 238, RX6, "start", "I") (List.mem_of_getElem? (i := 1) rfl))) (fun _ h9 => h9) rfl hd kk
theorem sX8_124 {p : Program} {l : Launch} {e : Env} {R : Room} {s : State} {m : MethodId} {args : Array Value} {below : List Frame} {meth : Method} {c : Code} {H : Heap} {locs : List Loc} {cells slots : Nat} {Q : State → Prop} {cc : ByteArray} {pc nL : Nat} {ls : Array Slot} {rest : List Value} {ret : Option FieldType}  {G : xG} {β : Nat} {D : Nat → Prop} {x x' : XS} (C : Cx p s m args meth c RX8 cc nL ret (KK G)) (h : fX6_clear x = some x') (hw : CW β D G x H) (hS : va_S D s.heap H locs) (hsz : ls.size = nL) (hW : (rest.map fun v => v.category).sum ≤ 8) (hR : 1 ≤ R.frames) (hR2 : 20 ≤ R.locals) (hcs : cells ≤ R.cells ∧ slots ≤ R.slots) (hd : decode cc pc = .ok (.invokevirtual 124, 3)) (kk : ∀ (H1 : Heap) (locs1 : List Loc), CW β D G x' H1 → va_S D s.heap H1 locs1 → W p l e R s m args below meth c H1 locs1 cells slots Q (F0 m (pc + 3) ls (rest))) : W p l e R s m args below meth c H locs cells slots Q (F0 m pc ls (.ref (β + 4) :: rest)) := by
  exact xcallV C (As := []) (rest := rest) (nA := 0) (ci := 6) (kX6_clear h) (tg 343 (by decide +kernel) rfl) (tg 344 (by decide +kernel) rfl) (tg 345 (by decide +kernel) rfl) (tg 2 (by decide +kernel) rfl) (tg 346 (by decide +kernel) rfl) ⟨rfl, by decide +kernel, by decide +kernel, by decide +kernel⟩ rfl rfl rfl ⟨hR, hR2⟩ (hw.2.2.1 4 (by decide)) hw hS (fun _ q => q) rfl rfl hsz hW hd hcs (fun H1 locs1 hw hz hk hS => kk H1 locs1 hw hS)
theorem asX_9 {p : Program} {l : Launch} {e : Env} {R : Room} {s : State} {m : MethodId} {args : Array Value} {below : List Frame} {meth : Method} {c : Code} {H : Heap} {locs : List Loc} {cells slots : Nat} {Q : State → Prop} {cc : ByteArray} {pc nL : Nat} {ls : Array Slot} {rest : List Value} {ret : Option FieldType}  {G : xG} {β : Nat} {D : Nat → Prop} {x : XS} {own : String} {i : Int32} {v : Nat} (C : Cx p s m args meth c own cc nL ret (KK G)) (hk : dK x v 7 = true) (hw : CW β D G x H) (hS : va_S D s.heap H locs) (hin : ib i 6) (hd : decode cc pc = .ok (.aastore, 1)) (kk : ∀ (H1 : Heap) (locs1 : List Loc), CW β D G (xsR x 9 i.toNatClampNeg (some v)) H1 → va_S D s.heap H1 locs1 → W p l e R s m args below meth c H1 locs1 cells slots Q (F0 m (pc + 1) ls (rest))) : W p l e R s m args below meth c H locs cells slots Q (F0 m pc ls (.ref v :: .int i :: .ref (β + 9) :: rest)) := by
  obtain ⟨vs, hv⟩ := dK_e hk
  exact x_astq (ci := 7) (vs := vs) C.1 C.2.1 C.K.1 hS 7 (hw.2.2.1 9 (by decide)) (hw.2.1 9 (by decide)) rfl (hw.2.2.2.1 v _ hv).2.2.2 rfl hin hd (fun H1 locs1 hat ho hS => kk H1 locs1 (hw.setR 9 _ _ hat ho) hS)
theorem pX8_57 {p : Program} {l : Launch} {e : Env} {R : Room} {s : State} {m : MethodId} {args : Array Value} {below : List Frame} {meth : Method} {c : Code} {H : Heap} {locs : List Loc} {cells slots : Nat} {Q : State → Prop} {cc : ByteArray} {pc nL : Nat} {ls : Array Slot} {rest : List Value} {ret : Option FieldType} {G : xG} {β : Nat} {D : Nat → Prop} {x : XS} {v : Int32} (C : Cx p s m args meth c RX8 cc nL ret (KK G)) (hw : CW β D G x H) (hS : va_S D s.heap H locs) (hd : decode cc pc = .ok (.putfield 57, 3)) (kk : ∀ (H1 : Heap) (locs1 : List Loc), CW β D G (xsS x 0 9 v) H1 → va_S D s.heap H1 locs1 → W p l e R s m args below meth c H1 locs1 cells slots Q (F0 m (pc + 3) ls (rest))) : W p l e R s m args below meth c H locs cells slots Q (F0 m pc ls (.int v :: .ref β :: rest)) :=
  x_put C.1 C.2.1 C.2.2.2.2.1 iwX8 tyX8 tyX8_ok nmX8 C.2.2.2.1 C.K.1 hS (hw.2.2.1 0 (by decide)) (hw.2.1 0 (by decide)) rfl 9 (by decide) (C.2.2.2.2.1 (.fieldLink RX8 57 RX8 "textCount" "I") (tg 356 (by decide +kernel) rfl)) (fun _ h9 => h9) rfl (ty := .int) (by decide +kernel) rfl rfl (Nat.le_of_ble_eq_true rfl) hd (fun H1 locs1 hat ho hS => kk H1 locs1 (hw.setS 0 9 v hat ho) hS)
def fX8_text (x : XS) : Option (Int32 × XS) := if (x.1 0 9) < 6 then bind2 (fX4_read x) fun v1 x2 => lt (x2.1 4 2) fun v4 => Option.bind (fX6_clear x2) fun x5 => oc v1 (some ((-100) - v4, x5)) (fun p7 => if ib (x5.1 0 9) 6 then if dK x5 p7 7 = true then lt (xsR x5 9 (x5.1 0 9).toNatClampNeg (some p7)) fun x9 => lt (xsS x9 0 9 ((x9.1 0 9) + 1)) fun x11 => some ((x11.1 0 9) - 1, x11) else none else none) else some ((-4), x)
abbrev rmX8_text : Room := { frames := 111, cells := 4, slots := 207, locals := 2633 }
set_option maxHeartbeats 4000000 in
set_option maxRecDepth 100000 in
theorem kX8_text {l : Launch} {G : xG} {β : Nat} {D : Nat → Prop} {x x' : XS} {r : Int32} (hn : ∀ q, x.2.2.2.2 ≤ q → D q) (hm : fX8_text x = some (r, x')) : Met l yX8_text (.code yX8_text cX8_text 3 (some .int) :: GT) rmX8_text (PcW [.ref β] (CW β D G x) (KK G)) (QcW D (some (.int r)) (CW β D G x')) 4 207 D := by
  unfold fX8_text at hm
  refine xpro (own := RX8) (by decide +kernel) rfl (Nat.le_of_ble_eq_true rfl) ?_
  intro p e s m args below meth c C hw ls hl
  have hx := C.1
  have hb := C.2.1
  have ho := C.2.2.2.1
  have hts := C.2.2.2.2.1
  have hf : Fz D G s.heap := hw.2.2.2.2
  have hn : ∀ q, s.heap.size ≤ q → D q := fun q h => hn q (by rw [← hw.1]; exact h)
  have hS : va_S D s.heap s.heap [] := va_S.rf
  have hl : lv_has ls 3 [(0, .ref β)] := hl
  have hRf : 111 ≤ rmX8_text.frames := Nat.le_refl _
  have hRl : 2633 ≤ rmX8_text.locals := Nat.le_refl _
  have hcs : 0 ≤ rmX8_text.cells ∧ 0 ≤ rmX8_text.slots := ⟨Nat.zero_le _, Nat.zero_le _⟩
  refine lv_aload_n hx hb dX8_text_0 rfl (lv_at hl 0 rfl) ?_
  refine gX8_57 C hw dX8_text_1 ?_
  refine lv_bipush (v := 6) hx hb dX8_text_4 (by decide) ?_
  refine lv_icmp_lt (tgt := 12) hx hb dX8_text_6 (by decide) (fun cc => ?_) (fun cc => ?_)
  · replace hm := ite_p cc hm
    refine lv_aload_n hx hb dX8_text_12 rfl (lv_at hl 0 rfl) ?_
    refine gX8_47 C hw dX8_text_13 ?_
    obtain ⟨v1, x2, h3, hm⟩ := bind2_e hm
    refine sX8_120 C hn h3 hw hS hl.1 (Nat.le_of_ble_eq_true rfl) (Nat.le_trans (Nat.le_of_ble_eq_true rfl) hRf) (Nat.le_trans (Nat.le_of_ble_eq_true rfl) hRl) ⟨Nat.le_of_ble_eq_true rfl, Nat.le_of_ble_eq_true rfl⟩ dX8_text_16 (fun H locs hw hS => ?_)
    refine W.widen (k := 4) (n := 207) (Nat.le_of_ble_eq_true rfl) (Nat.le_of_ble_eq_true rfl) ?_
    have hcs : 4 ≤ rmX8_text.cells ∧ 207 ≤ rmX8_text.slots := ⟨Nat.le_of_ble_eq_true rfl, Nat.le_of_ble_eq_true rfl⟩
    refine x_astore_nq (lv' := [(1, va_rf v1), (0, .ref β)]) hx hb dX8_text_19 rfl hl (by decide) rfl (fun ls hl => ?_)
    refine lv_aload_n hx hb dX8_text_20 rfl (lv_at hl 1 rfl) ?_
    refine gX8_38 C hw dX8_text_21 ?_
    refine gX8_238 C hw dX8_text_24 ?_
    refine topI hm (fun v4 hm => ?_)
    refine lv_istore_n (lv' := [(2, .int v4), (1, va_rf v1), (0, .ref β)]) hx hb dX8_text_27 rfl hl (by decide) (by cases v1 <;> rfl) (fun ls hl => ?_)
    refine lv_aload_n hx hb dX8_text_28 rfl (lv_at hl 2 rfl) ?_
    refine gX8_38 C hw dX8_text_29 ?_
    obtain ⟨x5, h6, hm⟩ := bind_e hm
    refine sX8_124 C h6 hw hS hl.1 (Nat.le_of_ble_eq_true rfl) (Nat.le_trans (Nat.le_of_ble_eq_true rfl) hRf) (Nat.le_trans (Nat.le_of_ble_eq_true rfl) hRl) hcs dX8_text_32 (fun H locs hw hS => ?_)
    refine x_aload_nq hx hb dX8_text_35 rfl (lv_at hl 1 rfl) ?_
    rcases v1 with _ | p7
    · replace hm := oc_n hm
      refine lv_ifnonnullN hx hb dX8_text_36 ?_
      refine lv_bipush (v := (-100)) hx hb dX8_text_39 (by decide) ?_
      refine lv_iload_n hx hb dX8_text_41 rfl (lv_at hl 0 rfl) ?_
      refine lv_isub hx hb dX8_text_42 ?_
      obtain ⟨rfl, rfl⟩ := inj2 hm
      exact xret_i C hw hS dX8_text_43
    · replace hm := oc_s hm
      refine lv_ifnonnull (tgt := 44) hx hb dX8_text_36 (by decide) ?_
      refine lv_aload_n hx hb dX8_text_44 rfl (lv_at hl 2 rfl) ?_
      refine gX8_53 C hw dX8_text_45 ?_
      refine lv_aload_n hx hb dX8_text_48 rfl (lv_at hl 2 rfl) ?_
      refine gX8_57 C hw dX8_text_49 ?_
      refine lv_aload_n hx hb dX8_text_52 rfl (lv_at hl 1 rfl) ?_
      obtain ⟨h8, hm⟩ := chk_e hm
      obtain ⟨h10, hm⟩ := chk_e hm
      refine asX_9 C h10 hw hS h8 dX8_text_53 (fun H locs hw hS => ?_)
      obtain ⟨x9, ev, hm⟩ := lt_e hm
      rw [← ev] at hw
      clear ev
      refine lv_aload_n hx hb dX8_text_54 rfl (lv_at hl 2 rfl) ?_
      refine lv_dup hx hb dX8_text_55 rfl ?_
      refine gX8_57 C hw dX8_text_56 ?_
      refine lv_iconst (v := 1) hx hb dX8_text_59 (by decide) ?_
      refine lv_iadd hx hb dX8_text_60 ?_
      refine pX8_57 C hw hS dX8_text_61 (fun H locs hw hS => ?_)
      obtain ⟨x11, ev, hm⟩ := lt_e hm
      rw [← ev] at hw
      clear ev
      refine lv_aload_n hx hb dX8_text_64 rfl (lv_at hl 2 rfl) ?_
      refine gX8_57 C hw dX8_text_65 ?_
      refine lv_iconst (v := 1) hx hb dX8_text_68 (by decide) ?_
      refine lv_isub hx hb dX8_text_69 ?_
      obtain ⟨rfl, rfl⟩ := inj2 hm
      exact xret_i C hw hS dX8_text_70
  · replace hm := ite_n cc hm
    refine lv_bipush (v := (-4)) hx hb dX8_text_9 (by decide) ?_
    refine W.widen (k := 4) (n := 207) (Nat.le_of_ble_eq_true rfl) (Nat.le_of_ble_eq_true rfl) ?_
    obtain ⟨rfl, rfl⟩ := inj2 hm
    exact xret_i C hw hS dX8_text_11
