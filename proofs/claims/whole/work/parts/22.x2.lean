theorem dX2_giveBack_0 : decode cX2_giveBack 0 = .ok (.aload_n 2, 1) := by decide +kernel
theorem dX2_giveBack_1 : decode cX2_giveBack 1 = .ok (.ifnull 33, 3) := by decide +kernel
theorem dX2_giveBack_4 : decode cX2_giveBack 4 = .ok (.aload_n 2, 1) := by decide +kernel
theorem dX2_giveBack_5 : decode cX2_giveBack 5 = .ok (.aload_n 0, 1) := by decide +kernel
theorem dX2_giveBack_6 : decode cX2_giveBack 6 = .ok (.getfield 32, 3) := by decide +kernel
theorem dX2_giveBack_9 : decode cX2_giveBack 9 = .ok (.iload_n 1, 1) := by decide +kernel
theorem dX2_giveBack_10 : decode cX2_giveBack 10 = .ok (.iaload, 1) := by decide +kernel
theorem dX2_giveBack_11 : decode cX2_giveBack 11 = .ok (.putfield 41, 3) := by decide +kernel
theorem dX2_giveBack_14 : decode cX2_giveBack 14 = .ok (.aload_n 2, 1) := by decide +kernel
theorem dX2_giveBack_15 : decode cX2_giveBack 15 = .ok (.aload_n 0, 1) := by decide +kernel
theorem dX2_giveBack_16 : decode cX2_giveBack 16 = .ok (.getfield 35, 3) := by decide +kernel
theorem dX2_giveBack_19 : decode cX2_giveBack 19 = .ok (.iload_n 1, 1) := by decide +kernel
theorem dX2_giveBack_20 : decode cX2_giveBack 20 = .ok (.iaload, 1) := by decide +kernel
theorem dX2_giveBack_21 : decode cX2_giveBack 21 = .ok (.putfield 46, 3) := by decide +kernel
theorem dX2_giveBack_24 : decode cX2_giveBack 24 = .ok (.aload_n 2, 1) := by decide +kernel
theorem dX2_giveBack_25 : decode cX2_giveBack 25 = .ok (.aload_n 0, 1) := by decide +kernel
theorem dX2_giveBack_26 : decode cX2_giveBack 26 = .ok (.getfield 38, 3) := by decide +kernel
theorem dX2_giveBack_29 : decode cX2_giveBack 29 = .ok (.iload_n 1, 1) := by decide +kernel
theorem dX2_giveBack_30 : decode cX2_giveBack 30 = .ok (.iaload, 1) := by decide +kernel
theorem dX2_giveBack_31 : decode cX2_giveBack 31 = .ok (.putfield 49, 3) := by decide +kernel
theorem dX2_giveBack_34 : decode cX2_giveBack 34 = .ok (.return_, 1) := by decide +kernel
theorem alX_13 {p : Program} {l : Launch} {e : Env} {R : Room} {s : State} {m : MethodId} {args : Array Value} {below : List Frame} {meth : Method} {c : Code} {H : Heap} {locs : List Loc} {cells slots : Nat} {Q : State → Prop} {cc : ByteArray} {pc nL : Nat} {ls : Array Slot} {rest : List Value} {ret : Option FieldType} {G : xG} {β : Nat} {D : Nat → Prop} {x : XS} {own : String} {i : Int32} (C : Cx p s m args meth c own cc nL ret (KK G)) (hw : CW β D G x H) (hin : ib i 10) (hd : decode cc pc = .ok (.iaload, 1)) (kk : W p l e R s m args below meth c H locs cells slots Q (F0 m (pc + 1) ls (.int (x.2.1 13 i.toNatClampNeg) :: rest))) : W p l e R s m args below meth c H locs cells slots Q (F0 m pc ls (.int i :: .ref (β + 13) :: rest)) :=
  va_iald C.1 C.2.1 C.K.1 (xP1 (hw.2.2.1 13 (by decide))) 0 0 rfl rfl hin hd kk
theorem pdX2_41 {p : Program} {l : Launch} {e : Env} {R : Room} {s : State} {m : MethodId} {args : Array Value} {below : List Frame} {meth : Method} {c : Code} {H : Heap} {locs : List Loc} {cells slots : Nat} {Q : State → Prop} {cc : ByteArray} {pc nL : Nat} {ls : Array Slot} {rest : List Value} {ret : Option FieldType}  {G : xG} {β : Nat} {D : Nat → Prop} {x x' : XS} {a : Nat} {v : Int32} (C : Cx p s m args meth c RX2 cc nL ret (KK G)) (h : dPut x a 1 3 (.int v) = some x') (hw : CW β D G x H) (hS : va_S D s.heap H locs) (hd : decode cc pc = .ok (.putfield 41, 3)) (kk : ∀ (H1 : Heap) (locs1 : List Loc), CW β D G x' H1 → va_S D s.heap H1 locs1 → W p l e R s m args below meth c H1 locs1 cells slots Q (F0 m (pc + 3) ls (rest))) : W p l e R s m args below meth c H locs cells slots Q (F0 m pc ls (.int v :: .ref a :: rest)) := by
  obtain ⟨fs, h1, h2, rfl⟩ := dPut_e h
  exact x_putN (ci := 1) (fs := fs) C.1 C.2.1 C.2.2.2.2.1 iwX1 tyX1 tyX1_ok nmX1 C.2.2.2.1 C.K.1 hS (hw.2.2.2.1 a _ h1).2.2.2 (hw.2.2.2.1 a _ h1).1 rfl 3 (by decide) (va_Nw.use (w := .fieldLinkNest RX2 41 RX1 "strength" "I" "AtThePost") rfl (C.K.2.1 (RX2, 41, RX1, "strength", "I") (List.mem_of_getElem? (i := 16) rfl))) (fun _ h9 => h9) rfl (ty := .int) (by decide +kernel) rfl rfl h2 hd (fun H1 locs1 hat ho hS => kk H1 locs1 (hw.setD h1 hat ho) hS)
theorem alX_14 {p : Program} {l : Launch} {e : Env} {R : Room} {s : State} {m : MethodId} {args : Array Value} {below : List Frame} {meth : Method} {c : Code} {H : Heap} {locs : List Loc} {cells slots : Nat} {Q : State → Prop} {cc : ByteArray} {pc nL : Nat} {ls : Array Slot} {rest : List Value} {ret : Option FieldType} {G : xG} {β : Nat} {D : Nat → Prop} {x : XS} {own : String} {i : Int32} (C : Cx p s m args meth c own cc nL ret (KK G)) (hw : CW β D G x H) (hin : ib i 10) (hd : decode cc pc = .ok (.iaload, 1)) (kk : W p l e R s m args below meth c H locs cells slots Q (F0 m (pc + 1) ls (.int (x.2.1 14 i.toNatClampNeg) :: rest))) : W p l e R s m args below meth c H locs cells slots Q (F0 m pc ls (.int i :: .ref (β + 14) :: rest)) :=
  va_iald C.1 C.2.1 C.K.1 (xP1 (hw.2.2.1 14 (by decide))) 0 0 rfl rfl hin hd kk
theorem pdX2_46 {p : Program} {l : Launch} {e : Env} {R : Room} {s : State} {m : MethodId} {args : Array Value} {below : List Frame} {meth : Method} {c : Code} {H : Heap} {locs : List Loc} {cells slots : Nat} {Q : State → Prop} {cc : ByteArray} {pc nL : Nat} {ls : Array Slot} {rest : List Value} {ret : Option FieldType}  {G : xG} {β : Nat} {D : Nat → Prop} {x x' : XS} {a : Nat} {v : Int32} (C : Cx p s m args meth c RX2 cc nL ret (KK G)) (h : dPut x a 1 4 (.int v) = some x') (hw : CW β D G x H) (hS : va_S D s.heap H locs) (hd : decode cc pc = .ok (.putfield 46, 3)) (kk : ∀ (H1 : Heap) (locs1 : List Loc), CW β D G x' H1 → va_S D s.heap H1 locs1 → W p l e R s m args below meth c H1 locs1 cells slots Q (F0 m (pc + 3) ls (rest))) : W p l e R s m args below meth c H locs cells slots Q (F0 m pc ls (.int v :: .ref a :: rest)) := by
  obtain ⟨fs, h1, h2, rfl⟩ := dPut_e h
  exact x_putN (ci := 1) (fs := fs) C.1 C.2.1 C.2.2.2.2.1 iwX1 tyX1 tyX1_ok nmX1 C.2.2.2.1 C.K.1 hS (hw.2.2.2.1 a _ h1).2.2.2 (hw.2.2.2.1 a _ h1).1 rfl 4 (by decide) (va_Nw.use (w := .fieldLinkNest RX2 46 RX1 "age" "I" "AtThePost") rfl (C.K.2.1 (RX2, 46, RX1, "age", "I") (List.mem_of_getElem? (i := 18) rfl))) (fun _ h9 => h9) rfl (ty := .int) (by decide +kernel) rfl rfl h2 hd (fun H1 locs1 hat ho hS => kk H1 locs1 (hw.setD h1 hat ho) hS)
theorem alX_15 {p : Program} {l : Launch} {e : Env} {R : Room} {s : State} {m : MethodId} {args : Array Value} {below : List Frame} {meth : Method} {c : Code} {H : Heap} {locs : List Loc} {cells slots : Nat} {Q : State → Prop} {cc : ByteArray} {pc nL : Nat} {ls : Array Slot} {rest : List Value} {ret : Option FieldType} {G : xG} {β : Nat} {D : Nat → Prop} {x : XS} {own : String} {i : Int32} (C : Cx p s m args meth c own cc nL ret (KK G)) (hw : CW β D G x H) (hin : ib i 10) (hd : decode cc pc = .ok (.iaload, 1)) (kk : W p l e R s m args below meth c H locs cells slots Q (F0 m (pc + 1) ls (.int (x.2.1 15 i.toNatClampNeg) :: rest))) : W p l e R s m args below meth c H locs cells slots Q (F0 m pc ls (.int i :: .ref (β + 15) :: rest)) :=
  va_iald C.1 C.2.1 C.K.1 (xP1 (hw.2.2.1 15 (by decide))) 0 0 rfl rfl hin hd kk
theorem pdX2_49 {p : Program} {l : Launch} {e : Env} {R : Room} {s : State} {m : MethodId} {args : Array Value} {below : List Frame} {meth : Method} {c : Code} {H : Heap} {locs : List Loc} {cells slots : Nat} {Q : State → Prop} {cc : ByteArray} {pc nL : Nat} {ls : Array Slot} {rest : List Value} {ret : Option FieldType}  {G : xG} {β : Nat} {D : Nat → Prop} {x x' : XS} {a : Nat} {v : Int32} (C : Cx p s m args meth c RX2 cc nL ret (KK G)) (h : dPut x a 1 5 (.int v) = some x') (hw : CW β D G x H) (hS : va_S D s.heap H locs) (hd : decode cc pc = .ok (.putfield 49, 3)) (kk : ∀ (H1 : Heap) (locs1 : List Loc), CW β D G x' H1 → va_S D s.heap H1 locs1 → W p l e R s m args below meth c H1 locs1 cells slots Q (F0 m (pc + 3) ls (rest))) : W p l e R s m args below meth c H locs cells slots Q (F0 m pc ls (.int v :: .ref a :: rest)) := by
  obtain ⟨fs, h1, h2, rfl⟩ := dPut_e h
  exact x_putN (ci := 1) (fs := fs) C.1 C.2.1 C.2.2.2.2.1 iwX1 tyX1 tyX1_ok nmX1 C.2.2.2.1 C.K.1 hS (hw.2.2.2.1 a _ h1).2.2.2 (hw.2.2.2.1 a _ h1).1 rfl 5 (by decide) (va_Nw.use (w := .fieldLinkNest RX2 49 RX1 "lead" "I" "AtThePost") rfl (C.K.2.1 (RX2, 49, RX1, "lead", "I") (List.mem_of_getElem? (i := 20) rfl))) (fun _ h9 => h9) rfl (ty := .int) (by decide +kernel) rfl rfl h2 hd (fun H1 locs1 hat ho hS => kk H1 locs1 (hw.setD h1 hat ho) hS)
def fX2_giveBack (x : XS) (a1 : Int32) (a2 : Option Nat) : Option (XS) := oc a2 (some x) (fun p1 => if ib a1 10 then Option.bind (dPut x p1 1 3 (.int (x.2.1 13 a1.toNatClampNeg))) fun x3 => if ib a1 10 then Option.bind (dPut x3 p1 1 4 (.int (x3.2.1 14 a1.toNatClampNeg))) fun x6 => if ib a1 10 then Option.bind (dPut x6 p1 1 5 (.int (x6.2.1 15 a1.toNatClampNeg))) fun x9 => some x9 else none else none else none)
abbrev rmX2_giveBack : Room := { frames := 0, cells := 0, slots := 0, locals := 0 }
set_option maxHeartbeats 4000000 in
set_option maxRecDepth 100000 in
theorem kX2_giveBack {l : Launch} {G : xG} {β : Nat} {D : Nat → Prop} {x x' : XS} {a1 : Int32} {a2 : Option Nat} (hm : fX2_giveBack x a1 a2 = some x') : Met l yX2_giveBack (.code yX2_giveBack cX2_giveBack 3 none :: GT) rmX2_giveBack (PcW [.ref (β + 11), .int a1, va_rf a2] (CW β D G x) (KK G)) (QcW D none (CW β D G x')) 0 0 D := by
  unfold fX2_giveBack at hm
  refine xpro (own := RX2) (by decide +kernel) rfl (by cases a2 <;> exact Nat.le_of_ble_eq_true rfl) ?_
  intro p e s m args below meth c C hw ls hl
  have hx := C.1
  have hb := C.2.1
  have ho := C.2.2.2.1
  have hts := C.2.2.2.2.1
  have hf : Fz D G s.heap := hw.2.2.2.2
  have hS : va_S D s.heap s.heap [] := va_S.rf
  have hl : lv_has ls 3 [(0, .ref (β + 11)), (1, .int a1), (2, va_rf a2)] := by cases a2 <;> exact hl
  have hRf : 0 ≤ rmX2_giveBack.frames := Nat.le_refl _
  have hRl : 0 ≤ rmX2_giveBack.locals := Nat.le_refl _
  have hcs : 0 ≤ rmX2_giveBack.cells ∧ 0 ≤ rmX2_giveBack.slots := ⟨Nat.le_refl _, Nat.le_refl _⟩
  refine x_aload_nq hx hb dX2_giveBack_0 rfl (lv_at hl 2 rfl) ?_
  rcases a2 with _ | p1
  · replace hm := oc_n hm
    refine lv_ifnullN (tgt := 34) hx hb dX2_giveBack_1 (by decide) ?_
    obtain rfl := Option.some.inj hm
    exact xret_v C hw hS dX2_giveBack_34
  · replace hm := oc_s hm
    refine lv_ifnull hx hb dX2_giveBack_1 ?_
    refine lv_aload_n hx hb dX2_giveBack_4 rfl (lv_at hl 2 rfl) ?_
    refine lv_aload_n hx hb dX2_giveBack_5 rfl (lv_at hl 0 rfl) ?_
    refine gX2_32 C hw dX2_giveBack_6 ?_
    refine lv_iload_n hx hb dX2_giveBack_9 rfl (lv_at hl 1 rfl) ?_
    obtain ⟨h2, hm⟩ := chk_e hm
    refine alX_13 C hw h2 dX2_giveBack_10 ?_
    obtain ⟨x3, h4, hm⟩ := bind_e hm
    refine pdX2_41 C h4 hw hS dX2_giveBack_11 (fun H locs hw hS => ?_)
    refine lv_aload_n hx hb dX2_giveBack_14 rfl (lv_at hl 2 rfl) ?_
    refine lv_aload_n hx hb dX2_giveBack_15 rfl (lv_at hl 0 rfl) ?_
    refine gX2_35 C hw dX2_giveBack_16 ?_
    refine lv_iload_n hx hb dX2_giveBack_19 rfl (lv_at hl 1 rfl) ?_
    obtain ⟨h5, hm⟩ := chk_e hm
    refine alX_14 C hw h5 dX2_giveBack_20 ?_
    obtain ⟨x6, h7, hm⟩ := bind_e hm
    refine pdX2_46 C h7 hw hS dX2_giveBack_21 (fun H locs hw hS => ?_)
    refine lv_aload_n hx hb dX2_giveBack_24 rfl (lv_at hl 2 rfl) ?_
    refine lv_aload_n hx hb dX2_giveBack_25 rfl (lv_at hl 0 rfl) ?_
    refine gX2_38 C hw dX2_giveBack_26 ?_
    refine lv_iload_n hx hb dX2_giveBack_29 rfl (lv_at hl 1 rfl) ?_
    obtain ⟨h8, hm⟩ := chk_e hm
    refine alX_15 C hw h8 dX2_giveBack_30 ?_
    obtain ⟨x9, h10, hm⟩ := bind_e hm
    refine pdX2_49 C h10 hw hS dX2_giveBack_31 (fun H locs hw hS => ?_)
    obtain rfl := Option.some.inj hm
    exact xret_v C hw hS dX2_giveBack_34
theorem dX3_placeOf_0 : decode cX3_placeOf 0 = .ok (.iconst 0, 1) := by decide +kernel
theorem dX3_placeOf_1 : decode cX3_placeOf 1 = .ok (.istore_n 2, 1) := by decide +kernel
theorem dX3_placeOf_2 : decode cX3_placeOf 2 = .ok (.iload_n 2, 1) := by decide +kernel
theorem dX3_placeOf_3 : decode cX3_placeOf 3 = .ok (.aload_n 0, 1) := by decide +kernel
theorem dX3_placeOf_4 : decode cX3_placeOf 4 = .ok (.getfield 31, 3) := by decide +kernel
theorem dX3_placeOf_7 : decode cX3_placeOf 7 = .ok (.if_icmp .ge 21, 3) := by decide +kernel
theorem dX3_placeOf_10 : decode cX3_placeOf 10 = .ok (.aload_n 0, 1) := by decide +kernel
theorem dX3_placeOf_11 : decode cX3_placeOf 11 = .ok (.getfield 9, 3) := by decide +kernel
theorem dX3_placeOf_14 : decode cX3_placeOf 14 = .ok (.iload_n 2, 1) := by decide +kernel
theorem dX3_placeOf_15 : decode cX3_placeOf 15 = .ok (.iaload, 1) := by decide +kernel
theorem dX3_placeOf_16 : decode cX3_placeOf 16 = .ok (.iload_n 1, 1) := by decide +kernel
theorem dX3_placeOf_17 : decode cX3_placeOf 17 = .ok (.if_icmp .ne 5, 3) := by decide +kernel
theorem dX3_placeOf_20 : decode cX3_placeOf 20 = .ok (.iload_n 2, 1) := by decide +kernel
theorem dX3_placeOf_21 : decode cX3_placeOf 21 = .ok (.ireturn, 1) := by decide +kernel
theorem dX3_placeOf_22 : decode cX3_placeOf 22 = .ok (.iinc 2 1, 3) := by decide +kernel
theorem dX3_placeOf_25 : decode cX3_placeOf 25 = .ok (.goto (-23), 3) := by decide +kernel
theorem dX3_placeOf_28 : decode cX3_placeOf 28 = .ok (.iconst (-1), 1) := by decide +kernel
theorem dX3_placeOf_29 : decode cX3_placeOf 29 = .ok (.ireturn, 1) := by decide +kernel
theorem iwX3 : ∀ w ∈ u_ws RX3 TX3 5, w ∈ GT := in_tb [736, 738, 740, 742, 744] (by decide +kernel) (by decide +kernel)
theorem gdX3_31 {p : Program} {l : Launch} {e : Env} {R : Room} {s : State} {m : MethodId} {args : Array Value} {below : List Frame} {meth : Method} {c : Code} {H : Heap} {locs : List Loc} {cells slots : Nat} {Q : State → Prop} {cc : ByteArray} {pc nL : Nat} {ls : Array Slot} {rest : List Value} {ret : Option FieldType}  {G : xG} {β : Nat} {D : Nat → Prop} {x : XS} {a : Nat} {v : Int32} (C : Cx p s m args meth c RX3 cc nL ret (KK G)) (h : dI x a 3 2 = some v) (hw : CW β D G x H) (hd : decode cc pc = .ok (.getfield 31, 3)) (kk : W p l e R s m args below meth c H locs cells slots Q (F0 m (pc + 3) ls (.int v :: rest))) : W p l e R s m args below meth c H locs cells slots Q (F0 m pc ls (.ref a :: rest)) := by
  obtain ⟨fs, h1, h2⟩ := dI_e h
  exact va_get (ci := 3) (fs := fs) C.1 C.2.1 C.2.2.2.2.1 iwX3 C.2.2.2.1 C.K.1 (xP1 (hw.2.2.2.1 a _ h1).2.2.2) 0 rfl rfl 2 (by decide) (C.2.2.2.2.1 (.fieldLink RX3 31 RX3 "size" "I") (tg 730 (by decide +kernel) rfl)) (fun _ h9 => h9) h2 hd kk
theorem gdX3_9 {p : Program} {l : Launch} {e : Env} {R : Room} {s : State} {m : MethodId} {args : Array Value} {below : List Frame} {meth : Method} {c : Code} {H : Heap} {locs : List Loc} {cells slots : Nat} {Q : State → Prop} {cc : ByteArray} {pc nL : Nat} {ls : Array Slot} {rest : List Value} {ret : Option FieldType}  {G : xG} {β : Nat} {D : Nat → Prop} {x : XS} {a : Nat} {v : Nat} (C : Cx p s m args meth c RX3 cc nL ret (KK G)) (h : dP x a 3 3 = some v) (hw : CW β D G x H) (hd : decode cc pc = .ok (.getfield 9, 3)) (kk : W p l e R s m args below meth c H locs cells slots Q (F0 m (pc + 3) ls (.ref v :: rest))) : W p l e R s m args below meth c H locs cells slots Q (F0 m pc ls (.ref a :: rest)) := by
  obtain ⟨fs, h1, h2⟩ := dP_e h
  exact va_get (ci := 3) (fs := fs) C.1 C.2.1 C.2.2.2.2.1 iwX3 C.2.2.2.1 C.K.1 (xP1 (hw.2.2.2.1 a _ h1).2.2.2) 0 rfl rfl 3 (by decide) (C.2.2.2.2.1 (.fieldLink RX3 9 RX3 "order" "[I") (tg 732 (by decide +kernel) rfl)) (fun _ h9 => h9) h2 hd kk
def BX3_placeOf_2 (x : XS) (q0 : Nat) (q1 : Int32) (lp : Int32 → Option ((Int32) ⊕ (Unit))) (u2 : Int32) : Option ((Int32) ⊕ (Unit)) := Option.bind (dI x q0 3 2) fun v1 => if v1 ≤ u2 then some (.inr ()) else Option.bind (dP x q0 3 3) fun v3 => Option.bind (dA x v3 u2) fun v5 => if v5 = q1 then some (.inl u2) else lt (u2 + 1) fun v7 => lp v7
def LX3_placeOf_2 (x : XS) (q0 : Nat) (q1 : Int32) : Nat → Int32 → Option ((Int32) ⊕ (Unit))
  | 0, _ => none
  | n + 1, u2 => BX3_placeOf_2 x q0 q1 (LX3_placeOf_2 x q0 q1 n) u2
def fX3_placeOf (x : XS) (a0 : Nat) (a1 : Int32) : Option (Int32) := bs (LX3_placeOf_2 x a0 a1 NF 0) (fun a => some a) (fun _ => some (-1))
set_option maxHeartbeats 4000000 in
set_option maxRecDepth 100000 in
theorem lX3_placeOf_2 {p : Program} {l : Launch} {e : Env} {R : Room} {s : State} {m : MethodId} {args : Array Value} {below : List Frame} {meth : Method} {c : Code} {cells slots : Nat} {Q : State → Prop} {G : xG} {β : Nat} {D : Nat → Prop} (C : Cx p s m args meth c RX3 cX3_placeOf 3 (some .int) (KK G)) (hRf : 0 ≤ R.frames) (hRl : 0 ≤ R.locals) (hcs : cells ≤ R.cells ∧ slots ≤ R.slots) (hf : Fz D G s.heap) (x : XS) (q0 : Nat) (q1 : Int32) : ∀ (n : Nat) (u2 : Int32) (J : (Int32) ⊕ (Unit)) (H : Heap) (locs : List Loc) (ls : Array Slot), LX3_placeOf_2 x q0 q1 n u2 = some J → CW β D G x H → va_S D s.heap H locs → lv_has ls 3 [(0, .ref q0), (1, .int q1), (2, .int u2)] → (∀ (w : Unit), J = .inr w → ∀ (H : Heap) (locs : List Loc) (ls : Array Slot), CW β D G x H → va_S D s.heap H locs → lv_has ls 3 [] → W p l e R s m args below meth c H locs cells slots Q (F0 m 28 ls [])) → (∀ (rv : Int32), J = .inl rv → ∀ (H : Heap) (locs : List Loc) (ls : Array Slot), CW β D G x H → va_S D s.heap H locs → W p l e R s m args below meth c H locs cells slots Q (F0 m 21 ls [.int rv])) → W p l e R s m args below meth c H locs cells slots Q (F0 m 2 ls []) := by
  have hx := C.1
  have hb := C.2.1
  have ho := C.2.2.2.1
  have hts := C.2.2.2.2.1
  intro n
  induction n with
  | zero =>
    intro u2 J H locs ls hm
    exact absurd hm (by simp [LX3_placeOf_2])
  | succ n ih =>
    intro u2 J H locs ls hm hw hS hl ke kr21
    replace hm : BX3_placeOf_2 x q0 q1 (LX3_placeOf_2 x q0 q1 n) u2 = some J := hm
    unfold BX3_placeOf_2 at hm
    refine lv_iload_n hx hb dX3_placeOf_2 rfl (lv_at hl 2 rfl) ?_
    refine lv_aload_n hx hb dX3_placeOf_3 rfl (lv_at hl 0 rfl) ?_
    obtain ⟨v1, h2, hm⟩ := bind_e hm
    refine gdX3_31 C h2 hw dX3_placeOf_4 ?_
    refine lv_icmp_ge (tgt := 28) hx hb dX3_placeOf_7 (by decide) (fun cc => ?_) (fun cc => ?_)
    · replace hm := ite_p cc hm
      exact ke _ (Option.some.inj hm).symm _ _ _ hw hS (lv_sub hl [] rfl)
    · replace hm := ite_n cc hm
      refine lv_aload_n hx hb dX3_placeOf_10 rfl (lv_at hl 0 rfl) ?_
      obtain ⟨v3, h4, hm⟩ := bind_e hm
      refine gdX3_9 C h4 hw dX3_placeOf_11 ?_
      refine lv_iload_n hx hb dX3_placeOf_14 rfl (lv_at hl 2 rfl) ?_
      obtain ⟨v5, h6, hm⟩ := bind_e hm
      refine x_dald C h6 hw dX3_placeOf_15 ?_
      refine lv_iload_n hx hb dX3_placeOf_16 rfl (lv_at hl 1 rfl) ?_
      refine lv_icmp_ne (tgt := 22) hx hb dX3_placeOf_17 (by decide) (fun cc => ?_) (fun cc => ?_)
      · replace hm := ite_n cc hm
        obtain ⟨v7, ev, hm⟩ := lt_e hm
        refine lv_iinc (v := v7) (lv' := [(2, .int v7), (0, .ref q0), (1, .int q1)]) hx hb dX3_placeOf_22 hl (k := 2) rfl (by rw [ev]; rfl) (by decide) rfl (fun ls hl => ?_)
        clear ev
        refine lv_goto (tgt := 2) hx hb dX3_placeOf_25 (by decide) ?_
        exact ih _ _ _ _ _ hm hw hS (lv_sub hl [1, 2, 0] rfl) ke kr21
      · replace hm := ite_p cc hm
        refine lv_iload_n hx hb dX3_placeOf_20 rfl (lv_at hl 2 rfl) ?_
        exact kr21 _ (Option.some.inj hm).symm _ _ _ hw hS
abbrev rmX3_placeOf : Room := { frames := 0, cells := 0, slots := 0, locals := 0 }
set_option maxHeartbeats 4000000 in
set_option maxRecDepth 100000 in
theorem kX3_placeOf {l : Launch} {G : xG} {β : Nat} {D : Nat → Prop} {x : XS} {a0 : Nat} {a1 : Int32} {r : Int32} (hm : fX3_placeOf x a0 a1 = some r) : Met l yX3_placeOf (.code yX3_placeOf cX3_placeOf 3 (some .int) :: GT) rmX3_placeOf (PcW [.ref a0, .int a1] (CW β D G x) (KK G)) (QcW D (some (.int r)) (CW β D G x)) 0 0 D := by
  unfold fX3_placeOf at hm
  refine xpro (own := RX3) (by decide +kernel) rfl (Nat.le_of_ble_eq_true rfl) ?_
  intro p e s m args below meth c C hw ls hl
  have hx := C.1
  have hb := C.2.1
  have ho := C.2.2.2.1
  have hts := C.2.2.2.2.1
  have hf : Fz D G s.heap := hw.2.2.2.2
  have hS : va_S D s.heap s.heap [] := va_S.rf
  have hl : lv_has ls 3 [(0, .ref a0), (1, .int a1)] := hl
  have hRf : 0 ≤ rmX3_placeOf.frames := Nat.le_refl _
  have hRl : 0 ≤ rmX3_placeOf.locals := Nat.le_refl _
  have hcs : 0 ≤ rmX3_placeOf.cells ∧ 0 ≤ rmX3_placeOf.slots := ⟨Nat.le_refl _, Nat.le_refl _⟩
  refine lv_iconst (v := 0) hx hb dX3_placeOf_0 (by decide) ?_
  refine lv_istore_n (lv' := [(2, .int 0), (0, .ref a0), (1, .int a1)]) hx hb dX3_placeOf_1 rfl hl (by decide) rfl (fun ls hl => ?_)
  rcases bs_e hm with ⟨a, hj, hm⟩ | ⟨b, hj, hm⟩
  · refine lX3_placeOf_2 C hRf hRl hcs hf x a0 a1 NF _ _ _ _ _ hj hw hS (lv_sub hl [1, 2, 0] rfl) (fun _ e0 => by cases e0) (fun rv e0 H locs ls hw hS => ?_)
    · cases e0
      obtain rfl := Option.some.inj hm
      exact xret_i C hw hS dX3_placeOf_21
  · refine lX3_placeOf_2 C hRf hRl hcs hf x a0 a1 NF _ _ _ _ _ hj hw hS (lv_sub hl [1, 2, 0] rfl) (fun _ e0 H locs ls hw hS hl => ?_) (fun _ e0 => by cases e0)
    refine lv_iconst (v := (-1)) hx hb dX3_placeOf_28 (by decide) ?_
    obtain rfl := Option.some.inj hm
    exact xret_i C hw hS dX3_placeOf_29
theorem dX6_isBlank_0 : decode cX6_isBlank 0 = .ok (.iload_n 0, 1) := by decide +kernel
theorem dX6_isBlank_1 : decode cX6_isBlank 1 = .ok (.bipush 32, 2) := by decide +kernel
theorem dX6_isBlank_3 : decode cX6_isBlank 3 = .ok (.if_icmp .eq 9, 3) := by decide +kernel
theorem dX6_isBlank_6 : decode cX6_isBlank 6 = .ok (.iload_n 0, 1) := by decide +kernel
theorem dX6_isBlank_7 : decode cX6_isBlank 7 = .ok (.bipush 10, 2) := by decide +kernel
theorem dX6_isBlank_9 : decode cX6_isBlank 9 = .ok (.if_icmp .ne 7, 3) := by decide +kernel
theorem dX6_isBlank_12 : decode cX6_isBlank 12 = .ok (.iconst 1, 1) := by decide +kernel
theorem dX6_isBlank_13 : decode cX6_isBlank 13 = .ok (.goto 4, 3) := by decide +kernel
theorem dX6_isBlank_16 : decode cX6_isBlank 16 = .ok (.iconst 0, 1) := by decide +kernel
theorem dX6_isBlank_17 : decode cX6_isBlank 17 = .ok (.ireturn, 1) := by decide +kernel
def fX6_isBlank (a1 : Int32) : Option (Bool) := if a1 = 32 then some true else if a1 = 10 then some true else some false
abbrev rmX6_isBlank : Room := { frames := 0, cells := 0, slots := 0, locals := 0 }
set_option maxHeartbeats 4000000 in
set_option maxRecDepth 100000 in
theorem kX6_isBlank {l : Launch} {G : xG} {β : Nat} {D : Nat → Prop} {x : XS} {a1 : Int32} {r : Bool} (hm : fX6_isBlank a1 = some r) : Met l yX6_isBlank (.code yX6_isBlank cX6_isBlank 1 (some .boolean) :: GT) rmX6_isBlank (PcW [.int a1] (CW β D G x) (KK G)) (QcW D (some (.int (bI r))) (CW β D G x)) 0 0 D := by
  unfold fX6_isBlank at hm
  refine xpro (own := RX6) (by decide +kernel) rfl (Nat.le_of_ble_eq_true rfl) ?_
  intro p e s m args below meth c C hw ls hl
  have hx := C.1
  have hb := C.2.1
  have ho := C.2.2.2.1
  have hts := C.2.2.2.2.1
  have hf : Fz D G s.heap := hw.2.2.2.2
  have hS : va_S D s.heap s.heap [] := va_S.rf
  have hl : lv_has ls 1 [(0, .int a1)] := hl
  have hRf : 0 ≤ rmX6_isBlank.frames := Nat.le_refl _
  have hRl : 0 ≤ rmX6_isBlank.locals := Nat.le_refl _
  have hcs : 0 ≤ rmX6_isBlank.cells ∧ 0 ≤ rmX6_isBlank.slots := ⟨Nat.le_refl _, Nat.le_refl _⟩
  refine lv_iload_n hx hb dX6_isBlank_0 rfl (lv_at hl 0 rfl) ?_
  refine lv_bipush (v := 32) hx hb dX6_isBlank_1 (by decide) ?_
  refine lv_icmp_eq (tgt := 12) hx hb dX6_isBlank_3 (by decide) (fun cc => ?_) (fun cc => ?_)
  · replace hm := ite_p cc hm
    refine lv_iconst (v := 1) hx hb dX6_isBlank_12 (by decide) ?_
    refine lv_goto (tgt := 17) hx hb dX6_isBlank_13 (by decide) ?_
    obtain rfl := Option.some.inj hm
    exact xret_z (v := bI true) C (bI_nar _) hw hS dX6_isBlank_17
  · replace hm := ite_n cc hm
    refine lv_iload_n hx hb dX6_isBlank_6 rfl (lv_at hl 0 rfl) ?_
    refine lv_bipush (v := 10) hx hb dX6_isBlank_7 (by decide) ?_
    refine lv_icmp_ne (tgt := 16) hx hb dX6_isBlank_9 (by decide) (fun cc => ?_) (fun cc => ?_)
    · replace hm := ite_n cc hm
      refine lv_iconst (v := 0) hx hb dX6_isBlank_16 (by decide) ?_
      obtain rfl := Option.some.inj hm
      exact xret_z (v := bI false) C (bI_nar _) hw hS dX6_isBlank_17
    · replace hm := ite_p cc hm
      refine lv_iconst (v := 1) hx hb dX6_isBlank_12 (by decide) ?_
      refine lv_goto (tgt := 17) hx hb dX6_isBlank_13 (by decide) ?_
      obtain rfl := Option.some.inj hm
      exact xret_z (v := bI true) C (bI_nar _) hw hS dX6_isBlank_17
theorem dX6_isDigit_0 : decode cX6_isDigit 0 = .ok (.iload_n 0, 1) := by decide +kernel
theorem dX6_isDigit_1 : decode cX6_isDigit 1 = .ok (.bipush 48, 2) := by decide +kernel
theorem dX6_isDigit_3 : decode cX6_isDigit 3 = .ok (.if_icmp .lt 13, 3) := by decide +kernel
theorem dX6_isDigit_6 : decode cX6_isDigit 6 = .ok (.iload_n 0, 1) := by decide +kernel
theorem dX6_isDigit_7 : decode cX6_isDigit 7 = .ok (.bipush 57, 2) := by decide +kernel
theorem dX6_isDigit_9 : decode cX6_isDigit 9 = .ok (.if_icmp .gt 7, 3) := by decide +kernel
theorem dX6_isDigit_12 : decode cX6_isDigit 12 = .ok (.iconst 1, 1) := by decide +kernel
theorem dX6_isDigit_13 : decode cX6_isDigit 13 = .ok (.goto 4, 3) := by decide +kernel
theorem dX6_isDigit_16 : decode cX6_isDigit 16 = .ok (.iconst 0, 1) := by decide +kernel
theorem dX6_isDigit_17 : decode cX6_isDigit 17 = .ok (.ireturn, 1) := by decide +kernel
def fX6_isDigit (a1 : Int32) : Option (Bool) := if a1 < 48 then some false else if 57 < a1 then some false else some true
abbrev rmX6_isDigit : Room := { frames := 0, cells := 0, slots := 0, locals := 0 }
set_option maxHeartbeats 4000000 in
set_option maxRecDepth 100000 in
theorem kX6_isDigit {l : Launch} {G : xG} {β : Nat} {D : Nat → Prop} {x : XS} {a1 : Int32} {r : Bool} (hm : fX6_isDigit a1 = some r) : Met l yX6_isDigit (.code yX6_isDigit cX6_isDigit 1 (some .boolean) :: GT) rmX6_isDigit (PcW [.int a1] (CW β D G x) (KK G)) (QcW D (some (.int (bI r))) (CW β D G x)) 0 0 D := by
  unfold fX6_isDigit at hm
  refine xpro (own := RX6) (by decide +kernel) rfl (Nat.le_of_ble_eq_true rfl) ?_
  intro p e s m args below meth c C hw ls hl
  have hx := C.1
  have hb := C.2.1
  have ho := C.2.2.2.1
  have hts := C.2.2.2.2.1
  have hf : Fz D G s.heap := hw.2.2.2.2
  have hS : va_S D s.heap s.heap [] := va_S.rf
  have hl : lv_has ls 1 [(0, .int a1)] := hl
  have hRf : 0 ≤ rmX6_isDigit.frames := Nat.le_refl _
  have hRl : 0 ≤ rmX6_isDigit.locals := Nat.le_refl _
  have hcs : 0 ≤ rmX6_isDigit.cells ∧ 0 ≤ rmX6_isDigit.slots := ⟨Nat.le_refl _, Nat.le_refl _⟩
  refine lv_iload_n hx hb dX6_isDigit_0 rfl (lv_at hl 0 rfl) ?_
  refine lv_bipush (v := 48) hx hb dX6_isDigit_1 (by decide) ?_
  refine lv_icmp_lt (tgt := 16) hx hb dX6_isDigit_3 (by decide) (fun cc => ?_) (fun cc => ?_)
  · replace hm := ite_p cc hm
    refine lv_iconst (v := 0) hx hb dX6_isDigit_16 (by decide) ?_
    obtain rfl := Option.some.inj hm
    exact xret_z (v := bI false) C (bI_nar _) hw hS dX6_isDigit_17
  · replace hm := ite_n cc hm
    refine lv_iload_n hx hb dX6_isDigit_6 rfl (lv_at hl 0 rfl) ?_
    refine lv_bipush (v := 57) hx hb dX6_isDigit_7 (by decide) ?_
    refine lv_icmp_gt (tgt := 16) hx hb dX6_isDigit_9 (by decide) (fun cc => ?_) (fun cc => ?_)
    · replace hm := ite_p cc hm
      refine lv_iconst (v := 0) hx hb dX6_isDigit_16 (by decide) ?_
      obtain rfl := Option.some.inj hm
      exact xret_z (v := bI false) C (bI_nar _) hw hS dX6_isDigit_17
    · replace hm := ite_n cc hm
      refine lv_iconst (v := 1) hx hb dX6_isDigit_12 (by decide) ?_
      refine lv_goto (tgt := 17) hx hb dX6_isDigit_13 (by decide) ?_
      obtain rfl := Option.some.inj hm
      exact xret_z (v := bI true) C (bI_nar _) hw hS dX6_isDigit_17
theorem dX6_isLetter_0 : decode cX6_isLetter 0 = .ok (.iload_n 0, 1) := by decide +kernel
theorem dX6_isLetter_1 : decode cX6_isLetter 1 = .ok (.bipush 97, 2) := by decide +kernel
theorem dX6_isLetter_3 : decode cX6_isLetter 3 = .ok (.if_icmp .lt 13, 3) := by decide +kernel
theorem dX6_isLetter_6 : decode cX6_isLetter 6 = .ok (.iload_n 0, 1) := by decide +kernel
theorem dX6_isLetter_7 : decode cX6_isLetter 7 = .ok (.bipush 122, 2) := by decide +kernel
theorem dX6_isLetter_9 : decode cX6_isLetter 9 = .ok (.if_icmp .gt 7, 3) := by decide +kernel
theorem dX6_isLetter_12 : decode cX6_isLetter 12 = .ok (.iconst 1, 1) := by decide +kernel
theorem dX6_isLetter_13 : decode cX6_isLetter 13 = .ok (.goto 4, 3) := by decide +kernel
theorem dX6_isLetter_16 : decode cX6_isLetter 16 = .ok (.iconst 0, 1) := by decide +kernel
theorem dX6_isLetter_17 : decode cX6_isLetter 17 = .ok (.ireturn, 1) := by decide +kernel
def fX6_isLetter (a1 : Int32) : Option (Bool) := if a1 < 97 then some false else if 122 < a1 then some false else some true
abbrev rmX6_isLetter : Room := { frames := 0, cells := 0, slots := 0, locals := 0 }
set_option maxHeartbeats 4000000 in
set_option maxRecDepth 100000 in
theorem kX6_isLetter {l : Launch} {G : xG} {β : Nat} {D : Nat → Prop} {x : XS} {a1 : Int32} {r : Bool} (hm : fX6_isLetter a1 = some r) : Met l yX6_isLetter (.code yX6_isLetter cX6_isLetter 1 (some .boolean) :: GT) rmX6_isLetter (PcW [.int a1] (CW β D G x) (KK G)) (QcW D (some (.int (bI r))) (CW β D G x)) 0 0 D := by
  unfold fX6_isLetter at hm
  refine xpro (own := RX6) (by decide +kernel) rfl (Nat.le_of_ble_eq_true rfl) ?_
  intro p e s m args below meth c C hw ls hl
  have hx := C.1
  have hb := C.2.1
  have ho := C.2.2.2.1
  have hts := C.2.2.2.2.1
  have hf : Fz D G s.heap := hw.2.2.2.2
  have hS : va_S D s.heap s.heap [] := va_S.rf
  have hl : lv_has ls 1 [(0, .int a1)] := hl
  have hRf : 0 ≤ rmX6_isLetter.frames := Nat.le_refl _
  have hRl : 0 ≤ rmX6_isLetter.locals := Nat.le_refl _
  have hcs : 0 ≤ rmX6_isLetter.cells ∧ 0 ≤ rmX6_isLetter.slots := ⟨Nat.le_refl _, Nat.le_refl _⟩
  refine lv_iload_n hx hb dX6_isLetter_0 rfl (lv_at hl 0 rfl) ?_
  refine lv_bipush (v := 97) hx hb dX6_isLetter_1 (by decide) ?_
  refine lv_icmp_lt (tgt := 16) hx hb dX6_isLetter_3 (by decide) (fun cc => ?_) (fun cc => ?_)
  · replace hm := ite_p cc hm
    refine lv_iconst (v := 0) hx hb dX6_isLetter_16 (by decide) ?_
    obtain rfl := Option.some.inj hm
    exact xret_z (v := bI false) C (bI_nar _) hw hS dX6_isLetter_17
  · replace hm := ite_n cc hm
    refine lv_iload_n hx hb dX6_isLetter_6 rfl (lv_at hl 0 rfl) ?_
    refine lv_bipush (v := 122) hx hb dX6_isLetter_7 (by decide) ?_
    refine lv_icmp_gt (tgt := 16) hx hb dX6_isLetter_9 (by decide) (fun cc => ?_) (fun cc => ?_)
    · replace hm := ite_p cc hm
      refine lv_iconst (v := 0) hx hb dX6_isLetter_16 (by decide) ?_
      obtain rfl := Option.some.inj hm
      exact xret_z (v := bI false) C (bI_nar _) hw hS dX6_isLetter_17
    · replace hm := ite_n cc hm
      refine lv_iconst (v := 1) hx hb dX6_isLetter_12 (by decide) ?_
      refine lv_goto (tgt := 17) hx hb dX6_isLetter_13 (by decide) ?_
      obtain rfl := Option.some.inj hm
      exact xret_z (v := bI true) C (bI_nar _) hw hS dX6_isLetter_17
theorem dX6_readNumber_0 : decode cX6_readNumber 0 = .ok (.aload_n 0, 1) := by decide +kernel
theorem dX6_readNumber_1 : decode cX6_readNumber 1 = .ok (.iconst 0, 1) := by decide +kernel
theorem dX6_readNumber_2 : decode cX6_readNumber 2 = .ok (.putfield 28, 3) := by decide +kernel
theorem dX6_readNumber_5 : decode cX6_readNumber 5 = .ok (.aload_n 0, 1) := by decide +kernel
theorem dX6_readNumber_6 : decode cX6_readNumber 6 = .ok (.getfield 22, 3) := by decide +kernel
theorem dX6_readNumber_9 : decode cX6_readNumber 9 = .ok (.aload_n 0, 1) := by decide +kernel
theorem dX6_readNumber_10 : decode cX6_readNumber 10 = .ok (.getfield 15, 3) := by decide +kernel
theorem dX6_readNumber_13 : decode cX6_readNumber 13 = .ok (.if_icmp .ge 55, 3) := by decide +kernel
theorem dX6_readNumber_16 : decode cX6_readNumber 16 = .ok (.aload_n 0, 1) := by decide +kernel
theorem dX6_readNumber_17 : decode cX6_readNumber 17 = .ok (.getfield 9, 3) := by decide +kernel
theorem dX6_readNumber_20 : decode cX6_readNumber 20 = .ok (.aload_n 0, 1) := by decide +kernel
theorem dX6_readNumber_21 : decode cX6_readNumber 21 = .ok (.getfield 22, 3) := by decide +kernel
theorem dX6_readNumber_24 : decode cX6_readNumber 24 = .ok (.caload, 1) := by decide +kernel
theorem dX6_readNumber_25 : decode cX6_readNumber 25 = .ok (.invokestatic 45, 3) := by decide +kernel
theorem dX6_readNumber_28 : decode cX6_readNumber 28 = .ok (.ifCond .eq 40, 3) := by decide +kernel
theorem dX6_readNumber_31 : decode cX6_readNumber 31 = .ok (.aload_n 0, 1) := by decide +kernel
theorem dX6_readNumber_32 : decode cX6_readNumber 32 = .ok (.aload_n 0, 1) := by decide +kernel
theorem dX6_readNumber_33 : decode cX6_readNumber 33 = .ok (.getfield 28, 3) := by decide +kernel
theorem dX6_readNumber_36 : decode cX6_readNumber 36 = .ok (.bipush 10, 2) := by decide +kernel
theorem dX6_readNumber_38 : decode cX6_readNumber 38 = .ok (.imul, 1) := by decide +kernel
theorem dX6_readNumber_39 : decode cX6_readNumber 39 = .ok (.aload_n 0, 1) := by decide +kernel
theorem dX6_readNumber_40 : decode cX6_readNumber 40 = .ok (.getfield 9, 3) := by decide +kernel
theorem dX6_readNumber_43 : decode cX6_readNumber 43 = .ok (.aload_n 0, 1) := by decide +kernel
theorem dX6_readNumber_44 : decode cX6_readNumber 44 = .ok (.getfield 22, 3) := by decide +kernel
theorem dX6_readNumber_47 : decode cX6_readNumber 47 = .ok (.caload, 1) := by decide +kernel
theorem dX6_readNumber_48 : decode cX6_readNumber 48 = .ok (.bipush 48, 2) := by decide +kernel
theorem dX6_readNumber_50 : decode cX6_readNumber 50 = .ok (.isub, 1) := by decide +kernel
theorem dX6_readNumber_51 : decode cX6_readNumber 51 = .ok (.iadd, 1) := by decide +kernel
theorem dX6_readNumber_52 : decode cX6_readNumber 52 = .ok (.putfield 28, 3) := by decide +kernel
theorem dX6_readNumber_55 : decode cX6_readNumber 55 = .ok (.aload_n 0, 1) := by decide +kernel
theorem dX6_readNumber_56 : decode cX6_readNumber 56 = .ok (.dup, 1) := by decide +kernel
theorem dX6_readNumber_57 : decode cX6_readNumber 57 = .ok (.getfield 22, 3) := by decide +kernel
theorem dX6_readNumber_60 : decode cX6_readNumber 60 = .ok (.iconst 1, 1) := by decide +kernel
theorem dX6_readNumber_61 : decode cX6_readNumber 61 = .ok (.iadd, 1) := by decide +kernel
theorem dX6_readNumber_62 : decode cX6_readNumber 62 = .ok (.putfield 22, 3) := by decide +kernel
theorem dX6_readNumber_65 : decode cX6_readNumber 65 = .ok (.goto (-60), 3) := by decide +kernel
theorem dX6_readNumber_68 : decode cX6_readNumber 68 = .ok (.aload_n 0, 1) := by decide +kernel
theorem dX6_readNumber_69 : decode cX6_readNumber 69 = .ok (.getfield 22, 3) := by decide +kernel
theorem dX6_readNumber_72 : decode cX6_readNumber 72 = .ok (.aload_n 0, 1) := by decide +kernel
theorem dX6_readNumber_73 : decode cX6_readNumber 73 = .ok (.getfield 19, 3) := by decide +kernel
theorem dX6_readNumber_76 : decode cX6_readNumber 76 = .ok (.isub, 1) := by decide +kernel
theorem dX6_readNumber_77 : decode cX6_readNumber 77 = .ok (.iconst 4, 1) := by decide +kernel
theorem dX6_readNumber_78 : decode cX6_readNumber 78 = .ok (.if_icmp .le 8, 3) := by decide +kernel
theorem dX6_readNumber_81 : decode cX6_readNumber 81 = .ok (.bipush (-36), 2) := by decide +kernel
theorem dX6_readNumber_83 : decode cX6_readNumber 83 = .ok (.goto 5, 3) := by decide +kernel
theorem dX6_readNumber_86 : decode cX6_readNumber 86 = .ok (.bipush (-34), 2) := by decide +kernel
theorem dX6_readNumber_88 : decode cX6_readNumber 88 = .ok (.ireturn, 1) := by decide +kernel
theorem iwX6 : ∀ w ∈ u_ws RX6 TX6 6, w ∈ GT := in_tb [47, 49, 51, 53, 55, 57] (by decide +kernel) (by decide +kernel)
theorem pX6_28 {p : Program} {l : Launch} {e : Env} {R : Room} {s : State} {m : MethodId} {args : Array Value} {below : List Frame} {meth : Method} {c : Code} {H : Heap} {locs : List Loc} {cells slots : Nat} {Q : State → Prop} {cc : ByteArray} {pc nL : Nat} {ls : Array Slot} {rest : List Value} {ret : Option FieldType} {G : xG} {β : Nat} {D : Nat → Prop} {x : XS} {v : Int32} (C : Cx p s m args meth c RX6 cc nL ret (KK G)) (hw : CW β D G x H) (hS : va_S D s.heap H locs) (hd : decode cc pc = .ok (.putfield 28, 3)) (kk : ∀ (H1 : Heap) (locs1 : List Loc), CW β D G (xsS x 4 5 v) H1 → va_S D s.heap H1 locs1 → W p l e R s m args below meth c H1 locs1 cells slots Q (F0 m (pc + 3) ls (rest))) : W p l e R s m args below meth c H locs cells slots Q (F0 m pc ls (.int v :: .ref (β + 4) :: rest)) :=
  x_put C.1 C.2.1 C.2.2.2.2.1 iwX6 tyX6 tyX6_ok nmX6 C.2.2.2.1 C.K.1 hS (hw.2.2.1 4 (by decide)) (hw.2.1 4 (by decide)) rfl 5 (by decide) (C.2.2.2.2.1 (.fieldLink RX6 28 RX6 "number" "I") (tg 45 (by decide +kernel) rfl)) (fun _ h9 => h9) rfl (ty := .int) (by decide +kernel) rfl rfl (Nat.le_of_ble_eq_true rfl) hd (fun H1 locs1 hat ho hS => kk H1 locs1 (hw.setS 4 5 v hat ho) hS)
theorem gX6_22 {p : Program} {l : Launch} {e : Env} {R : Room} {s : State} {m : MethodId} {args : Array Value} {below : List Frame} {meth : Method} {c : Code} {H : Heap} {locs : List Loc} {cells slots : Nat} {Q : State → Prop} {cc : ByteArray} {pc nL : Nat} {ls : Array Slot} {rest : List Value} {ret : Option FieldType} {G : xG} {β : Nat} {D : Nat → Prop} {x : XS} (C : Cx p s m args meth c RX6 cc nL ret (KK G)) (hw : CW β D G x H) (hd : decode cc pc = .ok (.getfield 22, 3)) (kk : W p l e R s m args below meth c H locs cells slots Q (F0 m (pc + 3) ls (.int (x.1 4 3) :: rest))) : W p l e R s m args below meth c H locs cells slots Q (F0 m pc ls (.ref (β + 4) :: rest)) :=
  va_get C.1 C.2.1 C.2.2.2.2.1 iwX6 C.2.2.2.1 C.K.1 (xP1 (hw.2.2.1 4 (by decide))) 0 rfl rfl 3 (by decide) (C.2.2.2.2.1 (.fieldLink RX6 22 RX6 "behind" "I") (tg 42 (by decide +kernel) rfl)) (fun _ h9 => h9) rfl hd kk
theorem gX6_15 {p : Program} {l : Launch} {e : Env} {R : Room} {s : State} {m : MethodId} {args : Array Value} {below : List Frame} {meth : Method} {c : Code} {H : Heap} {locs : List Loc} {cells slots : Nat} {Q : State → Prop} {cc : ByteArray} {pc nL : Nat} {ls : Array Slot} {rest : List Value} {ret : Option FieldType} {G : xG} {β : Nat} {D : Nat → Prop} {x : XS} (C : Cx p s m args meth c RX6 cc nL ret (KK G)) (hw : CW β D G x H) (hd : decode cc pc = .ok (.getfield 15, 3)) (kk : W p l e R s m args below meth c H locs cells slots Q (F0 m (pc + 3) ls (.int (x.1 4 1) :: rest))) : W p l e R s m args below meth c H locs cells slots Q (F0 m pc ls (.ref (β + 4) :: rest)) :=
  va_get C.1 C.2.1 C.2.2.2.2.1 iwX6 C.2.2.2.1 C.K.1 (xP1 (hw.2.2.1 4 (by decide))) 0 rfl rfl 1 (by decide) (C.2.2.2.2.1 (.fieldLink RX6 15 RX6 "size" "I") (tg 38 (by decide +kernel) rfl)) (fun _ h9 => h9) rfl hd kk
theorem gX6_9 {p : Program} {l : Launch} {e : Env} {R : Room} {s : State} {m : MethodId} {args : Array Value} {below : List Frame} {meth : Method} {c : Code} {H : Heap} {locs : List Loc} {cells slots : Nat} {Q : State → Prop} {cc : ByteArray} {pc nL : Nat} {ls : Array Slot} {rest : List Value} {ret : Option FieldType} {G : xG} {β : Nat} {D : Nat → Prop} {x : XS} (C : Cx p s m args meth c RX6 cc nL ret (KK G)) (hw : CW β D G x H) (hd : decode cc pc = .ok (.getfield 9, 3)) (kk : W p l e R s m args below meth c H locs cells slots Q (F0 m (pc + 3) ls (.ref (β + 5) :: rest))) : W p l e R s m args below meth c H locs cells slots Q (F0 m pc ls (.ref (β + 4) :: rest)) :=
  va_get C.1 C.2.1 C.2.2.2.2.1 iwX6 C.2.2.2.1 C.K.1 (xP1 (hw.2.2.1 4 (by decide))) 0 rfl rfl 0 (by decide) (C.2.2.2.2.1 (.fieldLink RX6 9 RX6 "bytes" "[C") (tg 37 (by decide +kernel) rfl)) (fun _ h9 => h9) rfl hd kk
theorem alX_5 {p : Program} {l : Launch} {e : Env} {R : Room} {s : State} {m : MethodId} {args : Array Value} {below : List Frame} {meth : Method} {c : Code} {H : Heap} {locs : List Loc} {cells slots : Nat} {Q : State → Prop} {cc : ByteArray} {pc nL : Nat} {ls : Array Slot} {rest : List Value} {ret : Option FieldType} {G : xG} {β : Nat} {D : Nat → Prop} {x : XS} {own : String} {i : Int32} (C : Cx p s m args meth c own cc nL ret (KK G)) (hw : CW β D G x H) (hin : ib i 160) (hd : decode cc pc = .ok (.caload, 1)) (kk : W p l e R s m args below meth c H locs cells slots Q (F0 m (pc + 1) ls (.int (x.2.1 5 i.toNatClampNeg) :: rest))) : W p l e R s m args below meth c H locs cells slots Q (F0 m pc ls (.int i :: .ref (β + 5) :: rest)) :=
  va_cald C.1 C.2.1 C.K.1 (xP1 (hw.2.2.1 5 (by decide))) 0 2 rfl rfl hin hd kk
theorem sX6_45 {p : Program} {l : Launch} {e : Env} {R : Room} {s : State} {m : MethodId} {args : Array Value} {below : List Frame} {meth : Method} {c : Code} {H : Heap} {locs : List Loc} {cells slots : Nat} {Q : State → Prop} {cc : ByteArray} {pc nL : Nat} {ls : Array Slot} {rest : List Value} {ret : Option FieldType}  {G : xG} {β : Nat} {D : Nat → Prop} {x : XS} {a1 : Int32} {r : Bool} (C : Cx p s m args meth c RX6 cc nL ret (KK G)) (h : fX6_isDigit a1 = some r) (hw : CW β D G x H) (hS : va_S D s.heap H locs) (hsz : ls.size = nL) (hW : (rest.map fun v => v.category).sum ≤ 8) (hR : 1 ≤ R.frames) (hR2 : 20 ≤ R.locals) (hcs : cells ≤ R.cells ∧ slots ≤ R.slots) (hd : decode cc pc = .ok (.invokestatic 45, 3)) (kk : ∀ (H1 : Heap) (locs1 : List Loc), CW β D G x H1 → va_S D s.heap H1 locs1 → W p l e R s m args below meth c H1 locs1 cells slots Q (F0 m (pc + 3) ls (.int (bI r) :: rest))) : W p l e R s m args below meth c H locs cells slots Q (F0 m pc ls (.int a1 :: rest)) := by
  exact xcallS C (As := [.int a1]) (rest := rest) (nA := 1) (kX6_isDigit h) (tg 252 (by decide +kernel) rfl) (tg 253 (by decide +kernel) rfl) (tg 2 (by decide +kernel) rfl) (tg 254 (by decide +kernel) rfl) ⟨by decide +kernel, by decide +kernel, by decide +kernel⟩ rfl rfl ⟨hR, hR2⟩ hw hS (fun _ q => q) rfl rfl hsz hW hd hcs (fun H1 locs1 hw hz hk hS => kk H1 locs1 hw hS)
theorem gX6_28 {p : Program} {l : Launch} {e : Env} {R : Room} {s : State} {m : MethodId} {args : Array Value} {below : List Frame} {meth : Method} {c : Code} {H : Heap} {locs : List Loc} {cells slots : Nat} {Q : State → Prop} {cc : ByteArray} {pc nL : Nat} {ls : Array Slot} {rest : List Value} {ret : Option FieldType} {G : xG} {β : Nat} {D : Nat → Prop} {x : XS} (C : Cx p s m args meth c RX6 cc nL ret (KK G)) (hw : CW β D G x H) (hd : decode cc pc = .ok (.getfield 28, 3)) (kk : W p l e R s m args below meth c H locs cells slots Q (F0 m (pc + 3) ls (.int (x.1 4 5) :: rest))) : W p l e R s m args below meth c H locs cells slots Q (F0 m pc ls (.ref (β + 4) :: rest)) :=
  va_get C.1 C.2.1 C.2.2.2.2.1 iwX6 C.2.2.2.1 C.K.1 (xP1 (hw.2.2.1 4 (by decide))) 0 rfl rfl 5 (by decide) (C.2.2.2.2.1 (.fieldLink RX6 28 RX6 "number" "I") (tg 45 (by decide +kernel) rfl)) (fun _ h9 => h9) rfl hd kk
theorem pX6_22 {p : Program} {l : Launch} {e : Env} {R : Room} {s : State} {m : MethodId} {args : Array Value} {below : List Frame} {meth : Method} {c : Code} {H : Heap} {locs : List Loc} {cells slots : Nat} {Q : State → Prop} {cc : ByteArray} {pc nL : Nat} {ls : Array Slot} {rest : List Value} {ret : Option FieldType} {G : xG} {β : Nat} {D : Nat → Prop} {x : XS} {v : Int32} (C : Cx p s m args meth c RX6 cc nL ret (KK G)) (hw : CW β D G x H) (hS : va_S D s.heap H locs) (hd : decode cc pc = .ok (.putfield 22, 3)) (kk : ∀ (H1 : Heap) (locs1 : List Loc), CW β D G (xsS x 4 3 v) H1 → va_S D s.heap H1 locs1 → W p l e R s m args below meth c H1 locs1 cells slots Q (F0 m (pc + 3) ls (rest))) : W p l e R s m args below meth c H locs cells slots Q (F0 m pc ls (.int v :: .ref (β + 4) :: rest)) :=
  x_put C.1 C.2.1 C.2.2.2.2.1 iwX6 tyX6 tyX6_ok nmX6 C.2.2.2.1 C.K.1 hS (hw.2.2.1 4 (by decide)) (hw.2.1 4 (by decide)) rfl 3 (by decide) (C.2.2.2.2.1 (.fieldLink RX6 22 RX6 "behind" "I") (tg 42 (by decide +kernel) rfl)) (fun _ h9 => h9) rfl (ty := .int) (by decide +kernel) rfl rfl (Nat.le_of_ble_eq_true rfl) hd (fun H1 locs1 hat ho hS => kk H1 locs1 (hw.setS 4 3 v hat ho) hS)
theorem gX6_19 {p : Program} {l : Launch} {e : Env} {R : Room} {s : State} {m : MethodId} {args : Array Value} {below : List Frame} {meth : Method} {c : Code} {H : Heap} {locs : List Loc} {cells slots : Nat} {Q : State → Prop} {cc : ByteArray} {pc nL : Nat} {ls : Array Slot} {rest : List Value} {ret : Option FieldType} {G : xG} {β : Nat} {D : Nat → Prop} {x : XS} (C : Cx p s m args meth c RX6 cc nL ret (KK G)) (hw : CW β D G x H) (hd : decode cc pc = .ok (.getfield 19, 3)) (kk : W p l e R s m args below meth c H locs cells slots Q (F0 m (pc + 3) ls (.int (x.1 4 2) :: rest))) : W p l e R s m args below meth c H locs cells slots Q (F0 m pc ls (.ref (β + 4) :: rest)) :=
  va_get C.1 C.2.1 C.2.2.2.2.1 iwX6 C.2.2.2.1 C.K.1 (xP1 (hw.2.2.1 4 (by decide))) 0 rfl rfl 2 (by decide) (C.2.2.2.2.1 (.fieldLink RX6 19 RX6 "start" "I") (tg 40 (by decide +kernel) rfl)) (fun _ h9 => h9) rfl hd kk
def BX6_readNumber_5 (lp : XS → Option (XS)) (x : XS) : Option (XS) := if (x.1 4 1) ≤ (x.1 4 3) then some x else if ib (x.1 4 3) 160 then Option.bind (fX6_isDigit (x.2.1 5 (x.1 4 3).toNatClampNeg)) fun v3 => if v3 = true then if ib (x.1 4 3) 160 then lt (xsS x 4 5 (((x.1 4 5) * 10) + ((x.2.1 5 (x.1 4 3).toNatClampNeg) - 48))) fun x6 => lt (xsS x6 4 3 ((x6.1 4 3) + 1)) fun x7 => lp x7 else none else some x else none
def LX6_readNumber_5 : Nat → XS → Option (XS)
  | 0, _ => none
  | n + 1, x => BX6_readNumber_5 (LX6_readNumber_5 n) x
def fX6_readNumber (x : XS) : Option (Int32 × XS) := lt (xsS x 4 5 0) fun x1 => Option.bind (LX6_readNumber_5 NF x1) fun x8 => if ((x8.1 4 3) - (x8.1 4 2)) ≤ 4 then some ((-34), x8) else some ((-36), x8)
set_option maxHeartbeats 4000000 in
set_option maxRecDepth 100000 in
theorem lX6_readNumber_5 {p : Program} {l : Launch} {e : Env} {R : Room} {s : State} {m : MethodId} {args : Array Value} {below : List Frame} {meth : Method} {c : Code} {cells slots : Nat} {Q : State → Prop} {G : xG} {β : Nat} {D : Nat → Prop} (C : Cx p s m args meth c RX6 cX6_readNumber 1 (some .int) (KK G)) (hRf : 1 ≤ R.frames) (hRl : 20 ≤ R.locals) (hcs : cells ≤ R.cells ∧ slots ≤ R.slots) (hf : Fz D G s.heap) : ∀ (n : Nat) (x : XS) (J : XS) (H : Heap) (locs : List Loc) (ls : Array Slot), LX6_readNumber_5 n x = some J → CW β D G x H → va_S D s.heap H locs → lv_has ls 1 [(0, .ref (β + 4))] → (∀ (x1 : XS), J = x1 → ∀ (H : Heap) (locs : List Loc) (ls : Array Slot), CW β D G x1 H → va_S D s.heap H locs → lv_has ls 1 [(0, .ref (β + 4))] → W p l e R s m args below meth c H locs cells slots Q (F0 m 68 ls [])) → W p l e R s m args below meth c H locs cells slots Q (F0 m 5 ls []) := by
  have hx := C.1
  have hb := C.2.1
  have ho := C.2.2.2.1
  have hts := C.2.2.2.2.1
  intro n
  induction n with
  | zero =>
    intro x J H locs ls hm
    exact absurd hm (by simp [LX6_readNumber_5])
  | succ n ih =>
    intro x J H locs ls hm hw hS hl ke
    replace hm : BX6_readNumber_5 (LX6_readNumber_5 n) x = some J := hm
    unfold BX6_readNumber_5 at hm
    refine lv_aload_n hx hb dX6_readNumber_5 rfl (lv_at hl 0 rfl) ?_
    refine gX6_22 C hw dX6_readNumber_6 ?_
    refine lv_aload_n hx hb dX6_readNumber_9 rfl (lv_at hl 0 rfl) ?_
    refine gX6_15 C hw dX6_readNumber_10 ?_
    refine lv_icmp_ge (tgt := 68) hx hb dX6_readNumber_13 (by decide) (fun cc => ?_) (fun cc => ?_)
    · replace hm := ite_p cc hm
      exact ke _ (Option.some.inj hm).symm _ _ _ hw hS (lv_sub hl [0] rfl)
    · replace hm := ite_n cc hm
      refine lv_aload_n hx hb dX6_readNumber_16 rfl (lv_at hl 0 rfl) ?_
      refine gX6_9 C hw dX6_readNumber_17 ?_
      refine lv_aload_n hx hb dX6_readNumber_20 rfl (lv_at hl 0 rfl) ?_
      refine gX6_22 C hw dX6_readNumber_21 ?_
      obtain ⟨h2, hm⟩ := chk_e hm
      refine alX_5 C hw h2 dX6_readNumber_24 ?_
      obtain ⟨v3, h4, hm⟩ := bind_e hm
      refine sX6_45 C h4 hw hS hl.1 (Nat.le_of_ble_eq_true rfl) (Nat.le_trans (Nat.le_of_ble_eq_true rfl) hRf) (Nat.le_trans (Nat.le_of_ble_eq_true rfl) hRl) hcs dX6_readNumber_25 (fun H locs hw hS => ?_)
      refine x_ifeqB hx hb dX6_readNumber_28 (tgt := 68) (by decide) (fun cc => ?_) (fun cc => ?_)
      · replace hm := ite_n cc hm
        exact ke _ (Option.some.inj hm).symm _ _ _ hw hS (lv_sub hl [0] rfl)
      · replace hm := ite_p cc hm
        refine lv_aload_n hx hb dX6_readNumber_31 rfl (lv_at hl 0 rfl) ?_
        refine lv_aload_n hx hb dX6_readNumber_32 rfl (lv_at hl 0 rfl) ?_
        refine gX6_28 C hw dX6_readNumber_33 ?_
        refine lv_bipush (v := 10) hx hb dX6_readNumber_36 (by decide) ?_
        refine lv_imul hx hb dX6_readNumber_38 ?_
        refine lv_aload_n hx hb dX6_readNumber_39 rfl (lv_at hl 0 rfl) ?_
        refine gX6_9 C hw dX6_readNumber_40 ?_
        refine lv_aload_n hx hb dX6_readNumber_43 rfl (lv_at hl 0 rfl) ?_
        refine gX6_22 C hw dX6_readNumber_44 ?_
        obtain ⟨h5, hm⟩ := chk_e hm
        refine alX_5 C hw h5 dX6_readNumber_47 ?_
        refine lv_bipush (v := 48) hx hb dX6_readNumber_48 (by decide) ?_
        refine lv_isub hx hb dX6_readNumber_50 ?_
        refine lv_iadd hx hb dX6_readNumber_51 ?_
        refine pX6_28 C hw hS dX6_readNumber_52 (fun H locs hw hS => ?_)
        obtain ⟨x6, ev, hm⟩ := lt_e hm
        rw [← ev] at hw
        clear ev
        refine lv_aload_n hx hb dX6_readNumber_55 rfl (lv_at hl 0 rfl) ?_
        refine lv_dup hx hb dX6_readNumber_56 rfl ?_
        refine gX6_22 C hw dX6_readNumber_57 ?_
        refine lv_iconst (v := 1) hx hb dX6_readNumber_60 (by decide) ?_
        refine lv_iadd hx hb dX6_readNumber_61 ?_
        refine pX6_22 C hw hS dX6_readNumber_62 (fun H locs hw hS => ?_)
        obtain ⟨x7, ev, hm⟩ := lt_e hm
        rw [← ev] at hw
        clear ev
        refine lv_goto (tgt := 5) hx hb dX6_readNumber_65 (by decide) ?_
        exact ih _ _ _ _ _ hm hw hS (lv_sub hl [0] rfl) ke
abbrev rmX6_readNumber : Room := { frames := 1, cells := 0, slots := 0, locals := 20 }
set_option maxHeartbeats 4000000 in
set_option maxRecDepth 100000 in
theorem kX6_readNumber {l : Launch} {G : xG} {β : Nat} {D : Nat → Prop} {x x' : XS} {r : Int32} (hm : fX6_readNumber x = some (r, x')) : Met l yX6_readNumber (.code yX6_readNumber cX6_readNumber 1 (some .int) :: GT) rmX6_readNumber (PcW [.ref (β + 4)] (CW β D G x) (KK G)) (QcW D (some (.int r)) (CW β D G x')) 0 0 D := by
  unfold fX6_readNumber at hm
  refine xpro (own := RX6) (by decide +kernel) rfl (Nat.le_of_ble_eq_true rfl) ?_
  intro p e s m args below meth c C hw ls hl
  have hx := C.1
  have hb := C.2.1
  have ho := C.2.2.2.1
  have hts := C.2.2.2.2.1
  have hf : Fz D G s.heap := hw.2.2.2.2
  have hS : va_S D s.heap s.heap [] := va_S.rf
  have hl : lv_has ls 1 [(0, .ref (β + 4))] := hl
  have hRf : 1 ≤ rmX6_readNumber.frames := Nat.le_refl _
  have hRl : 20 ≤ rmX6_readNumber.locals := Nat.le_refl _
  have hcs : 0 ≤ rmX6_readNumber.cells ∧ 0 ≤ rmX6_readNumber.slots := ⟨Nat.le_refl _, Nat.le_refl _⟩
  refine lv_aload_n hx hb dX6_readNumber_0 rfl (lv_at hl 0 rfl) ?_
  refine lv_iconst (v := 0) hx hb dX6_readNumber_1 (by decide) ?_
  refine pX6_28 C hw hS dX6_readNumber_2 (fun H locs hw hS => ?_)
  obtain ⟨x1, ev, hm⟩ := lt_e hm
  rw [← ev] at hw
  clear ev
  obtain ⟨x8, hj, hm⟩ := bind_e hm
  refine lX6_readNumber_5 C hRf hRl hcs hf NF _ _ _ _ _ hj hw hS (lv_sub hl [0] rfl) (fun x8_ e0 H locs ls hw hS hl => ?_)
  cases e0
  refine lv_aload_n hx hb dX6_readNumber_68 rfl (lv_at hl 0 rfl) ?_
  refine gX6_22 C hw dX6_readNumber_69 ?_
  refine lv_aload_n hx hb dX6_readNumber_72 rfl (lv_at hl 0 rfl) ?_
  refine gX6_19 C hw dX6_readNumber_73 ?_
  refine lv_isub hx hb dX6_readNumber_76 ?_
  refine lv_iconst (v := 4) hx hb dX6_readNumber_77 (by decide) ?_
  refine lv_icmp_le (tgt := 86) hx hb dX6_readNumber_78 (by decide) (fun cc => ?_) (fun cc => ?_)
  · replace hm := ite_p cc hm
    refine lv_bipush (v := (-34)) hx hb dX6_readNumber_86 (by decide) ?_
    obtain ⟨rfl, rfl⟩ := inj2 hm
    exact xret_i C hw hS dX6_readNumber_88
  · replace hm := ite_n cc hm
    refine lv_bipush (v := (-36)) hx hb dX6_readNumber_81 (by decide) ?_
    refine lv_goto (tgt := 88) hx hb dX6_readNumber_83 (by decide) ?_
    obtain ⟨rfl, rfl⟩ := inj2 hm
    exact xret_i C hw hS dX6_readNumber_88
theorem dJ0_isLatin1_aae02_0 : decode cJ0_isLatin1_aae02 0 = .ok (.getstatic 38, 3) := by decide +kernel
theorem dJ0_isLatin1_aae02_3 : decode cJ0_isLatin1_aae02 3 = .ok (.ifCond .eq 14, 3) := by decide +kernel
theorem dJ0_isLatin1_aae02_6 : decode cJ0_isLatin1_aae02 6 = .ok (.aload_n 0, 1) := by decide +kernel
theorem dJ0_isLatin1_aae02_7 : decode cJ0_isLatin1_aae02 7 = .ok (.getfield 15, 3) := by decide +kernel
theorem dJ0_isLatin1_aae02_10 : decode cJ0_isLatin1_aae02 10 = .ok (.ifCond .ne 7, 3) := by decide +kernel
theorem dJ0_isLatin1_aae02_13 : decode cJ0_isLatin1_aae02 13 = .ok (.iconst 1, 1) := by decide +kernel
theorem dJ0_isLatin1_aae02_14 : decode cJ0_isLatin1_aae02 14 = .ok (.goto 4, 3) := by decide +kernel
theorem dJ0_isLatin1_aae02_18 : decode cJ0_isLatin1_aae02 18 = .ok (.ireturn, 1) := by decide +kernel
def fJ0_isLatin1_aae02 (x : XS) (a0 : Nat) : Option (Bool) := if a0 < 13 then some true else none
abbrev rmJ0_isLatin1_aae02 : Room := { frames := 0, cells := 0, slots := 0, locals := 0 }
set_option maxHeartbeats 4000000 in
set_option maxRecDepth 100000 in
theorem kJ0_isLatin1_aae02 {l : Launch} {G : xG} {β : Nat} {D : Nat → Prop} {x : XS} {a0 : Nat} {r : Bool} (hm : fJ0_isLatin1_aae02 x a0 = some r) : Met l yJ0_isLatin1_aae02 (.code yJ0_isLatin1_aae02 cJ0_isLatin1_aae02 1 (some .boolean) :: GT) rmJ0_isLatin1_aae02 (PcW [.ref (G.2.2.2.2.1 a0)] (CW β D G x) (KK G)) (QcW D (some (.int (bI r))) (CW β D G x)) 0 0 D := by
  unfold fJ0_isLatin1_aae02 at hm
  refine xpro (own := RJ0) (by decide +kernel) rfl (Nat.le_of_ble_eq_true rfl) ?_
  intro p e s m args below meth c C hw ls hl
  have hx := C.1
  have hb := C.2.1
  have ho := C.2.2.2.1
  have hts := C.2.2.2.2.1
  have hf : Fz D G s.heap := hw.2.2.2.2
  have hS : va_S D s.heap s.heap [] := va_S.rf
  have hl : lv_has ls 1 [(0, .ref (G.2.2.2.2.1 a0))] := hl
  have hRf : 0 ≤ rmJ0_isLatin1_aae02.frames := Nat.le_refl _
  have hRl : 0 ≤ rmJ0_isLatin1_aae02.locals := Nat.le_refl _
  have hcs : 0 ≤ rmJ0_isLatin1_aae02.cells ∧ 0 ≤ rmJ0_isLatin1_aae02.slots := ⟨Nat.le_refl _, Nat.le_refl _⟩
  refine va_gets hx hb (KS_C C.K hf) hS ho (hts (.fieldLink RJ0 38 "java/lang/String" "COMPACT_STRINGS" "Z") (tg 168 (by decide +kernel) rfl)) (fun _ h9 => h9) dJ0_isLatin1_aae02_0 ?_
  refine lv_if_eq (tgt := 17) hx hb dJ0_isLatin1_aae02_3 (by decide) (fun cc => ?_) (fun cc => ?_)
  · exact absurd cc (by decide)
  · clear cc
    refine lv_aload_n hx hb dJ0_isLatin1_aae02_6 rfl (lv_at hl 0 rfl) ?_
    obtain ⟨h1, hm⟩ := chk_e hm
    refine vk_getf hx hb (KS_O C.K hf h1).2.1 hS ho (hts (.fieldLink RJ0 15 "java/lang/String" "coder" "B") (tg 1439 (by decide +kernel) rfl)) (fun _ h9 => h9) dJ0_isLatin1_aae02_7 ?_
    refine lv_if_ne (tgt := 17) hx hb dJ0_isLatin1_aae02_10 (by decide) (fun cc => ?_) (fun cc => ?_)
    · exact absurd cc (by decide)
    · clear cc
      refine lv_iconst (v := 1) hx hb dJ0_isLatin1_aae02_13 (by decide) ?_
      refine lv_goto (tgt := 18) hx hb dJ0_isLatin1_aae02_14 (by decide) ?_
      obtain rfl := Option.some.inj hm
      exact xret_z (v := bI true) C (bI_nar _) hw hS dJ0_isLatin1_aae02_18
theorem dJ3_checkIndex_8e157_0 : decode cJ3_checkIndex_8e157 0 = .ok (.iload_n 0, 1) := by decide +kernel
theorem dJ3_checkIndex_8e157_1 : decode cJ3_checkIndex_8e157 1 = .ok (.ifCond .lt 8, 3) := by decide +kernel
theorem dJ3_checkIndex_8e157_4 : decode cJ3_checkIndex_8e157 4 = .ok (.iload_n 0, 1) := by decide +kernel
theorem dJ3_checkIndex_8e157_5 : decode cJ3_checkIndex_8e157 5 = .ok (.iload_n 1, 1) := by decide +kernel
theorem dJ3_checkIndex_8e157_6 : decode cJ3_checkIndex_8e157 6 = .ok (.if_icmp .lt 10, 3) := by decide +kernel
theorem dJ3_checkIndex_8e157_9 : decode cJ3_checkIndex_8e157 9 = .ok (.aload_n 2, 1) := by decide +kernel
theorem dJ3_checkIndex_8e157_10 : decode cJ3_checkIndex_8e157 10 = .ok (.iload_n 0, 1) := by decide +kernel
theorem dJ3_checkIndex_8e157_11 : decode cJ3_checkIndex_8e157 11 = .ok (.iload_n 1, 1) := by decide +kernel
theorem dJ3_checkIndex_8e157_12 : decode cJ3_checkIndex_8e157 12 = .ok (.invokestatic 95, 3) := by decide +kernel
theorem dJ3_checkIndex_8e157_16 : decode cJ3_checkIndex_8e157 16 = .ok (.iload_n 0, 1) := by decide +kernel
theorem dJ3_checkIndex_8e157_17 : decode cJ3_checkIndex_8e157 17 = .ok (.ireturn, 1) := by decide +kernel
def fJ3_checkIndex_8e157 (a1 : Int32) (a2 : Int32) : Option (Int32) := if a1 < 0 then none else if a1 < a2 then some a1 else none
abbrev rmJ3_checkIndex_8e157 : Room := { frames := 0, cells := 0, slots := 0, locals := 0 }
set_option maxHeartbeats 4000000 in
set_option maxRecDepth 100000 in
theorem kJ3_checkIndex_8e157 {l : Launch} {G : xG} {β : Nat} {D : Nat → Prop} {x : XS} {a1 : Int32} {a2 : Int32} {a3 : Option Nat} {r : Int32} (hm : fJ3_checkIndex_8e157 a1 a2 = some r) : Met l yJ3_checkIndex_8e157 (.code yJ3_checkIndex_8e157 cJ3_checkIndex_8e157 3 (some .int) :: GT) rmJ3_checkIndex_8e157 (PcW [.int a1, .int a2, va_rf a3] (CW β D G x) (KK G)) (QcW D (some (.int r)) (CW β D G x)) 0 0 D := by
  unfold fJ3_checkIndex_8e157 at hm
  refine xpro (own := RJ3) (by decide +kernel) rfl (by cases a3 <;> exact Nat.le_of_ble_eq_true rfl) ?_
  intro p e s m args below meth c C hw ls hl
  have hx := C.1
  have hb := C.2.1
  have ho := C.2.2.2.1
  have hts := C.2.2.2.2.1
  have hf : Fz D G s.heap := hw.2.2.2.2
  have hS : va_S D s.heap s.heap [] := va_S.rf
  have hl : lv_has ls 3 [(0, .int a1), (1, .int a2), (2, va_rf a3)] := by cases a3 <;> exact hl
  have hRf : 0 ≤ rmJ3_checkIndex_8e157.frames := Nat.le_refl _
  have hRl : 0 ≤ rmJ3_checkIndex_8e157.locals := Nat.le_refl _
  have hcs : 0 ≤ rmJ3_checkIndex_8e157.cells ∧ 0 ≤ rmJ3_checkIndex_8e157.slots := ⟨Nat.le_refl _, Nat.le_refl _⟩
  refine lv_iload_n hx hb dJ3_checkIndex_8e157_0 rfl (lv_at hl 0 rfl) ?_
  refine lv_if_lt (tgt := 9) hx hb dJ3_checkIndex_8e157_1 (by decide) (fun cc => ?_) (fun cc => ?_)
  · replace hm := ite_p cc hm
    refine x_aload_nq hx hb dJ3_checkIndex_8e157_9 rfl (lv_at hl 2 rfl) ?_
    refine lv_iload_n hx hb dJ3_checkIndex_8e157_10 rfl (lv_at hl 0 rfl) ?_
    refine lv_iload_n hx hb dJ3_checkIndex_8e157_11 rfl (lv_at hl 1 rfl) ?_
    cases hm
  · replace hm := ite_n cc hm
    refine lv_iload_n hx hb dJ3_checkIndex_8e157_4 rfl (lv_at hl 0 rfl) ?_
    refine lv_iload_n hx hb dJ3_checkIndex_8e157_5 rfl (lv_at hl 1 rfl) ?_
    refine lv_icmp_lt (tgt := 16) hx hb dJ3_checkIndex_8e157_6 (by decide) (fun cc => ?_) (fun cc => ?_)
    · replace hm := ite_p cc hm
      refine lv_iload_n hx hb dJ3_checkIndex_8e157_16 rfl (lv_at hl 0 rfl) ?_
      obtain rfl := Option.some.inj hm
      exact xret_i C hw hS dJ3_checkIndex_8e157_17
    · replace hm := ite_n cc hm
      refine x_aload_nq hx hb dJ3_checkIndex_8e157_9 rfl (lv_at hl 2 rfl) ?_
      refine lv_iload_n hx hb dJ3_checkIndex_8e157_10 rfl (lv_at hl 0 rfl) ?_
      refine lv_iload_n hx hb dJ3_checkIndex_8e157_11 rfl (lv_at hl 1 rfl) ?_
      cases hm
theorem dJ0_checkIndex_df160_0 : decode cJ0_checkIndex_df160 0 = .ok (.iload_n 0, 1) := by decide +kernel
theorem dJ0_checkIndex_df160_1 : decode cJ0_checkIndex_df160 1 = .ok (.iload_n 1, 1) := by decide +kernel
theorem dJ0_checkIndex_df160_2 : decode cJ0_checkIndex_df160 2 = .ok (.getstatic 1053, 3) := by decide +kernel
theorem dJ0_checkIndex_df160_5 : decode cJ0_checkIndex_df160 5 = .ok (.invokestatic 1059, 3) := by decide +kernel
theorem dJ0_checkIndex_df160_8 : decode cJ0_checkIndex_df160 8 = .ok (.pop, 1) := by decide +kernel
theorem dJ0_checkIndex_df160_9 : decode cJ0_checkIndex_df160 9 = .ok (.return_, 1) := by decide +kernel
theorem sJ0_1059 {p : Program} {l : Launch} {e : Env} {R : Room} {s : State} {m : MethodId} {args : Array Value} {below : List Frame} {meth : Method} {c : Code} {H : Heap} {locs : List Loc} {cells slots : Nat} {Q : State → Prop} {cc : ByteArray} {pc nL : Nat} {ls : Array Slot} {rest : List Value} {ret : Option FieldType}  {G : xG} {β : Nat} {D : Nat → Prop} {x : XS} {a1 : Int32} {a2 : Int32} {a3 : Option Nat} {r : Int32} (C : Cx p s m args meth c RJ0 cc nL ret (KK G)) (h : fJ3_checkIndex_8e157 a1 a2 = some r) (hw : CW β D G x H) (hS : va_S D s.heap H locs) (hsz : ls.size = nL) (hW : (rest.map fun v => v.category).sum ≤ 8) (hR : 1 ≤ R.frames) (hR2 : 22 ≤ R.locals) (hcs : cells ≤ R.cells ∧ slots ≤ R.slots) (hd : decode cc pc = .ok (.invokestatic 1059, 3)) (kk : ∀ (H1 : Heap) (locs1 : List Loc), CW β D G x H1 → va_S D s.heap H1 locs1 → W p l e R s m args below meth c H1 locs1 cells slots Q (F0 m (pc + 3) ls (.int r :: rest))) : W p l e R s m args below meth c H locs cells slots Q (F0 m pc ls (va_rf a3 :: .int a2 :: .int a1 :: rest)) := by
  exact xcallS C (As := [.int a1, .int a2, va_rf a3]) (rest := rest) (nA := 3) (kJ3_checkIndex_8e157 h) (tg 186 (by decide +kernel) rfl) (tg 187 (by decide +kernel) rfl) (tg 9 (by decide +kernel) rfl) (tg 188 (by decide +kernel) rfl) ⟨by decide +kernel, by decide +kernel, by decide +kernel⟩ rfl rfl ⟨hR, hR2⟩ hw hS (fun _ q => q) rfl rfl hsz hW hd hcs (fun H1 locs1 hw hz hk hS => kk H1 locs1 hw hS)
def fJ0_checkIndex_df160 (a1 : Int32) (a2 : Int32) : Option (Unit) := Option.bind (fJ3_checkIndex_8e157 a1 a2) fun v2 => some ()
abbrev rmJ0_checkIndex_df160 : Room := { frames := 1, cells := 0, slots := 0, locals := 22 }
set_option maxHeartbeats 4000000 in
set_option maxRecDepth 100000 in
theorem kJ0_checkIndex_df160 {l : Launch} {G : xG} {β : Nat} {D : Nat → Prop} {x : XS} {a1 : Int32} {a2 : Int32} (hm : fJ0_checkIndex_df160 a1 a2 = some ()) : Met l yJ0_checkIndex_df160 (.code yJ0_checkIndex_df160 cJ0_checkIndex_df160 2 none :: GT) rmJ0_checkIndex_df160 (PcW [.int a1, .int a2] (CW β D G x) (KK G)) (QcW D none (CW β D G x)) 0 0 D := by
  unfold fJ0_checkIndex_df160 at hm
  refine xpro (own := RJ0) (by decide +kernel) rfl (Nat.le_of_ble_eq_true rfl) ?_
  intro p e s m args below meth c C hw ls hl
  have hx := C.1
  have hb := C.2.1
  have ho := C.2.2.2.1
  have hts := C.2.2.2.2.1
  have hf : Fz D G s.heap := hw.2.2.2.2
  have hS : va_S D s.heap s.heap [] := va_S.rf
  have hl : lv_has ls 2 [(0, .int a1), (1, .int a2)] := hl
  have hRf : 1 ≤ rmJ0_checkIndex_df160.frames := Nat.le_refl _
  have hRl : 22 ≤ rmJ0_checkIndex_df160.locals := Nat.le_refl _
  have hcs : 0 ≤ rmJ0_checkIndex_df160.cells ∧ 0 ≤ rmJ0_checkIndex_df160.slots := ⟨Nat.le_refl _, Nat.le_refl _⟩
  refine lv_iload_n hx hb dJ0_checkIndex_df160_0 rfl (lv_at hl 0 rfl) ?_
  refine lv_iload_n hx hb dJ0_checkIndex_df160_1 rfl (lv_at hl 1 rfl) ?_
  obtain ⟨w1, hz⟩ := KS_q C.K hf
  refine va_gets hx hb hz hS ho (hts (.fieldLink RJ0 1053 "jdk/internal/util/Preconditions" "SIOOBE_FORMATTER" "Ljava/util/function/BiFunction;") (tg 184 (by decide +kernel) rfl)) (fun _ h9 => h9) dJ0_checkIndex_df160_2 ?_
  obtain ⟨v2, h3, hm⟩ := bind_e hm
  refine sJ0_1059 C h3 hw hS hl.1 (Nat.le_of_ble_eq_true rfl) (Nat.le_trans (Nat.le_of_ble_eq_true rfl) hRf) (Nat.le_trans (Nat.le_of_ble_eq_true rfl) hRl) hcs dJ0_checkIndex_df160_5 (fun H locs hw hS => ?_)
  refine lv_pop hx hb dJ0_checkIndex_df160_8 rfl ?_
  exact xret_v C hw hS dJ0_checkIndex_df160_9
theorem dJ1_charAt_3b067_0 : decode cJ1_charAt_3b067 0 = .ok (.iload_n 1, 1) := by decide +kernel
theorem dJ1_charAt_3b067_1 : decode cJ1_charAt_3b067 1 = .ok (.aload_n 0, 1) := by decide +kernel
theorem dJ1_charAt_3b067_2 : decode cJ1_charAt_3b067 2 = .ok (.arraylength, 1) := by decide +kernel
theorem dJ1_charAt_3b067_3 : decode cJ1_charAt_3b067 3 = .ok (.invokestatic 9, 3) := by decide +kernel
theorem dJ1_charAt_3b067_6 : decode cJ1_charAt_3b067 6 = .ok (.aload_n 0, 1) := by decide +kernel
theorem dJ1_charAt_3b067_7 : decode cJ1_charAt_3b067 7 = .ok (.iload_n 1, 1) := by decide +kernel
theorem dJ1_charAt_3b067_8 : decode cJ1_charAt_3b067 8 = .ok (.baload, 1) := by decide +kernel
theorem dJ1_charAt_3b067_9 : decode cJ1_charAt_3b067 9 = .ok (.sipush 255, 3) := by decide +kernel
theorem dJ1_charAt_3b067_12 : decode cJ1_charAt_3b067 12 = .ok (.iand, 1) := by decide +kernel
theorem dJ1_charAt_3b067_13 : decode cJ1_charAt_3b067 13 = .ok (.i2c, 1) := by decide +kernel
theorem dJ1_charAt_3b067_14 : decode cJ1_charAt_3b067 14 = .ok (.ireturn, 1) := by decide +kernel
theorem sJ1_9 {p : Program} {l : Launch} {e : Env} {R : Room} {s : State} {m : MethodId} {args : Array Value} {below : List Frame} {meth : Method} {c : Code} {H : Heap} {locs : List Loc} {cells slots : Nat} {Q : State → Prop} {cc : ByteArray} {pc nL : Nat} {ls : Array Slot} {rest : List Value} {ret : Option FieldType}  {G : xG} {β : Nat} {D : Nat → Prop} {x : XS} {a1 : Int32} {a2 : Int32} (C : Cx p s m args meth c RJ1 cc nL ret (KK G)) (h : fJ0_checkIndex_df160 a1 a2 = some ()) (hw : CW β D G x H) (hS : va_S D s.heap H locs) (hsz : ls.size = nL) (hW : (rest.map fun v => v.category).sum ≤ 8) (hR : 2 ≤ R.frames) (hR2 : 43 ≤ R.locals) (hcs : cells ≤ R.cells ∧ slots ≤ R.slots) (hd : decode cc pc = .ok (.invokestatic 9, 3)) (kk : ∀ (H1 : Heap) (locs1 : List Loc), CW β D G x H1 → va_S D s.heap H1 locs1 → W p l e R s m args below meth c H1 locs1 cells slots Q (F0 m (pc + 3) ls (rest))) : W p l e R s m args below meth c H locs cells slots Q (F0 m pc ls (.int a2 :: .int a1 :: rest)) := by
  exact xcallS C (As := [.int a1, .int a2]) (rest := rest) (nA := 2) (kJ0_checkIndex_df160 h) (tg 181 (by decide +kernel) rfl) (tg 182 (by decide +kernel) rfl) (tg 7 (by decide +kernel) rfl) (tg 183 (by decide +kernel) rfl) ⟨by decide +kernel, by decide +kernel, by decide +kernel⟩ rfl rfl ⟨hR, hR2⟩ hw hS (fun _ q => q) rfl rfl hsz hW hd hcs (fun H1 locs1 hw hz hk hS => kk H1 locs1 hw hS)
def fJ1_charAt_3b067 (x : XS) (a1 : Nat) (a2 : Int32) : Option (Int32) := if a1 < 13 then Option.bind (fJ0_checkIndex_df160 a2 (Int32.ofNat (scLen.getD a1 0))) fun _ => if a1 < 13 then if ib a2 (scLen.getD a1 0) then if vp_nar .char (((((scByt.getD a1 []).getD a2.toNatClampNeg 0) &&& 255).toUInt32 % 65536).toInt32) = (((((scByt.getD a1 []).getD a2.toNatClampNeg 0) &&& 255).toUInt32 % 65536).toInt32) then some (((((scByt.getD a1 []).getD a2.toNatClampNeg 0) &&& 255).toUInt32 % 65536).toInt32) else none else none else none else none
abbrev rmJ1_charAt_3b067 : Room := { frames := 2, cells := 0, slots := 0, locals := 43 }
set_option maxHeartbeats 4000000 in
set_option maxRecDepth 100000 in
theorem kJ1_charAt_3b067 {l : Launch} {G : xG} {β : Nat} {D : Nat → Prop} {x : XS} {a1 : Nat} {a2 : Int32} {r : Int32} (hm : fJ1_charAt_3b067 x a1 a2 = some r) : Met l yJ1_charAt_3b067 (.code yJ1_charAt_3b067 cJ1_charAt_3b067 2 (some .char) :: GT) rmJ1_charAt_3b067 (PcW [.ref (G.2.2.2.2.2.1 a1), .int a2] (CW β D G x) (KK G)) (QcW D (some (.int r)) (CW β D G x)) 0 0 D := by
  unfold fJ1_charAt_3b067 at hm
  refine xpro (own := RJ1) (by decide +kernel) rfl (Nat.le_of_ble_eq_true rfl) ?_
  intro p e s m args below meth c C hw ls hl
  have hx := C.1
  have hb := C.2.1
  have ho := C.2.2.2.1
  have hts := C.2.2.2.2.1
  have hf : Fz D G s.heap := hw.2.2.2.2
  have hS : va_S D s.heap s.heap [] := va_S.rf
  have hl : lv_has ls 2 [(0, .ref (G.2.2.2.2.2.1 a1)), (1, .int a2)] := hl
  have hRf : 2 ≤ rmJ1_charAt_3b067.frames := Nat.le_refl _
  have hRl : 43 ≤ rmJ1_charAt_3b067.locals := Nat.le_refl _
  have hcs : 0 ≤ rmJ1_charAt_3b067.cells ∧ 0 ≤ rmJ1_charAt_3b067.slots := ⟨Nat.le_refl _, Nat.le_refl _⟩
  refine lv_iload_n hx hb dJ1_charAt_3b067_0 rfl (lv_at hl 1 rfl) ?_
  refine lv_aload_n hx hb dJ1_charAt_3b067_1 rfl (lv_at hl 0 rfl) ?_
  obtain ⟨h1, hm⟩ := chk_e hm
  refine va_tlen (v := Int32.ofNat (scLen.getD a1 0)) hx hb (KS_O C.K hf h1).2.2.2 hS rfl dJ1_charAt_3b067_2 ?_
  obtain ⟨_, h2, hm⟩ := bind_e hm
  refine sJ1_9 C h2 hw hS hl.1 (Nat.le_of_ble_eq_true rfl) (Nat.le_trans (Nat.le_of_ble_eq_true rfl) hRf) (Nat.le_trans (Nat.le_of_ble_eq_true rfl) hRl) hcs dJ1_charAt_3b067_3 (fun H locs hw hS => ?_)
  refine lv_aload_n hx hb dJ1_charAt_3b067_6 rfl (lv_at hl 0 rfl) ?_
  refine lv_iload_n hx hb dJ1_charAt_3b067_7 rfl (lv_at hl 1 rfl) ?_
  obtain ⟨h3, hm⟩ := chk_e hm
  obtain ⟨h4, hm⟩ := chk_e hm
  refine va_tb hx hb (KS_O C.K hf h3).2.2.2 hS h4 rfl dJ1_charAt_3b067_8 ?_
  refine lv_sipush (v := 255) hx hb dJ1_charAt_3b067_9 (by decide) ?_
  refine lv_iand hx hb dJ1_charAt_3b067_12 ?_
  refine lv_i2c hx hb dJ1_charAt_3b067_13 rfl ?_
  obtain ⟨hnn, hm⟩ := chk_e hm
  obtain rfl := Option.some.inj hm
  exact xret_n C (nar_c hnn) hw hS dJ1_charAt_3b067_14
theorem dJ0_charAt_5068e_0 : decode cJ0_charAt_5068e 0 = .ok (.aload_n 0, 1) := by decide +kernel
theorem dJ0_charAt_5068e_1 : decode cJ0_charAt_5068e 1 = .ok (.invokevirtual 492, 3) := by decide +kernel
theorem dJ0_charAt_5068e_4 : decode cJ0_charAt_5068e 4 = .ok (.ifCond .eq 12, 3) := by decide +kernel
theorem dJ0_charAt_5068e_7 : decode cJ0_charAt_5068e 7 = .ok (.aload_n 0, 1) := by decide +kernel
theorem dJ0_charAt_5068e_8 : decode cJ0_charAt_5068e 8 = .ok (.getfield 9, 3) := by decide +kernel
theorem dJ0_charAt_5068e_11 : decode cJ0_charAt_5068e 11 = .ok (.iload_n 1, 1) := by decide +kernel
theorem dJ0_charAt_5068e_12 : decode cJ0_charAt_5068e 12 = .ok (.invokestatic 495, 3) := by decide +kernel
theorem dJ0_charAt_5068e_15 : decode cJ0_charAt_5068e 15 = .ok (.ireturn, 1) := by decide +kernel
theorem dJ0_charAt_5068e_16 : decode cJ0_charAt_5068e 16 = .ok (.aload_n 0, 1) := by decide +kernel
theorem dJ0_charAt_5068e_17 : decode cJ0_charAt_5068e 17 = .ok (.getfield 9, 3) := by decide +kernel
theorem dJ0_charAt_5068e_20 : decode cJ0_charAt_5068e 20 = .ok (.iload_n 1, 1) := by decide +kernel
theorem dJ0_charAt_5068e_21 : decode cJ0_charAt_5068e 21 = .ok (.invokestatic 498, 3) := by decide +kernel
theorem sJ0_492 {p : Program} {l : Launch} {e : Env} {R : Room} {s : State} {m : MethodId} {args : Array Value} {below : List Frame} {meth : Method} {c : Code} {H : Heap} {locs : List Loc} {cells slots : Nat} {Q : State → Prop} {cc : ByteArray} {pc nL : Nat} {ls : Array Slot} {rest : List Value} {ret : Option FieldType}  {G : xG} {β : Nat} {D : Nat → Prop} {x : XS} {a0 : Nat} {r : Bool} (C : Cx p s m args meth c RJ0 cc nL ret (KK G)) (hf : Fz D G s.heap) (hk : a0 < 13) (h : fJ0_isLatin1_aae02 x a0 = some r) (hw : CW β D G x H) (hS : va_S D s.heap H locs) (hsz : ls.size = nL) (hW : (rest.map fun v => v.category).sum ≤ 8) (hR : 1 ≤ R.frames) (hR2 : 20 ≤ R.locals) (hcs : cells ≤ R.cells ∧ slots ≤ R.slots) (hd : decode cc pc = .ok (.invokevirtual 492, 3)) (kk : ∀ (H1 : Heap) (locs1 : List Loc), CW β D G x H1 → va_S D s.heap H1 locs1 → W p l e R s m args below meth c H1 locs1 cells slots Q (F0 m (pc + 3) ls (.int (bI r) :: rest))) : W p l e R s m args below meth c H locs cells slots Q (F0 m pc ls (.ref (G.2.2.2.2.1 a0) :: rest)) := by
  exact xcallVR C (As := []) (rest := rest) (nA := 0) (kJ0_isLatin1_aae02 h) (tg 174 (by decide +kernel) rfl) (tg 175 (by decide +kernel) rfl) (tg 176 (by decide +kernel) rfl) (tg 7 (by decide +kernel) rfl) (tg 177 (by decide +kernel) rfl) ⟨rfl, by decide +kernel, by decide +kernel, by decide +kernel⟩ rfl rfl ⟨hR, hR2⟩ (vk_recv (KS_S C.K hf) hk hS) hw hS (fun _ q => q) rfl rfl hsz hW hd hcs (fun H1 locs1 hw hz hk hS => kk H1 locs1 hw hS)
theorem sJ0_495 {p : Program} {l : Launch} {e : Env} {R : Room} {s : State} {m : MethodId} {args : Array Value} {below : List Frame} {meth : Method} {c : Code} {H : Heap} {locs : List Loc} {cells slots : Nat} {Q : State → Prop} {cc : ByteArray} {pc nL : Nat} {ls : Array Slot} {rest : List Value} {ret : Option FieldType}  {G : xG} {β : Nat} {D : Nat → Prop} {x : XS} {a1 : Nat} {a2 : Int32} {r : Int32} (C : Cx p s m args meth c RJ0 cc nL ret (KK G)) (h : fJ1_charAt_3b067 x a1 a2 = some r) (hw : CW β D G x H) (hS : va_S D s.heap H locs) (hsz : ls.size = nL) (hW : (rest.map fun v => v.category).sum ≤ 8) (hR : 3 ≤ R.frames) (hR2 : 64 ≤ R.locals) (hcs : cells ≤ R.cells ∧ slots ≤ R.slots) (hd : decode cc pc = .ok (.invokestatic 495, 3)) (kk : ∀ (H1 : Heap) (locs1 : List Loc), CW β D G x H1 → va_S D s.heap H1 locs1 → W p l e R s m args below meth c H1 locs1 cells slots Q (F0 m (pc + 3) ls (.int r :: rest))) : W p l e R s m args below meth c H locs cells slots Q (F0 m pc ls (.int a2 :: .ref (G.2.2.2.2.2.1 a1) :: rest)) := by
  exact xcallS C (As := [.ref (G.2.2.2.2.2.1 a1), .int a2]) (rest := rest) (nA := 2) (kJ1_charAt_3b067 h) (tg 178 (by decide +kernel) rfl) (tg 179 (by decide +kernel) rfl) (tg 8 (by decide +kernel) rfl) (tg 180 (by decide +kernel) rfl) ⟨by decide +kernel, by decide +kernel, by decide +kernel⟩ rfl rfl ⟨hR, hR2⟩ hw hS (fun _ q => q) rfl rfl hsz hW hd hcs (fun H1 locs1 hw hz hk hS => kk H1 locs1 hw hS)
def fJ0_charAt_5068e (x : XS) (a0 : Nat) (a1 : Int32) : Option (Int32) := if a0 < 13 then Option.bind (fJ0_isLatin1_aae02 x a0) fun v2 => if v2 = true then if a0 < 13 then Option.bind (fJ1_charAt_3b067 x a0 a1) fun v6 => if vp_nar .char v6 = v6 then some v6 else none else none else if a0 < 13 then none else none else none
abbrev rmJ0_charAt_5068e : Room := { frames := 3, cells := 0, slots := 0, locals := 64 }
set_option maxHeartbeats 4000000 in
set_option maxRecDepth 100000 in
theorem kJ0_charAt_5068e {l : Launch} {G : xG} {β : Nat} {D : Nat → Prop} {x : XS} {a0 : Nat} {a1 : Int32} {r : Int32} (hm : fJ0_charAt_5068e x a0 a1 = some r) : Met l yJ0_charAt_5068e (.code yJ0_charAt_5068e cJ0_charAt_5068e 2 (some .char) :: GT) rmJ0_charAt_5068e (PcW [.ref (G.2.2.2.2.1 a0), .int a1] (CW β D G x) (KK G)) (QcW D (some (.int r)) (CW β D G x)) 0 0 D := by
  unfold fJ0_charAt_5068e at hm
  refine xpro (own := RJ0) (by decide +kernel) rfl (Nat.le_of_ble_eq_true rfl) ?_
  intro p e s m args below meth c C hw ls hl
  have hx := C.1
  have hb := C.2.1
  have ho := C.2.2.2.1
  have hts := C.2.2.2.2.1
  have hf : Fz D G s.heap := hw.2.2.2.2
  have hS : va_S D s.heap s.heap [] := va_S.rf
  have hl : lv_has ls 2 [(0, .ref (G.2.2.2.2.1 a0)), (1, .int a1)] := hl
  have hRf : 3 ≤ rmJ0_charAt_5068e.frames := Nat.le_refl _
  have hRl : 64 ≤ rmJ0_charAt_5068e.locals := Nat.le_refl _
  have hcs : 0 ≤ rmJ0_charAt_5068e.cells ∧ 0 ≤ rmJ0_charAt_5068e.slots := ⟨Nat.le_refl _, Nat.le_refl _⟩
  refine lv_aload_n hx hb dJ0_charAt_5068e_0 rfl (lv_at hl 0 rfl) ?_
  obtain ⟨h1, hm⟩ := chk_e hm
  obtain ⟨v2, h3, hm⟩ := bind_e hm
  refine sJ0_492 (a0 := a0) C hf h1 h3 hw hS hl.1 (Nat.le_of_ble_eq_true rfl) (Nat.le_trans (Nat.le_of_ble_eq_true rfl) hRf) (Nat.le_trans (Nat.le_of_ble_eq_true rfl) hRl) hcs dJ0_charAt_5068e_1 (fun H locs hw hS => ?_)
  refine x_ifeqB hx hb dJ0_charAt_5068e_4 (tgt := 16) (by decide) (fun cc => ?_) (fun cc => ?_)
  · replace hm := ite_n cc hm
    refine lv_aload_n hx hb dJ0_charAt_5068e_16 rfl (lv_at hl 0 rfl) ?_
    obtain ⟨h4, hm⟩ := chk_e hm
    refine vk_getf hx hb (KS_O C.K hf h4).2.2.1 hS ho (hts (.fieldLink RJ0 9 "java/lang/String" "value" "[B") (tg 1438 (by decide +kernel) rfl)) (fun _ h9 => h9) dJ0_charAt_5068e_17 ?_
    refine lv_iload_n hx hb dJ0_charAt_5068e_20 rfl (lv_at hl 1 rfl) ?_
    cases hm
  · replace hm := ite_p cc hm
    refine lv_aload_n hx hb dJ0_charAt_5068e_7 rfl (lv_at hl 0 rfl) ?_
    obtain ⟨h5, hm⟩ := chk_e hm
    refine vk_getf hx hb (KS_O C.K hf h5).2.2.1 hS ho (hts (.fieldLink RJ0 9 "java/lang/String" "value" "[B") (tg 1438 (by decide +kernel) rfl)) (fun _ h9 => h9) dJ0_charAt_5068e_8 ?_
    refine lv_iload_n hx hb dJ0_charAt_5068e_11 rfl (lv_at hl 1 rfl) ?_
    obtain ⟨v6, h7, hm⟩ := bind_e hm
    refine sJ0_495 (a1 := a0) (a2 := a1) C h7 hw hS hl.1 (Nat.le_of_ble_eq_true rfl) (Nat.le_trans (Nat.le_of_ble_eq_true rfl) hRf) (Nat.le_trans (Nat.le_of_ble_eq_true rfl) hRl) hcs dJ0_charAt_5068e_12 (fun H locs hw hS => ?_)
    obtain ⟨hnn, hm⟩ := chk_e hm
    obtain rfl := Option.some.inj hm
    exact xret_n C (nar_c hnn) hw hS dJ0_charAt_5068e_15
theorem dJ0_coder_7d493_0 : decode cJ0_coder_7d493 0 = .ok (.getstatic 38, 3) := by decide +kernel
theorem dJ0_coder_7d493_3 : decode cJ0_coder_7d493 3 = .ok (.ifCond .eq 10, 3) := by decide +kernel
theorem dJ0_coder_7d493_6 : decode cJ0_coder_7d493 6 = .ok (.aload_n 0, 1) := by decide +kernel
theorem dJ0_coder_7d493_7 : decode cJ0_coder_7d493 7 = .ok (.getfield 15, 3) := by decide +kernel
theorem dJ0_coder_7d493_10 : decode cJ0_coder_7d493 10 = .ok (.goto 4, 3) := by decide +kernel
theorem dJ0_coder_7d493_14 : decode cJ0_coder_7d493 14 = .ok (.ireturn, 1) := by decide +kernel
def fJ0_coder_7d493 (x : XS) (a0 : Nat) : Option (Int32) := if a0 < 13 then if vp_nar .byte 0 = 0 then some 0 else none else none
abbrev rmJ0_coder_7d493 : Room := { frames := 0, cells := 0, slots := 0, locals := 0 }
set_option maxHeartbeats 4000000 in
set_option maxRecDepth 100000 in
theorem kJ0_coder_7d493 {l : Launch} {G : xG} {β : Nat} {D : Nat → Prop} {x : XS} {a0 : Nat} {r : Int32} (hm : fJ0_coder_7d493 x a0 = some r) : Met l yJ0_coder_7d493 (.code yJ0_coder_7d493 cJ0_coder_7d493 1 (some .byte) :: GT) rmJ0_coder_7d493 (PcW [.ref (G.2.2.2.2.1 a0)] (CW β D G x) (KK G)) (QcW D (some (.int r)) (CW β D G x)) 0 0 D := by
  unfold fJ0_coder_7d493 at hm
  refine xpro (own := RJ0) (by decide +kernel) rfl (Nat.le_of_ble_eq_true rfl) ?_
  intro p e s m args below meth c C hw ls hl
  have hx := C.1
  have hb := C.2.1
  have ho := C.2.2.2.1
  have hts := C.2.2.2.2.1
  have hf : Fz D G s.heap := hw.2.2.2.2
  have hS : va_S D s.heap s.heap [] := va_S.rf
  have hl : lv_has ls 1 [(0, .ref (G.2.2.2.2.1 a0))] := hl
  have hRf : 0 ≤ rmJ0_coder_7d493.frames := Nat.le_refl _
  have hRl : 0 ≤ rmJ0_coder_7d493.locals := Nat.le_refl _
  have hcs : 0 ≤ rmJ0_coder_7d493.cells ∧ 0 ≤ rmJ0_coder_7d493.slots := ⟨Nat.le_refl _, Nat.le_refl _⟩
  refine va_gets hx hb (KS_C C.K hf) hS ho (hts (.fieldLink RJ0 38 "java/lang/String" "COMPACT_STRINGS" "Z") (tg 168 (by decide +kernel) rfl)) (fun _ h9 => h9) dJ0_coder_7d493_0 ?_
  refine lv_if_eq (tgt := 13) hx hb dJ0_coder_7d493_3 (by decide) (fun cc => ?_) (fun cc => ?_)
  · exact absurd cc (by decide)
  · clear cc
    refine lv_aload_n hx hb dJ0_coder_7d493_6 rfl (lv_at hl 0 rfl) ?_
    obtain ⟨h1, hm⟩ := chk_e hm
    refine vk_getf hx hb (KS_O C.K hf h1).2.1 hS ho (hts (.fieldLink RJ0 15 "java/lang/String" "coder" "B") (tg 1439 (by decide +kernel) rfl)) (fun _ h9 => h9) dJ0_coder_7d493_7 ?_
    refine lv_goto (tgt := 14) hx hb dJ0_coder_7d493_10 (by decide) ?_
    obtain ⟨hnn, hm⟩ := chk_e hm
    obtain rfl := Option.some.inj hm
    exact xret_n C (nar_b hnn) hw hS dJ0_coder_7d493_14
theorem dJ0_length_8abf5_0 : decode cJ0_length_8abf5 0 = .ok (.aload_n 0, 1) := by decide +kernel
theorem dJ0_length_8abf5_1 : decode cJ0_length_8abf5 1 = .ok (.getfield 9, 3) := by decide +kernel
theorem dJ0_length_8abf5_4 : decode cJ0_length_8abf5 4 = .ok (.arraylength, 1) := by decide +kernel
theorem dJ0_length_8abf5_5 : decode cJ0_length_8abf5 5 = .ok (.aload_n 0, 1) := by decide +kernel
theorem dJ0_length_8abf5_6 : decode cJ0_length_8abf5 6 = .ok (.invokevirtual 335, 3) := by decide +kernel
theorem dJ0_length_8abf5_9 : decode cJ0_length_8abf5 9 = .ok (.ishr, 1) := by decide +kernel
theorem dJ0_length_8abf5_10 : decode cJ0_length_8abf5 10 = .ok (.ireturn, 1) := by decide +kernel
theorem sJ0_335 {p : Program} {l : Launch} {e : Env} {R : Room} {s : State} {m : MethodId} {args : Array Value} {below : List Frame} {meth : Method} {c : Code} {H : Heap} {locs : List Loc} {cells slots : Nat} {Q : State → Prop} {cc : ByteArray} {pc nL : Nat} {ls : Array Slot} {rest : List Value} {ret : Option FieldType}  {G : xG} {β : Nat} {D : Nat → Prop} {x : XS} {a0 : Nat} {r : Int32} (C : Cx p s m args meth c RJ0 cc nL ret (KK G)) (hf : Fz D G s.heap) (hk : a0 < 13) (h : fJ0_coder_7d493 x a0 = some r) (hw : CW β D G x H) (hS : va_S D s.heap H locs) (hsz : ls.size = nL) (hW : (rest.map fun v => v.category).sum ≤ 8) (hR : 1 ≤ R.frames) (hR2 : 20 ≤ R.locals) (hcs : cells ≤ R.cells ∧ slots ≤ R.slots) (hd : decode cc pc = .ok (.invokevirtual 335, 3)) (kk : ∀ (H1 : Heap) (locs1 : List Loc), CW β D G x H1 → va_S D s.heap H1 locs1 → W p l e R s m args below meth c H1 locs1 cells slots Q (F0 m (pc + 3) ls (.int r :: rest))) : W p l e R s m args below meth c H locs cells slots Q (F0 m pc ls (.ref (G.2.2.2.2.1 a0) :: rest)) := by
  exact xcallVR C (As := []) (rest := rest) (nA := 0) (kJ0_coder_7d493 h) (tg 164 (by decide +kernel) rfl) (tg 165 (by decide +kernel) rfl) (tg 166 (by decide +kernel) rfl) (tg 7 (by decide +kernel) rfl) (tg 167 (by decide +kernel) rfl) ⟨rfl, by decide +kernel, by decide +kernel, by decide +kernel⟩ rfl rfl ⟨hR, hR2⟩ (vk_recv (KS_S C.K hf) hk hS) hw hS (fun _ q => q) rfl rfl hsz hW hd hcs (fun H1 locs1 hw hz hk hS => kk H1 locs1 hw hS)
def fJ0_length_8abf5 (x : XS) (a0 : Nat) : Option (Int32) := if a0 < 13 then if a0 < 13 then if a0 < 13 then Option.bind (fJ0_coder_7d493 x a0) fun v4 => some ((Int32.ofNat (scLen.getD a0 0)) >>> (v4 &&& 31)) else none else none else none
abbrev rmJ0_length_8abf5 : Room := { frames := 1, cells := 0, slots := 0, locals := 20 }
set_option maxHeartbeats 4000000 in
set_option maxRecDepth 100000 in
theorem kJ0_length_8abf5 {l : Launch} {G : xG} {β : Nat} {D : Nat → Prop} {x : XS} {a0 : Nat} {r : Int32} (hm : fJ0_length_8abf5 x a0 = some r) : Met l yJ0_length_8abf5 (.code yJ0_length_8abf5 cJ0_length_8abf5 1 (some .int) :: GT) rmJ0_length_8abf5 (PcW [.ref (G.2.2.2.2.1 a0)] (CW β D G x) (KK G)) (QcW D (some (.int r)) (CW β D G x)) 0 0 D := by
  unfold fJ0_length_8abf5 at hm
  refine xpro (own := RJ0) (by decide +kernel) rfl (Nat.le_of_ble_eq_true rfl) ?_
  intro p e s m args below meth c C hw ls hl
  have hx := C.1
  have hb := C.2.1
  have ho := C.2.2.2.1
  have hts := C.2.2.2.2.1
  have hf : Fz D G s.heap := hw.2.2.2.2
  have hS : va_S D s.heap s.heap [] := va_S.rf
  have hl : lv_has ls 1 [(0, .ref (G.2.2.2.2.1 a0))] := hl
  have hRf : 1 ≤ rmJ0_length_8abf5.frames := Nat.le_refl _
  have hRl : 20 ≤ rmJ0_length_8abf5.locals := Nat.le_refl _
  have hcs : 0 ≤ rmJ0_length_8abf5.cells ∧ 0 ≤ rmJ0_length_8abf5.slots := ⟨Nat.le_refl _, Nat.le_refl _⟩
  refine lv_aload_n hx hb dJ0_length_8abf5_0 rfl (lv_at hl 0 rfl) ?_
  obtain ⟨h1, hm⟩ := chk_e hm
  refine vk_getf hx hb (KS_O C.K hf h1).2.2.1 hS ho (hts (.fieldLink RJ0 9 "java/lang/String" "value" "[B") (tg 1438 (by decide +kernel) rfl)) (fun _ h9 => h9) dJ0_length_8abf5_1 ?_
  obtain ⟨h2, hm⟩ := chk_e hm
  refine va_tlen (v := Int32.ofNat (scLen.getD a0 0)) hx hb (KS_O C.K hf h2).2.2.2 hS rfl dJ0_length_8abf5_4 ?_
  refine lv_aload_n hx hb dJ0_length_8abf5_5 rfl (lv_at hl 0 rfl) ?_
  obtain ⟨h3, hm⟩ := chk_e hm
  obtain ⟨v4, h5, hm⟩ := bind_e hm
  refine sJ0_335 (a0 := a0) C hf h3 h5 hw hS hl.1 (Nat.le_of_ble_eq_true rfl) (Nat.le_trans (Nat.le_of_ble_eq_true rfl) hRf) (Nat.le_trans (Nat.le_of_ble_eq_true rfl) hRl) hcs dJ0_length_8abf5_6 (fun H locs hw hS => ?_)
  refine lv_ishr hx hb dJ0_length_8abf5_9 ?_
  obtain rfl := Option.some.inj hm
  exact xret_i C hw hS dJ0_length_8abf5_10
theorem dX6_spells_0 : decode cX6_spells 0 = .ok (.aload_n 0, 1) := by decide +kernel
theorem dX6_spells_1 : decode cX6_spells 1 = .ok (.getfield 22, 3) := by decide +kernel
theorem dX6_spells_4 : decode cX6_spells 4 = .ok (.aload_n 0, 1) := by decide +kernel
theorem dX6_spells_5 : decode cX6_spells 5 = .ok (.getfield 19, 3) := by decide +kernel
theorem dX6_spells_8 : decode cX6_spells 8 = .ok (.isub, 1) := by decide +kernel
theorem dX6_spells_9 : decode cX6_spells 9 = .ok (.aload_n 1, 1) := by decide +kernel
theorem dX6_spells_10 : decode cX6_spells 10 = .ok (.invokevirtual 83, 3) := by decide +kernel
theorem dX6_spells_13 : decode cX6_spells 13 = .ok (.if_icmp .eq 5, 3) := by decide +kernel
theorem dX6_spells_16 : decode cX6_spells 16 = .ok (.iconst 0, 1) := by decide +kernel
theorem dX6_spells_17 : decode cX6_spells 17 = .ok (.ireturn, 1) := by decide +kernel
theorem dX6_spells_18 : decode cX6_spells 18 = .ok (.iconst 0, 1) := by decide +kernel
theorem dX6_spells_19 : decode cX6_spells 19 = .ok (.istore_n 2, 1) := by decide +kernel
theorem dX6_spells_20 : decode cX6_spells 20 = .ok (.iload_n 2, 1) := by decide +kernel
theorem dX6_spells_21 : decode cX6_spells 21 = .ok (.aload_n 1, 1) := by decide +kernel
theorem dX6_spells_22 : decode cX6_spells 22 = .ok (.invokevirtual 83, 3) := by decide +kernel
theorem dX6_spells_25 : decode cX6_spells 25 = .ok (.if_icmp .ge 30, 3) := by decide +kernel
theorem dX6_spells_28 : decode cX6_spells 28 = .ok (.aload_n 0, 1) := by decide +kernel
theorem dX6_spells_29 : decode cX6_spells 29 = .ok (.getfield 9, 3) := by decide +kernel
theorem dX6_spells_32 : decode cX6_spells 32 = .ok (.aload_n 0, 1) := by decide +kernel
theorem dX6_spells_33 : decode cX6_spells 33 = .ok (.getfield 19, 3) := by decide +kernel
theorem dX6_spells_36 : decode cX6_spells 36 = .ok (.iload_n 2, 1) := by decide +kernel
theorem dX6_spells_37 : decode cX6_spells 37 = .ok (.iadd, 1) := by decide +kernel
theorem dX6_spells_38 : decode cX6_spells 38 = .ok (.caload, 1) := by decide +kernel
theorem dX6_spells_39 : decode cX6_spells 39 = .ok (.aload_n 1, 1) := by decide +kernel
theorem dX6_spells_40 : decode cX6_spells 40 = .ok (.iload_n 2, 1) := by decide +kernel
theorem dX6_spells_41 : decode cX6_spells 41 = .ok (.invokevirtual 88, 3) := by decide +kernel
theorem dX6_spells_44 : decode cX6_spells 44 = .ok (.if_icmp .eq 5, 3) := by decide +kernel
theorem dX6_spells_47 : decode cX6_spells 47 = .ok (.iconst 0, 1) := by decide +kernel
theorem dX6_spells_48 : decode cX6_spells 48 = .ok (.ireturn, 1) := by decide +kernel
theorem dX6_spells_49 : decode cX6_spells 49 = .ok (.iinc 2 1, 3) := by decide +kernel
theorem dX6_spells_52 : decode cX6_spells 52 = .ok (.goto (-32), 3) := by decide +kernel
theorem dX6_spells_55 : decode cX6_spells 55 = .ok (.iconst 1, 1) := by decide +kernel
theorem dX6_spells_56 : decode cX6_spells 56 = .ok (.ireturn, 1) := by decide +kernel
theorem sX6_83 {p : Program} {l : Launch} {e : Env} {R : Room} {s : State} {m : MethodId} {args : Array Value} {below : List Frame} {meth : Method} {c : Code} {H : Heap} {locs : List Loc} {cells slots : Nat} {Q : State → Prop} {cc : ByteArray} {pc nL : Nat} {ls : Array Slot} {rest : List Value} {ret : Option FieldType}  {G : xG} {β : Nat} {D : Nat → Prop} {x : XS} {a0 : Nat} {r : Int32} (C : Cx p s m args meth c RX6 cc nL ret (KK G)) (hf : Fz D G s.heap) (hk : a0 < 13) (h : fJ0_length_8abf5 x a0 = some r) (hw : CW β D G x H) (hS : va_S D s.heap H locs) (hsz : ls.size = nL) (hW : (rest.map fun v => v.category).sum ≤ 8) (hR : 2 ≤ R.frames) (hR2 : 40 ≤ R.locals) (hcs : cells ≤ R.cells ∧ slots ≤ R.slots) (hd : decode cc pc = .ok (.invokevirtual 83, 3)) (kk : ∀ (H1 : Heap) (locs1 : List Loc), CW β D G x H1 → va_S D s.heap H1 locs1 → W p l e R s m args below meth c H1 locs1 cells slots Q (F0 m (pc + 3) ls (.int r :: rest))) : W p l e R s m args below meth c H locs cells slots Q (F0 m pc ls (.ref (G.2.2.2.2.1 a0) :: rest)) := by
  exact xcallVR C (As := []) (rest := rest) (nA := 0) (kJ0_length_8abf5 h) (tg 239 (by decide +kernel) rfl) (tg 161 (by decide +kernel) rfl) (tg 162 (by decide +kernel) rfl) (tg 7 (by decide +kernel) rfl) (tg 163 (by decide +kernel) rfl) ⟨rfl, by decide +kernel, by decide +kernel, by decide +kernel⟩ rfl rfl ⟨hR, hR2⟩ (vk_recv (KS_S C.K hf) hk hS) hw hS (fun _ q => q) rfl rfl hsz hW hd hcs (fun H1 locs1 hw hz hk hS => kk H1 locs1 hw hS)
theorem sX6_88 {p : Program} {l : Launch} {e : Env} {R : Room} {s : State} {m : MethodId} {args : Array Value} {below : List Frame} {meth : Method} {c : Code} {H : Heap} {locs : List Loc} {cells slots : Nat} {Q : State → Prop} {cc : ByteArray} {pc nL : Nat} {ls : Array Slot} {rest : List Value} {ret : Option FieldType}  {G : xG} {β : Nat} {D : Nat → Prop} {x : XS} {a0 : Nat} {a1 : Int32} {r : Int32} (C : Cx p s m args meth c RX6 cc nL ret (KK G)) (hf : Fz D G s.heap) (hk : a0 < 13) (h : fJ0_charAt_5068e x a0 a1 = some r) (hw : CW β D G x H) (hS : va_S D s.heap H locs) (hsz : ls.size = nL) (hW : (rest.map fun v => v.category).sum ≤ 8) (hR : 4 ≤ R.frames) (hR2 : 85 ≤ R.locals) (hcs : cells ≤ R.cells ∧ slots ≤ R.slots) (hd : decode cc pc = .ok (.invokevirtual 88, 3)) (kk : ∀ (H1 : Heap) (locs1 : List Loc), CW β D G x H1 → va_S D s.heap H1 locs1 → W p l e R s m args below meth c H1 locs1 cells slots Q (F0 m (pc + 3) ls (.int r :: rest))) : W p l e R s m args below meth c H locs cells slots Q (F0 m pc ls (.int a1 :: .ref (G.2.2.2.2.1 a0) :: rest)) := by
  exact xcallVR C (As := [.int a1]) (rest := rest) (nA := 1) (kJ0_charAt_5068e h) (tg 240 (by decide +kernel) rfl) (tg 171 (by decide +kernel) rfl) (tg 172 (by decide +kernel) rfl) (tg 7 (by decide +kernel) rfl) (tg 173 (by decide +kernel) rfl) ⟨rfl, by decide +kernel, by decide +kernel, by decide +kernel⟩ rfl rfl ⟨hR, hR2⟩ (vk_recv (KS_S C.K hf) hk hS) hw hS (fun _ q => q) rfl rfl hsz hW hd hcs (fun H1 locs1 hw hz hk hS => kk H1 locs1 hw hS)
def BX6_spells_20 (x : XS) (q1 : Nat) (lp : Int32 → Option ((Bool) ⊕ (Unit))) (u2 : Int32) : Option ((Bool) ⊕ (Unit)) := if q1 < 13 then Option.bind (fJ0_length_8abf5 x q1) fun v5 => if v5 ≤ u2 then some (.inr ()) else if ib ((x.1 4 2) + u2) 160 then if q1 < 13 then Option.bind (fJ0_charAt_5068e x q1 u2) fun v9 => if (x.2.1 5 ((x.1 4 2) + u2).toNatClampNeg) = v9 then lt (u2 + 1) fun v11 => lp v11 else some (.inl false) else none else none else none
def LX6_spells_20 (x : XS) (q1 : Nat) : Nat → Int32 → Option ((Bool) ⊕ (Unit))
  | 0, _ => none
  | n + 1, u2 => BX6_spells_20 x q1 (LX6_spells_20 x q1 n) u2
def fX6_spells (x : XS) (a1 : Nat) : Option (Bool) := if a1 < 13 then Option.bind (fJ0_length_8abf5 x a1) fun v2 => if ((x.1 4 3) - (x.1 4 2)) = v2 then bs (LX6_spells_20 x a1 NF 0) (fun a => some a) (fun _ => some true) else some false else none
set_option maxHeartbeats 4000000 in
set_option maxRecDepth 100000 in
theorem lX6_spells_20 {p : Program} {l : Launch} {e : Env} {R : Room} {s : State} {m : MethodId} {args : Array Value} {below : List Frame} {meth : Method} {c : Code} {cells slots : Nat} {Q : State → Prop} {G : xG} {β : Nat} {D : Nat → Prop} (C : Cx p s m args meth c RX6 cX6_spells 3 (some .boolean) (KK G)) (hRf : 4 ≤ R.frames) (hRl : 85 ≤ R.locals) (hcs : cells ≤ R.cells ∧ slots ≤ R.slots) (hf : Fz D G s.heap) (x : XS) (q1 : Nat) : ∀ (n : Nat) (u2 : Int32) (J : (Bool) ⊕ (Unit)) (H : Heap) (locs : List Loc) (ls : Array Slot), LX6_spells_20 x q1 n u2 = some J → CW β D G x H → va_S D s.heap H locs → lv_has ls 3 [(0, .ref (β + 4)), (1, .ref (G.2.2.2.2.1 q1)), (2, .int u2)] → (∀ (w : Unit), J = .inr w → ∀ (H : Heap) (locs : List Loc) (ls : Array Slot), CW β D G x H → va_S D s.heap H locs → lv_has ls 3 [] → W p l e R s m args below meth c H locs cells slots Q (F0 m 55 ls [])) → (∀ (rv : Bool), J = .inl rv → ∀ (H : Heap) (locs : List Loc) (ls : Array Slot), CW β D G x H → va_S D s.heap H locs → W p l e R s m args below meth c H locs cells slots Q (F0 m 48 ls [.int (bI rv)])) → W p l e R s m args below meth c H locs cells slots Q (F0 m 20 ls []) := by
  have hx := C.1
  have hb := C.2.1
  have ho := C.2.2.2.1
  have hts := C.2.2.2.2.1
  intro n
  induction n with
  | zero =>
    intro u2 J H locs ls hm
    exact absurd hm (by simp [LX6_spells_20])
  | succ n ih =>
    intro u2 J H locs ls hm hw hS hl ke kr48
    replace hm : BX6_spells_20 x q1 (LX6_spells_20 x q1 n) u2 = some J := hm
    unfold BX6_spells_20 at hm
    refine lv_iload_n hx hb dX6_spells_20 rfl (lv_at hl 2 rfl) ?_
    refine lv_aload_n hx hb dX6_spells_21 rfl (lv_at hl 1 rfl) ?_
    obtain ⟨h4, hm⟩ := chk_e hm
    obtain ⟨v5, h6, hm⟩ := bind_e hm
    refine sX6_83 (a0 := q1) C hf h4 h6 hw hS hl.1 (Nat.le_of_ble_eq_true rfl) (Nat.le_trans (Nat.le_of_ble_eq_true rfl) hRf) (Nat.le_trans (Nat.le_of_ble_eq_true rfl) hRl) hcs dX6_spells_22 (fun H locs hw hS => ?_)
    refine lv_icmp_ge (tgt := 55) hx hb dX6_spells_25 (by decide) (fun cc => ?_) (fun cc => ?_)
    · replace hm := ite_p cc hm
      exact ke _ (Option.some.inj hm).symm _ _ _ hw hS (lv_sub hl [] rfl)
    · replace hm := ite_n cc hm
      refine lv_aload_n hx hb dX6_spells_28 rfl (lv_at hl 0 rfl) ?_
      refine gX6_9 C hw dX6_spells_29 ?_
      refine lv_aload_n hx hb dX6_spells_32 rfl (lv_at hl 0 rfl) ?_
      refine gX6_19 C hw dX6_spells_33 ?_
      refine lv_iload_n hx hb dX6_spells_36 rfl (lv_at hl 2 rfl) ?_
      refine lv_iadd hx hb dX6_spells_37 ?_
      obtain ⟨h7, hm⟩ := chk_e hm
      refine alX_5 C hw h7 dX6_spells_38 ?_
      refine lv_aload_n hx hb dX6_spells_39 rfl (lv_at hl 1 rfl) ?_
      refine lv_iload_n hx hb dX6_spells_40 rfl (lv_at hl 2 rfl) ?_
      obtain ⟨h8, hm⟩ := chk_e hm
      obtain ⟨v9, h10, hm⟩ := bind_e hm
      refine sX6_88 (a0 := q1) (a1 := u2) C hf h8 h10 hw hS hl.1 (Nat.le_of_ble_eq_true rfl) (Nat.le_trans (Nat.le_of_ble_eq_true rfl) hRf) (Nat.le_trans (Nat.le_of_ble_eq_true rfl) hRl) hcs dX6_spells_41 (fun H locs hw hS => ?_)
      refine lv_icmp_eq (tgt := 49) hx hb dX6_spells_44 (by decide) (fun cc => ?_) (fun cc => ?_)
      · replace hm := ite_p cc hm
        obtain ⟨v11, ev, hm⟩ := lt_e hm
        refine lv_iinc (v := v11) (lv' := [(2, .int v11), (0, .ref (β + 4)), (1, .ref (G.2.2.2.2.1 q1))]) hx hb dX6_spells_49 hl (k := 2) rfl (by rw [ev]; rfl) (by decide) rfl (fun ls hl => ?_)
        clear ev
        refine lv_goto (tgt := 20) hx hb dX6_spells_52 (by decide) ?_
        exact ih _ _ _ _ _ hm hw hS (lv_sub hl [1, 2, 0] rfl) ke kr48
      · replace hm := ite_n cc hm
        refine lv_iconst (v := 0) hx hb dX6_spells_47 (by decide) ?_
        exact kr48 _ (Option.some.inj hm).symm _ _ _ hw hS
abbrev rmX6_spells : Room := { frames := 4, cells := 0, slots := 0, locals := 85 }
set_option maxHeartbeats 4000000 in
set_option maxRecDepth 100000 in
theorem kX6_spells {l : Launch} {G : xG} {β : Nat} {D : Nat → Prop} {x : XS} {a1 : Nat} {r : Bool} (hm : fX6_spells x a1 = some r) : Met l yX6_spells (.code yX6_spells cX6_spells 3 (some .boolean) :: GT) rmX6_spells (PcW [.ref (β + 4), .ref (G.2.2.2.2.1 a1)] (CW β D G x) (KK G)) (QcW D (some (.int (bI r))) (CW β D G x)) 0 0 D := by
  unfold fX6_spells at hm
  refine xpro (own := RX6) (by decide +kernel) rfl (Nat.le_of_ble_eq_true rfl) ?_
  intro p e s m args below meth c C hw ls hl
  have hx := C.1
  have hb := C.2.1
  have ho := C.2.2.2.1
  have hts := C.2.2.2.2.1
  have hf : Fz D G s.heap := hw.2.2.2.2
  have hS : va_S D s.heap s.heap [] := va_S.rf
  have hl : lv_has ls 3 [(0, .ref (β + 4)), (1, .ref (G.2.2.2.2.1 a1))] := hl
  have hRf : 4 ≤ rmX6_spells.frames := Nat.le_refl _
  have hRl : 85 ≤ rmX6_spells.locals := Nat.le_refl _
  have hcs : 0 ≤ rmX6_spells.cells ∧ 0 ≤ rmX6_spells.slots := ⟨Nat.le_refl _, Nat.le_refl _⟩
  refine lv_aload_n hx hb dX6_spells_0 rfl (lv_at hl 0 rfl) ?_
  refine gX6_22 C hw dX6_spells_1 ?_
  refine lv_aload_n hx hb dX6_spells_4 rfl (lv_at hl 0 rfl) ?_
  refine gX6_19 C hw dX6_spells_5 ?_
  refine lv_isub hx hb dX6_spells_8 ?_
  refine lv_aload_n hx hb dX6_spells_9 rfl (lv_at hl 1 rfl) ?_
  obtain ⟨h1, hm⟩ := chk_e hm
  obtain ⟨v2, h3, hm⟩ := bind_e hm
  refine sX6_83 (a0 := a1) C hf h1 h3 hw hS hl.1 (Nat.le_of_ble_eq_true rfl) (Nat.le_trans (Nat.le_of_ble_eq_true rfl) hRf) (Nat.le_trans (Nat.le_of_ble_eq_true rfl) hRl) hcs dX6_spells_10 (fun H locs hw hS => ?_)
  refine lv_icmp_eq (tgt := 18) hx hb dX6_spells_13 (by decide) (fun cc => ?_) (fun cc => ?_)
  · replace hm := ite_p cc hm
    refine lv_iconst (v := 0) hx hb dX6_spells_18 (by decide) ?_
    refine lv_istore_n (lv' := [(2, .int 0), (0, .ref (β + 4)), (1, .ref (G.2.2.2.2.1 a1))]) hx hb dX6_spells_19 rfl hl (by decide) rfl (fun ls hl => ?_)
    rcases bs_e hm with ⟨a, hj, hm⟩ | ⟨b, hj, hm⟩
    · refine lX6_spells_20 C hRf hRl hcs hf x a1 NF _ _ _ _ _ hj hw hS (lv_sub hl [1, 2, 0] rfl) (fun _ e0 => by cases e0) (fun rv e0 H locs ls hw hS => ?_)
      · cases e0
        obtain rfl := Option.some.inj hm
        exact xret_z C (bI_nar _) hw hS dX6_spells_48
    · refine lX6_spells_20 C hRf hRl hcs hf x a1 NF _ _ _ _ _ hj hw hS (lv_sub hl [1, 2, 0] rfl) (fun _ e0 H locs ls hw hS hl => ?_) (fun _ e0 => by cases e0)
      refine lv_iconst (v := 1) hx hb dX6_spells_55 (by decide) ?_
      obtain rfl := Option.some.inj hm
      exact xret_z (v := bI true) C (bI_nar _) hw hS dX6_spells_56
  · replace hm := ite_n cc hm
    refine lv_iconst (v := 0) hx hb dX6_spells_16 (by decide) ?_
    obtain rfl := Option.some.inj hm
    exact xret_z (v := bI false) C (bI_nar _) hw hS dX6_spells_17
theorem dX6_readWord_0 : decode cX6_readWord 0 = .ok (.aload_n 0, 1) := by decide +kernel
theorem dX6_readWord_1 : decode cX6_readWord 1 = .ok (.getfield 22, 3) := by decide +kernel
theorem dX6_readWord_4 : decode cX6_readWord 4 = .ok (.aload_n 0, 1) := by decide +kernel
theorem dX6_readWord_5 : decode cX6_readWord 5 = .ok (.getfield 15, 3) := by decide +kernel
theorem dX6_readWord_8 : decode cX6_readWord 8 = .ok (.if_icmp .ge 31, 3) := by decide +kernel
theorem dX6_readWord_11 : decode cX6_readWord 11 = .ok (.aload_n 0, 1) := by decide +kernel
theorem dX6_readWord_12 : decode cX6_readWord 12 = .ok (.getfield 9, 3) := by decide +kernel
theorem dX6_readWord_15 : decode cX6_readWord 15 = .ok (.aload_n 0, 1) := by decide +kernel
theorem dX6_readWord_16 : decode cX6_readWord 16 = .ok (.getfield 22, 3) := by decide +kernel
theorem dX6_readWord_19 : decode cX6_readWord 19 = .ok (.caload, 1) := by decide +kernel
theorem dX6_readWord_20 : decode cX6_readWord 20 = .ok (.invokestatic 38, 3) := by decide +kernel
theorem dX6_readWord_23 : decode cX6_readWord 23 = .ok (.ifCond .eq 16, 3) := by decide +kernel
theorem dX6_readWord_26 : decode cX6_readWord 26 = .ok (.aload_n 0, 1) := by decide +kernel
theorem dX6_readWord_27 : decode cX6_readWord 27 = .ok (.dup, 1) := by decide +kernel
theorem dX6_readWord_28 : decode cX6_readWord 28 = .ok (.getfield 22, 3) := by decide +kernel
theorem dX6_readWord_31 : decode cX6_readWord 31 = .ok (.iconst 1, 1) := by decide +kernel
theorem dX6_readWord_32 : decode cX6_readWord 32 = .ok (.iadd, 1) := by decide +kernel
theorem dX6_readWord_33 : decode cX6_readWord 33 = .ok (.putfield 22, 3) := by decide +kernel
theorem dX6_readWord_36 : decode cX6_readWord 36 = .ok (.goto (-36), 3) := by decide +kernel
theorem dX6_readWord_39 : decode cX6_readWord 39 = .ok (.aload_n 0, 1) := by decide +kernel
theorem dX6_readWord_40 : decode cX6_readWord 40 = .ok (.ldc 55, 2) := by decide +kernel
theorem dX6_readWord_42 : decode cX6_readWord 42 = .ok (.invokevirtual 57, 3) := by decide +kernel
theorem dX6_readWord_45 : decode cX6_readWord 45 = .ok (.ifCond .eq 5, 3) := by decide +kernel
theorem dX6_readWord_48 : decode cX6_readWord 48 = .ok (.iconst (-1), 1) := by decide +kernel
theorem dX6_readWord_49 : decode cX6_readWord 49 = .ok (.ireturn, 1) := by decide +kernel
theorem dX6_readWord_50 : decode cX6_readWord 50 = .ok (.aload_n 0, 1) := by decide +kernel
theorem dX6_readWord_51 : decode cX6_readWord 51 = .ok (.ldc 61, 2) := by decide +kernel
theorem dX6_readWord_53 : decode cX6_readWord 53 = .ok (.invokevirtual 57, 3) := by decide +kernel
theorem dX6_readWord_56 : decode cX6_readWord 56 = .ok (.ifCond .eq 6, 3) := by decide +kernel
theorem dX6_readWord_59 : decode cX6_readWord 59 = .ok (.bipush (-2), 2) := by decide +kernel
theorem dX6_readWord_61 : decode cX6_readWord 61 = .ok (.ireturn, 1) := by decide +kernel
theorem dX6_readWord_62 : decode cX6_readWord 62 = .ok (.aload_n 0, 1) := by decide +kernel
theorem dX6_readWord_63 : decode cX6_readWord 63 = .ok (.ldc 63, 2) := by decide +kernel
theorem dX6_readWord_65 : decode cX6_readWord 65 = .ok (.invokevirtual 57, 3) := by decide +kernel
theorem dX6_readWord_68 : decode cX6_readWord 68 = .ok (.ifCond .eq 6, 3) := by decide +kernel
theorem dX6_readWord_71 : decode cX6_readWord 71 = .ok (.bipush (-3), 2) := by decide +kernel
theorem dX6_readWord_73 : decode cX6_readWord 73 = .ok (.ireturn, 1) := by decide +kernel
theorem dX6_readWord_74 : decode cX6_readWord 74 = .ok (.aload_n 0, 1) := by decide +kernel
theorem dX6_readWord_75 : decode cX6_readWord 75 = .ok (.ldc 65, 2) := by decide +kernel
theorem dX6_readWord_77 : decode cX6_readWord 77 = .ok (.invokevirtual 57, 3) := by decide +kernel
theorem dX6_readWord_80 : decode cX6_readWord 80 = .ok (.ifCond .eq 6, 3) := by decide +kernel
theorem dX6_readWord_83 : decode cX6_readWord 83 = .ok (.bipush (-4), 2) := by decide +kernel
theorem dX6_readWord_85 : decode cX6_readWord 85 = .ok (.ireturn, 1) := by decide +kernel
theorem dX6_readWord_86 : decode cX6_readWord 86 = .ok (.aload_n 0, 1) := by decide +kernel
theorem dX6_readWord_87 : decode cX6_readWord 87 = .ok (.ldc 67, 2) := by decide +kernel
theorem dX6_readWord_89 : decode cX6_readWord 89 = .ok (.invokevirtual 57, 3) := by decide +kernel
theorem dX6_readWord_92 : decode cX6_readWord 92 = .ok (.ifCond .eq 6, 3) := by decide +kernel
theorem dX6_readWord_95 : decode cX6_readWord 95 = .ok (.bipush (-5), 2) := by decide +kernel
theorem dX6_readWord_97 : decode cX6_readWord 97 = .ok (.ireturn, 1) := by decide +kernel
theorem dX6_readWord_98 : decode cX6_readWord 98 = .ok (.aload_n 0, 1) := by decide +kernel
theorem dX6_readWord_99 : decode cX6_readWord 99 = .ok (.ldc 69, 2) := by decide +kernel
theorem dX6_readWord_101 : decode cX6_readWord 101 = .ok (.invokevirtual 57, 3) := by decide +kernel
theorem dX6_readWord_104 : decode cX6_readWord 104 = .ok (.ifCond .eq 6, 3) := by decide +kernel
theorem dX6_readWord_107 : decode cX6_readWord 107 = .ok (.bipush (-6), 2) := by decide +kernel
theorem dX6_readWord_109 : decode cX6_readWord 109 = .ok (.ireturn, 1) := by decide +kernel
theorem dX6_readWord_110 : decode cX6_readWord 110 = .ok (.aload_n 0, 1) := by decide +kernel
theorem dX6_readWord_111 : decode cX6_readWord 111 = .ok (.ldc 71, 2) := by decide +kernel
theorem dX6_readWord_113 : decode cX6_readWord 113 = .ok (.invokevirtual 57, 3) := by decide +kernel
theorem dX6_readWord_116 : decode cX6_readWord 116 = .ok (.ifCond .eq 6, 3) := by decide +kernel
theorem dX6_readWord_119 : decode cX6_readWord 119 = .ok (.bipush (-11), 2) := by decide +kernel
theorem dX6_readWord_121 : decode cX6_readWord 121 = .ok (.ireturn, 1) := by decide +kernel
theorem dX6_readWord_122 : decode cX6_readWord 122 = .ok (.aload_n 0, 1) := by decide +kernel
theorem dX6_readWord_123 : decode cX6_readWord 123 = .ok (.ldc 73, 2) := by decide +kernel
theorem dX6_readWord_125 : decode cX6_readWord 125 = .ok (.invokevirtual 57, 3) := by decide +kernel
theorem dX6_readWord_128 : decode cX6_readWord 128 = .ok (.ifCond .eq 6, 3) := by decide +kernel
theorem dX6_readWord_131 : decode cX6_readWord 131 = .ok (.bipush (-12), 2) := by decide +kernel
theorem dX6_readWord_133 : decode cX6_readWord 133 = .ok (.ireturn, 1) := by decide +kernel
theorem dX6_readWord_134 : decode cX6_readWord 134 = .ok (.aload_n 0, 1) := by decide +kernel
theorem dX6_readWord_135 : decode cX6_readWord 135 = .ok (.ldc 75, 2) := by decide +kernel
theorem dX6_readWord_137 : decode cX6_readWord 137 = .ok (.invokevirtual 57, 3) := by decide +kernel
theorem dX6_readWord_140 : decode cX6_readWord 140 = .ok (.ifCond .eq 6, 3) := by decide +kernel
theorem dX6_readWord_143 : decode cX6_readWord 143 = .ok (.bipush (-13), 2) := by decide +kernel
theorem dX6_readWord_145 : decode cX6_readWord 145 = .ok (.ireturn, 1) := by decide +kernel
theorem dX6_readWord_146 : decode cX6_readWord 146 = .ok (.aload_n 0, 1) := by decide +kernel
theorem dX6_readWord_147 : decode cX6_readWord 147 = .ok (.ldc 77, 2) := by decide +kernel
theorem dX6_readWord_149 : decode cX6_readWord 149 = .ok (.invokevirtual 57, 3) := by decide +kernel
theorem dX6_readWord_152 : decode cX6_readWord 152 = .ok (.ifCond .eq 6, 3) := by decide +kernel
theorem dX6_readWord_155 : decode cX6_readWord 155 = .ok (.bipush (-14), 2) := by decide +kernel
theorem dX6_readWord_157 : decode cX6_readWord 157 = .ok (.ireturn, 1) := by decide +kernel
theorem dX6_readWord_158 : decode cX6_readWord 158 = .ok (.aload_n 0, 1) := by decide +kernel
theorem dX6_readWord_159 : decode cX6_readWord 159 = .ok (.ldc 79, 2) := by decide +kernel
theorem dX6_readWord_161 : decode cX6_readWord 161 = .ok (.invokevirtual 57, 3) := by decide +kernel
theorem dX6_readWord_164 : decode cX6_readWord 164 = .ok (.ifCond .eq 6, 3) := by decide +kernel
theorem dX6_readWord_167 : decode cX6_readWord 167 = .ok (.bipush (-15), 2) := by decide +kernel
theorem dX6_readWord_169 : decode cX6_readWord 169 = .ok (.ireturn, 1) := by decide +kernel
theorem dX6_readWord_170 : decode cX6_readWord 170 = .ok (.aload_n 0, 1) := by decide +kernel
theorem dX6_readWord_171 : decode cX6_readWord 171 = .ok (.ldc 81, 2) := by decide +kernel
theorem dX6_readWord_173 : decode cX6_readWord 173 = .ok (.invokevirtual 57, 3) := by decide +kernel
theorem dX6_readWord_176 : decode cX6_readWord 176 = .ok (.ifCond .eq 6, 3) := by decide +kernel
theorem dX6_readWord_179 : decode cX6_readWord 179 = .ok (.bipush (-16), 2) := by decide +kernel
theorem dX6_readWord_181 : decode cX6_readWord 181 = .ok (.ireturn, 1) := by decide +kernel
theorem dX6_readWord_182 : decode cX6_readWord 182 = .ok (.bipush (-36), 2) := by decide +kernel
theorem dX6_readWord_184 : decode cX6_readWord 184 = .ok (.ireturn, 1) := by decide +kernel
theorem sX6_38 {p : Program} {l : Launch} {e : Env} {R : Room} {s : State} {m : MethodId} {args : Array Value} {below : List Frame} {meth : Method} {c : Code} {H : Heap} {locs : List Loc} {cells slots : Nat} {Q : State → Prop} {cc : ByteArray} {pc nL : Nat} {ls : Array Slot} {rest : List Value} {ret : Option FieldType}  {G : xG} {β : Nat} {D : Nat → Prop} {x : XS} {a1 : Int32} {r : Bool} (C : Cx p s m args meth c RX6 cc nL ret (KK G)) (h : fX6_isLetter a1 = some r) (hw : CW β D G x H) (hS : va_S D s.heap H locs) (hsz : ls.size = nL) (hW : (rest.map fun v => v.category).sum ≤ 8) (hR : 1 ≤ R.frames) (hR2 : 20 ≤ R.locals) (hcs : cells ≤ R.cells ∧ slots ≤ R.slots) (hd : decode cc pc = .ok (.invokestatic 38, 3)) (kk : ∀ (H1 : Heap) (locs1 : List Loc), CW β D G x H1 → va_S D s.heap H1 locs1 → W p l e R s m args below meth c H1 locs1 cells slots Q (F0 m (pc + 3) ls (.int (bI r) :: rest))) : W p l e R s m args below meth c H locs cells slots Q (F0 m pc ls (.int a1 :: rest)) := by
  exact xcallS C (As := [.int a1]) (rest := rest) (nA := 1) (kX6_isLetter h) (tg 227 (by decide +kernel) rfl) (tg 228 (by decide +kernel) rfl) (tg 2 (by decide +kernel) rfl) (tg 229 (by decide +kernel) rfl) ⟨by decide +kernel, by decide +kernel, by decide +kernel⟩ rfl rfl ⟨hR, hR2⟩ hw hS (fun _ q => q) rfl rfl hsz hW hd hcs (fun H1 locs1 hw hz hk hS => kk H1 locs1 hw hS)
theorem sX6_57 {p : Program} {l : Launch} {e : Env} {R : Room} {s : State} {m : MethodId} {args : Array Value} {below : List Frame} {meth : Method} {c : Code} {H : Heap} {locs : List Loc} {cells slots : Nat} {Q : State → Prop} {cc : ByteArray} {pc nL : Nat} {ls : Array Slot} {rest : List Value} {ret : Option FieldType}  {G : xG} {β : Nat} {D : Nat → Prop} {x : XS} {a1 : Nat} {r : Bool} (C : Cx p s m args meth c RX6 cc nL ret (KK G)) (h : fX6_spells x a1 = some r) (hw : CW β D G x H) (hS : va_S D s.heap H locs) (hsz : ls.size = nL) (hW : (rest.map fun v => v.category).sum ≤ 8) (hR : 5 ≤ R.frames) (hR2 : 107 ≤ R.locals) (hcs : cells ≤ R.cells ∧ slots ≤ R.slots) (hd : decode cc pc = .ok (.invokevirtual 57, 3)) (kk : ∀ (H1 : Heap) (locs1 : List Loc), CW β D G x H1 → va_S D s.heap H1 locs1 → W p l e R s m args below meth c H1 locs1 cells slots Q (F0 m (pc + 3) ls (.int (bI r) :: rest))) : W p l e R s m args below meth c H locs cells slots Q (F0 m pc ls (.ref (G.2.2.2.2.1 a1) :: .ref (β + 4) :: rest)) := by
  exact xcallV C (As := [.ref (G.2.2.2.2.1 a1)]) (rest := rest) (nA := 1) (ci := 6) (kX6_spells h) (tg 235 (by decide +kernel) rfl) (tg 237 (by decide +kernel) rfl) (sg (List.mem_of_getElem? (i := 1) (by decide +kernel)) rfl) (tg 2 (by decide +kernel) rfl) (tg 238 (by decide +kernel) rfl) ⟨rfl, by decide +kernel, by decide +kernel, by decide +kernel⟩ rfl rfl rfl ⟨hR, hR2⟩ (hw.2.2.1 4 (by decide)) hw hS (fun _ q => q) rfl rfl hsz hW hd hcs (fun H1 locs1 hw hz hk hS => kk H1 locs1 hw hS)
def BX6_readWord_0 (lp : XS → Option (XS)) (x : XS) : Option (XS) := if (x.1 4 1) ≤ (x.1 4 3) then some x else if ib (x.1 4 3) 160 then Option.bind (fX6_isLetter (x.2.1 5 (x.1 4 3).toNatClampNeg)) fun v2 => if v2 = true then lt (xsS x 4 3 ((x.1 4 3) + 1)) fun x4 => lp x4 else some x else none
def LX6_readWord_0 : Nat → XS → Option (XS)
  | 0, _ => none
  | n + 1, x => BX6_readWord_0 (LX6_readWord_0 n) x
def fX6_readWord (x : XS) : Option (Int32 × XS) := Option.bind (LX6_readWord_0 NF x) fun x5 => Option.bind (fX6_spells x5 1) fun v6 => if v6 = true then some ((-1), x5) else Option.bind (fX6_spells x5 2) fun v8 => if v8 = true then some ((-2), x5) else Option.bind (fX6_spells x5 3) fun v10 => if v10 = true then some ((-3), x5) else Option.bind (fX6_spells x5 4) fun v12 => if v12 = true then some ((-4), x5) else Option.bind (fX6_spells x5 5) fun v14 => if v14 = true then some ((-5), x5) else Option.bind (fX6_spells x5 6) fun v16 => if v16 = true then some ((-6), x5) else Option.bind (fX6_spells x5 7) fun v18 => if v18 = true then some ((-11), x5) else Option.bind (fX6_spells x5 8) fun v20 => if v20 = true then some ((-12), x5) else Option.bind (fX6_spells x5 9) fun v22 => if v22 = true then some ((-13), x5) else Option.bind (fX6_spells x5 10) fun v24 => if v24 = true then some ((-14), x5) else Option.bind (fX6_spells x5 11) fun v26 => if v26 = true then some ((-15), x5) else Option.bind (fX6_spells x5 12) fun v28 => if v28 = true then some ((-16), x5) else some ((-36), x5)
set_option maxHeartbeats 4000000 in
set_option maxRecDepth 100000 in
theorem lX6_readWord_0 {p : Program} {l : Launch} {e : Env} {R : Room} {s : State} {m : MethodId} {args : Array Value} {below : List Frame} {meth : Method} {c : Code} {cells slots : Nat} {Q : State → Prop} {G : xG} {β : Nat} {D : Nat → Prop} (C : Cx p s m args meth c RX6 cX6_readWord 1 (some .int) (KK G)) (hRf : 5 ≤ R.frames) (hRl : 107 ≤ R.locals) (hcs : cells ≤ R.cells ∧ slots ≤ R.slots) (hf : Fz D G s.heap) : ∀ (n : Nat) (x : XS) (J : XS) (H : Heap) (locs : List Loc) (ls : Array Slot), LX6_readWord_0 n x = some J → CW β D G x H → va_S D s.heap H locs → lv_has ls 1 [(0, .ref (β + 4))] → (∀ (x1 : XS), J = x1 → ∀ (H : Heap) (locs : List Loc) (ls : Array Slot), CW β D G x1 H → va_S D s.heap H locs → lv_has ls 1 [(0, .ref (β + 4))] → W p l e R s m args below meth c H locs cells slots Q (F0 m 39 ls [])) → W p l e R s m args below meth c H locs cells slots Q (F0 m 0 ls []) := by
  have hx := C.1
  have hb := C.2.1
  have ho := C.2.2.2.1
  have hts := C.2.2.2.2.1
  intro n
  induction n with
  | zero =>
    intro x J H locs ls hm
    exact absurd hm (by simp [LX6_readWord_0])
  | succ n ih =>
    intro x J H locs ls hm hw hS hl ke
    replace hm : BX6_readWord_0 (LX6_readWord_0 n) x = some J := hm
    unfold BX6_readWord_0 at hm
    refine lv_aload_n hx hb dX6_readWord_0 rfl (lv_at hl 0 rfl) ?_
    refine gX6_22 C hw dX6_readWord_1 ?_
    refine lv_aload_n hx hb dX6_readWord_4 rfl (lv_at hl 0 rfl) ?_
    refine gX6_15 C hw dX6_readWord_5 ?_
    refine lv_icmp_ge (tgt := 39) hx hb dX6_readWord_8 (by decide) (fun cc => ?_) (fun cc => ?_)
    · replace hm := ite_p cc hm
      exact ke _ (Option.some.inj hm).symm _ _ _ hw hS (lv_sub hl [0] rfl)
    · replace hm := ite_n cc hm
      refine lv_aload_n hx hb dX6_readWord_11 rfl (lv_at hl 0 rfl) ?_
      refine gX6_9 C hw dX6_readWord_12 ?_
      refine lv_aload_n hx hb dX6_readWord_15 rfl (lv_at hl 0 rfl) ?_
      refine gX6_22 C hw dX6_readWord_16 ?_
      obtain ⟨h1, hm⟩ := chk_e hm
      refine alX_5 C hw h1 dX6_readWord_19 ?_
      obtain ⟨v2, h3, hm⟩ := bind_e hm
      refine sX6_38 C h3 hw hS hl.1 (Nat.le_of_ble_eq_true rfl) (Nat.le_trans (Nat.le_of_ble_eq_true rfl) hRf) (Nat.le_trans (Nat.le_of_ble_eq_true rfl) hRl) hcs dX6_readWord_20 (fun H locs hw hS => ?_)
      refine x_ifeqB hx hb dX6_readWord_23 (tgt := 39) (by decide) (fun cc => ?_) (fun cc => ?_)
      · replace hm := ite_n cc hm
        exact ke _ (Option.some.inj hm).symm _ _ _ hw hS (lv_sub hl [0] rfl)
      · replace hm := ite_p cc hm
        refine lv_aload_n hx hb dX6_readWord_26 rfl (lv_at hl 0 rfl) ?_
        refine lv_dup hx hb dX6_readWord_27 rfl ?_
        refine gX6_22 C hw dX6_readWord_28 ?_
        refine lv_iconst (v := 1) hx hb dX6_readWord_31 (by decide) ?_
        refine lv_iadd hx hb dX6_readWord_32 ?_
        refine pX6_22 C hw hS dX6_readWord_33 (fun H locs hw hS => ?_)
        obtain ⟨x4, ev, hm⟩ := lt_e hm
        rw [← ev] at hw
        clear ev
        refine lv_goto (tgt := 0) hx hb dX6_readWord_36 (by decide) ?_
        exact ih _ _ _ _ _ hm hw hS (lv_sub hl [0] rfl) ke
abbrev rmX6_readWord : Room := { frames := 5, cells := 0, slots := 0, locals := 107 }
set_option maxHeartbeats 4000000 in
set_option maxRecDepth 100000 in
theorem kX6_readWord {l : Launch} {G : xG} {β : Nat} {D : Nat → Prop} {x x' : XS} {r : Int32} (hm : fX6_readWord x = some (r, x')) : Met l yX6_readWord (.code yX6_readWord cX6_readWord 1 (some .int) :: GT) rmX6_readWord (PcW [.ref (β + 4)] (CW β D G x) (KK G)) (QcW D (some (.int r)) (CW β D G x')) 0 0 D := by
  unfold fX6_readWord at hm
  refine xpro (own := RX6) (by decide +kernel) rfl (Nat.le_of_ble_eq_true rfl) ?_
  intro p e s m args below meth c C hw ls hl
  have hx := C.1
  have hb := C.2.1
  have ho := C.2.2.2.1
  have hts := C.2.2.2.2.1
  have hf : Fz D G s.heap := hw.2.2.2.2
  have hS : va_S D s.heap s.heap [] := va_S.rf
  have hl : lv_has ls 1 [(0, .ref (β + 4))] := hl
  have hRf : 5 ≤ rmX6_readWord.frames := Nat.le_refl _
  have hRl : 107 ≤ rmX6_readWord.locals := Nat.le_refl _
  have hcs : 0 ≤ rmX6_readWord.cells ∧ 0 ≤ rmX6_readWord.slots := ⟨Nat.le_refl _, Nat.le_refl _⟩
  obtain ⟨x5, hj, hm⟩ := bind_e hm
  refine lX6_readWord_0 C hRf hRl hcs hf NF _ _ _ _ _ hj hw hS (lv_sub hl [0] rfl) (fun x5_ e0 H locs ls hw hS hl => ?_)
  cases e0
  refine lv_aload_n hx hb dX6_readWord_39 rfl (lv_at hl 0 rfl) ?_
  refine va_ldcS hx hb ho (C.K.2.2.2.2.1 1 (RX6, 55, "strength") rfl) dX6_readWord_40 ?_
  obtain ⟨v6, h7, hm⟩ := bind_e hm
  refine sX6_57 (a1 := 1) C h7 hw hS hl.1 (Nat.le_of_ble_eq_true rfl) (Nat.le_trans (Nat.le_of_ble_eq_true rfl) hRf) (Nat.le_trans (Nat.le_of_ble_eq_true rfl) hRl) hcs dX6_readWord_42 (fun H locs hw hS => ?_)
  refine x_ifeqB hx hb dX6_readWord_45 (tgt := 50) (by decide) (fun cc => ?_) (fun cc => ?_)
  · replace hm := ite_n cc hm
    refine lv_aload_n hx hb dX6_readWord_50 rfl (lv_at hl 0 rfl) ?_
    refine va_ldcS hx hb ho (C.K.2.2.2.2.1 2 (RX6, 61, "lead") rfl) dX6_readWord_51 ?_
    obtain ⟨v8, h9, hm⟩ := bind_e hm
    refine sX6_57 (a1 := 2) C h9 hw hS hl.1 (Nat.le_of_ble_eq_true rfl) (Nat.le_trans (Nat.le_of_ble_eq_true rfl) hRf) (Nat.le_trans (Nat.le_of_ble_eq_true rfl) hRl) hcs dX6_readWord_53 (fun H locs hw hS => ?_)
    refine x_ifeqB hx hb dX6_readWord_56 (tgt := 62) (by decide) (fun cc => ?_) (fun cc => ?_)
    · replace hm := ite_n cc hm
      refine lv_aload_n hx hb dX6_readWord_62 rfl (lv_at hl 0 rfl) ?_
      refine va_ldcS hx hb ho (C.K.2.2.2.2.1 3 (RX6, 63, "won") rfl) dX6_readWord_63 ?_
      obtain ⟨v10, h11, hm⟩ := bind_e hm
      refine sX6_57 (a1 := 3) C h11 hw hS hl.1 (Nat.le_of_ble_eq_true rfl) (Nat.le_trans (Nat.le_of_ble_eq_true rfl) hRf) (Nat.le_trans (Nat.le_of_ble_eq_true rfl) hRl) hcs dX6_readWord_65 (fun H locs hw hS => ?_)
      refine x_ifeqB hx hb dX6_readWord_68 (tgt := 74) (by decide) (fun cc => ?_) (fun cc => ?_)
      · replace hm := ite_n cc hm
        refine lv_aload_n hx hb dX6_readWord_74 rfl (lv_at hl 0 rfl) ?_
        refine va_ldcS hx hb ho (C.K.2.2.2.2.1 4 (RX6, 65, "place") rfl) dX6_readWord_75 ?_
        obtain ⟨v12, h13, hm⟩ := bind_e hm
        refine sX6_57 (a1 := 4) C h13 hw hS hl.1 (Nat.le_of_ble_eq_true rfl) (Nat.le_trans (Nat.le_of_ble_eq_true rfl) hRf) (Nat.le_trans (Nat.le_of_ble_eq_true rfl) hRl) hcs dX6_readWord_77 (fun H locs hw hS => ?_)
        refine x_ifeqB hx hb dX6_readWord_80 (tgt := 86) (by decide) (fun cc => ?_) (fun cc => ?_)
        · replace hm := ite_n cc hm
          refine lv_aload_n hx hb dX6_readWord_86 rfl (lv_at hl 0 rfl) ?_
          refine va_ldcS hx hb ho (C.K.2.2.2.2.1 5 (RX6, 67, "age") rfl) dX6_readWord_87 ?_
          obtain ⟨v14, h15, hm⟩ := bind_e hm
          refine sX6_57 (a1 := 5) C h15 hw hS hl.1 (Nat.le_of_ble_eq_true rfl) (Nat.le_trans (Nat.le_of_ble_eq_true rfl) hRf) (Nat.le_trans (Nat.le_of_ble_eq_true rfl) hRl) hcs dX6_readWord_89 (fun H locs hw hS => ?_)
          refine x_ifeqB hx hb dX6_readWord_92 (tgt := 98) (by decide) (fun cc => ?_) (fun cc => ?_)
          · replace hm := ite_n cc hm
            refine lv_aload_n hx hb dX6_readWord_98 rfl (lv_at hl 0 rfl) ?_
            refine va_ldcS hx hb ho (C.K.2.2.2.2.1 6 (RX6, 69, "ground") rfl) dX6_readWord_99 ?_
            obtain ⟨v16, h17, hm⟩ := bind_e hm
            refine sX6_57 (a1 := 6) C h17 hw hS hl.1 (Nat.le_of_ble_eq_true rfl) (Nat.le_trans (Nat.le_of_ble_eq_true rfl) hRf) (Nat.le_trans (Nat.le_of_ble_eq_true rfl) hRl) hcs dX6_readWord_101 (fun H locs hw hS => ?_)
            refine x_ifeqB hx hb dX6_readWord_104 (tgt := 110) (by decide) (fun cc => ?_) (fun cc => ?_)
            · replace hm := ite_n cc hm
              refine lv_aload_n hx hb dX6_readWord_110 rfl (lv_at hl 0 rfl) ?_
              refine va_ldcS hx hb ho (C.K.2.2.2.2.1 7 (RX6, 71, "next") rfl) dX6_readWord_111 ?_
              obtain ⟨v18, h19, hm⟩ := bind_e hm
              refine sX6_57 (a1 := 7) C h19 hw hS hl.1 (Nat.le_of_ble_eq_true rfl) (Nat.le_trans (Nat.le_of_ble_eq_true rfl) hRf) (Nat.le_trans (Nat.le_of_ble_eq_true rfl) hRl) hcs dX6_readWord_113 (fun H locs hw hS => ?_)
              refine x_ifeqB hx hb dX6_readWord_116 (tgt := 122) (by decide) (fun cc => ?_) (fun cc => ?_)
              · replace hm := ite_n cc hm
                refine lv_aload_n hx hb dX6_readWord_122 rfl (lv_at hl 0 rfl) ?_
                refine va_ldcS hx hb ho (C.K.2.2.2.2.1 8 (RX6, 73, "hold") rfl) dX6_readWord_123 ?_
                obtain ⟨v20, h21, hm⟩ := bind_e hm
                refine sX6_57 (a1 := 8) C h21 hw hS hl.1 (Nat.le_of_ble_eq_true rfl) (Nat.le_trans (Nat.le_of_ble_eq_true rfl) hRf) (Nat.le_trans (Nat.le_of_ble_eq_true rfl) hRl) hcs dX6_readWord_125 (fun H locs hw hS => ?_)
                refine x_ifeqB hx hb dX6_readWord_128 (tgt := 134) (by decide) (fun cc => ?_) (fun cc => ?_)
                · replace hm := ite_n cc hm
                  refine lv_aload_n hx hb dX6_readWord_134 rfl (lv_at hl 0 rfl) ?_
                  refine va_ldcS hx hb ho (C.K.2.2.2.2.1 9 (RX6, 75, "say") rfl) dX6_readWord_135 ?_
                  obtain ⟨v22, h23, hm⟩ := bind_e hm
                  refine sX6_57 (a1 := 9) C h23 hw hS hl.1 (Nat.le_of_ble_eq_true rfl) (Nat.le_trans (Nat.le_of_ble_eq_true rfl) hRf) (Nat.le_trans (Nat.le_of_ble_eq_true rfl) hRl) hcs dX6_readWord_137 (fun H locs hw hS => ?_)
                  refine x_ifeqB hx hb dX6_readWord_140 (tgt := 146) (by decide) (fun cc => ?_) (fun cc => ?_)
                  · replace hm := ite_n cc hm
                    refine lv_aload_n hx hb dX6_readWord_146 rfl (lv_at hl 0 rfl) ?_
                    refine va_ldcS hx hb ho (C.K.2.2.2.2.1 10 (RX6, 77, "or") rfl) dX6_readWord_147 ?_
                    obtain ⟨v24, h25, hm⟩ := bind_e hm
                    refine sX6_57 (a1 := 10) C h25 hw hS hl.1 (Nat.le_of_ble_eq_true rfl) (Nat.le_trans (Nat.le_of_ble_eq_true rfl) hRf) (Nat.le_trans (Nat.le_of_ble_eq_true rfl) hRl) hcs dX6_readWord_149 (fun H locs hw hS => ?_)
                    refine x_ifeqB hx hb dX6_readWord_152 (tgt := 158) (by decide) (fun cc => ?_) (fun cc => ?_)
                    · replace hm := ite_n cc hm
                      refine lv_aload_n hx hb dX6_readWord_158 rfl (lv_at hl 0 rfl) ?_
                      refine va_ldcS hx hb ho (C.K.2.2.2.2.1 11 (RX6, 79, "and") rfl) dX6_readWord_159 ?_
                      obtain ⟨v26, h27, hm⟩ := bind_e hm
                      refine sX6_57 (a1 := 11) C h27 hw hS hl.1 (Nat.le_of_ble_eq_true rfl) (Nat.le_trans (Nat.le_of_ble_eq_true rfl) hRf) (Nat.le_trans (Nat.le_of_ble_eq_true rfl) hRl) hcs dX6_readWord_161 (fun H locs hw hS => ?_)
                      refine x_ifeqB hx hb dX6_readWord_164 (tgt := 170) (by decide) (fun cc => ?_) (fun cc => ?_)
                      · replace hm := ite_n cc hm
                        refine lv_aload_n hx hb dX6_readWord_170 rfl (lv_at hl 0 rfl) ?_
                        refine va_ldcS hx hb ho (C.K.2.2.2.2.1 12 (RX6, 81, "not") rfl) dX6_readWord_171 ?_
                        obtain ⟨v28, h29, hm⟩ := bind_e hm
                        refine sX6_57 (a1 := 12) C h29 hw hS hl.1 (Nat.le_of_ble_eq_true rfl) (Nat.le_trans (Nat.le_of_ble_eq_true rfl) hRf) (Nat.le_trans (Nat.le_of_ble_eq_true rfl) hRl) hcs dX6_readWord_173 (fun H locs hw hS => ?_)
                        refine x_ifeqB hx hb dX6_readWord_176 (tgt := 182) (by decide) (fun cc => ?_) (fun cc => ?_)
                        · replace hm := ite_n cc hm
                          refine lv_bipush (v := (-36)) hx hb dX6_readWord_182 (by decide) ?_
                          obtain ⟨rfl, rfl⟩ := inj2 hm
                          exact xret_i C hw hS dX6_readWord_184
                        · replace hm := ite_p cc hm
                          refine lv_bipush (v := (-16)) hx hb dX6_readWord_179 (by decide) ?_
                          obtain ⟨rfl, rfl⟩ := inj2 hm
                          exact xret_i C hw hS dX6_readWord_181
                      · replace hm := ite_p cc hm
                        refine lv_bipush (v := (-15)) hx hb dX6_readWord_167 (by decide) ?_
                        obtain ⟨rfl, rfl⟩ := inj2 hm
                        exact xret_i C hw hS dX6_readWord_169
                    · replace hm := ite_p cc hm
                      refine lv_bipush (v := (-14)) hx hb dX6_readWord_155 (by decide) ?_
                      obtain ⟨rfl, rfl⟩ := inj2 hm
                      exact xret_i C hw hS dX6_readWord_157
                  · replace hm := ite_p cc hm
                    refine lv_bipush (v := (-13)) hx hb dX6_readWord_143 (by decide) ?_
                    obtain ⟨rfl, rfl⟩ := inj2 hm
                    exact xret_i C hw hS dX6_readWord_145
                · replace hm := ite_p cc hm
                  refine lv_bipush (v := (-12)) hx hb dX6_readWord_131 (by decide) ?_
                  obtain ⟨rfl, rfl⟩ := inj2 hm
                  exact xret_i C hw hS dX6_readWord_133
              · replace hm := ite_p cc hm
                refine lv_bipush (v := (-11)) hx hb dX6_readWord_119 (by decide) ?_
                obtain ⟨rfl, rfl⟩ := inj2 hm
                exact xret_i C hw hS dX6_readWord_121
            · replace hm := ite_p cc hm
              refine lv_bipush (v := (-6)) hx hb dX6_readWord_107 (by decide) ?_
              obtain ⟨rfl, rfl⟩ := inj2 hm
              exact xret_i C hw hS dX6_readWord_109
          · replace hm := ite_p cc hm
            refine lv_bipush (v := (-5)) hx hb dX6_readWord_95 (by decide) ?_
            obtain ⟨rfl, rfl⟩ := inj2 hm
            exact xret_i C hw hS dX6_readWord_97
        · replace hm := ite_p cc hm
          refine lv_bipush (v := (-4)) hx hb dX6_readWord_83 (by decide) ?_
          obtain ⟨rfl, rfl⟩ := inj2 hm
          exact xret_i C hw hS dX6_readWord_85
      · replace hm := ite_p cc hm
        refine lv_bipush (v := (-3)) hx hb dX6_readWord_71 (by decide) ?_
        obtain ⟨rfl, rfl⟩ := inj2 hm
        exact xret_i C hw hS dX6_readWord_73
    · replace hm := ite_p cc hm
      refine lv_bipush (v := (-2)) hx hb dX6_readWord_59 (by decide) ?_
      obtain ⟨rfl, rfl⟩ := inj2 hm
      exact xret_i C hw hS dX6_readWord_61
  · replace hm := ite_p cc hm
    refine lv_iconst (v := (-1)) hx hb dX6_readWord_48 (by decide) ?_
    obtain ⟨rfl, rfl⟩ := inj2 hm
    exact xret_i C hw hS dX6_readWord_49
theorem dX6_signOf_0 : decode cX6_signOf 0 = .ok (.iload_n 0, 1) := by decide +kernel
theorem dX6_signOf_1 : decode cX6_signOf 1 = .ok (.tableswitch 127 40 61 #[103, 106, 118, 112, 127, 115, 127, 127, 127, 127, 127, 127, 127, 127, 127, 127, 127, 127, 127, 109, 121, 124], 103) := by decide +kernel
theorem dX6_signOf_104 : decode cX6_signOf 104 = .ok (.bipush (-31), 2) := by decide +kernel
theorem dX6_signOf_106 : decode cX6_signOf 106 = .ok (.ireturn, 1) := by decide +kernel
theorem dX6_signOf_107 : decode cX6_signOf 107 = .ok (.bipush (-32), 2) := by decide +kernel
theorem dX6_signOf_109 : decode cX6_signOf 109 = .ok (.ireturn, 1) := by decide +kernel
theorem dX6_signOf_110 : decode cX6_signOf 110 = .ok (.bipush (-33), 2) := by decide +kernel
theorem dX6_signOf_112 : decode cX6_signOf 112 = .ok (.ireturn, 1) := by decide +kernel
theorem dX6_signOf_113 : decode cX6_signOf 113 = .ok (.bipush (-21), 2) := by decide +kernel
theorem dX6_signOf_115 : decode cX6_signOf 115 = .ok (.ireturn, 1) := by decide +kernel
theorem dX6_signOf_116 : decode cX6_signOf 116 = .ok (.bipush (-22), 2) := by decide +kernel
theorem dX6_signOf_118 : decode cX6_signOf 118 = .ok (.ireturn, 1) := by decide +kernel
theorem dX6_signOf_119 : decode cX6_signOf 119 = .ok (.bipush (-23), 2) := by decide +kernel
theorem dX6_signOf_121 : decode cX6_signOf 121 = .ok (.ireturn, 1) := by decide +kernel
theorem dX6_signOf_122 : decode cX6_signOf 122 = .ok (.bipush (-24), 2) := by decide +kernel
theorem dX6_signOf_124 : decode cX6_signOf 124 = .ok (.ireturn, 1) := by decide +kernel
theorem dX6_signOf_125 : decode cX6_signOf 125 = .ok (.bipush (-25), 2) := by decide +kernel
theorem dX6_signOf_127 : decode cX6_signOf 127 = .ok (.ireturn, 1) := by decide +kernel
theorem dX6_signOf_128 : decode cX6_signOf 128 = .ok (.bipush (-36), 2) := by decide +kernel
theorem dX6_signOf_130 : decode cX6_signOf 130 = .ok (.ireturn, 1) := by decide +kernel
def fX6_signOf (a1 : Int32) : Option (Int32) := if a1 = 40 then some (-31) else if a1 = 41 then some (-32) else if a1 = 42 then some (-23) else if a1 = 43 then some (-21) else if a1 = 44 then some (-36) else if a1 = 45 then some (-22) else if a1 = 46 then some (-36) else if a1 = 47 then some (-36) else if a1 = 48 then some (-36) else if a1 = 49 then some (-36) else if a1 = 50 then some (-36) else if a1 = 51 then some (-36) else if a1 = 52 then some (-36) else if a1 = 53 then some (-36) else if a1 = 54 then some (-36) else if a1 = 55 then some (-36) else if a1 = 56 then some (-36) else if a1 = 57 then some (-36) else if a1 = 58 then some (-36) else if a1 = 59 then some (-33) else if a1 = 60 then some (-24) else if a1 = 61 then some (-25) else some (-36)
abbrev rmX6_signOf : Room := { frames := 0, cells := 0, slots := 0, locals := 0 }
set_option maxHeartbeats 4000000 in
set_option maxRecDepth 100000 in
theorem kX6_signOf {l : Launch} {G : xG} {β : Nat} {D : Nat → Prop} {x : XS} {a1 : Int32} {r : Int32} (hm : fX6_signOf a1 = some r) : Met l yX6_signOf (.code yX6_signOf cX6_signOf 1 (some .int) :: GT) rmX6_signOf (PcW [.int a1] (CW β D G x) (KK G)) (QcW D (some (.int r)) (CW β D G x)) 0 0 D := by
  unfold fX6_signOf at hm
  refine xpro (own := RX6) (by decide +kernel) rfl (Nat.le_of_ble_eq_true rfl) ?_
  intro p e s m args below meth c C hw ls hl
  have hx := C.1
  have hb := C.2.1
  have ho := C.2.2.2.1
  have hts := C.2.2.2.2.1
  have hf : Fz D G s.heap := hw.2.2.2.2
  have hS : va_S D s.heap s.heap [] := va_S.rf
  have hl : lv_has ls 1 [(0, .int a1)] := hl
  have hRf : 0 ≤ rmX6_signOf.frames := Nat.le_refl _
  have hRl : 0 ≤ rmX6_signOf.locals := Nat.le_refl _
  have hcs : 0 ≤ rmX6_signOf.cells ∧ 0 ≤ rmX6_signOf.slots := ⟨Nat.le_refl _, Nat.le_refl _⟩
  refine lv_iload_n hx hb dX6_signOf_0 rfl (lv_at hl 0 rfl) ?_
  by_cases k0 : a1 = 40
  · replace hm := ite_p k0 hm
    refine lv_tableIn (tgt := 104) (off := 103) hx hb dX6_signOf_1 (by rw [k0]; decide) (by rw [k0]; decide) (by rw [k0]; rfl) (by decide) ?_
    refine lv_bipush (v := (-31)) hx hb dX6_signOf_104 (by decide) ?_
    obtain rfl := Option.some.inj hm
    exact xret_i C hw hS dX6_signOf_106
  replace hm := ite_n k0 hm
  by_cases k1 : a1 = 41
  · replace hm := ite_p k1 hm
    refine lv_tableIn (tgt := 107) (off := 106) hx hb dX6_signOf_1 (by rw [k1]; decide) (by rw [k1]; decide) (by rw [k1]; rfl) (by decide) ?_
    refine lv_bipush (v := (-32)) hx hb dX6_signOf_107 (by decide) ?_
    obtain rfl := Option.some.inj hm
    exact xret_i C hw hS dX6_signOf_109
  replace hm := ite_n k1 hm
  by_cases k2 : a1 = 42
  · replace hm := ite_p k2 hm
    refine lv_tableIn (tgt := 119) (off := 118) hx hb dX6_signOf_1 (by rw [k2]; decide) (by rw [k2]; decide) (by rw [k2]; rfl) (by decide) ?_
    refine lv_bipush (v := (-23)) hx hb dX6_signOf_119 (by decide) ?_
    obtain rfl := Option.some.inj hm
    exact xret_i C hw hS dX6_signOf_121
  replace hm := ite_n k2 hm
  by_cases k3 : a1 = 43
  · replace hm := ite_p k3 hm
    refine lv_tableIn (tgt := 113) (off := 112) hx hb dX6_signOf_1 (by rw [k3]; decide) (by rw [k3]; decide) (by rw [k3]; rfl) (by decide) ?_
    refine lv_bipush (v := (-21)) hx hb dX6_signOf_113 (by decide) ?_
    obtain rfl := Option.some.inj hm
    exact xret_i C hw hS dX6_signOf_115
  replace hm := ite_n k3 hm
  by_cases k4 : a1 = 44
  · replace hm := ite_p k4 hm
    refine lv_tableIn (tgt := 128) (off := 127) hx hb dX6_signOf_1 (by rw [k4]; decide) (by rw [k4]; decide) (by rw [k4]; rfl) (by decide) ?_
    refine lv_bipush (v := (-36)) hx hb dX6_signOf_128 (by decide) ?_
    obtain rfl := Option.some.inj hm
    exact xret_i C hw hS dX6_signOf_130
  replace hm := ite_n k4 hm
  by_cases k5 : a1 = 45
  · replace hm := ite_p k5 hm
    refine lv_tableIn (tgt := 116) (off := 115) hx hb dX6_signOf_1 (by rw [k5]; decide) (by rw [k5]; decide) (by rw [k5]; rfl) (by decide) ?_
    refine lv_bipush (v := (-22)) hx hb dX6_signOf_116 (by decide) ?_
    obtain rfl := Option.some.inj hm
    exact xret_i C hw hS dX6_signOf_118
  replace hm := ite_n k5 hm
  by_cases k6 : a1 = 46
  · replace hm := ite_p k6 hm
    refine lv_tableIn (tgt := 128) (off := 127) hx hb dX6_signOf_1 (by rw [k6]; decide) (by rw [k6]; decide) (by rw [k6]; rfl) (by decide) ?_
    refine lv_bipush (v := (-36)) hx hb dX6_signOf_128 (by decide) ?_
    obtain rfl := Option.some.inj hm
    exact xret_i C hw hS dX6_signOf_130
  replace hm := ite_n k6 hm
  by_cases k7 : a1 = 47
  · replace hm := ite_p k7 hm
    refine lv_tableIn (tgt := 128) (off := 127) hx hb dX6_signOf_1 (by rw [k7]; decide) (by rw [k7]; decide) (by rw [k7]; rfl) (by decide) ?_
    refine lv_bipush (v := (-36)) hx hb dX6_signOf_128 (by decide) ?_
    obtain rfl := Option.some.inj hm
    exact xret_i C hw hS dX6_signOf_130
  replace hm := ite_n k7 hm
  by_cases k8 : a1 = 48
  · replace hm := ite_p k8 hm
    refine lv_tableIn (tgt := 128) (off := 127) hx hb dX6_signOf_1 (by rw [k8]; decide) (by rw [k8]; decide) (by rw [k8]; rfl) (by decide) ?_
    refine lv_bipush (v := (-36)) hx hb dX6_signOf_128 (by decide) ?_
    obtain rfl := Option.some.inj hm
    exact xret_i C hw hS dX6_signOf_130
  replace hm := ite_n k8 hm
  by_cases k9 : a1 = 49
  · replace hm := ite_p k9 hm
    refine lv_tableIn (tgt := 128) (off := 127) hx hb dX6_signOf_1 (by rw [k9]; decide) (by rw [k9]; decide) (by rw [k9]; rfl) (by decide) ?_
    refine lv_bipush (v := (-36)) hx hb dX6_signOf_128 (by decide) ?_
    obtain rfl := Option.some.inj hm
    exact xret_i C hw hS dX6_signOf_130
  replace hm := ite_n k9 hm
  by_cases k10 : a1 = 50
  · replace hm := ite_p k10 hm
    refine lv_tableIn (tgt := 128) (off := 127) hx hb dX6_signOf_1 (by rw [k10]; decide) (by rw [k10]; decide) (by rw [k10]; rfl) (by decide) ?_
    refine lv_bipush (v := (-36)) hx hb dX6_signOf_128 (by decide) ?_
    obtain rfl := Option.some.inj hm
    exact xret_i C hw hS dX6_signOf_130
  replace hm := ite_n k10 hm
  by_cases k11 : a1 = 51
  · replace hm := ite_p k11 hm
    refine lv_tableIn (tgt := 128) (off := 127) hx hb dX6_signOf_1 (by rw [k11]; decide) (by rw [k11]; decide) (by rw [k11]; rfl) (by decide) ?_
    refine lv_bipush (v := (-36)) hx hb dX6_signOf_128 (by decide) ?_
    obtain rfl := Option.some.inj hm
    exact xret_i C hw hS dX6_signOf_130
  replace hm := ite_n k11 hm
  by_cases k12 : a1 = 52
  · replace hm := ite_p k12 hm
    refine lv_tableIn (tgt := 128) (off := 127) hx hb dX6_signOf_1 (by rw [k12]; decide) (by rw [k12]; decide) (by rw [k12]; rfl) (by decide) ?_
    refine lv_bipush (v := (-36)) hx hb dX6_signOf_128 (by decide) ?_
    obtain rfl := Option.some.inj hm
    exact xret_i C hw hS dX6_signOf_130
  replace hm := ite_n k12 hm
  by_cases k13 : a1 = 53
  · replace hm := ite_p k13 hm
    refine lv_tableIn (tgt := 128) (off := 127) hx hb dX6_signOf_1 (by rw [k13]; decide) (by rw [k13]; decide) (by rw [k13]; rfl) (by decide) ?_
    refine lv_bipush (v := (-36)) hx hb dX6_signOf_128 (by decide) ?_
    obtain rfl := Option.some.inj hm
    exact xret_i C hw hS dX6_signOf_130
  replace hm := ite_n k13 hm
  by_cases k14 : a1 = 54
  · replace hm := ite_p k14 hm
    refine lv_tableIn (tgt := 128) (off := 127) hx hb dX6_signOf_1 (by rw [k14]; decide) (by rw [k14]; decide) (by rw [k14]; rfl) (by decide) ?_
    refine lv_bipush (v := (-36)) hx hb dX6_signOf_128 (by decide) ?_
    obtain rfl := Option.some.inj hm
    exact xret_i C hw hS dX6_signOf_130
  replace hm := ite_n k14 hm
  by_cases k15 : a1 = 55
  · replace hm := ite_p k15 hm
    refine lv_tableIn (tgt := 128) (off := 127) hx hb dX6_signOf_1 (by rw [k15]; decide) (by rw [k15]; decide) (by rw [k15]; rfl) (by decide) ?_
    refine lv_bipush (v := (-36)) hx hb dX6_signOf_128 (by decide) ?_
    obtain rfl := Option.some.inj hm
    exact xret_i C hw hS dX6_signOf_130
  replace hm := ite_n k15 hm
  by_cases k16 : a1 = 56
  · replace hm := ite_p k16 hm
    refine lv_tableIn (tgt := 128) (off := 127) hx hb dX6_signOf_1 (by rw [k16]; decide) (by rw [k16]; decide) (by rw [k16]; rfl) (by decide) ?_
    refine lv_bipush (v := (-36)) hx hb dX6_signOf_128 (by decide) ?_
    obtain rfl := Option.some.inj hm
    exact xret_i C hw hS dX6_signOf_130
  replace hm := ite_n k16 hm
  by_cases k17 : a1 = 57
  · replace hm := ite_p k17 hm
    refine lv_tableIn (tgt := 128) (off := 127) hx hb dX6_signOf_1 (by rw [k17]; decide) (by rw [k17]; decide) (by rw [k17]; rfl) (by decide) ?_
    refine lv_bipush (v := (-36)) hx hb dX6_signOf_128 (by decide) ?_
    obtain rfl := Option.some.inj hm
    exact xret_i C hw hS dX6_signOf_130
  replace hm := ite_n k17 hm
  by_cases k18 : a1 = 58
  · replace hm := ite_p k18 hm
    refine lv_tableIn (tgt := 128) (off := 127) hx hb dX6_signOf_1 (by rw [k18]; decide) (by rw [k18]; decide) (by rw [k18]; rfl) (by decide) ?_
    refine lv_bipush (v := (-36)) hx hb dX6_signOf_128 (by decide) ?_
    obtain rfl := Option.some.inj hm
    exact xret_i C hw hS dX6_signOf_130
  replace hm := ite_n k18 hm
  by_cases k19 : a1 = 59
  · replace hm := ite_p k19 hm
    refine lv_tableIn (tgt := 110) (off := 109) hx hb dX6_signOf_1 (by rw [k19]; decide) (by rw [k19]; decide) (by rw [k19]; rfl) (by decide) ?_
    refine lv_bipush (v := (-33)) hx hb dX6_signOf_110 (by decide) ?_
    obtain rfl := Option.some.inj hm
    exact xret_i C hw hS dX6_signOf_112
  replace hm := ite_n k19 hm
  by_cases k20 : a1 = 60
  · replace hm := ite_p k20 hm
    refine lv_tableIn (tgt := 122) (off := 121) hx hb dX6_signOf_1 (by rw [k20]; decide) (by rw [k20]; decide) (by rw [k20]; rfl) (by decide) ?_
    refine lv_bipush (v := (-24)) hx hb dX6_signOf_122 (by decide) ?_
    obtain rfl := Option.some.inj hm
    exact xret_i C hw hS dX6_signOf_124
  replace hm := ite_n k20 hm
  by_cases k21 : a1 = 61
  · replace hm := ite_p k21 hm
    refine lv_tableIn (tgt := 125) (off := 124) hx hb dX6_signOf_1 (by rw [k21]; decide) (by rw [k21]; decide) (by rw [k21]; rfl) (by decide) ?_
    refine lv_bipush (v := (-25)) hx hb dX6_signOf_125 (by decide) ?_
    obtain rfl := Option.some.inj hm
    exact xret_i C hw hS dX6_signOf_127
  replace hm := ite_n k21 hm
  have k0i := lv_neT k0 (a := 40) (by decide)
  have k1i := lv_neT k1 (a := 41) (by decide)
  have k2i := lv_neT k2 (a := 42) (by decide)
  have k3i := lv_neT k3 (a := 43) (by decide)
  have k4i := lv_neT k4 (a := 44) (by decide)
  have k5i := lv_neT k5 (a := 45) (by decide)
  have k6i := lv_neT k6 (a := 46) (by decide)
  have k7i := lv_neT k7 (a := 47) (by decide)
  have k8i := lv_neT k8 (a := 48) (by decide)
  have k9i := lv_neT k9 (a := 49) (by decide)
  have k10i := lv_neT k10 (a := 50) (by decide)
  have k11i := lv_neT k11 (a := 51) (by decide)
  have k12i := lv_neT k12 (a := 52) (by decide)
  have k13i := lv_neT k13 (a := 53) (by decide)
  have k14i := lv_neT k14 (a := 54) (by decide)
  have k15i := lv_neT k15 (a := 55) (by decide)
  have k16i := lv_neT k16 (a := 56) (by decide)
  have k17i := lv_neT k17 (a := 57) (by decide)
  have k18i := lv_neT k18 (a := 58) (by decide)
  have k19i := lv_neT k19 (a := 59) (by decide)
  have k20i := lv_neT k20 (a := 60) (by decide)
  have k21i := lv_neT k21 (a := 61) (by decide)
  refine lv_tableOut (tgt := 128) hx hb dX6_signOf_1 (by omega) (by decide) ?_
  refine lv_bipush (v := (-36)) hx hb dX6_signOf_128 (by decide) ?_
  obtain rfl := Option.some.inj hm
  exact xret_i C hw hS dX6_signOf_130
theorem dX6_advance_0 : decode cX6_advance 0 = .ok (.aload_n 0, 1) := by decide +kernel
theorem dX6_advance_1 : decode cX6_advance 1 = .ok (.aload_n 0, 1) := by decide +kernel
theorem dX6_advance_2 : decode cX6_advance 2 = .ok (.getfield 22, 3) := by decide +kernel
theorem dX6_advance_5 : decode cX6_advance 5 = .ok (.putfield 19, 3) := by decide +kernel
theorem dX6_advance_8 : decode cX6_advance 8 = .ok (.aload_n 0, 1) := by decide +kernel
theorem dX6_advance_9 : decode cX6_advance 9 = .ok (.getfield 19, 3) := by decide +kernel
theorem dX6_advance_12 : decode cX6_advance 12 = .ok (.aload_n 0, 1) := by decide +kernel
theorem dX6_advance_13 : decode cX6_advance 13 = .ok (.getfield 15, 3) := by decide +kernel
theorem dX6_advance_16 : decode cX6_advance 16 = .ok (.if_icmp .ge 31, 3) := by decide +kernel
theorem dX6_advance_19 : decode cX6_advance 19 = .ok (.aload_n 0, 1) := by decide +kernel
theorem dX6_advance_20 : decode cX6_advance 20 = .ok (.getfield 9, 3) := by decide +kernel
theorem dX6_advance_23 : decode cX6_advance 23 = .ok (.aload_n 0, 1) := by decide +kernel
theorem dX6_advance_24 : decode cX6_advance 24 = .ok (.getfield 19, 3) := by decide +kernel
theorem dX6_advance_27 : decode cX6_advance 27 = .ok (.caload, 1) := by decide +kernel
theorem dX6_advance_28 : decode cX6_advance 28 = .ok (.invokestatic 34, 3) := by decide +kernel
theorem dX6_advance_31 : decode cX6_advance 31 = .ok (.ifCond .eq 16, 3) := by decide +kernel
theorem dX6_advance_34 : decode cX6_advance 34 = .ok (.aload_n 0, 1) := by decide +kernel
theorem dX6_advance_35 : decode cX6_advance 35 = .ok (.dup, 1) := by decide +kernel
theorem dX6_advance_36 : decode cX6_advance 36 = .ok (.getfield 19, 3) := by decide +kernel
theorem dX6_advance_39 : decode cX6_advance 39 = .ok (.iconst 1, 1) := by decide +kernel
theorem dX6_advance_40 : decode cX6_advance 40 = .ok (.iadd, 1) := by decide +kernel
theorem dX6_advance_41 : decode cX6_advance 41 = .ok (.putfield 19, 3) := by decide +kernel
theorem dX6_advance_44 : decode cX6_advance 44 = .ok (.goto (-36), 3) := by decide +kernel
theorem dX6_advance_47 : decode cX6_advance 47 = .ok (.aload_n 0, 1) := by decide +kernel
theorem dX6_advance_48 : decode cX6_advance 48 = .ok (.aload_n 0, 1) := by decide +kernel
theorem dX6_advance_49 : decode cX6_advance 49 = .ok (.getfield 19, 3) := by decide +kernel
theorem dX6_advance_52 : decode cX6_advance 52 = .ok (.putfield 22, 3) := by decide +kernel
theorem dX6_advance_55 : decode cX6_advance 55 = .ok (.aload_n 0, 1) := by decide +kernel
theorem dX6_advance_56 : decode cX6_advance 56 = .ok (.getfield 19, 3) := by decide +kernel
theorem dX6_advance_59 : decode cX6_advance 59 = .ok (.aload_n 0, 1) := by decide +kernel
theorem dX6_advance_60 : decode cX6_advance 60 = .ok (.getfield 15, 3) := by decide +kernel
theorem dX6_advance_63 : decode cX6_advance 63 = .ok (.if_icmp .lt 12, 3) := by decide +kernel
theorem dX6_advance_66 : decode cX6_advance 66 = .ok (.aload_n 0, 1) := by decide +kernel
theorem dX6_advance_67 : decode cX6_advance 67 = .ok (.bipush (-35), 2) := by decide +kernel
theorem dX6_advance_69 : decode cX6_advance 69 = .ok (.putfield 25, 3) := by decide +kernel
theorem dX6_advance_72 : decode cX6_advance 72 = .ok (.goto 81, 3) := by decide +kernel
theorem dX6_advance_75 : decode cX6_advance 75 = .ok (.aload_n 0, 1) := by decide +kernel
theorem dX6_advance_76 : decode cX6_advance 76 = .ok (.getfield 9, 3) := by decide +kernel
theorem dX6_advance_79 : decode cX6_advance 79 = .ok (.aload_n 0, 1) := by decide +kernel
theorem dX6_advance_80 : decode cX6_advance 80 = .ok (.getfield 19, 3) := by decide +kernel
theorem dX6_advance_83 : decode cX6_advance 83 = .ok (.caload, 1) := by decide +kernel
theorem dX6_advance_84 : decode cX6_advance 84 = .ok (.invokestatic 38, 3) := by decide +kernel
theorem dX6_advance_87 : decode cX6_advance 87 = .ok (.ifCond .eq 14, 3) := by decide +kernel
theorem dX6_advance_90 : decode cX6_advance 90 = .ok (.aload_n 0, 1) := by decide +kernel
theorem dX6_advance_91 : decode cX6_advance 91 = .ok (.aload_n 0, 1) := by decide +kernel
theorem dX6_advance_92 : decode cX6_advance 92 = .ok (.invokevirtual 41, 3) := by decide +kernel
theorem dX6_advance_95 : decode cX6_advance 95 = .ok (.putfield 25, 3) := by decide +kernel
theorem dX6_advance_98 : decode cX6_advance 98 = .ok (.goto 55, 3) := by decide +kernel
theorem dX6_advance_101 : decode cX6_advance 101 = .ok (.aload_n 0, 1) := by decide +kernel
theorem dX6_advance_102 : decode cX6_advance 102 = .ok (.getfield 9, 3) := by decide +kernel
theorem dX6_advance_105 : decode cX6_advance 105 = .ok (.aload_n 0, 1) := by decide +kernel
theorem dX6_advance_106 : decode cX6_advance 106 = .ok (.getfield 19, 3) := by decide +kernel
theorem dX6_advance_109 : decode cX6_advance 109 = .ok (.caload, 1) := by decide +kernel
theorem dX6_advance_110 : decode cX6_advance 110 = .ok (.invokestatic 45, 3) := by decide +kernel
theorem dX6_advance_113 : decode cX6_advance 113 = .ok (.ifCond .eq 14, 3) := by decide +kernel
theorem dX6_advance_116 : decode cX6_advance 116 = .ok (.aload_n 0, 1) := by decide +kernel
theorem dX6_advance_117 : decode cX6_advance 117 = .ok (.aload_n 0, 1) := by decide +kernel
theorem dX6_advance_118 : decode cX6_advance 118 = .ok (.invokevirtual 48, 3) := by decide +kernel
theorem dX6_advance_121 : decode cX6_advance 121 = .ok (.putfield 25, 3) := by decide +kernel
theorem dX6_advance_124 : decode cX6_advance 124 = .ok (.goto 29, 3) := by decide +kernel
theorem dX6_advance_127 : decode cX6_advance 127 = .ok (.aload_n 0, 1) := by decide +kernel
theorem dX6_advance_128 : decode cX6_advance 128 = .ok (.aload_n 0, 1) := by decide +kernel
theorem dX6_advance_129 : decode cX6_advance 129 = .ok (.getfield 9, 3) := by decide +kernel
theorem dX6_advance_132 : decode cX6_advance 132 = .ok (.aload_n 0, 1) := by decide +kernel
theorem dX6_advance_133 : decode cX6_advance 133 = .ok (.getfield 19, 3) := by decide +kernel
theorem dX6_advance_136 : decode cX6_advance 136 = .ok (.caload, 1) := by decide +kernel
theorem dX6_advance_137 : decode cX6_advance 137 = .ok (.invokestatic 51, 3) := by decide +kernel
theorem dX6_advance_140 : decode cX6_advance 140 = .ok (.putfield 25, 3) := by decide +kernel
theorem dX6_advance_143 : decode cX6_advance 143 = .ok (.aload_n 0, 1) := by decide +kernel
theorem dX6_advance_144 : decode cX6_advance 144 = .ok (.aload_n 0, 1) := by decide +kernel
theorem dX6_advance_145 : decode cX6_advance 145 = .ok (.getfield 19, 3) := by decide +kernel
theorem dX6_advance_148 : decode cX6_advance 148 = .ok (.iconst 1, 1) := by decide +kernel
theorem dX6_advance_149 : decode cX6_advance 149 = .ok (.iadd, 1) := by decide +kernel
theorem dX6_advance_150 : decode cX6_advance 150 = .ok (.putfield 22, 3) := by decide +kernel
theorem dX6_advance_153 : decode cX6_advance 153 = .ok (.return_, 1) := by decide +kernel
theorem pX6_19 {p : Program} {l : Launch} {e : Env} {R : Room} {s : State} {m : MethodId} {args : Array Value} {below : List Frame} {meth : Method} {c : Code} {H : Heap} {locs : List Loc} {cells slots : Nat} {Q : State → Prop} {cc : ByteArray} {pc nL : Nat} {ls : Array Slot} {rest : List Value} {ret : Option FieldType} {G : xG} {β : Nat} {D : Nat → Prop} {x : XS} {v : Int32} (C : Cx p s m args meth c RX6 cc nL ret (KK G)) (hw : CW β D G x H) (hS : va_S D s.heap H locs) (hd : decode cc pc = .ok (.putfield 19, 3)) (kk : ∀ (H1 : Heap) (locs1 : List Loc), CW β D G (xsS x 4 2 v) H1 → va_S D s.heap H1 locs1 → W p l e R s m args below meth c H1 locs1 cells slots Q (F0 m (pc + 3) ls (rest))) : W p l e R s m args below meth c H locs cells slots Q (F0 m pc ls (.int v :: .ref (β + 4) :: rest)) :=
  x_put C.1 C.2.1 C.2.2.2.2.1 iwX6 tyX6 tyX6_ok nmX6 C.2.2.2.1 C.K.1 hS (hw.2.2.1 4 (by decide)) (hw.2.1 4 (by decide)) rfl 2 (by decide) (C.2.2.2.2.1 (.fieldLink RX6 19 RX6 "start" "I") (tg 40 (by decide +kernel) rfl)) (fun _ h9 => h9) rfl (ty := .int) (by decide +kernel) rfl rfl (Nat.le_of_ble_eq_true rfl) hd (fun H1 locs1 hat ho hS => kk H1 locs1 (hw.setS 4 2 v hat ho) hS)
theorem sX6_34 {p : Program} {l : Launch} {e : Env} {R : Room} {s : State} {m : MethodId} {args : Array Value} {below : List Frame} {meth : Method} {c : Code} {H : Heap} {locs : List Loc} {cells slots : Nat} {Q : State → Prop} {cc : ByteArray} {pc nL : Nat} {ls : Array Slot} {rest : List Value} {ret : Option FieldType}  {G : xG} {β : Nat} {D : Nat → Prop} {x : XS} {a1 : Int32} {r : Bool} (C : Cx p s m args meth c RX6 cc nL ret (KK G)) (h : fX6_isBlank a1 = some r) (hw : CW β D G x H) (hS : va_S D s.heap H locs) (hsz : ls.size = nL) (hW : (rest.map fun v => v.category).sum ≤ 8) (hR : 1 ≤ R.frames) (hR2 : 20 ≤ R.locals) (hcs : cells ≤ R.cells ∧ slots ≤ R.slots) (hd : decode cc pc = .ok (.invokestatic 34, 3)) (kk : ∀ (H1 : Heap) (locs1 : List Loc), CW β D G x H1 → va_S D s.heap H1 locs1 → W p l e R s m args below meth c H1 locs1 cells slots Q (F0 m (pc + 3) ls (.int (bI r) :: rest))) : W p l e R s m args below meth c H locs cells slots Q (F0 m pc ls (.int a1 :: rest)) := by
  exact xcallS C (As := [.int a1]) (rest := rest) (nA := 1) (kX6_isBlank h) (tg 224 (by decide +kernel) rfl) (tg 225 (by decide +kernel) rfl) (tg 2 (by decide +kernel) rfl) (tg 226 (by decide +kernel) rfl) ⟨by decide +kernel, by decide +kernel, by decide +kernel⟩ rfl rfl ⟨hR, hR2⟩ hw hS (fun _ q => q) rfl rfl hsz hW hd hcs (fun H1 locs1 hw hz hk hS => kk H1 locs1 hw hS)
theorem sX6_51 {p : Program} {l : Launch} {e : Env} {R : Room} {s : State} {m : MethodId} {args : Array Value} {below : List Frame} {meth : Method} {c : Code} {H : Heap} {locs : List Loc} {cells slots : Nat} {Q : State → Prop} {cc : ByteArray} {pc nL : Nat} {ls : Array Slot} {rest : List Value} {ret : Option FieldType}  {G : xG} {β : Nat} {D : Nat → Prop} {x : XS} {a1 : Int32} {r : Int32} (C : Cx p s m args meth c RX6 cc nL ret (KK G)) (h : fX6_signOf a1 = some r) (hw : CW β D G x H) (hS : va_S D s.heap H locs) (hsz : ls.size = nL) (hW : (rest.map fun v => v.category).sum ≤ 8) (hR : 1 ≤ R.frames) (hR2 : 20 ≤ R.locals) (hcs : cells ≤ R.cells ∧ slots ≤ R.slots) (hd : decode cc pc = .ok (.invokestatic 51, 3)) (kk : ∀ (H1 : Heap) (locs1 : List Loc), CW β D G x H1 → va_S D s.heap H1 locs1 → W p l e R s m args below meth c H1 locs1 cells slots Q (F0 m (pc + 3) ls (.int r :: rest))) : W p l e R s m args below meth c H locs cells slots Q (F0 m pc ls (.int a1 :: rest)) := by
  exact xcallS C (As := [.int a1]) (rest := rest) (nA := 1) (kX6_signOf h) (tg 259 (by decide +kernel) rfl) (tg 260 (by decide +kernel) rfl) (tg 2 (by decide +kernel) rfl) (tg 261 (by decide +kernel) rfl) ⟨by decide +kernel, by decide +kernel, by decide +kernel⟩ rfl rfl ⟨hR, hR2⟩ hw hS (fun _ q => q) rfl rfl hsz hW hd hcs (fun H1 locs1 hw hz hk hS => kk H1 locs1 hw hS)
theorem pX6_25 {p : Program} {l : Launch} {e : Env} {R : Room} {s : State} {m : MethodId} {args : Array Value} {below : List Frame} {meth : Method} {c : Code} {H : Heap} {locs : List Loc} {cells slots : Nat} {Q : State → Prop} {cc : ByteArray} {pc nL : Nat} {ls : Array Slot} {rest : List Value} {ret : Option FieldType} {G : xG} {β : Nat} {D : Nat → Prop} {x : XS} {v : Int32} (C : Cx p s m args meth c RX6 cc nL ret (KK G)) (hw : CW β D G x H) (hS : va_S D s.heap H locs) (hd : decode cc pc = .ok (.putfield 25, 3)) (kk : ∀ (H1 : Heap) (locs1 : List Loc), CW β D G (xsS x 4 4 v) H1 → va_S D s.heap H1 locs1 → W p l e R s m args below meth c H1 locs1 cells slots Q (F0 m (pc + 3) ls (rest))) : W p l e R s m args below meth c H locs cells slots Q (F0 m pc ls (.int v :: .ref (β + 4) :: rest)) :=
  x_put C.1 C.2.1 C.2.2.2.2.1 iwX6 tyX6 tyX6_ok nmX6 C.2.2.2.1 C.K.1 hS (hw.2.2.1 4 (by decide)) (hw.2.1 4 (by decide)) rfl 4 (by decide) (C.2.2.2.2.1 (.fieldLink RX6 25 RX6 "token" "I") (tg 43 (by decide +kernel) rfl)) (fun _ h9 => h9) rfl (ty := .int) (by decide +kernel) rfl rfl (Nat.le_of_ble_eq_true rfl) hd (fun H1 locs1 hat ho hS => kk H1 locs1 (hw.setS 4 4 v hat ho) hS)
theorem sX6_48 {p : Program} {l : Launch} {e : Env} {R : Room} {s : State} {m : MethodId} {args : Array Value} {below : List Frame} {meth : Method} {c : Code} {H : Heap} {locs : List Loc} {cells slots : Nat} {Q : State → Prop} {cc : ByteArray} {pc nL : Nat} {ls : Array Slot} {rest : List Value} {ret : Option FieldType}  {G : xG} {β : Nat} {D : Nat → Prop} {x x' : XS} {r : Int32} (C : Cx p s m args meth c RX6 cc nL ret (KK G)) (h : fX6_readNumber x = some (r, x')) (hw : CW β D G x H) (hS : va_S D s.heap H locs) (hsz : ls.size = nL) (hW : (rest.map fun v => v.category).sum ≤ 8) (hR : 2 ≤ R.frames) (hR2 : 40 ≤ R.locals) (hcs : cells ≤ R.cells ∧ slots ≤ R.slots) (hd : decode cc pc = .ok (.invokevirtual 48, 3)) (kk : ∀ (H1 : Heap) (locs1 : List Loc), CW β D G x' H1 → va_S D s.heap H1 locs1 → W p l e R s m args below meth c H1 locs1 cells slots Q (F0 m (pc + 3) ls (.int r :: rest))) : W p l e R s m args below meth c H locs cells slots Q (F0 m pc ls (.ref (β + 4) :: rest)) := by
  exact xcallV C (As := []) (rest := rest) (nA := 0) (ci := 6) (kX6_readNumber h) (tg 255 (by decide +kernel) rfl) (tg 257 (by decide +kernel) rfl) (sg (List.mem_of_getElem? (i := 2) (by decide +kernel)) rfl) (tg 2 (by decide +kernel) rfl) (tg 258 (by decide +kernel) rfl) ⟨rfl, by decide +kernel, by decide +kernel, by decide +kernel⟩ rfl rfl rfl ⟨hR, hR2⟩ (hw.2.2.1 4 (by decide)) hw hS (fun _ q => q) rfl rfl hsz hW hd hcs (fun H1 locs1 hw hz hk hS => kk H1 locs1 hw hS)
theorem sX6_41 {p : Program} {l : Launch} {e : Env} {R : Room} {s : State} {m : MethodId} {args : Array Value} {below : List Frame} {meth : Method} {c : Code} {H : Heap} {locs : List Loc} {cells slots : Nat} {Q : State → Prop} {cc : ByteArray} {pc nL : Nat} {ls : Array Slot} {rest : List Value} {ret : Option FieldType}  {G : xG} {β : Nat} {D : Nat → Prop} {x x' : XS} {r : Int32} (C : Cx p s m args meth c RX6 cc nL ret (KK G)) (h : fX6_readWord x = some (r, x')) (hw : CW β D G x H) (hS : va_S D s.heap H locs) (hsz : ls.size = nL) (hW : (rest.map fun v => v.category).sum ≤ 8) (hR : 6 ≤ R.frames) (hR2 : 127 ≤ R.locals) (hcs : cells ≤ R.cells ∧ slots ≤ R.slots) (hd : decode cc pc = .ok (.invokevirtual 41, 3)) (kk : ∀ (H1 : Heap) (locs1 : List Loc), CW β D G x' H1 → va_S D s.heap H1 locs1 → W p l e R s m args below meth c H1 locs1 cells slots Q (F0 m (pc + 3) ls (.int r :: rest))) : W p l e R s m args below meth c H locs cells slots Q (F0 m pc ls (.ref (β + 4) :: rest)) := by
  exact xcallV C (As := []) (rest := rest) (nA := 0) (ci := 6) (kX6_readWord h) (tg 230 (by decide +kernel) rfl) (tg 232 (by decide +kernel) rfl) (sg (List.mem_of_getElem? (i := 0) (by decide +kernel)) rfl) (tg 2 (by decide +kernel) rfl) (tg 233 (by decide +kernel) rfl) ⟨rfl, by decide +kernel, by decide +kernel, by decide +kernel⟩ rfl rfl rfl ⟨hR, hR2⟩ (hw.2.2.1 4 (by decide)) hw hS (fun _ q => q) rfl rfl hsz hW hd hcs (fun H1 locs1 hw hz hk hS => kk H1 locs1 hw hS)
def BX6_advance_8 (lp : XS → Option (XS)) (x : XS) : Option (XS) := if (x.1 4 1) ≤ (x.1 4 2) then some x else if ib (x.1 4 2) 160 then Option.bind (fX6_isBlank (x.2.1 5 (x.1 4 2).toNatClampNeg)) fun v3 => if v3 = true then lt (xsS x 4 2 ((x.1 4 2) + 1)) fun x5 => lp x5 else some x else none
def LX6_advance_8 : Nat → XS → Option (XS)
  | 0, _ => none
  | n + 1, x => BX6_advance_8 (LX6_advance_8 n) x
def fX6_advance (x : XS) : Option (XS) := lt (xsS x 4 2 (x.1 4 3)) fun x1 => Option.bind (LX6_advance_8 NF x1) fun x6 => lt (xsS x6 4 3 (x6.1 4 2)) fun x7 => if (x7.1 4 2) < (x7.1 4 1) then if ib (x7.1 4 2) 160 then Option.bind (fX6_isLetter (x7.2.1 5 (x7.1 4 2).toNatClampNeg)) fun v9 => if v9 = true then bind2 (fX6_readWord x7) fun v23 x24 => lt (xsS x24 4 4 v23) fun x26 => some x26 else if ib (x7.1 4 2) 160 then Option.bind (fX6_isDigit (x7.2.1 5 (x7.1 4 2).toNatClampNeg)) fun v12 => if v12 = true then bind2 (fX6_readNumber x7) fun v19 x20 => lt (xsS x20 4 4 v19) fun x22 => some x22 else if ib (x7.1 4 2) 160 then Option.bind (fX6_signOf (x7.2.1 5 (x7.1 4 2).toNatClampNeg)) fun v15 => lt (xsS x7 4 4 v15) fun x17 => lt (xsS x17 4 3 ((x17.1 4 2) + 1)) fun x18 => some x18 else none else none else none else lt (xsS x7 4 4 (-35)) fun x27 => some x27
set_option maxHeartbeats 4000000 in
set_option maxRecDepth 100000 in
theorem lX6_advance_8 {p : Program} {l : Launch} {e : Env} {R : Room} {s : State} {m : MethodId} {args : Array Value} {below : List Frame} {meth : Method} {c : Code} {cells slots : Nat} {Q : State → Prop} {G : xG} {β : Nat} {D : Nat → Prop} (C : Cx p s m args meth c RX6 cX6_advance 1 none (KK G)) (hRf : 6 ≤ R.frames) (hRl : 127 ≤ R.locals) (hcs : cells ≤ R.cells ∧ slots ≤ R.slots) (hf : Fz D G s.heap) : ∀ (n : Nat) (x : XS) (J : XS) (H : Heap) (locs : List Loc) (ls : Array Slot), LX6_advance_8 n x = some J → CW β D G x H → va_S D s.heap H locs → lv_has ls 1 [(0, .ref (β + 4))] → (∀ (x1 : XS), J = x1 → ∀ (H : Heap) (locs : List Loc) (ls : Array Slot), CW β D G x1 H → va_S D s.heap H locs → lv_has ls 1 [(0, .ref (β + 4))] → W p l e R s m args below meth c H locs cells slots Q (F0 m 47 ls [])) → W p l e R s m args below meth c H locs cells slots Q (F0 m 8 ls []) := by
  have hx := C.1
  have hb := C.2.1
  have ho := C.2.2.2.1
  have hts := C.2.2.2.2.1
  intro n
  induction n with
  | zero =>
    intro x J H locs ls hm
    exact absurd hm (by simp [LX6_advance_8])
  | succ n ih =>
    intro x J H locs ls hm hw hS hl ke
    replace hm : BX6_advance_8 (LX6_advance_8 n) x = some J := hm
    unfold BX6_advance_8 at hm
    refine lv_aload_n hx hb dX6_advance_8 rfl (lv_at hl 0 rfl) ?_
    refine gX6_19 C hw dX6_advance_9 ?_
    refine lv_aload_n hx hb dX6_advance_12 rfl (lv_at hl 0 rfl) ?_
    refine gX6_15 C hw dX6_advance_13 ?_
    refine lv_icmp_ge (tgt := 47) hx hb dX6_advance_16 (by decide) (fun cc => ?_) (fun cc => ?_)
    · replace hm := ite_p cc hm
      exact ke _ (Option.some.inj hm).symm _ _ _ hw hS (lv_sub hl [0] rfl)
    · replace hm := ite_n cc hm
      refine lv_aload_n hx hb dX6_advance_19 rfl (lv_at hl 0 rfl) ?_
      refine gX6_9 C hw dX6_advance_20 ?_
      refine lv_aload_n hx hb dX6_advance_23 rfl (lv_at hl 0 rfl) ?_
      refine gX6_19 C hw dX6_advance_24 ?_
      obtain ⟨h2, hm⟩ := chk_e hm
      refine alX_5 C hw h2 dX6_advance_27 ?_
      obtain ⟨v3, h4, hm⟩ := bind_e hm
      refine sX6_34 C h4 hw hS hl.1 (Nat.le_of_ble_eq_true rfl) (Nat.le_trans (Nat.le_of_ble_eq_true rfl) hRf) (Nat.le_trans (Nat.le_of_ble_eq_true rfl) hRl) hcs dX6_advance_28 (fun H locs hw hS => ?_)
      refine x_ifeqB hx hb dX6_advance_31 (tgt := 47) (by decide) (fun cc => ?_) (fun cc => ?_)
      · replace hm := ite_n cc hm
        exact ke _ (Option.some.inj hm).symm _ _ _ hw hS (lv_sub hl [0] rfl)
      · replace hm := ite_p cc hm
        refine lv_aload_n hx hb dX6_advance_34 rfl (lv_at hl 0 rfl) ?_
        refine lv_dup hx hb dX6_advance_35 rfl ?_
        refine gX6_19 C hw dX6_advance_36 ?_
        refine lv_iconst (v := 1) hx hb dX6_advance_39 (by decide) ?_
        refine lv_iadd hx hb dX6_advance_40 ?_
        refine pX6_19 C hw hS dX6_advance_41 (fun H locs hw hS => ?_)
        obtain ⟨x5, ev, hm⟩ := lt_e hm
        rw [← ev] at hw
        clear ev
        refine lv_goto (tgt := 8) hx hb dX6_advance_44 (by decide) ?_
        exact ih _ _ _ _ _ hm hw hS (lv_sub hl [0] rfl) ke
abbrev rmX6_advance : Room := { frames := 6, cells := 0, slots := 0, locals := 127 }
set_option maxHeartbeats 4000000 in
set_option maxRecDepth 100000 in
theorem kX6_advance {l : Launch} {G : xG} {β : Nat} {D : Nat → Prop} {x x' : XS} (hm : fX6_advance x = some x') : Met l yX6_advance (.code yX6_advance cX6_advance 1 none :: GT) rmX6_advance (PcW [.ref (β + 4)] (CW β D G x) (KK G)) (QcW D none (CW β D G x')) 0 0 D := by
  unfold fX6_advance at hm
  refine xpro (own := RX6) (by decide +kernel) rfl (Nat.le_of_ble_eq_true rfl) ?_
  intro p e s m args below meth c C hw ls hl
  have hx := C.1
  have hb := C.2.1
  have ho := C.2.2.2.1
  have hts := C.2.2.2.2.1
  have hf : Fz D G s.heap := hw.2.2.2.2
  have hS : va_S D s.heap s.heap [] := va_S.rf
  have hl : lv_has ls 1 [(0, .ref (β + 4))] := hl
  have hRf : 6 ≤ rmX6_advance.frames := Nat.le_refl _
  have hRl : 127 ≤ rmX6_advance.locals := Nat.le_refl _
  have hcs : 0 ≤ rmX6_advance.cells ∧ 0 ≤ rmX6_advance.slots := ⟨Nat.le_refl _, Nat.le_refl _⟩
  refine lv_aload_n hx hb dX6_advance_0 rfl (lv_at hl 0 rfl) ?_
  refine lv_aload_n hx hb dX6_advance_1 rfl (lv_at hl 0 rfl) ?_
  refine gX6_22 C hw dX6_advance_2 ?_
  refine pX6_19 C hw hS dX6_advance_5 (fun H locs hw hS => ?_)
  obtain ⟨x1, ev, hm⟩ := lt_e hm
  rw [← ev] at hw
  clear ev
  obtain ⟨x6, hj, hm⟩ := bind_e hm
  refine lX6_advance_8 C hRf hRl hcs hf NF _ _ _ _ _ hj hw hS (lv_sub hl [0] rfl) (fun x6_ e0 H locs ls hw hS hl => ?_)
  cases e0
  refine lv_aload_n hx hb dX6_advance_47 rfl (lv_at hl 0 rfl) ?_
  refine lv_aload_n hx hb dX6_advance_48 rfl (lv_at hl 0 rfl) ?_
  refine gX6_19 C hw dX6_advance_49 ?_
  refine pX6_22 C hw hS dX6_advance_52 (fun H locs hw hS => ?_)
  obtain ⟨x7, ev, hm⟩ := lt_e hm
  rw [← ev] at hw
  clear ev
  refine lv_aload_n hx hb dX6_advance_55 rfl (lv_at hl 0 rfl) ?_
  refine gX6_19 C hw dX6_advance_56 ?_
  refine lv_aload_n hx hb dX6_advance_59 rfl (lv_at hl 0 rfl) ?_
  refine gX6_15 C hw dX6_advance_60 ?_
  refine lv_icmp_lt (tgt := 75) hx hb dX6_advance_63 (by decide) (fun cc => ?_) (fun cc => ?_)
  · replace hm := ite_p cc hm
    refine lv_aload_n hx hb dX6_advance_75 rfl (lv_at hl 0 rfl) ?_
    refine gX6_9 C hw dX6_advance_76 ?_
    refine lv_aload_n hx hb dX6_advance_79 rfl (lv_at hl 0 rfl) ?_
    refine gX6_19 C hw dX6_advance_80 ?_
    obtain ⟨h8, hm⟩ := chk_e hm
    refine alX_5 C hw h8 dX6_advance_83 ?_
    obtain ⟨v9, h10, hm⟩ := bind_e hm
    refine sX6_38 C h10 hw hS hl.1 (Nat.le_of_ble_eq_true rfl) (Nat.le_trans (Nat.le_of_ble_eq_true rfl) hRf) (Nat.le_trans (Nat.le_of_ble_eq_true rfl) hRl) hcs dX6_advance_84 (fun H locs hw hS => ?_)
    refine x_ifeqB hx hb dX6_advance_87 (tgt := 101) (by decide) (fun cc => ?_) (fun cc => ?_)
    · replace hm := ite_n cc hm
      refine lv_aload_n hx hb dX6_advance_101 rfl (lv_at hl 0 rfl) ?_
      refine gX6_9 C hw dX6_advance_102 ?_
      refine lv_aload_n hx hb dX6_advance_105 rfl (lv_at hl 0 rfl) ?_
      refine gX6_19 C hw dX6_advance_106 ?_
      obtain ⟨h11, hm⟩ := chk_e hm
      refine alX_5 C hw h11 dX6_advance_109 ?_
      obtain ⟨v12, h13, hm⟩ := bind_e hm
      refine sX6_45 C h13 hw hS hl.1 (Nat.le_of_ble_eq_true rfl) (Nat.le_trans (Nat.le_of_ble_eq_true rfl) hRf) (Nat.le_trans (Nat.le_of_ble_eq_true rfl) hRl) hcs dX6_advance_110 (fun H locs hw hS => ?_)
      refine x_ifeqB hx hb dX6_advance_113 (tgt := 127) (by decide) (fun cc => ?_) (fun cc => ?_)
      · replace hm := ite_n cc hm
        refine lv_aload_n hx hb dX6_advance_127 rfl (lv_at hl 0 rfl) ?_
        refine lv_aload_n hx hb dX6_advance_128 rfl (lv_at hl 0 rfl) ?_
        refine gX6_9 C hw dX6_advance_129 ?_
        refine lv_aload_n hx hb dX6_advance_132 rfl (lv_at hl 0 rfl) ?_
        refine gX6_19 C hw dX6_advance_133 ?_
        obtain ⟨h14, hm⟩ := chk_e hm
        refine alX_5 C hw h14 dX6_advance_136 ?_
        obtain ⟨v15, h16, hm⟩ := bind_e hm
        refine sX6_51 C h16 hw hS hl.1 (Nat.le_of_ble_eq_true rfl) (Nat.le_trans (Nat.le_of_ble_eq_true rfl) hRf) (Nat.le_trans (Nat.le_of_ble_eq_true rfl) hRl) hcs dX6_advance_137 (fun H locs hw hS => ?_)
        refine pX6_25 C hw hS dX6_advance_140 (fun H locs hw hS => ?_)
        obtain ⟨x17, ev, hm⟩ := lt_e hm
        rw [← ev] at hw
        clear ev
        refine lv_aload_n hx hb dX6_advance_143 rfl (lv_at hl 0 rfl) ?_
        refine lv_aload_n hx hb dX6_advance_144 rfl (lv_at hl 0 rfl) ?_
        refine gX6_19 C hw dX6_advance_145 ?_
        refine lv_iconst (v := 1) hx hb dX6_advance_148 (by decide) ?_
        refine lv_iadd hx hb dX6_advance_149 ?_
        refine pX6_22 C hw hS dX6_advance_150 (fun H locs hw hS => ?_)
        obtain ⟨x18, ev, hm⟩ := lt_e hm
        rw [← ev] at hw
        clear ev
        obtain rfl := Option.some.inj hm
        exact xret_v C hw hS dX6_advance_153
      · replace hm := ite_p cc hm
        refine lv_aload_n hx hb dX6_advance_116 rfl (lv_at hl 0 rfl) ?_
        refine lv_aload_n hx hb dX6_advance_117 rfl (lv_at hl 0 rfl) ?_
        obtain ⟨v19, x20, h21, hm⟩ := bind2_e hm
        refine sX6_48 C h21 hw hS hl.1 (Nat.le_of_ble_eq_true rfl) (Nat.le_trans (Nat.le_of_ble_eq_true rfl) hRf) (Nat.le_trans (Nat.le_of_ble_eq_true rfl) hRl) hcs dX6_advance_118 (fun H locs hw hS => ?_)
        refine pX6_25 C hw hS dX6_advance_121 (fun H locs hw hS => ?_)
        obtain ⟨x22, ev, hm⟩ := lt_e hm
        rw [← ev] at hw
        clear ev
        refine lv_goto (tgt := 153) hx hb dX6_advance_124 (by decide) ?_
        obtain rfl := Option.some.inj hm
        exact xret_v C hw hS dX6_advance_153
    · replace hm := ite_p cc hm
      refine lv_aload_n hx hb dX6_advance_90 rfl (lv_at hl 0 rfl) ?_
      refine lv_aload_n hx hb dX6_advance_91 rfl (lv_at hl 0 rfl) ?_
      obtain ⟨v23, x24, h25, hm⟩ := bind2_e hm
      refine sX6_41 C h25 hw hS hl.1 (Nat.le_of_ble_eq_true rfl) (Nat.le_trans (Nat.le_of_ble_eq_true rfl) hRf) (Nat.le_trans (Nat.le_of_ble_eq_true rfl) hRl) hcs dX6_advance_92 (fun H locs hw hS => ?_)
      refine pX6_25 C hw hS dX6_advance_95 (fun H locs hw hS => ?_)
      obtain ⟨x26, ev, hm⟩ := lt_e hm
      rw [← ev] at hw
      clear ev
      refine lv_goto (tgt := 153) hx hb dX6_advance_98 (by decide) ?_
      obtain rfl := Option.some.inj hm
      exact xret_v C hw hS dX6_advance_153
  · replace hm := ite_n cc hm
    refine lv_aload_n hx hb dX6_advance_66 rfl (lv_at hl 0 rfl) ?_
    refine lv_bipush (v := (-35)) hx hb dX6_advance_67 (by decide) ?_
    refine pX6_25 C hw hS dX6_advance_69 (fun H locs hw hS => ?_)
    obtain ⟨x27, ev, hm⟩ := lt_e hm
    rw [← ev] at hw
    clear ev
    refine lv_goto (tgt := 153) hx hb dX6_advance_72 (by decide) ?_
    obtain rfl := Option.some.inj hm
    exact xret_v C hw hS dX6_advance_153
theorem dX4_passes_0 : decode cX4_passes 0 = .ok (.aload_n 0, 1) := by decide +kernel
theorem dX4_passes_1 : decode cX4_passes 1 = .ok (.getfield 22, 3) := by decide +kernel
theorem dX4_passes_4 : decode cX4_passes 4 = .ok (.getfield 35, 3) := by decide +kernel
theorem dX4_passes_7 : decode cX4_passes 7 = .ok (.iload_n 1, 1) := by decide +kernel
theorem dX4_passes_8 : decode cX4_passes 8 = .ok (.if_icmp .eq 5, 3) := by decide +kernel
theorem dX4_passes_11 : decode cX4_passes 11 = .ok (.iconst 0, 1) := by decide +kernel
theorem dX4_passes_12 : decode cX4_passes 12 = .ok (.ireturn, 1) := by decide +kernel
theorem dX4_passes_13 : decode cX4_passes 13 = .ok (.aload_n 0, 1) := by decide +kernel
theorem dX4_passes_14 : decode cX4_passes 14 = .ok (.getfield 22, 3) := by decide +kernel
theorem dX4_passes_17 : decode cX4_passes 17 = .ok (.invokevirtual 59, 3) := by decide +kernel
theorem dX4_passes_20 : decode cX4_passes 20 = .ok (.iconst 1, 1) := by decide +kernel
theorem dX4_passes_21 : decode cX4_passes 21 = .ok (.ireturn, 1) := by decide +kernel
theorem iwX4 : ∀ w ∈ u_ws RX4 TX4 4, w ∈ GT := in_tb [72, 74, 76, 78] (by decide +kernel) (by decide +kernel)
theorem gX4_22 {p : Program} {l : Launch} {e : Env} {R : Room} {s : State} {m : MethodId} {args : Array Value} {below : List Frame} {meth : Method} {c : Code} {H : Heap} {locs : List Loc} {cells slots : Nat} {Q : State → Prop} {cc : ByteArray} {pc nL : Nat} {ls : Array Slot} {rest : List Value} {ret : Option FieldType} {G : xG} {β : Nat} {D : Nat → Prop} {x : XS} (C : Cx p s m args meth c RX4 cc nL ret (KK G)) (hw : CW β D G x H) (hd : decode cc pc = .ok (.getfield 22, 3)) (kk : W p l e R s m args below meth c H locs cells slots Q (F0 m (pc + 3) ls (.ref (β + 4) :: rest))) : W p l e R s m args below meth c H locs cells slots Q (F0 m pc ls (.ref (β + 6) :: rest)) :=
  va_get C.1 C.2.1 C.2.2.2.2.1 iwX4 C.2.2.2.1 C.K.1 (xP1 (hw.2.2.1 6 (by decide))) 0 rfl rfl 0 (by decide) (C.2.2.2.2.1 (.fieldLink RX4 22 RX4 "tape" "LAtThePost$Tape;") (tg 68 (by decide +kernel) rfl)) (fun _ h9 => h9) rfl hd kk
theorem gX4_35 {p : Program} {l : Launch} {e : Env} {R : Room} {s : State} {m : MethodId} {args : Array Value} {below : List Frame} {meth : Method} {c : Code} {H : Heap} {locs : List Loc} {cells slots : Nat} {Q : State → Prop} {cc : ByteArray} {pc nL : Nat} {ls : Array Slot} {rest : List Value} {ret : Option FieldType} {G : xG} {β : Nat} {D : Nat → Prop} {x : XS} (C : Cx p s m args meth c RX4 cc nL ret (KK G)) (hw : CW β D G x H) (hd : decode cc pc = .ok (.getfield 35, 3)) (kk : W p l e R s m args below meth c H locs cells slots Q (F0 m (pc + 3) ls (.int (x.1 4 4) :: rest))) : W p l e R s m args below meth c H locs cells slots Q (F0 m pc ls (.ref (β + 4) :: rest)) :=
  va_getN C.1 C.2.1 C.2.2.2.2.1 iwX6 C.2.2.2.1 C.K.1 (xP1 (hw.2.2.1 4 (by decide))) 0 rfl rfl 4 (by decide) (va_Nw.use (w := .fieldLinkNest RX4 35 RX6 "token" "I" "AtThePost") rfl (C.K.2.1 (RX4, 35, RX6, "token", "I") (List.mem_of_getElem? (i := 2) rfl))) (fun _ h9 => h9) rfl hd kk
theorem sX4_59 {p : Program} {l : Launch} {e : Env} {R : Room} {s : State} {m : MethodId} {args : Array Value} {below : List Frame} {meth : Method} {c : Code} {H : Heap} {locs : List Loc} {cells slots : Nat} {Q : State → Prop} {cc : ByteArray} {pc nL : Nat} {ls : Array Slot} {rest : List Value} {ret : Option FieldType}  {G : xG} {β : Nat} {D : Nat → Prop} {x x' : XS} (C : Cx p s m args meth c RX4 cc nL ret (KK G)) (h : fX6_advance x = some x') (hw : CW β D G x H) (hS : va_S D s.heap H locs) (hsz : ls.size = nL) (hW : (rest.map fun v => v.category).sum ≤ 8) (hR : 7 ≤ R.frames) (hR2 : 147 ≤ R.locals) (hcs : cells ≤ R.cells ∧ slots ≤ R.slots) (hd : decode cc pc = .ok (.invokevirtual 59, 3)) (kk : ∀ (H1 : Heap) (locs1 : List Loc), CW β D G x' H1 → va_S D s.heap H1 locs1 → W p l e R s m args below meth c H1 locs1 cells slots Q (F0 m (pc + 3) ls (rest))) : W p l e R s m args below meth c H locs cells slots Q (F0 m pc ls (.ref (β + 4) :: rest)) := by
  exact xcallV C (As := []) (rest := rest) (nA := 0) (ci := 6) (kX6_advance h) (tg 270 (by decide +kernel) rfl) (tg 221 (by decide +kernel) rfl) (tg 222 (by decide +kernel) rfl) (tg 2 (by decide +kernel) rfl) (tg 223 (by decide +kernel) rfl) ⟨rfl, by decide +kernel, by decide +kernel, by decide +kernel⟩ rfl rfl rfl ⟨hR, hR2⟩ (hw.2.2.1 4 (by decide)) hw hS (fun _ q => q) rfl rfl hsz hW hd hcs (fun H1 locs1 hw hz hk hS => kk H1 locs1 hw hS)
def fX4_passes (x : XS) (a1 : Int32) : Option (Bool × XS) := if (x.1 4 4) = a1 then Option.bind (fX6_advance x) fun x1 => some (true, x1) else some (false, x)
abbrev rmX4_passes : Room := { frames := 7, cells := 0, slots := 0, locals := 147 }
set_option maxHeartbeats 4000000 in
set_option maxRecDepth 100000 in
theorem kX4_passes {l : Launch} {G : xG} {β : Nat} {D : Nat → Prop} {x x' : XS} {a1 : Int32} {r : Bool} (hm : fX4_passes x a1 = some (r, x')) : Met l yX4_passes (.code yX4_passes cX4_passes 2 (some .boolean) :: GT) rmX4_passes (PcW [.ref (β + 6), .int a1] (CW β D G x) (KK G)) (QcW D (some (.int (bI r))) (CW β D G x')) 0 0 D := by
  unfold fX4_passes at hm
  refine xpro (own := RX4) (by decide +kernel) rfl (Nat.le_of_ble_eq_true rfl) ?_
  intro p e s m args below meth c C hw ls hl
  have hx := C.1
  have hb := C.2.1
  have ho := C.2.2.2.1
  have hts := C.2.2.2.2.1
  have hf : Fz D G s.heap := hw.2.2.2.2
  have hS : va_S D s.heap s.heap [] := va_S.rf
  have hl : lv_has ls 2 [(0, .ref (β + 6)), (1, .int a1)] := hl
  have hRf : 7 ≤ rmX4_passes.frames := Nat.le_refl _
  have hRl : 147 ≤ rmX4_passes.locals := Nat.le_refl _
  have hcs : 0 ≤ rmX4_passes.cells ∧ 0 ≤ rmX4_passes.slots := ⟨Nat.le_refl _, Nat.le_refl _⟩
  refine lv_aload_n hx hb dX4_passes_0 rfl (lv_at hl 0 rfl) ?_
  refine gX4_22 C hw dX4_passes_1 ?_
  refine gX4_35 C hw dX4_passes_4 ?_
  refine lv_iload_n hx hb dX4_passes_7 rfl (lv_at hl 1 rfl) ?_
  refine lv_icmp_eq (tgt := 13) hx hb dX4_passes_8 (by decide) (fun cc => ?_) (fun cc => ?_)
  · replace hm := ite_p cc hm
    refine lv_aload_n hx hb dX4_passes_13 rfl (lv_at hl 0 rfl) ?_
    refine gX4_22 C hw dX4_passes_14 ?_
    obtain ⟨x1, h2, hm⟩ := bind_e hm
    refine sX4_59 C h2 hw hS hl.1 (Nat.le_of_ble_eq_true rfl) (Nat.le_trans (Nat.le_of_ble_eq_true rfl) hRf) (Nat.le_trans (Nat.le_of_ble_eq_true rfl) hRl) hcs dX4_passes_17 (fun H locs hw hS => ?_)
    refine lv_iconst (v := 1) hx hb dX4_passes_20 (by decide) ?_
    obtain ⟨rfl, rfl⟩ := inj2 hm
    exact xret_z (v := bI true) C (bI_nar _) hw hS dX4_passes_21
  · replace hm := ite_n cc hm
    refine lv_iconst (v := 0) hx hb dX4_passes_11 (by decide) ?_
    obtain ⟨rfl, rfl⟩ := inj2 hm
    exact xret_z (v := bI false) C (bI_nar _) hw hS dX4_passes_12
theorem dX4_write_0 : decode cX4_write 0 = .ok (.aload_n 0, 1) := by decide +kernel
theorem dX4_write_1 : decode cX4_write 1 = .ok (.getfield 18, 3) := by decide +kernel
theorem dX4_write_4 : decode cX4_write 4 = .ok (.aload_n 0, 1) := by decide +kernel
theorem dX4_write_5 : decode cX4_write 5 = .ok (.getfield 9, 3) := by decide +kernel
theorem dX4_write_8 : decode cX4_write 8 = .ok (.arraylength, 1) := by decide +kernel
theorem dX4_write_9 : decode cX4_write 9 = .ok (.if_icmp .ge 23, 3) := by decide +kernel
theorem dX4_write_12 : decode cX4_write 12 = .ok (.aload_n 0, 1) := by decide +kernel
theorem dX4_write_13 : decode cX4_write 13 = .ok (.getfield 9, 3) := by decide +kernel
theorem dX4_write_16 : decode cX4_write 16 = .ok (.aload_n 0, 1) := by decide +kernel
theorem dX4_write_17 : decode cX4_write 17 = .ok (.getfield 18, 3) := by decide +kernel
theorem dX4_write_20 : decode cX4_write 20 = .ok (.iload_n 1, 1) := by decide +kernel
theorem dX4_write_21 : decode cX4_write 21 = .ok (.iastore, 1) := by decide +kernel
theorem dX4_write_22 : decode cX4_write 22 = .ok (.aload_n 0, 1) := by decide +kernel
theorem dX4_write_23 : decode cX4_write 23 = .ok (.dup, 1) := by decide +kernel
theorem dX4_write_24 : decode cX4_write 24 = .ok (.getfield 18, 3) := by decide +kernel
theorem dX4_write_27 : decode cX4_write 27 = .ok (.iconst 1, 1) := by decide +kernel
theorem dX4_write_28 : decode cX4_write 28 = .ok (.iadd, 1) := by decide +kernel
theorem dX4_write_29 : decode cX4_write 29 = .ok (.putfield 18, 3) := by decide +kernel
theorem dX4_write_32 : decode cX4_write 32 = .ok (.return_, 1) := by decide +kernel
theorem gX4_18 {p : Program} {l : Launch} {e : Env} {R : Room} {s : State} {m : MethodId} {args : Array Value} {below : List Frame} {meth : Method} {c : Code} {H : Heap} {locs : List Loc} {cells slots : Nat} {Q : State → Prop} {cc : ByteArray} {pc nL : Nat} {ls : Array Slot} {rest : List Value} {ret : Option FieldType} {G : xG} {β : Nat} {D : Nat → Prop} {x : XS} (C : Cx p s m args meth c RX4 cc nL ret (KK G)) (hw : CW β D G x H) (hd : decode cc pc = .ok (.getfield 18, 3)) (kk : W p l e R s m args below meth c H locs cells slots Q (F0 m (pc + 3) ls (.int (x.1 6 3) :: rest))) : W p l e R s m args below meth c H locs cells slots Q (F0 m pc ls (.ref (β + 6) :: rest)) :=
  va_get C.1 C.2.1 C.2.2.2.2.1 iwX4 C.2.2.2.1 C.K.1 (xP1 (hw.2.2.1 6 (by decide))) 0 rfl rfl 3 (by decide) (C.2.2.2.2.1 (.fieldLink RX4 18 RX4 "length" "I") (tg 71 (by decide +kernel) rfl)) (fun _ h9 => h9) rfl hd kk
theorem gX4_9 {p : Program} {l : Launch} {e : Env} {R : Room} {s : State} {m : MethodId} {args : Array Value} {below : List Frame} {meth : Method} {c : Code} {H : Heap} {locs : List Loc} {cells slots : Nat} {Q : State → Prop} {cc : ByteArray} {pc nL : Nat} {ls : Array Slot} {rest : List Value} {ret : Option FieldType} {G : xG} {β : Nat} {D : Nat → Prop} {x : XS} (C : Cx p s m args meth c RX4 cc nL ret (KK G)) (hw : CW β D G x H) (hd : decode cc pc = .ok (.getfield 9, 3)) (kk : W p l e R s m args below meth c H locs cells slots Q (F0 m (pc + 3) ls (.ref (β + 7) :: rest))) : W p l e R s m args below meth c H locs cells slots Q (F0 m pc ls (.ref (β + 6) :: rest)) :=
  va_get C.1 C.2.1 C.2.2.2.2.1 iwX4 C.2.2.2.1 C.K.1 (xP1 (hw.2.2.1 6 (by decide))) 0 rfl rfl 1 (by decide) (C.2.2.2.2.1 (.fieldLink RX4 9 RX4 "code" "[I") (tg 69 (by decide +kernel) rfl)) (fun _ h9 => h9) rfl hd kk
theorem anX_7 {p : Program} {l : Launch} {e : Env} {R : Room} {s : State} {m : MethodId} {args : Array Value} {below : List Frame} {meth : Method} {c : Code} {H : Heap} {locs : List Loc} {cells slots : Nat} {Q : State → Prop} {cc : ByteArray} {pc nL : Nat} {ls : Array Slot} {rest : List Value} {ret : Option FieldType} {G : xG} {β : Nat} {D : Nat → Prop} {x : XS} {own : String} (C : Cx p s m args meth c own cc nL ret (KK G)) (hw : CW β D G x H) (hd : decode cc pc = .ok (.arraylength, 1)) (kk : W p l e R s m args below meth c H locs cells slots Q (F0 m (pc + 1) ls (.int 160 :: rest))) : W p l e R s m args below meth c H locs cells slots Q (F0 m pc ls (.ref (β + 7) :: rest)) :=
  va_alen C.1 C.2.1 C.K.1 (xP1 (hw.2.2.1 7 (by decide))) 0 0 rfl rfl rfl hd kk
theorem asX_7 {p : Program} {l : Launch} {e : Env} {R : Room} {s : State} {m : MethodId} {args : Array Value} {below : List Frame} {meth : Method} {c : Code} {H : Heap} {locs : List Loc} {cells slots : Nat} {Q : State → Prop} {cc : ByteArray} {pc nL : Nat} {ls : Array Slot} {rest : List Value} {ret : Option FieldType} {G : xG} {β : Nat} {D : Nat → Prop} {x : XS} {own : String} {i : Int32} {v : Int32} (C : Cx p s m args meth c own cc nL ret (KK G)) (hw : CW β D G x H) (hS : va_S D s.heap H locs) (hin : ib i 160) (hd : decode cc pc = .ok (.iastore, 1)) (kk : ∀ (H1 : Heap) (locs1 : List Loc), CW β D G (xsA x 7 i.toNatClampNeg v) H1 → va_S D s.heap H1 locs1 → W p l e R s m args below meth c H1 locs1 cells slots Q (F0 m (pc + 1) ls (rest))) : W p l e R s m args below meth c H locs cells slots Q (F0 m pc ls (.int v :: .int i :: .ref (β + 7) :: rest)) :=
  x_iast C.1 C.2.1 C.K.1 hS 0 (hw.2.2.1 7 (by decide)) (hw.2.1 7 (by decide)) rfl hin hd (fun H1 locs1 hat ho hS => kk H1 locs1 (hw.setA 7 _ _ hat ho) hS)
theorem pX4_18 {p : Program} {l : Launch} {e : Env} {R : Room} {s : State} {m : MethodId} {args : Array Value} {below : List Frame} {meth : Method} {c : Code} {H : Heap} {locs : List Loc} {cells slots : Nat} {Q : State → Prop} {cc : ByteArray} {pc nL : Nat} {ls : Array Slot} {rest : List Value} {ret : Option FieldType} {G : xG} {β : Nat} {D : Nat → Prop} {x : XS} {v : Int32} (C : Cx p s m args meth c RX4 cc nL ret (KK G)) (hw : CW β D G x H) (hS : va_S D s.heap H locs) (hd : decode cc pc = .ok (.putfield 18, 3)) (kk : ∀ (H1 : Heap) (locs1 : List Loc), CW β D G (xsS x 6 3 v) H1 → va_S D s.heap H1 locs1 → W p l e R s m args below meth c H1 locs1 cells slots Q (F0 m (pc + 3) ls (rest))) : W p l e R s m args below meth c H locs cells slots Q (F0 m pc ls (.int v :: .ref (β + 6) :: rest)) :=
  x_put C.1 C.2.1 C.2.2.2.2.1 iwX4 tyX4 tyX4_ok nmX4 C.2.2.2.1 C.K.1 hS (hw.2.2.1 6 (by decide)) (hw.2.1 6 (by decide)) rfl 3 (by decide) (C.2.2.2.2.1 (.fieldLink RX4 18 RX4 "length" "I") (tg 71 (by decide +kernel) rfl)) (fun _ h9 => h9) rfl (ty := .int) (by decide +kernel) rfl rfl (Nat.le_of_ble_eq_true rfl) hd (fun H1 locs1 hat ho hS => kk H1 locs1 (hw.setS 6 3 v hat ho) hS)
def fX4_write (x : XS) (a1 : Int32) : Option (XS) := if 160 ≤ (x.1 6 3) then some x else if ib (x.1 6 3) 160 then lt (xsA x 7 (x.1 6 3).toNatClampNeg a1) fun x2 => lt (xsS x2 6 3 ((x2.1 6 3) + 1)) fun x3 => some x3 else none
abbrev rmX4_write : Room := { frames := 0, cells := 0, slots := 0, locals := 0 }
set_option maxHeartbeats 4000000 in
set_option maxRecDepth 100000 in
theorem kX4_write {l : Launch} {G : xG} {β : Nat} {D : Nat → Prop} {x x' : XS} {a1 : Int32} (hm : fX4_write x a1 = some x') : Met l yX4_write (.code yX4_write cX4_write 2 none :: GT) rmX4_write (PcW [.ref (β + 6), .int a1] (CW β D G x) (KK G)) (QcW D none (CW β D G x')) 0 0 D := by
  unfold fX4_write at hm
  refine xpro (own := RX4) (by decide +kernel) rfl (Nat.le_of_ble_eq_true rfl) ?_
  intro p e s m args below meth c C hw ls hl
  have hx := C.1
  have hb := C.2.1
  have ho := C.2.2.2.1
  have hts := C.2.2.2.2.1
  have hf : Fz D G s.heap := hw.2.2.2.2
  have hS : va_S D s.heap s.heap [] := va_S.rf
  have hl : lv_has ls 2 [(0, .ref (β + 6)), (1, .int a1)] := hl
  have hRf : 0 ≤ rmX4_write.frames := Nat.le_refl _
  have hRl : 0 ≤ rmX4_write.locals := Nat.le_refl _
  have hcs : 0 ≤ rmX4_write.cells ∧ 0 ≤ rmX4_write.slots := ⟨Nat.le_refl _, Nat.le_refl _⟩
  refine lv_aload_n hx hb dX4_write_0 rfl (lv_at hl 0 rfl) ?_
  refine gX4_18 C hw dX4_write_1 ?_
  refine lv_aload_n hx hb dX4_write_4 rfl (lv_at hl 0 rfl) ?_
  refine gX4_9 C hw dX4_write_5 ?_
  refine anX_7 C hw dX4_write_8 ?_
  refine lv_icmp_ge (tgt := 32) hx hb dX4_write_9 (by decide) (fun cc => ?_) (fun cc => ?_)
  · replace hm := ite_p cc hm
    obtain rfl := Option.some.inj hm
    exact xret_v C hw hS dX4_write_32
  · replace hm := ite_n cc hm
    refine lv_aload_n hx hb dX4_write_12 rfl (lv_at hl 0 rfl) ?_
    refine gX4_9 C hw dX4_write_13 ?_
    refine lv_aload_n hx hb dX4_write_16 rfl (lv_at hl 0 rfl) ?_
    refine gX4_18 C hw dX4_write_17 ?_
    refine lv_iload_n hx hb dX4_write_20 rfl (lv_at hl 1 rfl) ?_
    obtain ⟨h1, hm⟩ := chk_e hm
    refine asX_7 C hw hS h1 dX4_write_21 (fun H locs hw hS => ?_)
    obtain ⟨x2, ev, hm⟩ := lt_e hm
    rw [← ev] at hw
    clear ev
    refine lv_aload_n hx hb dX4_write_22 rfl (lv_at hl 0 rfl) ?_
    refine lv_dup hx hb dX4_write_23 rfl ?_
    refine gX4_18 C hw dX4_write_24 ?_
    refine lv_iconst (v := 1) hx hb dX4_write_27 (by decide) ?_
    refine lv_iadd hx hb dX4_write_28 ?_
    refine pX4_18 C hw hS dX4_write_29 (fun H locs hw hS => ?_)
    obtain ⟨x3, ev, hm⟩ := lt_e hm
    rw [← ev] at hw
    clear ev
    obtain rfl := Option.some.inj hm
    exact xret_v C hw hS dX4_write_32
theorem dX5_narrowed_0 : decode cX5_narrowed 0 = .ok (.aload_n 0, 1) := by decide +kernel
theorem dX5_narrowed_1 : decode cX5_narrowed 1 = .ok (.getfield 7, 3) := by decide +kernel
theorem dX5_narrowed_4 : decode cX5_narrowed 4 = .ok (.ifCond .ne 6, 3) := by decide +kernel
theorem dX5_narrowed_7 : decode cX5_narrowed 7 = .ok (.iload_n 1, 1) := by decide +kernel
theorem dX5_narrowed_8 : decode cX5_narrowed 8 = .ok (.i2b, 1) := by decide +kernel
theorem dX5_narrowed_9 : decode cX5_narrowed 9 = .ok (.ireturn, 1) := by decide +kernel
theorem dX5_narrowed_10 : decode cX5_narrowed 10 = .ok (.aload_n 0, 1) := by decide +kernel
theorem dX5_narrowed_11 : decode cX5_narrowed 11 = .ok (.getfield 7, 3) := by decide +kernel
theorem dX5_narrowed_14 : decode cX5_narrowed 14 = .ok (.iconst 1, 1) := by decide +kernel
theorem dX5_narrowed_15 : decode cX5_narrowed 15 = .ok (.if_icmp .ne 8, 3) := by decide +kernel
theorem dX5_narrowed_18 : decode cX5_narrowed 18 = .ok (.iload_n 1, 1) := by decide +kernel
theorem dX5_narrowed_19 : decode cX5_narrowed 19 = .ok (.i2s, 1) := by decide +kernel
theorem dX5_narrowed_20 : decode cX5_narrowed 20 = .ok (.goto 4, 3) := by decide +kernel
theorem dX5_narrowed_23 : decode cX5_narrowed 23 = .ok (.iload_n 1, 1) := by decide +kernel
theorem dX5_narrowed_24 : decode cX5_narrowed 24 = .ok (.ireturn, 1) := by decide +kernel
theorem iwX5 : ∀ w ∈ u_ws RX5 TX5 2, w ∈ GT := in_tb [864, 866] (by decide +kernel) (by decide +kernel)
theorem gdX5_7 {p : Program} {l : Launch} {e : Env} {R : Room} {s : State} {m : MethodId} {args : Array Value} {below : List Frame} {meth : Method} {c : Code} {H : Heap} {locs : List Loc} {cells slots : Nat} {Q : State → Prop} {cc : ByteArray} {pc nL : Nat} {ls : Array Slot} {rest : List Value} {ret : Option FieldType}  {G : xG} {β : Nat} {D : Nat → Prop} {x : XS} {a : Nat} {v : Int32} (C : Cx p s m args meth c RX5 cc nL ret (KK G)) (h : dI x a 5 0 = some v) (hw : CW β D G x H) (hd : decode cc pc = .ok (.getfield 7, 3)) (kk : W p l e R s m args below meth c H locs cells slots Q (F0 m (pc + 3) ls (.int v :: rest))) : W p l e R s m args below meth c H locs cells slots Q (F0 m pc ls (.ref a :: rest)) := by
  obtain ⟨fs, h1, h2⟩ := dI_e h
  exact va_get (ci := 5) (fs := fs) C.1 C.2.1 C.2.2.2.2.1 iwX5 C.2.2.2.1 C.K.1 (xP1 (hw.2.2.2.1 a _ h1).2.2.2) 0 rfl rfl 0 (by decide) (C.2.2.2.2.1 (.fieldLink RX5 7 RX5 "sort" "I") (tg 860 (by decide +kernel) rfl)) (fun _ h9 => h9) h2 hd kk
def fX5_narrowed (x : XS) (a0 : Nat) (a1 : Int32) : Option (Int32) := Option.bind (dI x a0 5 0) fun v1 => if v1 = 0 then some (a1.toInt8.toInt32) else Option.bind (dI x a0 5 0) fun v3 => if v3 = 1 then some (a1.toInt16.toInt32) else some a1
abbrev rmX5_narrowed : Room := { frames := 0, cells := 0, slots := 0, locals := 0 }
set_option maxHeartbeats 4000000 in
set_option maxRecDepth 100000 in
theorem kX5_narrowed {l : Launch} {G : xG} {β : Nat} {D : Nat → Prop} {x : XS} {a0 : Nat} {a1 : Int32} {r : Int32} (hm : fX5_narrowed x a0 a1 = some r) : Met l yX5_narrowed (.code yX5_narrowed cX5_narrowed 2 (some .int) :: GT) rmX5_narrowed (PcW [.ref a0, .int a1] (CW β D G x) (KK G)) (QcW D (some (.int r)) (CW β D G x)) 0 0 D := by
  unfold fX5_narrowed at hm
  refine xpro (own := RX5) (by decide +kernel) rfl (Nat.le_of_ble_eq_true rfl) ?_
  intro p e s m args below meth c C hw ls hl
  have hx := C.1
  have hb := C.2.1
  have ho := C.2.2.2.1
  have hts := C.2.2.2.2.1
  have hf : Fz D G s.heap := hw.2.2.2.2
  have hS : va_S D s.heap s.heap [] := va_S.rf
  have hl : lv_has ls 2 [(0, .ref a0), (1, .int a1)] := hl
  have hRf : 0 ≤ rmX5_narrowed.frames := Nat.le_refl _
  have hRl : 0 ≤ rmX5_narrowed.locals := Nat.le_refl _
  have hcs : 0 ≤ rmX5_narrowed.cells ∧ 0 ≤ rmX5_narrowed.slots := ⟨Nat.le_refl _, Nat.le_refl _⟩
  refine lv_aload_n hx hb dX5_narrowed_0 rfl (lv_at hl 0 rfl) ?_
  obtain ⟨v1, h2, hm⟩ := bind_e hm
  refine gdX5_7 C h2 hw dX5_narrowed_1 ?_
  refine lv_if_ne (tgt := 10) hx hb dX5_narrowed_4 (by decide) (fun cc => ?_) (fun cc => ?_)
  · replace hm := ite_n cc hm
    refine lv_aload_n hx hb dX5_narrowed_10 rfl (lv_at hl 0 rfl) ?_
    obtain ⟨v3, h4, hm⟩ := bind_e hm
    refine gdX5_7 C h4 hw dX5_narrowed_11 ?_
    refine lv_iconst (v := 1) hx hb dX5_narrowed_14 (by decide) ?_
    refine lv_icmp_ne (tgt := 23) hx hb dX5_narrowed_15 (by decide) (fun cc => ?_) (fun cc => ?_)
    · replace hm := ite_n cc hm
      refine lv_iload_n hx hb dX5_narrowed_23 rfl (lv_at hl 1 rfl) ?_
      obtain rfl := Option.some.inj hm
      exact xret_i C hw hS dX5_narrowed_24
    · replace hm := ite_p cc hm
      refine lv_iload_n hx hb dX5_narrowed_18 rfl (lv_at hl 1 rfl) ?_
      refine lv_i2s hx hb dX5_narrowed_19 rfl ?_
      refine lv_goto (tgt := 24) hx hb dX5_narrowed_20 (by decide) ?_
      obtain rfl := Option.some.inj hm
      exact xret_i C hw hS dX5_narrowed_24
  · replace hm := ite_p cc hm
    refine lv_iload_n hx hb dX5_narrowed_7 rfl (lv_at hl 1 rfl) ?_
    refine lv_i2b hx hb dX5_narrowed_8 rfl ?_
    obtain rfl := Option.some.inj hm
    exact xret_i C hw hS dX5_narrowed_9
theorem dX5_hasStretch_0 : decode cX5_hasStretch 0 = .ok (.iload_n 1, 1) := by decide +kernel
theorem dX5_hasStretch_1 : decode cX5_hasStretch 1 = .ok (.ifCond .lt 31, 3) := by decide +kernel
theorem dX5_hasStretch_4 : decode cX5_hasStretch 4 = .ok (.iload_n 2, 1) := by decide +kernel
theorem dX5_hasStretch_5 : decode cX5_hasStretch 5 = .ok (.ifCond .lt 27, 3) := by decide +kernel
theorem dX5_hasStretch_8 : decode cX5_hasStretch 8 = .ok (.iload_n 1, 1) := by decide +kernel
theorem dX5_hasStretch_9 : decode cX5_hasStretch 9 = .ok (.aload_n 0, 1) := by decide +kernel
theorem dX5_hasStretch_10 : decode cX5_hasStretch 10 = .ok (.getfield 19, 3) := by decide +kernel
theorem dX5_hasStretch_13 : decode cX5_hasStretch 13 = .ok (.arraylength, 1) := by decide +kernel
theorem dX5_hasStretch_14 : decode cX5_hasStretch 14 = .ok (.if_icmp .gt 18, 3) := by decide +kernel
theorem dX5_hasStretch_17 : decode cX5_hasStretch 17 = .ok (.iload_n 2, 1) := by decide +kernel
theorem dX5_hasStretch_18 : decode cX5_hasStretch 18 = .ok (.aload_n 0, 1) := by decide +kernel
theorem dX5_hasStretch_19 : decode cX5_hasStretch 19 = .ok (.getfield 19, 3) := by decide +kernel
theorem dX5_hasStretch_22 : decode cX5_hasStretch 22 = .ok (.arraylength, 1) := by decide +kernel
theorem dX5_hasStretch_23 : decode cX5_hasStretch 23 = .ok (.iload_n 1, 1) := by decide +kernel
theorem dX5_hasStretch_24 : decode cX5_hasStretch 24 = .ok (.isub, 1) := by decide +kernel
theorem dX5_hasStretch_25 : decode cX5_hasStretch 25 = .ok (.if_icmp .gt 7, 3) := by decide +kernel
theorem dX5_hasStretch_28 : decode cX5_hasStretch 28 = .ok (.iconst 1, 1) := by decide +kernel
theorem dX5_hasStretch_29 : decode cX5_hasStretch 29 = .ok (.goto 4, 3) := by decide +kernel
theorem dX5_hasStretch_32 : decode cX5_hasStretch 32 = .ok (.iconst 0, 1) := by decide +kernel
theorem dX5_hasStretch_33 : decode cX5_hasStretch 33 = .ok (.ireturn, 1) := by decide +kernel
theorem gdX5_19 {p : Program} {l : Launch} {e : Env} {R : Room} {s : State} {m : MethodId} {args : Array Value} {below : List Frame} {meth : Method} {c : Code} {H : Heap} {locs : List Loc} {cells slots : Nat} {Q : State → Prop} {cc : ByteArray} {pc nL : Nat} {ls : Array Slot} {rest : List Value} {ret : Option FieldType}  {G : xG} {β : Nat} {D : Nat → Prop} {x : XS} {a : Nat} {v : Nat} (C : Cx p s m args meth c RX5 cc nL ret (KK G)) (h : dP x a 5 1 = some v) (hw : CW β D G x H) (hd : decode cc pc = .ok (.getfield 19, 3)) (kk : W p l e R s m args below meth c H locs cells slots Q (F0 m (pc + 3) ls (.ref v :: rest))) : W p l e R s m args below meth c H locs cells slots Q (F0 m pc ls (.ref a :: rest)) := by
  obtain ⟨fs, h1, h2⟩ := dP_e h
  exact va_get (ci := 5) (fs := fs) C.1 C.2.1 C.2.2.2.2.1 iwX5 C.2.2.2.1 C.K.1 (xP1 (hw.2.2.2.1 a _ h1).2.2.2) 0 rfl rfl 1 (by decide) (C.2.2.2.2.1 (.fieldLink RX5 19 RX5 "items" "[I") (tg 862 (by decide +kernel) rfl)) (fun _ h9 => h9) h2 hd kk
def fX5_hasStretch (x : XS) (a0 : Nat) (a1 : Int32) (a2 : Int32) : Option (Bool) := if a1 < 0 then some false else if a2 < 0 then some false else Option.bind (dP x a0 5 1) fun v1 => Option.bind (dLen x v1) fun v3 => if v3 < a1 then some false else Option.bind (dP x a0 5 1) fun v5 => Option.bind (dLen x v5) fun v7 => if (v7 - a1) < a2 then some false else some true
abbrev rmX5_hasStretch : Room := { frames := 0, cells := 0, slots := 0, locals := 0 }
set_option maxHeartbeats 4000000 in
set_option maxRecDepth 100000 in
theorem kX5_hasStretch {l : Launch} {G : xG} {β : Nat} {D : Nat → Prop} {x : XS} {a0 : Nat} {a1 : Int32} {a2 : Int32} {r : Bool} (hm : fX5_hasStretch x a0 a1 a2 = some r) : Met l yX5_hasStretch (.code yX5_hasStretch cX5_hasStretch 3 (some .boolean) :: GT) rmX5_hasStretch (PcW [.ref a0, .int a1, .int a2] (CW β D G x) (KK G)) (QcW D (some (.int (bI r))) (CW β D G x)) 0 0 D := by
  unfold fX5_hasStretch at hm
  refine xpro (own := RX5) (by decide +kernel) rfl (Nat.le_of_ble_eq_true rfl) ?_
  intro p e s m args below meth c C hw ls hl
  have hx := C.1
  have hb := C.2.1
  have ho := C.2.2.2.1
  have hts := C.2.2.2.2.1
  have hf : Fz D G s.heap := hw.2.2.2.2
  have hS : va_S D s.heap s.heap [] := va_S.rf
  have hl : lv_has ls 3 [(0, .ref a0), (1, .int a1), (2, .int a2)] := hl
  have hRf : 0 ≤ rmX5_hasStretch.frames := Nat.le_refl _
  have hRl : 0 ≤ rmX5_hasStretch.locals := Nat.le_refl _
  have hcs : 0 ≤ rmX5_hasStretch.cells ∧ 0 ≤ rmX5_hasStretch.slots := ⟨Nat.le_refl _, Nat.le_refl _⟩
  refine lv_iload_n hx hb dX5_hasStretch_0 rfl (lv_at hl 1 rfl) ?_
  refine lv_if_lt (tgt := 32) hx hb dX5_hasStretch_1 (by decide) (fun cc => ?_) (fun cc => ?_)
  · replace hm := ite_p cc hm
    refine lv_iconst (v := 0) hx hb dX5_hasStretch_32 (by decide) ?_
    obtain rfl := Option.some.inj hm
    exact xret_z (v := bI false) C (bI_nar _) hw hS dX5_hasStretch_33
  · replace hm := ite_n cc hm
    refine lv_iload_n hx hb dX5_hasStretch_4 rfl (lv_at hl 2 rfl) ?_
    refine lv_if_lt (tgt := 32) hx hb dX5_hasStretch_5 (by decide) (fun cc => ?_) (fun cc => ?_)
    · replace hm := ite_p cc hm
      refine lv_iconst (v := 0) hx hb dX5_hasStretch_32 (by decide) ?_
      obtain rfl := Option.some.inj hm
      exact xret_z (v := bI false) C (bI_nar _) hw hS dX5_hasStretch_33
    · replace hm := ite_n cc hm
      refine lv_iload_n hx hb dX5_hasStretch_8 rfl (lv_at hl 1 rfl) ?_
      refine lv_aload_n hx hb dX5_hasStretch_9 rfl (lv_at hl 0 rfl) ?_
      obtain ⟨v1, h2, hm⟩ := bind_e hm
      refine gdX5_19 C h2 hw dX5_hasStretch_10 ?_
      obtain ⟨v3, h4, hm⟩ := bind_e hm
      refine x_dlen C h4 hw dX5_hasStretch_13 ?_
      refine lv_icmp_gt (tgt := 32) hx hb dX5_hasStretch_14 (by decide) (fun cc => ?_) (fun cc => ?_)
      · replace hm := ite_p cc hm
        refine lv_iconst (v := 0) hx hb dX5_hasStretch_32 (by decide) ?_
        obtain rfl := Option.some.inj hm
        exact xret_z (v := bI false) C (bI_nar _) hw hS dX5_hasStretch_33
      · replace hm := ite_n cc hm
        refine lv_iload_n hx hb dX5_hasStretch_17 rfl (lv_at hl 2 rfl) ?_
        refine lv_aload_n hx hb dX5_hasStretch_18 rfl (lv_at hl 0 rfl) ?_
        obtain ⟨v5, h6, hm⟩ := bind_e hm
        refine gdX5_19 C h6 hw dX5_hasStretch_19 ?_
        obtain ⟨v7, h8, hm⟩ := bind_e hm
        refine x_dlen C h8 hw dX5_hasStretch_22 ?_
        refine lv_iload_n hx hb dX5_hasStretch_23 rfl (lv_at hl 1 rfl) ?_
        refine lv_isub hx hb dX5_hasStretch_24 ?_
        refine lv_icmp_gt (tgt := 32) hx hb dX5_hasStretch_25 (by decide) (fun cc => ?_) (fun cc => ?_)
        · replace hm := ite_p cc hm
          refine lv_iconst (v := 0) hx hb dX5_hasStretch_32 (by decide) ?_
          obtain rfl := Option.some.inj hm
          exact xret_z (v := bI false) C (bI_nar _) hw hS dX5_hasStretch_33
        · replace hm := ite_n cc hm
          refine lv_iconst (v := 1) hx hb dX5_hasStretch_28 (by decide) ?_
          refine lv_goto (tgt := 33) hx hb dX5_hasStretch_29 (by decide) ?_
          obtain rfl := Option.some.inj hm
          exact xret_z (v := bI true) C (bI_nar _) hw hS dX5_hasStretch_33
theorem dX6_append_0 : decode cX6_append 0 = .ok (.aload_n 0, 1) := by decide +kernel
theorem dX6_append_1 : decode cX6_append 1 = .ok (.getfield 15, 3) := by decide +kernel
theorem dX6_append_4 : decode cX6_append 4 = .ok (.aload_n 0, 1) := by decide +kernel
theorem dX6_append_5 : decode cX6_append 5 = .ok (.getfield 9, 3) := by decide +kernel
theorem dX6_append_8 : decode cX6_append 8 = .ok (.arraylength, 1) := by decide +kernel
theorem dX6_append_9 : decode cX6_append 9 = .ok (.if_icmp .ge 24, 3) := by decide +kernel
theorem dX6_append_12 : decode cX6_append 12 = .ok (.aload_n 0, 1) := by decide +kernel
theorem dX6_append_13 : decode cX6_append 13 = .ok (.getfield 9, 3) := by decide +kernel
theorem dX6_append_16 : decode cX6_append 16 = .ok (.aload_n 0, 1) := by decide +kernel
theorem dX6_append_17 : decode cX6_append 17 = .ok (.getfield 15, 3) := by decide +kernel
theorem dX6_append_20 : decode cX6_append 20 = .ok (.iload_n 1, 1) := by decide +kernel
theorem dX6_append_21 : decode cX6_append 21 = .ok (.i2c, 1) := by decide +kernel
theorem dX6_append_22 : decode cX6_append 22 = .ok (.castore, 1) := by decide +kernel
theorem dX6_append_23 : decode cX6_append 23 = .ok (.aload_n 0, 1) := by decide +kernel
theorem dX6_append_24 : decode cX6_append 24 = .ok (.dup, 1) := by decide +kernel
theorem dX6_append_25 : decode cX6_append 25 = .ok (.getfield 15, 3) := by decide +kernel
theorem dX6_append_28 : decode cX6_append 28 = .ok (.iconst 1, 1) := by decide +kernel
theorem dX6_append_29 : decode cX6_append 29 = .ok (.iadd, 1) := by decide +kernel
theorem dX6_append_30 : decode cX6_append 30 = .ok (.putfield 15, 3) := by decide +kernel
theorem dX6_append_33 : decode cX6_append 33 = .ok (.return_, 1) := by decide +kernel
theorem anX_5 {p : Program} {l : Launch} {e : Env} {R : Room} {s : State} {m : MethodId} {args : Array Value} {below : List Frame} {meth : Method} {c : Code} {H : Heap} {locs : List Loc} {cells slots : Nat} {Q : State → Prop} {cc : ByteArray} {pc nL : Nat} {ls : Array Slot} {rest : List Value} {ret : Option FieldType} {G : xG} {β : Nat} {D : Nat → Prop} {x : XS} {own : String} (C : Cx p s m args meth c own cc nL ret (KK G)) (hw : CW β D G x H) (hd : decode cc pc = .ok (.arraylength, 1)) (kk : W p l e R s m args below meth c H locs cells slots Q (F0 m (pc + 1) ls (.int 160 :: rest))) : W p l e R s m args below meth c H locs cells slots Q (F0 m pc ls (.ref (β + 5) :: rest)) :=
  va_alen C.1 C.2.1 C.K.1 (xP1 (hw.2.2.1 5 (by decide))) 0 2 rfl rfl rfl hd kk
theorem asX_5 {p : Program} {l : Launch} {e : Env} {R : Room} {s : State} {m : MethodId} {args : Array Value} {below : List Frame} {meth : Method} {c : Code} {H : Heap} {locs : List Loc} {cells slots : Nat} {Q : State → Prop} {cc : ByteArray} {pc nL : Nat} {ls : Array Slot} {rest : List Value} {ret : Option FieldType} {G : xG} {β : Nat} {D : Nat → Prop} {x : XS} {own : String} {i : Int32} {v : Int32} (C : Cx p s m args meth c own cc nL ret (KK G)) (hw : CW β D G x H) (hS : va_S D s.heap H locs) (hin : ib i 160) (hd : decode cc pc = .ok (.castore, 1)) (kk : ∀ (H1 : Heap) (locs1 : List Loc), CW β D G (xsA x 5 i.toNatClampNeg (vp_nar .char v)) H1 → va_S D s.heap H1 locs1 → W p l e R s m args below meth c H1 locs1 cells slots Q (F0 m (pc + 1) ls (rest))) : W p l e R s m args below meth c H locs cells slots Q (F0 m pc ls (.int v :: .int i :: .ref (β + 5) :: rest)) :=
  x_cast C.1 C.2.1 C.K.1 hS 2 (hw.2.2.1 5 (by decide)) (hw.2.1 5 (by decide)) rfl hin hd (fun H1 locs1 hat ho hS => kk H1 locs1 (hw.setA 5 _ _ hat ho) hS)
theorem pX6_15 {p : Program} {l : Launch} {e : Env} {R : Room} {s : State} {m : MethodId} {args : Array Value} {below : List Frame} {meth : Method} {c : Code} {H : Heap} {locs : List Loc} {cells slots : Nat} {Q : State → Prop} {cc : ByteArray} {pc nL : Nat} {ls : Array Slot} {rest : List Value} {ret : Option FieldType} {G : xG} {β : Nat} {D : Nat → Prop} {x : XS} {v : Int32} (C : Cx p s m args meth c RX6 cc nL ret (KK G)) (hw : CW β D G x H) (hS : va_S D s.heap H locs) (hd : decode cc pc = .ok (.putfield 15, 3)) (kk : ∀ (H1 : Heap) (locs1 : List Loc), CW β D G (xsS x 4 1 v) H1 → va_S D s.heap H1 locs1 → W p l e R s m args below meth c H1 locs1 cells slots Q (F0 m (pc + 3) ls (rest))) : W p l e R s m args below meth c H locs cells slots Q (F0 m pc ls (.int v :: .ref (β + 4) :: rest)) :=
  x_put C.1 C.2.1 C.2.2.2.2.1 iwX6 tyX6 tyX6_ok nmX6 C.2.2.2.1 C.K.1 hS (hw.2.2.1 4 (by decide)) (hw.2.1 4 (by decide)) rfl 1 (by decide) (C.2.2.2.2.1 (.fieldLink RX6 15 RX6 "size" "I") (tg 38 (by decide +kernel) rfl)) (fun _ h9 => h9) rfl (ty := .int) (by decide +kernel) rfl rfl (Nat.le_of_ble_eq_true rfl) hd (fun H1 locs1 hat ho hS => kk H1 locs1 (hw.setS 4 1 v hat ho) hS)
def fX6_append (x : XS) (a1 : Int32) : Option (XS) := if 160 ≤ (x.1 4 1) then some x else if ib (x.1 4 1) 160 then lt (xsA x 5 (x.1 4 1).toNatClampNeg (vp_nar .char ((a1.toUInt32 % 65536).toInt32))) fun x2 => lt (xsS x2 4 1 ((x2.1 4 1) + 1)) fun x3 => some x3 else none
abbrev rmX6_append : Room := { frames := 0, cells := 0, slots := 0, locals := 0 }
set_option maxHeartbeats 4000000 in
set_option maxRecDepth 100000 in
theorem kX6_append {l : Launch} {G : xG} {β : Nat} {D : Nat → Prop} {x x' : XS} {a1 : Int32} (hm : fX6_append x a1 = some x') : Met l yX6_append (.code yX6_append cX6_append 2 none :: GT) rmX6_append (PcW [.ref (β + 4), .int a1] (CW β D G x) (KK G)) (QcW D none (CW β D G x')) 0 0 D := by
  unfold fX6_append at hm
  refine xpro (own := RX6) (by decide +kernel) rfl (Nat.le_of_ble_eq_true rfl) ?_
  intro p e s m args below meth c C hw ls hl
  have hx := C.1
  have hb := C.2.1
  have ho := C.2.2.2.1
  have hts := C.2.2.2.2.1
  have hf : Fz D G s.heap := hw.2.2.2.2
  have hS : va_S D s.heap s.heap [] := va_S.rf
  have hl : lv_has ls 2 [(0, .ref (β + 4)), (1, .int a1)] := hl
  have hRf : 0 ≤ rmX6_append.frames := Nat.le_refl _
  have hRl : 0 ≤ rmX6_append.locals := Nat.le_refl _
  have hcs : 0 ≤ rmX6_append.cells ∧ 0 ≤ rmX6_append.slots := ⟨Nat.le_refl _, Nat.le_refl _⟩
  refine lv_aload_n hx hb dX6_append_0 rfl (lv_at hl 0 rfl) ?_
  refine gX6_15 C hw dX6_append_1 ?_
  refine lv_aload_n hx hb dX6_append_4 rfl (lv_at hl 0 rfl) ?_
  refine gX6_9 C hw dX6_append_5 ?_
  refine anX_5 C hw dX6_append_8 ?_
  refine lv_icmp_ge (tgt := 33) hx hb dX6_append_9 (by decide) (fun cc => ?_) (fun cc => ?_)
  · replace hm := ite_p cc hm
    obtain rfl := Option.some.inj hm
    exact xret_v C hw hS dX6_append_33
  · replace hm := ite_n cc hm
    refine lv_aload_n hx hb dX6_append_12 rfl (lv_at hl 0 rfl) ?_
    refine gX6_9 C hw dX6_append_13 ?_
    refine lv_aload_n hx hb dX6_append_16 rfl (lv_at hl 0 rfl) ?_
    refine gX6_15 C hw dX6_append_17 ?_
    refine lv_iload_n hx hb dX6_append_20 rfl (lv_at hl 1 rfl) ?_
    refine lv_i2c hx hb dX6_append_21 rfl ?_
    obtain ⟨h1, hm⟩ := chk_e hm
    refine asX_5 C hw hS h1 dX6_append_22 (fun H locs hw hS => ?_)
    obtain ⟨x2, ev, hm⟩ := lt_e hm
    rw [← ev] at hw
    clear ev
    refine lv_aload_n hx hb dX6_append_23 rfl (lv_at hl 0 rfl) ?_
    refine lv_dup hx hb dX6_append_24 rfl ?_
    refine gX6_15 C hw dX6_append_25 ?_
    refine lv_iconst (v := 1) hx hb dX6_append_28 (by decide) ?_
    refine lv_iadd hx hb dX6_append_29 ?_
    refine pX6_15 C hw hS dX6_append_30 (fun H locs hw hS => ?_)
    obtain ⟨x3, ev, hm⟩ := lt_e hm
    rw [← ev] at hw
    clear ev
    obtain rfl := Option.some.inj hm
    exact xret_v C hw hS dX6_append_33
theorem dX6_clear_0 : decode cX6_clear 0 = .ok (.aload_n 0, 1) := by decide +kernel
theorem dX6_clear_1 : decode cX6_clear 1 = .ok (.iconst 0, 1) := by decide +kernel
theorem dX6_clear_2 : decode cX6_clear 2 = .ok (.putfield 15, 3) := by decide +kernel
theorem dX6_clear_5 : decode cX6_clear 5 = .ok (.return_, 1) := by decide +kernel
def fX6_clear (x : XS) : Option (XS) := lt (xsS x 4 1 0) fun x1 => some x1
abbrev rmX6_clear : Room := { frames := 0, cells := 0, slots := 0, locals := 0 }
set_option maxHeartbeats 4000000 in
set_option maxRecDepth 100000 in
theorem kX6_clear {l : Launch} {G : xG} {β : Nat} {D : Nat → Prop} {x x' : XS} (hm : fX6_clear x = some x') : Met l yX6_clear (.code yX6_clear cX6_clear 1 none :: GT) rmX6_clear (PcW [.ref (β + 4)] (CW β D G x) (KK G)) (QcW D none (CW β D G x')) 0 0 D := by
  unfold fX6_clear at hm
  refine xpro (own := RX6) (by decide +kernel) rfl (Nat.le_of_ble_eq_true rfl) ?_
  intro p e s m args below meth c C hw ls hl
  have hx := C.1
  have hb := C.2.1
  have ho := C.2.2.2.1
  have hts := C.2.2.2.2.1
  have hf : Fz D G s.heap := hw.2.2.2.2
  have hS : va_S D s.heap s.heap [] := va_S.rf
  have hl : lv_has ls 1 [(0, .ref (β + 4))] := hl
  have hRf : 0 ≤ rmX6_clear.frames := Nat.le_refl _
  have hRl : 0 ≤ rmX6_clear.locals := Nat.le_refl _
  have hcs : 0 ≤ rmX6_clear.cells ∧ 0 ≤ rmX6_clear.slots := ⟨Nat.le_refl _, Nat.le_refl _⟩
  refine lv_aload_n hx hb dX6_clear_0 rfl (lv_at hl 0 rfl) ?_
  refine lv_iconst (v := 0) hx hb dX6_clear_1 (by decide) ?_
  refine pX6_15 C hw hS dX6_clear_2 (fun H locs hw hS => ?_)
  obtain ⟨x1, ev, hm⟩ := lt_e hm
  rw [← ev] at hw
  clear ev
  obtain rfl := Option.some.inj hm
  exact xret_v C hw hS dX6_clear_5
theorem dX6_rewind_0 : decode cX6_rewind 0 = .ok (.aload_n 0, 1) := by decide +kernel
theorem dX6_rewind_1 : decode cX6_rewind 1 = .ok (.iconst 0, 1) := by decide +kernel
theorem dX6_rewind_2 : decode cX6_rewind 2 = .ok (.putfield 22, 3) := by decide +kernel
theorem dX6_rewind_5 : decode cX6_rewind 5 = .ok (.aload_n 0, 1) := by decide +kernel
theorem dX6_rewind_6 : decode cX6_rewind 6 = .ok (.invokevirtual 31, 3) := by decide +kernel
theorem dX6_rewind_9 : decode cX6_rewind 9 = .ok (.return_, 1) := by decide +kernel
theorem sX6_31 {p : Program} {l : Launch} {e : Env} {R : Room} {s : State} {m : MethodId} {args : Array Value} {below : List Frame} {meth : Method} {c : Code} {H : Heap} {locs : List Loc} {cells slots : Nat} {Q : State → Prop} {cc : ByteArray} {pc nL : Nat} {ls : Array Slot} {rest : List Value} {ret : Option FieldType}  {G : xG} {β : Nat} {D : Nat → Prop} {x x' : XS} (C : Cx p s m args meth c RX6 cc nL ret (KK G)) (h : fX6_advance x = some x') (hw : CW β D G x H) (hS : va_S D s.heap H locs) (hsz : ls.size = nL) (hW : (rest.map fun v => v.category).sum ≤ 8) (hR : 7 ≤ R.frames) (hR2 : 147 ≤ R.locals) (hcs : cells ≤ R.cells ∧ slots ≤ R.slots) (hd : decode cc pc = .ok (.invokevirtual 31, 3)) (kk : ∀ (H1 : Heap) (locs1 : List Loc), CW β D G x' H1 → va_S D s.heap H1 locs1 → W p l e R s m args below meth c H1 locs1 cells slots Q (F0 m (pc + 3) ls (rest))) : W p l e R s m args below meth c H locs cells slots Q (F0 m pc ls (.ref (β + 4) :: rest)) := by
  exact xcallV C (As := []) (rest := rest) (nA := 0) (ci := 6) (kX6_advance h) (tg 220 (by decide +kernel) rfl) (tg 221 (by decide +kernel) rfl) (tg 222 (by decide +kernel) rfl) (tg 2 (by decide +kernel) rfl) (tg 223 (by decide +kernel) rfl) ⟨rfl, by decide +kernel, by decide +kernel, by decide +kernel⟩ rfl rfl rfl ⟨hR, hR2⟩ (hw.2.2.1 4 (by decide)) hw hS (fun _ q => q) rfl rfl hsz hW hd hcs (fun H1 locs1 hw hz hk hS => kk H1 locs1 hw hS)
def fX6_rewind (x : XS) : Option (XS) := lt (xsS x 4 3 0) fun x1 => Option.bind (fX6_advance x1) fun x2 => some x2
abbrev rmX6_rewind : Room := { frames := 7, cells := 0, slots := 0, locals := 147 }
set_option maxHeartbeats 4000000 in
set_option maxRecDepth 100000 in
theorem kX6_rewind {l : Launch} {G : xG} {β : Nat} {D : Nat → Prop} {x x' : XS} (hm : fX6_rewind x = some x') : Met l yX6_rewind (.code yX6_rewind cX6_rewind 1 none :: GT) rmX6_rewind (PcW [.ref (β + 4)] (CW β D G x) (KK G)) (QcW D none (CW β D G x')) 0 0 D := by
  unfold fX6_rewind at hm
  refine xpro (own := RX6) (by decide +kernel) rfl (Nat.le_of_ble_eq_true rfl) ?_
  intro p e s m args below meth c C hw ls hl
  have hx := C.1
  have hb := C.2.1
  have ho := C.2.2.2.1
  have hts := C.2.2.2.2.1
  have hf : Fz D G s.heap := hw.2.2.2.2
  have hS : va_S D s.heap s.heap [] := va_S.rf
  have hl : lv_has ls 1 [(0, .ref (β + 4))] := hl
  have hRf : 7 ≤ rmX6_rewind.frames := Nat.le_refl _
  have hRl : 147 ≤ rmX6_rewind.locals := Nat.le_refl _
  have hcs : 0 ≤ rmX6_rewind.cells ∧ 0 ≤ rmX6_rewind.slots := ⟨Nat.le_refl _, Nat.le_refl _⟩
  refine lv_aload_n hx hb dX6_rewind_0 rfl (lv_at hl 0 rfl) ?_
  refine lv_iconst (v := 0) hx hb dX6_rewind_1 (by decide) ?_
  refine pX6_22 C hw hS dX6_rewind_2 (fun H locs hw hS => ?_)
  obtain ⟨x1, ev, hm⟩ := lt_e hm
  rw [← ev] at hw
  clear ev
  refine lv_aload_n hx hb dX6_rewind_5 rfl (lv_at hl 0 rfl) ?_
  obtain ⟨x2, h3, hm⟩ := bind_e hm
  refine sX6_31 C h3 hw hS hl.1 (Nat.le_of_ble_eq_true rfl) (Nat.le_trans (Nat.le_of_ble_eq_true rfl) hRf) (Nat.le_trans (Nat.le_of_ble_eq_true rfl) hRl) hcs dX6_rewind_6 (fun H locs hw hS => ?_)
  obtain rfl := Option.some.inj hm
  exact xret_v C hw hS dX6_rewind_9
theorem dX7_isName_0 : decode cX7_isName 0 = .ok (.iload_n 0, 1) := by decide +kernel
theorem dX7_isName_1 : decode cX7_isName 1 = .ok (.ifCond .ge 13, 3) := by decide +kernel
theorem dX7_isName_4 : decode cX7_isName 4 = .ok (.iload_n 0, 1) := by decide +kernel
theorem dX7_isName_5 : decode cX7_isName 5 = .ok (.bipush (-6), 2) := by decide +kernel
theorem dX7_isName_7 : decode cX7_isName 7 = .ok (.if_icmp .lt 7, 3) := by decide +kernel
theorem dX7_isName_10 : decode cX7_isName 10 = .ok (.iconst 1, 1) := by decide +kernel
theorem dX7_isName_11 : decode cX7_isName 11 = .ok (.goto 4, 3) := by decide +kernel
theorem dX7_isName_14 : decode cX7_isName 14 = .ok (.iconst 0, 1) := by decide +kernel
theorem dX7_isName_15 : decode cX7_isName 15 = .ok (.ireturn, 1) := by decide +kernel
def fX7_isName (a1 : Int32) : Option (Bool) := if 0 ≤ a1 then some false else if a1 < (-6) then some false else some true
abbrev rmX7_isName : Room := { frames := 0, cells := 0, slots := 0, locals := 0 }
set_option maxHeartbeats 4000000 in
set_option maxRecDepth 100000 in
theorem kX7_isName {l : Launch} {G : xG} {β : Nat} {D : Nat → Prop} {x : XS} {a1 : Int32} {r : Bool} (hm : fX7_isName a1 = some r) : Met l yX7_isName (.code yX7_isName cX7_isName 1 (some .boolean) :: GT) rmX7_isName (PcW [.int a1] (CW β D G x) (KK G)) (QcW D (some (.int (bI r))) (CW β D G x)) 0 0 D := by
  unfold fX7_isName at hm
  refine xpro (own := RX7) (by decide +kernel) rfl (Nat.le_of_ble_eq_true rfl) ?_
  intro p e s m args below meth c C hw ls hl
  have hx := C.1
  have hb := C.2.1
  have ho := C.2.2.2.1
  have hts := C.2.2.2.2.1
  have hf : Fz D G s.heap := hw.2.2.2.2
  have hS : va_S D s.heap s.heap [] := va_S.rf
  have hl : lv_has ls 1 [(0, .int a1)] := hl
  have hRf : 0 ≤ rmX7_isName.frames := Nat.le_refl _
  have hRl : 0 ≤ rmX7_isName.locals := Nat.le_refl _
  have hcs : 0 ≤ rmX7_isName.cells ∧ 0 ≤ rmX7_isName.slots := ⟨Nat.le_refl _, Nat.le_refl _⟩
  refine lv_iload_n hx hb dX7_isName_0 rfl (lv_at hl 0 rfl) ?_
  refine lv_if_ge (tgt := 14) hx hb dX7_isName_1 (by decide) (fun cc => ?_) (fun cc => ?_)
  · replace hm := ite_p cc hm
    refine lv_iconst (v := 0) hx hb dX7_isName_14 (by decide) ?_
    obtain rfl := Option.some.inj hm
    exact xret_z (v := bI false) C (bI_nar _) hw hS dX7_isName_15
  · replace hm := ite_n cc hm
    refine lv_iload_n hx hb dX7_isName_4 rfl (lv_at hl 0 rfl) ?_
    refine lv_bipush (v := (-6)) hx hb dX7_isName_5 (by decide) ?_
    refine lv_icmp_lt (tgt := 14) hx hb dX7_isName_7 (by decide) (fun cc => ?_) (fun cc => ?_)
    · replace hm := ite_p cc hm
      refine lv_iconst (v := 0) hx hb dX7_isName_14 (by decide) ?_
      obtain rfl := Option.some.inj hm
      exact xret_z (v := bI false) C (bI_nar _) hw hS dX7_isName_15
    · replace hm := ite_n cc hm
      refine lv_iconst (v := 1) hx hb dX7_isName_10 (by decide) ?_
      refine lv_goto (tgt := 15) hx hb dX7_isName_11 (by decide) ?_
      obtain rfl := Option.some.inj hm
      exact xret_z (v := bI true) C (bI_nar _) hw hS dX7_isName_15
theorem dX7_truth_0 : decode cX7_truth 0 = .ok (.iload_n 0, 1) := by decide +kernel
theorem dX7_truth_1 : decode cX7_truth 1 = .ok (.ifCond .eq 7, 3) := by decide +kernel
theorem dX7_truth_4 : decode cX7_truth 4 = .ok (.iconst 1, 1) := by decide +kernel
theorem dX7_truth_5 : decode cX7_truth 5 = .ok (.goto 4, 3) := by decide +kernel
theorem dX7_truth_8 : decode cX7_truth 8 = .ok (.iconst 0, 1) := by decide +kernel
theorem dX7_truth_9 : decode cX7_truth 9 = .ok (.ireturn, 1) := by decide +kernel
def fX7_truth (a1 : Bool) : Option (Int32) := if a1 = true then some 1 else some 0
abbrev rmX7_truth : Room := { frames := 0, cells := 0, slots := 0, locals := 0 }
set_option maxHeartbeats 4000000 in
set_option maxRecDepth 100000 in
theorem kX7_truth {l : Launch} {G : xG} {β : Nat} {D : Nat → Prop} {x : XS} {a1 : Bool} {r : Int32} (hm : fX7_truth a1 = some r) : Met l yX7_truth (.code yX7_truth cX7_truth 1 (some .int) :: GT) rmX7_truth (PcW [.int (bI a1)] (CW β D G x) (KK G)) (QcW D (some (.int r)) (CW β D G x)) 0 0 D := by
  unfold fX7_truth at hm
  refine xpro (own := RX7) (by decide +kernel) rfl (Nat.le_of_ble_eq_true rfl) ?_
  intro p e s m args below meth c C hw ls hl
  have hx := C.1
  have hb := C.2.1
  have ho := C.2.2.2.1
  have hts := C.2.2.2.2.1
  have hf : Fz D G s.heap := hw.2.2.2.2
  have hS : va_S D s.heap s.heap [] := va_S.rf
  have hl : lv_has ls 1 [(0, .int (bI a1))] := hl
  have hRf : 0 ≤ rmX7_truth.frames := Nat.le_refl _
  have hRl : 0 ≤ rmX7_truth.locals := Nat.le_refl _
  have hcs : 0 ≤ rmX7_truth.cells ∧ 0 ≤ rmX7_truth.slots := ⟨Nat.le_refl _, Nat.le_refl _⟩
  refine lv_iload_n hx hb dX7_truth_0 rfl (lv_at hl 0 rfl) ?_
  refine x_ifeqB hx hb dX7_truth_1 (tgt := 8) (by decide) (fun cc => ?_) (fun cc => ?_)
  · replace hm := ite_n cc hm
    refine lv_iconst (v := 0) hx hb dX7_truth_8 (by decide) ?_
    obtain rfl := Option.some.inj hm
    exact xret_i C hw hS dX7_truth_9
  · replace hm := ite_p cc hm
    refine lv_iconst (v := 1) hx hb dX7_truth_4 (by decide) ?_
    refine lv_goto (tgt := 9) hx hb dX7_truth_5 (by decide) ?_
    obtain rfl := Option.some.inj hm
    exact xret_i C hw hS dX7_truth_9
theorem dX7_altered_0 : decode cX7_altered 0 = .ok (.iload_n 0, 1) := by decide +kernel
theorem dX7_altered_1 : decode cX7_altered 1 = .ok (.bipush (-26), 2) := by decide +kernel
theorem dX7_altered_3 : decode cX7_altered 3 = .ok (.if_icmp .ne 8, 3) := by decide +kernel
theorem dX7_altered_6 : decode cX7_altered 6 = .ok (.iload_n 1, 1) := by decide +kernel
theorem dX7_altered_7 : decode cX7_altered 7 = .ok (.ineg, 1) := by decide +kernel
theorem dX7_altered_8 : decode cX7_altered 8 = .ok (.goto 15, 3) := by decide +kernel
theorem dX7_altered_11 : decode cX7_altered 11 = .ok (.iload_n 1, 1) := by decide +kernel
theorem dX7_altered_12 : decode cX7_altered 12 = .ok (.ifCond .ne 7, 3) := by decide +kernel
theorem dX7_altered_15 : decode cX7_altered 15 = .ok (.iconst 1, 1) := by decide +kernel
theorem dX7_altered_16 : decode cX7_altered 16 = .ok (.goto 4, 3) := by decide +kernel
theorem dX7_altered_19 : decode cX7_altered 19 = .ok (.iconst 0, 1) := by decide +kernel
theorem dX7_altered_20 : decode cX7_altered 20 = .ok (.invokestatic 51, 3) := by decide +kernel
theorem dX7_altered_23 : decode cX7_altered 23 = .ok (.ireturn, 1) := by decide +kernel
theorem sX7_51 {p : Program} {l : Launch} {e : Env} {R : Room} {s : State} {m : MethodId} {args : Array Value} {below : List Frame} {meth : Method} {c : Code} {H : Heap} {locs : List Loc} {cells slots : Nat} {Q : State → Prop} {cc : ByteArray} {pc nL : Nat} {ls : Array Slot} {rest : List Value} {ret : Option FieldType}  {G : xG} {β : Nat} {D : Nat → Prop} {x : XS} {a1 : Bool} {r : Int32} (C : Cx p s m args meth c RX7 cc nL ret (KK G)) (h : fX7_truth a1 = some r) (hw : CW β D G x H) (hS : va_S D s.heap H locs) (hsz : ls.size = nL) (hW : (rest.map fun v => v.category).sum ≤ 8) (hR : 1 ≤ R.frames) (hR2 : 20 ≤ R.locals) (hcs : cells ≤ R.cells ∧ slots ≤ R.slots) (hd : decode cc pc = .ok (.invokestatic 51, 3)) (kk : ∀ (H1 : Heap) (locs1 : List Loc), CW β D G x H1 → va_S D s.heap H1 locs1 → W p l e R s m args below meth c H1 locs1 cells slots Q (F0 m (pc + 3) ls (.int r :: rest))) : W p l e R s m args below meth c H locs cells slots Q (F0 m pc ls (.int (bI a1) :: rest)) := by
  exact xcallS C (As := [.int (bI a1)]) (rest := rest) (nA := 1) (kX7_truth h) (tg 538 (by decide +kernel) rfl) (tg 539 (by decide +kernel) rfl) (tg 11 (by decide +kernel) rfl) (tg 540 (by decide +kernel) rfl) ⟨by decide +kernel, by decide +kernel, by decide +kernel⟩ rfl rfl ⟨hR, hR2⟩ hw hS (fun _ q => q) rfl rfl hsz hW hd hcs (fun H1 locs1 hw hz hk hS => kk H1 locs1 hw hS)
def fX7_altered (a1 : Int32) (a2 : Int32) : Option (Int32) := if a1 = (-26) then some (-a2) else if a2 = 0 then Option.bind (fX7_truth true) fun v3 => some v3 else Option.bind (fX7_truth false) fun v1 => some v1
abbrev rmX7_altered : Room := { frames := 1, cells := 0, slots := 0, locals := 20 }
set_option maxHeartbeats 4000000 in
set_option maxRecDepth 100000 in
theorem kX7_altered {l : Launch} {G : xG} {β : Nat} {D : Nat → Prop} {x : XS} {a1 : Int32} {a2 : Int32} {r : Int32} (hm : fX7_altered a1 a2 = some r) : Met l yX7_altered (.code yX7_altered cX7_altered 2 (some .int) :: GT) rmX7_altered (PcW [.int a1, .int a2] (CW β D G x) (KK G)) (QcW D (some (.int r)) (CW β D G x)) 0 0 D := by
  unfold fX7_altered at hm
  refine xpro (own := RX7) (by decide +kernel) rfl (Nat.le_of_ble_eq_true rfl) ?_
  intro p e s m args below meth c C hw ls hl
  have hx := C.1
  have hb := C.2.1
  have ho := C.2.2.2.1
  have hts := C.2.2.2.2.1
  have hf : Fz D G s.heap := hw.2.2.2.2
  have hS : va_S D s.heap s.heap [] := va_S.rf
  have hl : lv_has ls 2 [(0, .int a1), (1, .int a2)] := hl
  have hRf : 1 ≤ rmX7_altered.frames := Nat.le_refl _
  have hRl : 20 ≤ rmX7_altered.locals := Nat.le_refl _
  have hcs : 0 ≤ rmX7_altered.cells ∧ 0 ≤ rmX7_altered.slots := ⟨Nat.le_refl _, Nat.le_refl _⟩
  refine lv_iload_n hx hb dX7_altered_0 rfl (lv_at hl 0 rfl) ?_
  refine lv_bipush (v := (-26)) hx hb dX7_altered_1 (by decide) ?_
  refine lv_icmp_ne (tgt := 11) hx hb dX7_altered_3 (by decide) (fun cc => ?_) (fun cc => ?_)
  · replace hm := ite_n cc hm
    refine lv_iload_n hx hb dX7_altered_11 rfl (lv_at hl 1 rfl) ?_
    refine lv_if_ne (tgt := 19) hx hb dX7_altered_12 (by decide) (fun cc => ?_) (fun cc => ?_)
    · replace hm := ite_n cc hm
      refine lv_iconst (v := 0) hx hb dX7_altered_19 (by decide) ?_
      obtain ⟨v1, h2, hm⟩ := bind_e hm
      refine sX7_51 (a1 := false) C h2 hw hS hl.1 (Nat.le_of_ble_eq_true rfl) (Nat.le_trans (Nat.le_of_ble_eq_true rfl) hRf) (Nat.le_trans (Nat.le_of_ble_eq_true rfl) hRl) hcs dX7_altered_20 (fun H locs hw hS => ?_)
      obtain rfl := Option.some.inj hm
      exact xret_i C hw hS dX7_altered_23
    · replace hm := ite_p cc hm
      refine lv_iconst (v := 1) hx hb dX7_altered_15 (by decide) ?_
      refine lv_goto (tgt := 20) hx hb dX7_altered_16 (by decide) ?_
      obtain ⟨v3, h4, hm⟩ := bind_e hm
      refine sX7_51 (a1 := true) C h4 hw hS hl.1 (Nat.le_of_ble_eq_true rfl) (Nat.le_trans (Nat.le_of_ble_eq_true rfl) hRf) (Nat.le_trans (Nat.le_of_ble_eq_true rfl) hRl) hcs dX7_altered_20 (fun H locs hw hS => ?_)
      obtain rfl := Option.some.inj hm
      exact xret_i C hw hS dX7_altered_23
  · replace hm := ite_p cc hm
    refine lv_iload_n hx hb dX7_altered_6 rfl (lv_at hl 1 rfl) ?_
    refine lv_ineg hx hb dX7_altered_7 ?_
    refine lv_goto (tgt := 23) hx hb dX7_altered_8 (by decide) ?_
    obtain rfl := Option.some.inj hm
    exact xret_i C hw hS dX7_altered_23
theorem dX7_joined_0 : decode cX7_joined 0 = .ok (.iload_n 0, 1) := by decide +kernel
theorem dX7_joined_1 : decode cX7_joined 1 = .ok (.tableswitch 116 (-25) (-15) #[85, 71, 67, 63, 59, 116, 116, 116, 116, 116, 99], 59) := by decide +kernel
theorem dX7_joined_60 : decode cX7_joined 60 = .ok (.iload_n 1, 1) := by decide +kernel
theorem dX7_joined_61 : decode cX7_joined 61 = .ok (.iload_n 2, 1) := by decide +kernel
theorem dX7_joined_62 : decode cX7_joined 62 = .ok (.iadd, 1) := by decide +kernel
theorem dX7_joined_63 : decode cX7_joined 63 = .ok (.ireturn, 1) := by decide +kernel
theorem dX7_joined_64 : decode cX7_joined 64 = .ok (.iload_n 1, 1) := by decide +kernel
theorem dX7_joined_65 : decode cX7_joined 65 = .ok (.iload_n 2, 1) := by decide +kernel
theorem dX7_joined_66 : decode cX7_joined 66 = .ok (.isub, 1) := by decide +kernel
theorem dX7_joined_67 : decode cX7_joined 67 = .ok (.ireturn, 1) := by decide +kernel
theorem dX7_joined_68 : decode cX7_joined 68 = .ok (.iload_n 1, 1) := by decide +kernel
theorem dX7_joined_69 : decode cX7_joined 69 = .ok (.iload_n 2, 1) := by decide +kernel
theorem dX7_joined_70 : decode cX7_joined 70 = .ok (.imul, 1) := by decide +kernel
theorem dX7_joined_71 : decode cX7_joined 71 = .ok (.ireturn, 1) := by decide +kernel
theorem dX7_joined_72 : decode cX7_joined 72 = .ok (.iload_n 1, 1) := by decide +kernel
theorem dX7_joined_73 : decode cX7_joined 73 = .ok (.iload_n 2, 1) := by decide +kernel
theorem dX7_joined_74 : decode cX7_joined 74 = .ok (.if_icmp .ge 7, 3) := by decide +kernel
theorem dX7_joined_77 : decode cX7_joined 77 = .ok (.iconst 1, 1) := by decide +kernel
theorem dX7_joined_78 : decode cX7_joined 78 = .ok (.goto 4, 3) := by decide +kernel
theorem dX7_joined_81 : decode cX7_joined 81 = .ok (.iconst 0, 1) := by decide +kernel
theorem dX7_joined_82 : decode cX7_joined 82 = .ok (.invokestatic 51, 3) := by decide +kernel
theorem dX7_joined_85 : decode cX7_joined 85 = .ok (.ireturn, 1) := by decide +kernel
theorem dX7_joined_86 : decode cX7_joined 86 = .ok (.iload_n 1, 1) := by decide +kernel
theorem dX7_joined_87 : decode cX7_joined 87 = .ok (.iload_n 2, 1) := by decide +kernel
theorem dX7_joined_88 : decode cX7_joined 88 = .ok (.if_icmp .ne 7, 3) := by decide +kernel
theorem dX7_joined_91 : decode cX7_joined 91 = .ok (.iconst 1, 1) := by decide +kernel
theorem dX7_joined_92 : decode cX7_joined 92 = .ok (.goto 4, 3) := by decide +kernel
theorem dX7_joined_95 : decode cX7_joined 95 = .ok (.iconst 0, 1) := by decide +kernel
theorem dX7_joined_96 : decode cX7_joined 96 = .ok (.invokestatic 51, 3) := by decide +kernel
theorem dX7_joined_99 : decode cX7_joined 99 = .ok (.ireturn, 1) := by decide +kernel
theorem dX7_joined_100 : decode cX7_joined 100 = .ok (.iload_n 1, 1) := by decide +kernel
theorem dX7_joined_101 : decode cX7_joined 101 = .ok (.ifCond .eq 11, 3) := by decide +kernel
theorem dX7_joined_104 : decode cX7_joined 104 = .ok (.iload_n 2, 1) := by decide +kernel
theorem dX7_joined_105 : decode cX7_joined 105 = .ok (.ifCond .eq 7, 3) := by decide +kernel
theorem dX7_joined_108 : decode cX7_joined 108 = .ok (.iconst 1, 1) := by decide +kernel
theorem dX7_joined_109 : decode cX7_joined 109 = .ok (.goto 4, 3) := by decide +kernel
theorem dX7_joined_112 : decode cX7_joined 112 = .ok (.iconst 0, 1) := by decide +kernel
theorem dX7_joined_113 : decode cX7_joined 113 = .ok (.invokestatic 51, 3) := by decide +kernel
theorem dX7_joined_116 : decode cX7_joined 116 = .ok (.ireturn, 1) := by decide +kernel
theorem dX7_joined_117 : decode cX7_joined 117 = .ok (.iload_n 1, 1) := by decide +kernel
theorem dX7_joined_118 : decode cX7_joined 118 = .ok (.ifCond .ne 7, 3) := by decide +kernel
theorem dX7_joined_121 : decode cX7_joined 121 = .ok (.iload_n 2, 1) := by decide +kernel
theorem dX7_joined_122 : decode cX7_joined 122 = .ok (.ifCond .eq 7, 3) := by decide +kernel
theorem dX7_joined_125 : decode cX7_joined 125 = .ok (.iconst 1, 1) := by decide +kernel
theorem dX7_joined_126 : decode cX7_joined 126 = .ok (.goto 4, 3) := by decide +kernel
theorem dX7_joined_129 : decode cX7_joined 129 = .ok (.iconst 0, 1) := by decide +kernel
theorem dX7_joined_130 : decode cX7_joined 130 = .ok (.invokestatic 51, 3) := by decide +kernel
theorem dX7_joined_133 : decode cX7_joined 133 = .ok (.ireturn, 1) := by decide +kernel
def fX7_joined (a1 : Int32) (a2 : Int32) (a3 : Int32) : Option (Int32) := if a1 = (-25) then if a2 = a3 then Option.bind (fX7_truth true) fun v3 => some v3 else Option.bind (fX7_truth false) fun v1 => some v1 else if a1 = (-24) then if a3 ≤ a2 then Option.bind (fX7_truth false) fun v5 => some v5 else Option.bind (fX7_truth true) fun v7 => some v7 else if a1 = (-23) then some (a2 * a3) else if a1 = (-22) then some (a2 - a3) else if a1 = (-21) then some (a2 + a3) else if a1 = (-20) then if a2 = 0 then if a3 = 0 then Option.bind (fX7_truth false) fun v11 => some v11 else Option.bind (fX7_truth true) fun v13 => some v13 else Option.bind (fX7_truth true) fun v9 => some v9 else if a1 = (-19) then if a2 = 0 then if a3 = 0 then Option.bind (fX7_truth false) fun v17 => some v17 else Option.bind (fX7_truth true) fun v19 => some v19 else Option.bind (fX7_truth true) fun v15 => some v15 else if a1 = (-18) then if a2 = 0 then if a3 = 0 then Option.bind (fX7_truth false) fun v23 => some v23 else Option.bind (fX7_truth true) fun v25 => some v25 else Option.bind (fX7_truth true) fun v21 => some v21 else if a1 = (-17) then if a2 = 0 then if a3 = 0 then Option.bind (fX7_truth false) fun v29 => some v29 else Option.bind (fX7_truth true) fun v31 => some v31 else Option.bind (fX7_truth true) fun v27 => some v27 else if a1 = (-16) then if a2 = 0 then if a3 = 0 then Option.bind (fX7_truth false) fun v35 => some v35 else Option.bind (fX7_truth true) fun v37 => some v37 else Option.bind (fX7_truth true) fun v33 => some v33 else if a1 = (-15) then if a2 = 0 then Option.bind (fX7_truth false) fun v39 => some v39 else if a3 = 0 then Option.bind (fX7_truth false) fun v41 => some v41 else Option.bind (fX7_truth true) fun v43 => some v43 else if a2 = 0 then if a3 = 0 then Option.bind (fX7_truth false) fun v47 => some v47 else Option.bind (fX7_truth true) fun v49 => some v49 else Option.bind (fX7_truth true) fun v45 => some v45
abbrev rmX7_joined : Room := { frames := 1, cells := 0, slots := 0, locals := 20 }
set_option maxHeartbeats 4000000 in
set_option maxRecDepth 100000 in
theorem kX7_joined {l : Launch} {G : xG} {β : Nat} {D : Nat → Prop} {x : XS} {a1 : Int32} {a2 : Int32} {a3 : Int32} {r : Int32} (hm : fX7_joined a1 a2 a3 = some r) : Met l yX7_joined (.code yX7_joined cX7_joined 3 (some .int) :: GT) rmX7_joined (PcW [.int a1, .int a2, .int a3] (CW β D G x) (KK G)) (QcW D (some (.int r)) (CW β D G x)) 0 0 D := by
  unfold fX7_joined at hm
  refine xpro (own := RX7) (by decide +kernel) rfl (Nat.le_of_ble_eq_true rfl) ?_
  intro p e s m args below meth c C hw ls hl
  have hx := C.1
  have hb := C.2.1
  have ho := C.2.2.2.1
  have hts := C.2.2.2.2.1
  have hf : Fz D G s.heap := hw.2.2.2.2
  have hS : va_S D s.heap s.heap [] := va_S.rf
  have hl : lv_has ls 3 [(0, .int a1), (1, .int a2), (2, .int a3)] := hl
  have hRf : 1 ≤ rmX7_joined.frames := Nat.le_refl _
  have hRl : 20 ≤ rmX7_joined.locals := Nat.le_refl _
  have hcs : 0 ≤ rmX7_joined.cells ∧ 0 ≤ rmX7_joined.slots := ⟨Nat.le_refl _, Nat.le_refl _⟩
  refine lv_iload_n hx hb dX7_joined_0 rfl (lv_at hl 0 rfl) ?_
  by_cases k0 : a1 = (-25)
  · replace hm := ite_p k0 hm
    refine lv_tableIn (tgt := 86) (off := 85) hx hb dX7_joined_1 (by rw [k0]; decide) (by rw [k0]; decide) (by rw [k0]; rfl) (by decide) ?_
    refine lv_iload_n hx hb dX7_joined_86 rfl (lv_at hl 1 rfl) ?_
    refine lv_iload_n hx hb dX7_joined_87 rfl (lv_at hl 2 rfl) ?_
    refine lv_icmp_ne (tgt := 95) hx hb dX7_joined_88 (by decide) (fun cc => ?_) (fun cc => ?_)
    · replace hm := ite_n cc hm
      refine lv_iconst (v := 0) hx hb dX7_joined_95 (by decide) ?_
      obtain ⟨v1, h2, hm⟩ := bind_e hm
      refine sX7_51 (a1 := false) C h2 hw hS hl.1 (Nat.le_of_ble_eq_true rfl) (Nat.le_trans (Nat.le_of_ble_eq_true rfl) hRf) (Nat.le_trans (Nat.le_of_ble_eq_true rfl) hRl) hcs dX7_joined_96 (fun H locs hw hS => ?_)
      obtain rfl := Option.some.inj hm
      exact xret_i C hw hS dX7_joined_99
    · replace hm := ite_p cc hm
      refine lv_iconst (v := 1) hx hb dX7_joined_91 (by decide) ?_
      refine lv_goto (tgt := 96) hx hb dX7_joined_92 (by decide) ?_
      obtain ⟨v3, h4, hm⟩ := bind_e hm
      refine sX7_51 (a1 := true) C h4 hw hS hl.1 (Nat.le_of_ble_eq_true rfl) (Nat.le_trans (Nat.le_of_ble_eq_true rfl) hRf) (Nat.le_trans (Nat.le_of_ble_eq_true rfl) hRl) hcs dX7_joined_96 (fun H locs hw hS => ?_)
      obtain rfl := Option.some.inj hm
      exact xret_i C hw hS dX7_joined_99
  replace hm := ite_n k0 hm
  by_cases k1 : a1 = (-24)
  · replace hm := ite_p k1 hm
    refine lv_tableIn (tgt := 72) (off := 71) hx hb dX7_joined_1 (by rw [k1]; decide) (by rw [k1]; decide) (by rw [k1]; rfl) (by decide) ?_
    refine lv_iload_n hx hb dX7_joined_72 rfl (lv_at hl 1 rfl) ?_
    refine lv_iload_n hx hb dX7_joined_73 rfl (lv_at hl 2 rfl) ?_
    refine lv_icmp_ge (tgt := 81) hx hb dX7_joined_74 (by decide) (fun cc => ?_) (fun cc => ?_)
    · replace hm := ite_p cc hm
      refine lv_iconst (v := 0) hx hb dX7_joined_81 (by decide) ?_
      obtain ⟨v5, h6, hm⟩ := bind_e hm
      refine sX7_51 (a1 := false) C h6 hw hS hl.1 (Nat.le_of_ble_eq_true rfl) (Nat.le_trans (Nat.le_of_ble_eq_true rfl) hRf) (Nat.le_trans (Nat.le_of_ble_eq_true rfl) hRl) hcs dX7_joined_82 (fun H locs hw hS => ?_)
      obtain rfl := Option.some.inj hm
      exact xret_i C hw hS dX7_joined_85
    · replace hm := ite_n cc hm
      refine lv_iconst (v := 1) hx hb dX7_joined_77 (by decide) ?_
      refine lv_goto (tgt := 82) hx hb dX7_joined_78 (by decide) ?_
      obtain ⟨v7, h8, hm⟩ := bind_e hm
      refine sX7_51 (a1 := true) C h8 hw hS hl.1 (Nat.le_of_ble_eq_true rfl) (Nat.le_trans (Nat.le_of_ble_eq_true rfl) hRf) (Nat.le_trans (Nat.le_of_ble_eq_true rfl) hRl) hcs dX7_joined_82 (fun H locs hw hS => ?_)
      obtain rfl := Option.some.inj hm
      exact xret_i C hw hS dX7_joined_85
  replace hm := ite_n k1 hm
  by_cases k2 : a1 = (-23)
  · replace hm := ite_p k2 hm
    refine lv_tableIn (tgt := 68) (off := 67) hx hb dX7_joined_1 (by rw [k2]; decide) (by rw [k2]; decide) (by rw [k2]; rfl) (by decide) ?_
    refine lv_iload_n hx hb dX7_joined_68 rfl (lv_at hl 1 rfl) ?_
    refine lv_iload_n hx hb dX7_joined_69 rfl (lv_at hl 2 rfl) ?_
    refine lv_imul hx hb dX7_joined_70 ?_
    obtain rfl := Option.some.inj hm
    exact xret_i C hw hS dX7_joined_71
  replace hm := ite_n k2 hm
  by_cases k3 : a1 = (-22)
  · replace hm := ite_p k3 hm
    refine lv_tableIn (tgt := 64) (off := 63) hx hb dX7_joined_1 (by rw [k3]; decide) (by rw [k3]; decide) (by rw [k3]; rfl) (by decide) ?_
    refine lv_iload_n hx hb dX7_joined_64 rfl (lv_at hl 1 rfl) ?_
    refine lv_iload_n hx hb dX7_joined_65 rfl (lv_at hl 2 rfl) ?_
    refine lv_isub hx hb dX7_joined_66 ?_
    obtain rfl := Option.some.inj hm
    exact xret_i C hw hS dX7_joined_67
  replace hm := ite_n k3 hm
  by_cases k4 : a1 = (-21)
  · replace hm := ite_p k4 hm
    refine lv_tableIn (tgt := 60) (off := 59) hx hb dX7_joined_1 (by rw [k4]; decide) (by rw [k4]; decide) (by rw [k4]; rfl) (by decide) ?_
    refine lv_iload_n hx hb dX7_joined_60 rfl (lv_at hl 1 rfl) ?_
    refine lv_iload_n hx hb dX7_joined_61 rfl (lv_at hl 2 rfl) ?_
    refine lv_iadd hx hb dX7_joined_62 ?_
    obtain rfl := Option.some.inj hm
    exact xret_i C hw hS dX7_joined_63
  replace hm := ite_n k4 hm
  by_cases k5 : a1 = (-20)
  · replace hm := ite_p k5 hm
    refine lv_tableIn (tgt := 117) (off := 116) hx hb dX7_joined_1 (by rw [k5]; decide) (by rw [k5]; decide) (by rw [k5]; rfl) (by decide) ?_
    refine lv_iload_n hx hb dX7_joined_117 rfl (lv_at hl 1 rfl) ?_
    refine lv_if_ne (tgt := 125) hx hb dX7_joined_118 (by decide) (fun cc => ?_) (fun cc => ?_)
    · replace hm := ite_n cc hm
      refine lv_iconst (v := 1) hx hb dX7_joined_125 (by decide) ?_
      refine lv_goto (tgt := 130) hx hb dX7_joined_126 (by decide) ?_
      obtain ⟨v9, h10, hm⟩ := bind_e hm
      refine sX7_51 (a1 := true) C h10 hw hS hl.1 (Nat.le_of_ble_eq_true rfl) (Nat.le_trans (Nat.le_of_ble_eq_true rfl) hRf) (Nat.le_trans (Nat.le_of_ble_eq_true rfl) hRl) hcs dX7_joined_130 (fun H locs hw hS => ?_)
      obtain rfl := Option.some.inj hm
      exact xret_i C hw hS dX7_joined_133
    · replace hm := ite_p cc hm
      refine lv_iload_n hx hb dX7_joined_121 rfl (lv_at hl 2 rfl) ?_
      refine lv_if_eq (tgt := 129) hx hb dX7_joined_122 (by decide) (fun cc => ?_) (fun cc => ?_)
      · replace hm := ite_p cc hm
        refine lv_iconst (v := 0) hx hb dX7_joined_129 (by decide) ?_
        obtain ⟨v11, h12, hm⟩ := bind_e hm
        refine sX7_51 (a1 := false) C h12 hw hS hl.1 (Nat.le_of_ble_eq_true rfl) (Nat.le_trans (Nat.le_of_ble_eq_true rfl) hRf) (Nat.le_trans (Nat.le_of_ble_eq_true rfl) hRl) hcs dX7_joined_130 (fun H locs hw hS => ?_)
        obtain rfl := Option.some.inj hm
        exact xret_i C hw hS dX7_joined_133
      · replace hm := ite_n cc hm
        refine lv_iconst (v := 1) hx hb dX7_joined_125 (by decide) ?_
        refine lv_goto (tgt := 130) hx hb dX7_joined_126 (by decide) ?_
        obtain ⟨v13, h14, hm⟩ := bind_e hm
        refine sX7_51 (a1 := true) C h14 hw hS hl.1 (Nat.le_of_ble_eq_true rfl) (Nat.le_trans (Nat.le_of_ble_eq_true rfl) hRf) (Nat.le_trans (Nat.le_of_ble_eq_true rfl) hRl) hcs dX7_joined_130 (fun H locs hw hS => ?_)
        obtain rfl := Option.some.inj hm
        exact xret_i C hw hS dX7_joined_133
  replace hm := ite_n k5 hm
  by_cases k6 : a1 = (-19)
  · replace hm := ite_p k6 hm
    refine lv_tableIn (tgt := 117) (off := 116) hx hb dX7_joined_1 (by rw [k6]; decide) (by rw [k6]; decide) (by rw [k6]; rfl) (by decide) ?_
    refine lv_iload_n hx hb dX7_joined_117 rfl (lv_at hl 1 rfl) ?_
    refine lv_if_ne (tgt := 125) hx hb dX7_joined_118 (by decide) (fun cc => ?_) (fun cc => ?_)
    · replace hm := ite_n cc hm
      refine lv_iconst (v := 1) hx hb dX7_joined_125 (by decide) ?_
      refine lv_goto (tgt := 130) hx hb dX7_joined_126 (by decide) ?_
      obtain ⟨v15, h16, hm⟩ := bind_e hm
      refine sX7_51 (a1 := true) C h16 hw hS hl.1 (Nat.le_of_ble_eq_true rfl) (Nat.le_trans (Nat.le_of_ble_eq_true rfl) hRf) (Nat.le_trans (Nat.le_of_ble_eq_true rfl) hRl) hcs dX7_joined_130 (fun H locs hw hS => ?_)
      obtain rfl := Option.some.inj hm
      exact xret_i C hw hS dX7_joined_133
    · replace hm := ite_p cc hm
      refine lv_iload_n hx hb dX7_joined_121 rfl (lv_at hl 2 rfl) ?_
      refine lv_if_eq (tgt := 129) hx hb dX7_joined_122 (by decide) (fun cc => ?_) (fun cc => ?_)
      · replace hm := ite_p cc hm
        refine lv_iconst (v := 0) hx hb dX7_joined_129 (by decide) ?_
        obtain ⟨v17, h18, hm⟩ := bind_e hm
        refine sX7_51 (a1 := false) C h18 hw hS hl.1 (Nat.le_of_ble_eq_true rfl) (Nat.le_trans (Nat.le_of_ble_eq_true rfl) hRf) (Nat.le_trans (Nat.le_of_ble_eq_true rfl) hRl) hcs dX7_joined_130 (fun H locs hw hS => ?_)
        obtain rfl := Option.some.inj hm
        exact xret_i C hw hS dX7_joined_133
      · replace hm := ite_n cc hm
        refine lv_iconst (v := 1) hx hb dX7_joined_125 (by decide) ?_
        refine lv_goto (tgt := 130) hx hb dX7_joined_126 (by decide) ?_
        obtain ⟨v19, h20, hm⟩ := bind_e hm
        refine sX7_51 (a1 := true) C h20 hw hS hl.1 (Nat.le_of_ble_eq_true rfl) (Nat.le_trans (Nat.le_of_ble_eq_true rfl) hRf) (Nat.le_trans (Nat.le_of_ble_eq_true rfl) hRl) hcs dX7_joined_130 (fun H locs hw hS => ?_)
        obtain rfl := Option.some.inj hm
        exact xret_i C hw hS dX7_joined_133
  replace hm := ite_n k6 hm
  by_cases k7 : a1 = (-18)
  · replace hm := ite_p k7 hm
    refine lv_tableIn (tgt := 117) (off := 116) hx hb dX7_joined_1 (by rw [k7]; decide) (by rw [k7]; decide) (by rw [k7]; rfl) (by decide) ?_
    refine lv_iload_n hx hb dX7_joined_117 rfl (lv_at hl 1 rfl) ?_
    refine lv_if_ne (tgt := 125) hx hb dX7_joined_118 (by decide) (fun cc => ?_) (fun cc => ?_)
    · replace hm := ite_n cc hm
      refine lv_iconst (v := 1) hx hb dX7_joined_125 (by decide) ?_
      refine lv_goto (tgt := 130) hx hb dX7_joined_126 (by decide) ?_
      obtain ⟨v21, h22, hm⟩ := bind_e hm
      refine sX7_51 (a1 := true) C h22 hw hS hl.1 (Nat.le_of_ble_eq_true rfl) (Nat.le_trans (Nat.le_of_ble_eq_true rfl) hRf) (Nat.le_trans (Nat.le_of_ble_eq_true rfl) hRl) hcs dX7_joined_130 (fun H locs hw hS => ?_)
      obtain rfl := Option.some.inj hm
      exact xret_i C hw hS dX7_joined_133
    · replace hm := ite_p cc hm
      refine lv_iload_n hx hb dX7_joined_121 rfl (lv_at hl 2 rfl) ?_
      refine lv_if_eq (tgt := 129) hx hb dX7_joined_122 (by decide) (fun cc => ?_) (fun cc => ?_)
      · replace hm := ite_p cc hm
        refine lv_iconst (v := 0) hx hb dX7_joined_129 (by decide) ?_
        obtain ⟨v23, h24, hm⟩ := bind_e hm
        refine sX7_51 (a1 := false) C h24 hw hS hl.1 (Nat.le_of_ble_eq_true rfl) (Nat.le_trans (Nat.le_of_ble_eq_true rfl) hRf) (Nat.le_trans (Nat.le_of_ble_eq_true rfl) hRl) hcs dX7_joined_130 (fun H locs hw hS => ?_)
        obtain rfl := Option.some.inj hm
        exact xret_i C hw hS dX7_joined_133
      · replace hm := ite_n cc hm
        refine lv_iconst (v := 1) hx hb dX7_joined_125 (by decide) ?_
        refine lv_goto (tgt := 130) hx hb dX7_joined_126 (by decide) ?_
        obtain ⟨v25, h26, hm⟩ := bind_e hm
        refine sX7_51 (a1 := true) C h26 hw hS hl.1 (Nat.le_of_ble_eq_true rfl) (Nat.le_trans (Nat.le_of_ble_eq_true rfl) hRf) (Nat.le_trans (Nat.le_of_ble_eq_true rfl) hRl) hcs dX7_joined_130 (fun H locs hw hS => ?_)
        obtain rfl := Option.some.inj hm
        exact xret_i C hw hS dX7_joined_133
  replace hm := ite_n k7 hm
  by_cases k8 : a1 = (-17)
  · replace hm := ite_p k8 hm
    refine lv_tableIn (tgt := 117) (off := 116) hx hb dX7_joined_1 (by rw [k8]; decide) (by rw [k8]; decide) (by rw [k8]; rfl) (by decide) ?_
    refine lv_iload_n hx hb dX7_joined_117 rfl (lv_at hl 1 rfl) ?_
    refine lv_if_ne (tgt := 125) hx hb dX7_joined_118 (by decide) (fun cc => ?_) (fun cc => ?_)
    · replace hm := ite_n cc hm
      refine lv_iconst (v := 1) hx hb dX7_joined_125 (by decide) ?_
      refine lv_goto (tgt := 130) hx hb dX7_joined_126 (by decide) ?_
      obtain ⟨v27, h28, hm⟩ := bind_e hm
      refine sX7_51 (a1 := true) C h28 hw hS hl.1 (Nat.le_of_ble_eq_true rfl) (Nat.le_trans (Nat.le_of_ble_eq_true rfl) hRf) (Nat.le_trans (Nat.le_of_ble_eq_true rfl) hRl) hcs dX7_joined_130 (fun H locs hw hS => ?_)
      obtain rfl := Option.some.inj hm
      exact xret_i C hw hS dX7_joined_133
    · replace hm := ite_p cc hm
      refine lv_iload_n hx hb dX7_joined_121 rfl (lv_at hl 2 rfl) ?_
      refine lv_if_eq (tgt := 129) hx hb dX7_joined_122 (by decide) (fun cc => ?_) (fun cc => ?_)
      · replace hm := ite_p cc hm
        refine lv_iconst (v := 0) hx hb dX7_joined_129 (by decide) ?_
        obtain ⟨v29, h30, hm⟩ := bind_e hm
        refine sX7_51 (a1 := false) C h30 hw hS hl.1 (Nat.le_of_ble_eq_true rfl) (Nat.le_trans (Nat.le_of_ble_eq_true rfl) hRf) (Nat.le_trans (Nat.le_of_ble_eq_true rfl) hRl) hcs dX7_joined_130 (fun H locs hw hS => ?_)
        obtain rfl := Option.some.inj hm
        exact xret_i C hw hS dX7_joined_133
      · replace hm := ite_n cc hm
        refine lv_iconst (v := 1) hx hb dX7_joined_125 (by decide) ?_
        refine lv_goto (tgt := 130) hx hb dX7_joined_126 (by decide) ?_
        obtain ⟨v31, h32, hm⟩ := bind_e hm
        refine sX7_51 (a1 := true) C h32 hw hS hl.1 (Nat.le_of_ble_eq_true rfl) (Nat.le_trans (Nat.le_of_ble_eq_true rfl) hRf) (Nat.le_trans (Nat.le_of_ble_eq_true rfl) hRl) hcs dX7_joined_130 (fun H locs hw hS => ?_)
        obtain rfl := Option.some.inj hm
        exact xret_i C hw hS dX7_joined_133
  replace hm := ite_n k8 hm
  by_cases k9 : a1 = (-16)
  · replace hm := ite_p k9 hm
    refine lv_tableIn (tgt := 117) (off := 116) hx hb dX7_joined_1 (by rw [k9]; decide) (by rw [k9]; decide) (by rw [k9]; rfl) (by decide) ?_
    refine lv_iload_n hx hb dX7_joined_117 rfl (lv_at hl 1 rfl) ?_
    refine lv_if_ne (tgt := 125) hx hb dX7_joined_118 (by decide) (fun cc => ?_) (fun cc => ?_)
    · replace hm := ite_n cc hm
      refine lv_iconst (v := 1) hx hb dX7_joined_125 (by decide) ?_
      refine lv_goto (tgt := 130) hx hb dX7_joined_126 (by decide) ?_
      obtain ⟨v33, h34, hm⟩ := bind_e hm
      refine sX7_51 (a1 := true) C h34 hw hS hl.1 (Nat.le_of_ble_eq_true rfl) (Nat.le_trans (Nat.le_of_ble_eq_true rfl) hRf) (Nat.le_trans (Nat.le_of_ble_eq_true rfl) hRl) hcs dX7_joined_130 (fun H locs hw hS => ?_)
      obtain rfl := Option.some.inj hm
      exact xret_i C hw hS dX7_joined_133
    · replace hm := ite_p cc hm
      refine lv_iload_n hx hb dX7_joined_121 rfl (lv_at hl 2 rfl) ?_
      refine lv_if_eq (tgt := 129) hx hb dX7_joined_122 (by decide) (fun cc => ?_) (fun cc => ?_)
      · replace hm := ite_p cc hm
        refine lv_iconst (v := 0) hx hb dX7_joined_129 (by decide) ?_
        obtain ⟨v35, h36, hm⟩ := bind_e hm
        refine sX7_51 (a1 := false) C h36 hw hS hl.1 (Nat.le_of_ble_eq_true rfl) (Nat.le_trans (Nat.le_of_ble_eq_true rfl) hRf) (Nat.le_trans (Nat.le_of_ble_eq_true rfl) hRl) hcs dX7_joined_130 (fun H locs hw hS => ?_)
        obtain rfl := Option.some.inj hm
        exact xret_i C hw hS dX7_joined_133
      · replace hm := ite_n cc hm
        refine lv_iconst (v := 1) hx hb dX7_joined_125 (by decide) ?_
        refine lv_goto (tgt := 130) hx hb dX7_joined_126 (by decide) ?_
        obtain ⟨v37, h38, hm⟩ := bind_e hm
        refine sX7_51 (a1 := true) C h38 hw hS hl.1 (Nat.le_of_ble_eq_true rfl) (Nat.le_trans (Nat.le_of_ble_eq_true rfl) hRf) (Nat.le_trans (Nat.le_of_ble_eq_true rfl) hRl) hcs dX7_joined_130 (fun H locs hw hS => ?_)
        obtain rfl := Option.some.inj hm
        exact xret_i C hw hS dX7_joined_133
  replace hm := ite_n k9 hm
  by_cases k10 : a1 = (-15)
  · replace hm := ite_p k10 hm
    refine lv_tableIn (tgt := 100) (off := 99) hx hb dX7_joined_1 (by rw [k10]; decide) (by rw [k10]; decide) (by rw [k10]; rfl) (by decide) ?_
    refine lv_iload_n hx hb dX7_joined_100 rfl (lv_at hl 1 rfl) ?_
    refine lv_if_eq (tgt := 112) hx hb dX7_joined_101 (by decide) (fun cc => ?_) (fun cc => ?_)
    · replace hm := ite_p cc hm
      refine lv_iconst (v := 0) hx hb dX7_joined_112 (by decide) ?_
      obtain ⟨v39, h40, hm⟩ := bind_e hm
      refine sX7_51 (a1 := false) C h40 hw hS hl.1 (Nat.le_of_ble_eq_true rfl) (Nat.le_trans (Nat.le_of_ble_eq_true rfl) hRf) (Nat.le_trans (Nat.le_of_ble_eq_true rfl) hRl) hcs dX7_joined_113 (fun H locs hw hS => ?_)
      obtain rfl := Option.some.inj hm
      exact xret_i C hw hS dX7_joined_116
    · replace hm := ite_n cc hm
      refine lv_iload_n hx hb dX7_joined_104 rfl (lv_at hl 2 rfl) ?_
      refine lv_if_eq (tgt := 112) hx hb dX7_joined_105 (by decide) (fun cc => ?_) (fun cc => ?_)
      · replace hm := ite_p cc hm
        refine lv_iconst (v := 0) hx hb dX7_joined_112 (by decide) ?_
        obtain ⟨v41, h42, hm⟩ := bind_e hm
        refine sX7_51 (a1 := false) C h42 hw hS hl.1 (Nat.le_of_ble_eq_true rfl) (Nat.le_trans (Nat.le_of_ble_eq_true rfl) hRf) (Nat.le_trans (Nat.le_of_ble_eq_true rfl) hRl) hcs dX7_joined_113 (fun H locs hw hS => ?_)
        obtain rfl := Option.some.inj hm
        exact xret_i C hw hS dX7_joined_116
      · replace hm := ite_n cc hm
        refine lv_iconst (v := 1) hx hb dX7_joined_108 (by decide) ?_
        refine lv_goto (tgt := 113) hx hb dX7_joined_109 (by decide) ?_
        obtain ⟨v43, h44, hm⟩ := bind_e hm
        refine sX7_51 (a1 := true) C h44 hw hS hl.1 (Nat.le_of_ble_eq_true rfl) (Nat.le_trans (Nat.le_of_ble_eq_true rfl) hRf) (Nat.le_trans (Nat.le_of_ble_eq_true rfl) hRl) hcs dX7_joined_113 (fun H locs hw hS => ?_)
        obtain rfl := Option.some.inj hm
        exact xret_i C hw hS dX7_joined_116
  replace hm := ite_n k10 hm
  have k0i := lv_neT k0 (a := (-25)) (by decide)
  have k1i := lv_neT k1 (a := (-24)) (by decide)
  have k2i := lv_neT k2 (a := (-23)) (by decide)
  have k3i := lv_neT k3 (a := (-22)) (by decide)
  have k4i := lv_neT k4 (a := (-21)) (by decide)
  have k5i := lv_neT k5 (a := (-20)) (by decide)
  have k6i := lv_neT k6 (a := (-19)) (by decide)
  have k7i := lv_neT k7 (a := (-18)) (by decide)
  have k8i := lv_neT k8 (a := (-17)) (by decide)
  have k9i := lv_neT k9 (a := (-16)) (by decide)
  have k10i := lv_neT k10 (a := (-15)) (by decide)
  refine lv_tableOut (tgt := 117) hx hb dX7_joined_1 (by omega) (by decide) ?_
  refine lv_iload_n hx hb dX7_joined_117 rfl (lv_at hl 1 rfl) ?_
  refine lv_if_ne (tgt := 125) hx hb dX7_joined_118 (by decide) (fun cc => ?_) (fun cc => ?_)
  · replace hm := ite_n cc hm
    refine lv_iconst (v := 1) hx hb dX7_joined_125 (by decide) ?_
    refine lv_goto (tgt := 130) hx hb dX7_joined_126 (by decide) ?_
    obtain ⟨v45, h46, hm⟩ := bind_e hm
    refine sX7_51 (a1 := true) C h46 hw hS hl.1 (Nat.le_of_ble_eq_true rfl) (Nat.le_trans (Nat.le_of_ble_eq_true rfl) hRf) (Nat.le_trans (Nat.le_of_ble_eq_true rfl) hRl) hcs dX7_joined_130 (fun H locs hw hS => ?_)
    obtain rfl := Option.some.inj hm
    exact xret_i C hw hS dX7_joined_133
  · replace hm := ite_p cc hm
    refine lv_iload_n hx hb dX7_joined_121 rfl (lv_at hl 2 rfl) ?_
    refine lv_if_eq (tgt := 129) hx hb dX7_joined_122 (by decide) (fun cc => ?_) (fun cc => ?_)
    · replace hm := ite_p cc hm
      refine lv_iconst (v := 0) hx hb dX7_joined_129 (by decide) ?_
      obtain ⟨v47, h48, hm⟩ := bind_e hm
      refine sX7_51 (a1 := false) C h48 hw hS hl.1 (Nat.le_of_ble_eq_true rfl) (Nat.le_trans (Nat.le_of_ble_eq_true rfl) hRf) (Nat.le_trans (Nat.le_of_ble_eq_true rfl) hRl) hcs dX7_joined_130 (fun H locs hw hS => ?_)
      obtain rfl := Option.some.inj hm
      exact xret_i C hw hS dX7_joined_133
    · replace hm := ite_n cc hm
      refine lv_iconst (v := 1) hx hb dX7_joined_125 (by decide) ?_
      refine lv_goto (tgt := 130) hx hb dX7_joined_126 (by decide) ?_
      obtain ⟨v49, h50, hm⟩ := bind_e hm
      refine sX7_51 (a1 := true) C h50 hw hS hl.1 (Nat.le_of_ble_eq_true rfl) (Nat.le_trans (Nat.le_of_ble_eq_true rfl) hRf) (Nat.le_trans (Nat.le_of_ble_eq_true rfl) hRl) hcs dX7_joined_130 (fun H locs hw hS => ?_)
      obtain rfl := Option.some.inj hm
      exact xret_i C hw hS dX7_joined_133
theorem dX7_pop_0 : decode cX7_pop 0 = .ok (.aload_n 0, 1) := by decide +kernel
theorem dX7_pop_1 : decode cX7_pop 1 = .ok (.getfield 18, 3) := by decide +kernel
theorem dX7_pop_4 : decode cX7_pop 4 = .ok (.iconst 1, 1) := by decide +kernel
theorem dX7_pop_5 : decode cX7_pop 5 = .ok (.if_icmp .ge 5, 3) := by decide +kernel
theorem dX7_pop_8 : decode cX7_pop 8 = .ok (.iconst 0, 1) := by decide +kernel
theorem dX7_pop_9 : decode cX7_pop 9 = .ok (.ireturn, 1) := by decide +kernel
theorem dX7_pop_10 : decode cX7_pop 10 = .ok (.aload_n 0, 1) := by decide +kernel
theorem dX7_pop_11 : decode cX7_pop 11 = .ok (.dup, 1) := by decide +kernel
theorem dX7_pop_12 : decode cX7_pop 12 = .ok (.getfield 18, 3) := by decide +kernel
theorem dX7_pop_15 : decode cX7_pop 15 = .ok (.iconst 1, 1) := by decide +kernel
theorem dX7_pop_16 : decode cX7_pop 16 = .ok (.isub, 1) := by decide +kernel
theorem dX7_pop_17 : decode cX7_pop 17 = .ok (.putfield 18, 3) := by decide +kernel
theorem dX7_pop_20 : decode cX7_pop 20 = .ok (.aload_n 0, 1) := by decide +kernel
theorem dX7_pop_21 : decode cX7_pop 21 = .ok (.getfield 15, 3) := by decide +kernel
theorem dX7_pop_24 : decode cX7_pop 24 = .ok (.aload_n 0, 1) := by decide +kernel
theorem dX7_pop_25 : decode cX7_pop 25 = .ok (.getfield 18, 3) := by decide +kernel
theorem dX7_pop_28 : decode cX7_pop 28 = .ok (.iaload, 1) := by decide +kernel
theorem dX7_pop_29 : decode cX7_pop 29 = .ok (.ireturn, 1) := by decide +kernel
theorem iwX7 : ∀ w ∈ u_ws RX7 TX7 4, w ∈ GT := in_tb [333, 335, 337, 339] (by decide +kernel) (by decide +kernel)
theorem gdX7_18 {p : Program} {l : Launch} {e : Env} {R : Room} {s : State} {m : MethodId} {args : Array Value} {below : List Frame} {meth : Method} {c : Code} {H : Heap} {locs : List Loc} {cells slots : Nat} {Q : State → Prop} {cc : ByteArray} {pc nL : Nat} {ls : Array Slot} {rest : List Value} {ret : Option FieldType}  {G : xG} {β : Nat} {D : Nat → Prop} {x : XS} {a : Nat} {v : Int32} (C : Cx p s m args meth c RX7 cc nL ret (KK G)) (h : dI x a 7 3 = some v) (hw : CW β D G x H) (hd : decode cc pc = .ok (.getfield 18, 3)) (kk : W p l e R s m args below meth c H locs cells slots Q (F0 m (pc + 3) ls (.int v :: rest))) : W p l e R s m args below meth c H locs cells slots Q (F0 m pc ls (.ref a :: rest)) := by
  obtain ⟨fs, h1, h2⟩ := dI_e h
  exact va_get (ci := 7) (fs := fs) C.1 C.2.1 C.2.2.2.2.1 iwX7 C.2.2.2.1 C.K.1 (xP1 (hw.2.2.2.1 a _ h1).2.2.2) 0 rfl rfl 3 (by decide) (C.2.2.2.2.1 (.fieldLink RX7 18 RX7 "depth" "I") (tg 332 (by decide +kernel) rfl)) (fun _ h9 => h9) h2 hd kk
theorem pdX7_18 {p : Program} {l : Launch} {e : Env} {R : Room} {s : State} {m : MethodId} {args : Array Value} {below : List Frame} {meth : Method} {c : Code} {H : Heap} {locs : List Loc} {cells slots : Nat} {Q : State → Prop} {cc : ByteArray} {pc nL : Nat} {ls : Array Slot} {rest : List Value} {ret : Option FieldType}  {G : xG} {β : Nat} {D : Nat → Prop} {x x' : XS} {a : Nat} {v : Int32} (C : Cx p s m args meth c RX7 cc nL ret (KK G)) (h : dPut x a 7 3 (.int v) = some x') (hw : CW β D G x H) (hS : va_S D s.heap H locs) (hd : decode cc pc = .ok (.putfield 18, 3)) (kk : ∀ (H1 : Heap) (locs1 : List Loc), CW β D G x' H1 → va_S D s.heap H1 locs1 → W p l e R s m args below meth c H1 locs1 cells slots Q (F0 m (pc + 3) ls (rest))) : W p l e R s m args below meth c H locs cells slots Q (F0 m pc ls (.int v :: .ref a :: rest)) := by
  obtain ⟨fs, h1, h2, rfl⟩ := dPut_e h
  exact x_put (ci := 7) (fs := fs) C.1 C.2.1 C.2.2.2.2.1 iwX7 tyX7 tyX7_ok nmX7 C.2.2.2.1 C.K.1 hS (hw.2.2.2.1 a _ h1).2.2.2 (hw.2.2.2.1 a _ h1).1 rfl 3 (by decide) (C.2.2.2.2.1 (.fieldLink RX7 18 RX7 "depth" "I") (tg 332 (by decide +kernel) rfl)) (fun _ h9 => h9) rfl (ty := .int) (by decide +kernel) rfl rfl h2 hd (fun H1 locs1 hat ho hS => kk H1 locs1 (hw.setD h1 hat ho) hS)
theorem gdX7_15 {p : Program} {l : Launch} {e : Env} {R : Room} {s : State} {m : MethodId} {args : Array Value} {below : List Frame} {meth : Method} {c : Code} {H : Heap} {locs : List Loc} {cells slots : Nat} {Q : State → Prop} {cc : ByteArray} {pc nL : Nat} {ls : Array Slot} {rest : List Value} {ret : Option FieldType}  {G : xG} {β : Nat} {D : Nat → Prop} {x : XS} {a : Nat} {v : Nat} (C : Cx p s m args meth c RX7 cc nL ret (KK G)) (h : dP x a 7 2 = some v) (hw : CW β D G x H) (hd : decode cc pc = .ok (.getfield 15, 3)) (kk : W p l e R s m args below meth c H locs cells slots Q (F0 m (pc + 3) ls (.ref v :: rest))) : W p l e R s m args below meth c H locs cells slots Q (F0 m pc ls (.ref a :: rest)) := by
  obtain ⟨fs, h1, h2⟩ := dP_e h
  exact va_get (ci := 7) (fs := fs) C.1 C.2.1 C.2.2.2.2.1 iwX7 C.2.2.2.1 C.K.1 (xP1 (hw.2.2.2.1 a _ h1).2.2.2) 0 rfl rfl 2 (by decide) (C.2.2.2.2.1 (.fieldLink RX7 15 RX7 "waiting" "[I") (tg 331 (by decide +kernel) rfl)) (fun _ h9 => h9) h2 hd kk
def fX7_pop (x : XS) (a0 : Nat) : Option (Int32 × XS) := Option.bind (dI x a0 7 3) fun v1 => if 1 ≤ v1 then Option.bind (dI x a0 7 3) fun v3 => Option.bind (dPut x a0 7 3 (.int (v3 - 1))) fun x5 => Option.bind (dP x5 a0 7 2) fun v7 => Option.bind (dI x5 a0 7 3) fun v9 => Option.bind (dA x5 v7 v9) fun v11 => some (v11, x5) else some (0, x)
abbrev rmX7_pop : Room := { frames := 0, cells := 0, slots := 0, locals := 0 }
set_option maxHeartbeats 4000000 in
set_option maxRecDepth 100000 in
theorem kX7_pop {l : Launch} {G : xG} {β : Nat} {D : Nat → Prop} {x x' : XS} {a0 : Nat} {r : Int32} (hm : fX7_pop x a0 = some (r, x')) : Met l yX7_pop (.code yX7_pop cX7_pop 1 (some .int) :: GT) rmX7_pop (PcW [.ref a0] (CW β D G x) (KK G)) (QcW D (some (.int r)) (CW β D G x')) 0 0 D := by
  unfold fX7_pop at hm
  refine xpro (own := RX7) (by decide +kernel) rfl (Nat.le_of_ble_eq_true rfl) ?_
  intro p e s m args below meth c C hw ls hl
  have hx := C.1
  have hb := C.2.1
  have ho := C.2.2.2.1
  have hts := C.2.2.2.2.1
  have hf : Fz D G s.heap := hw.2.2.2.2
  have hS : va_S D s.heap s.heap [] := va_S.rf
  have hl : lv_has ls 1 [(0, .ref a0)] := hl
  have hRf : 0 ≤ rmX7_pop.frames := Nat.le_refl _
  have hRl : 0 ≤ rmX7_pop.locals := Nat.le_refl _
  have hcs : 0 ≤ rmX7_pop.cells ∧ 0 ≤ rmX7_pop.slots := ⟨Nat.le_refl _, Nat.le_refl _⟩
  refine lv_aload_n hx hb dX7_pop_0 rfl (lv_at hl 0 rfl) ?_
  obtain ⟨v1, h2, hm⟩ := bind_e hm
  refine gdX7_18 C h2 hw dX7_pop_1 ?_
  refine lv_iconst (v := 1) hx hb dX7_pop_4 (by decide) ?_
  refine lv_icmp_ge (tgt := 10) hx hb dX7_pop_5 (by decide) (fun cc => ?_) (fun cc => ?_)
  · replace hm := ite_p cc hm
    refine lv_aload_n hx hb dX7_pop_10 rfl (lv_at hl 0 rfl) ?_
    refine lv_dup hx hb dX7_pop_11 rfl ?_
    obtain ⟨v3, h4, hm⟩ := bind_e hm
    refine gdX7_18 C h4 hw dX7_pop_12 ?_
    refine lv_iconst (v := 1) hx hb dX7_pop_15 (by decide) ?_
    refine lv_isub hx hb dX7_pop_16 ?_
    obtain ⟨x5, h6, hm⟩ := bind_e hm
    refine pdX7_18 C h6 hw hS dX7_pop_17 (fun H locs hw hS => ?_)
    refine lv_aload_n hx hb dX7_pop_20 rfl (lv_at hl 0 rfl) ?_
    obtain ⟨v7, h8, hm⟩ := bind_e hm
    refine gdX7_15 C h8 hw dX7_pop_21 ?_
    refine lv_aload_n hx hb dX7_pop_24 rfl (lv_at hl 0 rfl) ?_
    obtain ⟨v9, h10, hm⟩ := bind_e hm
    refine gdX7_18 C h10 hw dX7_pop_25 ?_
    obtain ⟨v11, h12, hm⟩ := bind_e hm
    refine x_dald C h12 hw dX7_pop_28 ?_
    obtain ⟨rfl, rfl⟩ := inj2 hm
    exact xret_i C hw hS dX7_pop_29
  · replace hm := ite_n cc hm
    refine lv_iconst (v := 0) hx hb dX7_pop_8 (by decide) ?_
    obtain ⟨rfl, rfl⟩ := inj2 hm
    exact xret_i C hw hS dX7_pop_9
