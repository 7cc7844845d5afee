theorem dX8_cell_0 : decode cX8_cell 0 = .ok (.iload_n 1, 1) := by decide +kernel
theorem dX8_cell_1 : decode cX8_cell 1 = .ok (.invokestatic 331, 3) := by decide +kernel
theorem dX8_cell_4 : decode cX8_cell 4 = .ok (.ifCond .ne 6, 3) := by decide +kernel
theorem dX8_cell_7 : decode cX8_cell 7 = .ok (.bipush (-2), 2) := by decide +kernel
theorem dX8_cell_9 : decode cX8_cell 9 = .ok (.ireturn, 1) := by decide +kernel
theorem dX8_cell_10 : decode cX8_cell 10 = .ok (.aload_n 0, 1) := by decide +kernel
theorem dX8_cell_11 : decode cX8_cell 11 = .ok (.getfield 65, 3) := by decide +kernel
theorem dX8_cell_14 : decode cX8_cell 14 = .ok (.iload_n 1, 1) := by decide +kernel
theorem dX8_cell_15 : decode cX8_cell 15 = .ok (.aaload, 1) := by decide +kernel
theorem dX8_cell_16 : decode cX8_cell 16 = .ok (.astore 4, 2) := by decide +kernel
theorem dX8_cell_18 : decode cX8_cell 18 = .ok (.aload 4, 2) := by decide +kernel
theorem dX8_cell_20 : decode cX8_cell 20 = .ok (.ifnonnull 6, 3) := by decide +kernel
theorem dX8_cell_23 : decode cX8_cell 23 = .ok (.bipush (-11), 2) := by decide +kernel
theorem dX8_cell_25 : decode cX8_cell 25 = .ok (.ireturn, 1) := by decide +kernel
theorem dX8_cell_26 : decode cX8_cell 26 = .ok (.iload_n 2, 1) := by decide +kernel
theorem dX8_cell_27 : decode cX8_cell 27 = .ok (.iconst 0, 1) := by decide +kernel
theorem dX8_cell_28 : decode cX8_cell 28 = .ok (.aload 4, 2) := by decide +kernel
theorem dX8_cell_30 : decode cX8_cell 30 = .ok (.getfield 336, 3) := by decide +kernel
theorem dX8_cell_33 : decode cX8_cell 33 = .ok (.arraylength, 1) := by decide +kernel
theorem dX8_cell_34 : decode cX8_cell 34 = .ok (.iconst 1, 1) := by decide +kernel
theorem dX8_cell_35 : decode cX8_cell 35 = .ok (.isub, 1) := by decide +kernel
theorem dX8_cell_36 : decode cX8_cell 36 = .ok (.invokestatic 138, 3) := by decide +kernel
theorem dX8_cell_39 : decode cX8_cell 39 = .ok (.ifCond .ne 6, 3) := by decide +kernel
theorem dX8_cell_42 : decode cX8_cell 42 = .ok (.bipush (-12), 2) := by decide +kernel
theorem dX8_cell_44 : decode cX8_cell 44 = .ok (.ireturn, 1) := by decide +kernel
theorem dX8_cell_45 : decode cX8_cell 45 = .ok (.aload 4, 2) := by decide +kernel
theorem dX8_cell_47 : decode cX8_cell 47 = .ok (.getfield 336, 3) := by decide +kernel
theorem dX8_cell_50 : decode cX8_cell 50 = .ok (.iload_n 2, 1) := by decide +kernel
theorem dX8_cell_51 : decode cX8_cell 51 = .ok (.aload 4, 2) := by decide +kernel
theorem dX8_cell_53 : decode cX8_cell 53 = .ok (.iload_n 3, 1) := by decide +kernel
theorem dX8_cell_54 : decode cX8_cell 54 = .ok (.invokevirtual 339, 3) := by decide +kernel
theorem dX8_cell_57 : decode cX8_cell 57 = .ok (.iastore, 1) := by decide +kernel
theorem dX8_cell_58 : decode cX8_cell 58 = .ok (.iconst 1, 1) := by decide +kernel
theorem dX8_cell_59 : decode cX8_cell 59 = .ok (.ireturn, 1) := by decide +kernel
theorem sX8_331 {p : Program} {l : Launch} {e : Env} {R : Room} {s : State} {m : MethodId} {args : Array Value} {below : List Frame} {meth : Method} {c : Code} {H : Heap} {locs : List Loc} {cells slots : Nat} {Q : State → Prop} {cc : ByteArray} {pc nL : Nat} {ls : Array Slot} {rest : List Value} {ret : Option FieldType}  {G : xG} {β : Nat} {D : Nat → Prop} {x : XS} {a1 : Int32} {r : Bool} (C : Cx p s m args meth c RX8 cc nL ret (KK G)) (h : fX8_isSheet a1 = some r) (hw : CW β D G x H) (hS : va_S D s.heap H locs) (hsz : ls.size = nL) (hW : (rest.map fun v => v.category).sum ≤ 8) (hR : 2 ≤ R.frames) (hR2 : 42 ≤ R.locals) (hcs : cells ≤ R.cells ∧ slots ≤ R.slots) (hd : decode cc pc = .ok (.invokestatic 331, 3)) (kk : ∀ (H1 : Heap) (locs1 : List Loc), CW β D G x H1 → va_S D s.heap H1 locs1 → W p l e R s m args below meth c H1 locs1 cells slots Q (F0 m (pc + 3) ls (.int (bI r) :: rest))) : W p l e R s m args below meth c H locs cells slots Q (F0 m pc ls (.int a1 :: rest)) := by
  exact xcallS C (As := [.int a1]) (rest := rest) (nA := 1) (kX8_isSheet h) (tg 853 (by decide +kernel) rfl) (tg 854 (by decide +kernel) rfl) (tg 1 (by decide +kernel) rfl) (tg 855 (by decide +kernel) rfl) ⟨by decide +kernel, by decide +kernel, by decide +kernel⟩ rfl rfl ⟨hR, hR2⟩ hw hS (fun _ q => q) rfl rfl hsz hW hd hcs (fun H1 locs1 hw hz hk hS => kk H1 locs1 hw hS)
theorem gX8_65 {p : Program} {l : Launch} {e : Env} {R : Room} {s : State} {m : MethodId} {args : Array Value} {below : List Frame} {meth : Method} {c : Code} {H : Heap} {locs : List Loc} {cells slots : Nat} {Q : State → Prop} {cc : ByteArray} {pc nL : Nat} {ls : Array Slot} {rest : List Value} {ret : Option FieldType} {G : xG} {β : Nat} {D : Nat → Prop} {x : XS} (C : Cx p s m args meth c RX8 cc nL ret (KK G)) (hw : CW β D G x H) (hd : decode cc pc = .ok (.getfield 65, 3)) (kk : W p l e R s m args below meth c H locs cells slots Q (F0 m (pc + 3) ls (.ref (β + 10) :: rest))) : W p l e R s m args below meth c H locs cells slots Q (F0 m pc ls (.ref β :: rest)) :=
  va_get C.1 C.2.1 C.2.2.2.2.1 iwX8 C.2.2.2.1 C.K.1 (xP1 (hw.2.2.1 0 (by decide))) 0 rfl rfl 11 (by decide) (C.2.2.2.2.1 (.fieldLink RX8 65 RX8 "sheets" "[LAtThePost$Sheet;") (tg 358 (by decide +kernel) rfl)) (fun _ h9 => h9) rfl hd kk
theorem alX_10 {p : Program} {l : Launch} {e : Env} {R : Room} {s : State} {m : MethodId} {args : Array Value} {below : List Frame} {meth : Method} {c : Code} {H : Heap} {locs : List Loc} {cells slots : Nat} {Q : State → Prop} {cc : ByteArray} {pc nL : Nat} {ls : Array Slot} {rest : List Value} {ret : Option FieldType} {G : xG} {β : Nat} {D : Nat → Prop} {x : XS} {own : String} {i : Int32} (C : Cx p s m args meth c own cc nL ret (KK G)) (hw : CW β D G x H) (hin : ib i 4) (hd : decode cc pc = .ok (.aaload, 1)) (kk : W p l e R s m args below meth c H locs cells slots Q (F0 m (pc + 1) ls (va_rf (x.2.2.1 10 i.toNatClampNeg) :: rest))) : W p l e R s m args below meth c H locs cells slots Q (F0 m pc ls (.int i :: .ref (β + 10) :: rest)) :=
  va_aldq (C := "AtThePost$Sheet") C.1 C.2.1 C.K.1 (xP1 (hw.2.2.1 10 (by decide))) 0 6 rfl rfl hin hd kk
theorem gdX8_336 {p : Program} {l : Launch} {e : Env} {R : Room} {s : State} {m : MethodId} {args : Array Value} {below : List Frame} {meth : Method} {c : Code} {H : Heap} {locs : List Loc} {cells slots : Nat} {Q : State → Prop} {cc : ByteArray} {pc nL : Nat} {ls : Array Slot} {rest : List Value} {ret : Option FieldType}  {G : xG} {β : Nat} {D : Nat → Prop} {x : XS} {a : Nat} {v : Nat} (C : Cx p s m args meth c RX8 cc nL ret (KK G)) (h : dP x a 5 1 = some v) (hw : CW β D G x H) (hd : decode cc pc = .ok (.getfield 336, 3)) (kk : W p l e R s m args below meth c H locs cells slots Q (F0 m (pc + 3) ls (.ref v :: rest))) : W p l e R s m args below meth c H locs cells slots Q (F0 m pc ls (.ref a :: rest)) := by
  obtain ⟨fs, h1, h2⟩ := dP_e h
  exact va_getN (ci := 5) (fs := fs) C.1 C.2.1 C.2.2.2.2.1 iwX5 C.2.2.2.1 C.K.1 (xP1 (hw.2.2.2.1 a _ h1).2.2.2) 0 rfl rfl 1 (by decide) (va_Nw.use (w := .fieldLinkNest RX8 336 RX5 "items" "[I" "AtThePost") rfl (C.K.2.1 (RX8, 336, RX5, "items", "[I") (List.mem_of_getElem? (i := 28) rfl))) (fun _ h9 => h9) h2 hd kk
theorem sX8_339 {p : Program} {l : Launch} {e : Env} {R : Room} {s : State} {m : MethodId} {args : Array Value} {below : List Frame} {meth : Method} {c : Code} {H : Heap} {locs : List Loc} {cells slots : Nat} {Q : State → Prop} {cc : ByteArray} {pc nL : Nat} {ls : Array Slot} {rest : List Value} {ret : Option FieldType}  {G : xG} {β : Nat} {D : Nat → Prop} {x : XS} {a0 : Nat} {a1 : Int32} {r : Int32} (C : Cx p s m args meth c RX8 cc nL ret (KK G)) (hk : dK x a0 5 = true) (h : fX5_narrowed x a0 a1 = some r) (hw : CW β D G x H) (hS : va_S D s.heap H locs) (hsz : ls.size = nL) (hW : (rest.map fun v => v.category).sum ≤ 8) (hR : 1 ≤ R.frames) (hR2 : 21 ≤ R.locals) (hcs : cells ≤ R.cells ∧ slots ≤ R.slots) (hd : decode cc pc = .ok (.invokevirtual 339, 3)) (kk : ∀ (H1 : Heap) (locs1 : List Loc), CW β D G x H1 → va_S D s.heap H1 locs1 → W p l e R s m args below meth c H1 locs1 cells slots Q (F0 m (pc + 3) ls (.int r :: rest))) : W p l e R s m args below meth c H locs cells slots Q (F0 m pc ls (.int a1 :: .ref a0 :: rest)) := by
  obtain ⟨fs0, hfs0⟩ := dK_e hk
  exact xcallV C (As := [.int a1]) (rest := rest) (nA := 1) (ci := 5) (kX5_narrowed h) (tg 875 (by decide +kernel) rfl) (tg 876 (by decide +kernel) rfl) (tg 877 (by decide +kernel) rfl) (tg 18 (by decide +kernel) rfl) (tg 878 (by decide +kernel) rfl) ⟨rfl, by decide +kernel, by decide +kernel, by decide +kernel⟩ rfl rfl rfl ⟨hR, hR2⟩ ((hw.2.2.2.1 a0 _ hfs0).2.2.2) hw hS (fun _ q => q) rfl rfl hsz hW hd hcs (fun H1 locs1 hw hz hk hS => kk H1 locs1 hw hS)
def fX8_cell (x : XS) (a1 : Int32) (a2 : Int32) (a3 : Int32) : Option (Int32 × XS) := Option.bind (fX8_isSheet a1) fun v1 => if v1 = true then if ib a1 4 then lt (x.2.2.1 10 a1.toNatClampNeg) fun e4 => oc e4 (some ((-11), x)) (fun p5 => Option.bind (dP x p5 5 1) fun v6 => Option.bind (dLen x v6) fun v8 => Option.bind (fX8_isWithin a2 0 (v8 - 1)) fun v10 => if v10 = true then Option.bind (dP x p5 5 1) fun v12 => if dK x p5 5 = true then Option.bind (fX5_narrowed x p5 a3) fun v15 => Option.bind (dAs x v12 a2 v15) fun x17 => some (1, x17) else none else some ((-12), x)) else none else some ((-2), x)
abbrev rmX8_cell : Room := { frames := 2, cells := 0, slots := 0, locals := 42 }
set_option maxHeartbeats 4000000 in
set_option maxRecDepth 100000 in
theorem kX8_cell {l : Launch} {G : xG} {β : Nat} {D : Nat → Prop} {x x' : XS} {a1 : Int32} {a2 : Int32} {a3 : Int32} {r : Int32} (hm : fX8_cell x a1 a2 a3 = some (r, x')) : Met l yX8_cell (.code yX8_cell cX8_cell 5 (some .int) :: GT) rmX8_cell (PcW [.ref β, .int a1, .int a2, .int a3] (CW β D G x) (KK G)) (QcW D (some (.int r)) (CW β D G x')) 0 0 D := by
  unfold fX8_cell at hm
  refine xpro (own := RX8) (by decide +kernel) rfl (Nat.le_of_ble_eq_true rfl) ?_
  intro p e s m args below meth c C hw ls hl
  have hx := C.1
  have hb := C.2.1
  have ho := C.2.2.2.1
  have hts := C.2.2.2.2.1
  have hS : va_S D s.heap s.heap [] := va_S.rf
  have hl : lv_has ls 5 [(0, .ref β), (1, .int a1), (2, .int a2), (3, .int a3)] := hl
  have hRf : 2 ≤ rmX8_cell.frames := Nat.le_refl _
  have hRl : 42 ≤ rmX8_cell.locals := Nat.le_refl _
  have hcs : 0 ≤ rmX8_cell.cells ∧ 0 ≤ rmX8_cell.slots := ⟨Nat.le_refl _, Nat.le_refl _⟩
  refine lv_iload_n hx hb dX8_cell_0 rfl (lv_at hl 1 rfl) ?_
  obtain ⟨v1, h2, hm⟩ := bind_e hm
  refine sX8_331 C h2 hw hS hl.1 (Nat.le_of_ble_eq_true rfl) (Nat.le_trans (Nat.le_of_ble_eq_true rfl) hRf) (Nat.le_trans (Nat.le_of_ble_eq_true rfl) hRl) hcs dX8_cell_1 (fun H locs hw hS => ?_)
  refine x_ifneB hx hb dX8_cell_4 (tgt := 10) (by decide) (fun cc => ?_) (fun cc => ?_)
  · replace hm := ite_p cc hm
    refine lv_aload_n hx hb dX8_cell_10 rfl (lv_at hl 0 rfl) ?_
    refine gX8_65 C hw dX8_cell_11 ?_
    refine lv_iload_n hx hb dX8_cell_14 rfl (lv_at hl 1 rfl) ?_
    obtain ⟨h3, hm⟩ := chk_e hm
    refine alX_10 C hw h3 dX8_cell_15 ?_
    refine topR hm (fun e4 hm => ?_)
    refine x_astoreq (lv' := [(4, va_rf e4), (0, .ref β), (1, .int a1), (2, .int a2), (3, .int a3)]) hx hb dX8_cell_16 hl (by decide) rfl (fun ls hl => ?_)
    refine x_aloadq hx hb dX8_cell_18 (lv_at hl 0 rfl) ?_
    rcases e4 with _ | p5
    · replace hm := oc_n hm
      refine lv_ifnonnullN hx hb dX8_cell_20 ?_
      refine lv_bipush (v := (-11)) hx hb dX8_cell_23 (by decide) ?_
      obtain ⟨rfl, rfl⟩ := inj2 hm
      exact xret_i C hw hS dX8_cell_25
    · replace hm := oc_s hm
      refine lv_ifnonnull (tgt := 26) hx hb dX8_cell_20 (by decide) ?_
      refine lv_iload_n hx hb dX8_cell_26 rfl (lv_at hl 3 rfl) ?_
      refine lv_iconst (v := 0) hx hb dX8_cell_27 (by decide) ?_
      refine lv_aload hx hb dX8_cell_28 (lv_at hl 0 rfl) ?_
      obtain ⟨v6, h7, hm⟩ := bind_e hm
      refine gdX8_336 C h7 hw dX8_cell_30 ?_
      obtain ⟨v8, h9, hm⟩ := bind_e hm
      refine x_dlen C h9 hw dX8_cell_33 ?_
      refine lv_iconst (v := 1) hx hb dX8_cell_34 (by decide) ?_
      refine lv_isub hx hb dX8_cell_35 ?_
      obtain ⟨v10, h11, hm⟩ := bind_e hm
      refine sX8_138 C h11 hw hS hl.1 (Nat.le_of_ble_eq_true rfl) (Nat.le_trans (Nat.le_of_ble_eq_true rfl) hRf) (Nat.le_trans (Nat.le_of_ble_eq_true rfl) hRl) hcs dX8_cell_36 (fun H locs hw hS => ?_)
      refine x_ifneB hx hb dX8_cell_39 (tgt := 45) (by decide) (fun cc => ?_) (fun cc => ?_)
      · replace hm := ite_p cc hm
        refine lv_aload hx hb dX8_cell_45 (lv_at hl 0 rfl) ?_
        obtain ⟨v12, h13, hm⟩ := bind_e hm
        refine gdX8_336 C h13 hw dX8_cell_47 ?_
        refine lv_iload_n hx hb dX8_cell_50 rfl (lv_at hl 3 rfl) ?_
        refine lv_aload hx hb dX8_cell_51 (lv_at hl 0 rfl) ?_
        refine lv_iload_n hx hb dX8_cell_53 rfl (lv_at hl 4 rfl) ?_
        obtain ⟨h14, hm⟩ := chk_e hm
        obtain ⟨v15, h16, hm⟩ := bind_e hm
        refine sX8_339 C h14 h16 hw hS hl.1 (Nat.le_of_ble_eq_true rfl) (Nat.le_trans (Nat.le_of_ble_eq_true rfl) hRf) (Nat.le_trans (Nat.le_of_ble_eq_true rfl) hRl) hcs dX8_cell_54 (fun H locs hw hS => ?_)
        obtain ⟨x17, h18, hm⟩ := bind_e hm
        refine x_dast C h18 hw hS dX8_cell_57 (fun H locs hw hS => ?_)
        refine lv_iconst (v := 1) hx hb dX8_cell_58 (by decide) ?_
        obtain ⟨rfl, rfl⟩ := inj2 hm
        exact xret_i C hw hS dX8_cell_59
      · replace hm := ite_n cc hm
        refine lv_bipush (v := (-12)) hx hb dX8_cell_42 (by decide) ?_
        obtain ⟨rfl, rfl⟩ := inj2 hm
        exact xret_i C hw hS dX8_cell_44
  · replace hm := ite_n cc hm
    refine lv_bipush (v := (-2)) hx hb dX8_cell_7 (by decide) ?_
    obtain ⟨rfl, rfl⟩ := inj2 hm
    exact xret_i C hw hS dX8_cell_9
theorem dX8_copy_0 : decode cX8_copy 0 = .ok (.iload_n 1, 1) := by decide +kernel
theorem dX8_copy_1 : decode cX8_copy 1 = .ok (.invokestatic 331, 3) := by decide +kernel
theorem dX8_copy_4 : decode cX8_copy 4 = .ok (.ifCond .eq 10, 3) := by decide +kernel
theorem dX8_copy_7 : decode cX8_copy 7 = .ok (.iload_n 3, 1) := by decide +kernel
theorem dX8_copy_8 : decode cX8_copy 8 = .ok (.invokestatic 331, 3) := by decide +kernel
theorem dX8_copy_11 : decode cX8_copy 11 = .ok (.ifCond .ne 6, 3) := by decide +kernel
theorem dX8_copy_14 : decode cX8_copy 14 = .ok (.bipush (-2), 2) := by decide +kernel
theorem dX8_copy_16 : decode cX8_copy 16 = .ok (.ireturn, 1) := by decide +kernel
theorem dX8_copy_17 : decode cX8_copy 17 = .ok (.aload_n 0, 1) := by decide +kernel
theorem dX8_copy_18 : decode cX8_copy 18 = .ok (.getfield 65, 3) := by decide +kernel
theorem dX8_copy_21 : decode cX8_copy 21 = .ok (.iload_n 1, 1) := by decide +kernel
theorem dX8_copy_22 : decode cX8_copy 22 = .ok (.aaload, 1) := by decide +kernel
theorem dX8_copy_23 : decode cX8_copy 23 = .ok (.astore 6, 2) := by decide +kernel
theorem dX8_copy_25 : decode cX8_copy 25 = .ok (.aload_n 0, 1) := by decide +kernel
theorem dX8_copy_26 : decode cX8_copy 26 = .ok (.getfield 65, 3) := by decide +kernel
theorem dX8_copy_29 : decode cX8_copy 29 = .ok (.iload_n 3, 1) := by decide +kernel
theorem dX8_copy_30 : decode cX8_copy 30 = .ok (.aaload, 1) := by decide +kernel
theorem dX8_copy_31 : decode cX8_copy 31 = .ok (.astore 7, 2) := by decide +kernel
theorem dX8_copy_33 : decode cX8_copy 33 = .ok (.aload 6, 2) := by decide +kernel
theorem dX8_copy_35 : decode cX8_copy 35 = .ok (.ifnull 8, 3) := by decide +kernel
theorem dX8_copy_38 : decode cX8_copy 38 = .ok (.aload 7, 2) := by decide +kernel
theorem dX8_copy_40 : decode cX8_copy 40 = .ok (.ifnonnull 6, 3) := by decide +kernel
theorem dX8_copy_43 : decode cX8_copy 43 = .ok (.bipush (-11), 2) := by decide +kernel
theorem dX8_copy_45 : decode cX8_copy 45 = .ok (.ireturn, 1) := by decide +kernel
theorem dX8_copy_46 : decode cX8_copy 46 = .ok (.aload 6, 2) := by decide +kernel
theorem dX8_copy_48 : decode cX8_copy 48 = .ok (.getfield 342, 3) := by decide +kernel
theorem dX8_copy_51 : decode cX8_copy 51 = .ok (.aload 7, 2) := by decide +kernel
theorem dX8_copy_53 : decode cX8_copy 53 = .ok (.getfield 342, 3) := by decide +kernel
theorem dX8_copy_56 : decode cX8_copy 56 = .ok (.if_icmp .eq 6, 3) := by decide +kernel
theorem dX8_copy_59 : decode cX8_copy 59 = .ok (.bipush (-13), 2) := by decide +kernel
theorem dX8_copy_61 : decode cX8_copy 61 = .ok (.ireturn, 1) := by decide +kernel
theorem dX8_copy_62 : decode cX8_copy 62 = .ok (.aload 6, 2) := by decide +kernel
theorem dX8_copy_64 : decode cX8_copy 64 = .ok (.iload_n 2, 1) := by decide +kernel
theorem dX8_copy_65 : decode cX8_copy 65 = .ok (.iload 5, 2) := by decide +kernel
theorem dX8_copy_67 : decode cX8_copy 67 = .ok (.invokevirtual 345, 3) := by decide +kernel
theorem dX8_copy_70 : decode cX8_copy 70 = .ok (.ifCond .eq 15, 3) := by decide +kernel
theorem dX8_copy_73 : decode cX8_copy 73 = .ok (.aload 7, 2) := by decide +kernel
theorem dX8_copy_75 : decode cX8_copy 75 = .ok (.iload 4, 2) := by decide +kernel
theorem dX8_copy_77 : decode cX8_copy 77 = .ok (.iload 5, 2) := by decide +kernel
theorem dX8_copy_79 : decode cX8_copy 79 = .ok (.invokevirtual 345, 3) := by decide +kernel
theorem dX8_copy_82 : decode cX8_copy 82 = .ok (.ifCond .ne 6, 3) := by decide +kernel
theorem dX8_copy_85 : decode cX8_copy 85 = .ok (.bipush (-12), 2) := by decide +kernel
theorem dX8_copy_87 : decode cX8_copy 87 = .ok (.ireturn, 1) := by decide +kernel
theorem dX8_copy_88 : decode cX8_copy 88 = .ok (.aload 6, 2) := by decide +kernel
theorem dX8_copy_90 : decode cX8_copy 90 = .ok (.getfield 336, 3) := by decide +kernel
theorem dX8_copy_93 : decode cX8_copy 93 = .ok (.iload_n 2, 1) := by decide +kernel
theorem dX8_copy_94 : decode cX8_copy 94 = .ok (.aload 7, 2) := by decide +kernel
theorem dX8_copy_96 : decode cX8_copy 96 = .ok (.getfield 336, 3) := by decide +kernel
theorem dX8_copy_99 : decode cX8_copy 99 = .ok (.iload 4, 2) := by decide +kernel
theorem dX8_copy_101 : decode cX8_copy 101 = .ok (.iload 5, 2) := by decide +kernel
theorem dX8_copy_103 : decode cX8_copy 103 = .ok (.invokestatic 315, 3) := by decide +kernel
theorem dX8_copy_106 : decode cX8_copy 106 = .ok (.iload 5, 2) := by decide +kernel
theorem dX8_copy_108 : decode cX8_copy 108 = .ok (.ireturn, 1) := by decide +kernel
theorem gdX8_342 {p : Program} {l : Launch} {e : Env} {R : Room} {s : State} {m : MethodId} {args : Array Value} {below : List Frame} {meth : Method} {c : Code} {H : Heap} {locs : List Loc} {cells slots : Nat} {Q : State → Prop} {cc : ByteArray} {pc nL : Nat} {ls : Array Slot} {rest : List Value} {ret : Option FieldType}  {G : xG} {β : Nat} {D : Nat → Prop} {x : XS} {a : Nat} {v : Int32} (C : Cx p s m args meth c RX8 cc nL ret (KK G)) (h : dI x a 5 0 = some v) (hw : CW β D G x H) (hd : decode cc pc = .ok (.getfield 342, 3)) (kk : W p l e R s m args below meth c H locs cells slots Q (F0 m (pc + 3) ls (.int v :: rest))) : W p l e R s m args below meth c H locs cells slots Q (F0 m pc ls (.ref a :: rest)) := by
  obtain ⟨fs, h1, h2⟩ := dI_e h
  exact va_getN (ci := 5) (fs := fs) C.1 C.2.1 C.2.2.2.2.1 iwX5 C.2.2.2.1 C.K.1 (xP1 (hw.2.2.2.1 a _ h1).2.2.2) 0 rfl rfl 0 (by decide) (va_Nw.use (w := .fieldLinkNest RX8 342 RX5 "sort" "I" "AtThePost") rfl (C.K.2.1 (RX8, 342, RX5, "sort", "I") (List.mem_of_getElem? (i := 27) rfl))) (fun _ h9 => h9) h2 hd kk
theorem sX8_345 {p : Program} {l : Launch} {e : Env} {R : Room} {s : State} {m : MethodId} {args : Array Value} {below : List Frame} {meth : Method} {c : Code} {H : Heap} {locs : List Loc} {cells slots : Nat} {Q : State → Prop} {cc : ByteArray} {pc nL : Nat} {ls : Array Slot} {rest : List Value} {ret : Option FieldType}  {G : xG} {β : Nat} {D : Nat → Prop} {x : XS} {a0 : Nat} {a1 : Int32} {a2 : Int32} {r : Bool} (C : Cx p s m args meth c RX8 cc nL ret (KK G)) (hk : dK x a0 5 = true) (h : fX5_hasStretch x a0 a1 a2 = some r) (hw : CW β D G x H) (hS : va_S D s.heap H locs) (hsz : ls.size = nL) (hW : (rest.map fun v => v.category).sum ≤ 8) (hR : 1 ≤ R.frames) (hR2 : 22 ≤ R.locals) (hcs : cells ≤ R.cells ∧ slots ≤ R.slots) (hd : decode cc pc = .ok (.invokevirtual 345, 3)) (kk : ∀ (H1 : Heap) (locs1 : List Loc), CW β D G x H1 → va_S D s.heap H1 locs1 → W p l e R s m args below meth c H1 locs1 cells slots Q (F0 m (pc + 3) ls (.int (bI r) :: rest))) : W p l e R s m args below meth c H locs cells slots Q (F0 m pc ls (.int a2 :: .int a1 :: .ref a0 :: rest)) := by
  obtain ⟨fs0, hfs0⟩ := dK_e hk
  exact xcallV C (As := [.int a1, .int a2]) (rest := rest) (nA := 2) (ci := 5) (kX5_hasStretch h) (tg 883 (by decide +kernel) rfl) (tg 884 (by decide +kernel) rfl) (tg 885 (by decide +kernel) rfl) (tg 18 (by decide +kernel) rfl) (tg 886 (by decide +kernel) rfl) ⟨rfl, by decide +kernel, by decide +kernel, by decide +kernel⟩ rfl rfl rfl ⟨hR, hR2⟩ ((hw.2.2.2.1 a0 _ hfs0).2.2.2) hw hS (fun _ q => q) rfl rfl hsz hW hd hcs (fun H1 locs1 hw hz hk hS => kk H1 locs1 hw hS)
theorem cpX8_315_DD {p : Program} {l : Launch} {e : Env} {R : Room} {s : State} {m : MethodId} {args : Array Value} {below : List Frame} {meth : Method} {c : Code} {H : Heap} {locs : List Loc} {cells slots : Nat} {Q : State → Prop} {cc : ByteArray} {pc nL : Nat} {ls : Array Slot} {rest : List Value} {ret : Option FieldType}  {G : xG} {β : Nat} {D : Nat → Prop} {x x' : XS} {a b : Nat} {sp dp n : Int32} (C : Cx p s m args meth c RX8 cc nL ret (KK G)) (h : cpDD x a b sp dp n = some x') (hw : CW β D G x H) (hS : va_S D s.heap H locs) (hsz : ls.size = nL) (hR : 1 ≤ R.frames) (hR2 : (rest.map fun v => v.category).sum + (nativeFrameWords "java/lang/System" "arraycopy" 5 + 11) ≤ R.locals) (hd : decode cc pc = .ok (.invokestatic 315, 3)) (kk : ∀ (H1 : Heap) (locs1 : List Loc), CW β D G x' H1 → va_S D s.heap H1 locs1 → W p l e R s m args below meth c H1 locs1 cells slots Q (F0 m (pc + 3) ls (rest))) : W p l e R s m args below meth c H locs cells slots Q (F0 m pc ls (.int n :: .int dp :: .ref b :: .int sp :: .ref a :: rest)) := by
  obtain ⟨n0, f, n1, g, hf, hg, h1, h2, h3, h4, h5, rfl⟩ := cpDD_e h
  exact x_copyi C.1 C.2.1 (C.2.2.1.trans hsz.symm) C.2.2.2.1 (C.2.2.2.2.1 (.methodLink RX8 315 arraycopyName) (tg 828 (by decide +kernel) rfl)) (C.2.2.2.2.1 (.native arraycopyName) (tg 323 (by decide +kernel) rfl)) (C.2.2.2.2.1 (.static arraycopyName) (tg 322 (by decide +kernel) rfl)) (C.2.2.2.2.1 (.initialized "java/lang/System") (tg 13 (by decide +kernel) rfl)) C.K.1 hS 0 0 (hw.2.2.2.1 a _ hf).2.2.2 (hw.2.2.2.1 b _ hg).2.2.2 (hw.2.2.2.1 b _ hg).1 rfl rfl rfl h1 h2 h3 h4 h5 (fun _ _ => rfl) hR hR2 hd (fun H1 locs1 hat ho hS => kk H1 locs1 (hw.setD hg hat ho) hS)
def fX8_copy (x : XS) (a1 : Int32) (a2 : Int32) (a3 : Int32) (a4 : Int32) (a5 : Int32) : Option (Int32 × XS) := Option.bind (fX8_isSheet a1) fun v1 => if v1 = true then Option.bind (fX8_isSheet a3) fun v3 => if v3 = true then if ib a1 4 then lt (x.2.2.1 10 a1.toNatClampNeg) fun e6 => if ib a3 4 then lt (x.2.2.1 10 a3.toNatClampNeg) fun e8 => oc e6 (some ((-11), x)) (fun p9 => oc e8 (some ((-11), x)) (fun p10 => Option.bind (dI x p9 5 0) fun v11 => Option.bind (dI x p10 5 0) fun v13 => if v11 = v13 then if dK x p9 5 = true then Option.bind (fX5_hasStretch x p9 a2 a5) fun v16 => if v16 = true then if dK x p10 5 = true then Option.bind (fX5_hasStretch x p10 a4 a5) fun v19 => if v19 = true then Option.bind (dP x p9 5 1) fun v21 => Option.bind (dP x p10 5 1) fun v23 => Option.bind (cpDD x v21 v23 a2 a4 a5) fun x25 => some (a5, x25) else some ((-12), x) else none else some ((-12), x) else none else some ((-13), x))) else none else none else some ((-2), x) else some ((-2), x)
abbrev rmX8_copy : Room := { frames := 2, cells := 0, slots := 0, locals := 42 }
set_option maxHeartbeats 4000000 in
set_option maxRecDepth 100000 in
theorem kX8_copy {l : Launch} {G : xG} {β : Nat} {D : Nat → Prop} {x x' : XS} {a1 : Int32} {a2 : Int32} {a3 : Int32} {a4 : Int32} {a5 : Int32} {r : Int32} (hm : fX8_copy x a1 a2 a3 a4 a5 = some (r, x')) : Met l yX8_copy (.code yX8_copy cX8_copy 8 (some .int) :: GT) rmX8_copy (PcW [.ref β, .int a1, .int a2, .int a3, .int a4, .int a5] (CW β D G x) (KK G)) (QcW D (some (.int r)) (CW β D G x')) 0 0 D := by
  unfold fX8_copy at hm
  refine xpro (own := RX8) (by decide +kernel) rfl (Nat.le_of_ble_eq_true rfl) ?_
  intro p e s m args below meth c C hw ls hl
  have hx := C.1
  have hb := C.2.1
  have ho := C.2.2.2.1
  have hts := C.2.2.2.2.1
  have hS : va_S D s.heap s.heap [] := va_S.rf
  have hl : lv_has ls 8 [(0, .ref β), (1, .int a1), (2, .int a2), (3, .int a3), (4, .int a4), (5, .int a5)] := hl
  have hRf : 2 ≤ rmX8_copy.frames := Nat.le_refl _
  have hRl : 42 ≤ rmX8_copy.locals := Nat.le_refl _
  have hcs : 0 ≤ rmX8_copy.cells ∧ 0 ≤ rmX8_copy.slots := ⟨Nat.le_refl _, Nat.le_refl _⟩
  refine lv_iload_n hx hb dX8_copy_0 rfl (lv_at hl 1 rfl) ?_
  obtain ⟨v1, h2, hm⟩ := bind_e hm
  refine sX8_331 C h2 hw hS hl.1 (Nat.le_of_ble_eq_true rfl) (Nat.le_trans (Nat.le_of_ble_eq_true rfl) hRf) (Nat.le_trans (Nat.le_of_ble_eq_true rfl) hRl) hcs dX8_copy_1 (fun H locs hw hS => ?_)
  refine x_ifeqB hx hb dX8_copy_4 (tgt := 14) (by decide) (fun cc => ?_) (fun cc => ?_)
  · replace hm := ite_n cc hm
    refine lv_bipush (v := (-2)) hx hb dX8_copy_14 (by decide) ?_
    obtain ⟨rfl, rfl⟩ := inj2 hm
    exact xret_i C hw hS dX8_copy_16
  · replace hm := ite_p cc hm
    refine lv_iload_n hx hb dX8_copy_7 rfl (lv_at hl 3 rfl) ?_
    obtain ⟨v3, h4, hm⟩ := bind_e hm
    refine sX8_331 C h4 hw hS hl.1 (Nat.le_of_ble_eq_true rfl) (Nat.le_trans (Nat.le_of_ble_eq_true rfl) hRf) (Nat.le_trans (Nat.le_of_ble_eq_true rfl) hRl) hcs dX8_copy_8 (fun H locs hw hS => ?_)
    refine x_ifneB hx hb dX8_copy_11 (tgt := 17) (by decide) (fun cc => ?_) (fun cc => ?_)
    · replace hm := ite_p cc hm
      refine lv_aload_n hx hb dX8_copy_17 rfl (lv_at hl 0 rfl) ?_
      refine gX8_65 C hw dX8_copy_18 ?_
      refine lv_iload_n hx hb dX8_copy_21 rfl (lv_at hl 1 rfl) ?_
      obtain ⟨h5, hm⟩ := chk_e hm
      refine alX_10 C hw h5 dX8_copy_22 ?_
      refine topR hm (fun e6 hm => ?_)
      refine x_astoreq (lv' := [(6, va_rf e6), (0, .ref β), (1, .int a1), (2, .int a2), (3, .int a3), (4, .int a4), (5, .int a5)]) hx hb dX8_copy_23 hl (by decide) rfl (fun ls hl => ?_)
      refine lv_aload_n hx hb dX8_copy_25 rfl (lv_at hl 1 rfl) ?_
      refine gX8_65 C hw dX8_copy_26 ?_
      refine lv_iload_n hx hb dX8_copy_29 rfl (lv_at hl 4 rfl) ?_
      obtain ⟨h7, hm⟩ := chk_e hm
      refine alX_10 C hw h7 dX8_copy_30 ?_
      refine topR hm (fun e8 hm => ?_)
      refine x_astoreq (lv' := [(7, va_rf e8), (6, va_rf e6), (0, .ref β), (1, .int a1), (2, .int a2), (3, .int a3), (4, .int a4), (5, .int a5)]) hx hb dX8_copy_31 hl (by decide) (by cases e6 <;> rfl) (fun ls hl => ?_)
      refine x_aloadq hx hb dX8_copy_33 (lv_at hl 1 rfl) ?_
      rcases e6 with _ | p9
      · replace hm := oc_n hm
        refine lv_ifnullN (tgt := 43) hx hb dX8_copy_35 (by decide) ?_
        refine lv_bipush (v := (-11)) hx hb dX8_copy_43 (by decide) ?_
        obtain ⟨rfl, rfl⟩ := inj2 hm
        exact xret_i C hw hS dX8_copy_45
      · replace hm := oc_s hm
        refine lv_ifnull hx hb dX8_copy_35 ?_
        refine x_aloadq hx hb dX8_copy_38 (lv_at hl 0 rfl) ?_
        rcases e8 with _ | p10
        · replace hm := oc_n hm
          refine lv_ifnonnullN hx hb dX8_copy_40 ?_
          refine lv_bipush (v := (-11)) hx hb dX8_copy_43 (by decide) ?_
          obtain ⟨rfl, rfl⟩ := inj2 hm
          exact xret_i C hw hS dX8_copy_45
        · replace hm := oc_s hm
          refine lv_ifnonnull (tgt := 46) hx hb dX8_copy_40 (by decide) ?_
          refine lv_aload hx hb dX8_copy_46 (lv_at hl 1 rfl) ?_
          obtain ⟨v11, h12, hm⟩ := bind_e hm
          refine gdX8_342 C h12 hw dX8_copy_48 ?_
          refine lv_aload hx hb dX8_copy_51 (lv_at hl 0 rfl) ?_
          obtain ⟨v13, h14, hm⟩ := bind_e hm
          refine gdX8_342 C h14 hw dX8_copy_53 ?_
          refine lv_icmp_eq (tgt := 62) hx hb dX8_copy_56 (by decide) (fun cc => ?_) (fun cc => ?_)
          · replace hm := ite_p cc hm
            refine lv_aload hx hb dX8_copy_62 (lv_at hl 1 rfl) ?_
            refine lv_iload_n hx hb dX8_copy_64 rfl (lv_at hl 4 rfl) ?_
            refine lv_iload hx hb dX8_copy_65 (lv_at hl 7 rfl) ?_
            obtain ⟨h15, hm⟩ := chk_e hm
            obtain ⟨v16, h17, hm⟩ := bind_e hm
            refine sX8_345 C h15 h17 hw hS hl.1 (Nat.le_of_ble_eq_true rfl) (Nat.le_trans (Nat.le_of_ble_eq_true rfl) hRf) (Nat.le_trans (Nat.le_of_ble_eq_true rfl) hRl) hcs dX8_copy_67 (fun H locs hw hS => ?_)
            refine x_ifeqB hx hb dX8_copy_70 (tgt := 85) (by decide) (fun cc => ?_) (fun cc => ?_)
            · replace hm := ite_n cc hm
              refine lv_bipush (v := (-12)) hx hb dX8_copy_85 (by decide) ?_
              obtain ⟨rfl, rfl⟩ := inj2 hm
              exact xret_i C hw hS dX8_copy_87
            · replace hm := ite_p cc hm
              refine lv_aload hx hb dX8_copy_73 (lv_at hl 0 rfl) ?_
              refine lv_iload hx hb dX8_copy_75 (lv_at hl 6 rfl) ?_
              refine lv_iload hx hb dX8_copy_77 (lv_at hl 7 rfl) ?_
              obtain ⟨h18, hm⟩ := chk_e hm
              obtain ⟨v19, h20, hm⟩ := bind_e hm
              refine sX8_345 C h18 h20 hw hS hl.1 (Nat.le_of_ble_eq_true rfl) (Nat.le_trans (Nat.le_of_ble_eq_true rfl) hRf) (Nat.le_trans (Nat.le_of_ble_eq_true rfl) hRl) hcs dX8_copy_79 (fun H locs hw hS => ?_)
              refine x_ifneB hx hb dX8_copy_82 (tgt := 88) (by decide) (fun cc => ?_) (fun cc => ?_)
              · replace hm := ite_p cc hm
                refine lv_aload hx hb dX8_copy_88 (lv_at hl 1 rfl) ?_
                obtain ⟨v21, h22, hm⟩ := bind_e hm
                refine gdX8_336 C h22 hw dX8_copy_90 ?_
                refine lv_iload_n hx hb dX8_copy_93 rfl (lv_at hl 4 rfl) ?_
                refine lv_aload hx hb dX8_copy_94 (lv_at hl 0 rfl) ?_
                obtain ⟨v23, h24, hm⟩ := bind_e hm
                refine gdX8_336 C h24 hw dX8_copy_96 ?_
                refine lv_iload hx hb dX8_copy_99 (lv_at hl 6 rfl) ?_
                refine lv_iload hx hb dX8_copy_101 (lv_at hl 7 rfl) ?_
                obtain ⟨x25, h26, hm⟩ := bind_e hm
                refine cpX8_315_DD C h26 hw hS hl.1 (Nat.le_trans (Nat.le_of_ble_eq_true rfl) hRf) (Nat.le_trans (Nat.le_of_ble_eq_true rfl) hRl) dX8_copy_103 (fun H locs hw hS => ?_)
                refine lv_iload hx hb dX8_copy_106 (lv_at hl 7 rfl) ?_
                obtain ⟨rfl, rfl⟩ := inj2 hm
                exact xret_i C hw hS dX8_copy_108
              · replace hm := ite_n cc hm
                refine lv_bipush (v := (-12)) hx hb dX8_copy_85 (by decide) ?_
                obtain ⟨rfl, rfl⟩ := inj2 hm
                exact xret_i C hw hS dX8_copy_87
          · replace hm := ite_n cc hm
            refine lv_bipush (v := (-13)) hx hb dX8_copy_59 (by decide) ?_
            obtain ⟨rfl, rfl⟩ := inj2 hm
            exact xret_i C hw hS dX8_copy_61
    · replace hm := ite_n cc hm
      refine lv_bipush (v := (-2)) hx hb dX8_copy_14 (by decide) ?_
      obtain ⟨rfl, rfl⟩ := inj2 hm
      exact xret_i C hw hS dX8_copy_16
theorem dX8_lastDay_0 : decode cX8_lastDay 0 = .ok (.aload_n 0, 1) := by decide +kernel
theorem dX8_lastDay_1 : decode cX8_lastDay 1 = .ok (.aload_n 0, 1) := by decide +kernel
theorem dX8_lastDay_2 : decode cX8_lastDay 2 = .ok (.getfield 32, 3) := by decide +kernel
theorem dX8_lastDay_5 : decode cX8_lastDay 5 = .ok (.iconst 1, 1) := by decide +kernel
theorem dX8_lastDay_6 : decode cX8_lastDay 6 = .ok (.isub, 1) := by decide +kernel
theorem dX8_lastDay_7 : decode cX8_lastDay 7 = .ok (.invokevirtual 265, 3) := by decide +kernel
theorem dX8_lastDay_10 : decode cX8_lastDay 10 = .ok (.astore_n 1, 1) := by decide +kernel
theorem dX8_lastDay_11 : decode cX8_lastDay 11 = .ok (.aload_n 1, 1) := by decide +kernel
theorem dX8_lastDay_12 : decode cX8_lastDay 12 = .ok (.ifnonnull 7, 3) := by decide +kernel
theorem dX8_lastDay_15 : decode cX8_lastDay 15 = .ok (.iconst 0, 1) := by decide +kernel
theorem dX8_lastDay_16 : decode cX8_lastDay 16 = .ok (.goto 7, 3) := by decide +kernel
theorem dX8_lastDay_19 : decode cX8_lastDay 19 = .ok (.aload_n 1, 1) := by decide +kernel
theorem dX8_lastDay_20 : decode cX8_lastDay 20 = .ok (.getfield 272, 3) := by decide +kernel
theorem dX8_lastDay_23 : decode cX8_lastDay 23 = .ok (.ireturn, 1) := by decide +kernel
def fX8_lastDay (x : XS) : Option (Int32) := Option.bind (fX8_raceAt x ((x.1 0 5) - 1)) fun v1 => oc v1 (some 0) (fun p3 => Option.bind (dI x p3 3 1) fun v4 => some v4)
abbrev rmX8_lastDay : Room := { frames := 2, cells := 0, slots := 0, locals := 43 }
set_option maxHeartbeats 4000000 in
set_option maxRecDepth 100000 in
theorem kX8_lastDay {l : Launch} {G : xG} {β : Nat} {D : Nat → Prop} {x : XS} {r : Int32} (hm : fX8_lastDay x = some r) : Met l yX8_lastDay (.code yX8_lastDay cX8_lastDay 2 (some .int) :: GT) rmX8_lastDay (PcW [.ref β] (CW β D G x) (KK G)) (QcW D (some (.int r)) (CW β D G x)) 0 0 D := by
  unfold fX8_lastDay at hm
  refine xpro (own := RX8) (by decide +kernel) rfl (Nat.le_of_ble_eq_true rfl) ?_
  intro p e s m args below meth c C hw ls hl
  have hx := C.1
  have hb := C.2.1
  have ho := C.2.2.2.1
  have hts := C.2.2.2.2.1
  have hS : va_S D s.heap s.heap [] := va_S.rf
  have hl : lv_has ls 2 [(0, .ref β)] := hl
  have hRf : 2 ≤ rmX8_lastDay.frames := Nat.le_refl _
  have hRl : 43 ≤ rmX8_lastDay.locals := Nat.le_refl _
  have hcs : 0 ≤ rmX8_lastDay.cells ∧ 0 ≤ rmX8_lastDay.slots := ⟨Nat.le_refl _, Nat.le_refl _⟩
  refine lv_aload_n hx hb dX8_lastDay_0 rfl (lv_at hl 0 rfl) ?_
  refine lv_aload_n hx hb dX8_lastDay_1 rfl (lv_at hl 0 rfl) ?_
  refine gX8_32 C hw dX8_lastDay_2 ?_
  refine lv_iconst (v := 1) hx hb dX8_lastDay_5 (by decide) ?_
  refine lv_isub hx hb dX8_lastDay_6 ?_
  obtain ⟨v1, h2, hm⟩ := bind_e hm
  refine sX8_265 C h2 hw hS hl.1 (Nat.le_of_ble_eq_true rfl) (Nat.le_trans (Nat.le_of_ble_eq_true rfl) hRf) (Nat.le_trans (Nat.le_of_ble_eq_true rfl) hRl) hcs dX8_lastDay_7 (fun H locs hw hS => ?_)
  refine x_astore_nq (lv' := [(1, va_rf v1), (0, .ref β)]) hx hb dX8_lastDay_10 rfl hl (by decide) rfl (fun ls hl => ?_)
  refine x_aload_nq hx hb dX8_lastDay_11 rfl (lv_at hl 0 rfl) ?_
  rcases v1 with _ | p3
  · replace hm := oc_n hm
    refine lv_ifnonnullN hx hb dX8_lastDay_12 ?_
    refine lv_iconst (v := 0) hx hb dX8_lastDay_15 (by decide) ?_
    refine lv_goto (tgt := 23) hx hb dX8_lastDay_16 (by decide) ?_
    obtain rfl := Option.some.inj hm
    exact xret_i C hw hS dX8_lastDay_23
  · replace hm := oc_s hm
    refine lv_ifnonnull (tgt := 19) hx hb dX8_lastDay_12 (by decide) ?_
    refine lv_aload_n hx hb dX8_lastDay_19 rfl (lv_at hl 0 rfl) ?_
    obtain ⟨v4, h5, hm⟩ := bind_e hm
    refine gdX8_272 C h5 hw dX8_lastDay_20 ?_
    obtain rfl := Option.some.inj hm
    exact xret_i C hw hS dX8_lastDay_23
theorem dX8_leadAnew_0 : decode cX8_leadAnew 0 = .ok (.iconst 0, 1) := by decide +kernel
theorem dX8_leadAnew_1 : decode cX8_leadAnew 1 = .ok (.istore_n 2, 1) := by decide +kernel
theorem dX8_leadAnew_2 : decode cX8_leadAnew 2 = .ok (.iload_n 2, 1) := by decide +kernel
theorem dX8_leadAnew_3 : decode cX8_leadAnew 3 = .ok (.aload_n 1, 1) := by decide +kernel
theorem dX8_leadAnew_4 : decode cX8_leadAnew 4 = .ok (.getfield 275, 3) := by decide +kernel
theorem dX8_leadAnew_7 : decode cX8_leadAnew 7 = .ok (.if_icmp .ge 53, 3) := by decide +kernel
theorem dX8_leadAnew_10 : decode cX8_leadAnew 10 = .ok (.aload_n 1, 1) := by decide +kernel
theorem dX8_leadAnew_11 : decode cX8_leadAnew 11 = .ok (.getfield 252, 3) := by decide +kernel
theorem dX8_leadAnew_14 : decode cX8_leadAnew 14 = .ok (.iload_n 2, 1) := by decide +kernel
theorem dX8_leadAnew_15 : decode cX8_leadAnew 15 = .ok (.iaload, 1) := by decide +kernel
theorem dX8_leadAnew_16 : decode cX8_leadAnew 16 = .ok (.istore_n 3, 1) := by decide +kernel
theorem dX8_leadAnew_17 : decode cX8_leadAnew 17 = .ok (.aload_n 0, 1) := by decide +kernel
theorem dX8_leadAnew_18 : decode cX8_leadAnew 18 = .ok (.iload_n 3, 1) := by decide +kernel
theorem dX8_leadAnew_19 : decode cX8_leadAnew 19 = .ok (.invokevirtual 134, 3) := by decide +kernel
theorem dX8_leadAnew_22 : decode cX8_leadAnew 22 = .ok (.astore 4, 2) := by decide +kernel
theorem dX8_leadAnew_24 : decode cX8_leadAnew 24 = .ok (.aload 4, 2) := by decide +kernel
theorem dX8_leadAnew_26 : decode cX8_leadAnew 26 = .ok (.ifnull 28, 3) := by decide +kernel
theorem dX8_leadAnew_29 : decode cX8_leadAnew 29 = .ok (.aload 4, 2) := by decide +kernel
theorem dX8_leadAnew_31 : decode cX8_leadAnew 31 = .ok (.aload_n 0, 1) := by decide +kernel
theorem dX8_leadAnew_32 : decode cX8_leadAnew 32 = .ok (.iload_n 3, 1) := by decide +kernel
theorem dX8_leadAnew_33 : decode cX8_leadAnew 33 = .ok (.aload 4, 2) := by decide +kernel
theorem dX8_leadAnew_35 : decode cX8_leadAnew 35 = .ok (.getfield 147, 3) := by decide +kernel
theorem dX8_leadAnew_38 : decode cX8_leadAnew 38 = .ok (.aload_n 0, 1) := by decide +kernel
theorem dX8_leadAnew_39 : decode cX8_leadAnew 39 = .ok (.iload_n 3, 1) := by decide +kernel
theorem dX8_leadAnew_40 : decode cX8_leadAnew 40 = .ok (.invokevirtual 173, 3) := by decide +kernel
theorem dX8_leadAnew_43 : decode cX8_leadAnew 43 = .ok (.iload_n 2, 1) := by decide +kernel
theorem dX8_leadAnew_44 : decode cX8_leadAnew 44 = .ok (.aload_n 1, 1) := by decide +kernel
theorem dX8_leadAnew_45 : decode cX8_leadAnew 45 = .ok (.getfield 269, 3) := by decide +kernel
theorem dX8_leadAnew_48 : decode cX8_leadAnew 48 = .ok (.invokevirtual 400, 3) := by decide +kernel
theorem dX8_leadAnew_51 : decode cX8_leadAnew 51 = .ok (.putfield 147, 3) := by decide +kernel
theorem dX8_leadAnew_54 : decode cX8_leadAnew 54 = .ok (.iinc 2 1, 3) := by decide +kernel
theorem dX8_leadAnew_57 : decode cX8_leadAnew 57 = .ok (.goto (-55), 3) := by decide +kernel
theorem dX8_leadAnew_60 : decode cX8_leadAnew 60 = .ok (.return_, 1) := by decide +kernel
def BX8_leadAnew_2 (q1 : Option Nat) (lp : Int32 → XS → Option (XS)) (u2 : Int32) (x : XS) : Option (XS) := Option.bind q1 fun p1 => Option.bind (dI x p1 3 2) fun v2 => if v2 ≤ u2 then some x else Option.bind (dP x p1 3 3) fun v4 => Option.bind (dA x v4 u2) fun v6 => Option.bind (fX8_horseAt x v6) fun v8 => oc v8 (lt (u2 + 1) fun v11 => lp v11 x) (fun p10 => Option.bind (dI x p10 1 5) fun v12 => Option.bind (fX8_racesWon x v6) fun v14 => Option.bind (dI x p1 3 0) fun v16 => bind2 (fX8_nextLead x v6 v12 v14 u2 v16) fun v18 x19 => Option.bind (dPut x19 p10 1 5 (.int v18)) fun x21 => lt (u2 + 1) fun v23 => lp v23 x21)
def LX8_leadAnew_2 (q1 : Option Nat) : Nat → Int32 → XS → Option (XS)
  | 0, _, _ => none
  | n + 1, u2, x => BX8_leadAnew_2 q1 (LX8_leadAnew_2 q1 n) u2 x
def fX8_leadAnew (x : XS) (a1 : Option Nat) : Option (XS) := Option.bind (LX8_leadAnew_2 a1 NF 0 x) fun x24 => some x24
set_option maxHeartbeats 4000000 in
set_option maxRecDepth 100000 in
theorem lX8_leadAnew_2 {p : Program} {l : Launch} {e : Env} {R : Room} {s : State} {m : MethodId} {args : Array Value} {below : List Frame} {meth : Method} {c : Code} {cells slots : Nat} {Q : State → Prop} {G : xG} {β : Nat} {D : Nat → Prop} (C : Cx p s m args meth c RX8 cX8_leadAnew 5 none (KK G)) (hRf : 5 ≤ R.frames) (hRl : 121 ≤ R.locals) (hcs : cells ≤ R.cells ∧ slots ≤ R.slots) (q1 : Option Nat) : ∀ (n : Nat) (u2 : Int32) (x : XS) (J : XS) (H : Heap) (locs : List Loc) (ls : Array Slot), LX8_leadAnew_2 q1 n u2 x = some J → CW β D G x H → va_S D s.heap H locs → lv_has ls 5 [(0, .ref β), (1, va_rf q1), (2, .int u2)] → (∀ (x1 : XS), J = x1 → ∀ (H : Heap) (locs : List Loc) (ls : Array Slot), CW β D G x1 H → va_S D s.heap H locs → lv_has ls 5 [] → W p l e R s m args below meth c H locs cells slots Q (F0 m 60 ls [])) → W p l e R s m args below meth c H locs cells slots Q (F0 m 2 ls []) := by
  have hx := C.1
  have hb := C.2.1
  have ho := C.2.2.2.1
  have hts := C.2.2.2.2.1
  intro n
  induction n with
  | zero =>
    intro u2 x J H locs ls hm
    exact absurd hm (by simp [LX8_leadAnew_2])
  | succ n ih =>
    intro u2 x J H locs ls hm hw hS hl ke
    replace hm : BX8_leadAnew_2 q1 (LX8_leadAnew_2 q1 n) u2 x = some J := hm
    unfold BX8_leadAnew_2 at hm
    refine lv_iload_n hx hb dX8_leadAnew_2 rfl (lv_at hl 2 rfl) ?_
    refine x_aload_nq hx hb dX8_leadAnew_3 rfl (lv_at hl 1 rfl) ?_
    obtain ⟨p1, hq, hz⟩ := bind_e hm
    clear hm
    subst hq
    have hm := hz
    clear hz
    obtain ⟨v2, h3, hm⟩ := bind_e hm
    refine gdX8_275 C h3 hw dX8_leadAnew_4 ?_
    refine lv_icmp_ge (tgt := 60) hx hb dX8_leadAnew_7 (by decide) (fun cc => ?_) (fun cc => ?_)
    · replace hm := ite_p cc hm
      exact ke _ (Option.some.inj hm).symm _ _ _ hw hS (lv_sub hl [] rfl)
    · replace hm := ite_n cc hm
      refine lv_aload_n hx hb dX8_leadAnew_10 rfl (lv_at hl 1 rfl) ?_
      obtain ⟨v4, h5, hm⟩ := bind_e hm
      refine gdX8_252 C h5 hw dX8_leadAnew_11 ?_
      refine lv_iload_n hx hb dX8_leadAnew_14 rfl (lv_at hl 2 rfl) ?_
      obtain ⟨v6, h7, hm⟩ := bind_e hm
      refine x_dald C h7 hw dX8_leadAnew_15 ?_
      refine lv_istore_n (lv' := [(3, .int v6), (0, .ref β), (1, .ref p1), (2, .int u2)]) hx hb dX8_leadAnew_16 rfl hl (by decide) rfl (fun ls hl => ?_)
      refine lv_aload_n hx hb dX8_leadAnew_17 rfl (lv_at hl 1 rfl) ?_
      refine lv_iload_n hx hb dX8_leadAnew_18 rfl (lv_at hl 0 rfl) ?_
      obtain ⟨v8, h9, hm⟩ := bind_e hm
      refine sX8_134 C h9 hw hS hl.1 (Nat.le_of_ble_eq_true rfl) (Nat.le_trans (Nat.le_of_ble_eq_true rfl) hRf) (Nat.le_trans (Nat.le_of_ble_eq_true rfl) hRl) hcs dX8_leadAnew_19 (fun H locs hw hS => ?_)
      refine x_astoreq (lv' := [(4, va_rf v8), (3, .int v6), (0, .ref β), (1, .ref p1), (2, .int u2)]) hx hb dX8_leadAnew_22 hl (by decide) rfl (fun ls hl => ?_)
      refine x_aloadq hx hb dX8_leadAnew_24 (lv_at hl 0 rfl) ?_
      rcases v8 with _ | p10
      · replace hm := oc_n hm
        refine lv_ifnullN (tgt := 54) hx hb dX8_leadAnew_26 (by decide) ?_
        obtain ⟨v11, ev, hm⟩ := lt_e hm
        refine lv_iinc (v := v11) (lv' := [(2, .int v11), (4, .null), (3, .int v6), (0, .ref β), (1, .ref p1)]) hx hb dX8_leadAnew_54 hl (k := 4) rfl (by rw [ev]; rfl) (by decide) rfl (fun ls hl => ?_)
        clear ev
        refine lv_goto (tgt := 2) hx hb dX8_leadAnew_57 (by decide) ?_
        exact ih _ _ _ _ _ _ hm hw hS (lv_sub hl [3, 4, 0] rfl) ke
      · replace hm := oc_s hm
        refine lv_ifnull hx hb dX8_leadAnew_26 ?_
        refine lv_aload hx hb dX8_leadAnew_29 (lv_at hl 0 rfl) ?_
        refine lv_aload_n hx hb dX8_leadAnew_31 rfl (lv_at hl 2 rfl) ?_
        refine lv_iload_n hx hb dX8_leadAnew_32 rfl (lv_at hl 1 rfl) ?_
        refine lv_aload hx hb dX8_leadAnew_33 (lv_at hl 0 rfl) ?_
        obtain ⟨v12, h13, hm⟩ := bind_e hm
        refine gdX8_147 C h13 hw dX8_leadAnew_35 ?_
        refine lv_aload_n hx hb dX8_leadAnew_38 rfl (lv_at hl 2 rfl) ?_
        refine lv_iload_n hx hb dX8_leadAnew_39 rfl (lv_at hl 1 rfl) ?_
        obtain ⟨v14, h15, hm⟩ := bind_e hm
        refine sX8_173 C h15 hw hS hl.1 (Nat.le_of_ble_eq_true rfl) (Nat.le_trans (Nat.le_of_ble_eq_true rfl) hRf) (Nat.le_trans (Nat.le_of_ble_eq_true rfl) hRl) hcs dX8_leadAnew_40 (fun H locs hw hS => ?_)
        refine lv_iload_n hx hb dX8_leadAnew_43 rfl (lv_at hl 4 rfl) ?_
        refine lv_aload_n hx hb dX8_leadAnew_44 rfl (lv_at hl 3 rfl) ?_
        obtain ⟨v16, h17, hm⟩ := bind_e hm
        refine gdX8_269 C h17 hw dX8_leadAnew_45 ?_
        obtain ⟨v18, x19, h20, hm⟩ := bind2_e hm
        refine sX8_400 C h20 hw hS hl.1 (Nat.le_of_ble_eq_true rfl) (Nat.le_trans (Nat.le_of_ble_eq_true rfl) hRf) (Nat.le_trans (Nat.le_of_ble_eq_true rfl) hRl) hcs dX8_leadAnew_48 (fun H locs hw hS => ?_)
        obtain ⟨x21, h22, hm⟩ := bind_e hm
        refine pdX8_147 C h22 hw hS dX8_leadAnew_51 (fun H locs hw hS => ?_)
        obtain ⟨v23, ev, hm⟩ := lt_e hm
        refine lv_iinc (v := v23) (lv' := [(2, .int v23), (4, .ref p10), (3, .int v6), (0, .ref β), (1, .ref p1)]) hx hb dX8_leadAnew_54 hl (k := 4) rfl (by rw [ev]; rfl) (by decide) rfl (fun ls hl => ?_)
        clear ev
        refine lv_goto (tgt := 2) hx hb dX8_leadAnew_57 (by decide) ?_
        exact ih _ _ _ _ _ _ hm hw hS (lv_sub hl [3, 4, 0] rfl) ke
abbrev rmX8_leadAnew : Room := { frames := 5, cells := 0, slots := 0, locals := 121 }
set_option maxHeartbeats 4000000 in
set_option maxRecDepth 100000 in
theorem kX8_leadAnew {l : Launch} {G : xG} {β : Nat} {D : Nat → Prop} {x x' : XS} {a1 : Option Nat} (hm : fX8_leadAnew x a1 = some x') : Met l yX8_leadAnew (.code yX8_leadAnew cX8_leadAnew 5 none :: GT) rmX8_leadAnew (PcW [.ref β, va_rf a1] (CW β D G x) (KK G)) (QcW D none (CW β D G x')) 0 0 D := by
  unfold fX8_leadAnew at hm
  refine xpro (own := RX8) (by decide +kernel) rfl (by cases a1 <;> exact Nat.le_of_ble_eq_true rfl) ?_
  intro p e s m args below meth c C hw ls hl
  have hx := C.1
  have hb := C.2.1
  have ho := C.2.2.2.1
  have hts := C.2.2.2.2.1
  have hS : va_S D s.heap s.heap [] := va_S.rf
  have hl : lv_has ls 5 [(0, .ref β), (1, va_rf a1)] := by cases a1 <;> exact hl
  have hRf : 5 ≤ rmX8_leadAnew.frames := Nat.le_refl _
  have hRl : 121 ≤ rmX8_leadAnew.locals := Nat.le_refl _
  have hcs : 0 ≤ rmX8_leadAnew.cells ∧ 0 ≤ rmX8_leadAnew.slots := ⟨Nat.le_refl _, Nat.le_refl _⟩
  refine lv_iconst (v := 0) hx hb dX8_leadAnew_0 (by decide) ?_
  refine lv_istore_n (lv' := [(2, .int 0), (0, .ref β), (1, va_rf a1)]) hx hb dX8_leadAnew_1 rfl hl (by decide) (by cases a1 <;> rfl) (fun ls hl => ?_)
  obtain ⟨x24, hj, hm⟩ := bind_e hm
  refine lX8_leadAnew_2 C hRf hRl hcs a1 NF _ _ _ _ _ _ hj hw hS (lv_sub hl [1, 2, 0] rfl) (fun x24_ e0 H locs ls hw hS hl => ?_)
  cases e0
  obtain rfl := Option.some.inj hm
  exact xret_v C hw hS dX8_leadAnew_60
