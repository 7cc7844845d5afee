theorem dX9_part_0 : decode cX9_part 0 = .ok (.aload_n 0, 1) := by decide +kernel
theorem dX9_part_1 : decode cX9_part 1 = .ok (.lload_n 1, 1) := by decide +kernel
theorem dX9_part_2 : decode cX9_part 2 = .ok (.invokevirtual 327, 3) := by decide +kernel
theorem dX9_part_5 : decode cX9_part 5 = .ok (.ifCond .ne 7, 3) := by decide +kernel
theorem dX9_part_8 : decode cX9_part 8 = .ok (.aload_n 0, 1) := by decide +kernel
theorem dX9_part_9 : decode cX9_part 9 = .ok (.invokevirtual 319, 3) := by decide +kernel
theorem dX9_part_12 : decode cX9_part 12 = .ok (.aload_n 0, 1) := by decide +kernel
theorem dX9_part_13 : decode cX9_part 13 = .ok (.getfield 309, 3) := by decide +kernel
theorem dX9_part_16 : decode cX9_part 16 = .ok (.ifCond .ne 7, 3) := by decide +kernel
theorem dX9_part_19 : decode cX9_part 19 = .ok (.aload_n 0, 1) := by decide +kernel
theorem dX9_part_20 : decode cX9_part 20 = .ok (.invokevirtual 322, 3) := by decide +kernel
theorem dX9_part_23 : decode cX9_part 23 = .ok (.aload_n 0, 1) := by decide +kernel
theorem dX9_part_24 : decode cX9_part 24 = .ok (.getfield 309, 3) := by decide +kernel
theorem dX9_part_27 : decode cX9_part 27 = .ok (.ifCond .eq 7, 3) := by decide +kernel
theorem dX9_part_30 : decode cX9_part 30 = .ok (.iconst 0, 1) := by decide +kernel
theorem dX9_part_31 : decode cX9_part 31 = .ok (.goto 7, 3) := by decide +kernel
theorem dX9_part_34 : decode cX9_part 34 = .ok (.aload_n 0, 1) := by decide +kernel
theorem dX9_part_35 : decode cX9_part 35 = .ok (.invokevirtual 366, 3) := by decide +kernel
theorem dX9_part_38 : decode cX9_part 38 = .ok (.istore_n 3, 1) := by decide +kernel
theorem dX9_part_39 : decode cX9_part 39 = .ok (.aload_n 0, 1) := by decide +kernel
theorem dX9_part_40 : decode cX9_part 40 = .ok (.bipush 59, 2) := by decide +kernel
theorem dX9_part_42 : decode cX9_part 42 = .ok (.invokevirtual 356, 3) := by decide +kernel
theorem dX9_part_45 : decode cX9_part 45 = .ok (.ifCond .ne 7, 3) := by decide +kernel
theorem dX9_part_48 : decode cX9_part 48 = .ok (.aload_n 0, 1) := by decide +kernel
theorem dX9_part_49 : decode cX9_part 49 = .ok (.invokevirtual 319, 3) := by decide +kernel
theorem dX9_part_52 : decode cX9_part 52 = .ok (.aload_n 0, 1) := by decide +kernel
theorem dX9_part_53 : decode cX9_part 53 = .ok (.getfield 309, 3) := by decide +kernel
theorem dX9_part_56 : decode cX9_part 56 = .ok (.ifCond .ne 7, 3) := by decide +kernel
theorem dX9_part_59 : decode cX9_part 59 = .ok (.aload_n 0, 1) := by decide +kernel
theorem dX9_part_60 : decode cX9_part 60 = .ok (.invokevirtual 322, 3) := by decide +kernel
theorem dX9_part_63 : decode cX9_part 63 = .ok (.iload_n 3, 1) := by decide +kernel
theorem dX9_part_64 : decode cX9_part 64 = .ok (.ireturn, 1) := by decide +kernel
theorem sX9_366 {p : Program} {l : Launch} {e : Env} {R : Room} {s : State} {m : MethodId} {args : Array Value} {below : List Frame} {meth : Method} {c : Code} {H : Heap} {locs : List Loc} {cells slots : Nat} {Q : State → Prop} {cc : ByteArray} {pc nL : Nat} {ls : Array Slot} {rest : List Value} {ret : Option FieldType} {G : xG} {β N : Nat} {x x' : MS} {r : Int32} (C : Cx p s m args meth c RX9 cc nL ret (KK G)) (h : GPar MF 0 x = some (r, x')) (hw : MW β G N x H) (hS : va_S (AM β) s.heap H locs) (hsz : ls.size = nL) (hW : (rest.map fun v => v.category).sum ≤ 8) (hR : 104 ≤ R.frames) (hR2 : 2389 ≤ R.locals) (hcs : cells ≤ R.cells ∧ slots ≤ R.slots) (hd : decode cc pc = .ok (.invokevirtual 366, 3)) (kk : ∀ (H1 : Heap) (locs1 : List Loc), MW β G N x' H1 → va_S (AM β) s.heap H1 locs1 → W p l e R s m args below meth c H1 locs1 cells slots Q (F0 m (pc + 3) ls (.int r :: rest))) : W p l e R s m args below meth c H locs cells slots Q (F0 m pc ls (.ref β :: rest)) :=
  xcallV C (As := []) (rest := rest) (nA := 0) (ci := 9) (kgX9_either h) (tg 1181 (by decide +kernel) rfl) (tg 1183 (by decide +kernel) rfl) (sg (List.mem_of_getElem? (i := 66) (by decide +kernel)) rfl) (tg 14 (by decide +kernel) rfl) (tg 1184 (by decide +kernel) rfl) ⟨rfl, by decide +kernel, by decide +kernel, by decide +kernel⟩ rfl rfl rfl ⟨hR, hR2⟩ (hw.2 0 (by decide)) hw hS (fun _ q => q) rfl rfl hsz hW hd hcs (fun H1 locs1 hw hz hk hS => kk H1 locs1 hw hS)
def fX9_part (x : MS) (a1 : Int64) : Option (Int32 × MS) := Option.bind (fX9_isWord x a1) fun v1 => Option.bind (if v1 = true then some x else Option.bind (fX9_fail x) fun x3 => some x3) fun x5 => Option.bind (if (x5.1 0 29) = 0 then Option.bind (fX9_next x5) fun x6 => some x6 else some x5) fun x8 => bind2 (if (x8.1 0 29) = 0 then bind2 (GPar MF 0 x8) fun v9 x10 => some (v9, x10) else some (0, x8)) fun v12 x13 => Option.bind (fX9_isSign x13 59) fun v14 => Option.bind (if v14 = true then some x13 else Option.bind (fX9_fail x13) fun x16 => some x16) fun x18 => if (x18.1 0 29) = 0 then Option.bind (fX9_next x18) fun x19 => some (v12, x19) else some (v12, x18)
abbrev rmX9_part : Room := { frames := 104, cells := 0, slots := 0, locals := 2389 }
set_option maxHeartbeats 4000000 in
set_option maxRecDepth 100000 in
theorem kX9_part {l : Launch} {G : xG} {β N : Nat} {x x' : MS} {a1 : Int64} {r : Int32} (hm : fX9_part x a1 = some (r, x')) : Met l yX9_part (.code yX9_part cX9_part 4 (some .int) :: GT) rmX9_part (PcW [.ref β, .long a1] (MW β G N x) (KK G)) (QcW (AM β) (some (.int r)) (MW β G N x')) 0 0 (AM β) := by
  unfold fX9_part at hm
  refine xpro (own := RX9) (by decide +kernel) rfl (Nat.le_of_ble_eq_true rfl) ?_
  intro p e s m args below meth c C hw ls hl
  have hx := C.1
  have hb := C.2.1
  have ho := C.2.2.2.1
  have hts := C.2.2.2.2.1
  have hS : va_S (AM β) s.heap s.heap [] := va_S.rf
  have hl : lv_has ls 4 [(0, .ref β), (1, .long a1)] := hl
  have hRf : 104 ≤ rmX9_part.frames := Nat.le_refl _
  have hRl : 2389 ≤ rmX9_part.locals := Nat.le_refl _
  have hcs : 0 ≤ rmX9_part.cells ∧ 0 ≤ rmX9_part.slots := ⟨Nat.le_refl _, Nat.le_refl _⟩
  refine lv_aload_n hx hb dX9_part_0 rfl (lv_at hl 0 rfl) ?_
  refine lv_lload_n hx hb dX9_part_1 rfl (lv_at hl 1 rfl) ?_
  obtain ⟨v1, h2, hm⟩ := bind_e hm
  refine sX9_327 C h2 hw hS hl.1 (Nat.le_of_ble_eq_true rfl) (Nat.le_trans (Nat.le_of_ble_eq_true rfl) hRf) (Nat.le_trans (Nat.le_of_ble_eq_true rfl) hRl) hcs dX9_part_2 (fun H locs hw hS => ?_)
  obtain ⟨x5, hj, hm⟩ := bind_e hm
  have kk : ∀ (H : Heap) (locs : List Loc) (ls : Array Slot), MW β G N x5 H → va_S (AM β) s.heap H locs → lv_has ls 4 [(0, .ref β)] → W p l e rmX9_part s m args below meth c H locs 0 0 (MQ below (QcW (AM β) (some (.int r)) (MW β G N x')) args s 0 0 (AM β)) (F0 m 12 ls []) := by
    intro H locs ls hw hS hl
    refine lv_aload_n hx hb dX9_part_12 rfl (lv_at hl 0 rfl) ?_
    refine gX9_309 C hw dX9_part_13 ?_
    obtain ⟨x8, hj, hm⟩ := bind_e hm
    have kk : ∀ (H : Heap) (locs : List Loc) (ls : Array Slot), MW β G N x8 H → va_S (AM β) s.heap H locs → lv_has ls 4 [(0, .ref β)] → W p l e rmX9_part s m args below meth c H locs 0 0 (MQ below (QcW (AM β) (some (.int r)) (MW β G N x')) args s 0 0 (AM β)) (F0 m 23 ls []) := by
      intro H locs ls hw hS hl
      refine lv_aload_n hx hb dX9_part_23 rfl (lv_at hl 0 rfl) ?_
      refine gX9_309 C hw dX9_part_24 ?_
      obtain ⟨v12, x13, hj, hm⟩ := bind2_e hm
      have kk : ∀ (H : Heap) (locs : List Loc) (ls : Array Slot), MW β G N x13 H → va_S (AM β) s.heap H locs → lv_has ls 4 [(0, .ref β)] → W p l e rmX9_part s m args below meth c H locs 0 0 (MQ below (QcW (AM β) (some (.int r)) (MW β G N x')) args s 0 0 (AM β)) (F0 m 38 ls [.int v12]) := by
        intro H locs ls hw hS hl
        refine lv_istore_n (lv' := [(3, .int v12), (0, .ref β)]) hx hb dX9_part_38 rfl hl (by decide) rfl (fun ls hl => ?_)
        refine lv_aload_n hx hb dX9_part_39 rfl (lv_at hl 1 rfl) ?_
        refine lv_bipush (v := 59) hx hb dX9_part_40 (by decide) ?_
        obtain ⟨v14, h15, hm⟩ := bind_e hm
        refine sX9_356 C h15 hw hS hl.1 (Nat.le_of_ble_eq_true rfl) (Nat.le_trans (Nat.le_of_ble_eq_true rfl) hRf) (Nat.le_trans (Nat.le_of_ble_eq_true rfl) hRl) hcs dX9_part_42 (fun H locs hw hS => ?_)
        obtain ⟨x18, hj, hm⟩ := bind_e hm
        have kk : ∀ (H : Heap) (locs : List Loc) (ls : Array Slot), MW β G N x18 H → va_S (AM β) s.heap H locs → lv_has ls 4 [(0, .ref β), (3, .int v12)] → W p l e rmX9_part s m args below meth c H locs 0 0 (MQ below (QcW (AM β) (some (.int r)) (MW β G N x')) args s 0 0 (AM β)) (F0 m 52 ls []) := by
          intro H locs ls hw hS hl
          refine lv_aload_n hx hb dX9_part_52 rfl (lv_at hl 0 rfl) ?_
          refine gX9_309 C hw dX9_part_53 ?_
          refine lv_if_ne (tgt := 63) hx hb dX9_part_56 (by decide) (fun cc => ?_) (fun cc => ?_)
          · replace hm := ite_n cc hm
            refine lv_iload_n hx hb dX9_part_63 rfl (lv_at hl 1 rfl) ?_
            obtain ⟨rfl, rfl⟩ := inj2 hm
            exact xret_i C hw hS dX9_part_64
          · replace hm := ite_p cc hm
            refine lv_aload_n hx hb dX9_part_59 rfl (lv_at hl 0 rfl) ?_
            obtain ⟨x19, h20, hm⟩ := bind_e hm
            refine sX9_322 C h20 hw hS hl.1 (Nat.le_of_ble_eq_true rfl) (Nat.le_trans (Nat.le_of_ble_eq_true rfl) hRf) (Nat.le_trans (Nat.le_of_ble_eq_true rfl) hRl) hcs dX9_part_60 (fun H locs hw hS => ?_)
            refine lv_iload_n hx hb dX9_part_63 rfl (lv_at hl 1 rfl) ?_
            obtain ⟨rfl, rfl⟩ := inj2 hm
            exact xret_i C hw hS dX9_part_64
        clear hm
        replace hm := hj
        clear hj
        refine x_ifneB hx hb dX9_part_45 (tgt := 52) (by decide) (fun cc => ?_) (fun cc => ?_)
        · replace hm := ite_p cc hm
          obtain rfl := Option.some.inj hm
          exact kk _ _ _ hw hS (lv_sub hl [1, 0] rfl)
        · replace hm := ite_n cc hm
          refine lv_aload_n hx hb dX9_part_48 rfl (lv_at hl 1 rfl) ?_
          obtain ⟨x16, h17, hm⟩ := bind_e hm
          refine sX9_319 C h17 hw hS hl.1 (Nat.le_of_ble_eq_true rfl) (Nat.le_trans (Nat.le_of_ble_eq_true rfl) hRf) (Nat.le_trans (Nat.le_of_ble_eq_true rfl) hRl) hcs dX9_part_49 (fun H locs hw hS => ?_)
          obtain rfl := Option.some.inj hm
          exact kk _ _ _ hw hS (lv_sub hl [1, 0] rfl)
      clear hm
      replace hm := hj
      clear hj
      refine lv_if_eq (tgt := 34) hx hb dX9_part_27 (by decide) (fun cc => ?_) (fun cc => ?_)
      · replace hm := ite_p cc hm
        refine lv_aload_n hx hb dX9_part_34 rfl (lv_at hl 0 rfl) ?_
        obtain ⟨v9, x10, h11, hm⟩ := bind2_e hm
        refine sX9_366 C h11 hw hS hl.1 (Nat.le_of_ble_eq_true rfl) (Nat.le_trans (Nat.le_of_ble_eq_true rfl) hRf) (Nat.le_trans (Nat.le_of_ble_eq_true rfl) hRl) hcs dX9_part_35 (fun H locs hw hS => ?_)
        obtain ⟨rfl, rfl⟩ := inj2 hm
        exact kk _ _ _ hw hS (lv_sub hl [0] rfl)
      · replace hm := ite_n cc hm
        refine lv_iconst (v := 0) hx hb dX9_part_30 (by decide) ?_
        refine lv_goto (tgt := 38) hx hb dX9_part_31 (by decide) ?_
        obtain ⟨rfl, rfl⟩ := inj2 hm
        exact kk _ _ _ hw hS (lv_sub hl [0] rfl)
    clear hm
    replace hm := hj
    clear hj
    refine lv_if_ne (tgt := 23) hx hb dX9_part_16 (by decide) (fun cc => ?_) (fun cc => ?_)
    · replace hm := ite_n cc hm
      obtain rfl := Option.some.inj hm
      exact kk _ _ _ hw hS (lv_sub hl [0] rfl)
    · replace hm := ite_p cc hm
      refine lv_aload_n hx hb dX9_part_19 rfl (lv_at hl 0 rfl) ?_
      obtain ⟨x6, h7, hm⟩ := bind_e hm
      refine sX9_322 C h7 hw hS hl.1 (Nat.le_of_ble_eq_true rfl) (Nat.le_trans (Nat.le_of_ble_eq_true rfl) hRf) (Nat.le_trans (Nat.le_of_ble_eq_true rfl) hRl) hcs dX9_part_20 (fun H locs hw hS => ?_)
      obtain rfl := Option.some.inj hm
      exact kk _ _ _ hw hS (lv_sub hl [0] rfl)
  clear hm
  replace hm := hj
  clear hj
  refine x_ifneB hx hb dX9_part_5 (tgt := 12) (by decide) (fun cc => ?_) (fun cc => ?_)
  · replace hm := ite_p cc hm
    obtain rfl := Option.some.inj hm
    exact kk _ _ _ hw hS (lv_sub hl [0] rfl)
  · replace hm := ite_n cc hm
    refine lv_aload_n hx hb dX9_part_8 rfl (lv_at hl 0 rfl) ?_
    obtain ⟨x3, h4, hm⟩ := bind_e hm
    refine sX9_319 C h4 hw hS hl.1 (Nat.le_of_ble_eq_true rfl) (Nat.le_trans (Nat.le_of_ble_eq_true rfl) hRf) (Nat.le_trans (Nat.le_of_ble_eq_true rfl) hRl) hcs dX9_part_9 (fun H locs hw hS => ?_)
    obtain rfl := Option.some.inj hm
    exact kk _ _ _ hw hS (lv_sub hl [0] rfl)
theorem dX9_read_0 : decode cX9_read 0 = .ok (.aload_n 0, 1) := by decide +kernel
theorem dX9_read_1 : decode cX9_read 1 = .ok (.iload_n 2, 1) := by decide +kernel
theorem dX9_read_2 : decode cX9_read 2 = .ok (.putfield 331, 3) := by decide +kernel
theorem dX9_read_5 : decode cX9_read 5 = .ok (.aload_n 0, 1) := by decide +kernel
theorem dX9_read_6 : decode cX9_read 6 = .ok (.iload_n 3, 1) := by decide +kernel
theorem dX9_read_7 : decode cX9_read 7 = .ok (.putfield 336, 3) := by decide +kernel
theorem dX9_read_10 : decode cX9_read 10 = .ok (.aload_n 0, 1) := by decide +kernel
theorem dX9_read_11 : decode cX9_read 11 = .ok (.iload 4, 2) := by decide +kernel
theorem dX9_read_13 : decode cX9_read 13 = .ok (.putfield 341, 3) := by decide +kernel
theorem dX9_read_16 : decode cX9_read 16 = .ok (.aload_n 0, 1) := by decide +kernel
theorem dX9_read_17 : decode cX9_read 17 = .ok (.iload 5, 2) := by decide +kernel
theorem dX9_read_19 : decode cX9_read 19 = .ok (.putfield 346, 3) := by decide +kernel
theorem dX9_read_22 : decode cX9_read 22 = .ok (.aload_n 0, 1) := by decide +kernel
theorem dX9_read_23 : decode cX9_read 23 = .ok (.iload 6, 2) := by decide +kernel
theorem dX9_read_25 : decode cX9_read 25 = .ok (.putfield 353, 3) := by decide +kernel
theorem dX9_read_28 : decode cX9_read 28 = .ok (.aload_n 0, 1) := by decide +kernel
theorem dX9_read_29 : decode cX9_read 29 = .ok (.sipush 160, 3) := by decide +kernel
theorem dX9_read_32 : decode cX9_read 32 = .ok (.iload_n 1, 1) := by decide +kernel
theorem dX9_read_33 : decode cX9_read 33 = .ok (.imul, 1) := by decide +kernel
theorem dX9_read_34 : decode cX9_read 34 = .ok (.putfield 276, 3) := by decide +kernel
theorem dX9_read_37 : decode cX9_read 37 = .ok (.aload_n 0, 1) := by decide +kernel
theorem dX9_read_38 : decode cX9_read 38 = .ok (.aload_n 0, 1) := by decide +kernel
theorem dX9_read_39 : decode cX9_read 39 = .ok (.getfield 17, 3) := by decide +kernel
theorem dX9_read_42 : decode cX9_read 42 = .ok (.iload_n 1, 1) := by decide +kernel
theorem dX9_read_43 : decode cX9_read 43 = .ok (.iaload, 1) := by decide +kernel
theorem dX9_read_44 : decode cX9_read 44 = .ok (.putfield 273, 3) := by decide +kernel
theorem dX9_read_47 : decode cX9_read 47 = .ok (.aload_n 0, 1) := by decide +kernel
theorem dX9_read_48 : decode cX9_read 48 = .ok (.iconst 0, 1) := by decide +kernel
theorem dX9_read_49 : decode cX9_read 49 = .ok (.putfield 279, 3) := by decide +kernel
theorem dX9_read_52 : decode cX9_read 52 = .ok (.aload_n 0, 1) := by decide +kernel
theorem dX9_read_53 : decode cX9_read 53 = .ok (.iconst 0, 1) := by decide +kernel
theorem dX9_read_54 : decode cX9_read 54 = .ok (.putfield 316, 3) := by decide +kernel
theorem dX9_read_57 : decode cX9_read 57 = .ok (.aload_n 0, 1) := by decide +kernel
theorem dX9_read_58 : decode cX9_read 58 = .ok (.iconst 0, 1) := by decide +kernel
theorem dX9_read_59 : decode cX9_read 59 = .ok (.putfield 309, 3) := by decide +kernel
theorem dX9_read_62 : decode cX9_read 62 = .ok (.aload_n 0, 1) := by decide +kernel
theorem dX9_read_63 : decode cX9_read 63 = .ok (.invokevirtual 322, 3) := by decide +kernel
theorem dX9_read_66 : decode cX9_read 66 = .ok (.aload_n 0, 1) := by decide +kernel
theorem dX9_read_67 : decode cX9_read 67 = .ok (.ldc2_w 392, 3) := by decide +kernel
theorem dX9_read_70 : decode cX9_read 70 = .ok (.invokevirtual 394, 3) := by decide +kernel
theorem dX9_read_73 : decode cX9_read 73 = .ok (.istore 8, 2) := by decide +kernel
theorem dX9_read_75 : decode cX9_read 75 = .ok (.aload_n 0, 1) := by decide +kernel
theorem dX9_read_76 : decode cX9_read 76 = .ok (.getfield 309, 3) := by decide +kernel
theorem dX9_read_79 : decode cX9_read 79 = .ok (.ifCond .eq 7, 3) := by decide +kernel
theorem dX9_read_82 : decode cX9_read 82 = .ok (.iconst 0, 1) := by decide +kernel
theorem dX9_read_83 : decode cX9_read 83 = .ok (.goto 10, 3) := by decide +kernel
theorem dX9_read_86 : decode cX9_read 86 = .ok (.aload_n 0, 1) := by decide +kernel
theorem dX9_read_87 : decode cX9_read 87 = .ok (.ldc2_w 398, 3) := by decide +kernel
theorem dX9_read_90 : decode cX9_read 90 = .ok (.invokevirtual 394, 3) := by decide +kernel
theorem dX9_read_93 : decode cX9_read 93 = .ok (.istore 9, 2) := by decide +kernel
theorem dX9_read_95 : decode cX9_read 95 = .ok (.aload_n 0, 1) := by decide +kernel
theorem dX9_read_96 : decode cX9_read 96 = .ok (.getfield 309, 3) := by decide +kernel
theorem dX9_read_99 : decode cX9_read 99 = .ok (.ifCond .eq 7, 3) := by decide +kernel
theorem dX9_read_102 : decode cX9_read 102 = .ok (.iconst 0, 1) := by decide +kernel
theorem dX9_read_103 : decode cX9_read 103 = .ok (.goto 10, 3) := by decide +kernel
theorem dX9_read_106 : decode cX9_read 106 = .ok (.aload_n 0, 1) := by decide +kernel
theorem dX9_read_107 : decode cX9_read 107 = .ok (.ldc2_w 400, 3) := by decide +kernel
theorem dX9_read_110 : decode cX9_read 110 = .ok (.invokevirtual 394, 3) := by decide +kernel
theorem dX9_read_113 : decode cX9_read 113 = .ok (.istore 10, 2) := by decide +kernel
theorem dX9_read_115 : decode cX9_read 115 = .ok (.aload_n 0, 1) := by decide +kernel
theorem dX9_read_116 : decode cX9_read 116 = .ok (.getfield 309, 3) := by decide +kernel
theorem dX9_read_119 : decode cX9_read 119 = .ok (.ifCond .ne 14, 3) := by decide +kernel
theorem dX9_read_122 : decode cX9_read 122 = .ok (.aload_n 0, 1) := by decide +kernel
theorem dX9_read_123 : decode cX9_read 123 = .ok (.getfield 288, 3) := by decide +kernel
theorem dX9_read_126 : decode cX9_read 126 = .ok (.ifCond .eq 7, 3) := by decide +kernel
theorem dX9_read_129 : decode cX9_read 129 = .ok (.aload_n 0, 1) := by decide +kernel
theorem dX9_read_130 : decode cX9_read 130 = .ok (.invokevirtual 319, 3) := by decide +kernel
theorem dX9_read_133 : decode cX9_read 133 = .ok (.iload 7, 2) := by decide +kernel
theorem dX9_read_135 : decode cX9_read 135 = .ok (.ifCond .ne 8, 3) := by decide +kernel
theorem dX9_read_138 : decode cX9_read 138 = .ok (.iload 8, 2) := by decide +kernel
theorem dX9_read_140 : decode cX9_read 140 = .ok (.goto 16, 3) := by decide +kernel
theorem dX9_read_143 : decode cX9_read 143 = .ok (.iload 7, 2) := by decide +kernel
theorem dX9_read_145 : decode cX9_read 145 = .ok (.iconst 1, 1) := by decide +kernel
theorem dX9_read_146 : decode cX9_read 146 = .ok (.if_icmp .ne 8, 3) := by decide +kernel
theorem dX9_read_149 : decode cX9_read 149 = .ok (.iload 9, 2) := by decide +kernel
theorem dX9_read_151 : decode cX9_read 151 = .ok (.goto 5, 3) := by decide +kernel
theorem dX9_read_154 : decode cX9_read 154 = .ok (.iload 10, 2) := by decide +kernel
theorem dX9_read_156 : decode cX9_read 156 = .ok (.ireturn, 1) := by decide +kernel
theorem pX9_331 {p : Program} {l : Launch} {e : Env} {R : Room} {s : State} {m : MethodId} {args : Array Value} {below : List Frame} {meth : Method} {c : Code} {H : Heap} {locs : List Loc} {cells slots : Nat} {Q : State → Prop} {cc : ByteArray} {pc nL : Nat} {ls : Array Slot} {rest : List Value} {ret : Option FieldType} {G : xG} {β N : Nat} {x : MS} {v : Int32} (C : Cx p s m args meth c RX9 cc nL ret (KK G)) (hw : MW β G N x H) (hS : va_S (AM β) s.heap H locs) (hd : decode cc pc = .ok (.putfield 331, 3)) (kk : ∀ (H1 : Heap) (locs1 : List Loc), MW β G N (msS x 0 31 v) H1 → va_S (AM β) s.heap H1 locs1 → W p l e R s m args below meth c H1 locs1 cells slots Q (F0 m (pc + 3) ls (rest))) : W p l e R s m args below meth c H locs cells slots Q (F0 m pc ls (.int v :: .ref β :: rest)) :=
  x_put C.1 C.2.1 C.2.2.2.2.1 iwX9 tyX9 tyX9_ok nmX9 C.2.2.2.1 C.K.1 hS (hw.2 0 (by decide)) (AM.in (by decide)) rfl 31 (by decide) (C.2.2.2.2.1 (.fieldLink RX9 331 RX9 "aboutHorse" "I") (tg 947 (by decide +kernel) rfl)) (fun _ h9 => h9) rfl (ty := .int) (by decide +kernel) rfl rfl (Nat.le_of_ble_eq_true rfl) hd (fun H1 locs1 hat ho hS => kk H1 locs1 (hw.setS 0 31 v hat ho) hS)
theorem pX9_336 {p : Program} {l : Launch} {e : Env} {R : Room} {s : State} {m : MethodId} {args : Array Value} {below : List Frame} {meth : Method} {c : Code} {H : Heap} {locs : List Loc} {cells slots : Nat} {Q : State → Prop} {cc : ByteArray} {pc nL : Nat} {ls : Array Slot} {rest : List Value} {ret : Option FieldType} {G : xG} {β N : Nat} {x : MS} {v : Int32} (C : Cx p s m args meth c RX9 cc nL ret (KK G)) (hw : MW β G N x H) (hS : va_S (AM β) s.heap H locs) (hd : decode cc pc = .ok (.putfield 336, 3)) (kk : ∀ (H1 : Heap) (locs1 : List Loc), MW β G N (msS x 0 32 v) H1 → va_S (AM β) s.heap H1 locs1 → W p l e R s m args below meth c H1 locs1 cells slots Q (F0 m (pc + 3) ls (rest))) : W p l e R s m args below meth c H locs cells slots Q (F0 m pc ls (.int v :: .ref β :: rest)) :=
  x_put C.1 C.2.1 C.2.2.2.2.1 iwX9 tyX9 tyX9_ok nmX9 C.2.2.2.1 C.K.1 hS (hw.2 0 (by decide)) (AM.in (by decide)) rfl 32 (by decide) (C.2.2.2.2.1 (.fieldLink RX9 336 RX9 "aboutLead" "I") (tg 948 (by decide +kernel) rfl)) (fun _ h9 => h9) rfl (ty := .int) (by decide +kernel) rfl rfl (Nat.le_of_ble_eq_true rfl) hd (fun H1 locs1 hat ho hS => kk H1 locs1 (hw.setS 0 32 v hat ho) hS)
theorem pX9_341 {p : Program} {l : Launch} {e : Env} {R : Room} {s : State} {m : MethodId} {args : Array Value} {below : List Frame} {meth : Method} {c : Code} {H : Heap} {locs : List Loc} {cells slots : Nat} {Q : State → Prop} {cc : ByteArray} {pc nL : Nat} {ls : Array Slot} {rest : List Value} {ret : Option FieldType} {G : xG} {β N : Nat} {x : MS} {v : Int32} (C : Cx p s m args meth c RX9 cc nL ret (KK G)) (hw : MW β G N x H) (hS : va_S (AM β) s.heap H locs) (hd : decode cc pc = .ok (.putfield 341, 3)) (kk : ∀ (H1 : Heap) (locs1 : List Loc), MW β G N (msS x 0 33 v) H1 → va_S (AM β) s.heap H1 locs1 → W p l e R s m args below meth c H1 locs1 cells slots Q (F0 m (pc + 3) ls (rest))) : W p l e R s m args below meth c H locs cells slots Q (F0 m pc ls (.int v :: .ref β :: rest)) :=
  x_put C.1 C.2.1 C.2.2.2.2.1 iwX9 tyX9 tyX9_ok nmX9 C.2.2.2.1 C.K.1 hS (hw.2 0 (by decide)) (AM.in (by decide)) rfl 33 (by decide) (C.2.2.2.2.1 (.fieldLink RX9 341 RX9 "aboutWon" "I") (tg 949 (by decide +kernel) rfl)) (fun _ h9 => h9) rfl (ty := .int) (by decide +kernel) rfl rfl (Nat.le_of_ble_eq_true rfl) hd (fun H1 locs1 hat ho hS => kk H1 locs1 (hw.setS 0 33 v hat ho) hS)
theorem pX9_346 {p : Program} {l : Launch} {e : Env} {R : Room} {s : State} {m : MethodId} {args : Array Value} {below : List Frame} {meth : Method} {c : Code} {H : Heap} {locs : List Loc} {cells slots : Nat} {Q : State → Prop} {cc : ByteArray} {pc nL : Nat} {ls : Array Slot} {rest : List Value} {ret : Option FieldType} {G : xG} {β N : Nat} {x : MS} {v : Int32} (C : Cx p s m args meth c RX9 cc nL ret (KK G)) (hw : MW β G N x H) (hS : va_S (AM β) s.heap H locs) (hd : decode cc pc = .ok (.putfield 346, 3)) (kk : ∀ (H1 : Heap) (locs1 : List Loc), MW β G N (msS x 0 34 v) H1 → va_S (AM β) s.heap H1 locs1 → W p l e R s m args below meth c H1 locs1 cells slots Q (F0 m (pc + 3) ls (rest))) : W p l e R s m args below meth c H locs cells slots Q (F0 m pc ls (.int v :: .ref β :: rest)) :=
  x_put C.1 C.2.1 C.2.2.2.2.1 iwX9 tyX9 tyX9_ok nmX9 C.2.2.2.1 C.K.1 hS (hw.2 0 (by decide)) (AM.in (by decide)) rfl 34 (by decide) (C.2.2.2.2.1 (.fieldLink RX9 346 RX9 "aboutPlace" "I") (tg 950 (by decide +kernel) rfl)) (fun _ h9 => h9) rfl (ty := .int) (by decide +kernel) rfl rfl (Nat.le_of_ble_eq_true rfl) hd (fun H1 locs1 hat ho hS => kk H1 locs1 (hw.setS 0 34 v hat ho) hS)
theorem pX9_353 {p : Program} {l : Launch} {e : Env} {R : Room} {s : State} {m : MethodId} {args : Array Value} {below : List Frame} {meth : Method} {c : Code} {H : Heap} {locs : List Loc} {cells slots : Nat} {Q : State → Prop} {cc : ByteArray} {pc nL : Nat} {ls : Array Slot} {rest : List Value} {ret : Option FieldType} {G : xG} {β N : Nat} {x : MS} {v : Int32} (C : Cx p s m args meth c RX9 cc nL ret (KK G)) (hw : MW β G N x H) (hS : va_S (AM β) s.heap H locs) (hd : decode cc pc = .ok (.putfield 353, 3)) (kk : ∀ (H1 : Heap) (locs1 : List Loc), MW β G N (msS x 0 35 v) H1 → va_S (AM β) s.heap H1 locs1 → W p l e R s m args below meth c H1 locs1 cells slots Q (F0 m (pc + 3) ls (rest))) : W p l e R s m args below meth c H locs cells slots Q (F0 m pc ls (.int v :: .ref β :: rest)) :=
  x_put C.1 C.2.1 C.2.2.2.2.1 iwX9 tyX9 tyX9_ok nmX9 C.2.2.2.1 C.K.1 hS (hw.2 0 (by decide)) (AM.in (by decide)) rfl 35 (by decide) (C.2.2.2.2.1 (.fieldLink RX9 353 RX9 "aboutGround" "I") (tg 951 (by decide +kernel) rfl)) (fun _ h9 => h9) rfl (ty := .int) (by decide +kernel) rfl rfl (Nat.le_of_ble_eq_true rfl) hd (fun H1 locs1 hat ho hS => kk H1 locs1 (hw.setS 0 35 v hat ho) hS)
theorem pX9_276 {p : Program} {l : Launch} {e : Env} {R : Room} {s : State} {m : MethodId} {args : Array Value} {below : List Frame} {meth : Method} {c : Code} {H : Heap} {locs : List Loc} {cells slots : Nat} {Q : State → Prop} {cc : ByteArray} {pc nL : Nat} {ls : Array Slot} {rest : List Value} {ret : Option FieldType} {G : xG} {β N : Nat} {x : MS} {v : Int32} (C : Cx p s m args meth c RX9 cc nL ret (KK G)) (hw : MW β G N x H) (hS : va_S (AM β) s.heap H locs) (hd : decode cc pc = .ok (.putfield 276, 3)) (kk : ∀ (H1 : Heap) (locs1 : List Loc), MW β G N (msS x 0 22 v) H1 → va_S (AM β) s.heap H1 locs1 → W p l e R s m args below meth c H1 locs1 cells slots Q (F0 m (pc + 3) ls (rest))) : W p l e R s m args below meth c H locs cells slots Q (F0 m pc ls (.int v :: .ref β :: rest)) :=
  x_put C.1 C.2.1 C.2.2.2.2.1 iwX9 tyX9 tyX9_ok nmX9 C.2.2.2.1 C.K.1 hS (hw.2 0 (by decide)) (AM.in (by decide)) rfl 22 (by decide) (C.2.2.2.2.1 (.fieldLink RX9 276 RX9 "from" "I") (tg 938 (by decide +kernel) rfl)) (fun _ h9 => h9) rfl (ty := .int) (by decide +kernel) rfl rfl (Nat.le_of_ble_eq_true rfl) hd (fun H1 locs1 hat ho hS => kk H1 locs1 (hw.setS 0 22 v hat ho) hS)
theorem gX9_17 {p : Program} {l : Launch} {e : Env} {R : Room} {s : State} {m : MethodId} {args : Array Value} {below : List Frame} {meth : Method} {c : Code} {H : Heap} {locs : List Loc} {cells slots : Nat} {Q : State → Prop} {cc : ByteArray} {pc nL : Nat} {ls : Array Slot} {rest : List Value} {ret : Option FieldType} {G : xG} {β N : Nat} {x : MS} (C : Cx p s m args meth c RX9 cc nL ret (KK G)) (hw : MW β G N x H) (hd : decode cc pc = .ok (.getfield 17, 3)) (kk : W p l e R s m args below meth c H locs cells slots Q (F0 m (pc + 3) ls (.ref (β + 2) :: rest))) : W p l e R s m args below meth c H locs cells slots Q (F0 m pc ls (.ref β :: rest)) :=
  va_get C.1 C.2.1 C.2.2.2.2.1 iwX9 C.2.2.2.1 C.K.1 (xP1 (hw.2 0 (by decide))) 0 rfl rfl 2 (by decide) (C.2.2.2.2.1 (.fieldLink RX9 17 RX9 "textSize" "[I") (tg 918 (by decide +kernel) rfl)) (fun _ h9 => h9) rfl hd kk
theorem alM_2 {p : Program} {l : Launch} {e : Env} {R : Room} {s : State} {m : MethodId} {args : Array Value} {below : List Frame} {meth : Method} {c : Code} {H : Heap} {locs : List Loc} {cells slots : Nat} {Q : State → Prop} {cc : ByteArray} {pc nL : Nat} {ls : Array Slot} {rest : List Value} {ret : Option FieldType} {G : xG} {β N : Nat} {x : MS} {own : String} {i : Int32} (C : Cx p s m args meth c own cc nL ret (KK G)) (hw : MW β G N x H) (hin : ib i 6) (hd : decode cc pc = .ok (.iaload, 1)) (kk : W p l e R s m args below meth c H locs cells slots Q (F0 m (pc + 1) ls (.int (x.2.1 2 i.toNatClampNeg) :: rest))) : W p l e R s m args below meth c H locs cells slots Q (F0 m pc ls (.int i :: .ref (β + 2) :: rest)) :=
  va_iald C.1 C.2.1 C.K.1 (xP1 (hw.2 2 (by decide))) 0 0 rfl rfl hin hd kk
theorem pX9_273 {p : Program} {l : Launch} {e : Env} {R : Room} {s : State} {m : MethodId} {args : Array Value} {below : List Frame} {meth : Method} {c : Code} {H : Heap} {locs : List Loc} {cells slots : Nat} {Q : State → Prop} {cc : ByteArray} {pc nL : Nat} {ls : Array Slot} {rest : List Value} {ret : Option FieldType} {G : xG} {β N : Nat} {x : MS} {v : Int32} (C : Cx p s m args meth c RX9 cc nL ret (KK G)) (hw : MW β G N x H) (hS : va_S (AM β) s.heap H locs) (hd : decode cc pc = .ok (.putfield 273, 3)) (kk : ∀ (H1 : Heap) (locs1 : List Loc), MW β G N (msS x 0 23 v) H1 → va_S (AM β) s.heap H1 locs1 → W p l e R s m args below meth c H1 locs1 cells slots Q (F0 m (pc + 3) ls (rest))) : W p l e R s m args below meth c H locs cells slots Q (F0 m pc ls (.int v :: .ref β :: rest)) :=
  x_put C.1 C.2.1 C.2.2.2.2.1 iwX9 tyX9 tyX9_ok nmX9 C.2.2.2.1 C.K.1 hS (hw.2 0 (by decide)) (AM.in (by decide)) rfl 23 (by decide) (C.2.2.2.2.1 (.fieldLink RX9 273 RX9 "size" "I") (tg 939 (by decide +kernel) rfl)) (fun _ h9 => h9) rfl (ty := .int) (by decide +kernel) rfl rfl (Nat.le_of_ble_eq_true rfl) hd (fun H1 locs1 hat ho hS => kk H1 locs1 (hw.setS 0 23 v hat ho) hS)
theorem sX9_394 {p : Program} {l : Launch} {e : Env} {R : Room} {s : State} {m : MethodId} {args : Array Value} {below : List Frame} {meth : Method} {c : Code} {H : Heap} {locs : List Loc} {cells slots : Nat} {Q : State → Prop} {cc : ByteArray} {pc nL : Nat} {ls : Array Slot} {rest : List Value} {ret : Option FieldType} {G : xG} {β N : Nat} {x x' : MS} {a1 : Int64} {r : Int32} (C : Cx p s m args meth c RX9 cc nL ret (KK G)) (h : fX9_part x a1 = some (r, x')) (hw : MW β G N x H) (hS : va_S (AM β) s.heap H locs) (hsz : ls.size = nL) (hW : (rest.map fun v => v.category).sum ≤ 8) (hR : 105 ≤ R.frames) (hR2 : 2412 ≤ R.locals) (hcs : cells ≤ R.cells ∧ slots ≤ R.slots) (hd : decode cc pc = .ok (.invokevirtual 394, 3)) (kk : ∀ (H1 : Heap) (locs1 : List Loc), MW β G N x' H1 → va_S (AM β) s.heap H1 locs1 → W p l e R s m args below meth c H1 locs1 cells slots Q (F0 m (pc + 3) ls (.int r :: rest))) : W p l e R s m args below meth c H locs cells slots Q (F0 m pc ls (.long a1 :: .ref β :: rest)) :=
  xcallV C (As := [.long a1]) (rest := rest) (nA := 1) (ci := 9) (kX9_part h) (tg 1169 (by decide +kernel) rfl) (tg 1171 (by decide +kernel) rfl) (sg (List.mem_of_getElem? (i := 63) (by decide +kernel)) rfl) (tg 14 (by decide +kernel) rfl) (tg 1172 (by decide +kernel) rfl) ⟨rfl, by decide +kernel, by decide +kernel, by decide +kernel⟩ rfl rfl rfl ⟨hR, hR2⟩ (hw.2 0 (by decide)) hw hS (fun _ q => q) rfl rfl hsz hW hd hcs (fun H1 locs1 hw hz hk hS => kk H1 locs1 hw hS)
def fX9_read (x : MS) (a1 : Int32) (a2 : Int32) (a3 : Int32) (a4 : Int32) (a5 : Int32) (a6 : Int32) (a7 : Int32) : Option (Int32 × MS) := lt (msS x 0 31 a2) fun x1 => lt (msS x1 0 32 a3) fun x2 => lt (msS x2 0 33 a4) fun x3 => lt (msS x3 0 34 a5) fun x4 => lt (msS x4 0 35 a6) fun x5 => lt (msS x5 0 22 (160 * a1)) fun x6 => if ib a1 6 then lt (msS x6 0 23 (x6.2.1 2 a1.toNatClampNeg)) fun x8 => lt (msS x8 0 27 0) fun x9 => lt (msS x9 0 28 0) fun x10 => lt (msS x10 0 29 (bI false)) fun x11 => Option.bind (fX9_next x11) fun x12 => bind2 (fX9_part x12 279875) fun v14 x15 => bind2 (if (x15.1 0 29) = 0 then bind2 (fX9_part x15 168727) fun v17 x18 => some (v17, x18) else some (0, x15)) fun v20 x21 => bind2 (if (x21.1 0 29) = 0 then bind2 (fX9_part x21 13903) fun v22 x23 => some (v22, x23) else some (0, x21)) fun v25 x26 => Option.bind (if (x26.1 0 29) = 0 then if (x26.1 0 24) = 0 then some x26 else Option.bind (fX9_fail x26) fun x27 => some x27 else some x26) fun x29 => if a7 = 0 then some (v14, x29) else if a7 = 1 then some (v20, x29) else some (v25, x29) else none
abbrev rmX9_read : Room := { frames := 105, cells := 0, slots := 0, locals := 2412 }
set_option maxHeartbeats 4000000 in
set_option maxRecDepth 100000 in
theorem kX9_read {l : Launch} {G : xG} {β N : Nat} {x x' : MS} {a1 : Int32} {a2 : Int32} {a3 : Int32} {a4 : Int32} {a5 : Int32} {a6 : Int32} {a7 : Int32} {r : Int32} (hm : fX9_read x a1 a2 a3 a4 a5 a6 a7 = some (r, x')) : Met l yX9_read (.code yX9_read cX9_read 11 (some .int) :: GT) rmX9_read (PcW [.ref β, .int a1, .int a2, .int a3, .int a4, .int a5, .int a6, .int a7] (MW β G N x) (KK G)) (QcW (AM β) (some (.int r)) (MW β G N x')) 0 0 (AM β) := by
  unfold fX9_read at hm
  refine xpro (own := RX9) (by decide +kernel) rfl (Nat.le_of_ble_eq_true rfl) ?_
  intro p e s m args below meth c C hw ls hl
  have hx := C.1
  have hb := C.2.1
  have ho := C.2.2.2.1
  have hts := C.2.2.2.2.1
  have hS : va_S (AM β) s.heap s.heap [] := va_S.rf
  have hl : lv_has ls 11 [(0, .ref β), (1, .int a1), (2, .int a2), (3, .int a3), (4, .int a4), (5, .int a5), (6, .int a6), (7, .int a7)] := hl
  have hRf : 105 ≤ rmX9_read.frames := Nat.le_refl _
  have hRl : 2412 ≤ rmX9_read.locals := Nat.le_refl _
  have hcs : 0 ≤ rmX9_read.cells ∧ 0 ≤ rmX9_read.slots := ⟨Nat.le_refl _, Nat.le_refl _⟩
  refine lv_aload_n hx hb dX9_read_0 rfl (lv_at hl 0 rfl) ?_
  refine lv_iload_n hx hb dX9_read_1 rfl (lv_at hl 2 rfl) ?_
  refine pX9_331 C hw hS dX9_read_2 (fun H locs hw hS => ?_)
  obtain ⟨x1, ev, hm⟩ := lt_e hm
  rw [← ev] at hw
  clear ev
  refine lv_aload_n hx hb dX9_read_5 rfl (lv_at hl 0 rfl) ?_
  refine lv_iload_n hx hb dX9_read_6 rfl (lv_at hl 3 rfl) ?_
  refine pX9_336 C hw hS dX9_read_7 (fun H locs hw hS => ?_)
  obtain ⟨x2, ev, hm⟩ := lt_e hm
  rw [← ev] at hw
  clear ev
  refine lv_aload_n hx hb dX9_read_10 rfl (lv_at hl 0 rfl) ?_
  refine lv_iload hx hb dX9_read_11 (lv_at hl 4 rfl) ?_
  refine pX9_341 C hw hS dX9_read_13 (fun H locs hw hS => ?_)
  obtain ⟨x3, ev, hm⟩ := lt_e hm
  rw [← ev] at hw
  clear ev
  refine lv_aload_n hx hb dX9_read_16 rfl (lv_at hl 0 rfl) ?_
  refine lv_iload hx hb dX9_read_17 (lv_at hl 5 rfl) ?_
  refine pX9_346 C hw hS dX9_read_19 (fun H locs hw hS => ?_)
  obtain ⟨x4, ev, hm⟩ := lt_e hm
  rw [← ev] at hw
  clear ev
  refine lv_aload_n hx hb dX9_read_22 rfl (lv_at hl 0 rfl) ?_
  refine lv_iload hx hb dX9_read_23 (lv_at hl 6 rfl) ?_
  refine pX9_353 C hw hS dX9_read_25 (fun H locs hw hS => ?_)
  obtain ⟨x5, ev, hm⟩ := lt_e hm
  rw [← ev] at hw
  clear ev
  refine lv_aload_n hx hb dX9_read_28 rfl (lv_at hl 0 rfl) ?_
  refine lv_sipush (v := 160) hx hb dX9_read_29 (by decide) ?_
  refine lv_iload_n hx hb dX9_read_32 rfl (lv_at hl 1 rfl) ?_
  refine lv_imul hx hb dX9_read_33 ?_
  refine pX9_276 C hw hS dX9_read_34 (fun H locs hw hS => ?_)
  obtain ⟨x6, ev, hm⟩ := lt_e hm
  rw [← ev] at hw
  clear ev
  refine lv_aload_n hx hb dX9_read_37 rfl (lv_at hl 0 rfl) ?_
  refine lv_aload_n hx hb dX9_read_38 rfl (lv_at hl 0 rfl) ?_
  refine gX9_17 C hw dX9_read_39 ?_
  refine lv_iload_n hx hb dX9_read_42 rfl (lv_at hl 1 rfl) ?_
  obtain ⟨h7, hm⟩ := chk_e hm
  refine alM_2 C hw h7 dX9_read_43 ?_
  refine pX9_273 C hw hS dX9_read_44 (fun H locs hw hS => ?_)
  obtain ⟨x8, ev, hm⟩ := lt_e hm
  rw [← ev] at hw
  clear ev
  refine lv_aload_n hx hb dX9_read_47 rfl (lv_at hl 0 rfl) ?_
  refine lv_iconst (v := 0) hx hb dX9_read_48 (by decide) ?_
  refine pX9_279 C hw hS dX9_read_49 (fun H locs hw hS => ?_)
  obtain ⟨x9, ev, hm⟩ := lt_e hm
  rw [← ev] at hw
  clear ev
  refine lv_aload_n hx hb dX9_read_52 rfl (lv_at hl 0 rfl) ?_
  refine lv_iconst (v := 0) hx hb dX9_read_53 (by decide) ?_
  refine pX9_316 C hw hS dX9_read_54 (fun H locs hw hS => ?_)
  obtain ⟨x10, ev, hm⟩ := lt_e hm
  rw [← ev] at hw
  clear ev
  refine lv_aload_n hx hb dX9_read_57 rfl (lv_at hl 0 rfl) ?_
  refine lv_iconst (v := 0) hx hb dX9_read_58 (by decide) ?_
  refine pX9_309 (b := false) C hw hS dX9_read_59 (fun H locs hw hS => ?_)
  obtain ⟨x11, ev, hm⟩ := lt_e hm
  rw [← ev] at hw
  clear ev
  refine lv_aload_n hx hb dX9_read_62 rfl (lv_at hl 0 rfl) ?_
  obtain ⟨x12, h13, hm⟩ := bind_e hm
  refine sX9_322 C h13 hw hS hl.1 (Nat.le_of_ble_eq_true rfl) (Nat.le_trans (Nat.le_of_ble_eq_true rfl) hRf) (Nat.le_trans (Nat.le_of_ble_eq_true rfl) hRl) hcs dX9_read_63 (fun H locs hw hS => ?_)
  refine lv_aload_n hx hb dX9_read_66 rfl (lv_at hl 0 rfl) ?_
  refine lv_ldc2 (v := 279875) hx hb ho (hts (.constantLong RX9 392 279875) (tg 1168 (by decide +kernel) rfl)) dX9_read_67 ?_
  obtain ⟨v14, x15, h16, hm⟩ := bind2_e hm
  refine sX9_394 C h16 hw hS hl.1 (Nat.le_of_ble_eq_true rfl) (Nat.le_trans (Nat.le_of_ble_eq_true rfl) hRf) (Nat.le_trans (Nat.le_of_ble_eq_true rfl) hRl) hcs dX9_read_70 (fun H locs hw hS => ?_)
  refine lv_istore (lv' := [(8, .int v14), (0, .ref β), (1, .int a1), (2, .int a2), (3, .int a3), (4, .int a4), (5, .int a5), (6, .int a6), (7, .int a7)]) hx hb dX9_read_73 hl (by decide) rfl (fun ls hl => ?_)
  refine lv_aload_n hx hb dX9_read_75 rfl (lv_at hl 1 rfl) ?_
  refine gX9_309 C hw dX9_read_76 ?_
  obtain ⟨v20, x21, hj, hm⟩ := bind2_e hm
  have kk : ∀ (H : Heap) (locs : List Loc) (ls : Array Slot), MW β G N x21 H → va_S (AM β) s.heap H locs → lv_has ls 11 [(0, .ref β), (7, .int a7), (8, .int v14)] → W p l e rmX9_read s m args below meth c H locs 0 0 (MQ below (QcW (AM β) (some (.int r)) (MW β G N x')) args s 0 0 (AM β)) (F0 m 93 ls [.int v20]) := by
    intro H locs ls hw hS hl
    refine lv_istore (lv' := [(9, .int v20), (0, .ref β), (7, .int a7), (8, .int v14)]) hx hb dX9_read_93 hl (by decide) rfl (fun ls hl => ?_)
    refine lv_aload_n hx hb dX9_read_95 rfl (lv_at hl 1 rfl) ?_
    refine gX9_309 C hw dX9_read_96 ?_
    obtain ⟨v25, x26, hj, hm⟩ := bind2_e hm
    have kk : ∀ (H : Heap) (locs : List Loc) (ls : Array Slot), MW β G N x26 H → va_S (AM β) s.heap H locs → lv_has ls 11 [(0, .ref β), (7, .int a7), (8, .int v14), (9, .int v20)] → W p l e rmX9_read s m args below meth c H locs 0 0 (MQ below (QcW (AM β) (some (.int r)) (MW β G N x')) args s 0 0 (AM β)) (F0 m 113 ls [.int v25]) := by
      intro H locs ls hw hS hl
      refine lv_istore (lv' := [(10, .int v25), (0, .ref β), (7, .int a7), (8, .int v14), (9, .int v20)]) hx hb dX9_read_113 hl (by decide) rfl (fun ls hl => ?_)
      refine lv_aload_n hx hb dX9_read_115 rfl (lv_at hl 1 rfl) ?_
      refine gX9_309 C hw dX9_read_116 ?_
      obtain ⟨x29, hj, hm⟩ := bind_e hm
      have kk : ∀ (H : Heap) (locs : List Loc) (ls : Array Slot), MW β G N x29 H → va_S (AM β) s.heap H locs → lv_has ls 11 [(7, .int a7), (8, .int v14), (9, .int v20), (10, .int v25)] → W p l e rmX9_read s m args below meth c H locs 0 0 (MQ below (QcW (AM β) (some (.int r)) (MW β G N x')) args s 0 0 (AM β)) (F0 m 133 ls []) := by
        intro H locs ls hw hS hl
        refine lv_iload hx hb dX9_read_133 (lv_at hl 0 rfl) ?_
        refine lv_if_ne (tgt := 143) hx hb dX9_read_135 (by decide) (fun cc => ?_) (fun cc => ?_)
        · replace hm := ite_n cc hm
          refine lv_iload hx hb dX9_read_143 (lv_at hl 0 rfl) ?_
          refine lv_iconst (v := 1) hx hb dX9_read_145 (by decide) ?_
          refine lv_icmp_ne (tgt := 154) hx hb dX9_read_146 (by decide) (fun cc => ?_) (fun cc => ?_)
          · replace hm := ite_n cc hm
            refine lv_iload hx hb dX9_read_154 (lv_at hl 3 rfl) ?_
            obtain ⟨rfl, rfl⟩ := inj2 hm
            exact xret_i C hw hS dX9_read_156
          · replace hm := ite_p cc hm
            refine lv_iload hx hb dX9_read_149 (lv_at hl 2 rfl) ?_
            refine lv_goto (tgt := 156) hx hb dX9_read_151 (by decide) ?_
            obtain ⟨rfl, rfl⟩ := inj2 hm
            exact xret_i C hw hS dX9_read_156
        · replace hm := ite_p cc hm
          refine lv_iload hx hb dX9_read_138 (lv_at hl 1 rfl) ?_
          refine lv_goto (tgt := 156) hx hb dX9_read_140 (by decide) ?_
          obtain ⟨rfl, rfl⟩ := inj2 hm
          exact xret_i C hw hS dX9_read_156
      clear hm
      replace hm := hj
      clear hj
      refine lv_if_ne (tgt := 133) hx hb dX9_read_119 (by decide) (fun cc => ?_) (fun cc => ?_)
      · replace hm := ite_n cc hm
        obtain rfl := Option.some.inj hm
        exact kk _ _ _ hw hS (lv_sub hl [2, 3, 4, 0] rfl)
      · replace hm := ite_p cc hm
        refine lv_aload_n hx hb dX9_read_122 rfl (lv_at hl 1 rfl) ?_
        refine gX9_288 C hw dX9_read_123 ?_
        refine lv_if_eq (tgt := 133) hx hb dX9_read_126 (by decide) (fun cc => ?_) (fun cc => ?_)
        · replace hm := ite_p cc hm
          obtain rfl := Option.some.inj hm
          exact kk _ _ _ hw hS (lv_sub hl [2, 3, 4, 0] rfl)
        · replace hm := ite_n cc hm
          refine lv_aload_n hx hb dX9_read_129 rfl (lv_at hl 1 rfl) ?_
          obtain ⟨x27, h28, hm⟩ := bind_e hm
          refine sX9_319 C h28 hw hS hl.1 (Nat.le_of_ble_eq_true rfl) (Nat.le_trans (Nat.le_of_ble_eq_true rfl) hRf) (Nat.le_trans (Nat.le_of_ble_eq_true rfl) hRl) hcs dX9_read_130 (fun H locs hw hS => ?_)
          obtain rfl := Option.some.inj hm
          exact kk _ _ _ hw hS (lv_sub hl [2, 3, 4, 0] rfl)
    clear hm
    replace hm := hj
    clear hj
    refine lv_if_eq (tgt := 106) hx hb dX9_read_99 (by decide) (fun cc => ?_) (fun cc => ?_)
    · replace hm := ite_p cc hm
      refine lv_aload_n hx hb dX9_read_106 rfl (lv_at hl 1 rfl) ?_
      refine lv_ldc2 (v := 13903) hx hb ho (hts (.constantLong RX9 400 13903) (tg 1228 (by decide +kernel) rfl)) dX9_read_107 ?_
      obtain ⟨v22, x23, h24, hm⟩ := bind2_e hm
      refine sX9_394 C h24 hw hS hl.1 (Nat.le_of_ble_eq_true rfl) (Nat.le_trans (Nat.le_of_ble_eq_true rfl) hRf) (Nat.le_trans (Nat.le_of_ble_eq_true rfl) hRl) hcs dX9_read_110 (fun H locs hw hS => ?_)
      obtain ⟨rfl, rfl⟩ := inj2 hm
      exact kk _ _ _ hw hS (lv_sub hl [1, 2, 3, 0] rfl)
    · replace hm := ite_n cc hm
      refine lv_iconst (v := 0) hx hb dX9_read_102 (by decide) ?_
      refine lv_goto (tgt := 113) hx hb dX9_read_103 (by decide) ?_
      obtain ⟨rfl, rfl⟩ := inj2 hm
      exact kk _ _ _ hw hS (lv_sub hl [1, 2, 3, 0] rfl)
  clear hm
  replace hm := hj
  clear hj
  refine lv_if_eq (tgt := 86) hx hb dX9_read_79 (by decide) (fun cc => ?_) (fun cc => ?_)
  · replace hm := ite_p cc hm
    refine lv_aload_n hx hb dX9_read_86 rfl (lv_at hl 1 rfl) ?_
    refine lv_ldc2 (v := 168727) hx hb ho (hts (.constantLong RX9 398 168727) (tg 1227 (by decide +kernel) rfl)) dX9_read_87 ?_
    obtain ⟨v17, x18, h19, hm⟩ := bind2_e hm
    refine sX9_394 C h19 hw hS hl.1 (Nat.le_of_ble_eq_true rfl) (Nat.le_trans (Nat.le_of_ble_eq_true rfl) hRf) (Nat.le_trans (Nat.le_of_ble_eq_true rfl) hRl) hcs dX9_read_90 (fun H locs hw hS => ?_)
    obtain ⟨rfl, rfl⟩ := inj2 hm
    exact kk _ _ _ hw hS (lv_sub hl [1, 8, 0] rfl)
  · replace hm := ite_n cc hm
    refine lv_iconst (v := 0) hx hb dX9_read_82 (by decide) ?_
    refine lv_goto (tgt := 93) hx hb dX9_read_83 (by decide) ?_
    obtain ⟨rfl, rfl⟩ := inj2 hm
    exact kk _ _ _ hw hS (lv_sub hl [1, 8, 0] rfl)
theorem dX9_holdOf_0 : decode cX9_holdOf 0 = .ok (.aload_n 0, 1) := by decide +kernel
theorem dX9_holdOf_1 : decode cX9_holdOf 1 = .ok (.aload_n 0, 1) := by decide +kernel
theorem dX9_holdOf_2 : decode cX9_holdOf 2 = .ok (.getfield 184, 3) := by decide +kernel
theorem dX9_holdOf_5 : decode cX9_holdOf 5 = .ok (.iload_n 1, 1) := by decide +kernel
theorem dX9_holdOf_6 : decode cX9_holdOf 6 = .ok (.iload_n 2, 1) := by decide +kernel
theorem dX9_holdOf_7 : decode cX9_holdOf 7 = .ok (.aload_n 0, 1) := by decide +kernel
theorem dX9_holdOf_8 : decode cX9_holdOf 8 = .ok (.iload_n 1, 1) := by decide +kernel
theorem dX9_holdOf_9 : decode cX9_holdOf 9 = .ok (.invokevirtual 173, 3) := by decide +kernel
theorem dX9_holdOf_12 : decode cX9_holdOf 12 = .ok (.iconst 0, 1) := by decide +kernel
theorem dX9_holdOf_13 : decode cX9_holdOf 13 = .ok (.aload_n 0, 1) := by decide +kernel
theorem dX9_holdOf_14 : decode cX9_holdOf 14 = .ok (.getfield 35, 3) := by decide +kernel
theorem dX9_holdOf_17 : decode cX9_holdOf 17 = .ok (.iload_n 1, 1) := by decide +kernel
theorem dX9_holdOf_18 : decode cX9_holdOf 18 = .ok (.iaload, 1) := by decide +kernel
theorem dX9_holdOf_19 : decode cX9_holdOf 19 = .ok (.iconst 1, 1) := by decide +kernel
theorem dX9_holdOf_20 : decode cX9_holdOf 20 = .ok (.invokevirtual 187, 3) := by decide +kernel
theorem dX9_holdOf_23 : decode cX9_holdOf 23 = .ok (.iconst 0, 1) := by decide +kernel
theorem dX9_holdOf_24 : decode cX9_holdOf 24 = .ok (.sipush 999, 3) := by decide +kernel
theorem dX9_holdOf_27 : decode cX9_holdOf 27 = .ok (.invokestatic 402, 3) := by decide +kernel
theorem dX9_holdOf_30 : decode cX9_holdOf 30 = .ok (.ireturn, 1) := by decide +kernel
theorem sX9_173 {p : Program} {l : Launch} {e : Env} {R : Room} {s : State} {m : MethodId} {args : Array Value} {below : List Frame} {meth : Method} {c : Code} {H : Heap} {locs : List Loc} {cells slots : Nat} {Q : State → Prop} {cc : ByteArray} {pc nL : Nat} {ls : Array Slot} {rest : List Value} {ret : Option FieldType} {G : xG} {β N : Nat} {x : MS} {a1 : Int32} {r : Int32} (C : Cx p s m args meth c RX9 cc nL ret (KK G)) (h : fX9_winsOf x a1 = some r) (hw : MW β G N x H) (hS : va_S (AM β) s.heap H locs) (hsz : ls.size = nL) (hW : (rest.map fun v => v.category).sum ≤ 8) (hR : 1 ≤ R.frames) (hR2 : 23 ≤ R.locals) (hcs : cells ≤ R.cells ∧ slots ≤ R.slots) (hd : decode cc pc = .ok (.invokevirtual 173, 3)) (kk : ∀ (H1 : Heap) (locs1 : List Loc), MW β G N x H1 → va_S (AM β) s.heap H1 locs1 → W p l e R s m args below meth c H1 locs1 cells slots Q (F0 m (pc + 3) ls (.int r :: rest))) : W p l e R s m args below meth c H locs cells slots Q (F0 m pc ls (.int a1 :: .ref β :: rest)) :=
  xcallV C (As := [.int a1]) (rest := rest) (nA := 1) (ci := 9) (kX9_winsOf h) (tg 1136 (by decide +kernel) rfl) (tg 1138 (by decide +kernel) rfl) (sg (List.mem_of_getElem? (i := 57) (by decide +kernel)) rfl) (tg 14 (by decide +kernel) rfl) (tg 1139 (by decide +kernel) rfl) ⟨rfl, by decide +kernel, by decide +kernel, by decide +kernel⟩ rfl rfl rfl ⟨hR, hR2⟩ (hw.2 0 (by decide)) hw hS (fun _ q => q) rfl rfl hsz hW hd hcs (fun H1 locs1 hw hz hk hS => kk H1 locs1 hw hS)
theorem sX9_187 {p : Program} {l : Launch} {e : Env} {R : Room} {s : State} {m : MethodId} {args : Array Value} {below : List Frame} {meth : Method} {c : Code} {H : Heap} {locs : List Loc} {cells slots : Nat} {Q : State → Prop} {cc : ByteArray} {pc nL : Nat} {ls : Array Slot} {rest : List Value} {ret : Option FieldType} {G : xG} {β N : Nat} {x x' : MS} {a1 : Int32} {a2 : Int32} {a3 : Int32} {a4 : Int32} {a5 : Int32} {a6 : Int32} {a7 : Int32} {r : Int32} (C : Cx p s m args meth c RX9 cc nL ret (KK G)) (h : fX9_read x a1 a2 a3 a4 a5 a6 a7 = some (r, x')) (hw : MW β G N x H) (hS : va_S (AM β) s.heap H locs) (hsz : ls.size = nL) (hW : (rest.map fun v => v.category).sum ≤ 8) (hR : 106 ≤ R.frames) (hR2 : 2442 ≤ R.locals) (hcs : cells ≤ R.cells ∧ slots ≤ R.slots) (hd : decode cc pc = .ok (.invokevirtual 187, 3)) (kk : ∀ (H1 : Heap) (locs1 : List Loc), MW β G N x' H1 → va_S (AM β) s.heap H1 locs1 → W p l e R s m args below meth c H1 locs1 cells slots Q (F0 m (pc + 3) ls (.int r :: rest))) : W p l e R s m args below meth c H locs cells slots Q (F0 m pc ls (.int a7 :: .int a6 :: .int a5 :: .int a4 :: .int a3 :: .int a2 :: .int a1 :: .ref β :: rest)) :=
  xcallV C (As := [.int a1, .int a2, .int a3, .int a4, .int a5, .int a6, .int a7]) (rest := rest) (nA := 7) (ci := 9) (kX9_read h) (tg 1148 (by decide +kernel) rfl) (tg 1150 (by decide +kernel) rfl) (sg (List.mem_of_getElem? (i := 60) (by decide +kernel)) rfl) (tg 14 (by decide +kernel) rfl) (tg 1151 (by decide +kernel) rfl) ⟨rfl, by decide +kernel, by decide +kernel, by decide +kernel⟩ rfl rfl rfl ⟨hR, hR2⟩ (hw.2 0 (by decide)) hw hS (fun _ q => q) rfl rfl hsz hW hd hcs (fun H1 locs1 hw hz hk hS => kk H1 locs1 hw hS)
theorem sX9_402 {p : Program} {l : Launch} {e : Env} {R : Room} {s : State} {m : MethodId} {args : Array Value} {below : List Frame} {meth : Method} {c : Code} {H : Heap} {locs : List Loc} {cells slots : Nat} {Q : State → Prop} {cc : ByteArray} {pc nL : Nat} {ls : Array Slot} {rest : List Value} {ret : Option FieldType} {G : xG} {β N : Nat} {x : MS} {a1 : Int32} {a2 : Int32} {a3 : Int32} {r : Int32} (C : Cx p s m args meth c RX9 cc nL ret (KK G)) (h : fX9_within a1 a2 a3 = some r) (hw : MW β G N x H) (hS : va_S (AM β) s.heap H locs) (hsz : ls.size = nL) (hW : (rest.map fun v => v.category).sum ≤ 8) (hR : 1 ≤ R.frames) (hR2 : 22 ≤ R.locals) (hcs : cells ≤ R.cells ∧ slots ≤ R.slots) (hd : decode cc pc = .ok (.invokestatic 402, 3)) (kk : ∀ (H1 : Heap) (locs1 : List Loc), MW β G N x H1 → va_S (AM β) s.heap H1 locs1 → W p l e R s m args below meth c H1 locs1 cells slots Q (F0 m (pc + 3) ls (.int r :: rest))) : W p l e R s m args below meth c H locs cells slots Q (F0 m pc ls (.int a3 :: .int a2 :: .int a1 :: rest)) :=
  xcallS C (As := [.int a1, .int a2, .int a3]) (rest := rest) (nA := 3) (kX9_within h) (tg 1229 (by decide +kernel) rfl) (tg 1230 (by decide +kernel) rfl) (tg 14 (by decide +kernel) rfl) (tg 1231 (by decide +kernel) rfl) ⟨by decide +kernel, by decide +kernel, by decide +kernel⟩ rfl rfl ⟨hR, hR2⟩ hw hS (fun _ q => q) rfl rfl hsz hW hd hcs (fun H1 locs1 hw hz hk hS => kk H1 locs1 hw hS)
def fX9_holdOf (x : MS) (a1 : Int32) (a2 : Int32) : Option (Int32 × MS) := Option.bind (fX9_winsOf x a1) fun v1 => if ib a1 10 then bind2 (fX9_read x (x.1 0 4) a1 a2 v1 0 (x.2.1 8 a1.toNatClampNeg) 1) fun v4 x5 => Option.bind (fX9_within v4 0 999) fun v7 => some (v7, x5) else none
abbrev rmX9_holdOf : Room := { frames := 106, cells := 0, slots := 0, locals := 2442 }
set_option maxHeartbeats 4000000 in
set_option maxRecDepth 100000 in
theorem kX9_holdOf {l : Launch} {G : xG} {β N : Nat} {x x' : MS} {a1 : Int32} {a2 : Int32} {r : Int32} (hm : fX9_holdOf x a1 a2 = some (r, x')) : Met l yX9_holdOf (.code yX9_holdOf cX9_holdOf 3 (some .int) :: GT) rmX9_holdOf (PcW [.ref β, .int a1, .int a2] (MW β G N x) (KK G)) (QcW (AM β) (some (.int r)) (MW β G N x')) 0 0 (AM β) := by
  unfold fX9_holdOf at hm
  refine xpro (own := RX9) (by decide +kernel) rfl (Nat.le_of_ble_eq_true rfl) ?_
  intro p e s m args below meth c C hw ls hl
  have hx := C.1
  have hb := C.2.1
  have ho := C.2.2.2.1
  have hts := C.2.2.2.2.1
  have hS : va_S (AM β) s.heap s.heap [] := va_S.rf
  have hl : lv_has ls 3 [(0, .ref β), (1, .int a1), (2, .int a2)] := hl
  have hRf : 106 ≤ rmX9_holdOf.frames := Nat.le_refl _
  have hRl : 2442 ≤ rmX9_holdOf.locals := Nat.le_refl _
  have hcs : 0 ≤ rmX9_holdOf.cells ∧ 0 ≤ rmX9_holdOf.slots := ⟨Nat.le_refl _, Nat.le_refl _⟩
  refine lv_aload_n hx hb dX9_holdOf_0 rfl (lv_at hl 0 rfl) ?_
  refine lv_aload_n hx hb dX9_holdOf_1 rfl (lv_at hl 0 rfl) ?_
  refine gX9_184 C hw dX9_holdOf_2 ?_
  refine lv_iload_n hx hb dX9_holdOf_5 rfl (lv_at hl 1 rfl) ?_
  refine lv_iload_n hx hb dX9_holdOf_6 rfl (lv_at hl 2 rfl) ?_
  refine lv_aload_n hx hb dX9_holdOf_7 rfl (lv_at hl 0 rfl) ?_
  refine lv_iload_n hx hb dX9_holdOf_8 rfl (lv_at hl 1 rfl) ?_
  obtain ⟨v1, h2, hm⟩ := bind_e hm
  refine sX9_173 C h2 hw hS hl.1 (Nat.le_of_ble_eq_true rfl) (Nat.le_trans (Nat.le_of_ble_eq_true rfl) hRf) (Nat.le_trans (Nat.le_of_ble_eq_true rfl) hRl) hcs dX9_holdOf_9 (fun H locs hw hS => ?_)
  refine lv_iconst (v := 0) hx hb dX9_holdOf_12 (by decide) ?_
  refine lv_aload_n hx hb dX9_holdOf_13 rfl (lv_at hl 0 rfl) ?_
  refine gX9_35 C hw dX9_holdOf_14 ?_
  refine lv_iload_n hx hb dX9_holdOf_17 rfl (lv_at hl 1 rfl) ?_
  obtain ⟨h3, hm⟩ := chk_e hm
  refine alM_8 C hw h3 dX9_holdOf_18 ?_
  refine lv_iconst (v := 1) hx hb dX9_holdOf_19 (by decide) ?_
  obtain ⟨v4, x5, h6, hm⟩ := bind2_e hm
  refine sX9_187 C h6 hw hS hl.1 (Nat.le_of_ble_eq_true rfl) (Nat.le_trans (Nat.le_of_ble_eq_true rfl) hRf) (Nat.le_trans (Nat.le_of_ble_eq_true rfl) hRl) hcs dX9_holdOf_20 (fun H locs hw hS => ?_)
  refine lv_iconst (v := 0) hx hb dX9_holdOf_23 (by decide) ?_
  refine lv_sipush (v := 999) hx hb dX9_holdOf_24 (by decide) ?_
  obtain ⟨v7, h8, hm⟩ := bind_e hm
  refine sX9_402 C h8 hw hS hl.1 (Nat.le_of_ble_eq_true rfl) (Nat.le_trans (Nat.le_of_ble_eq_true rfl) hRf) (Nat.le_trans (Nat.le_of_ble_eq_true rfl) hRl) hcs dX9_holdOf_27 (fun H locs hw hS => ?_)
  obtain ⟨rfl, rfl⟩ := inj2 hm
  exact xret_i C hw hS dX9_holdOf_30
theorem dX9_told_0 : decode cX9_told 0 = .ok (.aload_n 0, 1) := by decide +kernel
theorem dX9_told_1 : decode cX9_told 1 = .ok (.iload_n 1, 1) := by decide +kernel
theorem dX9_told_2 : decode cX9_told 2 = .ok (.invokevirtual 146, 3) := by decide +kernel
theorem dX9_told_5 : decode cX9_told 5 = .ok (.ifCond .ne 6, 3) := by decide +kernel
theorem dX9_told_8 : decode cX9_told 8 = .ok (.ldc 172, 2) := by decide +kernel
theorem dX9_told_10 : decode cX9_told 10 = .ok (.ireturn, 1) := by decide +kernel
theorem dX9_told_11 : decode cX9_told 11 = .ok (.iconst 0, 1) := by decide +kernel
theorem dX9_told_12 : decode cX9_told 12 = .ok (.istore_n 3, 1) := by decide +kernel
theorem dX9_told_13 : decode cX9_told 13 = .ok (.iload_n 2, 1) := by decide +kernel
theorem dX9_told_14 : decode cX9_told 14 = .ok (.tableswitch 182 0 9 #[54, 61, 68, 75, 82, 89, 96, 102, 141, 153], 54) := by decide +kernel
theorem dX9_told_68 : decode cX9_told 68 = .ok (.aload_n 0, 1) := by decide +kernel
theorem dX9_told_69 : decode cX9_told 69 = .ok (.getfield 23, 3) := by decide +kernel
theorem dX9_told_72 : decode cX9_told 72 = .ok (.iload_n 1, 1) := by decide +kernel
theorem dX9_told_73 : decode cX9_told 73 = .ok (.iaload, 1) := by decide +kernel
theorem dX9_told_74 : decode cX9_told 74 = .ok (.ireturn, 1) := by decide +kernel
theorem dX9_told_75 : decode cX9_told 75 = .ok (.aload_n 0, 1) := by decide +kernel
theorem dX9_told_76 : decode cX9_told 76 = .ok (.getfield 26, 3) := by decide +kernel
theorem dX9_told_79 : decode cX9_told 79 = .ok (.iload_n 1, 1) := by decide +kernel
theorem dX9_told_80 : decode cX9_told 80 = .ok (.iaload, 1) := by decide +kernel
theorem dX9_told_81 : decode cX9_told 81 = .ok (.ireturn, 1) := by decide +kernel
theorem dX9_told_82 : decode cX9_told 82 = .ok (.aload_n 0, 1) := by decide +kernel
theorem dX9_told_83 : decode cX9_told 83 = .ok (.getfield 29, 3) := by decide +kernel
theorem dX9_told_86 : decode cX9_told 86 = .ok (.iload_n 1, 1) := by decide +kernel
theorem dX9_told_87 : decode cX9_told 87 = .ok (.iaload, 1) := by decide +kernel
theorem dX9_told_88 : decode cX9_told 88 = .ok (.ireturn, 1) := by decide +kernel
theorem dX9_told_89 : decode cX9_told 89 = .ok (.aload_n 0, 1) := by decide +kernel
theorem dX9_told_90 : decode cX9_told 90 = .ok (.getfield 32, 3) := by decide +kernel
theorem dX9_told_93 : decode cX9_told 93 = .ok (.iload_n 1, 1) := by decide +kernel
theorem dX9_told_94 : decode cX9_told 94 = .ok (.iaload, 1) := by decide +kernel
theorem dX9_told_95 : decode cX9_told 95 = .ok (.ireturn, 1) := by decide +kernel
theorem dX9_told_96 : decode cX9_told 96 = .ok (.aload_n 0, 1) := by decide +kernel
theorem dX9_told_97 : decode cX9_told 97 = .ok (.getfield 35, 3) := by decide +kernel
theorem dX9_told_100 : decode cX9_told 100 = .ok (.iload_n 1, 1) := by decide +kernel
theorem dX9_told_101 : decode cX9_told 101 = .ok (.iaload, 1) := by decide +kernel
theorem dX9_told_102 : decode cX9_told 102 = .ok (.ireturn, 1) := by decide +kernel
theorem dX9_told_103 : decode cX9_told 103 = .ok (.aload_n 0, 1) := by decide +kernel
theorem dX9_told_104 : decode cX9_told 104 = .ok (.getfield 38, 3) := by decide +kernel
theorem dX9_told_107 : decode cX9_told 107 = .ok (.iload_n 1, 1) := by decide +kernel
theorem dX9_told_108 : decode cX9_told 108 = .ok (.iaload, 1) := by decide +kernel
theorem dX9_told_109 : decode cX9_told 109 = .ok (.ireturn, 1) := by decide +kernel
theorem dX9_told_110 : decode cX9_told 110 = .ok (.aload_n 0, 1) := by decide +kernel
theorem dX9_told_111 : decode cX9_told 111 = .ok (.iload_n 1, 1) := by decide +kernel
theorem dX9_told_112 : decode cX9_told 112 = .ok (.invokevirtual 173, 3) := by decide +kernel
theorem dX9_told_115 : decode cX9_told 115 = .ok (.ireturn, 1) := by decide +kernel
theorem dX9_told_116 : decode cX9_told 116 = .ok (.iconst 0, 1) := by decide +kernel
theorem dX9_told_117 : decode cX9_told 117 = .ok (.istore 4, 2) := by decide +kernel
theorem dX9_told_119 : decode cX9_told 119 = .ok (.iload 4, 2) := by decide +kernel
theorem dX9_told_121 : decode cX9_told 121 = .ok (.aload_n 0, 1) := by decide +kernel
theorem dX9_told_122 : decode cX9_told 122 = .ok (.getfield 169, 3) := by decide +kernel
theorem dX9_told_125 : decode cX9_told 125 = .ok (.if_icmp .ge 28, 3) := by decide +kernel
theorem dX9_told_128 : decode cX9_told 128 = .ok (.iload_n 3, 1) := by decide +kernel
theorem dX9_told_129 : decode cX9_told 129 = .ok (.aload_n 0, 1) := by decide +kernel
theorem dX9_told_130 : decode cX9_told 130 = .ok (.iload 4, 2) := by decide +kernel
theorem dX9_told_132 : decode cX9_told 132 = .ok (.iload_n 1, 1) := by decide +kernel
theorem dX9_told_133 : decode cX9_told 133 = .ok (.invokevirtual 177, 3) := by decide +kernel
theorem dX9_told_136 : decode cX9_told 136 = .ok (.iconst (-1), 1) := by decide +kernel
theorem dX9_told_137 : decode cX9_told 137 = .ok (.if_icmp .ne 7, 3) := by decide +kernel
theorem dX9_told_140 : decode cX9_told 140 = .ok (.iconst 0, 1) := by decide +kernel
theorem dX9_told_141 : decode cX9_told 141 = .ok (.goto 4, 3) := by decide +kernel
theorem dX9_told_144 : decode cX9_told 144 = .ok (.iconst 1, 1) := by decide +kernel
theorem dX9_told_145 : decode cX9_told 145 = .ok (.iadd, 1) := by decide +kernel
theorem dX9_told_146 : decode cX9_told 146 = .ok (.istore_n 3, 1) := by decide +kernel
theorem dX9_told_147 : decode cX9_told 147 = .ok (.iinc 4 1, 3) := by decide +kernel
theorem dX9_told_150 : decode cX9_told 150 = .ok (.goto (-31), 3) := by decide +kernel
theorem dX9_told_153 : decode cX9_told 153 = .ok (.iload_n 3, 1) := by decide +kernel
theorem dX9_told_154 : decode cX9_told 154 = .ok (.ireturn, 1) := by decide +kernel
theorem dX9_told_155 : decode cX9_told 155 = .ok (.aload_n 0, 1) := by decide +kernel
theorem dX9_told_156 : decode cX9_told 156 = .ok (.iload_n 1, 1) := by decide +kernel
theorem dX9_told_157 : decode cX9_told 157 = .ok (.aload_n 0, 1) := by decide +kernel
theorem dX9_told_158 : decode cX9_told 158 = .ok (.getfield 38, 3) := by decide +kernel
theorem dX9_told_161 : decode cX9_told 161 = .ok (.iload_n 1, 1) := by decide +kernel
theorem dX9_told_162 : decode cX9_told 162 = .ok (.iaload, 1) := by decide +kernel
theorem dX9_told_163 : decode cX9_told 163 = .ok (.invokevirtual 181, 3) := by decide +kernel
theorem dX9_told_166 : decode cX9_told 166 = .ok (.ireturn, 1) := by decide +kernel
theorem dX9_told_167 : decode cX9_told 167 = .ok (.aload_n 0, 1) := by decide +kernel
theorem dX9_told_168 : decode cX9_told 168 = .ok (.aload_n 0, 1) := by decide +kernel
theorem dX9_told_169 : decode cX9_told 169 = .ok (.getfield 184, 3) := by decide +kernel
theorem dX9_told_172 : decode cX9_told 172 = .ok (.iload_n 1, 1) := by decide +kernel
theorem dX9_told_173 : decode cX9_told 173 = .ok (.aload_n 0, 1) := by decide +kernel
theorem dX9_told_174 : decode cX9_told 174 = .ok (.getfield 38, 3) := by decide +kernel
theorem dX9_told_177 : decode cX9_told 177 = .ok (.iload_n 1, 1) := by decide +kernel
theorem dX9_told_178 : decode cX9_told 178 = .ok (.iaload, 1) := by decide +kernel
theorem dX9_told_179 : decode cX9_told 179 = .ok (.aload_n 0, 1) := by decide +kernel
theorem dX9_told_180 : decode cX9_told 180 = .ok (.iload_n 1, 1) := by decide +kernel
theorem dX9_told_181 : decode cX9_told 181 = .ok (.invokevirtual 173, 3) := by decide +kernel
theorem dX9_told_184 : decode cX9_told 184 = .ok (.iconst 0, 1) := by decide +kernel
theorem dX9_told_185 : decode cX9_told 185 = .ok (.aload_n 0, 1) := by decide +kernel
theorem dX9_told_186 : decode cX9_told 186 = .ok (.getfield 35, 3) := by decide +kernel
theorem dX9_told_189 : decode cX9_told 189 = .ok (.iload_n 1, 1) := by decide +kernel
theorem dX9_told_190 : decode cX9_told 190 = .ok (.iaload, 1) := by decide +kernel
theorem dX9_told_191 : decode cX9_told 191 = .ok (.iconst 2, 1) := by decide +kernel
theorem dX9_told_192 : decode cX9_told 192 = .ok (.invokevirtual 187, 3) := by decide +kernel
theorem dX9_told_195 : decode cX9_told 195 = .ok (.ireturn, 1) := by decide +kernel
theorem dX9_told_196 : decode cX9_told 196 = .ok (.ldc 172, 2) := by decide +kernel
theorem dX9_told_198 : decode cX9_told 198 = .ok (.ireturn, 1) := by decide +kernel
theorem sX9_181 {p : Program} {l : Launch} {e : Env} {R : Room} {s : State} {m : MethodId} {args : Array Value} {below : List Frame} {meth : Method} {c : Code} {H : Heap} {locs : List Loc} {cells slots : Nat} {Q : State → Prop} {cc : ByteArray} {pc nL : Nat} {ls : Array Slot} {rest : List Value} {ret : Option FieldType} {G : xG} {β N : Nat} {x x' : MS} {a1 : Int32} {a2 : Int32} {r : Int32} (C : Cx p s m args meth c RX9 cc nL ret (KK G)) (h : fX9_holdOf x a1 a2 = some (r, x')) (hw : MW β G N x H) (hS : va_S (AM β) s.heap H locs) (hsz : ls.size = nL) (hW : (rest.map fun v => v.category).sum ≤ 8) (hR : 107 ≤ R.frames) (hR2 : 2464 ≤ R.locals) (hcs : cells ≤ R.cells ∧ slots ≤ R.slots) (hd : decode cc pc = .ok (.invokevirtual 181, 3)) (kk : ∀ (H1 : Heap) (locs1 : List Loc), MW β G N x' H1 → va_S (AM β) s.heap H1 locs1 → W p l e R s m args below meth c H1 locs1 cells slots Q (F0 m (pc + 3) ls (.int r :: rest))) : W p l e R s m args below meth c H locs cells slots Q (F0 m pc ls (.int a2 :: .int a1 :: .ref β :: rest)) :=
  xcallV C (As := [.int a1, .int a2]) (rest := rest) (nA := 2) (ci := 9) (kX9_holdOf h) (tg 1144 (by decide +kernel) rfl) (tg 1146 (by decide +kernel) rfl) (sg (List.mem_of_getElem? (i := 59) (by decide +kernel)) rfl) (tg 14 (by decide +kernel) rfl) (tg 1147 (by decide +kernel) rfl) ⟨rfl, by decide +kernel, by decide +kernel, by decide +kernel⟩ rfl rfl rfl ⟨hR, hR2⟩ (hw.2 0 (by decide)) hw hS (fun _ q => q) rfl rfl hsz hW hd hcs (fun H1 locs1 hw hz hk hS => kk H1 locs1 hw hS)
def BX9_told_119 (x : MS) (q1 : Int32) (lp : Int32 → Int32 → Option (Int32)) (u3 : Int32) (u4 : Int32) : Option (Int32) := if (x.1 0 41) ≤ u4 then some u3 else Option.bind (fX9_placeIn x u4 q1) fun v11 => if v11 = (-1) then lt (u3 + 0) fun v15 => lt (u4 + 1) fun v16 => lp v15 v16 else lt (u3 + 1) fun v13 => lt (u4 + 1) fun v14 => lp v13 v14
def LX9_told_119 (x : MS) (q1 : Int32) : Nat → Int32 → Int32 → Option (Int32)
  | 0, _, _ => none
  | n + 1, u3, u4 => BX9_told_119 x q1 (LX9_told_119 x q1 n) u3 u4
def fX9_told (x : MS) (a1 : Int32) (a2 : Int32) : Option (Int32 × MS) := Option.bind (fX9_isHorse x a1) fun v1 => if v1 = true then if a2 = 0 then if ib a1 10 then some (x.2.1 4 a1.toNatClampNeg, x) else none else if a2 = 1 then if ib a1 10 then some (x.2.1 5 a1.toNatClampNeg, x) else none else if a2 = 2 then if ib a1 10 then some (x.2.1 6 a1.toNatClampNeg, x) else none else if a2 = 3 then if ib a1 10 then some (x.2.1 7 a1.toNatClampNeg, x) else none else if a2 = 4 then if ib a1 10 then some (x.2.1 8 a1.toNatClampNeg, x) else none else if a2 = 5 then if ib a1 10 then some (x.2.1 9 a1.toNatClampNeg, x) else none else if a2 = 6 then Option.bind (fX9_winsOf x a1) fun v9 => some (v9, x) else if a2 = 7 then Option.bind (LX9_told_119 x a1 NF 0 0) fun v17 => some (v17, x) else if a2 = 8 then if ib a1 10 then bind2 (fX9_holdOf x a1 (x.2.1 9 a1.toNatClampNeg)) fun v19 x20 => some (v19, x20) else none else if a2 = 9 then if ib a1 10 then Option.bind (fX9_winsOf x a1) fun v23 => if ib a1 10 then bind2 (fX9_read x (x.1 0 4) a1 (x.2.1 9 a1.toNatClampNeg) v23 0 (x.2.1 8 a1.toNatClampNeg) 2) fun v26 x27 => some (v26, x27) else none else none else some ((-1000000), x) else some ((-1000000), x)
set_option maxHeartbeats 4000000 in
set_option maxRecDepth 100000 in
theorem lX9_told_119 {p : Program} {l : Launch} {e : Env} {R : Room} {s : State} {m : MethodId} {args : Array Value} {below : List Frame} {meth : Method} {c : Code} {cells slots : Nat} {Q : State → Prop} {G : xG} {β N : Nat} (C : Cx p s m args meth c RX9 cX9_told 5 (some .int) (KK G)) (hRf : 107 ≤ R.frames) (hRl : 2464 ≤ R.locals) (hcs : cells ≤ R.cells ∧ slots ≤ R.slots) (x : MS) (q1 : Int32) : ∀ (n : Nat) (u3 : Int32) (u4 : Int32) (J : Int32) (H : Heap) (locs : List Loc) (ls : Array Slot), LX9_told_119 x q1 n u3 u4 = some J → MW β G N x H → va_S (AM β) s.heap H locs → lv_has ls 5 [(0, .ref β), (1, .int q1), (3, .int u3), (4, .int u4)] → (∀ (w3 : Int32), J = w3 → ∀ (H : Heap) (locs : List Loc) (ls : Array Slot), MW β G N x H → va_S (AM β) s.heap H locs → lv_has ls 5 [(3, .int w3)] → W p l e R s m args below meth c H locs cells slots Q (F0 m 153 ls [])) → W p l e R s m args below meth c H locs cells slots Q (F0 m 119 ls []) := by
  have hx := C.1
  have hb := C.2.1
  have ho := C.2.2.2.1
  have hts := C.2.2.2.2.1
  intro n
  induction n with
  | zero =>
    intro u3 u4 J H locs ls hm
    exact absurd hm (by simp [LX9_told_119])
  | succ n ih =>
    intro u3 u4 J H locs ls hm hw hS hl ke
    replace hm : BX9_told_119 x q1 (LX9_told_119 x q1 n) u3 u4 = some J := hm
    unfold BX9_told_119 at hm
    refine lv_iload hx hb dX9_told_119 (lv_at hl 3 rfl) ?_
    refine lv_aload_n hx hb dX9_told_121 rfl (lv_at hl 0 rfl) ?_
    refine gX9_169 C hw dX9_told_122 ?_
    refine lv_icmp_ge (tgt := 153) hx hb dX9_told_125 (by decide) (fun cc => ?_) (fun cc => ?_)
    · replace hm := ite_p cc hm
      exact ke _ (Option.some.inj hm).symm _ _ _ hw hS (lv_sub hl [2] rfl)
    · replace hm := ite_n cc hm
      refine lv_iload_n hx hb dX9_told_128 rfl (lv_at hl 2 rfl) ?_
      refine lv_aload_n hx hb dX9_told_129 rfl (lv_at hl 0 rfl) ?_
      refine lv_iload hx hb dX9_told_130 (lv_at hl 3 rfl) ?_
      refine lv_iload_n hx hb dX9_told_132 rfl (lv_at hl 1 rfl) ?_
      obtain ⟨v11, h12, hm⟩ := bind_e hm
      refine sX9_177 C h12 hw hS hl.1 (Nat.le_of_ble_eq_true rfl) (Nat.le_trans (Nat.le_of_ble_eq_true rfl) hRf) (Nat.le_trans (Nat.le_of_ble_eq_true rfl) hRl) hcs dX9_told_133 (fun H locs hw hS => ?_)
      refine lv_iconst (v := (-1)) hx hb dX9_told_136 (by decide) ?_
      refine lv_icmp_ne (tgt := 144) hx hb dX9_told_137 (by decide) (fun cc => ?_) (fun cc => ?_)
      · replace hm := ite_n cc hm
        refine lv_iconst (v := 1) hx hb dX9_told_144 (by decide) ?_
        refine lv_iadd hx hb dX9_told_145 ?_
        refine topI hm (fun v13 hm => ?_)
        refine lv_istore_n (lv' := [(3, .int v13), (0, .ref β), (1, .int q1), (4, .int u4)]) hx hb dX9_told_146 rfl hl (by decide) rfl (fun ls hl => ?_)
        obtain ⟨v14, ev, hm⟩ := lt_e hm
        refine lv_iinc (v := v14) (lv' := [(4, .int v14), (3, .int v13), (0, .ref β), (1, .int q1)]) hx hb dX9_told_147 hl (k := 3) rfl (by rw [ev]; rfl) (by decide) rfl (fun ls hl => ?_)
        clear ev
        refine lv_goto (tgt := 119) hx hb dX9_told_150 (by decide) ?_
        exact ih _ _ _ _ _ _ hm hw hS (lv_sub hl [2, 3, 1, 0] rfl) ke
      · replace hm := ite_p cc hm
        refine lv_iconst (v := 0) hx hb dX9_told_140 (by decide) ?_
        refine lv_goto (tgt := 145) hx hb dX9_told_141 (by decide) ?_
        refine lv_iadd hx hb dX9_told_145 ?_
        refine topI hm (fun v15 hm => ?_)
        refine lv_istore_n (lv' := [(3, .int v15), (0, .ref β), (1, .int q1), (4, .int u4)]) hx hb dX9_told_146 rfl hl (by decide) rfl (fun ls hl => ?_)
        obtain ⟨v16, ev, hm⟩ := lt_e hm
        refine lv_iinc (v := v16) (lv' := [(4, .int v16), (3, .int v15), (0, .ref β), (1, .int q1)]) hx hb dX9_told_147 hl (k := 3) rfl (by rw [ev]; rfl) (by decide) rfl (fun ls hl => ?_)
        clear ev
        refine lv_goto (tgt := 119) hx hb dX9_told_150 (by decide) ?_
        exact ih _ _ _ _ _ _ hm hw hS (lv_sub hl [2, 3, 1, 0] rfl) ke
abbrev rmX9_told : Room := { frames := 107, cells := 0, slots := 0, locals := 2464 }
set_option maxHeartbeats 4000000 in
set_option maxRecDepth 100000 in
theorem kX9_told {l : Launch} {G : xG} {β N : Nat} {x x' : MS} {a1 : Int32} {a2 : Int32} {r : Int32} (hm : fX9_told x a1 a2 = some (r, x')) : Met l yX9_told (.code yX9_told cX9_told 5 (some .int) :: GT) rmX9_told (PcW [.ref β, .int a1, .int a2] (MW β G N x) (KK G)) (QcW (AM β) (some (.int r)) (MW β G N x')) 0 0 (AM β) := by
  unfold fX9_told at hm
  refine xpro (own := RX9) (by decide +kernel) rfl (Nat.le_of_ble_eq_true rfl) ?_
  intro p e s m args below meth c C hw ls hl
  have hx := C.1
  have hb := C.2.1
  have ho := C.2.2.2.1
  have hts := C.2.2.2.2.1
  have hS : va_S (AM β) s.heap s.heap [] := va_S.rf
  have hl : lv_has ls 5 [(0, .ref β), (1, .int a1), (2, .int a2)] := hl
  have hRf : 107 ≤ rmX9_told.frames := Nat.le_refl _
  have hRl : 2464 ≤ rmX9_told.locals := Nat.le_refl _
  have hcs : 0 ≤ rmX9_told.cells ∧ 0 ≤ rmX9_told.slots := ⟨Nat.le_refl _, Nat.le_refl _⟩
  refine lv_aload_n hx hb dX9_told_0 rfl (lv_at hl 0 rfl) ?_
  refine lv_iload_n hx hb dX9_told_1 rfl (lv_at hl 1 rfl) ?_
  obtain ⟨v1, h2, hm⟩ := bind_e hm
  refine sX9_146 C h2 hw hS hl.1 (Nat.le_of_ble_eq_true rfl) (Nat.le_trans (Nat.le_of_ble_eq_true rfl) hRf) (Nat.le_trans (Nat.le_of_ble_eq_true rfl) hRl) hcs dX9_told_2 (fun H locs hw hS => ?_)
  refine x_ifneB hx hb dX9_told_5 (tgt := 11) (by decide) (fun cc => ?_) (fun cc => ?_)
  · replace hm := ite_p cc hm
    refine lv_iconst (v := 0) hx hb dX9_told_11 (by decide) ?_
    refine lv_istore_n (lv' := [(3, .int 0), (0, .ref β), (1, .int a1), (2, .int a2)]) hx hb dX9_told_12 rfl hl (by decide) rfl (fun ls hl => ?_)
    refine lv_iload_n hx hb dX9_told_13 rfl (lv_at hl 3 rfl) ?_
    by_cases k0 : a2 = 0
    · replace hm := ite_p k0 hm
      refine lv_tableIn (tgt := 68) (off := 54) hx hb dX9_told_14 (by rw [k0]; decide) (by rw [k0]; decide) (by rw [k0]; rfl) (by decide) ?_
      refine lv_aload_n hx hb dX9_told_68 rfl (lv_at hl 1 rfl) ?_
      refine gX9_23 C hw dX9_told_69 ?_
      refine lv_iload_n hx hb dX9_told_72 rfl (lv_at hl 2 rfl) ?_
      obtain ⟨h3, hm⟩ := chk_e hm
      refine alM_4 C hw h3 dX9_told_73 ?_
      obtain ⟨rfl, rfl⟩ := inj2 hm
      exact xret_i C hw hS dX9_told_74
    replace hm := ite_n k0 hm
    by_cases k1 : a2 = 1
    · replace hm := ite_p k1 hm
      refine lv_tableIn (tgt := 75) (off := 61) hx hb dX9_told_14 (by rw [k1]; decide) (by rw [k1]; decide) (by rw [k1]; rfl) (by decide) ?_
      refine lv_aload_n hx hb dX9_told_75 rfl (lv_at hl 1 rfl) ?_
      refine gX9_26 C hw dX9_told_76 ?_
      refine lv_iload_n hx hb dX9_told_79 rfl (lv_at hl 2 rfl) ?_
      obtain ⟨h4, hm⟩ := chk_e hm
      refine alM_5 C hw h4 dX9_told_80 ?_
      obtain ⟨rfl, rfl⟩ := inj2 hm
      exact xret_i C hw hS dX9_told_81
    replace hm := ite_n k1 hm
    by_cases k2 : a2 = 2
    · replace hm := ite_p k2 hm
      refine lv_tableIn (tgt := 82) (off := 68) hx hb dX9_told_14 (by rw [k2]; decide) (by rw [k2]; decide) (by rw [k2]; rfl) (by decide) ?_
      refine lv_aload_n hx hb dX9_told_82 rfl (lv_at hl 1 rfl) ?_
      refine gX9_29 C hw dX9_told_83 ?_
      refine lv_iload_n hx hb dX9_told_86 rfl (lv_at hl 2 rfl) ?_
      obtain ⟨h5, hm⟩ := chk_e hm
      refine alM_6 C hw h5 dX9_told_87 ?_
      obtain ⟨rfl, rfl⟩ := inj2 hm
      exact xret_i C hw hS dX9_told_88
    replace hm := ite_n k2 hm
    by_cases k3 : a2 = 3
    · replace hm := ite_p k3 hm
      refine lv_tableIn (tgt := 89) (off := 75) hx hb dX9_told_14 (by rw [k3]; decide) (by rw [k3]; decide) (by rw [k3]; rfl) (by decide) ?_
      refine lv_aload_n hx hb dX9_told_89 rfl (lv_at hl 1 rfl) ?_
      refine gX9_32 C hw dX9_told_90 ?_
      refine lv_iload_n hx hb dX9_told_93 rfl (lv_at hl 2 rfl) ?_
      obtain ⟨h6, hm⟩ := chk_e hm
      refine alM_7 C hw h6 dX9_told_94 ?_
      obtain ⟨rfl, rfl⟩ := inj2 hm
      exact xret_i C hw hS dX9_told_95
    replace hm := ite_n k3 hm
    by_cases k4 : a2 = 4
    · replace hm := ite_p k4 hm
      refine lv_tableIn (tgt := 96) (off := 82) hx hb dX9_told_14 (by rw [k4]; decide) (by rw [k4]; decide) (by rw [k4]; rfl) (by decide) ?_
      refine lv_aload_n hx hb dX9_told_96 rfl (lv_at hl 1 rfl) ?_
      refine gX9_35 C hw dX9_told_97 ?_
      refine lv_iload_n hx hb dX9_told_100 rfl (lv_at hl 2 rfl) ?_
      obtain ⟨h7, hm⟩ := chk_e hm
      refine alM_8 C hw h7 dX9_told_101 ?_
      obtain ⟨rfl, rfl⟩ := inj2 hm
      exact xret_i C hw hS dX9_told_102
    replace hm := ite_n k4 hm
    by_cases k5 : a2 = 5
    · replace hm := ite_p k5 hm
      refine lv_tableIn (tgt := 103) (off := 89) hx hb dX9_told_14 (by rw [k5]; decide) (by rw [k5]; decide) (by rw [k5]; rfl) (by decide) ?_
      refine lv_aload_n hx hb dX9_told_103 rfl (lv_at hl 1 rfl) ?_
      refine gX9_38 C hw dX9_told_104 ?_
      refine lv_iload_n hx hb dX9_told_107 rfl (lv_at hl 2 rfl) ?_
      obtain ⟨h8, hm⟩ := chk_e hm
      refine alM_9 C hw h8 dX9_told_108 ?_
      obtain ⟨rfl, rfl⟩ := inj2 hm
      exact xret_i C hw hS dX9_told_109
    replace hm := ite_n k5 hm
    by_cases k6 : a2 = 6
    · replace hm := ite_p k6 hm
      refine lv_tableIn (tgt := 110) (off := 96) hx hb dX9_told_14 (by rw [k6]; decide) (by rw [k6]; decide) (by rw [k6]; rfl) (by decide) ?_
      refine lv_aload_n hx hb dX9_told_110 rfl (lv_at hl 1 rfl) ?_
      refine lv_iload_n hx hb dX9_told_111 rfl (lv_at hl 2 rfl) ?_
      obtain ⟨v9, h10, hm⟩ := bind_e hm
      refine sX9_173 C h10 hw hS hl.1 (Nat.le_of_ble_eq_true rfl) (Nat.le_trans (Nat.le_of_ble_eq_true rfl) hRf) (Nat.le_trans (Nat.le_of_ble_eq_true rfl) hRl) hcs dX9_told_112 (fun H locs hw hS => ?_)
      obtain ⟨rfl, rfl⟩ := inj2 hm
      exact xret_i C hw hS dX9_told_115
    replace hm := ite_n k6 hm
    by_cases k7 : a2 = 7
    · replace hm := ite_p k7 hm
      refine lv_tableIn (tgt := 116) (off := 102) hx hb dX9_told_14 (by rw [k7]; decide) (by rw [k7]; decide) (by rw [k7]; rfl) (by decide) ?_
      refine lv_iconst (v := 0) hx hb dX9_told_116 (by decide) ?_
      refine lv_istore (lv' := [(4, .int 0), (3, .int 0), (0, .ref β), (1, .int a1), (2, .int a2)]) hx hb dX9_told_117 hl (by decide) rfl (fun ls hl => ?_)
      obtain ⟨v17, hj, hm⟩ := bind_e hm
      refine lX9_told_119 C hRf hRl hcs x a1 NF _ _ _ _ _ _ hj hw hS (lv_sub hl [2, 3, 1, 0] rfl) (fun v17_ e0 H locs ls hw hS hl => ?_)
      cases e0
      refine lv_iload_n hx hb dX9_told_153 rfl (lv_at hl 0 rfl) ?_
      obtain ⟨rfl, rfl⟩ := inj2 hm
      exact xret_i C hw hS dX9_told_154
    replace hm := ite_n k7 hm
    by_cases k8 : a2 = 8
    · replace hm := ite_p k8 hm
      refine lv_tableIn (tgt := 155) (off := 141) hx hb dX9_told_14 (by rw [k8]; decide) (by rw [k8]; decide) (by rw [k8]; rfl) (by decide) ?_
      refine lv_aload_n hx hb dX9_told_155 rfl (lv_at hl 1 rfl) ?_
      refine lv_iload_n hx hb dX9_told_156 rfl (lv_at hl 2 rfl) ?_
      refine lv_aload_n hx hb dX9_told_157 rfl (lv_at hl 1 rfl) ?_
      refine gX9_38 C hw dX9_told_158 ?_
      refine lv_iload_n hx hb dX9_told_161 rfl (lv_at hl 2 rfl) ?_
      obtain ⟨h18, hm⟩ := chk_e hm
      refine alM_9 C hw h18 dX9_told_162 ?_
      obtain ⟨v19, x20, h21, hm⟩ := bind2_e hm
      refine sX9_181 C h21 hw hS hl.1 (Nat.le_of_ble_eq_true rfl) (Nat.le_trans (Nat.le_of_ble_eq_true rfl) hRf) (Nat.le_trans (Nat.le_of_ble_eq_true rfl) hRl) hcs dX9_told_163 (fun H locs hw hS => ?_)
      obtain ⟨rfl, rfl⟩ := inj2 hm
      exact xret_i C hw hS dX9_told_166
    replace hm := ite_n k8 hm
    by_cases k9 : a2 = 9
    · replace hm := ite_p k9 hm
      refine lv_tableIn (tgt := 167) (off := 153) hx hb dX9_told_14 (by rw [k9]; decide) (by rw [k9]; decide) (by rw [k9]; rfl) (by decide) ?_
      refine lv_aload_n hx hb dX9_told_167 rfl (lv_at hl 1 rfl) ?_
      refine lv_aload_n hx hb dX9_told_168 rfl (lv_at hl 1 rfl) ?_
      refine gX9_184 C hw dX9_told_169 ?_
      refine lv_iload_n hx hb dX9_told_172 rfl (lv_at hl 2 rfl) ?_
      refine lv_aload_n hx hb dX9_told_173 rfl (lv_at hl 1 rfl) ?_
      refine gX9_38 C hw dX9_told_174 ?_
      refine lv_iload_n hx hb dX9_told_177 rfl (lv_at hl 2 rfl) ?_
      obtain ⟨h22, hm⟩ := chk_e hm
      refine alM_9 C hw h22 dX9_told_178 ?_
      refine lv_aload_n hx hb dX9_told_179 rfl (lv_at hl 1 rfl) ?_
      refine lv_iload_n hx hb dX9_told_180 rfl (lv_at hl 2 rfl) ?_
      obtain ⟨v23, h24, hm⟩ := bind_e hm
      refine sX9_173 C h24 hw hS hl.1 (Nat.le_of_ble_eq_true rfl) (Nat.le_trans (Nat.le_of_ble_eq_true rfl) hRf) (Nat.le_trans (Nat.le_of_ble_eq_true rfl) hRl) hcs dX9_told_181 (fun H locs hw hS => ?_)
      refine lv_iconst (v := 0) hx hb dX9_told_184 (by decide) ?_
      refine lv_aload_n hx hb dX9_told_185 rfl (lv_at hl 1 rfl) ?_
      refine gX9_35 C hw dX9_told_186 ?_
      refine lv_iload_n hx hb dX9_told_189 rfl (lv_at hl 2 rfl) ?_
      obtain ⟨h25, hm⟩ := chk_e hm
      refine alM_8 C hw h25 dX9_told_190 ?_
      refine lv_iconst (v := 2) hx hb dX9_told_191 (by decide) ?_
      obtain ⟨v26, x27, h28, hm⟩ := bind2_e hm
      refine sX9_187 C h28 hw hS hl.1 (Nat.le_of_ble_eq_true rfl) (Nat.le_trans (Nat.le_of_ble_eq_true rfl) hRf) (Nat.le_trans (Nat.le_of_ble_eq_true rfl) hRl) hcs dX9_told_192 (fun H locs hw hS => ?_)
      obtain ⟨rfl, rfl⟩ := inj2 hm
      exact xret_i C hw hS dX9_told_195
    replace hm := ite_n k9 hm
    have k0i := lv_neT k0 (a := 0) (by decide)
    have k1i := lv_neT k1 (a := 1) (by decide)
    have k2i := lv_neT k2 (a := 2) (by decide)
    have k3i := lv_neT k3 (a := 3) (by decide)
    have k4i := lv_neT k4 (a := 4) (by decide)
    have k5i := lv_neT k5 (a := 5) (by decide)
    have k6i := lv_neT k6 (a := 6) (by decide)
    have k7i := lv_neT k7 (a := 7) (by decide)
    have k8i := lv_neT k8 (a := 8) (by decide)
    have k9i := lv_neT k9 (a := 9) (by decide)
    refine lv_tableOut (tgt := 196) hx hb dX9_told_14 (by omega) (by decide) ?_
    refine lv_ldc (v := (-1000000)) hx hb ho (hts (.constant RX9 172 (-1000000)) (tg 1135 (by decide +kernel) rfl)) dX9_told_196 ?_
    obtain ⟨rfl, rfl⟩ := inj2 hm
    exact xret_i C hw hS dX9_told_198
  · replace hm := ite_n cc hm
    refine lv_ldc (v := (-1000000)) hx hb ho (hts (.constant RX9 172 (-1000000)) (tg 1135 (by decide +kernel) rfl)) dX9_told_8 ?_
    obtain ⟨rfl, rfl⟩ := inj2 hm
    exact xret_i C hw hS dX9_told_10
theorem dX9_comes_0 : decode cX9_comes 0 = .ok (.aload_n 0, 1) := by decide +kernel
theorem dX9_comes_1 : decode cX9_comes 1 = .ok (.iload_n 1, 1) := by decide +kernel
theorem dX9_comes_2 : decode cX9_comes 2 = .ok (.invokevirtual 222, 3) := by decide +kernel
theorem dX9_comes_5 : decode cX9_comes 5 = .ok (.ifCond .eq 26, 3) := by decide +kernel
theorem dX9_comes_8 : decode cX9_comes 8 = .ok (.iload_n 2, 1) := by decide +kernel
theorem dX9_comes_9 : decode cX9_comes 9 = .ok (.invokestatic 225, 3) := by decide +kernel
theorem dX9_comes_12 : decode cX9_comes 12 = .ok (.ifCond .eq 19, 3) := by decide +kernel
theorem dX9_comes_15 : decode cX9_comes 15 = .ok (.aload_n 0, 1) := by decide +kernel
theorem dX9_comes_16 : decode cX9_comes 16 = .ok (.iload_n 3, 1) := by decide +kernel
theorem dX9_comes_17 : decode cX9_comes 17 = .ok (.invokevirtual 253, 3) := by decide +kernel
theorem dX9_comes_20 : decode cX9_comes 20 = .ok (.ifCond .eq 11, 3) := by decide +kernel
theorem dX9_comes_23 : decode cX9_comes 23 = .ok (.iload 4, 2) := by decide +kernel
theorem dX9_comes_25 : decode cX9_comes 25 = .ok (.invokestatic 228, 3) := by decide +kernel
theorem dX9_comes_28 : decode cX9_comes 28 = .ok (.ifCond .ne 7, 3) := by decide +kernel
theorem dX9_comes_31 : decode cX9_comes 31 = .ok (.ldc2_w 167, 3) := by decide +kernel
theorem dX9_comes_34 : decode cX9_comes 34 = .ok (.lreturn, 1) := by decide +kernel
theorem dX9_comes_35 : decode cX9_comes 35 = .ok (.iconst 0, 1) := by decide +kernel
theorem dX9_comes_36 : decode cX9_comes 36 = .ok (.istore 5, 2) := by decide +kernel
theorem dX9_comes_38 : decode cX9_comes 38 = .ok (.iconst 0, 1) := by decide +kernel
theorem dX9_comes_39 : decode cX9_comes 39 = .ok (.istore 6, 2) := by decide +kernel
theorem dX9_comes_41 : decode cX9_comes 41 = .ok (.iload 6, 2) := by decide +kernel
theorem dX9_comes_43 : decode cX9_comes 43 = .ok (.aload_n 0, 1) := by decide +kernel
theorem dX9_comes_44 : decode cX9_comes 44 = .ok (.getfield 247, 3) := by decide +kernel
theorem dX9_comes_47 : decode cX9_comes 47 = .ok (.if_icmp .ge 23, 3) := by decide +kernel
theorem dX9_comes_50 : decode cX9_comes 50 = .ok (.iload 5, 2) := by decide +kernel
theorem dX9_comes_52 : decode cX9_comes 52 = .ok (.iconst 1, 1) := by decide +kernel
theorem dX9_comes_53 : decode cX9_comes 53 = .ok (.aload_n 0, 1) := by decide +kernel
theorem dX9_comes_54 : decode cX9_comes 54 = .ok (.getfield 51, 3) := by decide +kernel
theorem dX9_comes_57 : decode cX9_comes 57 = .ok (.iload 6, 2) := by decide +kernel
theorem dX9_comes_59 : decode cX9_comes 59 = .ok (.iaload, 1) := by decide +kernel
theorem dX9_comes_60 : decode cX9_comes 60 = .ok (.ishl, 1) := by decide +kernel
theorem dX9_comes_61 : decode cX9_comes 61 = .ok (.ior, 1) := by decide +kernel
theorem dX9_comes_62 : decode cX9_comes 62 = .ok (.istore 5, 2) := by decide +kernel
theorem dX9_comes_64 : decode cX9_comes 64 = .ok (.iinc 6 1, 3) := by decide +kernel
theorem dX9_comes_67 : decode cX9_comes 67 = .ok (.goto (-26), 3) := by decide +kernel
theorem dX9_comes_70 : decode cX9_comes 70 = .ok (.iload 5, 2) := by decide +kernel
theorem dX9_comes_72 : decode cX9_comes 72 = .ok (.iload_n 1, 1) := by decide +kernel
theorem dX9_comes_73 : decode cX9_comes 73 = .ok (.if_icmp .eq 7, 3) := by decide +kernel
theorem dX9_comes_76 : decode cX9_comes 76 = .ok (.ldc2_w 167, 3) := by decide +kernel
theorem dX9_comes_79 : decode cX9_comes 79 = .ok (.lreturn, 1) := by decide +kernel
theorem dX9_comes_80 : decode cX9_comes 80 = .ok (.aload_n 0, 1) := by decide +kernel
theorem dX9_comes_81 : decode cX9_comes 81 = .ok (.iload_n 1, 1) := by decide +kernel
theorem dX9_comes_82 : decode cX9_comes 82 = .ok (.iload_n 2, 1) := by decide +kernel
theorem dX9_comes_83 : decode cX9_comes 83 = .ok (.invokevirtual 231, 3) := by decide +kernel
theorem dX9_comes_86 : decode cX9_comes 86 = .ok (.aload_n 0, 1) := by decide +kernel
theorem dX9_comes_87 : decode cX9_comes 87 = .ok (.iconst 0, 1) := by decide +kernel
theorem dX9_comes_88 : decode cX9_comes 88 = .ok (.ldc_w 256, 3) := by decide +kernel
theorem dX9_comes_91 : decode cX9_comes 91 = .ok (.invokevirtual 250, 3) := by decide +kernel
theorem dX9_comes_94 : decode cX9_comes 94 = .ok (.aload_n 0, 1) := by decide +kernel
theorem dX9_comes_95 : decode cX9_comes 95 = .ok (.iload_n 1, 1) := by decide +kernel
theorem dX9_comes_96 : decode cX9_comes 96 = .ok (.invokevirtual 239, 3) := by decide +kernel
theorem dX9_comes_99 : decode cX9_comes 99 = .ok (.iload 4, 2) := by decide +kernel
theorem dX9_comes_101 : decode cX9_comes 101 = .ok (.invokestatic 243, 3) := by decide +kernel
theorem dX9_comes_104 : decode cX9_comes 104 = .ok (.lreturn, 1) := by decide +kernel
theorem sX9_253 {p : Program} {l : Launch} {e : Env} {R : Room} {s : State} {m : MethodId} {args : Array Value} {below : List Frame} {meth : Method} {c : Code} {H : Heap} {locs : List Loc} {cells slots : Nat} {Q : State → Prop} {cc : ByteArray} {pc nL : Nat} {ls : Array Slot} {rest : List Value} {ret : Option FieldType} {G : xG} {β N : Nat} {x x' : MS} {a1 : Int32} {r : Bool} (C : Cx p s m args meth c RX9 cc nL ret (KK G)) (h : fX9_reads x a1 = some (r, x')) (hw : MW β G N x H) (hS : va_S (AM β) s.heap H locs) (hsz : ls.size = nL) (hW : (rest.map fun v => v.category).sum ≤ 8) (hR : 3 ≤ R.frames) (hR2 : 71 ≤ R.locals) (hcs : cells ≤ R.cells ∧ slots ≤ R.slots) (hd : decode cc pc = .ok (.invokevirtual 253, 3)) (kk : ∀ (H1 : Heap) (locs1 : List Loc), MW β G N x' H1 → va_S (AM β) s.heap H1 locs1 → W p l e R s m args below meth c H1 locs1 cells slots Q (F0 m (pc + 3) ls (.int (bI r) :: rest))) : W p l e R s m args below meth c H locs cells slots Q (F0 m pc ls (.int a1 :: .ref β :: rest)) :=
  xcallV C (As := [.int a1]) (rest := rest) (nA := 1) (ci := 9) (kX9_reads h) (tg 1296 (by decide +kernel) rfl) (tg 1298 (by decide +kernel) rfl) (sg (List.mem_of_getElem? (i := 85) (by decide +kernel)) rfl) (tg 14 (by decide +kernel) rfl) (tg 1299 (by decide +kernel) rfl) ⟨rfl, by decide +kernel, by decide +kernel, by decide +kernel⟩ rfl rfl rfl ⟨hR, hR2⟩ (hw.2 0 (by decide)) hw hS (fun _ q => q) rfl rfl hsz hW hd hcs (fun H1 locs1 hw hz hk hS => kk H1 locs1 hw hS)
theorem sX9_250 {p : Program} {l : Launch} {e : Env} {R : Room} {s : State} {m : MethodId} {args : Array Value} {below : List Frame} {meth : Method} {c : Code} {H : Heap} {locs : List Loc} {cells slots : Nat} {Q : State → Prop} {cc : ByteArray} {pc nL : Nat} {ls : Array Slot} {rest : List Value} {ret : Option FieldType} {G : xG} {β N : Nat} {x : MS} {a1 : Int32} {a2 : Int32} {r : Int64} (C : Cx p s m args meth c RX9 cc nL ret (KK G)) (h : GCh MF 0 x a1 a2 = some r) (hw : MW β G N x H) (hS : va_S (AM β) s.heap H locs) (hsz : ls.size = nL) (hW : (rest.map fun v => v.category).sum ≤ 8) (hR : 101 ≤ R.frames) (hR2 : 2626 ≤ R.locals) (hcs : cells ≤ R.cells ∧ slots ≤ R.slots) (hd : decode cc pc = .ok (.invokevirtual 250, 3)) (kk : ∀ (H1 : Heap) (locs1 : List Loc), MW β G N x H1 → va_S (AM β) s.heap H1 locs1 → W p l e R s m args below meth c H1 locs1 cells slots Q (F0 m (pc + 3) ls (.long r :: rest))) : W p l e R s m args below meth c H locs cells slots Q (F0 m pc ls (.int a2 :: .int a1 :: .ref β :: rest)) :=
  xcallV C (As := [.int a1, .int a2]) (rest := rest) (nA := 2) (ci := 9) (kgX9_chain h) (tg 1301 (by decide +kernel) rfl) (tg 1303 (by decide +kernel) rfl) (sg (List.mem_of_getElem? (i := 86) (by decide +kernel)) rfl) (tg 14 (by decide +kernel) rfl) (tg 1304 (by decide +kernel) rfl) ⟨rfl, by decide +kernel, by decide +kernel, by decide +kernel⟩ rfl rfl rfl ⟨hR, hR2⟩ (hw.2 0 (by decide)) hw hS (fun _ q => q) rfl rfl hsz hW hd hcs (fun H1 locs1 hw hz hk hS => kk H1 locs1 hw hS)
def BX9_comes_41 (x : MS) (q1 : Int32) (q2 : Int32) (q4 : Int32) (lp : Int32 → Int32 → Option (Int32)) (u5 : Int32) (u6 : Int32) : Option (Int32) := if (x.1 0 19) ≤ u6 then some u5 else if ib u6 5 then lt (u5 ||| ((1 : Int32) <<< ((x.2.1 13 u6.toNatClampNeg) &&& 31))) fun v11 => lt (u6 + 1) fun v12 => lp v11 v12 else none
def LX9_comes_41 (x : MS) (q1 : Int32) (q2 : Int32) (q4 : Int32) : Nat → Int32 → Int32 → Option (Int32)
  | 0, _, _ => none
  | n + 1, u5, u6 => BX9_comes_41 x q1 q2 q4 (LX9_comes_41 x q1 q2 q4 n) u5 u6
def fX9_comes (x : MS) (a1 : Int32) (a2 : Int32) (a3 : Int32) (a4 : Int32) : Option (Int64 × MS) := Option.bind (fX9_isField x a1) fun v1 => if v1 = true then Option.bind (fX9_isWhen a2) fun v3 => if v3 = true then bind2 (fX9_reads x a3) fun v5 x6 => if v5 = true then Option.bind (fX9_isPart a4) fun v8 => if v8 = true then Option.bind (LX9_comes_41 x6 a1 a2 a4 NF 0 0) fun v13 => if v13 = a1 then Option.bind (fX9_lays x6 a1 a2) fun x14 => Option.bind (GCh MF 0 x14 0 1000000) fun v16 => Option.bind (fX9_cases x14 a1) fun v18 => Option.bind (fX9_lowest v16 v18 a4) fun v20 => some (v20, x14) else some ((-4611686018427387904), x6) else some ((-4611686018427387904), x6) else some ((-4611686018427387904), x6) else some ((-4611686018427387904), x) else some ((-4611686018427387904), x)
set_option maxHeartbeats 4000000 in
set_option maxRecDepth 100000 in
theorem lX9_comes_41 {p : Program} {l : Launch} {e : Env} {R : Room} {s : State} {m : MethodId} {args : Array Value} {below : List Frame} {meth : Method} {c : Code} {cells slots : Nat} {Q : State → Prop} {G : xG} {β N : Nat} (C : Cx p s m args meth c RX9 cX9_comes 7 (some .long) (KK G)) (hRf : 101 ≤ R.frames) (hRl : 2626 ≤ R.locals) (hcs : cells ≤ R.cells ∧ slots ≤ R.slots) (x : MS) (q1 : Int32) (q2 : Int32) (q4 : Int32) : ∀ (n : Nat) (u5 : Int32) (u6 : Int32) (J : Int32) (H : Heap) (locs : List Loc) (ls : Array Slot), LX9_comes_41 x q1 q2 q4 n u5 u6 = some J → MW β G N x H → va_S (AM β) s.heap H locs → lv_has ls 7 [(0, .ref β), (1, .int q1), (2, .int q2), (4, .int q4), (5, .int u5), (6, .int u6)] → (∀ (w5 : Int32), J = w5 → ∀ (H : Heap) (locs : List Loc) (ls : Array Slot), MW β G N x H → va_S (AM β) s.heap H locs → lv_has ls 7 [(0, .ref β), (1, .int q1), (2, .int q2), (4, .int q4), (5, .int w5)] → W p l e R s m args below meth c H locs cells slots Q (F0 m 70 ls [])) → W p l e R s m args below meth c H locs cells slots Q (F0 m 41 ls []) := by
  have hx := C.1
  have hb := C.2.1
  have ho := C.2.2.2.1
  have hts := C.2.2.2.2.1
  intro n
  induction n with
  | zero =>
    intro u5 u6 J H locs ls hm
    exact absurd hm (by simp [LX9_comes_41])
  | succ n ih =>
    intro u5 u6 J H locs ls hm hw hS hl ke
    replace hm : BX9_comes_41 x q1 q2 q4 (LX9_comes_41 x q1 q2 q4 n) u5 u6 = some J := hm
    unfold BX9_comes_41 at hm
    refine lv_iload hx hb dX9_comes_41 (lv_at hl 5 rfl) ?_
    refine lv_aload_n hx hb dX9_comes_43 rfl (lv_at hl 0 rfl) ?_
    refine gX9_247 C hw dX9_comes_44 ?_
    refine lv_icmp_ge (tgt := 70) hx hb dX9_comes_47 (by decide) (fun cc => ?_) (fun cc => ?_)
    · replace hm := ite_p cc hm
      exact ke _ (Option.some.inj hm).symm _ _ _ hw hS (lv_sub hl [0, 1, 2, 3, 4] rfl)
    · replace hm := ite_n cc hm
      refine lv_iload hx hb dX9_comes_50 (lv_at hl 4 rfl) ?_
      refine lv_iconst (v := 1) hx hb dX9_comes_52 (by decide) ?_
      refine lv_aload_n hx hb dX9_comes_53 rfl (lv_at hl 0 rfl) ?_
      refine gX9_51 C hw dX9_comes_54 ?_
      refine lv_iload hx hb dX9_comes_57 (lv_at hl 5 rfl) ?_
      obtain ⟨h10, hm⟩ := chk_e hm
      refine alM_13 C hw h10 dX9_comes_59 ?_
      refine lv_ishl hx hb dX9_comes_60 ?_
      refine lv_ior hx hb dX9_comes_61 ?_
      refine topI hm (fun v11 hm => ?_)
      refine lv_istore (lv' := [(5, .int v11), (0, .ref β), (1, .int q1), (2, .int q2), (4, .int q4), (6, .int u6)]) hx hb dX9_comes_62 hl (by decide) rfl (fun ls hl => ?_)
      obtain ⟨v12, ev, hm⟩ := lt_e hm
      refine lv_iinc (v := v12) (lv' := [(6, .int v12), (5, .int v11), (0, .ref β), (1, .int q1), (2, .int q2), (4, .int q4)]) hx hb dX9_comes_64 hl (k := 5) rfl (by rw [ev]; rfl) (by decide) rfl (fun ls hl => ?_)
      clear ev
      refine lv_goto (tgt := 41) hx hb dX9_comes_67 (by decide) ?_
      exact ih _ _ _ _ _ _ hm hw hS (lv_sub hl [2, 3, 4, 5, 1, 0] rfl) ke
abbrev rmX9_comes : Room := { frames := 101, cells := 0, slots := 0, locals := 2626 }
set_option maxHeartbeats 4000000 in
set_option maxRecDepth 100000 in
theorem kX9_comes {l : Launch} {G : xG} {β N : Nat} {x x' : MS} {a1 : Int32} {a2 : Int32} {a3 : Int32} {a4 : Int32} {r : Int64} (hm : fX9_comes x a1 a2 a3 a4 = some (r, x')) : Met l yX9_comes (.code yX9_comes cX9_comes 7 (some .long) :: GT) rmX9_comes (PcW [.ref β, .int a1, .int a2, .int a3, .int a4] (MW β G N x) (KK G)) (QcW (AM β) (some (.long r)) (MW β G N x')) 0 0 (AM β) := by
  unfold fX9_comes at hm
  refine xpro (own := RX9) (by decide +kernel) rfl (Nat.le_of_ble_eq_true rfl) ?_
  intro p e s m args below meth c C hw ls hl
  have hx := C.1
  have hb := C.2.1
  have ho := C.2.2.2.1
  have hts := C.2.2.2.2.1
  have hS : va_S (AM β) s.heap s.heap [] := va_S.rf
  have hl : lv_has ls 7 [(0, .ref β), (1, .int a1), (2, .int a2), (3, .int a3), (4, .int a4)] := hl
  have hRf : 101 ≤ rmX9_comes.frames := Nat.le_refl _
  have hRl : 2626 ≤ rmX9_comes.locals := Nat.le_refl _
  have hcs : 0 ≤ rmX9_comes.cells ∧ 0 ≤ rmX9_comes.slots := ⟨Nat.le_refl _, Nat.le_refl _⟩
  refine lv_aload_n hx hb dX9_comes_0 rfl (lv_at hl 0 rfl) ?_
  refine lv_iload_n hx hb dX9_comes_1 rfl (lv_at hl 1 rfl) ?_
  obtain ⟨v1, h2, hm⟩ := bind_e hm
  refine sX9_222 C h2 hw hS hl.1 (Nat.le_of_ble_eq_true rfl) (Nat.le_trans (Nat.le_of_ble_eq_true rfl) hRf) (Nat.le_trans (Nat.le_of_ble_eq_true rfl) hRl) hcs dX9_comes_2 (fun H locs hw hS => ?_)
  refine x_ifeqB hx hb dX9_comes_5 (tgt := 31) (by decide) (fun cc => ?_) (fun cc => ?_)
  · replace hm := ite_n cc hm
    refine lv_ldc2 (v := (-4611686018427387904)) hx hb ho (hts (.constantLong RX9 167 (-4611686018427387904)) (tg 1130 (by decide +kernel) rfl)) dX9_comes_31 ?_
    obtain ⟨rfl, rfl⟩ := inj2 hm
    exact xret_l C hw hS dX9_comes_34
  · replace hm := ite_p cc hm
    refine lv_iload_n hx hb dX9_comes_8 rfl (lv_at hl 2 rfl) ?_
    obtain ⟨v3, h4, hm⟩ := bind_e hm
    refine sX9_225 C h4 hw hS hl.1 (Nat.le_of_ble_eq_true rfl) (Nat.le_trans (Nat.le_of_ble_eq_true rfl) hRf) (Nat.le_trans (Nat.le_of_ble_eq_true rfl) hRl) hcs dX9_comes_9 (fun H locs hw hS => ?_)
    refine x_ifeqB hx hb dX9_comes_12 (tgt := 31) (by decide) (fun cc => ?_) (fun cc => ?_)
    · replace hm := ite_n cc hm
      refine lv_ldc2 (v := (-4611686018427387904)) hx hb ho (hts (.constantLong RX9 167 (-4611686018427387904)) (tg 1130 (by decide +kernel) rfl)) dX9_comes_31 ?_
      obtain ⟨rfl, rfl⟩ := inj2 hm
      exact xret_l C hw hS dX9_comes_34
    · replace hm := ite_p cc hm
      refine lv_aload_n hx hb dX9_comes_15 rfl (lv_at hl 0 rfl) ?_
      refine lv_iload_n hx hb dX9_comes_16 rfl (lv_at hl 3 rfl) ?_
      obtain ⟨v5, x6, h7, hm⟩ := bind2_e hm
      refine sX9_253 C h7 hw hS hl.1 (Nat.le_of_ble_eq_true rfl) (Nat.le_trans (Nat.le_of_ble_eq_true rfl) hRf) (Nat.le_trans (Nat.le_of_ble_eq_true rfl) hRl) hcs dX9_comes_17 (fun H locs hw hS => ?_)
      refine x_ifeqB hx hb dX9_comes_20 (tgt := 31) (by decide) (fun cc => ?_) (fun cc => ?_)
      · replace hm := ite_n cc hm
        refine lv_ldc2 (v := (-4611686018427387904)) hx hb ho (hts (.constantLong RX9 167 (-4611686018427387904)) (tg 1130 (by decide +kernel) rfl)) dX9_comes_31 ?_
        obtain ⟨rfl, rfl⟩ := inj2 hm
        exact xret_l C hw hS dX9_comes_34
      · replace hm := ite_p cc hm
        refine lv_iload hx hb dX9_comes_23 (lv_at hl 4 rfl) ?_
        obtain ⟨v8, h9, hm⟩ := bind_e hm
        refine sX9_228 C h9 hw hS hl.1 (Nat.le_of_ble_eq_true rfl) (Nat.le_trans (Nat.le_of_ble_eq_true rfl) hRf) (Nat.le_trans (Nat.le_of_ble_eq_true rfl) hRl) hcs dX9_comes_25 (fun H locs hw hS => ?_)
        refine x_ifneB hx hb dX9_comes_28 (tgt := 35) (by decide) (fun cc => ?_) (fun cc => ?_)
        · replace hm := ite_p cc hm
          refine lv_iconst (v := 0) hx hb dX9_comes_35 (by decide) ?_
          refine lv_istore (lv' := [(5, .int 0), (0, .ref β), (1, .int a1), (2, .int a2), (3, .int a3), (4, .int a4)]) hx hb dX9_comes_36 hl (by decide) rfl (fun ls hl => ?_)
          refine lv_iconst (v := 0) hx hb dX9_comes_38 (by decide) ?_
          refine lv_istore (lv' := [(6, .int 0), (5, .int 0), (0, .ref β), (1, .int a1), (2, .int a2), (3, .int a3), (4, .int a4)]) hx hb dX9_comes_39 hl (by decide) rfl (fun ls hl => ?_)
          obtain ⟨v13, hj, hm⟩ := bind_e hm
          refine lX9_comes_41 C hRf hRl hcs x6 a1 a2 a4 NF _ _ _ _ _ _ hj hw hS (lv_sub hl [2, 3, 4, 6, 1, 0] rfl) (fun v13_ e0 H locs ls hw hS hl => ?_)
          cases e0
          refine lv_iload hx hb dX9_comes_70 (lv_at hl 4 rfl) ?_
          refine lv_iload_n hx hb dX9_comes_72 rfl (lv_at hl 1 rfl) ?_
          refine lv_icmp_eq (tgt := 80) hx hb dX9_comes_73 (by decide) (fun cc => ?_) (fun cc => ?_)
          · replace hm := ite_p cc hm
            refine lv_aload_n hx hb dX9_comes_80 rfl (lv_at hl 0 rfl) ?_
            refine lv_iload_n hx hb dX9_comes_81 rfl (lv_at hl 1 rfl) ?_
            refine lv_iload_n hx hb dX9_comes_82 rfl (lv_at hl 2 rfl) ?_
            obtain ⟨x14, h15, hm⟩ := bind_e hm
            refine sX9_231 C h15 hw hS hl.1 (Nat.le_of_ble_eq_true rfl) (Nat.le_trans (Nat.le_of_ble_eq_true rfl) hRf) (Nat.le_trans (Nat.le_of_ble_eq_true rfl) hRl) hcs dX9_comes_83 (fun H locs hw hS => ?_)
            refine lv_aload_n hx hb dX9_comes_86 rfl (lv_at hl 0 rfl) ?_
            refine lv_iconst (v := 0) hx hb dX9_comes_87 (by decide) ?_
            refine lv_ldcw (v := 1000000) hx hb ho (hts (.constant RX9 256 1000000) (tg 1300 (by decide +kernel) rfl)) dX9_comes_88 ?_
            obtain ⟨v16, h17, hm⟩ := bind_e hm
            refine sX9_250 C h17 hw hS hl.1 (Nat.le_of_ble_eq_true rfl) (Nat.le_trans (Nat.le_of_ble_eq_true rfl) hRf) (Nat.le_trans (Nat.le_of_ble_eq_true rfl) hRl) hcs dX9_comes_91 (fun H locs hw hS => ?_)
            refine lv_aload_n hx hb dX9_comes_94 rfl (lv_at hl 0 rfl) ?_
            refine lv_iload_n hx hb dX9_comes_95 rfl (lv_at hl 1 rfl) ?_
            obtain ⟨v18, h19, hm⟩ := bind_e hm
            refine sX9_239 C h19 hw hS hl.1 (Nat.le_of_ble_eq_true rfl) (Nat.le_trans (Nat.le_of_ble_eq_true rfl) hRf) (Nat.le_trans (Nat.le_of_ble_eq_true rfl) hRl) hcs dX9_comes_96 (fun H locs hw hS => ?_)
            refine lv_iload hx hb dX9_comes_99 (lv_at hl 3 rfl) ?_
            obtain ⟨v20, h21, hm⟩ := bind_e hm
            refine sX9_243 C h21 hw hS hl.1 (Nat.le_of_ble_eq_true rfl) (Nat.le_trans (Nat.le_of_ble_eq_true rfl) hRf) (Nat.le_trans (Nat.le_of_ble_eq_true rfl) hRl) hcs dX9_comes_101 (fun H locs hw hS => ?_)
            obtain ⟨rfl, rfl⟩ := inj2 hm
            exact xret_l C hw hS dX9_comes_104
          · replace hm := ite_n cc hm
            refine lv_ldc2 (v := (-4611686018427387904)) hx hb ho (hts (.constantLong RX9 167 (-4611686018427387904)) (tg 1130 (by decide +kernel) rfl)) dX9_comes_76 ?_
            obtain ⟨rfl, rfl⟩ := inj2 hm
            exact xret_l C hw hS dX9_comes_79
        · replace hm := ite_n cc hm
          refine lv_ldc2 (v := (-4611686018427387904)) hx hb ho (hts (.constantLong RX9 167 (-4611686018427387904)) (tg 1130 (by decide +kernel) rfl)) dX9_comes_31 ?_
          obtain ⟨rfl, rfl⟩ := inj2 hm
          exact xret_l C hw hS dX9_comes_34
