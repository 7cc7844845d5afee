theorem dX9_cell_0 : decode cX9_cell 0 = .ok (.iload_n 1, 1) := by decide +kernel
theorem dX9_cell_1 : decode cX9_cell 1 = .ok (.invokestatic 444, 3) := by decide +kernel
theorem dX9_cell_4 : decode cX9_cell 4 = .ok (.ifCond .ne 6, 3) := by decide +kernel
theorem dX9_cell_7 : decode cX9_cell 7 = .ok (.bipush (-2), 2) := by decide +kernel
theorem dX9_cell_9 : decode cX9_cell 9 = .ok (.ireturn, 1) := by decide +kernel
theorem dX9_cell_10 : decode cX9_cell 10 = .ok (.aload_n 0, 1) := by decide +kernel
theorem dX9_cell_11 : decode cX9_cell 11 = .ok (.getfield 90, 3) := by decide +kernel
theorem dX9_cell_14 : decode cX9_cell 14 = .ok (.iload_n 1, 1) := by decide +kernel
theorem dX9_cell_15 : decode cX9_cell 15 = .ok (.baload, 1) := by decide +kernel
theorem dX9_cell_16 : decode cX9_cell 16 = .ok (.ifCond .ne 6, 3) := by decide +kernel
theorem dX9_cell_19 : decode cX9_cell 19 = .ok (.bipush (-11), 2) := by decide +kernel
theorem dX9_cell_21 : decode cX9_cell 21 = .ok (.ireturn, 1) := by decide +kernel
theorem dX9_cell_22 : decode cX9_cell 22 = .ok (.iload_n 2, 1) := by decide +kernel
theorem dX9_cell_23 : decode cX9_cell 23 = .ok (.i2l, 1) := by decide +kernel
theorem dX9_cell_24 : decode cX9_cell 24 = .ok (.lconst 0, 1) := by decide +kernel
theorem dX9_cell_25 : decode cX9_cell 25 = .ok (.aload_n 0, 1) := by decide +kernel
theorem dX9_cell_26 : decode cX9_cell 26 = .ok (.getfield 97, 3) := by decide +kernel
theorem dX9_cell_29 : decode cX9_cell 29 = .ok (.iload_n 1, 1) := by decide +kernel
theorem dX9_cell_30 : decode cX9_cell 30 = .ok (.iaload, 1) := by decide +kernel
theorem dX9_cell_31 : decode cX9_cell 31 = .ok (.iconst 1, 1) := by decide +kernel
theorem dX9_cell_32 : decode cX9_cell 32 = .ok (.isub, 1) := by decide +kernel
theorem dX9_cell_33 : decode cX9_cell 33 = .ok (.i2l, 1) := by decide +kernel
theorem dX9_cell_34 : decode cX9_cell 34 = .ok (.invokestatic 132, 3) := by decide +kernel
theorem dX9_cell_37 : decode cX9_cell 37 = .ok (.ifCond .ne 6, 3) := by decide +kernel
theorem dX9_cell_40 : decode cX9_cell 40 = .ok (.bipush (-12), 2) := by decide +kernel
theorem dX9_cell_42 : decode cX9_cell 42 = .ok (.ireturn, 1) := by decide +kernel
theorem dX9_cell_43 : decode cX9_cell 43 = .ok (.aload_n 0, 1) := by decide +kernel
theorem dX9_cell_44 : decode cX9_cell 44 = .ok (.getfield 100, 3) := by decide +kernel
theorem dX9_cell_47 : decode cX9_cell 47 = .ok (.bipush 40, 2) := by decide +kernel
theorem dX9_cell_49 : decode cX9_cell 49 = .ok (.iload_n 1, 1) := by decide +kernel
theorem dX9_cell_50 : decode cX9_cell 50 = .ok (.imul, 1) := by decide +kernel
theorem dX9_cell_51 : decode cX9_cell 51 = .ok (.iload_n 2, 1) := by decide +kernel
theorem dX9_cell_52 : decode cX9_cell 52 = .ok (.iadd, 1) := by decide +kernel
theorem dX9_cell_53 : decode cX9_cell 53 = .ok (.aload_n 0, 1) := by decide +kernel
theorem dX9_cell_54 : decode cX9_cell 54 = .ok (.getfield 94, 3) := by decide +kernel
theorem dX9_cell_57 : decode cX9_cell 57 = .ok (.iload_n 1, 1) := by decide +kernel
theorem dX9_cell_58 : decode cX9_cell 58 = .ok (.iaload, 1) := by decide +kernel
theorem dX9_cell_59 : decode cX9_cell 59 = .ok (.ifCond .ne 8, 3) := by decide +kernel
theorem dX9_cell_62 : decode cX9_cell 62 = .ok (.iload_n 3, 1) := by decide +kernel
theorem dX9_cell_63 : decode cX9_cell 63 = .ok (.i2b, 1) := by decide +kernel
theorem dX9_cell_64 : decode cX9_cell 64 = .ok (.goto 19, 3) := by decide +kernel
theorem dX9_cell_67 : decode cX9_cell 67 = .ok (.aload_n 0, 1) := by decide +kernel
theorem dX9_cell_68 : decode cX9_cell 68 = .ok (.getfield 94, 3) := by decide +kernel
theorem dX9_cell_71 : decode cX9_cell 71 = .ok (.iload_n 1, 1) := by decide +kernel
theorem dX9_cell_72 : decode cX9_cell 72 = .ok (.iaload, 1) := by decide +kernel
theorem dX9_cell_73 : decode cX9_cell 73 = .ok (.iconst 1, 1) := by decide +kernel
theorem dX9_cell_74 : decode cX9_cell 74 = .ok (.if_icmp .ne 8, 3) := by decide +kernel
theorem dX9_cell_77 : decode cX9_cell 77 = .ok (.iload_n 3, 1) := by decide +kernel
theorem dX9_cell_78 : decode cX9_cell 78 = .ok (.i2s, 1) := by decide +kernel
theorem dX9_cell_79 : decode cX9_cell 79 = .ok (.goto 4, 3) := by decide +kernel
theorem dX9_cell_82 : decode cX9_cell 82 = .ok (.iload_n 3, 1) := by decide +kernel
theorem dX9_cell_83 : decode cX9_cell 83 = .ok (.iastore, 1) := by decide +kernel
theorem dX9_cell_84 : decode cX9_cell 84 = .ok (.iconst 1, 1) := by decide +kernel
theorem dX9_cell_85 : decode cX9_cell 85 = .ok (.ireturn, 1) := by decide +kernel
theorem alM_26 {p : Program} {l : Launch} {e : Env} {R : Room} {s : State} {m : MethodId} {args : Array Value} {below : List Frame} {meth : Method} {c : Code} {H : Heap} {locs : List Loc} {cells slots : Nat} {Q : State → Prop} {cc : ByteArray} {pc nL : Nat} {ls : Array Slot} {rest : List Value} {ret : Option FieldType} {G : xG} {β N : Nat} {x : MS} {own : String} {i : Int32} (C : Cx p s m args meth c own cc nL ret (KK G)) (hw : MW β G N x H) (hin : ib i 4) (hd : decode cc pc = .ok (.baload, 1)) (kk : W p l e R s m args below meth c H locs cells slots Q (F0 m (pc + 1) ls (.int (x.2.1 26 i.toNatClampNeg) :: rest))) : W p l e R s m args below meth c H locs cells slots Q (F0 m pc ls (.int i :: .ref (β + 26) :: rest)) :=
  va_zald C.1 C.2.1 C.K.1 (xP1 (hw.2 26 (by decide))) 0 3 rfl rfl hin hd kk
theorem alM_28 {p : Program} {l : Launch} {e : Env} {R : Room} {s : State} {m : MethodId} {args : Array Value} {below : List Frame} {meth : Method} {c : Code} {H : Heap} {locs : List Loc} {cells slots : Nat} {Q : State → Prop} {cc : ByteArray} {pc nL : Nat} {ls : Array Slot} {rest : List Value} {ret : Option FieldType} {G : xG} {β N : Nat} {x : MS} {own : String} {i : Int32} (C : Cx p s m args meth c own cc nL ret (KK G)) (hw : MW β G N x H) (hin : ib i 4) (hd : decode cc pc = .ok (.iaload, 1)) (kk : W p l e R s m args below meth c H locs cells slots Q (F0 m (pc + 1) ls (.int (x.2.1 28 i.toNatClampNeg) :: rest))) : W p l e R s m args below meth c H locs cells slots Q (F0 m pc ls (.int i :: .ref (β + 28) :: rest)) :=
  va_iald C.1 C.2.1 C.K.1 (xP1 (hw.2 28 (by decide))) 0 0 rfl rfl hin hd kk
theorem alM_27 {p : Program} {l : Launch} {e : Env} {R : Room} {s : State} {m : MethodId} {args : Array Value} {below : List Frame} {meth : Method} {c : Code} {H : Heap} {locs : List Loc} {cells slots : Nat} {Q : State → Prop} {cc : ByteArray} {pc nL : Nat} {ls : Array Slot} {rest : List Value} {ret : Option FieldType} {G : xG} {β N : Nat} {x : MS} {own : String} {i : Int32} (C : Cx p s m args meth c own cc nL ret (KK G)) (hw : MW β G N x H) (hin : ib i 4) (hd : decode cc pc = .ok (.iaload, 1)) (kk : W p l e R s m args below meth c H locs cells slots Q (F0 m (pc + 1) ls (.int (x.2.1 27 i.toNatClampNeg) :: rest))) : W p l e R s m args below meth c H locs cells slots Q (F0 m pc ls (.int i :: .ref (β + 27) :: rest)) :=
  va_iald C.1 C.2.1 C.K.1 (xP1 (hw.2 27 (by decide))) 0 0 rfl rfl hin hd kk
def fX9_cell (x : MS) (a1 : Int32) (a2 : Int32) (a3 : Int32) : Option (Int32 × MS) := Option.bind (fX9_isSheet a1) fun v1 => if v1 = true then if ib a1 4 then if (x.2.1 26 a1.toNatClampNeg) = 0 then some ((-11), x) else if ib a1 4 then Option.bind (fX9_in (a2.toInt64) 0 (((x.2.1 28 a1.toNatClampNeg) - 1).toInt64)) fun v5 => if v5 = true then if ib a1 4 then if (x.2.1 27 a1.toNatClampNeg) = 0 then if ib ((40 * a1) + a2) 160 then lt (msA x 29 ((40 * a1) + a2).toNatClampNeg (a3.toInt8.toInt32)) fun x14 => some (1, x14) else none else if ib a1 4 then if (x.2.1 27 a1.toNatClampNeg) = 1 then if ib ((40 * a1) + a2) 160 then lt (msA x 29 ((40 * a1) + a2).toNatClampNeg (a3.toInt16.toInt32)) fun x12 => some (1, x12) else none else if ib ((40 * a1) + a2) 160 then lt (msA x 29 ((40 * a1) + a2).toNatClampNeg a3) fun x10 => some (1, x10) else none else none else none else some ((-12), x) else none else none else some ((-2), x)
abbrev rmX9_cell : Room := { frames := 2, cells := 0, slots := 0, locals := 45 }
set_option maxHeartbeats 4000000 in
set_option maxRecDepth 100000 in
theorem kX9_cell {l : Launch} {G : xG} {β N : Nat} {x x' : MS} {a1 : Int32} {a2 : Int32} {a3 : Int32} {r : Int32} (hm : fX9_cell x a1 a2 a3 = some (r, x')) : Met l yX9_cell (.code yX9_cell cX9_cell 4 (some .int) :: GT) rmX9_cell (PcW [.ref β, .int a1, .int a2, .int a3] (MW β G N x) (KK G)) (QcW (AM β) (some (.int r)) (MW β G N x')) 0 0 (AM β) := by
  unfold fX9_cell at hm
  refine xpro (own := RX9) (by decide +kernel) rfl (Nat.le_of_ble_eq_true rfl) ?_
  intro p e s m args below meth c C hw ls hl
  have hx := C.1
  have hb := C.2.1
  have ho := C.2.2.2.1
  have hts := C.2.2.2.2.1
  have hS : va_S (AM β) s.heap s.heap [] := va_S.rf
  have hl : lv_has ls 4 [(0, .ref β), (1, .int a1), (2, .int a2), (3, .int a3)] := hl
  have hRf : 2 ≤ rmX9_cell.frames := Nat.le_refl _
  have hRl : 45 ≤ rmX9_cell.locals := Nat.le_refl _
  have hcs : 0 ≤ rmX9_cell.cells ∧ 0 ≤ rmX9_cell.slots := ⟨Nat.le_refl _, Nat.le_refl _⟩
  refine lv_iload_n hx hb dX9_cell_0 rfl (lv_at hl 1 rfl) ?_
  obtain ⟨v1, h2, hm⟩ := bind_e hm
  refine sX9_444 C h2 hw hS hl.1 (Nat.le_of_ble_eq_true rfl) (Nat.le_trans (Nat.le_of_ble_eq_true rfl) hRf) (Nat.le_trans (Nat.le_of_ble_eq_true rfl) hRl) hcs dX9_cell_1 (fun H locs hw hS => ?_)
  refine x_ifneB hx hb dX9_cell_4 (tgt := 10) (by decide) (fun cc => ?_) (fun cc => ?_)
  · replace hm := ite_p cc hm
    refine lv_aload_n hx hb dX9_cell_10 rfl (lv_at hl 0 rfl) ?_
    refine gX9_90 C hw dX9_cell_11 ?_
    refine lv_iload_n hx hb dX9_cell_14 rfl (lv_at hl 1 rfl) ?_
    obtain ⟨h3, hm⟩ := chk_e hm
    refine alM_26 C hw h3 dX9_cell_15 ?_
    refine lv_if_ne (tgt := 22) hx hb dX9_cell_16 (by decide) (fun cc => ?_) (fun cc => ?_)
    · replace hm := ite_n cc hm
      refine lv_iload_n hx hb dX9_cell_22 rfl (lv_at hl 2 rfl) ?_
      refine lv_i2l hx hb dX9_cell_23 rfl ?_
      refine lv_lconst (v := 0) hx hb dX9_cell_24 (by decide) ?_
      refine lv_aload_n hx hb dX9_cell_25 rfl (lv_at hl 0 rfl) ?_
      refine gX9_97 C hw dX9_cell_26 ?_
      refine lv_iload_n hx hb dX9_cell_29 rfl (lv_at hl 1 rfl) ?_
      obtain ⟨h4, hm⟩ := chk_e hm
      refine alM_28 C hw h4 dX9_cell_30 ?_
      refine lv_iconst (v := 1) hx hb dX9_cell_31 (by decide) ?_
      refine lv_isub hx hb dX9_cell_32 ?_
      refine lv_i2l hx hb dX9_cell_33 rfl ?_
      obtain ⟨v5, h6, hm⟩ := bind_e hm
      refine sX9_132 C h6 hw hS hl.1 (Nat.le_of_ble_eq_true rfl) (Nat.le_trans (Nat.le_of_ble_eq_true rfl) hRf) (Nat.le_trans (Nat.le_of_ble_eq_true rfl) hRl) hcs dX9_cell_34 (fun H locs hw hS => ?_)
      refine x_ifneB hx hb dX9_cell_37 (tgt := 43) (by decide) (fun cc => ?_) (fun cc => ?_)
      · replace hm := ite_p cc hm
        refine lv_aload_n hx hb dX9_cell_43 rfl (lv_at hl 0 rfl) ?_
        refine gX9_100 C hw dX9_cell_44 ?_
        refine lv_bipush (v := 40) hx hb dX9_cell_47 (by decide) ?_
        refine lv_iload_n hx hb dX9_cell_49 rfl (lv_at hl 1 rfl) ?_
        refine lv_imul hx hb dX9_cell_50 ?_
        refine lv_iload_n hx hb dX9_cell_51 rfl (lv_at hl 2 rfl) ?_
        refine lv_iadd hx hb dX9_cell_52 ?_
        refine lv_aload_n hx hb dX9_cell_53 rfl (lv_at hl 0 rfl) ?_
        refine gX9_94 C hw dX9_cell_54 ?_
        refine lv_iload_n hx hb dX9_cell_57 rfl (lv_at hl 1 rfl) ?_
        obtain ⟨h7, hm⟩ := chk_e hm
        refine alM_27 C hw h7 dX9_cell_58 ?_
        refine lv_if_ne (tgt := 67) hx hb dX9_cell_59 (by decide) (fun cc => ?_) (fun cc => ?_)
        · replace hm := ite_n cc hm
          refine lv_aload_n hx hb dX9_cell_67 rfl (lv_at hl 0 rfl) ?_
          refine gX9_94 C hw dX9_cell_68 ?_
          refine lv_iload_n hx hb dX9_cell_71 rfl (lv_at hl 1 rfl) ?_
          obtain ⟨h8, hm⟩ := chk_e hm
          refine alM_27 C hw h8 dX9_cell_72 ?_
          refine lv_iconst (v := 1) hx hb dX9_cell_73 (by decide) ?_
          refine lv_icmp_ne (tgt := 82) hx hb dX9_cell_74 (by decide) (fun cc => ?_) (fun cc => ?_)
          · replace hm := ite_n cc hm
            refine lv_iload_n hx hb dX9_cell_82 rfl (lv_at hl 3 rfl) ?_
            obtain ⟨h9, hm⟩ := chk_e hm
            refine asM_29 C hw hS h9 dX9_cell_83 (fun H locs hw hS => ?_)
            obtain ⟨x10, ev, hm⟩ := lt_e hm
            rw [← ev] at hw
            clear ev
            refine lv_iconst (v := 1) hx hb dX9_cell_84 (by decide) ?_
            obtain ⟨rfl, rfl⟩ := inj2 hm
            exact xret_i C hw hS dX9_cell_85
          · replace hm := ite_p cc hm
            refine lv_iload_n hx hb dX9_cell_77 rfl (lv_at hl 3 rfl) ?_
            refine lv_i2s hx hb dX9_cell_78 rfl ?_
            refine lv_goto (tgt := 83) hx hb dX9_cell_79 (by decide) ?_
            obtain ⟨h11, hm⟩ := chk_e hm
            refine asM_29 C hw hS h11 dX9_cell_83 (fun H locs hw hS => ?_)
            obtain ⟨x12, ev, hm⟩ := lt_e hm
            rw [← ev] at hw
            clear ev
            refine lv_iconst (v := 1) hx hb dX9_cell_84 (by decide) ?_
            obtain ⟨rfl, rfl⟩ := inj2 hm
            exact xret_i C hw hS dX9_cell_85
        · replace hm := ite_p cc hm
          refine lv_iload_n hx hb dX9_cell_62 rfl (lv_at hl 3 rfl) ?_
          refine lv_i2b hx hb dX9_cell_63 rfl ?_
          refine lv_goto (tgt := 83) hx hb dX9_cell_64 (by decide) ?_
          obtain ⟨h13, hm⟩ := chk_e hm
          refine asM_29 C hw hS h13 dX9_cell_83 (fun H locs hw hS => ?_)
          obtain ⟨x14, ev, hm⟩ := lt_e hm
          rw [← ev] at hw
          clear ev
          refine lv_iconst (v := 1) hx hb dX9_cell_84 (by decide) ?_
          obtain ⟨rfl, rfl⟩ := inj2 hm
          exact xret_i C hw hS dX9_cell_85
      · replace hm := ite_n cc hm
        refine lv_bipush (v := (-12)) hx hb dX9_cell_40 (by decide) ?_
        obtain ⟨rfl, rfl⟩ := inj2 hm
        exact xret_i C hw hS dX9_cell_42
    · replace hm := ite_p cc hm
      refine lv_bipush (v := (-11)) hx hb dX9_cell_19 (by decide) ?_
      obtain ⟨rfl, rfl⟩ := inj2 hm
      exact xret_i C hw hS dX9_cell_21
  · replace hm := ite_n cc hm
    refine lv_bipush (v := (-2)) hx hb dX9_cell_7 (by decide) ?_
    obtain ⟨rfl, rfl⟩ := inj2 hm
    exact xret_i C hw hS dX9_cell_9
theorem dX9_copy_0 : decode cX9_copy 0 = .ok (.iload_n 1, 1) := by decide +kernel
theorem dX9_copy_1 : decode cX9_copy 1 = .ok (.invokestatic 444, 3) := by decide +kernel
theorem dX9_copy_4 : decode cX9_copy 4 = .ok (.ifCond .eq 10, 3) := by decide +kernel
theorem dX9_copy_7 : decode cX9_copy 7 = .ok (.iload_n 3, 1) := by decide +kernel
theorem dX9_copy_8 : decode cX9_copy 8 = .ok (.invokestatic 444, 3) := by decide +kernel
theorem dX9_copy_11 : decode cX9_copy 11 = .ok (.ifCond .ne 6, 3) := by decide +kernel
theorem dX9_copy_14 : decode cX9_copy 14 = .ok (.bipush (-2), 2) := by decide +kernel
theorem dX9_copy_16 : decode cX9_copy 16 = .ok (.ireturn, 1) := by decide +kernel
theorem dX9_copy_17 : decode cX9_copy 17 = .ok (.aload_n 0, 1) := by decide +kernel
theorem dX9_copy_18 : decode cX9_copy 18 = .ok (.getfield 90, 3) := by decide +kernel
theorem dX9_copy_21 : decode cX9_copy 21 = .ok (.iload_n 1, 1) := by decide +kernel
theorem dX9_copy_22 : decode cX9_copy 22 = .ok (.baload, 1) := by decide +kernel
theorem dX9_copy_23 : decode cX9_copy 23 = .ok (.ifCond .eq 12, 3) := by decide +kernel
theorem dX9_copy_26 : decode cX9_copy 26 = .ok (.aload_n 0, 1) := by decide +kernel
theorem dX9_copy_27 : decode cX9_copy 27 = .ok (.getfield 90, 3) := by decide +kernel
theorem dX9_copy_30 : decode cX9_copy 30 = .ok (.iload_n 3, 1) := by decide +kernel
theorem dX9_copy_31 : decode cX9_copy 31 = .ok (.baload, 1) := by decide +kernel
theorem dX9_copy_32 : decode cX9_copy 32 = .ok (.ifCond .ne 6, 3) := by decide +kernel
theorem dX9_copy_35 : decode cX9_copy 35 = .ok (.bipush (-11), 2) := by decide +kernel
theorem dX9_copy_37 : decode cX9_copy 37 = .ok (.ireturn, 1) := by decide +kernel
theorem dX9_copy_38 : decode cX9_copy 38 = .ok (.aload_n 0, 1) := by decide +kernel
theorem dX9_copy_39 : decode cX9_copy 39 = .ok (.getfield 94, 3) := by decide +kernel
theorem dX9_copy_42 : decode cX9_copy 42 = .ok (.iload_n 1, 1) := by decide +kernel
theorem dX9_copy_43 : decode cX9_copy 43 = .ok (.iaload, 1) := by decide +kernel
theorem dX9_copy_44 : decode cX9_copy 44 = .ok (.aload_n 0, 1) := by decide +kernel
theorem dX9_copy_45 : decode cX9_copy 45 = .ok (.getfield 94, 3) := by decide +kernel
theorem dX9_copy_48 : decode cX9_copy 48 = .ok (.iload_n 3, 1) := by decide +kernel
theorem dX9_copy_49 : decode cX9_copy 49 = .ok (.iaload, 1) := by decide +kernel
theorem dX9_copy_50 : decode cX9_copy 50 = .ok (.if_icmp .eq 6, 3) := by decide +kernel
theorem dX9_copy_53 : decode cX9_copy 53 = .ok (.bipush (-13), 2) := by decide +kernel
theorem dX9_copy_55 : decode cX9_copy 55 = .ok (.ireturn, 1) := by decide +kernel
theorem dX9_copy_56 : decode cX9_copy 56 = .ok (.iload 5, 2) := by decide +kernel
theorem dX9_copy_58 : decode cX9_copy 58 = .ok (.ifCond .lt 39, 3) := by decide +kernel
theorem dX9_copy_61 : decode cX9_copy 61 = .ok (.iload_n 2, 1) := by decide +kernel
theorem dX9_copy_62 : decode cX9_copy 62 = .ok (.ifCond .lt 35, 3) := by decide +kernel
theorem dX9_copy_65 : decode cX9_copy 65 = .ok (.iload 4, 2) := by decide +kernel
theorem dX9_copy_67 : decode cX9_copy 67 = .ok (.ifCond .lt 30, 3) := by decide +kernel
theorem dX9_copy_70 : decode cX9_copy 70 = .ok (.iload_n 2, 1) := by decide +kernel
theorem dX9_copy_71 : decode cX9_copy 71 = .ok (.aload_n 0, 1) := by decide +kernel
theorem dX9_copy_72 : decode cX9_copy 72 = .ok (.getfield 97, 3) := by decide +kernel
theorem dX9_copy_75 : decode cX9_copy 75 = .ok (.iload_n 1, 1) := by decide +kernel
theorem dX9_copy_76 : decode cX9_copy 76 = .ok (.iaload, 1) := by decide +kernel
theorem dX9_copy_77 : decode cX9_copy 77 = .ok (.iload 5, 2) := by decide +kernel
theorem dX9_copy_79 : decode cX9_copy 79 = .ok (.isub, 1) := by decide +kernel
theorem dX9_copy_80 : decode cX9_copy 80 = .ok (.if_icmp .gt 17, 3) := by decide +kernel
theorem dX9_copy_83 : decode cX9_copy 83 = .ok (.iload 4, 2) := by decide +kernel
theorem dX9_copy_85 : decode cX9_copy 85 = .ok (.aload_n 0, 1) := by decide +kernel
theorem dX9_copy_86 : decode cX9_copy 86 = .ok (.getfield 97, 3) := by decide +kernel
theorem dX9_copy_89 : decode cX9_copy 89 = .ok (.iload_n 3, 1) := by decide +kernel
theorem dX9_copy_90 : decode cX9_copy 90 = .ok (.iaload, 1) := by decide +kernel
theorem dX9_copy_91 : decode cX9_copy 91 = .ok (.iload 5, 2) := by decide +kernel
theorem dX9_copy_93 : decode cX9_copy 93 = .ok (.isub, 1) := by decide +kernel
theorem dX9_copy_94 : decode cX9_copy 94 = .ok (.if_icmp .le 6, 3) := by decide +kernel
theorem dX9_copy_97 : decode cX9_copy 97 = .ok (.bipush (-12), 2) := by decide +kernel
theorem dX9_copy_99 : decode cX9_copy 99 = .ok (.ireturn, 1) := by decide +kernel
theorem dX9_copy_100 : decode cX9_copy 100 = .ok (.iload_n 1, 1) := by decide +kernel
theorem dX9_copy_101 : decode cX9_copy 101 = .ok (.iload_n 3, 1) := by decide +kernel
theorem dX9_copy_102 : decode cX9_copy 102 = .ok (.if_icmp .ne 13, 3) := by decide +kernel
theorem dX9_copy_105 : decode cX9_copy 105 = .ok (.iload_n 2, 1) := by decide +kernel
theorem dX9_copy_106 : decode cX9_copy 106 = .ok (.iload 4, 2) := by decide +kernel
theorem dX9_copy_108 : decode cX9_copy 108 = .ok (.if_icmp .ge 7, 3) := by decide +kernel
theorem dX9_copy_111 : decode cX9_copy 111 = .ok (.iconst 1, 1) := by decide +kernel
theorem dX9_copy_112 : decode cX9_copy 112 = .ok (.goto 4, 3) := by decide +kernel
theorem dX9_copy_115 : decode cX9_copy 115 = .ok (.iconst 0, 1) := by decide +kernel
theorem dX9_copy_116 : decode cX9_copy 116 = .ok (.istore 6, 2) := by decide +kernel
theorem dX9_copy_118 : decode cX9_copy 118 = .ok (.iconst 0, 1) := by decide +kernel
theorem dX9_copy_119 : decode cX9_copy 119 = .ok (.istore 7, 2) := by decide +kernel
theorem dX9_copy_121 : decode cX9_copy 121 = .ok (.iload 7, 2) := by decide +kernel
theorem dX9_copy_123 : decode cX9_copy 123 = .ok (.iload 5, 2) := by decide +kernel
theorem dX9_copy_125 : decode cX9_copy 125 = .ok (.if_icmp .ge 57, 3) := by decide +kernel
theorem dX9_copy_128 : decode cX9_copy 128 = .ok (.iload 6, 2) := by decide +kernel
theorem dX9_copy_130 : decode cX9_copy 130 = .ok (.ifCond .eq 13, 3) := by decide +kernel
theorem dX9_copy_133 : decode cX9_copy 133 = .ok (.iload 5, 2) := by decide +kernel
theorem dX9_copy_135 : decode cX9_copy 135 = .ok (.iconst 1, 1) := by decide +kernel
theorem dX9_copy_136 : decode cX9_copy 136 = .ok (.isub, 1) := by decide +kernel
theorem dX9_copy_137 : decode cX9_copy 137 = .ok (.iload 7, 2) := by decide +kernel
theorem dX9_copy_139 : decode cX9_copy 139 = .ok (.isub, 1) := by decide +kernel
theorem dX9_copy_140 : decode cX9_copy 140 = .ok (.goto 5, 3) := by decide +kernel
theorem dX9_copy_143 : decode cX9_copy 143 = .ok (.iload 7, 2) := by decide +kernel
theorem dX9_copy_145 : decode cX9_copy 145 = .ok (.istore 8, 2) := by decide +kernel
theorem dX9_copy_147 : decode cX9_copy 147 = .ok (.aload_n 0, 1) := by decide +kernel
theorem dX9_copy_148 : decode cX9_copy 148 = .ok (.getfield 100, 3) := by decide +kernel
theorem dX9_copy_151 : decode cX9_copy 151 = .ok (.bipush 40, 2) := by decide +kernel
theorem dX9_copy_153 : decode cX9_copy 153 = .ok (.iload_n 3, 1) := by decide +kernel
theorem dX9_copy_154 : decode cX9_copy 154 = .ok (.imul, 1) := by decide +kernel
theorem dX9_copy_155 : decode cX9_copy 155 = .ok (.iload 4, 2) := by decide +kernel
theorem dX9_copy_157 : decode cX9_copy 157 = .ok (.iadd, 1) := by decide +kernel
theorem dX9_copy_158 : decode cX9_copy 158 = .ok (.iload 8, 2) := by decide +kernel
theorem dX9_copy_160 : decode cX9_copy 160 = .ok (.iadd, 1) := by decide +kernel
theorem dX9_copy_161 : decode cX9_copy 161 = .ok (.aload_n 0, 1) := by decide +kernel
theorem dX9_copy_162 : decode cX9_copy 162 = .ok (.getfield 100, 3) := by decide +kernel
theorem dX9_copy_165 : decode cX9_copy 165 = .ok (.bipush 40, 2) := by decide +kernel
theorem dX9_copy_167 : decode cX9_copy 167 = .ok (.iload_n 1, 1) := by decide +kernel
theorem dX9_copy_168 : decode cX9_copy 168 = .ok (.imul, 1) := by decide +kernel
theorem dX9_copy_169 : decode cX9_copy 169 = .ok (.iload_n 2, 1) := by decide +kernel
theorem dX9_copy_170 : decode cX9_copy 170 = .ok (.iadd, 1) := by decide +kernel
theorem dX9_copy_171 : decode cX9_copy 171 = .ok (.iload 8, 2) := by decide +kernel
theorem dX9_copy_173 : decode cX9_copy 173 = .ok (.iadd, 1) := by decide +kernel
theorem dX9_copy_174 : decode cX9_copy 174 = .ok (.iaload, 1) := by decide +kernel
theorem dX9_copy_175 : decode cX9_copy 175 = .ok (.iastore, 1) := by decide +kernel
theorem dX9_copy_176 : decode cX9_copy 176 = .ok (.iinc 7 1, 3) := by decide +kernel
theorem dX9_copy_179 : decode cX9_copy 179 = .ok (.goto (-58), 3) := by decide +kernel
theorem dX9_copy_182 : decode cX9_copy 182 = .ok (.iload 5, 2) := by decide +kernel
theorem dX9_copy_184 : decode cX9_copy 184 = .ok (.ireturn, 1) := by decide +kernel
theorem alM_29 {p : Program} {l : Launch} {e : Env} {R : Room} {s : State} {m : MethodId} {args : Array Value} {below : List Frame} {meth : Method} {c : Code} {H : Heap} {locs : List Loc} {cells slots : Nat} {Q : State → Prop} {cc : ByteArray} {pc nL : Nat} {ls : Array Slot} {rest : List Value} {ret : Option FieldType} {G : xG} {β N : Nat} {x : MS} {own : String} {i : Int32} (C : Cx p s m args meth c own cc nL ret (KK G)) (hw : MW β G N x H) (hin : ib i 160) (hd : decode cc pc = .ok (.iaload, 1)) (kk : W p l e R s m args below meth c H locs cells slots Q (F0 m (pc + 1) ls (.int (x.2.1 29 i.toNatClampNeg) :: rest))) : W p l e R s m args below meth c H locs cells slots Q (F0 m pc ls (.int i :: .ref (β + 29) :: rest)) :=
  va_iald C.1 C.2.1 C.K.1 (xP1 (hw.2 29 (by decide))) 0 0 rfl rfl hin hd kk
def BX9_copy_121 (q1 : Int32) (q2 : Int32) (q3 : Int32) (q4 : Int32) (q5 : Int32) (q6 : Bool) (lp : Int32 → MS → Option (MS)) (u7 : Int32) (x : MS) : Option (MS) := if q5 ≤ u7 then some x else Option.bind (if q6 = true then some ((q5 - 1) - u7) else some u7) fun v12 => if ib (((40 * q1) + q2) + v12) 160 then if ib (((40 * q3) + q4) + v12) 160 then lt (msA x 29 (((40 * q3) + q4) + v12).toNatClampNeg (x.2.1 29 (((40 * q1) + q2) + v12).toNatClampNeg)) fun x15 => lt (u7 + 1) fun v16 => lp v16 x15 else none else none
def LX9_copy_121 (q1 : Int32) (q2 : Int32) (q3 : Int32) (q4 : Int32) (q5 : Int32) (q6 : Bool) : Nat → Int32 → MS → Option (MS)
  | 0, _, _ => none
  | n + 1, u7, x => BX9_copy_121 q1 q2 q3 q4 q5 q6 (LX9_copy_121 q1 q2 q3 q4 q5 q6 n) u7 x
def fX9_copy (x : MS) (a1 : Int32) (a2 : Int32) (a3 : Int32) (a4 : Int32) (a5 : Int32) : Option (Int32 × MS) := Option.bind (fX9_isSheet a1) fun v1 => if v1 = true then Option.bind (fX9_isSheet a3) fun v3 => if v3 = true then if ib a1 4 then if (x.2.1 26 a1.toNatClampNeg) = 0 then some ((-11), x) else if ib a3 4 then if (x.2.1 26 a3.toNatClampNeg) = 0 then some ((-11), x) else if ib a1 4 then if ib a3 4 then if (x.2.1 27 a1.toNatClampNeg) = (x.2.1 27 a3.toNatClampNeg) then if a5 < 0 then some ((-12), x) else if a2 < 0 then some ((-12), x) else if a4 < 0 then some ((-12), x) else if ib a1 4 then if ((x.2.1 28 a1.toNatClampNeg) - a5) < a2 then some ((-12), x) else if ib a3 4 then if a4 ≤ ((x.2.1 28 a3.toNatClampNeg) - a5) then Option.bind (if a1 = a3 then if a4 ≤ a2 then some false else some true else some false) fun v11 => Option.bind (LX9_copy_121 a1 a2 a3 a4 a5 v11 NF 0 x) fun x17 => some (a5, x17) else some ((-12), x) else none else none else some ((-13), x) else none else none else none else none else some ((-2), x) else some ((-2), x)
set_option maxHeartbeats 4000000 in
set_option maxRecDepth 100000 in
theorem lX9_copy_121 {p : Program} {l : Launch} {e : Env} {R : Room} {s : State} {m : MethodId} {args : Array Value} {below : List Frame} {meth : Method} {c : Code} {cells slots : Nat} {Q : State → Prop} {G : xG} {β N : Nat} (C : Cx p s m args meth c RX9 cX9_copy 9 (some .int) (KK G)) (hRf : 2 ≤ R.frames) (hRl : 45 ≤ R.locals) (hcs : cells ≤ R.cells ∧ slots ≤ R.slots) (q1 : Int32) (q2 : Int32) (q3 : Int32) (q4 : Int32) (q5 : Int32) (q6 : Bool) : ∀ (n : Nat) (u7 : Int32) (x : MS) (J : MS) (H : Heap) (locs : List Loc) (ls : Array Slot), LX9_copy_121 q1 q2 q3 q4 q5 q6 n u7 x = some J → MW β G N x H → va_S (AM β) s.heap H locs → lv_has ls 9 [(0, .ref β), (1, .int q1), (2, .int q2), (3, .int q3), (4, .int q4), (5, .int q5), (6, .int (bI q6)), (7, .int u7)] → (∀ (x1 : MS), J = x1 → ∀ (H : Heap) (locs : List Loc) (ls : Array Slot), MW β G N x1 H → va_S (AM β) s.heap H locs → lv_has ls 9 [(5, .int q5)] → W p l e R s m args below meth c H locs cells slots Q (F0 m 182 ls [])) → W p l e R s m args below meth c H locs cells slots Q (F0 m 121 ls []) := by
  have hx := C.1
  have hb := C.2.1
  have ho := C.2.2.2.1
  have hts := C.2.2.2.2.1
  intro n
  induction n with
  | zero =>
    intro u7 x J H locs ls hm
    exact absurd hm (by simp [LX9_copy_121])
  | succ n ih =>
    intro u7 x J H locs ls hm hw hS hl ke
    replace hm : BX9_copy_121 q1 q2 q3 q4 q5 q6 (LX9_copy_121 q1 q2 q3 q4 q5 q6 n) u7 x = some J := hm
    unfold BX9_copy_121 at hm
    refine lv_iload hx hb dX9_copy_121 (lv_at hl 7 rfl) ?_
    refine lv_iload hx hb dX9_copy_123 (lv_at hl 5 rfl) ?_
    refine lv_icmp_ge (tgt := 182) hx hb dX9_copy_125 (by decide) (fun cc => ?_) (fun cc => ?_)
    · replace hm := ite_p cc hm
      exact ke _ (Option.some.inj hm).symm _ _ _ hw hS (lv_sub hl [5] rfl)
    · replace hm := ite_n cc hm
      refine lv_iload hx hb dX9_copy_128 (lv_at hl 6 rfl) ?_
      obtain ⟨v12, hj, hm⟩ := bind_e hm
      have kk : ∀ (H : Heap) (locs : List Loc) (ls : Array Slot), MW β G N x H → va_S (AM β) s.heap H locs → lv_has ls 9 [(0, .ref β), (1, .int q1), (2, .int q2), (3, .int q3), (4, .int q4), (5, .int q5), (6, .int (bI q6)), (7, .int u7)] → W p l e R s m args below meth c H locs cells slots Q (F0 m 145 ls [.int v12]) := by
        intro H locs ls hw hS hl
        refine lv_istore (lv' := [(8, .int v12), (0, .ref β), (1, .int q1), (2, .int q2), (3, .int q3), (4, .int q4), (5, .int q5), (6, .int (bI q6)), (7, .int u7)]) hx hb dX9_copy_145 hl (by decide) rfl (fun ls hl => ?_)
        refine lv_aload_n hx hb dX9_copy_147 rfl (lv_at hl 1 rfl) ?_
        refine gX9_100 C hw dX9_copy_148 ?_
        refine lv_bipush (v := 40) hx hb dX9_copy_151 (by decide) ?_
        refine lv_iload_n hx hb dX9_copy_153 rfl (lv_at hl 4 rfl) ?_
        refine lv_imul hx hb dX9_copy_154 ?_
        refine lv_iload hx hb dX9_copy_155 (lv_at hl 5 rfl) ?_
        refine lv_iadd hx hb dX9_copy_157 ?_
        refine lv_iload hx hb dX9_copy_158 (lv_at hl 0 rfl) ?_
        refine lv_iadd hx hb dX9_copy_160 ?_
        refine lv_aload_n hx hb dX9_copy_161 rfl (lv_at hl 1 rfl) ?_
        refine gX9_100 C hw dX9_copy_162 ?_
        refine lv_bipush (v := 40) hx hb dX9_copy_165 (by decide) ?_
        refine lv_iload_n hx hb dX9_copy_167 rfl (lv_at hl 2 rfl) ?_
        refine lv_imul hx hb dX9_copy_168 ?_
        refine lv_iload_n hx hb dX9_copy_169 rfl (lv_at hl 3 rfl) ?_
        refine lv_iadd hx hb dX9_copy_170 ?_
        refine lv_iload hx hb dX9_copy_171 (lv_at hl 0 rfl) ?_
        refine lv_iadd hx hb dX9_copy_173 ?_
        obtain ⟨h13, hm⟩ := chk_e hm
        refine alM_29 C hw h13 dX9_copy_174 ?_
        obtain ⟨h14, hm⟩ := chk_e hm
        refine asM_29 C hw hS h14 dX9_copy_175 (fun H locs hw hS => ?_)
        obtain ⟨x15, ev, hm⟩ := lt_e hm
        rw [← ev] at hw
        clear ev
        obtain ⟨v16, ev, hm⟩ := lt_e hm
        refine lv_iinc (v := v16) (lv' := [(7, .int v16), (8, .int v12), (0, .ref β), (1, .int q1), (2, .int q2), (3, .int q3), (4, .int q4), (5, .int q5), (6, .int (bI q6))]) hx hb dX9_copy_176 hl (k := 8) rfl (by rw [ev]; rfl) (by decide) rfl (fun ls hl => ?_)
        clear ev
        refine lv_goto (tgt := 121) hx hb dX9_copy_179 (by decide) ?_
        exact ih _ _ _ _ _ _ hm hw hS (lv_sub hl [2, 3, 4, 5, 6, 7, 8, 0] rfl) ke
      clear hm
      replace hm := hj
      clear hj
      refine x_ifeqB hx hb dX9_copy_130 (tgt := 143) (by decide) (fun cc => ?_) (fun cc => ?_)
      · replace hm := ite_n cc hm
        refine lv_iload hx hb dX9_copy_143 (lv_at hl 7 rfl) ?_
        obtain rfl := Option.some.inj hm
        exact kk _ _ _ hw hS (lv_sub hl [0, 1, 2, 3, 4, 5, 6, 7] rfl)
      · replace hm := ite_p cc hm
        refine lv_iload hx hb dX9_copy_133 (lv_at hl 5 rfl) ?_
        refine lv_iconst (v := 1) hx hb dX9_copy_135 (by decide) ?_
        refine lv_isub hx hb dX9_copy_136 ?_
        refine lv_iload hx hb dX9_copy_137 (lv_at hl 7 rfl) ?_
        refine lv_isub hx hb dX9_copy_139 ?_
        refine lv_goto (tgt := 145) hx hb dX9_copy_140 (by decide) ?_
        obtain rfl := Option.some.inj hm
        exact kk _ _ _ hw hS (lv_sub hl [0, 1, 2, 3, 4, 5, 6, 7] rfl)
abbrev rmX9_copy : Room := { frames := 2, cells := 0, slots := 0, locals := 45 }
set_option maxHeartbeats 4000000 in
set_option maxRecDepth 100000 in
theorem kX9_copy {l : Launch} {G : xG} {β N : Nat} {x x' : MS} {a1 : Int32} {a2 : Int32} {a3 : Int32} {a4 : Int32} {a5 : Int32} {r : Int32} (hm : fX9_copy x a1 a2 a3 a4 a5 = some (r, x')) : Met l yX9_copy (.code yX9_copy cX9_copy 9 (some .int) :: GT) rmX9_copy (PcW [.ref β, .int a1, .int a2, .int a3, .int a4, .int a5] (MW β G N x) (KK G)) (QcW (AM β) (some (.int r)) (MW β G N x')) 0 0 (AM β) := by
  unfold fX9_copy at hm
  refine xpro (own := RX9) (by decide +kernel) rfl (Nat.le_of_ble_eq_true rfl) ?_
  intro p e s m args below meth c C hw ls hl
  have hx := C.1
  have hb := C.2.1
  have ho := C.2.2.2.1
  have hts := C.2.2.2.2.1
  have hS : va_S (AM β) s.heap s.heap [] := va_S.rf
  have hl : lv_has ls 9 [(0, .ref β), (1, .int a1), (2, .int a2), (3, .int a3), (4, .int a4), (5, .int a5)] := hl
  have hRf : 2 ≤ rmX9_copy.frames := Nat.le_refl _
  have hRl : 45 ≤ rmX9_copy.locals := Nat.le_refl _
  have hcs : 0 ≤ rmX9_copy.cells ∧ 0 ≤ rmX9_copy.slots := ⟨Nat.le_refl _, Nat.le_refl _⟩
  refine lv_iload_n hx hb dX9_copy_0 rfl (lv_at hl 1 rfl) ?_
  obtain ⟨v1, h2, hm⟩ := bind_e hm
  refine sX9_444 C h2 hw hS hl.1 (Nat.le_of_ble_eq_true rfl) (Nat.le_trans (Nat.le_of_ble_eq_true rfl) hRf) (Nat.le_trans (Nat.le_of_ble_eq_true rfl) hRl) hcs dX9_copy_1 (fun H locs hw hS => ?_)
  refine x_ifeqB hx hb dX9_copy_4 (tgt := 14) (by decide) (fun cc => ?_) (fun cc => ?_)
  · replace hm := ite_n cc hm
    refine lv_bipush (v := (-2)) hx hb dX9_copy_14 (by decide) ?_
    obtain ⟨rfl, rfl⟩ := inj2 hm
    exact xret_i C hw hS dX9_copy_16
  · replace hm := ite_p cc hm
    refine lv_iload_n hx hb dX9_copy_7 rfl (lv_at hl 3 rfl) ?_
    obtain ⟨v3, h4, hm⟩ := bind_e hm
    refine sX9_444 C h4 hw hS hl.1 (Nat.le_of_ble_eq_true rfl) (Nat.le_trans (Nat.le_of_ble_eq_true rfl) hRf) (Nat.le_trans (Nat.le_of_ble_eq_true rfl) hRl) hcs dX9_copy_8 (fun H locs hw hS => ?_)
    refine x_ifneB hx hb dX9_copy_11 (tgt := 17) (by decide) (fun cc => ?_) (fun cc => ?_)
    · replace hm := ite_p cc hm
      refine lv_aload_n hx hb dX9_copy_17 rfl (lv_at hl 0 rfl) ?_
      refine gX9_90 C hw dX9_copy_18 ?_
      refine lv_iload_n hx hb dX9_copy_21 rfl (lv_at hl 1 rfl) ?_
      obtain ⟨h5, hm⟩ := chk_e hm
      refine alM_26 C hw h5 dX9_copy_22 ?_
      refine lv_if_eq (tgt := 35) hx hb dX9_copy_23 (by decide) (fun cc => ?_) (fun cc => ?_)
      · replace hm := ite_p cc hm
        refine lv_bipush (v := (-11)) hx hb dX9_copy_35 (by decide) ?_
        obtain ⟨rfl, rfl⟩ := inj2 hm
        exact xret_i C hw hS dX9_copy_37
      · replace hm := ite_n cc hm
        refine lv_aload_n hx hb dX9_copy_26 rfl (lv_at hl 0 rfl) ?_
        refine gX9_90 C hw dX9_copy_27 ?_
        refine lv_iload_n hx hb dX9_copy_30 rfl (lv_at hl 3 rfl) ?_
        obtain ⟨h6, hm⟩ := chk_e hm
        refine alM_26 C hw h6 dX9_copy_31 ?_
        refine lv_if_ne (tgt := 38) hx hb dX9_copy_32 (by decide) (fun cc => ?_) (fun cc => ?_)
        · replace hm := ite_n cc hm
          refine lv_aload_n hx hb dX9_copy_38 rfl (lv_at hl 0 rfl) ?_
          refine gX9_94 C hw dX9_copy_39 ?_
          refine lv_iload_n hx hb dX9_copy_42 rfl (lv_at hl 1 rfl) ?_
          obtain ⟨h7, hm⟩ := chk_e hm
          refine alM_27 C hw h7 dX9_copy_43 ?_
          refine lv_aload_n hx hb dX9_copy_44 rfl (lv_at hl 0 rfl) ?_
          refine gX9_94 C hw dX9_copy_45 ?_
          refine lv_iload_n hx hb dX9_copy_48 rfl (lv_at hl 3 rfl) ?_
          obtain ⟨h8, hm⟩ := chk_e hm
          refine alM_27 C hw h8 dX9_copy_49 ?_
          refine lv_icmp_eq (tgt := 56) hx hb dX9_copy_50 (by decide) (fun cc => ?_) (fun cc => ?_)
          · replace hm := ite_p cc hm
            refine lv_iload hx hb dX9_copy_56 (lv_at hl 5 rfl) ?_
            refine lv_if_lt (tgt := 97) hx hb dX9_copy_58 (by decide) (fun cc => ?_) (fun cc => ?_)
            · replace hm := ite_p cc hm
              refine lv_bipush (v := (-12)) hx hb dX9_copy_97 (by decide) ?_
              obtain ⟨rfl, rfl⟩ := inj2 hm
              exact xret_i C hw hS dX9_copy_99
            · replace hm := ite_n cc hm
              refine lv_iload_n hx hb dX9_copy_61 rfl (lv_at hl 2 rfl) ?_
              refine lv_if_lt (tgt := 97) hx hb dX9_copy_62 (by decide) (fun cc => ?_) (fun cc => ?_)
              · replace hm := ite_p cc hm
                refine lv_bipush (v := (-12)) hx hb dX9_copy_97 (by decide) ?_
                obtain ⟨rfl, rfl⟩ := inj2 hm
                exact xret_i C hw hS dX9_copy_99
              · replace hm := ite_n cc hm
                refine lv_iload hx hb dX9_copy_65 (lv_at hl 4 rfl) ?_
                refine lv_if_lt (tgt := 97) hx hb dX9_copy_67 (by decide) (fun cc => ?_) (fun cc => ?_)
                · replace hm := ite_p cc hm
                  refine lv_bipush (v := (-12)) hx hb dX9_copy_97 (by decide) ?_
                  obtain ⟨rfl, rfl⟩ := inj2 hm
                  exact xret_i C hw hS dX9_copy_99
                · replace hm := ite_n cc hm
                  refine lv_iload_n hx hb dX9_copy_70 rfl (lv_at hl 2 rfl) ?_
                  refine lv_aload_n hx hb dX9_copy_71 rfl (lv_at hl 0 rfl) ?_
                  refine gX9_97 C hw dX9_copy_72 ?_
                  refine lv_iload_n hx hb dX9_copy_75 rfl (lv_at hl 1 rfl) ?_
                  obtain ⟨h9, hm⟩ := chk_e hm
                  refine alM_28 C hw h9 dX9_copy_76 ?_
                  refine lv_iload hx hb dX9_copy_77 (lv_at hl 5 rfl) ?_
                  refine lv_isub hx hb dX9_copy_79 ?_
                  refine lv_icmp_gt (tgt := 97) hx hb dX9_copy_80 (by decide) (fun cc => ?_) (fun cc => ?_)
                  · replace hm := ite_p cc hm
                    refine lv_bipush (v := (-12)) hx hb dX9_copy_97 (by decide) ?_
                    obtain ⟨rfl, rfl⟩ := inj2 hm
                    exact xret_i C hw hS dX9_copy_99
                  · replace hm := ite_n cc hm
                    refine lv_iload hx hb dX9_copy_83 (lv_at hl 4 rfl) ?_
                    refine lv_aload_n hx hb dX9_copy_85 rfl (lv_at hl 0 rfl) ?_
                    refine gX9_97 C hw dX9_copy_86 ?_
                    refine lv_iload_n hx hb dX9_copy_89 rfl (lv_at hl 3 rfl) ?_
                    obtain ⟨h10, hm⟩ := chk_e hm
                    refine alM_28 C hw h10 dX9_copy_90 ?_
                    refine lv_iload hx hb dX9_copy_91 (lv_at hl 5 rfl) ?_
                    refine lv_isub hx hb dX9_copy_93 ?_
                    refine lv_icmp_le (tgt := 100) hx hb dX9_copy_94 (by decide) (fun cc => ?_) (fun cc => ?_)
                    · replace hm := ite_p cc hm
                      refine lv_iload_n hx hb dX9_copy_100 rfl (lv_at hl 1 rfl) ?_
                      refine lv_iload_n hx hb dX9_copy_101 rfl (lv_at hl 3 rfl) ?_
                      obtain ⟨v11, hj, hm⟩ := bind_e hm
                      have kk : ∀ (H : Heap) (locs : List Loc) (ls : Array Slot), MW β G N x H → va_S (AM β) s.heap H locs → lv_has ls 9 [(0, .ref β), (1, .int a1), (2, .int a2), (3, .int a3), (4, .int a4), (5, .int a5)] → W p l e rmX9_copy s m args below meth c H locs 0 0 (MQ below (QcW (AM β) (some (.int r)) (MW β G N x')) args s 0 0 (AM β)) (F0 m 116 ls [.int (bI v11)]) := by
                        intro H locs ls hw hS hl
                        refine lv_istore (lv' := [(6, .int (bI v11)), (0, .ref β), (1, .int a1), (2, .int a2), (3, .int a3), (4, .int a4), (5, .int a5)]) hx hb dX9_copy_116 hl (by decide) rfl (fun ls hl => ?_)
                        refine lv_iconst (v := 0) hx hb dX9_copy_118 (by decide) ?_
                        refine lv_istore (lv' := [(7, .int 0), (6, .int (bI v11)), (0, .ref β), (1, .int a1), (2, .int a2), (3, .int a3), (4, .int a4), (5, .int a5)]) hx hb dX9_copy_119 hl (by decide) rfl (fun ls hl => ?_)
                        obtain ⟨x17, hj, hm⟩ := bind_e hm
                        refine lX9_copy_121 C hRf hRl hcs a1 a2 a3 a4 a5 v11 NF _ _ _ _ _ _ hj hw hS (lv_sub hl [2, 3, 4, 5, 6, 7, 1, 0] rfl) (fun x17_ e0 H locs ls hw hS hl => ?_)
                        cases e0
                        refine lv_iload hx hb dX9_copy_182 (lv_at hl 0 rfl) ?_
                        obtain ⟨rfl, rfl⟩ := inj2 hm
                        exact xret_i C hw hS dX9_copy_184
                      clear hm
                      replace hm := hj
                      clear hj
                      refine lv_icmp_ne (tgt := 115) hx hb dX9_copy_102 (by decide) (fun cc => ?_) (fun cc => ?_)
                      · replace hm := ite_n cc hm
                        refine lv_iconst (v := 0) hx hb dX9_copy_115 (by decide) ?_
                        obtain rfl := Option.some.inj hm
                        exact kk _ _ _ hw hS (lv_sub hl [0, 1, 2, 3, 4, 5] rfl)
                      · replace hm := ite_p cc hm
                        refine lv_iload_n hx hb dX9_copy_105 rfl (lv_at hl 2 rfl) ?_
                        refine lv_iload hx hb dX9_copy_106 (lv_at hl 4 rfl) ?_
                        refine lv_icmp_ge (tgt := 115) hx hb dX9_copy_108 (by decide) (fun cc => ?_) (fun cc => ?_)
                        · replace hm := ite_p cc hm
                          refine lv_iconst (v := 0) hx hb dX9_copy_115 (by decide) ?_
                          obtain rfl := Option.some.inj hm
                          exact kk _ _ _ hw hS (lv_sub hl [0, 1, 2, 3, 4, 5] rfl)
                        · replace hm := ite_n cc hm
                          refine lv_iconst (v := 1) hx hb dX9_copy_111 (by decide) ?_
                          refine lv_goto (tgt := 116) hx hb dX9_copy_112 (by decide) ?_
                          obtain rfl := Option.some.inj hm
                          exact kk _ _ _ hw hS (lv_sub hl [0, 1, 2, 3, 4, 5] rfl)
                    · replace hm := ite_n cc hm
                      refine lv_bipush (v := (-12)) hx hb dX9_copy_97 (by decide) ?_
                      obtain ⟨rfl, rfl⟩ := inj2 hm
                      exact xret_i C hw hS dX9_copy_99
          · replace hm := ite_n cc hm
            refine lv_bipush (v := (-13)) hx hb dX9_copy_53 (by decide) ?_
            obtain ⟨rfl, rfl⟩ := inj2 hm
            exact xret_i C hw hS dX9_copy_55
        · replace hm := ite_p cc hm
          refine lv_bipush (v := (-11)) hx hb dX9_copy_35 (by decide) ?_
          obtain ⟨rfl, rfl⟩ := inj2 hm
          exact xret_i C hw hS dX9_copy_37
    · replace hm := ite_n cc hm
      refine lv_bipush (v := (-2)) hx hb dX9_copy_14 (by decide) ?_
      obtain ⟨rfl, rfl⟩ := inj2 hm
      exact xret_i C hw hS dX9_copy_16
theorem dX9_horses_0 : decode cX9_horses 0 = .ok (.iload_n 1, 1) := by decide +kernel
theorem dX9_horses_1 : decode cX9_horses 1 = .ok (.invokestatic 444, 3) := by decide +kernel
theorem dX9_horses_4 : decode cX9_horses 4 = .ok (.ifCond .eq 28, 3) := by decide +kernel
theorem dX9_horses_7 : decode cX9_horses 7 = .ok (.iload_n 2, 1) := by decide +kernel
theorem dX9_horses_8 : decode cX9_horses 8 = .ok (.i2l, 1) := by decide +kernel
theorem dX9_horses_9 : decode cX9_horses 9 = .ok (.lconst 0, 1) := by decide +kernel
theorem dX9_horses_10 : decode cX9_horses 10 = .ok (.ldc2_w 150, 3) := by decide +kernel
theorem dX9_horses_13 : decode cX9_horses 13 = .ok (.invokestatic 132, 3) := by decide +kernel
theorem dX9_horses_16 : decode cX9_horses 16 = .ok (.ifCond .eq 16, 3) := by decide +kernel
theorem dX9_horses_19 : decode cX9_horses 19 = .ok (.iload 4, 2) := by decide +kernel
theorem dX9_horses_21 : decode cX9_horses 21 = .ok (.i2l, 1) := by decide +kernel
theorem dX9_horses_22 : decode cX9_horses 22 = .ok (.lconst 0, 1) := by decide +kernel
theorem dX9_horses_23 : decode cX9_horses 23 = .ok (.ldc2_w 307, 3) := by decide +kernel
theorem dX9_horses_26 : decode cX9_horses 26 = .ok (.invokestatic 132, 3) := by decide +kernel
theorem dX9_horses_29 : decode cX9_horses 29 = .ok (.ifCond .ne 6, 3) := by decide +kernel
theorem dX9_horses_32 : decode cX9_horses 32 = .ok (.bipush (-2), 2) := by decide +kernel
theorem dX9_horses_34 : decode cX9_horses 34 = .ok (.ireturn, 1) := by decide +kernel
theorem dX9_horses_35 : decode cX9_horses 35 = .ok (.aload_n 0, 1) := by decide +kernel
theorem dX9_horses_36 : decode cX9_horses 36 = .ok (.getfield 90, 3) := by decide +kernel
theorem dX9_horses_39 : decode cX9_horses 39 = .ok (.iload_n 1, 1) := by decide +kernel
theorem dX9_horses_40 : decode cX9_horses 40 = .ok (.baload, 1) := by decide +kernel
theorem dX9_horses_41 : decode cX9_horses 41 = .ok (.ifCond .eq 16, 3) := by decide +kernel
theorem dX9_horses_44 : decode cX9_horses 44 = .ok (.aload_n 0, 1) := by decide +kernel
theorem dX9_horses_45 : decode cX9_horses 45 = .ok (.getfield 94, 3) := by decide +kernel
theorem dX9_horses_48 : decode cX9_horses 48 = .ok (.iload_n 1, 1) := by decide +kernel
theorem dX9_horses_49 : decode cX9_horses 49 = .ok (.iaload, 1) := by decide +kernel
theorem dX9_horses_50 : decode cX9_horses 50 = .ok (.iload_n 2, 1) := by decide +kernel
theorem dX9_horses_51 : decode cX9_horses 51 = .ok (.if_icmp .eq 6, 3) := by decide +kernel
theorem dX9_horses_54 : decode cX9_horses 54 = .ok (.bipush (-13), 2) := by decide +kernel
theorem dX9_horses_56 : decode cX9_horses 56 = .ok (.ireturn, 1) := by decide +kernel
theorem dX9_horses_57 : decode cX9_horses 57 = .ok (.aload_n 0, 1) := by decide +kernel
theorem dX9_horses_58 : decode cX9_horses 58 = .ok (.getfield 90, 3) := by decide +kernel
theorem dX9_horses_61 : decode cX9_horses 61 = .ok (.iload_n 1, 1) := by decide +kernel
theorem dX9_horses_62 : decode cX9_horses 62 = .ok (.baload, 1) := by decide +kernel
theorem dX9_horses_63 : decode cX9_horses 63 = .ok (.ifCond .ne 6, 3) := by decide +kernel
theorem dX9_horses_66 : decode cX9_horses 66 = .ok (.bipush (-11), 2) := by decide +kernel
theorem dX9_horses_68 : decode cX9_horses 68 = .ok (.ireturn, 1) := by decide +kernel
theorem dX9_horses_69 : decode cX9_horses 69 = .ok (.iconst 0, 1) := by decide +kernel
theorem dX9_horses_70 : decode cX9_horses 70 = .ok (.istore 5, 2) := by decide +kernel
theorem dX9_horses_72 : decode cX9_horses 72 = .ok (.iconst 0, 1) := by decide +kernel
theorem dX9_horses_73 : decode cX9_horses 73 = .ok (.istore 6, 2) := by decide +kernel
theorem dX9_horses_75 : decode cX9_horses 75 = .ok (.iload 6, 2) := by decide +kernel
theorem dX9_horses_77 : decode cX9_horses 77 = .ok (.iload 4, 2) := by decide +kernel
theorem dX9_horses_79 : decode cX9_horses 79 = .ok (.if_icmp .ge 88, 3) := by decide +kernel
theorem dX9_horses_82 : decode cX9_horses 82 = .ok (.iload_n 3, 1) := by decide +kernel
theorem dX9_horses_83 : decode cX9_horses 83 = .ok (.ifCond .lt 20, 3) := by decide +kernel
theorem dX9_horses_86 : decode cX9_horses 86 = .ok (.iload_n 3, 1) := by decide +kernel
theorem dX9_horses_87 : decode cX9_horses 87 = .ok (.aload_n 0, 1) := by decide +kernel
theorem dX9_horses_88 : decode cX9_horses 88 = .ok (.getfield 97, 3) := by decide +kernel
theorem dX9_horses_91 : decode cX9_horses 91 = .ok (.iload_n 1, 1) := by decide +kernel
theorem dX9_horses_92 : decode cX9_horses 92 = .ok (.iaload, 1) := by decide +kernel
theorem dX9_horses_93 : decode cX9_horses 93 = .ok (.iconst 3, 1) := by decide +kernel
theorem dX9_horses_94 : decode cX9_horses 94 = .ok (.iload 6, 2) := by decide +kernel
theorem dX9_horses_96 : decode cX9_horses 96 = .ok (.imul, 1) := by decide +kernel
theorem dX9_horses_97 : decode cX9_horses 97 = .ok (.isub, 1) := by decide +kernel
theorem dX9_horses_98 : decode cX9_horses 98 = .ok (.iconst 3, 1) := by decide +kernel
theorem dX9_horses_99 : decode cX9_horses 99 = .ok (.isub, 1) := by decide +kernel
theorem dX9_horses_100 : decode cX9_horses 100 = .ok (.if_icmp .le 6, 3) := by decide +kernel
theorem dX9_horses_103 : decode cX9_horses 103 = .ok (.bipush (-12), 2) := by decide +kernel
theorem dX9_horses_105 : decode cX9_horses 105 = .ok (.ireturn, 1) := by decide +kernel
theorem dX9_horses_106 : decode cX9_horses 106 = .ok (.bipush 40, 2) := by decide +kernel
theorem dX9_horses_108 : decode cX9_horses 108 = .ok (.iload_n 1, 1) := by decide +kernel
theorem dX9_horses_109 : decode cX9_horses 109 = .ok (.imul, 1) := by decide +kernel
theorem dX9_horses_110 : decode cX9_horses 110 = .ok (.iload_n 3, 1) := by decide +kernel
theorem dX9_horses_111 : decode cX9_horses 111 = .ok (.iadd, 1) := by decide +kernel
theorem dX9_horses_112 : decode cX9_horses 112 = .ok (.iconst 3, 1) := by decide +kernel
theorem dX9_horses_113 : decode cX9_horses 113 = .ok (.iload 6, 2) := by decide +kernel
theorem dX9_horses_115 : decode cX9_horses 115 = .ok (.imul, 1) := by decide +kernel
theorem dX9_horses_116 : decode cX9_horses 116 = .ok (.iadd, 1) := by decide +kernel
theorem dX9_horses_117 : decode cX9_horses 117 = .ok (.istore 7, 2) := by decide +kernel
theorem dX9_horses_119 : decode cX9_horses 119 = .ok (.iload 5, 2) := by decide +kernel
theorem dX9_horses_121 : decode cX9_horses 121 = .ok (.aload_n 0, 1) := by decide +kernel
theorem dX9_horses_122 : decode cX9_horses 122 = .ok (.aload_n 0, 1) := by decide +kernel
theorem dX9_horses_123 : decode cX9_horses 123 = .ok (.getfield 100, 3) := by decide +kernel
theorem dX9_horses_126 : decode cX9_horses 126 = .ok (.iload 7, 2) := by decide +kernel
theorem dX9_horses_128 : decode cX9_horses 128 = .ok (.iaload, 1) := by decide +kernel
theorem dX9_horses_129 : decode cX9_horses 129 = .ok (.aload_n 0, 1) := by decide +kernel
theorem dX9_horses_130 : decode cX9_horses 130 = .ok (.getfield 100, 3) := by decide +kernel
theorem dX9_horses_133 : decode cX9_horses 133 = .ok (.iload 7, 2) := by decide +kernel
theorem dX9_horses_135 : decode cX9_horses 135 = .ok (.iconst 1, 1) := by decide +kernel
theorem dX9_horses_136 : decode cX9_horses 136 = .ok (.iadd, 1) := by decide +kernel
theorem dX9_horses_137 : decode cX9_horses 137 = .ok (.iaload, 1) := by decide +kernel
theorem dX9_horses_138 : decode cX9_horses 138 = .ok (.aload_n 0, 1) := by decide +kernel
theorem dX9_horses_139 : decode cX9_horses 139 = .ok (.getfield 100, 3) := by decide +kernel
theorem dX9_horses_142 : decode cX9_horses 142 = .ok (.iload 7, 2) := by decide +kernel
theorem dX9_horses_144 : decode cX9_horses 144 = .ok (.iconst 2, 1) := by decide +kernel
theorem dX9_horses_145 : decode cX9_horses 145 = .ok (.iadd, 1) := by decide +kernel
theorem dX9_horses_146 : decode cX9_horses 146 = .ok (.iaload, 1) := by decide +kernel
theorem dX9_horses_147 : decode cX9_horses 147 = .ok (.invokevirtual 447, 3) := by decide +kernel
theorem dX9_horses_150 : decode cX9_horses 150 = .ok (.ifCond .lt 7, 3) := by decide +kernel
theorem dX9_horses_153 : decode cX9_horses 153 = .ok (.iconst 1, 1) := by decide +kernel
theorem dX9_horses_154 : decode cX9_horses 154 = .ok (.goto 4, 3) := by decide +kernel
theorem dX9_horses_157 : decode cX9_horses 157 = .ok (.iconst 0, 1) := by decide +kernel
theorem dX9_horses_158 : decode cX9_horses 158 = .ok (.iadd, 1) := by decide +kernel
theorem dX9_horses_159 : decode cX9_horses 159 = .ok (.istore 5, 2) := by decide +kernel
theorem dX9_horses_161 : decode cX9_horses 161 = .ok (.iinc 6 1, 3) := by decide +kernel
theorem dX9_horses_164 : decode cX9_horses 164 = .ok (.goto (-89), 3) := by decide +kernel
theorem dX9_horses_167 : decode cX9_horses 167 = .ok (.iload 5, 2) := by decide +kernel
theorem dX9_horses_169 : decode cX9_horses 169 = .ok (.ireturn, 1) := by decide +kernel
theorem sX9_447 {p : Program} {l : Launch} {e : Env} {R : Room} {s : State} {m : MethodId} {args : Array Value} {below : List Frame} {meth : Method} {c : Code} {H : Heap} {locs : List Loc} {cells slots : Nat} {Q : State → Prop} {cc : ByteArray} {pc nL : Nat} {ls : Array Slot} {rest : List Value} {ret : Option FieldType} {G : xG} {β N : Nat} {x x' : MS} {a1 : Int32} {a2 : Int32} {a3 : Int32} {r : Int32} (C : Cx p s m args meth c RX9 cc nL ret (KK G)) (h : fX9_horse x a1 a2 a3 = some (r, x')) (hw : MW β G N x H) (hS : va_S (AM β) s.heap H locs) (hsz : ls.size = nL) (hW : (rest.map fun v => v.category).sum ≤ 8) (hR : 2 ≤ R.frames) (hR2 : 48 ≤ R.locals) (hcs : cells ≤ R.cells ∧ slots ≤ R.slots) (hd : decode cc pc = .ok (.invokevirtual 447, 3)) (kk : ∀ (H1 : Heap) (locs1 : List Loc), MW β G N x' H1 → va_S (AM β) s.heap H1 locs1 → W p l e R s m args below meth c H1 locs1 cells slots Q (F0 m (pc + 3) ls (.int r :: rest))) : W p l e R s m args below meth c H locs cells slots Q (F0 m pc ls (.int a3 :: .int a2 :: .int a1 :: .ref β :: rest)) :=
  xcallV C (As := [.int a1, .int a2, .int a3]) (rest := rest) (nA := 3) (ci := 9) (kX9_horse h) (tg 1429 (by decide +kernel) rfl) (tg 1091 (by decide +kernel) rfl) (tg 1092 (by decide +kernel) rfl) (tg 14 (by decide +kernel) rfl) (tg 1093 (by decide +kernel) rfl) ⟨rfl, by decide +kernel, by decide +kernel, by decide +kernel⟩ rfl rfl rfl ⟨hR, hR2⟩ (hw.2 0 (by decide)) hw hS (fun _ q => q) rfl rfl hsz hW hd hcs (fun H1 locs1 hw hz hk hS => kk H1 locs1 hw hS)
def BX9_horses_75 (q1 : Int32) (q3 : Int32) (q4 : Int32) (lp : Int32 → Int32 → MS → Option ((Int32 × MS) ⊕ (Int32 × MS))) (u5 : Int32) (u6 : Int32) (x : MS) : Option ((Int32 × MS) ⊕ (Int32 × MS)) := if q4 ≤ u6 then some (.inr (u5, x)) else if q3 < 0 then some (.inl ((-12), x)) else if ib q1 4 then if q3 ≤ (((x.2.1 28 q1.toNatClampNeg) - (3 * u6)) - 3) then lt (((40 * q1) + q3) + (3 * u6)) fun v10 => if ib v10 160 then if ib (v10 + 1) 160 then if ib (v10 + 2) 160 then bind2 (fX9_horse x (x.2.1 29 v10.toNatClampNeg) (x.2.1 29 (v10 + 1).toNatClampNeg) (x.2.1 29 (v10 + 2).toNatClampNeg)) fun v14 x15 => if v14 < 0 then lt (u5 + 0) fun v17 => lt (u6 + 1) fun v18 => lp v17 v18 x15 else lt (u5 + 1) fun v19 => lt (u6 + 1) fun v20 => lp v19 v20 x15 else none else none else none else some (.inl ((-12), x)) else none
def LX9_horses_75 (q1 : Int32) (q3 : Int32) (q4 : Int32) : Nat → Int32 → Int32 → MS → Option ((Int32 × MS) ⊕ (Int32 × MS))
  | 0, _, _, _ => none
  | n + 1, u5, u6, x => BX9_horses_75 q1 q3 q4 (LX9_horses_75 q1 q3 q4 n) u5 u6 x
def fX9_horses (x : MS) (a1 : Int32) (a2 : Int32) (a3 : Int32) (a4 : Int32) : Option (Int32 × MS) := Option.bind (fX9_isSheet a1) fun v1 => if v1 = true then Option.bind (fX9_in (a2.toInt64) 0 2) fun v3 => if v3 = true then Option.bind (fX9_in (a4.toInt64) 0 10) fun v5 => if v5 = true then if ib a1 4 then if (x.2.1 26 a1.toNatClampNeg) = 0 then if ib a1 4 then if (x.2.1 26 a1.toNatClampNeg) = 0 then some ((-11), x) else bs (LX9_horses_75 a1 a3 a4 NF 0 0 x) (fun a => some a) (fun b => bind2 (some b) fun v21 x22 => some (v21, x22)) else none else if ib a1 4 then if (x.2.1 27 a1.toNatClampNeg) = a2 then if ib a1 4 then if (x.2.1 26 a1.toNatClampNeg) = 0 then some ((-11), x) else bs (LX9_horses_75 a1 a3 a4 NF 0 0 x) (fun a => some a) (fun b => bind2 (some b) fun v37 x38 => some (v37, x38)) else none else some ((-13), x) else none else none else some ((-2), x) else some ((-2), x) else some ((-2), x)
set_option maxHeartbeats 4000000 in
set_option maxRecDepth 100000 in
theorem lX9_horses_75 {p : Program} {l : Launch} {e : Env} {R : Room} {s : State} {m : MethodId} {args : Array Value} {below : List Frame} {meth : Method} {c : Code} {cells slots : Nat} {Q : State → Prop} {G : xG} {β N : Nat} (C : Cx p s m args meth c RX9 cX9_horses 8 (some .int) (KK G)) (hRf : 2 ≤ R.frames) (hRl : 48 ≤ R.locals) (hcs : cells ≤ R.cells ∧ slots ≤ R.slots) (q1 : Int32) (q3 : Int32) (q4 : Int32) : ∀ (n : Nat) (u5 : Int32) (u6 : Int32) (x : MS) (J : (Int32 × MS) ⊕ (Int32 × MS)) (H : Heap) (locs : List Loc) (ls : Array Slot), LX9_horses_75 q1 q3 q4 n u5 u6 x = some J → MW β G N x H → va_S (AM β) s.heap H locs → lv_has ls 8 [(0, .ref β), (1, .int q1), (3, .int q3), (4, .int q4), (5, .int u5), (6, .int u6)] → (∀ (w5 : Int32) (x1 : MS), J = .inr (w5, x1) → ∀ (H : Heap) (locs : List Loc) (ls : Array Slot), MW β G N x1 H → va_S (AM β) s.heap H locs → lv_has ls 8 [(5, .int w5)] → W p l e R s m args below meth c H locs cells slots Q (F0 m 167 ls [])) → (∀ (rv : Int32) (x1 : MS), J = .inl (rv, x1) → ∀ (H : Heap) (locs : List Loc) (ls : Array Slot), MW β G N x1 H → va_S (AM β) s.heap H locs → W p l e R s m args below meth c H locs cells slots Q (F0 m 105 ls [.int rv])) → W p l e R s m args below meth c H locs cells slots Q (F0 m 75 ls []) := by
  have hx := C.1
  have hb := C.2.1
  have ho := C.2.2.2.1
  have hts := C.2.2.2.2.1
  intro n
  induction n with
  | zero =>
    intro u5 u6 x J H locs ls hm
    exact absurd hm (by simp [LX9_horses_75])
  | succ n ih =>
    intro u5 u6 x J H locs ls hm hw hS hl ke kr105
    replace hm : BX9_horses_75 q1 q3 q4 (LX9_horses_75 q1 q3 q4 n) u5 u6 x = some J := hm
    unfold BX9_horses_75 at hm
    refine lv_iload hx hb dX9_horses_75 (lv_at hl 5 rfl) ?_
    refine lv_iload hx hb dX9_horses_77 (lv_at hl 3 rfl) ?_
    refine lv_icmp_ge (tgt := 167) hx hb dX9_horses_79 (by decide) (fun cc => ?_) (fun cc => ?_)
    · replace hm := ite_p cc hm
      exact ke _ _ (Option.some.inj hm).symm _ _ _ hw hS (lv_sub hl [4] rfl)
    · replace hm := ite_n cc hm
      refine lv_iload_n hx hb dX9_horses_82 rfl (lv_at hl 2 rfl) ?_
      refine lv_if_lt (tgt := 103) hx hb dX9_horses_83 (by decide) (fun cc => ?_) (fun cc => ?_)
      · replace hm := ite_p cc hm
        refine lv_bipush (v := (-12)) hx hb dX9_horses_103 (by decide) ?_
        exact kr105 _ _ (Option.some.inj hm).symm _ _ _ hw hS
      · replace hm := ite_n cc hm
        refine lv_iload_n hx hb dX9_horses_86 rfl (lv_at hl 2 rfl) ?_
        refine lv_aload_n hx hb dX9_horses_87 rfl (lv_at hl 0 rfl) ?_
        refine gX9_97 C hw dX9_horses_88 ?_
        refine lv_iload_n hx hb dX9_horses_91 rfl (lv_at hl 1 rfl) ?_
        obtain ⟨h9, hm⟩ := chk_e hm
        refine alM_28 C hw h9 dX9_horses_92 ?_
        refine lv_iconst (v := 3) hx hb dX9_horses_93 (by decide) ?_
        refine lv_iload hx hb dX9_horses_94 (lv_at hl 5 rfl) ?_
        refine lv_imul hx hb dX9_horses_96 ?_
        refine lv_isub hx hb dX9_horses_97 ?_
        refine lv_iconst (v := 3) hx hb dX9_horses_98 (by decide) ?_
        refine lv_isub hx hb dX9_horses_99 ?_
        refine lv_icmp_le (tgt := 106) hx hb dX9_horses_100 (by decide) (fun cc => ?_) (fun cc => ?_)
        · replace hm := ite_p cc hm
          refine lv_bipush (v := 40) hx hb dX9_horses_106 (by decide) ?_
          refine lv_iload_n hx hb dX9_horses_108 rfl (lv_at hl 1 rfl) ?_
          refine lv_imul hx hb dX9_horses_109 ?_
          refine lv_iload_n hx hb dX9_horses_110 rfl (lv_at hl 2 rfl) ?_
          refine lv_iadd hx hb dX9_horses_111 ?_
          refine lv_iconst (v := 3) hx hb dX9_horses_112 (by decide) ?_
          refine lv_iload hx hb dX9_horses_113 (lv_at hl 5 rfl) ?_
          refine lv_imul hx hb dX9_horses_115 ?_
          refine lv_iadd hx hb dX9_horses_116 ?_
          refine topI hm (fun v10 hm => ?_)
          refine lv_istore (lv' := [(7, .int v10), (0, .ref β), (1, .int q1), (3, .int q3), (4, .int q4), (5, .int u5), (6, .int u6)]) hx hb dX9_horses_117 hl (by decide) rfl (fun ls hl => ?_)
          refine lv_iload hx hb dX9_horses_119 (lv_at hl 5 rfl) ?_
          refine lv_aload_n hx hb dX9_horses_121 rfl (lv_at hl 1 rfl) ?_
          refine lv_aload_n hx hb dX9_horses_122 rfl (lv_at hl 1 rfl) ?_
          refine gX9_100 C hw dX9_horses_123 ?_
          refine lv_iload hx hb dX9_horses_126 (lv_at hl 0 rfl) ?_
          obtain ⟨h11, hm⟩ := chk_e hm
          refine alM_29 C hw h11 dX9_horses_128 ?_
          refine lv_aload_n hx hb dX9_horses_129 rfl (lv_at hl 1 rfl) ?_
          refine gX9_100 C hw dX9_horses_130 ?_
          refine lv_iload hx hb dX9_horses_133 (lv_at hl 0 rfl) ?_
          refine lv_iconst (v := 1) hx hb dX9_horses_135 (by decide) ?_
          refine lv_iadd hx hb dX9_horses_136 ?_
          obtain ⟨h12, hm⟩ := chk_e hm
          refine alM_29 C hw h12 dX9_horses_137 ?_
          refine lv_aload_n hx hb dX9_horses_138 rfl (lv_at hl 1 rfl) ?_
          refine gX9_100 C hw dX9_horses_139 ?_
          refine lv_iload hx hb dX9_horses_142 (lv_at hl 0 rfl) ?_
          refine lv_iconst (v := 2) hx hb dX9_horses_144 (by decide) ?_
          refine lv_iadd hx hb dX9_horses_145 ?_
          obtain ⟨h13, hm⟩ := chk_e hm
          refine alM_29 C hw h13 dX9_horses_146 ?_
          obtain ⟨v14, x15, h16, hm⟩ := bind2_e hm
          refine sX9_447 C h16 hw hS hl.1 (Nat.le_of_ble_eq_true rfl) (Nat.le_trans (Nat.le_of_ble_eq_true rfl) hRf) (Nat.le_trans (Nat.le_of_ble_eq_true rfl) hRl) hcs dX9_horses_147 (fun H locs hw hS => ?_)
          refine lv_if_lt (tgt := 157) hx hb dX9_horses_150 (by decide) (fun cc => ?_) (fun cc => ?_)
          · replace hm := ite_p cc hm
            refine lv_iconst (v := 0) hx hb dX9_horses_157 (by decide) ?_
            refine lv_iadd hx hb dX9_horses_158 ?_
            refine topI hm (fun v17 hm => ?_)
            refine lv_istore (lv' := [(5, .int v17), (7, .int v10), (0, .ref β), (1, .int q1), (3, .int q3), (4, .int q4), (6, .int u6)]) hx hb dX9_horses_159 hl (by decide) rfl (fun ls hl => ?_)
            obtain ⟨v18, ev, hm⟩ := lt_e hm
            refine lv_iinc (v := v18) (lv' := [(6, .int v18), (5, .int v17), (7, .int v10), (0, .ref β), (1, .int q1), (3, .int q3), (4, .int q4)]) hx hb dX9_horses_161 hl (k := 6) rfl (by rw [ev]; rfl) (by decide) rfl (fun ls hl => ?_)
            clear ev
            refine lv_goto (tgt := 75) hx hb dX9_horses_164 (by decide) ?_
            exact ih _ _ _ _ _ _ _ hm hw hS (lv_sub hl [3, 4, 5, 6, 1, 0] rfl) ke kr105
          · replace hm := ite_n cc hm
            refine lv_iconst (v := 1) hx hb dX9_horses_153 (by decide) ?_
            refine lv_goto (tgt := 158) hx hb dX9_horses_154 (by decide) ?_
            refine lv_iadd hx hb dX9_horses_158 ?_
            refine topI hm (fun v19 hm => ?_)
            refine lv_istore (lv' := [(5, .int v19), (7, .int v10), (0, .ref β), (1, .int q1), (3, .int q3), (4, .int q4), (6, .int u6)]) hx hb dX9_horses_159 hl (by decide) rfl (fun ls hl => ?_)
            obtain ⟨v20, ev, hm⟩ := lt_e hm
            refine lv_iinc (v := v20) (lv' := [(6, .int v20), (5, .int v19), (7, .int v10), (0, .ref β), (1, .int q1), (3, .int q3), (4, .int q4)]) hx hb dX9_horses_161 hl (k := 6) rfl (by rw [ev]; rfl) (by decide) rfl (fun ls hl => ?_)
            clear ev
            refine lv_goto (tgt := 75) hx hb dX9_horses_164 (by decide) ?_
            exact ih _ _ _ _ _ _ _ hm hw hS (lv_sub hl [3, 4, 5, 6, 1, 0] rfl) ke kr105
        · replace hm := ite_n cc hm
          refine lv_bipush (v := (-12)) hx hb dX9_horses_103 (by decide) ?_
          exact kr105 _ _ (Option.some.inj hm).symm _ _ _ hw hS
abbrev rmX9_horses : Room := { frames := 2, cells := 0, slots := 0, locals := 48 }
set_option maxHeartbeats 4000000 in
set_option maxRecDepth 100000 in
theorem kX9_horses {l : Launch} {G : xG} {β N : Nat} {x x' : MS} {a1 : Int32} {a2 : Int32} {a3 : Int32} {a4 : Int32} {r : Int32} (hm : fX9_horses x a1 a2 a3 a4 = some (r, x')) : Met l yX9_horses (.code yX9_horses cX9_horses 8 (some .int) :: GT) rmX9_horses (PcW [.ref β, .int a1, .int a2, .int a3, .int a4] (MW β G N x) (KK G)) (QcW (AM β) (some (.int r)) (MW β G N x')) 0 0 (AM β) := by
  unfold fX9_horses at hm
  refine xpro (own := RX9) (by decide +kernel) rfl (Nat.le_of_ble_eq_true rfl) ?_
  intro p e s m args below meth c C hw ls hl
  have hx := C.1
  have hb := C.2.1
  have ho := C.2.2.2.1
  have hts := C.2.2.2.2.1
  have hS : va_S (AM β) s.heap s.heap [] := va_S.rf
  have hl : lv_has ls 8 [(0, .ref β), (1, .int a1), (2, .int a2), (3, .int a3), (4, .int a4)] := hl
  have hRf : 2 ≤ rmX9_horses.frames := Nat.le_refl _
  have hRl : 48 ≤ rmX9_horses.locals := Nat.le_refl _
  have hcs : 0 ≤ rmX9_horses.cells ∧ 0 ≤ rmX9_horses.slots := ⟨Nat.le_refl _, Nat.le_refl _⟩
  refine lv_iload_n hx hb dX9_horses_0 rfl (lv_at hl 1 rfl) ?_
  obtain ⟨v1, h2, hm⟩ := bind_e hm
  refine sX9_444 C h2 hw hS hl.1 (Nat.le_of_ble_eq_true rfl) (Nat.le_trans (Nat.le_of_ble_eq_true rfl) hRf) (Nat.le_trans (Nat.le_of_ble_eq_true rfl) hRl) hcs dX9_horses_1 (fun H locs hw hS => ?_)
  refine x_ifeqB hx hb dX9_horses_4 (tgt := 32) (by decide) (fun cc => ?_) (fun cc => ?_)
  · replace hm := ite_n cc hm
    refine lv_bipush (v := (-2)) hx hb dX9_horses_32 (by decide) ?_
    obtain ⟨rfl, rfl⟩ := inj2 hm
    exact xret_i C hw hS dX9_horses_34
  · replace hm := ite_p cc hm
    refine lv_iload_n hx hb dX9_horses_7 rfl (lv_at hl 2 rfl) ?_
    refine lv_i2l hx hb dX9_horses_8 rfl ?_
    refine lv_lconst (v := 0) hx hb dX9_horses_9 (by decide) ?_
    refine lv_ldc2 (v := 2) hx hb ho (hts (.constantLong RX9 150 2) (tg 1109 (by decide +kernel) rfl)) dX9_horses_10 ?_
    obtain ⟨v3, h4, hm⟩ := bind_e hm
    refine sX9_132 C h4 hw hS hl.1 (Nat.le_of_ble_eq_true rfl) (Nat.le_trans (Nat.le_of_ble_eq_true rfl) hRf) (Nat.le_trans (Nat.le_of_ble_eq_true rfl) hRl) hcs dX9_horses_13 (fun H locs hw hS => ?_)
    refine x_ifeqB hx hb dX9_horses_16 (tgt := 32) (by decide) (fun cc => ?_) (fun cc => ?_)
    · replace hm := ite_n cc hm
      refine lv_bipush (v := (-2)) hx hb dX9_horses_32 (by decide) ?_
      obtain ⟨rfl, rfl⟩ := inj2 hm
      exact xret_i C hw hS dX9_horses_34
    · replace hm := ite_p cc hm
      refine lv_iload hx hb dX9_horses_19 (lv_at hl 4 rfl) ?_
      refine lv_i2l hx hb dX9_horses_21 rfl ?_
      refine lv_lconst (v := 0) hx hb dX9_horses_22 (by decide) ?_
      refine lv_ldc2 (v := 10) hx hb ho (hts (.constantLong RX9 307 10) (tg 1167 (by decide +kernel) rfl)) dX9_horses_23 ?_
      obtain ⟨v5, h6, hm⟩ := bind_e hm
      refine sX9_132 C h6 hw hS hl.1 (Nat.le_of_ble_eq_true rfl) (Nat.le_trans (Nat.le_of_ble_eq_true rfl) hRf) (Nat.le_trans (Nat.le_of_ble_eq_true rfl) hRl) hcs dX9_horses_26 (fun H locs hw hS => ?_)
      refine x_ifneB hx hb dX9_horses_29 (tgt := 35) (by decide) (fun cc => ?_) (fun cc => ?_)
      · replace hm := ite_p cc hm
        refine lv_aload_n hx hb dX9_horses_35 rfl (lv_at hl 0 rfl) ?_
        refine gX9_90 C hw dX9_horses_36 ?_
        refine lv_iload_n hx hb dX9_horses_39 rfl (lv_at hl 1 rfl) ?_
        obtain ⟨h7, hm⟩ := chk_e hm
        refine alM_26 C hw h7 dX9_horses_40 ?_
        refine lv_if_eq (tgt := 57) hx hb dX9_horses_41 (by decide) (fun cc => ?_) (fun cc => ?_)
        · replace hm := ite_p cc hm
          refine lv_aload_n hx hb dX9_horses_57 rfl (lv_at hl 0 rfl) ?_
          refine gX9_90 C hw dX9_horses_58 ?_
          refine lv_iload_n hx hb dX9_horses_61 rfl (lv_at hl 1 rfl) ?_
          obtain ⟨h8, hm⟩ := chk_e hm
          refine alM_26 C hw h8 dX9_horses_62 ?_
          refine lv_if_ne (tgt := 69) hx hb dX9_horses_63 (by decide) (fun cc => ?_) (fun cc => ?_)
          · replace hm := ite_n cc hm
            refine lv_iconst (v := 0) hx hb dX9_horses_69 (by decide) ?_
            refine lv_istore (lv' := [(5, .int 0), (0, .ref β), (1, .int a1), (2, .int a2), (3, .int a3), (4, .int a4)]) hx hb dX9_horses_70 hl (by decide) rfl (fun ls hl => ?_)
            refine lv_iconst (v := 0) hx hb dX9_horses_72 (by decide) ?_
            refine lv_istore (lv' := [(6, .int 0), (5, .int 0), (0, .ref β), (1, .int a1), (2, .int a2), (3, .int a3), (4, .int a4)]) hx hb dX9_horses_73 hl (by decide) rfl (fun ls hl => ?_)
            rcases bs_e hm with ⟨a, hj, hm⟩ | ⟨b, hj, hm⟩
            · refine lX9_horses_75 C hRf hRl hcs a1 a3 a4 NF _ _ _ _ _ _ _ hj hw hS (lv_sub hl [2, 3, 5, 6, 1, 0] rfl) (fun _ _ e0 => by cases e0) (fun rv x1 e0 H locs ls hw hS => ?_)
              · cases e0
                obtain ⟨rfl, rfl⟩ := inj2 hm
                exact xret_i C hw hS dX9_horses_105
            · obtain ⟨v21, x22, e1, hm⟩ := bind2_e hm
              cases e1
              refine lX9_horses_75 C hRf hRl hcs a1 a3 a4 NF _ _ _ _ _ _ _ hj hw hS (lv_sub hl [2, 3, 5, 6, 1, 0] rfl) (fun v21_ x22_ e0 H locs ls hw hS hl => ?_) (fun _ _ e0 => by cases e0)
              cases e0
              refine lv_iload hx hb dX9_horses_167 (lv_at hl 0 rfl) ?_
              obtain ⟨rfl, rfl⟩ := inj2 hm
              exact xret_i C hw hS dX9_horses_169
          · replace hm := ite_p cc hm
            refine lv_bipush (v := (-11)) hx hb dX9_horses_66 (by decide) ?_
            obtain ⟨rfl, rfl⟩ := inj2 hm
            exact xret_i C hw hS dX9_horses_68
        · replace hm := ite_n cc hm
          refine lv_aload_n hx hb dX9_horses_44 rfl (lv_at hl 0 rfl) ?_
          refine gX9_94 C hw dX9_horses_45 ?_
          refine lv_iload_n hx hb dX9_horses_48 rfl (lv_at hl 1 rfl) ?_
          obtain ⟨h23, hm⟩ := chk_e hm
          refine alM_27 C hw h23 dX9_horses_49 ?_
          refine lv_iload_n hx hb dX9_horses_50 rfl (lv_at hl 2 rfl) ?_
          refine lv_icmp_eq (tgt := 57) hx hb dX9_horses_51 (by decide) (fun cc => ?_) (fun cc => ?_)
          · replace hm := ite_p cc hm
            refine lv_aload_n hx hb dX9_horses_57 rfl (lv_at hl 0 rfl) ?_
            refine gX9_90 C hw dX9_horses_58 ?_
            refine lv_iload_n hx hb dX9_horses_61 rfl (lv_at hl 1 rfl) ?_
            obtain ⟨h24, hm⟩ := chk_e hm
            refine alM_26 C hw h24 dX9_horses_62 ?_
            refine lv_if_ne (tgt := 69) hx hb dX9_horses_63 (by decide) (fun cc => ?_) (fun cc => ?_)
            · replace hm := ite_n cc hm
              refine lv_iconst (v := 0) hx hb dX9_horses_69 (by decide) ?_
              refine lv_istore (lv' := [(5, .int 0), (0, .ref β), (1, .int a1), (2, .int a2), (3, .int a3), (4, .int a4)]) hx hb dX9_horses_70 hl (by decide) rfl (fun ls hl => ?_)
              refine lv_iconst (v := 0) hx hb dX9_horses_72 (by decide) ?_
              refine lv_istore (lv' := [(6, .int 0), (5, .int 0), (0, .ref β), (1, .int a1), (2, .int a2), (3, .int a3), (4, .int a4)]) hx hb dX9_horses_73 hl (by decide) rfl (fun ls hl => ?_)
              rcases bs_e hm with ⟨a, hj, hm⟩ | ⟨b, hj, hm⟩
              · refine lX9_horses_75 C hRf hRl hcs a1 a3 a4 NF _ _ _ _ _ _ _ hj hw hS (lv_sub hl [2, 3, 5, 6, 1, 0] rfl) (fun _ _ e0 => by cases e0) (fun rv x1 e0 H locs ls hw hS => ?_)
                · cases e0
                  obtain ⟨rfl, rfl⟩ := inj2 hm
                  exact xret_i C hw hS dX9_horses_105
              · obtain ⟨v37, x38, e1, hm⟩ := bind2_e hm
                cases e1
                refine lX9_horses_75 C hRf hRl hcs a1 a3 a4 NF _ _ _ _ _ _ _ hj hw hS (lv_sub hl [2, 3, 5, 6, 1, 0] rfl) (fun v37_ x38_ e0 H locs ls hw hS hl => ?_) (fun _ _ e0 => by cases e0)
                cases e0
                refine lv_iload hx hb dX9_horses_167 (lv_at hl 0 rfl) ?_
                obtain ⟨rfl, rfl⟩ := inj2 hm
                exact xret_i C hw hS dX9_horses_169
            · replace hm := ite_p cc hm
              refine lv_bipush (v := (-11)) hx hb dX9_horses_66 (by decide) ?_
              obtain ⟨rfl, rfl⟩ := inj2 hm
              exact xret_i C hw hS dX9_horses_68
          · replace hm := ite_n cc hm
            refine lv_bipush (v := (-13)) hx hb dX9_horses_54 (by decide) ?_
            obtain ⟨rfl, rfl⟩ := inj2 hm
            exact xret_i C hw hS dX9_horses_56
      · replace hm := ite_n cc hm
        refine lv_bipush (v := (-2)) hx hb dX9_horses_32 (by decide) ?_
        obtain ⟨rfl, rfl⟩ := inj2 hm
        exact xret_i C hw hS dX9_horses_34
theorem dX9_over_0 : decode cX9_over 0 = .ok (.iload_n 0, 1) := by decide +kernel
theorem dX9_over_1 : decode cX9_over 1 = .ok (.ifCond .ne 7, 3) := by decide +kernel
theorem dX9_over_4 : decode cX9_over 4 = .ok (.iconst (-1), 1) := by decide +kernel
theorem dX9_over_5 : decode cX9_over 5 = .ok (.goto 22, 3) := by decide +kernel
theorem dX9_over_8 : decode cX9_over 8 = .ok (.iload_n 0, 1) := by decide +kernel
theorem dX9_over_9 : decode cX9_over 9 = .ok (.iconst 4, 1) := by decide +kernel
theorem dX9_over_10 : decode cX9_over 10 = .ok (.if_icmp .ne 7, 3) := by decide +kernel
theorem dX9_over_13 : decode cX9_over 13 = .ok (.iconst 1, 1) := by decide +kernel
theorem dX9_over_14 : decode cX9_over 14 = .ok (.goto 13, 3) := by decide +kernel
theorem dX9_over_17 : decode cX9_over 17 = .ok (.iload_n 0, 1) := by decide +kernel
theorem dX9_over_18 : decode cX9_over 18 = .ok (.iconst 5, 1) := by decide +kernel
theorem dX9_over_19 : decode cX9_over 19 = .ok (.if_icmp .ne 7, 3) := by decide +kernel
theorem dX9_over_22 : decode cX9_over 22 = .ok (.iconst 3, 1) := by decide +kernel
theorem dX9_over_23 : decode cX9_over 23 = .ok (.goto 4, 3) := by decide +kernel
theorem dX9_over_26 : decode cX9_over 26 = .ok (.iconst 0, 1) := by decide +kernel
theorem dX9_over_27 : decode cX9_over 27 = .ok (.ireturn, 1) := by decide +kernel
def fX9_over (a1 : Int32) : Option (Int32) := if a1 = 0 then some (-1) else if a1 = 4 then some 1 else if a1 = 5 then some 3 else some 0
abbrev rmX9_over : Room := { frames := 0, cells := 0, slots := 0, locals := 0 }
set_option maxHeartbeats 4000000 in
set_option maxRecDepth 100000 in
theorem kX9_over {l : Launch} {G : xG} {β N : Nat} {x : MS} {a1 : Int32} {r : Int32} (hm : fX9_over a1 = some r) : Met l yX9_over (.code yX9_over cX9_over 1 (some .int) :: GT) rmX9_over (PcW [.int a1] (MW β G N x) (KK G)) (QcW (AM β) (some (.int r)) (MW β G N x)) 0 0 (AM β) := by
  unfold fX9_over at hm
  refine xpro (own := RX9) (by decide +kernel) rfl (Nat.le_of_ble_eq_true rfl) ?_
  intro p e s m args below meth c C hw ls hl
  have hx := C.1
  have hb := C.2.1
  have ho := C.2.2.2.1
  have hts := C.2.2.2.2.1
  have hS : va_S (AM β) s.heap s.heap [] := va_S.rf
  have hl : lv_has ls 1 [(0, .int a1)] := hl
  have hRf : 0 ≤ rmX9_over.frames := Nat.le_refl _
  have hRl : 0 ≤ rmX9_over.locals := Nat.le_refl _
  have hcs : 0 ≤ rmX9_over.cells ∧ 0 ≤ rmX9_over.slots := ⟨Nat.le_refl _, Nat.le_refl _⟩
  refine lv_iload_n hx hb dX9_over_0 rfl (lv_at hl 0 rfl) ?_
  refine lv_if_ne (tgt := 8) hx hb dX9_over_1 (by decide) (fun cc => ?_) (fun cc => ?_)
  · replace hm := ite_n cc hm
    refine lv_iload_n hx hb dX9_over_8 rfl (lv_at hl 0 rfl) ?_
    refine lv_iconst (v := 4) hx hb dX9_over_9 (by decide) ?_
    refine lv_icmp_ne (tgt := 17) hx hb dX9_over_10 (by decide) (fun cc => ?_) (fun cc => ?_)
    · replace hm := ite_n cc hm
      refine lv_iload_n hx hb dX9_over_17 rfl (lv_at hl 0 rfl) ?_
      refine lv_iconst (v := 5) hx hb dX9_over_18 (by decide) ?_
      refine lv_icmp_ne (tgt := 26) hx hb dX9_over_19 (by decide) (fun cc => ?_) (fun cc => ?_)
      · replace hm := ite_n cc hm
        refine lv_iconst (v := 0) hx hb dX9_over_26 (by decide) ?_
        obtain rfl := Option.some.inj hm
        exact xret_i C hw hS dX9_over_27
      · replace hm := ite_p cc hm
        refine lv_iconst (v := 3) hx hb dX9_over_22 (by decide) ?_
        refine lv_goto (tgt := 27) hx hb dX9_over_23 (by decide) ?_
        obtain rfl := Option.some.inj hm
        exact xret_i C hw hS dX9_over_27
    · replace hm := ite_p cc hm
      refine lv_iconst (v := 1) hx hb dX9_over_13 (by decide) ?_
      refine lv_goto (tgt := 27) hx hb dX9_over_14 (by decide) ?_
      obtain rfl := Option.some.inj hm
      exact xret_i C hw hS dX9_over_27
  · replace hm := ite_p cc hm
    refine lv_iconst (v := (-1)) hx hb dX9_over_4 (by decide) ?_
    refine lv_goto (tgt := 27) hx hb dX9_over_5 (by decide) ?_
    obtain rfl := Option.some.inj hm
    exact xret_i C hw hS dX9_over_27
theorem dX9_taken_0 : decode cX9_taken 0 = .ok (.iload_n 2, 1) := by decide +kernel
theorem dX9_taken_1 : decode cX9_taken 1 = .ok (.i2l, 1) := by decide +kernel
theorem dX9_taken_2 : decode cX9_taken 2 = .ok (.lconst 0, 1) := by decide +kernel
theorem dX9_taken_3 : decode cX9_taken 3 = .ok (.ldc2_w 138, 3) := by decide +kernel
theorem dX9_taken_6 : decode cX9_taken 6 = .ok (.invokestatic 132, 3) := by decide +kernel
theorem dX9_taken_9 : decode cX9_taken 9 = .ok (.ifCond .ne 6, 3) := by decide +kernel
theorem dX9_taken_12 : decode cX9_taken 12 = .ok (.bipush (-2), 2) := by decide +kernel
theorem dX9_taken_14 : decode cX9_taken 14 = .ok (.ireturn, 1) := by decide +kernel
theorem dX9_taken_15 : decode cX9_taken 15 = .ok (.aload_n 0, 1) := by decide +kernel
theorem dX9_taken_16 : decode cX9_taken 16 = .ok (.iload_n 1, 1) := by decide +kernel
theorem dX9_taken_17 : decode cX9_taken 17 = .ok (.invokevirtual 146, 3) := by decide +kernel
theorem dX9_taken_20 : decode cX9_taken 20 = .ok (.ifCond .ne 6, 3) := by decide +kernel
theorem dX9_taken_23 : decode cX9_taken 23 = .ok (.bipush (-11), 2) := by decide +kernel
theorem dX9_taken_25 : decode cX9_taken 25 = .ok (.ireturn, 1) := by decide +kernel
theorem dX9_taken_26 : decode cX9_taken 26 = .ok (.aload_n 0, 1) := by decide +kernel
theorem dX9_taken_27 : decode cX9_taken 27 = .ok (.getfield 23, 3) := by decide +kernel
theorem dX9_taken_30 : decode cX9_taken 30 = .ok (.iload_n 1, 1) := by decide +kernel
theorem dX9_taken_31 : decode cX9_taken 31 = .ok (.iaload, 1) := by decide +kernel
theorem dX9_taken_32 : decode cX9_taken 32 = .ok (.istore_n 3, 1) := by decide +kernel
theorem dX9_taken_33 : decode cX9_taken 33 = .ok (.iload_n 3, 1) := by decide +kernel
theorem dX9_taken_34 : decode cX9_taken 34 = .ok (.iconst (-1), 1) := by decide +kernel
theorem dX9_taken_35 : decode cX9_taken 35 = .ok (.if_icmp .eq 16, 3) := by decide +kernel
theorem dX9_taken_38 : decode cX9_taken 38 = .ok (.iload_n 3, 1) := by decide +kernel
theorem dX9_taken_39 : decode cX9_taken 39 = .ok (.iload_n 2, 1) := by decide +kernel
theorem dX9_taken_40 : decode cX9_taken 40 = .ok (.if_icmp .eq 11, 3) := by decide +kernel
theorem dX9_taken_43 : decode cX9_taken 43 = .ok (.iload_n 3, 1) := by decide +kernel
theorem dX9_taken_44 : decode cX9_taken 44 = .ok (.invokestatic 450, 3) := by decide +kernel
theorem dX9_taken_47 : decode cX9_taken 47 = .ok (.istore_n 3, 1) := by decide +kernel
theorem dX9_taken_48 : decode cX9_taken 48 = .ok (.goto (-15), 3) := by decide +kernel
theorem dX9_taken_51 : decode cX9_taken 51 = .ok (.iload_n 3, 1) := by decide +kernel
theorem dX9_taken_52 : decode cX9_taken 52 = .ok (.iload_n 2, 1) := by decide +kernel
theorem dX9_taken_53 : decode cX9_taken 53 = .ok (.if_icmp .ne 12, 3) := by decide +kernel
theorem dX9_taken_56 : decode cX9_taken 56 = .ok (.aload_n 0, 1) := by decide +kernel
theorem dX9_taken_57 : decode cX9_taken 57 = .ok (.getfield 32, 3) := by decide +kernel
theorem dX9_taken_60 : decode cX9_taken 60 = .ok (.iload_n 1, 1) := by decide +kernel
theorem dX9_taken_61 : decode cX9_taken 61 = .ok (.iaload, 1) := by decide +kernel
theorem dX9_taken_62 : decode cX9_taken 62 = .ok (.goto 5, 3) := by decide +kernel
theorem dX9_taken_65 : decode cX9_taken 65 = .ok (.bipush (-13), 2) := by decide +kernel
theorem dX9_taken_67 : decode cX9_taken 67 = .ok (.ireturn, 1) := by decide +kernel
theorem sX9_450 {p : Program} {l : Launch} {e : Env} {R : Room} {s : State} {m : MethodId} {args : Array Value} {below : List Frame} {meth : Method} {c : Code} {H : Heap} {locs : List Loc} {cells slots : Nat} {Q : State → Prop} {cc : ByteArray} {pc nL : Nat} {ls : Array Slot} {rest : List Value} {ret : Option FieldType} {G : xG} {β N : Nat} {x : MS} {a1 : Int32} {r : Int32} (C : Cx p s m args meth c RX9 cc nL ret (KK G)) (h : fX9_over a1 = some r) (hw : MW β G N x H) (hS : va_S (AM β) s.heap H locs) (hsz : ls.size = nL) (hW : (rest.map fun v => v.category).sum ≤ 8) (hR : 1 ≤ R.frames) (hR2 : 20 ≤ R.locals) (hcs : cells ≤ R.cells ∧ slots ≤ R.slots) (hd : decode cc pc = .ok (.invokestatic 450, 3)) (kk : ∀ (H1 : Heap) (locs1 : List Loc), MW β G N x H1 → va_S (AM β) s.heap H1 locs1 → W p l e R s m args below meth c H1 locs1 cells slots Q (F0 m (pc + 3) ls (.int r :: rest))) : W p l e R s m args below meth c H locs cells slots Q (F0 m pc ls (.int a1 :: rest)) :=
  xcallS C (As := [.int a1]) (rest := rest) (nA := 1) (kX9_over h) (tg 1434 (by decide +kernel) rfl) (tg 1435 (by decide +kernel) rfl) (tg 14 (by decide +kernel) rfl) (tg 1436 (by decide +kernel) rfl) ⟨by decide +kernel, by decide +kernel, by decide +kernel⟩ rfl rfl ⟨hR, hR2⟩ hw hS (fun _ q => q) rfl rfl hsz hW hd hcs (fun H1 locs1 hw hz hk hS => kk H1 locs1 hw hS)
def BX9_taken_33 (x : MS) (q1 : Int32) (q2 : Int32) (lp : Int32 → Option (Int32)) (u3 : Int32) : Option (Int32) := if u3 = (-1) then some u3 else if u3 = q2 then some u3 else Option.bind (fX9_over u3) fun v7 => lp v7
def LX9_taken_33 (x : MS) (q1 : Int32) (q2 : Int32) : Nat → Int32 → Option (Int32)
  | 0, _ => none
  | n + 1, u3 => BX9_taken_33 x q1 q2 (LX9_taken_33 x q1 q2 n) u3
def fX9_taken (x : MS) (a1 : Int32) (a2 : Int32) : Option (Int32) := Option.bind (fX9_in (a2.toInt64) 0 5) fun v1 => if v1 = true then Option.bind (fX9_isHorse x a1) fun v3 => if v3 = true then if ib a1 10 then lt (x.2.1 4 a1.toNatClampNeg) fun v6 => Option.bind (LX9_taken_33 x a1 a2 NF v6) fun v9 => if v9 = a2 then if ib a1 10 then some (x.2.1 7 a1.toNatClampNeg) else none else some (-13) else none else some (-11) else some (-2)
set_option maxHeartbeats 4000000 in
set_option maxRecDepth 100000 in
theorem lX9_taken_33 {p : Program} {l : Launch} {e : Env} {R : Room} {s : State} {m : MethodId} {args : Array Value} {below : List Frame} {meth : Method} {c : Code} {cells slots : Nat} {Q : State → Prop} {G : xG} {β N : Nat} (C : Cx p s m args meth c RX9 cX9_taken 4 (some .int) (KK G)) (hRf : 2 ≤ R.frames) (hRl : 46 ≤ R.locals) (hcs : cells ≤ R.cells ∧ slots ≤ R.slots) (x : MS) (q1 : Int32) (q2 : Int32) : ∀ (n : Nat) (u3 : Int32) (J : Int32) (H : Heap) (locs : List Loc) (ls : Array Slot), LX9_taken_33 x q1 q2 n u3 = some J → MW β G N x H → va_S (AM β) s.heap H locs → lv_has ls 4 [(0, .ref β), (1, .int q1), (2, .int q2), (3, .int u3)] → (∀ (w3 : Int32), J = w3 → ∀ (H : Heap) (locs : List Loc) (ls : Array Slot), MW β G N x H → va_S (AM β) s.heap H locs → lv_has ls 4 [(0, .ref β), (1, .int q1), (2, .int q2), (3, .int w3)] → W p l e R s m args below meth c H locs cells slots Q (F0 m 51 ls [])) → W p l e R s m args below meth c H locs cells slots Q (F0 m 33 ls []) := by
  have hx := C.1
  have hb := C.2.1
  have ho := C.2.2.2.1
  have hts := C.2.2.2.2.1
  intro n
  induction n with
  | zero =>
    intro u3 J H locs ls hm
    exact absurd hm (by simp [LX9_taken_33])
  | succ n ih =>
    intro u3 J H locs ls hm hw hS hl ke
    replace hm : BX9_taken_33 x q1 q2 (LX9_taken_33 x q1 q2 n) u3 = some J := hm
    unfold BX9_taken_33 at hm
    refine lv_iload_n hx hb dX9_taken_33 rfl (lv_at hl 3 rfl) ?_
    refine lv_iconst (v := (-1)) hx hb dX9_taken_34 (by decide) ?_
    refine lv_icmp_eq (tgt := 51) hx hb dX9_taken_35 (by decide) (fun cc => ?_) (fun cc => ?_)
    · replace hm := ite_p cc hm
      exact ke _ (Option.some.inj hm).symm _ _ _ hw hS (lv_sub hl [0, 1, 2, 3] rfl)
    · replace hm := ite_n cc hm
      refine lv_iload_n hx hb dX9_taken_38 rfl (lv_at hl 3 rfl) ?_
      refine lv_iload_n hx hb dX9_taken_39 rfl (lv_at hl 2 rfl) ?_
      refine lv_icmp_eq (tgt := 51) hx hb dX9_taken_40 (by decide) (fun cc => ?_) (fun cc => ?_)
      · replace hm := ite_p cc hm
        exact ke _ (Option.some.inj hm).symm _ _ _ hw hS (lv_sub hl [0, 1, 2, 3] rfl)
      · replace hm := ite_n cc hm
        refine lv_iload_n hx hb dX9_taken_43 rfl (lv_at hl 3 rfl) ?_
        obtain ⟨v7, h8, hm⟩ := bind_e hm
        refine sX9_450 C h8 hw hS hl.1 (Nat.le_of_ble_eq_true rfl) (Nat.le_trans (Nat.le_of_ble_eq_true rfl) hRf) (Nat.le_trans (Nat.le_of_ble_eq_true rfl) hRl) hcs dX9_taken_44 (fun H locs hw hS => ?_)
        refine lv_istore_n (lv' := [(3, .int v7), (0, .ref β), (1, .int q1), (2, .int q2)]) hx hb dX9_taken_47 rfl hl (by decide) rfl (fun ls hl => ?_)
        refine lv_goto (tgt := 33) hx hb dX9_taken_48 (by decide) ?_
        exact ih _ _ _ _ _ hm hw hS (lv_sub hl [1, 2, 3, 0] rfl) ke
abbrev rmX9_taken : Room := { frames := 2, cells := 0, slots := 0, locals := 46 }
set_option maxHeartbeats 4000000 in
set_option maxRecDepth 100000 in
theorem kX9_taken {l : Launch} {G : xG} {β N : Nat} {x : MS} {a1 : Int32} {a2 : Int32} {r : Int32} (hm : fX9_taken x a1 a2 = some r) : Met l yX9_taken (.code yX9_taken cX9_taken 4 (some .int) :: GT) rmX9_taken (PcW [.ref β, .int a1, .int a2] (MW β G N x) (KK G)) (QcW (AM β) (some (.int r)) (MW β G N x)) 0 0 (AM β) := by
  unfold fX9_taken at hm
  refine xpro (own := RX9) (by decide +kernel) rfl (Nat.le_of_ble_eq_true rfl) ?_
  intro p e s m args below meth c C hw ls hl
  have hx := C.1
  have hb := C.2.1
  have ho := C.2.2.2.1
  have hts := C.2.2.2.2.1
  have hS : va_S (AM β) s.heap s.heap [] := va_S.rf
  have hl : lv_has ls 4 [(0, .ref β), (1, .int a1), (2, .int a2)] := hl
  have hRf : 2 ≤ rmX9_taken.frames := Nat.le_refl _
  have hRl : 46 ≤ rmX9_taken.locals := Nat.le_refl _
  have hcs : 0 ≤ rmX9_taken.cells ∧ 0 ≤ rmX9_taken.slots := ⟨Nat.le_refl _, Nat.le_refl _⟩
  refine lv_iload_n hx hb dX9_taken_0 rfl (lv_at hl 2 rfl) ?_
  refine lv_i2l hx hb dX9_taken_1 rfl ?_
  refine lv_lconst (v := 0) hx hb dX9_taken_2 (by decide) ?_
  refine lv_ldc2 (v := 5) hx hb ho (hts (.constantLong RX9 138 5) (tg 1094 (by decide +kernel) rfl)) dX9_taken_3 ?_
  obtain ⟨v1, h2, hm⟩ := bind_e hm
  refine sX9_132 C h2 hw hS hl.1 (Nat.le_of_ble_eq_true rfl) (Nat.le_trans (Nat.le_of_ble_eq_true rfl) hRf) (Nat.le_trans (Nat.le_of_ble_eq_true rfl) hRl) hcs dX9_taken_6 (fun H locs hw hS => ?_)
  refine x_ifneB hx hb dX9_taken_9 (tgt := 15) (by decide) (fun cc => ?_) (fun cc => ?_)
  · replace hm := ite_p cc hm
    refine lv_aload_n hx hb dX9_taken_15 rfl (lv_at hl 0 rfl) ?_
    refine lv_iload_n hx hb dX9_taken_16 rfl (lv_at hl 1 rfl) ?_
    obtain ⟨v3, h4, hm⟩ := bind_e hm
    refine sX9_146 C h4 hw hS hl.1 (Nat.le_of_ble_eq_true rfl) (Nat.le_trans (Nat.le_of_ble_eq_true rfl) hRf) (Nat.le_trans (Nat.le_of_ble_eq_true rfl) hRl) hcs dX9_taken_17 (fun H locs hw hS => ?_)
    refine x_ifneB hx hb dX9_taken_20 (tgt := 26) (by decide) (fun cc => ?_) (fun cc => ?_)
    · replace hm := ite_p cc hm
      refine lv_aload_n hx hb dX9_taken_26 rfl (lv_at hl 0 rfl) ?_
      refine gX9_23 C hw dX9_taken_27 ?_
      refine lv_iload_n hx hb dX9_taken_30 rfl (lv_at hl 1 rfl) ?_
      obtain ⟨h5, hm⟩ := chk_e hm
      refine alM_4 C hw h5 dX9_taken_31 ?_
      refine topI hm (fun v6 hm => ?_)
      refine lv_istore_n (lv' := [(3, .int v6), (0, .ref β), (1, .int a1), (2, .int a2)]) hx hb dX9_taken_32 rfl hl (by decide) rfl (fun ls hl => ?_)
      obtain ⟨v9, hj, hm⟩ := bind_e hm
      refine lX9_taken_33 C hRf hRl hcs x a1 a2 NF _ _ _ _ _ hj hw hS (lv_sub hl [1, 2, 3, 0] rfl) (fun v9_ e0 H locs ls hw hS hl => ?_)
      cases e0
      refine lv_iload_n hx hb dX9_taken_51 rfl (lv_at hl 3 rfl) ?_
      refine lv_iload_n hx hb dX9_taken_52 rfl (lv_at hl 2 rfl) ?_
      refine lv_icmp_ne (tgt := 65) hx hb dX9_taken_53 (by decide) (fun cc => ?_) (fun cc => ?_)
      · replace hm := ite_n cc hm
        refine lv_bipush (v := (-13)) hx hb dX9_taken_65 (by decide) ?_
        obtain rfl := Option.some.inj hm
        exact xret_i C hw hS dX9_taken_67
      · replace hm := ite_p cc hm
        refine lv_aload_n hx hb dX9_taken_56 rfl (lv_at hl 0 rfl) ?_
        refine gX9_32 C hw dX9_taken_57 ?_
        refine lv_iload_n hx hb dX9_taken_60 rfl (lv_at hl 1 rfl) ?_
        obtain ⟨h10, hm⟩ := chk_e hm
        refine alM_7 C hw h10 dX9_taken_61 ?_
        refine lv_goto (tgt := 67) hx hb dX9_taken_62 (by decide) ?_
        obtain rfl := Option.some.inj hm
        exact xret_i C hw hS dX9_taken_67
    · replace hm := ite_n cc hm
      refine lv_bipush (v := (-11)) hx hb dX9_taken_23 (by decide) ?_
      obtain rfl := Option.some.inj hm
      exact xret_i C hw hS dX9_taken_25
  · replace hm := ite_n cc hm
    refine lv_bipush (v := (-2)) hx hb dX9_taken_12 (by decide) ?_
    obtain rfl := Option.some.inj hm
    exact xret_i C hw hS dX9_taken_14
