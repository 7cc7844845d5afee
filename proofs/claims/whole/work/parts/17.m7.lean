theorem dX9_nextLead_0 : decode cX9_nextLead 0 = .ok (.aload_n 0, 1) := by decide +kernel
theorem dX9_nextLead_1 : decode cX9_nextLead 1 = .ok (.aload_n 0, 1) := by decide +kernel
theorem dX9_nextLead_2 : decode cX9_nextLead 2 = .ok (.getfield 184, 3) := by decide +kernel
theorem dX9_nextLead_5 : decode cX9_nextLead 5 = .ok (.iload_n 1, 1) := by decide +kernel
theorem dX9_nextLead_6 : decode cX9_nextLead 6 = .ok (.iload_n 2, 1) := by decide +kernel
theorem dX9_nextLead_7 : decode cX9_nextLead 7 = .ok (.iload_n 3, 1) := by decide +kernel
theorem dX9_nextLead_8 : decode cX9_nextLead 8 = .ok (.iload 4, 2) := by decide +kernel
theorem dX9_nextLead_10 : decode cX9_nextLead 10 = .ok (.iload 5, 2) := by decide +kernel
theorem dX9_nextLead_12 : decode cX9_nextLead 12 = .ok (.iconst 0, 1) := by decide +kernel
theorem dX9_nextLead_13 : decode cX9_nextLead 13 = .ok (.invokevirtual 187, 3) := by decide +kernel
theorem dX9_nextLead_16 : decode cX9_nextLead 16 = .ok (.iconst 0, 1) := by decide +kernel
theorem dX9_nextLead_17 : decode cX9_nextLead 17 = .ok (.bipush 60, 2) := by decide +kernel
theorem dX9_nextLead_19 : decode cX9_nextLead 19 = .ok (.invokestatic 402, 3) := by decide +kernel
theorem dX9_nextLead_22 : decode cX9_nextLead 22 = .ok (.ireturn, 1) := by decide +kernel
def fX9_nextLead (x : MS) (a1 : Int32) (a2 : Int32) (a3 : Int32) (a4 : Int32) (a5 : Int32) : Option (Int32 × MS) := bind2 (fX9_read x (x.1 0 4) a1 a2 a3 a4 a5 0) fun v1 x2 => Option.bind (fX9_within v1 0 60) fun v4 => some (v4, x2)
abbrev rmX9_nextLead : Room := { frames := 106, cells := 0, slots := 0, locals := 2442 }
set_option maxHeartbeats 4000000 in
set_option maxRecDepth 100000 in
theorem kX9_nextLead {l : Launch} {G : xG} {β N : Nat} {x x' : MS} {a1 : Int32} {a2 : Int32} {a3 : Int32} {a4 : Int32} {a5 : Int32} {r : Int32} (hm : fX9_nextLead x a1 a2 a3 a4 a5 = some (r, x')) : Met l yX9_nextLead (.code yX9_nextLead cX9_nextLead 6 (some .int) :: GT) rmX9_nextLead (PcW [.ref β, .int a1, .int a2, .int a3, .int a4, .int a5] (MW β G N x) (KK G)) (QcW (AM β) (some (.int r)) (MW β G N x')) 0 0 (AM β) := by
  unfold fX9_nextLead at hm
  refine xpro (own := RX9) (by decide +kernel) rfl (Nat.le_of_ble_eq_true rfl) ?_
  intro p e s m args below meth c C hw ls hl
  have hx := C.1
  have hb := C.2.1
  have ho := C.2.2.2.1
  have hts := C.2.2.2.2.1
  have hS : va_S (AM β) s.heap s.heap [] := va_S.rf
  have hl : lv_has ls 6 [(0, .ref β), (1, .int a1), (2, .int a2), (3, .int a3), (4, .int a4), (5, .int a5)] := hl
  have hRf : 106 ≤ rmX9_nextLead.frames := Nat.le_refl _
  have hRl : 2442 ≤ rmX9_nextLead.locals := Nat.le_refl _
  have hcs : 0 ≤ rmX9_nextLead.cells ∧ 0 ≤ rmX9_nextLead.slots := ⟨Nat.le_refl _, Nat.le_refl _⟩
  refine lv_aload_n hx hb dX9_nextLead_0 rfl (lv_at hl 0 rfl) ?_
  refine lv_aload_n hx hb dX9_nextLead_1 rfl (lv_at hl 0 rfl) ?_
  refine gX9_184 C hw dX9_nextLead_2 ?_
  refine lv_iload_n hx hb dX9_nextLead_5 rfl (lv_at hl 1 rfl) ?_
  refine lv_iload_n hx hb dX9_nextLead_6 rfl (lv_at hl 2 rfl) ?_
  refine lv_iload_n hx hb dX9_nextLead_7 rfl (lv_at hl 3 rfl) ?_
  refine lv_iload hx hb dX9_nextLead_8 (lv_at hl 4 rfl) ?_
  refine lv_iload hx hb dX9_nextLead_10 (lv_at hl 5 rfl) ?_
  refine lv_iconst (v := 0) hx hb dX9_nextLead_12 (by decide) ?_
  obtain ⟨v1, x2, h3, hm⟩ := bind2_e hm
  refine sX9_187 C h3 hw hS hl.1 (Nat.le_of_ble_eq_true rfl) (Nat.le_trans (Nat.le_of_ble_eq_true rfl) hRf) (Nat.le_trans (Nat.le_of_ble_eq_true rfl) hRl) hcs dX9_nextLead_13 (fun H locs hw hS => ?_)
  refine lv_iconst (v := 0) hx hb dX9_nextLead_16 (by decide) ?_
  refine lv_bipush (v := 60) hx hb dX9_nextLead_17 (by decide) ?_
  obtain ⟨v4, h5, hm⟩ := bind_e hm
  refine sX9_402 C h5 hw hS hl.1 (Nat.le_of_ble_eq_true rfl) (Nat.le_trans (Nat.le_of_ble_eq_true rfl) hRf) (Nat.le_trans (Nat.le_of_ble_eq_true rfl) hRl) hcs dX9_nextLead_19 (fun H locs hw hS => ?_)
  obtain ⟨rfl, rfl⟩ := inj2 hm
  exact xret_i C hw hS dX9_nextLead_22
theorem dX9_text_0 : decode cX9_text 0 = .ok (.aload_n 0, 1) := by decide +kernel
theorem dX9_text_1 : decode cX9_text 1 = .ok (.getfield 121, 3) := by decide +kernel
theorem dX9_text_4 : decode cX9_text 4 = .ok (.bipush 6, 2) := by decide +kernel
theorem dX9_text_6 : decode cX9_text 6 = .ok (.if_icmp .ne 6, 3) := by decide +kernel
theorem dX9_text_9 : decode cX9_text 9 = .ok (.bipush (-4), 2) := by decide +kernel
theorem dX9_text_11 : decode cX9_text 11 = .ok (.ireturn, 1) := by decide +kernel
theorem dX9_text_12 : decode cX9_text 12 = .ok (.iconst 0, 1) := by decide +kernel
theorem dX9_text_13 : decode cX9_text 13 = .ok (.istore_n 1, 1) := by decide +kernel
theorem dX9_text_14 : decode cX9_text 14 = .ok (.iload_n 1, 1) := by decide +kernel
theorem dX9_text_15 : decode cX9_text 15 = .ok (.aload_n 0, 1) := by decide +kernel
theorem dX9_text_16 : decode cX9_text 16 = .ok (.getfield 270, 3) := by decide +kernel
theorem dX9_text_19 : decode cX9_text 19 = .ok (.if_icmp .ge 30, 3) := by decide +kernel
theorem dX9_text_22 : decode cX9_text 22 = .ok (.aload_n 0, 1) := by decide +kernel
theorem dX9_text_23 : decode cX9_text 23 = .ok (.getfield 13, 3) := by decide +kernel
theorem dX9_text_26 : decode cX9_text 26 = .ok (.sipush 160, 3) := by decide +kernel
theorem dX9_text_29 : decode cX9_text 29 = .ok (.aload_n 0, 1) := by decide +kernel
theorem dX9_text_30 : decode cX9_text 30 = .ok (.getfield 121, 3) := by decide +kernel
theorem dX9_text_33 : decode cX9_text 33 = .ok (.imul, 1) := by decide +kernel
theorem dX9_text_34 : decode cX9_text 34 = .ok (.iload_n 1, 1) := by decide +kernel
theorem dX9_text_35 : decode cX9_text 35 = .ok (.iadd, 1) := by decide +kernel
theorem dX9_text_36 : decode cX9_text 36 = .ok (.aload_n 0, 1) := by decide +kernel
theorem dX9_text_37 : decode cX9_text 37 = .ok (.getfield 20, 3) := by decide +kernel
theorem dX9_text_40 : decode cX9_text 40 = .ok (.iload_n 1, 1) := by decide +kernel
theorem dX9_text_41 : decode cX9_text 41 = .ok (.iaload, 1) := by decide +kernel
theorem dX9_text_42 : decode cX9_text 42 = .ok (.iastore, 1) := by decide +kernel
theorem dX9_text_43 : decode cX9_text 43 = .ok (.iinc 1 1, 3) := by decide +kernel
theorem dX9_text_46 : decode cX9_text 46 = .ok (.goto (-32), 3) := by decide +kernel
theorem dX9_text_49 : decode cX9_text 49 = .ok (.aload_n 0, 1) := by decide +kernel
theorem dX9_text_50 : decode cX9_text 50 = .ok (.getfield 17, 3) := by decide +kernel
theorem dX9_text_53 : decode cX9_text 53 = .ok (.aload_n 0, 1) := by decide +kernel
theorem dX9_text_54 : decode cX9_text 54 = .ok (.getfield 121, 3) := by decide +kernel
theorem dX9_text_57 : decode cX9_text 57 = .ok (.aload_n 0, 1) := by decide +kernel
theorem dX9_text_58 : decode cX9_text 58 = .ok (.getfield 270, 3) := by decide +kernel
theorem dX9_text_61 : decode cX9_text 61 = .ok (.iastore, 1) := by decide +kernel
theorem dX9_text_62 : decode cX9_text 62 = .ok (.aload_n 0, 1) := by decide +kernel
theorem dX9_text_63 : decode cX9_text 63 = .ok (.iconst 0, 1) := by decide +kernel
theorem dX9_text_64 : decode cX9_text 64 = .ok (.putfield 270, 3) := by decide +kernel
theorem dX9_text_67 : decode cX9_text 67 = .ok (.aload_n 0, 1) := by decide +kernel
theorem dX9_text_68 : decode cX9_text 68 = .ok (.aload_n 0, 1) := by decide +kernel
theorem dX9_text_69 : decode cX9_text 69 = .ok (.getfield 121, 3) := by decide +kernel
theorem dX9_text_72 : decode cX9_text 72 = .ok (.iconst 0, 1) := by decide +kernel
theorem dX9_text_73 : decode cX9_text 73 = .ok (.iconst 0, 1) := by decide +kernel
theorem dX9_text_74 : decode cX9_text 74 = .ok (.iconst 0, 1) := by decide +kernel
theorem dX9_text_75 : decode cX9_text 75 = .ok (.iconst 0, 1) := by decide +kernel
theorem dX9_text_76 : decode cX9_text 76 = .ok (.iconst 0, 1) := by decide +kernel
theorem dX9_text_77 : decode cX9_text 77 = .ok (.iconst 0, 1) := by decide +kernel
theorem dX9_text_78 : decode cX9_text 78 = .ok (.invokevirtual 187, 3) := by decide +kernel
theorem dX9_text_81 : decode cX9_text 81 = .ok (.istore_n 1, 1) := by decide +kernel
theorem dX9_text_82 : decode cX9_text 82 = .ok (.aload_n 0, 1) := by decide +kernel
theorem dX9_text_83 : decode cX9_text 83 = .ok (.getfield 309, 3) := by decide +kernel
theorem dX9_text_86 : decode cX9_text 86 = .ok (.ifCond .eq 11, 3) := by decide +kernel
theorem dX9_text_89 : decode cX9_text 89 = .ok (.bipush (-100), 2) := by decide +kernel
theorem dX9_text_91 : decode cX9_text 91 = .ok (.aload_n 0, 1) := by decide +kernel
theorem dX9_text_92 : decode cX9_text 92 = .ok (.getfield 313, 3) := by decide +kernel
theorem dX9_text_95 : decode cX9_text 95 = .ok (.isub, 1) := by decide +kernel
theorem dX9_text_96 : decode cX9_text 96 = .ok (.ireturn, 1) := by decide +kernel
theorem dX9_text_97 : decode cX9_text 97 = .ok (.aload_n 0, 1) := by decide +kernel
theorem dX9_text_98 : decode cX9_text 98 = .ok (.dup, 1) := by decide +kernel
theorem dX9_text_99 : decode cX9_text 99 = .ok (.getfield 121, 3) := by decide +kernel
theorem dX9_text_102 : decode cX9_text 102 = .ok (.iconst 1, 1) := by decide +kernel
theorem dX9_text_103 : decode cX9_text 103 = .ok (.iadd, 1) := by decide +kernel
theorem dX9_text_104 : decode cX9_text 104 = .ok (.putfield 121, 3) := by decide +kernel
theorem dX9_text_107 : decode cX9_text 107 = .ok (.aload_n 0, 1) := by decide +kernel
theorem dX9_text_108 : decode cX9_text 108 = .ok (.getfield 121, 3) := by decide +kernel
theorem dX9_text_111 : decode cX9_text 111 = .ok (.iconst 1, 1) := by decide +kernel
theorem dX9_text_112 : decode cX9_text 112 = .ok (.isub, 1) := by decide +kernel
theorem dX9_text_113 : decode cX9_text 113 = .ok (.ireturn, 1) := by decide +kernel
theorem alM_3 {p : Program} {l : Launch} {e : Env} {R : Room} {s : State} {m : MethodId} {args : Array Value} {below : List Frame} {meth : Method} {c : Code} {H : Heap} {locs : List Loc} {cells slots : Nat} {Q : State → Prop} {cc : ByteArray} {pc nL : Nat} {ls : Array Slot} {rest : List Value} {ret : Option FieldType} {G : xG} {β N : Nat} {x : MS} {own : String} {i : Int32} (C : Cx p s m args meth c own cc nL ret (KK G)) (hw : MW β G N x H) (hin : ib i 160) (hd : decode cc pc = .ok (.iaload, 1)) (kk : W p l e R s m args below meth c H locs cells slots Q (F0 m (pc + 1) ls (.int (x.2.1 3 i.toNatClampNeg) :: rest))) : W p l e R s m args below meth c H locs cells slots Q (F0 m pc ls (.int i :: .ref (β + 3) :: rest)) :=
  va_iald C.1 C.2.1 C.K.1 (xP1 (hw.2 3 (by decide))) 0 0 rfl rfl hin hd kk
theorem asM_2 {p : Program} {l : Launch} {e : Env} {R : Room} {s : State} {m : MethodId} {args : Array Value} {below : List Frame} {meth : Method} {c : Code} {H : Heap} {locs : List Loc} {cells slots : Nat} {Q : State → Prop} {cc : ByteArray} {pc nL : Nat} {ls : Array Slot} {rest : List Value} {ret : Option FieldType} {G : xG} {β N : Nat} {x : MS} {own : String} {i : Int32} {v : Int32} (C : Cx p s m args meth c own cc nL ret (KK G)) (hw : MW β G N x H) (hS : va_S (AM β) s.heap H locs) (hin : ib i 6) (hd : decode cc pc = .ok (.iastore, 1)) (kk : ∀ (H1 : Heap) (locs1 : List Loc), MW β G N (msA x 2 i.toNatClampNeg v) H1 → va_S (AM β) s.heap H1 locs1 → W p l e R s m args below meth c H1 locs1 cells slots Q (F0 m (pc + 1) ls (rest))) : W p l e R s m args below meth c H locs cells slots Q (F0 m pc ls (.int v :: .int i :: .ref (β + 2) :: rest)) :=
  x_iast C.1 C.2.1 C.K.1 hS 0 (hw.2 2 (by decide)) (AM.in (by decide)) rfl hin hd (fun H1 locs1 hat ho hS => kk H1 locs1 (hw.setA 2 _ _ hat ho) hS)
theorem pX9_121 {p : Program} {l : Launch} {e : Env} {R : Room} {s : State} {m : MethodId} {args : Array Value} {below : List Frame} {meth : Method} {c : Code} {H : Heap} {locs : List Loc} {cells slots : Nat} {Q : State → Prop} {cc : ByteArray} {pc nL : Nat} {ls : Array Slot} {rest : List Value} {ret : Option FieldType} {G : xG} {β N : Nat} {x : MS} {v : Int32} (C : Cx p s m args meth c RX9 cc nL ret (KK G)) (hw : MW β G N x H) (hS : va_S (AM β) s.heap H locs) (hd : decode cc pc = .ok (.putfield 121, 3)) (kk : ∀ (H1 : Heap) (locs1 : List Loc), MW β G N (msS x 0 3 v) H1 → va_S (AM β) s.heap H1 locs1 → W p l e R s m args below meth c H1 locs1 cells slots Q (F0 m (pc + 3) ls (rest))) : W p l e R s m args below meth c H locs cells slots Q (F0 m pc ls (.int v :: .ref β :: rest)) :=
  x_put C.1 C.2.1 C.2.2.2.2.1 iwX9 tyX9 tyX9_ok nmX9 C.2.2.2.1 C.K.1 hS (hw.2 0 (by decide)) (AM.in (by decide)) rfl 3 (by decide) (C.2.2.2.2.1 (.fieldLink RX9 121 RX9 "textCount" "I") (tg 919 (by decide +kernel) rfl)) (fun _ h9 => h9) rfl (ty := .int) (by decide +kernel) rfl rfl (Nat.le_of_ble_eq_true rfl) hd (fun H1 locs1 hat ho hS => kk H1 locs1 (hw.setS 0 3 v hat ho) hS)
theorem gX9_313 {p : Program} {l : Launch} {e : Env} {R : Room} {s : State} {m : MethodId} {args : Array Value} {below : List Frame} {meth : Method} {c : Code} {H : Heap} {locs : List Loc} {cells slots : Nat} {Q : State → Prop} {cc : ByteArray} {pc nL : Nat} {ls : Array Slot} {rest : List Value} {ret : Option FieldType} {G : xG} {β N : Nat} {x : MS} (C : Cx p s m args meth c RX9 cc nL ret (KK G)) (hw : MW β G N x H) (hd : decode cc pc = .ok (.getfield 313, 3)) (kk : W p l e R s m args below meth c H locs cells slots Q (F0 m (pc + 3) ls (.int (x.1 0 30) :: rest))) : W p l e R s m args below meth c H locs cells slots Q (F0 m pc ls (.ref β :: rest)) :=
  va_get C.1 C.2.1 C.2.2.2.2.1 iwX9 C.2.2.2.1 C.K.1 (xP1 (hw.2 0 (by decide))) 0 rfl rfl 30 (by decide) (C.2.2.2.2.1 (.fieldLink RX9 313 RX9 "fault" "I") (tg 946 (by decide +kernel) rfl)) (fun _ h9 => h9) rfl hd kk
def BX9_text_14 (lp : Int32 → MS → Option (MS)) (u1 : Int32) (x : MS) : Option (MS) := if (x.1 0 6) ≤ u1 then some x else if ib u1 160 then if ib ((160 * (x.1 0 3)) + u1) 960 then lt (msA x 1 ((160 * (x.1 0 3)) + u1).toNatClampNeg (x.2.1 3 u1.toNatClampNeg)) fun x3 => lt (u1 + 1) fun v4 => lp v4 x3 else none else none
def LX9_text_14 : Nat → Int32 → MS → Option (MS)
  | 0, _, _ => none
  | n + 1, u1, x => BX9_text_14 (LX9_text_14 n) u1 x
def fX9_text (x : MS) : Option (Int32 × MS) := if (x.1 0 3) = 6 then some ((-4), x) else Option.bind (LX9_text_14 NF 0 x) fun x5 => if ib (x5.1 0 3) 6 then lt (msA x5 2 (x5.1 0 3).toNatClampNeg (x5.1 0 6)) fun x7 => lt (msS x7 0 6 0) fun x8 => bind2 (fX9_read x8 (x8.1 0 3) 0 0 0 0 0 0) fun v9 x10 => if (x10.1 0 29) = 0 then lt (msS x10 0 3 ((x10.1 0 3) + 1)) fun x12 => some ((x12.1 0 3) - 1, x12) else some ((-100) - (x10.1 0 30), x10) else none
set_option maxHeartbeats 4000000 in
set_option maxRecDepth 100000 in
theorem lX9_text_14 {p : Program} {l : Launch} {e : Env} {R : Room} {s : State} {m : MethodId} {args : Array Value} {below : List Frame} {meth : Method} {c : Code} {cells slots : Nat} {Q : State → Prop} {G : xG} {β N : Nat} (C : Cx p s m args meth c RX9 cX9_text 2 (some .int) (KK G)) (hRf : 106 ≤ R.frames) (hRl : 2442 ≤ R.locals) (hcs : cells ≤ R.cells ∧ slots ≤ R.slots) : ∀ (n : Nat) (u1 : Int32) (x : MS) (J : MS) (H : Heap) (locs : List Loc) (ls : Array Slot), LX9_text_14 n u1 x = some J → MW β G N x H → va_S (AM β) s.heap H locs → lv_has ls 2 [(0, .ref β), (1, .int u1)] → (∀ (x1 : MS), J = x1 → ∀ (H : Heap) (locs : List Loc) (ls : Array Slot), MW β G N x1 H → va_S (AM β) s.heap H locs → lv_has ls 2 [(0, .ref β)] → W p l e R s m args below meth c H locs cells slots Q (F0 m 49 ls [])) → W p l e R s m args below meth c H locs cells slots Q (F0 m 14 ls []) := by
  have hx := C.1
  have hb := C.2.1
  have ho := C.2.2.2.1
  have hts := C.2.2.2.2.1
  intro n
  induction n with
  | zero =>
    intro u1 x J H locs ls hm
    exact absurd hm (by simp [LX9_text_14])
  | succ n ih =>
    intro u1 x J H locs ls hm hw hS hl ke
    replace hm : BX9_text_14 (LX9_text_14 n) u1 x = some J := hm
    unfold BX9_text_14 at hm
    refine lv_iload_n hx hb dX9_text_14 rfl (lv_at hl 1 rfl) ?_
    refine lv_aload_n hx hb dX9_text_15 rfl (lv_at hl 0 rfl) ?_
    refine gX9_270 C hw dX9_text_16 ?_
    refine lv_icmp_ge (tgt := 49) hx hb dX9_text_19 (by decide) (fun cc => ?_) (fun cc => ?_)
    · replace hm := ite_p cc hm
      exact ke _ (Option.some.inj hm).symm _ _ _ hw hS (lv_sub hl [0] rfl)
    · replace hm := ite_n cc hm
      refine lv_aload_n hx hb dX9_text_22 rfl (lv_at hl 0 rfl) ?_
      refine gX9_13 C hw dX9_text_23 ?_
      refine lv_sipush (v := 160) hx hb dX9_text_26 (by decide) ?_
      refine lv_aload_n hx hb dX9_text_29 rfl (lv_at hl 0 rfl) ?_
      refine gX9_121 C hw dX9_text_30 ?_
      refine lv_imul hx hb dX9_text_33 ?_
      refine lv_iload_n hx hb dX9_text_34 rfl (lv_at hl 1 rfl) ?_
      refine lv_iadd hx hb dX9_text_35 ?_
      refine lv_aload_n hx hb dX9_text_36 rfl (lv_at hl 0 rfl) ?_
      refine gX9_20 C hw dX9_text_37 ?_
      refine lv_iload_n hx hb dX9_text_40 rfl (lv_at hl 1 rfl) ?_
      obtain ⟨h1, hm⟩ := chk_e hm
      refine alM_3 C hw h1 dX9_text_41 ?_
      obtain ⟨h2, hm⟩ := chk_e hm
      refine asM_1 C hw hS h2 dX9_text_42 (fun H locs hw hS => ?_)
      obtain ⟨x3, ev, hm⟩ := lt_e hm
      rw [← ev] at hw
      clear ev
      obtain ⟨v4, ev, hm⟩ := lt_e hm
      refine lv_iinc (v := v4) (lv' := [(1, .int v4), (0, .ref β)]) hx hb dX9_text_43 hl (k := 1) rfl (by rw [ev]; rfl) (by decide) rfl (fun ls hl => ?_)
      clear ev
      refine lv_goto (tgt := 14) hx hb dX9_text_46 (by decide) ?_
      exact ih _ _ _ _ _ _ hm hw hS (lv_sub hl [1, 0] rfl) ke
abbrev rmX9_text : Room := { frames := 106, cells := 0, slots := 0, locals := 2442 }
set_option maxHeartbeats 4000000 in
set_option maxRecDepth 100000 in
theorem kX9_text {l : Launch} {G : xG} {β N : Nat} {x x' : MS} {r : Int32} (hm : fX9_text x = some (r, x')) : Met l yX9_text (.code yX9_text cX9_text 2 (some .int) :: GT) rmX9_text (PcW [.ref β] (MW β G N x) (KK G)) (QcW (AM β) (some (.int r)) (MW β G N x')) 0 0 (AM β) := by
  unfold fX9_text at hm
  refine xpro (own := RX9) (by decide +kernel) rfl (Nat.le_of_ble_eq_true rfl) ?_
  intro p e s m args below meth c C hw ls hl
  have hx := C.1
  have hb := C.2.1
  have ho := C.2.2.2.1
  have hts := C.2.2.2.2.1
  have hS : va_S (AM β) s.heap s.heap [] := va_S.rf
  have hl : lv_has ls 2 [(0, .ref β)] := hl
  have hRf : 106 ≤ rmX9_text.frames := Nat.le_refl _
  have hRl : 2442 ≤ rmX9_text.locals := Nat.le_refl _
  have hcs : 0 ≤ rmX9_text.cells ∧ 0 ≤ rmX9_text.slots := ⟨Nat.le_refl _, Nat.le_refl _⟩
  refine lv_aload_n hx hb dX9_text_0 rfl (lv_at hl 0 rfl) ?_
  refine gX9_121 C hw dX9_text_1 ?_
  refine lv_bipush (v := 6) hx hb dX9_text_4 (by decide) ?_
  refine lv_icmp_ne (tgt := 12) hx hb dX9_text_6 (by decide) (fun cc => ?_) (fun cc => ?_)
  · replace hm := ite_n cc hm
    refine lv_iconst (v := 0) hx hb dX9_text_12 (by decide) ?_
    refine lv_istore_n (lv' := [(1, .int 0), (0, .ref β)]) hx hb dX9_text_13 rfl hl (by decide) rfl (fun ls hl => ?_)
    obtain ⟨x5, hj, hm⟩ := bind_e hm
    refine lX9_text_14 C hRf hRl hcs NF _ _ _ _ _ _ hj hw hS (lv_sub hl [1, 0] rfl) (fun x5_ e0 H locs ls hw hS hl => ?_)
    cases e0
    refine lv_aload_n hx hb dX9_text_49 rfl (lv_at hl 0 rfl) ?_
    refine gX9_17 C hw dX9_text_50 ?_
    refine lv_aload_n hx hb dX9_text_53 rfl (lv_at hl 0 rfl) ?_
    refine gX9_121 C hw dX9_text_54 ?_
    refine lv_aload_n hx hb dX9_text_57 rfl (lv_at hl 0 rfl) ?_
    refine gX9_270 C hw dX9_text_58 ?_
    obtain ⟨h6, hm⟩ := chk_e hm
    refine asM_2 C hw hS h6 dX9_text_61 (fun H locs hw hS => ?_)
    obtain ⟨x7, ev, hm⟩ := lt_e hm
    rw [← ev] at hw
    clear ev
    refine lv_aload_n hx hb dX9_text_62 rfl (lv_at hl 0 rfl) ?_
    refine lv_iconst (v := 0) hx hb dX9_text_63 (by decide) ?_
    refine pX9_270 C hw hS dX9_text_64 (fun H locs hw hS => ?_)
    obtain ⟨x8, ev, hm⟩ := lt_e hm
    rw [← ev] at hw
    clear ev
    refine lv_aload_n hx hb dX9_text_67 rfl (lv_at hl 0 rfl) ?_
    refine lv_aload_n hx hb dX9_text_68 rfl (lv_at hl 0 rfl) ?_
    refine gX9_121 C hw dX9_text_69 ?_
    refine lv_iconst (v := 0) hx hb dX9_text_72 (by decide) ?_
    refine lv_iconst (v := 0) hx hb dX9_text_73 (by decide) ?_
    refine lv_iconst (v := 0) hx hb dX9_text_74 (by decide) ?_
    refine lv_iconst (v := 0) hx hb dX9_text_75 (by decide) ?_
    refine lv_iconst (v := 0) hx hb dX9_text_76 (by decide) ?_
    refine lv_iconst (v := 0) hx hb dX9_text_77 (by decide) ?_
    obtain ⟨v9, x10, h11, hm⟩ := bind2_e hm
    refine sX9_187 C h11 hw hS hl.1 (Nat.le_of_ble_eq_true rfl) (Nat.le_trans (Nat.le_of_ble_eq_true rfl) hRf) (Nat.le_trans (Nat.le_of_ble_eq_true rfl) hRl) hcs dX9_text_78 (fun H locs hw hS => ?_)
    refine lv_istore_n (lv' := [(1, .int v9), (0, .ref β)]) hx hb dX9_text_81 rfl hl (by decide) rfl (fun ls hl => ?_)
    refine lv_aload_n hx hb dX9_text_82 rfl (lv_at hl 1 rfl) ?_
    refine gX9_309 C hw dX9_text_83 ?_
    refine lv_if_eq (tgt := 97) hx hb dX9_text_86 (by decide) (fun cc => ?_) (fun cc => ?_)
    · replace hm := ite_p cc hm
      refine lv_aload_n hx hb dX9_text_97 rfl (lv_at hl 1 rfl) ?_
      refine lv_dup hx hb dX9_text_98 rfl ?_
      refine gX9_121 C hw dX9_text_99 ?_
      refine lv_iconst (v := 1) hx hb dX9_text_102 (by decide) ?_
      refine lv_iadd hx hb dX9_text_103 ?_
      refine pX9_121 C hw hS dX9_text_104 (fun H locs hw hS => ?_)
      obtain ⟨x12, ev, hm⟩ := lt_e hm
      rw [← ev] at hw
      clear ev
      refine lv_aload_n hx hb dX9_text_107 rfl (lv_at hl 1 rfl) ?_
      refine gX9_121 C hw dX9_text_108 ?_
      refine lv_iconst (v := 1) hx hb dX9_text_111 (by decide) ?_
      refine lv_isub hx hb dX9_text_112 ?_
      obtain ⟨rfl, rfl⟩ := inj2 hm
      exact xret_i C hw hS dX9_text_113
    · replace hm := ite_n cc hm
      refine lv_bipush (v := (-100)) hx hb dX9_text_89 (by decide) ?_
      refine lv_aload_n hx hb dX9_text_91 rfl (lv_at hl 1 rfl) ?_
      refine gX9_313 C hw dX9_text_92 ?_
      refine lv_isub hx hb dX9_text_95 ?_
      obtain ⟨rfl, rfl⟩ := inj2 hm
      exact xret_i C hw hS dX9_text_96
  · replace hm := ite_p cc hm
    refine lv_bipush (v := (-4)) hx hb dX9_text_9 (by decide) ?_
    obtain ⟨rfl, rfl⟩ := inj2 hm
    exact xret_i C hw hS dX9_text_11
theorem dX9_race_0 : decode cX9_race 0 = .ok (.iload_n 1, 1) := by decide +kernel
theorem dX9_race_1 : decode cX9_race 1 = .ok (.invokestatic 225, 3) := by decide +kernel
theorem dX9_race_4 : decode cX9_race 4 = .ok (.ifCond .eq 54, 3) := by decide +kernel
theorem dX9_race_7 : decode cX9_race 7 = .ok (.aload_n 0, 1) := by decide +kernel
theorem dX9_race_8 : decode cX9_race 8 = .ok (.getfield 169, 3) := by decide +kernel
theorem dX9_race_11 : decode cX9_race 11 = .ok (.ifCond .le 21, 3) := by decide +kernel
theorem dX9_race_14 : decode cX9_race 14 = .ok (.iload_n 1, 1) := by decide +kernel
theorem dX9_race_15 : decode cX9_race 15 = .ok (.bipush 100, 2) := by decide +kernel
theorem dX9_race_17 : decode cX9_race 17 = .ok (.irem, 1) := by decide +kernel
theorem dX9_race_18 : decode cX9_race 18 = .ok (.aload_n 0, 1) := by decide +kernel
theorem dX9_race_19 : decode cX9_race 19 = .ok (.getfield 60, 3) := by decide +kernel
theorem dX9_race_22 : decode cX9_race 22 = .ok (.aload_n 0, 1) := by decide +kernel
theorem dX9_race_23 : decode cX9_race 23 = .ok (.getfield 169, 3) := by decide +kernel
theorem dX9_race_26 : decode cX9_race 26 = .ok (.iconst 1, 1) := by decide +kernel
theorem dX9_race_27 : decode cX9_race 27 = .ok (.isub, 1) := by decide +kernel
theorem dX9_race_28 : decode cX9_race 28 = .ok (.iaload, 1) := by decide +kernel
theorem dX9_race_29 : decode cX9_race 29 = .ok (.if_icmp .lt 29, 3) := by decide +kernel
theorem dX9_race_32 : decode cX9_race 32 = .ok (.aload_n 0, 1) := by decide +kernel
theorem dX9_race_33 : decode cX9_race 33 = .ok (.iload_n 2, 1) := by decide +kernel
theorem dX9_race_34 : decode cX9_race 34 = .ok (.invokevirtual 253, 3) := by decide +kernel
theorem dX9_race_37 : decode cX9_race 37 = .ok (.ifCond .eq 21, 3) := by decide +kernel
theorem dX9_race_40 : decode cX9_race 40 = .ok (.aload_n 0, 1) := by decide +kernel
theorem dX9_race_41 : decode cX9_race 41 = .ok (.getfield 247, 3) := by decide +kernel
theorem dX9_race_44 : decode cX9_race 44 = .ok (.iconst 2, 1) := by decide +kernel
theorem dX9_race_45 : decode cX9_race 45 = .ok (.if_icmp .lt 13, 3) := by decide +kernel
theorem dX9_race_48 : decode cX9_race 48 = .ok (.iload_n 3, 1) := by decide +kernel
theorem dX9_race_49 : decode cX9_race 49 = .ok (.i2l, 1) := by decide +kernel
theorem dX9_race_50 : decode cX9_race 50 = .ok (.lconst 0, 1) := by decide +kernel
theorem dX9_race_51 : decode cX9_race 51 = .ok (.lconst 1, 1) := by decide +kernel
theorem dX9_race_52 : decode cX9_race 52 = .ok (.invokestatic 132, 3) := by decide +kernel
theorem dX9_race_55 : decode cX9_race 55 = .ok (.ifCond .ne 6, 3) := by decide +kernel
theorem dX9_race_58 : decode cX9_race 58 = .ok (.bipush (-2), 2) := by decide +kernel
theorem dX9_race_60 : decode cX9_race 60 = .ok (.ireturn, 1) := by decide +kernel
theorem dX9_race_61 : decode cX9_race 61 = .ok (.aload_n 0, 1) := by decide +kernel
theorem dX9_race_62 : decode cX9_race 62 = .ok (.getfield 169, 3) := by decide +kernel
theorem dX9_race_65 : decode cX9_race 65 = .ok (.bipush 24, 2) := by decide +kernel
theorem dX9_race_67 : decode cX9_race 67 = .ok (.if_icmp .ne 6, 3) := by decide +kernel
theorem dX9_race_70 : decode cX9_race 70 = .ok (.bipush (-4), 2) := by decide +kernel
theorem dX9_race_72 : decode cX9_race 72 = .ok (.ireturn, 1) := by decide +kernel
theorem dX9_race_73 : decode cX9_race 73 = .ok (.aload_n 0, 1) := by decide +kernel
theorem dX9_race_74 : decode cX9_race 74 = .ok (.getfield 57, 3) := by decide +kernel
theorem dX9_race_77 : decode cX9_race 77 = .ok (.aload_n 0, 1) := by decide +kernel
theorem dX9_race_78 : decode cX9_race 78 = .ok (.getfield 169, 3) := by decide +kernel
theorem dX9_race_81 : decode cX9_race 81 = .ok (.iload_n 1, 1) := by decide +kernel
theorem dX9_race_82 : decode cX9_race 82 = .ok (.bipush 100, 2) := by decide +kernel
theorem dX9_race_84 : decode cX9_race 84 = .ok (.idiv, 1) := by decide +kernel
theorem dX9_race_85 : decode cX9_race 85 = .ok (.iastore, 1) := by decide +kernel
theorem dX9_race_86 : decode cX9_race 86 = .ok (.aload_n 0, 1) := by decide +kernel
theorem dX9_race_87 : decode cX9_race 87 = .ok (.getfield 60, 3) := by decide +kernel
theorem dX9_race_90 : decode cX9_race 90 = .ok (.aload_n 0, 1) := by decide +kernel
theorem dX9_race_91 : decode cX9_race 91 = .ok (.getfield 169, 3) := by decide +kernel
theorem dX9_race_94 : decode cX9_race 94 = .ok (.iload_n 1, 1) := by decide +kernel
theorem dX9_race_95 : decode cX9_race 95 = .ok (.bipush 100, 2) := by decide +kernel
theorem dX9_race_97 : decode cX9_race 97 = .ok (.irem, 1) := by decide +kernel
theorem dX9_race_98 : decode cX9_race 98 = .ok (.iastore, 1) := by decide +kernel
theorem dX9_race_99 : decode cX9_race 99 = .ok (.aload_n 0, 1) := by decide +kernel
theorem dX9_race_100 : decode cX9_race 100 = .ok (.getfield 63, 3) := by decide +kernel
theorem dX9_race_103 : decode cX9_race 103 = .ok (.aload_n 0, 1) := by decide +kernel
theorem dX9_race_104 : decode cX9_race 104 = .ok (.getfield 169, 3) := by decide +kernel
theorem dX9_race_107 : decode cX9_race 107 = .ok (.aload_n 0, 1) := by decide +kernel
theorem dX9_race_108 : decode cX9_race 108 = .ok (.getfield 247, 3) := by decide +kernel
theorem dX9_race_111 : decode cX9_race 111 = .ok (.iastore, 1) := by decide +kernel
theorem dX9_race_112 : decode cX9_race 112 = .ok (.iconst 0, 1) := by decide +kernel
theorem dX9_race_113 : decode cX9_race 113 = .ok (.istore 4, 2) := by decide +kernel
theorem dX9_race_115 : decode cX9_race 115 = .ok (.iload 4, 2) := by decide +kernel
theorem dX9_race_117 : decode cX9_race 117 = .ok (.iconst 5, 1) := by decide +kernel
theorem dX9_race_118 : decode cX9_race 118 = .ok (.if_icmp .ge 82, 3) := by decide +kernel
theorem dX9_race_121 : decode cX9_race 121 = .ok (.aload_n 0, 1) := by decide +kernel
theorem dX9_race_122 : decode cX9_race 122 = .ok (.getfield 66, 3) := by decide +kernel
theorem dX9_race_125 : decode cX9_race 125 = .ok (.iconst 5, 1) := by decide +kernel
theorem dX9_race_126 : decode cX9_race 126 = .ok (.aload_n 0, 1) := by decide +kernel
theorem dX9_race_127 : decode cX9_race 127 = .ok (.getfield 169, 3) := by decide +kernel
theorem dX9_race_130 : decode cX9_race 130 = .ok (.imul, 1) := by decide +kernel
theorem dX9_race_131 : decode cX9_race 131 = .ok (.iload 4, 2) := by decide +kernel
theorem dX9_race_133 : decode cX9_race 133 = .ok (.iadd, 1) := by decide +kernel
theorem dX9_race_134 : decode cX9_race 134 = .ok (.iload 4, 2) := by decide +kernel
theorem dX9_race_136 : decode cX9_race 136 = .ok (.aload_n 0, 1) := by decide +kernel
theorem dX9_race_137 : decode cX9_race 137 = .ok (.getfield 247, 3) := by decide +kernel
theorem dX9_race_140 : decode cX9_race 140 = .ok (.if_icmp .ge 13, 3) := by decide +kernel
theorem dX9_race_143 : decode cX9_race 143 = .ok (.aload_n 0, 1) := by decide +kernel
theorem dX9_race_144 : decode cX9_race 144 = .ok (.getfield 51, 3) := by decide +kernel
theorem dX9_race_147 : decode cX9_race 147 = .ok (.iload 4, 2) := by decide +kernel
theorem dX9_race_149 : decode cX9_race 149 = .ok (.iaload, 1) := by decide +kernel
theorem dX9_race_150 : decode cX9_race 150 = .ok (.goto 4, 3) := by decide +kernel
theorem dX9_race_153 : decode cX9_race 153 = .ok (.iconst (-1), 1) := by decide +kernel
theorem dX9_race_154 : decode cX9_race 154 = .ok (.iastore, 1) := by decide +kernel
theorem dX9_race_155 : decode cX9_race 155 = .ok (.aload_n 0, 1) := by decide +kernel
theorem dX9_race_156 : decode cX9_race 156 = .ok (.getfield 69, 3) := by decide +kernel
theorem dX9_race_159 : decode cX9_race 159 = .ok (.iconst 5, 1) := by decide +kernel
theorem dX9_race_160 : decode cX9_race 160 = .ok (.aload_n 0, 1) := by decide +kernel
theorem dX9_race_161 : decode cX9_race 161 = .ok (.getfield 169, 3) := by decide +kernel
theorem dX9_race_164 : decode cX9_race 164 = .ok (.imul, 1) := by decide +kernel
theorem dX9_race_165 : decode cX9_race 165 = .ok (.iload 4, 2) := by decide +kernel
theorem dX9_race_167 : decode cX9_race 167 = .ok (.iadd, 1) := by decide +kernel
theorem dX9_race_168 : decode cX9_race 168 = .ok (.iload 4, 2) := by decide +kernel
theorem dX9_race_170 : decode cX9_race 170 = .ok (.aload_n 0, 1) := by decide +kernel
theorem dX9_race_171 : decode cX9_race 171 = .ok (.getfield 247, 3) := by decide +kernel
theorem dX9_race_174 : decode cX9_race 174 = .ok (.if_icmp .ge 18, 3) := by decide +kernel
theorem dX9_race_177 : decode cX9_race 177 = .ok (.aload_n 0, 1) := by decide +kernel
theorem dX9_race_178 : decode cX9_race 178 = .ok (.getfield 38, 3) := by decide +kernel
theorem dX9_race_181 : decode cX9_race 181 = .ok (.aload_n 0, 1) := by decide +kernel
theorem dX9_race_182 : decode cX9_race 182 = .ok (.getfield 51, 3) := by decide +kernel
theorem dX9_race_185 : decode cX9_race 185 = .ok (.iload 4, 2) := by decide +kernel
theorem dX9_race_187 : decode cX9_race 187 = .ok (.iaload, 1) := by decide +kernel
theorem dX9_race_188 : decode cX9_race 188 = .ok (.iaload, 1) := by decide +kernel
theorem dX9_race_189 : decode cX9_race 189 = .ok (.goto 4, 3) := by decide +kernel
theorem dX9_race_192 : decode cX9_race 192 = .ok (.iconst 0, 1) := by decide +kernel
theorem dX9_race_193 : decode cX9_race 193 = .ok (.iastore, 1) := by decide +kernel
theorem dX9_race_194 : decode cX9_race 194 = .ok (.iinc 4 1, 3) := by decide +kernel
theorem dX9_race_197 : decode cX9_race 197 = .ok (.goto (-82), 3) := by decide +kernel
theorem dX9_race_200 : decode cX9_race 200 = .ok (.aload_n 0, 1) := by decide +kernel
theorem dX9_race_201 : decode cX9_race 201 = .ok (.dup, 1) := by decide +kernel
theorem dX9_race_202 : decode cX9_race 202 = .ok (.getfield 169, 3) := by decide +kernel
theorem dX9_race_205 : decode cX9_race 205 = .ok (.iconst 1, 1) := by decide +kernel
theorem dX9_race_206 : decode cX9_race 206 = .ok (.iadd, 1) := by decide +kernel
theorem dX9_race_207 : decode cX9_race 207 = .ok (.putfield 169, 3) := by decide +kernel
theorem dX9_race_210 : decode cX9_race 210 = .ok (.iconst 0, 1) := by decide +kernel
theorem dX9_race_211 : decode cX9_race 211 = .ok (.istore 4, 2) := by decide +kernel
theorem dX9_race_213 : decode cX9_race 213 = .ok (.iload 4, 2) := by decide +kernel
theorem dX9_race_215 : decode cX9_race 215 = .ok (.aload_n 0, 1) := by decide +kernel
theorem dX9_race_216 : decode cX9_race 216 = .ok (.getfield 247, 3) := by decide +kernel
theorem dX9_race_219 : decode cX9_race 219 = .ok (.if_icmp .ge 66, 3) := by decide +kernel
theorem dX9_race_222 : decode cX9_race 222 = .ok (.iload_n 3, 1) := by decide +kernel
theorem dX9_race_223 : decode cX9_race 223 = .ok (.iconst 1, 1) := by decide +kernel
theorem dX9_race_224 : decode cX9_race 224 = .ok (.if_icmp .ne 61, 3) := by decide +kernel
theorem dX9_race_227 : decode cX9_race 227 = .ok (.aload_n 0, 1) := by decide +kernel
theorem dX9_race_228 : decode cX9_race 228 = .ok (.getfield 38, 3) := by decide +kernel
theorem dX9_race_231 : decode cX9_race 231 = .ok (.aload_n 0, 1) := by decide +kernel
theorem dX9_race_232 : decode cX9_race 232 = .ok (.getfield 51, 3) := by decide +kernel
theorem dX9_race_235 : decode cX9_race 235 = .ok (.iload 4, 2) := by decide +kernel
theorem dX9_race_237 : decode cX9_race 237 = .ok (.iaload, 1) := by decide +kernel
theorem dX9_race_238 : decode cX9_race 238 = .ok (.aload_n 0, 1) := by decide +kernel
theorem dX9_race_239 : decode cX9_race 239 = .ok (.aload_n 0, 1) := by decide +kernel
theorem dX9_race_240 : decode cX9_race 240 = .ok (.getfield 51, 3) := by decide +kernel
theorem dX9_race_243 : decode cX9_race 243 = .ok (.iload 4, 2) := by decide +kernel
theorem dX9_race_245 : decode cX9_race 245 = .ok (.iaload, 1) := by decide +kernel
theorem dX9_race_246 : decode cX9_race 246 = .ok (.aload_n 0, 1) := by decide +kernel
theorem dX9_race_247 : decode cX9_race 247 = .ok (.getfield 38, 3) := by decide +kernel
theorem dX9_race_250 : decode cX9_race 250 = .ok (.aload_n 0, 1) := by decide +kernel
theorem dX9_race_251 : decode cX9_race 251 = .ok (.getfield 51, 3) := by decide +kernel
theorem dX9_race_254 : decode cX9_race 254 = .ok (.iload 4, 2) := by decide +kernel
theorem dX9_race_256 : decode cX9_race 256 = .ok (.iaload, 1) := by decide +kernel
theorem dX9_race_257 : decode cX9_race 257 = .ok (.iaload, 1) := by decide +kernel
theorem dX9_race_258 : decode cX9_race 258 = .ok (.aload_n 0, 1) := by decide +kernel
theorem dX9_race_259 : decode cX9_race 259 = .ok (.aload_n 0, 1) := by decide +kernel
theorem dX9_race_260 : decode cX9_race 260 = .ok (.getfield 51, 3) := by decide +kernel
theorem dX9_race_263 : decode cX9_race 263 = .ok (.iload 4, 2) := by decide +kernel
theorem dX9_race_265 : decode cX9_race 265 = .ok (.iaload, 1) := by decide +kernel
theorem dX9_race_266 : decode cX9_race 266 = .ok (.invokevirtual 173, 3) := by decide +kernel
theorem dX9_race_269 : decode cX9_race 269 = .ok (.iload 4, 2) := by decide +kernel
theorem dX9_race_271 : decode cX9_race 271 = .ok (.iload_n 1, 1) := by decide +kernel
theorem dX9_race_272 : decode cX9_race 272 = .ok (.bipush 100, 2) := by decide +kernel
theorem dX9_race_274 : decode cX9_race 274 = .ok (.idiv, 1) := by decide +kernel
theorem dX9_race_275 : decode cX9_race 275 = .ok (.invokevirtual 405, 3) := by decide +kernel
theorem dX9_race_278 : decode cX9_race 278 = .ok (.iastore, 1) := by decide +kernel
theorem dX9_race_279 : decode cX9_race 279 = .ok (.iinc 4 1, 3) := by decide +kernel
theorem dX9_race_282 : decode cX9_race 282 = .ok (.goto (-69), 3) := by decide +kernel
theorem dX9_race_285 : decode cX9_race 285 = .ok (.aload_n 0, 1) := by decide +kernel
theorem dX9_race_286 : decode cX9_race 286 = .ok (.getfield 169, 3) := by decide +kernel
theorem dX9_race_289 : decode cX9_race 289 = .ok (.iconst 1, 1) := by decide +kernel
theorem dX9_race_290 : decode cX9_race 290 = .ok (.isub, 1) := by decide +kernel
theorem dX9_race_291 : decode cX9_race 291 = .ok (.ireturn, 1) := by decide +kernel
theorem asM_15 {p : Program} {l : Launch} {e : Env} {R : Room} {s : State} {m : MethodId} {args : Array Value} {below : List Frame} {meth : Method} {c : Code} {H : Heap} {locs : List Loc} {cells slots : Nat} {Q : State → Prop} {cc : ByteArray} {pc nL : Nat} {ls : Array Slot} {rest : List Value} {ret : Option FieldType} {G : xG} {β N : Nat} {x : MS} {own : String} {i : Int32} {v : Int32} (C : Cx p s m args meth c own cc nL ret (KK G)) (hw : MW β G N x H) (hS : va_S (AM β) s.heap H locs) (hin : ib i 24) (hd : decode cc pc = .ok (.iastore, 1)) (kk : ∀ (H1 : Heap) (locs1 : List Loc), MW β G N (msA x 15 i.toNatClampNeg v) H1 → va_S (AM β) s.heap H1 locs1 → W p l e R s m args below meth c H1 locs1 cells slots Q (F0 m (pc + 1) ls (rest))) : W p l e R s m args below meth c H locs cells slots Q (F0 m pc ls (.int v :: .int i :: .ref (β + 15) :: rest)) :=
  x_iast C.1 C.2.1 C.K.1 hS 0 (hw.2 15 (by decide)) (AM.in (by decide)) rfl hin hd (fun H1 locs1 hat ho hS => kk H1 locs1 (hw.setA 15 _ _ hat ho) hS)
theorem asM_16 {p : Program} {l : Launch} {e : Env} {R : Room} {s : State} {m : MethodId} {args : Array Value} {below : List Frame} {meth : Method} {c : Code} {H : Heap} {locs : List Loc} {cells slots : Nat} {Q : State → Prop} {cc : ByteArray} {pc nL : Nat} {ls : Array Slot} {rest : List Value} {ret : Option FieldType} {G : xG} {β N : Nat} {x : MS} {own : String} {i : Int32} {v : Int32} (C : Cx p s m args meth c own cc nL ret (KK G)) (hw : MW β G N x H) (hS : va_S (AM β) s.heap H locs) (hin : ib i 24) (hd : decode cc pc = .ok (.iastore, 1)) (kk : ∀ (H1 : Heap) (locs1 : List Loc), MW β G N (msA x 16 i.toNatClampNeg v) H1 → va_S (AM β) s.heap H1 locs1 → W p l e R s m args below meth c H1 locs1 cells slots Q (F0 m (pc + 1) ls (rest))) : W p l e R s m args below meth c H locs cells slots Q (F0 m pc ls (.int v :: .int i :: .ref (β + 16) :: rest)) :=
  x_iast C.1 C.2.1 C.K.1 hS 0 (hw.2 16 (by decide)) (AM.in (by decide)) rfl hin hd (fun H1 locs1 hat ho hS => kk H1 locs1 (hw.setA 16 _ _ hat ho) hS)
theorem asM_17 {p : Program} {l : Launch} {e : Env} {R : Room} {s : State} {m : MethodId} {args : Array Value} {below : List Frame} {meth : Method} {c : Code} {H : Heap} {locs : List Loc} {cells slots : Nat} {Q : State → Prop} {cc : ByteArray} {pc nL : Nat} {ls : Array Slot} {rest : List Value} {ret : Option FieldType} {G : xG} {β N : Nat} {x : MS} {own : String} {i : Int32} {v : Int32} (C : Cx p s m args meth c own cc nL ret (KK G)) (hw : MW β G N x H) (hS : va_S (AM β) s.heap H locs) (hin : ib i 24) (hd : decode cc pc = .ok (.iastore, 1)) (kk : ∀ (H1 : Heap) (locs1 : List Loc), MW β G N (msA x 17 i.toNatClampNeg v) H1 → va_S (AM β) s.heap H1 locs1 → W p l e R s m args below meth c H1 locs1 cells slots Q (F0 m (pc + 1) ls (rest))) : W p l e R s m args below meth c H locs cells slots Q (F0 m pc ls (.int v :: .int i :: .ref (β + 17) :: rest)) :=
  x_iast C.1 C.2.1 C.K.1 hS 0 (hw.2 17 (by decide)) (AM.in (by decide)) rfl hin hd (fun H1 locs1 hat ho hS => kk H1 locs1 (hw.setA 17 _ _ hat ho) hS)
theorem asM_18 {p : Program} {l : Launch} {e : Env} {R : Room} {s : State} {m : MethodId} {args : Array Value} {below : List Frame} {meth : Method} {c : Code} {H : Heap} {locs : List Loc} {cells slots : Nat} {Q : State → Prop} {cc : ByteArray} {pc nL : Nat} {ls : Array Slot} {rest : List Value} {ret : Option FieldType} {G : xG} {β N : Nat} {x : MS} {own : String} {i : Int32} {v : Int32} (C : Cx p s m args meth c own cc nL ret (KK G)) (hw : MW β G N x H) (hS : va_S (AM β) s.heap H locs) (hin : ib i 120) (hd : decode cc pc = .ok (.iastore, 1)) (kk : ∀ (H1 : Heap) (locs1 : List Loc), MW β G N (msA x 18 i.toNatClampNeg v) H1 → va_S (AM β) s.heap H1 locs1 → W p l e R s m args below meth c H1 locs1 cells slots Q (F0 m (pc + 1) ls (rest))) : W p l e R s m args below meth c H locs cells slots Q (F0 m pc ls (.int v :: .int i :: .ref (β + 18) :: rest)) :=
  x_iast C.1 C.2.1 C.K.1 hS 0 (hw.2 18 (by decide)) (AM.in (by decide)) rfl hin hd (fun H1 locs1 hat ho hS => kk H1 locs1 (hw.setA 18 _ _ hat ho) hS)
theorem asM_19 {p : Program} {l : Launch} {e : Env} {R : Room} {s : State} {m : MethodId} {args : Array Value} {below : List Frame} {meth : Method} {c : Code} {H : Heap} {locs : List Loc} {cells slots : Nat} {Q : State → Prop} {cc : ByteArray} {pc nL : Nat} {ls : Array Slot} {rest : List Value} {ret : Option FieldType} {G : xG} {β N : Nat} {x : MS} {own : String} {i : Int32} {v : Int32} (C : Cx p s m args meth c own cc nL ret (KK G)) (hw : MW β G N x H) (hS : va_S (AM β) s.heap H locs) (hin : ib i 120) (hd : decode cc pc = .ok (.iastore, 1)) (kk : ∀ (H1 : Heap) (locs1 : List Loc), MW β G N (msA x 19 i.toNatClampNeg v) H1 → va_S (AM β) s.heap H1 locs1 → W p l e R s m args below meth c H1 locs1 cells slots Q (F0 m (pc + 1) ls (rest))) : W p l e R s m args below meth c H locs cells slots Q (F0 m pc ls (.int v :: .int i :: .ref (β + 19) :: rest)) :=
  x_iast C.1 C.2.1 C.K.1 hS 0 (hw.2 19 (by decide)) (AM.in (by decide)) rfl hin hd (fun H1 locs1 hat ho hS => kk H1 locs1 (hw.setA 19 _ _ hat ho) hS)
theorem sX9_405 {p : Program} {l : Launch} {e : Env} {R : Room} {s : State} {m : MethodId} {args : Array Value} {below : List Frame} {meth : Method} {c : Code} {H : Heap} {locs : List Loc} {cells slots : Nat} {Q : State → Prop} {cc : ByteArray} {pc nL : Nat} {ls : Array Slot} {rest : List Value} {ret : Option FieldType} {G : xG} {β N : Nat} {x x' : MS} {a1 : Int32} {a2 : Int32} {a3 : Int32} {a4 : Int32} {a5 : Int32} {r : Int32} (C : Cx p s m args meth c RX9 cc nL ret (KK G)) (h : fX9_nextLead x a1 a2 a3 a4 a5 = some (r, x')) (hw : MW β G N x H) (hS : va_S (AM β) s.heap H locs) (hsz : ls.size = nL) (hW : (rest.map fun v => v.category).sum ≤ 8) (hR : 107 ≤ R.frames) (hR2 : 2467 ≤ R.locals) (hcs : cells ≤ R.cells ∧ slots ≤ R.slots) (hd : decode cc pc = .ok (.invokevirtual 405, 3)) (kk : ∀ (H1 : Heap) (locs1 : List Loc), MW β G N x' H1 → va_S (AM β) s.heap H1 locs1 → W p l e R s m args below meth c H1 locs1 cells slots Q (F0 m (pc + 3) ls (.int r :: rest))) : W p l e R s m args below meth c H locs cells slots Q (F0 m pc ls (.int a5 :: .int a4 :: .int a3 :: .int a2 :: .int a1 :: .ref β :: rest)) :=
  xcallV C (As := [.int a1, .int a2, .int a3, .int a4, .int a5]) (rest := rest) (nA := 5) (ci := 9) (kX9_nextLead h) (tg 1346 (by decide +kernel) rfl) (tg 1348 (by decide +kernel) rfl) (sg (List.mem_of_getElem? (i := 89) (by decide +kernel)) rfl) (tg 14 (by decide +kernel) rfl) (tg 1349 (by decide +kernel) rfl) ⟨rfl, by decide +kernel, by decide +kernel, by decide +kernel⟩ rfl rfl rfl ⟨hR, hR2⟩ (hw.2 0 (by decide)) hw hS (fun _ q => q) rfl rfl hsz hW hd hcs (fun H1 locs1 hw hz hk hS => kk H1 locs1 hw hS)
def BX9_race_115 (q1 : Int32) (q3 : Int32) (lp : Int32 → MS → Option (MS)) (u4 : Int32) (x : MS) : Option (MS) := if 5 ≤ u4 then some x else Option.bind (if (x.1 0 19) ≤ u4 then some (-1) else if ib u4 5 then some (x.2.1 13 u4.toNatClampNeg) else none) fun v15 => if ib ((5 * (x.1 0 41)) + u4) 120 then lt (msA x 18 ((5 * (x.1 0 41)) + u4).toNatClampNeg v15) fun x17 => if (x17.1 0 19) ≤ u4 then if ib ((5 * (x17.1 0 41)) + u4) 120 then lt (msA x17 19 ((5 * (x17.1 0 41)) + u4).toNatClampNeg 0) fun x19 => lt (u4 + 1) fun v20 => lp v20 x19 else none else if ib u4 5 then if ib (x17.2.1 13 u4.toNatClampNeg) 10 then if ib ((5 * (x17.1 0 41)) + u4) 120 then lt (msA x17 19 ((5 * (x17.1 0 41)) + u4).toNatClampNeg (x17.2.1 9 (x17.2.1 13 u4.toNatClampNeg).toNatClampNeg)) fun x24 => lt (u4 + 1) fun v25 => lp v25 x24 else none else none else none else none
def LX9_race_115 (q1 : Int32) (q3 : Int32) : Nat → Int32 → MS → Option (MS)
  | 0, _, _ => none
  | n + 1, u4, x => BX9_race_115 q1 q3 (LX9_race_115 q1 q3 n) u4 x
def BX9_race_213 (q1 : Int32) (q3 : Int32) (lp : Int32 → MS → Option (MS)) (u4 : Int32) (x : MS) : Option (MS) := if (x.1 0 19) ≤ u4 then some x else if q3 = 1 then if ib u4 5 then if ib u4 5 then if ib u4 5 then if ib (x.2.1 13 u4.toNatClampNeg) 10 then if ib u4 5 then Option.bind (fX9_winsOf x (x.2.1 13 u4.toNatClampNeg)) fun v33 => bind2 (fX9_nextLead x (x.2.1 13 u4.toNatClampNeg) (x.2.1 9 (x.2.1 13 u4.toNatClampNeg).toNatClampNeg) v33 u4 (q1 / 100)) fun v35 x36 => if ib (x.2.1 13 u4.toNatClampNeg) 10 then lt (msA x36 9 (x.2.1 13 u4.toNatClampNeg).toNatClampNeg v35) fun x39 => lt (u4 + 1) fun v40 => lp v40 x39 else none else none else none else none else none else none else some x
def LX9_race_213 (q1 : Int32) (q3 : Int32) : Nat → Int32 → MS → Option (MS)
  | 0, _, _ => none
  | n + 1, u4, x => BX9_race_213 q1 q3 (LX9_race_213 q1 q3 n) u4 x
def fX9_race (x : MS) (a1 : Int32) (a2 : Int32) (a3 : Int32) : Option (Int32 × MS) := Option.bind (fX9_isWhen a1) fun v1 => if v1 = true then if (x.1 0 41) ≤ 0 then bind2 (fX9_reads x a2) fun v3 x4 => if v3 = true then if (x4.1 0 19) < 2 then some ((-2), x4) else Option.bind (fX9_in (a3.toInt64) 0 1) fun v6 => if v6 = true then if (x4.1 0 41) = 24 then some ((-4), x4) else if ib (x4.1 0 41) 24 then lt (msA x4 15 (x4.1 0 41).toNatClampNeg (a1 / 100)) fun x9 => if ib (x9.1 0 41) 24 then lt (msA x9 16 (x9.1 0 41).toNatClampNeg (irm a1 100)) fun x11 => if ib (x11.1 0 41) 24 then lt (msA x11 17 (x11.1 0 41).toNatClampNeg (x11.1 0 19)) fun x13 => Option.bind (LX9_race_115 a1 a3 NF 0 x13) fun x26 => lt (msS x26 0 41 ((x26.1 0 41) + 1)) fun x27 => Option.bind (LX9_race_213 a1 a3 NF 0 x27) fun x41 => some ((x41.1 0 41) - 1, x41) else none else none else none else some ((-2), x4) else some ((-2), x4) else if ib ((x.1 0 41) - 1) 24 then if (irm a1 100) < (x.2.1 16 ((x.1 0 41) - 1).toNatClampNeg) then some ((-2), x) else bind2 (fX9_reads x a2) fun v43 x44 => if v43 = true then if (x44.1 0 19) < 2 then some ((-2), x44) else Option.bind (fX9_in (a3.toInt64) 0 1) fun v46 => if v46 = true then if (x44.1 0 41) = 24 then some ((-4), x44) else if ib (x44.1 0 41) 24 then lt (msA x44 15 (x44.1 0 41).toNatClampNeg (a1 / 100)) fun x49 => if ib (x49.1 0 41) 24 then lt (msA x49 16 (x49.1 0 41).toNatClampNeg (irm a1 100)) fun x51 => if ib (x51.1 0 41) 24 then lt (msA x51 17 (x51.1 0 41).toNatClampNeg (x51.1 0 19)) fun x53 => Option.bind (LX9_race_115 a1 a3 NF 0 x53) fun x66 => lt (msS x66 0 41 ((x66.1 0 41) + 1)) fun x67 => Option.bind (LX9_race_213 a1 a3 NF 0 x67) fun x81 => some ((x81.1 0 41) - 1, x81) else none else none else none else some ((-2), x44) else some ((-2), x44) else none else some ((-2), x)
set_option maxHeartbeats 4000000 in
set_option maxRecDepth 100000 in
theorem lX9_race_115 {p : Program} {l : Launch} {e : Env} {R : Room} {s : State} {m : MethodId} {args : Array Value} {below : List Frame} {meth : Method} {c : Code} {cells slots : Nat} {Q : State → Prop} {G : xG} {β N : Nat} (C : Cx p s m args meth c RX9 cX9_race 5 (some .int) (KK G)) (hRf : 107 ≤ R.frames) (hRl : 2467 ≤ R.locals) (hcs : cells ≤ R.cells ∧ slots ≤ R.slots) (q1 : Int32) (q3 : Int32) : ∀ (n : Nat) (u4 : Int32) (x : MS) (J : MS) (H : Heap) (locs : List Loc) (ls : Array Slot), LX9_race_115 q1 q3 n u4 x = some J → MW β G N x H → va_S (AM β) s.heap H locs → lv_has ls 5 [(0, .ref β), (1, .int q1), (3, .int q3), (4, .int u4)] → (∀ (x1 : MS), J = x1 → ∀ (H : Heap) (locs : List Loc) (ls : Array Slot), MW β G N x1 H → va_S (AM β) s.heap H locs → lv_has ls 5 [(0, .ref β), (1, .int q1), (3, .int q3)] → W p l e R s m args below meth c H locs cells slots Q (F0 m 200 ls [])) → W p l e R s m args below meth c H locs cells slots Q (F0 m 115 ls []) := by
  have hx := C.1
  have hb := C.2.1
  have ho := C.2.2.2.1
  have hts := C.2.2.2.2.1
  intro n
  induction n with
  | zero =>
    intro u4 x J H locs ls hm
    exact absurd hm (by simp [LX9_race_115])
  | succ n ih =>
    intro u4 x J H locs ls hm hw hS hl ke
    replace hm : BX9_race_115 q1 q3 (LX9_race_115 q1 q3 n) u4 x = some J := hm
    unfold BX9_race_115 at hm
    refine lv_iload hx hb dX9_race_115 (lv_at hl 3 rfl) ?_
    refine lv_iconst (v := 5) hx hb dX9_race_117 (by decide) ?_
    refine lv_icmp_ge (tgt := 200) hx hb dX9_race_118 (by decide) (fun cc => ?_) (fun cc => ?_)
    · replace hm := ite_p cc hm
      exact ke _ (Option.some.inj hm).symm _ _ _ hw hS (lv_sub hl [0, 1, 2] rfl)
    · replace hm := ite_n cc hm
      refine lv_aload_n hx hb dX9_race_121 rfl (lv_at hl 0 rfl) ?_
      refine gX9_66 C hw dX9_race_122 ?_
      refine lv_iconst (v := 5) hx hb dX9_race_125 (by decide) ?_
      refine lv_aload_n hx hb dX9_race_126 rfl (lv_at hl 0 rfl) ?_
      refine gX9_169 C hw dX9_race_127 ?_
      refine lv_imul hx hb dX9_race_130 ?_
      refine lv_iload hx hb dX9_race_131 (lv_at hl 3 rfl) ?_
      refine lv_iadd hx hb dX9_race_133 ?_
      refine lv_iload hx hb dX9_race_134 (lv_at hl 3 rfl) ?_
      refine lv_aload_n hx hb dX9_race_136 rfl (lv_at hl 0 rfl) ?_
      refine gX9_247 C hw dX9_race_137 ?_
      obtain ⟨v15, hj, hm⟩ := bind_e hm
      have kk : ∀ (H : Heap) (locs : List Loc) (ls : Array Slot), MW β G N x H → va_S (AM β) s.heap H locs → lv_has ls 5 [(0, .ref β), (1, .int q1), (3, .int q3), (4, .int u4)] → W p l e R s m args below meth c H locs cells slots Q (F0 m 154 ls [.int v15, .int ((5 * (x.1 0 41)) + u4), .ref (β + 18)]) := by
        intro H locs ls hw hS hl
        obtain ⟨h16, hm⟩ := chk_e hm
        refine asM_18 C hw hS h16 dX9_race_154 (fun H locs hw hS => ?_)
        obtain ⟨x17, ev, hm⟩ := lt_e hm
        rw [← ev] at hw
        clear ev
        refine lv_aload_n hx hb dX9_race_155 rfl (lv_at hl 0 rfl) ?_
        refine gX9_69 C hw dX9_race_156 ?_
        refine lv_iconst (v := 5) hx hb dX9_race_159 (by decide) ?_
        refine lv_aload_n hx hb dX9_race_160 rfl (lv_at hl 0 rfl) ?_
        refine gX9_169 C hw dX9_race_161 ?_
        refine lv_imul hx hb dX9_race_164 ?_
        refine lv_iload hx hb dX9_race_165 (lv_at hl 3 rfl) ?_
        refine lv_iadd hx hb dX9_race_167 ?_
        refine lv_iload hx hb dX9_race_168 (lv_at hl 3 rfl) ?_
        refine lv_aload_n hx hb dX9_race_170 rfl (lv_at hl 0 rfl) ?_
        refine gX9_247 C hw dX9_race_171 ?_
        refine lv_icmp_ge (tgt := 192) hx hb dX9_race_174 (by decide) (fun cc => ?_) (fun cc => ?_)
        · replace hm := ite_p cc hm
          refine lv_iconst (v := 0) hx hb dX9_race_192 (by decide) ?_
          obtain ⟨h18, hm⟩ := chk_e hm
          refine asM_19 C hw hS h18 dX9_race_193 (fun H locs hw hS => ?_)
          obtain ⟨x19, ev, hm⟩ := lt_e hm
          rw [← ev] at hw
          clear ev
          obtain ⟨v20, ev, hm⟩ := lt_e hm
          refine lv_iinc (v := v20) (lv' := [(4, .int v20), (0, .ref β), (1, .int q1), (3, .int q3)]) hx hb dX9_race_194 hl (k := 3) rfl (by rw [ev]; rfl) (by decide) rfl (fun ls hl => ?_)
          clear ev
          refine lv_goto (tgt := 115) hx hb dX9_race_197 (by decide) ?_
          exact ih _ _ _ _ _ _ hm hw hS (lv_sub hl [1, 2, 3, 0] rfl) ke
        · replace hm := ite_n cc hm
          refine lv_aload_n hx hb dX9_race_177 rfl (lv_at hl 0 rfl) ?_
          refine gX9_38 C hw dX9_race_178 ?_
          refine lv_aload_n hx hb dX9_race_181 rfl (lv_at hl 0 rfl) ?_
          refine gX9_51 C hw dX9_race_182 ?_
          refine lv_iload hx hb dX9_race_185 (lv_at hl 3 rfl) ?_
          obtain ⟨h21, hm⟩ := chk_e hm
          refine alM_13 C hw h21 dX9_race_187 ?_
          obtain ⟨h22, hm⟩ := chk_e hm
          refine alM_9 C hw h22 dX9_race_188 ?_
          refine lv_goto (tgt := 193) hx hb dX9_race_189 (by decide) ?_
          obtain ⟨h23, hm⟩ := chk_e hm
          refine asM_19 C hw hS h23 dX9_race_193 (fun H locs hw hS => ?_)
          obtain ⟨x24, ev, hm⟩ := lt_e hm
          rw [← ev] at hw
          clear ev
          obtain ⟨v25, ev, hm⟩ := lt_e hm
          refine lv_iinc (v := v25) (lv' := [(4, .int v25), (0, .ref β), (1, .int q1), (3, .int q3)]) hx hb dX9_race_194 hl (k := 3) rfl (by rw [ev]; rfl) (by decide) rfl (fun ls hl => ?_)
          clear ev
          refine lv_goto (tgt := 115) hx hb dX9_race_197 (by decide) ?_
          exact ih _ _ _ _ _ _ hm hw hS (lv_sub hl [1, 2, 3, 0] rfl) ke
      clear hm
      replace hm := hj
      clear hj
      refine lv_icmp_ge (tgt := 153) hx hb dX9_race_140 (by decide) (fun cc => ?_) (fun cc => ?_)
      · replace hm := ite_p cc hm
        refine lv_iconst (v := (-1)) hx hb dX9_race_153 (by decide) ?_
        obtain rfl := Option.some.inj hm
        exact kk _ _ _ hw hS (lv_sub hl [0, 1, 2, 3] rfl)
      · replace hm := ite_n cc hm
        refine lv_aload_n hx hb dX9_race_143 rfl (lv_at hl 0 rfl) ?_
        refine gX9_51 C hw dX9_race_144 ?_
        refine lv_iload hx hb dX9_race_147 (lv_at hl 3 rfl) ?_
        obtain ⟨h14, hm⟩ := chk_e hm
        refine alM_13 C hw h14 dX9_race_149 ?_
        refine lv_goto (tgt := 154) hx hb dX9_race_150 (by decide) ?_
        obtain rfl := Option.some.inj hm
        exact kk _ _ _ hw hS (lv_sub hl [0, 1, 2, 3] rfl)
set_option maxHeartbeats 4000000 in
set_option maxRecDepth 100000 in
theorem lX9_race_213 {p : Program} {l : Launch} {e : Env} {R : Room} {s : State} {m : MethodId} {args : Array Value} {below : List Frame} {meth : Method} {c : Code} {cells slots : Nat} {Q : State → Prop} {G : xG} {β N : Nat} (C : Cx p s m args meth c RX9 cX9_race 5 (some .int) (KK G)) (hRf : 107 ≤ R.frames) (hRl : 2467 ≤ R.locals) (hcs : cells ≤ R.cells ∧ slots ≤ R.slots) (q1 : Int32) (q3 : Int32) : ∀ (n : Nat) (u4 : Int32) (x : MS) (J : MS) (H : Heap) (locs : List Loc) (ls : Array Slot), LX9_race_213 q1 q3 n u4 x = some J → MW β G N x H → va_S (AM β) s.heap H locs → lv_has ls 5 [(0, .ref β), (1, .int q1), (3, .int q3), (4, .int u4)] → (∀ (x1 : MS), J = x1 → ∀ (H : Heap) (locs : List Loc) (ls : Array Slot), MW β G N x1 H → va_S (AM β) s.heap H locs → lv_has ls 5 [(0, .ref β)] → W p l e R s m args below meth c H locs cells slots Q (F0 m 285 ls [])) → W p l e R s m args below meth c H locs cells slots Q (F0 m 213 ls []) := by
  have hx := C.1
  have hb := C.2.1
  have ho := C.2.2.2.1
  have hts := C.2.2.2.2.1
  intro n
  induction n with
  | zero =>
    intro u4 x J H locs ls hm
    exact absurd hm (by simp [LX9_race_213])
  | succ n ih =>
    intro u4 x J H locs ls hm hw hS hl ke
    replace hm : BX9_race_213 q1 q3 (LX9_race_213 q1 q3 n) u4 x = some J := hm
    unfold BX9_race_213 at hm
    refine lv_iload hx hb dX9_race_213 (lv_at hl 3 rfl) ?_
    refine lv_aload_n hx hb dX9_race_215 rfl (lv_at hl 0 rfl) ?_
    refine gX9_247 C hw dX9_race_216 ?_
    refine lv_icmp_ge (tgt := 285) hx hb dX9_race_219 (by decide) (fun cc => ?_) (fun cc => ?_)
    · replace hm := ite_p cc hm
      exact ke _ (Option.some.inj hm).symm _ _ _ hw hS (lv_sub hl [0] rfl)
    · replace hm := ite_n cc hm
      refine lv_iload_n hx hb dX9_race_222 rfl (lv_at hl 2 rfl) ?_
      refine lv_iconst (v := 1) hx hb dX9_race_223 (by decide) ?_
      refine lv_icmp_ne (tgt := 285) hx hb dX9_race_224 (by decide) (fun cc => ?_) (fun cc => ?_)
      · replace hm := ite_n cc hm
        exact ke _ (Option.some.inj hm).symm _ _ _ hw hS (lv_sub hl [0] rfl)
      · replace hm := ite_p cc hm
        refine lv_aload_n hx hb dX9_race_227 rfl (lv_at hl 0 rfl) ?_
        refine gX9_38 C hw dX9_race_228 ?_
        refine lv_aload_n hx hb dX9_race_231 rfl (lv_at hl 0 rfl) ?_
        refine gX9_51 C hw dX9_race_232 ?_
        refine lv_iload hx hb dX9_race_235 (lv_at hl 3 rfl) ?_
        obtain ⟨h28, hm⟩ := chk_e hm
        refine alM_13 C hw h28 dX9_race_237 ?_
        refine lv_aload_n hx hb dX9_race_238 rfl (lv_at hl 0 rfl) ?_
        refine lv_aload_n hx hb dX9_race_239 rfl (lv_at hl 0 rfl) ?_
        refine gX9_51 C hw dX9_race_240 ?_
        refine lv_iload hx hb dX9_race_243 (lv_at hl 3 rfl) ?_
        obtain ⟨h29, hm⟩ := chk_e hm
        refine alM_13 C hw h29 dX9_race_245 ?_
        refine lv_aload_n hx hb dX9_race_246 rfl (lv_at hl 0 rfl) ?_
        refine gX9_38 C hw dX9_race_247 ?_
        refine lv_aload_n hx hb dX9_race_250 rfl (lv_at hl 0 rfl) ?_
        refine gX9_51 C hw dX9_race_251 ?_
        refine lv_iload hx hb dX9_race_254 (lv_at hl 3 rfl) ?_
        obtain ⟨h30, hm⟩ := chk_e hm
        refine alM_13 C hw h30 dX9_race_256 ?_
        obtain ⟨h31, hm⟩ := chk_e hm
        refine alM_9 C hw h31 dX9_race_257 ?_
        refine lv_aload_n hx hb dX9_race_258 rfl (lv_at hl 0 rfl) ?_
        refine lv_aload_n hx hb dX9_race_259 rfl (lv_at hl 0 rfl) ?_
        refine gX9_51 C hw dX9_race_260 ?_
        refine lv_iload hx hb dX9_race_263 (lv_at hl 3 rfl) ?_
        obtain ⟨h32, hm⟩ := chk_e hm
        refine alM_13 C hw h32 dX9_race_265 ?_
        obtain ⟨v33, h34, hm⟩ := bind_e hm
        refine sX9_173 C h34 hw hS hl.1 (Nat.le_of_ble_eq_true rfl) (Nat.le_trans (Nat.le_of_ble_eq_true rfl) hRf) (Nat.le_trans (Nat.le_of_ble_eq_true rfl) hRl) hcs dX9_race_266 (fun H locs hw hS => ?_)
        refine lv_iload hx hb dX9_race_269 (lv_at hl 3 rfl) ?_
        refine lv_iload_n hx hb dX9_race_271 rfl (lv_at hl 1 rfl) ?_
        refine lv_bipush (v := 100) hx hb dX9_race_272 (by decide) ?_
        refine lv_idiv hx hb dX9_race_274 (by decide) ?_
        obtain ⟨v35, x36, h37, hm⟩ := bind2_e hm
        refine sX9_405 C h37 hw hS hl.1 (Nat.le_of_ble_eq_true rfl) (Nat.le_trans (Nat.le_of_ble_eq_true rfl) hRf) (Nat.le_trans (Nat.le_of_ble_eq_true rfl) hRl) hcs dX9_race_275 (fun H locs hw hS => ?_)
        obtain ⟨h38, hm⟩ := chk_e hm
        refine asM_9 C hw hS h38 dX9_race_278 (fun H locs hw hS => ?_)
        obtain ⟨x39, ev, hm⟩ := lt_e hm
        rw [← ev] at hw
        clear ev
        obtain ⟨v40, ev, hm⟩ := lt_e hm
        refine lv_iinc (v := v40) (lv' := [(4, .int v40), (0, .ref β), (1, .int q1), (3, .int q3)]) hx hb dX9_race_279 hl (k := 3) rfl (by rw [ev]; rfl) (by decide) rfl (fun ls hl => ?_)
        clear ev
        refine lv_goto (tgt := 213) hx hb dX9_race_282 (by decide) ?_
        exact ih _ _ _ _ _ _ hm hw hS (lv_sub hl [1, 2, 3, 0] rfl) ke
abbrev rmX9_race : Room := { frames := 107, cells := 0, slots := 0, locals := 2467 }
set_option maxHeartbeats 4000000 in
set_option maxRecDepth 100000 in
theorem kX9_race {l : Launch} {G : xG} {β N : Nat} {x x' : MS} {a1 : Int32} {a2 : Int32} {a3 : Int32} {r : Int32} (hm : fX9_race x a1 a2 a3 = some (r, x')) : Met l yX9_race (.code yX9_race cX9_race 5 (some .int) :: GT) rmX9_race (PcW [.ref β, .int a1, .int a2, .int a3] (MW β G N x) (KK G)) (QcW (AM β) (some (.int r)) (MW β G N x')) 0 0 (AM β) := by
  unfold fX9_race at hm
  refine xpro (own := RX9) (by decide +kernel) rfl (Nat.le_of_ble_eq_true rfl) ?_
  intro p e s m args below meth c C hw ls hl
  have hx := C.1
  have hb := C.2.1
  have ho := C.2.2.2.1
  have hts := C.2.2.2.2.1
  have hS : va_S (AM β) s.heap s.heap [] := va_S.rf
  have hl : lv_has ls 5 [(0, .ref β), (1, .int a1), (2, .int a2), (3, .int a3)] := hl
  have hRf : 107 ≤ rmX9_race.frames := Nat.le_refl _
  have hRl : 2467 ≤ rmX9_race.locals := Nat.le_refl _
  have hcs : 0 ≤ rmX9_race.cells ∧ 0 ≤ rmX9_race.slots := ⟨Nat.le_refl _, Nat.le_refl _⟩
  refine lv_iload_n hx hb dX9_race_0 rfl (lv_at hl 1 rfl) ?_
  obtain ⟨v1, h2, hm⟩ := bind_e hm
  refine sX9_225 C h2 hw hS hl.1 (Nat.le_of_ble_eq_true rfl) (Nat.le_trans (Nat.le_of_ble_eq_true rfl) hRf) (Nat.le_trans (Nat.le_of_ble_eq_true rfl) hRl) hcs dX9_race_1 (fun H locs hw hS => ?_)
  refine x_ifeqB hx hb dX9_race_4 (tgt := 58) (by decide) (fun cc => ?_) (fun cc => ?_)
  · replace hm := ite_n cc hm
    refine lv_bipush (v := (-2)) hx hb dX9_race_58 (by decide) ?_
    obtain ⟨rfl, rfl⟩ := inj2 hm
    exact xret_i C hw hS dX9_race_60
  · replace hm := ite_p cc hm
    refine lv_aload_n hx hb dX9_race_7 rfl (lv_at hl 0 rfl) ?_
    refine gX9_169 C hw dX9_race_8 ?_
    refine lv_if_le (tgt := 32) hx hb dX9_race_11 (by decide) (fun cc => ?_) (fun cc => ?_)
    · replace hm := ite_p cc hm
      refine lv_aload_n hx hb dX9_race_32 rfl (lv_at hl 0 rfl) ?_
      refine lv_iload_n hx hb dX9_race_33 rfl (lv_at hl 2 rfl) ?_
      obtain ⟨v3, x4, h5, hm⟩ := bind2_e hm
      refine sX9_253 C h5 hw hS hl.1 (Nat.le_of_ble_eq_true rfl) (Nat.le_trans (Nat.le_of_ble_eq_true rfl) hRf) (Nat.le_trans (Nat.le_of_ble_eq_true rfl) hRl) hcs dX9_race_34 (fun H locs hw hS => ?_)
      refine x_ifeqB hx hb dX9_race_37 (tgt := 58) (by decide) (fun cc => ?_) (fun cc => ?_)
      · replace hm := ite_n cc hm
        refine lv_bipush (v := (-2)) hx hb dX9_race_58 (by decide) ?_
        obtain ⟨rfl, rfl⟩ := inj2 hm
        exact xret_i C hw hS dX9_race_60
      · replace hm := ite_p cc hm
        refine lv_aload_n hx hb dX9_race_40 rfl (lv_at hl 0 rfl) ?_
        refine gX9_247 C hw dX9_race_41 ?_
        refine lv_iconst (v := 2) hx hb dX9_race_44 (by decide) ?_
        refine lv_icmp_lt (tgt := 58) hx hb dX9_race_45 (by decide) (fun cc => ?_) (fun cc => ?_)
        · replace hm := ite_p cc hm
          refine lv_bipush (v := (-2)) hx hb dX9_race_58 (by decide) ?_
          obtain ⟨rfl, rfl⟩ := inj2 hm
          exact xret_i C hw hS dX9_race_60
        · replace hm := ite_n cc hm
          refine lv_iload_n hx hb dX9_race_48 rfl (lv_at hl 3 rfl) ?_
          refine lv_i2l hx hb dX9_race_49 rfl ?_
          refine lv_lconst (v := 0) hx hb dX9_race_50 (by decide) ?_
          refine lv_lconst (v := 1) hx hb dX9_race_51 (by decide) ?_
          obtain ⟨v6, h7, hm⟩ := bind_e hm
          refine sX9_132 C h7 hw hS hl.1 (Nat.le_of_ble_eq_true rfl) (Nat.le_trans (Nat.le_of_ble_eq_true rfl) hRf) (Nat.le_trans (Nat.le_of_ble_eq_true rfl) hRl) hcs dX9_race_52 (fun H locs hw hS => ?_)
          refine x_ifneB hx hb dX9_race_55 (tgt := 61) (by decide) (fun cc => ?_) (fun cc => ?_)
          · replace hm := ite_p cc hm
            refine lv_aload_n hx hb dX9_race_61 rfl (lv_at hl 0 rfl) ?_
            refine gX9_169 C hw dX9_race_62 ?_
            refine lv_bipush (v := 24) hx hb dX9_race_65 (by decide) ?_
            refine lv_icmp_ne (tgt := 73) hx hb dX9_race_67 (by decide) (fun cc => ?_) (fun cc => ?_)
            · replace hm := ite_n cc hm
              refine lv_aload_n hx hb dX9_race_73 rfl (lv_at hl 0 rfl) ?_
              refine gX9_57 C hw dX9_race_74 ?_
              refine lv_aload_n hx hb dX9_race_77 rfl (lv_at hl 0 rfl) ?_
              refine gX9_169 C hw dX9_race_78 ?_
              refine lv_iload_n hx hb dX9_race_81 rfl (lv_at hl 1 rfl) ?_
              refine lv_bipush (v := 100) hx hb dX9_race_82 (by decide) ?_
              refine lv_idiv hx hb dX9_race_84 (by decide) ?_
              obtain ⟨h8, hm⟩ := chk_e hm
              refine asM_15 C hw hS h8 dX9_race_85 (fun H locs hw hS => ?_)
              obtain ⟨x9, ev, hm⟩ := lt_e hm
              rw [← ev] at hw
              clear ev
              refine lv_aload_n hx hb dX9_race_86 rfl (lv_at hl 0 rfl) ?_
              refine gX9_60 C hw dX9_race_87 ?_
              refine lv_aload_n hx hb dX9_race_90 rfl (lv_at hl 0 rfl) ?_
              refine gX9_169 C hw dX9_race_91 ?_
              refine lv_iload_n hx hb dX9_race_94 rfl (lv_at hl 1 rfl) ?_
              refine lv_bipush (v := 100) hx hb dX9_race_95 (by decide) ?_
              refine lv_irem hx hb dX9_race_97 (by decide) ?_
              obtain ⟨h10, hm⟩ := chk_e hm
              refine asM_16 C hw hS h10 dX9_race_98 (fun H locs hw hS => ?_)
              obtain ⟨x11, ev, hm⟩ := lt_e hm
              rw [← ev] at hw
              clear ev
              refine lv_aload_n hx hb dX9_race_99 rfl (lv_at hl 0 rfl) ?_
              refine gX9_63 C hw dX9_race_100 ?_
              refine lv_aload_n hx hb dX9_race_103 rfl (lv_at hl 0 rfl) ?_
              refine gX9_169 C hw dX9_race_104 ?_
              refine lv_aload_n hx hb dX9_race_107 rfl (lv_at hl 0 rfl) ?_
              refine gX9_247 C hw dX9_race_108 ?_
              obtain ⟨h12, hm⟩ := chk_e hm
              refine asM_17 C hw hS h12 dX9_race_111 (fun H locs hw hS => ?_)
              obtain ⟨x13, ev, hm⟩ := lt_e hm
              rw [← ev] at hw
              clear ev
              refine lv_iconst (v := 0) hx hb dX9_race_112 (by decide) ?_
              refine lv_istore (lv' := [(4, .int 0), (0, .ref β), (1, .int a1), (2, .int a2), (3, .int a3)]) hx hb dX9_race_113 hl (by decide) rfl (fun ls hl => ?_)
              obtain ⟨x26, hj, hm⟩ := bind_e hm
              refine lX9_race_115 C hRf hRl hcs a1 a3 NF _ _ _ _ _ _ hj hw hS (lv_sub hl [1, 2, 4, 0] rfl) (fun x26_ e0 H locs ls hw hS hl => ?_)
              cases e0
              refine lv_aload_n hx hb dX9_race_200 rfl (lv_at hl 0 rfl) ?_
              refine lv_dup hx hb dX9_race_201 rfl ?_
              refine gX9_169 C hw dX9_race_202 ?_
              refine lv_iconst (v := 1) hx hb dX9_race_205 (by decide) ?_
              refine lv_iadd hx hb dX9_race_206 ?_
              refine pX9_169 C hw hS dX9_race_207 (fun H locs hw hS => ?_)
              obtain ⟨x27, ev, hm⟩ := lt_e hm
              rw [← ev] at hw
              clear ev
              refine lv_iconst (v := 0) hx hb dX9_race_210 (by decide) ?_
              refine lv_istore (lv' := [(4, .int 0), (0, .ref β), (1, .int a1), (3, .int a3)]) hx hb dX9_race_211 hl (by decide) rfl (fun ls hl => ?_)
              obtain ⟨x41, hj, hm⟩ := bind_e hm
              refine lX9_race_213 C hRf hRl hcs a1 a3 NF _ _ _ _ _ _ hj hw hS (lv_sub hl [1, 2, 3, 0] rfl) (fun x41_ e0 H locs ls hw hS hl => ?_)
              cases e0
              refine lv_aload_n hx hb dX9_race_285 rfl (lv_at hl 0 rfl) ?_
              refine gX9_169 C hw dX9_race_286 ?_
              refine lv_iconst (v := 1) hx hb dX9_race_289 (by decide) ?_
              refine lv_isub hx hb dX9_race_290 ?_
              obtain ⟨rfl, rfl⟩ := inj2 hm
              exact xret_i C hw hS dX9_race_291
            · replace hm := ite_p cc hm
              refine lv_bipush (v := (-4)) hx hb dX9_race_70 (by decide) ?_
              obtain ⟨rfl, rfl⟩ := inj2 hm
              exact xret_i C hw hS dX9_race_72
          · replace hm := ite_n cc hm
            refine lv_bipush (v := (-2)) hx hb dX9_race_58 (by decide) ?_
            obtain ⟨rfl, rfl⟩ := inj2 hm
            exact xret_i C hw hS dX9_race_60
    · replace hm := ite_n cc hm
      refine lv_iload_n hx hb dX9_race_14 rfl (lv_at hl 1 rfl) ?_
      refine lv_bipush (v := 100) hx hb dX9_race_15 (by decide) ?_
      refine lv_irem hx hb dX9_race_17 (by decide) ?_
      refine lv_aload_n hx hb dX9_race_18 rfl (lv_at hl 0 rfl) ?_
      refine gX9_60 C hw dX9_race_19 ?_
      refine lv_aload_n hx hb dX9_race_22 rfl (lv_at hl 0 rfl) ?_
      refine gX9_169 C hw dX9_race_23 ?_
      refine lv_iconst (v := 1) hx hb dX9_race_26 (by decide) ?_
      refine lv_isub hx hb dX9_race_27 ?_
      obtain ⟨h42, hm⟩ := chk_e hm
      refine alM_16 C hw h42 dX9_race_28 ?_
      refine lv_icmp_lt (tgt := 58) hx hb dX9_race_29 (by decide) (fun cc => ?_) (fun cc => ?_)
      · replace hm := ite_p cc hm
        refine lv_bipush (v := (-2)) hx hb dX9_race_58 (by decide) ?_
        obtain ⟨rfl, rfl⟩ := inj2 hm
        exact xret_i C hw hS dX9_race_60
      · replace hm := ite_n cc hm
        refine lv_aload_n hx hb dX9_race_32 rfl (lv_at hl 0 rfl) ?_
        refine lv_iload_n hx hb dX9_race_33 rfl (lv_at hl 2 rfl) ?_
        obtain ⟨v43, x44, h45, hm⟩ := bind2_e hm
        refine sX9_253 C h45 hw hS hl.1 (Nat.le_of_ble_eq_true rfl) (Nat.le_trans (Nat.le_of_ble_eq_true rfl) hRf) (Nat.le_trans (Nat.le_of_ble_eq_true rfl) hRl) hcs dX9_race_34 (fun H locs hw hS => ?_)
        refine x_ifeqB hx hb dX9_race_37 (tgt := 58) (by decide) (fun cc => ?_) (fun cc => ?_)
        · replace hm := ite_n cc hm
          refine lv_bipush (v := (-2)) hx hb dX9_race_58 (by decide) ?_
          obtain ⟨rfl, rfl⟩ := inj2 hm
          exact xret_i C hw hS dX9_race_60
        · replace hm := ite_p cc hm
          refine lv_aload_n hx hb dX9_race_40 rfl (lv_at hl 0 rfl) ?_
          refine gX9_247 C hw dX9_race_41 ?_
          refine lv_iconst (v := 2) hx hb dX9_race_44 (by decide) ?_
          refine lv_icmp_lt (tgt := 58) hx hb dX9_race_45 (by decide) (fun cc => ?_) (fun cc => ?_)
          · replace hm := ite_p cc hm
            refine lv_bipush (v := (-2)) hx hb dX9_race_58 (by decide) ?_
            obtain ⟨rfl, rfl⟩ := inj2 hm
            exact xret_i C hw hS dX9_race_60
          · replace hm := ite_n cc hm
            refine lv_iload_n hx hb dX9_race_48 rfl (lv_at hl 3 rfl) ?_
            refine lv_i2l hx hb dX9_race_49 rfl ?_
            refine lv_lconst (v := 0) hx hb dX9_race_50 (by decide) ?_
            refine lv_lconst (v := 1) hx hb dX9_race_51 (by decide) ?_
            obtain ⟨v46, h47, hm⟩ := bind_e hm
            refine sX9_132 C h47 hw hS hl.1 (Nat.le_of_ble_eq_true rfl) (Nat.le_trans (Nat.le_of_ble_eq_true rfl) hRf) (Nat.le_trans (Nat.le_of_ble_eq_true rfl) hRl) hcs dX9_race_52 (fun H locs hw hS => ?_)
            refine x_ifneB hx hb dX9_race_55 (tgt := 61) (by decide) (fun cc => ?_) (fun cc => ?_)
            · replace hm := ite_p cc hm
              refine lv_aload_n hx hb dX9_race_61 rfl (lv_at hl 0 rfl) ?_
              refine gX9_169 C hw dX9_race_62 ?_
              refine lv_bipush (v := 24) hx hb dX9_race_65 (by decide) ?_
              refine lv_icmp_ne (tgt := 73) hx hb dX9_race_67 (by decide) (fun cc => ?_) (fun cc => ?_)
              · replace hm := ite_n cc hm
                refine lv_aload_n hx hb dX9_race_73 rfl (lv_at hl 0 rfl) ?_
                refine gX9_57 C hw dX9_race_74 ?_
                refine lv_aload_n hx hb dX9_race_77 rfl (lv_at hl 0 rfl) ?_
                refine gX9_169 C hw dX9_race_78 ?_
                refine lv_iload_n hx hb dX9_race_81 rfl (lv_at hl 1 rfl) ?_
                refine lv_bipush (v := 100) hx hb dX9_race_82 (by decide) ?_
                refine lv_idiv hx hb dX9_race_84 (by decide) ?_
                obtain ⟨h48, hm⟩ := chk_e hm
                refine asM_15 C hw hS h48 dX9_race_85 (fun H locs hw hS => ?_)
                obtain ⟨x49, ev, hm⟩ := lt_e hm
                rw [← ev] at hw
                clear ev
                refine lv_aload_n hx hb dX9_race_86 rfl (lv_at hl 0 rfl) ?_
                refine gX9_60 C hw dX9_race_87 ?_
                refine lv_aload_n hx hb dX9_race_90 rfl (lv_at hl 0 rfl) ?_
                refine gX9_169 C hw dX9_race_91 ?_
                refine lv_iload_n hx hb dX9_race_94 rfl (lv_at hl 1 rfl) ?_
                refine lv_bipush (v := 100) hx hb dX9_race_95 (by decide) ?_
                refine lv_irem hx hb dX9_race_97 (by decide) ?_
                obtain ⟨h50, hm⟩ := chk_e hm
                refine asM_16 C hw hS h50 dX9_race_98 (fun H locs hw hS => ?_)
                obtain ⟨x51, ev, hm⟩ := lt_e hm
                rw [← ev] at hw
                clear ev
                refine lv_aload_n hx hb dX9_race_99 rfl (lv_at hl 0 rfl) ?_
                refine gX9_63 C hw dX9_race_100 ?_
                refine lv_aload_n hx hb dX9_race_103 rfl (lv_at hl 0 rfl) ?_
                refine gX9_169 C hw dX9_race_104 ?_
                refine lv_aload_n hx hb dX9_race_107 rfl (lv_at hl 0 rfl) ?_
                refine gX9_247 C hw dX9_race_108 ?_
                obtain ⟨h52, hm⟩ := chk_e hm
                refine asM_17 C hw hS h52 dX9_race_111 (fun H locs hw hS => ?_)
                obtain ⟨x53, ev, hm⟩ := lt_e hm
                rw [← ev] at hw
                clear ev
                refine lv_iconst (v := 0) hx hb dX9_race_112 (by decide) ?_
                refine lv_istore (lv' := [(4, .int 0), (0, .ref β), (1, .int a1), (2, .int a2), (3, .int a3)]) hx hb dX9_race_113 hl (by decide) rfl (fun ls hl => ?_)
                obtain ⟨x66, hj, hm⟩ := bind_e hm
                refine lX9_race_115 C hRf hRl hcs a1 a3 NF _ _ _ _ _ _ hj hw hS (lv_sub hl [1, 2, 4, 0] rfl) (fun x66_ e0 H locs ls hw hS hl => ?_)
                cases e0
                refine lv_aload_n hx hb dX9_race_200 rfl (lv_at hl 0 rfl) ?_
                refine lv_dup hx hb dX9_race_201 rfl ?_
                refine gX9_169 C hw dX9_race_202 ?_
                refine lv_iconst (v := 1) hx hb dX9_race_205 (by decide) ?_
                refine lv_iadd hx hb dX9_race_206 ?_
                refine pX9_169 C hw hS dX9_race_207 (fun H locs hw hS => ?_)
                obtain ⟨x67, ev, hm⟩ := lt_e hm
                rw [← ev] at hw
                clear ev
                refine lv_iconst (v := 0) hx hb dX9_race_210 (by decide) ?_
                refine lv_istore (lv' := [(4, .int 0), (0, .ref β), (1, .int a1), (3, .int a3)]) hx hb dX9_race_211 hl (by decide) rfl (fun ls hl => ?_)
                obtain ⟨x81, hj, hm⟩ := bind_e hm
                refine lX9_race_213 C hRf hRl hcs a1 a3 NF _ _ _ _ _ _ hj hw hS (lv_sub hl [1, 2, 3, 0] rfl) (fun x81_ e0 H locs ls hw hS hl => ?_)
                cases e0
                refine lv_aload_n hx hb dX9_race_285 rfl (lv_at hl 0 rfl) ?_
                refine gX9_169 C hw dX9_race_286 ?_
                refine lv_iconst (v := 1) hx hb dX9_race_289 (by decide) ?_
                refine lv_isub hx hb dX9_race_290 ?_
                obtain ⟨rfl, rfl⟩ := inj2 hm
                exact xret_i C hw hS dX9_race_291
              · replace hm := ite_p cc hm
                refine lv_bipush (v := (-4)) hx hb dX9_race_70 (by decide) ?_
                obtain ⟨rfl, rfl⟩ := inj2 hm
                exact xret_i C hw hS dX9_race_72
            · replace hm := ite_n cc hm
              refine lv_bipush (v := (-2)) hx hb dX9_race_58 (by decide) ?_
              obtain ⟨rfl, rfl⟩ := inj2 hm
              exact xret_i C hw hS dX9_race_60
theorem dX9_comesTo_0 : decode cX9_comesTo 0 = .ok (.aload_n 0, 1) := by decide +kernel
theorem dX9_comesTo_1 : decode cX9_comesTo 1 = .ok (.getfield 38, 3) := by decide +kernel
theorem dX9_comesTo_4 : decode cX9_comesTo 4 = .ok (.iload 4, 2) := by decide +kernel
theorem dX9_comesTo_6 : decode cX9_comesTo 6 = .ok (.iaload, 1) := by decide +kernel
theorem dX9_comesTo_7 : decode cX9_comesTo 7 = .ok (.istore 7, 2) := by decide +kernel
theorem dX9_comesTo_9 : decode cX9_comesTo 9 = .ok (.lconst 0, 1) := by decide +kernel
theorem dX9_comesTo_10 : decode cX9_comesTo 10 = .ok (.lstore 8, 2) := by decide +kernel
theorem dX9_comesTo_12 : decode cX9_comesTo 12 = .ok (.iconst 0, 1) := by decide +kernel
theorem dX9_comesTo_13 : decode cX9_comesTo 13 = .ok (.istore 10, 2) := by decide +kernel
theorem dX9_comesTo_15 : decode cX9_comesTo 15 = .ok (.iload 10, 2) := by decide +kernel
theorem dX9_comesTo_17 : decode cX9_comesTo 17 = .ok (.iload_n 3, 1) := by decide +kernel
theorem dX9_comesTo_18 : decode cX9_comesTo 18 = .ok (.if_icmp .gt 193, 3) := by decide +kernel
theorem dX9_comesTo_21 : decode cX9_comesTo 21 = .ok (.iload 6, 2) := by decide +kernel
theorem dX9_comesTo_23 : decode cX9_comesTo 23 = .ok (.iload 10, 2) := by decide +kernel
theorem dX9_comesTo_25 : decode cX9_comesTo 25 = .ok (.ishr, 1) := by decide +kernel
theorem dX9_comesTo_26 : decode cX9_comesTo 26 = .ok (.iconst 1, 1) := by decide +kernel
theorem dX9_comesTo_27 : decode cX9_comesTo 27 = .ok (.iand, 1) := by decide +kernel
theorem dX9_comesTo_28 : decode cX9_comesTo 28 = .ok (.ifCond .ne 32, 3) := by decide +kernel
theorem dX9_comesTo_31 : decode cX9_comesTo 31 = .ok (.lload 8, 2) := by decide +kernel
theorem dX9_comesTo_33 : decode cX9_comesTo 33 = .ok (.aload_n 0, 1) := by decide +kernel
theorem dX9_comesTo_34 : decode cX9_comesTo 34 = .ok (.iload 4, 2) := by decide +kernel
theorem dX9_comesTo_36 : decode cX9_comesTo 36 = .ok (.iload 7, 2) := by decide +kernel
theorem dX9_comesTo_38 : decode cX9_comesTo 38 = .ok (.invokevirtual 181, 3) := by decide +kernel
theorem dX9_comesTo_41 : decode cX9_comesTo 41 = .ok (.i2l, 1) := by decide +kernel
theorem dX9_comesTo_42 : decode cX9_comesTo 42 = .ok (.lsub, 1) := by decide +kernel
theorem dX9_comesTo_43 : decode cX9_comesTo 43 = .ok (.lstore 8, 2) := by decide +kernel
theorem dX9_comesTo_45 : decode cX9_comesTo 45 = .ok (.iload 7, 2) := by decide +kernel
theorem dX9_comesTo_47 : decode cX9_comesTo 47 = .ok (.iconst 2, 1) := by decide +kernel
theorem dX9_comesTo_48 : decode cX9_comesTo 48 = .ok (.isub, 1) := by decide +kernel
theorem dX9_comesTo_49 : decode cX9_comesTo 49 = .ok (.iconst 0, 1) := by decide +kernel
theorem dX9_comesTo_50 : decode cX9_comesTo 50 = .ok (.bipush 60, 2) := by decide +kernel
theorem dX9_comesTo_52 : decode cX9_comesTo 52 = .ok (.invokestatic 402, 3) := by decide +kernel
theorem dX9_comesTo_55 : decode cX9_comesTo 55 = .ok (.istore 7, 2) := by decide +kernel
theorem dX9_comesTo_57 : decode cX9_comesTo 57 = .ok (.goto 148, 3) := by decide +kernel
theorem dX9_comesTo_60 : decode cX9_comesTo 60 = .ok (.iconst 1, 1) := by decide +kernel
theorem dX9_comesTo_61 : decode cX9_comesTo 61 = .ok (.istore 11, 2) := by decide +kernel
theorem dX9_comesTo_63 : decode cX9_comesTo 63 = .ok (.iconst 0, 1) := by decide +kernel
theorem dX9_comesTo_64 : decode cX9_comesTo 64 = .ok (.istore 12, 2) := by decide +kernel
theorem dX9_comesTo_66 : decode cX9_comesTo 66 = .ok (.iload 12, 2) := by decide +kernel
theorem dX9_comesTo_68 : decode cX9_comesTo 68 = .ok (.aload_n 0, 1) := by decide +kernel
theorem dX9_comesTo_69 : decode cX9_comesTo 69 = .ok (.getfield 129, 3) := by decide +kernel
theorem dX9_comesTo_72 : decode cX9_comesTo 72 = .ok (.if_icmp .ge 80, 3) := by decide +kernel
theorem dX9_comesTo_75 : decode cX9_comesTo 75 = .ok (.iload 11, 2) := by decide +kernel
theorem dX9_comesTo_77 : decode cX9_comesTo 77 = .ok (.ifCond .eq 66, 3) := by decide +kernel
theorem dX9_comesTo_80 : decode cX9_comesTo 80 = .ok (.iload 12, 2) := by decide +kernel
theorem dX9_comesTo_82 : decode cX9_comesTo 82 = .ok (.iload 4, 2) := by decide +kernel
theorem dX9_comesTo_84 : decode cX9_comesTo 84 = .ok (.if_icmp .eq 55, 3) := by decide +kernel
theorem dX9_comesTo_87 : decode cX9_comesTo 87 = .ok (.aload_n 0, 1) := by decide +kernel
theorem dX9_comesTo_88 : decode cX9_comesTo 88 = .ok (.iload_n 1, 1) := by decide +kernel
theorem dX9_comesTo_89 : decode cX9_comesTo 89 = .ok (.iload 12, 2) := by decide +kernel
theorem dX9_comesTo_91 : decode cX9_comesTo 91 = .ok (.invokevirtual 196, 3) := by decide +kernel
theorem dX9_comesTo_94 : decode cX9_comesTo 94 = .ok (.ifCond .eq 45, 3) := by decide +kernel
theorem dX9_comesTo_97 : decode cX9_comesTo 97 = .ok (.aload_n 0, 1) := by decide +kernel
theorem dX9_comesTo_98 : decode cX9_comesTo 98 = .ok (.iload 4, 2) := by decide +kernel
theorem dX9_comesTo_100 : decode cX9_comesTo 100 = .ok (.iload_n 2, 1) := by decide +kernel
theorem dX9_comesTo_101 : decode cX9_comesTo 101 = .ok (.iload 10, 2) := by decide +kernel
theorem dX9_comesTo_103 : decode cX9_comesTo 103 = .ok (.aload_n 0, 1) := by decide +kernel
theorem dX9_comesTo_104 : decode cX9_comesTo 104 = .ok (.getfield 41, 3) := by decide +kernel
theorem dX9_comesTo_107 : decode cX9_comesTo 107 = .ok (.iload_n 2, 1) := by decide +kernel
theorem dX9_comesTo_108 : decode cX9_comesTo 108 = .ok (.iaload, 1) := by decide +kernel
theorem dX9_comesTo_109 : decode cX9_comesTo 109 = .ok (.iload 7, 2) := by decide +kernel
theorem dX9_comesTo_111 : decode cX9_comesTo 111 = .ok (.invokevirtual 200, 3) := by decide +kernel
theorem dX9_comesTo_114 : decode cX9_comesTo 114 = .ok (.aload_n 0, 1) := by decide +kernel
theorem dX9_comesTo_115 : decode cX9_comesTo 115 = .ok (.iload 12, 2) := by decide +kernel
theorem dX9_comesTo_117 : decode cX9_comesTo 117 = .ok (.iload_n 2, 1) := by decide +kernel
theorem dX9_comesTo_118 : decode cX9_comesTo 118 = .ok (.iload 10, 2) := by decide +kernel
theorem dX9_comesTo_120 : decode cX9_comesTo 120 = .ok (.aload_n 0, 1) := by decide +kernel
theorem dX9_comesTo_121 : decode cX9_comesTo 121 = .ok (.getfield 41, 3) := by decide +kernel
theorem dX9_comesTo_124 : decode cX9_comesTo 124 = .ok (.iload_n 2, 1) := by decide +kernel
theorem dX9_comesTo_125 : decode cX9_comesTo 125 = .ok (.iaload, 1) := by decide +kernel
theorem dX9_comesTo_126 : decode cX9_comesTo 126 = .ok (.aload_n 0, 1) := by decide +kernel
theorem dX9_comesTo_127 : decode cX9_comesTo 127 = .ok (.getfield 38, 3) := by decide +kernel
theorem dX9_comesTo_130 : decode cX9_comesTo 130 = .ok (.iload 12, 2) := by decide +kernel
theorem dX9_comesTo_132 : decode cX9_comesTo 132 = .ok (.iaload, 1) := by decide +kernel
theorem dX9_comesTo_133 : decode cX9_comesTo 133 = .ok (.invokevirtual 200, 3) := by decide +kernel
theorem dX9_comesTo_136 : decode cX9_comesTo 136 = .ok (.if_icmp .le 7, 3) := by decide +kernel
theorem dX9_comesTo_139 : decode cX9_comesTo 139 = .ok (.iconst 1, 1) := by decide +kernel
theorem dX9_comesTo_140 : decode cX9_comesTo 140 = .ok (.goto 4, 3) := by decide +kernel
theorem dX9_comesTo_143 : decode cX9_comesTo 143 = .ok (.iconst 0, 1) := by decide +kernel
theorem dX9_comesTo_144 : decode cX9_comesTo 144 = .ok (.istore 11, 2) := by decide +kernel
theorem dX9_comesTo_146 : decode cX9_comesTo 146 = .ok (.iinc 12 1, 3) := by decide +kernel
theorem dX9_comesTo_149 : decode cX9_comesTo 149 = .ok (.goto (-83), 3) := by decide +kernel
theorem dX9_comesTo_152 : decode cX9_comesTo 152 = .ok (.lload 8, 2) := by decide +kernel
theorem dX9_comesTo_154 : decode cX9_comesTo 154 = .ok (.iload 11, 2) := by decide +kernel
theorem dX9_comesTo_156 : decode cX9_comesTo 156 = .ok (.ifCond .eq 21, 3) := by decide +kernel
theorem dX9_comesTo_159 : decode cX9_comesTo 159 = .ok (.iload 10, 2) := by decide +kernel
theorem dX9_comesTo_161 : decode cX9_comesTo 161 = .ok (.iload_n 3, 1) := by decide +kernel
theorem dX9_comesTo_162 : decode cX9_comesTo 162 = .ok (.if_icmp .ne 9, 3) := by decide +kernel
theorem dX9_comesTo_165 : decode cX9_comesTo 165 = .ok (.iload 5, 2) := by decide +kernel
theorem dX9_comesTo_167 : decode cX9_comesTo 167 = .ok (.i2l, 1) := by decide +kernel
theorem dX9_comesTo_168 : decode cX9_comesTo 168 = .ok (.goto 10, 3) := by decide +kernel
theorem dX9_comesTo_171 : decode cX9_comesTo 171 = .ok (.ldc2_w 307, 3) := by decide +kernel
theorem dX9_comesTo_174 : decode cX9_comesTo 174 = .ok (.goto 4, 3) := by decide +kernel
theorem dX9_comesTo_177 : decode cX9_comesTo 177 = .ok (.lconst 0, 1) := by decide +kernel
theorem dX9_comesTo_178 : decode cX9_comesTo 178 = .ok (.ladd, 1) := by decide +kernel
theorem dX9_comesTo_179 : decode cX9_comesTo 179 = .ok (.lstore 8, 2) := by decide +kernel
theorem dX9_comesTo_181 : decode cX9_comesTo 181 = .ok (.iload 11, 2) := by decide +kernel
theorem dX9_comesTo_183 : decode cX9_comesTo 183 = .ok (.ifCond .eq 10, 3) := by decide +kernel
theorem dX9_comesTo_186 : decode cX9_comesTo 186 = .ok (.iload 7, 2) := by decide +kernel
theorem dX9_comesTo_188 : decode cX9_comesTo 188 = .ok (.iconst 4, 1) := by decide +kernel
theorem dX9_comesTo_189 : decode cX9_comesTo 189 = .ok (.iadd, 1) := by decide +kernel
theorem dX9_comesTo_190 : decode cX9_comesTo 190 = .ok (.goto 7, 3) := by decide +kernel
theorem dX9_comesTo_193 : decode cX9_comesTo 193 = .ok (.iload 7, 2) := by decide +kernel
theorem dX9_comesTo_195 : decode cX9_comesTo 195 = .ok (.iconst 2, 1) := by decide +kernel
theorem dX9_comesTo_196 : decode cX9_comesTo 196 = .ok (.isub, 1) := by decide +kernel
theorem dX9_comesTo_197 : decode cX9_comesTo 197 = .ok (.iconst 0, 1) := by decide +kernel
theorem dX9_comesTo_198 : decode cX9_comesTo 198 = .ok (.bipush 60, 2) := by decide +kernel
theorem dX9_comesTo_200 : decode cX9_comesTo 200 = .ok (.invokestatic 402, 3) := by decide +kernel
theorem dX9_comesTo_203 : decode cX9_comesTo 203 = .ok (.istore 7, 2) := by decide +kernel
theorem dX9_comesTo_205 : decode cX9_comesTo 205 = .ok (.iinc 10 1, 3) := by decide +kernel
theorem dX9_comesTo_208 : decode cX9_comesTo 208 = .ok (.goto (-193), 3) := by decide +kernel
theorem dX9_comesTo_211 : decode cX9_comesTo 211 = .ok (.lload 8, 2) := by decide +kernel
theorem dX9_comesTo_213 : decode cX9_comesTo 213 = .ok (.lreturn, 1) := by decide +kernel
def BX9_comesTo_66 (x : MS) (q1 : Int32) (q2 : Int32) (q3 : Int32) (q4 : Int32) (q5 : Int32) (q6 : Int32) (q7 : Int32) (q8 : Int64) (q10 : Int32) (lp : Bool → Int32 → Option (Bool)) (u11 : Bool) (u12 : Int32) : Option (Bool) := if (x.1 0 13) ≤ u12 then some u11 else if u11 = true then if u12 = q4 then lt (u12 + 1) fun v4 => lp true v4 else Option.bind (fX9_isOf x q1 u12) fun v5 => if v5 = true then if ib q2 4 then Option.bind (fX9_carries x q4 q2 q10 (x.2.1 10 q2.toNatClampNeg) q7) fun v9 => if ib q2 4 then if ib u12 10 then Option.bind (fX9_carries x u12 q2 q10 (x.2.1 10 q2.toNatClampNeg) (x.2.1 9 u12.toNatClampNeg)) fun v13 => if v9 ≤ v13 then lt (u12 + 1) fun v15 => lp false v15 else lt (u12 + 1) fun v16 => lp true v16 else none else none else none else lt (u12 + 1) fun v7 => lp true v7 else lt (u12 + 1) fun v3 => lp false v3
def LX9_comesTo_66 (x : MS) (q1 : Int32) (q2 : Int32) (q3 : Int32) (q4 : Int32) (q5 : Int32) (q6 : Int32) (q7 : Int32) (q8 : Int64) (q10 : Int32) : Nat → Bool → Int32 → Option (Bool)
  | 0, _, _ => none
  | n + 1, u11, u12 => BX9_comesTo_66 x q1 q2 q3 q4 q5 q6 q7 q8 q10 (LX9_comesTo_66 x q1 q2 q3 q4 q5 q6 q7 q8 q10 n) u11 u12
def BX9_comesTo_15 (q1 : Int32) (q2 : Int32) (q3 : Int32) (q4 : Int32) (q5 : Int32) (q6 : Int32) (lp : Int32 → Int64 → Int32 → MS → Option (Int64 × MS)) (u7 : Int32) (u8 : Int64) (u10 : Int32) (x : MS) : Option (Int64 × MS) := if q3 < u10 then some (u8, x) else if ((q6 >>> (u10 &&& 31)) &&& 1) = 0 then bind2 (fX9_holdOf x q4 u7) fun v26 x27 => lt (u8 - (v26.toInt64)) fun v29 => Option.bind (fX9_within (u7 - 2) 0 60) fun v30 => lt (u10 + 1) fun v32 => lp v30 v29 v32 x27 else Option.bind (LX9_comesTo_66 x q1 q2 q3 q4 q5 q6 u7 u8 u10 NF true 0) fun v17 => Option.bind (if v17 = true then if u10 = q3 then some (q5.toInt64) else some 10 else some 0) fun v18 => lt (u8 + v18) fun v19 => if v17 = true then Option.bind (fX9_within (u7 + 4) 0 60) fun v23 => lt (u10 + 1) fun v25 => lp v23 v19 v25 x else Option.bind (fX9_within (u7 - 2) 0 60) fun v20 => lt (u10 + 1) fun v22 => lp v20 v19 v22 x
def LX9_comesTo_15 (q1 : Int32) (q2 : Int32) (q3 : Int32) (q4 : Int32) (q5 : Int32) (q6 : Int32) : Nat → Int32 → Int64 → Int32 → MS → Option (Int64 × MS)
  | 0, _, _, _, _ => none
  | n + 1, u7, u8, u10, x => BX9_comesTo_15 q1 q2 q3 q4 q5 q6 (LX9_comesTo_15 q1 q2 q3 q4 q5 q6 n) u7 u8 u10 x
def fX9_comesTo (x : MS) (a1 : Int32) (a2 : Int32) (a3 : Int32) (a4 : Int32) (a5 : Int32) (a6 : Int32) : Option (Int64 × MS) := if ib a4 10 then lt (x.2.1 9 a4.toNatClampNeg) fun v2 => bind2 (LX9_comesTo_15 a1 a2 a3 a4 a5 a6 NF v2 0 0 x) fun v33 x34 => some (v33, x34) else none
set_option maxHeartbeats 4000000 in
set_option maxRecDepth 100000 in
theorem lX9_comesTo_66 {p : Program} {l : Launch} {e : Env} {R : Room} {s : State} {m : MethodId} {args : Array Value} {below : List Frame} {meth : Method} {c : Code} {cells slots : Nat} {Q : State → Prop} {G : xG} {β N : Nat} (C : Cx p s m args meth c RX9 cX9_comesTo 13 (some .long) (KK G)) (hRf : 107 ≤ R.frames) (hRl : 2464 ≤ R.locals) (hcs : cells ≤ R.cells ∧ slots ≤ R.slots) (x : MS) (q1 : Int32) (q2 : Int32) (q3 : Int32) (q4 : Int32) (q5 : Int32) (q6 : Int32) (q7 : Int32) (q8 : Int64) (q10 : Int32) : ∀ (n : Nat) (u11 : Bool) (u12 : Int32) (J : Bool) (H : Heap) (locs : List Loc) (ls : Array Slot), LX9_comesTo_66 x q1 q2 q3 q4 q5 q6 q7 q8 q10 n u11 u12 = some J → MW β G N x H → va_S (AM β) s.heap H locs → lv_has ls 13 [(0, .ref β), (1, .int q1), (2, .int q2), (3, .int q3), (4, .int q4), (5, .int q5), (6, .int q6), (7, .int q7), (8, .long q8), (10, .int q10), (11, .int (bI u11)), (12, .int u12)] → (∀ (w11 : Bool), J = w11 → ∀ (H : Heap) (locs : List Loc) (ls : Array Slot), MW β G N x H → va_S (AM β) s.heap H locs → lv_has ls 13 [(0, .ref β), (1, .int q1), (2, .int q2), (3, .int q3), (4, .int q4), (5, .int q5), (6, .int q6), (7, .int q7), (8, .long q8), (10, .int q10), (11, .int (bI w11))] → W p l e R s m args below meth c H locs cells slots Q (F0 m 152 ls [])) → W p l e R s m args below meth c H locs cells slots Q (F0 m 66 ls []) := by
  have hx := C.1
  have hb := C.2.1
  have ho := C.2.2.2.1
  have hts := C.2.2.2.2.1
  intro n
  induction n with
  | zero =>
    intro u11 u12 J H locs ls hm
    exact absurd hm (by simp [LX9_comesTo_66])
  | succ n ih =>
    intro u11 u12 J H locs ls hm hw hS hl ke
    replace hm : BX9_comesTo_66 x q1 q2 q3 q4 q5 q6 q7 q8 q10 (LX9_comesTo_66 x q1 q2 q3 q4 q5 q6 q7 q8 q10 n) u11 u12 = some J := hm
    unfold BX9_comesTo_66 at hm
    refine lv_iload hx hb dX9_comesTo_66 (lv_at hl 11 rfl) ?_
    refine lv_aload_n hx hb dX9_comesTo_68 rfl (lv_at hl 0 rfl) ?_
    refine gX9_129 C hw dX9_comesTo_69 ?_
    refine lv_icmp_ge (tgt := 152) hx hb dX9_comesTo_72 (by decide) (fun cc => ?_) (fun cc => ?_)
    · replace hm := ite_p cc hm
      exact ke _ (Option.some.inj hm).symm _ _ _ hw hS (lv_sub hl [0, 1, 2, 3, 4, 5, 6, 7, 8, 9, 10] rfl)
    · replace hm := ite_n cc hm
      refine lv_iload hx hb dX9_comesTo_75 (lv_at hl 10 rfl) ?_
      refine x_ifeqB hx hb dX9_comesTo_77 (tgt := 143) (by decide) (fun cc => ?_) (fun cc => ?_)
      · replace hm := ite_n cc hm
        refine lv_iconst (v := 0) hx hb dX9_comesTo_143 (by decide) ?_
        refine lv_istore (lv' := [(11, .int 0), (0, .ref β), (1, .int q1), (2, .int q2), (3, .int q3), (4, .int q4), (5, .int q5), (6, .int q6), (7, .int q7), (8, .long q8), (10, .int q10), (12, .int u12)]) hx hb dX9_comesTo_144 hl (by decide) rfl (fun ls hl => ?_)
        obtain ⟨v3, ev, hm⟩ := lt_e hm
        refine lv_iinc (v := v3) (lv' := [(12, .int v3), (11, .int 0), (0, .ref β), (1, .int q1), (2, .int q2), (3, .int q3), (4, .int q4), (5, .int q5), (6, .int q6), (7, .int q7), (8, .long q8), (10, .int q10)]) hx hb dX9_comesTo_146 hl (k := 11) rfl (by rw [ev]; rfl) (by decide) rfl (fun ls hl => ?_)
        clear ev
        refine lv_goto (tgt := 66) hx hb dX9_comesTo_149 (by decide) ?_
        exact ih _ _ _ _ _ _ hm hw hS (lv_sub hl [2, 3, 4, 5, 6, 7, 8, 9, 10, 11, 1, 0] rfl) ke
      · replace hm := ite_p cc hm
        refine lv_iload hx hb dX9_comesTo_80 (lv_at hl 11 rfl) ?_
        refine lv_iload hx hb dX9_comesTo_82 (lv_at hl 4 rfl) ?_
        refine lv_icmp_eq (tgt := 139) hx hb dX9_comesTo_84 (by decide) (fun cc => ?_) (fun cc => ?_)
        · replace hm := ite_p cc hm
          refine lv_iconst (v := 1) hx hb dX9_comesTo_139 (by decide) ?_
          refine lv_goto (tgt := 144) hx hb dX9_comesTo_140 (by decide) ?_
          refine lv_istore (lv' := [(11, .int 1), (0, .ref β), (1, .int q1), (2, .int q2), (3, .int q3), (4, .int q4), (5, .int q5), (6, .int q6), (7, .int q7), (8, .long q8), (10, .int q10), (12, .int u12)]) hx hb dX9_comesTo_144 hl (by decide) rfl (fun ls hl => ?_)
          obtain ⟨v4, ev, hm⟩ := lt_e hm
          refine lv_iinc (v := v4) (lv' := [(12, .int v4), (11, .int 1), (0, .ref β), (1, .int q1), (2, .int q2), (3, .int q3), (4, .int q4), (5, .int q5), (6, .int q6), (7, .int q7), (8, .long q8), (10, .int q10)]) hx hb dX9_comesTo_146 hl (k := 11) rfl (by rw [ev]; rfl) (by decide) rfl (fun ls hl => ?_)
          clear ev
          refine lv_goto (tgt := 66) hx hb dX9_comesTo_149 (by decide) ?_
          exact ih _ _ _ _ _ _ hm hw hS (lv_sub hl [2, 3, 4, 5, 6, 7, 8, 9, 10, 11, 1, 0] rfl) ke
        · replace hm := ite_n cc hm
          refine lv_aload_n hx hb dX9_comesTo_87 rfl (lv_at hl 0 rfl) ?_
          refine lv_iload_n hx hb dX9_comesTo_88 rfl (lv_at hl 1 rfl) ?_
          refine lv_iload hx hb dX9_comesTo_89 (lv_at hl 11 rfl) ?_
          obtain ⟨v5, h6, hm⟩ := bind_e hm
          refine sX9_196 C h6 hw hS hl.1 (Nat.le_of_ble_eq_true rfl) (Nat.le_trans (Nat.le_of_ble_eq_true rfl) hRf) (Nat.le_trans (Nat.le_of_ble_eq_true rfl) hRl) hcs dX9_comesTo_91 (fun H locs hw hS => ?_)
          refine x_ifeqB hx hb dX9_comesTo_94 (tgt := 139) (by decide) (fun cc => ?_) (fun cc => ?_)
          · replace hm := ite_n cc hm
            refine lv_iconst (v := 1) hx hb dX9_comesTo_139 (by decide) ?_
            refine lv_goto (tgt := 144) hx hb dX9_comesTo_140 (by decide) ?_
            refine lv_istore (lv' := [(11, .int 1), (0, .ref β), (1, .int q1), (2, .int q2), (3, .int q3), (4, .int q4), (5, .int q5), (6, .int q6), (7, .int q7), (8, .long q8), (10, .int q10), (12, .int u12)]) hx hb dX9_comesTo_144 hl (by decide) rfl (fun ls hl => ?_)
            obtain ⟨v7, ev, hm⟩ := lt_e hm
            refine lv_iinc (v := v7) (lv' := [(12, .int v7), (11, .int 1), (0, .ref β), (1, .int q1), (2, .int q2), (3, .int q3), (4, .int q4), (5, .int q5), (6, .int q6), (7, .int q7), (8, .long q8), (10, .int q10)]) hx hb dX9_comesTo_146 hl (k := 11) rfl (by rw [ev]; rfl) (by decide) rfl (fun ls hl => ?_)
            clear ev
            refine lv_goto (tgt := 66) hx hb dX9_comesTo_149 (by decide) ?_
            exact ih _ _ _ _ _ _ hm hw hS (lv_sub hl [2, 3, 4, 5, 6, 7, 8, 9, 10, 11, 1, 0] rfl) ke
          · replace hm := ite_p cc hm
            refine lv_aload_n hx hb dX9_comesTo_97 rfl (lv_at hl 0 rfl) ?_
            refine lv_iload hx hb dX9_comesTo_98 (lv_at hl 4 rfl) ?_
            refine lv_iload_n hx hb dX9_comesTo_100 rfl (lv_at hl 2 rfl) ?_
            refine lv_iload hx hb dX9_comesTo_101 (lv_at hl 9 rfl) ?_
            refine lv_aload_n hx hb dX9_comesTo_103 rfl (lv_at hl 0 rfl) ?_
            refine gX9_41 C hw dX9_comesTo_104 ?_
            refine lv_iload_n hx hb dX9_comesTo_107 rfl (lv_at hl 2 rfl) ?_
            obtain ⟨h8, hm⟩ := chk_e hm
            refine alM_10 C hw h8 dX9_comesTo_108 ?_
            refine lv_iload hx hb dX9_comesTo_109 (lv_at hl 7 rfl) ?_
            obtain ⟨v9, h10, hm⟩ := bind_e hm
            refine sX9_200 C h10 hw hS hl.1 (Nat.le_of_ble_eq_true rfl) (Nat.le_trans (Nat.le_of_ble_eq_true rfl) hRf) (Nat.le_trans (Nat.le_of_ble_eq_true rfl) hRl) hcs dX9_comesTo_111 (fun H locs hw hS => ?_)
            refine lv_aload_n hx hb dX9_comesTo_114 rfl (lv_at hl 0 rfl) ?_
            refine lv_iload hx hb dX9_comesTo_115 (lv_at hl 11 rfl) ?_
            refine lv_iload_n hx hb dX9_comesTo_117 rfl (lv_at hl 2 rfl) ?_
            refine lv_iload hx hb dX9_comesTo_118 (lv_at hl 9 rfl) ?_
            refine lv_aload_n hx hb dX9_comesTo_120 rfl (lv_at hl 0 rfl) ?_
            refine gX9_41 C hw dX9_comesTo_121 ?_
            refine lv_iload_n hx hb dX9_comesTo_124 rfl (lv_at hl 2 rfl) ?_
            obtain ⟨h11, hm⟩ := chk_e hm
            refine alM_10 C hw h11 dX9_comesTo_125 ?_
            refine lv_aload_n hx hb dX9_comesTo_126 rfl (lv_at hl 0 rfl) ?_
            refine gX9_38 C hw dX9_comesTo_127 ?_
            refine lv_iload hx hb dX9_comesTo_130 (lv_at hl 11 rfl) ?_
            obtain ⟨h12, hm⟩ := chk_e hm
            refine alM_9 C hw h12 dX9_comesTo_132 ?_
            obtain ⟨v13, h14, hm⟩ := bind_e hm
            refine sX9_200 C h14 hw hS hl.1 (Nat.le_of_ble_eq_true rfl) (Nat.le_trans (Nat.le_of_ble_eq_true rfl) hRf) (Nat.le_trans (Nat.le_of_ble_eq_true rfl) hRl) hcs dX9_comesTo_133 (fun H locs hw hS => ?_)
            refine lv_icmp_le (tgt := 143) hx hb dX9_comesTo_136 (by decide) (fun cc => ?_) (fun cc => ?_)
            · replace hm := ite_p cc hm
              refine lv_iconst (v := 0) hx hb dX9_comesTo_143 (by decide) ?_
              refine lv_istore (lv' := [(11, .int 0), (0, .ref β), (1, .int q1), (2, .int q2), (3, .int q3), (4, .int q4), (5, .int q5), (6, .int q6), (7, .int q7), (8, .long q8), (10, .int q10), (12, .int u12)]) hx hb dX9_comesTo_144 hl (by decide) rfl (fun ls hl => ?_)
              obtain ⟨v15, ev, hm⟩ := lt_e hm
              refine lv_iinc (v := v15) (lv' := [(12, .int v15), (11, .int 0), (0, .ref β), (1, .int q1), (2, .int q2), (3, .int q3), (4, .int q4), (5, .int q5), (6, .int q6), (7, .int q7), (8, .long q8), (10, .int q10)]) hx hb dX9_comesTo_146 hl (k := 11) rfl (by rw [ev]; rfl) (by decide) rfl (fun ls hl => ?_)
              clear ev
              refine lv_goto (tgt := 66) hx hb dX9_comesTo_149 (by decide) ?_
              exact ih _ _ _ _ _ _ hm hw hS (lv_sub hl [2, 3, 4, 5, 6, 7, 8, 9, 10, 11, 1, 0] rfl) ke
            · replace hm := ite_n cc hm
              refine lv_iconst (v := 1) hx hb dX9_comesTo_139 (by decide) ?_
              refine lv_goto (tgt := 144) hx hb dX9_comesTo_140 (by decide) ?_
              refine lv_istore (lv' := [(11, .int 1), (0, .ref β), (1, .int q1), (2, .int q2), (3, .int q3), (4, .int q4), (5, .int q5), (6, .int q6), (7, .int q7), (8, .long q8), (10, .int q10), (12, .int u12)]) hx hb dX9_comesTo_144 hl (by decide) rfl (fun ls hl => ?_)
              obtain ⟨v16, ev, hm⟩ := lt_e hm
              refine lv_iinc (v := v16) (lv' := [(12, .int v16), (11, .int 1), (0, .ref β), (1, .int q1), (2, .int q2), (3, .int q3), (4, .int q4), (5, .int q5), (6, .int q6), (7, .int q7), (8, .long q8), (10, .int q10)]) hx hb dX9_comesTo_146 hl (k := 11) rfl (by rw [ev]; rfl) (by decide) rfl (fun ls hl => ?_)
              clear ev
              refine lv_goto (tgt := 66) hx hb dX9_comesTo_149 (by decide) ?_
              exact ih _ _ _ _ _ _ hm hw hS (lv_sub hl [2, 3, 4, 5, 6, 7, 8, 9, 10, 11, 1, 0] rfl) ke
set_option maxHeartbeats 4000000 in
set_option maxRecDepth 100000 in
theorem lX9_comesTo_15 {p : Program} {l : Launch} {e : Env} {R : Room} {s : State} {m : MethodId} {args : Array Value} {below : List Frame} {meth : Method} {c : Code} {cells slots : Nat} {Q : State → Prop} {G : xG} {β N : Nat} (C : Cx p s m args meth c RX9 cX9_comesTo 13 (some .long) (KK G)) (hRf : 107 ≤ R.frames) (hRl : 2464 ≤ R.locals) (hcs : cells ≤ R.cells ∧ slots ≤ R.slots) (q1 : Int32) (q2 : Int32) (q3 : Int32) (q4 : Int32) (q5 : Int32) (q6 : Int32) : ∀ (n : Nat) (u7 : Int32) (u8 : Int64) (u10 : Int32) (x : MS) (J : Int64 × MS) (H : Heap) (locs : List Loc) (ls : Array Slot), LX9_comesTo_15 q1 q2 q3 q4 q5 q6 n u7 u8 u10 x = some J → MW β G N x H → va_S (AM β) s.heap H locs → lv_has ls 13 [(0, .ref β), (1, .int q1), (2, .int q2), (3, .int q3), (4, .int q4), (5, .int q5), (6, .int q6), (7, .int u7), (8, .long u8), (10, .int u10)] → (∀ (w8 : Int64) (x1 : MS), J = (w8, x1) → ∀ (H : Heap) (locs : List Loc) (ls : Array Slot), MW β G N x1 H → va_S (AM β) s.heap H locs → lv_has ls 13 [(8, .long w8)] → W p l e R s m args below meth c H locs cells slots Q (F0 m 211 ls [])) → W p l e R s m args below meth c H locs cells slots Q (F0 m 15 ls []) := by
  have hx := C.1
  have hb := C.2.1
  have ho := C.2.2.2.1
  have hts := C.2.2.2.2.1
  intro n
  induction n with
  | zero =>
    intro u7 u8 u10 x J H locs ls hm
    exact absurd hm (by simp [LX9_comesTo_15])
  | succ n ih =>
    intro u7 u8 u10 x J H locs ls hm hw hS hl ke
    replace hm : BX9_comesTo_15 q1 q2 q3 q4 q5 q6 (LX9_comesTo_15 q1 q2 q3 q4 q5 q6 n) u7 u8 u10 x = some J := hm
    unfold BX9_comesTo_15 at hm
    refine lv_iload hx hb dX9_comesTo_15 (lv_at hl 9 rfl) ?_
    refine lv_iload_n hx hb dX9_comesTo_17 rfl (lv_at hl 3 rfl) ?_
    refine lv_icmp_gt (tgt := 211) hx hb dX9_comesTo_18 (by decide) (fun cc => ?_) (fun cc => ?_)
    · replace hm := ite_p cc hm
      exact ke _ _ (Option.some.inj hm).symm _ _ _ hw hS (lv_sub hl [8] rfl)
    · replace hm := ite_n cc hm
      refine lv_iload hx hb dX9_comesTo_21 (lv_at hl 6 rfl) ?_
      refine lv_iload hx hb dX9_comesTo_23 (lv_at hl 9 rfl) ?_
      refine lv_ishr hx hb dX9_comesTo_25 ?_
      refine lv_iconst (v := 1) hx hb dX9_comesTo_26 (by decide) ?_
      refine lv_iand hx hb dX9_comesTo_27 ?_
      refine lv_if_ne (tgt := 60) hx hb dX9_comesTo_28 (by decide) (fun cc => ?_) (fun cc => ?_)
      · replace hm := ite_n cc hm
        refine lv_iconst (v := 1) hx hb dX9_comesTo_60 (by decide) ?_
        refine lv_istore (lv' := [(11, .int 1), (0, .ref β), (1, .int q1), (2, .int q2), (3, .int q3), (4, .int q4), (5, .int q5), (6, .int q6), (7, .int u7), (8, .long u8), (10, .int u10)]) hx hb dX9_comesTo_61 hl (by decide) rfl (fun ls hl => ?_)
        refine lv_iconst (v := 0) hx hb dX9_comesTo_63 (by decide) ?_
        refine lv_istore (lv' := [(12, .int 0), (11, .int 1), (0, .ref β), (1, .int q1), (2, .int q2), (3, .int q3), (4, .int q4), (5, .int q5), (6, .int q6), (7, .int u7), (8, .long u8), (10, .int u10)]) hx hb dX9_comesTo_64 hl (by decide) rfl (fun ls hl => ?_)
        obtain ⟨v17, hj, hm⟩ := bind_e hm
        refine lX9_comesTo_66 C hRf hRl hcs x q1 q2 q3 q4 q5 q6 u7 u8 u10 NF _ _ _ _ _ _ hj hw hS (lv_sub hl [2, 3, 4, 5, 6, 7, 8, 9, 10, 11, 1, 0] rfl) (fun v17_ e0 H locs ls hw hS hl => ?_)
        cases e0
        refine lv_lload hx hb dX9_comesTo_152 (lv_at hl 8 rfl) ?_
        refine lv_iload hx hb dX9_comesTo_154 (lv_at hl 10 rfl) ?_
        obtain ⟨v18, hj, hm⟩ := bind_e hm
        have kk : ∀ (H : Heap) (locs : List Loc) (ls : Array Slot), MW β G N x H → va_S (AM β) s.heap H locs → lv_has ls 13 [(0, .ref β), (1, .int q1), (2, .int q2), (3, .int q3), (4, .int q4), (5, .int q5), (6, .int q6), (7, .int u7), (10, .int u10), (11, .int (bI v17))] → W p l e R s m args below meth c H locs cells slots Q (F0 m 178 ls [.long v18, .long u8]) := by
          intro H locs ls hw hS hl
          refine lv_ladd hx hb dX9_comesTo_178 ?_
          refine topJ hm (fun v19 hm => ?_)
          refine lv_lstore (lv' := [(8, .long v19), (0, .ref β), (1, .int q1), (2, .int q2), (3, .int q3), (4, .int q4), (5, .int q5), (6, .int q6), (7, .int u7), (10, .int u10), (11, .int (bI v17))]) hx hb dX9_comesTo_179 hl (by decide) rfl (fun ls hl => ?_)
          refine lv_iload hx hb dX9_comesTo_181 (lv_at hl 10 rfl) ?_
          refine x_ifeqB hx hb dX9_comesTo_183 (tgt := 193) (by decide) (fun cc => ?_) (fun cc => ?_)
          · replace hm := ite_n cc hm
            refine lv_iload hx hb dX9_comesTo_193 (lv_at hl 8 rfl) ?_
            refine lv_iconst (v := 2) hx hb dX9_comesTo_195 (by decide) ?_
            refine lv_isub hx hb dX9_comesTo_196 ?_
            refine lv_iconst (v := 0) hx hb dX9_comesTo_197 (by decide) ?_
            refine lv_bipush (v := 60) hx hb dX9_comesTo_198 (by decide) ?_
            obtain ⟨v20, h21, hm⟩ := bind_e hm
            refine sX9_402 C h21 hw hS hl.1 (Nat.le_of_ble_eq_true rfl) (Nat.le_trans (Nat.le_of_ble_eq_true rfl) hRf) (Nat.le_trans (Nat.le_of_ble_eq_true rfl) hRl) hcs dX9_comesTo_200 (fun H locs hw hS => ?_)
            refine lv_istore (lv' := [(7, .int v20), (8, .long v19), (0, .ref β), (1, .int q1), (2, .int q2), (3, .int q3), (4, .int q4), (5, .int q5), (6, .int q6), (10, .int u10), (11, .int (bI v17))]) hx hb dX9_comesTo_203 hl (by decide) rfl (fun ls hl => ?_)
            obtain ⟨v22, ev, hm⟩ := lt_e hm
            refine lv_iinc (v := v22) (lv' := [(10, .int v22), (7, .int v20), (8, .long v19), (0, .ref β), (1, .int q1), (2, .int q2), (3, .int q3), (4, .int q4), (5, .int q5), (6, .int q6), (11, .int (bI v17))]) hx hb dX9_comesTo_205 hl (k := 9) rfl (by rw [ev]; rfl) (by decide) rfl (fun ls hl => ?_)
            clear ev
            refine lv_goto (tgt := 15) hx hb dX9_comesTo_208 (by decide) ?_
            exact ih _ _ _ _ _ _ _ _ hm hw hS (lv_sub hl [3, 4, 5, 6, 7, 8, 9, 1, 2, 0] rfl) ke
          · replace hm := ite_p cc hm
            refine lv_iload hx hb dX9_comesTo_186 (lv_at hl 8 rfl) ?_
            refine lv_iconst (v := 4) hx hb dX9_comesTo_188 (by decide) ?_
            refine lv_iadd hx hb dX9_comesTo_189 ?_
            refine lv_goto (tgt := 197) hx hb dX9_comesTo_190 (by decide) ?_
            refine lv_iconst (v := 0) hx hb dX9_comesTo_197 (by decide) ?_
            refine lv_bipush (v := 60) hx hb dX9_comesTo_198 (by decide) ?_
            obtain ⟨v23, h24, hm⟩ := bind_e hm
            refine sX9_402 C h24 hw hS hl.1 (Nat.le_of_ble_eq_true rfl) (Nat.le_trans (Nat.le_of_ble_eq_true rfl) hRf) (Nat.le_trans (Nat.le_of_ble_eq_true rfl) hRl) hcs dX9_comesTo_200 (fun H locs hw hS => ?_)
            refine lv_istore (lv' := [(7, .int v23), (8, .long v19), (0, .ref β), (1, .int q1), (2, .int q2), (3, .int q3), (4, .int q4), (5, .int q5), (6, .int q6), (10, .int u10), (11, .int (bI v17))]) hx hb dX9_comesTo_203 hl (by decide) rfl (fun ls hl => ?_)
            obtain ⟨v25, ev, hm⟩ := lt_e hm
            refine lv_iinc (v := v25) (lv' := [(10, .int v25), (7, .int v23), (8, .long v19), (0, .ref β), (1, .int q1), (2, .int q2), (3, .int q3), (4, .int q4), (5, .int q5), (6, .int q6), (11, .int (bI v17))]) hx hb dX9_comesTo_205 hl (k := 9) rfl (by rw [ev]; rfl) (by decide) rfl (fun ls hl => ?_)
            clear ev
            refine lv_goto (tgt := 15) hx hb dX9_comesTo_208 (by decide) ?_
            exact ih _ _ _ _ _ _ _ _ hm hw hS (lv_sub hl [3, 4, 5, 6, 7, 8, 9, 1, 2, 0] rfl) ke
        clear hm
        replace hm := hj
        clear hj
        refine x_ifeqB hx hb dX9_comesTo_156 (tgt := 177) (by decide) (fun cc => ?_) (fun cc => ?_)
        · replace hm := ite_n cc hm
          refine lv_lconst (v := 0) hx hb dX9_comesTo_177 (by decide) ?_
          obtain rfl := Option.some.inj hm
          exact kk _ _ _ hw hS (lv_sub hl [0, 1, 2, 3, 4, 5, 6, 7, 9, 10] rfl)
        · replace hm := ite_p cc hm
          refine lv_iload hx hb dX9_comesTo_159 (lv_at hl 9 rfl) ?_
          refine lv_iload_n hx hb dX9_comesTo_161 rfl (lv_at hl 3 rfl) ?_
          refine lv_icmp_ne (tgt := 171) hx hb dX9_comesTo_162 (by decide) (fun cc => ?_) (fun cc => ?_)
          · replace hm := ite_n cc hm
            refine lv_ldc2 (v := 10) hx hb ho (hts (.constantLong RX9 307 10) (tg 1167 (by decide +kernel) rfl)) dX9_comesTo_171 ?_
            refine lv_goto (tgt := 178) hx hb dX9_comesTo_174 (by decide) ?_
            obtain rfl := Option.some.inj hm
            exact kk _ _ _ hw hS (lv_sub hl [0, 1, 2, 3, 4, 5, 6, 7, 9, 10] rfl)
          · replace hm := ite_p cc hm
            refine lv_iload hx hb dX9_comesTo_165 (lv_at hl 5 rfl) ?_
            refine lv_i2l hx hb dX9_comesTo_167 rfl ?_
            refine lv_goto (tgt := 178) hx hb dX9_comesTo_168 (by decide) ?_
            obtain rfl := Option.some.inj hm
            exact kk _ _ _ hw hS (lv_sub hl [0, 1, 2, 3, 4, 5, 6, 7, 9, 10] rfl)
      · replace hm := ite_p cc hm
        refine lv_lload hx hb dX9_comesTo_31 (lv_at hl 8 rfl) ?_
        refine lv_aload_n hx hb dX9_comesTo_33 rfl (lv_at hl 0 rfl) ?_
        refine lv_iload hx hb dX9_comesTo_34 (lv_at hl 4 rfl) ?_
        refine lv_iload hx hb dX9_comesTo_36 (lv_at hl 7 rfl) ?_
        obtain ⟨v26, x27, h28, hm⟩ := bind2_e hm
        refine sX9_181 C h28 hw hS hl.1 (Nat.le_of_ble_eq_true rfl) (Nat.le_trans (Nat.le_of_ble_eq_true rfl) hRf) (Nat.le_trans (Nat.le_of_ble_eq_true rfl) hRl) hcs dX9_comesTo_38 (fun H locs hw hS => ?_)
        refine lv_i2l hx hb dX9_comesTo_41 rfl ?_
        refine lv_lsub hx hb dX9_comesTo_42 ?_
        refine topJ hm (fun v29 hm => ?_)
        refine lv_lstore (lv' := [(8, .long v29), (0, .ref β), (1, .int q1), (2, .int q2), (3, .int q3), (4, .int q4), (5, .int q5), (6, .int q6), (7, .int u7), (10, .int u10)]) hx hb dX9_comesTo_43 hl (by decide) rfl (fun ls hl => ?_)
        refine lv_iload hx hb dX9_comesTo_45 (lv_at hl 8 rfl) ?_
        refine lv_iconst (v := 2) hx hb dX9_comesTo_47 (by decide) ?_
        refine lv_isub hx hb dX9_comesTo_48 ?_
        refine lv_iconst (v := 0) hx hb dX9_comesTo_49 (by decide) ?_
        refine lv_bipush (v := 60) hx hb dX9_comesTo_50 (by decide) ?_
        obtain ⟨v30, h31, hm⟩ := bind_e hm
        refine sX9_402 C h31 hw hS hl.1 (Nat.le_of_ble_eq_true rfl) (Nat.le_trans (Nat.le_of_ble_eq_true rfl) hRf) (Nat.le_trans (Nat.le_of_ble_eq_true rfl) hRl) hcs dX9_comesTo_52 (fun H locs hw hS => ?_)
        refine lv_istore (lv' := [(7, .int v30), (8, .long v29), (0, .ref β), (1, .int q1), (2, .int q2), (3, .int q3), (4, .int q4), (5, .int q5), (6, .int q6), (10, .int u10)]) hx hb dX9_comesTo_55 hl (by decide) rfl (fun ls hl => ?_)
        refine lv_goto (tgt := 205) hx hb dX9_comesTo_57 (by decide) ?_
        obtain ⟨v32, ev, hm⟩ := lt_e hm
        refine lv_iinc (v := v32) (lv' := [(10, .int v32), (7, .int v30), (8, .long v29), (0, .ref β), (1, .int q1), (2, .int q2), (3, .int q3), (4, .int q4), (5, .int q5), (6, .int q6)]) hx hb dX9_comesTo_205 hl (k := 9) rfl (by rw [ev]; rfl) (by decide) rfl (fun ls hl => ?_)
        clear ev
        refine lv_goto (tgt := 15) hx hb dX9_comesTo_208 (by decide) ?_
        exact ih _ _ _ _ _ _ _ _ hm hw hS (lv_sub hl [3, 4, 5, 6, 7, 8, 9, 1, 2, 0] rfl) ke
abbrev rmX9_comesTo : Room := { frames := 107, cells := 0, slots := 0, locals := 2464 }
set_option maxHeartbeats 4000000 in
set_option maxRecDepth 100000 in
theorem kX9_comesTo {l : Launch} {G : xG} {β N : Nat} {x x' : MS} {a1 : Int32} {a2 : Int32} {a3 : Int32} {a4 : Int32} {a5 : Int32} {a6 : Int32} {r : Int64} (hm : fX9_comesTo x a1 a2 a3 a4 a5 a6 = some (r, x')) : Met l yX9_comesTo (.code yX9_comesTo cX9_comesTo 13 (some .long) :: GT) rmX9_comesTo (PcW [.ref β, .int a1, .int a2, .int a3, .int a4, .int a5, .int a6] (MW β G N x) (KK G)) (QcW (AM β) (some (.long r)) (MW β G N x')) 0 0 (AM β) := by
  unfold fX9_comesTo at hm
  refine xpro (own := RX9) (by decide +kernel) rfl (Nat.le_of_ble_eq_true rfl) ?_
  intro p e s m args below meth c C hw ls hl
  have hx := C.1
  have hb := C.2.1
  have ho := C.2.2.2.1
  have hts := C.2.2.2.2.1
  have hS : va_S (AM β) s.heap s.heap [] := va_S.rf
  have hl : lv_has ls 13 [(0, .ref β), (1, .int a1), (2, .int a2), (3, .int a3), (4, .int a4), (5, .int a5), (6, .int a6)] := hl
  have hRf : 107 ≤ rmX9_comesTo.frames := Nat.le_refl _
  have hRl : 2464 ≤ rmX9_comesTo.locals := Nat.le_refl _
  have hcs : 0 ≤ rmX9_comesTo.cells ∧ 0 ≤ rmX9_comesTo.slots := ⟨Nat.le_refl _, Nat.le_refl _⟩
  refine lv_aload_n hx hb dX9_comesTo_0 rfl (lv_at hl 0 rfl) ?_
  refine gX9_38 C hw dX9_comesTo_1 ?_
  refine lv_iload hx hb dX9_comesTo_4 (lv_at hl 4 rfl) ?_
  obtain ⟨h1, hm⟩ := chk_e hm
  refine alM_9 C hw h1 dX9_comesTo_6 ?_
  refine topI hm (fun v2 hm => ?_)
  refine lv_istore (lv' := [(7, .int v2), (0, .ref β), (1, .int a1), (2, .int a2), (3, .int a3), (4, .int a4), (5, .int a5), (6, .int a6)]) hx hb dX9_comesTo_7 hl (by decide) rfl (fun ls hl => ?_)
  refine lv_lconst (v := 0) hx hb dX9_comesTo_9 (by decide) ?_
  refine lv_lstore (lv' := [(8, .long 0), (7, .int v2), (0, .ref β), (1, .int a1), (2, .int a2), (3, .int a3), (4, .int a4), (5, .int a5), (6, .int a6)]) hx hb dX9_comesTo_10 hl (by decide) rfl (fun ls hl => ?_)
  refine lv_iconst (v := 0) hx hb dX9_comesTo_12 (by decide) ?_
  refine lv_istore (lv' := [(10, .int 0), (8, .long 0), (7, .int v2), (0, .ref β), (1, .int a1), (2, .int a2), (3, .int a3), (4, .int a4), (5, .int a5), (6, .int a6)]) hx hb dX9_comesTo_13 hl (by decide) rfl (fun ls hl => ?_)
  obtain ⟨v33, x34, hj, hm⟩ := bind2_e hm
  refine lX9_comesTo_15 C hRf hRl hcs a1 a2 a3 a4 a5 a6 NF _ _ _ _ _ _ _ _ hj hw hS (lv_sub hl [3, 4, 5, 6, 7, 8, 9, 2, 1, 0] rfl) (fun v33_ x34_ e0 H locs ls hw hS hl => ?_)
  cases e0
  refine lv_lload hx hb dX9_comesTo_211 (lv_at hl 0 rfl) ?_
  obtain ⟨rfl, rfl⟩ := inj2 hm
  exact xret_l C hw hS dX9_comesTo_213
theorem dX9_holding_0 : decode cX9_holding 0 = .ok (.aload_n 0, 1) := by decide +kernel
theorem dX9_holding_1 : decode cX9_holding 1 = .ok (.iload_n 1, 1) := by decide +kernel
theorem dX9_holding_2 : decode cX9_holding 2 = .ok (.invokevirtual 222, 3) := by decide +kernel
theorem dX9_holding_5 : decode cX9_holding 5 = .ok (.ifCond .eq 48, 3) := by decide +kernel
theorem dX9_holding_8 : decode cX9_holding 8 = .ok (.iload_n 2, 1) := by decide +kernel
theorem dX9_holding_9 : decode cX9_holding 9 = .ok (.invokestatic 225, 3) := by decide +kernel
theorem dX9_holding_12 : decode cX9_holding 12 = .ok (.ifCond .eq 41, 3) := by decide +kernel
theorem dX9_holding_15 : decode cX9_holding 15 = .ok (.iload_n 2, 1) := by decide +kernel
theorem dX9_holding_16 : decode cX9_holding 16 = .ok (.bipush 100, 2) := by decide +kernel
theorem dX9_holding_18 : decode cX9_holding 18 = .ok (.irem, 1) := by decide +kernel
theorem dX9_holding_19 : decode cX9_holding 19 = .ok (.iconst 5, 1) := by decide +kernel
theorem dX9_holding_20 : decode cX9_holding 20 = .ok (.if_icmp .gt 33, 3) := by decide +kernel
theorem dX9_holding_23 : decode cX9_holding 23 = .ok (.aload_n 0, 1) := by decide +kernel
theorem dX9_holding_24 : decode cX9_holding 24 = .ok (.iload_n 1, 1) := by decide +kernel
theorem dX9_holding_25 : decode cX9_holding 25 = .ok (.iload_n 3, 1) := by decide +kernel
theorem dX9_holding_26 : decode cX9_holding 26 = .ok (.invokevirtual 196, 3) := by decide +kernel
theorem dX9_holding_29 : decode cX9_holding 29 = .ok (.ifCond .eq 24, 3) := by decide +kernel
theorem dX9_holding_32 : decode cX9_holding 32 = .ok (.iload 4, 2) := by decide +kernel
theorem dX9_holding_34 : decode cX9_holding 34 = .ok (.i2l, 1) := by decide +kernel
theorem dX9_holding_35 : decode cX9_holding 35 = .ok (.lconst 0, 1) := by decide +kernel
theorem dX9_holding_36 : decode cX9_holding 36 = .ok (.ldc2_w 414, 3) := by decide +kernel
theorem dX9_holding_39 : decode cX9_holding 39 = .ok (.invokestatic 132, 3) := by decide +kernel
theorem dX9_holding_42 : decode cX9_holding 42 = .ok (.ifCond .eq 11, 3) := by decide +kernel
theorem dX9_holding_45 : decode cX9_holding 45 = .ok (.iload 5, 2) := by decide +kernel
theorem dX9_holding_47 : decode cX9_holding 47 = .ok (.invokestatic 228, 3) := by decide +kernel
theorem dX9_holding_50 : decode cX9_holding 50 = .ok (.ifCond .ne 7, 3) := by decide +kernel
theorem dX9_holding_53 : decode cX9_holding 53 = .ok (.ldc2_w 167, 3) := by decide +kernel
theorem dX9_holding_56 : decode cX9_holding 56 = .ok (.lreturn, 1) := by decide +kernel
theorem dX9_holding_57 : decode cX9_holding 57 = .ok (.iload_n 2, 1) := by decide +kernel
theorem dX9_holding_58 : decode cX9_holding 58 = .ok (.bipush 100, 2) := by decide +kernel
theorem dX9_holding_60 : decode cX9_holding 60 = .ok (.irem, 1) := by decide +kernel
theorem dX9_holding_61 : decode cX9_holding 61 = .ok (.istore 6, 2) := by decide +kernel
theorem dX9_holding_63 : decode cX9_holding 63 = .ok (.iconst 0, 1) := by decide +kernel
theorem dX9_holding_64 : decode cX9_holding 64 = .ok (.istore 7, 2) := by decide +kernel
theorem dX9_holding_66 : decode cX9_holding 66 = .ok (.ldc2_w 167, 3) := by decide +kernel
theorem dX9_holding_69 : decode cX9_holding 69 = .ok (.lstore 8, 2) := by decide +kernel
theorem dX9_holding_71 : decode cX9_holding 71 = .ok (.iconst 0, 1) := by decide +kernel
theorem dX9_holding_72 : decode cX9_holding 72 = .ok (.istore 10, 2) := by decide +kernel
theorem dX9_holding_74 : decode cX9_holding 74 = .ok (.iload 10, 2) := by decide +kernel
theorem dX9_holding_76 : decode cX9_holding 76 = .ok (.iconst 2, 1) := by decide +kernel
theorem dX9_holding_77 : decode cX9_holding 77 = .ok (.iload 6, 2) := by decide +kernel
theorem dX9_holding_79 : decode cX9_holding 79 = .ok (.ishl, 1) := by decide +kernel
theorem dX9_holding_80 : decode cX9_holding 80 = .ok (.if_icmp .ge 46, 3) := by decide +kernel
theorem dX9_holding_83 : decode cX9_holding 83 = .ok (.aload_n 0, 1) := by decide +kernel
theorem dX9_holding_84 : decode cX9_holding 84 = .ok (.iload_n 1, 1) := by decide +kernel
theorem dX9_holding_85 : decode cX9_holding 85 = .ok (.iload_n 2, 1) := by decide +kernel
theorem dX9_holding_86 : decode cX9_holding 86 = .ok (.bipush 100, 2) := by decide +kernel
theorem dX9_holding_88 : decode cX9_holding 88 = .ok (.idiv, 1) := by decide +kernel
theorem dX9_holding_89 : decode cX9_holding 89 = .ok (.iload 6, 2) := by decide +kernel
theorem dX9_holding_91 : decode cX9_holding 91 = .ok (.iload_n 3, 1) := by decide +kernel
theorem dX9_holding_92 : decode cX9_holding 92 = .ok (.iload 4, 2) := by decide +kernel
theorem dX9_holding_94 : decode cX9_holding 94 = .ok (.iload 10, 2) := by decide +kernel
theorem dX9_holding_96 : decode cX9_holding 96 = .ok (.invokevirtual 416, 3) := by decide +kernel
theorem dX9_holding_99 : decode cX9_holding 99 = .ok (.lstore 11, 2) := by decide +kernel
theorem dX9_holding_101 : decode cX9_holding 101 = .ok (.lload 11, 2) := by decide +kernel
theorem dX9_holding_103 : decode cX9_holding 103 = .ok (.lload 8, 2) := by decide +kernel
theorem dX9_holding_105 : decode cX9_holding 105 = .ok (.lcmp, 1) := by decide +kernel
theorem dX9_holding_106 : decode cX9_holding 106 = .ok (.ifCond .gt 6, 3) := by decide +kernel
theorem dX9_holding_109 : decode cX9_holding 109 = .ok (.goto 11, 3) := by decide +kernel
theorem dX9_holding_112 : decode cX9_holding 112 = .ok (.lload 11, 2) := by decide +kernel
theorem dX9_holding_114 : decode cX9_holding 114 = .ok (.lstore 8, 2) := by decide +kernel
theorem dX9_holding_116 : decode cX9_holding 116 = .ok (.iload 10, 2) := by decide +kernel
theorem dX9_holding_118 : decode cX9_holding 118 = .ok (.istore 7, 2) := by decide +kernel
theorem dX9_holding_120 : decode cX9_holding 120 = .ok (.iinc 10 1, 3) := by decide +kernel
theorem dX9_holding_123 : decode cX9_holding 123 = .ok (.goto (-49), 3) := by decide +kernel
theorem dX9_holding_126 : decode cX9_holding 126 = .ok (.iload 5, 2) := by decide +kernel
theorem dX9_holding_128 : decode cX9_holding 128 = .ok (.ifCond .ne 9, 3) := by decide +kernel
theorem dX9_holding_131 : decode cX9_holding 131 = .ok (.iload 7, 2) := by decide +kernel
theorem dX9_holding_133 : decode cX9_holding 133 = .ok (.i2l, 1) := by decide +kernel
theorem dX9_holding_134 : decode cX9_holding 134 = .ok (.goto 5, 3) := by decide +kernel
theorem dX9_holding_137 : decode cX9_holding 137 = .ok (.lload 8, 2) := by decide +kernel
theorem dX9_holding_139 : decode cX9_holding 139 = .ok (.lreturn, 1) := by decide +kernel
theorem sX9_416 {p : Program} {l : Launch} {e : Env} {R : Room} {s : State} {m : MethodId} {args : Array Value} {below : List Frame} {meth : Method} {c : Code} {H : Heap} {locs : List Loc} {cells slots : Nat} {Q : State → Prop} {cc : ByteArray} {pc nL : Nat} {ls : Array Slot} {rest : List Value} {ret : Option FieldType} {G : xG} {β N : Nat} {x x' : MS} {a1 : Int32} {a2 : Int32} {a3 : Int32} {a4 : Int32} {a5 : Int32} {a6 : Int32} {r : Int64} (C : Cx p s m args meth c RX9 cc nL ret (KK G)) (h : fX9_comesTo x a1 a2 a3 a4 a5 a6 = some (r, x')) (hw : MW β G N x H) (hS : va_S (AM β) s.heap H locs) (hsz : ls.size = nL) (hW : (rest.map fun v => v.category).sum ≤ 8) (hR : 108 ≤ R.frames) (hR2 : 2496 ≤ R.locals) (hcs : cells ≤ R.cells ∧ slots ≤ R.slots) (hd : decode cc pc = .ok (.invokevirtual 416, 3)) (kk : ∀ (H1 : Heap) (locs1 : List Loc), MW β G N x' H1 → va_S (AM β) s.heap H1 locs1 → W p l e R s m args below meth c H1 locs1 cells slots Q (F0 m (pc + 3) ls (.long r :: rest))) : W p l e R s m args below meth c H locs cells slots Q (F0 m pc ls (.int a6 :: .int a5 :: .int a4 :: .int a3 :: .int a2 :: .int a1 :: .ref β :: rest)) :=
  xcallV C (As := [.int a1, .int a2, .int a3, .int a4, .int a5, .int a6]) (rest := rest) (nA := 6) (ci := 9) (kX9_comesTo h) (tg 1379 (by decide +kernel) rfl) (tg 1381 (by decide +kernel) rfl) (sg (List.mem_of_getElem? (i := 92) (by decide +kernel)) rfl) (tg 14 (by decide +kernel) rfl) (tg 1382 (by decide +kernel) rfl) ⟨rfl, by decide +kernel, by decide +kernel, by decide +kernel⟩ rfl rfl rfl ⟨hR, hR2⟩ (hw.2 0 (by decide)) hw hS (fun _ q => q) rfl rfl hsz hW hd hcs (fun H1 locs1 hw hz hk hS => kk H1 locs1 hw hS)
def BX9_holding_74 (q1 : Int32) (q2 : Int32) (q3 : Int32) (q4 : Int32) (q5 : Int32) (q6 : Int32) (lp : Int32 → Int64 → Int32 → MS → Option (Int32 × Int64 × MS)) (u7 : Int32) (u8 : Int64) (u10 : Int32) (x : MS) : Option (Int32 × Int64 × MS) := if ((2 : Int32) <<< (q6 &&& 31)) ≤ u10 then some (u7, u8, x) else bind2 (fX9_comesTo x q1 (q2 / 100) q6 q3 q4 u10) fun v12 x13 => if u8 < v12 then lt (u10 + 1) fun v15 => lp u10 v12 v15 x13 else lt (u10 + 1) fun v16 => lp u7 u8 v16 x13
def LX9_holding_74 (q1 : Int32) (q2 : Int32) (q3 : Int32) (q4 : Int32) (q5 : Int32) (q6 : Int32) : Nat → Int32 → Int64 → Int32 → MS → Option (Int32 × Int64 × MS)
  | 0, _, _, _, _ => none
  | n + 1, u7, u8, u10, x => BX9_holding_74 q1 q2 q3 q4 q5 q6 (LX9_holding_74 q1 q2 q3 q4 q5 q6 n) u7 u8 u10 x
def fX9_holding (x : MS) (a1 : Int32) (a2 : Int32) (a3 : Int32) (a4 : Int32) (a5 : Int32) : Option (Int64 × MS) := Option.bind (fX9_isField x a1) fun v1 => if v1 = true then Option.bind (fX9_isWhen a2) fun v3 => if v3 = true then if 5 < (irm a2 100) then some ((-4611686018427387904), x) else Option.bind (fX9_isOf x a1 a3) fun v5 => if v5 = true then Option.bind (fX9_in (a4.toInt64) 0 999) fun v7 => if v7 = true then Option.bind (fX9_isPart a5) fun v9 => if v9 = true then lt (irm a2 100) fun v11 => bind3 (LX9_holding_74 a1 a2 a3 a4 a5 v11 NF 0 (-4611686018427387904) 0 x) fun v17 v18 x19 => if a5 = 0 then some (v17.toInt64, x19) else some (v18, x19) else some ((-4611686018427387904), x) else some ((-4611686018427387904), x) else some ((-4611686018427387904), x) else some ((-4611686018427387904), x) else some ((-4611686018427387904), x)
set_option maxHeartbeats 4000000 in
set_option maxRecDepth 100000 in
theorem lX9_holding_74 {p : Program} {l : Launch} {e : Env} {R : Room} {s : State} {m : MethodId} {args : Array Value} {below : List Frame} {meth : Method} {c : Code} {cells slots : Nat} {Q : State → Prop} {G : xG} {β N : Nat} (C : Cx p s m args meth c RX9 cX9_holding 13 (some .long) (KK G)) (hRf : 108 ≤ R.frames) (hRl : 2496 ≤ R.locals) (hcs : cells ≤ R.cells ∧ slots ≤ R.slots) (q1 : Int32) (q2 : Int32) (q3 : Int32) (q4 : Int32) (q5 : Int32) (q6 : Int32) : ∀ (n : Nat) (u7 : Int32) (u8 : Int64) (u10 : Int32) (x : MS) (J : Int32 × Int64 × MS) (H : Heap) (locs : List Loc) (ls : Array Slot), LX9_holding_74 q1 q2 q3 q4 q5 q6 n u7 u8 u10 x = some J → MW β G N x H → va_S (AM β) s.heap H locs → lv_has ls 13 [(0, .ref β), (1, .int q1), (2, .int q2), (3, .int q3), (4, .int q4), (5, .int q5), (6, .int q6), (7, .int u7), (8, .long u8), (10, .int u10)] → (∀ (w7 : Int32) (w8 : Int64) (x1 : MS), J = (w7, w8, x1) → ∀ (H : Heap) (locs : List Loc) (ls : Array Slot), MW β G N x1 H → va_S (AM β) s.heap H locs → lv_has ls 13 [(5, .int q5), (7, .int w7), (8, .long w8)] → W p l e R s m args below meth c H locs cells slots Q (F0 m 126 ls [])) → W p l e R s m args below meth c H locs cells slots Q (F0 m 74 ls []) := by
  have hx := C.1
  have hb := C.2.1
  have ho := C.2.2.2.1
  have hts := C.2.2.2.2.1
  intro n
  induction n with
  | zero =>
    intro u7 u8 u10 x J H locs ls hm
    exact absurd hm (by simp [LX9_holding_74])
  | succ n ih =>
    intro u7 u8 u10 x J H locs ls hm hw hS hl ke
    replace hm : BX9_holding_74 q1 q2 q3 q4 q5 q6 (LX9_holding_74 q1 q2 q3 q4 q5 q6 n) u7 u8 u10 x = some J := hm
    unfold BX9_holding_74 at hm
    refine lv_iload hx hb dX9_holding_74 (lv_at hl 9 rfl) ?_
    refine lv_iconst (v := 2) hx hb dX9_holding_76 (by decide) ?_
    refine lv_iload hx hb dX9_holding_77 (lv_at hl 6 rfl) ?_
    refine lv_ishl hx hb dX9_holding_79 ?_
    refine lv_icmp_ge (tgt := 126) hx hb dX9_holding_80 (by decide) (fun cc => ?_) (fun cc => ?_)
    · replace hm := ite_p cc hm
      exact ke _ _ _ (Option.some.inj hm).symm _ _ _ hw hS (lv_sub hl [5, 7, 8] rfl)
    · replace hm := ite_n cc hm
      refine lv_aload_n hx hb dX9_holding_83 rfl (lv_at hl 0 rfl) ?_
      refine lv_iload_n hx hb dX9_holding_84 rfl (lv_at hl 1 rfl) ?_
      refine lv_iload_n hx hb dX9_holding_85 rfl (lv_at hl 2 rfl) ?_
      refine lv_bipush (v := 100) hx hb dX9_holding_86 (by decide) ?_
      refine lv_idiv hx hb dX9_holding_88 (by decide) ?_
      refine lv_iload hx hb dX9_holding_89 (lv_at hl 6 rfl) ?_
      refine lv_iload_n hx hb dX9_holding_91 rfl (lv_at hl 3 rfl) ?_
      refine lv_iload hx hb dX9_holding_92 (lv_at hl 4 rfl) ?_
      refine lv_iload hx hb dX9_holding_94 (lv_at hl 9 rfl) ?_
      obtain ⟨v12, x13, h14, hm⟩ := bind2_e hm
      refine sX9_416 C h14 hw hS hl.1 (Nat.le_of_ble_eq_true rfl) (Nat.le_trans (Nat.le_of_ble_eq_true rfl) hRf) (Nat.le_trans (Nat.le_of_ble_eq_true rfl) hRl) hcs dX9_holding_96 (fun H locs hw hS => ?_)
      refine lv_lstore (lv' := [(11, .long v12), (0, .ref β), (1, .int q1), (2, .int q2), (3, .int q3), (4, .int q4), (5, .int q5), (6, .int q6), (7, .int u7), (8, .long u8), (10, .int u10)]) hx hb dX9_holding_99 hl (by decide) rfl (fun ls hl => ?_)
      refine lv_lload hx hb dX9_holding_101 (lv_at hl 0 rfl) ?_
      refine lv_lload hx hb dX9_holding_103 (lv_at hl 9 rfl) ?_
      refine W.lcmp hx hb dX9_holding_105 ?_
      refine lv_if_gt (tgt := 112) hx hb dX9_holding_106 (by decide) (fun cc => ?_) (fun cc => ?_)
      · rw [lg_cmp_gt] at cc
        replace hm := ite_p cc hm
        refine lv_lload hx hb dX9_holding_112 (lv_at hl 0 rfl) ?_
        refine lv_lstore (lv' := [(8, .long v12), (11, .long v12), (0, .ref β), (1, .int q1), (2, .int q2), (3, .int q3), (4, .int q4), (5, .int q5), (6, .int q6), (7, .int u7), (10, .int u10)]) hx hb dX9_holding_114 hl (by decide) rfl (fun ls hl => ?_)
        refine lv_iload hx hb dX9_holding_116 (lv_at hl 10 rfl) ?_
        refine lv_istore (lv' := [(7, .int u10), (8, .long v12), (11, .long v12), (0, .ref β), (1, .int q1), (2, .int q2), (3, .int q3), (4, .int q4), (5, .int q5), (6, .int q6), (10, .int u10)]) hx hb dX9_holding_118 hl (by decide) rfl (fun ls hl => ?_)
        obtain ⟨v15, ev, hm⟩ := lt_e hm
        refine lv_iinc (v := v15) (lv' := [(10, .int v15), (7, .int u10), (8, .long v12), (11, .long v12), (0, .ref β), (1, .int q1), (2, .int q2), (3, .int q3), (4, .int q4), (5, .int q5), (6, .int q6)]) hx hb dX9_holding_120 hl (k := 10) rfl (by rw [ev]; rfl) (by decide) rfl (fun ls hl => ?_)
        clear ev
        refine lv_goto (tgt := 74) hx hb dX9_holding_123 (by decide) ?_
        exact ih _ _ _ _ _ _ _ _ hm hw hS (lv_sub hl [4, 5, 6, 7, 8, 9, 10, 1, 2, 0] rfl) ke
      · rw [lg_cmp_gt] at cc
        replace hm := ite_n cc hm
        refine lv_goto (tgt := 120) hx hb dX9_holding_109 (by decide) ?_
        obtain ⟨v16, ev, hm⟩ := lt_e hm
        refine lv_iinc (v := v16) (lv' := [(10, .int v16), (11, .long v12), (0, .ref β), (1, .int q1), (2, .int q2), (3, .int q3), (4, .int q4), (5, .int q5), (6, .int q6), (7, .int u7), (8, .long u8)]) hx hb dX9_holding_120 hl (k := 10) rfl (by rw [ev]; rfl) (by decide) rfl (fun ls hl => ?_)
        clear ev
        refine lv_goto (tgt := 74) hx hb dX9_holding_123 (by decide) ?_
        exact ih _ _ _ _ _ _ _ _ hm hw hS (lv_sub hl [2, 3, 4, 5, 6, 7, 8, 9, 10, 0] rfl) ke
abbrev rmX9_holding : Room := { frames := 108, cells := 0, slots := 0, locals := 2496 }
set_option maxHeartbeats 4000000 in
set_option maxRecDepth 100000 in
theorem kX9_holding {l : Launch} {G : xG} {β N : Nat} {x x' : MS} {a1 : Int32} {a2 : Int32} {a3 : Int32} {a4 : Int32} {a5 : Int32} {r : Int64} (hm : fX9_holding x a1 a2 a3 a4 a5 = some (r, x')) : Met l yX9_holding (.code yX9_holding cX9_holding 13 (some .long) :: GT) rmX9_holding (PcW [.ref β, .int a1, .int a2, .int a3, .int a4, .int a5] (MW β G N x) (KK G)) (QcW (AM β) (some (.long r)) (MW β G N x')) 0 0 (AM β) := by
  unfold fX9_holding at hm
  refine xpro (own := RX9) (by decide +kernel) rfl (Nat.le_of_ble_eq_true rfl) ?_
  intro p e s m args below meth c C hw ls hl
  have hx := C.1
  have hb := C.2.1
  have ho := C.2.2.2.1
  have hts := C.2.2.2.2.1
  have hS : va_S (AM β) s.heap s.heap [] := va_S.rf
  have hl : lv_has ls 13 [(0, .ref β), (1, .int a1), (2, .int a2), (3, .int a3), (4, .int a4), (5, .int a5)] := hl
  have hRf : 108 ≤ rmX9_holding.frames := Nat.le_refl _
  have hRl : 2496 ≤ rmX9_holding.locals := Nat.le_refl _
  have hcs : 0 ≤ rmX9_holding.cells ∧ 0 ≤ rmX9_holding.slots := ⟨Nat.le_refl _, Nat.le_refl _⟩
  refine lv_aload_n hx hb dX9_holding_0 rfl (lv_at hl 0 rfl) ?_
  refine lv_iload_n hx hb dX9_holding_1 rfl (lv_at hl 1 rfl) ?_
  obtain ⟨v1, h2, hm⟩ := bind_e hm
  refine sX9_222 C h2 hw hS hl.1 (Nat.le_of_ble_eq_true rfl) (Nat.le_trans (Nat.le_of_ble_eq_true rfl) hRf) (Nat.le_trans (Nat.le_of_ble_eq_true rfl) hRl) hcs dX9_holding_2 (fun H locs hw hS => ?_)
  refine x_ifeqB hx hb dX9_holding_5 (tgt := 53) (by decide) (fun cc => ?_) (fun cc => ?_)
  · replace hm := ite_n cc hm
    refine lv_ldc2 (v := (-4611686018427387904)) hx hb ho (hts (.constantLong RX9 167 (-4611686018427387904)) (tg 1130 (by decide +kernel) rfl)) dX9_holding_53 ?_
    obtain ⟨rfl, rfl⟩ := inj2 hm
    exact xret_l C hw hS dX9_holding_56
  · replace hm := ite_p cc hm
    refine lv_iload_n hx hb dX9_holding_8 rfl (lv_at hl 2 rfl) ?_
    obtain ⟨v3, h4, hm⟩ := bind_e hm
    refine sX9_225 C h4 hw hS hl.1 (Nat.le_of_ble_eq_true rfl) (Nat.le_trans (Nat.le_of_ble_eq_true rfl) hRf) (Nat.le_trans (Nat.le_of_ble_eq_true rfl) hRl) hcs dX9_holding_9 (fun H locs hw hS => ?_)
    refine x_ifeqB hx hb dX9_holding_12 (tgt := 53) (by decide) (fun cc => ?_) (fun cc => ?_)
    · replace hm := ite_n cc hm
      refine lv_ldc2 (v := (-4611686018427387904)) hx hb ho (hts (.constantLong RX9 167 (-4611686018427387904)) (tg 1130 (by decide +kernel) rfl)) dX9_holding_53 ?_
      obtain ⟨rfl, rfl⟩ := inj2 hm
      exact xret_l C hw hS dX9_holding_56
    · replace hm := ite_p cc hm
      refine lv_iload_n hx hb dX9_holding_15 rfl (lv_at hl 2 rfl) ?_
      refine lv_bipush (v := 100) hx hb dX9_holding_16 (by decide) ?_
      refine lv_irem hx hb dX9_holding_18 (by decide) ?_
      refine lv_iconst (v := 5) hx hb dX9_holding_19 (by decide) ?_
      refine lv_icmp_gt (tgt := 53) hx hb dX9_holding_20 (by decide) (fun cc => ?_) (fun cc => ?_)
      · replace hm := ite_p cc hm
        refine lv_ldc2 (v := (-4611686018427387904)) hx hb ho (hts (.constantLong RX9 167 (-4611686018427387904)) (tg 1130 (by decide +kernel) rfl)) dX9_holding_53 ?_
        obtain ⟨rfl, rfl⟩ := inj2 hm
        exact xret_l C hw hS dX9_holding_56
      · replace hm := ite_n cc hm
        refine lv_aload_n hx hb dX9_holding_23 rfl (lv_at hl 0 rfl) ?_
        refine lv_iload_n hx hb dX9_holding_24 rfl (lv_at hl 1 rfl) ?_
        refine lv_iload_n hx hb dX9_holding_25 rfl (lv_at hl 3 rfl) ?_
        obtain ⟨v5, h6, hm⟩ := bind_e hm
        refine sX9_196 C h6 hw hS hl.1 (Nat.le_of_ble_eq_true rfl) (Nat.le_trans (Nat.le_of_ble_eq_true rfl) hRf) (Nat.le_trans (Nat.le_of_ble_eq_true rfl) hRl) hcs dX9_holding_26 (fun H locs hw hS => ?_)
        refine x_ifeqB hx hb dX9_holding_29 (tgt := 53) (by decide) (fun cc => ?_) (fun cc => ?_)
        · replace hm := ite_n cc hm
          refine lv_ldc2 (v := (-4611686018427387904)) hx hb ho (hts (.constantLong RX9 167 (-4611686018427387904)) (tg 1130 (by decide +kernel) rfl)) dX9_holding_53 ?_
          obtain ⟨rfl, rfl⟩ := inj2 hm
          exact xret_l C hw hS dX9_holding_56
        · replace hm := ite_p cc hm
          refine lv_iload hx hb dX9_holding_32 (lv_at hl 4 rfl) ?_
          refine lv_i2l hx hb dX9_holding_34 rfl ?_
          refine lv_lconst (v := 0) hx hb dX9_holding_35 (by decide) ?_
          refine lv_ldc2 (v := 999) hx hb ho (hts (.constantLong RX9 414 999) (tg 1378 (by decide +kernel) rfl)) dX9_holding_36 ?_
          obtain ⟨v7, h8, hm⟩ := bind_e hm
          refine sX9_132 C h8 hw hS hl.1 (Nat.le_of_ble_eq_true rfl) (Nat.le_trans (Nat.le_of_ble_eq_true rfl) hRf) (Nat.le_trans (Nat.le_of_ble_eq_true rfl) hRl) hcs dX9_holding_39 (fun H locs hw hS => ?_)
          refine x_ifeqB hx hb dX9_holding_42 (tgt := 53) (by decide) (fun cc => ?_) (fun cc => ?_)
          · replace hm := ite_n cc hm
            refine lv_ldc2 (v := (-4611686018427387904)) hx hb ho (hts (.constantLong RX9 167 (-4611686018427387904)) (tg 1130 (by decide +kernel) rfl)) dX9_holding_53 ?_
            obtain ⟨rfl, rfl⟩ := inj2 hm
            exact xret_l C hw hS dX9_holding_56
          · replace hm := ite_p cc hm
            refine lv_iload hx hb dX9_holding_45 (lv_at hl 5 rfl) ?_
            obtain ⟨v9, h10, hm⟩ := bind_e hm
            refine sX9_228 C h10 hw hS hl.1 (Nat.le_of_ble_eq_true rfl) (Nat.le_trans (Nat.le_of_ble_eq_true rfl) hRf) (Nat.le_trans (Nat.le_of_ble_eq_true rfl) hRl) hcs dX9_holding_47 (fun H locs hw hS => ?_)
            refine x_ifneB hx hb dX9_holding_50 (tgt := 57) (by decide) (fun cc => ?_) (fun cc => ?_)
            · replace hm := ite_p cc hm
              refine lv_iload_n hx hb dX9_holding_57 rfl (lv_at hl 2 rfl) ?_
              refine lv_bipush (v := 100) hx hb dX9_holding_58 (by decide) ?_
              refine lv_irem hx hb dX9_holding_60 (by decide) ?_
              refine topI hm (fun v11 hm => ?_)
              refine lv_istore (lv' := [(6, .int v11), (0, .ref β), (1, .int a1), (2, .int a2), (3, .int a3), (4, .int a4), (5, .int a5)]) hx hb dX9_holding_61 hl (by decide) rfl (fun ls hl => ?_)
              refine lv_iconst (v := 0) hx hb dX9_holding_63 (by decide) ?_
              refine lv_istore (lv' := [(7, .int 0), (6, .int v11), (0, .ref β), (1, .int a1), (2, .int a2), (3, .int a3), (4, .int a4), (5, .int a5)]) hx hb dX9_holding_64 hl (by decide) rfl (fun ls hl => ?_)
              refine lv_ldc2 (v := (-4611686018427387904)) hx hb ho (hts (.constantLong RX9 167 (-4611686018427387904)) (tg 1130 (by decide +kernel) rfl)) dX9_holding_66 ?_
              refine lv_lstore (lv' := [(8, .long (-4611686018427387904)), (7, .int 0), (6, .int v11), (0, .ref β), (1, .int a1), (2, .int a2), (3, .int a3), (4, .int a4), (5, .int a5)]) hx hb dX9_holding_69 hl (by decide) rfl (fun ls hl => ?_)
              refine lv_iconst (v := 0) hx hb dX9_holding_71 (by decide) ?_
              refine lv_istore (lv' := [(10, .int 0), (8, .long (-4611686018427387904)), (7, .int 0), (6, .int v11), (0, .ref β), (1, .int a1), (2, .int a2), (3, .int a3), (4, .int a4), (5, .int a5)]) hx hb dX9_holding_72 hl (by decide) rfl (fun ls hl => ?_)
              obtain ⟨v17, v18, x19, hj, hm⟩ := bind3_e hm
              refine lX9_holding_74 C hRf hRl hcs a1 a2 a3 a4 a5 v11 NF _ _ _ _ _ _ _ _ hj hw hS (lv_sub hl [4, 5, 6, 7, 8, 9, 3, 2, 1, 0] rfl) (fun v17_ v18_ x19_ e0 H locs ls hw hS hl => ?_)
              cases e0
              refine lv_iload hx hb dX9_holding_126 (lv_at hl 0 rfl) ?_
              refine lv_if_ne (tgt := 137) hx hb dX9_holding_128 (by decide) (fun cc => ?_) (fun cc => ?_)
              · replace hm := ite_n cc hm
                refine lv_lload hx hb dX9_holding_137 (lv_at hl 2 rfl) ?_
                obtain ⟨rfl, rfl⟩ := inj2 hm
                exact xret_l C hw hS dX9_holding_139
              · replace hm := ite_p cc hm
                refine lv_iload hx hb dX9_holding_131 (lv_at hl 1 rfl) ?_
                refine lv_i2l hx hb dX9_holding_133 rfl ?_
                refine lv_goto (tgt := 139) hx hb dX9_holding_134 (by decide) ?_
                obtain ⟨rfl, rfl⟩ := inj2 hm
                exact xret_l C hw hS dX9_holding_139
            · replace hm := ite_n cc hm
              refine lv_ldc2 (v := (-4611686018427387904)) hx hb ho (hts (.constantLong RX9 167 (-4611686018427387904)) (tg 1130 (by decide +kernel) rfl)) dX9_holding_53 ?_
              obtain ⟨rfl, rfl⟩ := inj2 hm
              exact xret_l C hw hS dX9_holding_56
theorem dX9_season_0 : decode cX9_season 0 = .ok (.aload_n 0, 1) := by decide +kernel
theorem dX9_season_1 : decode cX9_season 1 = .ok (.iload_n 1, 1) := by decide +kernel
theorem dX9_season_2 : decode cX9_season 2 = .ok (.invokevirtual 222, 3) := by decide +kernel
theorem dX9_season_5 : decode cX9_season 5 = .ok (.ifCond .eq 54, 3) := by decide +kernel
theorem dX9_season_8 : decode cX9_season 8 = .ok (.iload_n 2, 1) := by decide +kernel
theorem dX9_season_9 : decode cX9_season 9 = .ok (.invokestatic 225, 3) := by decide +kernel
theorem dX9_season_12 : decode cX9_season 12 = .ok (.ifCond .eq 47, 3) := by decide +kernel
theorem dX9_season_15 : decode cX9_season 15 = .ok (.iload_n 2, 1) := by decide +kernel
theorem dX9_season_16 : decode cX9_season 16 = .ok (.bipush 100, 2) := by decide +kernel
theorem dX9_season_18 : decode cX9_season 18 = .ok (.irem, 1) := by decide +kernel
theorem dX9_season_19 : decode cX9_season 19 = .ok (.i2l, 1) := by decide +kernel
theorem dX9_season_20 : decode cX9_season 20 = .ok (.lconst 1, 1) := by decide +kernel
theorem dX9_season_21 : decode cX9_season 21 = .ok (.ldc2_w 152, 3) := by decide +kernel
theorem dX9_season_24 : decode cX9_season 24 = .ok (.invokestatic 132, 3) := by decide +kernel
theorem dX9_season_27 : decode cX9_season 27 = .ok (.ifCond .eq 32, 3) := by decide +kernel
theorem dX9_season_30 : decode cX9_season 30 = .ok (.iload_n 3, 1) := by decide +kernel
theorem dX9_season_31 : decode cX9_season 31 = .ok (.i2l, 1) := by decide +kernel
theorem dX9_season_32 : decode cX9_season 32 = .ok (.lconst 0, 1) := by decide +kernel
theorem dX9_season_33 : decode cX9_season 33 = .ok (.ldc2_w 420, 3) := by decide +kernel
theorem dX9_season_36 : decode cX9_season 36 = .ok (.invokestatic 132, 3) := by decide +kernel
theorem dX9_season_39 : decode cX9_season 39 = .ok (.ifCond .eq 20, 3) := by decide +kernel
theorem dX9_season_42 : decode cX9_season 42 = .ok (.aload_n 0, 1) := by decide +kernel
theorem dX9_season_43 : decode cX9_season 43 = .ok (.iload 4, 2) := by decide +kernel
theorem dX9_season_45 : decode cX9_season 45 = .ok (.invokevirtual 146, 3) := by decide +kernel
theorem dX9_season_48 : decode cX9_season 48 = .ok (.ifCond .eq 11, 3) := by decide +kernel
theorem dX9_season_51 : decode cX9_season 51 = .ok (.iload 5, 2) := by decide +kernel
theorem dX9_season_53 : decode cX9_season 53 = .ok (.invokestatic 228, 3) := by decide +kernel
theorem dX9_season_56 : decode cX9_season 56 = .ok (.ifCond .ne 6, 3) := by decide +kernel
theorem dX9_season_59 : decode cX9_season 59 = .ok (.bipush (-2), 2) := by decide +kernel
theorem dX9_season_61 : decode cX9_season 61 = .ok (.ireturn, 1) := by decide +kernel
theorem dX9_season_62 : decode cX9_season 62 = .ok (.iload_n 2, 1) := by decide +kernel
theorem dX9_season_63 : decode cX9_season 63 = .ok (.bipush 100, 2) := by decide +kernel
theorem dX9_season_65 : decode cX9_season 65 = .ok (.idiv, 1) := by decide +kernel
theorem dX9_season_66 : decode cX9_season 66 = .ok (.istore 6, 2) := by decide +kernel
theorem dX9_season_68 : decode cX9_season 68 = .ok (.iconst 0, 1) := by decide +kernel
theorem dX9_season_69 : decode cX9_season 69 = .ok (.istore 7, 2) := by decide +kernel
theorem dX9_season_71 : decode cX9_season 71 = .ok (.iload 7, 2) := by decide +kernel
theorem dX9_season_73 : decode cX9_season 73 = .ok (.aload_n 0, 1) := by decide +kernel
theorem dX9_season_74 : decode cX9_season 74 = .ok (.getfield 129, 3) := by decide +kernel
theorem dX9_season_77 : decode cX9_season 77 = .ok (.if_icmp .ge 31, 3) := by decide +kernel
theorem dX9_season_80 : decode cX9_season 80 = .ok (.aload_n 0, 1) := by decide +kernel
theorem dX9_season_81 : decode cX9_season 81 = .ok (.getfield 54, 3) := by decide +kernel
theorem dX9_season_84 : decode cX9_season 84 = .ok (.iload 7, 2) := by decide +kernel
theorem dX9_season_86 : decode cX9_season 86 = .ok (.aload_n 0, 1) := by decide +kernel
theorem dX9_season_87 : decode cX9_season 87 = .ok (.getfield 38, 3) := by decide +kernel
theorem dX9_season_90 : decode cX9_season 90 = .ok (.iload 7, 2) := by decide +kernel
theorem dX9_season_92 : decode cX9_season 92 = .ok (.iaload, 1) := by decide +kernel
theorem dX9_season_93 : decode cX9_season 93 = .ok (.iastore, 1) := by decide +kernel
theorem dX9_season_94 : decode cX9_season 94 = .ok (.aload_n 0, 1) := by decide +kernel
theorem dX9_season_95 : decode cX9_season 95 = .ok (.getfield 75, 3) := by decide +kernel
theorem dX9_season_98 : decode cX9_season 98 = .ok (.iload 7, 2) := by decide +kernel
theorem dX9_season_100 : decode cX9_season 100 = .ok (.iconst 0, 1) := by decide +kernel
theorem dX9_season_101 : decode cX9_season 101 = .ok (.iastore, 1) := by decide +kernel
theorem dX9_season_102 : decode cX9_season 102 = .ok (.iinc 7 1, 3) := by decide +kernel
theorem dX9_season_105 : decode cX9_season 105 = .ok (.goto (-34), 3) := by decide +kernel
theorem dX9_season_108 : decode cX9_season 108 = .ok (.iload_n 3, 1) := by decide +kernel
theorem dX9_season_109 : decode cX9_season 109 = .ok (.i2l, 1) := by decide +kernel
theorem dX9_season_110 : decode cX9_season 110 = .ok (.lconst 1, 1) := by decide +kernel
theorem dX9_season_111 : decode cX9_season 111 = .ok (.ladd, 1) := by decide +kernel
theorem dX9_season_112 : decode cX9_season 112 = .ok (.lstore 7, 2) := by decide +kernel
theorem dX9_season_114 : decode cX9_season 114 = .ok (.iconst 0, 1) := by decide +kernel
theorem dX9_season_115 : decode cX9_season 115 = .ok (.istore 9, 2) := by decide +kernel
theorem dX9_season_117 : decode cX9_season 117 = .ok (.iload 9, 2) := by decide +kernel
theorem dX9_season_119 : decode cX9_season 119 = .ok (.iload_n 2, 1) := by decide +kernel
theorem dX9_season_120 : decode cX9_season 120 = .ok (.bipush 100, 2) := by decide +kernel
theorem dX9_season_122 : decode cX9_season 122 = .ok (.irem, 1) := by decide +kernel
theorem dX9_season_123 : decode cX9_season 123 = .ok (.if_icmp .ge 196, 3) := by decide +kernel
theorem dX9_season_126 : decode cX9_season 126 = .ok (.iconst 0, 1) := by decide +kernel
theorem dX9_season_127 : decode cX9_season 127 = .ok (.istore 10, 2) := by decide +kernel
theorem dX9_season_129 : decode cX9_season 129 = .ok (.iload 10, 2) := by decide +kernel
theorem dX9_season_131 : decode cX9_season 131 = .ok (.aload_n 0, 1) := by decide +kernel
theorem dX9_season_132 : decode cX9_season 132 = .ok (.getfield 129, 3) := by decide +kernel
theorem dX9_season_135 : decode cX9_season 135 = .ok (.if_icmp .ge 80, 3) := by decide +kernel
theorem dX9_season_138 : decode cX9_season 138 = .ok (.aload_n 0, 1) := by decide +kernel
theorem dX9_season_139 : decode cX9_season 139 = .ok (.iload_n 1, 1) := by decide +kernel
theorem dX9_season_140 : decode cX9_season 140 = .ok (.iload 10, 2) := by decide +kernel
theorem dX9_season_142 : decode cX9_season 142 = .ok (.invokevirtual 196, 3) := by decide +kernel
theorem dX9_season_145 : decode cX9_season 145 = .ok (.ifCond .ne 6, 3) := by decide +kernel
theorem dX9_season_148 : decode cX9_season 148 = .ok (.goto 61, 3) := by decide +kernel
theorem dX9_season_151 : decode cX9_season 151 = .ok (.lload 7, 2) := by decide +kernel
theorem dX9_season_153 : decode cX9_season 153 = .ok (.ldc2_w 422, 3) := by decide +kernel
theorem dX9_season_156 : decode cX9_season 156 = .ok (.lmul, 1) := by decide +kernel
theorem dX9_season_157 : decode cX9_season 157 = .ok (.ldc2_w 424, 3) := by decide +kernel
theorem dX9_season_160 : decode cX9_season 160 = .ok (.lrem, 1) := by decide +kernel
theorem dX9_season_161 : decode cX9_season 161 = .ok (.lstore 7, 2) := by decide +kernel
theorem dX9_season_163 : decode cX9_season 163 = .ok (.aload_n 0, 1) := by decide +kernel
theorem dX9_season_164 : decode cX9_season 164 = .ok (.getfield 72, 3) := by decide +kernel
theorem dX9_season_167 : decode cX9_season 167 = .ok (.iload 10, 2) := by decide +kernel
theorem dX9_season_169 : decode cX9_season 169 = .ok (.aload_n 0, 1) := by decide +kernel
theorem dX9_season_170 : decode cX9_season 170 = .ok (.iload 10, 2) := by decide +kernel
theorem dX9_season_172 : decode cX9_season 172 = .ok (.iload 6, 2) := by decide +kernel
theorem dX9_season_174 : decode cX9_season 174 = .ok (.iload 9, 2) := by decide +kernel
theorem dX9_season_176 : decode cX9_season 176 = .ok (.aload_n 0, 1) := by decide +kernel
theorem dX9_season_177 : decode cX9_season 177 = .ok (.getfield 41, 3) := by decide +kernel
theorem dX9_season_180 : decode cX9_season 180 = .ok (.iload 6, 2) := by decide +kernel
theorem dX9_season_182 : decode cX9_season 182 = .ok (.iaload, 1) := by decide +kernel
theorem dX9_season_183 : decode cX9_season 183 = .ok (.aload_n 0, 1) := by decide +kernel
theorem dX9_season_184 : decode cX9_season 184 = .ok (.getfield 38, 3) := by decide +kernel
theorem dX9_season_187 : decode cX9_season 187 = .ok (.iload 10, 2) := by decide +kernel
theorem dX9_season_189 : decode cX9_season 189 = .ok (.iaload, 1) := by decide +kernel
theorem dX9_season_190 : decode cX9_season 190 = .ok (.invokevirtual 200, 3) := by decide +kernel
theorem dX9_season_193 : decode cX9_season 193 = .ok (.lload 7, 2) := by decide +kernel
theorem dX9_season_195 : decode cX9_season 195 = .ok (.aload_n 0, 1) := by decide +kernel
theorem dX9_season_196 : decode cX9_season 196 = .ok (.invokevirtual 204, 3) := by decide +kernel
theorem dX9_season_199 : decode cX9_season 199 = .ok (.i2l, 1) := by decide +kernel
theorem dX9_season_200 : decode cX9_season 200 = .ok (.lrem, 1) := by decide +kernel
theorem dX9_season_201 : decode cX9_season 201 = .ok (.l2i, 1) := by decide +kernel
theorem dX9_season_202 : decode cX9_season 202 = .ok (.iadd, 1) := by decide +kernel
theorem dX9_season_203 : decode cX9_season 203 = .ok (.aload_n 0, 1) := by decide +kernel
theorem dX9_season_204 : decode cX9_season 204 = .ok (.getfield 124, 3) := by decide +kernel
theorem dX9_season_207 : decode cX9_season 207 = .ok (.isub, 1) := by decide +kernel
theorem dX9_season_208 : decode cX9_season 208 = .ok (.iastore, 1) := by decide +kernel
theorem dX9_season_209 : decode cX9_season 209 = .ok (.iinc 10 1, 3) := by decide +kernel
theorem dX9_season_212 : decode cX9_season 212 = .ok (.goto (-83), 3) := by decide +kernel
theorem dX9_season_215 : decode cX9_season 215 = .ok (.iconst 0, 1) := by decide +kernel
theorem dX9_season_216 : decode cX9_season 216 = .ok (.istore 10, 2) := by decide +kernel
theorem dX9_season_218 : decode cX9_season 218 = .ok (.iload 10, 2) := by decide +kernel
theorem dX9_season_220 : decode cX9_season 220 = .ok (.aload_n 0, 1) := by decide +kernel
theorem dX9_season_221 : decode cX9_season 221 = .ok (.getfield 129, 3) := by decide +kernel
theorem dX9_season_224 : decode cX9_season 224 = .ok (.if_icmp .ge 89, 3) := by decide +kernel
theorem dX9_season_227 : decode cX9_season 227 = .ok (.aload_n 0, 1) := by decide +kernel
theorem dX9_season_228 : decode cX9_season 228 = .ok (.iload_n 1, 1) := by decide +kernel
theorem dX9_season_229 : decode cX9_season 229 = .ok (.iload 10, 2) := by decide +kernel
theorem dX9_season_231 : decode cX9_season 231 = .ok (.invokevirtual 196, 3) := by decide +kernel
theorem dX9_season_234 : decode cX9_season 234 = .ok (.ifCond .ne 6, 3) := by decide +kernel
theorem dX9_season_237 : decode cX9_season 237 = .ok (.goto 70, 3) := by decide +kernel
theorem dX9_season_240 : decode cX9_season 240 = .ok (.aload_n 0, 1) := by decide +kernel
theorem dX9_season_241 : decode cX9_season 241 = .ok (.iload_n 1, 1) := by decide +kernel
theorem dX9_season_242 : decode cX9_season 242 = .ok (.iload 10, 2) := by decide +kernel
theorem dX9_season_244 : decode cX9_season 244 = .ok (.invokevirtual 426, 3) := by decide +kernel
theorem dX9_season_247 : decode cX9_season 247 = .ok (.istore 11, 2) := by decide +kernel
theorem dX9_season_249 : decode cX9_season 249 = .ok (.aload_n 0, 1) := by decide +kernel
theorem dX9_season_250 : decode cX9_season 250 = .ok (.getfield 75, 3) := by decide +kernel
theorem dX9_season_253 : decode cX9_season 253 = .ok (.iload 10, 2) := by decide +kernel
theorem dX9_season_255 : decode cX9_season 255 = .ok (.dup2, 1) := by decide +kernel
theorem dX9_season_256 : decode cX9_season 256 = .ok (.iaload, 1) := by decide +kernel
theorem dX9_season_257 : decode cX9_season 257 = .ok (.iload 11, 2) := by decide +kernel
theorem dX9_season_259 : decode cX9_season 259 = .ok (.ifCond .ne 7, 3) := by decide +kernel
theorem dX9_season_262 : decode cX9_season 262 = .ok (.iconst 1, 1) := by decide +kernel
theorem dX9_season_263 : decode cX9_season 263 = .ok (.goto 4, 3) := by decide +kernel
theorem dX9_season_266 : decode cX9_season 266 = .ok (.iconst 0, 1) := by decide +kernel
theorem dX9_season_267 : decode cX9_season 267 = .ok (.iadd, 1) := by decide +kernel
theorem dX9_season_268 : decode cX9_season 268 = .ok (.iastore, 1) := by decide +kernel
theorem dX9_season_269 : decode cX9_season 269 = .ok (.aload_n 0, 1) := by decide +kernel
theorem dX9_season_270 : decode cX9_season 270 = .ok (.getfield 38, 3) := by decide +kernel
theorem dX9_season_273 : decode cX9_season 273 = .ok (.iload 10, 2) := by decide +kernel
theorem dX9_season_275 : decode cX9_season 275 = .ok (.aload_n 0, 1) := by decide +kernel
theorem dX9_season_276 : decode cX9_season 276 = .ok (.iload 10, 2) := by decide +kernel
theorem dX9_season_278 : decode cX9_season 278 = .ok (.aload_n 0, 1) := by decide +kernel
theorem dX9_season_279 : decode cX9_season 279 = .ok (.getfield 38, 3) := by decide +kernel
theorem dX9_season_282 : decode cX9_season 282 = .ok (.iload 10, 2) := by decide +kernel
theorem dX9_season_284 : decode cX9_season 284 = .ok (.iaload, 1) := by decide +kernel
theorem dX9_season_285 : decode cX9_season 285 = .ok (.aload_n 0, 1) := by decide +kernel
theorem dX9_season_286 : decode cX9_season 286 = .ok (.iload 10, 2) := by decide +kernel
theorem dX9_season_288 : decode cX9_season 288 = .ok (.invokevirtual 173, 3) := by decide +kernel
theorem dX9_season_291 : decode cX9_season 291 = .ok (.aload_n 0, 1) := by decide +kernel
theorem dX9_season_292 : decode cX9_season 292 = .ok (.getfield 75, 3) := by decide +kernel
theorem dX9_season_295 : decode cX9_season 295 = .ok (.iload 10, 2) := by decide +kernel
theorem dX9_season_297 : decode cX9_season 297 = .ok (.iaload, 1) := by decide +kernel
theorem dX9_season_298 : decode cX9_season 298 = .ok (.iadd, 1) := by decide +kernel
theorem dX9_season_299 : decode cX9_season 299 = .ok (.iload 11, 2) := by decide +kernel
theorem dX9_season_301 : decode cX9_season 301 = .ok (.iload 6, 2) := by decide +kernel
theorem dX9_season_303 : decode cX9_season 303 = .ok (.invokevirtual 405, 3) := by decide +kernel
theorem dX9_season_306 : decode cX9_season 306 = .ok (.iastore, 1) := by decide +kernel
theorem dX9_season_307 : decode cX9_season 307 = .ok (.iinc 10 1, 3) := by decide +kernel
theorem dX9_season_310 : decode cX9_season 310 = .ok (.goto (-92), 3) := by decide +kernel
theorem dX9_season_313 : decode cX9_season 313 = .ok (.iinc 9 1, 3) := by decide +kernel
theorem dX9_season_316 : decode cX9_season 316 = .ok (.goto (-199), 3) := by decide +kernel
theorem dX9_season_319 : decode cX9_season 319 = .ok (.iload 5, 2) := by decide +kernel
theorem dX9_season_321 : decode cX9_season 321 = .ok (.ifCond .ne 13, 3) := by decide +kernel
theorem dX9_season_324 : decode cX9_season 324 = .ok (.aload_n 0, 1) := by decide +kernel
theorem dX9_season_325 : decode cX9_season 325 = .ok (.getfield 75, 3) := by decide +kernel
theorem dX9_season_328 : decode cX9_season 328 = .ok (.iload 4, 2) := by decide +kernel
theorem dX9_season_330 : decode cX9_season 330 = .ok (.iaload, 1) := by decide +kernel
theorem dX9_season_331 : decode cX9_season 331 = .ok (.goto 10, 3) := by decide +kernel
theorem dX9_season_334 : decode cX9_season 334 = .ok (.aload_n 0, 1) := by decide +kernel
theorem dX9_season_335 : decode cX9_season 335 = .ok (.getfield 38, 3) := by decide +kernel
theorem dX9_season_338 : decode cX9_season 338 = .ok (.iload 4, 2) := by decide +kernel
theorem dX9_season_340 : decode cX9_season 340 = .ok (.iaload, 1) := by decide +kernel
theorem dX9_season_341 : decode cX9_season 341 = .ok (.istore 9, 2) := by decide +kernel
theorem dX9_season_343 : decode cX9_season 343 = .ok (.iconst 0, 1) := by decide +kernel
theorem dX9_season_344 : decode cX9_season 344 = .ok (.istore 10, 2) := by decide +kernel
theorem dX9_season_346 : decode cX9_season 346 = .ok (.iload 10, 2) := by decide +kernel
theorem dX9_season_348 : decode cX9_season 348 = .ok (.aload_n 0, 1) := by decide +kernel
theorem dX9_season_349 : decode cX9_season 349 = .ok (.getfield 129, 3) := by decide +kernel
theorem dX9_season_352 : decode cX9_season 352 = .ok (.if_icmp .ge 23, 3) := by decide +kernel
theorem dX9_season_355 : decode cX9_season 355 = .ok (.aload_n 0, 1) := by decide +kernel
theorem dX9_season_356 : decode cX9_season 356 = .ok (.getfield 38, 3) := by decide +kernel
theorem dX9_season_359 : decode cX9_season 359 = .ok (.iload 10, 2) := by decide +kernel
theorem dX9_season_361 : decode cX9_season 361 = .ok (.aload_n 0, 1) := by decide +kernel
theorem dX9_season_362 : decode cX9_season 362 = .ok (.getfield 54, 3) := by decide +kernel
theorem dX9_season_365 : decode cX9_season 365 = .ok (.iload 10, 2) := by decide +kernel
theorem dX9_season_367 : decode cX9_season 367 = .ok (.iaload, 1) := by decide +kernel
theorem dX9_season_368 : decode cX9_season 368 = .ok (.iastore, 1) := by decide +kernel
theorem dX9_season_369 : decode cX9_season 369 = .ok (.iinc 10 1, 3) := by decide +kernel
theorem dX9_season_372 : decode cX9_season 372 = .ok (.goto (-26), 3) := by decide +kernel
theorem dX9_season_375 : decode cX9_season 375 = .ok (.iload 9, 2) := by decide +kernel
theorem dX9_season_377 : decode cX9_season 377 = .ok (.ireturn, 1) := by decide +kernel
theorem gX9_75 {p : Program} {l : Launch} {e : Env} {R : Room} {s : State} {m : MethodId} {args : Array Value} {below : List Frame} {meth : Method} {c : Code} {H : Heap} {locs : List Loc} {cells slots : Nat} {Q : State → Prop} {cc : ByteArray} {pc nL : Nat} {ls : Array Slot} {rest : List Value} {ret : Option FieldType} {G : xG} {β N : Nat} {x : MS} (C : Cx p s m args meth c RX9 cc nL ret (KK G)) (hw : MW β G N x H) (hd : decode cc pc = .ok (.getfield 75, 3)) (kk : W p l e R s m args below meth c H locs cells slots Q (F0 m (pc + 3) ls (.ref (β + 21) :: rest))) : W p l e R s m args below meth c H locs cells slots Q (F0 m pc ls (.ref β :: rest)) :=
  va_get C.1 C.2.1 C.2.2.2.2.1 iwX9 C.2.2.2.1 C.K.1 (xP1 (hw.2 0 (by decide))) 0 rfl rfl 43 (by decide) (C.2.2.2.2.1 (.fieldLink RX9 75 RX9 "seasonWon" "[I") (tg 959 (by decide +kernel) rfl)) (fun _ h9 => h9) rfl hd kk
theorem asM_21 {p : Program} {l : Launch} {e : Env} {R : Room} {s : State} {m : MethodId} {args : Array Value} {below : List Frame} {meth : Method} {c : Code} {H : Heap} {locs : List Loc} {cells slots : Nat} {Q : State → Prop} {cc : ByteArray} {pc nL : Nat} {ls : Array Slot} {rest : List Value} {ret : Option FieldType} {G : xG} {β N : Nat} {x : MS} {own : String} {i : Int32} {v : Int32} (C : Cx p s m args meth c own cc nL ret (KK G)) (hw : MW β G N x H) (hS : va_S (AM β) s.heap H locs) (hin : ib i 10) (hd : decode cc pc = .ok (.iastore, 1)) (kk : ∀ (H1 : Heap) (locs1 : List Loc), MW β G N (msA x 21 i.toNatClampNeg v) H1 → va_S (AM β) s.heap H1 locs1 → W p l e R s m args below meth c H1 locs1 cells slots Q (F0 m (pc + 1) ls (rest))) : W p l e R s m args below meth c H locs cells slots Q (F0 m pc ls (.int v :: .int i :: .ref (β + 21) :: rest)) :=
  x_iast C.1 C.2.1 C.K.1 hS 0 (hw.2 21 (by decide)) (AM.in (by decide)) rfl hin hd (fun H1 locs1 hat ho hS => kk H1 locs1 (hw.setA 21 _ _ hat ho) hS)
theorem asM_20 {p : Program} {l : Launch} {e : Env} {R : Room} {s : State} {m : MethodId} {args : Array Value} {below : List Frame} {meth : Method} {c : Code} {H : Heap} {locs : List Loc} {cells slots : Nat} {Q : State → Prop} {cc : ByteArray} {pc nL : Nat} {ls : Array Slot} {rest : List Value} {ret : Option FieldType} {G : xG} {β N : Nat} {x : MS} {own : String} {i : Int32} {v : Int32} (C : Cx p s m args meth c own cc nL ret (KK G)) (hw : MW β G N x H) (hS : va_S (AM β) s.heap H locs) (hin : ib i 10) (hd : decode cc pc = .ok (.iastore, 1)) (kk : ∀ (H1 : Heap) (locs1 : List Loc), MW β G N (msA x 20 i.toNatClampNeg v) H1 → va_S (AM β) s.heap H1 locs1 → W p l e R s m args below meth c H1 locs1 cells slots Q (F0 m (pc + 1) ls (rest))) : W p l e R s m args below meth c H locs cells slots Q (F0 m pc ls (.int v :: .int i :: .ref (β + 20) :: rest)) :=
  x_iast C.1 C.2.1 C.K.1 hS 0 (hw.2 20 (by decide)) (AM.in (by decide)) rfl hin hd (fun H1 locs1 hat ho hS => kk H1 locs1 (hw.setA 20 _ _ hat ho) hS)
theorem sX9_426 {p : Program} {l : Launch} {e : Env} {R : Room} {s : State} {m : MethodId} {args : Array Value} {below : List Frame} {meth : Method} {c : Code} {H : Heap} {locs : List Loc} {cells slots : Nat} {Q : State → Prop} {cc : ByteArray} {pc nL : Nat} {ls : Array Slot} {rest : List Value} {ret : Option FieldType} {G : xG} {β N : Nat} {x : MS} {a1 : Int32} {a2 : Int32} {r : Int32} (C : Cx p s m args meth c RX9 cc nL ret (KK G)) (h : fX9_placeBy x a1 a2 = some r) (hw : MW β G N x H) (hS : va_S (AM β) s.heap H locs) (hsz : ls.size = nL) (hW : (rest.map fun v => v.category).sum ≤ 8) (hR : 4 ≤ R.frames) (hR2 : 92 ≤ R.locals) (hcs : cells ≤ R.cells ∧ slots ≤ R.slots) (hd : decode cc pc = .ok (.invokevirtual 426, 3)) (kk : ∀ (H1 : Heap) (locs1 : List Loc), MW β G N x H1 → va_S (AM β) s.heap H1 locs1 → W p l e R s m args below meth c H1 locs1 cells slots Q (F0 m (pc + 3) ls (.int r :: rest))) : W p l e R s m args below meth c H locs cells slots Q (F0 m pc ls (.int a2 :: .int a1 :: .ref β :: rest)) :=
  xcallV C (As := [.int a1, .int a2]) (rest := rest) (nA := 2) (ci := 9) (kX9_placeBy h) (tg 1394 (by decide +kernel) rfl) (tg 1396 (by decide +kernel) rfl) (sg (List.mem_of_getElem? (i := 93) (by decide +kernel)) rfl) (tg 14 (by decide +kernel) rfl) (tg 1397 (by decide +kernel) rfl) ⟨rfl, by decide +kernel, by decide +kernel, by decide +kernel⟩ rfl rfl rfl ⟨hR, hR2⟩ (hw.2 0 (by decide)) hw hS (fun _ q => q) rfl rfl hsz hW hd hcs (fun H1 locs1 hw hz hk hS => kk H1 locs1 hw hS)
theorem alM_21 {p : Program} {l : Launch} {e : Env} {R : Room} {s : State} {m : MethodId} {args : Array Value} {below : List Frame} {meth : Method} {c : Code} {H : Heap} {locs : List Loc} {cells slots : Nat} {Q : State → Prop} {cc : ByteArray} {pc nL : Nat} {ls : Array Slot} {rest : List Value} {ret : Option FieldType} {G : xG} {β N : Nat} {x : MS} {own : String} {i : Int32} (C : Cx p s m args meth c own cc nL ret (KK G)) (hw : MW β G N x H) (hin : ib i 10) (hd : decode cc pc = .ok (.iaload, 1)) (kk : W p l e R s m args below meth c H locs cells slots Q (F0 m (pc + 1) ls (.int (x.2.1 21 i.toNatClampNeg) :: rest))) : W p l e R s m args below meth c H locs cells slots Q (F0 m pc ls (.int i :: .ref (β + 21) :: rest)) :=
  va_iald C.1 C.2.1 C.K.1 (xP1 (hw.2 21 (by decide))) 0 0 rfl rfl hin hd kk
def BX9_season_71 (q1 : Int32) (q2 : Int32) (q3 : Int32) (q4 : Int32) (q5 : Int32) (q6 : Int32) (lp : Int32 → MS → Option (MS)) (u7 : Int32) (x : MS) : Option (MS) := if (x.1 0 13) ≤ u7 then some x else if ib u7 10 then if ib u7 10 then lt (msA x 14 u7.toNatClampNeg (x.2.1 9 u7.toNatClampNeg)) fun x16 => if ib u7 10 then lt (msA x16 21 u7.toNatClampNeg 0) fun x18 => lt (u7 + 1) fun v19 => lp v19 x18 else none else none else none
def LX9_season_71 (q1 : Int32) (q2 : Int32) (q3 : Int32) (q4 : Int32) (q5 : Int32) (q6 : Int32) : Nat → Int32 → MS → Option (MS)
  | 0, _, _ => none
  | n + 1, u7, x => BX9_season_71 q1 q2 q3 q4 q5 q6 (LX9_season_71 q1 q2 q3 q4 q5 q6 n) u7 x
def BX9_season_129 (q1 : Int32) (q2 : Int32) (q4 : Int32) (q5 : Int32) (q6 : Int32) (q9 : Int32) (lp : Int64 → Int32 → MS → Option (Int64 × MS)) (u7 : Int64) (u10 : Int32) (x : MS) : Option (Int64 × MS) := if (x.1 0 13) ≤ u10 then some (u7, x) else Option.bind (fX9_isOf x q1 u10) fun v22 => if v22 = true then lt (lrm (u7 * 48271) 2147483647) fun v24 => if ib q6 4 then if ib u10 10 then Option.bind (fX9_carries x u10 q6 q9 (x.2.1 10 q6.toNatClampNeg) (x.2.1 9 u10.toNatClampNeg)) fun v27 => Option.bind (fX9_ways x) fun v29 => if ¬ (v29.toInt64) = 0 then if ib u10 10 then lt (msA x 20 u10.toNatClampNeg ((v27 + ((lrm v24 (v29.toInt64)).toInt32)) - (x.1 0 15))) fun x33 => lt (u10 + 1) fun v34 => lp v24 v34 x33 else none else none else none else none else lt (u10 + 1) fun v35 => lp u7 v35 x
def LX9_season_129 (q1 : Int32) (q2 : Int32) (q4 : Int32) (q5 : Int32) (q6 : Int32) (q9 : Int32) : Nat → Int64 → Int32 → MS → Option (Int64 × MS)
  | 0, _, _, _ => none
  | n + 1, u7, u10, x => BX9_season_129 q1 q2 q4 q5 q6 q9 (LX9_season_129 q1 q2 q4 q5 q6 q9 n) u7 u10 x
def BX9_season_218 (q1 : Int32) (q2 : Int32) (q4 : Int32) (q5 : Int32) (q6 : Int32) (q7 : Int64) (q9 : Int32) (lp : Int32 → MS → Option (MS)) (u10 : Int32) (x : MS) : Option (MS) := if (x.1 0 13) ≤ u10 then some x else Option.bind (fX9_isOf x q1 u10) fun v38 => if v38 = true then Option.bind (fX9_placeBy x q1 u10) fun v40 => if ib u10 10 then Option.bind (if v40 = 0 then some true else some false) fun v43 => if ib u10 10 then lt (msA x 21 u10.toNatClampNeg ((x.2.1 21 u10.toNatClampNeg) + (bI v43))) fun x45 => if ib u10 10 then Option.bind (fX9_winsOf x45 u10) fun v47 => if ib u10 10 then bind2 (fX9_nextLead x45 u10 (x45.2.1 9 u10.toNatClampNeg) (v47 + (x45.2.1 21 u10.toNatClampNeg)) v40 q6) fun v50 x51 => if ib u10 10 then lt (msA x51 9 u10.toNatClampNeg v50) fun x54 => lt (u10 + 1) fun v55 => lp v55 x54 else none else none else none else none else none else lt (u10 + 1) fun v56 => lp v56 x
def LX9_season_218 (q1 : Int32) (q2 : Int32) (q4 : Int32) (q5 : Int32) (q6 : Int32) (q7 : Int64) (q9 : Int32) : Nat → Int32 → MS → Option (MS)
  | 0, _, _ => none
  | n + 1, u10, x => BX9_season_218 q1 q2 q4 q5 q6 q7 q9 (LX9_season_218 q1 q2 q4 q5 q6 q7 q9 n) u10 x
def BX9_season_117 (q1 : Int32) (q2 : Int32) (q4 : Int32) (q5 : Int32) (q6 : Int32) (lp : Int64 → Int32 → MS → Option (MS)) (u7 : Int64) (u9 : Int32) (x : MS) : Option (MS) := if (irm q2 100) ≤ u9 then some x else bind2 (LX9_season_129 q1 q2 q4 q5 q6 u9 NF u7 0 x) fun v36 x37 => Option.bind (LX9_season_218 q1 q2 q4 q5 q6 v36 u9 NF 0 x37) fun x57 => lt (u9 + 1) fun v58 => lp v36 v58 x57
def LX9_season_117 (q1 : Int32) (q2 : Int32) (q4 : Int32) (q5 : Int32) (q6 : Int32) : Nat → Int64 → Int32 → MS → Option (MS)
  | 0, _, _, _ => none
  | n + 1, u7, u9, x => BX9_season_117 q1 q2 q4 q5 q6 (LX9_season_117 q1 q2 q4 q5 q6 n) u7 u9 x
def BX9_season_346 (q9 : Int32) (lp : Int32 → MS → Option (MS)) (u10 : Int32) (x : MS) : Option (MS) := if (x.1 0 13) ≤ u10 then some x else if ib u10 10 then if ib u10 10 then lt (msA x 9 u10.toNatClampNeg (x.2.1 14 u10.toNatClampNeg)) fun x65 => lt (u10 + 1) fun v66 => lp v66 x65 else none else none
def LX9_season_346 (q9 : Int32) : Nat → Int32 → MS → Option (MS)
  | 0, _, _ => none
  | n + 1, u10, x => BX9_season_346 q9 (LX9_season_346 q9 n) u10 x
def fX9_season (x : MS) (a1 : Int32) (a2 : Int32) (a3 : Int32) (a4 : Int32) (a5 : Int32) : Option (Int32 × MS) := Option.bind (fX9_isField x a1) fun v1 => if v1 = true then Option.bind (fX9_isWhen a2) fun v3 => if v3 = true then Option.bind (fX9_in ((irm a2 100).toInt64) 1 12) fun v5 => if v5 = true then Option.bind (fX9_in (a3.toInt64) 0 99999) fun v7 => if v7 = true then Option.bind (fX9_isHorse x a4) fun v9 => if v9 = true then Option.bind (fX9_isPart a5) fun v11 => if v11 = true then lt (a2 / 100) fun v13 => Option.bind (LX9_season_71 a1 a2 a3 a4 a5 v13 NF 0 x) fun x20 => lt ((a3.toInt64) + 1) fun v21 => Option.bind (LX9_season_117 a1 a2 a4 a5 v13 NF v21 0 x20) fun x59 => Option.bind (if a5 = 0 then if ib a4 10 then some (x59.2.1 21 a4.toNatClampNeg) else none else if ib a4 10 then some (x59.2.1 9 a4.toNatClampNeg) else none) fun v62 => Option.bind (LX9_season_346 v62 NF 0 x59) fun x67 => some (v62, x67) else some ((-2), x) else some ((-2), x) else some ((-2), x) else some ((-2), x) else some ((-2), x) else some ((-2), x)
set_option maxHeartbeats 4000000 in
set_option maxRecDepth 100000 in
theorem lX9_season_71 {p : Program} {l : Launch} {e : Env} {R : Room} {s : State} {m : MethodId} {args : Array Value} {below : List Frame} {meth : Method} {c : Code} {cells slots : Nat} {Q : State → Prop} {G : xG} {β N : Nat} (C : Cx p s m args meth c RX9 cX9_season 12 (some .int) (KK G)) (hRf : 107 ≤ R.frames) (hRl : 2467 ≤ R.locals) (hcs : cells ≤ R.cells ∧ slots ≤ R.slots) (q1 : Int32) (q2 : Int32) (q3 : Int32) (q4 : Int32) (q5 : Int32) (q6 : Int32) : ∀ (n : Nat) (u7 : Int32) (x : MS) (J : MS) (H : Heap) (locs : List Loc) (ls : Array Slot), LX9_season_71 q1 q2 q3 q4 q5 q6 n u7 x = some J → MW β G N x H → va_S (AM β) s.heap H locs → lv_has ls 12 [(0, .ref β), (1, .int q1), (2, .int q2), (3, .int q3), (4, .int q4), (5, .int q5), (6, .int q6), (7, .int u7)] → (∀ (x1 : MS), J = x1 → ∀ (H : Heap) (locs : List Loc) (ls : Array Slot), MW β G N x1 H → va_S (AM β) s.heap H locs → lv_has ls 12 [(0, .ref β), (1, .int q1), (2, .int q2), (3, .int q3), (4, .int q4), (5, .int q5), (6, .int q6)] → W p l e R s m args below meth c H locs cells slots Q (F0 m 108 ls [])) → W p l e R s m args below meth c H locs cells slots Q (F0 m 71 ls []) := by
  have hx := C.1
  have hb := C.2.1
  have ho := C.2.2.2.1
  have hts := C.2.2.2.2.1
  intro n
  induction n with
  | zero =>
    intro u7 x J H locs ls hm
    exact absurd hm (by simp [LX9_season_71])
  | succ n ih =>
    intro u7 x J H locs ls hm hw hS hl ke
    replace hm : BX9_season_71 q1 q2 q3 q4 q5 q6 (LX9_season_71 q1 q2 q3 q4 q5 q6 n) u7 x = some J := hm
    unfold BX9_season_71 at hm
    refine lv_iload hx hb dX9_season_71 (lv_at hl 7 rfl) ?_
    refine lv_aload_n hx hb dX9_season_73 rfl (lv_at hl 0 rfl) ?_
    refine gX9_129 C hw dX9_season_74 ?_
    refine lv_icmp_ge (tgt := 108) hx hb dX9_season_77 (by decide) (fun cc => ?_) (fun cc => ?_)
    · replace hm := ite_p cc hm
      exact ke _ (Option.some.inj hm).symm _ _ _ hw hS (lv_sub hl [0, 1, 2, 3, 4, 5, 6] rfl)
    · replace hm := ite_n cc hm
      refine lv_aload_n hx hb dX9_season_80 rfl (lv_at hl 0 rfl) ?_
      refine gX9_54 C hw dX9_season_81 ?_
      refine lv_iload hx hb dX9_season_84 (lv_at hl 7 rfl) ?_
      refine lv_aload_n hx hb dX9_season_86 rfl (lv_at hl 0 rfl) ?_
      refine gX9_38 C hw dX9_season_87 ?_
      refine lv_iload hx hb dX9_season_90 (lv_at hl 7 rfl) ?_
      obtain ⟨h14, hm⟩ := chk_e hm
      refine alM_9 C hw h14 dX9_season_92 ?_
      obtain ⟨h15, hm⟩ := chk_e hm
      refine asM_14 C hw hS h15 dX9_season_93 (fun H locs hw hS => ?_)
      obtain ⟨x16, ev, hm⟩ := lt_e hm
      rw [← ev] at hw
      clear ev
      refine lv_aload_n hx hb dX9_season_94 rfl (lv_at hl 0 rfl) ?_
      refine gX9_75 C hw dX9_season_95 ?_
      refine lv_iload hx hb dX9_season_98 (lv_at hl 7 rfl) ?_
      refine lv_iconst (v := 0) hx hb dX9_season_100 (by decide) ?_
      obtain ⟨h17, hm⟩ := chk_e hm
      refine asM_21 C hw hS h17 dX9_season_101 (fun H locs hw hS => ?_)
      obtain ⟨x18, ev, hm⟩ := lt_e hm
      rw [← ev] at hw
      clear ev
      obtain ⟨v19, ev, hm⟩ := lt_e hm
      refine lv_iinc (v := v19) (lv' := [(7, .int v19), (0, .ref β), (1, .int q1), (2, .int q2), (3, .int q3), (4, .int q4), (5, .int q5), (6, .int q6)]) hx hb dX9_season_102 hl (k := 7) rfl (by rw [ev]; rfl) (by decide) rfl (fun ls hl => ?_)
      clear ev
      refine lv_goto (tgt := 71) hx hb dX9_season_105 (by decide) ?_
      exact ih _ _ _ _ _ _ hm hw hS (lv_sub hl [1, 2, 3, 4, 5, 6, 7, 0] rfl) ke
set_option maxHeartbeats 4000000 in
set_option maxRecDepth 100000 in
theorem lX9_season_129 {p : Program} {l : Launch} {e : Env} {R : Room} {s : State} {m : MethodId} {args : Array Value} {below : List Frame} {meth : Method} {c : Code} {cells slots : Nat} {Q : State → Prop} {G : xG} {β N : Nat} (C : Cx p s m args meth c RX9 cX9_season 12 (some .int) (KK G)) (hRf : 107 ≤ R.frames) (hRl : 2467 ≤ R.locals) (hcs : cells ≤ R.cells ∧ slots ≤ R.slots) (q1 : Int32) (q2 : Int32) (q4 : Int32) (q5 : Int32) (q6 : Int32) (q9 : Int32) : ∀ (n : Nat) (u7 : Int64) (u10 : Int32) (x : MS) (J : Int64 × MS) (H : Heap) (locs : List Loc) (ls : Array Slot), LX9_season_129 q1 q2 q4 q5 q6 q9 n u7 u10 x = some J → MW β G N x H → va_S (AM β) s.heap H locs → lv_has ls 12 [(0, .ref β), (1, .int q1), (2, .int q2), (4, .int q4), (5, .int q5), (6, .int q6), (7, .long u7), (9, .int q9), (10, .int u10)] → (∀ (w7 : Int64) (x1 : MS), J = (w7, x1) → ∀ (H : Heap) (locs : List Loc) (ls : Array Slot), MW β G N x1 H → va_S (AM β) s.heap H locs → lv_has ls 12 [(0, .ref β), (1, .int q1), (2, .int q2), (4, .int q4), (5, .int q5), (6, .int q6), (7, .long w7), (9, .int q9)] → W p l e R s m args below meth c H locs cells slots Q (F0 m 215 ls [])) → W p l e R s m args below meth c H locs cells slots Q (F0 m 129 ls []) := by
  have hx := C.1
  have hb := C.2.1
  have ho := C.2.2.2.1
  have hts := C.2.2.2.2.1
  intro n
  induction n with
  | zero =>
    intro u7 u10 x J H locs ls hm
    exact absurd hm (by simp [LX9_season_129])
  | succ n ih =>
    intro u7 u10 x J H locs ls hm hw hS hl ke
    replace hm : BX9_season_129 q1 q2 q4 q5 q6 q9 (LX9_season_129 q1 q2 q4 q5 q6 q9 n) u7 u10 x = some J := hm
    unfold BX9_season_129 at hm
    refine lv_iload hx hb dX9_season_129 (lv_at hl 8 rfl) ?_
    refine lv_aload_n hx hb dX9_season_131 rfl (lv_at hl 0 rfl) ?_
    refine gX9_129 C hw dX9_season_132 ?_
    refine lv_icmp_ge (tgt := 215) hx hb dX9_season_135 (by decide) (fun cc => ?_) (fun cc => ?_)
    · replace hm := ite_p cc hm
      exact ke _ _ (Option.some.inj hm).symm _ _ _ hw hS (lv_sub hl [0, 1, 2, 3, 4, 5, 6, 7] rfl)
    · replace hm := ite_n cc hm
      refine lv_aload_n hx hb dX9_season_138 rfl (lv_at hl 0 rfl) ?_
      refine lv_iload_n hx hb dX9_season_139 rfl (lv_at hl 1 rfl) ?_
      refine lv_iload hx hb dX9_season_140 (lv_at hl 8 rfl) ?_
      obtain ⟨v22, h23, hm⟩ := bind_e hm
      refine sX9_196 C h23 hw hS hl.1 (Nat.le_of_ble_eq_true rfl) (Nat.le_trans (Nat.le_of_ble_eq_true rfl) hRf) (Nat.le_trans (Nat.le_of_ble_eq_true rfl) hRl) hcs dX9_season_142 (fun H locs hw hS => ?_)
      refine x_ifneB hx hb dX9_season_145 (tgt := 151) (by decide) (fun cc => ?_) (fun cc => ?_)
      · replace hm := ite_p cc hm
        refine lv_lload hx hb dX9_season_151 (lv_at hl 6 rfl) ?_
        refine lv_ldc2 (v := 48271) hx hb ho (hts (.constantLong RX9 422 48271) (tg 1392 (by decide +kernel) rfl)) dX9_season_153 ?_
        refine lv_lmul hx hb dX9_season_156 ?_
        refine lv_ldc2 (v := 2147483647) hx hb ho (hts (.constantLong RX9 424 2147483647) (tg 1393 (by decide +kernel) rfl)) dX9_season_157 ?_
        refine lv_lrem hx hb dX9_season_160 (by decide) ?_
        refine topJ hm (fun v24 hm => ?_)
        refine lv_lstore (lv' := [(7, .long v24), (0, .ref β), (1, .int q1), (2, .int q2), (4, .int q4), (5, .int q5), (6, .int q6), (9, .int q9), (10, .int u10)]) hx hb dX9_season_161 hl (by decide) rfl (fun ls hl => ?_)
        refine lv_aload_n hx hb dX9_season_163 rfl (lv_at hl 1 rfl) ?_
        refine gX9_72 C hw dX9_season_164 ?_
        refine lv_iload hx hb dX9_season_167 (lv_at hl 8 rfl) ?_
        refine lv_aload_n hx hb dX9_season_169 rfl (lv_at hl 1 rfl) ?_
        refine lv_iload hx hb dX9_season_170 (lv_at hl 8 rfl) ?_
        refine lv_iload hx hb dX9_season_172 (lv_at hl 6 rfl) ?_
        refine lv_iload hx hb dX9_season_174 (lv_at hl 7 rfl) ?_
        refine lv_aload_n hx hb dX9_season_176 rfl (lv_at hl 1 rfl) ?_
        refine gX9_41 C hw dX9_season_177 ?_
        refine lv_iload hx hb dX9_season_180 (lv_at hl 6 rfl) ?_
        obtain ⟨h25, hm⟩ := chk_e hm
        refine alM_10 C hw h25 dX9_season_182 ?_
        refine lv_aload_n hx hb dX9_season_183 rfl (lv_at hl 1 rfl) ?_
        refine gX9_38 C hw dX9_season_184 ?_
        refine lv_iload hx hb dX9_season_187 (lv_at hl 8 rfl) ?_
        obtain ⟨h26, hm⟩ := chk_e hm
        refine alM_9 C hw h26 dX9_season_189 ?_
        obtain ⟨v27, h28, hm⟩ := bind_e hm
        refine sX9_200 C h28 hw hS hl.1 (Nat.le_of_ble_eq_true rfl) (Nat.le_trans (Nat.le_of_ble_eq_true rfl) hRf) (Nat.le_trans (Nat.le_of_ble_eq_true rfl) hRl) hcs dX9_season_190 (fun H locs hw hS => ?_)
        refine lv_lload hx hb dX9_season_193 (lv_at hl 0 rfl) ?_
        refine lv_aload_n hx hb dX9_season_195 rfl (lv_at hl 1 rfl) ?_
        obtain ⟨v29, h30, hm⟩ := bind_e hm
        refine sX9_204 C h30 hw hS hl.1 (Nat.le_of_ble_eq_true rfl) (Nat.le_trans (Nat.le_of_ble_eq_true rfl) hRf) (Nat.le_trans (Nat.le_of_ble_eq_true rfl) hRl) hcs dX9_season_196 (fun H locs hw hS => ?_)
        refine lv_i2l hx hb dX9_season_199 rfl ?_
        obtain ⟨h31, hm⟩ := chk_e hm
        refine lv_lrem hx hb dX9_season_200 h31 ?_
        refine lv_l2i hx hb dX9_season_201 rfl ?_
        refine lv_iadd hx hb dX9_season_202 ?_
        refine lv_aload_n hx hb dX9_season_203 rfl (lv_at hl 1 rfl) ?_
        refine gX9_124 C hw dX9_season_204 ?_
        refine lv_isub hx hb dX9_season_207 ?_
        obtain ⟨h32, hm⟩ := chk_e hm
        refine asM_20 C hw hS h32 dX9_season_208 (fun H locs hw hS => ?_)
        obtain ⟨x33, ev, hm⟩ := lt_e hm
        rw [← ev] at hw
        clear ev
        obtain ⟨v34, ev, hm⟩ := lt_e hm
        refine lv_iinc (v := v34) (lv' := [(10, .int v34), (7, .long v24), (0, .ref β), (1, .int q1), (2, .int q2), (4, .int q4), (5, .int q5), (6, .int q6), (9, .int q9)]) hx hb dX9_season_209 hl (k := 8) rfl (by rw [ev]; rfl) (by decide) rfl (fun ls hl => ?_)
        clear ev
        refine lv_goto (tgt := 129) hx hb dX9_season_212 (by decide) ?_
        exact ih _ _ _ _ _ _ _ hm hw hS (lv_sub hl [2, 3, 4, 5, 6, 7, 1, 8, 0] rfl) ke
      · replace hm := ite_n cc hm
        refine lv_goto (tgt := 209) hx hb dX9_season_148 (by decide) ?_
        obtain ⟨v35, ev, hm⟩ := lt_e hm
        refine lv_iinc (v := v35) (lv' := [(10, .int v35), (0, .ref β), (1, .int q1), (2, .int q2), (4, .int q4), (5, .int q5), (6, .int q6), (7, .long u7), (9, .int q9)]) hx hb dX9_season_209 hl (k := 8) rfl (by rw [ev]; rfl) (by decide) rfl (fun ls hl => ?_)
        clear ev
        refine lv_goto (tgt := 129) hx hb dX9_season_212 (by decide) ?_
        exact ih _ _ _ _ _ _ _ hm hw hS (lv_sub hl [1, 2, 3, 4, 5, 6, 7, 8, 0] rfl) ke
set_option maxHeartbeats 4000000 in
set_option maxRecDepth 100000 in
theorem lX9_season_218 {p : Program} {l : Launch} {e : Env} {R : Room} {s : State} {m : MethodId} {args : Array Value} {below : List Frame} {meth : Method} {c : Code} {cells slots : Nat} {Q : State → Prop} {G : xG} {β N : Nat} (C : Cx p s m args meth c RX9 cX9_season 12 (some .int) (KK G)) (hRf : 107 ≤ R.frames) (hRl : 2467 ≤ R.locals) (hcs : cells ≤ R.cells ∧ slots ≤ R.slots) (q1 : Int32) (q2 : Int32) (q4 : Int32) (q5 : Int32) (q6 : Int32) (q7 : Int64) (q9 : Int32) : ∀ (n : Nat) (u10 : Int32) (x : MS) (J : MS) (H : Heap) (locs : List Loc) (ls : Array Slot), LX9_season_218 q1 q2 q4 q5 q6 q7 q9 n u10 x = some J → MW β G N x H → va_S (AM β) s.heap H locs → lv_has ls 12 [(0, .ref β), (1, .int q1), (2, .int q2), (4, .int q4), (5, .int q5), (6, .int q6), (7, .long q7), (9, .int q9), (10, .int u10)] → (∀ (x1 : MS), J = x1 → ∀ (H : Heap) (locs : List Loc) (ls : Array Slot), MW β G N x1 H → va_S (AM β) s.heap H locs → lv_has ls 12 [(0, .ref β), (1, .int q1), (2, .int q2), (4, .int q4), (5, .int q5), (6, .int q6), (7, .long q7), (9, .int q9)] → W p l e R s m args below meth c H locs cells slots Q (F0 m 313 ls [])) → W p l e R s m args below meth c H locs cells slots Q (F0 m 218 ls []) := by
  have hx := C.1
  have hb := C.2.1
  have ho := C.2.2.2.1
  have hts := C.2.2.2.2.1
  intro n
  induction n with
  | zero =>
    intro u10 x J H locs ls hm
    exact absurd hm (by simp [LX9_season_218])
  | succ n ih =>
    intro u10 x J H locs ls hm hw hS hl ke
    replace hm : BX9_season_218 q1 q2 q4 q5 q6 q7 q9 (LX9_season_218 q1 q2 q4 q5 q6 q7 q9 n) u10 x = some J := hm
    unfold BX9_season_218 at hm
    refine lv_iload hx hb dX9_season_218 (lv_at hl 8 rfl) ?_
    refine lv_aload_n hx hb dX9_season_220 rfl (lv_at hl 0 rfl) ?_
    refine gX9_129 C hw dX9_season_221 ?_
    refine lv_icmp_ge (tgt := 313) hx hb dX9_season_224 (by decide) (fun cc => ?_) (fun cc => ?_)
    · replace hm := ite_p cc hm
      exact ke _ (Option.some.inj hm).symm _ _ _ hw hS (lv_sub hl [0, 1, 2, 3, 4, 5, 6, 7] rfl)
    · replace hm := ite_n cc hm
      refine lv_aload_n hx hb dX9_season_227 rfl (lv_at hl 0 rfl) ?_
      refine lv_iload_n hx hb dX9_season_228 rfl (lv_at hl 1 rfl) ?_
      refine lv_iload hx hb dX9_season_229 (lv_at hl 8 rfl) ?_
      obtain ⟨v38, h39, hm⟩ := bind_e hm
      refine sX9_196 C h39 hw hS hl.1 (Nat.le_of_ble_eq_true rfl) (Nat.le_trans (Nat.le_of_ble_eq_true rfl) hRf) (Nat.le_trans (Nat.le_of_ble_eq_true rfl) hRl) hcs dX9_season_231 (fun H locs hw hS => ?_)
      refine x_ifneB hx hb dX9_season_234 (tgt := 240) (by decide) (fun cc => ?_) (fun cc => ?_)
      · replace hm := ite_p cc hm
        refine lv_aload_n hx hb dX9_season_240 rfl (lv_at hl 0 rfl) ?_
        refine lv_iload_n hx hb dX9_season_241 rfl (lv_at hl 1 rfl) ?_
        refine lv_iload hx hb dX9_season_242 (lv_at hl 8 rfl) ?_
        obtain ⟨v40, h41, hm⟩ := bind_e hm
        refine sX9_426 C h41 hw hS hl.1 (Nat.le_of_ble_eq_true rfl) (Nat.le_trans (Nat.le_of_ble_eq_true rfl) hRf) (Nat.le_trans (Nat.le_of_ble_eq_true rfl) hRl) hcs dX9_season_244 (fun H locs hw hS => ?_)
        refine lv_istore (lv' := [(11, .int v40), (0, .ref β), (1, .int q1), (2, .int q2), (4, .int q4), (5, .int q5), (6, .int q6), (7, .long q7), (9, .int q9), (10, .int u10)]) hx hb dX9_season_247 hl (by decide) rfl (fun ls hl => ?_)
        refine lv_aload_n hx hb dX9_season_249 rfl (lv_at hl 1 rfl) ?_
        refine gX9_75 C hw dX9_season_250 ?_
        refine lv_iload hx hb dX9_season_253 (lv_at hl 9 rfl) ?_
        refine lv_dup2_11 hx hb dX9_season_255 rfl rfl ?_
        obtain ⟨h42, hm⟩ := chk_e hm
        refine alM_21 C hw h42 dX9_season_256 ?_
        refine lv_iload hx hb dX9_season_257 (lv_at hl 0 rfl) ?_
        obtain ⟨v43, hj, hm⟩ := bind_e hm
        have kk : ∀ (H : Heap) (locs : List Loc) (ls : Array Slot), MW β G N x H → va_S (AM β) s.heap H locs → lv_has ls 12 [(0, .ref β), (1, .int q1), (2, .int q2), (4, .int q4), (5, .int q5), (6, .int q6), (7, .long q7), (9, .int q9), (10, .int u10), (11, .int v40)] → W p l e R s m args below meth c H locs cells slots Q (F0 m 267 ls [.int (bI v43), .int (x.2.1 21 u10.toNatClampNeg), .int u10, .ref (β + 21)]) := by
          intro H locs ls hw hS hl
          refine lv_iadd hx hb dX9_season_267 ?_
          obtain ⟨h44, hm⟩ := chk_e hm
          refine asM_21 C hw hS h44 dX9_season_268 (fun H locs hw hS => ?_)
          obtain ⟨x45, ev, hm⟩ := lt_e hm
          rw [← ev] at hw
          clear ev
          refine lv_aload_n hx hb dX9_season_269 rfl (lv_at hl 0 rfl) ?_
          refine gX9_38 C hw dX9_season_270 ?_
          refine lv_iload hx hb dX9_season_273 (lv_at hl 8 rfl) ?_
          refine lv_aload_n hx hb dX9_season_275 rfl (lv_at hl 0 rfl) ?_
          refine lv_iload hx hb dX9_season_276 (lv_at hl 8 rfl) ?_
          refine lv_aload_n hx hb dX9_season_278 rfl (lv_at hl 0 rfl) ?_
          refine gX9_38 C hw dX9_season_279 ?_
          refine lv_iload hx hb dX9_season_282 (lv_at hl 8 rfl) ?_
          obtain ⟨h46, hm⟩ := chk_e hm
          refine alM_9 C hw h46 dX9_season_284 ?_
          refine lv_aload_n hx hb dX9_season_285 rfl (lv_at hl 0 rfl) ?_
          refine lv_iload hx hb dX9_season_286 (lv_at hl 8 rfl) ?_
          obtain ⟨v47, h48, hm⟩ := bind_e hm
          refine sX9_173 C h48 hw hS hl.1 (Nat.le_of_ble_eq_true rfl) (Nat.le_trans (Nat.le_of_ble_eq_true rfl) hRf) (Nat.le_trans (Nat.le_of_ble_eq_true rfl) hRl) hcs dX9_season_288 (fun H locs hw hS => ?_)
          refine lv_aload_n hx hb dX9_season_291 rfl (lv_at hl 0 rfl) ?_
          refine gX9_75 C hw dX9_season_292 ?_
          refine lv_iload hx hb dX9_season_295 (lv_at hl 8 rfl) ?_
          obtain ⟨h49, hm⟩ := chk_e hm
          refine alM_21 C hw h49 dX9_season_297 ?_
          refine lv_iadd hx hb dX9_season_298 ?_
          refine lv_iload hx hb dX9_season_299 (lv_at hl 9 rfl) ?_
          refine lv_iload hx hb dX9_season_301 (lv_at hl 5 rfl) ?_
          obtain ⟨v50, x51, h52, hm⟩ := bind2_e hm
          refine sX9_405 C h52 hw hS hl.1 (Nat.le_of_ble_eq_true rfl) (Nat.le_trans (Nat.le_of_ble_eq_true rfl) hRf) (Nat.le_trans (Nat.le_of_ble_eq_true rfl) hRl) hcs dX9_season_303 (fun H locs hw hS => ?_)
          obtain ⟨h53, hm⟩ := chk_e hm
          refine asM_9 C hw hS h53 dX9_season_306 (fun H locs hw hS => ?_)
          obtain ⟨x54, ev, hm⟩ := lt_e hm
          rw [← ev] at hw
          clear ev
          obtain ⟨v55, ev, hm⟩ := lt_e hm
          refine lv_iinc (v := v55) (lv' := [(10, .int v55), (0, .ref β), (1, .int q1), (2, .int q2), (4, .int q4), (5, .int q5), (6, .int q6), (7, .long q7), (9, .int q9), (11, .int v40)]) hx hb dX9_season_307 hl (k := 8) rfl (by rw [ev]; rfl) (by decide) rfl (fun ls hl => ?_)
          clear ev
          refine lv_goto (tgt := 218) hx hb dX9_season_310 (by decide) ?_
          exact ih _ _ _ _ _ _ hm hw hS (lv_sub hl [1, 2, 3, 4, 5, 6, 7, 8, 0] rfl) ke
        clear hm
        replace hm := hj
        clear hj
        refine lv_if_ne (tgt := 266) hx hb dX9_season_259 (by decide) (fun cc => ?_) (fun cc => ?_)
        · replace hm := ite_n cc hm
          refine lv_iconst (v := 0) hx hb dX9_season_266 (by decide) ?_
          obtain rfl := Option.some.inj hm
          exact kk _ _ _ hw hS (lv_sub hl [1, 2, 3, 4, 5, 6, 7, 8, 9, 0] rfl)
        · replace hm := ite_p cc hm
          refine lv_iconst (v := 1) hx hb dX9_season_262 (by decide) ?_
          refine lv_goto (tgt := 267) hx hb dX9_season_263 (by decide) ?_
          obtain rfl := Option.some.inj hm
          exact kk _ _ _ hw hS (lv_sub hl [1, 2, 3, 4, 5, 6, 7, 8, 9, 0] rfl)
      · replace hm := ite_n cc hm
        refine lv_goto (tgt := 307) hx hb dX9_season_237 (by decide) ?_
        obtain ⟨v56, ev, hm⟩ := lt_e hm
        refine lv_iinc (v := v56) (lv' := [(10, .int v56), (0, .ref β), (1, .int q1), (2, .int q2), (4, .int q4), (5, .int q5), (6, .int q6), (7, .long q7), (9, .int q9)]) hx hb dX9_season_307 hl (k := 8) rfl (by rw [ev]; rfl) (by decide) rfl (fun ls hl => ?_)
        clear ev
        refine lv_goto (tgt := 218) hx hb dX9_season_310 (by decide) ?_
        exact ih _ _ _ _ _ _ hm hw hS (lv_sub hl [1, 2, 3, 4, 5, 6, 7, 8, 0] rfl) ke
set_option maxHeartbeats 4000000 in
set_option maxRecDepth 100000 in
theorem lX9_season_117 {p : Program} {l : Launch} {e : Env} {R : Room} {s : State} {m : MethodId} {args : Array Value} {below : List Frame} {meth : Method} {c : Code} {cells slots : Nat} {Q : State → Prop} {G : xG} {β N : Nat} (C : Cx p s m args meth c RX9 cX9_season 12 (some .int) (KK G)) (hRf : 107 ≤ R.frames) (hRl : 2467 ≤ R.locals) (hcs : cells ≤ R.cells ∧ slots ≤ R.slots) (q1 : Int32) (q2 : Int32) (q4 : Int32) (q5 : Int32) (q6 : Int32) : ∀ (n : Nat) (u7 : Int64) (u9 : Int32) (x : MS) (J : MS) (H : Heap) (locs : List Loc) (ls : Array Slot), LX9_season_117 q1 q2 q4 q5 q6 n u7 u9 x = some J → MW β G N x H → va_S (AM β) s.heap H locs → lv_has ls 12 [(0, .ref β), (1, .int q1), (2, .int q2), (4, .int q4), (5, .int q5), (6, .int q6), (7, .long u7), (9, .int u9)] → (∀ (x1 : MS), J = x1 → ∀ (H : Heap) (locs : List Loc) (ls : Array Slot), MW β G N x1 H → va_S (AM β) s.heap H locs → lv_has ls 12 [(0, .ref β), (4, .int q4), (5, .int q5)] → W p l e R s m args below meth c H locs cells slots Q (F0 m 319 ls [])) → W p l e R s m args below meth c H locs cells slots Q (F0 m 117 ls []) := by
  have hx := C.1
  have hb := C.2.1
  have ho := C.2.2.2.1
  have hts := C.2.2.2.2.1
  intro n
  induction n with
  | zero =>
    intro u7 u9 x J H locs ls hm
    exact absurd hm (by simp [LX9_season_117])
  | succ n ih =>
    intro u7 u9 x J H locs ls hm hw hS hl ke
    replace hm : BX9_season_117 q1 q2 q4 q5 q6 (LX9_season_117 q1 q2 q4 q5 q6 n) u7 u9 x = some J := hm
    unfold BX9_season_117 at hm
    refine lv_iload hx hb dX9_season_117 (lv_at hl 7 rfl) ?_
    refine lv_iload_n hx hb dX9_season_119 rfl (lv_at hl 2 rfl) ?_
    refine lv_bipush (v := 100) hx hb dX9_season_120 (by decide) ?_
    refine lv_irem hx hb dX9_season_122 (by decide) ?_
    refine lv_icmp_ge (tgt := 319) hx hb dX9_season_123 (by decide) (fun cc => ?_) (fun cc => ?_)
    · replace hm := ite_p cc hm
      exact ke _ (Option.some.inj hm).symm _ _ _ hw hS (lv_sub hl [0, 3, 4] rfl)
    · replace hm := ite_n cc hm
      refine lv_iconst (v := 0) hx hb dX9_season_126 (by decide) ?_
      refine lv_istore (lv' := [(10, .int 0), (0, .ref β), (1, .int q1), (2, .int q2), (4, .int q4), (5, .int q5), (6, .int q6), (7, .long u7), (9, .int u9)]) hx hb dX9_season_127 hl (by decide) rfl (fun ls hl => ?_)
      obtain ⟨v36, x37, hj, hm⟩ := bind2_e hm
      refine lX9_season_129 C hRf hRl hcs q1 q2 q4 q5 q6 u9 NF _ _ _ _ _ _ _ hj hw hS (lv_sub hl [1, 2, 3, 4, 5, 6, 7, 8, 0] rfl) (fun v36_ x37_ e0 H locs ls hw hS hl => ?_)
      cases e0
      refine lv_iconst (v := 0) hx hb dX9_season_215 (by decide) ?_
      refine lv_istore (lv' := [(10, .int 0), (0, .ref β), (1, .int q1), (2, .int q2), (4, .int q4), (5, .int q5), (6, .int q6), (7, .long v36), (9, .int u9)]) hx hb dX9_season_216 hl (by decide) rfl (fun ls hl => ?_)
      obtain ⟨x57, hj, hm⟩ := bind_e hm
      refine lX9_season_218 C hRf hRl hcs q1 q2 q4 q5 q6 v36 u9 NF _ _ _ _ _ _ hj hw hS (lv_sub hl [1, 2, 3, 4, 5, 6, 7, 8, 0] rfl) (fun x57_ e0 H locs ls hw hS hl => ?_)
      cases e0
      obtain ⟨v58, ev, hm⟩ := lt_e hm
      refine lv_iinc (v := v58) (lv' := [(9, .int v58), (0, .ref β), (1, .int q1), (2, .int q2), (4, .int q4), (5, .int q5), (6, .int q6), (7, .long v36)]) hx hb dX9_season_313 hl (k := 7) rfl (by rw [ev]; rfl) (by decide) rfl (fun ls hl => ?_)
      clear ev
      refine lv_goto (tgt := 117) hx hb dX9_season_316 (by decide) ?_
      exact ih _ _ _ _ _ _ _ hm hw hS (lv_sub hl [1, 2, 3, 4, 5, 6, 7, 0] rfl) ke
set_option maxHeartbeats 4000000 in
set_option maxRecDepth 100000 in
theorem lX9_season_346 {p : Program} {l : Launch} {e : Env} {R : Room} {s : State} {m : MethodId} {args : Array Value} {below : List Frame} {meth : Method} {c : Code} {cells slots : Nat} {Q : State → Prop} {G : xG} {β N : Nat} (C : Cx p s m args meth c RX9 cX9_season 12 (some .int) (KK G)) (hRf : 107 ≤ R.frames) (hRl : 2467 ≤ R.locals) (hcs : cells ≤ R.cells ∧ slots ≤ R.slots) (q9 : Int32) : ∀ (n : Nat) (u10 : Int32) (x : MS) (J : MS) (H : Heap) (locs : List Loc) (ls : Array Slot), LX9_season_346 q9 n u10 x = some J → MW β G N x H → va_S (AM β) s.heap H locs → lv_has ls 12 [(0, .ref β), (9, .int q9), (10, .int u10)] → (∀ (x1 : MS), J = x1 → ∀ (H : Heap) (locs : List Loc) (ls : Array Slot), MW β G N x1 H → va_S (AM β) s.heap H locs → lv_has ls 12 [(9, .int q9)] → W p l e R s m args below meth c H locs cells slots Q (F0 m 375 ls [])) → W p l e R s m args below meth c H locs cells slots Q (F0 m 346 ls []) := by
  have hx := C.1
  have hb := C.2.1
  have ho := C.2.2.2.1
  have hts := C.2.2.2.2.1
  intro n
  induction n with
  | zero =>
    intro u10 x J H locs ls hm
    exact absurd hm (by simp [LX9_season_346])
  | succ n ih =>
    intro u10 x J H locs ls hm hw hS hl ke
    replace hm : BX9_season_346 q9 (LX9_season_346 q9 n) u10 x = some J := hm
    unfold BX9_season_346 at hm
    refine lv_iload hx hb dX9_season_346 (lv_at hl 2 rfl) ?_
    refine lv_aload_n hx hb dX9_season_348 rfl (lv_at hl 0 rfl) ?_
    refine gX9_129 C hw dX9_season_349 ?_
    refine lv_icmp_ge (tgt := 375) hx hb dX9_season_352 (by decide) (fun cc => ?_) (fun cc => ?_)
    · replace hm := ite_p cc hm
      exact ke _ (Option.some.inj hm).symm _ _ _ hw hS (lv_sub hl [1] rfl)
    · replace hm := ite_n cc hm
      refine lv_aload_n hx hb dX9_season_355 rfl (lv_at hl 0 rfl) ?_
      refine gX9_38 C hw dX9_season_356 ?_
      refine lv_iload hx hb dX9_season_359 (lv_at hl 2 rfl) ?_
      refine lv_aload_n hx hb dX9_season_361 rfl (lv_at hl 0 rfl) ?_
      refine gX9_54 C hw dX9_season_362 ?_
      refine lv_iload hx hb dX9_season_365 (lv_at hl 2 rfl) ?_
      obtain ⟨h63, hm⟩ := chk_e hm
      refine alM_14 C hw h63 dX9_season_367 ?_
      obtain ⟨h64, hm⟩ := chk_e hm
      refine asM_9 C hw hS h64 dX9_season_368 (fun H locs hw hS => ?_)
      obtain ⟨x65, ev, hm⟩ := lt_e hm
      rw [← ev] at hw
      clear ev
      obtain ⟨v66, ev, hm⟩ := lt_e hm
      refine lv_iinc (v := v66) (lv' := [(10, .int v66), (0, .ref β), (9, .int q9)]) hx hb dX9_season_369 hl (k := 2) rfl (by rw [ev]; rfl) (by decide) rfl (fun ls hl => ?_)
      clear ev
      refine lv_goto (tgt := 346) hx hb dX9_season_372 (by decide) ?_
      exact ih _ _ _ _ _ _ hm hw hS (lv_sub hl [1, 2, 0] rfl) ke
abbrev rmX9_season : Room := { frames := 107, cells := 0, slots := 0, locals := 2467 }
set_option maxHeartbeats 4000000 in
set_option maxRecDepth 100000 in
theorem kX9_season {l : Launch} {G : xG} {β N : Nat} {x x' : MS} {a1 : Int32} {a2 : Int32} {a3 : Int32} {a4 : Int32} {a5 : Int32} {r : Int32} (hm : fX9_season x a1 a2 a3 a4 a5 = some (r, x')) : Met l yX9_season (.code yX9_season cX9_season 12 (some .int) :: GT) rmX9_season (PcW [.ref β, .int a1, .int a2, .int a3, .int a4, .int a5] (MW β G N x) (KK G)) (QcW (AM β) (some (.int r)) (MW β G N x')) 0 0 (AM β) := by
  unfold fX9_season at hm
  refine xpro (own := RX9) (by decide +kernel) rfl (Nat.le_of_ble_eq_true rfl) ?_
  intro p e s m args below meth c C hw ls hl
  have hx := C.1
  have hb := C.2.1
  have ho := C.2.2.2.1
  have hts := C.2.2.2.2.1
  have hS : va_S (AM β) s.heap s.heap [] := va_S.rf
  have hl : lv_has ls 12 [(0, .ref β), (1, .int a1), (2, .int a2), (3, .int a3), (4, .int a4), (5, .int a5)] := hl
  have hRf : 107 ≤ rmX9_season.frames := Nat.le_refl _
  have hRl : 2467 ≤ rmX9_season.locals := Nat.le_refl _
  have hcs : 0 ≤ rmX9_season.cells ∧ 0 ≤ rmX9_season.slots := ⟨Nat.le_refl _, Nat.le_refl _⟩
  refine lv_aload_n hx hb dX9_season_0 rfl (lv_at hl 0 rfl) ?_
  refine lv_iload_n hx hb dX9_season_1 rfl (lv_at hl 1 rfl) ?_
  obtain ⟨v1, h2, hm⟩ := bind_e hm
  refine sX9_222 C h2 hw hS hl.1 (Nat.le_of_ble_eq_true rfl) (Nat.le_trans (Nat.le_of_ble_eq_true rfl) hRf) (Nat.le_trans (Nat.le_of_ble_eq_true rfl) hRl) hcs dX9_season_2 (fun H locs hw hS => ?_)
  refine x_ifeqB hx hb dX9_season_5 (tgt := 59) (by decide) (fun cc => ?_) (fun cc => ?_)
  · replace hm := ite_n cc hm
    refine lv_bipush (v := (-2)) hx hb dX9_season_59 (by decide) ?_
    obtain ⟨rfl, rfl⟩ := inj2 hm
    exact xret_i C hw hS dX9_season_61
  · replace hm := ite_p cc hm
    refine lv_iload_n hx hb dX9_season_8 rfl (lv_at hl 2 rfl) ?_
    obtain ⟨v3, h4, hm⟩ := bind_e hm
    refine sX9_225 C h4 hw hS hl.1 (Nat.le_of_ble_eq_true rfl) (Nat.le_trans (Nat.le_of_ble_eq_true rfl) hRf) (Nat.le_trans (Nat.le_of_ble_eq_true rfl) hRl) hcs dX9_season_9 (fun H locs hw hS => ?_)
    refine x_ifeqB hx hb dX9_season_12 (tgt := 59) (by decide) (fun cc => ?_) (fun cc => ?_)
    · replace hm := ite_n cc hm
      refine lv_bipush (v := (-2)) hx hb dX9_season_59 (by decide) ?_
      obtain ⟨rfl, rfl⟩ := inj2 hm
      exact xret_i C hw hS dX9_season_61
    · replace hm := ite_p cc hm
      refine lv_iload_n hx hb dX9_season_15 rfl (lv_at hl 2 rfl) ?_
      refine lv_bipush (v := 100) hx hb dX9_season_16 (by decide) ?_
      refine lv_irem hx hb dX9_season_18 (by decide) ?_
      refine lv_i2l hx hb dX9_season_19 rfl ?_
      refine lv_lconst (v := 1) hx hb dX9_season_20 (by decide) ?_
      refine lv_ldc2 (v := 12) hx hb ho (hts (.constantLong RX9 152 12) (tg 1110 (by decide +kernel) rfl)) dX9_season_21 ?_
      obtain ⟨v5, h6, hm⟩ := bind_e hm
      refine sX9_132 C h6 hw hS hl.1 (Nat.le_of_ble_eq_true rfl) (Nat.le_trans (Nat.le_of_ble_eq_true rfl) hRf) (Nat.le_trans (Nat.le_of_ble_eq_true rfl) hRl) hcs dX9_season_24 (fun H locs hw hS => ?_)
      refine x_ifeqB hx hb dX9_season_27 (tgt := 59) (by decide) (fun cc => ?_) (fun cc => ?_)
      · replace hm := ite_n cc hm
        refine lv_bipush (v := (-2)) hx hb dX9_season_59 (by decide) ?_
        obtain ⟨rfl, rfl⟩ := inj2 hm
        exact xret_i C hw hS dX9_season_61
      · replace hm := ite_p cc hm
        refine lv_iload_n hx hb dX9_season_30 rfl (lv_at hl 3 rfl) ?_
        refine lv_i2l hx hb dX9_season_31 rfl ?_
        refine lv_lconst (v := 0) hx hb dX9_season_32 (by decide) ?_
        refine lv_ldc2 (v := 99999) hx hb ho (hts (.constantLong RX9 420 99999) (tg 1391 (by decide +kernel) rfl)) dX9_season_33 ?_
        obtain ⟨v7, h8, hm⟩ := bind_e hm
        refine sX9_132 C h8 hw hS hl.1 (Nat.le_of_ble_eq_true rfl) (Nat.le_trans (Nat.le_of_ble_eq_true rfl) hRf) (Nat.le_trans (Nat.le_of_ble_eq_true rfl) hRl) hcs dX9_season_36 (fun H locs hw hS => ?_)
        refine x_ifeqB hx hb dX9_season_39 (tgt := 59) (by decide) (fun cc => ?_) (fun cc => ?_)
        · replace hm := ite_n cc hm
          refine lv_bipush (v := (-2)) hx hb dX9_season_59 (by decide) ?_
          obtain ⟨rfl, rfl⟩ := inj2 hm
          exact xret_i C hw hS dX9_season_61
        · replace hm := ite_p cc hm
          refine lv_aload_n hx hb dX9_season_42 rfl (lv_at hl 0 rfl) ?_
          refine lv_iload hx hb dX9_season_43 (lv_at hl 4 rfl) ?_
          obtain ⟨v9, h10, hm⟩ := bind_e hm
          refine sX9_146 C h10 hw hS hl.1 (Nat.le_of_ble_eq_true rfl) (Nat.le_trans (Nat.le_of_ble_eq_true rfl) hRf) (Nat.le_trans (Nat.le_of_ble_eq_true rfl) hRl) hcs dX9_season_45 (fun H locs hw hS => ?_)
          refine x_ifeqB hx hb dX9_season_48 (tgt := 59) (by decide) (fun cc => ?_) (fun cc => ?_)
          · replace hm := ite_n cc hm
            refine lv_bipush (v := (-2)) hx hb dX9_season_59 (by decide) ?_
            obtain ⟨rfl, rfl⟩ := inj2 hm
            exact xret_i C hw hS dX9_season_61
          · replace hm := ite_p cc hm
            refine lv_iload hx hb dX9_season_51 (lv_at hl 5 rfl) ?_
            obtain ⟨v11, h12, hm⟩ := bind_e hm
            refine sX9_228 C h12 hw hS hl.1 (Nat.le_of_ble_eq_true rfl) (Nat.le_trans (Nat.le_of_ble_eq_true rfl) hRf) (Nat.le_trans (Nat.le_of_ble_eq_true rfl) hRl) hcs dX9_season_53 (fun H locs hw hS => ?_)
            refine x_ifneB hx hb dX9_season_56 (tgt := 62) (by decide) (fun cc => ?_) (fun cc => ?_)
            · replace hm := ite_p cc hm
              refine lv_iload_n hx hb dX9_season_62 rfl (lv_at hl 2 rfl) ?_
              refine lv_bipush (v := 100) hx hb dX9_season_63 (by decide) ?_
              refine lv_idiv hx hb dX9_season_65 (by decide) ?_
              refine topI hm (fun v13 hm => ?_)
              refine lv_istore (lv' := [(6, .int v13), (0, .ref β), (1, .int a1), (2, .int a2), (3, .int a3), (4, .int a4), (5, .int a5)]) hx hb dX9_season_66 hl (by decide) rfl (fun ls hl => ?_)
              refine lv_iconst (v := 0) hx hb dX9_season_68 (by decide) ?_
              refine lv_istore (lv' := [(7, .int 0), (6, .int v13), (0, .ref β), (1, .int a1), (2, .int a2), (3, .int a3), (4, .int a4), (5, .int a5)]) hx hb dX9_season_69 hl (by decide) rfl (fun ls hl => ?_)
              obtain ⟨x20, hj, hm⟩ := bind_e hm
              refine lX9_season_71 C hRf hRl hcs a1 a2 a3 a4 a5 v13 NF _ _ _ _ _ _ hj hw hS (lv_sub hl [2, 3, 4, 5, 6, 7, 1, 0] rfl) (fun x20_ e0 H locs ls hw hS hl => ?_)
              cases e0
              refine lv_iload_n hx hb dX9_season_108 rfl (lv_at hl 3 rfl) ?_
              refine lv_i2l hx hb dX9_season_109 rfl ?_
              refine lv_lconst (v := 1) hx hb dX9_season_110 (by decide) ?_
              refine lv_ladd hx hb dX9_season_111 ?_
              refine topJ hm (fun v21 hm => ?_)
              refine lv_lstore (lv' := [(7, .long v21), (0, .ref β), (1, .int a1), (2, .int a2), (3, .int a3), (4, .int a4), (5, .int a5), (6, .int v13)]) hx hb dX9_season_112 hl (by decide) rfl (fun ls hl => ?_)
              refine lv_iconst (v := 0) hx hb dX9_season_114 (by decide) ?_
              refine lv_istore (lv' := [(9, .int 0), (7, .long v21), (0, .ref β), (1, .int a1), (2, .int a2), (3, .int a3), (4, .int a4), (5, .int a5), (6, .int v13)]) hx hb dX9_season_115 hl (by decide) rfl (fun ls hl => ?_)
              obtain ⟨x59, hj, hm⟩ := bind_e hm
              refine lX9_season_117 C hRf hRl hcs a1 a2 a4 a5 v13 NF _ _ _ _ _ _ _ hj hw hS (lv_sub hl [2, 3, 4, 6, 7, 8, 1, 0] rfl) (fun x59_ e0 H locs ls hw hS hl => ?_)
              cases e0
              refine lv_iload hx hb dX9_season_319 (lv_at hl 2 rfl) ?_
              obtain ⟨v62, hj, hm⟩ := bind_e hm
              have kk : ∀ (H : Heap) (locs : List Loc) (ls : Array Slot), MW β G N x59 H → va_S (AM β) s.heap H locs → lv_has ls 12 [(0, .ref β)] → W p l e rmX9_season s m args below meth c H locs 0 0 (MQ below (QcW (AM β) (some (.int r)) (MW β G N x')) args s 0 0 (AM β)) (F0 m 341 ls [.int v62]) := by
                intro H locs ls hw hS hl
                refine lv_istore (lv' := [(9, .int v62), (0, .ref β)]) hx hb dX9_season_341 hl (by decide) rfl (fun ls hl => ?_)
                refine lv_iconst (v := 0) hx hb dX9_season_343 (by decide) ?_
                refine lv_istore (lv' := [(10, .int 0), (9, .int v62), (0, .ref β)]) hx hb dX9_season_344 hl (by decide) rfl (fun ls hl => ?_)
                obtain ⟨x67, hj, hm⟩ := bind_e hm
                refine lX9_season_346 C hRf hRl hcs v62 NF _ _ _ _ _ _ hj hw hS (lv_sub hl [2, 1, 0] rfl) (fun x67_ e0 H locs ls hw hS hl => ?_)
                cases e0
                refine lv_iload hx hb dX9_season_375 (lv_at hl 0 rfl) ?_
                obtain ⟨rfl, rfl⟩ := inj2 hm
                exact xret_i C hw hS dX9_season_377
              clear hm
              replace hm := hj
              clear hj
              refine lv_if_ne (tgt := 334) hx hb dX9_season_321 (by decide) (fun cc => ?_) (fun cc => ?_)
              · replace hm := ite_n cc hm
                refine lv_aload_n hx hb dX9_season_334 rfl (lv_at hl 0 rfl) ?_
                refine gX9_38 C hw dX9_season_335 ?_
                refine lv_iload hx hb dX9_season_338 (lv_at hl 1 rfl) ?_
                obtain ⟨h60, hm⟩ := chk_e hm
                refine alM_9 C hw h60 dX9_season_340 ?_
                obtain rfl := Option.some.inj hm
                exact kk _ _ _ hw hS (lv_sub hl [0] rfl)
              · replace hm := ite_p cc hm
                refine lv_aload_n hx hb dX9_season_324 rfl (lv_at hl 0 rfl) ?_
                refine gX9_75 C hw dX9_season_325 ?_
                refine lv_iload hx hb dX9_season_328 (lv_at hl 1 rfl) ?_
                obtain ⟨h61, hm⟩ := chk_e hm
                refine alM_21 C hw h61 dX9_season_330 ?_
                refine lv_goto (tgt := 341) hx hb dX9_season_331 (by decide) ?_
                obtain rfl := Option.some.inj hm
                exact kk _ _ _ hw hS (lv_sub hl [0] rfl)
            · replace hm := ite_n cc hm
              refine lv_bipush (v := (-2)) hx hb dX9_season_59 (by decide) ?_
              obtain ⟨rfl, rfl⟩ := inj2 hm
              exact xret_i C hw hS dX9_season_61
