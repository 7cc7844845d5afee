theorem dX7_push_0 : decode cX7_push 0 = .ok (.aload_n 0, 1) := by decide +kernel
theorem dX7_push_1 : decode cX7_push 1 = .ok (.getfield 18, 3) := by decide +kernel
theorem dX7_push_4 : decode cX7_push 4 = .ok (.aload_n 0, 1) := by decide +kernel
theorem dX7_push_5 : decode cX7_push 5 = .ok (.getfield 15, 3) := by decide +kernel
theorem dX7_push_8 : decode cX7_push 8 = .ok (.arraylength, 1) := by decide +kernel
theorem dX7_push_9 : decode cX7_push 9 = .ok (.if_icmp .ge 23, 3) := by decide +kernel
theorem dX7_push_12 : decode cX7_push 12 = .ok (.aload_n 0, 1) := by decide +kernel
theorem dX7_push_13 : decode cX7_push 13 = .ok (.getfield 15, 3) := by decide +kernel
theorem dX7_push_16 : decode cX7_push 16 = .ok (.aload_n 0, 1) := by decide +kernel
theorem dX7_push_17 : decode cX7_push 17 = .ok (.getfield 18, 3) := by decide +kernel
theorem dX7_push_20 : decode cX7_push 20 = .ok (.iload_n 1, 1) := by decide +kernel
theorem dX7_push_21 : decode cX7_push 21 = .ok (.iastore, 1) := by decide +kernel
theorem dX7_push_22 : decode cX7_push 22 = .ok (.aload_n 0, 1) := by decide +kernel
theorem dX7_push_23 : decode cX7_push 23 = .ok (.dup, 1) := by decide +kernel
theorem dX7_push_24 : decode cX7_push 24 = .ok (.getfield 18, 3) := by decide +kernel
theorem dX7_push_27 : decode cX7_push 27 = .ok (.iconst 1, 1) := by decide +kernel
theorem dX7_push_28 : decode cX7_push 28 = .ok (.iadd, 1) := by decide +kernel
theorem dX7_push_29 : decode cX7_push 29 = .ok (.putfield 18, 3) := by decide +kernel
theorem dX7_push_32 : decode cX7_push 32 = .ok (.return_, 1) := by decide +kernel
def fX7_push (x : XS) (a0 : Nat) (a1 : Int32) : Option (XS) := Option.bind (dI x a0 7 3) fun v1 => Option.bind (dP x a0 7 2) fun v3 => Option.bind (dLen x v3) fun v5 => if v5 ≤ v1 then some x else Option.bind (dP x a0 7 2) fun v7 => Option.bind (dI x a0 7 3) fun v9 => Option.bind (dAs x v7 v9 a1) fun x11 => Option.bind (dI x11 a0 7 3) fun v13 => Option.bind (dPut x11 a0 7 3 (.int (v13 + 1))) fun x15 => some x15
abbrev rmX7_push : Room := { frames := 0, cells := 0, slots := 0, locals := 0 }
set_option maxHeartbeats 4000000 in
set_option maxRecDepth 100000 in
theorem kX7_push {l : Launch} {G : xG} {β : Nat} {D : Nat → Prop} {x x' : XS} {a0 : Nat} {a1 : Int32} (hm : fX7_push x a0 a1 = some x') : Met l yX7_push (.code yX7_push cX7_push 2 none :: GT) rmX7_push (PcW [.ref a0, .int a1] (CW β D G x) (KK G)) (QcW D none (CW β D G x')) 0 0 D := by
  unfold fX7_push at hm
  refine xpro (own := RX7) (by decide +kernel) rfl (Nat.le_of_ble_eq_true rfl) ?_
  intro p e s m args below meth c C hw ls hl
  have hx := C.1
  have hb := C.2.1
  have ho := C.2.2.2.1
  have hts := C.2.2.2.2.1
  have hf : Fz D G s.heap := hw.2.2.2.2
  have hS : va_S D s.heap s.heap [] := va_S.rf
  have hl : lv_has ls 2 [(0, .ref a0), (1, .int a1)] := hl
  have hRf : 0 ≤ rmX7_push.frames := Nat.le_refl _
  have hRl : 0 ≤ rmX7_push.locals := Nat.le_refl _
  have hcs : 0 ≤ rmX7_push.cells ∧ 0 ≤ rmX7_push.slots := ⟨Nat.le_refl _, Nat.le_refl _⟩
  refine lv_aload_n hx hb dX7_push_0 rfl (lv_at hl 0 rfl) ?_
  obtain ⟨v1, h2, hm⟩ := bind_e hm
  refine gdX7_18 C h2 hw dX7_push_1 ?_
  refine lv_aload_n hx hb dX7_push_4 rfl (lv_at hl 0 rfl) ?_
  obtain ⟨v3, h4, hm⟩ := bind_e hm
  refine gdX7_15 C h4 hw dX7_push_5 ?_
  obtain ⟨v5, h6, hm⟩ := bind_e hm
  refine x_dlen C h6 hw dX7_push_8 ?_
  refine lv_icmp_ge (tgt := 32) hx hb dX7_push_9 (by decide) (fun cc => ?_) (fun cc => ?_)
  · replace hm := ite_p cc hm
    obtain rfl := Option.some.inj hm
    exact xret_v C hw hS dX7_push_32
  · replace hm := ite_n cc hm
    refine lv_aload_n hx hb dX7_push_12 rfl (lv_at hl 0 rfl) ?_
    obtain ⟨v7, h8, hm⟩ := bind_e hm
    refine gdX7_15 C h8 hw dX7_push_13 ?_
    refine lv_aload_n hx hb dX7_push_16 rfl (lv_at hl 0 rfl) ?_
    obtain ⟨v9, h10, hm⟩ := bind_e hm
    refine gdX7_18 C h10 hw dX7_push_17 ?_
    refine lv_iload_n hx hb dX7_push_20 rfl (lv_at hl 1 rfl) ?_
    obtain ⟨x11, h12, hm⟩ := bind_e hm
    refine x_dast C h12 hw hS dX7_push_21 (fun H locs hw hS => ?_)
    refine lv_aload_n hx hb dX7_push_22 rfl (lv_at hl 0 rfl) ?_
    refine lv_dup hx hb dX7_push_23 rfl ?_
    obtain ⟨v13, h14, hm⟩ := bind_e hm
    refine gdX7_18 C h14 hw dX7_push_24 ?_
    refine lv_iconst (v := 1) hx hb dX7_push_27 (by decide) ?_
    refine lv_iadd hx hb dX7_push_28 ?_
    obtain ⟨x15, h16, hm⟩ := bind_e hm
    refine pdX7_18 C h16 hw hS dX7_push_29 (fun H locs hw hS => ?_)
    obtain rfl := Option.some.inj hm
    exact xret_v C hw hS dX7_push_32
theorem dX7_valueOf_0 : decode cX7_valueOf 0 = .ok (.aload_n 0, 1) := by decide +kernel
theorem dX7_valueOf_1 : decode cX7_valueOf 1 = .ok (.iconst 0, 1) := by decide +kernel
theorem dX7_valueOf_2 : decode cX7_valueOf 2 = .ok (.putfield 18, 3) := by decide +kernel
theorem dX7_valueOf_5 : decode cX7_valueOf 5 = .ok (.iload_n 1, 1) := by decide +kernel
theorem dX7_valueOf_6 : decode cX7_valueOf 6 = .ok (.ifCond .ne 7, 3) := by decide +kernel
theorem dX7_valueOf_9 : decode cX7_valueOf 9 = .ok (.iconst 0, 1) := by decide +kernel
theorem dX7_valueOf_10 : decode cX7_valueOf 10 = .ok (.goto 11, 3) := by decide +kernel
theorem dX7_valueOf_13 : decode cX7_valueOf 13 = .ok (.aload_n 0, 1) := by decide +kernel
theorem dX7_valueOf_14 : decode cX7_valueOf 14 = .ok (.getfield 9, 3) := by decide +kernel
theorem dX7_valueOf_17 : decode cX7_valueOf 17 = .ok (.iload_n 1, 1) := by decide +kernel
theorem dX7_valueOf_18 : decode cX7_valueOf 18 = .ok (.iconst 1, 1) := by decide +kernel
theorem dX7_valueOf_19 : decode cX7_valueOf 19 = .ok (.isub, 1) := by decide +kernel
theorem dX7_valueOf_20 : decode cX7_valueOf 20 = .ok (.iaload, 1) := by decide +kernel
theorem dX7_valueOf_21 : decode cX7_valueOf 21 = .ok (.istore_n 3, 1) := by decide +kernel
theorem dX7_valueOf_22 : decode cX7_valueOf 22 = .ok (.iload_n 3, 1) := by decide +kernel
theorem dX7_valueOf_23 : decode cX7_valueOf 23 = .ok (.istore 4, 2) := by decide +kernel
theorem dX7_valueOf_25 : decode cX7_valueOf 25 = .ok (.iload 4, 2) := by decide +kernel
theorem dX7_valueOf_27 : decode cX7_valueOf 27 = .ok (.aload_n 0, 1) := by decide +kernel
theorem dX7_valueOf_28 : decode cX7_valueOf 28 = .ok (.getfield 9, 3) := by decide +kernel
theorem dX7_valueOf_31 : decode cX7_valueOf 31 = .ok (.iload_n 1, 1) := by decide +kernel
theorem dX7_valueOf_32 : decode cX7_valueOf 32 = .ok (.iaload, 1) := by decide +kernel
theorem dX7_valueOf_33 : decode cX7_valueOf 33 = .ok (.if_icmp .ge 114, 3) := by decide +kernel
theorem dX7_valueOf_36 : decode cX7_valueOf 36 = .ok (.iload 4, 2) := by decide +kernel
theorem dX7_valueOf_38 : decode cX7_valueOf 38 = .ok (.aload_n 0, 1) := by decide +kernel
theorem dX7_valueOf_39 : decode cX7_valueOf 39 = .ok (.getfield 22, 3) := by decide +kernel
theorem dX7_valueOf_42 : decode cX7_valueOf 42 = .ok (.arraylength, 1) := by decide +kernel
theorem dX7_valueOf_43 : decode cX7_valueOf 43 = .ok (.if_icmp .ge 104, 3) := by decide +kernel
theorem dX7_valueOf_46 : decode cX7_valueOf 46 = .ok (.aload_n 0, 1) := by decide +kernel
theorem dX7_valueOf_47 : decode cX7_valueOf 47 = .ok (.getfield 22, 3) := by decide +kernel
theorem dX7_valueOf_50 : decode cX7_valueOf 50 = .ok (.iload 4, 2) := by decide +kernel
theorem dX7_valueOf_52 : decode cX7_valueOf 52 = .ok (.iaload, 1) := by decide +kernel
theorem dX7_valueOf_53 : decode cX7_valueOf 53 = .ok (.istore 5, 2) := by decide +kernel
theorem dX7_valueOf_55 : decode cX7_valueOf 55 = .ok (.iload 5, 2) := by decide +kernel
theorem dX7_valueOf_57 : decode cX7_valueOf 57 = .ok (.ifCond .lt 12, 3) := by decide +kernel
theorem dX7_valueOf_60 : decode cX7_valueOf 60 = .ok (.aload_n 0, 1) := by decide +kernel
theorem dX7_valueOf_61 : decode cX7_valueOf 61 = .ok (.iload 5, 2) := by decide +kernel
theorem dX7_valueOf_63 : decode cX7_valueOf 63 = .ok (.invokevirtual 31, 3) := by decide +kernel
theorem dX7_valueOf_66 : decode cX7_valueOf 66 = .ok (.goto 75, 3) := by decide +kernel
theorem dX7_valueOf_69 : decode cX7_valueOf 69 = .ok (.iload 5, 2) := by decide +kernel
theorem dX7_valueOf_71 : decode cX7_valueOf 71 = .ok (.invokestatic 35, 3) := by decide +kernel
theorem dX7_valueOf_74 : decode cX7_valueOf 74 = .ok (.ifCond .eq 16, 3) := by decide +kernel
theorem dX7_valueOf_77 : decode cX7_valueOf 77 = .ok (.aload_n 0, 1) := by decide +kernel
theorem dX7_valueOf_78 : decode cX7_valueOf 78 = .ok (.aload_n 2, 1) := by decide +kernel
theorem dX7_valueOf_79 : decode cX7_valueOf 79 = .ok (.iconst (-1), 1) := by decide +kernel
theorem dX7_valueOf_80 : decode cX7_valueOf 80 = .ok (.iload 5, 2) := by decide +kernel
theorem dX7_valueOf_82 : decode cX7_valueOf 82 = .ok (.isub, 1) := by decide +kernel
theorem dX7_valueOf_83 : decode cX7_valueOf 83 = .ok (.iaload, 1) := by decide +kernel
theorem dX7_valueOf_84 : decode cX7_valueOf 84 = .ok (.invokevirtual 31, 3) := by decide +kernel
theorem dX7_valueOf_87 : decode cX7_valueOf 87 = .ok (.goto 54, 3) := by decide +kernel
theorem dX7_valueOf_90 : decode cX7_valueOf 90 = .ok (.iload 5, 2) := by decide +kernel
theorem dX7_valueOf_92 : decode cX7_valueOf 92 = .ok (.bipush (-16), 2) := by decide +kernel
theorem dX7_valueOf_94 : decode cX7_valueOf 94 = .ok (.if_icmp .eq 10, 3) := by decide +kernel
theorem dX7_valueOf_97 : decode cX7_valueOf 97 = .ok (.iload 5, 2) := by decide +kernel
theorem dX7_valueOf_99 : decode cX7_valueOf 99 = .ok (.bipush (-26), 2) := by decide +kernel
theorem dX7_valueOf_101 : decode cX7_valueOf 101 = .ok (.if_icmp .ne 19, 3) := by decide +kernel
theorem dX7_valueOf_104 : decode cX7_valueOf 104 = .ok (.aload_n 0, 1) := by decide +kernel
theorem dX7_valueOf_105 : decode cX7_valueOf 105 = .ok (.iload 5, 2) := by decide +kernel
theorem dX7_valueOf_107 : decode cX7_valueOf 107 = .ok (.aload_n 0, 1) := by decide +kernel
theorem dX7_valueOf_108 : decode cX7_valueOf 108 = .ok (.invokevirtual 39, 3) := by decide +kernel
theorem dX7_valueOf_111 : decode cX7_valueOf 111 = .ok (.invokestatic 43, 3) := by decide +kernel
theorem dX7_valueOf_114 : decode cX7_valueOf 114 = .ok (.invokevirtual 31, 3) := by decide +kernel
theorem dX7_valueOf_117 : decode cX7_valueOf 117 = .ok (.goto 24, 3) := by decide +kernel
theorem dX7_valueOf_120 : decode cX7_valueOf 120 = .ok (.aload_n 0, 1) := by decide +kernel
theorem dX7_valueOf_121 : decode cX7_valueOf 121 = .ok (.invokevirtual 39, 3) := by decide +kernel
theorem dX7_valueOf_124 : decode cX7_valueOf 124 = .ok (.istore 6, 2) := by decide +kernel
theorem dX7_valueOf_126 : decode cX7_valueOf 126 = .ok (.aload_n 0, 1) := by decide +kernel
theorem dX7_valueOf_127 : decode cX7_valueOf 127 = .ok (.iload 5, 2) := by decide +kernel
theorem dX7_valueOf_129 : decode cX7_valueOf 129 = .ok (.aload_n 0, 1) := by decide +kernel
theorem dX7_valueOf_130 : decode cX7_valueOf 130 = .ok (.invokevirtual 39, 3) := by decide +kernel
theorem dX7_valueOf_133 : decode cX7_valueOf 133 = .ok (.iload 6, 2) := by decide +kernel
theorem dX7_valueOf_135 : decode cX7_valueOf 135 = .ok (.invokestatic 47, 3) := by decide +kernel
theorem dX7_valueOf_138 : decode cX7_valueOf 138 = .ok (.invokevirtual 31, 3) := by decide +kernel
theorem dX7_valueOf_141 : decode cX7_valueOf 141 = .ok (.iinc 4 1, 3) := by decide +kernel
theorem dX7_valueOf_144 : decode cX7_valueOf 144 = .ok (.goto (-119), 3) := by decide +kernel
theorem dX7_valueOf_147 : decode cX7_valueOf 147 = .ok (.aload_n 0, 1) := by decide +kernel
theorem dX7_valueOf_148 : decode cX7_valueOf 148 = .ok (.invokevirtual 39, 3) := by decide +kernel
theorem dX7_valueOf_151 : decode cX7_valueOf 151 = .ok (.ireturn, 1) := by decide +kernel
theorem gdX7_9 {p : Program} {l : Launch} {e : Env} {R : Room} {s : State} {m : MethodId} {args : Array Value} {below : List Frame} {meth : Method} {c : Code} {H : Heap} {locs : List Loc} {cells slots : Nat} {Q : State → Prop} {cc : ByteArray} {pc nL : Nat} {ls : Array Slot} {rest : List Value} {ret : Option FieldType}  {G : xG} {β : Nat} {D : Nat → Prop} {x : XS} {a : Nat} {v : Nat} (C : Cx p s m args meth c RX7 cc nL ret (KK G)) (h : dP x a 7 1 = some v) (hw : CW β D G x H) (hd : decode cc pc = .ok (.getfield 9, 3)) (kk : W p l e R s m args below meth c H locs cells slots Q (F0 m (pc + 3) ls (.ref v :: rest))) : W p l e R s m args below meth c H locs cells slots Q (F0 m pc ls (.ref a :: rest)) := by
  obtain ⟨fs, h1, h2⟩ := dP_e h
  exact va_get (ci := 7) (fs := fs) C.1 C.2.1 C.2.2.2.2.1 iwX7 C.2.2.2.1 C.K.1 (xP1 (hw.2.2.2.1 a _ h1).2.2.2) 0 rfl rfl 1 (by decide) (C.2.2.2.2.1 (.fieldLink RX7 9 RX7 "ends" "[I") (tg 330 (by decide +kernel) rfl)) (fun _ h9 => h9) h2 hd kk
theorem gdX7_22 {p : Program} {l : Launch} {e : Env} {R : Room} {s : State} {m : MethodId} {args : Array Value} {below : List Frame} {meth : Method} {c : Code} {H : Heap} {locs : List Loc} {cells slots : Nat} {Q : State → Prop} {cc : ByteArray} {pc nL : Nat} {ls : Array Slot} {rest : List Value} {ret : Option FieldType}  {G : xG} {β : Nat} {D : Nat → Prop} {x : XS} {a : Nat} {v : Nat} (C : Cx p s m args meth c RX7 cc nL ret (KK G)) (h : dP x a 7 0 = some v) (hw : CW β D G x H) (hd : decode cc pc = .ok (.getfield 22, 3)) (kk : W p l e R s m args below meth c H locs cells slots Q (F0 m (pc + 3) ls (.ref v :: rest))) : W p l e R s m args below meth c H locs cells slots Q (F0 m pc ls (.ref a :: rest)) := by
  obtain ⟨fs, h1, h2⟩ := dP_e h
  exact va_get (ci := 7) (fs := fs) C.1 C.2.1 C.2.2.2.2.1 iwX7 C.2.2.2.1 C.K.1 (xP1 (hw.2.2.2.1 a _ h1).2.2.2) 0 rfl rfl 0 (by decide) (C.2.2.2.2.1 (.fieldLink RX7 22 RX7 "code" "[I") (tg 329 (by decide +kernel) rfl)) (fun _ h9 => h9) h2 hd kk
theorem sX7_35 {p : Program} {l : Launch} {e : Env} {R : Room} {s : State} {m : MethodId} {args : Array Value} {below : List Frame} {meth : Method} {c : Code} {H : Heap} {locs : List Loc} {cells slots : Nat} {Q : State → Prop} {cc : ByteArray} {pc nL : Nat} {ls : Array Slot} {rest : List Value} {ret : Option FieldType}  {G : xG} {β : Nat} {D : Nat → Prop} {x : XS} {a1 : Int32} {r : Bool} (C : Cx p s m args meth c RX7 cc nL ret (KK G)) (h : fX7_isName a1 = some r) (hw : CW β D G x H) (hS : va_S D s.heap H locs) (hsz : ls.size = nL) (hW : (rest.map fun v => v.category).sum ≤ 8) (hR : 1 ≤ R.frames) (hR2 : 20 ≤ R.locals) (hcs : cells ≤ R.cells ∧ slots ≤ R.slots) (hd : decode cc pc = .ok (.invokestatic 35, 3)) (kk : ∀ (H1 : Heap) (locs1 : List Loc), CW β D G x H1 → va_S D s.heap H1 locs1 → W p l e R s m args below meth c H1 locs1 cells slots Q (F0 m (pc + 3) ls (.int (bI r) :: rest))) : W p l e R s m args below meth c H locs cells slots Q (F0 m pc ls (.int a1 :: rest)) := by
  exact xcallS C (As := [.int a1]) (rest := rest) (nA := 1) (kX7_isName h) (tg 530 (by decide +kernel) rfl) (tg 300 (by decide +kernel) rfl) (tg 11 (by decide +kernel) rfl) (tg 301 (by decide +kernel) rfl) ⟨by decide +kernel, by decide +kernel, by decide +kernel⟩ rfl rfl ⟨hR, hR2⟩ hw hS (fun _ q => q) rfl rfl hsz hW hd hcs (fun H1 locs1 hw hz hk hS => kk H1 locs1 hw hS)
theorem sX7_39 {p : Program} {l : Launch} {e : Env} {R : Room} {s : State} {m : MethodId} {args : Array Value} {below : List Frame} {meth : Method} {c : Code} {H : Heap} {locs : List Loc} {cells slots : Nat} {Q : State → Prop} {cc : ByteArray} {pc nL : Nat} {ls : Array Slot} {rest : List Value} {ret : Option FieldType}  {G : xG} {β : Nat} {D : Nat → Prop} {x x' : XS} {a0 : Nat} {r : Int32} (C : Cx p s m args meth c RX7 cc nL ret (KK G)) (hk : dK x a0 7 = true) (h : fX7_pop x a0 = some (r, x')) (hw : CW β D G x H) (hS : va_S D s.heap H locs) (hsz : ls.size = nL) (hW : (rest.map fun v => v.category).sum ≤ 8) (hR : 1 ≤ R.frames) (hR2 : 20 ≤ R.locals) (hcs : cells ≤ R.cells ∧ slots ≤ R.slots) (hd : decode cc pc = .ok (.invokevirtual 39, 3)) (kk : ∀ (H1 : Heap) (locs1 : List Loc), CW β D G x' H1 → va_S D s.heap H1 locs1 → W p l e R s m args below meth c H1 locs1 cells slots Q (F0 m (pc + 3) ls (.int r :: rest))) : W p l e R s m args below meth c H locs cells slots Q (F0 m pc ls (.ref a0 :: rest)) := by
  obtain ⟨fs0, hfs0⟩ := dK_e hk
  exact xcallV C (As := []) (rest := rest) (nA := 0) (ci := 7) (kX7_pop h) (tg 531 (by decide +kernel) rfl) (tg 533 (by decide +kernel) rfl) (sg (List.mem_of_getElem? (i := 24) (by decide +kernel)) rfl) (tg 11 (by decide +kernel) rfl) (tg 534 (by decide +kernel) rfl) ⟨rfl, by decide +kernel, by decide +kernel, by decide +kernel⟩ rfl rfl rfl ⟨hR, hR2⟩ ((hw.2.2.2.1 a0 _ hfs0).2.2.2) hw hS (fun _ q => q) rfl rfl hsz hW hd hcs (fun H1 locs1 hw hz hk hS => kk H1 locs1 hw hS)
theorem sX7_43 {p : Program} {l : Launch} {e : Env} {R : Room} {s : State} {m : MethodId} {args : Array Value} {below : List Frame} {meth : Method} {c : Code} {H : Heap} {locs : List Loc} {cells slots : Nat} {Q : State → Prop} {cc : ByteArray} {pc nL : Nat} {ls : Array Slot} {rest : List Value} {ret : Option FieldType}  {G : xG} {β : Nat} {D : Nat → Prop} {x : XS} {a1 : Int32} {a2 : Int32} {r : Int32} (C : Cx p s m args meth c RX7 cc nL ret (KK G)) (h : fX7_altered a1 a2 = some r) (hw : CW β D G x H) (hS : va_S D s.heap H locs) (hsz : ls.size = nL) (hW : (rest.map fun v => v.category).sum ≤ 8) (hR : 2 ≤ R.frames) (hR2 : 41 ≤ R.locals) (hcs : cells ≤ R.cells ∧ slots ≤ R.slots) (hd : decode cc pc = .ok (.invokestatic 43, 3)) (kk : ∀ (H1 : Heap) (locs1 : List Loc), CW β D G x H1 → va_S D s.heap H1 locs1 → W p l e R s m args below meth c H1 locs1 cells slots Q (F0 m (pc + 3) ls (.int r :: rest))) : W p l e R s m args below meth c H locs cells slots Q (F0 m pc ls (.int a2 :: .int a1 :: rest)) := by
  exact xcallS C (As := [.int a1, .int a2]) (rest := rest) (nA := 2) (kX7_altered h) (tg 535 (by decide +kernel) rfl) (tg 536 (by decide +kernel) rfl) (tg 11 (by decide +kernel) rfl) (tg 537 (by decide +kernel) rfl) ⟨by decide +kernel, by decide +kernel, by decide +kernel⟩ rfl rfl ⟨hR, hR2⟩ hw hS (fun _ q => q) rfl rfl hsz hW hd hcs (fun H1 locs1 hw hz hk hS => kk H1 locs1 hw hS)
theorem sX7_31 {p : Program} {l : Launch} {e : Env} {R : Room} {s : State} {m : MethodId} {args : Array Value} {below : List Frame} {meth : Method} {c : Code} {H : Heap} {locs : List Loc} {cells slots : Nat} {Q : State → Prop} {cc : ByteArray} {pc nL : Nat} {ls : Array Slot} {rest : List Value} {ret : Option FieldType}  {G : xG} {β : Nat} {D : Nat → Prop} {x x' : XS} {a0 : Nat} {a1 : Int32} (C : Cx p s m args meth c RX7 cc nL ret (KK G)) (hk : dK x a0 7 = true) (h : fX7_push x a0 a1 = some x') (hw : CW β D G x H) (hS : va_S D s.heap H locs) (hsz : ls.size = nL) (hW : (rest.map fun v => v.category).sum ≤ 8) (hR : 1 ≤ R.frames) (hR2 : 21 ≤ R.locals) (hcs : cells ≤ R.cells ∧ slots ≤ R.slots) (hd : decode cc pc = .ok (.invokevirtual 31, 3)) (kk : ∀ (H1 : Heap) (locs1 : List Loc), CW β D G x' H1 → va_S D s.heap H1 locs1 → W p l e R s m args below meth c H1 locs1 cells slots Q (F0 m (pc + 3) ls (rest))) : W p l e R s m args below meth c H locs cells slots Q (F0 m pc ls (.int a1 :: .ref a0 :: rest)) := by
  obtain ⟨fs0, hfs0⟩ := dK_e hk
  exact xcallV C (As := [.int a1]) (rest := rest) (nA := 1) (ci := 7) (kX7_push h) (tg 526 (by decide +kernel) rfl) (tg 528 (by decide +kernel) rfl) (sg (List.mem_of_getElem? (i := 23) (by decide +kernel)) rfl) (tg 11 (by decide +kernel) rfl) (tg 529 (by decide +kernel) rfl) ⟨rfl, by decide +kernel, by decide +kernel, by decide +kernel⟩ rfl rfl rfl ⟨hR, hR2⟩ ((hw.2.2.2.1 a0 _ hfs0).2.2.2) hw hS (fun _ q => q) rfl rfl hsz hW hd hcs (fun H1 locs1 hw hz hk hS => kk H1 locs1 hw hS)
theorem sX7_47 {p : Program} {l : Launch} {e : Env} {R : Room} {s : State} {m : MethodId} {args : Array Value} {below : List Frame} {meth : Method} {c : Code} {H : Heap} {locs : List Loc} {cells slots : Nat} {Q : State → Prop} {cc : ByteArray} {pc nL : Nat} {ls : Array Slot} {rest : List Value} {ret : Option FieldType}  {G : xG} {β : Nat} {D : Nat → Prop} {x : XS} {a1 : Int32} {a2 : Int32} {a3 : Int32} {r : Int32} (C : Cx p s m args meth c RX7 cc nL ret (KK G)) (h : fX7_joined a1 a2 a3 = some r) (hw : CW β D G x H) (hS : va_S D s.heap H locs) (hsz : ls.size = nL) (hW : (rest.map fun v => v.category).sum ≤ 8) (hR : 2 ≤ R.frames) (hR2 : 42 ≤ R.locals) (hcs : cells ≤ R.cells ∧ slots ≤ R.slots) (hd : decode cc pc = .ok (.invokestatic 47, 3)) (kk : ∀ (H1 : Heap) (locs1 : List Loc), CW β D G x H1 → va_S D s.heap H1 locs1 → W p l e R s m args below meth c H1 locs1 cells slots Q (F0 m (pc + 3) ls (.int r :: rest))) : W p l e R s m args below meth c H locs cells slots Q (F0 m pc ls (.int a3 :: .int a2 :: .int a1 :: rest)) := by
  exact xcallS C (As := [.int a1, .int a2, .int a3]) (rest := rest) (nA := 3) (kX7_joined h) (tg 541 (by decide +kernel) rfl) (tg 542 (by decide +kernel) rfl) (tg 11 (by decide +kernel) rfl) (tg 543 (by decide +kernel) rfl) ⟨by decide +kernel, by decide +kernel, by decide +kernel⟩ rfl rfl ⟨hR, hR2⟩ hw hS (fun _ q => q) rfl rfl hsz hW hd hcs (fun H1 locs1 hw hz hk hS => kk H1 locs1 hw hS)
theorem alX_22 {p : Program} {l : Launch} {e : Env} {R : Room} {s : State} {m : MethodId} {args : Array Value} {below : List Frame} {meth : Method} {c : Code} {H : Heap} {locs : List Loc} {cells slots : Nat} {Q : State → Prop} {cc : ByteArray} {pc nL : Nat} {ls : Array Slot} {rest : List Value} {ret : Option FieldType} {G : xG} {β : Nat} {D : Nat → Prop} {x : XS} {own : String} {i : Int32} (C : Cx p s m args meth c own cc nL ret (KK G)) (hw : CW β D G x H) (hin : ib i 6) (hd : decode cc pc = .ok (.iaload, 1)) (kk : W p l e R s m args below meth c H locs cells slots Q (F0 m (pc + 1) ls (.int (x.2.1 22 i.toNatClampNeg) :: rest))) : W p l e R s m args below meth c H locs cells slots Q (F0 m pc ls (.int i :: .ref (β + 22) :: rest)) :=
  va_iald C.1 C.2.1 C.K.1 (xP1 (hw.2.2.1 22 (by decide))) 0 0 rfl rfl hin hd kk
def BX7_valueOf_25 (q0 : Nat) (q1 : Int32) (lp : Int32 → XS → Option (XS)) (u4 : Int32) (x : XS) : Option (XS) := Option.bind (dP x q0 7 1) fun v8 => Option.bind (dA x v8 q1) fun v10 => if v10 ≤ u4 then some x else Option.bind (dP x q0 7 0) fun v12 => Option.bind (dLen x v12) fun v14 => if v14 ≤ u4 then some x else Option.bind (dP x q0 7 0) fun v16 => Option.bind (dA x v16 u4) fun v18 => if v18 < 0 then Option.bind (fX7_isName v18) fun v20 => if v20 = true then if ib ((-1) - v18) 6 then if dK x q0 7 = true then Option.bind (fX7_push x q0 (x.2.1 22 ((-1) - v18).toNatClampNeg)) fun x58 => lt (u4 + 1) fun v60 => lp v60 x58 else none else none else if v18 = (-16) then if dK x q0 7 = true then bind2 (fX7_pop x q0) fun v23 x24 => Option.bind (fX7_altered v18 v23) fun v26 => if dK x24 q0 7 = true then Option.bind (fX7_push x24 q0 v26) fun x29 => lt (u4 + 1) fun v31 => lp v31 x29 else none else none else if v18 = (-26) then if dK x q0 7 = true then bind2 (fX7_pop x q0) fun v47 x48 => Option.bind (fX7_altered v18 v47) fun v50 => if dK x48 q0 7 = true then Option.bind (fX7_push x48 q0 v50) fun x53 => lt (u4 + 1) fun v55 => lp v55 x53 else none else none else if dK x q0 7 = true then bind2 (fX7_pop x q0) fun v33 x34 => if dK x34 q0 7 = true then bind2 (fX7_pop x34 q0) fun v37 x38 => Option.bind (fX7_joined v18 v37 v33) fun v40 => if dK x38 q0 7 = true then Option.bind (fX7_push x38 q0 v40) fun x43 => lt (u4 + 1) fun v45 => lp v45 x43 else none else none else none else if dK x q0 7 = true then Option.bind (fX7_push x q0 v18) fun x62 => lt (u4 + 1) fun v64 => lp v64 x62 else none
def LX7_valueOf_25 (q0 : Nat) (q1 : Int32) : Nat → Int32 → XS → Option (XS)
  | 0, _, _ => none
  | n + 1, u4, x => BX7_valueOf_25 q0 q1 (LX7_valueOf_25 q0 q1 n) u4 x
def fX7_valueOf (x : XS) (a0 : Nat) (a1 : Int32) : Option (Int32 × XS) := Option.bind (dPut x a0 7 3 (.int 0)) fun x1 => Option.bind (if a1 = 0 then some 0 else Option.bind (dP x1 a0 7 1) fun v3 => Option.bind (dA x1 v3 (a1 - 1)) fun v5 => some v5) fun v7 => Option.bind (LX7_valueOf_25 a0 a1 NF v7 x1) fun x65 => if dK x65 a0 7 = true then bind2 (fX7_pop x65 a0) fun v67 x68 => some (v67, x68) else none
set_option maxHeartbeats 4000000 in
set_option maxRecDepth 100000 in
theorem lX7_valueOf_25 {p : Program} {l : Launch} {e : Env} {R : Room} {s : State} {m : MethodId} {args : Array Value} {below : List Frame} {meth : Method} {c : Code} {cells slots : Nat} {Q : State → Prop} {G : xG} {β : Nat} {D : Nat → Prop} (C : Cx p s m args meth c RX7 cX7_valueOf 7 (some .int) (KK G)) (hRf : 2 ≤ R.frames) (hRl : 42 ≤ R.locals) (hcs : cells ≤ R.cells ∧ slots ≤ R.slots) (hf : Fz D G s.heap) (q0 : Nat) (q1 : Int32) : ∀ (n : Nat) (u4 : Int32) (x : XS) (J : XS) (H : Heap) (locs : List Loc) (ls : Array Slot), LX7_valueOf_25 q0 q1 n u4 x = some J → CW β D G x H → va_S D s.heap H locs → lv_has ls 7 [(0, .ref q0), (1, .int q1), (2, .ref (β + 22)), (4, .int u4)] → (∀ (x1 : XS), J = x1 → ∀ (H : Heap) (locs : List Loc) (ls : Array Slot), CW β D G x1 H → va_S D s.heap H locs → lv_has ls 7 [(0, .ref q0)] → W p l e R s m args below meth c H locs cells slots Q (F0 m 147 ls [])) → W p l e R s m args below meth c H locs cells slots Q (F0 m 25 ls []) := by
  have hx := C.1
  have hb := C.2.1
  have ho := C.2.2.2.1
  have hts := C.2.2.2.2.1
  intro n
  induction n with
  | zero =>
    intro u4 x J H locs ls hm
    exact absurd hm (by simp [LX7_valueOf_25])
  | succ n ih =>
    intro u4 x J H locs ls hm hw hS hl ke
    replace hm : BX7_valueOf_25 q0 q1 (LX7_valueOf_25 q0 q1 n) u4 x = some J := hm
    unfold BX7_valueOf_25 at hm
    refine lv_iload hx hb dX7_valueOf_25 (lv_at hl 3 rfl) ?_
    refine lv_aload_n hx hb dX7_valueOf_27 rfl (lv_at hl 0 rfl) ?_
    obtain ⟨v8, h9, hm⟩ := bind_e hm
    refine gdX7_9 C h9 hw dX7_valueOf_28 ?_
    refine lv_iload_n hx hb dX7_valueOf_31 rfl (lv_at hl 1 rfl) ?_
    obtain ⟨v10, h11, hm⟩ := bind_e hm
    refine x_dald C h11 hw dX7_valueOf_32 ?_
    refine lv_icmp_ge (tgt := 147) hx hb dX7_valueOf_33 (by decide) (fun cc => ?_) (fun cc => ?_)
    · replace hm := ite_p cc hm
      exact ke _ (Option.some.inj hm).symm _ _ _ hw hS (lv_sub hl [0] rfl)
    · replace hm := ite_n cc hm
      refine lv_iload hx hb dX7_valueOf_36 (lv_at hl 3 rfl) ?_
      refine lv_aload_n hx hb dX7_valueOf_38 rfl (lv_at hl 0 rfl) ?_
      obtain ⟨v12, h13, hm⟩ := bind_e hm
      refine gdX7_22 C h13 hw dX7_valueOf_39 ?_
      obtain ⟨v14, h15, hm⟩ := bind_e hm
      refine x_dlen C h15 hw dX7_valueOf_42 ?_
      refine lv_icmp_ge (tgt := 147) hx hb dX7_valueOf_43 (by decide) (fun cc => ?_) (fun cc => ?_)
      · replace hm := ite_p cc hm
        exact ke _ (Option.some.inj hm).symm _ _ _ hw hS (lv_sub hl [0] rfl)
      · replace hm := ite_n cc hm
        refine lv_aload_n hx hb dX7_valueOf_46 rfl (lv_at hl 0 rfl) ?_
        obtain ⟨v16, h17, hm⟩ := bind_e hm
        refine gdX7_22 C h17 hw dX7_valueOf_47 ?_
        refine lv_iload hx hb dX7_valueOf_50 (lv_at hl 3 rfl) ?_
        obtain ⟨v18, h19, hm⟩ := bind_e hm
        refine x_dald C h19 hw dX7_valueOf_52 ?_
        refine lv_istore (lv' := [(5, .int v18), (0, .ref q0), (1, .int q1), (2, .ref (β + 22)), (4, .int u4)]) hx hb dX7_valueOf_53 hl (by decide) rfl (fun ls hl => ?_)
        refine lv_iload hx hb dX7_valueOf_55 (lv_at hl 0 rfl) ?_
        refine lv_if_lt (tgt := 69) hx hb dX7_valueOf_57 (by decide) (fun cc => ?_) (fun cc => ?_)
        · replace hm := ite_p cc hm
          refine lv_iload hx hb dX7_valueOf_69 (lv_at hl 0 rfl) ?_
          obtain ⟨v20, h21, hm⟩ := bind_e hm
          refine sX7_35 C h21 hw hS hl.1 (Nat.le_of_ble_eq_true rfl) (Nat.le_trans (Nat.le_of_ble_eq_true rfl) hRf) (Nat.le_trans (Nat.le_of_ble_eq_true rfl) hRl) hcs dX7_valueOf_71 (fun H locs hw hS => ?_)
          refine x_ifeqB hx hb dX7_valueOf_74 (tgt := 90) (by decide) (fun cc => ?_) (fun cc => ?_)
          · replace hm := ite_n cc hm
            refine lv_iload hx hb dX7_valueOf_90 (lv_at hl 0 rfl) ?_
            refine lv_bipush (v := (-16)) hx hb dX7_valueOf_92 (by decide) ?_
            refine lv_icmp_eq (tgt := 104) hx hb dX7_valueOf_94 (by decide) (fun cc => ?_) (fun cc => ?_)
            · replace hm := ite_p cc hm
              refine lv_aload_n hx hb dX7_valueOf_104 rfl (lv_at hl 1 rfl) ?_
              refine lv_iload hx hb dX7_valueOf_105 (lv_at hl 0 rfl) ?_
              refine lv_aload_n hx hb dX7_valueOf_107 rfl (lv_at hl 1 rfl) ?_
              obtain ⟨h22, hm⟩ := chk_e hm
              obtain ⟨v23, x24, h25, hm⟩ := bind2_e hm
              refine sX7_39 C h22 h25 hw hS hl.1 (Nat.le_of_ble_eq_true rfl) (Nat.le_trans (Nat.le_of_ble_eq_true rfl) hRf) (Nat.le_trans (Nat.le_of_ble_eq_true rfl) hRl) hcs dX7_valueOf_108 (fun H locs hw hS => ?_)
              obtain ⟨v26, h27, hm⟩ := bind_e hm
              refine sX7_43 C h27 hw hS hl.1 (Nat.le_of_ble_eq_true rfl) (Nat.le_trans (Nat.le_of_ble_eq_true rfl) hRf) (Nat.le_trans (Nat.le_of_ble_eq_true rfl) hRl) hcs dX7_valueOf_111 (fun H locs hw hS => ?_)
              obtain ⟨h28, hm⟩ := chk_e hm
              obtain ⟨x29, h30, hm⟩ := bind_e hm
              refine sX7_31 C h28 h30 hw hS hl.1 (Nat.le_of_ble_eq_true rfl) (Nat.le_trans (Nat.le_of_ble_eq_true rfl) hRf) (Nat.le_trans (Nat.le_of_ble_eq_true rfl) hRl) hcs dX7_valueOf_114 (fun H locs hw hS => ?_)
              refine lv_goto (tgt := 141) hx hb dX7_valueOf_117 (by decide) ?_
              obtain ⟨v31, ev, hm⟩ := lt_e hm
              refine lv_iinc (v := v31) (lv' := [(4, .int v31), (5, .int v18), (0, .ref q0), (1, .int q1), (2, .ref (β + 22))]) hx hb dX7_valueOf_141 hl (k := 4) rfl (by rw [ev]; rfl) (by decide) rfl (fun ls hl => ?_)
              clear ev
              refine lv_goto (tgt := 25) hx hb dX7_valueOf_144 (by decide) ?_
              exact ih _ _ _ _ _ _ hm hw hS (lv_sub hl [2, 3, 4, 0] rfl) ke
            · replace hm := ite_n cc hm
              refine lv_iload hx hb dX7_valueOf_97 (lv_at hl 0 rfl) ?_
              refine lv_bipush (v := (-26)) hx hb dX7_valueOf_99 (by decide) ?_
              refine lv_icmp_ne (tgt := 120) hx hb dX7_valueOf_101 (by decide) (fun cc => ?_) (fun cc => ?_)
              · replace hm := ite_n cc hm
                refine lv_aload_n hx hb dX7_valueOf_120 rfl (lv_at hl 1 rfl) ?_
                obtain ⟨h32, hm⟩ := chk_e hm
                obtain ⟨v33, x34, h35, hm⟩ := bind2_e hm
                refine sX7_39 C h32 h35 hw hS hl.1 (Nat.le_of_ble_eq_true rfl) (Nat.le_trans (Nat.le_of_ble_eq_true rfl) hRf) (Nat.le_trans (Nat.le_of_ble_eq_true rfl) hRl) hcs dX7_valueOf_121 (fun H locs hw hS => ?_)
                refine lv_istore (lv' := [(6, .int v33), (5, .int v18), (0, .ref q0), (1, .int q1), (2, .ref (β + 22)), (4, .int u4)]) hx hb dX7_valueOf_124 hl (by decide) rfl (fun ls hl => ?_)
                refine lv_aload_n hx hb dX7_valueOf_126 rfl (lv_at hl 2 rfl) ?_
                refine lv_iload hx hb dX7_valueOf_127 (lv_at hl 1 rfl) ?_
                refine lv_aload_n hx hb dX7_valueOf_129 rfl (lv_at hl 2 rfl) ?_
                obtain ⟨h36, hm⟩ := chk_e hm
                obtain ⟨v37, x38, h39, hm⟩ := bind2_e hm
                refine sX7_39 C h36 h39 hw hS hl.1 (Nat.le_of_ble_eq_true rfl) (Nat.le_trans (Nat.le_of_ble_eq_true rfl) hRf) (Nat.le_trans (Nat.le_of_ble_eq_true rfl) hRl) hcs dX7_valueOf_130 (fun H locs hw hS => ?_)
                refine lv_iload hx hb dX7_valueOf_133 (lv_at hl 0 rfl) ?_
                obtain ⟨v40, h41, hm⟩ := bind_e hm
                refine sX7_47 C h41 hw hS hl.1 (Nat.le_of_ble_eq_true rfl) (Nat.le_trans (Nat.le_of_ble_eq_true rfl) hRf) (Nat.le_trans (Nat.le_of_ble_eq_true rfl) hRl) hcs dX7_valueOf_135 (fun H locs hw hS => ?_)
                obtain ⟨h42, hm⟩ := chk_e hm
                obtain ⟨x43, h44, hm⟩ := bind_e hm
                refine sX7_31 C h42 h44 hw hS hl.1 (Nat.le_of_ble_eq_true rfl) (Nat.le_trans (Nat.le_of_ble_eq_true rfl) hRf) (Nat.le_trans (Nat.le_of_ble_eq_true rfl) hRl) hcs dX7_valueOf_138 (fun H locs hw hS => ?_)
                obtain ⟨v45, ev, hm⟩ := lt_e hm
                refine lv_iinc (v := v45) (lv' := [(4, .int v45), (6, .int v33), (5, .int v18), (0, .ref q0), (1, .int q1), (2, .ref (β + 22))]) hx hb dX7_valueOf_141 hl (k := 5) rfl (by rw [ev]; rfl) (by decide) rfl (fun ls hl => ?_)
                clear ev
                refine lv_goto (tgt := 25) hx hb dX7_valueOf_144 (by decide) ?_
                exact ih _ _ _ _ _ _ hm hw hS (lv_sub hl [3, 4, 5, 0] rfl) ke
              · replace hm := ite_p cc hm
                refine lv_aload_n hx hb dX7_valueOf_104 rfl (lv_at hl 1 rfl) ?_
                refine lv_iload hx hb dX7_valueOf_105 (lv_at hl 0 rfl) ?_
                refine lv_aload_n hx hb dX7_valueOf_107 rfl (lv_at hl 1 rfl) ?_
                obtain ⟨h46, hm⟩ := chk_e hm
                obtain ⟨v47, x48, h49, hm⟩ := bind2_e hm
                refine sX7_39 C h46 h49 hw hS hl.1 (Nat.le_of_ble_eq_true rfl) (Nat.le_trans (Nat.le_of_ble_eq_true rfl) hRf) (Nat.le_trans (Nat.le_of_ble_eq_true rfl) hRl) hcs dX7_valueOf_108 (fun H locs hw hS => ?_)
                obtain ⟨v50, h51, hm⟩ := bind_e hm
                refine sX7_43 C h51 hw hS hl.1 (Nat.le_of_ble_eq_true rfl) (Nat.le_trans (Nat.le_of_ble_eq_true rfl) hRf) (Nat.le_trans (Nat.le_of_ble_eq_true rfl) hRl) hcs dX7_valueOf_111 (fun H locs hw hS => ?_)
                obtain ⟨h52, hm⟩ := chk_e hm
                obtain ⟨x53, h54, hm⟩ := bind_e hm
                refine sX7_31 C h52 h54 hw hS hl.1 (Nat.le_of_ble_eq_true rfl) (Nat.le_trans (Nat.le_of_ble_eq_true rfl) hRf) (Nat.le_trans (Nat.le_of_ble_eq_true rfl) hRl) hcs dX7_valueOf_114 (fun H locs hw hS => ?_)
                refine lv_goto (tgt := 141) hx hb dX7_valueOf_117 (by decide) ?_
                obtain ⟨v55, ev, hm⟩ := lt_e hm
                refine lv_iinc (v := v55) (lv' := [(4, .int v55), (5, .int v18), (0, .ref q0), (1, .int q1), (2, .ref (β + 22))]) hx hb dX7_valueOf_141 hl (k := 4) rfl (by rw [ev]; rfl) (by decide) rfl (fun ls hl => ?_)
                clear ev
                refine lv_goto (tgt := 25) hx hb dX7_valueOf_144 (by decide) ?_
                exact ih _ _ _ _ _ _ hm hw hS (lv_sub hl [2, 3, 4, 0] rfl) ke
          · replace hm := ite_p cc hm
            refine lv_aload_n hx hb dX7_valueOf_77 rfl (lv_at hl 1 rfl) ?_
            refine lv_aload_n hx hb dX7_valueOf_78 rfl (lv_at hl 3 rfl) ?_
            refine lv_iconst (v := (-1)) hx hb dX7_valueOf_79 (by decide) ?_
            refine lv_iload hx hb dX7_valueOf_80 (lv_at hl 0 rfl) ?_
            refine lv_isub hx hb dX7_valueOf_82 ?_
            obtain ⟨h56, hm⟩ := chk_e hm
            refine alX_22 C hw h56 dX7_valueOf_83 ?_
            obtain ⟨h57, hm⟩ := chk_e hm
            obtain ⟨x58, h59, hm⟩ := bind_e hm
            refine sX7_31 C h57 h59 hw hS hl.1 (Nat.le_of_ble_eq_true rfl) (Nat.le_trans (Nat.le_of_ble_eq_true rfl) hRf) (Nat.le_trans (Nat.le_of_ble_eq_true rfl) hRl) hcs dX7_valueOf_84 (fun H locs hw hS => ?_)
            refine lv_goto (tgt := 141) hx hb dX7_valueOf_87 (by decide) ?_
            obtain ⟨v60, ev, hm⟩ := lt_e hm
            refine lv_iinc (v := v60) (lv' := [(4, .int v60), (5, .int v18), (0, .ref q0), (1, .int q1), (2, .ref (β + 22))]) hx hb dX7_valueOf_141 hl (k := 4) rfl (by rw [ev]; rfl) (by decide) rfl (fun ls hl => ?_)
            clear ev
            refine lv_goto (tgt := 25) hx hb dX7_valueOf_144 (by decide) ?_
            exact ih _ _ _ _ _ _ hm hw hS (lv_sub hl [2, 3, 4, 0] rfl) ke
        · replace hm := ite_n cc hm
          refine lv_aload_n hx hb dX7_valueOf_60 rfl (lv_at hl 1 rfl) ?_
          refine lv_iload hx hb dX7_valueOf_61 (lv_at hl 0 rfl) ?_
          obtain ⟨h61, hm⟩ := chk_e hm
          obtain ⟨x62, h63, hm⟩ := bind_e hm
          refine sX7_31 C h61 h63 hw hS hl.1 (Nat.le_of_ble_eq_true rfl) (Nat.le_trans (Nat.le_of_ble_eq_true rfl) hRf) (Nat.le_trans (Nat.le_of_ble_eq_true rfl) hRl) hcs dX7_valueOf_63 (fun H locs hw hS => ?_)
          refine lv_goto (tgt := 141) hx hb dX7_valueOf_66 (by decide) ?_
          obtain ⟨v64, ev, hm⟩ := lt_e hm
          refine lv_iinc (v := v64) (lv' := [(4, .int v64), (5, .int v18), (0, .ref q0), (1, .int q1), (2, .ref (β + 22))]) hx hb dX7_valueOf_141 hl (k := 4) rfl (by rw [ev]; rfl) (by decide) rfl (fun ls hl => ?_)
          clear ev
          refine lv_goto (tgt := 25) hx hb dX7_valueOf_144 (by decide) ?_
          exact ih _ _ _ _ _ _ hm hw hS (lv_sub hl [2, 3, 4, 0] rfl) ke
abbrev rmX7_valueOf : Room := { frames := 2, cells := 0, slots := 0, locals := 42 }
set_option maxHeartbeats 4000000 in
set_option maxRecDepth 100000 in
theorem kX7_valueOf {l : Launch} {G : xG} {β : Nat} {D : Nat → Prop} {x x' : XS} {a0 : Nat} {a1 : Int32} {r : Int32} (hm : fX7_valueOf x a0 a1 = some (r, x')) : Met l yX7_valueOf (.code yX7_valueOf cX7_valueOf 7 (some .int) :: GT) rmX7_valueOf (PcW [.ref a0, .int a1, .ref (β + 22)] (CW β D G x) (KK G)) (QcW D (some (.int r)) (CW β D G x')) 0 0 D := by
  unfold fX7_valueOf at hm
  refine xpro (own := RX7) (by decide +kernel) rfl (Nat.le_of_ble_eq_true rfl) ?_
  intro p e s m args below meth c C hw ls hl
  have hx := C.1
  have hb := C.2.1
  have ho := C.2.2.2.1
  have hts := C.2.2.2.2.1
  have hf : Fz D G s.heap := hw.2.2.2.2
  have hS : va_S D s.heap s.heap [] := va_S.rf
  have hl : lv_has ls 7 [(0, .ref a0), (1, .int a1), (2, .ref (β + 22))] := hl
  have hRf : 2 ≤ rmX7_valueOf.frames := Nat.le_refl _
  have hRl : 42 ≤ rmX7_valueOf.locals := Nat.le_refl _
  have hcs : 0 ≤ rmX7_valueOf.cells ∧ 0 ≤ rmX7_valueOf.slots := ⟨Nat.le_refl _, Nat.le_refl _⟩
  refine lv_aload_n hx hb dX7_valueOf_0 rfl (lv_at hl 0 rfl) ?_
  refine lv_iconst (v := 0) hx hb dX7_valueOf_1 (by decide) ?_
  obtain ⟨x1, h2, hm⟩ := bind_e hm
  refine pdX7_18 C h2 hw hS dX7_valueOf_2 (fun H locs hw hS => ?_)
  refine lv_iload_n hx hb dX7_valueOf_5 rfl (lv_at hl 1 rfl) ?_
  obtain ⟨v7, hj, hm⟩ := bind_e hm
  have kk : ∀ (H : Heap) (locs : List Loc) (ls : Array Slot), CW β D G x1 H → va_S D s.heap H locs → lv_has ls 7 [(0, .ref a0), (1, .int a1), (2, .ref (β + 22))] → W p l e rmX7_valueOf s m args below meth c H locs 0 0 (MQ below (QcW D (some (.int r)) (CW β D G x')) args s 0 0 D) (F0 m 21 ls [.int v7]) := by
    intro H locs ls hw hS hl
    refine lv_istore_n (lv' := [(3, .int v7), (0, .ref a0), (1, .int a1), (2, .ref (β + 22))]) hx hb dX7_valueOf_21 rfl hl (by decide) rfl (fun ls hl => ?_)
    refine lv_iload_n hx hb dX7_valueOf_22 rfl (lv_at hl 0 rfl) ?_
    refine lv_istore (lv' := [(4, .int v7), (3, .int v7), (0, .ref a0), (1, .int a1), (2, .ref (β + 22))]) hx hb dX7_valueOf_23 hl (by decide) rfl (fun ls hl => ?_)
    obtain ⟨x65, hj, hm⟩ := bind_e hm
    refine lX7_valueOf_25 C hRf hRl hcs hf a0 a1 NF _ _ _ _ _ _ hj hw hS (lv_sub hl [2, 3, 4, 0] rfl) (fun x65_ e0 H locs ls hw hS hl => ?_)
    cases e0
    refine lv_aload_n hx hb dX7_valueOf_147 rfl (lv_at hl 0 rfl) ?_
    obtain ⟨h66, hm⟩ := chk_e hm
    obtain ⟨v67, x68, h69, hm⟩ := bind2_e hm
    refine sX7_39 C h66 h69 hw hS hl.1 (Nat.le_of_ble_eq_true rfl) (Nat.le_trans (Nat.le_of_ble_eq_true rfl) hRf) (Nat.le_trans (Nat.le_of_ble_eq_true rfl) hRl) hcs dX7_valueOf_148 (fun H locs hw hS => ?_)
    obtain ⟨rfl, rfl⟩ := inj2 hm
    exact xret_i C hw hS dX7_valueOf_151
  clear hm
  replace hm := hj
  clear hj
  refine lv_if_ne (tgt := 13) hx hb dX7_valueOf_6 (by decide) (fun cc => ?_) (fun cc => ?_)
  · replace hm := ite_n cc hm
    refine lv_aload_n hx hb dX7_valueOf_13 rfl (lv_at hl 0 rfl) ?_
    obtain ⟨v3, h4, hm⟩ := bind_e hm
    refine gdX7_9 C h4 hw dX7_valueOf_14 ?_
    refine lv_iload_n hx hb dX7_valueOf_17 rfl (lv_at hl 1 rfl) ?_
    refine lv_iconst (v := 1) hx hb dX7_valueOf_18 (by decide) ?_
    refine lv_isub hx hb dX7_valueOf_19 ?_
    obtain ⟨v5, h6, hm⟩ := bind_e hm
    refine x_dald C h6 hw dX7_valueOf_20 ?_
    obtain rfl := Option.some.inj hm
    exact kk _ _ _ hw hS (lv_sub hl [0, 1, 2] rfl)
  · replace hm := ite_p cc hm
    refine lv_iconst (v := 0) hx hb dX7_valueOf_9 (by decide) ?_
    refine lv_goto (tgt := 21) hx hb dX7_valueOf_10 (by decide) ?_
    obtain rfl := Option.some.inj hm
    exact kk _ _ _ hw hS (lv_sub hl [0, 1, 2] rfl)
theorem dX8_horseAt_0 : decode cX8_horseAt 0 = .ok (.iload_n 1, 1) := by decide +kernel
theorem dX8_horseAt_1 : decode cX8_horseAt 1 = .ok (.ifCond .lt 20, 3) := by decide +kernel
theorem dX8_horseAt_4 : decode cX8_horseAt 4 = .ok (.iload_n 1, 1) := by decide +kernel
theorem dX8_horseAt_5 : decode cX8_horseAt 5 = .ok (.aload_n 0, 1) := by decide +kernel
theorem dX8_horseAt_6 : decode cX8_horseAt 6 = .ok (.getfield 15, 3) := by decide +kernel
theorem dX8_horseAt_9 : decode cX8_horseAt 9 = .ok (.if_icmp .ge 12, 3) := by decide +kernel
theorem dX8_horseAt_12 : decode cX8_horseAt 12 = .ok (.aload_n 0, 1) := by decide +kernel
theorem dX8_horseAt_13 : decode cX8_horseAt 13 = .ok (.getfield 11, 3) := by decide +kernel
theorem dX8_horseAt_16 : decode cX8_horseAt 16 = .ok (.iload_n 1, 1) := by decide +kernel
theorem dX8_horseAt_17 : decode cX8_horseAt 17 = .ok (.aaload, 1) := by decide +kernel
theorem dX8_horseAt_18 : decode cX8_horseAt 18 = .ok (.goto 4, 3) := by decide +kernel
theorem dX8_horseAt_21 : decode cX8_horseAt 21 = .ok (.aconst_null, 1) := by decide +kernel
theorem dX8_horseAt_22 : decode cX8_horseAt 22 = .ok (.areturn, 1) := by decide +kernel
theorem iwX8 : ∀ w ∈ u_ws RX8 TX8 19, w ∈ GT := in_tb [366, 368, 370, 372, 374, 376, 378, 380, 382, 384, 386, 388, 390, 392, 394, 396, 398, 400, 402] (by decide +kernel) (by decide +kernel)
theorem gX8_15 {p : Program} {l : Launch} {e : Env} {R : Room} {s : State} {m : MethodId} {args : Array Value} {below : List Frame} {meth : Method} {c : Code} {H : Heap} {locs : List Loc} {cells slots : Nat} {Q : State → Prop} {cc : ByteArray} {pc nL : Nat} {ls : Array Slot} {rest : List Value} {ret : Option FieldType} {G : xG} {β : Nat} {D : Nat → Prop} {x : XS} (C : Cx p s m args meth c RX8 cc nL ret (KK G)) (hw : CW β D G x H) (hd : decode cc pc = .ok (.getfield 15, 3)) (kk : W p l e R s m args below meth c H locs cells slots Q (F0 m (pc + 3) ls (.int (x.1 0 1) :: rest))) : W p l e R s m args below meth c H locs cells slots Q (F0 m pc ls (.ref β :: rest)) :=
  va_get C.1 C.2.1 C.2.2.2.2.1 iwX8 C.2.2.2.1 C.K.1 (xP1 (hw.2.2.1 0 (by decide))) 0 rfl rfl 1 (by decide) (C.2.2.2.2.1 (.fieldLink RX8 15 RX8 "horseCount" "I") (tg 348 (by decide +kernel) rfl)) (fun _ h9 => h9) rfl hd kk
theorem gX8_11 {p : Program} {l : Launch} {e : Env} {R : Room} {s : State} {m : MethodId} {args : Array Value} {below : List Frame} {meth : Method} {c : Code} {H : Heap} {locs : List Loc} {cells slots : Nat} {Q : State → Prop} {cc : ByteArray} {pc nL : Nat} {ls : Array Slot} {rest : List Value} {ret : Option FieldType} {G : xG} {β : Nat} {D : Nat → Prop} {x : XS} (C : Cx p s m args meth c RX8 cc nL ret (KK G)) (hw : CW β D G x H) (hd : decode cc pc = .ok (.getfield 11, 3)) (kk : W p l e R s m args below meth c H locs cells slots Q (F0 m (pc + 3) ls (.ref (β + 1) :: rest))) : W p l e R s m args below meth c H locs cells slots Q (F0 m pc ls (.ref β :: rest)) :=
  va_get C.1 C.2.1 C.2.2.2.2.1 iwX8 C.2.2.2.1 C.K.1 (xP1 (hw.2.2.1 0 (by decide))) 0 rfl rfl 0 (by decide) (C.2.2.2.2.1 (.fieldLink RX8 11 RX8 "stable" "[LAtThePost$Horse;") (tg 347 (by decide +kernel) rfl)) (fun _ h9 => h9) rfl hd kk
theorem alX_1 {p : Program} {l : Launch} {e : Env} {R : Room} {s : State} {m : MethodId} {args : Array Value} {below : List Frame} {meth : Method} {c : Code} {H : Heap} {locs : List Loc} {cells slots : Nat} {Q : State → Prop} {cc : ByteArray} {pc nL : Nat} {ls : Array Slot} {rest : List Value} {ret : Option FieldType} {G : xG} {β : Nat} {D : Nat → Prop} {x : XS} {own : String} {i : Int32} (C : Cx p s m args meth c own cc nL ret (KK G)) (hw : CW β D G x H) (hin : ib i 10) (hd : decode cc pc = .ok (.aaload, 1)) (kk : W p l e R s m args below meth c H locs cells slots Q (F0 m (pc + 1) ls (va_rf (x.2.2.1 1 i.toNatClampNeg) :: rest))) : W p l e R s m args below meth c H locs cells slots Q (F0 m pc ls (.int i :: .ref (β + 1) :: rest)) :=
  va_aldq (C := "AtThePost$Horse") C.1 C.2.1 C.K.1 (xP1 (hw.2.2.1 1 (by decide))) 0 4 rfl rfl hin hd kk
def fX8_horseAt (x : XS) (a1 : Int32) : Option (Option Nat) := if a1 < 0 then some none else if (x.1 0 1) ≤ a1 then some none else if ib a1 10 then lt (x.2.2.1 1 a1.toNatClampNeg) fun e2 => some e2 else none
abbrev rmX8_horseAt : Room := { frames := 0, cells := 0, slots := 0, locals := 0 }
set_option maxHeartbeats 4000000 in
set_option maxRecDepth 100000 in
theorem kX8_horseAt {l : Launch} {G : xG} {β : Nat} {D : Nat → Prop} {x : XS} {a1 : Int32} {r : Option Nat} (hm : fX8_horseAt x a1 = some r) : Met l yX8_horseAt (.code yX8_horseAt cX8_horseAt 2 (some (.object "AtThePost$Horse")) :: GT) rmX8_horseAt (PcW [.ref β, .int a1] (CW β D G x) (KK G)) (QcW D (some (va_rf r)) (CW β D G x)) 0 0 D := by
  unfold fX8_horseAt at hm
  refine xpro (own := RX8) (by decide +kernel) rfl (Nat.le_of_ble_eq_true rfl) ?_
  intro p e s m args below meth c C hw ls hl
  have hx := C.1
  have hb := C.2.1
  have ho := C.2.2.2.1
  have hts := C.2.2.2.2.1
  have hf : Fz D G s.heap := hw.2.2.2.2
  have hS : va_S D s.heap s.heap [] := va_S.rf
  have hl : lv_has ls 2 [(0, .ref β), (1, .int a1)] := hl
  have hRf : 0 ≤ rmX8_horseAt.frames := Nat.le_refl _
  have hRl : 0 ≤ rmX8_horseAt.locals := Nat.le_refl _
  have hcs : 0 ≤ rmX8_horseAt.cells ∧ 0 ≤ rmX8_horseAt.slots := ⟨Nat.le_refl _, Nat.le_refl _⟩
  refine lv_iload_n hx hb dX8_horseAt_0 rfl (lv_at hl 1 rfl) ?_
  refine lv_if_lt (tgt := 21) hx hb dX8_horseAt_1 (by decide) (fun cc => ?_) (fun cc => ?_)
  · replace hm := ite_p cc hm
    refine lv_null hx hb dX8_horseAt_21 ?_
    obtain rfl := Option.some.inj hm
    exact xret_a (v := none) C hw hS dX8_horseAt_22
  · replace hm := ite_n cc hm
    refine lv_iload_n hx hb dX8_horseAt_4 rfl (lv_at hl 1 rfl) ?_
    refine lv_aload_n hx hb dX8_horseAt_5 rfl (lv_at hl 0 rfl) ?_
    refine gX8_15 C hw dX8_horseAt_6 ?_
    refine lv_icmp_ge (tgt := 21) hx hb dX8_horseAt_9 (by decide) (fun cc => ?_) (fun cc => ?_)
    · replace hm := ite_p cc hm
      refine lv_null hx hb dX8_horseAt_21 ?_
      obtain rfl := Option.some.inj hm
      exact xret_a (v := none) C hw hS dX8_horseAt_22
    · replace hm := ite_n cc hm
      refine lv_aload_n hx hb dX8_horseAt_12 rfl (lv_at hl 0 rfl) ?_
      refine gX8_11 C hw dX8_horseAt_13 ?_
      refine lv_iload_n hx hb dX8_horseAt_16 rfl (lv_at hl 1 rfl) ?_
      obtain ⟨h1, hm⟩ := chk_e hm
      refine alX_1 C hw h1 dX8_horseAt_17 ?_
      refine topR hm (fun e2 hm => ?_)
      refine lv_goto (tgt := 22) hx hb dX8_horseAt_18 (by decide) ?_
      obtain rfl := Option.some.inj hm
      exact xret_a C hw hS dX8_horseAt_22
theorem dX8_isWithin_0 : decode cX8_isWithin 0 = .ok (.iload_n 0, 1) := by decide +kernel
theorem dX8_isWithin_1 : decode cX8_isWithin 1 = .ok (.iload_n 1, 1) := by decide +kernel
theorem dX8_isWithin_2 : decode cX8_isWithin 2 = .ok (.if_icmp .lt 12, 3) := by decide +kernel
theorem dX8_isWithin_5 : decode cX8_isWithin 5 = .ok (.iload_n 0, 1) := by decide +kernel
theorem dX8_isWithin_6 : decode cX8_isWithin 6 = .ok (.iload_n 2, 1) := by decide +kernel
theorem dX8_isWithin_7 : decode cX8_isWithin 7 = .ok (.if_icmp .gt 7, 3) := by decide +kernel
theorem dX8_isWithin_10 : decode cX8_isWithin 10 = .ok (.iconst 1, 1) := by decide +kernel
theorem dX8_isWithin_11 : decode cX8_isWithin 11 = .ok (.goto 4, 3) := by decide +kernel
theorem dX8_isWithin_14 : decode cX8_isWithin 14 = .ok (.iconst 0, 1) := by decide +kernel
theorem dX8_isWithin_15 : decode cX8_isWithin 15 = .ok (.ireturn, 1) := by decide +kernel
def fX8_isWithin (a1 : Int32) (a2 : Int32) (a3 : Int32) : Option (Bool) := if a1 < a2 then some false else if a3 < a1 then some false else some true
abbrev rmX8_isWithin : Room := { frames := 0, cells := 0, slots := 0, locals := 0 }
set_option maxHeartbeats 4000000 in
set_option maxRecDepth 100000 in
theorem kX8_isWithin {l : Launch} {G : xG} {β : Nat} {D : Nat → Prop} {x : XS} {a1 : Int32} {a2 : Int32} {a3 : Int32} {r : Bool} (hm : fX8_isWithin a1 a2 a3 = some r) : Met l yX8_isWithin (.code yX8_isWithin cX8_isWithin 3 (some .boolean) :: GT) rmX8_isWithin (PcW [.int a1, .int a2, .int a3] (CW β D G x) (KK G)) (QcW D (some (.int (bI r))) (CW β D G x)) 0 0 D := by
  unfold fX8_isWithin at hm
  refine xpro (own := RX8) (by decide +kernel) rfl (Nat.le_of_ble_eq_true rfl) ?_
  intro p e s m args below meth c C hw ls hl
  have hx := C.1
  have hb := C.2.1
  have ho := C.2.2.2.1
  have hts := C.2.2.2.2.1
  have hf : Fz D G s.heap := hw.2.2.2.2
  have hS : va_S D s.heap s.heap [] := va_S.rf
  have hl : lv_has ls 3 [(0, .int a1), (1, .int a2), (2, .int a3)] := hl
  have hRf : 0 ≤ rmX8_isWithin.frames := Nat.le_refl _
  have hRl : 0 ≤ rmX8_isWithin.locals := Nat.le_refl _
  have hcs : 0 ≤ rmX8_isWithin.cells ∧ 0 ≤ rmX8_isWithin.slots := ⟨Nat.le_refl _, Nat.le_refl _⟩
  refine lv_iload_n hx hb dX8_isWithin_0 rfl (lv_at hl 0 rfl) ?_
  refine lv_iload_n hx hb dX8_isWithin_1 rfl (lv_at hl 1 rfl) ?_
  refine lv_icmp_lt (tgt := 14) hx hb dX8_isWithin_2 (by decide) (fun cc => ?_) (fun cc => ?_)
  · replace hm := ite_p cc hm
    refine lv_iconst (v := 0) hx hb dX8_isWithin_14 (by decide) ?_
    obtain rfl := Option.some.inj hm
    exact xret_z (v := bI false) C (bI_nar _) hw hS dX8_isWithin_15
  · replace hm := ite_n cc hm
    refine lv_iload_n hx hb dX8_isWithin_5 rfl (lv_at hl 0 rfl) ?_
    refine lv_iload_n hx hb dX8_isWithin_6 rfl (lv_at hl 2 rfl) ?_
    refine lv_icmp_gt (tgt := 14) hx hb dX8_isWithin_7 (by decide) (fun cc => ?_) (fun cc => ?_)
    · replace hm := ite_p cc hm
      refine lv_iconst (v := 0) hx hb dX8_isWithin_14 (by decide) ?_
      obtain rfl := Option.some.inj hm
      exact xret_z (v := bI false) C (bI_nar _) hw hS dX8_isWithin_15
    · replace hm := ite_n cc hm
      refine lv_iconst (v := 1) hx hb dX8_isWithin_10 (by decide) ?_
      refine lv_goto (tgt := 15) hx hb dX8_isWithin_11 (by decide) ?_
      obtain rfl := Option.some.inj hm
      exact xret_z (v := bI true) C (bI_nar _) hw hS dX8_isWithin_15
theorem dX8_set_0 : decode cX8_set 0 = .ok (.aload_n 0, 1) := by decide +kernel
theorem dX8_set_1 : decode cX8_set 1 = .ok (.iload_n 1, 1) := by decide +kernel
theorem dX8_set_2 : decode cX8_set 2 = .ok (.invokevirtual 134, 3) := by decide +kernel
theorem dX8_set_5 : decode cX8_set 5 = .ok (.astore 4, 2) := by decide +kernel
theorem dX8_set_7 : decode cX8_set 7 = .ok (.aload 4, 2) := by decide +kernel
theorem dX8_set_9 : decode cX8_set 9 = .ok (.ifnonnull 6, 3) := by decide +kernel
theorem dX8_set_12 : decode cX8_set 12 = .ok (.bipush (-2), 2) := by decide +kernel
theorem dX8_set_14 : decode cX8_set 14 = .ok (.ireturn, 1) := by decide +kernel
theorem dX8_set_15 : decode cX8_set 15 = .ok (.bipush (-2), 2) := by decide +kernel
theorem dX8_set_17 : decode cX8_set 17 = .ok (.istore 5, 2) := by decide +kernel
theorem dX8_set_19 : decode cX8_set 19 = .ok (.iload_n 2, 1) := by decide +kernel
theorem dX8_set_20 : decode cX8_set 20 = .ok (.ifCond .ne 29, 3) := by decide +kernel
theorem dX8_set_23 : decode cX8_set 23 = .ok (.iload_n 3, 1) := by decide +kernel
theorem dX8_set_24 : decode cX8_set 24 = .ok (.iconst 0, 1) := by decide +kernel
theorem dX8_set_25 : decode cX8_set 25 = .ok (.bipush 99, 2) := by decide +kernel
theorem dX8_set_27 : decode cX8_set 27 = .ok (.invokestatic 138, 3) := by decide +kernel
theorem dX8_set_30 : decode cX8_set 30 = .ok (.ifCond .eq 19, 3) := by decide +kernel
theorem dX8_set_33 : decode cX8_set 33 = .ok (.aload 4, 2) := by decide +kernel
theorem dX8_set_35 : decode cX8_set 35 = .ok (.getfield 141, 3) := by decide +kernel
theorem dX8_set_38 : decode cX8_set 38 = .ok (.istore 5, 2) := by decide +kernel
theorem dX8_set_40 : decode cX8_set 40 = .ok (.aload 4, 2) := by decide +kernel
theorem dX8_set_42 : decode cX8_set 42 = .ok (.iload_n 3, 1) := by decide +kernel
theorem dX8_set_43 : decode cX8_set 43 = .ok (.putfield 141, 3) := by decide +kernel
theorem dX8_set_46 : decode cX8_set 46 = .ok (.goto 62, 3) := by decide +kernel
theorem dX8_set_49 : decode cX8_set 49 = .ok (.iload_n 2, 1) := by decide +kernel
theorem dX8_set_50 : decode cX8_set 50 = .ok (.iconst 1, 1) := by decide +kernel
theorem dX8_set_51 : decode cX8_set 51 = .ok (.if_icmp .ne 29, 3) := by decide +kernel
theorem dX8_set_54 : decode cX8_set 54 = .ok (.iload_n 3, 1) := by decide +kernel
theorem dX8_set_55 : decode cX8_set 55 = .ok (.iconst 2, 1) := by decide +kernel
theorem dX8_set_56 : decode cX8_set 56 = .ok (.bipush 12, 2) := by decide +kernel
theorem dX8_set_58 : decode cX8_set 58 = .ok (.invokestatic 138, 3) := by decide +kernel
theorem dX8_set_61 : decode cX8_set 61 = .ok (.ifCond .eq 19, 3) := by decide +kernel
theorem dX8_set_64 : decode cX8_set 64 = .ok (.aload 4, 2) := by decide +kernel
theorem dX8_set_66 : decode cX8_set 66 = .ok (.getfield 144, 3) := by decide +kernel
theorem dX8_set_69 : decode cX8_set 69 = .ok (.istore 5, 2) := by decide +kernel
theorem dX8_set_71 : decode cX8_set 71 = .ok (.aload 4, 2) := by decide +kernel
theorem dX8_set_73 : decode cX8_set 73 = .ok (.iload_n 3, 1) := by decide +kernel
theorem dX8_set_74 : decode cX8_set 74 = .ok (.putfield 144, 3) := by decide +kernel
theorem dX8_set_77 : decode cX8_set 77 = .ok (.goto 31, 3) := by decide +kernel
theorem dX8_set_80 : decode cX8_set 80 = .ok (.iload_n 2, 1) := by decide +kernel
theorem dX8_set_81 : decode cX8_set 81 = .ok (.iconst 2, 1) := by decide +kernel
theorem dX8_set_82 : decode cX8_set 82 = .ok (.if_icmp .ne 26, 3) := by decide +kernel
theorem dX8_set_85 : decode cX8_set 85 = .ok (.iload_n 3, 1) := by decide +kernel
theorem dX8_set_86 : decode cX8_set 86 = .ok (.iconst 0, 1) := by decide +kernel
theorem dX8_set_87 : decode cX8_set 87 = .ok (.bipush 60, 2) := by decide +kernel
theorem dX8_set_89 : decode cX8_set 89 = .ok (.invokestatic 138, 3) := by decide +kernel
theorem dX8_set_92 : decode cX8_set 92 = .ok (.ifCond .eq 16, 3) := by decide +kernel
theorem dX8_set_95 : decode cX8_set 95 = .ok (.aload 4, 2) := by decide +kernel
theorem dX8_set_97 : decode cX8_set 97 = .ok (.getfield 147, 3) := by decide +kernel
theorem dX8_set_100 : decode cX8_set 100 = .ok (.istore 5, 2) := by decide +kernel
theorem dX8_set_102 : decode cX8_set 102 = .ok (.aload 4, 2) := by decide +kernel
theorem dX8_set_104 : decode cX8_set 104 = .ok (.iload_n 3, 1) := by decide +kernel
theorem dX8_set_105 : decode cX8_set 105 = .ok (.putfield 147, 3) := by decide +kernel
theorem dX8_set_108 : decode cX8_set 108 = .ok (.iload 5, 2) := by decide +kernel
theorem dX8_set_110 : decode cX8_set 110 = .ok (.ireturn, 1) := by decide +kernel
theorem sX8_134 {p : Program} {l : Launch} {e : Env} {R : Room} {s : State} {m : MethodId} {args : Array Value} {below : List Frame} {meth : Method} {c : Code} {H : Heap} {locs : List Loc} {cells slots : Nat} {Q : State → Prop} {cc : ByteArray} {pc nL : Nat} {ls : Array Slot} {rest : List Value} {ret : Option FieldType}  {G : xG} {β : Nat} {D : Nat → Prop} {x : XS} {a1 : Int32} {r : Option Nat} (C : Cx p s m args meth c RX8 cc nL ret (KK G)) (h : fX8_horseAt x a1 = some r) (hw : CW β D G x H) (hS : va_S D s.heap H locs) (hsz : ls.size = nL) (hW : (rest.map fun v => v.category).sum ≤ 8) (hR : 1 ≤ R.frames) (hR2 : 21 ≤ R.locals) (hcs : cells ≤ R.cells ∧ slots ≤ R.slots) (hd : decode cc pc = .ok (.invokevirtual 134, 3)) (kk : ∀ (H1 : Heap) (locs1 : List Loc), CW β D G x H1 → va_S D s.heap H1 locs1 → W p l e R s m args below meth c H1 locs1 cells slots Q (F0 m (pc + 3) ls (va_rf r :: rest))) : W p l e R s m args below meth c H locs cells slots Q (F0 m pc ls (.int a1 :: .ref β :: rest)) := by
  exact xcallV C (As := [.int a1]) (rest := rest) (nA := 1) (ci := 8) (kX8_horseAt h) (tg 460 (by decide +kernel) rfl) (tg 462 (by decide +kernel) rfl) (sg (List.mem_of_getElem? (i := 13) (by decide +kernel)) rfl) (tg 1 (by decide +kernel) rfl) (tg 463 (by decide +kernel) rfl) ⟨rfl, by decide +kernel, by decide +kernel, by decide +kernel⟩ rfl rfl rfl ⟨hR, hR2⟩ (hw.2.2.1 0 (by decide)) hw hS (fun _ q => q) rfl rfl hsz hW hd hcs (fun H1 locs1 hw hz hk hS => kk H1 locs1 hw hS)
theorem sX8_138 {p : Program} {l : Launch} {e : Env} {R : Room} {s : State} {m : MethodId} {args : Array Value} {below : List Frame} {meth : Method} {c : Code} {H : Heap} {locs : List Loc} {cells slots : Nat} {Q : State → Prop} {cc : ByteArray} {pc nL : Nat} {ls : Array Slot} {rest : List Value} {ret : Option FieldType}  {G : xG} {β : Nat} {D : Nat → Prop} {x : XS} {a1 : Int32} {a2 : Int32} {a3 : Int32} {r : Bool} (C : Cx p s m args meth c RX8 cc nL ret (KK G)) (h : fX8_isWithin a1 a2 a3 = some r) (hw : CW β D G x H) (hS : va_S D s.heap H locs) (hsz : ls.size = nL) (hW : (rest.map fun v => v.category).sum ≤ 8) (hR : 1 ≤ R.frames) (hR2 : 22 ≤ R.locals) (hcs : cells ≤ R.cells ∧ slots ≤ R.slots) (hd : decode cc pc = .ok (.invokestatic 138, 3)) (kk : ∀ (H1 : Heap) (locs1 : List Loc), CW β D G x H1 → va_S D s.heap H1 locs1 → W p l e R s m args below meth c H1 locs1 cells slots Q (F0 m (pc + 3) ls (.int (bI r) :: rest))) : W p l e R s m args below meth c H locs cells slots Q (F0 m pc ls (.int a3 :: .int a2 :: .int a1 :: rest)) := by
  exact xcallS C (As := [.int a1, .int a2, .int a3]) (rest := rest) (nA := 3) (kX8_isWithin h) (tg 417 (by decide +kernel) rfl) (tg 418 (by decide +kernel) rfl) (tg 1 (by decide +kernel) rfl) (tg 419 (by decide +kernel) rfl) ⟨by decide +kernel, by decide +kernel, by decide +kernel⟩ rfl rfl ⟨hR, hR2⟩ hw hS (fun _ q => q) rfl rfl hsz hW hd hcs (fun H1 locs1 hw hz hk hS => kk H1 locs1 hw hS)
theorem gdX8_147 {p : Program} {l : Launch} {e : Env} {R : Room} {s : State} {m : MethodId} {args : Array Value} {below : List Frame} {meth : Method} {c : Code} {H : Heap} {locs : List Loc} {cells slots : Nat} {Q : State → Prop} {cc : ByteArray} {pc nL : Nat} {ls : Array Slot} {rest : List Value} {ret : Option FieldType}  {G : xG} {β : Nat} {D : Nat → Prop} {x : XS} {a : Nat} {v : Int32} (C : Cx p s m args meth c RX8 cc nL ret (KK G)) (h : dI x a 1 5 = some v) (hw : CW β D G x H) (hd : decode cc pc = .ok (.getfield 147, 3)) (kk : W p l e R s m args below meth c H locs cells slots Q (F0 m (pc + 3) ls (.int v :: rest))) : W p l e R s m args below meth c H locs cells slots Q (F0 m pc ls (.ref a :: rest)) := by
  obtain ⟨fs, h1, h2⟩ := dI_e h
  exact va_getN (ci := 1) (fs := fs) C.1 C.2.1 C.2.2.2.2.1 iwX1 C.2.2.2.1 C.K.1 (xP1 (hw.2.2.2.1 a _ h1).2.2.2) 0 rfl rfl 5 (by decide) (va_Nw.use (w := .fieldLinkNest RX8 147 RX1 "lead" "I" "AtThePost") rfl (C.K.2.1 (RX8, 147, RX1, "lead", "I") (List.mem_of_getElem? (i := 21) rfl))) (fun _ h9 => h9) h2 hd kk
theorem pdX8_147 {p : Program} {l : Launch} {e : Env} {R : Room} {s : State} {m : MethodId} {args : Array Value} {below : List Frame} {meth : Method} {c : Code} {H : Heap} {locs : List Loc} {cells slots : Nat} {Q : State → Prop} {cc : ByteArray} {pc nL : Nat} {ls : Array Slot} {rest : List Value} {ret : Option FieldType}  {G : xG} {β : Nat} {D : Nat → Prop} {x x' : XS} {a : Nat} {v : Int32} (C : Cx p s m args meth c RX8 cc nL ret (KK G)) (h : dPut x a 1 5 (.int v) = some x') (hw : CW β D G x H) (hS : va_S D s.heap H locs) (hd : decode cc pc = .ok (.putfield 147, 3)) (kk : ∀ (H1 : Heap) (locs1 : List Loc), CW β D G x' H1 → va_S D s.heap H1 locs1 → W p l e R s m args below meth c H1 locs1 cells slots Q (F0 m (pc + 3) ls (rest))) : W p l e R s m args below meth c H locs cells slots Q (F0 m pc ls (.int v :: .ref a :: rest)) := by
  obtain ⟨fs, h1, h2, rfl⟩ := dPut_e h
  exact x_putN (ci := 1) (fs := fs) C.1 C.2.1 C.2.2.2.2.1 iwX1 tyX1 tyX1_ok nmX1 C.2.2.2.1 C.K.1 hS (hw.2.2.2.1 a _ h1).2.2.2 (hw.2.2.2.1 a _ h1).1 rfl 5 (by decide) (va_Nw.use (w := .fieldLinkNest RX8 147 RX1 "lead" "I" "AtThePost") rfl (C.K.2.1 (RX8, 147, RX1, "lead", "I") (List.mem_of_getElem? (i := 21) rfl))) (fun _ h9 => h9) rfl (ty := .int) (by decide +kernel) rfl rfl h2 hd (fun H1 locs1 hat ho hS => kk H1 locs1 (hw.setD h1 hat ho) hS)
theorem gdX8_144 {p : Program} {l : Launch} {e : Env} {R : Room} {s : State} {m : MethodId} {args : Array Value} {below : List Frame} {meth : Method} {c : Code} {H : Heap} {locs : List Loc} {cells slots : Nat} {Q : State → Prop} {cc : ByteArray} {pc nL : Nat} {ls : Array Slot} {rest : List Value} {ret : Option FieldType}  {G : xG} {β : Nat} {D : Nat → Prop} {x : XS} {a : Nat} {v : Int32} (C : Cx p s m args meth c RX8 cc nL ret (KK G)) (h : dI x a 1 4 = some v) (hw : CW β D G x H) (hd : decode cc pc = .ok (.getfield 144, 3)) (kk : W p l e R s m args below meth c H locs cells slots Q (F0 m (pc + 3) ls (.int v :: rest))) : W p l e R s m args below meth c H locs cells slots Q (F0 m pc ls (.ref a :: rest)) := by
  obtain ⟨fs, h1, h2⟩ := dI_e h
  exact va_getN (ci := 1) (fs := fs) C.1 C.2.1 C.2.2.2.2.1 iwX1 C.2.2.2.1 C.K.1 (xP1 (hw.2.2.2.1 a _ h1).2.2.2) 0 rfl rfl 4 (by decide) (va_Nw.use (w := .fieldLinkNest RX8 144 RX1 "age" "I" "AtThePost") rfl (C.K.2.1 (RX8, 144, RX1, "age", "I") (List.mem_of_getElem? (i := 19) rfl))) (fun _ h9 => h9) h2 hd kk
theorem pdX8_144 {p : Program} {l : Launch} {e : Env} {R : Room} {s : State} {m : MethodId} {args : Array Value} {below : List Frame} {meth : Method} {c : Code} {H : Heap} {locs : List Loc} {cells slots : Nat} {Q : State → Prop} {cc : ByteArray} {pc nL : Nat} {ls : Array Slot} {rest : List Value} {ret : Option FieldType}  {G : xG} {β : Nat} {D : Nat → Prop} {x x' : XS} {a : Nat} {v : Int32} (C : Cx p s m args meth c RX8 cc nL ret (KK G)) (h : dPut x a 1 4 (.int v) = some x') (hw : CW β D G x H) (hS : va_S D s.heap H locs) (hd : decode cc pc = .ok (.putfield 144, 3)) (kk : ∀ (H1 : Heap) (locs1 : List Loc), CW β D G x' H1 → va_S D s.heap H1 locs1 → W p l e R s m args below meth c H1 locs1 cells slots Q (F0 m (pc + 3) ls (rest))) : W p l e R s m args below meth c H locs cells slots Q (F0 m pc ls (.int v :: .ref a :: rest)) := by
  obtain ⟨fs, h1, h2, rfl⟩ := dPut_e h
  exact x_putN (ci := 1) (fs := fs) C.1 C.2.1 C.2.2.2.2.1 iwX1 tyX1 tyX1_ok nmX1 C.2.2.2.1 C.K.1 hS (hw.2.2.2.1 a _ h1).2.2.2 (hw.2.2.2.1 a _ h1).1 rfl 4 (by decide) (va_Nw.use (w := .fieldLinkNest RX8 144 RX1 "age" "I" "AtThePost") rfl (C.K.2.1 (RX8, 144, RX1, "age", "I") (List.mem_of_getElem? (i := 19) rfl))) (fun _ h9 => h9) rfl (ty := .int) (by decide +kernel) rfl rfl h2 hd (fun H1 locs1 hat ho hS => kk H1 locs1 (hw.setD h1 hat ho) hS)
theorem gdX8_141 {p : Program} {l : Launch} {e : Env} {R : Room} {s : State} {m : MethodId} {args : Array Value} {below : List Frame} {meth : Method} {c : Code} {H : Heap} {locs : List Loc} {cells slots : Nat} {Q : State → Prop} {cc : ByteArray} {pc nL : Nat} {ls : Array Slot} {rest : List Value} {ret : Option FieldType}  {G : xG} {β : Nat} {D : Nat → Prop} {x : XS} {a : Nat} {v : Int32} (C : Cx p s m args meth c RX8 cc nL ret (KK G)) (h : dI x a 1 3 = some v) (hw : CW β D G x H) (hd : decode cc pc = .ok (.getfield 141, 3)) (kk : W p l e R s m args below meth c H locs cells slots Q (F0 m (pc + 3) ls (.int v :: rest))) : W p l e R s m args below meth c H locs cells slots Q (F0 m pc ls (.ref a :: rest)) := by
  obtain ⟨fs, h1, h2⟩ := dI_e h
  exact va_getN (ci := 1) (fs := fs) C.1 C.2.1 C.2.2.2.2.1 iwX1 C.2.2.2.1 C.K.1 (xP1 (hw.2.2.2.1 a _ h1).2.2.2) 0 rfl rfl 3 (by decide) (va_Nw.use (w := .fieldLinkNest RX8 141 RX1 "strength" "I" "AtThePost") rfl (C.K.2.1 (RX8, 141, RX1, "strength", "I") (List.mem_of_getElem? (i := 17) rfl))) (fun _ h9 => h9) h2 hd kk
theorem pdX8_141 {p : Program} {l : Launch} {e : Env} {R : Room} {s : State} {m : MethodId} {args : Array Value} {below : List Frame} {meth : Method} {c : Code} {H : Heap} {locs : List Loc} {cells slots : Nat} {Q : State → Prop} {cc : ByteArray} {pc nL : Nat} {ls : Array Slot} {rest : List Value} {ret : Option FieldType}  {G : xG} {β : Nat} {D : Nat → Prop} {x x' : XS} {a : Nat} {v : Int32} (C : Cx p s m args meth c RX8 cc nL ret (KK G)) (h : dPut x a 1 3 (.int v) = some x') (hw : CW β D G x H) (hS : va_S D s.heap H locs) (hd : decode cc pc = .ok (.putfield 141, 3)) (kk : ∀ (H1 : Heap) (locs1 : List Loc), CW β D G x' H1 → va_S D s.heap H1 locs1 → W p l e R s m args below meth c H1 locs1 cells slots Q (F0 m (pc + 3) ls (rest))) : W p l e R s m args below meth c H locs cells slots Q (F0 m pc ls (.int v :: .ref a :: rest)) := by
  obtain ⟨fs, h1, h2, rfl⟩ := dPut_e h
  exact x_putN (ci := 1) (fs := fs) C.1 C.2.1 C.2.2.2.2.1 iwX1 tyX1 tyX1_ok nmX1 C.2.2.2.1 C.K.1 hS (hw.2.2.2.1 a _ h1).2.2.2 (hw.2.2.2.1 a _ h1).1 rfl 3 (by decide) (va_Nw.use (w := .fieldLinkNest RX8 141 RX1 "strength" "I" "AtThePost") rfl (C.K.2.1 (RX8, 141, RX1, "strength", "I") (List.mem_of_getElem? (i := 17) rfl))) (fun _ h9 => h9) rfl (ty := .int) (by decide +kernel) rfl rfl h2 hd (fun H1 locs1 hat ho hS => kk H1 locs1 (hw.setD h1 hat ho) hS)
def fX8_set (x : XS) (a1 : Int32) (a2 : Int32) (a3 : Int32) : Option (Int32 × XS) := Option.bind (fX8_horseAt x a1) fun v1 => oc v1 (some ((-2), x)) (fun p3 => if a2 = 0 then Option.bind (fX8_isWithin a3 0 99) fun v22 => if v22 = true then Option.bind (dI x p3 1 3) fun v42 => Option.bind (dPut x p3 1 3 (.int a3)) fun x44 => some (v42, x44) else if a2 = 1 then Option.bind (fX8_isWithin a3 2 12) fun v30 => if v30 = true then Option.bind (dI x p3 1 4) fun v38 => Option.bind (dPut x p3 1 4 (.int a3)) fun x40 => some (v38, x40) else if a2 = 2 then Option.bind (fX8_isWithin a3 0 60) fun v32 => if v32 = true then Option.bind (dI x p3 1 5) fun v34 => Option.bind (dPut x p3 1 5 (.int a3)) fun x36 => some (v34, x36) else some ((-2), x) else some ((-2), x) else if a2 = 2 then Option.bind (fX8_isWithin a3 0 60) fun v24 => if v24 = true then Option.bind (dI x p3 1 5) fun v26 => Option.bind (dPut x p3 1 5 (.int a3)) fun x28 => some (v26, x28) else some ((-2), x) else some ((-2), x) else if a2 = 1 then Option.bind (fX8_isWithin a3 2 12) fun v10 => if v10 = true then Option.bind (dI x p3 1 4) fun v18 => Option.bind (dPut x p3 1 4 (.int a3)) fun x20 => some (v18, x20) else if a2 = 2 then Option.bind (fX8_isWithin a3 0 60) fun v12 => if v12 = true then Option.bind (dI x p3 1 5) fun v14 => Option.bind (dPut x p3 1 5 (.int a3)) fun x16 => some (v14, x16) else some ((-2), x) else some ((-2), x) else if a2 = 2 then Option.bind (fX8_isWithin a3 0 60) fun v4 => if v4 = true then Option.bind (dI x p3 1 5) fun v6 => Option.bind (dPut x p3 1 5 (.int a3)) fun x8 => some (v6, x8) else some ((-2), x) else some ((-2), x))
abbrev rmX8_set : Room := { frames := 1, cells := 0, slots := 0, locals := 22 }
set_option maxHeartbeats 4000000 in
set_option maxRecDepth 100000 in
theorem kX8_set {l : Launch} {G : xG} {β : Nat} {D : Nat → Prop} {x x' : XS} {a1 : Int32} {a2 : Int32} {a3 : Int32} {r : Int32} (hm : fX8_set x a1 a2 a3 = some (r, x')) : Met l yX8_set (.code yX8_set cX8_set 6 (some .int) :: GT) rmX8_set (PcW [.ref β, .int a1, .int a2, .int a3] (CW β D G x) (KK G)) (QcW D (some (.int r)) (CW β D G x')) 0 0 D := by
  unfold fX8_set at hm
  refine xpro (own := RX8) (by decide +kernel) rfl (Nat.le_of_ble_eq_true rfl) ?_
  intro p e s m args below meth c C hw ls hl
  have hx := C.1
  have hb := C.2.1
  have ho := C.2.2.2.1
  have hts := C.2.2.2.2.1
  have hf : Fz D G s.heap := hw.2.2.2.2
  have hS : va_S D s.heap s.heap [] := va_S.rf
  have hl : lv_has ls 6 [(0, .ref β), (1, .int a1), (2, .int a2), (3, .int a3)] := hl
  have hRf : 1 ≤ rmX8_set.frames := Nat.le_refl _
  have hRl : 22 ≤ rmX8_set.locals := Nat.le_refl _
  have hcs : 0 ≤ rmX8_set.cells ∧ 0 ≤ rmX8_set.slots := ⟨Nat.le_refl _, Nat.le_refl _⟩
  refine lv_aload_n hx hb dX8_set_0 rfl (lv_at hl 0 rfl) ?_
  refine lv_iload_n hx hb dX8_set_1 rfl (lv_at hl 1 rfl) ?_
  obtain ⟨v1, h2, hm⟩ := bind_e hm
  refine sX8_134 C h2 hw hS hl.1 (Nat.le_of_ble_eq_true rfl) (Nat.le_trans (Nat.le_of_ble_eq_true rfl) hRf) (Nat.le_trans (Nat.le_of_ble_eq_true rfl) hRl) hcs dX8_set_2 (fun H locs hw hS => ?_)
  refine x_astoreq (lv' := [(4, va_rf v1), (0, .ref β), (1, .int a1), (2, .int a2), (3, .int a3)]) hx hb dX8_set_5 hl (by decide) rfl (fun ls hl => ?_)
  refine x_aloadq hx hb dX8_set_7 (lv_at hl 0 rfl) ?_
  rcases v1 with _ | p3
  · replace hm := oc_n hm
    refine lv_ifnonnullN hx hb dX8_set_9 ?_
    refine lv_bipush (v := (-2)) hx hb dX8_set_12 (by decide) ?_
    obtain ⟨rfl, rfl⟩ := inj2 hm
    exact xret_i C hw hS dX8_set_14
  · replace hm := oc_s hm
    refine lv_ifnonnull (tgt := 15) hx hb dX8_set_9 (by decide) ?_
    refine lv_bipush (v := (-2)) hx hb dX8_set_15 (by decide) ?_
    refine lv_istore (lv' := [(5, .int (-2)), (4, .ref p3), (0, .ref β), (1, .int a1), (2, .int a2), (3, .int a3)]) hx hb dX8_set_17 hl (by decide) rfl (fun ls hl => ?_)
    refine lv_iload_n hx hb dX8_set_19 rfl (lv_at hl 4 rfl) ?_
    refine lv_if_ne (tgt := 49) hx hb dX8_set_20 (by decide) (fun cc => ?_) (fun cc => ?_)
    · replace hm := ite_n cc hm
      refine lv_iload_n hx hb dX8_set_49 rfl (lv_at hl 4 rfl) ?_
      refine lv_iconst (v := 1) hx hb dX8_set_50 (by decide) ?_
      refine lv_icmp_ne (tgt := 80) hx hb dX8_set_51 (by decide) (fun cc => ?_) (fun cc => ?_)
      · replace hm := ite_n cc hm
        refine lv_iload_n hx hb dX8_set_80 rfl (lv_at hl 4 rfl) ?_
        refine lv_iconst (v := 2) hx hb dX8_set_81 (by decide) ?_
        refine lv_icmp_ne (tgt := 108) hx hb dX8_set_82 (by decide) (fun cc => ?_) (fun cc => ?_)
        · replace hm := ite_n cc hm
          refine lv_iload hx hb dX8_set_108 (lv_at hl 0 rfl) ?_
          obtain ⟨rfl, rfl⟩ := inj2 hm
          exact xret_i C hw hS dX8_set_110
        · replace hm := ite_p cc hm
          refine lv_iload_n hx hb dX8_set_85 rfl (lv_at hl 5 rfl) ?_
          refine lv_iconst (v := 0) hx hb dX8_set_86 (by decide) ?_
          refine lv_bipush (v := 60) hx hb dX8_set_87 (by decide) ?_
          obtain ⟨v4, h5, hm⟩ := bind_e hm
          refine sX8_138 C h5 hw hS hl.1 (Nat.le_of_ble_eq_true rfl) (Nat.le_trans (Nat.le_of_ble_eq_true rfl) hRf) (Nat.le_trans (Nat.le_of_ble_eq_true rfl) hRl) hcs dX8_set_89 (fun H locs hw hS => ?_)
          refine x_ifeqB hx hb dX8_set_92 (tgt := 108) (by decide) (fun cc => ?_) (fun cc => ?_)
          · replace hm := ite_n cc hm
            refine lv_iload hx hb dX8_set_108 (lv_at hl 0 rfl) ?_
            obtain ⟨rfl, rfl⟩ := inj2 hm
            exact xret_i C hw hS dX8_set_110
          · replace hm := ite_p cc hm
            refine lv_aload hx hb dX8_set_95 (lv_at hl 1 rfl) ?_
            obtain ⟨v6, h7, hm⟩ := bind_e hm
            refine gdX8_147 C h7 hw dX8_set_97 ?_
            refine lv_istore (lv' := [(5, .int v6), (4, .ref p3), (0, .ref β), (1, .int a1), (2, .int a2), (3, .int a3)]) hx hb dX8_set_100 hl (by decide) rfl (fun ls hl => ?_)
            refine lv_aload hx hb dX8_set_102 (lv_at hl 1 rfl) ?_
            refine lv_iload_n hx hb dX8_set_104 rfl (lv_at hl 5 rfl) ?_
            obtain ⟨x8, h9, hm⟩ := bind_e hm
            refine pdX8_147 C h9 hw hS dX8_set_105 (fun H locs hw hS => ?_)
            refine lv_iload hx hb dX8_set_108 (lv_at hl 0 rfl) ?_
            obtain ⟨rfl, rfl⟩ := inj2 hm
            exact xret_i C hw hS dX8_set_110
      · replace hm := ite_p cc hm
        refine lv_iload_n hx hb dX8_set_54 rfl (lv_at hl 5 rfl) ?_
        refine lv_iconst (v := 2) hx hb dX8_set_55 (by decide) ?_
        refine lv_bipush (v := 12) hx hb dX8_set_56 (by decide) ?_
        obtain ⟨v10, h11, hm⟩ := bind_e hm
        refine sX8_138 C h11 hw hS hl.1 (Nat.le_of_ble_eq_true rfl) (Nat.le_trans (Nat.le_of_ble_eq_true rfl) hRf) (Nat.le_trans (Nat.le_of_ble_eq_true rfl) hRl) hcs dX8_set_58 (fun H locs hw hS => ?_)
        refine x_ifeqB hx hb dX8_set_61 (tgt := 80) (by decide) (fun cc => ?_) (fun cc => ?_)
        · replace hm := ite_n cc hm
          refine lv_iload_n hx hb dX8_set_80 rfl (lv_at hl 4 rfl) ?_
          refine lv_iconst (v := 2) hx hb dX8_set_81 (by decide) ?_
          refine lv_icmp_ne (tgt := 108) hx hb dX8_set_82 (by decide) (fun cc => ?_) (fun cc => ?_)
          · replace hm := ite_n cc hm
            refine lv_iload hx hb dX8_set_108 (lv_at hl 0 rfl) ?_
            obtain ⟨rfl, rfl⟩ := inj2 hm
            exact xret_i C hw hS dX8_set_110
          · replace hm := ite_p cc hm
            refine lv_iload_n hx hb dX8_set_85 rfl (lv_at hl 5 rfl) ?_
            refine lv_iconst (v := 0) hx hb dX8_set_86 (by decide) ?_
            refine lv_bipush (v := 60) hx hb dX8_set_87 (by decide) ?_
            obtain ⟨v12, h13, hm⟩ := bind_e hm
            refine sX8_138 C h13 hw hS hl.1 (Nat.le_of_ble_eq_true rfl) (Nat.le_trans (Nat.le_of_ble_eq_true rfl) hRf) (Nat.le_trans (Nat.le_of_ble_eq_true rfl) hRl) hcs dX8_set_89 (fun H locs hw hS => ?_)
            refine x_ifeqB hx hb dX8_set_92 (tgt := 108) (by decide) (fun cc => ?_) (fun cc => ?_)
            · replace hm := ite_n cc hm
              refine lv_iload hx hb dX8_set_108 (lv_at hl 0 rfl) ?_
              obtain ⟨rfl, rfl⟩ := inj2 hm
              exact xret_i C hw hS dX8_set_110
            · replace hm := ite_p cc hm
              refine lv_aload hx hb dX8_set_95 (lv_at hl 1 rfl) ?_
              obtain ⟨v14, h15, hm⟩ := bind_e hm
              refine gdX8_147 C h15 hw dX8_set_97 ?_
              refine lv_istore (lv' := [(5, .int v14), (4, .ref p3), (0, .ref β), (1, .int a1), (2, .int a2), (3, .int a3)]) hx hb dX8_set_100 hl (by decide) rfl (fun ls hl => ?_)
              refine lv_aload hx hb dX8_set_102 (lv_at hl 1 rfl) ?_
              refine lv_iload_n hx hb dX8_set_104 rfl (lv_at hl 5 rfl) ?_
              obtain ⟨x16, h17, hm⟩ := bind_e hm
              refine pdX8_147 C h17 hw hS dX8_set_105 (fun H locs hw hS => ?_)
              refine lv_iload hx hb dX8_set_108 (lv_at hl 0 rfl) ?_
              obtain ⟨rfl, rfl⟩ := inj2 hm
              exact xret_i C hw hS dX8_set_110
        · replace hm := ite_p cc hm
          refine lv_aload hx hb dX8_set_64 (lv_at hl 1 rfl) ?_
          obtain ⟨v18, h19, hm⟩ := bind_e hm
          refine gdX8_144 C h19 hw dX8_set_66 ?_
          refine lv_istore (lv' := [(5, .int v18), (4, .ref p3), (0, .ref β), (1, .int a1), (2, .int a2), (3, .int a3)]) hx hb dX8_set_69 hl (by decide) rfl (fun ls hl => ?_)
          refine lv_aload hx hb dX8_set_71 (lv_at hl 1 rfl) ?_
          refine lv_iload_n hx hb dX8_set_73 rfl (lv_at hl 5 rfl) ?_
          obtain ⟨x20, h21, hm⟩ := bind_e hm
          refine pdX8_144 C h21 hw hS dX8_set_74 (fun H locs hw hS => ?_)
          refine lv_goto (tgt := 108) hx hb dX8_set_77 (by decide) ?_
          refine lv_iload hx hb dX8_set_108 (lv_at hl 0 rfl) ?_
          obtain ⟨rfl, rfl⟩ := inj2 hm
          exact xret_i C hw hS dX8_set_110
    · replace hm := ite_p cc hm
      refine lv_iload_n hx hb dX8_set_23 rfl (lv_at hl 5 rfl) ?_
      refine lv_iconst (v := 0) hx hb dX8_set_24 (by decide) ?_
      refine lv_bipush (v := 99) hx hb dX8_set_25 (by decide) ?_
      obtain ⟨v22, h23, hm⟩ := bind_e hm
      refine sX8_138 C h23 hw hS hl.1 (Nat.le_of_ble_eq_true rfl) (Nat.le_trans (Nat.le_of_ble_eq_true rfl) hRf) (Nat.le_trans (Nat.le_of_ble_eq_true rfl) hRl) hcs dX8_set_27 (fun H locs hw hS => ?_)
      refine x_ifeqB hx hb dX8_set_30 (tgt := 49) (by decide) (fun cc => ?_) (fun cc => ?_)
      · replace hm := ite_n cc hm
        refine lv_iload_n hx hb dX8_set_49 rfl (lv_at hl 4 rfl) ?_
        refine lv_iconst (v := 1) hx hb dX8_set_50 (by decide) ?_
        refine lv_icmp_ne (tgt := 80) hx hb dX8_set_51 (by decide) (fun cc => ?_) (fun cc => ?_)
        · replace hm := ite_n cc hm
          refine lv_iload_n hx hb dX8_set_80 rfl (lv_at hl 4 rfl) ?_
          refine lv_iconst (v := 2) hx hb dX8_set_81 (by decide) ?_
          refine lv_icmp_ne (tgt := 108) hx hb dX8_set_82 (by decide) (fun cc => ?_) (fun cc => ?_)
          · replace hm := ite_n cc hm
            refine lv_iload hx hb dX8_set_108 (lv_at hl 0 rfl) ?_
            obtain ⟨rfl, rfl⟩ := inj2 hm
            exact xret_i C hw hS dX8_set_110
          · replace hm := ite_p cc hm
            refine lv_iload_n hx hb dX8_set_85 rfl (lv_at hl 5 rfl) ?_
            refine lv_iconst (v := 0) hx hb dX8_set_86 (by decide) ?_
            refine lv_bipush (v := 60) hx hb dX8_set_87 (by decide) ?_
            obtain ⟨v24, h25, hm⟩ := bind_e hm
            refine sX8_138 C h25 hw hS hl.1 (Nat.le_of_ble_eq_true rfl) (Nat.le_trans (Nat.le_of_ble_eq_true rfl) hRf) (Nat.le_trans (Nat.le_of_ble_eq_true rfl) hRl) hcs dX8_set_89 (fun H locs hw hS => ?_)
            refine x_ifeqB hx hb dX8_set_92 (tgt := 108) (by decide) (fun cc => ?_) (fun cc => ?_)
            · replace hm := ite_n cc hm
              refine lv_iload hx hb dX8_set_108 (lv_at hl 0 rfl) ?_
              obtain ⟨rfl, rfl⟩ := inj2 hm
              exact xret_i C hw hS dX8_set_110
            · replace hm := ite_p cc hm
              refine lv_aload hx hb dX8_set_95 (lv_at hl 1 rfl) ?_
              obtain ⟨v26, h27, hm⟩ := bind_e hm
              refine gdX8_147 C h27 hw dX8_set_97 ?_
              refine lv_istore (lv' := [(5, .int v26), (4, .ref p3), (0, .ref β), (1, .int a1), (2, .int a2), (3, .int a3)]) hx hb dX8_set_100 hl (by decide) rfl (fun ls hl => ?_)
              refine lv_aload hx hb dX8_set_102 (lv_at hl 1 rfl) ?_
              refine lv_iload_n hx hb dX8_set_104 rfl (lv_at hl 5 rfl) ?_
              obtain ⟨x28, h29, hm⟩ := bind_e hm
              refine pdX8_147 C h29 hw hS dX8_set_105 (fun H locs hw hS => ?_)
              refine lv_iload hx hb dX8_set_108 (lv_at hl 0 rfl) ?_
              obtain ⟨rfl, rfl⟩ := inj2 hm
              exact xret_i C hw hS dX8_set_110
        · replace hm := ite_p cc hm
          refine lv_iload_n hx hb dX8_set_54 rfl (lv_at hl 5 rfl) ?_
          refine lv_iconst (v := 2) hx hb dX8_set_55 (by decide) ?_
          refine lv_bipush (v := 12) hx hb dX8_set_56 (by decide) ?_
          obtain ⟨v30, h31, hm⟩ := bind_e hm
          refine sX8_138 C h31 hw hS hl.1 (Nat.le_of_ble_eq_true rfl) (Nat.le_trans (Nat.le_of_ble_eq_true rfl) hRf) (Nat.le_trans (Nat.le_of_ble_eq_true rfl) hRl) hcs dX8_set_58 (fun H locs hw hS => ?_)
          refine x_ifeqB hx hb dX8_set_61 (tgt := 80) (by decide) (fun cc => ?_) (fun cc => ?_)
          · replace hm := ite_n cc hm
            refine lv_iload_n hx hb dX8_set_80 rfl (lv_at hl 4 rfl) ?_
            refine lv_iconst (v := 2) hx hb dX8_set_81 (by decide) ?_
            refine lv_icmp_ne (tgt := 108) hx hb dX8_set_82 (by decide) (fun cc => ?_) (fun cc => ?_)
            · replace hm := ite_n cc hm
              refine lv_iload hx hb dX8_set_108 (lv_at hl 0 rfl) ?_
              obtain ⟨rfl, rfl⟩ := inj2 hm
              exact xret_i C hw hS dX8_set_110
            · replace hm := ite_p cc hm
              refine lv_iload_n hx hb dX8_set_85 rfl (lv_at hl 5 rfl) ?_
              refine lv_iconst (v := 0) hx hb dX8_set_86 (by decide) ?_
              refine lv_bipush (v := 60) hx hb dX8_set_87 (by decide) ?_
              obtain ⟨v32, h33, hm⟩ := bind_e hm
              refine sX8_138 C h33 hw hS hl.1 (Nat.le_of_ble_eq_true rfl) (Nat.le_trans (Nat.le_of_ble_eq_true rfl) hRf) (Nat.le_trans (Nat.le_of_ble_eq_true rfl) hRl) hcs dX8_set_89 (fun H locs hw hS => ?_)
              refine x_ifeqB hx hb dX8_set_92 (tgt := 108) (by decide) (fun cc => ?_) (fun cc => ?_)
              · replace hm := ite_n cc hm
                refine lv_iload hx hb dX8_set_108 (lv_at hl 0 rfl) ?_
                obtain ⟨rfl, rfl⟩ := inj2 hm
                exact xret_i C hw hS dX8_set_110
              · replace hm := ite_p cc hm
                refine lv_aload hx hb dX8_set_95 (lv_at hl 1 rfl) ?_
                obtain ⟨v34, h35, hm⟩ := bind_e hm
                refine gdX8_147 C h35 hw dX8_set_97 ?_
                refine lv_istore (lv' := [(5, .int v34), (4, .ref p3), (0, .ref β), (1, .int a1), (2, .int a2), (3, .int a3)]) hx hb dX8_set_100 hl (by decide) rfl (fun ls hl => ?_)
                refine lv_aload hx hb dX8_set_102 (lv_at hl 1 rfl) ?_
                refine lv_iload_n hx hb dX8_set_104 rfl (lv_at hl 5 rfl) ?_
                obtain ⟨x36, h37, hm⟩ := bind_e hm
                refine pdX8_147 C h37 hw hS dX8_set_105 (fun H locs hw hS => ?_)
                refine lv_iload hx hb dX8_set_108 (lv_at hl 0 rfl) ?_
                obtain ⟨rfl, rfl⟩ := inj2 hm
                exact xret_i C hw hS dX8_set_110
          · replace hm := ite_p cc hm
            refine lv_aload hx hb dX8_set_64 (lv_at hl 1 rfl) ?_
            obtain ⟨v38, h39, hm⟩ := bind_e hm
            refine gdX8_144 C h39 hw dX8_set_66 ?_
            refine lv_istore (lv' := [(5, .int v38), (4, .ref p3), (0, .ref β), (1, .int a1), (2, .int a2), (3, .int a3)]) hx hb dX8_set_69 hl (by decide) rfl (fun ls hl => ?_)
            refine lv_aload hx hb dX8_set_71 (lv_at hl 1 rfl) ?_
            refine lv_iload_n hx hb dX8_set_73 rfl (lv_at hl 5 rfl) ?_
            obtain ⟨x40, h41, hm⟩ := bind_e hm
            refine pdX8_144 C h41 hw hS dX8_set_74 (fun H locs hw hS => ?_)
            refine lv_goto (tgt := 108) hx hb dX8_set_77 (by decide) ?_
            refine lv_iload hx hb dX8_set_108 (lv_at hl 0 rfl) ?_
            obtain ⟨rfl, rfl⟩ := inj2 hm
            exact xret_i C hw hS dX8_set_110
      · replace hm := ite_p cc hm
        refine lv_aload hx hb dX8_set_33 (lv_at hl 1 rfl) ?_
        obtain ⟨v42, h43, hm⟩ := bind_e hm
        refine gdX8_141 C h43 hw dX8_set_35 ?_
        refine lv_istore (lv' := [(5, .int v42), (4, .ref p3), (0, .ref β), (1, .int a1), (2, .int a2), (3, .int a3)]) hx hb dX8_set_38 hl (by decide) rfl (fun ls hl => ?_)
        refine lv_aload hx hb dX8_set_40 (lv_at hl 1 rfl) ?_
        refine lv_iload_n hx hb dX8_set_42 rfl (lv_at hl 5 rfl) ?_
        obtain ⟨x44, h45, hm⟩ := bind_e hm
        refine pdX8_141 C h45 hw hS dX8_set_43 (fun H locs hw hS => ?_)
        refine lv_goto (tgt := 108) hx hb dX8_set_46 (by decide) ?_
        refine lv_iload hx hb dX8_set_108 (lv_at hl 0 rfl) ?_
        obtain ⟨rfl, rfl⟩ := inj2 hm
        exact xret_i C hw hS dX8_set_110
theorem dX8_isGround_0 : decode cX8_isGround 0 = .ok (.iload_n 0, 1) := by decide +kernel
theorem dX8_isGround_1 : decode cX8_isGround 1 = .ok (.iconst 0, 1) := by decide +kernel
theorem dX8_isGround_2 : decode cX8_isGround 2 = .ok (.iconst 3, 1) := by decide +kernel
theorem dX8_isGround_3 : decode cX8_isGround 3 = .ok (.invokestatic 138, 3) := by decide +kernel
theorem dX8_isGround_6 : decode cX8_isGround 6 = .ok (.ireturn, 1) := by decide +kernel
def fX8_isGround (a1 : Int32) : Option (Bool) := Option.bind (fX8_isWithin a1 0 3) fun v1 => some v1
abbrev rmX8_isGround : Room := { frames := 1, cells := 0, slots := 0, locals := 22 }
set_option maxHeartbeats 4000000 in
set_option maxRecDepth 100000 in
theorem kX8_isGround {l : Launch} {G : xG} {β : Nat} {D : Nat → Prop} {x : XS} {a1 : Int32} {r : Bool} (hm : fX8_isGround a1 = some r) : Met l yX8_isGround (.code yX8_isGround cX8_isGround 1 (some .boolean) :: GT) rmX8_isGround (PcW [.int a1] (CW β D G x) (KK G)) (QcW D (some (.int (bI r))) (CW β D G x)) 0 0 D := by
  unfold fX8_isGround at hm
  refine xpro (own := RX8) (by decide +kernel) rfl (Nat.le_of_ble_eq_true rfl) ?_
  intro p e s m args below meth c C hw ls hl
  have hx := C.1
  have hb := C.2.1
  have ho := C.2.2.2.1
  have hts := C.2.2.2.2.1
  have hf : Fz D G s.heap := hw.2.2.2.2
  have hS : va_S D s.heap s.heap [] := va_S.rf
  have hl : lv_has ls 1 [(0, .int a1)] := hl
  have hRf : 1 ≤ rmX8_isGround.frames := Nat.le_refl _
  have hRl : 22 ≤ rmX8_isGround.locals := Nat.le_refl _
  have hcs : 0 ≤ rmX8_isGround.cells ∧ 0 ≤ rmX8_isGround.slots := ⟨Nat.le_refl _, Nat.le_refl _⟩
  refine lv_iload_n hx hb dX8_isGround_0 rfl (lv_at hl 0 rfl) ?_
  refine lv_iconst (v := 0) hx hb dX8_isGround_1 (by decide) ?_
  refine lv_iconst (v := 3) hx hb dX8_isGround_2 (by decide) ?_
  obtain ⟨v1, h2, hm⟩ := bind_e hm
  refine sX8_138 C h2 hw hS hl.1 (Nat.le_of_ble_eq_true rfl) (Nat.le_trans (Nat.le_of_ble_eq_true rfl) hRf) (Nat.le_trans (Nat.le_of_ble_eq_true rfl) hRl) hcs dX8_isGround_3 (fun H locs hw hS => ?_)
  obtain rfl := Option.some.inj hm
  exact xret_z C (bI_nar _) hw hS dX8_isGround_6
theorem dX8_pound_0 : decode cX8_pound 0 = .ok (.bipush (-2), 2) := by decide +kernel
theorem dX8_pound_2 : decode cX8_pound 2 = .ok (.istore_n 3, 1) := by decide +kernel
theorem dX8_pound_3 : decode cX8_pound 3 = .ok (.iload_n 1, 1) := by decide +kernel
theorem dX8_pound_4 : decode cX8_pound 4 = .ok (.invokestatic 150, 3) := by decide +kernel
theorem dX8_pound_7 : decode cX8_pound 7 = .ok (.ifCond .eq 30, 3) := by decide +kernel
theorem dX8_pound_10 : decode cX8_pound 10 = .ok (.iload_n 2, 1) := by decide +kernel
theorem dX8_pound_11 : decode cX8_pound 11 = .ok (.iconst 0, 1) := by decide +kernel
theorem dX8_pound_12 : decode cX8_pound 12 = .ok (.bipush 9, 2) := by decide +kernel
theorem dX8_pound_14 : decode cX8_pound 14 = .ok (.invokestatic 138, 3) := by decide +kernel
theorem dX8_pound_17 : decode cX8_pound 17 = .ok (.ifCond .eq 20, 3) := by decide +kernel
theorem dX8_pound_20 : decode cX8_pound 20 = .ok (.aload_n 0, 1) := by decide +kernel
theorem dX8_pound_21 : decode cX8_pound 21 = .ok (.getfield 19, 3) := by decide +kernel
theorem dX8_pound_24 : decode cX8_pound 24 = .ok (.iload_n 1, 1) := by decide +kernel
theorem dX8_pound_25 : decode cX8_pound 25 = .ok (.iaload, 1) := by decide +kernel
theorem dX8_pound_26 : decode cX8_pound 26 = .ok (.istore_n 3, 1) := by decide +kernel
theorem dX8_pound_27 : decode cX8_pound 27 = .ok (.aload_n 0, 1) := by decide +kernel
theorem dX8_pound_28 : decode cX8_pound 28 = .ok (.getfield 19, 3) := by decide +kernel
theorem dX8_pound_31 : decode cX8_pound 31 = .ok (.iload_n 1, 1) := by decide +kernel
theorem dX8_pound_32 : decode cX8_pound 32 = .ok (.iload_n 2, 1) := by decide +kernel
theorem dX8_pound_33 : decode cX8_pound 33 = .ok (.iastore, 1) := by decide +kernel
theorem dX8_pound_34 : decode cX8_pound 34 = .ok (.goto 27, 3) := by decide +kernel
theorem dX8_pound_37 : decode cX8_pound 37 = .ok (.iload_n 1, 1) := by decide +kernel
theorem dX8_pound_38 : decode cX8_pound 38 = .ok (.iconst 4, 1) := by decide +kernel
theorem dX8_pound_39 : decode cX8_pound 39 = .ok (.if_icmp .ne 22, 3) := by decide +kernel
theorem dX8_pound_42 : decode cX8_pound 42 = .ok (.iload_n 2, 1) := by decide +kernel
theorem dX8_pound_43 : decode cX8_pound 43 = .ok (.iconst 0, 1) := by decide +kernel
theorem dX8_pound_44 : decode cX8_pound 44 = .ok (.iconst 3, 1) := by decide +kernel
theorem dX8_pound_45 : decode cX8_pound 45 = .ok (.invokestatic 138, 3) := by decide +kernel
theorem dX8_pound_48 : decode cX8_pound 48 = .ok (.ifCond .eq 13, 3) := by decide +kernel
theorem dX8_pound_51 : decode cX8_pound 51 = .ok (.aload_n 0, 1) := by decide +kernel
theorem dX8_pound_52 : decode cX8_pound 52 = .ok (.getfield 23, 3) := by decide +kernel
theorem dX8_pound_55 : decode cX8_pound 55 = .ok (.istore_n 3, 1) := by decide +kernel
theorem dX8_pound_56 : decode cX8_pound 56 = .ok (.aload_n 0, 1) := by decide +kernel
theorem dX8_pound_57 : decode cX8_pound 57 = .ok (.iload_n 2, 1) := by decide +kernel
theorem dX8_pound_58 : decode cX8_pound 58 = .ok (.putfield 23, 3) := by decide +kernel
theorem dX8_pound_61 : decode cX8_pound 61 = .ok (.iload_n 3, 1) := by decide +kernel
theorem dX8_pound_62 : decode cX8_pound 62 = .ok (.ireturn, 1) := by decide +kernel
theorem sX8_150 {p : Program} {l : Launch} {e : Env} {R : Room} {s : State} {m : MethodId} {args : Array Value} {below : List Frame} {meth : Method} {c : Code} {H : Heap} {locs : List Loc} {cells slots : Nat} {Q : State → Prop} {cc : ByteArray} {pc nL : Nat} {ls : Array Slot} {rest : List Value} {ret : Option FieldType}  {G : xG} {β : Nat} {D : Nat → Prop} {x : XS} {a1 : Int32} {r : Bool} (C : Cx p s m args meth c RX8 cc nL ret (KK G)) (h : fX8_isGround a1 = some r) (hw : CW β D G x H) (hS : va_S D s.heap H locs) (hsz : ls.size = nL) (hW : (rest.map fun v => v.category).sum ≤ 8) (hR : 2 ≤ R.frames) (hR2 : 42 ≤ R.locals) (hcs : cells ≤ R.cells ∧ slots ≤ R.slots) (hd : decode cc pc = .ok (.invokestatic 150, 3)) (kk : ∀ (H1 : Heap) (locs1 : List Loc), CW β D G x H1 → va_S D s.heap H1 locs1 → W p l e R s m args below meth c H1 locs1 cells slots Q (F0 m (pc + 3) ls (.int (bI r) :: rest))) : W p l e R s m args below meth c H locs cells slots Q (F0 m pc ls (.int a1 :: rest)) := by
  exact xcallS C (As := [.int a1]) (rest := rest) (nA := 1) (kX8_isGround h) (tg 420 (by decide +kernel) rfl) (tg 421 (by decide +kernel) rfl) (tg 1 (by decide +kernel) rfl) (tg 422 (by decide +kernel) rfl) ⟨by decide +kernel, by decide +kernel, by decide +kernel⟩ rfl rfl ⟨hR, hR2⟩ hw hS (fun _ q => q) rfl rfl hsz hW hd hcs (fun H1 locs1 hw hz hk hS => kk H1 locs1 hw hS)
theorem gX8_23 {p : Program} {l : Launch} {e : Env} {R : Room} {s : State} {m : MethodId} {args : Array Value} {below : List Frame} {meth : Method} {c : Code} {H : Heap} {locs : List Loc} {cells slots : Nat} {Q : State → Prop} {cc : ByteArray} {pc nL : Nat} {ls : Array Slot} {rest : List Value} {ret : Option FieldType} {G : xG} {β : Nat} {D : Nat → Prop} {x : XS} (C : Cx p s m args meth c RX8 cc nL ret (KK G)) (hw : CW β D G x H) (hd : decode cc pc = .ok (.getfield 23, 3)) (kk : W p l e R s m args below meth c H locs cells slots Q (F0 m (pc + 3) ls (.int (x.1 0 3) :: rest))) : W p l e R s m args below meth c H locs cells slots Q (F0 m pc ls (.ref β :: rest)) :=
  va_get C.1 C.2.1 C.2.2.2.2.1 iwX8 C.2.2.2.1 C.K.1 (xP1 (hw.2.2.1 0 (by decide))) 0 rfl rfl 3 (by decide) (C.2.2.2.2.1 (.fieldLink RX8 23 RX8 "spread" "I") (tg 350 (by decide +kernel) rfl)) (fun _ h9 => h9) rfl hd kk
theorem pX8_23 {p : Program} {l : Launch} {e : Env} {R : Room} {s : State} {m : MethodId} {args : Array Value} {below : List Frame} {meth : Method} {c : Code} {H : Heap} {locs : List Loc} {cells slots : Nat} {Q : State → Prop} {cc : ByteArray} {pc nL : Nat} {ls : Array Slot} {rest : List Value} {ret : Option FieldType} {G : xG} {β : Nat} {D : Nat → Prop} {x : XS} {v : Int32} (C : Cx p s m args meth c RX8 cc nL ret (KK G)) (hw : CW β D G x H) (hS : va_S D s.heap H locs) (hd : decode cc pc = .ok (.putfield 23, 3)) (kk : ∀ (H1 : Heap) (locs1 : List Loc), CW β D G (xsS x 0 3 v) H1 → va_S D s.heap H1 locs1 → W p l e R s m args below meth c H1 locs1 cells slots Q (F0 m (pc + 3) ls (rest))) : W p l e R s m args below meth c H locs cells slots Q (F0 m pc ls (.int v :: .ref β :: rest)) :=
  x_put C.1 C.2.1 C.2.2.2.2.1 iwX8 tyX8 tyX8_ok nmX8 C.2.2.2.1 C.K.1 hS (hw.2.2.1 0 (by decide)) (hw.2.1 0 (by decide)) rfl 3 (by decide) (C.2.2.2.2.1 (.fieldLink RX8 23 RX8 "spread" "I") (tg 350 (by decide +kernel) rfl)) (fun _ h9 => h9) rfl (ty := .int) (by decide +kernel) rfl rfl (Nat.le_of_ble_eq_true rfl) hd (fun H1 locs1 hat ho hS => kk H1 locs1 (hw.setS 0 3 v hat ho) hS)
theorem gX8_19 {p : Program} {l : Launch} {e : Env} {R : Room} {s : State} {m : MethodId} {args : Array Value} {below : List Frame} {meth : Method} {c : Code} {H : Heap} {locs : List Loc} {cells slots : Nat} {Q : State → Prop} {cc : ByteArray} {pc nL : Nat} {ls : Array Slot} {rest : List Value} {ret : Option FieldType} {G : xG} {β : Nat} {D : Nat → Prop} {x : XS} (C : Cx p s m args meth c RX8 cc nL ret (KK G)) (hw : CW β D G x H) (hd : decode cc pc = .ok (.getfield 19, 3)) (kk : W p l e R s m args below meth c H locs cells slots Q (F0 m (pc + 3) ls (.ref (β + 2) :: rest))) : W p l e R s m args below meth c H locs cells slots Q (F0 m pc ls (.ref β :: rest)) :=
  va_get C.1 C.2.1 C.2.2.2.2.1 iwX8 C.2.2.2.1 C.K.1 (xP1 (hw.2.2.1 0 (by decide))) 0 rfl rfl 2 (by decide) (C.2.2.2.2.1 (.fieldLink RX8 19 RX8 "pounds" "[I") (tg 349 (by decide +kernel) rfl)) (fun _ h9 => h9) rfl hd kk
theorem alX_2 {p : Program} {l : Launch} {e : Env} {R : Room} {s : State} {m : MethodId} {args : Array Value} {below : List Frame} {meth : Method} {c : Code} {H : Heap} {locs : List Loc} {cells slots : Nat} {Q : State → Prop} {cc : ByteArray} {pc nL : Nat} {ls : Array Slot} {rest : List Value} {ret : Option FieldType} {G : xG} {β : Nat} {D : Nat → Prop} {x : XS} {own : String} {i : Int32} (C : Cx p s m args meth c own cc nL ret (KK G)) (hw : CW β D G x H) (hin : ib i 4) (hd : decode cc pc = .ok (.iaload, 1)) (kk : W p l e R s m args below meth c H locs cells slots Q (F0 m (pc + 1) ls (.int (x.2.1 2 i.toNatClampNeg) :: rest))) : W p l e R s m args below meth c H locs cells slots Q (F0 m pc ls (.int i :: .ref (β + 2) :: rest)) :=
  va_iald C.1 C.2.1 C.K.1 (xP1 (hw.2.2.1 2 (by decide))) 0 0 rfl rfl hin hd kk
theorem asX_2 {p : Program} {l : Launch} {e : Env} {R : Room} {s : State} {m : MethodId} {args : Array Value} {below : List Frame} {meth : Method} {c : Code} {H : Heap} {locs : List Loc} {cells slots : Nat} {Q : State → Prop} {cc : ByteArray} {pc nL : Nat} {ls : Array Slot} {rest : List Value} {ret : Option FieldType} {G : xG} {β : Nat} {D : Nat → Prop} {x : XS} {own : String} {i : Int32} {v : Int32} (C : Cx p s m args meth c own cc nL ret (KK G)) (hw : CW β D G x H) (hS : va_S D s.heap H locs) (hin : ib i 4) (hd : decode cc pc = .ok (.iastore, 1)) (kk : ∀ (H1 : Heap) (locs1 : List Loc), CW β D G (xsA x 2 i.toNatClampNeg v) H1 → va_S D s.heap H1 locs1 → W p l e R s m args below meth c H1 locs1 cells slots Q (F0 m (pc + 1) ls (rest))) : W p l e R s m args below meth c H locs cells slots Q (F0 m pc ls (.int v :: .int i :: .ref (β + 2) :: rest)) :=
  x_iast C.1 C.2.1 C.K.1 hS 0 (hw.2.2.1 2 (by decide)) (hw.2.1 2 (by decide)) rfl hin hd (fun H1 locs1 hat ho hS => kk H1 locs1 (hw.setA 2 _ _ hat ho) hS)
def fX8_pound (x : XS) (a1 : Int32) (a2 : Int32) : Option (Int32 × XS) := Option.bind (fX8_isGround a1) fun v1 => if v1 = true then Option.bind (fX8_isWithin a2 0 9) fun v7 => if v7 = true then if ib a1 4 then lt (x.2.1 2 a1.toNatClampNeg) fun v14 => if ib a1 4 then lt (xsA x 2 a1.toNatClampNeg a2) fun x16 => some (v14, x16) else none else none else if a1 = 4 then Option.bind (fX8_isWithin a2 0 3) fun v9 => if v9 = true then lt (x.1 0 3) fun v11 => lt (xsS x 0 3 a2) fun x12 => some (v11, x12) else some ((-2), x) else some ((-2), x) else if a1 = 4 then Option.bind (fX8_isWithin a2 0 3) fun v3 => if v3 = true then lt (x.1 0 3) fun v5 => lt (xsS x 0 3 a2) fun x6 => some (v5, x6) else some ((-2), x) else some ((-2), x)
abbrev rmX8_pound : Room := { frames := 2, cells := 0, slots := 0, locals := 42 }
set_option maxHeartbeats 4000000 in
set_option maxRecDepth 100000 in
theorem kX8_pound {l : Launch} {G : xG} {β : Nat} {D : Nat → Prop} {x x' : XS} {a1 : Int32} {a2 : Int32} {r : Int32} (hm : fX8_pound x a1 a2 = some (r, x')) : Met l yX8_pound (.code yX8_pound cX8_pound 4 (some .int) :: GT) rmX8_pound (PcW [.ref β, .int a1, .int a2] (CW β D G x) (KK G)) (QcW D (some (.int r)) (CW β D G x')) 0 0 D := by
  unfold fX8_pound at hm
  refine xpro (own := RX8) (by decide +kernel) rfl (Nat.le_of_ble_eq_true rfl) ?_
  intro p e s m args below meth c C hw ls hl
  have hx := C.1
  have hb := C.2.1
  have ho := C.2.2.2.1
  have hts := C.2.2.2.2.1
  have hf : Fz D G s.heap := hw.2.2.2.2
  have hS : va_S D s.heap s.heap [] := va_S.rf
  have hl : lv_has ls 4 [(0, .ref β), (1, .int a1), (2, .int a2)] := hl
  have hRf : 2 ≤ rmX8_pound.frames := Nat.le_refl _
  have hRl : 42 ≤ rmX8_pound.locals := Nat.le_refl _
  have hcs : 0 ≤ rmX8_pound.cells ∧ 0 ≤ rmX8_pound.slots := ⟨Nat.le_refl _, Nat.le_refl _⟩
  refine lv_bipush (v := (-2)) hx hb dX8_pound_0 (by decide) ?_
  refine lv_istore_n (lv' := [(3, .int (-2)), (0, .ref β), (1, .int a1), (2, .int a2)]) hx hb dX8_pound_2 rfl hl (by decide) rfl (fun ls hl => ?_)
  refine lv_iload_n hx hb dX8_pound_3 rfl (lv_at hl 2 rfl) ?_
  obtain ⟨v1, h2, hm⟩ := bind_e hm
  refine sX8_150 C h2 hw hS hl.1 (Nat.le_of_ble_eq_true rfl) (Nat.le_trans (Nat.le_of_ble_eq_true rfl) hRf) (Nat.le_trans (Nat.le_of_ble_eq_true rfl) hRl) hcs dX8_pound_4 (fun H locs hw hS => ?_)
  refine x_ifeqB hx hb dX8_pound_7 (tgt := 37) (by decide) (fun cc => ?_) (fun cc => ?_)
  · replace hm := ite_n cc hm
    refine lv_iload_n hx hb dX8_pound_37 rfl (lv_at hl 2 rfl) ?_
    refine lv_iconst (v := 4) hx hb dX8_pound_38 (by decide) ?_
    refine lv_icmp_ne (tgt := 61) hx hb dX8_pound_39 (by decide) (fun cc => ?_) (fun cc => ?_)
    · replace hm := ite_n cc hm
      refine lv_iload_n hx hb dX8_pound_61 rfl (lv_at hl 0 rfl) ?_
      obtain ⟨rfl, rfl⟩ := inj2 hm
      exact xret_i C hw hS dX8_pound_62
    · replace hm := ite_p cc hm
      refine lv_iload_n hx hb dX8_pound_42 rfl (lv_at hl 3 rfl) ?_
      refine lv_iconst (v := 0) hx hb dX8_pound_43 (by decide) ?_
      refine lv_iconst (v := 3) hx hb dX8_pound_44 (by decide) ?_
      obtain ⟨v3, h4, hm⟩ := bind_e hm
      refine sX8_138 C h4 hw hS hl.1 (Nat.le_of_ble_eq_true rfl) (Nat.le_trans (Nat.le_of_ble_eq_true rfl) hRf) (Nat.le_trans (Nat.le_of_ble_eq_true rfl) hRl) hcs dX8_pound_45 (fun H locs hw hS => ?_)
      refine x_ifeqB hx hb dX8_pound_48 (tgt := 61) (by decide) (fun cc => ?_) (fun cc => ?_)
      · replace hm := ite_n cc hm
        refine lv_iload_n hx hb dX8_pound_61 rfl (lv_at hl 0 rfl) ?_
        obtain ⟨rfl, rfl⟩ := inj2 hm
        exact xret_i C hw hS dX8_pound_62
      · replace hm := ite_p cc hm
        refine lv_aload_n hx hb dX8_pound_51 rfl (lv_at hl 1 rfl) ?_
        refine gX8_23 C hw dX8_pound_52 ?_
        refine topI hm (fun v5 hm => ?_)
        refine lv_istore_n (lv' := [(3, .int v5), (0, .ref β), (1, .int a1), (2, .int a2)]) hx hb dX8_pound_55 rfl hl (by decide) rfl (fun ls hl => ?_)
        refine lv_aload_n hx hb dX8_pound_56 rfl (lv_at hl 1 rfl) ?_
        refine lv_iload_n hx hb dX8_pound_57 rfl (lv_at hl 3 rfl) ?_
        refine pX8_23 C hw hS dX8_pound_58 (fun H locs hw hS => ?_)
        obtain ⟨x6, ev, hm⟩ := lt_e hm
        rw [← ev] at hw
        clear ev
        refine lv_iload_n hx hb dX8_pound_61 rfl (lv_at hl 0 rfl) ?_
        obtain ⟨rfl, rfl⟩ := inj2 hm
        exact xret_i C hw hS dX8_pound_62
  · replace hm := ite_p cc hm
    refine lv_iload_n hx hb dX8_pound_10 rfl (lv_at hl 3 rfl) ?_
    refine lv_iconst (v := 0) hx hb dX8_pound_11 (by decide) ?_
    refine lv_bipush (v := 9) hx hb dX8_pound_12 (by decide) ?_
    obtain ⟨v7, h8, hm⟩ := bind_e hm
    refine sX8_138 C h8 hw hS hl.1 (Nat.le_of_ble_eq_true rfl) (Nat.le_trans (Nat.le_of_ble_eq_true rfl) hRf) (Nat.le_trans (Nat.le_of_ble_eq_true rfl) hRl) hcs dX8_pound_14 (fun H locs hw hS => ?_)
    refine x_ifeqB hx hb dX8_pound_17 (tgt := 37) (by decide) (fun cc => ?_) (fun cc => ?_)
    · replace hm := ite_n cc hm
      refine lv_iload_n hx hb dX8_pound_37 rfl (lv_at hl 2 rfl) ?_
      refine lv_iconst (v := 4) hx hb dX8_pound_38 (by decide) ?_
      refine lv_icmp_ne (tgt := 61) hx hb dX8_pound_39 (by decide) (fun cc => ?_) (fun cc => ?_)
      · replace hm := ite_n cc hm
        refine lv_iload_n hx hb dX8_pound_61 rfl (lv_at hl 0 rfl) ?_
        obtain ⟨rfl, rfl⟩ := inj2 hm
        exact xret_i C hw hS dX8_pound_62
      · replace hm := ite_p cc hm
        refine lv_iload_n hx hb dX8_pound_42 rfl (lv_at hl 3 rfl) ?_
        refine lv_iconst (v := 0) hx hb dX8_pound_43 (by decide) ?_
        refine lv_iconst (v := 3) hx hb dX8_pound_44 (by decide) ?_
        obtain ⟨v9, h10, hm⟩ := bind_e hm
        refine sX8_138 C h10 hw hS hl.1 (Nat.le_of_ble_eq_true rfl) (Nat.le_trans (Nat.le_of_ble_eq_true rfl) hRf) (Nat.le_trans (Nat.le_of_ble_eq_true rfl) hRl) hcs dX8_pound_45 (fun H locs hw hS => ?_)
        refine x_ifeqB hx hb dX8_pound_48 (tgt := 61) (by decide) (fun cc => ?_) (fun cc => ?_)
        · replace hm := ite_n cc hm
          refine lv_iload_n hx hb dX8_pound_61 rfl (lv_at hl 0 rfl) ?_
          obtain ⟨rfl, rfl⟩ := inj2 hm
          exact xret_i C hw hS dX8_pound_62
        · replace hm := ite_p cc hm
          refine lv_aload_n hx hb dX8_pound_51 rfl (lv_at hl 1 rfl) ?_
          refine gX8_23 C hw dX8_pound_52 ?_
          refine topI hm (fun v11 hm => ?_)
          refine lv_istore_n (lv' := [(3, .int v11), (0, .ref β), (1, .int a1), (2, .int a2)]) hx hb dX8_pound_55 rfl hl (by decide) rfl (fun ls hl => ?_)
          refine lv_aload_n hx hb dX8_pound_56 rfl (lv_at hl 1 rfl) ?_
          refine lv_iload_n hx hb dX8_pound_57 rfl (lv_at hl 3 rfl) ?_
          refine pX8_23 C hw hS dX8_pound_58 (fun H locs hw hS => ?_)
          obtain ⟨x12, ev, hm⟩ := lt_e hm
          rw [← ev] at hw
          clear ev
          refine lv_iload_n hx hb dX8_pound_61 rfl (lv_at hl 0 rfl) ?_
          obtain ⟨rfl, rfl⟩ := inj2 hm
          exact xret_i C hw hS dX8_pound_62
    · replace hm := ite_p cc hm
      refine lv_aload_n hx hb dX8_pound_20 rfl (lv_at hl 1 rfl) ?_
      refine gX8_19 C hw dX8_pound_21 ?_
      refine lv_iload_n hx hb dX8_pound_24 rfl (lv_at hl 2 rfl) ?_
      obtain ⟨h13, hm⟩ := chk_e hm
      refine alX_2 C hw h13 dX8_pound_25 ?_
      refine topI hm (fun v14 hm => ?_)
      refine lv_istore_n (lv' := [(3, .int v14), (0, .ref β), (1, .int a1), (2, .int a2)]) hx hb dX8_pound_26 rfl hl (by decide) rfl (fun ls hl => ?_)
      refine lv_aload_n hx hb dX8_pound_27 rfl (lv_at hl 1 rfl) ?_
      refine gX8_19 C hw dX8_pound_28 ?_
      refine lv_iload_n hx hb dX8_pound_31 rfl (lv_at hl 2 rfl) ?_
      refine lv_iload_n hx hb dX8_pound_32 rfl (lv_at hl 3 rfl) ?_
      obtain ⟨h15, hm⟩ := chk_e hm
      refine asX_2 C hw hS h15 dX8_pound_33 (fun H locs hw hS => ?_)
      obtain ⟨x16, ev, hm⟩ := lt_e hm
      rw [← ev] at hw
      clear ev
      refine lv_goto (tgt := 61) hx hb dX8_pound_34 (by decide) ?_
      refine lv_iload_n hx hb dX8_pound_61 rfl (lv_at hl 0 rfl) ?_
      obtain ⟨rfl, rfl⟩ := inj2 hm
      exact xret_i C hw hS dX8_pound_62
theorem dX8_formOf_0 : decode cX8_formOf 0 = .ok (.aload_n 0, 1) := by decide +kernel
theorem dX8_formOf_1 : decode cX8_formOf 1 = .ok (.iload_n 1, 1) := by decide +kernel
theorem dX8_formOf_2 : decode cX8_formOf 2 = .ok (.invokevirtual 134, 3) := by decide +kernel
theorem dX8_formOf_5 : decode cX8_formOf 5 = .ok (.astore 4, 2) := by decide +kernel
theorem dX8_formOf_7 : decode cX8_formOf 7 = .ok (.aload 4, 2) := by decide +kernel
theorem dX8_formOf_9 : decode cX8_formOf 9 = .ok (.ifnonnull 7, 3) := by decide +kernel
theorem dX8_formOf_12 : decode cX8_formOf 12 = .ok (.iconst 0, 1) := by decide +kernel
theorem dX8_formOf_13 : decode cX8_formOf 13 = .ok (.goto 10, 3) := by decide +kernel
theorem dX8_formOf_16 : decode cX8_formOf 16 = .ok (.aload 4, 2) := by decide +kernel
theorem dX8_formOf_18 : decode cX8_formOf 18 = .ok (.iload_n 2, 1) := by decide +kernel
theorem dX8_formOf_19 : decode cX8_formOf 19 = .ok (.iload_n 3, 1) := by decide +kernel
theorem dX8_formOf_20 : decode cX8_formOf 20 = .ok (.invokevirtual 363, 3) := by decide +kernel
theorem dX8_formOf_23 : decode cX8_formOf 23 = .ok (.ireturn, 1) := by decide +kernel
theorem sX8_363 {p : Program} {l : Launch} {e : Env} {R : Room} {s : State} {m : MethodId} {args : Array Value} {below : List Frame} {meth : Method} {c : Code} {H : Heap} {locs : List Loc} {cells slots : Nat} {Q : State → Prop} {cc : ByteArray} {pc nL : Nat} {ls : Array Slot} {rest : List Value} {ret : Option FieldType}  {G : xG} {β : Nat} {D : Nat → Prop} {x : XS} {a0 : Nat} {a1 : Int32} {a2 : Int32} {r : Int32} (C : Cx p s m args meth c RX8 cc nL ret (KK G)) (hk : dK x a0 1 = true) (h : fX1_formOn x a0 a1 a2 = some r) (hw : CW β D G x H) (hS : va_S D s.heap H locs) (hsz : ls.size = nL) (hW : (rest.map fun v => v.category).sum ≤ 8) (hR : 2 ≤ R.frames) (hR2 : 42 ≤ R.locals) (hcs : cells ≤ R.cells ∧ slots ≤ R.slots) (hd : decode cc pc = .ok (.invokevirtual 363, 3)) (kk : ∀ (H1 : Heap) (locs1 : List Loc), CW β D G x H1 → va_S D s.heap H1 locs1 → W p l e R s m args below meth c H1 locs1 cells slots Q (F0 m (pc + 3) ls (.int r :: rest))) : W p l e R s m args below meth c H locs cells slots Q (F0 m pc ls (.int a2 :: .int a1 :: .ref a0 :: rest)) := by
  obtain ⟨fs0, hfs0⟩ := dK_e hk
  exact xcallV C (As := [.int a1, .int a2]) (rest := rest) (nA := 2) (ci := 1) (kX1_formOn h) (tg 481 (by decide +kernel) rfl) (tg 482 (by decide +kernel) rfl) (tg 483 (by decide +kernel) rfl) (tg 15 (by decide +kernel) rfl) (tg 484 (by decide +kernel) rfl) ⟨rfl, by decide +kernel, by decide +kernel, by decide +kernel⟩ rfl rfl rfl ⟨hR, hR2⟩ ((hw.2.2.2.1 a0 _ hfs0).2.2.2) hw hS (fun _ q => q) rfl rfl hsz hW hd hcs (fun H1 locs1 hw hz hk hS => kk H1 locs1 hw hS)
def fX8_formOf (x : XS) (a1 : Int32) (a2 : Int32) (a3 : Int32) : Option (Int32) := Option.bind (fX8_horseAt x a1) fun v1 => oc v1 (some 0) (fun p3 => if dK x p3 1 = true then Option.bind (fX1_formOn x p3 a2 a3) fun v5 => some v5 else none)
abbrev rmX8_formOf : Room := { frames := 2, cells := 0, slots := 0, locals := 42 }
set_option maxHeartbeats 4000000 in
set_option maxRecDepth 100000 in
theorem kX8_formOf {l : Launch} {G : xG} {β : Nat} {D : Nat → Prop} {x : XS} {a1 : Int32} {a2 : Int32} {a3 : Int32} {r : Int32} (hm : fX8_formOf x a1 a2 a3 = some r) : Met l yX8_formOf (.code yX8_formOf cX8_formOf 5 (some .int) :: GT) rmX8_formOf (PcW [.ref β, .int a1, .int a2, .int a3] (CW β D G x) (KK G)) (QcW D (some (.int r)) (CW β D G x)) 0 0 D := by
  unfold fX8_formOf at hm
  refine xpro (own := RX8) (by decide +kernel) rfl (Nat.le_of_ble_eq_true rfl) ?_
  intro p e s m args below meth c C hw ls hl
  have hx := C.1
  have hb := C.2.1
  have ho := C.2.2.2.1
  have hts := C.2.2.2.2.1
  have hf : Fz D G s.heap := hw.2.2.2.2
  have hS : va_S D s.heap s.heap [] := va_S.rf
  have hl : lv_has ls 5 [(0, .ref β), (1, .int a1), (2, .int a2), (3, .int a3)] := hl
  have hRf : 2 ≤ rmX8_formOf.frames := Nat.le_refl _
  have hRl : 42 ≤ rmX8_formOf.locals := Nat.le_refl _
  have hcs : 0 ≤ rmX8_formOf.cells ∧ 0 ≤ rmX8_formOf.slots := ⟨Nat.le_refl _, Nat.le_refl _⟩
  refine lv_aload_n hx hb dX8_formOf_0 rfl (lv_at hl 0 rfl) ?_
  refine lv_iload_n hx hb dX8_formOf_1 rfl (lv_at hl 1 rfl) ?_
  obtain ⟨v1, h2, hm⟩ := bind_e hm
  refine sX8_134 C h2 hw hS hl.1 (Nat.le_of_ble_eq_true rfl) (Nat.le_trans (Nat.le_of_ble_eq_true rfl) hRf) (Nat.le_trans (Nat.le_of_ble_eq_true rfl) hRl) hcs dX8_formOf_2 (fun H locs hw hS => ?_)
  refine x_astoreq (lv' := [(4, va_rf v1), (0, .ref β), (1, .int a1), (2, .int a2), (3, .int a3)]) hx hb dX8_formOf_5 hl (by decide) rfl (fun ls hl => ?_)
  refine x_aloadq hx hb dX8_formOf_7 (lv_at hl 0 rfl) ?_
  rcases v1 with _ | p3
  · replace hm := oc_n hm
    refine lv_ifnonnullN hx hb dX8_formOf_9 ?_
    refine lv_iconst (v := 0) hx hb dX8_formOf_12 (by decide) ?_
    refine lv_goto (tgt := 23) hx hb dX8_formOf_13 (by decide) ?_
    obtain rfl := Option.some.inj hm
    exact xret_i C hw hS dX8_formOf_23
  · replace hm := oc_s hm
    refine lv_ifnonnull (tgt := 16) hx hb dX8_formOf_9 (by decide) ?_
    refine lv_aload hx hb dX8_formOf_16 (lv_at hl 0 rfl) ?_
    refine lv_iload_n hx hb dX8_formOf_18 rfl (lv_at hl 3 rfl) ?_
    refine lv_iload_n hx hb dX8_formOf_19 rfl (lv_at hl 4 rfl) ?_
    obtain ⟨h4, hm⟩ := chk_e hm
    obtain ⟨v5, h6, hm⟩ := bind_e hm
    refine sX8_363 C h4 h6 hw hS hl.1 (Nat.le_of_ble_eq_true rfl) (Nat.le_trans (Nat.le_of_ble_eq_true rfl) hRf) (Nat.le_trans (Nat.le_of_ble_eq_true rfl) hRl) hcs dX8_formOf_20 (fun H locs hw hS => ?_)
    obtain rfl := Option.some.inj hm
    exact xret_i C hw hS dX8_formOf_23
theorem dX8_isHorse_0 : decode cX8_isHorse 0 = .ok (.iload_n 1, 1) := by decide +kernel
theorem dX8_isHorse_1 : decode cX8_isHorse 1 = .ok (.iconst 0, 1) := by decide +kernel
theorem dX8_isHorse_2 : decode cX8_isHorse 2 = .ok (.aload_n 0, 1) := by decide +kernel
theorem dX8_isHorse_3 : decode cX8_isHorse 3 = .ok (.getfield 15, 3) := by decide +kernel
theorem dX8_isHorse_6 : decode cX8_isHorse 6 = .ok (.iconst 1, 1) := by decide +kernel
theorem dX8_isHorse_7 : decode cX8_isHorse 7 = .ok (.isub, 1) := by decide +kernel
theorem dX8_isHorse_8 : decode cX8_isHorse 8 = .ok (.invokestatic 138, 3) := by decide +kernel
theorem dX8_isHorse_11 : decode cX8_isHorse 11 = .ok (.ireturn, 1) := by decide +kernel
def fX8_isHorse (x : XS) (a1 : Int32) : Option (Bool) := Option.bind (fX8_isWithin a1 0 ((x.1 0 1) - 1)) fun v1 => some v1
abbrev rmX8_isHorse : Room := { frames := 1, cells := 0, slots := 0, locals := 22 }
set_option maxHeartbeats 4000000 in
set_option maxRecDepth 100000 in
theorem kX8_isHorse {l : Launch} {G : xG} {β : Nat} {D : Nat → Prop} {x : XS} {a1 : Int32} {r : Bool} (hm : fX8_isHorse x a1 = some r) : Met l yX8_isHorse (.code yX8_isHorse cX8_isHorse 2 (some .boolean) :: GT) rmX8_isHorse (PcW [.ref β, .int a1] (CW β D G x) (KK G)) (QcW D (some (.int (bI r))) (CW β D G x)) 0 0 D := by
  unfold fX8_isHorse at hm
  refine xpro (own := RX8) (by decide +kernel) rfl (Nat.le_of_ble_eq_true rfl) ?_
  intro p e s m args below meth c C hw ls hl
  have hx := C.1
  have hb := C.2.1
  have ho := C.2.2.2.1
  have hts := C.2.2.2.2.1
  have hf : Fz D G s.heap := hw.2.2.2.2
  have hS : va_S D s.heap s.heap [] := va_S.rf
  have hl : lv_has ls 2 [(0, .ref β), (1, .int a1)] := hl
  have hRf : 1 ≤ rmX8_isHorse.frames := Nat.le_refl _
  have hRl : 22 ≤ rmX8_isHorse.locals := Nat.le_refl _
  have hcs : 0 ≤ rmX8_isHorse.cells ∧ 0 ≤ rmX8_isHorse.slots := ⟨Nat.le_refl _, Nat.le_refl _⟩
  refine lv_iload_n hx hb dX8_isHorse_0 rfl (lv_at hl 1 rfl) ?_
  refine lv_iconst (v := 0) hx hb dX8_isHorse_1 (by decide) ?_
  refine lv_aload_n hx hb dX8_isHorse_2 rfl (lv_at hl 0 rfl) ?_
  refine gX8_15 C hw dX8_isHorse_3 ?_
  refine lv_iconst (v := 1) hx hb dX8_isHorse_6 (by decide) ?_
  refine lv_isub hx hb dX8_isHorse_7 ?_
  obtain ⟨v1, h2, hm⟩ := bind_e hm
  refine sX8_138 C h2 hw hS hl.1 (Nat.le_of_ble_eq_true rfl) (Nat.le_trans (Nat.le_of_ble_eq_true rfl) hRf) (Nat.le_trans (Nat.le_of_ble_eq_true rfl) hRl) hcs dX8_isHorse_8 (fun H locs hw hS => ?_)
  obtain rfl := Option.some.inj hm
  exact xret_z C (bI_nar _) hw hS dX8_isHorse_11
theorem dX8_form_0 : decode cX8_form 0 = .ok (.aload_n 0, 1) := by decide +kernel
theorem dX8_form_1 : decode cX8_form 1 = .ok (.iload_n 1, 1) := by decide +kernel
theorem dX8_form_2 : decode cX8_form 2 = .ok (.invokevirtual 154, 3) := by decide +kernel
theorem dX8_form_5 : decode cX8_form 5 = .ok (.ifCond .eq 20, 3) := by decide +kernel
theorem dX8_form_8 : decode cX8_form 8 = .ok (.iload_n 2, 1) := by decide +kernel
theorem dX8_form_9 : decode cX8_form 9 = .ok (.invokestatic 150, 3) := by decide +kernel
theorem dX8_form_12 : decode cX8_form 12 = .ok (.ifCond .eq 13, 3) := by decide +kernel
theorem dX8_form_15 : decode cX8_form 15 = .ok (.iload_n 3, 1) := by decide +kernel
theorem dX8_form_16 : decode cX8_form 16 = .ok (.iconst 0, 1) := by decide +kernel
theorem dX8_form_17 : decode cX8_form 17 = .ok (.bipush 99, 2) := by decide +kernel
theorem dX8_form_19 : decode cX8_form 19 = .ok (.invokestatic 138, 3) := by decide +kernel
theorem dX8_form_22 : decode cX8_form 22 = .ok (.ifCond .ne 7, 3) := by decide +kernel
theorem dX8_form_25 : decode cX8_form 25 = .ok (.ldc2_w 157, 3) := by decide +kernel
theorem dX8_form_28 : decode cX8_form 28 = .ok (.lreturn, 1) := by decide +kernel
theorem dX8_form_29 : decode cX8_form 29 = .ok (.aload_n 0, 1) := by decide +kernel
theorem dX8_form_30 : decode cX8_form 30 = .ok (.iload_n 1, 1) := by decide +kernel
theorem dX8_form_31 : decode cX8_form 31 = .ok (.iload_n 2, 1) := by decide +kernel
theorem dX8_form_32 : decode cX8_form 32 = .ok (.iload_n 3, 1) := by decide +kernel
theorem dX8_form_33 : decode cX8_form 33 = .ok (.invokevirtual 159, 3) := by decide +kernel
theorem dX8_form_36 : decode cX8_form 36 = .ok (.i2l, 1) := by decide +kernel
theorem dX8_form_37 : decode cX8_form 37 = .ok (.lreturn, 1) := by decide +kernel
theorem sX8_154 {p : Program} {l : Launch} {e : Env} {R : Room} {s : State} {m : MethodId} {args : Array Value} {below : List Frame} {meth : Method} {c : Code} {H : Heap} {locs : List Loc} {cells slots : Nat} {Q : State → Prop} {cc : ByteArray} {pc nL : Nat} {ls : Array Slot} {rest : List Value} {ret : Option FieldType}  {G : xG} {β : Nat} {D : Nat → Prop} {x : XS} {a1 : Int32} {r : Bool} (C : Cx p s m args meth c RX8 cc nL ret (KK G)) (h : fX8_isHorse x a1 = some r) (hw : CW β D G x H) (hS : va_S D s.heap H locs) (hsz : ls.size = nL) (hW : (rest.map fun v => v.category).sum ≤ 8) (hR : 2 ≤ R.frames) (hR2 : 43 ≤ R.locals) (hcs : cells ≤ R.cells ∧ slots ≤ R.slots) (hd : decode cc pc = .ok (.invokevirtual 154, 3)) (kk : ∀ (H1 : Heap) (locs1 : List Loc), CW β D G x H1 → va_S D s.heap H1 locs1 → W p l e R s m args below meth c H1 locs1 cells slots Q (F0 m (pc + 3) ls (.int (bI r) :: rest))) : W p l e R s m args below meth c H locs cells slots Q (F0 m pc ls (.int a1 :: .ref β :: rest)) := by
  exact xcallV C (As := [.int a1]) (rest := rest) (nA := 1) (ci := 8) (kX8_isHorse h) (tg 472 (by decide +kernel) rfl) (tg 474 (by decide +kernel) rfl) (sg (List.mem_of_getElem? (i := 14) (by decide +kernel)) rfl) (tg 1 (by decide +kernel) rfl) (tg 475 (by decide +kernel) rfl) ⟨rfl, by decide +kernel, by decide +kernel, by decide +kernel⟩ rfl rfl rfl ⟨hR, hR2⟩ (hw.2.2.1 0 (by decide)) hw hS (fun _ q => q) rfl rfl hsz hW hd hcs (fun H1 locs1 hw hz hk hS => kk H1 locs1 hw hS)
theorem sX8_159 {p : Program} {l : Launch} {e : Env} {R : Room} {s : State} {m : MethodId} {args : Array Value} {below : List Frame} {meth : Method} {c : Code} {H : Heap} {locs : List Loc} {cells slots : Nat} {Q : State → Prop} {cc : ByteArray} {pc nL : Nat} {ls : Array Slot} {rest : List Value} {ret : Option FieldType}  {G : xG} {β : Nat} {D : Nat → Prop} {x : XS} {a1 : Int32} {a2 : Int32} {a3 : Int32} {r : Int32} (C : Cx p s m args meth c RX8 cc nL ret (KK G)) (h : fX8_formOf x a1 a2 a3 = some r) (hw : CW β D G x H) (hS : va_S D s.heap H locs) (hsz : ls.size = nL) (hW : (rest.map fun v => v.category).sum ≤ 8) (hR : 3 ≤ R.frames) (hR2 : 66 ≤ R.locals) (hcs : cells ≤ R.cells ∧ slots ≤ R.slots) (hd : decode cc pc = .ok (.invokevirtual 159, 3)) (kk : ∀ (H1 : Heap) (locs1 : List Loc), CW β D G x H1 → va_S D s.heap H1 locs1 → W p l e R s m args below meth c H1 locs1 cells slots Q (F0 m (pc + 3) ls (.int r :: rest))) : W p l e R s m args below meth c H locs cells slots Q (F0 m pc ls (.int a3 :: .int a2 :: .int a1 :: .ref β :: rest)) := by
  exact xcallV C (As := [.int a1, .int a2, .int a3]) (rest := rest) (nA := 3) (ci := 8) (kX8_formOf h) (tg 477 (by decide +kernel) rfl) (tg 479 (by decide +kernel) rfl) (sg (List.mem_of_getElem? (i := 15) (by decide +kernel)) rfl) (tg 1 (by decide +kernel) rfl) (tg 480 (by decide +kernel) rfl) ⟨rfl, by decide +kernel, by decide +kernel, by decide +kernel⟩ rfl rfl rfl ⟨hR, hR2⟩ (hw.2.2.1 0 (by decide)) hw hS (fun _ q => q) rfl rfl hsz hW hd hcs (fun H1 locs1 hw hz hk hS => kk H1 locs1 hw hS)
def fX8_form (x : XS) (a1 : Int32) (a2 : Int32) (a3 : Int32) : Option (Int64) := Option.bind (fX8_isHorse x a1) fun v1 => if v1 = true then Option.bind (fX8_isGround a2) fun v3 => if v3 = true then Option.bind (fX8_isWithin a3 0 99) fun v5 => if v5 = true then Option.bind (fX8_formOf x a1 a2 a3) fun v7 => some (v7.toInt64) else some (-4611686018427387904) else some (-4611686018427387904) else some (-4611686018427387904)
abbrev rmX8_form : Room := { frames := 3, cells := 0, slots := 0, locals := 66 }
set_option maxHeartbeats 4000000 in
set_option maxRecDepth 100000 in
theorem kX8_form {l : Launch} {G : xG} {β : Nat} {D : Nat → Prop} {x : XS} {a1 : Int32} {a2 : Int32} {a3 : Int32} {r : Int64} (hm : fX8_form x a1 a2 a3 = some r) : Met l yX8_form (.code yX8_form cX8_form 4 (some .long) :: GT) rmX8_form (PcW [.ref β, .int a1, .int a2, .int a3] (CW β D G x) (KK G)) (QcW D (some (.long r)) (CW β D G x)) 0 0 D := by
  unfold fX8_form at hm
  refine xpro (own := RX8) (by decide +kernel) rfl (Nat.le_of_ble_eq_true rfl) ?_
  intro p e s m args below meth c C hw ls hl
  have hx := C.1
  have hb := C.2.1
  have ho := C.2.2.2.1
  have hts := C.2.2.2.2.1
  have hf : Fz D G s.heap := hw.2.2.2.2
  have hS : va_S D s.heap s.heap [] := va_S.rf
  have hl : lv_has ls 4 [(0, .ref β), (1, .int a1), (2, .int a2), (3, .int a3)] := hl
  have hRf : 3 ≤ rmX8_form.frames := Nat.le_refl _
  have hRl : 66 ≤ rmX8_form.locals := Nat.le_refl _
  have hcs : 0 ≤ rmX8_form.cells ∧ 0 ≤ rmX8_form.slots := ⟨Nat.le_refl _, Nat.le_refl _⟩
  refine lv_aload_n hx hb dX8_form_0 rfl (lv_at hl 0 rfl) ?_
  refine lv_iload_n hx hb dX8_form_1 rfl (lv_at hl 1 rfl) ?_
  obtain ⟨v1, h2, hm⟩ := bind_e hm
  refine sX8_154 C h2 hw hS hl.1 (Nat.le_of_ble_eq_true rfl) (Nat.le_trans (Nat.le_of_ble_eq_true rfl) hRf) (Nat.le_trans (Nat.le_of_ble_eq_true rfl) hRl) hcs dX8_form_2 (fun H locs hw hS => ?_)
  refine x_ifeqB hx hb dX8_form_5 (tgt := 25) (by decide) (fun cc => ?_) (fun cc => ?_)
  · replace hm := ite_n cc hm
    refine lv_ldc2 (v := (-4611686018427387904)) hx hb ho (hts (.constantLong RX8 157 (-4611686018427387904)) (tg 476 (by decide +kernel) rfl)) dX8_form_25 ?_
    obtain rfl := Option.some.inj hm
    exact xret_l C hw hS dX8_form_28
  · replace hm := ite_p cc hm
    refine lv_iload_n hx hb dX8_form_8 rfl (lv_at hl 2 rfl) ?_
    obtain ⟨v3, h4, hm⟩ := bind_e hm
    refine sX8_150 C h4 hw hS hl.1 (Nat.le_of_ble_eq_true rfl) (Nat.le_trans (Nat.le_of_ble_eq_true rfl) hRf) (Nat.le_trans (Nat.le_of_ble_eq_true rfl) hRl) hcs dX8_form_9 (fun H locs hw hS => ?_)
    refine x_ifeqB hx hb dX8_form_12 (tgt := 25) (by decide) (fun cc => ?_) (fun cc => ?_)
    · replace hm := ite_n cc hm
      refine lv_ldc2 (v := (-4611686018427387904)) hx hb ho (hts (.constantLong RX8 157 (-4611686018427387904)) (tg 476 (by decide +kernel) rfl)) dX8_form_25 ?_
      obtain rfl := Option.some.inj hm
      exact xret_l C hw hS dX8_form_28
    · replace hm := ite_p cc hm
      refine lv_iload_n hx hb dX8_form_15 rfl (lv_at hl 3 rfl) ?_
      refine lv_iconst (v := 0) hx hb dX8_form_16 (by decide) ?_
      refine lv_bipush (v := 99) hx hb dX8_form_17 (by decide) ?_
      obtain ⟨v5, h6, hm⟩ := bind_e hm
      refine sX8_138 C h6 hw hS hl.1 (Nat.le_of_ble_eq_true rfl) (Nat.le_trans (Nat.le_of_ble_eq_true rfl) hRf) (Nat.le_trans (Nat.le_of_ble_eq_true rfl) hRl) hcs dX8_form_19 (fun H locs hw hS => ?_)
      refine x_ifneB hx hb dX8_form_22 (tgt := 29) (by decide) (fun cc => ?_) (fun cc => ?_)
      · replace hm := ite_p cc hm
        refine lv_aload_n hx hb dX8_form_29 rfl (lv_at hl 0 rfl) ?_
        refine lv_iload_n hx hb dX8_form_30 rfl (lv_at hl 1 rfl) ?_
        refine lv_iload_n hx hb dX8_form_31 rfl (lv_at hl 2 rfl) ?_
        refine lv_iload_n hx hb dX8_form_32 rfl (lv_at hl 3 rfl) ?_
        obtain ⟨v7, h8, hm⟩ := bind_e hm
        refine sX8_159 C h8 hw hS hl.1 (Nat.le_of_ble_eq_true rfl) (Nat.le_trans (Nat.le_of_ble_eq_true rfl) hRf) (Nat.le_trans (Nat.le_of_ble_eq_true rfl) hRl) hcs dX8_form_33 (fun H locs hw hS => ?_)
        refine lv_i2l hx hb dX8_form_36 rfl ?_
        obtain rfl := Option.some.inj hm
        exact xret_l C hw hS dX8_form_37
      · replace hm := ite_n cc hm
        refine lv_ldc2 (v := (-4611686018427387904)) hx hb ho (hts (.constantLong RX8 157 (-4611686018427387904)) (tg 476 (by decide +kernel) rfl)) dX8_form_25 ?_
        obtain rfl := Option.some.inj hm
        exact xret_l C hw hS dX8_form_28
theorem dX8_raceAt_0 : decode cX8_raceAt 0 = .ok (.iload_n 1, 1) := by decide +kernel
theorem dX8_raceAt_1 : decode cX8_raceAt 1 = .ok (.iconst 0, 1) := by decide +kernel
theorem dX8_raceAt_2 : decode cX8_raceAt 2 = .ok (.aload_n 0, 1) := by decide +kernel
theorem dX8_raceAt_3 : decode cX8_raceAt 3 = .ok (.getfield 32, 3) := by decide +kernel
theorem dX8_raceAt_6 : decode cX8_raceAt 6 = .ok (.iconst 1, 1) := by decide +kernel
theorem dX8_raceAt_7 : decode cX8_raceAt 7 = .ok (.isub, 1) := by decide +kernel
theorem dX8_raceAt_8 : decode cX8_raceAt 8 = .ok (.invokestatic 138, 3) := by decide +kernel
theorem dX8_raceAt_11 : decode cX8_raceAt 11 = .ok (.ifCond .eq 12, 3) := by decide +kernel
theorem dX8_raceAt_14 : decode cX8_raceAt 14 = .ok (.aload_n 0, 1) := by decide +kernel
theorem dX8_raceAt_15 : decode cX8_raceAt 15 = .ok (.getfield 28, 3) := by decide +kernel
theorem dX8_raceAt_18 : decode cX8_raceAt 18 = .ok (.iload_n 1, 1) := by decide +kernel
theorem dX8_raceAt_19 : decode cX8_raceAt 19 = .ok (.aaload, 1) := by decide +kernel
theorem dX8_raceAt_20 : decode cX8_raceAt 20 = .ok (.goto 4, 3) := by decide +kernel
theorem dX8_raceAt_23 : decode cX8_raceAt 23 = .ok (.aconst_null, 1) := by decide +kernel
theorem dX8_raceAt_24 : decode cX8_raceAt 24 = .ok (.areturn, 1) := by decide +kernel
theorem gX8_32 {p : Program} {l : Launch} {e : Env} {R : Room} {s : State} {m : MethodId} {args : Array Value} {below : List Frame} {meth : Method} {c : Code} {H : Heap} {locs : List Loc} {cells slots : Nat} {Q : State → Prop} {cc : ByteArray} {pc nL : Nat} {ls : Array Slot} {rest : List Value} {ret : Option FieldType} {G : xG} {β : Nat} {D : Nat → Prop} {x : XS} (C : Cx p s m args meth c RX8 cc nL ret (KK G)) (hw : CW β D G x H) (hd : decode cc pc = .ok (.getfield 32, 3)) (kk : W p l e R s m args below meth c H locs cells slots Q (F0 m (pc + 3) ls (.int (x.1 0 5) :: rest))) : W p l e R s m args below meth c H locs cells slots Q (F0 m pc ls (.ref β :: rest)) :=
  va_get C.1 C.2.1 C.2.2.2.2.1 iwX8 C.2.2.2.1 C.K.1 (xP1 (hw.2.2.1 0 (by decide))) 0 rfl rfl 5 (by decide) (C.2.2.2.2.1 (.fieldLink RX8 32 RX8 "raceCount" "I") (tg 352 (by decide +kernel) rfl)) (fun _ h9 => h9) rfl hd kk
theorem gX8_28 {p : Program} {l : Launch} {e : Env} {R : Room} {s : State} {m : MethodId} {args : Array Value} {below : List Frame} {meth : Method} {c : Code} {H : Heap} {locs : List Loc} {cells slots : Nat} {Q : State → Prop} {cc : ByteArray} {pc nL : Nat} {ls : Array Slot} {rest : List Value} {ret : Option FieldType} {G : xG} {β : Nat} {D : Nat → Prop} {x : XS} (C : Cx p s m args meth c RX8 cc nL ret (KK G)) (hw : CW β D G x H) (hd : decode cc pc = .ok (.getfield 28, 3)) (kk : W p l e R s m args below meth c H locs cells slots Q (F0 m (pc + 3) ls (.ref (β + 3) :: rest))) : W p l e R s m args below meth c H locs cells slots Q (F0 m pc ls (.ref β :: rest)) :=
  va_get C.1 C.2.1 C.2.2.2.2.1 iwX8 C.2.2.2.1 C.K.1 (xP1 (hw.2.2.1 0 (by decide))) 0 rfl rfl 4 (by decide) (C.2.2.2.2.1 (.fieldLink RX8 28 RX8 "races" "[LAtThePost$Race;") (tg 351 (by decide +kernel) rfl)) (fun _ h9 => h9) rfl hd kk
theorem alX_3 {p : Program} {l : Launch} {e : Env} {R : Room} {s : State} {m : MethodId} {args : Array Value} {below : List Frame} {meth : Method} {c : Code} {H : Heap} {locs : List Loc} {cells slots : Nat} {Q : State → Prop} {cc : ByteArray} {pc nL : Nat} {ls : Array Slot} {rest : List Value} {ret : Option FieldType} {G : xG} {β : Nat} {D : Nat → Prop} {x : XS} {own : String} {i : Int32} (C : Cx p s m args meth c own cc nL ret (KK G)) (hw : CW β D G x H) (hin : ib i 24) (hd : decode cc pc = .ok (.aaload, 1)) (kk : W p l e R s m args below meth c H locs cells slots Q (F0 m (pc + 1) ls (va_rf (x.2.2.1 3 i.toNatClampNeg) :: rest))) : W p l e R s m args below meth c H locs cells slots Q (F0 m pc ls (.int i :: .ref (β + 3) :: rest)) :=
  va_aldq (C := "AtThePost$Race") C.1 C.2.1 C.K.1 (xP1 (hw.2.2.1 3 (by decide))) 0 5 rfl rfl hin hd kk
def fX8_raceAt (x : XS) (a1 : Int32) : Option (Option Nat) := Option.bind (fX8_isWithin a1 0 ((x.1 0 5) - 1)) fun v1 => if v1 = true then if ib a1 24 then lt (x.2.2.1 3 a1.toNatClampNeg) fun e4 => some e4 else none else some none
abbrev rmX8_raceAt : Room := { frames := 1, cells := 0, slots := 0, locals := 22 }
set_option maxHeartbeats 4000000 in
set_option maxRecDepth 100000 in
theorem kX8_raceAt {l : Launch} {G : xG} {β : Nat} {D : Nat → Prop} {x : XS} {a1 : Int32} {r : Option Nat} (hm : fX8_raceAt x a1 = some r) : Met l yX8_raceAt (.code yX8_raceAt cX8_raceAt 2 (some (.object "AtThePost$Race")) :: GT) rmX8_raceAt (PcW [.ref β, .int a1] (CW β D G x) (KK G)) (QcW D (some (va_rf r)) (CW β D G x)) 0 0 D := by
  unfold fX8_raceAt at hm
  refine xpro (own := RX8) (by decide +kernel) rfl (Nat.le_of_ble_eq_true rfl) ?_
  intro p e s m args below meth c C hw ls hl
  have hx := C.1
  have hb := C.2.1
  have ho := C.2.2.2.1
  have hts := C.2.2.2.2.1
  have hf : Fz D G s.heap := hw.2.2.2.2
  have hS : va_S D s.heap s.heap [] := va_S.rf
  have hl : lv_has ls 2 [(0, .ref β), (1, .int a1)] := hl
  have hRf : 1 ≤ rmX8_raceAt.frames := Nat.le_refl _
  have hRl : 22 ≤ rmX8_raceAt.locals := Nat.le_refl _
  have hcs : 0 ≤ rmX8_raceAt.cells ∧ 0 ≤ rmX8_raceAt.slots := ⟨Nat.le_refl _, Nat.le_refl _⟩
  refine lv_iload_n hx hb dX8_raceAt_0 rfl (lv_at hl 1 rfl) ?_
  refine lv_iconst (v := 0) hx hb dX8_raceAt_1 (by decide) ?_
  refine lv_aload_n hx hb dX8_raceAt_2 rfl (lv_at hl 0 rfl) ?_
  refine gX8_32 C hw dX8_raceAt_3 ?_
  refine lv_iconst (v := 1) hx hb dX8_raceAt_6 (by decide) ?_
  refine lv_isub hx hb dX8_raceAt_7 ?_
  obtain ⟨v1, h2, hm⟩ := bind_e hm
  refine sX8_138 C h2 hw hS hl.1 (Nat.le_of_ble_eq_true rfl) (Nat.le_trans (Nat.le_of_ble_eq_true rfl) hRf) (Nat.le_trans (Nat.le_of_ble_eq_true rfl) hRl) hcs dX8_raceAt_8 (fun H locs hw hS => ?_)
  refine x_ifeqB hx hb dX8_raceAt_11 (tgt := 23) (by decide) (fun cc => ?_) (fun cc => ?_)
  · replace hm := ite_n cc hm
    refine lv_null hx hb dX8_raceAt_23 ?_
    obtain rfl := Option.some.inj hm
    exact xret_a (v := none) C hw hS dX8_raceAt_24
  · replace hm := ite_p cc hm
    refine lv_aload_n hx hb dX8_raceAt_14 rfl (lv_at hl 0 rfl) ?_
    refine gX8_28 C hw dX8_raceAt_15 ?_
    refine lv_iload_n hx hb dX8_raceAt_18 rfl (lv_at hl 1 rfl) ?_
    obtain ⟨h3, hm⟩ := chk_e hm
    refine alX_3 C hw h3 dX8_raceAt_19 ?_
    refine topR hm (fun e4 hm => ?_)
    refine lv_goto (tgt := 24) hx hb dX8_raceAt_20 (by decide) ?_
    obtain rfl := Option.some.inj hm
    exact xret_a C hw hS dX8_raceAt_24
theorem dX8_racesWon_0 : decode cX8_racesWon 0 = .ok (.iconst 0, 1) := by decide +kernel
theorem dX8_racesWon_1 : decode cX8_racesWon 1 = .ok (.istore_n 2, 1) := by decide +kernel
theorem dX8_racesWon_2 : decode cX8_racesWon 2 = .ok (.iconst 0, 1) := by decide +kernel
theorem dX8_racesWon_3 : decode cX8_racesWon 3 = .ok (.istore_n 3, 1) := by decide +kernel
theorem dX8_racesWon_4 : decode cX8_racesWon 4 = .ok (.iload_n 3, 1) := by decide +kernel
theorem dX8_racesWon_5 : decode cX8_racesWon 5 = .ok (.aload_n 0, 1) := by decide +kernel
theorem dX8_racesWon_6 : decode cX8_racesWon 6 = .ok (.getfield 32, 3) := by decide +kernel
theorem dX8_racesWon_9 : decode cX8_racesWon 9 = .ok (.if_icmp .ge 33, 3) := by decide +kernel
theorem dX8_racesWon_12 : decode cX8_racesWon 12 = .ok (.aload_n 0, 1) := by decide +kernel
theorem dX8_racesWon_13 : decode cX8_racesWon 13 = .ok (.iload_n 3, 1) := by decide +kernel
theorem dX8_racesWon_14 : decode cX8_racesWon 14 = .ok (.invokevirtual 265, 3) := by decide +kernel
theorem dX8_racesWon_17 : decode cX8_racesWon 17 = .ok (.astore 4, 2) := by decide +kernel
theorem dX8_racesWon_19 : decode cX8_racesWon 19 = .ok (.aload 4, 2) := by decide +kernel
theorem dX8_racesWon_21 : decode cX8_racesWon 21 = .ok (.ifnull 15, 3) := by decide +kernel
theorem dX8_racesWon_24 : decode cX8_racesWon 24 = .ok (.aload 4, 2) := by decide +kernel
theorem dX8_racesWon_26 : decode cX8_racesWon 26 = .ok (.iload_n 1, 1) := by decide +kernel
theorem dX8_racesWon_27 : decode cX8_racesWon 27 = .ok (.invokevirtual 403, 3) := by decide +kernel
theorem dX8_racesWon_30 : decode cX8_racesWon 30 = .ok (.ifCond .ne 6, 3) := by decide +kernel
theorem dX8_racesWon_33 : decode cX8_racesWon 33 = .ok (.iinc 2 1, 3) := by decide +kernel
theorem dX8_racesWon_36 : decode cX8_racesWon 36 = .ok (.iinc 3 1, 3) := by decide +kernel
theorem dX8_racesWon_39 : decode cX8_racesWon 39 = .ok (.goto (-35), 3) := by decide +kernel
theorem dX8_racesWon_42 : decode cX8_racesWon 42 = .ok (.iload_n 2, 1) := by decide +kernel
theorem dX8_racesWon_43 : decode cX8_racesWon 43 = .ok (.ireturn, 1) := by decide +kernel
theorem sX8_265 {p : Program} {l : Launch} {e : Env} {R : Room} {s : State} {m : MethodId} {args : Array Value} {below : List Frame} {meth : Method} {c : Code} {H : Heap} {locs : List Loc} {cells slots : Nat} {Q : State → Prop} {cc : ByteArray} {pc nL : Nat} {ls : Array Slot} {rest : List Value} {ret : Option FieldType}  {G : xG} {β : Nat} {D : Nat → Prop} {x : XS} {a1 : Int32} {r : Option Nat} (C : Cx p s m args meth c RX8 cc nL ret (KK G)) (h : fX8_raceAt x a1 = some r) (hw : CW β D G x H) (hS : va_S D s.heap H locs) (hsz : ls.size = nL) (hW : (rest.map fun v => v.category).sum ≤ 8) (hR : 2 ≤ R.frames) (hR2 : 43 ≤ R.locals) (hcs : cells ≤ R.cells ∧ slots ≤ R.slots) (hd : decode cc pc = .ok (.invokevirtual 265, 3)) (kk : ∀ (H1 : Heap) (locs1 : List Loc), CW β D G x H1 → va_S D s.heap H1 locs1 → W p l e R s m args below meth c H1 locs1 cells slots Q (F0 m (pc + 3) ls (va_rf r :: rest))) : W p l e R s m args below meth c H locs cells slots Q (F0 m pc ls (.int a1 :: .ref β :: rest)) := by
  exact xcallV C (As := [.int a1]) (rest := rest) (nA := 1) (ci := 8) (kX8_raceAt h) (tg 498 (by decide +kernel) rfl) (tg 500 (by decide +kernel) rfl) (sg (List.mem_of_getElem? (i := 18) (by decide +kernel)) rfl) (tg 1 (by decide +kernel) rfl) (tg 501 (by decide +kernel) rfl) ⟨rfl, by decide +kernel, by decide +kernel, by decide +kernel⟩ rfl rfl rfl ⟨hR, hR2⟩ (hw.2.2.1 0 (by decide)) hw hS (fun _ q => q) rfl rfl hsz hW hd hcs (fun H1 locs1 hw hz hk hS => kk H1 locs1 hw hS)
theorem sX8_403 {p : Program} {l : Launch} {e : Env} {R : Room} {s : State} {m : MethodId} {args : Array Value} {below : List Frame} {meth : Method} {c : Code} {H : Heap} {locs : List Loc} {cells slots : Nat} {Q : State → Prop} {cc : ByteArray} {pc nL : Nat} {ls : Array Slot} {rest : List Value} {ret : Option FieldType}  {G : xG} {β : Nat} {D : Nat → Prop} {x : XS} {a0 : Nat} {a1 : Int32} {r : Int32} (C : Cx p s m args meth c RX8 cc nL ret (KK G)) (hk : dK x a0 3 = true) (h : fX3_placeOf x a0 a1 = some r) (hw : CW β D G x H) (hS : va_S D s.heap H locs) (hsz : ls.size = nL) (hW : (rest.map fun v => v.category).sum ≤ 8) (hR : 1 ≤ R.frames) (hR2 : 22 ≤ R.locals) (hcs : cells ≤ R.cells ∧ slots ≤ R.slots) (hd : decode cc pc = .ok (.invokevirtual 403, 3)) (kk : ∀ (H1 : Heap) (locs1 : List Loc), CW β D G x H1 → va_S D s.heap H1 locs1 → W p l e R s m args below meth c H1 locs1 cells slots Q (F0 m (pc + 3) ls (.int r :: rest))) : W p l e R s m args below meth c H locs cells slots Q (F0 m pc ls (.int a1 :: .ref a0 :: rest)) := by
  obtain ⟨fs0, hfs0⟩ := dK_e hk
  exact xcallV C (As := [.int a1]) (rest := rest) (nA := 1) (ci := 3) (kX3_placeOf h) (tg 502 (by decide +kernel) rfl) (tg 503 (by decide +kernel) rfl) (tg 504 (by decide +kernel) rfl) (tg 17 (by decide +kernel) rfl) (tg 505 (by decide +kernel) rfl) ⟨rfl, by decide +kernel, by decide +kernel, by decide +kernel⟩ rfl rfl rfl ⟨hR, hR2⟩ ((hw.2.2.2.1 a0 _ hfs0).2.2.2) hw hS (fun _ q => q) rfl rfl hsz hW hd hcs (fun H1 locs1 hw hz hk hS => kk H1 locs1 hw hS)
def BX8_racesWon_4 (x : XS) (q1 : Int32) (lp : Int32 → Int32 → Option (Int32)) (u2 : Int32) (u3 : Int32) : Option (Int32) := if (x.1 0 5) ≤ u3 then some u2 else Option.bind (fX8_raceAt x u3) fun v1 => oc v1 (lt (u3 + 1) fun v4 => lp u2 v4) (fun p3 => if dK x p3 3 = true then Option.bind (fX3_placeOf x p3 q1) fun v6 => if v6 = 0 then lt (u2 + 1) fun v9 => lt (u3 + 1) fun v10 => lp v9 v10 else lt (u3 + 1) fun v8 => lp u2 v8 else none)
def LX8_racesWon_4 (x : XS) (q1 : Int32) : Nat → Int32 → Int32 → Option (Int32)
  | 0, _, _ => none
  | n + 1, u2, u3 => BX8_racesWon_4 x q1 (LX8_racesWon_4 x q1 n) u2 u3
def fX8_racesWon (x : XS) (a1 : Int32) : Option (Int32) := Option.bind (LX8_racesWon_4 x a1 NF 0 0) fun v11 => some v11
set_option maxHeartbeats 4000000 in
set_option maxRecDepth 100000 in
theorem lX8_racesWon_4 {p : Program} {l : Launch} {e : Env} {R : Room} {s : State} {m : MethodId} {args : Array Value} {below : List Frame} {meth : Method} {c : Code} {cells slots : Nat} {Q : State → Prop} {G : xG} {β : Nat} {D : Nat → Prop} (C : Cx p s m args meth c RX8 cX8_racesWon 5 (some .int) (KK G)) (hRf : 2 ≤ R.frames) (hRl : 43 ≤ R.locals) (hcs : cells ≤ R.cells ∧ slots ≤ R.slots) (hf : Fz D G s.heap) (x : XS) (q1 : Int32) : ∀ (n : Nat) (u2 : Int32) (u3 : Int32) (J : Int32) (H : Heap) (locs : List Loc) (ls : Array Slot), LX8_racesWon_4 x q1 n u2 u3 = some J → CW β D G x H → va_S D s.heap H locs → lv_has ls 5 [(0, .ref β), (1, .int q1), (2, .int u2), (3, .int u3)] → (∀ (w2 : Int32), J = w2 → ∀ (H : Heap) (locs : List Loc) (ls : Array Slot), CW β D G x H → va_S D s.heap H locs → lv_has ls 5 [(2, .int w2)] → W p l e R s m args below meth c H locs cells slots Q (F0 m 42 ls [])) → W p l e R s m args below meth c H locs cells slots Q (F0 m 4 ls []) := by
  have hx := C.1
  have hb := C.2.1
  have ho := C.2.2.2.1
  have hts := C.2.2.2.2.1
  intro n
  induction n with
  | zero =>
    intro u2 u3 J H locs ls hm
    exact absurd hm (by simp [LX8_racesWon_4])
  | succ n ih =>
    intro u2 u3 J H locs ls hm hw hS hl ke
    replace hm : BX8_racesWon_4 x q1 (LX8_racesWon_4 x q1 n) u2 u3 = some J := hm
    unfold BX8_racesWon_4 at hm
    refine lv_iload_n hx hb dX8_racesWon_4 rfl (lv_at hl 3 rfl) ?_
    refine lv_aload_n hx hb dX8_racesWon_5 rfl (lv_at hl 0 rfl) ?_
    refine gX8_32 C hw dX8_racesWon_6 ?_
    refine lv_icmp_ge (tgt := 42) hx hb dX8_racesWon_9 (by decide) (fun cc => ?_) (fun cc => ?_)
    · replace hm := ite_p cc hm
      exact ke _ (Option.some.inj hm).symm _ _ _ hw hS (lv_sub hl [2] rfl)
    · replace hm := ite_n cc hm
      refine lv_aload_n hx hb dX8_racesWon_12 rfl (lv_at hl 0 rfl) ?_
      refine lv_iload_n hx hb dX8_racesWon_13 rfl (lv_at hl 3 rfl) ?_
      obtain ⟨v1, h2, hm⟩ := bind_e hm
      refine sX8_265 C h2 hw hS hl.1 (Nat.le_of_ble_eq_true rfl) (Nat.le_trans (Nat.le_of_ble_eq_true rfl) hRf) (Nat.le_trans (Nat.le_of_ble_eq_true rfl) hRl) hcs dX8_racesWon_14 (fun H locs hw hS => ?_)
      refine x_astoreq (lv' := [(4, va_rf v1), (0, .ref β), (1, .int q1), (2, .int u2), (3, .int u3)]) hx hb dX8_racesWon_17 hl (by decide) rfl (fun ls hl => ?_)
      refine x_aloadq hx hb dX8_racesWon_19 (lv_at hl 0 rfl) ?_
      rcases v1 with _ | p3
      · replace hm := oc_n hm
        refine lv_ifnullN (tgt := 36) hx hb dX8_racesWon_21 (by decide) ?_
        obtain ⟨v4, ev, hm⟩ := lt_e hm
        refine lv_iinc (v := v4) (lv' := [(3, .int v4), (4, .null), (0, .ref β), (1, .int q1), (2, .int u2)]) hx hb dX8_racesWon_36 hl (k := 4) rfl (by rw [ev]; rfl) (by decide) rfl (fun ls hl => ?_)
        clear ev
        refine lv_goto (tgt := 4) hx hb dX8_racesWon_39 (by decide) ?_
        exact ih _ _ _ _ _ _ hm hw hS (lv_sub hl [2, 3, 4, 0] rfl) ke
      · replace hm := oc_s hm
        refine lv_ifnull hx hb dX8_racesWon_21 ?_
        refine lv_aload hx hb dX8_racesWon_24 (lv_at hl 0 rfl) ?_
        refine lv_iload_n hx hb dX8_racesWon_26 rfl (lv_at hl 2 rfl) ?_
        obtain ⟨h5, hm⟩ := chk_e hm
        obtain ⟨v6, h7, hm⟩ := bind_e hm
        refine sX8_403 C h5 h7 hw hS hl.1 (Nat.le_of_ble_eq_true rfl) (Nat.le_trans (Nat.le_of_ble_eq_true rfl) hRf) (Nat.le_trans (Nat.le_of_ble_eq_true rfl) hRl) hcs dX8_racesWon_27 (fun H locs hw hS => ?_)
        refine lv_if_ne (tgt := 36) hx hb dX8_racesWon_30 (by decide) (fun cc => ?_) (fun cc => ?_)
        · replace hm := ite_n cc hm
          obtain ⟨v8, ev, hm⟩ := lt_e hm
          refine lv_iinc (v := v8) (lv' := [(3, .int v8), (4, .ref p3), (0, .ref β), (1, .int q1), (2, .int u2)]) hx hb dX8_racesWon_36 hl (k := 4) rfl (by rw [ev]; rfl) (by decide) rfl (fun ls hl => ?_)
          clear ev
          refine lv_goto (tgt := 4) hx hb dX8_racesWon_39 (by decide) ?_
          exact ih _ _ _ _ _ _ hm hw hS (lv_sub hl [2, 3, 4, 0] rfl) ke
        · replace hm := ite_p cc hm
          obtain ⟨v9, ev, hm⟩ := lt_e hm
          refine lv_iinc (v := v9) (lv' := [(2, .int v9), (4, .ref p3), (0, .ref β), (1, .int q1), (3, .int u3)]) hx hb dX8_racesWon_33 hl (k := 3) rfl (by rw [ev]; rfl) (by decide) rfl (fun ls hl => ?_)
          clear ev
          obtain ⟨v10, ev, hm⟩ := lt_e hm
          refine lv_iinc (v := v10) (lv' := [(3, .int v10), (2, .int v9), (4, .ref p3), (0, .ref β), (1, .int q1)]) hx hb dX8_racesWon_36 hl (k := 4) rfl (by rw [ev]; rfl) (by decide) rfl (fun ls hl => ?_)
          clear ev
          refine lv_goto (tgt := 4) hx hb dX8_racesWon_39 (by decide) ?_
          exact ih _ _ _ _ _ _ hm hw hS (lv_sub hl [3, 4, 1, 0] rfl) ke
abbrev rmX8_racesWon : Room := { frames := 2, cells := 0, slots := 0, locals := 43 }
set_option maxHeartbeats 4000000 in
set_option maxRecDepth 100000 in
theorem kX8_racesWon {l : Launch} {G : xG} {β : Nat} {D : Nat → Prop} {x : XS} {a1 : Int32} {r : Int32} (hm : fX8_racesWon x a1 = some r) : Met l yX8_racesWon (.code yX8_racesWon cX8_racesWon 5 (some .int) :: GT) rmX8_racesWon (PcW [.ref β, .int a1] (CW β D G x) (KK G)) (QcW D (some (.int r)) (CW β D G x)) 0 0 D := by
  unfold fX8_racesWon at hm
  refine xpro (own := RX8) (by decide +kernel) rfl (Nat.le_of_ble_eq_true rfl) ?_
  intro p e s m args below meth c C hw ls hl
  have hx := C.1
  have hb := C.2.1
  have ho := C.2.2.2.1
  have hts := C.2.2.2.2.1
  have hf : Fz D G s.heap := hw.2.2.2.2
  have hS : va_S D s.heap s.heap [] := va_S.rf
  have hl : lv_has ls 5 [(0, .ref β), (1, .int a1)] := hl
  have hRf : 2 ≤ rmX8_racesWon.frames := Nat.le_refl _
  have hRl : 43 ≤ rmX8_racesWon.locals := Nat.le_refl _
  have hcs : 0 ≤ rmX8_racesWon.cells ∧ 0 ≤ rmX8_racesWon.slots := ⟨Nat.le_refl _, Nat.le_refl _⟩
  refine lv_iconst (v := 0) hx hb dX8_racesWon_0 (by decide) ?_
  refine lv_istore_n (lv' := [(2, .int 0), (0, .ref β), (1, .int a1)]) hx hb dX8_racesWon_1 rfl hl (by decide) rfl (fun ls hl => ?_)
  refine lv_iconst (v := 0) hx hb dX8_racesWon_2 (by decide) ?_
  refine lv_istore_n (lv' := [(3, .int 0), (2, .int 0), (0, .ref β), (1, .int a1)]) hx hb dX8_racesWon_3 rfl hl (by decide) rfl (fun ls hl => ?_)
  obtain ⟨v11, hj, hm⟩ := bind_e hm
  refine lX8_racesWon_4 C hRf hRl hcs hf x a1 NF _ _ _ _ _ _ hj hw hS (lv_sub hl [2, 3, 1, 0] rfl) (fun v11_ e0 H locs ls hw hS hl => ?_)
  cases e0
  refine lv_iload_n hx hb dX8_racesWon_42 rfl (lv_at hl 0 rfl) ?_
  obtain rfl := Option.some.inj hm
  exact xret_i C hw hS dX8_racesWon_43
theorem dX8_ruled_0 : decode cX8_ruled 0 = .ok (.aload_n 0, 1) := by decide +kernel
theorem dX8_ruled_1 : decode cX8_ruled 1 = .ok (.iload_n 2, 1) := by decide +kernel
theorem dX8_ruled_2 : decode cX8_ruled 2 = .ok (.invokevirtual 134, 3) := by decide +kernel
theorem dX8_ruled_5 : decode cX8_ruled 5 = .ok (.astore 7, 2) := by decide +kernel
theorem dX8_ruled_7 : decode cX8_ruled 7 = .ok (.aload_n 0, 1) := by decide +kernel
theorem dX8_ruled_8 : decode cX8_ruled 8 = .ok (.getfield 60, 3) := by decide +kernel
theorem dX8_ruled_11 : decode cX8_ruled 11 = .ok (.iconst 0, 1) := by decide +kernel
theorem dX8_ruled_12 : decode cX8_ruled 12 = .ok (.aload_n 0, 1) := by decide +kernel
theorem dX8_ruled_13 : decode cX8_ruled 13 = .ok (.getfield 57, 3) := by decide +kernel
theorem dX8_ruled_16 : decode cX8_ruled 16 = .ok (.iconst 1, 1) := by decide +kernel
theorem dX8_ruled_17 : decode cX8_ruled 17 = .ok (.isub, 1) := by decide +kernel
theorem dX8_ruled_18 : decode cX8_ruled 18 = .ok (.invokestatic 138, 3) := by decide +kernel
theorem dX8_ruled_21 : decode cX8_ruled 21 = .ok (.ifCond .eq 15, 3) := by decide +kernel
theorem dX8_ruled_24 : decode cX8_ruled 24 = .ok (.aload_n 0, 1) := by decide +kernel
theorem dX8_ruled_25 : decode cX8_ruled 25 = .ok (.getfield 53, 3) := by decide +kernel
theorem dX8_ruled_28 : decode cX8_ruled 28 = .ok (.aload_n 0, 1) := by decide +kernel
theorem dX8_ruled_29 : decode cX8_ruled 29 = .ok (.getfield 60, 3) := by decide +kernel
theorem dX8_ruled_32 : decode cX8_ruled 32 = .ok (.aaload, 1) := by decide +kernel
theorem dX8_ruled_33 : decode cX8_ruled 33 = .ok (.goto 4, 3) := by decide +kernel
theorem dX8_ruled_36 : decode cX8_ruled 36 = .ok (.aconst_null, 1) := by decide +kernel
theorem dX8_ruled_37 : decode cX8_ruled 37 = .ok (.astore 8, 2) := by decide +kernel
theorem dX8_ruled_39 : decode cX8_ruled 39 = .ok (.aload 7, 2) := by decide +kernel
theorem dX8_ruled_41 : decode cX8_ruled 41 = .ok (.ifnull 8, 3) := by decide +kernel
theorem dX8_ruled_44 : decode cX8_ruled 44 = .ok (.aload 8, 2) := by decide +kernel
theorem dX8_ruled_46 : decode cX8_ruled 46 = .ok (.ifnonnull 5, 3) := by decide +kernel
theorem dX8_ruled_49 : decode cX8_ruled 49 = .ok (.iconst 0, 1) := by decide +kernel
theorem dX8_ruled_50 : decode cX8_ruled 50 = .ok (.ireturn, 1) := by decide +kernel
theorem dX8_ruled_51 : decode cX8_ruled 51 = .ok (.aload_n 0, 1) := by decide +kernel
theorem dX8_ruled_52 : decode cX8_ruled 52 = .ok (.getfield 83, 3) := by decide +kernel
theorem dX8_ruled_55 : decode cX8_ruled 55 = .ok (.iconst 0, 1) := by decide +kernel
theorem dX8_ruled_56 : decode cX8_ruled 56 = .ok (.aload 7, 2) := by decide +kernel
theorem dX8_ruled_58 : decode cX8_ruled 58 = .ok (.getfield 141, 3) := by decide +kernel
theorem dX8_ruled_61 : decode cX8_ruled 61 = .ok (.iastore, 1) := by decide +kernel
theorem dX8_ruled_62 : decode cX8_ruled 62 = .ok (.aload_n 0, 1) := by decide +kernel
theorem dX8_ruled_63 : decode cX8_ruled 63 = .ok (.getfield 83, 3) := by decide +kernel
theorem dX8_ruled_66 : decode cX8_ruled 66 = .ok (.iconst 1, 1) := by decide +kernel
theorem dX8_ruled_67 : decode cX8_ruled 67 = .ok (.iload_n 3, 1) := by decide +kernel
theorem dX8_ruled_68 : decode cX8_ruled 68 = .ok (.iastore, 1) := by decide +kernel
theorem dX8_ruled_69 : decode cX8_ruled 69 = .ok (.aload_n 0, 1) := by decide +kernel
theorem dX8_ruled_70 : decode cX8_ruled 70 = .ok (.getfield 83, 3) := by decide +kernel
theorem dX8_ruled_73 : decode cX8_ruled 73 = .ok (.iconst 2, 1) := by decide +kernel
theorem dX8_ruled_74 : decode cX8_ruled 74 = .ok (.iload 4, 2) := by decide +kernel
theorem dX8_ruled_76 : decode cX8_ruled 76 = .ok (.iastore, 1) := by decide +kernel
theorem dX8_ruled_77 : decode cX8_ruled 77 = .ok (.aload_n 0, 1) := by decide +kernel
theorem dX8_ruled_78 : decode cX8_ruled 78 = .ok (.getfield 83, 3) := by decide +kernel
theorem dX8_ruled_81 : decode cX8_ruled 81 = .ok (.iconst 3, 1) := by decide +kernel
theorem dX8_ruled_82 : decode cX8_ruled 82 = .ok (.iload 5, 2) := by decide +kernel
theorem dX8_ruled_84 : decode cX8_ruled 84 = .ok (.iastore, 1) := by decide +kernel
theorem dX8_ruled_85 : decode cX8_ruled 85 = .ok (.aload_n 0, 1) := by decide +kernel
theorem dX8_ruled_86 : decode cX8_ruled 86 = .ok (.getfield 83, 3) := by decide +kernel
theorem dX8_ruled_89 : decode cX8_ruled 89 = .ok (.iconst 4, 1) := by decide +kernel
theorem dX8_ruled_90 : decode cX8_ruled 90 = .ok (.aload 7, 2) := by decide +kernel
theorem dX8_ruled_92 : decode cX8_ruled 92 = .ok (.getfield 144, 3) := by decide +kernel
theorem dX8_ruled_95 : decode cX8_ruled 95 = .ok (.iastore, 1) := by decide +kernel
theorem dX8_ruled_96 : decode cX8_ruled 96 = .ok (.aload_n 0, 1) := by decide +kernel
theorem dX8_ruled_97 : decode cX8_ruled 97 = .ok (.getfield 83, 3) := by decide +kernel
theorem dX8_ruled_100 : decode cX8_ruled 100 = .ok (.iconst 5, 1) := by decide +kernel
theorem dX8_ruled_101 : decode cX8_ruled 101 = .ok (.iload 6, 2) := by decide +kernel
theorem dX8_ruled_103 : decode cX8_ruled 103 = .ok (.iconst (-1), 1) := by decide +kernel
theorem dX8_ruled_104 : decode cX8_ruled 104 = .ok (.if_icmp .ne 11, 3) := by decide +kernel
theorem dX8_ruled_107 : decode cX8_ruled 107 = .ok (.aload 7, 2) := by decide +kernel
theorem dX8_ruled_109 : decode cX8_ruled 109 = .ok (.getfield 170, 3) := by decide +kernel
theorem dX8_ruled_112 : decode cX8_ruled 112 = .ok (.goto 5, 3) := by decide +kernel
theorem dX8_ruled_115 : decode cX8_ruled 115 = .ok (.iload 6, 2) := by decide +kernel
theorem dX8_ruled_117 : decode cX8_ruled 117 = .ok (.iastore, 1) := by decide +kernel
theorem dX8_ruled_118 : decode cX8_ruled 118 = .ok (.aload 8, 2) := by decide +kernel
theorem dX8_ruled_120 : decode cX8_ruled 120 = .ok (.iload_n 1, 1) := by decide +kernel
theorem dX8_ruled_121 : decode cX8_ruled 121 = .ok (.aload_n 0, 1) := by decide +kernel
theorem dX8_ruled_122 : decode cX8_ruled 122 = .ok (.getfield 83, 3) := by decide +kernel
theorem dX8_ruled_125 : decode cX8_ruled 125 = .ok (.invokevirtual 389, 3) := by decide +kernel
theorem dX8_ruled_128 : decode cX8_ruled 128 = .ok (.ireturn, 1) := by decide +kernel
theorem gX8_60 {p : Program} {l : Launch} {e : Env} {R : Room} {s : State} {m : MethodId} {args : Array Value} {below : List Frame} {meth : Method} {c : Code} {H : Heap} {locs : List Loc} {cells slots : Nat} {Q : State → Prop} {cc : ByteArray} {pc nL : Nat} {ls : Array Slot} {rest : List Value} {ret : Option FieldType} {G : xG} {β : Nat} {D : Nat → Prop} {x : XS} (C : Cx p s m args meth c RX8 cc nL ret (KK G)) (hw : CW β D G x H) (hd : decode cc pc = .ok (.getfield 60, 3)) (kk : W p l e R s m args below meth c H locs cells slots Q (F0 m (pc + 3) ls (.int (x.1 0 10) :: rest))) : W p l e R s m args below meth c H locs cells slots Q (F0 m pc ls (.ref β :: rest)) :=
  va_get C.1 C.2.1 C.2.2.2.2.1 iwX8 C.2.2.2.1 C.K.1 (xP1 (hw.2.2.1 0 (by decide))) 0 rfl rfl 10 (by decide) (C.2.2.2.2.1 (.fieldLink RX8 60 RX8 "rule" "I") (tg 357 (by decide +kernel) rfl)) (fun _ h9 => h9) rfl hd kk
theorem gX8_57 {p : Program} {l : Launch} {e : Env} {R : Room} {s : State} {m : MethodId} {args : Array Value} {below : List Frame} {meth : Method} {c : Code} {H : Heap} {locs : List Loc} {cells slots : Nat} {Q : State → Prop} {cc : ByteArray} {pc nL : Nat} {ls : Array Slot} {rest : List Value} {ret : Option FieldType} {G : xG} {β : Nat} {D : Nat → Prop} {x : XS} (C : Cx p s m args meth c RX8 cc nL ret (KK G)) (hw : CW β D G x H) (hd : decode cc pc = .ok (.getfield 57, 3)) (kk : W p l e R s m args below meth c H locs cells slots Q (F0 m (pc + 3) ls (.int (x.1 0 9) :: rest))) : W p l e R s m args below meth c H locs cells slots Q (F0 m pc ls (.ref β :: rest)) :=
  va_get C.1 C.2.1 C.2.2.2.2.1 iwX8 C.2.2.2.1 C.K.1 (xP1 (hw.2.2.1 0 (by decide))) 0 rfl rfl 9 (by decide) (C.2.2.2.2.1 (.fieldLink RX8 57 RX8 "textCount" "I") (tg 356 (by decide +kernel) rfl)) (fun _ h9 => h9) rfl hd kk
theorem gX8_53 {p : Program} {l : Launch} {e : Env} {R : Room} {s : State} {m : MethodId} {args : Array Value} {below : List Frame} {meth : Method} {c : Code} {H : Heap} {locs : List Loc} {cells slots : Nat} {Q : State → Prop} {cc : ByteArray} {pc nL : Nat} {ls : Array Slot} {rest : List Value} {ret : Option FieldType} {G : xG} {β : Nat} {D : Nat → Prop} {x : XS} (C : Cx p s m args meth c RX8 cc nL ret (KK G)) (hw : CW β D G x H) (hd : decode cc pc = .ok (.getfield 53, 3)) (kk : W p l e R s m args below meth c H locs cells slots Q (F0 m (pc + 3) ls (.ref (β + 9) :: rest))) : W p l e R s m args below meth c H locs cells slots Q (F0 m pc ls (.ref β :: rest)) :=
  va_get C.1 C.2.1 C.2.2.2.2.1 iwX8 C.2.2.2.1 C.K.1 (xP1 (hw.2.2.1 0 (by decide))) 0 rfl rfl 8 (by decide) (C.2.2.2.2.1 (.fieldLink RX8 53 RX8 "texts" "[LAtThePost$Text;") (tg 355 (by decide +kernel) rfl)) (fun _ h9 => h9) rfl hd kk
theorem alX_9 {p : Program} {l : Launch} {e : Env} {R : Room} {s : State} {m : MethodId} {args : Array Value} {below : List Frame} {meth : Method} {c : Code} {H : Heap} {locs : List Loc} {cells slots : Nat} {Q : State → Prop} {cc : ByteArray} {pc nL : Nat} {ls : Array Slot} {rest : List Value} {ret : Option FieldType} {G : xG} {β : Nat} {D : Nat → Prop} {x : XS} {own : String} {i : Int32} (C : Cx p s m args meth c own cc nL ret (KK G)) (hw : CW β D G x H) (hin : ib i 6) (hd : decode cc pc = .ok (.aaload, 1)) (kk : W p l e R s m args below meth c H locs cells slots Q (F0 m (pc + 1) ls (va_rf (x.2.2.1 9 i.toNatClampNeg) :: rest))) : W p l e R s m args below meth c H locs cells slots Q (F0 m pc ls (.int i :: .ref (β + 9) :: rest)) :=
  va_aldq (C := "AtThePost$Text") C.1 C.2.1 C.K.1 (xP1 (hw.2.2.1 9 (by decide))) 0 7 rfl rfl hin hd kk
theorem gX8_83 {p : Program} {l : Launch} {e : Env} {R : Room} {s : State} {m : MethodId} {args : Array Value} {below : List Frame} {meth : Method} {c : Code} {H : Heap} {locs : List Loc} {cells slots : Nat} {Q : State → Prop} {cc : ByteArray} {pc nL : Nat} {ls : Array Slot} {rest : List Value} {ret : Option FieldType} {G : xG} {β : Nat} {D : Nat → Prop} {x : XS} (C : Cx p s m args meth c RX8 cc nL ret (KK G)) (hw : CW β D G x H) (hd : decode cc pc = .ok (.getfield 83, 3)) (kk : W p l e R s m args below meth c H locs cells slots Q (F0 m (pc + 3) ls (.ref (β + 22) :: rest))) : W p l e R s m args below meth c H locs cells slots Q (F0 m pc ls (.ref β :: rest)) :=
  va_get C.1 C.2.1 C.2.2.2.2.1 iwX8 C.2.2.2.1 C.K.1 (xP1 (hw.2.2.1 0 (by decide))) 0 rfl rfl 14 (by decide) (C.2.2.2.2.1 (.fieldLink RX8 83 RX8 "nameValues" "[I") (tg 361 (by decide +kernel) rfl)) (fun _ h9 => h9) rfl hd kk
theorem asX_22 {p : Program} {l : Launch} {e : Env} {R : Room} {s : State} {m : MethodId} {args : Array Value} {below : List Frame} {meth : Method} {c : Code} {H : Heap} {locs : List Loc} {cells slots : Nat} {Q : State → Prop} {cc : ByteArray} {pc nL : Nat} {ls : Array Slot} {rest : List Value} {ret : Option FieldType} {G : xG} {β : Nat} {D : Nat → Prop} {x : XS} {own : String} {i : Int32} {v : Int32} (C : Cx p s m args meth c own cc nL ret (KK G)) (hw : CW β D G x H) (hS : va_S D s.heap H locs) (hin : ib i 6) (hd : decode cc pc = .ok (.iastore, 1)) (kk : ∀ (H1 : Heap) (locs1 : List Loc), CW β D G (xsA x 22 i.toNatClampNeg v) H1 → va_S D s.heap H1 locs1 → W p l e R s m args below meth c H1 locs1 cells slots Q (F0 m (pc + 1) ls (rest))) : W p l e R s m args below meth c H locs cells slots Q (F0 m pc ls (.int v :: .int i :: .ref (β + 22) :: rest)) :=
  x_iast C.1 C.2.1 C.K.1 hS 0 (hw.2.2.1 22 (by decide)) (hw.2.1 22 (by decide)) rfl hin hd (fun H1 locs1 hat ho hS => kk H1 locs1 (hw.setA 22 _ _ hat ho) hS)
theorem sX8_389 {p : Program} {l : Launch} {e : Env} {R : Room} {s : State} {m : MethodId} {args : Array Value} {below : List Frame} {meth : Method} {c : Code} {H : Heap} {locs : List Loc} {cells slots : Nat} {Q : State → Prop} {cc : ByteArray} {pc nL : Nat} {ls : Array Slot} {rest : List Value} {ret : Option FieldType}  {G : xG} {β : Nat} {D : Nat → Prop} {x x' : XS} {a0 : Nat} {a1 : Int32} {r : Int32} (C : Cx p s m args meth c RX8 cc nL ret (KK G)) (hk : dK x a0 7 = true) (h : fX7_valueOf x a0 a1 = some (r, x')) (hw : CW β D G x H) (hS : va_S D s.heap H locs) (hsz : ls.size = nL) (hW : (rest.map fun v => v.category).sum ≤ 8) (hR : 3 ≤ R.frames) (hR2 : 68 ≤ R.locals) (hcs : cells ≤ R.cells ∧ slots ≤ R.slots) (hd : decode cc pc = .ok (.invokevirtual 389, 3)) (kk : ∀ (H1 : Heap) (locs1 : List Loc), CW β D G x' H1 → va_S D s.heap H1 locs1 → W p l e R s m args below meth c H1 locs1 cells slots Q (F0 m (pc + 3) ls (.int r :: rest))) : W p l e R s m args below meth c H locs cells slots Q (F0 m pc ls (.ref (β + 22) :: .int a1 :: .ref a0 :: rest)) := by
  obtain ⟨fs0, hfs0⟩ := dK_e hk
  exact xcallV C (As := [.int a1, .ref (β + 22)]) (rest := rest) (nA := 2) (ci := 7) (kX7_valueOf h) (tg 522 (by decide +kernel) rfl) (tg 523 (by decide +kernel) rfl) (tg 524 (by decide +kernel) rfl) (tg 11 (by decide +kernel) rfl) (tg 525 (by decide +kernel) rfl) ⟨rfl, by decide +kernel, by decide +kernel, by decide +kernel⟩ rfl rfl rfl ⟨hR, hR2⟩ ((hw.2.2.2.1 a0 _ hfs0).2.2.2) hw hS (fun _ q => q) rfl rfl hsz hW hd hcs (fun H1 locs1 hw hz hk hS => kk H1 locs1 hw hS)
theorem gdX8_170 {p : Program} {l : Launch} {e : Env} {R : Room} {s : State} {m : MethodId} {args : Array Value} {below : List Frame} {meth : Method} {c : Code} {H : Heap} {locs : List Loc} {cells slots : Nat} {Q : State → Prop} {cc : ByteArray} {pc nL : Nat} {ls : Array Slot} {rest : List Value} {ret : Option FieldType}  {G : xG} {β : Nat} {D : Nat → Prop} {x : XS} {a : Nat} {v : Int32} (C : Cx p s m args meth c RX8 cc nL ret (KK G)) (h : dI x a 1 2 = some v) (hw : CW β D G x H) (hd : decode cc pc = .ok (.getfield 170, 3)) (kk : W p l e R s m args below meth c H locs cells slots Q (F0 m (pc + 3) ls (.int v :: rest))) : W p l e R s m args below meth c H locs cells slots Q (F0 m pc ls (.ref a :: rest)) := by
  obtain ⟨fs, h1, h2⟩ := dI_e h
  exact va_getN (ci := 1) (fs := fs) C.1 C.2.1 C.2.2.2.2.1 iwX1 C.2.2.2.1 C.K.1 (xP1 (hw.2.2.2.1 a _ h1).2.2.2) 0 rfl rfl 2 (by decide) (va_Nw.use (w := .fieldLinkNest RX8 170 RX1 "homeGround" "I" "AtThePost") rfl (C.K.2.1 (RX8, 170, RX1, "homeGround", "I") (List.mem_of_getElem? (i := 15) rfl))) (fun _ h9 => h9) h2 hd kk
def fX8_ruled (x : XS) (a1 : Int32) (a2 : Int32) (a3 : Int32) (a4 : Int32) (a5 : Int32) (a6 : Int32) : Option (Int32 × XS) := Option.bind (fX8_horseAt x a2) fun v1 => Option.bind (fX8_isWithin (x.1 0 10) 0 ((x.1 0 9) - 1)) fun v3 => Option.bind (if v3 = true then if ib (x.1 0 10) 6 then lt (x.2.2.1 9 (x.1 0 10).toNatClampNeg) fun e6 => some e6 else none else some none) fun v7 => oc v1 (some (0, x)) (fun p8 => oc v7 (some (0, x)) (fun p9 => Option.bind (dI x p8 1 3) fun v10 => if ib 0 6 then lt (xsA x 22 (0 : Int32).toNatClampNeg v10) fun x13 => if ib 1 6 then lt (xsA x13 22 (1 : Int32).toNatClampNeg a3) fun x15 => if ib 2 6 then lt (xsA x15 22 (2 : Int32).toNatClampNeg a4) fun x17 => if ib 3 6 then lt (xsA x17 22 (3 : Int32).toNatClampNeg a5) fun x19 => Option.bind (dI x19 p8 1 4) fun v20 => if ib 4 6 then lt (xsA x19 22 (4 : Int32).toNatClampNeg v20) fun x23 => if a6 = (-1) then Option.bind (dI x23 p8 1 2) fun v30 => if ib 5 6 then lt (xsA x23 22 (5 : Int32).toNatClampNeg v30) fun x33 => if dK x33 p9 7 = true then bind2 (fX7_valueOf x33 p9 a1) fun v35 x36 => some (v35, x36) else none else none else if ib 5 6 then lt (xsA x23 22 (5 : Int32).toNatClampNeg a6) fun x25 => if dK x25 p9 7 = true then bind2 (fX7_valueOf x25 p9 a1) fun v27 x28 => some (v27, x28) else none else none else none else none else none else none else none))
abbrev rmX8_ruled : Room := { frames := 3, cells := 0, slots := 0, locals := 68 }
set_option maxHeartbeats 4000000 in
set_option maxRecDepth 100000 in
theorem kX8_ruled {l : Launch} {G : xG} {β : Nat} {D : Nat → Prop} {x x' : XS} {a1 : Int32} {a2 : Int32} {a3 : Int32} {a4 : Int32} {a5 : Int32} {a6 : Int32} {r : Int32} (hm : fX8_ruled x a1 a2 a3 a4 a5 a6 = some (r, x')) : Met l yX8_ruled (.code yX8_ruled cX8_ruled 9 (some .int) :: GT) rmX8_ruled (PcW [.ref β, .int a1, .int a2, .int a3, .int a4, .int a5, .int a6] (CW β D G x) (KK G)) (QcW D (some (.int r)) (CW β D G x')) 0 0 D := by
  unfold fX8_ruled at hm
  refine xpro (own := RX8) (by decide +kernel) rfl (Nat.le_of_ble_eq_true rfl) ?_
  intro p e s m args below meth c C hw ls hl
  have hx := C.1
  have hb := C.2.1
  have ho := C.2.2.2.1
  have hts := C.2.2.2.2.1
  have hf : Fz D G s.heap := hw.2.2.2.2
  have hS : va_S D s.heap s.heap [] := va_S.rf
  have hl : lv_has ls 9 [(0, .ref β), (1, .int a1), (2, .int a2), (3, .int a3), (4, .int a4), (5, .int a5), (6, .int a6)] := hl
  have hRf : 3 ≤ rmX8_ruled.frames := Nat.le_refl _
  have hRl : 68 ≤ rmX8_ruled.locals := Nat.le_refl _
  have hcs : 0 ≤ rmX8_ruled.cells ∧ 0 ≤ rmX8_ruled.slots := ⟨Nat.le_refl _, Nat.le_refl _⟩
  refine lv_aload_n hx hb dX8_ruled_0 rfl (lv_at hl 0 rfl) ?_
  refine lv_iload_n hx hb dX8_ruled_1 rfl (lv_at hl 2 rfl) ?_
  obtain ⟨v1, h2, hm⟩ := bind_e hm
  refine sX8_134 C h2 hw hS hl.1 (Nat.le_of_ble_eq_true rfl) (Nat.le_trans (Nat.le_of_ble_eq_true rfl) hRf) (Nat.le_trans (Nat.le_of_ble_eq_true rfl) hRl) hcs dX8_ruled_2 (fun H locs hw hS => ?_)
  refine x_astoreq (lv' := [(7, va_rf v1), (0, .ref β), (1, .int a1), (2, .int a2), (3, .int a3), (4, .int a4), (5, .int a5), (6, .int a6)]) hx hb dX8_ruled_5 hl (by decide) rfl (fun ls hl => ?_)
  refine lv_aload_n hx hb dX8_ruled_7 rfl (lv_at hl 1 rfl) ?_
  refine gX8_60 C hw dX8_ruled_8 ?_
  refine lv_iconst (v := 0) hx hb dX8_ruled_11 (by decide) ?_
  refine lv_aload_n hx hb dX8_ruled_12 rfl (lv_at hl 1 rfl) ?_
  refine gX8_57 C hw dX8_ruled_13 ?_
  refine lv_iconst (v := 1) hx hb dX8_ruled_16 (by decide) ?_
  refine lv_isub hx hb dX8_ruled_17 ?_
  obtain ⟨v3, h4, hm⟩ := bind_e hm
  refine sX8_138 C h4 hw hS hl.1 (Nat.le_of_ble_eq_true rfl) (Nat.le_trans (Nat.le_of_ble_eq_true rfl) hRf) (Nat.le_trans (Nat.le_of_ble_eq_true rfl) hRl) hcs dX8_ruled_18 (fun H locs hw hS => ?_)
  obtain ⟨v7, hj, hm⟩ := bind_e hm
  have kk : ∀ (H : Heap) (locs : List Loc) (ls : Array Slot), CW β D G x H → va_S D s.heap H locs → lv_has ls 9 [(0, .ref β), (1, .int a1), (3, .int a3), (4, .int a4), (5, .int a5), (6, .int a6), (7, va_rf v1)] → W p l e rmX8_ruled s m args below meth c H locs 0 0 (MQ below (QcW D (some (.int r)) (CW β D G x')) args s 0 0 D) (F0 m 37 ls [va_rf v7]) := by
    intro H locs ls hw hS hl
    refine x_astoreq (lv' := [(8, va_rf v7), (0, .ref β), (1, .int a1), (3, .int a3), (4, .int a4), (5, .int a5), (6, .int a6), (7, va_rf v1)]) hx hb dX8_ruled_37 hl (by decide) (by cases v1 <;> rfl) (fun ls hl => ?_)
    refine x_aloadq hx hb dX8_ruled_39 (lv_at hl 7 rfl) ?_
    rcases v1 with _ | p8
    · replace hm := oc_n hm
      refine lv_ifnullN (tgt := 49) hx hb dX8_ruled_41 (by decide) ?_
      refine lv_iconst (v := 0) hx hb dX8_ruled_49 (by decide) ?_
      obtain ⟨rfl, rfl⟩ := inj2 hm
      exact xret_i C hw hS dX8_ruled_50
    · replace hm := oc_s hm
      refine lv_ifnull hx hb dX8_ruled_41 ?_
      refine x_aloadq hx hb dX8_ruled_44 (lv_at hl 0 rfl) ?_
      rcases v7 with _ | p9
      · replace hm := oc_n hm
        refine lv_ifnonnullN hx hb dX8_ruled_46 ?_
        refine lv_iconst (v := 0) hx hb dX8_ruled_49 (by decide) ?_
        obtain ⟨rfl, rfl⟩ := inj2 hm
        exact xret_i C hw hS dX8_ruled_50
      · replace hm := oc_s hm
        refine lv_ifnonnull (tgt := 51) hx hb dX8_ruled_46 (by decide) ?_
        refine lv_aload_n hx hb dX8_ruled_51 rfl (lv_at hl 1 rfl) ?_
        refine gX8_83 C hw dX8_ruled_52 ?_
        refine lv_iconst (v := 0) hx hb dX8_ruled_55 (by decide) ?_
        refine lv_aload hx hb dX8_ruled_56 (lv_at hl 7 rfl) ?_
        obtain ⟨v10, h11, hm⟩ := bind_e hm
        refine gdX8_141 C h11 hw dX8_ruled_58 ?_
        obtain ⟨h12, hm⟩ := chk_e hm
        refine asX_22 C hw hS h12 dX8_ruled_61 (fun H locs hw hS => ?_)
        obtain ⟨x13, ev, hm⟩ := lt_e hm
        rw [← ev] at hw
        clear ev
        refine lv_aload_n hx hb dX8_ruled_62 rfl (lv_at hl 1 rfl) ?_
        refine gX8_83 C hw dX8_ruled_63 ?_
        refine lv_iconst (v := 1) hx hb dX8_ruled_66 (by decide) ?_
        refine lv_iload_n hx hb dX8_ruled_67 rfl (lv_at hl 3 rfl) ?_
        obtain ⟨h14, hm⟩ := chk_e hm
        refine asX_22 C hw hS h14 dX8_ruled_68 (fun H locs hw hS => ?_)
        obtain ⟨x15, ev, hm⟩ := lt_e hm
        rw [← ev] at hw
        clear ev
        refine lv_aload_n hx hb dX8_ruled_69 rfl (lv_at hl 1 rfl) ?_
        refine gX8_83 C hw dX8_ruled_70 ?_
        refine lv_iconst (v := 2) hx hb dX8_ruled_73 (by decide) ?_
        refine lv_iload hx hb dX8_ruled_74 (lv_at hl 4 rfl) ?_
        obtain ⟨h16, hm⟩ := chk_e hm
        refine asX_22 C hw hS h16 dX8_ruled_76 (fun H locs hw hS => ?_)
        obtain ⟨x17, ev, hm⟩ := lt_e hm
        rw [← ev] at hw
        clear ev
        refine lv_aload_n hx hb dX8_ruled_77 rfl (lv_at hl 1 rfl) ?_
        refine gX8_83 C hw dX8_ruled_78 ?_
        refine lv_iconst (v := 3) hx hb dX8_ruled_81 (by decide) ?_
        refine lv_iload hx hb dX8_ruled_82 (lv_at hl 5 rfl) ?_
        obtain ⟨h18, hm⟩ := chk_e hm
        refine asX_22 C hw hS h18 dX8_ruled_84 (fun H locs hw hS => ?_)
        obtain ⟨x19, ev, hm⟩ := lt_e hm
        rw [← ev] at hw
        clear ev
        refine lv_aload_n hx hb dX8_ruled_85 rfl (lv_at hl 1 rfl) ?_
        refine gX8_83 C hw dX8_ruled_86 ?_
        refine lv_iconst (v := 4) hx hb dX8_ruled_89 (by decide) ?_
        refine lv_aload hx hb dX8_ruled_90 (lv_at hl 7 rfl) ?_
        obtain ⟨v20, h21, hm⟩ := bind_e hm
        refine gdX8_144 C h21 hw dX8_ruled_92 ?_
        obtain ⟨h22, hm⟩ := chk_e hm
        refine asX_22 C hw hS h22 dX8_ruled_95 (fun H locs hw hS => ?_)
        obtain ⟨x23, ev, hm⟩ := lt_e hm
        rw [← ev] at hw
        clear ev
        refine lv_aload_n hx hb dX8_ruled_96 rfl (lv_at hl 1 rfl) ?_
        refine gX8_83 C hw dX8_ruled_97 ?_
        refine lv_iconst (v := 5) hx hb dX8_ruled_100 (by decide) ?_
        refine lv_iload hx hb dX8_ruled_101 (lv_at hl 6 rfl) ?_
        refine lv_iconst (v := (-1)) hx hb dX8_ruled_103 (by decide) ?_
        refine lv_icmp_ne (tgt := 115) hx hb dX8_ruled_104 (by decide) (fun cc => ?_) (fun cc => ?_)
        · replace hm := ite_n cc hm
          refine lv_iload hx hb dX8_ruled_115 (lv_at hl 6 rfl) ?_
          obtain ⟨h24, hm⟩ := chk_e hm
          refine asX_22 C hw hS h24 dX8_ruled_117 (fun H locs hw hS => ?_)
          obtain ⟨x25, ev, hm⟩ := lt_e hm
          rw [← ev] at hw
          clear ev
          refine lv_aload hx hb dX8_ruled_118 (lv_at hl 0 rfl) ?_
          refine lv_iload_n hx hb dX8_ruled_120 rfl (lv_at hl 2 rfl) ?_
          refine lv_aload_n hx hb dX8_ruled_121 rfl (lv_at hl 1 rfl) ?_
          refine gX8_83 C hw dX8_ruled_122 ?_
          obtain ⟨h26, hm⟩ := chk_e hm
          obtain ⟨v27, x28, h29, hm⟩ := bind2_e hm
          refine sX8_389 C h26 h29 hw hS hl.1 (Nat.le_of_ble_eq_true rfl) (Nat.le_trans (Nat.le_of_ble_eq_true rfl) hRf) (Nat.le_trans (Nat.le_of_ble_eq_true rfl) hRl) hcs dX8_ruled_125 (fun H locs hw hS => ?_)
          obtain ⟨rfl, rfl⟩ := inj2 hm
          exact xret_i C hw hS dX8_ruled_128
        · replace hm := ite_p cc hm
          refine lv_aload hx hb dX8_ruled_107 (lv_at hl 7 rfl) ?_
          obtain ⟨v30, h31, hm⟩ := bind_e hm
          refine gdX8_170 C h31 hw dX8_ruled_109 ?_
          refine lv_goto (tgt := 117) hx hb dX8_ruled_112 (by decide) ?_
          obtain ⟨h32, hm⟩ := chk_e hm
          refine asX_22 C hw hS h32 dX8_ruled_117 (fun H locs hw hS => ?_)
          obtain ⟨x33, ev, hm⟩ := lt_e hm
          rw [← ev] at hw
          clear ev
          refine lv_aload hx hb dX8_ruled_118 (lv_at hl 0 rfl) ?_
          refine lv_iload_n hx hb dX8_ruled_120 rfl (lv_at hl 2 rfl) ?_
          refine lv_aload_n hx hb dX8_ruled_121 rfl (lv_at hl 1 rfl) ?_
          refine gX8_83 C hw dX8_ruled_122 ?_
          obtain ⟨h34, hm⟩ := chk_e hm
          obtain ⟨v35, x36, h37, hm⟩ := bind2_e hm
          refine sX8_389 C h34 h37 hw hS hl.1 (Nat.le_of_ble_eq_true rfl) (Nat.le_trans (Nat.le_of_ble_eq_true rfl) hRf) (Nat.le_trans (Nat.le_of_ble_eq_true rfl) hRl) hcs dX8_ruled_125 (fun H locs hw hS => ?_)
          obtain ⟨rfl, rfl⟩ := inj2 hm
          exact xret_i C hw hS dX8_ruled_128
  clear hm
  replace hm := hj
  clear hj
  refine x_ifeqB hx hb dX8_ruled_21 (tgt := 36) (by decide) (fun cc => ?_) (fun cc => ?_)
  · replace hm := ite_n cc hm
    refine lv_null hx hb dX8_ruled_36 ?_
    obtain rfl := Option.some.inj hm
    exact kk _ _ _ hw hS (lv_sub hl [1, 2, 4, 5, 6, 7, 0] rfl)
  · replace hm := ite_p cc hm
    refine lv_aload_n hx hb dX8_ruled_24 rfl (lv_at hl 1 rfl) ?_
    refine gX8_53 C hw dX8_ruled_25 ?_
    refine lv_aload_n hx hb dX8_ruled_28 rfl (lv_at hl 1 rfl) ?_
    refine gX8_60 C hw dX8_ruled_29 ?_
    obtain ⟨h5, hm⟩ := chk_e hm
    refine alX_9 C hw h5 dX8_ruled_32 ?_
    refine topR hm (fun e6 hm => ?_)
    refine lv_goto (tgt := 37) hx hb dX8_ruled_33 (by decide) ?_
    obtain rfl := Option.some.inj hm
    exact kk _ _ _ hw hS (lv_sub hl [1, 2, 4, 5, 6, 7, 0] rfl)
theorem dX8_ruledAhead_0 : decode cX8_ruledAhead 0 = .ok (.aload_n 0, 1) := by decide +kernel
theorem dX8_ruledAhead_1 : decode cX8_ruledAhead 1 = .ok (.iload_n 1, 1) := by decide +kernel
theorem dX8_ruledAhead_2 : decode cX8_ruledAhead 2 = .ok (.iload_n 2, 1) := by decide +kernel
theorem dX8_ruledAhead_3 : decode cX8_ruledAhead 3 = .ok (.iload_n 3, 1) := by decide +kernel
theorem dX8_ruledAhead_4 : decode cX8_ruledAhead 4 = .ok (.aload_n 0, 1) := by decide +kernel
theorem dX8_ruledAhead_5 : decode cX8_ruledAhead 5 = .ok (.iload_n 2, 1) := by decide +kernel
theorem dX8_ruledAhead_6 : decode cX8_ruledAhead 6 = .ok (.invokevirtual 173, 3) := by decide +kernel
theorem dX8_ruledAhead_9 : decode cX8_ruledAhead 9 = .ok (.iconst 0, 1) := by decide +kernel
theorem dX8_ruledAhead_10 : decode cX8_ruledAhead 10 = .ok (.iconst (-1), 1) := by decide +kernel
theorem dX8_ruledAhead_11 : decode cX8_ruledAhead 11 = .ok (.invokevirtual 393, 3) := by decide +kernel
theorem dX8_ruledAhead_14 : decode cX8_ruledAhead 14 = .ok (.ireturn, 1) := by decide +kernel
theorem sX8_173 {p : Program} {l : Launch} {e : Env} {R : Room} {s : State} {m : MethodId} {args : Array Value} {below : List Frame} {meth : Method} {c : Code} {H : Heap} {locs : List Loc} {cells slots : Nat} {Q : State → Prop} {cc : ByteArray} {pc nL : Nat} {ls : Array Slot} {rest : List Value} {ret : Option FieldType}  {G : xG} {β : Nat} {D : Nat → Prop} {x : XS} {a1 : Int32} {r : Int32} (C : Cx p s m args meth c RX8 cc nL ret (KK G)) (h : fX8_racesWon x a1 = some r) (hw : CW β D G x H) (hS : va_S D s.heap H locs) (hsz : ls.size = nL) (hW : (rest.map fun v => v.category).sum ≤ 8) (hR : 3 ≤ R.frames) (hR2 : 67 ≤ R.locals) (hcs : cells ≤ R.cells ∧ slots ≤ R.slots) (hd : decode cc pc = .ok (.invokevirtual 173, 3)) (kk : ∀ (H1 : Heap) (locs1 : List Loc), CW β D G x H1 → va_S D s.heap H1 locs1 → W p l e R s m args below meth c H1 locs1 cells slots Q (F0 m (pc + 3) ls (.int r :: rest))) : W p l e R s m args below meth c H locs cells slots Q (F0 m pc ls (.int a1 :: .ref β :: rest)) := by
  exact xcallV C (As := [.int a1]) (rest := rest) (nA := 1) (ci := 8) (kX8_racesWon h) (tg 494 (by decide +kernel) rfl) (tg 496 (by decide +kernel) rfl) (sg (List.mem_of_getElem? (i := 17) (by decide +kernel)) rfl) (tg 1 (by decide +kernel) rfl) (tg 497 (by decide +kernel) rfl) ⟨rfl, by decide +kernel, by decide +kernel, by decide +kernel⟩ rfl rfl rfl ⟨hR, hR2⟩ (hw.2.2.1 0 (by decide)) hw hS (fun _ q => q) rfl rfl hsz hW hd hcs (fun H1 locs1 hw hz hk hS => kk H1 locs1 hw hS)
theorem sX8_393 {p : Program} {l : Launch} {e : Env} {R : Room} {s : State} {m : MethodId} {args : Array Value} {below : List Frame} {meth : Method} {c : Code} {H : Heap} {locs : List Loc} {cells slots : Nat} {Q : State → Prop} {cc : ByteArray} {pc nL : Nat} {ls : Array Slot} {rest : List Value} {ret : Option FieldType}  {G : xG} {β : Nat} {D : Nat → Prop} {x x' : XS} {a1 : Int32} {a2 : Int32} {a3 : Int32} {a4 : Int32} {a5 : Int32} {a6 : Int32} {r : Int32} (C : Cx p s m args meth c RX8 cc nL ret (KK G)) (h : fX8_ruled x a1 a2 a3 a4 a5 a6 = some (r, x')) (hw : CW β D G x H) (hS : va_S D s.heap H locs) (hsz : ls.size = nL) (hW : (rest.map fun v => v.category).sum ≤ 8) (hR : 4 ≤ R.frames) (hR2 : 96 ≤ R.locals) (hcs : cells ≤ R.cells ∧ slots ≤ R.slots) (hd : decode cc pc = .ok (.invokevirtual 393, 3)) (kk : ∀ (H1 : Heap) (locs1 : List Loc), CW β D G x' H1 → va_S D s.heap H1 locs1 → W p l e R s m args below meth c H1 locs1 cells slots Q (F0 m (pc + 3) ls (.int r :: rest))) : W p l e R s m args below meth c H locs cells slots Q (F0 m pc ls (.int a6 :: .int a5 :: .int a4 :: .int a3 :: .int a2 :: .int a1 :: .ref β :: rest)) := by
  exact xcallV C (As := [.int a1, .int a2, .int a3, .int a4, .int a5, .int a6]) (rest := rest) (nA := 6) (ci := 8) (kX8_ruled h) (tg 518 (by decide +kernel) rfl) (tg 520 (by decide +kernel) rfl) (sg (List.mem_of_getElem? (i := 22) (by decide +kernel)) rfl) (tg 1 (by decide +kernel) rfl) (tg 521 (by decide +kernel) rfl) ⟨rfl, by decide +kernel, by decide +kernel, by decide +kernel⟩ rfl rfl rfl ⟨hR, hR2⟩ (hw.2.2.1 0 (by decide)) hw hS (fun _ q => q) rfl rfl hsz hW hd hcs (fun H1 locs1 hw hz hk hS => kk H1 locs1 hw hS)
def fX8_ruledAhead (x : XS) (a1 : Int32) (a2 : Int32) (a3 : Int32) : Option (Int32 × XS) := Option.bind (fX8_racesWon x a2) fun v1 => bind2 (fX8_ruled x a1 a2 a3 v1 0 (-1)) fun v3 x4 => some (v3, x4)
abbrev rmX8_ruledAhead : Room := { frames := 4, cells := 0, slots := 0, locals := 96 }
set_option maxHeartbeats 4000000 in
set_option maxRecDepth 100000 in
theorem kX8_ruledAhead {l : Launch} {G : xG} {β : Nat} {D : Nat → Prop} {x x' : XS} {a1 : Int32} {a2 : Int32} {a3 : Int32} {r : Int32} (hm : fX8_ruledAhead x a1 a2 a3 = some (r, x')) : Met l yX8_ruledAhead (.code yX8_ruledAhead cX8_ruledAhead 4 (some .int) :: GT) rmX8_ruledAhead (PcW [.ref β, .int a1, .int a2, .int a3] (CW β D G x) (KK G)) (QcW D (some (.int r)) (CW β D G x')) 0 0 D := by
  unfold fX8_ruledAhead at hm
  refine xpro (own := RX8) (by decide +kernel) rfl (Nat.le_of_ble_eq_true rfl) ?_
  intro p e s m args below meth c C hw ls hl
  have hx := C.1
  have hb := C.2.1
  have ho := C.2.2.2.1
  have hts := C.2.2.2.2.1
  have hf : Fz D G s.heap := hw.2.2.2.2
  have hS : va_S D s.heap s.heap [] := va_S.rf
  have hl : lv_has ls 4 [(0, .ref β), (1, .int a1), (2, .int a2), (3, .int a3)] := hl
  have hRf : 4 ≤ rmX8_ruledAhead.frames := Nat.le_refl _
  have hRl : 96 ≤ rmX8_ruledAhead.locals := Nat.le_refl _
  have hcs : 0 ≤ rmX8_ruledAhead.cells ∧ 0 ≤ rmX8_ruledAhead.slots := ⟨Nat.le_refl _, Nat.le_refl _⟩
  refine lv_aload_n hx hb dX8_ruledAhead_0 rfl (lv_at hl 0 rfl) ?_
  refine lv_iload_n hx hb dX8_ruledAhead_1 rfl (lv_at hl 1 rfl) ?_
  refine lv_iload_n hx hb dX8_ruledAhead_2 rfl (lv_at hl 2 rfl) ?_
  refine lv_iload_n hx hb dX8_ruledAhead_3 rfl (lv_at hl 3 rfl) ?_
  refine lv_aload_n hx hb dX8_ruledAhead_4 rfl (lv_at hl 0 rfl) ?_
  refine lv_iload_n hx hb dX8_ruledAhead_5 rfl (lv_at hl 2 rfl) ?_
  obtain ⟨v1, h2, hm⟩ := bind_e hm
  refine sX8_173 C h2 hw hS hl.1 (Nat.le_of_ble_eq_true rfl) (Nat.le_trans (Nat.le_of_ble_eq_true rfl) hRf) (Nat.le_trans (Nat.le_of_ble_eq_true rfl) hRl) hcs dX8_ruledAhead_6 (fun H locs hw hS => ?_)
  refine lv_iconst (v := 0) hx hb dX8_ruledAhead_9 (by decide) ?_
  refine lv_iconst (v := (-1)) hx hb dX8_ruledAhead_10 (by decide) ?_
  obtain ⟨v3, x4, h5, hm⟩ := bind2_e hm
  refine sX8_393 C h5 hw hS hl.1 (Nat.le_of_ble_eq_true rfl) (Nat.le_trans (Nat.le_of_ble_eq_true rfl) hRf) (Nat.le_trans (Nat.le_of_ble_eq_true rfl) hRl) hcs dX8_ruledAhead_11 (fun H locs hw hS => ?_)
  obtain ⟨rfl, rfl⟩ := inj2 hm
  exact xret_i C hw hS dX8_ruledAhead_14
theorem dX8_holdCost_0 : decode cX8_holdCost 0 = .ok (.aload_n 0, 1) := by decide +kernel
theorem dX8_holdCost_1 : decode cX8_holdCost 1 = .ok (.iconst 1, 1) := by decide +kernel
theorem dX8_holdCost_2 : decode cX8_holdCost 2 = .ok (.iload_n 1, 1) := by decide +kernel
theorem dX8_holdCost_3 : decode cX8_holdCost 3 = .ok (.iload_n 2, 1) := by decide +kernel
theorem dX8_holdCost_4 : decode cX8_holdCost 4 = .ok (.invokevirtual 184, 3) := by decide +kernel
theorem dX8_holdCost_7 : decode cX8_holdCost 7 = .ok (.iconst 0, 1) := by decide +kernel
theorem dX8_holdCost_8 : decode cX8_holdCost 8 = .ok (.sipush 999, 3) := by decide +kernel
theorem dX8_holdCost_11 : decode cX8_holdCost 11 = .ok (.invokestatic 397, 3) := by decide +kernel
theorem dX8_holdCost_14 : decode cX8_holdCost 14 = .ok (.ireturn, 1) := by decide +kernel
theorem sX8_184 {p : Program} {l : Launch} {e : Env} {R : Room} {s : State} {m : MethodId} {args : Array Value} {below : List Frame} {meth : Method} {c : Code} {H : Heap} {locs : List Loc} {cells slots : Nat} {Q : State → Prop} {cc : ByteArray} {pc nL : Nat} {ls : Array Slot} {rest : List Value} {ret : Option FieldType}  {G : xG} {β : Nat} {D : Nat → Prop} {x x' : XS} {a1 : Int32} {a2 : Int32} {a3 : Int32} {r : Int32} (C : Cx p s m args meth c RX8 cc nL ret (KK G)) (h : fX8_ruledAhead x a1 a2 a3 = some (r, x')) (hw : CW β D G x H) (hS : va_S D s.heap H locs) (hsz : ls.size = nL) (hW : (rest.map fun v => v.category).sum ≤ 8) (hR : 5 ≤ R.frames) (hR2 : 119 ≤ R.locals) (hcs : cells ≤ R.cells ∧ slots ≤ R.slots) (hd : decode cc pc = .ok (.invokevirtual 184, 3)) (kk : ∀ (H1 : Heap) (locs1 : List Loc), CW β D G x' H1 → va_S D s.heap H1 locs1 → W p l e R s m args below meth c H1 locs1 cells slots Q (F0 m (pc + 3) ls (.int r :: rest))) : W p l e R s m args below meth c H locs cells slots Q (F0 m pc ls (.int a3 :: .int a2 :: .int a1 :: .ref β :: rest)) := by
  exact xcallV C (As := [.int a1, .int a2, .int a3]) (rest := rest) (nA := 3) (ci := 8) (kX8_ruledAhead h) (tg 514 (by decide +kernel) rfl) (tg 516 (by decide +kernel) rfl) (sg (List.mem_of_getElem? (i := 21) (by decide +kernel)) rfl) (tg 1 (by decide +kernel) rfl) (tg 517 (by decide +kernel) rfl) ⟨rfl, by decide +kernel, by decide +kernel, by decide +kernel⟩ rfl rfl rfl ⟨hR, hR2⟩ (hw.2.2.1 0 (by decide)) hw hS (fun _ q => q) rfl rfl hsz hW hd hcs (fun H1 locs1 hw hz hk hS => kk H1 locs1 hw hS)
theorem sX8_397 {p : Program} {l : Launch} {e : Env} {R : Room} {s : State} {m : MethodId} {args : Array Value} {below : List Frame} {meth : Method} {c : Code} {H : Heap} {locs : List Loc} {cells slots : Nat} {Q : State → Prop} {cc : ByteArray} {pc nL : Nat} {ls : Array Slot} {rest : List Value} {ret : Option FieldType}  {G : xG} {β : Nat} {D : Nat → Prop} {x : XS} {a1 : Int32} {a2 : Int32} {a3 : Int32} {r : Int32} (C : Cx p s m args meth c RX8 cc nL ret (KK G)) (h : fX8_bounded a1 a2 a3 = some r) (hw : CW β D G x H) (hS : va_S D s.heap H locs) (hsz : ls.size = nL) (hW : (rest.map fun v => v.category).sum ≤ 8) (hR : 2 ≤ R.frames) (hR2 : 43 ≤ R.locals) (hcs : cells ≤ R.cells ∧ slots ≤ R.slots) (hd : decode cc pc = .ok (.invokestatic 397, 3)) (kk : ∀ (H1 : Heap) (locs1 : List Loc), CW β D G x H1 → va_S D s.heap H1 locs1 → W p l e R s m args below meth c H1 locs1 cells slots Q (F0 m (pc + 3) ls (.int r :: rest))) : W p l e R s m args below meth c H locs cells slots Q (F0 m pc ls (.int a3 :: .int a2 :: .int a1 :: rest)) := by
  exact xcallS C (As := [.int a1, .int a2, .int a3]) (rest := rest) (nA := 3) (kX8_bounded h) (tg 544 (by decide +kernel) rfl) (tg 545 (by decide +kernel) rfl) (tg 1 (by decide +kernel) rfl) (tg 546 (by decide +kernel) rfl) ⟨by decide +kernel, by decide +kernel, by decide +kernel⟩ rfl rfl ⟨hR, hR2⟩ hw hS (fun _ q => q) rfl rfl hsz hW hd hcs (fun H1 locs1 hw hz hk hS => kk H1 locs1 hw hS)
def fX8_holdCost (x : XS) (a1 : Int32) (a2 : Int32) : Option (Int32 × XS) := bind2 (fX8_ruledAhead x 1 a1 a2) fun v1 x2 => Option.bind (fX8_bounded v1 0 999) fun v4 => some (v4, x2)
abbrev rmX8_holdCost : Room := { frames := 5, cells := 0, slots := 0, locals := 119 }
set_option maxHeartbeats 4000000 in
set_option maxRecDepth 100000 in
theorem kX8_holdCost {l : Launch} {G : xG} {β : Nat} {D : Nat → Prop} {x x' : XS} {a1 : Int32} {a2 : Int32} {r : Int32} (hm : fX8_holdCost x a1 a2 = some (r, x')) : Met l yX8_holdCost (.code yX8_holdCost cX8_holdCost 3 (some .int) :: GT) rmX8_holdCost (PcW [.ref β, .int a1, .int a2] (CW β D G x) (KK G)) (QcW D (some (.int r)) (CW β D G x')) 0 0 D := by
  unfold fX8_holdCost at hm
  refine xpro (own := RX8) (by decide +kernel) rfl (Nat.le_of_ble_eq_true rfl) ?_
  intro p e s m args below meth c C hw ls hl
  have hx := C.1
  have hb := C.2.1
  have ho := C.2.2.2.1
  have hts := C.2.2.2.2.1
  have hf : Fz D G s.heap := hw.2.2.2.2
  have hS : va_S D s.heap s.heap [] := va_S.rf
  have hl : lv_has ls 3 [(0, .ref β), (1, .int a1), (2, .int a2)] := hl
  have hRf : 5 ≤ rmX8_holdCost.frames := Nat.le_refl _
  have hRl : 119 ≤ rmX8_holdCost.locals := Nat.le_refl _
  have hcs : 0 ≤ rmX8_holdCost.cells ∧ 0 ≤ rmX8_holdCost.slots := ⟨Nat.le_refl _, Nat.le_refl _⟩
  refine lv_aload_n hx hb dX8_holdCost_0 rfl (lv_at hl 0 rfl) ?_
  refine lv_iconst (v := 1) hx hb dX8_holdCost_1 (by decide) ?_
  refine lv_iload_n hx hb dX8_holdCost_2 rfl (lv_at hl 1 rfl) ?_
  refine lv_iload_n hx hb dX8_holdCost_3 rfl (lv_at hl 2 rfl) ?_
  obtain ⟨v1, x2, h3, hm⟩ := bind2_e hm
  refine sX8_184 C h3 hw hS hl.1 (Nat.le_of_ble_eq_true rfl) (Nat.le_trans (Nat.le_of_ble_eq_true rfl) hRf) (Nat.le_trans (Nat.le_of_ble_eq_true rfl) hRl) hcs dX8_holdCost_4 (fun H locs hw hS => ?_)
  refine lv_iconst (v := 0) hx hb dX8_holdCost_7 (by decide) ?_
  refine lv_sipush (v := 999) hx hb dX8_holdCost_8 (by decide) ?_
  obtain ⟨v4, h5, hm⟩ := bind_e hm
  refine sX8_397 C h5 hw hS hl.1 (Nat.le_of_ble_eq_true rfl) (Nat.le_trans (Nat.le_of_ble_eq_true rfl) hRf) (Nat.le_trans (Nat.le_of_ble_eq_true rfl) hRl) hcs dX8_holdCost_11 (fun H locs hw hS => ?_)
  obtain ⟨rfl, rfl⟩ := inj2 hm
  exact xret_i C hw hS dX8_holdCost_14
theorem dX8_racesRun_0 : decode cX8_racesRun 0 = .ok (.iconst 0, 1) := by decide +kernel
theorem dX8_racesRun_1 : decode cX8_racesRun 1 = .ok (.istore_n 2, 1) := by decide +kernel
theorem dX8_racesRun_2 : decode cX8_racesRun 2 = .ok (.iconst 0, 1) := by decide +kernel
theorem dX8_racesRun_3 : decode cX8_racesRun 3 = .ok (.istore_n 3, 1) := by decide +kernel
theorem dX8_racesRun_4 : decode cX8_racesRun 4 = .ok (.iload_n 3, 1) := by decide +kernel
theorem dX8_racesRun_5 : decode cX8_racesRun 5 = .ok (.aload_n 0, 1) := by decide +kernel
theorem dX8_racesRun_6 : decode cX8_racesRun 6 = .ok (.getfield 32, 3) := by decide +kernel
theorem dX8_racesRun_9 : decode cX8_racesRun 9 = .ok (.if_icmp .ge 34, 3) := by decide +kernel
theorem dX8_racesRun_12 : decode cX8_racesRun 12 = .ok (.aload_n 0, 1) := by decide +kernel
theorem dX8_racesRun_13 : decode cX8_racesRun 13 = .ok (.iload_n 3, 1) := by decide +kernel
theorem dX8_racesRun_14 : decode cX8_racesRun 14 = .ok (.invokevirtual 265, 3) := by decide +kernel
theorem dX8_racesRun_17 : decode cX8_racesRun 17 = .ok (.astore 4, 2) := by decide +kernel
theorem dX8_racesRun_19 : decode cX8_racesRun 19 = .ok (.aload 4, 2) := by decide +kernel
theorem dX8_racesRun_21 : decode cX8_racesRun 21 = .ok (.ifnull 16, 3) := by decide +kernel
theorem dX8_racesRun_24 : decode cX8_racesRun 24 = .ok (.aload 4, 2) := by decide +kernel
theorem dX8_racesRun_26 : decode cX8_racesRun 26 = .ok (.iload_n 1, 1) := by decide +kernel
theorem dX8_racesRun_27 : decode cX8_racesRun 27 = .ok (.invokevirtual 403, 3) := by decide +kernel
theorem dX8_racesRun_30 : decode cX8_racesRun 30 = .ok (.iconst (-1), 1) := by decide +kernel
theorem dX8_racesRun_31 : decode cX8_racesRun 31 = .ok (.if_icmp .eq 6, 3) := by decide +kernel
theorem dX8_racesRun_34 : decode cX8_racesRun 34 = .ok (.iinc 2 1, 3) := by decide +kernel
theorem dX8_racesRun_37 : decode cX8_racesRun 37 = .ok (.iinc 3 1, 3) := by decide +kernel
theorem dX8_racesRun_40 : decode cX8_racesRun 40 = .ok (.goto (-36), 3) := by decide +kernel
theorem dX8_racesRun_43 : decode cX8_racesRun 43 = .ok (.iload_n 2, 1) := by decide +kernel
theorem dX8_racesRun_44 : decode cX8_racesRun 44 = .ok (.ireturn, 1) := by decide +kernel
def BX8_racesRun_4 (x : XS) (q1 : Int32) (lp : Int32 → Int32 → Option (Int32)) (u2 : Int32) (u3 : Int32) : Option (Int32) := if (x.1 0 5) ≤ u3 then some u2 else Option.bind (fX8_raceAt x u3) fun v1 => oc v1 (lt (u3 + 1) fun v4 => lp u2 v4) (fun p3 => if dK x p3 3 = true then Option.bind (fX3_placeOf x p3 q1) fun v6 => if v6 = (-1) then lt (u3 + 1) fun v8 => lp u2 v8 else lt (u2 + 1) fun v9 => lt (u3 + 1) fun v10 => lp v9 v10 else none)
def LX8_racesRun_4 (x : XS) (q1 : Int32) : Nat → Int32 → Int32 → Option (Int32)
  | 0, _, _ => none
  | n + 1, u2, u3 => BX8_racesRun_4 x q1 (LX8_racesRun_4 x q1 n) u2 u3
def fX8_racesRun (x : XS) (a1 : Int32) : Option (Int32) := Option.bind (LX8_racesRun_4 x a1 NF 0 0) fun v11 => some v11
set_option maxHeartbeats 4000000 in
set_option maxRecDepth 100000 in
theorem lX8_racesRun_4 {p : Program} {l : Launch} {e : Env} {R : Room} {s : State} {m : MethodId} {args : Array Value} {below : List Frame} {meth : Method} {c : Code} {cells slots : Nat} {Q : State → Prop} {G : xG} {β : Nat} {D : Nat → Prop} (C : Cx p s m args meth c RX8 cX8_racesRun 5 (some .int) (KK G)) (hRf : 2 ≤ R.frames) (hRl : 43 ≤ R.locals) (hcs : cells ≤ R.cells ∧ slots ≤ R.slots) (hf : Fz D G s.heap) (x : XS) (q1 : Int32) : ∀ (n : Nat) (u2 : Int32) (u3 : Int32) (J : Int32) (H : Heap) (locs : List Loc) (ls : Array Slot), LX8_racesRun_4 x q1 n u2 u3 = some J → CW β D G x H → va_S D s.heap H locs → lv_has ls 5 [(0, .ref β), (1, .int q1), (2, .int u2), (3, .int u3)] → (∀ (w2 : Int32), J = w2 → ∀ (H : Heap) (locs : List Loc) (ls : Array Slot), CW β D G x H → va_S D s.heap H locs → lv_has ls 5 [(2, .int w2)] → W p l e R s m args below meth c H locs cells slots Q (F0 m 43 ls [])) → W p l e R s m args below meth c H locs cells slots Q (F0 m 4 ls []) := by
  have hx := C.1
  have hb := C.2.1
  have ho := C.2.2.2.1
  have hts := C.2.2.2.2.1
  intro n
  induction n with
  | zero =>
    intro u2 u3 J H locs ls hm
    exact absurd hm (by simp [LX8_racesRun_4])
  | succ n ih =>
    intro u2 u3 J H locs ls hm hw hS hl ke
    replace hm : BX8_racesRun_4 x q1 (LX8_racesRun_4 x q1 n) u2 u3 = some J := hm
    unfold BX8_racesRun_4 at hm
    refine lv_iload_n hx hb dX8_racesRun_4 rfl (lv_at hl 3 rfl) ?_
    refine lv_aload_n hx hb dX8_racesRun_5 rfl (lv_at hl 0 rfl) ?_
    refine gX8_32 C hw dX8_racesRun_6 ?_
    refine lv_icmp_ge (tgt := 43) hx hb dX8_racesRun_9 (by decide) (fun cc => ?_) (fun cc => ?_)
    · replace hm := ite_p cc hm
      exact ke _ (Option.some.inj hm).symm _ _ _ hw hS (lv_sub hl [2] rfl)
    · replace hm := ite_n cc hm
      refine lv_aload_n hx hb dX8_racesRun_12 rfl (lv_at hl 0 rfl) ?_
      refine lv_iload_n hx hb dX8_racesRun_13 rfl (lv_at hl 3 rfl) ?_
      obtain ⟨v1, h2, hm⟩ := bind_e hm
      refine sX8_265 C h2 hw hS hl.1 (Nat.le_of_ble_eq_true rfl) (Nat.le_trans (Nat.le_of_ble_eq_true rfl) hRf) (Nat.le_trans (Nat.le_of_ble_eq_true rfl) hRl) hcs dX8_racesRun_14 (fun H locs hw hS => ?_)
      refine x_astoreq (lv' := [(4, va_rf v1), (0, .ref β), (1, .int q1), (2, .int u2), (3, .int u3)]) hx hb dX8_racesRun_17 hl (by decide) rfl (fun ls hl => ?_)
      refine x_aloadq hx hb dX8_racesRun_19 (lv_at hl 0 rfl) ?_
      rcases v1 with _ | p3
      · replace hm := oc_n hm
        refine lv_ifnullN (tgt := 37) hx hb dX8_racesRun_21 (by decide) ?_
        obtain ⟨v4, ev, hm⟩ := lt_e hm
        refine lv_iinc (v := v4) (lv' := [(3, .int v4), (4, .null), (0, .ref β), (1, .int q1), (2, .int u2)]) hx hb dX8_racesRun_37 hl (k := 4) rfl (by rw [ev]; rfl) (by decide) rfl (fun ls hl => ?_)
        clear ev
        refine lv_goto (tgt := 4) hx hb dX8_racesRun_40 (by decide) ?_
        exact ih _ _ _ _ _ _ hm hw hS (lv_sub hl [2, 3, 4, 0] rfl) ke
      · replace hm := oc_s hm
        refine lv_ifnull hx hb dX8_racesRun_21 ?_
        refine lv_aload hx hb dX8_racesRun_24 (lv_at hl 0 rfl) ?_
        refine lv_iload_n hx hb dX8_racesRun_26 rfl (lv_at hl 2 rfl) ?_
        obtain ⟨h5, hm⟩ := chk_e hm
        obtain ⟨v6, h7, hm⟩ := bind_e hm
        refine sX8_403 C h5 h7 hw hS hl.1 (Nat.le_of_ble_eq_true rfl) (Nat.le_trans (Nat.le_of_ble_eq_true rfl) hRf) (Nat.le_trans (Nat.le_of_ble_eq_true rfl) hRl) hcs dX8_racesRun_27 (fun H locs hw hS => ?_)
        refine lv_iconst (v := (-1)) hx hb dX8_racesRun_30 (by decide) ?_
        refine lv_icmp_eq (tgt := 37) hx hb dX8_racesRun_31 (by decide) (fun cc => ?_) (fun cc => ?_)
        · replace hm := ite_p cc hm
          obtain ⟨v8, ev, hm⟩ := lt_e hm
          refine lv_iinc (v := v8) (lv' := [(3, .int v8), (4, .ref p3), (0, .ref β), (1, .int q1), (2, .int u2)]) hx hb dX8_racesRun_37 hl (k := 4) rfl (by rw [ev]; rfl) (by decide) rfl (fun ls hl => ?_)
          clear ev
          refine lv_goto (tgt := 4) hx hb dX8_racesRun_40 (by decide) ?_
          exact ih _ _ _ _ _ _ hm hw hS (lv_sub hl [2, 3, 4, 0] rfl) ke
        · replace hm := ite_n cc hm
          obtain ⟨v9, ev, hm⟩ := lt_e hm
          refine lv_iinc (v := v9) (lv' := [(2, .int v9), (4, .ref p3), (0, .ref β), (1, .int q1), (3, .int u3)]) hx hb dX8_racesRun_34 hl (k := 3) rfl (by rw [ev]; rfl) (by decide) rfl (fun ls hl => ?_)
          clear ev
          obtain ⟨v10, ev, hm⟩ := lt_e hm
          refine lv_iinc (v := v10) (lv' := [(3, .int v10), (2, .int v9), (4, .ref p3), (0, .ref β), (1, .int q1)]) hx hb dX8_racesRun_37 hl (k := 4) rfl (by rw [ev]; rfl) (by decide) rfl (fun ls hl => ?_)
          clear ev
          refine lv_goto (tgt := 4) hx hb dX8_racesRun_40 (by decide) ?_
          exact ih _ _ _ _ _ _ hm hw hS (lv_sub hl [3, 4, 1, 0] rfl) ke
abbrev rmX8_racesRun : Room := { frames := 2, cells := 0, slots := 0, locals := 43 }
set_option maxHeartbeats 4000000 in
set_option maxRecDepth 100000 in
theorem kX8_racesRun {l : Launch} {G : xG} {β : Nat} {D : Nat → Prop} {x : XS} {a1 : Int32} {r : Int32} (hm : fX8_racesRun x a1 = some r) : Met l yX8_racesRun (.code yX8_racesRun cX8_racesRun 5 (some .int) :: GT) rmX8_racesRun (PcW [.ref β, .int a1] (CW β D G x) (KK G)) (QcW D (some (.int r)) (CW β D G x)) 0 0 D := by
  unfold fX8_racesRun at hm
  refine xpro (own := RX8) (by decide +kernel) rfl (Nat.le_of_ble_eq_true rfl) ?_
  intro p e s m args below meth c C hw ls hl
  have hx := C.1
  have hb := C.2.1
  have ho := C.2.2.2.1
  have hts := C.2.2.2.2.1
  have hf : Fz D G s.heap := hw.2.2.2.2
  have hS : va_S D s.heap s.heap [] := va_S.rf
  have hl : lv_has ls 5 [(0, .ref β), (1, .int a1)] := hl
  have hRf : 2 ≤ rmX8_racesRun.frames := Nat.le_refl _
  have hRl : 43 ≤ rmX8_racesRun.locals := Nat.le_refl _
  have hcs : 0 ≤ rmX8_racesRun.cells ∧ 0 ≤ rmX8_racesRun.slots := ⟨Nat.le_refl _, Nat.le_refl _⟩
  refine lv_iconst (v := 0) hx hb dX8_racesRun_0 (by decide) ?_
  refine lv_istore_n (lv' := [(2, .int 0), (0, .ref β), (1, .int a1)]) hx hb dX8_racesRun_1 rfl hl (by decide) rfl (fun ls hl => ?_)
  refine lv_iconst (v := 0) hx hb dX8_racesRun_2 (by decide) ?_
  refine lv_istore_n (lv' := [(3, .int 0), (2, .int 0), (0, .ref β), (1, .int a1)]) hx hb dX8_racesRun_3 rfl hl (by decide) rfl (fun ls hl => ?_)
  obtain ⟨v11, hj, hm⟩ := bind_e hm
  refine lX8_racesRun_4 C hRf hRl hcs hf x a1 NF _ _ _ _ _ _ hj hw hS (lv_sub hl [2, 3, 1, 0] rfl) (fun v11_ e0 H locs ls hw hS hl => ?_)
  cases e0
  refine lv_iload_n hx hb dX8_racesRun_43 rfl (lv_at hl 0 rfl) ?_
  obtain rfl := Option.some.inj hm
  exact xret_i C hw hS dX8_racesRun_44
theorem dX8_told_0 : decode cX8_told 0 = .ok (.aload_n 0, 1) := by decide +kernel
theorem dX8_told_1 : decode cX8_told 1 = .ok (.iload_n 1, 1) := by decide +kernel
theorem dX8_told_2 : decode cX8_told 2 = .ok (.invokevirtual 134, 3) := by decide +kernel
theorem dX8_told_5 : decode cX8_told 5 = .ok (.astore_n 3, 1) := by decide +kernel
theorem dX8_told_6 : decode cX8_told 6 = .ok (.aload_n 3, 1) := by decide +kernel
theorem dX8_told_7 : decode cX8_told 7 = .ok (.ifnonnull 6, 3) := by decide +kernel
theorem dX8_told_10 : decode cX8_told 10 = .ok (.ldc 163, 2) := by decide +kernel
theorem dX8_told_12 : decode cX8_told 12 = .ok (.ireturn, 1) := by decide +kernel
theorem dX8_told_13 : decode cX8_told 13 = .ok (.iload_n 2, 1) := by decide +kernel
theorem dX8_told_14 : decode cX8_told 14 = .ok (.tableswitch 117 0 9 #[54, 59, 64, 69, 74, 79, 84, 90, 96, 106], 54) := by decide +kernel
theorem dX8_told_68 : decode cX8_told 68 = .ok (.aload_n 3, 1) := by decide +kernel
theorem dX8_told_69 : decode cX8_told 69 = .ok (.getfield 164, 3) := by decide +kernel
theorem dX8_told_72 : decode cX8_told 72 = .ok (.ireturn, 1) := by decide +kernel
theorem dX8_told_73 : decode cX8_told 73 = .ok (.aload_n 3, 1) := by decide +kernel
theorem dX8_told_74 : decode cX8_told 74 = .ok (.getfield 141, 3) := by decide +kernel
theorem dX8_told_77 : decode cX8_told 77 = .ok (.ireturn, 1) := by decide +kernel
theorem dX8_told_78 : decode cX8_told 78 = .ok (.aload_n 3, 1) := by decide +kernel
theorem dX8_told_79 : decode cX8_told 79 = .ok (.getfield 144, 3) := by decide +kernel
theorem dX8_told_82 : decode cX8_told 82 = .ok (.ireturn, 1) := by decide +kernel
theorem dX8_told_83 : decode cX8_told 83 = .ok (.aload_n 3, 1) := by decide +kernel
theorem dX8_told_84 : decode cX8_told 84 = .ok (.getfield 167, 3) := by decide +kernel
theorem dX8_told_87 : decode cX8_told 87 = .ok (.ireturn, 1) := by decide +kernel
theorem dX8_told_88 : decode cX8_told 88 = .ok (.aload_n 3, 1) := by decide +kernel
theorem dX8_told_89 : decode cX8_told 89 = .ok (.getfield 170, 3) := by decide +kernel
theorem dX8_told_92 : decode cX8_told 92 = .ok (.ireturn, 1) := by decide +kernel
theorem dX8_told_93 : decode cX8_told 93 = .ok (.aload_n 3, 1) := by decide +kernel
theorem dX8_told_94 : decode cX8_told 94 = .ok (.getfield 147, 3) := by decide +kernel
theorem dX8_told_97 : decode cX8_told 97 = .ok (.ireturn, 1) := by decide +kernel
theorem dX8_told_98 : decode cX8_told 98 = .ok (.aload_n 0, 1) := by decide +kernel
theorem dX8_told_99 : decode cX8_told 99 = .ok (.iload_n 1, 1) := by decide +kernel
theorem dX8_told_100 : decode cX8_told 100 = .ok (.invokevirtual 173, 3) := by decide +kernel
theorem dX8_told_103 : decode cX8_told 103 = .ok (.ireturn, 1) := by decide +kernel
theorem dX8_told_104 : decode cX8_told 104 = .ok (.aload_n 0, 1) := by decide +kernel
theorem dX8_told_105 : decode cX8_told 105 = .ok (.iload_n 1, 1) := by decide +kernel
theorem dX8_told_106 : decode cX8_told 106 = .ok (.invokevirtual 177, 3) := by decide +kernel
theorem dX8_told_109 : decode cX8_told 109 = .ok (.ireturn, 1) := by decide +kernel
theorem dX8_told_110 : decode cX8_told 110 = .ok (.aload_n 0, 1) := by decide +kernel
theorem dX8_told_111 : decode cX8_told 111 = .ok (.iload_n 1, 1) := by decide +kernel
theorem dX8_told_112 : decode cX8_told 112 = .ok (.aload_n 3, 1) := by decide +kernel
theorem dX8_told_113 : decode cX8_told 113 = .ok (.getfield 147, 3) := by decide +kernel
theorem dX8_told_116 : decode cX8_told 116 = .ok (.invokevirtual 180, 3) := by decide +kernel
theorem dX8_told_119 : decode cX8_told 119 = .ok (.ireturn, 1) := by decide +kernel
theorem dX8_told_120 : decode cX8_told 120 = .ok (.aload_n 0, 1) := by decide +kernel
theorem dX8_told_121 : decode cX8_told 121 = .ok (.iconst 2, 1) := by decide +kernel
theorem dX8_told_122 : decode cX8_told 122 = .ok (.iload_n 1, 1) := by decide +kernel
theorem dX8_told_123 : decode cX8_told 123 = .ok (.aload_n 3, 1) := by decide +kernel
theorem dX8_told_124 : decode cX8_told 124 = .ok (.getfield 147, 3) := by decide +kernel
theorem dX8_told_127 : decode cX8_told 127 = .ok (.invokevirtual 184, 3) := by decide +kernel
theorem dX8_told_130 : decode cX8_told 130 = .ok (.ireturn, 1) := by decide +kernel
theorem dX8_told_131 : decode cX8_told 131 = .ok (.ldc 163, 2) := by decide +kernel
theorem dX8_told_133 : decode cX8_told 133 = .ok (.ireturn, 1) := by decide +kernel
theorem gdX8_164 {p : Program} {l : Launch} {e : Env} {R : Room} {s : State} {m : MethodId} {args : Array Value} {below : List Frame} {meth : Method} {c : Code} {H : Heap} {locs : List Loc} {cells slots : Nat} {Q : State → Prop} {cc : ByteArray} {pc nL : Nat} {ls : Array Slot} {rest : List Value} {ret : Option FieldType}  {G : xG} {β : Nat} {D : Nat → Prop} {x : XS} {a : Nat} {v : Int32} (C : Cx p s m args meth c RX8 cc nL ret (KK G)) (h : dI x a 1 0 = some v) (hw : CW β D G x H) (hd : decode cc pc = .ok (.getfield 164, 3)) (kk : W p l e R s m args below meth c H locs cells slots Q (F0 m (pc + 3) ls (.int v :: rest))) : W p l e R s m args below meth c H locs cells slots Q (F0 m pc ls (.ref a :: rest)) := by
  obtain ⟨fs, h1, h2⟩ := dI_e h
  exact va_getN (ci := 1) (fs := fs) C.1 C.2.1 C.2.2.2.2.1 iwX1 C.2.2.2.1 C.K.1 (xP1 (hw.2.2.2.1 a _ h1).2.2.2) 0 rfl rfl 0 (by decide) (va_Nw.use (w := .fieldLinkNest RX8 164 RX1 "kind" "I" "AtThePost") rfl (C.K.2.1 (RX8, 164, RX1, "kind", "I") (List.mem_of_getElem? (i := 13) rfl))) (fun _ h9 => h9) h2 hd kk
theorem gdX8_167 {p : Program} {l : Launch} {e : Env} {R : Room} {s : State} {m : MethodId} {args : Array Value} {below : List Frame} {meth : Method} {c : Code} {H : Heap} {locs : List Loc} {cells slots : Nat} {Q : State → Prop} {cc : ByteArray} {pc nL : Nat} {ls : Array Slot} {rest : List Value} {ret : Option FieldType}  {G : xG} {β : Nat} {D : Nat → Prop} {x : XS} {a : Nat} {v : Int32} (C : Cx p s m args meth c RX8 cc nL ret (KK G)) (h : dI x a 1 1 = some v) (hw : CW β D G x H) (hd : decode cc pc = .ok (.getfield 167, 3)) (kk : W p l e R s m args below meth c H locs cells slots Q (F0 m (pc + 3) ls (.int v :: rest))) : W p l e R s m args below meth c H locs cells slots Q (F0 m pc ls (.ref a :: rest)) := by
  obtain ⟨fs, h1, h2⟩ := dI_e h
  exact va_getN (ci := 1) (fs := fs) C.1 C.2.1 C.2.2.2.2.1 iwX1 C.2.2.2.1 C.K.1 (xP1 (hw.2.2.2.1 a _ h1).2.2.2) 0 rfl rfl 1 (by decide) (va_Nw.use (w := .fieldLinkNest RX8 167 RX1 "number" "I" "AtThePost") rfl (C.K.2.1 (RX8, 167, RX1, "number", "I") (List.mem_of_getElem? (i := 14) rfl))) (fun _ h9 => h9) h2 hd kk
theorem sX8_177 {p : Program} {l : Launch} {e : Env} {R : Room} {s : State} {m : MethodId} {args : Array Value} {below : List Frame} {meth : Method} {c : Code} {H : Heap} {locs : List Loc} {cells slots : Nat} {Q : State → Prop} {cc : ByteArray} {pc nL : Nat} {ls : Array Slot} {rest : List Value} {ret : Option FieldType}  {G : xG} {β : Nat} {D : Nat → Prop} {x : XS} {a1 : Int32} {r : Int32} (C : Cx p s m args meth c RX8 cc nL ret (KK G)) (h : fX8_racesRun x a1 = some r) (hw : CW β D G x H) (hS : va_S D s.heap H locs) (hsz : ls.size = nL) (hW : (rest.map fun v => v.category).sum ≤ 8) (hR : 3 ≤ R.frames) (hR2 : 67 ≤ R.locals) (hcs : cells ≤ R.cells ∧ slots ≤ R.slots) (hd : decode cc pc = .ok (.invokevirtual 177, 3)) (kk : ∀ (H1 : Heap) (locs1 : List Loc), CW β D G x H1 → va_S D s.heap H1 locs1 → W p l e R s m args below meth c H1 locs1 cells slots Q (F0 m (pc + 3) ls (.int r :: rest))) : W p l e R s m args below meth c H locs cells slots Q (F0 m pc ls (.int a1 :: .ref β :: rest)) := by
  exact xcallV C (As := [.int a1]) (rest := rest) (nA := 1) (ci := 8) (kX8_racesRun h) (tg 506 (by decide +kernel) rfl) (tg 508 (by decide +kernel) rfl) (sg (List.mem_of_getElem? (i := 19) (by decide +kernel)) rfl) (tg 1 (by decide +kernel) rfl) (tg 509 (by decide +kernel) rfl) ⟨rfl, by decide +kernel, by decide +kernel, by decide +kernel⟩ rfl rfl rfl ⟨hR, hR2⟩ (hw.2.2.1 0 (by decide)) hw hS (fun _ q => q) rfl rfl hsz hW hd hcs (fun H1 locs1 hw hz hk hS => kk H1 locs1 hw hS)
theorem sX8_180 {p : Program} {l : Launch} {e : Env} {R : Room} {s : State} {m : MethodId} {args : Array Value} {below : List Frame} {meth : Method} {c : Code} {H : Heap} {locs : List Loc} {cells slots : Nat} {Q : State → Prop} {cc : ByteArray} {pc nL : Nat} {ls : Array Slot} {rest : List Value} {ret : Option FieldType}  {G : xG} {β : Nat} {D : Nat → Prop} {x x' : XS} {a1 : Int32} {a2 : Int32} {r : Int32} (C : Cx p s m args meth c RX8 cc nL ret (KK G)) (h : fX8_holdCost x a1 a2 = some (r, x')) (hw : CW β D G x H) (hS : va_S D s.heap H locs) (hsz : ls.size = nL) (hW : (rest.map fun v => v.category).sum ≤ 8) (hR : 6 ≤ R.frames) (hR2 : 141 ≤ R.locals) (hcs : cells ≤ R.cells ∧ slots ≤ R.slots) (hd : decode cc pc = .ok (.invokevirtual 180, 3)) (kk : ∀ (H1 : Heap) (locs1 : List Loc), CW β D G x' H1 → va_S D s.heap H1 locs1 → W p l e R s m args below meth c H1 locs1 cells slots Q (F0 m (pc + 3) ls (.int r :: rest))) : W p l e R s m args below meth c H locs cells slots Q (F0 m pc ls (.int a2 :: .int a1 :: .ref β :: rest)) := by
  exact xcallV C (As := [.int a1, .int a2]) (rest := rest) (nA := 2) (ci := 8) (kX8_holdCost h) (tg 510 (by decide +kernel) rfl) (tg 512 (by decide +kernel) rfl) (sg (List.mem_of_getElem? (i := 20) (by decide +kernel)) rfl) (tg 1 (by decide +kernel) rfl) (tg 513 (by decide +kernel) rfl) ⟨rfl, by decide +kernel, by decide +kernel, by decide +kernel⟩ rfl rfl rfl ⟨hR, hR2⟩ (hw.2.2.1 0 (by decide)) hw hS (fun _ q => q) rfl rfl hsz hW hd hcs (fun H1 locs1 hw hz hk hS => kk H1 locs1 hw hS)
def fX8_told (x : XS) (a1 : Int32) (a2 : Int32) : Option (Int32 × XS) := Option.bind (fX8_horseAt x a1) fun v1 => oc v1 (some ((-1000000), x)) (fun p3 => if a2 = 0 then Option.bind (dI x p3 1 0) fun v4 => some (v4, x) else if a2 = 1 then Option.bind (dI x p3 1 3) fun v6 => some (v6, x) else if a2 = 2 then Option.bind (dI x p3 1 4) fun v8 => some (v8, x) else if a2 = 3 then Option.bind (dI x p3 1 1) fun v10 => some (v10, x) else if a2 = 4 then Option.bind (dI x p3 1 2) fun v12 => some (v12, x) else if a2 = 5 then Option.bind (dI x p3 1 5) fun v14 => some (v14, x) else if a2 = 6 then Option.bind (fX8_racesWon x a1) fun v16 => some (v16, x) else if a2 = 7 then Option.bind (fX8_racesRun x a1) fun v18 => some (v18, x) else if a2 = 8 then Option.bind (dI x p3 1 5) fun v20 => bind2 (fX8_holdCost x a1 v20) fun v22 x23 => some (v22, x23) else if a2 = 9 then Option.bind (dI x p3 1 5) fun v25 => bind2 (fX8_ruledAhead x 2 a1 v25) fun v27 x28 => some (v27, x28) else some ((-1000000), x))
abbrev rmX8_told : Room := { frames := 6, cells := 0, slots := 0, locals := 141 }
set_option maxHeartbeats 4000000 in
set_option maxRecDepth 100000 in
theorem kX8_told {l : Launch} {G : xG} {β : Nat} {D : Nat → Prop} {x x' : XS} {a1 : Int32} {a2 : Int32} {r : Int32} (hm : fX8_told x a1 a2 = some (r, x')) : Met l yX8_told (.code yX8_told cX8_told 4 (some .int) :: GT) rmX8_told (PcW [.ref β, .int a1, .int a2] (CW β D G x) (KK G)) (QcW D (some (.int r)) (CW β D G x')) 0 0 D := by
  unfold fX8_told at hm
  refine xpro (own := RX8) (by decide +kernel) rfl (Nat.le_of_ble_eq_true rfl) ?_
  intro p e s m args below meth c C hw ls hl
  have hx := C.1
  have hb := C.2.1
  have ho := C.2.2.2.1
  have hts := C.2.2.2.2.1
  have hf : Fz D G s.heap := hw.2.2.2.2
  have hS : va_S D s.heap s.heap [] := va_S.rf
  have hl : lv_has ls 4 [(0, .ref β), (1, .int a1), (2, .int a2)] := hl
  have hRf : 6 ≤ rmX8_told.frames := Nat.le_refl _
  have hRl : 141 ≤ rmX8_told.locals := Nat.le_refl _
  have hcs : 0 ≤ rmX8_told.cells ∧ 0 ≤ rmX8_told.slots := ⟨Nat.le_refl _, Nat.le_refl _⟩
  refine lv_aload_n hx hb dX8_told_0 rfl (lv_at hl 0 rfl) ?_
  refine lv_iload_n hx hb dX8_told_1 rfl (lv_at hl 1 rfl) ?_
  obtain ⟨v1, h2, hm⟩ := bind_e hm
  refine sX8_134 C h2 hw hS hl.1 (Nat.le_of_ble_eq_true rfl) (Nat.le_trans (Nat.le_of_ble_eq_true rfl) hRf) (Nat.le_trans (Nat.le_of_ble_eq_true rfl) hRl) hcs dX8_told_2 (fun H locs hw hS => ?_)
  refine x_astore_nq (lv' := [(3, va_rf v1), (0, .ref β), (1, .int a1), (2, .int a2)]) hx hb dX8_told_5 rfl hl (by decide) rfl (fun ls hl => ?_)
  refine x_aload_nq hx hb dX8_told_6 rfl (lv_at hl 0 rfl) ?_
  rcases v1 with _ | p3
  · replace hm := oc_n hm
    refine lv_ifnonnullN hx hb dX8_told_7 ?_
    refine lv_ldc (v := (-1000000)) hx hb ho (hts (.constant RX8 163 (-1000000)) (tg 493 (by decide +kernel) rfl)) dX8_told_10 ?_
    obtain ⟨rfl, rfl⟩ := inj2 hm
    exact xret_i C hw hS dX8_told_12
  · replace hm := oc_s hm
    refine lv_ifnonnull (tgt := 13) hx hb dX8_told_7 (by decide) ?_
    refine lv_iload_n hx hb dX8_told_13 rfl (lv_at hl 3 rfl) ?_
    by_cases k0 : a2 = 0
    · replace hm := ite_p k0 hm
      refine lv_tableIn (tgt := 68) (off := 54) hx hb dX8_told_14 (by rw [k0]; decide) (by rw [k0]; decide) (by rw [k0]; rfl) (by decide) ?_
      refine lv_aload_n hx hb dX8_told_68 rfl (lv_at hl 0 rfl) ?_
      obtain ⟨v4, h5, hm⟩ := bind_e hm
      refine gdX8_164 C h5 hw dX8_told_69 ?_
      obtain ⟨rfl, rfl⟩ := inj2 hm
      exact xret_i C hw hS dX8_told_72
    replace hm := ite_n k0 hm
    by_cases k1 : a2 = 1
    · replace hm := ite_p k1 hm
      refine lv_tableIn (tgt := 73) (off := 59) hx hb dX8_told_14 (by rw [k1]; decide) (by rw [k1]; decide) (by rw [k1]; rfl) (by decide) ?_
      refine lv_aload_n hx hb dX8_told_73 rfl (lv_at hl 0 rfl) ?_
      obtain ⟨v6, h7, hm⟩ := bind_e hm
      refine gdX8_141 C h7 hw dX8_told_74 ?_
      obtain ⟨rfl, rfl⟩ := inj2 hm
      exact xret_i C hw hS dX8_told_77
    replace hm := ite_n k1 hm
    by_cases k2 : a2 = 2
    · replace hm := ite_p k2 hm
      refine lv_tableIn (tgt := 78) (off := 64) hx hb dX8_told_14 (by rw [k2]; decide) (by rw [k2]; decide) (by rw [k2]; rfl) (by decide) ?_
      refine lv_aload_n hx hb dX8_told_78 rfl (lv_at hl 0 rfl) ?_
      obtain ⟨v8, h9, hm⟩ := bind_e hm
      refine gdX8_144 C h9 hw dX8_told_79 ?_
      obtain ⟨rfl, rfl⟩ := inj2 hm
      exact xret_i C hw hS dX8_told_82
    replace hm := ite_n k2 hm
    by_cases k3 : a2 = 3
    · replace hm := ite_p k3 hm
      refine lv_tableIn (tgt := 83) (off := 69) hx hb dX8_told_14 (by rw [k3]; decide) (by rw [k3]; decide) (by rw [k3]; rfl) (by decide) ?_
      refine lv_aload_n hx hb dX8_told_83 rfl (lv_at hl 0 rfl) ?_
      obtain ⟨v10, h11, hm⟩ := bind_e hm
      refine gdX8_167 C h11 hw dX8_told_84 ?_
      obtain ⟨rfl, rfl⟩ := inj2 hm
      exact xret_i C hw hS dX8_told_87
    replace hm := ite_n k3 hm
    by_cases k4 : a2 = 4
    · replace hm := ite_p k4 hm
      refine lv_tableIn (tgt := 88) (off := 74) hx hb dX8_told_14 (by rw [k4]; decide) (by rw [k4]; decide) (by rw [k4]; rfl) (by decide) ?_
      refine lv_aload_n hx hb dX8_told_88 rfl (lv_at hl 0 rfl) ?_
      obtain ⟨v12, h13, hm⟩ := bind_e hm
      refine gdX8_170 C h13 hw dX8_told_89 ?_
      obtain ⟨rfl, rfl⟩ := inj2 hm
      exact xret_i C hw hS dX8_told_92
    replace hm := ite_n k4 hm
    by_cases k5 : a2 = 5
    · replace hm := ite_p k5 hm
      refine lv_tableIn (tgt := 93) (off := 79) hx hb dX8_told_14 (by rw [k5]; decide) (by rw [k5]; decide) (by rw [k5]; rfl) (by decide) ?_
      refine lv_aload_n hx hb dX8_told_93 rfl (lv_at hl 0 rfl) ?_
      obtain ⟨v14, h15, hm⟩ := bind_e hm
      refine gdX8_147 C h15 hw dX8_told_94 ?_
      obtain ⟨rfl, rfl⟩ := inj2 hm
      exact xret_i C hw hS dX8_told_97
    replace hm := ite_n k5 hm
    by_cases k6 : a2 = 6
    · replace hm := ite_p k6 hm
      refine lv_tableIn (tgt := 98) (off := 84) hx hb dX8_told_14 (by rw [k6]; decide) (by rw [k6]; decide) (by rw [k6]; rfl) (by decide) ?_
      refine lv_aload_n hx hb dX8_told_98 rfl (lv_at hl 1 rfl) ?_
      refine lv_iload_n hx hb dX8_told_99 rfl (lv_at hl 2 rfl) ?_
      obtain ⟨v16, h17, hm⟩ := bind_e hm
      refine sX8_173 C h17 hw hS hl.1 (Nat.le_of_ble_eq_true rfl) (Nat.le_trans (Nat.le_of_ble_eq_true rfl) hRf) (Nat.le_trans (Nat.le_of_ble_eq_true rfl) hRl) hcs dX8_told_100 (fun H locs hw hS => ?_)
      obtain ⟨rfl, rfl⟩ := inj2 hm
      exact xret_i C hw hS dX8_told_103
    replace hm := ite_n k6 hm
    by_cases k7 : a2 = 7
    · replace hm := ite_p k7 hm
      refine lv_tableIn (tgt := 104) (off := 90) hx hb dX8_told_14 (by rw [k7]; decide) (by rw [k7]; decide) (by rw [k7]; rfl) (by decide) ?_
      refine lv_aload_n hx hb dX8_told_104 rfl (lv_at hl 1 rfl) ?_
      refine lv_iload_n hx hb dX8_told_105 rfl (lv_at hl 2 rfl) ?_
      obtain ⟨v18, h19, hm⟩ := bind_e hm
      refine sX8_177 C h19 hw hS hl.1 (Nat.le_of_ble_eq_true rfl) (Nat.le_trans (Nat.le_of_ble_eq_true rfl) hRf) (Nat.le_trans (Nat.le_of_ble_eq_true rfl) hRl) hcs dX8_told_106 (fun H locs hw hS => ?_)
      obtain ⟨rfl, rfl⟩ := inj2 hm
      exact xret_i C hw hS dX8_told_109
    replace hm := ite_n k7 hm
    by_cases k8 : a2 = 8
    · replace hm := ite_p k8 hm
      refine lv_tableIn (tgt := 110) (off := 96) hx hb dX8_told_14 (by rw [k8]; decide) (by rw [k8]; decide) (by rw [k8]; rfl) (by decide) ?_
      refine lv_aload_n hx hb dX8_told_110 rfl (lv_at hl 1 rfl) ?_
      refine lv_iload_n hx hb dX8_told_111 rfl (lv_at hl 2 rfl) ?_
      refine lv_aload_n hx hb dX8_told_112 rfl (lv_at hl 0 rfl) ?_
      obtain ⟨v20, h21, hm⟩ := bind_e hm
      refine gdX8_147 C h21 hw dX8_told_113 ?_
      obtain ⟨v22, x23, h24, hm⟩ := bind2_e hm
      refine sX8_180 C h24 hw hS hl.1 (Nat.le_of_ble_eq_true rfl) (Nat.le_trans (Nat.le_of_ble_eq_true rfl) hRf) (Nat.le_trans (Nat.le_of_ble_eq_true rfl) hRl) hcs dX8_told_116 (fun H locs hw hS => ?_)
      obtain ⟨rfl, rfl⟩ := inj2 hm
      exact xret_i C hw hS dX8_told_119
    replace hm := ite_n k8 hm
    by_cases k9 : a2 = 9
    · replace hm := ite_p k9 hm
      refine lv_tableIn (tgt := 120) (off := 106) hx hb dX8_told_14 (by rw [k9]; decide) (by rw [k9]; decide) (by rw [k9]; rfl) (by decide) ?_
      refine lv_aload_n hx hb dX8_told_120 rfl (lv_at hl 1 rfl) ?_
      refine lv_iconst (v := 2) hx hb dX8_told_121 (by decide) ?_
      refine lv_iload_n hx hb dX8_told_122 rfl (lv_at hl 2 rfl) ?_
      refine lv_aload_n hx hb dX8_told_123 rfl (lv_at hl 0 rfl) ?_
      obtain ⟨v25, h26, hm⟩ := bind_e hm
      refine gdX8_147 C h26 hw dX8_told_124 ?_
      obtain ⟨v27, x28, h29, hm⟩ := bind2_e hm
      refine sX8_184 C h29 hw hS hl.1 (Nat.le_of_ble_eq_true rfl) (Nat.le_trans (Nat.le_of_ble_eq_true rfl) hRf) (Nat.le_trans (Nat.le_of_ble_eq_true rfl) hRl) hcs dX8_told_127 (fun H locs hw hS => ?_)
      obtain ⟨rfl, rfl⟩ := inj2 hm
      exact xret_i C hw hS dX8_told_130
    replace hm := ite_n k9 hm
    have k0i := lv_neT k0 (a := 0) (by decide)
    have k1i := lv_neT k1 (a := 1) (by decide)
    have k2i := lv_neT k2 (a := 2) (by decide)
    have k3i := lv_neT k3 (a := 3) (by decide)
    have k4i := lv_neT k4 (a := 4) (by decide)
    have k5i := lv_neT k5 (a := 5) (by decide)
    have k6i := lv_neT k6 (a := 6) (by decide)
    have k7i := lv_neT k7 (a := 7) (by decide)
    have k8i := lv_neT k8 (a := 8) (by decide)
    have k9i := lv_neT k9 (a := 9) (by decide)
    refine lv_tableOut (tgt := 131) hx hb dX8_told_14 (by omega) (by decide) ?_
    refine lv_ldc (v := (-1000000)) hx hb ho (hts (.constant RX8 163 (-1000000)) (tg 493 (by decide +kernel) rfl)) dX8_told_131 ?_
    obtain ⟨rfl, rfl⟩ := inj2 hm
    exact xret_i C hw hS dX8_told_133
theorem dX8_leadOf_0 : decode cX8_leadOf 0 = .ok (.aload_n 0, 1) := by decide +kernel
theorem dX8_leadOf_1 : decode cX8_leadOf 1 = .ok (.iload_n 1, 1) := by decide +kernel
theorem dX8_leadOf_2 : decode cX8_leadOf 2 = .ok (.invokevirtual 134, 3) := by decide +kernel
theorem dX8_leadOf_5 : decode cX8_leadOf 5 = .ok (.astore_n 2, 1) := by decide +kernel
theorem dX8_leadOf_6 : decode cX8_leadOf 6 = .ok (.aload_n 2, 1) := by decide +kernel
theorem dX8_leadOf_7 : decode cX8_leadOf 7 = .ok (.ifnonnull 7, 3) := by decide +kernel
theorem dX8_leadOf_10 : decode cX8_leadOf 10 = .ok (.iconst 0, 1) := by decide +kernel
theorem dX8_leadOf_11 : decode cX8_leadOf 11 = .ok (.goto 7, 3) := by decide +kernel
theorem dX8_leadOf_14 : decode cX8_leadOf 14 = .ok (.aload_n 2, 1) := by decide +kernel
theorem dX8_leadOf_15 : decode cX8_leadOf 15 = .ok (.getfield 147, 3) := by decide +kernel
theorem dX8_leadOf_18 : decode cX8_leadOf 18 = .ok (.ireturn, 1) := by decide +kernel
def fX8_leadOf (x : XS) (a1 : Int32) : Option (Int32) := Option.bind (fX8_horseAt x a1) fun v1 => oc v1 (some 0) (fun p3 => Option.bind (dI x p3 1 5) fun v4 => some v4)
abbrev rmX8_leadOf : Room := { frames := 1, cells := 0, slots := 0, locals := 21 }
set_option maxHeartbeats 4000000 in
set_option maxRecDepth 100000 in
theorem kX8_leadOf {l : Launch} {G : xG} {β : Nat} {D : Nat → Prop} {x : XS} {a1 : Int32} {r : Int32} (hm : fX8_leadOf x a1 = some r) : Met l yX8_leadOf (.code yX8_leadOf cX8_leadOf 3 (some .int) :: GT) rmX8_leadOf (PcW [.ref β, .int a1] (CW β D G x) (KK G)) (QcW D (some (.int r)) (CW β D G x)) 0 0 D := by
  unfold fX8_leadOf at hm
  refine xpro (own := RX8) (by decide +kernel) rfl (Nat.le_of_ble_eq_true rfl) ?_
  intro p e s m args below meth c C hw ls hl
  have hx := C.1
  have hb := C.2.1
  have ho := C.2.2.2.1
  have hts := C.2.2.2.2.1
  have hf : Fz D G s.heap := hw.2.2.2.2
  have hS : va_S D s.heap s.heap [] := va_S.rf
  have hl : lv_has ls 3 [(0, .ref β), (1, .int a1)] := hl
  have hRf : 1 ≤ rmX8_leadOf.frames := Nat.le_refl _
  have hRl : 21 ≤ rmX8_leadOf.locals := Nat.le_refl _
  have hcs : 0 ≤ rmX8_leadOf.cells ∧ 0 ≤ rmX8_leadOf.slots := ⟨Nat.le_refl _, Nat.le_refl _⟩
  refine lv_aload_n hx hb dX8_leadOf_0 rfl (lv_at hl 0 rfl) ?_
  refine lv_iload_n hx hb dX8_leadOf_1 rfl (lv_at hl 1 rfl) ?_
  obtain ⟨v1, h2, hm⟩ := bind_e hm
  refine sX8_134 C h2 hw hS hl.1 (Nat.le_of_ble_eq_true rfl) (Nat.le_trans (Nat.le_of_ble_eq_true rfl) hRf) (Nat.le_trans (Nat.le_of_ble_eq_true rfl) hRl) hcs dX8_leadOf_2 (fun H locs hw hS => ?_)
  refine x_astore_nq (lv' := [(2, va_rf v1), (0, .ref β), (1, .int a1)]) hx hb dX8_leadOf_5 rfl hl (by decide) rfl (fun ls hl => ?_)
  refine x_aload_nq hx hb dX8_leadOf_6 rfl (lv_at hl 0 rfl) ?_
  rcases v1 with _ | p3
  · replace hm := oc_n hm
    refine lv_ifnonnullN hx hb dX8_leadOf_7 ?_
    refine lv_iconst (v := 0) hx hb dX8_leadOf_10 (by decide) ?_
    refine lv_goto (tgt := 18) hx hb dX8_leadOf_11 (by decide) ?_
    obtain rfl := Option.some.inj hm
    exact xret_i C hw hS dX8_leadOf_18
  · replace hm := oc_s hm
    refine lv_ifnonnull (tgt := 14) hx hb dX8_leadOf_7 (by decide) ?_
    refine lv_aload_n hx hb dX8_leadOf_14 rfl (lv_at hl 0 rfl) ?_
    obtain ⟨v4, h5, hm⟩ := bind_e hm
    refine gdX8_147 C h5 hw dX8_leadOf_15 ?_
    obtain rfl := Option.some.inj hm
    exact xret_i C hw hS dX8_leadOf_18
theorem dX8_takeLeads_0 : decode cX8_takeLeads 0 = .ok (.iconst 0, 1) := by decide +kernel
theorem dX8_takeLeads_1 : decode cX8_takeLeads 1 = .ok (.istore_n 1, 1) := by decide +kernel
theorem dX8_takeLeads_2 : decode cX8_takeLeads 2 = .ok (.iload_n 1, 1) := by decide +kernel
theorem dX8_takeLeads_3 : decode cX8_takeLeads 3 = .ok (.aload_n 0, 1) := by decide +kernel
theorem dX8_takeLeads_4 : decode cX8_takeLeads 4 = .ok (.getfield 15, 3) := by decide +kernel
theorem dX8_takeLeads_7 : decode cX8_takeLeads 7 = .ok (.if_icmp .ge 20, 3) := by decide +kernel
theorem dX8_takeLeads_10 : decode cX8_takeLeads 10 = .ok (.aload_n 0, 1) := by decide +kernel
theorem dX8_takeLeads_11 : decode cX8_takeLeads 11 = .ok (.getfield 89, 3) := by decide +kernel
theorem dX8_takeLeads_14 : decode cX8_takeLeads 14 = .ok (.iload_n 1, 1) := by decide +kernel
theorem dX8_takeLeads_15 : decode cX8_takeLeads 15 = .ok (.aload_n 0, 1) := by decide +kernel
theorem dX8_takeLeads_16 : decode cX8_takeLeads 16 = .ok (.iload_n 1, 1) := by decide +kernel
theorem dX8_takeLeads_17 : decode cX8_takeLeads 17 = .ok (.invokevirtual 258, 3) := by decide +kernel
theorem dX8_takeLeads_20 : decode cX8_takeLeads 20 = .ok (.iastore, 1) := by decide +kernel
theorem dX8_takeLeads_21 : decode cX8_takeLeads 21 = .ok (.iinc 1 1, 3) := by decide +kernel
theorem dX8_takeLeads_24 : decode cX8_takeLeads 24 = .ok (.goto (-22), 3) := by decide +kernel
theorem dX8_takeLeads_27 : decode cX8_takeLeads 27 = .ok (.return_, 1) := by decide +kernel
theorem gX8_89 {p : Program} {l : Launch} {e : Env} {R : Room} {s : State} {m : MethodId} {args : Array Value} {below : List Frame} {meth : Method} {c : Code} {H : Heap} {locs : List Loc} {cells slots : Nat} {Q : State → Prop} {cc : ByteArray} {pc nL : Nat} {ls : Array Slot} {rest : List Value} {ret : Option FieldType} {G : xG} {β : Nat} {D : Nat → Prop} {x : XS} (C : Cx p s m args meth c RX8 cc nL ret (KK G)) (hw : CW β D G x H) (hd : decode cc pc = .ok (.getfield 89, 3)) (kk : W p l e R s m args below meth c H locs cells slots Q (F0 m (pc + 3) ls (.ref (β + 24) :: rest))) : W p l e R s m args below meth c H locs cells slots Q (F0 m pc ls (.ref β :: rest)) :=
  va_get C.1 C.2.1 C.2.2.2.2.1 iwX8 C.2.2.2.1 C.K.1 (xP1 (hw.2.2.1 0 (by decide))) 0 rfl rfl 16 (by decide) (C.2.2.2.2.1 (.fieldLink RX8 89 RX8 "trialLeads" "[I") (tg 363 (by decide +kernel) rfl)) (fun _ h9 => h9) rfl hd kk
theorem sX8_258 {p : Program} {l : Launch} {e : Env} {R : Room} {s : State} {m : MethodId} {args : Array Value} {below : List Frame} {meth : Method} {c : Code} {H : Heap} {locs : List Loc} {cells slots : Nat} {Q : State → Prop} {cc : ByteArray} {pc nL : Nat} {ls : Array Slot} {rest : List Value} {ret : Option FieldType}  {G : xG} {β : Nat} {D : Nat → Prop} {x : XS} {a1 : Int32} {r : Int32} (C : Cx p s m args meth c RX8 cc nL ret (KK G)) (h : fX8_leadOf x a1 = some r) (hw : CW β D G x H) (hS : va_S D s.heap H locs) (hsz : ls.size = nL) (hW : (rest.map fun v => v.category).sum ≤ 8) (hR : 2 ≤ R.frames) (hR2 : 43 ≤ R.locals) (hcs : cells ≤ R.cells ∧ slots ≤ R.slots) (hd : decode cc pc = .ok (.invokevirtual 258, 3)) (kk : ∀ (H1 : Heap) (locs1 : List Loc), CW β D G x H1 → va_S D s.heap H1 locs1 → W p l e R s m args below meth c H1 locs1 cells slots Q (F0 m (pc + 3) ls (.int r :: rest))) : W p l e R s m args below meth c H locs cells slots Q (F0 m pc ls (.int a1 :: .ref β :: rest)) := by
  exact xcallV C (As := [.int a1]) (rest := rest) (nA := 1) (ci := 8) (kX8_leadOf h) (tg 583 (by decide +kernel) rfl) (tg 585 (by decide +kernel) rfl) (sg (List.mem_of_getElem? (i := 29) (by decide +kernel)) rfl) (tg 1 (by decide +kernel) rfl) (tg 586 (by decide +kernel) rfl) ⟨rfl, by decide +kernel, by decide +kernel, by decide +kernel⟩ rfl rfl rfl ⟨hR, hR2⟩ (hw.2.2.1 0 (by decide)) hw hS (fun _ q => q) rfl rfl hsz hW hd hcs (fun H1 locs1 hw hz hk hS => kk H1 locs1 hw hS)
theorem asX_24 {p : Program} {l : Launch} {e : Env} {R : Room} {s : State} {m : MethodId} {args : Array Value} {below : List Frame} {meth : Method} {c : Code} {H : Heap} {locs : List Loc} {cells slots : Nat} {Q : State → Prop} {cc : ByteArray} {pc nL : Nat} {ls : Array Slot} {rest : List Value} {ret : Option FieldType} {G : xG} {β : Nat} {D : Nat → Prop} {x : XS} {own : String} {i : Int32} {v : Int32} (C : Cx p s m args meth c own cc nL ret (KK G)) (hw : CW β D G x H) (hS : va_S D s.heap H locs) (hin : ib i 10) (hd : decode cc pc = .ok (.iastore, 1)) (kk : ∀ (H1 : Heap) (locs1 : List Loc), CW β D G (xsA x 24 i.toNatClampNeg v) H1 → va_S D s.heap H1 locs1 → W p l e R s m args below meth c H1 locs1 cells slots Q (F0 m (pc + 1) ls (rest))) : W p l e R s m args below meth c H locs cells slots Q (F0 m pc ls (.int v :: .int i :: .ref (β + 24) :: rest)) :=
  x_iast C.1 C.2.1 C.K.1 hS 0 (hw.2.2.1 24 (by decide)) (hw.2.1 24 (by decide)) rfl hin hd (fun H1 locs1 hat ho hS => kk H1 locs1 (hw.setA 24 _ _ hat ho) hS)
def BX8_takeLeads_2 (lp : Int32 → XS → Option (XS)) (u1 : Int32) (x : XS) : Option (XS) := if (x.1 0 1) ≤ u1 then some x else Option.bind (fX8_leadOf x u1) fun v1 => if ib u1 10 then lt (xsA x 24 u1.toNatClampNeg v1) fun x4 => lt (u1 + 1) fun v5 => lp v5 x4 else none
def LX8_takeLeads_2 : Nat → Int32 → XS → Option (XS)
  | 0, _, _ => none
  | n + 1, u1, x => BX8_takeLeads_2 (LX8_takeLeads_2 n) u1 x
def fX8_takeLeads (x : XS) : Option (XS) := Option.bind (LX8_takeLeads_2 NF 0 x) fun x6 => some x6
set_option maxHeartbeats 4000000 in
set_option maxRecDepth 100000 in
theorem lX8_takeLeads_2 {p : Program} {l : Launch} {e : Env} {R : Room} {s : State} {m : MethodId} {args : Array Value} {below : List Frame} {meth : Method} {c : Code} {cells slots : Nat} {Q : State → Prop} {G : xG} {β : Nat} {D : Nat → Prop} (C : Cx p s m args meth c RX8 cX8_takeLeads 2 none (KK G)) (hRf : 2 ≤ R.frames) (hRl : 43 ≤ R.locals) (hcs : cells ≤ R.cells ∧ slots ≤ R.slots) (hf : Fz D G s.heap) : ∀ (n : Nat) (u1 : Int32) (x : XS) (J : XS) (H : Heap) (locs : List Loc) (ls : Array Slot), LX8_takeLeads_2 n u1 x = some J → CW β D G x H → va_S D s.heap H locs → lv_has ls 2 [(0, .ref β), (1, .int u1)] → (∀ (x1 : XS), J = x1 → ∀ (H : Heap) (locs : List Loc) (ls : Array Slot), CW β D G x1 H → va_S D s.heap H locs → lv_has ls 2 [] → W p l e R s m args below meth c H locs cells slots Q (F0 m 27 ls [])) → W p l e R s m args below meth c H locs cells slots Q (F0 m 2 ls []) := by
  have hx := C.1
  have hb := C.2.1
  have ho := C.2.2.2.1
  have hts := C.2.2.2.2.1
  intro n
  induction n with
  | zero =>
    intro u1 x J H locs ls hm
    exact absurd hm (by simp [LX8_takeLeads_2])
  | succ n ih =>
    intro u1 x J H locs ls hm hw hS hl ke
    replace hm : BX8_takeLeads_2 (LX8_takeLeads_2 n) u1 x = some J := hm
    unfold BX8_takeLeads_2 at hm
    refine lv_iload_n hx hb dX8_takeLeads_2 rfl (lv_at hl 1 rfl) ?_
    refine lv_aload_n hx hb dX8_takeLeads_3 rfl (lv_at hl 0 rfl) ?_
    refine gX8_15 C hw dX8_takeLeads_4 ?_
    refine lv_icmp_ge (tgt := 27) hx hb dX8_takeLeads_7 (by decide) (fun cc => ?_) (fun cc => ?_)
    · replace hm := ite_p cc hm
      exact ke _ (Option.some.inj hm).symm _ _ _ hw hS (lv_sub hl [] rfl)
    · replace hm := ite_n cc hm
      refine lv_aload_n hx hb dX8_takeLeads_10 rfl (lv_at hl 0 rfl) ?_
      refine gX8_89 C hw dX8_takeLeads_11 ?_
      refine lv_iload_n hx hb dX8_takeLeads_14 rfl (lv_at hl 1 rfl) ?_
      refine lv_aload_n hx hb dX8_takeLeads_15 rfl (lv_at hl 0 rfl) ?_
      refine lv_iload_n hx hb dX8_takeLeads_16 rfl (lv_at hl 1 rfl) ?_
      obtain ⟨v1, h2, hm⟩ := bind_e hm
      refine sX8_258 C h2 hw hS hl.1 (Nat.le_of_ble_eq_true rfl) (Nat.le_trans (Nat.le_of_ble_eq_true rfl) hRf) (Nat.le_trans (Nat.le_of_ble_eq_true rfl) hRl) hcs dX8_takeLeads_17 (fun H locs hw hS => ?_)
      obtain ⟨h3, hm⟩ := chk_e hm
      refine asX_24 C hw hS h3 dX8_takeLeads_20 (fun H locs hw hS => ?_)
      obtain ⟨x4, ev, hm⟩ := lt_e hm
      rw [← ev] at hw
      clear ev
      obtain ⟨v5, ev, hm⟩ := lt_e hm
      refine lv_iinc (v := v5) (lv' := [(1, .int v5), (0, .ref β)]) hx hb dX8_takeLeads_21 hl (k := 1) rfl (by rw [ev]; rfl) (by decide) rfl (fun ls hl => ?_)
      clear ev
      refine lv_goto (tgt := 2) hx hb dX8_takeLeads_24 (by decide) ?_
      exact ih _ _ _ _ _ _ hm hw hS (lv_sub hl [1, 0] rfl) ke
abbrev rmX8_takeLeads : Room := { frames := 2, cells := 0, slots := 0, locals := 43 }
set_option maxHeartbeats 4000000 in
set_option maxRecDepth 100000 in
theorem kX8_takeLeads {l : Launch} {G : xG} {β : Nat} {D : Nat → Prop} {x x' : XS} (hm : fX8_takeLeads x = some x') : Met l yX8_takeLeads (.code yX8_takeLeads cX8_takeLeads 2 none :: GT) rmX8_takeLeads (PcW [.ref β] (CW β D G x) (KK G)) (QcW D none (CW β D G x')) 0 0 D := by
  unfold fX8_takeLeads at hm
  refine xpro (own := RX8) (by decide +kernel) rfl (Nat.le_of_ble_eq_true rfl) ?_
  intro p e s m args below meth c C hw ls hl
  have hx := C.1
  have hb := C.2.1
  have ho := C.2.2.2.1
  have hts := C.2.2.2.2.1
  have hf : Fz D G s.heap := hw.2.2.2.2
  have hS : va_S D s.heap s.heap [] := va_S.rf
  have hl : lv_has ls 2 [(0, .ref β)] := hl
  have hRf : 2 ≤ rmX8_takeLeads.frames := Nat.le_refl _
  have hRl : 43 ≤ rmX8_takeLeads.locals := Nat.le_refl _
  have hcs : 0 ≤ rmX8_takeLeads.cells ∧ 0 ≤ rmX8_takeLeads.slots := ⟨Nat.le_refl _, Nat.le_refl _⟩
  refine lv_iconst (v := 0) hx hb dX8_takeLeads_0 (by decide) ?_
  refine lv_istore_n (lv' := [(1, .int 0), (0, .ref β)]) hx hb dX8_takeLeads_1 rfl hl (by decide) rfl (fun ls hl => ?_)
  obtain ⟨x6, hj, hm⟩ := bind_e hm
  refine lX8_takeLeads_2 C hRf hRl hcs hf NF _ _ _ _ _ _ hj hw hS (lv_sub hl [1, 0] rfl) (fun x6_ e0 H locs ls hw hS hl => ?_)
  cases e0
  obtain rfl := Option.some.inj hm
  exact xret_v C hw hS dX8_takeLeads_27
theorem dX8_worthOf_0 : decode cX8_worthOf 0 = .ok (.iload_n 2, 1) := by decide +kernel
theorem dX8_worthOf_1 : decode cX8_worthOf 1 = .ok (.invokestatic 150, 3) := by decide +kernel
theorem dX8_worthOf_4 : decode cX8_worthOf 4 = .ok (.ifCond .eq 17, 3) := by decide +kernel
theorem dX8_worthOf_7 : decode cX8_worthOf 7 = .ok (.iload_n 1, 1) := by decide +kernel
theorem dX8_worthOf_8 : decode cX8_worthOf 8 = .ok (.aload_n 0, 1) := by decide +kernel
theorem dX8_worthOf_9 : decode cX8_worthOf 9 = .ok (.getfield 19, 3) := by decide +kernel
theorem dX8_worthOf_12 : decode cX8_worthOf 12 = .ok (.iload_n 2, 1) := by decide +kernel
theorem dX8_worthOf_13 : decode cX8_worthOf 13 = .ok (.iaload, 1) := by decide +kernel
theorem dX8_worthOf_14 : decode cX8_worthOf 14 = .ok (.imul, 1) := by decide +kernel
theorem dX8_worthOf_15 : decode cX8_worthOf 15 = .ok (.bipush 10, 2) := by decide +kernel
theorem dX8_worthOf_17 : decode cX8_worthOf 17 = .ok (.idiv, 1) := by decide +kernel
theorem dX8_worthOf_18 : decode cX8_worthOf 18 = .ok (.goto 4, 3) := by decide +kernel
theorem dX8_worthOf_21 : decode cX8_worthOf 21 = .ok (.iconst 0, 1) := by decide +kernel
theorem dX8_worthOf_22 : decode cX8_worthOf 22 = .ok (.ireturn, 1) := by decide +kernel
def fX8_worthOf (x : XS) (a1 : Int32) (a2 : Int32) : Option (Int32) := Option.bind (fX8_isGround a2) fun v1 => if v1 = true then if ib a2 4 then some ((a1 * (x.2.1 2 a2.toNatClampNeg)) / 10) else none else some 0
abbrev rmX8_worthOf : Room := { frames := 2, cells := 0, slots := 0, locals := 42 }
set_option maxHeartbeats 4000000 in
set_option maxRecDepth 100000 in
theorem kX8_worthOf {l : Launch} {G : xG} {β : Nat} {D : Nat → Prop} {x : XS} {a1 : Int32} {a2 : Int32} {r : Int32} (hm : fX8_worthOf x a1 a2 = some r) : Met l yX8_worthOf (.code yX8_worthOf cX8_worthOf 3 (some .int) :: GT) rmX8_worthOf (PcW [.ref β, .int a1, .int a2] (CW β D G x) (KK G)) (QcW D (some (.int r)) (CW β D G x)) 0 0 D := by
  unfold fX8_worthOf at hm
  refine xpro (own := RX8) (by decide +kernel) rfl (Nat.le_of_ble_eq_true rfl) ?_
  intro p e s m args below meth c C hw ls hl
  have hx := C.1
  have hb := C.2.1
  have ho := C.2.2.2.1
  have hts := C.2.2.2.2.1
  have hf : Fz D G s.heap := hw.2.2.2.2
  have hS : va_S D s.heap s.heap [] := va_S.rf
  have hl : lv_has ls 3 [(0, .ref β), (1, .int a1), (2, .int a2)] := hl
  have hRf : 2 ≤ rmX8_worthOf.frames := Nat.le_refl _
  have hRl : 42 ≤ rmX8_worthOf.locals := Nat.le_refl _
  have hcs : 0 ≤ rmX8_worthOf.cells ∧ 0 ≤ rmX8_worthOf.slots := ⟨Nat.le_refl _, Nat.le_refl _⟩
  refine lv_iload_n hx hb dX8_worthOf_0 rfl (lv_at hl 2 rfl) ?_
  obtain ⟨v1, h2, hm⟩ := bind_e hm
  refine sX8_150 C h2 hw hS hl.1 (Nat.le_of_ble_eq_true rfl) (Nat.le_trans (Nat.le_of_ble_eq_true rfl) hRf) (Nat.le_trans (Nat.le_of_ble_eq_true rfl) hRl) hcs dX8_worthOf_1 (fun H locs hw hS => ?_)
  refine x_ifeqB hx hb dX8_worthOf_4 (tgt := 21) (by decide) (fun cc => ?_) (fun cc => ?_)
  · replace hm := ite_n cc hm
    refine lv_iconst (v := 0) hx hb dX8_worthOf_21 (by decide) ?_
    obtain rfl := Option.some.inj hm
    exact xret_i C hw hS dX8_worthOf_22
  · replace hm := ite_p cc hm
    refine lv_iload_n hx hb dX8_worthOf_7 rfl (lv_at hl 1 rfl) ?_
    refine lv_aload_n hx hb dX8_worthOf_8 rfl (lv_at hl 0 rfl) ?_
    refine gX8_19 C hw dX8_worthOf_9 ?_
    refine lv_iload_n hx hb dX8_worthOf_12 rfl (lv_at hl 2 rfl) ?_
    obtain ⟨h3, hm⟩ := chk_e hm
    refine alX_2 C hw h3 dX8_worthOf_13 ?_
    refine lv_imul hx hb dX8_worthOf_14 ?_
    refine lv_bipush (v := 10) hx hb dX8_worthOf_15 (by decide) ?_
    refine lv_idiv hx hb dX8_worthOf_17 (by decide) ?_
    refine lv_goto (tgt := 22) hx hb dX8_worthOf_18 (by decide) ?_
    obtain rfl := Option.some.inj hm
    exact xret_i C hw hS dX8_worthOf_22
theorem dX8_ratingOf_0 : decode cX8_ratingOf 0 = .ok (.aload_n 0, 1) := by decide +kernel
theorem dX8_ratingOf_1 : decode cX8_ratingOf 1 = .ok (.iload_n 1, 1) := by decide +kernel
theorem dX8_ratingOf_2 : decode cX8_ratingOf 2 = .ok (.iload_n 3, 1) := by decide +kernel
theorem dX8_ratingOf_3 : decode cX8_ratingOf 3 = .ok (.iload 4, 2) := by decide +kernel
theorem dX8_ratingOf_5 : decode cX8_ratingOf 5 = .ok (.invokevirtual 159, 3) := by decide +kernel
theorem dX8_ratingOf_8 : decode cX8_ratingOf 8 = .ok (.aload_n 0, 1) := by decide +kernel
theorem dX8_ratingOf_9 : decode cX8_ratingOf 9 = .ok (.iload_n 2, 1) := by decide +kernel
theorem dX8_ratingOf_10 : decode cX8_ratingOf 10 = .ok (.iload_n 3, 1) := by decide +kernel
theorem dX8_ratingOf_11 : decode cX8_ratingOf 11 = .ok (.invokevirtual 287, 3) := by decide +kernel
theorem dX8_ratingOf_14 : decode cX8_ratingOf 14 = .ok (.isub, 1) := by decide +kernel
theorem dX8_ratingOf_15 : decode cX8_ratingOf 15 = .ok (.ireturn, 1) := by decide +kernel
theorem sX8_287 {p : Program} {l : Launch} {e : Env} {R : Room} {s : State} {m : MethodId} {args : Array Value} {below : List Frame} {meth : Method} {c : Code} {H : Heap} {locs : List Loc} {cells slots : Nat} {Q : State → Prop} {cc : ByteArray} {pc nL : Nat} {ls : Array Slot} {rest : List Value} {ret : Option FieldType}  {G : xG} {β : Nat} {D : Nat → Prop} {x : XS} {a1 : Int32} {a2 : Int32} {r : Int32} (C : Cx p s m args meth c RX8 cc nL ret (KK G)) (h : fX8_worthOf x a1 a2 = some r) (hw : CW β D G x H) (hS : va_S D s.heap H locs) (hsz : ls.size = nL) (hW : (rest.map fun v => v.category).sum ≤ 8) (hR : 3 ≤ R.frames) (hR2 : 64 ≤ R.locals) (hcs : cells ≤ R.cells ∧ slots ≤ R.slots) (hd : decode cc pc = .ok (.invokevirtual 287, 3)) (kk : ∀ (H1 : Heap) (locs1 : List Loc), CW β D G x H1 → va_S D s.heap H1 locs1 → W p l e R s m args below meth c H1 locs1 cells slots Q (F0 m (pc + 3) ls (.int r :: rest))) : W p l e R s m args below meth c H locs cells slots Q (F0 m pc ls (.int a2 :: .int a1 :: .ref β :: rest)) := by
  exact xcallV C (As := [.int a1, .int a2]) (rest := rest) (nA := 2) (ci := 8) (kX8_worthOf h) (tg 595 (by decide +kernel) rfl) (tg 597 (by decide +kernel) rfl) (sg (List.mem_of_getElem? (i := 32) (by decide +kernel)) rfl) (tg 1 (by decide +kernel) rfl) (tg 598 (by decide +kernel) rfl) ⟨rfl, by decide +kernel, by decide +kernel, by decide +kernel⟩ rfl rfl rfl ⟨hR, hR2⟩ (hw.2.2.1 0 (by decide)) hw hS (fun _ q => q) rfl rfl hsz hW hd hcs (fun H1 locs1 hw hz hk hS => kk H1 locs1 hw hS)
def fX8_ratingOf (x : XS) (a1 : Int32) (a2 : Int32) (a3 : Int32) (a4 : Int32) : Option (Int32) := Option.bind (fX8_formOf x a1 a3 a4) fun v1 => Option.bind (fX8_worthOf x a2 a3) fun v3 => some (v1 - v3)
abbrev rmX8_ratingOf : Room := { frames := 3, cells := 0, slots := 0, locals := 66 }
set_option maxHeartbeats 4000000 in
set_option maxRecDepth 100000 in
theorem kX8_ratingOf {l : Launch} {G : xG} {β : Nat} {D : Nat → Prop} {x : XS} {a1 : Int32} {a2 : Int32} {a3 : Int32} {a4 : Int32} {r : Int32} (hm : fX8_ratingOf x a1 a2 a3 a4 = some r) : Met l yX8_ratingOf (.code yX8_ratingOf cX8_ratingOf 5 (some .int) :: GT) rmX8_ratingOf (PcW [.ref β, .int a1, .int a2, .int a3, .int a4] (CW β D G x) (KK G)) (QcW D (some (.int r)) (CW β D G x)) 0 0 D := by
  unfold fX8_ratingOf at hm
  refine xpro (own := RX8) (by decide +kernel) rfl (Nat.le_of_ble_eq_true rfl) ?_
  intro p e s m args below meth c C hw ls hl
  have hx := C.1
  have hb := C.2.1
  have ho := C.2.2.2.1
  have hts := C.2.2.2.2.1
  have hf : Fz D G s.heap := hw.2.2.2.2
  have hS : va_S D s.heap s.heap [] := va_S.rf
  have hl : lv_has ls 5 [(0, .ref β), (1, .int a1), (2, .int a2), (3, .int a3), (4, .int a4)] := hl
  have hRf : 3 ≤ rmX8_ratingOf.frames := Nat.le_refl _
  have hRl : 66 ≤ rmX8_ratingOf.locals := Nat.le_refl _
  have hcs : 0 ≤ rmX8_ratingOf.cells ∧ 0 ≤ rmX8_ratingOf.slots := ⟨Nat.le_refl _, Nat.le_refl _⟩
  refine lv_aload_n hx hb dX8_ratingOf_0 rfl (lv_at hl 0 rfl) ?_
  refine lv_iload_n hx hb dX8_ratingOf_1 rfl (lv_at hl 1 rfl) ?_
  refine lv_iload_n hx hb dX8_ratingOf_2 rfl (lv_at hl 3 rfl) ?_
  refine lv_iload hx hb dX8_ratingOf_3 (lv_at hl 4 rfl) ?_
  obtain ⟨v1, h2, hm⟩ := bind_e hm
  refine sX8_159 C h2 hw hS hl.1 (Nat.le_of_ble_eq_true rfl) (Nat.le_trans (Nat.le_of_ble_eq_true rfl) hRf) (Nat.le_trans (Nat.le_of_ble_eq_true rfl) hRl) hcs dX8_ratingOf_5 (fun H locs hw hS => ?_)
  refine lv_aload_n hx hb dX8_ratingOf_8 rfl (lv_at hl 0 rfl) ?_
  refine lv_iload_n hx hb dX8_ratingOf_9 rfl (lv_at hl 2 rfl) ?_
  refine lv_iload_n hx hb dX8_ratingOf_10 rfl (lv_at hl 3 rfl) ?_
  obtain ⟨v3, h4, hm⟩ := bind_e hm
  refine sX8_287 C h4 hw hS hl.1 (Nat.le_of_ble_eq_true rfl) (Nat.le_trans (Nat.le_of_ble_eq_true rfl) hRf) (Nat.le_trans (Nat.le_of_ble_eq_true rfl) hRl) hcs dX8_ratingOf_11 (fun H locs hw hS => ?_)
  refine lv_isub hx hb dX8_ratingOf_14 ?_
  obtain rfl := Option.some.inj hm
  exact xret_i C hw hS dX8_ratingOf_15
theorem dX8_weigh_0 : decode cX8_weigh 0 = .ok (.aload_n 0, 1) := by decide +kernel
theorem dX8_weigh_1 : decode cX8_weigh 1 = .ok (.getfield 79, 3) := by decide +kernel
theorem dX8_weigh_4 : decode cX8_weigh 4 = .ok (.getfield 373, 3) := by decide +kernel
theorem dX8_weigh_7 : decode cX8_weigh 7 = .ok (.iload_n 1, 1) := by decide +kernel
theorem dX8_weigh_8 : decode cX8_weigh 8 = .ok (.aload_n 0, 1) := by decide +kernel
theorem dX8_weigh_9 : decode cX8_weigh 9 = .ok (.iload_n 1, 1) := by decide +kernel
theorem dX8_weigh_10 : decode cX8_weigh 10 = .ok (.aload_n 0, 1) := by decide +kernel
theorem dX8_weigh_11 : decode cX8_weigh 11 = .ok (.getfield 89, 3) := by decide +kernel
theorem dX8_weigh_14 : decode cX8_weigh 14 = .ok (.iload_n 1, 1) := by decide +kernel
theorem dX8_weigh_15 : decode cX8_weigh 15 = .ok (.iaload, 1) := by decide +kernel
theorem dX8_weigh_16 : decode cX8_weigh 16 = .ok (.iload_n 2, 1) := by decide +kernel
theorem dX8_weigh_17 : decode cX8_weigh 17 = .ok (.bipush 100, 2) := by decide +kernel
theorem dX8_weigh_19 : decode cX8_weigh 19 = .ok (.idiv, 1) := by decide +kernel
theorem dX8_weigh_20 : decode cX8_weigh 20 = .ok (.iload_n 2, 1) := by decide +kernel
theorem dX8_weigh_21 : decode cX8_weigh 21 = .ok (.bipush 100, 2) := by decide +kernel
theorem dX8_weigh_23 : decode cX8_weigh 23 = .ok (.irem, 1) := by decide +kernel
theorem dX8_weigh_24 : decode cX8_weigh 24 = .ok (.invokevirtual 376, 3) := by decide +kernel
theorem dX8_weigh_27 : decode cX8_weigh 27 = .ok (.iastore, 1) := by decide +kernel
theorem dX8_weigh_28 : decode cX8_weigh 28 = .ok (.return_, 1) := by decide +kernel
theorem gX8_79 {p : Program} {l : Launch} {e : Env} {R : Room} {s : State} {m : MethodId} {args : Array Value} {below : List Frame} {meth : Method} {c : Code} {H : Heap} {locs : List Loc} {cells slots : Nat} {Q : State → Prop} {cc : ByteArray} {pc nL : Nat} {ls : Array Slot} {rest : List Value} {ret : Option FieldType} {G : xG} {β : Nat} {D : Nat → Prop} {x : XS} (C : Cx p s m args meth c RX8 cc nL ret (KK G)) (hw : CW β D G x H) (hd : decode cc pc = .ok (.getfield 79, 3)) (kk : W p l e R s m args below meth c H locs cells slots Q (F0 m (pc + 3) ls (.ref (β + 16) :: rest))) : W p l e R s m args below meth c H locs cells slots Q (F0 m pc ls (.ref β :: rest)) :=
  va_get C.1 C.2.1 C.2.2.2.2.1 iwX8 C.2.2.2.1 C.K.1 (xP1 (hw.2.2.1 0 (by decide))) 0 rfl rfl 13 (by decide) (C.2.2.2.2.1 (.fieldLink RX8 79 RX8 "chances" "LAtThePost$Chances;") (tg 360 (by decide +kernel) rfl)) (fun _ h9 => h9) rfl hd kk
theorem gX8_373 {p : Program} {l : Launch} {e : Env} {R : Room} {s : State} {m : MethodId} {args : Array Value} {below : List Frame} {meth : Method} {c : Code} {H : Heap} {locs : List Loc} {cells slots : Nat} {Q : State → Prop} {cc : ByteArray} {pc nL : Nat} {ls : Array Slot} {rest : List Value} {ret : Option FieldType} {G : xG} {β : Nat} {D : Nat → Prop} {x : XS} (C : Cx p s m args meth c RX8 cc nL ret (KK G)) (hw : CW β D G x H) (hd : decode cc pc = .ok (.getfield 373, 3)) (kk : W p l e R s m args below meth c H locs cells slots Q (F0 m (pc + 3) ls (.ref (β + 17) :: rest))) : W p l e R s m args below meth c H locs cells slots Q (F0 m pc ls (.ref (β + 16) :: rest)) :=
  va_getN C.1 C.2.1 C.2.2.2.2.1 iwX0 C.2.2.2.1 C.K.1 (xP1 (hw.2.2.1 16 (by decide))) 0 rfl rfl 0 (by decide) (va_Nw.use (w := .fieldLinkNest RX8 373 RX0 "bases" "[I" "AtThePost") rfl (C.K.2.1 (RX8, 373, RX0, "bases", "[I") (List.mem_of_getElem? (i := 10) rfl))) (fun _ h9 => h9) rfl hd kk
theorem alX_24 {p : Program} {l : Launch} {e : Env} {R : Room} {s : State} {m : MethodId} {args : Array Value} {below : List Frame} {meth : Method} {c : Code} {H : Heap} {locs : List Loc} {cells slots : Nat} {Q : State → Prop} {cc : ByteArray} {pc nL : Nat} {ls : Array Slot} {rest : List Value} {ret : Option FieldType} {G : xG} {β : Nat} {D : Nat → Prop} {x : XS} {own : String} {i : Int32} (C : Cx p s m args meth c own cc nL ret (KK G)) (hw : CW β D G x H) (hin : ib i 10) (hd : decode cc pc = .ok (.iaload, 1)) (kk : W p l e R s m args below meth c H locs cells slots Q (F0 m (pc + 1) ls (.int (x.2.1 24 i.toNatClampNeg) :: rest))) : W p l e R s m args below meth c H locs cells slots Q (F0 m pc ls (.int i :: .ref (β + 24) :: rest)) :=
  va_iald C.1 C.2.1 C.K.1 (xP1 (hw.2.2.1 24 (by decide))) 0 0 rfl rfl hin hd kk
theorem sX8_376 {p : Program} {l : Launch} {e : Env} {R : Room} {s : State} {m : MethodId} {args : Array Value} {below : List Frame} {meth : Method} {c : Code} {H : Heap} {locs : List Loc} {cells slots : Nat} {Q : State → Prop} {cc : ByteArray} {pc nL : Nat} {ls : Array Slot} {rest : List Value} {ret : Option FieldType}  {G : xG} {β : Nat} {D : Nat → Prop} {x : XS} {a1 : Int32} {a2 : Int32} {a3 : Int32} {a4 : Int32} {r : Int32} (C : Cx p s m args meth c RX8 cc nL ret (KK G)) (h : fX8_ratingOf x a1 a2 a3 a4 = some r) (hw : CW β D G x H) (hS : va_S D s.heap H locs) (hsz : ls.size = nL) (hW : (rest.map fun v => v.category).sum ≤ 8) (hR : 4 ≤ R.frames) (hR2 : 90 ≤ R.locals) (hcs : cells ≤ R.cells ∧ slots ≤ R.slots) (hd : decode cc pc = .ok (.invokevirtual 376, 3)) (kk : ∀ (H1 : Heap) (locs1 : List Loc), CW β D G x H1 → va_S D s.heap H1 locs1 → W p l e R s m args below meth c H1 locs1 cells slots Q (F0 m (pc + 3) ls (.int r :: rest))) : W p l e R s m args below meth c H locs cells slots Q (F0 m pc ls (.int a4 :: .int a3 :: .int a2 :: .int a1 :: .ref β :: rest)) := by
  exact xcallV C (As := [.int a1, .int a2, .int a3, .int a4]) (rest := rest) (nA := 4) (ci := 8) (kX8_ratingOf h) (tg 591 (by decide +kernel) rfl) (tg 593 (by decide +kernel) rfl) (sg (List.mem_of_getElem? (i := 31) (by decide +kernel)) rfl) (tg 1 (by decide +kernel) rfl) (tg 594 (by decide +kernel) rfl) ⟨rfl, by decide +kernel, by decide +kernel, by decide +kernel⟩ rfl rfl rfl ⟨hR, hR2⟩ (hw.2.2.1 0 (by decide)) hw hS (fun _ q => q) rfl rfl hsz hW hd hcs (fun H1 locs1 hw hz hk hS => kk H1 locs1 hw hS)
theorem asX_17 {p : Program} {l : Launch} {e : Env} {R : Room} {s : State} {m : MethodId} {args : Array Value} {below : List Frame} {meth : Method} {c : Code} {H : Heap} {locs : List Loc} {cells slots : Nat} {Q : State → Prop} {cc : ByteArray} {pc nL : Nat} {ls : Array Slot} {rest : List Value} {ret : Option FieldType} {G : xG} {β : Nat} {D : Nat → Prop} {x : XS} {own : String} {i : Int32} {v : Int32} (C : Cx p s m args meth c own cc nL ret (KK G)) (hw : CW β D G x H) (hS : va_S D s.heap H locs) (hin : ib i 10) (hd : decode cc pc = .ok (.iastore, 1)) (kk : ∀ (H1 : Heap) (locs1 : List Loc), CW β D G (xsA x 17 i.toNatClampNeg v) H1 → va_S D s.heap H1 locs1 → W p l e R s m args below meth c H1 locs1 cells slots Q (F0 m (pc + 1) ls (rest))) : W p l e R s m args below meth c H locs cells slots Q (F0 m pc ls (.int v :: .int i :: .ref (β + 17) :: rest)) :=
  x_iast C.1 C.2.1 C.K.1 hS 0 (hw.2.2.1 17 (by decide)) (hw.2.1 17 (by decide)) rfl hin hd (fun H1 locs1 hat ho hS => kk H1 locs1 (hw.setA 17 _ _ hat ho) hS)
def fX8_weigh (x : XS) (a1 : Int32) (a2 : Int32) : Option (XS) := if ib a1 10 then Option.bind (fX8_ratingOf x a1 (x.2.1 24 a1.toNatClampNeg) (a2 / 100) (irm a2 100)) fun v2 => if ib a1 10 then lt (xsA x 17 a1.toNatClampNeg v2) fun x5 => some x5 else none else none
abbrev rmX8_weigh : Room := { frames := 4, cells := 0, slots := 0, locals := 90 }
set_option maxHeartbeats 4000000 in
set_option maxRecDepth 100000 in
theorem kX8_weigh {l : Launch} {G : xG} {β : Nat} {D : Nat → Prop} {x x' : XS} {a1 : Int32} {a2 : Int32} (hm : fX8_weigh x a1 a2 = some x') : Met l yX8_weigh (.code yX8_weigh cX8_weigh 3 none :: GT) rmX8_weigh (PcW [.ref β, .int a1, .int a2] (CW β D G x) (KK G)) (QcW D none (CW β D G x')) 0 0 D := by
  unfold fX8_weigh at hm
  refine xpro (own := RX8) (by decide +kernel) rfl (Nat.le_of_ble_eq_true rfl) ?_
  intro p e s m args below meth c C hw ls hl
  have hx := C.1
  have hb := C.2.1
  have ho := C.2.2.2.1
  have hts := C.2.2.2.2.1
  have hf : Fz D G s.heap := hw.2.2.2.2
  have hS : va_S D s.heap s.heap [] := va_S.rf
  have hl : lv_has ls 3 [(0, .ref β), (1, .int a1), (2, .int a2)] := hl
  have hRf : 4 ≤ rmX8_weigh.frames := Nat.le_refl _
  have hRl : 90 ≤ rmX8_weigh.locals := Nat.le_refl _
  have hcs : 0 ≤ rmX8_weigh.cells ∧ 0 ≤ rmX8_weigh.slots := ⟨Nat.le_refl _, Nat.le_refl _⟩
  refine lv_aload_n hx hb dX8_weigh_0 rfl (lv_at hl 0 rfl) ?_
  refine gX8_79 C hw dX8_weigh_1 ?_
  refine gX8_373 C hw dX8_weigh_4 ?_
  refine lv_iload_n hx hb dX8_weigh_7 rfl (lv_at hl 1 rfl) ?_
  refine lv_aload_n hx hb dX8_weigh_8 rfl (lv_at hl 0 rfl) ?_
  refine lv_iload_n hx hb dX8_weigh_9 rfl (lv_at hl 1 rfl) ?_
  refine lv_aload_n hx hb dX8_weigh_10 rfl (lv_at hl 0 rfl) ?_
  refine gX8_89 C hw dX8_weigh_11 ?_
  refine lv_iload_n hx hb dX8_weigh_14 rfl (lv_at hl 1 rfl) ?_
  obtain ⟨h1, hm⟩ := chk_e hm
  refine alX_24 C hw h1 dX8_weigh_15 ?_
  refine lv_iload_n hx hb dX8_weigh_16 rfl (lv_at hl 2 rfl) ?_
  refine lv_bipush (v := 100) hx hb dX8_weigh_17 (by decide) ?_
  refine lv_idiv hx hb dX8_weigh_19 (by decide) ?_
  refine lv_iload_n hx hb dX8_weigh_20 rfl (lv_at hl 2 rfl) ?_
  refine lv_bipush (v := 100) hx hb dX8_weigh_21 (by decide) ?_
  refine lv_irem hx hb dX8_weigh_23 (by decide) ?_
  obtain ⟨v2, h3, hm⟩ := bind_e hm
  refine sX8_376 C h3 hw hS hl.1 (Nat.le_of_ble_eq_true rfl) (Nat.le_trans (Nat.le_of_ble_eq_true rfl) hRf) (Nat.le_trans (Nat.le_of_ble_eq_true rfl) hRl) hcs dX8_weigh_24 (fun H locs hw hS => ?_)
  obtain ⟨h4, hm⟩ := chk_e hm
  refine asX_17 C hw hS h4 dX8_weigh_27 (fun H locs hw hS => ?_)
  obtain ⟨x5, ev, hm⟩ := lt_e hm
  rw [← ev] at hw
  clear ev
  obtain rfl := Option.some.inj hm
  exact xret_v C hw hS dX8_weigh_28
theorem dX8_enter_0 : decode cX8_enter 0 = .ok (.aload_n 0, 1) := by decide +kernel
theorem dX8_enter_1 : decode cX8_enter 1 = .ok (.invokevirtual 296, 3) := by decide +kernel
theorem dX8_enter_4 : decode cX8_enter 4 = .ok (.aload_n 0, 1) := by decide +kernel
theorem dX8_enter_5 : decode cX8_enter 5 = .ok (.getfield 79, 3) := by decide +kernel
theorem dX8_enter_8 : decode cX8_enter 8 = .ok (.iload_n 1, 1) := by decide +kernel
theorem dX8_enter_9 : decode cX8_enter 9 = .ok (.putfield 366, 3) := by decide +kernel
theorem dX8_enter_12 : decode cX8_enter 12 = .ok (.aload_n 0, 1) := by decide +kernel
theorem dX8_enter_13 : decode cX8_enter 13 = .ok (.getfield 79, 3) := by decide +kernel
theorem dX8_enter_16 : decode cX8_enter 16 = .ok (.aload_n 0, 1) := by decide +kernel
theorem dX8_enter_17 : decode cX8_enter 17 = .ok (.getfield 23, 3) := by decide +kernel
theorem dX8_enter_20 : decode cX8_enter 20 = .ok (.putfield 369, 3) := by decide +kernel
theorem dX8_enter_23 : decode cX8_enter 23 = .ok (.iconst 0, 1) := by decide +kernel
theorem dX8_enter_24 : decode cX8_enter 24 = .ok (.istore_n 3, 1) := by decide +kernel
theorem dX8_enter_25 : decode cX8_enter 25 = .ok (.iload_n 3, 1) := by decide +kernel
theorem dX8_enter_26 : decode cX8_enter 26 = .ok (.aload_n 0, 1) := by decide +kernel
theorem dX8_enter_27 : decode cX8_enter 27 = .ok (.getfield 15, 3) := by decide +kernel
theorem dX8_enter_30 : decode cX8_enter 30 = .ok (.if_icmp .ge 15, 3) := by decide +kernel
theorem dX8_enter_33 : decode cX8_enter 33 = .ok (.aload_n 0, 1) := by decide +kernel
theorem dX8_enter_34 : decode cX8_enter 34 = .ok (.iload_n 3, 1) := by decide +kernel
theorem dX8_enter_35 : decode cX8_enter 35 = .ok (.iload_n 2, 1) := by decide +kernel
theorem dX8_enter_36 : decode cX8_enter 36 = .ok (.invokevirtual 370, 3) := by decide +kernel
theorem dX8_enter_39 : decode cX8_enter 39 = .ok (.iinc 3 1, 3) := by decide +kernel
theorem dX8_enter_42 : decode cX8_enter 42 = .ok (.goto (-17), 3) := by decide +kernel
theorem dX8_enter_45 : decode cX8_enter 45 = .ok (.return_, 1) := by decide +kernel
theorem sX8_296 {p : Program} {l : Launch} {e : Env} {R : Room} {s : State} {m : MethodId} {args : Array Value} {below : List Frame} {meth : Method} {c : Code} {H : Heap} {locs : List Loc} {cells slots : Nat} {Q : State → Prop} {cc : ByteArray} {pc nL : Nat} {ls : Array Slot} {rest : List Value} {ret : Option FieldType}  {G : xG} {β : Nat} {D : Nat → Prop} {x x' : XS} (C : Cx p s m args meth c RX8 cc nL ret (KK G)) (h : fX8_takeLeads x = some x') (hw : CW β D G x H) (hS : va_S D s.heap H locs) (hsz : ls.size = nL) (hW : (rest.map fun v => v.category).sum ≤ 8) (hR : 3 ≤ R.frames) (hR2 : 64 ≤ R.locals) (hcs : cells ≤ R.cells ∧ slots ≤ R.slots) (hd : decode cc pc = .ok (.invokevirtual 296, 3)) (kk : ∀ (H1 : Heap) (locs1 : List Loc), CW β D G x' H1 → va_S D s.heap H1 locs1 → W p l e R s m args below meth c H1 locs1 cells slots Q (F0 m (pc + 3) ls (rest))) : W p l e R s m args below meth c H locs cells slots Q (F0 m pc ls (.ref β :: rest)) := by
  exact xcallV C (As := []) (rest := rest) (nA := 0) (ci := 8) (kX8_takeLeads h) (tg 579 (by decide +kernel) rfl) (tg 581 (by decide +kernel) rfl) (sg (List.mem_of_getElem? (i := 28) (by decide +kernel)) rfl) (tg 1 (by decide +kernel) rfl) (tg 582 (by decide +kernel) rfl) ⟨rfl, by decide +kernel, by decide +kernel, by decide +kernel⟩ rfl rfl rfl ⟨hR, hR2⟩ (hw.2.2.1 0 (by decide)) hw hS (fun _ q => q) rfl rfl hsz hW hd hcs (fun H1 locs1 hw hz hk hS => kk H1 locs1 hw hS)
theorem pX8_366 {p : Program} {l : Launch} {e : Env} {R : Room} {s : State} {m : MethodId} {args : Array Value} {below : List Frame} {meth : Method} {c : Code} {H : Heap} {locs : List Loc} {cells slots : Nat} {Q : State → Prop} {cc : ByteArray} {pc nL : Nat} {ls : Array Slot} {rest : List Value} {ret : Option FieldType} {G : xG} {β : Nat} {D : Nat → Prop} {x : XS} {v : Int32} (C : Cx p s m args meth c RX8 cc nL ret (KK G)) (hw : CW β D G x H) (hS : va_S D s.heap H locs) (hd : decode cc pc = .ok (.putfield 366, 3)) (kk : ∀ (H1 : Heap) (locs1 : List Loc), CW β D G (xsS x 16 5 v) H1 → va_S D s.heap H1 locs1 → W p l e R s m args below meth c H1 locs1 cells slots Q (F0 m (pc + 3) ls (rest))) : W p l e R s m args below meth c H locs cells slots Q (F0 m pc ls (.int v :: .ref (β + 16) :: rest)) :=
  x_putN C.1 C.2.1 C.2.2.2.2.1 iwX0 tyX0 tyX0_ok nmX0 C.2.2.2.1 C.K.1 hS (hw.2.2.1 16 (by decide)) (hw.2.1 16 (by decide)) rfl 5 (by decide) (va_Nw.use (w := .fieldLinkNest RX8 366 RX0 "field" "I" "AtThePost") rfl (C.K.2.1 (RX8, 366, RX0, "field", "I") (List.mem_of_getElem? (i := 11) rfl))) (fun _ h9 => h9) rfl (ty := .int) (by decide +kernel) rfl rfl (Nat.le_of_ble_eq_true rfl) hd (fun H1 locs1 hat ho hS => kk H1 locs1 (hw.setS 16 5 v hat ho) hS)
theorem pX8_369 {p : Program} {l : Launch} {e : Env} {R : Room} {s : State} {m : MethodId} {args : Array Value} {below : List Frame} {meth : Method} {c : Code} {H : Heap} {locs : List Loc} {cells slots : Nat} {Q : State → Prop} {cc : ByteArray} {pc nL : Nat} {ls : Array Slot} {rest : List Value} {ret : Option FieldType} {G : xG} {β : Nat} {D : Nat → Prop} {x : XS} {v : Int32} (C : Cx p s m args meth c RX8 cc nL ret (KK G)) (hw : CW β D G x H) (hS : va_S D s.heap H locs) (hd : decode cc pc = .ok (.putfield 369, 3)) (kk : ∀ (H1 : Heap) (locs1 : List Loc), CW β D G (xsS x 16 6 v) H1 → va_S D s.heap H1 locs1 → W p l e R s m args below meth c H1 locs1 cells slots Q (F0 m (pc + 3) ls (rest))) : W p l e R s m args below meth c H locs cells slots Q (F0 m pc ls (.int v :: .ref (β + 16) :: rest)) :=
  x_putN C.1 C.2.1 C.2.2.2.2.1 iwX0 tyX0 tyX0_ok nmX0 C.2.2.2.1 C.K.1 hS (hw.2.2.1 16 (by decide)) (hw.2.1 16 (by decide)) rfl 6 (by decide) (va_Nw.use (w := .fieldLinkNest RX8 369 RX0 "spread" "I" "AtThePost") rfl (C.K.2.1 (RX8, 369, RX0, "spread", "I") (List.mem_of_getElem? (i := 12) rfl))) (fun _ h9 => h9) rfl (ty := .int) (by decide +kernel) rfl rfl (Nat.le_of_ble_eq_true rfl) hd (fun H1 locs1 hat ho hS => kk H1 locs1 (hw.setS 16 6 v hat ho) hS)
theorem sX8_370 {p : Program} {l : Launch} {e : Env} {R : Room} {s : State} {m : MethodId} {args : Array Value} {below : List Frame} {meth : Method} {c : Code} {H : Heap} {locs : List Loc} {cells slots : Nat} {Q : State → Prop} {cc : ByteArray} {pc nL : Nat} {ls : Array Slot} {rest : List Value} {ret : Option FieldType}  {G : xG} {β : Nat} {D : Nat → Prop} {x x' : XS} {a1 : Int32} {a2 : Int32} (C : Cx p s m args meth c RX8 cc nL ret (KK G)) (h : fX8_weigh x a1 a2 = some x') (hw : CW β D G x H) (hS : va_S D s.heap H locs) (hsz : ls.size = nL) (hW : (rest.map fun v => v.category).sum ≤ 8) (hR : 5 ≤ R.frames) (hR2 : 112 ≤ R.locals) (hcs : cells ≤ R.cells ∧ slots ≤ R.slots) (hd : decode cc pc = .ok (.invokevirtual 370, 3)) (kk : ∀ (H1 : Heap) (locs1 : List Loc), CW β D G x' H1 → va_S D s.heap H1 locs1 → W p l e R s m args below meth c H1 locs1 cells slots Q (F0 m (pc + 3) ls (rest))) : W p l e R s m args below meth c H locs cells slots Q (F0 m pc ls (.int a2 :: .int a1 :: .ref β :: rest)) := by
  exact xcallV C (As := [.int a1, .int a2]) (rest := rest) (nA := 2) (ci := 8) (kX8_weigh h) (tg 587 (by decide +kernel) rfl) (tg 589 (by decide +kernel) rfl) (sg (List.mem_of_getElem? (i := 30) (by decide +kernel)) rfl) (tg 1 (by decide +kernel) rfl) (tg 590 (by decide +kernel) rfl) ⟨rfl, by decide +kernel, by decide +kernel, by decide +kernel⟩ rfl rfl rfl ⟨hR, hR2⟩ (hw.2.2.1 0 (by decide)) hw hS (fun _ q => q) rfl rfl hsz hW hd hcs (fun H1 locs1 hw hz hk hS => kk H1 locs1 hw hS)
def BX8_enter_25 (q2 : Int32) (lp : Int32 → XS → Option (XS)) (u3 : Int32) (x : XS) : Option (XS) := if (x.1 0 1) ≤ u3 then some x else Option.bind (fX8_weigh x u3 q2) fun x5 => lt (u3 + 1) fun v7 => lp v7 x5
def LX8_enter_25 (q2 : Int32) : Nat → Int32 → XS → Option (XS)
  | 0, _, _ => none
  | n + 1, u3, x => BX8_enter_25 q2 (LX8_enter_25 q2 n) u3 x
def fX8_enter (x : XS) (a1 : Int32) (a2 : Int32) : Option (XS) := Option.bind (fX8_takeLeads x) fun x1 => lt (xsS x1 16 5 a1) fun x3 => lt (xsS x3 16 6 (x3.1 0 3)) fun x4 => Option.bind (LX8_enter_25 a2 NF 0 x4) fun x8 => some x8
set_option maxHeartbeats 4000000 in
set_option maxRecDepth 100000 in
theorem lX8_enter_25 {p : Program} {l : Launch} {e : Env} {R : Room} {s : State} {m : MethodId} {args : Array Value} {below : List Frame} {meth : Method} {c : Code} {cells slots : Nat} {Q : State → Prop} {G : xG} {β : Nat} {D : Nat → Prop} (C : Cx p s m args meth c RX8 cX8_enter 4 none (KK G)) (hRf : 5 ≤ R.frames) (hRl : 112 ≤ R.locals) (hcs : cells ≤ R.cells ∧ slots ≤ R.slots) (hf : Fz D G s.heap) (q2 : Int32) : ∀ (n : Nat) (u3 : Int32) (x : XS) (J : XS) (H : Heap) (locs : List Loc) (ls : Array Slot), LX8_enter_25 q2 n u3 x = some J → CW β D G x H → va_S D s.heap H locs → lv_has ls 4 [(0, .ref β), (2, .int q2), (3, .int u3)] → (∀ (x1 : XS), J = x1 → ∀ (H : Heap) (locs : List Loc) (ls : Array Slot), CW β D G x1 H → va_S D s.heap H locs → lv_has ls 4 [] → W p l e R s m args below meth c H locs cells slots Q (F0 m 45 ls [])) → W p l e R s m args below meth c H locs cells slots Q (F0 m 25 ls []) := by
  have hx := C.1
  have hb := C.2.1
  have ho := C.2.2.2.1
  have hts := C.2.2.2.2.1
  intro n
  induction n with
  | zero =>
    intro u3 x J H locs ls hm
    exact absurd hm (by simp [LX8_enter_25])
  | succ n ih =>
    intro u3 x J H locs ls hm hw hS hl ke
    replace hm : BX8_enter_25 q2 (LX8_enter_25 q2 n) u3 x = some J := hm
    unfold BX8_enter_25 at hm
    refine lv_iload_n hx hb dX8_enter_25 rfl (lv_at hl 2 rfl) ?_
    refine lv_aload_n hx hb dX8_enter_26 rfl (lv_at hl 0 rfl) ?_
    refine gX8_15 C hw dX8_enter_27 ?_
    refine lv_icmp_ge (tgt := 45) hx hb dX8_enter_30 (by decide) (fun cc => ?_) (fun cc => ?_)
    · replace hm := ite_p cc hm
      exact ke _ (Option.some.inj hm).symm _ _ _ hw hS (lv_sub hl [] rfl)
    · replace hm := ite_n cc hm
      refine lv_aload_n hx hb dX8_enter_33 rfl (lv_at hl 0 rfl) ?_
      refine lv_iload_n hx hb dX8_enter_34 rfl (lv_at hl 2 rfl) ?_
      refine lv_iload_n hx hb dX8_enter_35 rfl (lv_at hl 1 rfl) ?_
      obtain ⟨x5, h6, hm⟩ := bind_e hm
      refine sX8_370 C h6 hw hS hl.1 (Nat.le_of_ble_eq_true rfl) (Nat.le_trans (Nat.le_of_ble_eq_true rfl) hRf) (Nat.le_trans (Nat.le_of_ble_eq_true rfl) hRl) hcs dX8_enter_36 (fun H locs hw hS => ?_)
      obtain ⟨v7, ev, hm⟩ := lt_e hm
      refine lv_iinc (v := v7) (lv' := [(3, .int v7), (0, .ref β), (2, .int q2)]) hx hb dX8_enter_39 hl (k := 2) rfl (by rw [ev]; rfl) (by decide) rfl (fun ls hl => ?_)
      clear ev
      refine lv_goto (tgt := 25) hx hb dX8_enter_42 (by decide) ?_
      exact ih _ _ _ _ _ _ hm hw hS (lv_sub hl [1, 2, 0] rfl) ke
abbrev rmX8_enter : Room := { frames := 5, cells := 0, slots := 0, locals := 112 }
set_option maxHeartbeats 4000000 in
set_option maxRecDepth 100000 in
theorem kX8_enter {l : Launch} {G : xG} {β : Nat} {D : Nat → Prop} {x x' : XS} {a1 : Int32} {a2 : Int32} (hm : fX8_enter x a1 a2 = some x') : Met l yX8_enter (.code yX8_enter cX8_enter 4 none :: GT) rmX8_enter (PcW [.ref β, .int a1, .int a2] (CW β D G x) (KK G)) (QcW D none (CW β D G x')) 0 0 D := by
  unfold fX8_enter at hm
  refine xpro (own := RX8) (by decide +kernel) rfl (Nat.le_of_ble_eq_true rfl) ?_
  intro p e s m args below meth c C hw ls hl
  have hx := C.1
  have hb := C.2.1
  have ho := C.2.2.2.1
  have hts := C.2.2.2.2.1
  have hf : Fz D G s.heap := hw.2.2.2.2
  have hS : va_S D s.heap s.heap [] := va_S.rf
  have hl : lv_has ls 4 [(0, .ref β), (1, .int a1), (2, .int a2)] := hl
  have hRf : 5 ≤ rmX8_enter.frames := Nat.le_refl _
  have hRl : 112 ≤ rmX8_enter.locals := Nat.le_refl _
  have hcs : 0 ≤ rmX8_enter.cells ∧ 0 ≤ rmX8_enter.slots := ⟨Nat.le_refl _, Nat.le_refl _⟩
  refine lv_aload_n hx hb dX8_enter_0 rfl (lv_at hl 0 rfl) ?_
  obtain ⟨x1, h2, hm⟩ := bind_e hm
  refine sX8_296 C h2 hw hS hl.1 (Nat.le_of_ble_eq_true rfl) (Nat.le_trans (Nat.le_of_ble_eq_true rfl) hRf) (Nat.le_trans (Nat.le_of_ble_eq_true rfl) hRl) hcs dX8_enter_1 (fun H locs hw hS => ?_)
  refine lv_aload_n hx hb dX8_enter_4 rfl (lv_at hl 0 rfl) ?_
  refine gX8_79 C hw dX8_enter_5 ?_
  refine lv_iload_n hx hb dX8_enter_8 rfl (lv_at hl 1 rfl) ?_
  refine pX8_366 C hw hS dX8_enter_9 (fun H locs hw hS => ?_)
  obtain ⟨x3, ev, hm⟩ := lt_e hm
  rw [← ev] at hw
  clear ev
  refine lv_aload_n hx hb dX8_enter_12 rfl (lv_at hl 0 rfl) ?_
  refine gX8_79 C hw dX8_enter_13 ?_
  refine lv_aload_n hx hb dX8_enter_16 rfl (lv_at hl 0 rfl) ?_
  refine gX8_23 C hw dX8_enter_17 ?_
  refine pX8_369 C hw hS dX8_enter_20 (fun H locs hw hS => ?_)
  obtain ⟨x4, ev, hm⟩ := lt_e hm
  rw [← ev] at hw
  clear ev
  refine lv_iconst (v := 0) hx hb dX8_enter_23 (by decide) ?_
  refine lv_istore_n (lv' := [(3, .int 0), (0, .ref β), (1, .int a1), (2, .int a2)]) hx hb dX8_enter_24 rfl hl (by decide) rfl (fun ls hl => ?_)
  obtain ⟨x8, hj, hm⟩ := bind_e hm
  refine lX8_enter_25 C hRf hRl hcs hf a2 NF _ _ _ _ _ _ hj hw hS (lv_sub hl [1, 3, 0] rfl) (fun x8_ e0 H locs ls hw hS hl => ?_)
  cases e0
  obtain rfl := Option.some.inj hm
  exact xret_v C hw hS dX8_enter_45
theorem dX8_commonDivisor_0 : decode cX8_commonDivisor 0 = .ok (.iload_n 0, 1) := by decide +kernel
theorem dX8_commonDivisor_1 : decode cX8_commonDivisor 1 = .ok (.istore_n 2, 1) := by decide +kernel
theorem dX8_commonDivisor_2 : decode cX8_commonDivisor 2 = .ok (.iload_n 1, 1) := by decide +kernel
theorem dX8_commonDivisor_3 : decode cX8_commonDivisor 3 = .ok (.istore_n 3, 1) := by decide +kernel
theorem dX8_commonDivisor_4 : decode cX8_commonDivisor 4 = .ok (.iconst 0, 1) := by decide +kernel
theorem dX8_commonDivisor_5 : decode cX8_commonDivisor 5 = .ok (.istore 4, 2) := by decide +kernel
theorem dX8_commonDivisor_7 : decode cX8_commonDivisor 7 = .ok (.iload 4, 2) := by decide +kernel
theorem dX8_commonDivisor_9 : decode cX8_commonDivisor 9 = .ok (.bipush 64, 2) := by decide +kernel
theorem dX8_commonDivisor_11 : decode cX8_commonDivisor 11 = .ok (.if_icmp .ge 23, 3) := by decide +kernel
theorem dX8_commonDivisor_14 : decode cX8_commonDivisor 14 = .ok (.iload_n 3, 1) := by decide +kernel
theorem dX8_commonDivisor_15 : decode cX8_commonDivisor 15 = .ok (.ifCond .eq 19, 3) := by decide +kernel
theorem dX8_commonDivisor_18 : decode cX8_commonDivisor 18 = .ok (.iload_n 2, 1) := by decide +kernel
theorem dX8_commonDivisor_19 : decode cX8_commonDivisor 19 = .ok (.iload_n 3, 1) := by decide +kernel
theorem dX8_commonDivisor_20 : decode cX8_commonDivisor 20 = .ok (.irem, 1) := by decide +kernel
theorem dX8_commonDivisor_21 : decode cX8_commonDivisor 21 = .ok (.istore 5, 2) := by decide +kernel
theorem dX8_commonDivisor_23 : decode cX8_commonDivisor 23 = .ok (.iload_n 3, 1) := by decide +kernel
theorem dX8_commonDivisor_24 : decode cX8_commonDivisor 24 = .ok (.istore_n 2, 1) := by decide +kernel
theorem dX8_commonDivisor_25 : decode cX8_commonDivisor 25 = .ok (.iload 5, 2) := by decide +kernel
theorem dX8_commonDivisor_27 : decode cX8_commonDivisor 27 = .ok (.istore_n 3, 1) := by decide +kernel
theorem dX8_commonDivisor_28 : decode cX8_commonDivisor 28 = .ok (.iinc 4 1, 3) := by decide +kernel
theorem dX8_commonDivisor_31 : decode cX8_commonDivisor 31 = .ok (.goto (-24), 3) := by decide +kernel
theorem dX8_commonDivisor_34 : decode cX8_commonDivisor 34 = .ok (.iload_n 2, 1) := by decide +kernel
theorem dX8_commonDivisor_35 : decode cX8_commonDivisor 35 = .ok (.ireturn, 1) := by decide +kernel
def BX8_commonDivisor_7 (lp : Int32 → Int32 → Int32 → Option (Int32)) (u2 : Int32) (u3 : Int32) (u4 : Int32) : Option (Int32) := if 64 ≤ u4 then some u2 else if u3 = 0 then some u2 else if ¬ u3 = 0 then lt (irm u2 u3) fun v2 => lt (u4 + 1) fun v3 => lp u3 v2 v3 else none
def LX8_commonDivisor_7 : Nat → Int32 → Int32 → Int32 → Option (Int32)
  | 0, _, _, _ => none
  | n + 1, u2, u3, u4 => BX8_commonDivisor_7 (LX8_commonDivisor_7 n) u2 u3 u4
def fX8_commonDivisor (a1 : Int32) (a2 : Int32) : Option (Int32) := Option.bind (LX8_commonDivisor_7 NF a1 a2 0) fun v4 => some v4
set_option maxHeartbeats 4000000 in
set_option maxRecDepth 100000 in
theorem lX8_commonDivisor_7 {p : Program} {l : Launch} {e : Env} {R : Room} {s : State} {m : MethodId} {args : Array Value} {below : List Frame} {meth : Method} {c : Code} {cells slots : Nat} {Q : State → Prop} {G : xG} {β : Nat} {D : Nat → Prop} (C : Cx p s m args meth c RX8 cX8_commonDivisor 6 (some .int) (KK G)) (hRf : 0 ≤ R.frames) (hRl : 0 ≤ R.locals) (hcs : cells ≤ R.cells ∧ slots ≤ R.slots) (hf : Fz D G s.heap) {x : XS} : ∀ (n : Nat) (u2 : Int32) (u3 : Int32) (u4 : Int32) (J : Int32) (H : Heap) (locs : List Loc) (ls : Array Slot), LX8_commonDivisor_7 n u2 u3 u4 = some J → CW β D G x H → va_S D s.heap H locs → lv_has ls 6 [(2, .int u2), (3, .int u3), (4, .int u4)] → (∀ (w2 : Int32), J = w2 → ∀ (H : Heap) (locs : List Loc) (ls : Array Slot), CW β D G x H → va_S D s.heap H locs → lv_has ls 6 [(2, .int w2)] → W p l e R s m args below meth c H locs cells slots Q (F0 m 34 ls [])) → W p l e R s m args below meth c H locs cells slots Q (F0 m 7 ls []) := by
  have hx := C.1
  have hb := C.2.1
  have ho := C.2.2.2.1
  have hts := C.2.2.2.2.1
  intro n
  induction n with
  | zero =>
    intro u2 u3 u4 J H locs ls hm
    exact absurd hm (by simp [LX8_commonDivisor_7])
  | succ n ih =>
    intro u2 u3 u4 J H locs ls hm hw hS hl ke
    replace hm : BX8_commonDivisor_7 (LX8_commonDivisor_7 n) u2 u3 u4 = some J := hm
    unfold BX8_commonDivisor_7 at hm
    refine lv_iload hx hb dX8_commonDivisor_7 (lv_at hl 2 rfl) ?_
    refine lv_bipush (v := 64) hx hb dX8_commonDivisor_9 (by decide) ?_
    refine lv_icmp_ge (tgt := 34) hx hb dX8_commonDivisor_11 (by decide) (fun cc => ?_) (fun cc => ?_)
    · replace hm := ite_p cc hm
      exact ke _ (Option.some.inj hm).symm _ _ _ hw hS (lv_sub hl [0] rfl)
    · replace hm := ite_n cc hm
      refine lv_iload_n hx hb dX8_commonDivisor_14 rfl (lv_at hl 1 rfl) ?_
      refine lv_if_eq (tgt := 34) hx hb dX8_commonDivisor_15 (by decide) (fun cc => ?_) (fun cc => ?_)
      · replace hm := ite_p cc hm
        exact ke _ (Option.some.inj hm).symm _ _ _ hw hS (lv_sub hl [0] rfl)
      · replace hm := ite_n cc hm
        refine lv_iload_n hx hb dX8_commonDivisor_18 rfl (lv_at hl 0 rfl) ?_
        refine lv_iload_n hx hb dX8_commonDivisor_19 rfl (lv_at hl 1 rfl) ?_
        obtain ⟨h1, hm⟩ := chk_e hm
        refine lv_irem hx hb dX8_commonDivisor_20 h1 ?_
        refine topI hm (fun v2 hm => ?_)
        refine lv_istore (lv' := [(5, .int v2), (2, .int u2), (3, .int u3), (4, .int u4)]) hx hb dX8_commonDivisor_21 hl (by decide) rfl (fun ls hl => ?_)
        refine lv_iload_n hx hb dX8_commonDivisor_23 rfl (lv_at hl 2 rfl) ?_
        refine lv_istore_n (lv' := [(2, .int u3), (5, .int v2), (3, .int u3), (4, .int u4)]) hx hb dX8_commonDivisor_24 rfl hl (by decide) rfl (fun ls hl => ?_)
        refine lv_iload hx hb dX8_commonDivisor_25 (lv_at hl 1 rfl) ?_
        refine lv_istore_n (lv' := [(3, .int v2), (2, .int u3), (5, .int v2), (4, .int u4)]) hx hb dX8_commonDivisor_27 rfl hl (by decide) rfl (fun ls hl => ?_)
        obtain ⟨v3, ev, hm⟩ := lt_e hm
        refine lv_iinc (v := v3) (lv' := [(4, .int v3), (3, .int v2), (2, .int u3), (5, .int v2)]) hx hb dX8_commonDivisor_28 hl (k := 3) rfl (by rw [ev]; rfl) (by decide) rfl (fun ls hl => ?_)
        clear ev
        refine lv_goto (tgt := 7) hx hb dX8_commonDivisor_31 (by decide) ?_
        exact ih _ _ _ _ _ _ _ hm hw hS (lv_sub hl [2, 1, 0] rfl) ke
abbrev rmX8_commonDivisor : Room := { frames := 0, cells := 0, slots := 0, locals := 0 }
set_option maxHeartbeats 4000000 in
set_option maxRecDepth 100000 in
theorem kX8_commonDivisor {l : Launch} {G : xG} {β : Nat} {D : Nat → Prop} {x : XS} {a1 : Int32} {a2 : Int32} {r : Int32} (hm : fX8_commonDivisor a1 a2 = some r) : Met l yX8_commonDivisor (.code yX8_commonDivisor cX8_commonDivisor 6 (some .int) :: GT) rmX8_commonDivisor (PcW [.int a1, .int a2] (CW β D G x) (KK G)) (QcW D (some (.int r)) (CW β D G x)) 0 0 D := by
  unfold fX8_commonDivisor at hm
  refine xpro (own := RX8) (by decide +kernel) rfl (Nat.le_of_ble_eq_true rfl) ?_
  intro p e s m args below meth c C hw ls hl
  have hx := C.1
  have hb := C.2.1
  have ho := C.2.2.2.1
  have hts := C.2.2.2.2.1
  have hf : Fz D G s.heap := hw.2.2.2.2
  have hS : va_S D s.heap s.heap [] := va_S.rf
  have hl : lv_has ls 6 [(0, .int a1), (1, .int a2)] := hl
  have hRf : 0 ≤ rmX8_commonDivisor.frames := Nat.le_refl _
  have hRl : 0 ≤ rmX8_commonDivisor.locals := Nat.le_refl _
  have hcs : 0 ≤ rmX8_commonDivisor.cells ∧ 0 ≤ rmX8_commonDivisor.slots := ⟨Nat.le_refl _, Nat.le_refl _⟩
  refine lv_iload_n hx hb dX8_commonDivisor_0 rfl (lv_at hl 0 rfl) ?_
  refine lv_istore_n (lv' := [(2, .int a1), (0, .int a1), (1, .int a2)]) hx hb dX8_commonDivisor_1 rfl hl (by decide) rfl (fun ls hl => ?_)
  refine lv_iload_n hx hb dX8_commonDivisor_2 rfl (lv_at hl 2 rfl) ?_
  refine lv_istore_n (lv' := [(3, .int a2), (2, .int a1), (0, .int a1), (1, .int a2)]) hx hb dX8_commonDivisor_3 rfl hl (by decide) rfl (fun ls hl => ?_)
  refine lv_iconst (v := 0) hx hb dX8_commonDivisor_4 (by decide) ?_
  refine lv_istore (lv' := [(4, .int 0), (3, .int a2), (2, .int a1), (0, .int a1), (1, .int a2)]) hx hb dX8_commonDivisor_5 hl (by decide) rfl (fun ls hl => ?_)
  obtain ⟨v4, hj, hm⟩ := bind_e hm
  refine lX8_commonDivisor_7 C hRf hRl hcs hf NF _ _ _ _ _ _ _ hj hw hS (lv_sub hl [2, 1, 0] rfl) (fun v4_ e0 H locs ls hw hS hl => ?_)
  cases e0
  refine lv_iload_n hx hb dX8_commonDivisor_34 rfl (lv_at hl 0 rfl) ?_
  obtain rfl := Option.some.inj hm
  exact xret_i C hw hS dX8_commonDivisor_35
theorem dX8_inLowestTerms_0 : decode cX8_inLowestTerms 0 = .ok (.iload_n 0, 1) := by decide +kernel
theorem dX8_inLowestTerms_1 : decode cX8_inLowestTerms 1 = .ok (.iload_n 1, 1) := by decide +kernel
theorem dX8_inLowestTerms_2 : decode cX8_inLowestTerms 2 = .ok (.invokestatic 386, 3) := by decide +kernel
theorem dX8_inLowestTerms_5 : decode cX8_inLowestTerms 5 = .ok (.istore_n 3, 1) := by decide +kernel
theorem dX8_inLowestTerms_6 : decode cX8_inLowestTerms 6 = .ok (.iload_n 3, 1) := by decide +kernel
theorem dX8_inLowestTerms_7 : decode cX8_inLowestTerms 7 = .ok (.iconst 1, 1) := by decide +kernel
theorem dX8_inLowestTerms_8 : decode cX8_inLowestTerms 8 = .ok (.if_icmp .ge 7, 3) := by decide +kernel
theorem dX8_inLowestTerms_11 : decode cX8_inLowestTerms 11 = .ok (.ldc2_w 157, 3) := by decide +kernel
theorem dX8_inLowestTerms_14 : decode cX8_inLowestTerms 14 = .ok (.lreturn, 1) := by decide +kernel
theorem dX8_inLowestTerms_15 : decode cX8_inLowestTerms 15 = .ok (.iload_n 2, 1) := by decide +kernel
theorem dX8_inLowestTerms_16 : decode cX8_inLowestTerms 16 = .ok (.ifCond .ne 7, 3) := by decide +kernel
theorem dX8_inLowestTerms_19 : decode cX8_inLowestTerms 19 = .ok (.iload_n 0, 1) := by decide +kernel
theorem dX8_inLowestTerms_20 : decode cX8_inLowestTerms 20 = .ok (.goto 4, 3) := by decide +kernel
theorem dX8_inLowestTerms_23 : decode cX8_inLowestTerms 23 = .ok (.iload_n 1, 1) := by decide +kernel
theorem dX8_inLowestTerms_24 : decode cX8_inLowestTerms 24 = .ok (.iload_n 3, 1) := by decide +kernel
theorem dX8_inLowestTerms_25 : decode cX8_inLowestTerms 25 = .ok (.idiv, 1) := by decide +kernel
theorem dX8_inLowestTerms_26 : decode cX8_inLowestTerms 26 = .ok (.i2l, 1) := by decide +kernel
theorem dX8_inLowestTerms_27 : decode cX8_inLowestTerms 27 = .ok (.lreturn, 1) := by decide +kernel
theorem sX8_386 {p : Program} {l : Launch} {e : Env} {R : Room} {s : State} {m : MethodId} {args : Array Value} {below : List Frame} {meth : Method} {c : Code} {H : Heap} {locs : List Loc} {cells slots : Nat} {Q : State → Prop} {cc : ByteArray} {pc nL : Nat} {ls : Array Slot} {rest : List Value} {ret : Option FieldType}  {G : xG} {β : Nat} {D : Nat → Prop} {x : XS} {a1 : Int32} {a2 : Int32} {r : Int32} (C : Cx p s m args meth c RX8 cc nL ret (KK G)) (h : fX8_commonDivisor a1 a2 = some r) (hw : CW β D G x H) (hS : va_S D s.heap H locs) (hsz : ls.size = nL) (hW : (rest.map fun v => v.category).sum ≤ 8) (hR : 1 ≤ R.frames) (hR2 : 25 ≤ R.locals) (hcs : cells ≤ R.cells ∧ slots ≤ R.slots) (hd : decode cc pc = .ok (.invokestatic 386, 3)) (kk : ∀ (H1 : Heap) (locs1 : List Loc), CW β D G x H1 → va_S D s.heap H1 locs1 → W p l e R s m args below meth c H1 locs1 cells slots Q (F0 m (pc + 3) ls (.int r :: rest))) : W p l e R s m args below meth c H locs cells slots Q (F0 m pc ls (.int a2 :: .int a1 :: rest)) := by
  exact xcallS C (As := [.int a1, .int a2]) (rest := rest) (nA := 2) (kX8_commonDivisor h) (tg 631 (by decide +kernel) rfl) (tg 632 (by decide +kernel) rfl) (tg 1 (by decide +kernel) rfl) (tg 633 (by decide +kernel) rfl) ⟨by decide +kernel, by decide +kernel, by decide +kernel⟩ rfl rfl ⟨hR, hR2⟩ hw hS (fun _ q => q) rfl rfl hsz hW hd hcs (fun H1 locs1 hw hz hk hS => kk H1 locs1 hw hS)
def fX8_inLowestTerms (a1 : Int32) (a2 : Int32) (a3 : Int32) : Option (Int64) := Option.bind (fX8_commonDivisor a1 a2) fun v1 => if 1 ≤ v1 then if a3 = 0 then if ¬ v1 = 0 then some ((a1 / v1).toInt64) else none else if ¬ v1 = 0 then some ((a2 / v1).toInt64) else none else some (-4611686018427387904)
abbrev rmX8_inLowestTerms : Room := { frames := 1, cells := 0, slots := 0, locals := 25 }
set_option maxHeartbeats 4000000 in
set_option maxRecDepth 100000 in
theorem kX8_inLowestTerms {l : Launch} {G : xG} {β : Nat} {D : Nat → Prop} {x : XS} {a1 : Int32} {a2 : Int32} {a3 : Int32} {r : Int64} (hm : fX8_inLowestTerms a1 a2 a3 = some r) : Met l yX8_inLowestTerms (.code yX8_inLowestTerms cX8_inLowestTerms 4 (some .long) :: GT) rmX8_inLowestTerms (PcW [.int a1, .int a2, .int a3] (CW β D G x) (KK G)) (QcW D (some (.long r)) (CW β D G x)) 0 0 D := by
  unfold fX8_inLowestTerms at hm
  refine xpro (own := RX8) (by decide +kernel) rfl (Nat.le_of_ble_eq_true rfl) ?_
  intro p e s m args below meth c C hw ls hl
  have hx := C.1
  have hb := C.2.1
  have ho := C.2.2.2.1
  have hts := C.2.2.2.2.1
  have hf : Fz D G s.heap := hw.2.2.2.2
  have hS : va_S D s.heap s.heap [] := va_S.rf
  have hl : lv_has ls 4 [(0, .int a1), (1, .int a2), (2, .int a3)] := hl
  have hRf : 1 ≤ rmX8_inLowestTerms.frames := Nat.le_refl _
  have hRl : 25 ≤ rmX8_inLowestTerms.locals := Nat.le_refl _
  have hcs : 0 ≤ rmX8_inLowestTerms.cells ∧ 0 ≤ rmX8_inLowestTerms.slots := ⟨Nat.le_refl _, Nat.le_refl _⟩
  refine lv_iload_n hx hb dX8_inLowestTerms_0 rfl (lv_at hl 0 rfl) ?_
  refine lv_iload_n hx hb dX8_inLowestTerms_1 rfl (lv_at hl 1 rfl) ?_
  obtain ⟨v1, h2, hm⟩ := bind_e hm
  refine sX8_386 C h2 hw hS hl.1 (Nat.le_of_ble_eq_true rfl) (Nat.le_trans (Nat.le_of_ble_eq_true rfl) hRf) (Nat.le_trans (Nat.le_of_ble_eq_true rfl) hRl) hcs dX8_inLowestTerms_2 (fun H locs hw hS => ?_)
  refine lv_istore_n (lv' := [(3, .int v1), (0, .int a1), (1, .int a2), (2, .int a3)]) hx hb dX8_inLowestTerms_5 rfl hl (by decide) rfl (fun ls hl => ?_)
  refine lv_iload_n hx hb dX8_inLowestTerms_6 rfl (lv_at hl 0 rfl) ?_
  refine lv_iconst (v := 1) hx hb dX8_inLowestTerms_7 (by decide) ?_
  refine lv_icmp_ge (tgt := 15) hx hb dX8_inLowestTerms_8 (by decide) (fun cc => ?_) (fun cc => ?_)
  · replace hm := ite_p cc hm
    refine lv_iload_n hx hb dX8_inLowestTerms_15 rfl (lv_at hl 3 rfl) ?_
    refine lv_if_ne (tgt := 23) hx hb dX8_inLowestTerms_16 (by decide) (fun cc => ?_) (fun cc => ?_)
    · replace hm := ite_n cc hm
      refine lv_iload_n hx hb dX8_inLowestTerms_23 rfl (lv_at hl 2 rfl) ?_
      refine lv_iload_n hx hb dX8_inLowestTerms_24 rfl (lv_at hl 0 rfl) ?_
      obtain ⟨h3, hm⟩ := chk_e hm
      refine lv_idiv hx hb dX8_inLowestTerms_25 h3 ?_
      refine lv_i2l hx hb dX8_inLowestTerms_26 rfl ?_
      obtain rfl := Option.some.inj hm
      exact xret_l C hw hS dX8_inLowestTerms_27
    · replace hm := ite_p cc hm
      refine lv_iload_n hx hb dX8_inLowestTerms_19 rfl (lv_at hl 1 rfl) ?_
      refine lv_goto (tgt := 24) hx hb dX8_inLowestTerms_20 (by decide) ?_
      refine lv_iload_n hx hb dX8_inLowestTerms_24 rfl (lv_at hl 0 rfl) ?_
      obtain ⟨h4, hm⟩ := chk_e hm
      refine lv_idiv hx hb dX8_inLowestTerms_25 h4 ?_
      refine lv_i2l hx hb dX8_inLowestTerms_26 rfl ?_
      obtain rfl := Option.some.inj hm
      exact xret_l C hw hS dX8_inLowestTerms_27
  · replace hm := ite_n cc hm
    refine lv_ldc2 (v := (-4611686018427387904)) hx hb ho (hts (.constantLong RX8 157 (-4611686018427387904)) (tg 476 (by decide +kernel) rfl)) dX8_inLowestTerms_11 ?_
    obtain rfl := Option.some.inj hm
    exact xret_l C hw hS dX8_inLowestTerms_14
