theorem dX9_others_0 : decode cX9_others 0 = .ok (.iconst 0, 1) := by decide +kernel
theorem dX9_others_1 : decode cX9_others 1 = .ok (.istore 5, 2) := by decide +kernel
theorem dX9_others_3 : decode cX9_others 3 = .ok (.iload 5, 2) := by decide +kernel
theorem dX9_others_5 : decode cX9_others 5 = .ok (.iconst 5, 1) := by decide +kernel
theorem dX9_others_6 : decode cX9_others 6 = .ok (.if_icmp .gt 26, 3) := by decide +kernel
theorem dX9_others_9 : decode cX9_others 9 = .ok (.aload_n 0, 1) := by decide +kernel
theorem dX9_others_10 : decode cX9_others 10 = .ok (.getfield 47, 3) := by decide +kernel
theorem dX9_others_13 : decode cX9_others 13 = .ok (.iload 5, 2) := by decide +kernel
theorem dX9_others_15 : decode cX9_others 15 = .ok (.iload 5, 2) := by decide +kernel
theorem dX9_others_17 : decode cX9_others 17 = .ok (.ifCond .ne 7, 3) := by decide +kernel
theorem dX9_others_20 : decode cX9_others 20 = .ok (.lconst 1, 1) := by decide +kernel
theorem dX9_others_21 : decode cX9_others 21 = .ok (.goto 4, 3) := by decide +kernel
theorem dX9_others_24 : decode cX9_others 24 = .ok (.lconst 0, 1) := by decide +kernel
theorem dX9_others_25 : decode cX9_others 25 = .ok (.lastore, 1) := by decide +kernel
theorem dX9_others_26 : decode cX9_others 26 = .ok (.iinc 5 1, 3) := by decide +kernel
theorem dX9_others_29 : decode cX9_others 29 = .ok (.goto (-26), 3) := by decide +kernel
theorem dX9_others_32 : decode cX9_others 32 = .ok (.iconst 0, 1) := by decide +kernel
theorem dX9_others_33 : decode cX9_others 33 = .ok (.istore 5, 2) := by decide +kernel
theorem dX9_others_35 : decode cX9_others 35 = .ok (.iload 5, 2) := by decide +kernel
theorem dX9_others_37 : decode cX9_others 37 = .ok (.aload_n 0, 1) := by decide +kernel
theorem dX9_others_38 : decode cX9_others 38 = .ok (.getfield 129, 3) := by decide +kernel
theorem dX9_others_41 : decode cX9_others 41 = .ok (.if_icmp .ge 133, 3) := by decide +kernel
theorem dX9_others_44 : decode cX9_others 44 = .ok (.iload 5, 2) := by decide +kernel
theorem dX9_others_46 : decode cX9_others 46 = .ok (.iload_n 2, 1) := by decide +kernel
theorem dX9_others_47 : decode cX9_others 47 = .ok (.if_icmp .eq 121, 3) := by decide +kernel
theorem dX9_others_50 : decode cX9_others 50 = .ok (.aload_n 0, 1) := by decide +kernel
theorem dX9_others_51 : decode cX9_others 51 = .ok (.iload_n 1, 1) := by decide +kernel
theorem dX9_others_52 : decode cX9_others 52 = .ok (.iload 5, 2) := by decide +kernel
theorem dX9_others_54 : decode cX9_others 54 = .ok (.invokevirtual 196, 3) := by decide +kernel
theorem dX9_others_57 : decode cX9_others 57 = .ok (.ifCond .ne 6, 3) := by decide +kernel
theorem dX9_others_60 : decode cX9_others 60 = .ok (.goto 108, 3) := by decide +kernel
theorem dX9_others_63 : decode cX9_others 63 = .ok (.iload 4, 2) := by decide +kernel
theorem dX9_others_65 : decode cX9_others 65 = .ok (.ifCond .eq 15, 3) := by decide +kernel
theorem dX9_others_68 : decode cX9_others 68 = .ok (.aload_n 0, 1) := by decide +kernel
theorem dX9_others_69 : decode cX9_others 69 = .ok (.iload 5, 2) := by decide +kernel
theorem dX9_others_71 : decode cX9_others 71 = .ok (.iload_n 3, 1) := by decide +kernel
theorem dX9_others_72 : decode cX9_others 72 = .ok (.iconst 1, 1) := by decide +kernel
theorem dX9_others_73 : decode cX9_others 73 = .ok (.iadd, 1) := by decide +kernel
theorem dX9_others_74 : decode cX9_others 74 = .ok (.invokevirtual 208, 3) := by decide +kernel
theorem dX9_others_77 : decode cX9_others 77 = .ok (.goto 10, 3) := by decide +kernel
theorem dX9_others_80 : decode cX9_others 80 = .ok (.aload_n 0, 1) := by decide +kernel
theorem dX9_others_81 : decode cX9_others 81 = .ok (.iload 5, 2) := by decide +kernel
theorem dX9_others_83 : decode cX9_others 83 = .ok (.iload_n 3, 1) := by decide +kernel
theorem dX9_others_84 : decode cX9_others 84 = .ok (.invokevirtual 208, 3) := by decide +kernel
theorem dX9_others_87 : decode cX9_others 87 = .ok (.istore 6, 2) := by decide +kernel
theorem dX9_others_89 : decode cX9_others 89 = .ok (.iload 4, 2) := by decide +kernel
theorem dX9_others_91 : decode cX9_others 91 = .ok (.ifCond .eq 13, 3) := by decide +kernel
theorem dX9_others_94 : decode cX9_others 94 = .ok (.aload_n 0, 1) := by decide +kernel
theorem dX9_others_95 : decode cX9_others 95 = .ok (.invokevirtual 204, 3) := by decide +kernel
theorem dX9_others_98 : decode cX9_others 98 = .ok (.iload 6, 2) := by decide +kernel
theorem dX9_others_100 : decode cX9_others 100 = .ok (.isub, 1) := by decide +kernel
theorem dX9_others_101 : decode cX9_others 101 = .ok (.goto 10, 3) := by decide +kernel
theorem dX9_others_104 : decode cX9_others 104 = .ok (.aload_n 0, 1) := by decide +kernel
theorem dX9_others_105 : decode cX9_others 105 = .ok (.iload 5, 2) := by decide +kernel
theorem dX9_others_107 : decode cX9_others 107 = .ok (.iload_n 3, 1) := by decide +kernel
theorem dX9_others_108 : decode cX9_others 108 = .ok (.invokevirtual 211, 3) := by decide +kernel
theorem dX9_others_111 : decode cX9_others 111 = .ok (.istore 7, 2) := by decide +kernel
theorem dX9_others_113 : decode cX9_others 113 = .ok (.iconst 5, 1) := by decide +kernel
theorem dX9_others_114 : decode cX9_others 114 = .ok (.istore 8, 2) := by decide +kernel
theorem dX9_others_116 : decode cX9_others 116 = .ok (.iload 8, 2) := by decide +kernel
theorem dX9_others_118 : decode cX9_others 118 = .ok (.ifCond .lt 50, 3) := by decide +kernel
theorem dX9_others_121 : decode cX9_others 121 = .ok (.aload_n 0, 1) := by decide +kernel
theorem dX9_others_122 : decode cX9_others 122 = .ok (.getfield 47, 3) := by decide +kernel
theorem dX9_others_125 : decode cX9_others 125 = .ok (.iload 8, 2) := by decide +kernel
theorem dX9_others_127 : decode cX9_others 127 = .ok (.aload_n 0, 1) := by decide +kernel
theorem dX9_others_128 : decode cX9_others 128 = .ok (.getfield 47, 3) := by decide +kernel
theorem dX9_others_131 : decode cX9_others 131 = .ok (.iload 8, 2) := by decide +kernel
theorem dX9_others_133 : decode cX9_others 133 = .ok (.laload, 1) := by decide +kernel
theorem dX9_others_134 : decode cX9_others 134 = .ok (.iload 6, 2) := by decide +kernel
theorem dX9_others_136 : decode cX9_others 136 = .ok (.i2l, 1) := by decide +kernel
theorem dX9_others_137 : decode cX9_others 137 = .ok (.lmul, 1) := by decide +kernel
theorem dX9_others_138 : decode cX9_others 138 = .ok (.iload 8, 2) := by decide +kernel
theorem dX9_others_140 : decode cX9_others 140 = .ok (.ifCond .le 19, 3) := by decide +kernel
theorem dX9_others_143 : decode cX9_others 143 = .ok (.aload_n 0, 1) := by decide +kernel
theorem dX9_others_144 : decode cX9_others 144 = .ok (.getfield 47, 3) := by decide +kernel
theorem dX9_others_147 : decode cX9_others 147 = .ok (.iload 8, 2) := by decide +kernel
theorem dX9_others_149 : decode cX9_others 149 = .ok (.iconst 1, 1) := by decide +kernel
theorem dX9_others_150 : decode cX9_others 150 = .ok (.isub, 1) := by decide +kernel
theorem dX9_others_151 : decode cX9_others 151 = .ok (.laload, 1) := by decide +kernel
theorem dX9_others_152 : decode cX9_others 152 = .ok (.iload 7, 2) := by decide +kernel
theorem dX9_others_154 : decode cX9_others 154 = .ok (.i2l, 1) := by decide +kernel
theorem dX9_others_155 : decode cX9_others 155 = .ok (.lmul, 1) := by decide +kernel
theorem dX9_others_156 : decode cX9_others 156 = .ok (.goto 4, 3) := by decide +kernel
theorem dX9_others_159 : decode cX9_others 159 = .ok (.lconst 0, 1) := by decide +kernel
theorem dX9_others_160 : decode cX9_others 160 = .ok (.ladd, 1) := by decide +kernel
theorem dX9_others_161 : decode cX9_others 161 = .ok (.lastore, 1) := by decide +kernel
theorem dX9_others_162 : decode cX9_others 162 = .ok (.iinc 8 (-1), 3) := by decide +kernel
theorem dX9_others_165 : decode cX9_others 165 = .ok (.goto (-49), 3) := by decide +kernel
theorem dX9_others_168 : decode cX9_others 168 = .ok (.iinc 5 1, 3) := by decide +kernel
theorem dX9_others_171 : decode cX9_others 171 = .ok (.goto (-136), 3) := by decide +kernel
theorem dX9_others_174 : decode cX9_others 174 = .ok (.return_, 1) := by decide +kernel
theorem gX9_47 {p : Program} {l : Launch} {e : Env} {R : Room} {s : State} {m : MethodId} {args : Array Value} {below : List Frame} {meth : Method} {c : Code} {H : Heap} {locs : List Loc} {cells slots : Nat} {Q : State → Prop} {cc : ByteArray} {pc nL : Nat} {ls : Array Slot} {rest : List Value} {ret : Option FieldType} {G : xG} {β N : Nat} {x : MS} (C : Cx p s m args meth c RX9 cc nL ret (KK G)) (hw : MW β G N x H) (hd : decode cc pc = .ok (.getfield 47, 3)) (kk : W p l e R s m args below meth c H locs cells slots Q (F0 m (pc + 3) ls (.ref (β + 12) :: rest))) : W p l e R s m args below meth c H locs cells slots Q (F0 m pc ls (.ref β :: rest)) :=
  va_get C.1 C.2.1 C.2.2.2.2.1 iwX9 C.2.2.2.1 C.K.1 (xP1 (hw.2 0 (by decide))) 0 rfl rfl 17 (by decide) (C.2.2.2.2.1 (.fieldLink RX9 47 RX9 "by" "[J") (tg 933 (by decide +kernel) rfl)) (fun _ h9 => h9) rfl hd kk
theorem asM_12 {p : Program} {l : Launch} {e : Env} {R : Room} {s : State} {m : MethodId} {args : Array Value} {below : List Frame} {meth : Method} {c : Code} {H : Heap} {locs : List Loc} {cells slots : Nat} {Q : State → Prop} {cc : ByteArray} {pc nL : Nat} {ls : Array Slot} {rest : List Value} {ret : Option FieldType} {G : xG} {β N : Nat} {x : MS} {own : String} {i : Int32} {v : Int64} (C : Cx p s m args meth c own cc nL ret (KK G)) (hw : MW β G N x H) (hS : va_S (AM β) s.heap H locs) (hin : ib i 6) (hd : decode cc pc = .ok (.lastore, 1)) (kk : ∀ (H1 : Heap) (locs1 : List Loc), MW β G N (msL x 12 i.toNatClampNeg v) H1 → va_S (AM β) s.heap H1 locs1 → W p l e R s m args below meth c H1 locs1 cells slots Q (F0 m (pc + 1) ls (rest))) : W p l e R s m args below meth c H locs cells slots Q (F0 m pc ls (.long v :: .int i :: .ref (β + 12) :: rest)) :=
  x_last C.1 C.2.1 C.K.1 hS 1 (hw.2 12 (by decide)) (AM.in (by decide)) rfl hin hd (fun H1 locs1 hat ho hS => kk H1 locs1 (hw.setL 12 _ _ hat ho) hS)
theorem sX9_211 {p : Program} {l : Launch} {e : Env} {R : Room} {s : State} {m : MethodId} {args : Array Value} {below : List Frame} {meth : Method} {c : Code} {H : Heap} {locs : List Loc} {cells slots : Nat} {Q : State → Prop} {cc : ByteArray} {pc nL : Nat} {ls : Array Slot} {rest : List Value} {ret : Option FieldType} {G : xG} {β N : Nat} {x : MS} {a1 : Int32} {a2 : Int32} {r : Int32} (C : Cx p s m args meth c RX9 cc nL ret (KK G)) (h : fX9_equals1 x a1 a2 = some r) (hw : MW β G N x H) (hS : va_S (AM β) s.heap H locs) (hsz : ls.size = nL) (hW : (rest.map fun v => v.category).sum ≤ 8) (hR : 3 ≤ R.frames) (hR2 : 65 ≤ R.locals) (hcs : cells ≤ R.cells ∧ slots ≤ R.slots) (hd : decode cc pc = .ok (.invokevirtual 211, 3)) (kk : ∀ (H1 : Heap) (locs1 : List Loc), MW β G N x H1 → va_S (AM β) s.heap H1 locs1 → W p l e R s m args below meth c H1 locs1 cells slots Q (F0 m (pc + 3) ls (.int r :: rest))) : W p l e R s m args below meth c H locs cells slots Q (F0 m pc ls (.int a2 :: .int a1 :: .ref β :: rest)) :=
  xcallV C (As := [.int a1, .int a2]) (rest := rest) (nA := 2) (ci := 9) (kX9_equals1 h) (tg 1278 (by decide +kernel) rfl) (tg 1280 (by decide +kernel) rfl) (sg (List.mem_of_getElem? (i := 83) (by decide +kernel)) rfl) (tg 14 (by decide +kernel) rfl) (tg 1281 (by decide +kernel) rfl) ⟨rfl, by decide +kernel, by decide +kernel, by decide +kernel⟩ rfl rfl rfl ⟨hR, hR2⟩ (hw.2 0 (by decide)) hw hS (fun _ q => q) rfl rfl hsz hW hd hcs (fun H1 locs1 hw hz hk hS => kk H1 locs1 hw hS)
theorem alM_12 {p : Program} {l : Launch} {e : Env} {R : Room} {s : State} {m : MethodId} {args : Array Value} {below : List Frame} {meth : Method} {c : Code} {H : Heap} {locs : List Loc} {cells slots : Nat} {Q : State → Prop} {cc : ByteArray} {pc nL : Nat} {ls : Array Slot} {rest : List Value} {ret : Option FieldType} {G : xG} {β N : Nat} {x : MS} {own : String} {i : Int32} (C : Cx p s m args meth c own cc nL ret (KK G)) (hw : MW β G N x H) (hin : ib i 6) (hd : decode cc pc = .ok (.laload, 1)) (kk : W p l e R s m args below meth c H locs cells slots Q (F0 m (pc + 1) ls (.long (x.2.2 12 i.toNatClampNeg) :: rest))) : W p l e R s m args below meth c H locs cells slots Q (F0 m pc ls (.int i :: .ref (β + 12) :: rest)) :=
  va_lald C.1 C.2.1 C.K.1 (xP1 (hw.2 12 (by decide))) 0 1 rfl rfl hin hd kk
def BX9_others_3 (q1 : Int32) (q2 : Int32) (q3 : Int32) (q4 : Bool) (lp : Int32 → MS → Option (MS)) (u5 : Int32) (x : MS) : Option (MS) := if 5 < u5 then some x else if u5 = 0 then if ib u5 6 then lt (msL x 12 u5.toNatClampNeg 1) fun x5 => lt (u5 + 1) fun v6 => lp v6 x5 else none else if ib u5 6 then lt (msL x 12 u5.toNatClampNeg 0) fun x2 => lt (u5 + 1) fun v3 => lp v3 x2 else none
def LX9_others_3 (q1 : Int32) (q2 : Int32) (q3 : Int32) (q4 : Bool) : Nat → Int32 → MS → Option (MS)
  | 0, _, _ => none
  | n + 1, u5, x => BX9_others_3 q1 q2 q3 q4 (LX9_others_3 q1 q2 q3 q4 n) u5 x
def BX9_others_116 (q1 : Int32) (q2 : Int32) (q3 : Int32) (q4 : Bool) (q5 : Int32) (q6 : Int32) (q7 : Int32) (lp : Int32 → MS → Option (MS)) (u8 : Int32) (x : MS) : Option (MS) := if u8 < 0 then some x else if ib u8 6 then if u8 ≤ 0 then if ib u8 6 then lt (msL x 12 u8.toNatClampNeg (((x.2.2 12 u8.toNatClampNeg) * (q6.toInt64)) + 0)) fun x23 => lt (u8 + (-1)) fun v24 => lp v24 x23 else none else if ib (u8 - 1) 6 then if ib u8 6 then lt (msL x 12 u8.toNatClampNeg (((x.2.2 12 u8.toNatClampNeg) * (q6.toInt64)) + ((x.2.2 12 (u8 - 1).toNatClampNeg) * (q7.toInt64)))) fun x27 => lt (u8 + (-1)) fun v28 => lp v28 x27 else none else none else none
def LX9_others_116 (q1 : Int32) (q2 : Int32) (q3 : Int32) (q4 : Bool) (q5 : Int32) (q6 : Int32) (q7 : Int32) : Nat → Int32 → MS → Option (MS)
  | 0, _, _ => none
  | n + 1, u8, x => BX9_others_116 q1 q2 q3 q4 q5 q6 q7 (LX9_others_116 q1 q2 q3 q4 q5 q6 q7 n) u8 x
def BX9_others_35 (q1 : Int32) (q2 : Int32) (q3 : Int32) (q4 : Bool) (lp : Int32 → MS → Option (MS)) (u5 : Int32) (x : MS) : Option (MS) := if (x.1 0 13) ≤ u5 then some x else if u5 = q2 then lt (u5 + 1) fun v8 => lp v8 x else Option.bind (fX9_isOf x q1 u5) fun v9 => if v9 = true then Option.bind (if q4 = true then Option.bind (fX9_below x u5 (q3 + 1)) fun v13 => some v13 else Option.bind (fX9_below x u5 q3) fun v11 => some v11) fun v15 => Option.bind (if q4 = true then Option.bind (fX9_ways x) fun v18 => some (v18 - v15) else Option.bind (fX9_equals1 x u5 q3) fun v16 => some v16) fun v20 => Option.bind (LX9_others_116 q1 q2 q3 q4 u5 v15 v20 NF 5 x) fun x29 => lt (u5 + 1) fun v30 => lp v30 x29 else lt (u5 + 1) fun v31 => lp v31 x
def LX9_others_35 (q1 : Int32) (q2 : Int32) (q3 : Int32) (q4 : Bool) : Nat → Int32 → MS → Option (MS)
  | 0, _, _ => none
  | n + 1, u5, x => BX9_others_35 q1 q2 q3 q4 (LX9_others_35 q1 q2 q3 q4 n) u5 x
def fX9_others (x : MS) (a1 : Int32) (a2 : Int32) (a3 : Int32) (a4 : Bool) : Option (MS) := Option.bind (LX9_others_3 a1 a2 a3 a4 NF 0 x) fun x7 => Option.bind (LX9_others_35 a1 a2 a3 a4 NF 0 x7) fun x32 => some x32
set_option maxHeartbeats 4000000 in
set_option maxRecDepth 100000 in
theorem lX9_others_3 {p : Program} {l : Launch} {e : Env} {R : Room} {s : State} {m : MethodId} {args : Array Value} {below : List Frame} {meth : Method} {c : Code} {cells slots : Nat} {Q : State → Prop} {G : xG} {β N : Nat} (C : Cx p s m args meth c RX9 cX9_others 9 none (KK G)) (hRf : 3 ≤ R.frames) (hRl : 68 ≤ R.locals) (hcs : cells ≤ R.cells ∧ slots ≤ R.slots) (q1 : Int32) (q2 : Int32) (q3 : Int32) (q4 : Bool) : ∀ (n : Nat) (u5 : Int32) (x : MS) (J : MS) (H : Heap) (locs : List Loc) (ls : Array Slot), LX9_others_3 q1 q2 q3 q4 n u5 x = some J → MW β G N x H → va_S (AM β) s.heap H locs → lv_has ls 9 [(0, .ref β), (1, .int q1), (2, .int q2), (3, .int q3), (4, .int (bI q4)), (5, .int u5)] → (∀ (x1 : MS), J = x1 → ∀ (H : Heap) (locs : List Loc) (ls : Array Slot), MW β G N x1 H → va_S (AM β) s.heap H locs → lv_has ls 9 [(0, .ref β), (1, .int q1), (2, .int q2), (3, .int q3), (4, .int (bI q4))] → W p l e R s m args below meth c H locs cells slots Q (F0 m 32 ls [])) → W p l e R s m args below meth c H locs cells slots Q (F0 m 3 ls []) := by
  have hx := C.1
  have hb := C.2.1
  have ho := C.2.2.2.1
  have hts := C.2.2.2.2.1
  intro n
  induction n with
  | zero =>
    intro u5 x J H locs ls hm
    exact absurd hm (by simp [LX9_others_3])
  | succ n ih =>
    intro u5 x J H locs ls hm hw hS hl ke
    replace hm : BX9_others_3 q1 q2 q3 q4 (LX9_others_3 q1 q2 q3 q4 n) u5 x = some J := hm
    unfold BX9_others_3 at hm
    refine lv_iload hx hb dX9_others_3 (lv_at hl 5 rfl) ?_
    refine lv_iconst (v := 5) hx hb dX9_others_5 (by decide) ?_
    refine lv_icmp_gt (tgt := 32) hx hb dX9_others_6 (by decide) (fun cc => ?_) (fun cc => ?_)
    · replace hm := ite_p cc hm
      exact ke _ (Option.some.inj hm).symm _ _ _ hw hS (lv_sub hl [0, 1, 2, 3, 4] rfl)
    · replace hm := ite_n cc hm
      refine lv_aload_n hx hb dX9_others_9 rfl (lv_at hl 0 rfl) ?_
      refine gX9_47 C hw dX9_others_10 ?_
      refine lv_iload hx hb dX9_others_13 (lv_at hl 5 rfl) ?_
      refine lv_iload hx hb dX9_others_15 (lv_at hl 5 rfl) ?_
      refine lv_if_ne (tgt := 24) hx hb dX9_others_17 (by decide) (fun cc => ?_) (fun cc => ?_)
      · replace hm := ite_n cc hm
        refine lv_lconst (v := 0) hx hb dX9_others_24 (by decide) ?_
        obtain ⟨h1, hm⟩ := chk_e hm
        refine asM_12 C hw hS h1 dX9_others_25 (fun H locs hw hS => ?_)
        obtain ⟨x2, ev, hm⟩ := lt_e hm
        rw [← ev] at hw
        clear ev
        obtain ⟨v3, ev, hm⟩ := lt_e hm
        refine lv_iinc (v := v3) (lv' := [(5, .int v3), (0, .ref β), (1, .int q1), (2, .int q2), (3, .int q3), (4, .int (bI q4))]) hx hb dX9_others_26 hl (k := 5) rfl (by rw [ev]; rfl) (by decide) rfl (fun ls hl => ?_)
        clear ev
        refine lv_goto (tgt := 3) hx hb dX9_others_29 (by decide) ?_
        exact ih _ _ _ _ _ _ hm hw hS (lv_sub hl [1, 2, 3, 4, 5, 0] rfl) ke
      · replace hm := ite_p cc hm
        refine lv_lconst (v := 1) hx hb dX9_others_20 (by decide) ?_
        refine lv_goto (tgt := 25) hx hb dX9_others_21 (by decide) ?_
        obtain ⟨h4, hm⟩ := chk_e hm
        refine asM_12 C hw hS h4 dX9_others_25 (fun H locs hw hS => ?_)
        obtain ⟨x5, ev, hm⟩ := lt_e hm
        rw [← ev] at hw
        clear ev
        obtain ⟨v6, ev, hm⟩ := lt_e hm
        refine lv_iinc (v := v6) (lv' := [(5, .int v6), (0, .ref β), (1, .int q1), (2, .int q2), (3, .int q3), (4, .int (bI q4))]) hx hb dX9_others_26 hl (k := 5) rfl (by rw [ev]; rfl) (by decide) rfl (fun ls hl => ?_)
        clear ev
        refine lv_goto (tgt := 3) hx hb dX9_others_29 (by decide) ?_
        exact ih _ _ _ _ _ _ hm hw hS (lv_sub hl [1, 2, 3, 4, 5, 0] rfl) ke
set_option maxHeartbeats 4000000 in
set_option maxRecDepth 100000 in
theorem lX9_others_116 {p : Program} {l : Launch} {e : Env} {R : Room} {s : State} {m : MethodId} {args : Array Value} {below : List Frame} {meth : Method} {c : Code} {cells slots : Nat} {Q : State → Prop} {G : xG} {β N : Nat} (C : Cx p s m args meth c RX9 cX9_others 9 none (KK G)) (hRf : 3 ≤ R.frames) (hRl : 68 ≤ R.locals) (hcs : cells ≤ R.cells ∧ slots ≤ R.slots) (q1 : Int32) (q2 : Int32) (q3 : Int32) (q4 : Bool) (q5 : Int32) (q6 : Int32) (q7 : Int32) : ∀ (n : Nat) (u8 : Int32) (x : MS) (J : MS) (H : Heap) (locs : List Loc) (ls : Array Slot), LX9_others_116 q1 q2 q3 q4 q5 q6 q7 n u8 x = some J → MW β G N x H → va_S (AM β) s.heap H locs → lv_has ls 9 [(0, .ref β), (1, .int q1), (2, .int q2), (3, .int q3), (4, .int (bI q4)), (5, .int q5), (6, .int q6), (7, .int q7), (8, .int u8)] → (∀ (x1 : MS), J = x1 → ∀ (H : Heap) (locs : List Loc) (ls : Array Slot), MW β G N x1 H → va_S (AM β) s.heap H locs → lv_has ls 9 [(0, .ref β), (1, .int q1), (2, .int q2), (3, .int q3), (4, .int (bI q4)), (5, .int q5)] → W p l e R s m args below meth c H locs cells slots Q (F0 m 168 ls [])) → W p l e R s m args below meth c H locs cells slots Q (F0 m 116 ls []) := by
  have hx := C.1
  have hb := C.2.1
  have ho := C.2.2.2.1
  have hts := C.2.2.2.2.1
  intro n
  induction n with
  | zero =>
    intro u8 x J H locs ls hm
    exact absurd hm (by simp [LX9_others_116])
  | succ n ih =>
    intro u8 x J H locs ls hm hw hS hl ke
    replace hm : BX9_others_116 q1 q2 q3 q4 q5 q6 q7 (LX9_others_116 q1 q2 q3 q4 q5 q6 q7 n) u8 x = some J := hm
    unfold BX9_others_116 at hm
    refine lv_iload hx hb dX9_others_116 (lv_at hl 8 rfl) ?_
    refine lv_if_lt (tgt := 168) hx hb dX9_others_118 (by decide) (fun cc => ?_) (fun cc => ?_)
    · replace hm := ite_p cc hm
      exact ke _ (Option.some.inj hm).symm _ _ _ hw hS (lv_sub hl [0, 1, 2, 3, 4, 5] rfl)
    · replace hm := ite_n cc hm
      refine lv_aload_n hx hb dX9_others_121 rfl (lv_at hl 0 rfl) ?_
      refine gX9_47 C hw dX9_others_122 ?_
      refine lv_iload hx hb dX9_others_125 (lv_at hl 8 rfl) ?_
      refine lv_aload_n hx hb dX9_others_127 rfl (lv_at hl 0 rfl) ?_
      refine gX9_47 C hw dX9_others_128 ?_
      refine lv_iload hx hb dX9_others_131 (lv_at hl 8 rfl) ?_
      obtain ⟨h21, hm⟩ := chk_e hm
      refine alM_12 C hw h21 dX9_others_133 ?_
      refine lv_iload hx hb dX9_others_134 (lv_at hl 6 rfl) ?_
      refine lv_i2l hx hb dX9_others_136 rfl ?_
      refine lv_lmul hx hb dX9_others_137 ?_
      refine lv_iload hx hb dX9_others_138 (lv_at hl 8 rfl) ?_
      refine lv_if_le (tgt := 159) hx hb dX9_others_140 (by decide) (fun cc => ?_) (fun cc => ?_)
      · replace hm := ite_p cc hm
        refine lv_lconst (v := 0) hx hb dX9_others_159 (by decide) ?_
        refine lv_ladd hx hb dX9_others_160 ?_
        obtain ⟨h22, hm⟩ := chk_e hm
        refine asM_12 C hw hS h22 dX9_others_161 (fun H locs hw hS => ?_)
        obtain ⟨x23, ev, hm⟩ := lt_e hm
        rw [← ev] at hw
        clear ev
        obtain ⟨v24, ev, hm⟩ := lt_e hm
        refine lv_iinc (v := v24) (lv' := [(8, .int v24), (0, .ref β), (1, .int q1), (2, .int q2), (3, .int q3), (4, .int (bI q4)), (5, .int q5), (6, .int q6), (7, .int q7)]) hx hb dX9_others_162 hl (k := 8) rfl (by rw [ev]; rfl) (by decide) rfl (fun ls hl => ?_)
        clear ev
        refine lv_goto (tgt := 116) hx hb dX9_others_165 (by decide) ?_
        exact ih _ _ _ _ _ _ hm hw hS (lv_sub hl [1, 2, 3, 4, 5, 6, 7, 8, 0] rfl) ke
      · replace hm := ite_n cc hm
        refine lv_aload_n hx hb dX9_others_143 rfl (lv_at hl 0 rfl) ?_
        refine gX9_47 C hw dX9_others_144 ?_
        refine lv_iload hx hb dX9_others_147 (lv_at hl 8 rfl) ?_
        refine lv_iconst (v := 1) hx hb dX9_others_149 (by decide) ?_
        refine lv_isub hx hb dX9_others_150 ?_
        obtain ⟨h25, hm⟩ := chk_e hm
        refine alM_12 C hw h25 dX9_others_151 ?_
        refine lv_iload hx hb dX9_others_152 (lv_at hl 7 rfl) ?_
        refine lv_i2l hx hb dX9_others_154 rfl ?_
        refine lv_lmul hx hb dX9_others_155 ?_
        refine lv_goto (tgt := 160) hx hb dX9_others_156 (by decide) ?_
        refine lv_ladd hx hb dX9_others_160 ?_
        obtain ⟨h26, hm⟩ := chk_e hm
        refine asM_12 C hw hS h26 dX9_others_161 (fun H locs hw hS => ?_)
        obtain ⟨x27, ev, hm⟩ := lt_e hm
        rw [← ev] at hw
        clear ev
        obtain ⟨v28, ev, hm⟩ := lt_e hm
        refine lv_iinc (v := v28) (lv' := [(8, .int v28), (0, .ref β), (1, .int q1), (2, .int q2), (3, .int q3), (4, .int (bI q4)), (5, .int q5), (6, .int q6), (7, .int q7)]) hx hb dX9_others_162 hl (k := 8) rfl (by rw [ev]; rfl) (by decide) rfl (fun ls hl => ?_)
        clear ev
        refine lv_goto (tgt := 116) hx hb dX9_others_165 (by decide) ?_
        exact ih _ _ _ _ _ _ hm hw hS (lv_sub hl [1, 2, 3, 4, 5, 6, 7, 8, 0] rfl) ke
set_option maxHeartbeats 4000000 in
set_option maxRecDepth 100000 in
theorem lX9_others_35 {p : Program} {l : Launch} {e : Env} {R : Room} {s : State} {m : MethodId} {args : Array Value} {below : List Frame} {meth : Method} {c : Code} {cells slots : Nat} {Q : State → Prop} {G : xG} {β N : Nat} (C : Cx p s m args meth c RX9 cX9_others 9 none (KK G)) (hRf : 3 ≤ R.frames) (hRl : 68 ≤ R.locals) (hcs : cells ≤ R.cells ∧ slots ≤ R.slots) (q1 : Int32) (q2 : Int32) (q3 : Int32) (q4 : Bool) : ∀ (n : Nat) (u5 : Int32) (x : MS) (J : MS) (H : Heap) (locs : List Loc) (ls : Array Slot), LX9_others_35 q1 q2 q3 q4 n u5 x = some J → MW β G N x H → va_S (AM β) s.heap H locs → lv_has ls 9 [(0, .ref β), (1, .int q1), (2, .int q2), (3, .int q3), (4, .int (bI q4)), (5, .int u5)] → (∀ (x1 : MS), J = x1 → ∀ (H : Heap) (locs : List Loc) (ls : Array Slot), MW β G N x1 H → va_S (AM β) s.heap H locs → lv_has ls 9 [] → W p l e R s m args below meth c H locs cells slots Q (F0 m 174 ls [])) → W p l e R s m args below meth c H locs cells slots Q (F0 m 35 ls []) := by
  have hx := C.1
  have hb := C.2.1
  have ho := C.2.2.2.1
  have hts := C.2.2.2.2.1
  intro n
  induction n with
  | zero =>
    intro u5 x J H locs ls hm
    exact absurd hm (by simp [LX9_others_35])
  | succ n ih =>
    intro u5 x J H locs ls hm hw hS hl ke
    replace hm : BX9_others_35 q1 q2 q3 q4 (LX9_others_35 q1 q2 q3 q4 n) u5 x = some J := hm
    unfold BX9_others_35 at hm
    refine lv_iload hx hb dX9_others_35 (lv_at hl 5 rfl) ?_
    refine lv_aload_n hx hb dX9_others_37 rfl (lv_at hl 0 rfl) ?_
    refine gX9_129 C hw dX9_others_38 ?_
    refine lv_icmp_ge (tgt := 174) hx hb dX9_others_41 (by decide) (fun cc => ?_) (fun cc => ?_)
    · replace hm := ite_p cc hm
      exact ke _ (Option.some.inj hm).symm _ _ _ hw hS (lv_sub hl [] rfl)
    · replace hm := ite_n cc hm
      refine lv_iload hx hb dX9_others_44 (lv_at hl 5 rfl) ?_
      refine lv_iload_n hx hb dX9_others_46 rfl (lv_at hl 2 rfl) ?_
      refine lv_icmp_eq (tgt := 168) hx hb dX9_others_47 (by decide) (fun cc => ?_) (fun cc => ?_)
      · replace hm := ite_p cc hm
        obtain ⟨v8, ev, hm⟩ := lt_e hm
        refine lv_iinc (v := v8) (lv' := [(5, .int v8), (0, .ref β), (1, .int q1), (2, .int q2), (3, .int q3), (4, .int (bI q4))]) hx hb dX9_others_168 hl (k := 5) rfl (by rw [ev]; rfl) (by decide) rfl (fun ls hl => ?_)
        clear ev
        refine lv_goto (tgt := 35) hx hb dX9_others_171 (by decide) ?_
        exact ih _ _ _ _ _ _ hm hw hS (lv_sub hl [1, 2, 3, 4, 5, 0] rfl) ke
      · replace hm := ite_n cc hm
        refine lv_aload_n hx hb dX9_others_50 rfl (lv_at hl 0 rfl) ?_
        refine lv_iload_n hx hb dX9_others_51 rfl (lv_at hl 1 rfl) ?_
        refine lv_iload hx hb dX9_others_52 (lv_at hl 5 rfl) ?_
        obtain ⟨v9, h10, hm⟩ := bind_e hm
        refine sX9_196 C h10 hw hS hl.1 (Nat.le_of_ble_eq_true rfl) (Nat.le_trans (Nat.le_of_ble_eq_true rfl) hRf) (Nat.le_trans (Nat.le_of_ble_eq_true rfl) hRl) hcs dX9_others_54 (fun H locs hw hS => ?_)
        refine x_ifneB hx hb dX9_others_57 (tgt := 63) (by decide) (fun cc => ?_) (fun cc => ?_)
        · replace hm := ite_p cc hm
          refine lv_iload hx hb dX9_others_63 (lv_at hl 4 rfl) ?_
          obtain ⟨v15, hj, hm⟩ := bind_e hm
          have kk : ∀ (H : Heap) (locs : List Loc) (ls : Array Slot), MW β G N x H → va_S (AM β) s.heap H locs → lv_has ls 9 [(0, .ref β), (1, .int q1), (2, .int q2), (3, .int q3), (4, .int (bI q4)), (5, .int u5)] → W p l e R s m args below meth c H locs cells slots Q (F0 m 87 ls [.int v15]) := by
            intro H locs ls hw hS hl
            refine lv_istore (lv' := [(6, .int v15), (0, .ref β), (1, .int q1), (2, .int q2), (3, .int q3), (4, .int (bI q4)), (5, .int u5)]) hx hb dX9_others_87 hl (by decide) rfl (fun ls hl => ?_)
            refine lv_iload hx hb dX9_others_89 (lv_at hl 5 rfl) ?_
            obtain ⟨v20, hj, hm⟩ := bind_e hm
            have kk : ∀ (H : Heap) (locs : List Loc) (ls : Array Slot), MW β G N x H → va_S (AM β) s.heap H locs → lv_has ls 9 [(0, .ref β), (1, .int q1), (2, .int q2), (3, .int q3), (4, .int (bI q4)), (5, .int u5), (6, .int v15)] → W p l e R s m args below meth c H locs cells slots Q (F0 m 111 ls [.int v20]) := by
              intro H locs ls hw hS hl
              refine lv_istore (lv' := [(7, .int v20), (0, .ref β), (1, .int q1), (2, .int q2), (3, .int q3), (4, .int (bI q4)), (5, .int u5), (6, .int v15)]) hx hb dX9_others_111 hl (by decide) rfl (fun ls hl => ?_)
              refine lv_iconst (v := 5) hx hb dX9_others_113 (by decide) ?_
              refine lv_istore (lv' := [(8, .int 5), (7, .int v20), (0, .ref β), (1, .int q1), (2, .int q2), (3, .int q3), (4, .int (bI q4)), (5, .int u5), (6, .int v15)]) hx hb dX9_others_114 hl (by decide) rfl (fun ls hl => ?_)
              obtain ⟨x29, hj, hm⟩ := bind_e hm
              refine lX9_others_116 C hRf hRl hcs q1 q2 q3 q4 u5 v15 v20 NF _ _ _ _ _ _ hj hw hS (lv_sub hl [2, 3, 4, 5, 6, 7, 8, 1, 0] rfl) (fun x29_ e0 H locs ls hw hS hl => ?_)
              cases e0
              obtain ⟨v30, ev, hm⟩ := lt_e hm
              refine lv_iinc (v := v30) (lv' := [(5, .int v30), (0, .ref β), (1, .int q1), (2, .int q2), (3, .int q3), (4, .int (bI q4))]) hx hb dX9_others_168 hl (k := 5) rfl (by rw [ev]; rfl) (by decide) rfl (fun ls hl => ?_)
              clear ev
              refine lv_goto (tgt := 35) hx hb dX9_others_171 (by decide) ?_
              exact ih _ _ _ _ _ _ hm hw hS (lv_sub hl [1, 2, 3, 4, 5, 0] rfl) ke
            clear hm
            replace hm := hj
            clear hj
            refine x_ifeqB hx hb dX9_others_91 (tgt := 104) (by decide) (fun cc => ?_) (fun cc => ?_)
            · replace hm := ite_n cc hm
              refine lv_aload_n hx hb dX9_others_104 rfl (lv_at hl 1 rfl) ?_
              refine lv_iload hx hb dX9_others_105 (lv_at hl 6 rfl) ?_
              refine lv_iload_n hx hb dX9_others_107 rfl (lv_at hl 4 rfl) ?_
              obtain ⟨v16, h17, hm⟩ := bind_e hm
              refine sX9_211 C h17 hw hS hl.1 (Nat.le_of_ble_eq_true rfl) (Nat.le_trans (Nat.le_of_ble_eq_true rfl) hRf) (Nat.le_trans (Nat.le_of_ble_eq_true rfl) hRl) hcs dX9_others_108 (fun H locs hw hS => ?_)
              obtain rfl := Option.some.inj hm
              exact kk _ _ _ hw hS (lv_sub hl [1, 2, 3, 4, 5, 6, 0] rfl)
            · replace hm := ite_p cc hm
              refine lv_aload_n hx hb dX9_others_94 rfl (lv_at hl 1 rfl) ?_
              obtain ⟨v18, h19, hm⟩ := bind_e hm
              refine sX9_204 C h19 hw hS hl.1 (Nat.le_of_ble_eq_true rfl) (Nat.le_trans (Nat.le_of_ble_eq_true rfl) hRf) (Nat.le_trans (Nat.le_of_ble_eq_true rfl) hRl) hcs dX9_others_95 (fun H locs hw hS => ?_)
              refine lv_iload hx hb dX9_others_98 (lv_at hl 0 rfl) ?_
              refine lv_isub hx hb dX9_others_100 ?_
              refine lv_goto (tgt := 111) hx hb dX9_others_101 (by decide) ?_
              obtain rfl := Option.some.inj hm
              exact kk _ _ _ hw hS (lv_sub hl [1, 2, 3, 4, 5, 6, 0] rfl)
          clear hm
          replace hm := hj
          clear hj
          refine x_ifeqB hx hb dX9_others_65 (tgt := 80) (by decide) (fun cc => ?_) (fun cc => ?_)
          · replace hm := ite_n cc hm
            refine lv_aload_n hx hb dX9_others_80 rfl (lv_at hl 0 rfl) ?_
            refine lv_iload hx hb dX9_others_81 (lv_at hl 5 rfl) ?_
            refine lv_iload_n hx hb dX9_others_83 rfl (lv_at hl 3 rfl) ?_
            obtain ⟨v11, h12, hm⟩ := bind_e hm
            refine sX9_208 C h12 hw hS hl.1 (Nat.le_of_ble_eq_true rfl) (Nat.le_trans (Nat.le_of_ble_eq_true rfl) hRf) (Nat.le_trans (Nat.le_of_ble_eq_true rfl) hRl) hcs dX9_others_84 (fun H locs hw hS => ?_)
            obtain rfl := Option.some.inj hm
            exact kk _ _ _ hw hS (lv_sub hl [0, 1, 2, 3, 4, 5] rfl)
          · replace hm := ite_p cc hm
            refine lv_aload_n hx hb dX9_others_68 rfl (lv_at hl 0 rfl) ?_
            refine lv_iload hx hb dX9_others_69 (lv_at hl 5 rfl) ?_
            refine lv_iload_n hx hb dX9_others_71 rfl (lv_at hl 3 rfl) ?_
            refine lv_iconst (v := 1) hx hb dX9_others_72 (by decide) ?_
            refine lv_iadd hx hb dX9_others_73 ?_
            obtain ⟨v13, h14, hm⟩ := bind_e hm
            refine sX9_208 C h14 hw hS hl.1 (Nat.le_of_ble_eq_true rfl) (Nat.le_trans (Nat.le_of_ble_eq_true rfl) hRf) (Nat.le_trans (Nat.le_of_ble_eq_true rfl) hRl) hcs dX9_others_74 (fun H locs hw hS => ?_)
            refine lv_goto (tgt := 87) hx hb dX9_others_77 (by decide) ?_
            obtain rfl := Option.some.inj hm
            exact kk _ _ _ hw hS (lv_sub hl [0, 1, 2, 3, 4, 5] rfl)
        · replace hm := ite_n cc hm
          refine lv_goto (tgt := 168) hx hb dX9_others_60 (by decide) ?_
          obtain ⟨v31, ev, hm⟩ := lt_e hm
          refine lv_iinc (v := v31) (lv' := [(5, .int v31), (0, .ref β), (1, .int q1), (2, .int q2), (3, .int q3), (4, .int (bI q4))]) hx hb dX9_others_168 hl (k := 5) rfl (by rw [ev]; rfl) (by decide) rfl (fun ls hl => ?_)
          clear ev
          refine lv_goto (tgt := 35) hx hb dX9_others_171 (by decide) ?_
          exact ih _ _ _ _ _ _ hm hw hS (lv_sub hl [1, 2, 3, 4, 5, 0] rfl) ke
abbrev rmX9_others : Room := { frames := 3, cells := 0, slots := 0, locals := 68 }
set_option maxHeartbeats 4000000 in
set_option maxRecDepth 100000 in
theorem kX9_others {l : Launch} {G : xG} {β N : Nat} {x x' : MS} {a1 : Int32} {a2 : Int32} {a3 : Int32} {a4 : Bool} (hm : fX9_others x a1 a2 a3 a4 = some x') : Met l yX9_others (.code yX9_others cX9_others 9 none :: GT) rmX9_others (PcW [.ref β, .int a1, .int a2, .int a3, .int (bI a4)] (MW β G N x) (KK G)) (QcW (AM β) none (MW β G N x')) 0 0 (AM β) := by
  unfold fX9_others at hm
  refine xpro (own := RX9) (by decide +kernel) rfl (Nat.le_of_ble_eq_true rfl) ?_
  intro p e s m args below meth c C hw ls hl
  have hx := C.1
  have hb := C.2.1
  have ho := C.2.2.2.1
  have hts := C.2.2.2.2.1
  have hS : va_S (AM β) s.heap s.heap [] := va_S.rf
  have hl : lv_has ls 9 [(0, .ref β), (1, .int a1), (2, .int a2), (3, .int a3), (4, .int (bI a4))] := hl
  have hRf : 3 ≤ rmX9_others.frames := Nat.le_refl _
  have hRl : 68 ≤ rmX9_others.locals := Nat.le_refl _
  have hcs : 0 ≤ rmX9_others.cells ∧ 0 ≤ rmX9_others.slots := ⟨Nat.le_refl _, Nat.le_refl _⟩
  refine lv_iconst (v := 0) hx hb dX9_others_0 (by decide) ?_
  refine lv_istore (lv' := [(5, .int 0), (0, .ref β), (1, .int a1), (2, .int a2), (3, .int a3), (4, .int (bI a4))]) hx hb dX9_others_1 hl (by decide) rfl (fun ls hl => ?_)
  obtain ⟨x7, hj, hm⟩ := bind_e hm
  refine lX9_others_3 C hRf hRl hcs a1 a2 a3 a4 NF _ _ _ _ _ _ hj hw hS (lv_sub hl [1, 2, 3, 4, 5, 0] rfl) (fun x7_ e0 H locs ls hw hS hl => ?_)
  cases e0
  refine lv_iconst (v := 0) hx hb dX9_others_32 (by decide) ?_
  refine lv_istore (lv' := [(5, .int 0), (0, .ref β), (1, .int a1), (2, .int a2), (3, .int a3), (4, .int (bI a4))]) hx hb dX9_others_33 hl (by decide) rfl (fun ls hl => ?_)
  obtain ⟨x32, hj, hm⟩ := bind_e hm
  refine lX9_others_35 C hRf hRl hcs a1 a2 a3 a4 NF _ _ _ _ _ _ hj hw hS (lv_sub hl [1, 2, 3, 4, 5, 0] rfl) (fun x32_ e0 H locs ls hw hS hl => ?_)
  cases e0
  obtain rfl := Option.some.inj hm
  exact xret_v C hw hS dX9_others_174
theorem dX9_sixtieths_0 : decode cX9_sixtieths 0 = .ok (.lconst 0, 1) := by decide +kernel
theorem dX9_sixtieths_1 : decode cX9_sixtieths 1 = .ok (.lstore_n 3, 1) := by decide +kernel
theorem dX9_sixtieths_2 : decode cX9_sixtieths 2 = .ok (.aload_n 0, 1) := by decide +kernel
theorem dX9_sixtieths_3 : decode cX9_sixtieths 3 = .ok (.getfield 44, 3) := by decide +kernel
theorem dX9_sixtieths_6 : decode cX9_sixtieths 6 = .ok (.iload_n 2, 1) := by decide +kernel
theorem dX9_sixtieths_7 : decode cX9_sixtieths 7 = .ok (.iaload, 1) := by decide +kernel
theorem dX9_sixtieths_8 : decode cX9_sixtieths 8 = .ok (.aload_n 0, 1) := by decide +kernel
theorem dX9_sixtieths_9 : decode cX9_sixtieths 9 = .ok (.getfield 124, 3) := by decide +kernel
theorem dX9_sixtieths_12 : decode cX9_sixtieths 12 = .ok (.isub, 1) := by decide +kernel
theorem dX9_sixtieths_13 : decode cX9_sixtieths 13 = .ok (.istore 5, 2) := by decide +kernel
theorem dX9_sixtieths_15 : decode cX9_sixtieths 15 = .ok (.iload 5, 2) := by decide +kernel
theorem dX9_sixtieths_17 : decode cX9_sixtieths 17 = .ok (.aload_n 0, 1) := by decide +kernel
theorem dX9_sixtieths_18 : decode cX9_sixtieths 18 = .ok (.getfield 44, 3) := by decide +kernel
theorem dX9_sixtieths_21 : decode cX9_sixtieths 21 = .ok (.iload_n 2, 1) := by decide +kernel
theorem dX9_sixtieths_22 : decode cX9_sixtieths 22 = .ok (.iaload, 1) := by decide +kernel
theorem dX9_sixtieths_23 : decode cX9_sixtieths 23 = .ok (.aload_n 0, 1) := by decide +kernel
theorem dX9_sixtieths_24 : decode cX9_sixtieths 24 = .ok (.getfield 124, 3) := by decide +kernel
theorem dX9_sixtieths_27 : decode cX9_sixtieths 27 = .ok (.iadd, 1) := by decide +kernel
theorem dX9_sixtieths_28 : decode cX9_sixtieths 28 = .ok (.if_icmp .gt 52, 3) := by decide +kernel
theorem dX9_sixtieths_31 : decode cX9_sixtieths 31 = .ok (.aload_n 0, 1) := by decide +kernel
theorem dX9_sixtieths_32 : decode cX9_sixtieths 32 = .ok (.iload_n 1, 1) := by decide +kernel
theorem dX9_sixtieths_33 : decode cX9_sixtieths 33 = .ok (.iload_n 2, 1) := by decide +kernel
theorem dX9_sixtieths_34 : decode cX9_sixtieths 34 = .ok (.iload 5, 2) := by decide +kernel
theorem dX9_sixtieths_36 : decode cX9_sixtieths 36 = .ok (.iconst 0, 1) := by decide +kernel
theorem dX9_sixtieths_37 : decode cX9_sixtieths 37 = .ok (.invokevirtual 214, 3) := by decide +kernel
theorem dX9_sixtieths_40 : decode cX9_sixtieths 40 = .ok (.iconst 0, 1) := by decide +kernel
theorem dX9_sixtieths_41 : decode cX9_sixtieths 41 = .ok (.istore 6, 2) := by decide +kernel
theorem dX9_sixtieths_43 : decode cX9_sixtieths 43 = .ok (.iload 6, 2) := by decide +kernel
theorem dX9_sixtieths_45 : decode cX9_sixtieths 45 = .ok (.iconst 5, 1) := by decide +kernel
theorem dX9_sixtieths_46 : decode cX9_sixtieths 46 = .ok (.if_icmp .ge 28, 3) := by decide +kernel
theorem dX9_sixtieths_49 : decode cX9_sixtieths 49 = .ok (.lload_n 3, 1) := by decide +kernel
theorem dX9_sixtieths_50 : decode cX9_sixtieths 50 = .ok (.aload_n 0, 1) := by decide +kernel
theorem dX9_sixtieths_51 : decode cX9_sixtieths 51 = .ok (.getfield 47, 3) := by decide +kernel
theorem dX9_sixtieths_54 : decode cX9_sixtieths 54 = .ok (.iload 6, 2) := by decide +kernel
theorem dX9_sixtieths_56 : decode cX9_sixtieths 56 = .ok (.laload, 1) := by decide +kernel
theorem dX9_sixtieths_57 : decode cX9_sixtieths 57 = .ok (.bipush 60, 2) := by decide +kernel
theorem dX9_sixtieths_59 : decode cX9_sixtieths 59 = .ok (.iload 6, 2) := by decide +kernel
theorem dX9_sixtieths_61 : decode cX9_sixtieths 61 = .ok (.iconst 1, 1) := by decide +kernel
theorem dX9_sixtieths_62 : decode cX9_sixtieths 62 = .ok (.iadd, 1) := by decide +kernel
theorem dX9_sixtieths_63 : decode cX9_sixtieths 63 = .ok (.idiv, 1) := by decide +kernel
theorem dX9_sixtieths_64 : decode cX9_sixtieths 64 = .ok (.i2l, 1) := by decide +kernel
theorem dX9_sixtieths_65 : decode cX9_sixtieths 65 = .ok (.lmul, 1) := by decide +kernel
theorem dX9_sixtieths_66 : decode cX9_sixtieths 66 = .ok (.ladd, 1) := by decide +kernel
theorem dX9_sixtieths_67 : decode cX9_sixtieths 67 = .ok (.lstore_n 3, 1) := by decide +kernel
theorem dX9_sixtieths_68 : decode cX9_sixtieths 68 = .ok (.iinc 6 1, 3) := by decide +kernel
theorem dX9_sixtieths_71 : decode cX9_sixtieths 71 = .ok (.goto (-28), 3) := by decide +kernel
theorem dX9_sixtieths_74 : decode cX9_sixtieths 74 = .ok (.iinc 5 1, 3) := by decide +kernel
theorem dX9_sixtieths_77 : decode cX9_sixtieths 77 = .ok (.goto (-62), 3) := by decide +kernel
theorem dX9_sixtieths_80 : decode cX9_sixtieths 80 = .ok (.lload_n 3, 1) := by decide +kernel
theorem dX9_sixtieths_81 : decode cX9_sixtieths 81 = .ok (.lreturn, 1) := by decide +kernel
theorem sX9_214 {p : Program} {l : Launch} {e : Env} {R : Room} {s : State} {m : MethodId} {args : Array Value} {below : List Frame} {meth : Method} {c : Code} {H : Heap} {locs : List Loc} {cells slots : Nat} {Q : State → Prop} {cc : ByteArray} {pc nL : Nat} {ls : Array Slot} {rest : List Value} {ret : Option FieldType} {G : xG} {β N : Nat} {x x' : MS} {a1 : Int32} {a2 : Int32} {a3 : Int32} {a4 : Bool} (C : Cx p s m args meth c RX9 cc nL ret (KK G)) (h : fX9_others x a1 a2 a3 a4 = some x') (hw : MW β G N x H) (hS : va_S (AM β) s.heap H locs) (hsz : ls.size = nL) (hW : (rest.map fun v => v.category).sum ≤ 8) (hR : 4 ≤ R.frames) (hR2 : 96 ≤ R.locals) (hcs : cells ≤ R.cells ∧ slots ≤ R.slots) (hd : decode cc pc = .ok (.invokevirtual 214, 3)) (kk : ∀ (H1 : Heap) (locs1 : List Loc), MW β G N x' H1 → va_S (AM β) s.heap H1 locs1 → W p l e R s m args below meth c H1 locs1 cells slots Q (F0 m (pc + 3) ls (rest))) : W p l e R s m args below meth c H locs cells slots Q (F0 m pc ls (.int (bI a4) :: .int a3 :: .int a2 :: .int a1 :: .ref β :: rest)) :=
  xcallV C (As := [.int a1, .int a2, .int a3, .int (bI a4)]) (rest := rest) (nA := 4) (ci := 9) (kX9_others h) (tg 1266 (by decide +kernel) rfl) (tg 1268 (by decide +kernel) rfl) (sg (List.mem_of_getElem? (i := 80) (by decide +kernel)) rfl) (tg 14 (by decide +kernel) rfl) (tg 1269 (by decide +kernel) rfl) ⟨rfl, by decide +kernel, by decide +kernel, by decide +kernel⟩ rfl rfl rfl ⟨hR, hR2⟩ (hw.2 0 (by decide)) hw hS (fun _ q => q) rfl rfl hsz hW hd hcs (fun H1 locs1 hw hz hk hS => kk H1 locs1 hw hS)
def BX9_sixtieths_43 (x : MS) (q1 : Int32) (q2 : Int32) (q5 : Int32) (lp : Int64 → Int32 → Option (Int64)) (u3 : Int64) (u6 : Int32) : Option (Int64) := if 5 ≤ u6 then some u3 else if ib u6 6 then if ¬ (u6 + 1) = 0 then lt (u3 + ((x.2.2 12 u6.toNatClampNeg) * ((60 / (u6 + 1)).toInt64))) fun v8 => lt (u6 + 1) fun v9 => lp v8 v9 else none else none
def LX9_sixtieths_43 (x : MS) (q1 : Int32) (q2 : Int32) (q5 : Int32) : Nat → Int64 → Int32 → Option (Int64)
  | 0, _, _ => none
  | n + 1, u3, u6 => BX9_sixtieths_43 x q1 q2 q5 (LX9_sixtieths_43 x q1 q2 q5 n) u3 u6
def BX9_sixtieths_15 (q1 : Int32) (q2 : Int32) (lp : Int64 → Int32 → MS → Option (Int64 × MS)) (u3 : Int64) (u5 : Int32) (x : MS) : Option (Int64 × MS) := if ib q2 10 then if ((x.2.1 11 q2.toNatClampNeg) + (x.1 0 15)) < u5 then some (u3, x) else Option.bind (fX9_others x q1 q2 u5 false) fun x4 => Option.bind (LX9_sixtieths_43 x4 q1 q2 u5 NF u3 0) fun v10 => lt (u5 + 1) fun v11 => lp v10 v11 x4 else none
def LX9_sixtieths_15 (q1 : Int32) (q2 : Int32) : Nat → Int64 → Int32 → MS → Option (Int64 × MS)
  | 0, _, _, _ => none
  | n + 1, u3, u5, x => BX9_sixtieths_15 q1 q2 (LX9_sixtieths_15 q1 q2 n) u3 u5 x
def fX9_sixtieths (x : MS) (a1 : Int32) (a2 : Int32) : Option (Int64 × MS) := if ib a2 10 then lt ((x.2.1 11 a2.toNatClampNeg) - (x.1 0 15)) fun v2 => bind2 (LX9_sixtieths_15 a1 a2 NF 0 v2 x) fun v12 x13 => some (v12, x13) else none
set_option maxHeartbeats 4000000 in
set_option maxRecDepth 100000 in
theorem lX9_sixtieths_43 {p : Program} {l : Launch} {e : Env} {R : Room} {s : State} {m : MethodId} {args : Array Value} {below : List Frame} {meth : Method} {c : Code} {cells slots : Nat} {Q : State → Prop} {G : xG} {β N : Nat} (C : Cx p s m args meth c RX9 cX9_sixtieths 7 (some .long) (KK G)) (hRf : 4 ≤ R.frames) (hRl : 96 ≤ R.locals) (hcs : cells ≤ R.cells ∧ slots ≤ R.slots) (x : MS) (q1 : Int32) (q2 : Int32) (q5 : Int32) : ∀ (n : Nat) (u3 : Int64) (u6 : Int32) (J : Int64) (H : Heap) (locs : List Loc) (ls : Array Slot), LX9_sixtieths_43 x q1 q2 q5 n u3 u6 = some J → MW β G N x H → va_S (AM β) s.heap H locs → lv_has ls 7 [(0, .ref β), (1, .int q1), (2, .int q2), (3, .long u3), (5, .int q5), (6, .int u6)] → (∀ (w3 : Int64), J = w3 → ∀ (H : Heap) (locs : List Loc) (ls : Array Slot), MW β G N x H → va_S (AM β) s.heap H locs → lv_has ls 7 [(0, .ref β), (1, .int q1), (2, .int q2), (3, .long w3), (5, .int q5)] → W p l e R s m args below meth c H locs cells slots Q (F0 m 74 ls [])) → W p l e R s m args below meth c H locs cells slots Q (F0 m 43 ls []) := by
  have hx := C.1
  have hb := C.2.1
  have ho := C.2.2.2.1
  have hts := C.2.2.2.2.1
  intro n
  induction n with
  | zero =>
    intro u3 u6 J H locs ls hm
    exact absurd hm (by simp [LX9_sixtieths_43])
  | succ n ih =>
    intro u3 u6 J H locs ls hm hw hS hl ke
    replace hm : BX9_sixtieths_43 x q1 q2 q5 (LX9_sixtieths_43 x q1 q2 q5 n) u3 u6 = some J := hm
    unfold BX9_sixtieths_43 at hm
    refine lv_iload hx hb dX9_sixtieths_43 (lv_at hl 5 rfl) ?_
    refine lv_iconst (v := 5) hx hb dX9_sixtieths_45 (by decide) ?_
    refine lv_icmp_ge (tgt := 74) hx hb dX9_sixtieths_46 (by decide) (fun cc => ?_) (fun cc => ?_)
    · replace hm := ite_p cc hm
      exact ke _ (Option.some.inj hm).symm _ _ _ hw hS (lv_sub hl [0, 1, 2, 3, 4] rfl)
    · replace hm := ite_n cc hm
      refine lv_lload_n hx hb dX9_sixtieths_49 rfl (lv_at hl 3 rfl) ?_
      refine lv_aload_n hx hb dX9_sixtieths_50 rfl (lv_at hl 0 rfl) ?_
      refine gX9_47 C hw dX9_sixtieths_51 ?_
      refine lv_iload hx hb dX9_sixtieths_54 (lv_at hl 5 rfl) ?_
      obtain ⟨h6, hm⟩ := chk_e hm
      refine alM_12 C hw h6 dX9_sixtieths_56 ?_
      refine lv_bipush (v := 60) hx hb dX9_sixtieths_57 (by decide) ?_
      refine lv_iload hx hb dX9_sixtieths_59 (lv_at hl 5 rfl) ?_
      refine lv_iconst (v := 1) hx hb dX9_sixtieths_61 (by decide) ?_
      refine lv_iadd hx hb dX9_sixtieths_62 ?_
      obtain ⟨h7, hm⟩ := chk_e hm
      refine lv_idiv hx hb dX9_sixtieths_63 h7 ?_
      refine lv_i2l hx hb dX9_sixtieths_64 rfl ?_
      refine lv_lmul hx hb dX9_sixtieths_65 ?_
      refine lv_ladd hx hb dX9_sixtieths_66 ?_
      refine topJ hm (fun v8 hm => ?_)
      refine lv_lstore_n (lv' := [(3, .long v8), (0, .ref β), (1, .int q1), (2, .int q2), (5, .int q5), (6, .int u6)]) hx hb dX9_sixtieths_67 rfl hl (by decide) rfl (fun ls hl => ?_)
      obtain ⟨v9, ev, hm⟩ := lt_e hm
      refine lv_iinc (v := v9) (lv' := [(6, .int v9), (3, .long v8), (0, .ref β), (1, .int q1), (2, .int q2), (5, .int q5)]) hx hb dX9_sixtieths_68 hl (k := 5) rfl (by rw [ev]; rfl) (by decide) rfl (fun ls hl => ?_)
      clear ev
      refine lv_goto (tgt := 43) hx hb dX9_sixtieths_71 (by decide) ?_
      exact ih _ _ _ _ _ _ hm hw hS (lv_sub hl [2, 3, 4, 1, 5, 0] rfl) ke
set_option maxHeartbeats 4000000 in
set_option maxRecDepth 100000 in
theorem lX9_sixtieths_15 {p : Program} {l : Launch} {e : Env} {R : Room} {s : State} {m : MethodId} {args : Array Value} {below : List Frame} {meth : Method} {c : Code} {cells slots : Nat} {Q : State → Prop} {G : xG} {β N : Nat} (C : Cx p s m args meth c RX9 cX9_sixtieths 7 (some .long) (KK G)) (hRf : 4 ≤ R.frames) (hRl : 96 ≤ R.locals) (hcs : cells ≤ R.cells ∧ slots ≤ R.slots) (q1 : Int32) (q2 : Int32) : ∀ (n : Nat) (u3 : Int64) (u5 : Int32) (x : MS) (J : Int64 × MS) (H : Heap) (locs : List Loc) (ls : Array Slot), LX9_sixtieths_15 q1 q2 n u3 u5 x = some J → MW β G N x H → va_S (AM β) s.heap H locs → lv_has ls 7 [(0, .ref β), (1, .int q1), (2, .int q2), (3, .long u3), (5, .int u5)] → (∀ (w3 : Int64) (x1 : MS), J = (w3, x1) → ∀ (H : Heap) (locs : List Loc) (ls : Array Slot), MW β G N x1 H → va_S (AM β) s.heap H locs → lv_has ls 7 [(3, .long w3)] → W p l e R s m args below meth c H locs cells slots Q (F0 m 80 ls [])) → W p l e R s m args below meth c H locs cells slots Q (F0 m 15 ls []) := by
  have hx := C.1
  have hb := C.2.1
  have ho := C.2.2.2.1
  have hts := C.2.2.2.2.1
  intro n
  induction n with
  | zero =>
    intro u3 u5 x J H locs ls hm
    exact absurd hm (by simp [LX9_sixtieths_15])
  | succ n ih =>
    intro u3 u5 x J H locs ls hm hw hS hl ke
    replace hm : BX9_sixtieths_15 q1 q2 (LX9_sixtieths_15 q1 q2 n) u3 u5 x = some J := hm
    unfold BX9_sixtieths_15 at hm
    refine lv_iload hx hb dX9_sixtieths_15 (lv_at hl 4 rfl) ?_
    refine lv_aload_n hx hb dX9_sixtieths_17 rfl (lv_at hl 0 rfl) ?_
    refine gX9_44 C hw dX9_sixtieths_18 ?_
    refine lv_iload_n hx hb dX9_sixtieths_21 rfl (lv_at hl 2 rfl) ?_
    obtain ⟨h3, hm⟩ := chk_e hm
    refine alM_11 C hw h3 dX9_sixtieths_22 ?_
    refine lv_aload_n hx hb dX9_sixtieths_23 rfl (lv_at hl 0 rfl) ?_
    refine gX9_124 C hw dX9_sixtieths_24 ?_
    refine lv_iadd hx hb dX9_sixtieths_27 ?_
    refine lv_icmp_gt (tgt := 80) hx hb dX9_sixtieths_28 (by decide) (fun cc => ?_) (fun cc => ?_)
    · replace hm := ite_p cc hm
      exact ke _ _ (Option.some.inj hm).symm _ _ _ hw hS (lv_sub hl [3] rfl)
    · replace hm := ite_n cc hm
      refine lv_aload_n hx hb dX9_sixtieths_31 rfl (lv_at hl 0 rfl) ?_
      refine lv_iload_n hx hb dX9_sixtieths_32 rfl (lv_at hl 1 rfl) ?_
      refine lv_iload_n hx hb dX9_sixtieths_33 rfl (lv_at hl 2 rfl) ?_
      refine lv_iload hx hb dX9_sixtieths_34 (lv_at hl 4 rfl) ?_
      refine lv_iconst (v := 0) hx hb dX9_sixtieths_36 (by decide) ?_
      obtain ⟨x4, h5, hm⟩ := bind_e hm
      refine sX9_214 (a1 := q1) (a2 := q2) (a3 := u5) (a4 := false) C h5 hw hS hl.1 (Nat.le_of_ble_eq_true rfl) (Nat.le_trans (Nat.le_of_ble_eq_true rfl) hRf) (Nat.le_trans (Nat.le_of_ble_eq_true rfl) hRl) hcs dX9_sixtieths_37 (fun H locs hw hS => ?_)
      refine lv_iconst (v := 0) hx hb dX9_sixtieths_40 (by decide) ?_
      refine lv_istore (lv' := [(6, .int 0), (0, .ref β), (1, .int q1), (2, .int q2), (3, .long u3), (5, .int u5)]) hx hb dX9_sixtieths_41 hl (by decide) rfl (fun ls hl => ?_)
      obtain ⟨v10, hj, hm⟩ := bind_e hm
      refine lX9_sixtieths_43 C hRf hRl hcs x4 q1 q2 u5 NF _ _ _ _ _ _ hj hw hS (lv_sub hl [1, 2, 3, 4, 5, 0] rfl) (fun v10_ e0 H locs ls hw hS hl => ?_)
      cases e0
      obtain ⟨v11, ev, hm⟩ := lt_e hm
      refine lv_iinc (v := v11) (lv' := [(5, .int v11), (0, .ref β), (1, .int q1), (2, .int q2), (3, .long v10)]) hx hb dX9_sixtieths_74 hl (k := 4) rfl (by rw [ev]; rfl) (by decide) rfl (fun ls hl => ?_)
      clear ev
      refine lv_goto (tgt := 15) hx hb dX9_sixtieths_77 (by decide) ?_
      exact ih _ _ _ _ _ _ _ hm hw hS (lv_sub hl [1, 2, 3, 4, 0] rfl) ke
abbrev rmX9_sixtieths : Room := { frames := 4, cells := 0, slots := 0, locals := 96 }
set_option maxHeartbeats 4000000 in
set_option maxRecDepth 100000 in
theorem kX9_sixtieths {l : Launch} {G : xG} {β N : Nat} {x x' : MS} {a1 : Int32} {a2 : Int32} {r : Int64} (hm : fX9_sixtieths x a1 a2 = some (r, x')) : Met l yX9_sixtieths (.code yX9_sixtieths cX9_sixtieths 7 (some .long) :: GT) rmX9_sixtieths (PcW [.ref β, .int a1, .int a2] (MW β G N x) (KK G)) (QcW (AM β) (some (.long r)) (MW β G N x')) 0 0 (AM β) := by
  unfold fX9_sixtieths at hm
  refine xpro (own := RX9) (by decide +kernel) rfl (Nat.le_of_ble_eq_true rfl) ?_
  intro p e s m args below meth c C hw ls hl
  have hx := C.1
  have hb := C.2.1
  have ho := C.2.2.2.1
  have hts := C.2.2.2.2.1
  have hS : va_S (AM β) s.heap s.heap [] := va_S.rf
  have hl : lv_has ls 7 [(0, .ref β), (1, .int a1), (2, .int a2)] := hl
  have hRf : 4 ≤ rmX9_sixtieths.frames := Nat.le_refl _
  have hRl : 96 ≤ rmX9_sixtieths.locals := Nat.le_refl _
  have hcs : 0 ≤ rmX9_sixtieths.cells ∧ 0 ≤ rmX9_sixtieths.slots := ⟨Nat.le_refl _, Nat.le_refl _⟩
  refine lv_lconst (v := 0) hx hb dX9_sixtieths_0 (by decide) ?_
  refine lv_lstore_n (lv' := [(3, .long 0), (0, .ref β), (1, .int a1), (2, .int a2)]) hx hb dX9_sixtieths_1 rfl hl (by decide) rfl (fun ls hl => ?_)
  refine lv_aload_n hx hb dX9_sixtieths_2 rfl (lv_at hl 1 rfl) ?_
  refine gX9_44 C hw dX9_sixtieths_3 ?_
  refine lv_iload_n hx hb dX9_sixtieths_6 rfl (lv_at hl 3 rfl) ?_
  obtain ⟨h1, hm⟩ := chk_e hm
  refine alM_11 C hw h1 dX9_sixtieths_7 ?_
  refine lv_aload_n hx hb dX9_sixtieths_8 rfl (lv_at hl 1 rfl) ?_
  refine gX9_124 C hw dX9_sixtieths_9 ?_
  refine lv_isub hx hb dX9_sixtieths_12 ?_
  refine topI hm (fun v2 hm => ?_)
  refine lv_istore (lv' := [(5, .int v2), (3, .long 0), (0, .ref β), (1, .int a1), (2, .int a2)]) hx hb dX9_sixtieths_13 hl (by decide) rfl (fun ls hl => ?_)
  obtain ⟨v12, x13, hj, hm⟩ := bind2_e hm
  refine lX9_sixtieths_15 C hRf hRl hcs a1 a2 NF _ _ _ _ _ _ _ hj hw hS (lv_sub hl [2, 3, 4, 1, 0] rfl) (fun v12_ x13_ e0 H locs ls hw hS hl => ?_)
  cases e0
  refine lv_lload_n hx hb dX9_sixtieths_80 rfl (lv_at hl 0 rfl) ?_
  obtain ⟨rfl, rfl⟩ := inj2 hm
  exact xret_l C hw hS dX9_sixtieths_81
theorem dX9_common_0 : decode cX9_common 0 = .ok (.lload_n 0, 1) := by decide +kernel
theorem dX9_common_1 : decode cX9_common 1 = .ok (.lconst 0, 1) := by decide +kernel
theorem dX9_common_2 : decode cX9_common 2 = .ok (.lcmp, 1) := by decide +kernel
theorem dX9_common_3 : decode cX9_common 3 = .ok (.ifCond .ge 8, 3) := by decide +kernel
theorem dX9_common_6 : decode cX9_common 6 = .ok (.lload_n 0, 1) := by decide +kernel
theorem dX9_common_7 : decode cX9_common 7 = .ok (.lneg, 1) := by decide +kernel
theorem dX9_common_8 : decode cX9_common 8 = .ok (.goto 4, 3) := by decide +kernel
theorem dX9_common_11 : decode cX9_common 11 = .ok (.lload_n 0, 1) := by decide +kernel
theorem dX9_common_12 : decode cX9_common 12 = .ok (.lstore 4, 2) := by decide +kernel
theorem dX9_common_14 : decode cX9_common 14 = .ok (.lload_n 2, 1) := by decide +kernel
theorem dX9_common_15 : decode cX9_common 15 = .ok (.lstore 6, 2) := by decide +kernel
theorem dX9_common_17 : decode cX9_common 17 = .ok (.lload 6, 2) := by decide +kernel
theorem dX9_common_19 : decode cX9_common 19 = .ok (.lconst 0, 1) := by decide +kernel
theorem dX9_common_20 : decode cX9_common 20 = .ok (.lcmp, 1) := by decide +kernel
theorem dX9_common_21 : decode cX9_common 21 = .ok (.ifCond .eq 21, 3) := by decide +kernel
theorem dX9_common_24 : decode cX9_common 24 = .ok (.lload 4, 2) := by decide +kernel
theorem dX9_common_26 : decode cX9_common 26 = .ok (.lload 6, 2) := by decide +kernel
theorem dX9_common_28 : decode cX9_common 28 = .ok (.lrem, 1) := by decide +kernel
theorem dX9_common_29 : decode cX9_common 29 = .ok (.lstore 8, 2) := by decide +kernel
theorem dX9_common_31 : decode cX9_common 31 = .ok (.lload 6, 2) := by decide +kernel
theorem dX9_common_33 : decode cX9_common 33 = .ok (.lstore 4, 2) := by decide +kernel
theorem dX9_common_35 : decode cX9_common 35 = .ok (.lload 8, 2) := by decide +kernel
theorem dX9_common_37 : decode cX9_common 37 = .ok (.lstore 6, 2) := by decide +kernel
theorem dX9_common_39 : decode cX9_common 39 = .ok (.goto (-22), 3) := by decide +kernel
theorem dX9_common_42 : decode cX9_common 42 = .ok (.lload 4, 2) := by decide +kernel
theorem dX9_common_44 : decode cX9_common 44 = .ok (.lreturn, 1) := by decide +kernel
def BX9_common_17 (lp : Int64 → Int64 → Option (Int64)) (u4 : Int64) (u6 : Int64) : Option (Int64) := if u6 = 0 then some u4 else if ¬ u6 = 0 then lt (lrm u4 u6) fun v3 => lp u6 v3 else none
def LX9_common_17 : Nat → Int64 → Int64 → Option (Int64)
  | 0, _, _ => none
  | n + 1, u4, u6 => BX9_common_17 (LX9_common_17 n) u4 u6
def fX9_common (a1 : Int64) (a2 : Int64) : Option (Int64) := Option.bind (if 0 ≤ a1 then some a1 else some (-a1)) fun v1 => Option.bind (LX9_common_17 NF v1 a2) fun v4 => some v4
set_option maxHeartbeats 4000000 in
set_option maxRecDepth 100000 in
theorem lX9_common_17 {p : Program} {l : Launch} {e : Env} {R : Room} {s : State} {m : MethodId} {args : Array Value} {below : List Frame} {meth : Method} {c : Code} {cells slots : Nat} {Q : State → Prop} {G : xG} {β N : Nat} (C : Cx p s m args meth c RX9 cX9_common 10 (some .long) (KK G)) (hRf : 0 ≤ R.frames) (hRl : 0 ≤ R.locals) (hcs : cells ≤ R.cells ∧ slots ≤ R.slots) {x : MS} : ∀ (n : Nat) (u4 : Int64) (u6 : Int64) (J : Int64) (H : Heap) (locs : List Loc) (ls : Array Slot), LX9_common_17 n u4 u6 = some J → MW β G N x H → va_S (AM β) s.heap H locs → lv_has ls 10 [(4, .long u4), (6, .long u6)] → (∀ (w4 : Int64), J = w4 → ∀ (H : Heap) (locs : List Loc) (ls : Array Slot), MW β G N x H → va_S (AM β) s.heap H locs → lv_has ls 10 [(4, .long w4)] → W p l e R s m args below meth c H locs cells slots Q (F0 m 42 ls [])) → W p l e R s m args below meth c H locs cells slots Q (F0 m 17 ls []) := by
  have hx := C.1
  have hb := C.2.1
  have ho := C.2.2.2.1
  have hts := C.2.2.2.2.1
  intro n
  induction n with
  | zero =>
    intro u4 u6 J H locs ls hm
    exact absurd hm (by simp [LX9_common_17])
  | succ n ih =>
    intro u4 u6 J H locs ls hm hw hS hl ke
    replace hm : BX9_common_17 (LX9_common_17 n) u4 u6 = some J := hm
    unfold BX9_common_17 at hm
    refine lv_lload hx hb dX9_common_17 (lv_at hl 1 rfl) ?_
    refine lv_lconst (v := 0) hx hb dX9_common_19 (by decide) ?_
    refine W.lcmp hx hb dX9_common_20 ?_
    refine lv_if_eq (tgt := 42) hx hb dX9_common_21 (by decide) (fun cc => ?_) (fun cc => ?_)
    · rw [lg_cmp_eq] at cc
      replace hm := ite_p cc hm
      exact ke _ (Option.some.inj hm).symm _ _ _ hw hS (lv_sub hl [0] rfl)
    · rw [lg_cmp_eq] at cc
      replace hm := ite_n cc hm
      refine lv_lload hx hb dX9_common_24 (lv_at hl 0 rfl) ?_
      refine lv_lload hx hb dX9_common_26 (lv_at hl 1 rfl) ?_
      obtain ⟨h2, hm⟩ := chk_e hm
      refine lv_lrem hx hb dX9_common_28 h2 ?_
      refine topJ hm (fun v3 hm => ?_)
      refine lv_lstore (lv' := [(8, .long v3), (4, .long u4), (6, .long u6)]) hx hb dX9_common_29 hl (by decide) rfl (fun ls hl => ?_)
      refine lv_lload hx hb dX9_common_31 (lv_at hl 2 rfl) ?_
      refine lv_lstore (lv' := [(4, .long u6), (8, .long v3), (6, .long u6)]) hx hb dX9_common_33 hl (by decide) rfl (fun ls hl => ?_)
      refine lv_lload hx hb dX9_common_35 (lv_at hl 1 rfl) ?_
      refine lv_lstore (lv' := [(6, .long v3), (4, .long u6), (8, .long v3)]) hx hb dX9_common_37 hl (by decide) rfl (fun ls hl => ?_)
      refine lv_goto (tgt := 17) hx hb dX9_common_39 (by decide) ?_
      exact ih _ _ _ _ _ _ hm hw hS (lv_sub hl [1, 0] rfl) ke
abbrev rmX9_common : Room := { frames := 0, cells := 0, slots := 0, locals := 0 }
set_option maxHeartbeats 4000000 in
set_option maxRecDepth 100000 in
theorem kX9_common {l : Launch} {G : xG} {β N : Nat} {x : MS} {a1 : Int64} {a2 : Int64} {r : Int64} (hm : fX9_common a1 a2 = some r) : Met l yX9_common (.code yX9_common cX9_common 10 (some .long) :: GT) rmX9_common (PcW [.long a1, .long a2] (MW β G N x) (KK G)) (QcW (AM β) (some (.long r)) (MW β G N x)) 0 0 (AM β) := by
  unfold fX9_common at hm
  refine xpro (own := RX9) (by decide +kernel) rfl (Nat.le_of_ble_eq_true rfl) ?_
  intro p e s m args below meth c C hw ls hl
  have hx := C.1
  have hb := C.2.1
  have ho := C.2.2.2.1
  have hts := C.2.2.2.2.1
  have hS : va_S (AM β) s.heap s.heap [] := va_S.rf
  have hl : lv_has ls 10 [(0, .long a1), (2, .long a2)] := hl
  have hRf : 0 ≤ rmX9_common.frames := Nat.le_refl _
  have hRl : 0 ≤ rmX9_common.locals := Nat.le_refl _
  have hcs : 0 ≤ rmX9_common.cells ∧ 0 ≤ rmX9_common.slots := ⟨Nat.le_refl _, Nat.le_refl _⟩
  refine lv_lload_n hx hb dX9_common_0 rfl (lv_at hl 0 rfl) ?_
  refine lv_lconst (v := 0) hx hb dX9_common_1 (by decide) ?_
  refine W.lcmp hx hb dX9_common_2 ?_
  obtain ⟨v1, hj, hm⟩ := bind_e hm
  have kk : ∀ (H : Heap) (locs : List Loc) (ls : Array Slot), MW β G N x H → va_S (AM β) s.heap H locs → lv_has ls 10 [(2, .long a2)] → W p l e rmX9_common s m args below meth c H locs 0 0 (MQ below (QcW (AM β) (some (.long r)) (MW β G N x)) args s 0 0 (AM β)) (F0 m 12 ls [.long v1]) := by
    intro H locs ls hw hS hl
    refine lv_lstore (lv' := [(4, .long v1), (2, .long a2)]) hx hb dX9_common_12 hl (by decide) rfl (fun ls hl => ?_)
    refine lv_lload_n hx hb dX9_common_14 rfl (lv_at hl 1 rfl) ?_
    refine lv_lstore (lv' := [(6, .long a2), (4, .long v1), (2, .long a2)]) hx hb dX9_common_15 hl (by decide) rfl (fun ls hl => ?_)
    obtain ⟨v4, hj, hm⟩ := bind_e hm
    refine lX9_common_17 C hRf hRl hcs NF _ _ _ _ _ _ hj hw hS (lv_sub hl [1, 0] rfl) (fun v4_ e0 H locs ls hw hS hl => ?_)
    cases e0
    refine lv_lload hx hb dX9_common_42 (lv_at hl 0 rfl) ?_
    obtain rfl := Option.some.inj hm
    exact xret_l C hw hS dX9_common_44
  clear hm
  replace hm := hj
  clear hj
  refine lv_if_ge (tgt := 11) hx hb dX9_common_3 (by decide) (fun cc => ?_) (fun cc => ?_)
  · rw [lg_cmp_ge] at cc
    replace hm := ite_p cc hm
    refine lv_lload_n hx hb dX9_common_11 rfl (lv_at hl 0 rfl) ?_
    obtain rfl := Option.some.inj hm
    exact kk _ _ _ hw hS (lv_sub hl [1] rfl)
  · rw [lg_cmp_ge] at cc
    replace hm := ite_n cc hm
    refine lv_lload_n hx hb dX9_common_6 rfl (lv_at hl 0 rfl) ?_
    refine lv_lneg hx hb dX9_common_7 ?_
    refine lv_goto (tgt := 12) hx hb dX9_common_8 (by decide) ?_
    obtain rfl := Option.some.inj hm
    exact kk _ _ _ hw hS (lv_sub hl [1] rfl)
theorem dX9_lowest_0 : decode cX9_lowest 0 = .ok (.iload 4, 2) := by decide +kernel
theorem dX9_lowest_2 : decode cX9_lowest 2 = .ok (.ifCond .ne 7, 3) := by decide +kernel
theorem dX9_lowest_5 : decode cX9_lowest 5 = .ok (.lload_n 0, 1) := by decide +kernel
theorem dX9_lowest_6 : decode cX9_lowest 6 = .ok (.goto 4, 3) := by decide +kernel
theorem dX9_lowest_9 : decode cX9_lowest 9 = .ok (.lload_n 2, 1) := by decide +kernel
theorem dX9_lowest_10 : decode cX9_lowest 10 = .ok (.lload_n 0, 1) := by decide +kernel
theorem dX9_lowest_11 : decode cX9_lowest 11 = .ok (.lload_n 2, 1) := by decide +kernel
theorem dX9_lowest_12 : decode cX9_lowest 12 = .ok (.invokestatic 218, 3) := by decide +kernel
theorem dX9_lowest_15 : decode cX9_lowest 15 = .ok (.ldiv, 1) := by decide +kernel
theorem dX9_lowest_16 : decode cX9_lowest 16 = .ok (.lreturn, 1) := by decide +kernel
theorem sX9_218 {p : Program} {l : Launch} {e : Env} {R : Room} {s : State} {m : MethodId} {args : Array Value} {below : List Frame} {meth : Method} {c : Code} {H : Heap} {locs : List Loc} {cells slots : Nat} {Q : State → Prop} {cc : ByteArray} {pc nL : Nat} {ls : Array Slot} {rest : List Value} {ret : Option FieldType} {G : xG} {β N : Nat} {x : MS} {a1 : Int64} {a2 : Int64} {r : Int64} (C : Cx p s m args meth c RX9 cc nL ret (KK G)) (h : fX9_common a1 a2 = some r) (hw : MW β G N x H) (hS : va_S (AM β) s.heap H locs) (hsz : ls.size = nL) (hW : (rest.map fun v => v.category).sum ≤ 8) (hR : 1 ≤ R.frames) (hR2 : 29 ≤ R.locals) (hcs : cells ≤ R.cells ∧ slots ≤ R.slots) (hd : decode cc pc = .ok (.invokestatic 218, 3)) (kk : ∀ (H1 : Heap) (locs1 : List Loc), MW β G N x H1 → va_S (AM β) s.heap H1 locs1 → W p l e R s m args below meth c H1 locs1 cells slots Q (F0 m (pc + 3) ls (.long r :: rest))) : W p l e R s m args below meth c H locs cells slots Q (F0 m pc ls (.long a2 :: .long a1 :: rest)) :=
  xcallS C (As := [.long a1, .long a2]) (rest := rest) (nA := 2) (kX9_common h) (tg 1289 (by decide +kernel) rfl) (tg 1290 (by decide +kernel) rfl) (tg 14 (by decide +kernel) rfl) (tg 1291 (by decide +kernel) rfl) ⟨by decide +kernel, by decide +kernel, by decide +kernel⟩ rfl rfl ⟨hR, hR2⟩ hw hS (fun _ q => q) rfl rfl hsz hW hd hcs (fun H1 locs1 hw hz hk hS => kk H1 locs1 hw hS)
def fX9_lowest (a1 : Int64) (a2 : Int64) (a3 : Int32) : Option (Int64) := if a3 = 0 then Option.bind (fX9_common a1 a2) fun v4 => if ¬ v4 = 0 then some (a1 / v4) else none else Option.bind (fX9_common a1 a2) fun v1 => if ¬ v1 = 0 then some (a2 / v1) else none
abbrev rmX9_lowest : Room := { frames := 1, cells := 0, slots := 0, locals := 29 }
set_option maxHeartbeats 4000000 in
set_option maxRecDepth 100000 in
theorem kX9_lowest {l : Launch} {G : xG} {β N : Nat} {x : MS} {a1 : Int64} {a2 : Int64} {a3 : Int32} {r : Int64} (hm : fX9_lowest a1 a2 a3 = some r) : Met l yX9_lowest (.code yX9_lowest cX9_lowest 5 (some .long) :: GT) rmX9_lowest (PcW [.long a1, .long a2, .int a3] (MW β G N x) (KK G)) (QcW (AM β) (some (.long r)) (MW β G N x)) 0 0 (AM β) := by
  unfold fX9_lowest at hm
  refine xpro (own := RX9) (by decide +kernel) rfl (Nat.le_of_ble_eq_true rfl) ?_
  intro p e s m args below meth c C hw ls hl
  have hx := C.1
  have hb := C.2.1
  have ho := C.2.2.2.1
  have hts := C.2.2.2.2.1
  have hS : va_S (AM β) s.heap s.heap [] := va_S.rf
  have hl : lv_has ls 5 [(0, .long a1), (2, .long a2), (4, .int a3)] := hl
  have hRf : 1 ≤ rmX9_lowest.frames := Nat.le_refl _
  have hRl : 29 ≤ rmX9_lowest.locals := Nat.le_refl _
  have hcs : 0 ≤ rmX9_lowest.cells ∧ 0 ≤ rmX9_lowest.slots := ⟨Nat.le_refl _, Nat.le_refl _⟩
  refine lv_iload hx hb dX9_lowest_0 (lv_at hl 2 rfl) ?_
  refine lv_if_ne (tgt := 9) hx hb dX9_lowest_2 (by decide) (fun cc => ?_) (fun cc => ?_)
  · replace hm := ite_n cc hm
    refine lv_lload_n hx hb dX9_lowest_9 rfl (lv_at hl 1 rfl) ?_
    refine lv_lload_n hx hb dX9_lowest_10 rfl (lv_at hl 0 rfl) ?_
    refine lv_lload_n hx hb dX9_lowest_11 rfl (lv_at hl 1 rfl) ?_
    obtain ⟨v1, h2, hm⟩ := bind_e hm
    refine sX9_218 C h2 hw hS hl.1 (Nat.le_of_ble_eq_true rfl) (Nat.le_trans (Nat.le_of_ble_eq_true rfl) hRf) (Nat.le_trans (Nat.le_of_ble_eq_true rfl) hRl) hcs dX9_lowest_12 (fun H locs hw hS => ?_)
    obtain ⟨h3, hm⟩ := chk_e hm
    refine lv_ldiv hx hb dX9_lowest_15 h3 ?_
    obtain rfl := Option.some.inj hm
    exact xret_l C hw hS dX9_lowest_16
  · replace hm := ite_p cc hm
    refine lv_lload_n hx hb dX9_lowest_5 rfl (lv_at hl 0 rfl) ?_
    refine lv_goto (tgt := 10) hx hb dX9_lowest_6 (by decide) ?_
    refine lv_lload_n hx hb dX9_lowest_10 rfl (lv_at hl 0 rfl) ?_
    refine lv_lload_n hx hb dX9_lowest_11 rfl (lv_at hl 1 rfl) ?_
    obtain ⟨v4, h5, hm⟩ := bind_e hm
    refine sX9_218 C h5 hw hS hl.1 (Nat.le_of_ble_eq_true rfl) (Nat.le_trans (Nat.le_of_ble_eq_true rfl) hRf) (Nat.le_trans (Nat.le_of_ble_eq_true rfl) hRl) hcs dX9_lowest_12 (fun H locs hw hS => ?_)
    obtain ⟨h6, hm⟩ := chk_e hm
    refine lv_ldiv hx hb dX9_lowest_15 h6 ?_
    obtain rfl := Option.some.inj hm
    exact xret_l C hw hS dX9_lowest_16
theorem dX9_wins_0 : decode cX9_wins 0 = .ok (.aload_n 0, 1) := by decide +kernel
theorem dX9_wins_1 : decode cX9_wins 1 = .ok (.iload_n 1, 1) := by decide +kernel
theorem dX9_wins_2 : decode cX9_wins 2 = .ok (.invokevirtual 222, 3) := by decide +kernel
theorem dX9_wins_5 : decode cX9_wins 5 = .ok (.ifCond .eq 27, 3) := by decide +kernel
theorem dX9_wins_8 : decode cX9_wins 8 = .ok (.iload_n 2, 1) := by decide +kernel
theorem dX9_wins_9 : decode cX9_wins 9 = .ok (.invokestatic 225, 3) := by decide +kernel
theorem dX9_wins_12 : decode cX9_wins 12 = .ok (.ifCond .eq 20, 3) := by decide +kernel
theorem dX9_wins_15 : decode cX9_wins 15 = .ok (.aload_n 0, 1) := by decide +kernel
theorem dX9_wins_16 : decode cX9_wins 16 = .ok (.iload_n 1, 1) := by decide +kernel
theorem dX9_wins_17 : decode cX9_wins 17 = .ok (.iload_n 3, 1) := by decide +kernel
theorem dX9_wins_18 : decode cX9_wins 18 = .ok (.invokevirtual 196, 3) := by decide +kernel
theorem dX9_wins_21 : decode cX9_wins 21 = .ok (.ifCond .eq 11, 3) := by decide +kernel
theorem dX9_wins_24 : decode cX9_wins 24 = .ok (.iload 4, 2) := by decide +kernel
theorem dX9_wins_26 : decode cX9_wins 26 = .ok (.invokestatic 228, 3) := by decide +kernel
theorem dX9_wins_29 : decode cX9_wins 29 = .ok (.ifCond .ne 7, 3) := by decide +kernel
theorem dX9_wins_32 : decode cX9_wins 32 = .ok (.ldc2_w 167, 3) := by decide +kernel
theorem dX9_wins_35 : decode cX9_wins 35 = .ok (.lreturn, 1) := by decide +kernel
theorem dX9_wins_36 : decode cX9_wins 36 = .ok (.aload_n 0, 1) := by decide +kernel
theorem dX9_wins_37 : decode cX9_wins 37 = .ok (.iload_n 1, 1) := by decide +kernel
theorem dX9_wins_38 : decode cX9_wins 38 = .ok (.iload_n 2, 1) := by decide +kernel
theorem dX9_wins_39 : decode cX9_wins 39 = .ok (.invokevirtual 231, 3) := by decide +kernel
theorem dX9_wins_42 : decode cX9_wins 42 = .ok (.aload_n 0, 1) := by decide +kernel
theorem dX9_wins_43 : decode cX9_wins 43 = .ok (.iload_n 1, 1) := by decide +kernel
theorem dX9_wins_44 : decode cX9_wins 44 = .ok (.iload_n 3, 1) := by decide +kernel
theorem dX9_wins_45 : decode cX9_wins 45 = .ok (.invokevirtual 235, 3) := by decide +kernel
theorem dX9_wins_48 : decode cX9_wins 48 = .ok (.ldc2_w 154, 3) := by decide +kernel
theorem dX9_wins_51 : decode cX9_wins 51 = .ok (.aload_n 0, 1) := by decide +kernel
theorem dX9_wins_52 : decode cX9_wins 52 = .ok (.iload_n 1, 1) := by decide +kernel
theorem dX9_wins_53 : decode cX9_wins 53 = .ok (.invokevirtual 239, 3) := by decide +kernel
theorem dX9_wins_56 : decode cX9_wins 56 = .ok (.lmul, 1) := by decide +kernel
theorem dX9_wins_57 : decode cX9_wins 57 = .ok (.iload 4, 2) := by decide +kernel
theorem dX9_wins_59 : decode cX9_wins 59 = .ok (.invokestatic 243, 3) := by decide +kernel
theorem dX9_wins_62 : decode cX9_wins 62 = .ok (.lreturn, 1) := by decide +kernel
theorem sX9_222 {p : Program} {l : Launch} {e : Env} {R : Room} {s : State} {m : MethodId} {args : Array Value} {below : List Frame} {meth : Method} {c : Code} {H : Heap} {locs : List Loc} {cells slots : Nat} {Q : State → Prop} {cc : ByteArray} {pc nL : Nat} {ls : Array Slot} {rest : List Value} {ret : Option FieldType} {G : xG} {β N : Nat} {x : MS} {a1 : Int32} {r : Bool} (C : Cx p s m args meth c RX9 cc nL ret (KK G)) (h : fX9_isField x a1 = some r) (hw : MW β G N x H) (hS : va_S (AM β) s.heap H locs) (hsz : ls.size = nL) (hW : (rest.map fun v => v.category).sum ≤ 8) (hR : 2 ≤ R.frames) (hR2 : 46 ≤ R.locals) (hcs : cells ≤ R.cells ∧ slots ≤ R.slots) (hd : decode cc pc = .ok (.invokevirtual 222, 3)) (kk : ∀ (H1 : Heap) (locs1 : List Loc), MW β G N x H1 → va_S (AM β) s.heap H1 locs1 → W p l e R s m args below meth c H1 locs1 cells slots Q (F0 m (pc + 3) ls (.int (bI r) :: rest))) : W p l e R s m args below meth c H locs cells slots Q (F0 m pc ls (.int a1 :: .ref β :: rest)) :=
  xcallV C (As := [.int a1]) (rest := rest) (nA := 1) (ci := 9) (kX9_isField h) (tg 1236 (by decide +kernel) rfl) (tg 1238 (by decide +kernel) rfl) (sg (List.mem_of_getElem? (i := 75) (by decide +kernel)) rfl) (tg 14 (by decide +kernel) rfl) (tg 1239 (by decide +kernel) rfl) ⟨rfl, by decide +kernel, by decide +kernel, by decide +kernel⟩ rfl rfl rfl ⟨hR, hR2⟩ (hw.2 0 (by decide)) hw hS (fun _ q => q) rfl rfl hsz hW hd hcs (fun H1 locs1 hw hz hk hS => kk H1 locs1 hw hS)
theorem sX9_225 {p : Program} {l : Launch} {e : Env} {R : Room} {s : State} {m : MethodId} {args : Array Value} {below : List Frame} {meth : Method} {c : Code} {H : Heap} {locs : List Loc} {cells slots : Nat} {Q : State → Prop} {cc : ByteArray} {pc nL : Nat} {ls : Array Slot} {rest : List Value} {ret : Option FieldType} {G : xG} {β N : Nat} {x : MS} {a1 : Int32} {r : Bool} (C : Cx p s m args meth c RX9 cc nL ret (KK G)) (h : fX9_isWhen a1 = some r) (hw : MW β G N x H) (hS : va_S (AM β) s.heap H locs) (hsz : ls.size = nL) (hW : (rest.map fun v => v.category).sum ≤ 8) (hR : 2 ≤ R.frames) (hR2 : 45 ≤ R.locals) (hcs : cells ≤ R.cells ∧ slots ≤ R.slots) (hd : decode cc pc = .ok (.invokestatic 225, 3)) (kk : ∀ (H1 : Heap) (locs1 : List Loc), MW β G N x H1 → va_S (AM β) s.heap H1 locs1 → W p l e R s m args below meth c H1 locs1 cells slots Q (F0 m (pc + 3) ls (.int (bI r) :: rest))) : W p l e R s m args below meth c H locs cells slots Q (F0 m pc ls (.int a1 :: rest)) :=
  xcallS C (As := [.int a1]) (rest := rest) (nA := 1) (kX9_isWhen h) (tg 1243 (by decide +kernel) rfl) (tg 1244 (by decide +kernel) rfl) (tg 14 (by decide +kernel) rfl) (tg 1245 (by decide +kernel) rfl) ⟨by decide +kernel, by decide +kernel, by decide +kernel⟩ rfl rfl ⟨hR, hR2⟩ hw hS (fun _ q => q) rfl rfl hsz hW hd hcs (fun H1 locs1 hw hz hk hS => kk H1 locs1 hw hS)
theorem sX9_228 {p : Program} {l : Launch} {e : Env} {R : Room} {s : State} {m : MethodId} {args : Array Value} {below : List Frame} {meth : Method} {c : Code} {H : Heap} {locs : List Loc} {cells slots : Nat} {Q : State → Prop} {cc : ByteArray} {pc nL : Nat} {ls : Array Slot} {rest : List Value} {ret : Option FieldType} {G : xG} {β N : Nat} {x : MS} {a1 : Int32} {r : Bool} (C : Cx p s m args meth c RX9 cc nL ret (KK G)) (h : fX9_isPart a1 = some r) (hw : MW β G N x H) (hS : va_S (AM β) s.heap H locs) (hsz : ls.size = nL) (hW : (rest.map fun v => v.category).sum ≤ 8) (hR : 2 ≤ R.frames) (hR2 : 45 ≤ R.locals) (hcs : cells ≤ R.cells ∧ slots ≤ R.slots) (hd : decode cc pc = .ok (.invokestatic 228, 3)) (kk : ∀ (H1 : Heap) (locs1 : List Loc), MW β G N x H1 → va_S (AM β) s.heap H1 locs1 → W p l e R s m args below meth c H1 locs1 cells slots Q (F0 m (pc + 3) ls (.int (bI r) :: rest))) : W p l e R s m args below meth c H locs cells slots Q (F0 m pc ls (.int a1 :: rest)) :=
  xcallS C (As := [.int a1]) (rest := rest) (nA := 1) (kX9_isPart h) (tg 1251 (by decide +kernel) rfl) (tg 1252 (by decide +kernel) rfl) (tg 14 (by decide +kernel) rfl) (tg 1253 (by decide +kernel) rfl) ⟨by decide +kernel, by decide +kernel, by decide +kernel⟩ rfl rfl ⟨hR, hR2⟩ hw hS (fun _ q => q) rfl rfl hsz hW hd hcs (fun H1 locs1 hw hz hk hS => kk H1 locs1 hw hS)
theorem sX9_231 {p : Program} {l : Launch} {e : Env} {R : Room} {s : State} {m : MethodId} {args : Array Value} {below : List Frame} {meth : Method} {c : Code} {H : Heap} {locs : List Loc} {cells slots : Nat} {Q : State → Prop} {cc : ByteArray} {pc nL : Nat} {ls : Array Slot} {rest : List Value} {ret : Option FieldType} {G : xG} {β N : Nat} {x x' : MS} {a1 : Int32} {a2 : Int32} (C : Cx p s m args meth c RX9 cc nL ret (KK G)) (h : fX9_lays x a1 a2 = some x') (hw : MW β G N x H) (hS : va_S (AM β) s.heap H locs) (hsz : ls.size = nL) (hW : (rest.map fun v => v.category).sum ≤ 8) (hR : 4 ≤ R.frames) (hR2 : 91 ≤ R.locals) (hcs : cells ≤ R.cells ∧ slots ≤ R.slots) (hd : decode cc pc = .ok (.invokevirtual 231, 3)) (kk : ∀ (H1 : Heap) (locs1 : List Loc), MW β G N x' H1 → va_S (AM β) s.heap H1 locs1 → W p l e R s m args below meth c H1 locs1 cells slots Q (F0 m (pc + 3) ls (rest))) : W p l e R s m args below meth c H locs cells slots Q (F0 m pc ls (.int a2 :: .int a1 :: .ref β :: rest)) :=
  xcallV C (As := [.int a1, .int a2]) (rest := rest) (nA := 2) (ci := 9) (kX9_lays h) (tg 1254 (by decide +kernel) rfl) (tg 1256 (by decide +kernel) rfl) (sg (List.mem_of_getElem? (i := 77) (by decide +kernel)) rfl) (tg 14 (by decide +kernel) rfl) (tg 1257 (by decide +kernel) rfl) ⟨rfl, by decide +kernel, by decide +kernel, by decide +kernel⟩ rfl rfl rfl ⟨hR, hR2⟩ (hw.2 0 (by decide)) hw hS (fun _ q => q) rfl rfl hsz hW hd hcs (fun H1 locs1 hw hz hk hS => kk H1 locs1 hw hS)
theorem sX9_235 {p : Program} {l : Launch} {e : Env} {R : Room} {s : State} {m : MethodId} {args : Array Value} {below : List Frame} {meth : Method} {c : Code} {H : Heap} {locs : List Loc} {cells slots : Nat} {Q : State → Prop} {cc : ByteArray} {pc nL : Nat} {ls : Array Slot} {rest : List Value} {ret : Option FieldType} {G : xG} {β N : Nat} {x x' : MS} {a1 : Int32} {a2 : Int32} {r : Int64} (C : Cx p s m args meth c RX9 cc nL ret (KK G)) (h : fX9_sixtieths x a1 a2 = some (r, x')) (hw : MW β G N x H) (hS : va_S (AM β) s.heap H locs) (hsz : ls.size = nL) (hW : (rest.map fun v => v.category).sum ≤ 8) (hR : 5 ≤ R.frames) (hR2 : 122 ≤ R.locals) (hcs : cells ≤ R.cells ∧ slots ≤ R.slots) (hd : decode cc pc = .ok (.invokevirtual 235, 3)) (kk : ∀ (H1 : Heap) (locs1 : List Loc), MW β G N x' H1 → va_S (AM β) s.heap H1 locs1 → W p l e R s m args below meth c H1 locs1 cells slots Q (F0 m (pc + 3) ls (.long r :: rest))) : W p l e R s m args below meth c H locs cells slots Q (F0 m pc ls (.int a2 :: .int a1 :: .ref β :: rest)) :=
  xcallV C (As := [.int a1, .int a2]) (rest := rest) (nA := 2) (ci := 9) (kX9_sixtieths h) (tg 1262 (by decide +kernel) rfl) (tg 1264 (by decide +kernel) rfl) (sg (List.mem_of_getElem? (i := 79) (by decide +kernel)) rfl) (tg 14 (by decide +kernel) rfl) (tg 1265 (by decide +kernel) rfl) ⟨rfl, by decide +kernel, by decide +kernel, by decide +kernel⟩ rfl rfl rfl ⟨hR, hR2⟩ (hw.2 0 (by decide)) hw hS (fun _ q => q) rfl rfl hsz hW hd hcs (fun H1 locs1 hw hz hk hS => kk H1 locs1 hw hS)
theorem sX9_239 {p : Program} {l : Launch} {e : Env} {R : Room} {s : State} {m : MethodId} {args : Array Value} {below : List Frame} {meth : Method} {c : Code} {H : Heap} {locs : List Loc} {cells slots : Nat} {Q : State → Prop} {cc : ByteArray} {pc nL : Nat} {ls : Array Slot} {rest : List Value} {ret : Option FieldType} {G : xG} {β N : Nat} {x : MS} {a1 : Int32} {r : Int64} (C : Cx p s m args meth c RX9 cc nL ret (KK G)) (h : fX9_cases x a1 = some r) (hw : MW β G N x H) (hS : va_S (AM β) s.heap H locs) (hsz : ls.size = nL) (hW : (rest.map fun v => v.category).sum ≤ 8) (hR : 2 ≤ R.frames) (hR2 : 46 ≤ R.locals) (hcs : cells ≤ R.cells ∧ slots ≤ R.slots) (hd : decode cc pc = .ok (.invokevirtual 239, 3)) (kk : ∀ (H1 : Heap) (locs1 : List Loc), MW β G N x H1 → va_S (AM β) s.heap H1 locs1 → W p l e R s m args below meth c H1 locs1 cells slots Q (F0 m (pc + 3) ls (.long r :: rest))) : W p l e R s m args below meth c H locs cells slots Q (F0 m pc ls (.int a1 :: .ref β :: rest)) :=
  xcallV C (As := [.int a1]) (rest := rest) (nA := 1) (ci := 9) (kX9_cases h) (tg 1282 (by decide +kernel) rfl) (tg 1284 (by decide +kernel) rfl) (sg (List.mem_of_getElem? (i := 84) (by decide +kernel)) rfl) (tg 14 (by decide +kernel) rfl) (tg 1285 (by decide +kernel) rfl) ⟨rfl, by decide +kernel, by decide +kernel, by decide +kernel⟩ rfl rfl rfl ⟨hR, hR2⟩ (hw.2 0 (by decide)) hw hS (fun _ q => q) rfl rfl hsz hW hd hcs (fun H1 locs1 hw hz hk hS => kk H1 locs1 hw hS)
theorem sX9_243 {p : Program} {l : Launch} {e : Env} {R : Room} {s : State} {m : MethodId} {args : Array Value} {below : List Frame} {meth : Method} {c : Code} {H : Heap} {locs : List Loc} {cells slots : Nat} {Q : State → Prop} {cc : ByteArray} {pc nL : Nat} {ls : Array Slot} {rest : List Value} {ret : Option FieldType} {G : xG} {β N : Nat} {x : MS} {a1 : Int64} {a2 : Int64} {a3 : Int32} {r : Int64} (C : Cx p s m args meth c RX9 cc nL ret (KK G)) (h : fX9_lowest a1 a2 a3 = some r) (hw : MW β G N x H) (hS : va_S (AM β) s.heap H locs) (hsz : ls.size = nL) (hW : (rest.map fun v => v.category).sum ≤ 8) (hR : 2 ≤ R.frames) (hR2 : 53 ≤ R.locals) (hcs : cells ≤ R.cells ∧ slots ≤ R.slots) (hd : decode cc pc = .ok (.invokestatic 243, 3)) (kk : ∀ (H1 : Heap) (locs1 : List Loc), MW β G N x H1 → va_S (AM β) s.heap H1 locs1 → W p l e R s m args below meth c H1 locs1 cells slots Q (F0 m (pc + 3) ls (.long r :: rest))) : W p l e R s m args below meth c H locs cells slots Q (F0 m pc ls (.int a3 :: .long a2 :: .long a1 :: rest)) :=
  xcallS C (As := [.long a1, .long a2, .int a3]) (rest := rest) (nA := 3) (kX9_lowest h) (tg 1286 (by decide +kernel) rfl) (tg 1287 (by decide +kernel) rfl) (tg 14 (by decide +kernel) rfl) (tg 1288 (by decide +kernel) rfl) ⟨by decide +kernel, by decide +kernel, by decide +kernel⟩ rfl rfl ⟨hR, hR2⟩ hw hS (fun _ q => q) rfl rfl hsz hW hd hcs (fun H1 locs1 hw hz hk hS => kk H1 locs1 hw hS)
def fX9_wins (x : MS) (a1 : Int32) (a2 : Int32) (a3 : Int32) (a4 : Int32) : Option (Int64 × MS) := Option.bind (fX9_isField x a1) fun v1 => if v1 = true then Option.bind (fX9_isWhen a2) fun v3 => if v3 = true then Option.bind (fX9_isOf x a1 a3) fun v5 => if v5 = true then Option.bind (fX9_isPart a4) fun v7 => if v7 = true then Option.bind (fX9_lays x a1 a2) fun x9 => bind2 (fX9_sixtieths x9 a1 a3) fun v11 x12 => Option.bind (fX9_cases x12 a1) fun v14 => Option.bind (fX9_lowest v11 (60 * v14) a4) fun v16 => some (v16, x12) else some ((-4611686018427387904), x) else some ((-4611686018427387904), x) else some ((-4611686018427387904), x) else some ((-4611686018427387904), x)
abbrev rmX9_wins : Room := { frames := 5, cells := 0, slots := 0, locals := 122 }
set_option maxHeartbeats 4000000 in
set_option maxRecDepth 100000 in
theorem kX9_wins {l : Launch} {G : xG} {β N : Nat} {x x' : MS} {a1 : Int32} {a2 : Int32} {a3 : Int32} {a4 : Int32} {r : Int64} (hm : fX9_wins x a1 a2 a3 a4 = some (r, x')) : Met l yX9_wins (.code yX9_wins cX9_wins 5 (some .long) :: GT) rmX9_wins (PcW [.ref β, .int a1, .int a2, .int a3, .int a4] (MW β G N x) (KK G)) (QcW (AM β) (some (.long r)) (MW β G N x')) 0 0 (AM β) := by
  unfold fX9_wins at hm
  refine xpro (own := RX9) (by decide +kernel) rfl (Nat.le_of_ble_eq_true rfl) ?_
  intro p e s m args below meth c C hw ls hl
  have hx := C.1
  have hb := C.2.1
  have ho := C.2.2.2.1
  have hts := C.2.2.2.2.1
  have hS : va_S (AM β) s.heap s.heap [] := va_S.rf
  have hl : lv_has ls 5 [(0, .ref β), (1, .int a1), (2, .int a2), (3, .int a3), (4, .int a4)] := hl
  have hRf : 5 ≤ rmX9_wins.frames := Nat.le_refl _
  have hRl : 122 ≤ rmX9_wins.locals := Nat.le_refl _
  have hcs : 0 ≤ rmX9_wins.cells ∧ 0 ≤ rmX9_wins.slots := ⟨Nat.le_refl _, Nat.le_refl _⟩
  refine lv_aload_n hx hb dX9_wins_0 rfl (lv_at hl 0 rfl) ?_
  refine lv_iload_n hx hb dX9_wins_1 rfl (lv_at hl 1 rfl) ?_
  obtain ⟨v1, h2, hm⟩ := bind_e hm
  refine sX9_222 C h2 hw hS hl.1 (Nat.le_of_ble_eq_true rfl) (Nat.le_trans (Nat.le_of_ble_eq_true rfl) hRf) (Nat.le_trans (Nat.le_of_ble_eq_true rfl) hRl) hcs dX9_wins_2 (fun H locs hw hS => ?_)
  refine x_ifeqB hx hb dX9_wins_5 (tgt := 32) (by decide) (fun cc => ?_) (fun cc => ?_)
  · replace hm := ite_n cc hm
    refine lv_ldc2 (v := (-4611686018427387904)) hx hb ho (hts (.constantLong RX9 167 (-4611686018427387904)) (tg 1130 (by decide +kernel) rfl)) dX9_wins_32 ?_
    obtain ⟨rfl, rfl⟩ := inj2 hm
    exact xret_l C hw hS dX9_wins_35
  · replace hm := ite_p cc hm
    refine lv_iload_n hx hb dX9_wins_8 rfl (lv_at hl 2 rfl) ?_
    obtain ⟨v3, h4, hm⟩ := bind_e hm
    refine sX9_225 C h4 hw hS hl.1 (Nat.le_of_ble_eq_true rfl) (Nat.le_trans (Nat.le_of_ble_eq_true rfl) hRf) (Nat.le_trans (Nat.le_of_ble_eq_true rfl) hRl) hcs dX9_wins_9 (fun H locs hw hS => ?_)
    refine x_ifeqB hx hb dX9_wins_12 (tgt := 32) (by decide) (fun cc => ?_) (fun cc => ?_)
    · replace hm := ite_n cc hm
      refine lv_ldc2 (v := (-4611686018427387904)) hx hb ho (hts (.constantLong RX9 167 (-4611686018427387904)) (tg 1130 (by decide +kernel) rfl)) dX9_wins_32 ?_
      obtain ⟨rfl, rfl⟩ := inj2 hm
      exact xret_l C hw hS dX9_wins_35
    · replace hm := ite_p cc hm
      refine lv_aload_n hx hb dX9_wins_15 rfl (lv_at hl 0 rfl) ?_
      refine lv_iload_n hx hb dX9_wins_16 rfl (lv_at hl 1 rfl) ?_
      refine lv_iload_n hx hb dX9_wins_17 rfl (lv_at hl 3 rfl) ?_
      obtain ⟨v5, h6, hm⟩ := bind_e hm
      refine sX9_196 C h6 hw hS hl.1 (Nat.le_of_ble_eq_true rfl) (Nat.le_trans (Nat.le_of_ble_eq_true rfl) hRf) (Nat.le_trans (Nat.le_of_ble_eq_true rfl) hRl) hcs dX9_wins_18 (fun H locs hw hS => ?_)
      refine x_ifeqB hx hb dX9_wins_21 (tgt := 32) (by decide) (fun cc => ?_) (fun cc => ?_)
      · replace hm := ite_n cc hm
        refine lv_ldc2 (v := (-4611686018427387904)) hx hb ho (hts (.constantLong RX9 167 (-4611686018427387904)) (tg 1130 (by decide +kernel) rfl)) dX9_wins_32 ?_
        obtain ⟨rfl, rfl⟩ := inj2 hm
        exact xret_l C hw hS dX9_wins_35
      · replace hm := ite_p cc hm
        refine lv_iload hx hb dX9_wins_24 (lv_at hl 4 rfl) ?_
        obtain ⟨v7, h8, hm⟩ := bind_e hm
        refine sX9_228 C h8 hw hS hl.1 (Nat.le_of_ble_eq_true rfl) (Nat.le_trans (Nat.le_of_ble_eq_true rfl) hRf) (Nat.le_trans (Nat.le_of_ble_eq_true rfl) hRl) hcs dX9_wins_26 (fun H locs hw hS => ?_)
        refine x_ifneB hx hb dX9_wins_29 (tgt := 36) (by decide) (fun cc => ?_) (fun cc => ?_)
        · replace hm := ite_p cc hm
          refine lv_aload_n hx hb dX9_wins_36 rfl (lv_at hl 0 rfl) ?_
          refine lv_iload_n hx hb dX9_wins_37 rfl (lv_at hl 1 rfl) ?_
          refine lv_iload_n hx hb dX9_wins_38 rfl (lv_at hl 2 rfl) ?_
          obtain ⟨x9, h10, hm⟩ := bind_e hm
          refine sX9_231 C h10 hw hS hl.1 (Nat.le_of_ble_eq_true rfl) (Nat.le_trans (Nat.le_of_ble_eq_true rfl) hRf) (Nat.le_trans (Nat.le_of_ble_eq_true rfl) hRl) hcs dX9_wins_39 (fun H locs hw hS => ?_)
          refine lv_aload_n hx hb dX9_wins_42 rfl (lv_at hl 0 rfl) ?_
          refine lv_iload_n hx hb dX9_wins_43 rfl (lv_at hl 1 rfl) ?_
          refine lv_iload_n hx hb dX9_wins_44 rfl (lv_at hl 3 rfl) ?_
          obtain ⟨v11, x12, h13, hm⟩ := bind2_e hm
          refine sX9_235 C h13 hw hS hl.1 (Nat.le_of_ble_eq_true rfl) (Nat.le_trans (Nat.le_of_ble_eq_true rfl) hRf) (Nat.le_trans (Nat.le_of_ble_eq_true rfl) hRl) hcs dX9_wins_45 (fun H locs hw hS => ?_)
          refine lv_ldc2 (v := 60) hx hb ho (hts (.constantLong RX9 154 60) (tg 1111 (by decide +kernel) rfl)) dX9_wins_48 ?_
          refine lv_aload_n hx hb dX9_wins_51 rfl (lv_at hl 0 rfl) ?_
          refine lv_iload_n hx hb dX9_wins_52 rfl (lv_at hl 1 rfl) ?_
          obtain ⟨v14, h15, hm⟩ := bind_e hm
          refine sX9_239 C h15 hw hS hl.1 (Nat.le_of_ble_eq_true rfl) (Nat.le_trans (Nat.le_of_ble_eq_true rfl) hRf) (Nat.le_trans (Nat.le_of_ble_eq_true rfl) hRl) hcs dX9_wins_53 (fun H locs hw hS => ?_)
          refine lv_lmul hx hb dX9_wins_56 ?_
          refine lv_iload hx hb dX9_wins_57 (lv_at hl 4 rfl) ?_
          obtain ⟨v16, h17, hm⟩ := bind_e hm
          refine sX9_243 C h17 hw hS hl.1 (Nat.le_of_ble_eq_true rfl) (Nat.le_trans (Nat.le_of_ble_eq_true rfl) hRf) (Nat.le_trans (Nat.le_of_ble_eq_true rfl) hRl) hcs dX9_wins_59 (fun H locs hw hS => ?_)
          obtain ⟨rfl, rfl⟩ := inj2 hm
          exact xret_l C hw hS dX9_wins_62
        · replace hm := ite_n cc hm
          refine lv_ldc2 (v := (-4611686018427387904)) hx hb ho (hts (.constantLong RX9 167 (-4611686018427387904)) (tg 1130 (by decide +kernel) rfl)) dX9_wins_32 ?_
          obtain ⟨rfl, rfl⟩ := inj2 hm
          exact xret_l C hw hS dX9_wins_35
theorem dX9_reads_0 : decode cX9_reads 0 = .ok (.aload_n 0, 1) := by decide +kernel
theorem dX9_reads_1 : decode cX9_reads 1 = .ok (.iconst 0, 1) := by decide +kernel
theorem dX9_reads_2 : decode cX9_reads 2 = .ok (.putfield 247, 3) := by decide +kernel
theorem dX9_reads_5 : decode cX9_reads 5 = .ok (.iload_n 1, 1) := by decide +kernel
theorem dX9_reads_6 : decode cX9_reads 6 = .ok (.istore_n 2, 1) := by decide +kernel
theorem dX9_reads_7 : decode cX9_reads 7 = .ok (.iload_n 2, 1) := by decide +kernel
theorem dX9_reads_8 : decode cX9_reads 8 = .ok (.bipush 9, 2) := by decide +kernel
theorem dX9_reads_10 : decode cX9_reads 10 = .ok (.if_icmp .le 44, 3) := by decide +kernel
theorem dX9_reads_13 : decode cX9_reads 13 = .ok (.aload_n 0, 1) := by decide +kernel
theorem dX9_reads_14 : decode cX9_reads 14 = .ok (.getfield 247, 3) := by decide +kernel
theorem dX9_reads_17 : decode cX9_reads 17 = .ok (.iconst 5, 1) := by decide +kernel
theorem dX9_reads_18 : decode cX9_reads 18 = .ok (.if_icmp .ne 5, 3) := by decide +kernel
theorem dX9_reads_21 : decode cX9_reads 21 = .ok (.iconst 0, 1) := by decide +kernel
theorem dX9_reads_22 : decode cX9_reads 22 = .ok (.ireturn, 1) := by decide +kernel
theorem dX9_reads_23 : decode cX9_reads 23 = .ok (.aload_n 0, 1) := by decide +kernel
theorem dX9_reads_24 : decode cX9_reads 24 = .ok (.getfield 51, 3) := by decide +kernel
theorem dX9_reads_27 : decode cX9_reads 27 = .ok (.aload_n 0, 1) := by decide +kernel
theorem dX9_reads_28 : decode cX9_reads 28 = .ok (.getfield 247, 3) := by decide +kernel
theorem dX9_reads_31 : decode cX9_reads 31 = .ok (.iload_n 2, 1) := by decide +kernel
theorem dX9_reads_32 : decode cX9_reads 32 = .ok (.bipush 10, 2) := by decide +kernel
theorem dX9_reads_34 : decode cX9_reads 34 = .ok (.irem, 1) := by decide +kernel
theorem dX9_reads_35 : decode cX9_reads 35 = .ok (.iastore, 1) := by decide +kernel
theorem dX9_reads_36 : decode cX9_reads 36 = .ok (.aload_n 0, 1) := by decide +kernel
theorem dX9_reads_37 : decode cX9_reads 37 = .ok (.dup, 1) := by decide +kernel
theorem dX9_reads_38 : decode cX9_reads 38 = .ok (.getfield 247, 3) := by decide +kernel
theorem dX9_reads_41 : decode cX9_reads 41 = .ok (.iconst 1, 1) := by decide +kernel
theorem dX9_reads_42 : decode cX9_reads 42 = .ok (.iadd, 1) := by decide +kernel
theorem dX9_reads_43 : decode cX9_reads 43 = .ok (.putfield 247, 3) := by decide +kernel
theorem dX9_reads_46 : decode cX9_reads 46 = .ok (.iload_n 2, 1) := by decide +kernel
theorem dX9_reads_47 : decode cX9_reads 47 = .ok (.bipush 10, 2) := by decide +kernel
theorem dX9_reads_49 : decode cX9_reads 49 = .ok (.idiv, 1) := by decide +kernel
theorem dX9_reads_50 : decode cX9_reads 50 = .ok (.istore_n 2, 1) := by decide +kernel
theorem dX9_reads_51 : decode cX9_reads 51 = .ok (.goto (-44), 3) := by decide +kernel
theorem dX9_reads_54 : decode cX9_reads 54 = .ok (.iload_n 2, 1) := by decide +kernel
theorem dX9_reads_55 : decode cX9_reads 55 = .ok (.iconst 1, 1) := by decide +kernel
theorem dX9_reads_56 : decode cX9_reads 56 = .ok (.if_icmp .eq 5, 3) := by decide +kernel
theorem dX9_reads_59 : decode cX9_reads 59 = .ok (.iconst 0, 1) := by decide +kernel
theorem dX9_reads_60 : decode cX9_reads 60 = .ok (.ireturn, 1) := by decide +kernel
theorem dX9_reads_61 : decode cX9_reads 61 = .ok (.iconst 0, 1) := by decide +kernel
theorem dX9_reads_62 : decode cX9_reads 62 = .ok (.istore_n 3, 1) := by decide +kernel
theorem dX9_reads_63 : decode cX9_reads 63 = .ok (.iconst 0, 1) := by decide +kernel
theorem dX9_reads_64 : decode cX9_reads 64 = .ok (.istore 4, 2) := by decide +kernel
theorem dX9_reads_66 : decode cX9_reads 66 = .ok (.iload 4, 2) := by decide +kernel
theorem dX9_reads_68 : decode cX9_reads 68 = .ok (.aload_n 0, 1) := by decide +kernel
theorem dX9_reads_69 : decode cX9_reads 69 = .ok (.getfield 247, 3) := by decide +kernel
theorem dX9_reads_72 : decode cX9_reads 72 = .ok (.if_icmp .ge 52, 3) := by decide +kernel
theorem dX9_reads_75 : decode cX9_reads 75 = .ok (.aload_n 0, 1) := by decide +kernel
theorem dX9_reads_76 : decode cX9_reads 76 = .ok (.aload_n 0, 1) := by decide +kernel
theorem dX9_reads_77 : decode cX9_reads 77 = .ok (.getfield 51, 3) := by decide +kernel
theorem dX9_reads_80 : decode cX9_reads 80 = .ok (.iload 4, 2) := by decide +kernel
theorem dX9_reads_82 : decode cX9_reads 82 = .ok (.iaload, 1) := by decide +kernel
theorem dX9_reads_83 : decode cX9_reads 83 = .ok (.invokevirtual 146, 3) := by decide +kernel
theorem dX9_reads_86 : decode cX9_reads 86 = .ok (.ifCond .eq 18, 3) := by decide +kernel
theorem dX9_reads_89 : decode cX9_reads 89 = .ok (.iload_n 3, 1) := by decide +kernel
theorem dX9_reads_90 : decode cX9_reads 90 = .ok (.aload_n 0, 1) := by decide +kernel
theorem dX9_reads_91 : decode cX9_reads 91 = .ok (.getfield 51, 3) := by decide +kernel
theorem dX9_reads_94 : decode cX9_reads 94 = .ok (.iload 4, 2) := by decide +kernel
theorem dX9_reads_96 : decode cX9_reads 96 = .ok (.iaload, 1) := by decide +kernel
theorem dX9_reads_97 : decode cX9_reads 97 = .ok (.ishr, 1) := by decide +kernel
theorem dX9_reads_98 : decode cX9_reads 98 = .ok (.iconst 1, 1) := by decide +kernel
theorem dX9_reads_99 : decode cX9_reads 99 = .ok (.iand, 1) := by decide +kernel
theorem dX9_reads_100 : decode cX9_reads 100 = .ok (.iconst 1, 1) := by decide +kernel
theorem dX9_reads_101 : decode cX9_reads 101 = .ok (.if_icmp .ne 5, 3) := by decide +kernel
theorem dX9_reads_104 : decode cX9_reads 104 = .ok (.iconst 0, 1) := by decide +kernel
theorem dX9_reads_105 : decode cX9_reads 105 = .ok (.ireturn, 1) := by decide +kernel
theorem dX9_reads_106 : decode cX9_reads 106 = .ok (.iload_n 3, 1) := by decide +kernel
theorem dX9_reads_107 : decode cX9_reads 107 = .ok (.iconst 1, 1) := by decide +kernel
theorem dX9_reads_108 : decode cX9_reads 108 = .ok (.aload_n 0, 1) := by decide +kernel
theorem dX9_reads_109 : decode cX9_reads 109 = .ok (.getfield 51, 3) := by decide +kernel
theorem dX9_reads_112 : decode cX9_reads 112 = .ok (.iload 4, 2) := by decide +kernel
theorem dX9_reads_114 : decode cX9_reads 114 = .ok (.iaload, 1) := by decide +kernel
theorem dX9_reads_115 : decode cX9_reads 115 = .ok (.ishl, 1) := by decide +kernel
theorem dX9_reads_116 : decode cX9_reads 116 = .ok (.ior, 1) := by decide +kernel
theorem dX9_reads_117 : decode cX9_reads 117 = .ok (.istore_n 3, 1) := by decide +kernel
theorem dX9_reads_118 : decode cX9_reads 118 = .ok (.iinc 4 1, 3) := by decide +kernel
theorem dX9_reads_121 : decode cX9_reads 121 = .ok (.goto (-55), 3) := by decide +kernel
theorem dX9_reads_124 : decode cX9_reads 124 = .ok (.iconst 0, 1) := by decide +kernel
theorem dX9_reads_125 : decode cX9_reads 125 = .ok (.istore 4, 2) := by decide +kernel
theorem dX9_reads_127 : decode cX9_reads 127 = .ok (.iload 4, 2) := by decide +kernel
theorem dX9_reads_129 : decode cX9_reads 129 = .ok (.aload_n 0, 1) := by decide +kernel
theorem dX9_reads_130 : decode cX9_reads 130 = .ok (.getfield 247, 3) := by decide +kernel
theorem dX9_reads_133 : decode cX9_reads 133 = .ok (.iconst 2, 1) := by decide +kernel
theorem dX9_reads_134 : decode cX9_reads 134 = .ok (.idiv, 1) := by decide +kernel
theorem dX9_reads_135 : decode cX9_reads 135 = .ok (.if_icmp .ge 55, 3) := by decide +kernel
theorem dX9_reads_138 : decode cX9_reads 138 = .ok (.aload_n 0, 1) := by decide +kernel
theorem dX9_reads_139 : decode cX9_reads 139 = .ok (.getfield 51, 3) := by decide +kernel
theorem dX9_reads_142 : decode cX9_reads 142 = .ok (.iload 4, 2) := by decide +kernel
theorem dX9_reads_144 : decode cX9_reads 144 = .ok (.iaload, 1) := by decide +kernel
theorem dX9_reads_145 : decode cX9_reads 145 = .ok (.istore 5, 2) := by decide +kernel
theorem dX9_reads_147 : decode cX9_reads 147 = .ok (.aload_n 0, 1) := by decide +kernel
theorem dX9_reads_148 : decode cX9_reads 148 = .ok (.getfield 51, 3) := by decide +kernel
theorem dX9_reads_151 : decode cX9_reads 151 = .ok (.iload 4, 2) := by decide +kernel
theorem dX9_reads_153 : decode cX9_reads 153 = .ok (.aload_n 0, 1) := by decide +kernel
theorem dX9_reads_154 : decode cX9_reads 154 = .ok (.getfield 51, 3) := by decide +kernel
theorem dX9_reads_157 : decode cX9_reads 157 = .ok (.aload_n 0, 1) := by decide +kernel
theorem dX9_reads_158 : decode cX9_reads 158 = .ok (.getfield 247, 3) := by decide +kernel
theorem dX9_reads_161 : decode cX9_reads 161 = .ok (.iconst 1, 1) := by decide +kernel
theorem dX9_reads_162 : decode cX9_reads 162 = .ok (.isub, 1) := by decide +kernel
theorem dX9_reads_163 : decode cX9_reads 163 = .ok (.iload 4, 2) := by decide +kernel
theorem dX9_reads_165 : decode cX9_reads 165 = .ok (.isub, 1) := by decide +kernel
theorem dX9_reads_166 : decode cX9_reads 166 = .ok (.iaload, 1) := by decide +kernel
theorem dX9_reads_167 : decode cX9_reads 167 = .ok (.iastore, 1) := by decide +kernel
theorem dX9_reads_168 : decode cX9_reads 168 = .ok (.aload_n 0, 1) := by decide +kernel
theorem dX9_reads_169 : decode cX9_reads 169 = .ok (.getfield 51, 3) := by decide +kernel
theorem dX9_reads_172 : decode cX9_reads 172 = .ok (.aload_n 0, 1) := by decide +kernel
theorem dX9_reads_173 : decode cX9_reads 173 = .ok (.getfield 247, 3) := by decide +kernel
theorem dX9_reads_176 : decode cX9_reads 176 = .ok (.iconst 1, 1) := by decide +kernel
theorem dX9_reads_177 : decode cX9_reads 177 = .ok (.isub, 1) := by decide +kernel
theorem dX9_reads_178 : decode cX9_reads 178 = .ok (.iload 4, 2) := by decide +kernel
theorem dX9_reads_180 : decode cX9_reads 180 = .ok (.isub, 1) := by decide +kernel
theorem dX9_reads_181 : decode cX9_reads 181 = .ok (.iload 5, 2) := by decide +kernel
theorem dX9_reads_183 : decode cX9_reads 183 = .ok (.iastore, 1) := by decide +kernel
theorem dX9_reads_184 : decode cX9_reads 184 = .ok (.iinc 4 1, 3) := by decide +kernel
theorem dX9_reads_187 : decode cX9_reads 187 = .ok (.goto (-60), 3) := by decide +kernel
theorem dX9_reads_190 : decode cX9_reads 190 = .ok (.iconst 1, 1) := by decide +kernel
theorem dX9_reads_191 : decode cX9_reads 191 = .ok (.ireturn, 1) := by decide +kernel
theorem pX9_247 {p : Program} {l : Launch} {e : Env} {R : Room} {s : State} {m : MethodId} {args : Array Value} {below : List Frame} {meth : Method} {c : Code} {H : Heap} {locs : List Loc} {cells slots : Nat} {Q : State → Prop} {cc : ByteArray} {pc nL : Nat} {ls : Array Slot} {rest : List Value} {ret : Option FieldType} {G : xG} {β N : Nat} {x : MS} {v : Int32} (C : Cx p s m args meth c RX9 cc nL ret (KK G)) (hw : MW β G N x H) (hS : va_S (AM β) s.heap H locs) (hd : decode cc pc = .ok (.putfield 247, 3)) (kk : ∀ (H1 : Heap) (locs1 : List Loc), MW β G N (msS x 0 19 v) H1 → va_S (AM β) s.heap H1 locs1 → W p l e R s m args below meth c H1 locs1 cells slots Q (F0 m (pc + 3) ls (rest))) : W p l e R s m args below meth c H locs cells slots Q (F0 m pc ls (.int v :: .ref β :: rest)) :=
  x_put C.1 C.2.1 C.2.2.2.2.1 iwX9 tyX9 tyX9_ok nmX9 C.2.2.2.1 C.K.1 hS (hw.2 0 (by decide)) (AM.in (by decide)) rfl 19 (by decide) (C.2.2.2.2.1 (.fieldLink RX9 247 RX9 "listed" "I") (tg 935 (by decide +kernel) rfl)) (fun _ h9 => h9) rfl (ty := .int) (by decide +kernel) rfl rfl (Nat.le_of_ble_eq_true rfl) hd (fun H1 locs1 hat ho hS => kk H1 locs1 (hw.setS 0 19 v hat ho) hS)
theorem gX9_247 {p : Program} {l : Launch} {e : Env} {R : Room} {s : State} {m : MethodId} {args : Array Value} {below : List Frame} {meth : Method} {c : Code} {H : Heap} {locs : List Loc} {cells slots : Nat} {Q : State → Prop} {cc : ByteArray} {pc nL : Nat} {ls : Array Slot} {rest : List Value} {ret : Option FieldType} {G : xG} {β N : Nat} {x : MS} (C : Cx p s m args meth c RX9 cc nL ret (KK G)) (hw : MW β G N x H) (hd : decode cc pc = .ok (.getfield 247, 3)) (kk : W p l e R s m args below meth c H locs cells slots Q (F0 m (pc + 3) ls (.int (x.1 0 19) :: rest))) : W p l e R s m args below meth c H locs cells slots Q (F0 m pc ls (.ref β :: rest)) :=
  va_get C.1 C.2.1 C.2.2.2.2.1 iwX9 C.2.2.2.1 C.K.1 (xP1 (hw.2 0 (by decide))) 0 rfl rfl 19 (by decide) (C.2.2.2.2.1 (.fieldLink RX9 247 RX9 "listed" "I") (tg 935 (by decide +kernel) rfl)) (fun _ h9 => h9) rfl hd kk
theorem gX9_51 {p : Program} {l : Launch} {e : Env} {R : Room} {s : State} {m : MethodId} {args : Array Value} {below : List Frame} {meth : Method} {c : Code} {H : Heap} {locs : List Loc} {cells slots : Nat} {Q : State → Prop} {cc : ByteArray} {pc nL : Nat} {ls : Array Slot} {rest : List Value} {ret : Option FieldType} {G : xG} {β N : Nat} {x : MS} (C : Cx p s m args meth c RX9 cc nL ret (KK G)) (hw : MW β G N x H) (hd : decode cc pc = .ok (.getfield 51, 3)) (kk : W p l e R s m args below meth c H locs cells slots Q (F0 m (pc + 3) ls (.ref (β + 13) :: rest))) : W p l e R s m args below meth c H locs cells slots Q (F0 m pc ls (.ref β :: rest)) :=
  va_get C.1 C.2.1 C.2.2.2.2.1 iwX9 C.2.2.2.1 C.K.1 (xP1 (hw.2 0 (by decide))) 0 rfl rfl 18 (by decide) (C.2.2.2.2.1 (.fieldLink RX9 51 RX9 "list" "[I") (tg 934 (by decide +kernel) rfl)) (fun _ h9 => h9) rfl hd kk
theorem asM_13 {p : Program} {l : Launch} {e : Env} {R : Room} {s : State} {m : MethodId} {args : Array Value} {below : List Frame} {meth : Method} {c : Code} {H : Heap} {locs : List Loc} {cells slots : Nat} {Q : State → Prop} {cc : ByteArray} {pc nL : Nat} {ls : Array Slot} {rest : List Value} {ret : Option FieldType} {G : xG} {β N : Nat} {x : MS} {own : String} {i : Int32} {v : Int32} (C : Cx p s m args meth c own cc nL ret (KK G)) (hw : MW β G N x H) (hS : va_S (AM β) s.heap H locs) (hin : ib i 5) (hd : decode cc pc = .ok (.iastore, 1)) (kk : ∀ (H1 : Heap) (locs1 : List Loc), MW β G N (msA x 13 i.toNatClampNeg v) H1 → va_S (AM β) s.heap H1 locs1 → W p l e R s m args below meth c H1 locs1 cells slots Q (F0 m (pc + 1) ls (rest))) : W p l e R s m args below meth c H locs cells slots Q (F0 m pc ls (.int v :: .int i :: .ref (β + 13) :: rest)) :=
  x_iast C.1 C.2.1 C.K.1 hS 0 (hw.2 13 (by decide)) (AM.in (by decide)) rfl hin hd (fun H1 locs1 hat ho hS => kk H1 locs1 (hw.setA 13 _ _ hat ho) hS)
theorem alM_13 {p : Program} {l : Launch} {e : Env} {R : Room} {s : State} {m : MethodId} {args : Array Value} {below : List Frame} {meth : Method} {c : Code} {H : Heap} {locs : List Loc} {cells slots : Nat} {Q : State → Prop} {cc : ByteArray} {pc nL : Nat} {ls : Array Slot} {rest : List Value} {ret : Option FieldType} {G : xG} {β N : Nat} {x : MS} {own : String} {i : Int32} (C : Cx p s m args meth c own cc nL ret (KK G)) (hw : MW β G N x H) (hin : ib i 5) (hd : decode cc pc = .ok (.iaload, 1)) (kk : W p l e R s m args below meth c H locs cells slots Q (F0 m (pc + 1) ls (.int (x.2.1 13 i.toNatClampNeg) :: rest))) : W p l e R s m args below meth c H locs cells slots Q (F0 m pc ls (.int i :: .ref (β + 13) :: rest)) :=
  va_iald C.1 C.2.1 C.K.1 (xP1 (hw.2 13 (by decide))) 0 0 rfl rfl hin hd kk
def BX9_reads_7 (lp : Int32 → MS → Option ((Bool × MS) ⊕ (Int32 × MS))) (u2 : Int32) (x : MS) : Option ((Bool × MS) ⊕ (Int32 × MS)) := if u2 ≤ 9 then some (.inr (u2, x)) else if (x.1 0 19) = 5 then some (.inl (false, x)) else if ib (x.1 0 19) 5 then lt (msA x 13 (x.1 0 19).toNatClampNeg (irm u2 10)) fun x3 => lt (msS x3 0 19 ((x3.1 0 19) + 1)) fun x4 => lt (u2 / 10) fun v5 => lp v5 x4 else none
def LX9_reads_7 : Nat → Int32 → MS → Option ((Bool × MS) ⊕ (Int32 × MS))
  | 0, _, _ => none
  | n + 1, u2, x => BX9_reads_7 (LX9_reads_7 n) u2 x
def BX9_reads_66 (x : MS) (lp : Int32 → Int32 → Option ((Bool × MS) ⊕ (Unit))) (u3 : Int32) (u4 : Int32) : Option ((Bool × MS) ⊕ (Unit)) := if (x.1 0 19) ≤ u4 then some (.inr ()) else if ib u4 5 then Option.bind (fX9_isHorse x (x.2.1 13 u4.toNatClampNeg)) fun v9 => if v9 = true then if ib u4 5 then if ((u3 >>> ((x.2.1 13 u4.toNatClampNeg) &&& 31)) &&& 1) = 1 then some (.inl (false, x)) else if ib u4 5 then lt (u3 ||| ((1 : Int32) <<< ((x.2.1 13 u4.toNatClampNeg) &&& 31))) fun v13 => lt (u4 + 1) fun v14 => lp v13 v14 else none else none else some (.inl (false, x)) else none
def LX9_reads_66 (x : MS) : Nat → Int32 → Int32 → Option ((Bool × MS) ⊕ (Unit))
  | 0, _, _ => none
  | n + 1, u3, u4 => BX9_reads_66 x (LX9_reads_66 x n) u3 u4
def BX9_reads_127 (lp : Int32 → MS → Option (MS)) (u4 : Int32) (x : MS) : Option (MS) := if ((x.1 0 19) / 2) ≤ u4 then some x else if ib u4 5 then lt (x.2.1 13 u4.toNatClampNeg) fun v16 => if ib (((x.1 0 19) - 1) - u4) 5 then if ib u4 5 then lt (msA x 13 u4.toNatClampNeg (x.2.1 13 (((x.1 0 19) - 1) - u4).toNatClampNeg)) fun x19 => if ib (((x19.1 0 19) - 1) - u4) 5 then lt (msA x19 13 (((x19.1 0 19) - 1) - u4).toNatClampNeg v16) fun x21 => lt (u4 + 1) fun v22 => lp v22 x21 else none else none else none else none
def LX9_reads_127 : Nat → Int32 → MS → Option (MS)
  | 0, _, _ => none
  | n + 1, u4, x => BX9_reads_127 (LX9_reads_127 n) u4 x
def fX9_reads (x : MS) (a1 : Int32) : Option (Bool × MS) := lt (msS x 0 19 0) fun x1 => bs (LX9_reads_7 NF a1 x1) (fun a => some a) (fun b => bind2 (some b) fun v6 x7 => if v6 = 1 then bs (LX9_reads_66 x7 NF 0 0) (fun a => some a) (fun _ => Option.bind (LX9_reads_127 NF 0 x7) fun x23 => some (true, x23)) else some (false, x7))
set_option maxHeartbeats 4000000 in
set_option maxRecDepth 100000 in
theorem lX9_reads_7 {p : Program} {l : Launch} {e : Env} {R : Room} {s : State} {m : MethodId} {args : Array Value} {below : List Frame} {meth : Method} {c : Code} {cells slots : Nat} {Q : State → Prop} {G : xG} {β N : Nat} (C : Cx p s m args meth c RX9 cX9_reads 6 (some .boolean) (KK G)) (hRf : 2 ≤ R.frames) (hRl : 46 ≤ R.locals) (hcs : cells ≤ R.cells ∧ slots ≤ R.slots) : ∀ (n : Nat) (u2 : Int32) (x : MS) (J : (Bool × MS) ⊕ (Int32 × MS)) (H : Heap) (locs : List Loc) (ls : Array Slot), LX9_reads_7 n u2 x = some J → MW β G N x H → va_S (AM β) s.heap H locs → lv_has ls 6 [(0, .ref β), (2, .int u2)] → (∀ (w2 : Int32) (x1 : MS), J = .inr (w2, x1) → ∀ (H : Heap) (locs : List Loc) (ls : Array Slot), MW β G N x1 H → va_S (AM β) s.heap H locs → lv_has ls 6 [(0, .ref β), (2, .int w2)] → W p l e R s m args below meth c H locs cells slots Q (F0 m 54 ls [])) → (∀ (rv : Bool) (x1 : MS), J = .inl (rv, x1) → ∀ (H : Heap) (locs : List Loc) (ls : Array Slot), MW β G N x1 H → va_S (AM β) s.heap H locs → W p l e R s m args below meth c H locs cells slots Q (F0 m 22 ls [.int (bI rv)])) → W p l e R s m args below meth c H locs cells slots Q (F0 m 7 ls []) := by
  have hx := C.1
  have hb := C.2.1
  have ho := C.2.2.2.1
  have hts := C.2.2.2.2.1
  intro n
  induction n with
  | zero =>
    intro u2 x J H locs ls hm
    exact absurd hm (by simp [LX9_reads_7])
  | succ n ih =>
    intro u2 x J H locs ls hm hw hS hl ke kr22
    replace hm : BX9_reads_7 (LX9_reads_7 n) u2 x = some J := hm
    unfold BX9_reads_7 at hm
    refine lv_iload_n hx hb dX9_reads_7 rfl (lv_at hl 1 rfl) ?_
    refine lv_bipush (v := 9) hx hb dX9_reads_8 (by decide) ?_
    refine lv_icmp_le (tgt := 54) hx hb dX9_reads_10 (by decide) (fun cc => ?_) (fun cc => ?_)
    · replace hm := ite_p cc hm
      exact ke _ _ (Option.some.inj hm).symm _ _ _ hw hS (lv_sub hl [0, 1] rfl)
    · replace hm := ite_n cc hm
      refine lv_aload_n hx hb dX9_reads_13 rfl (lv_at hl 0 rfl) ?_
      refine gX9_247 C hw dX9_reads_14 ?_
      refine lv_iconst (v := 5) hx hb dX9_reads_17 (by decide) ?_
      refine lv_icmp_ne (tgt := 23) hx hb dX9_reads_18 (by decide) (fun cc => ?_) (fun cc => ?_)
      · replace hm := ite_n cc hm
        refine lv_aload_n hx hb dX9_reads_23 rfl (lv_at hl 0 rfl) ?_
        refine gX9_51 C hw dX9_reads_24 ?_
        refine lv_aload_n hx hb dX9_reads_27 rfl (lv_at hl 0 rfl) ?_
        refine gX9_247 C hw dX9_reads_28 ?_
        refine lv_iload_n hx hb dX9_reads_31 rfl (lv_at hl 1 rfl) ?_
        refine lv_bipush (v := 10) hx hb dX9_reads_32 (by decide) ?_
        refine lv_irem hx hb dX9_reads_34 (by decide) ?_
        obtain ⟨h2, hm⟩ := chk_e hm
        refine asM_13 C hw hS h2 dX9_reads_35 (fun H locs hw hS => ?_)
        obtain ⟨x3, ev, hm⟩ := lt_e hm
        rw [← ev] at hw
        clear ev
        refine lv_aload_n hx hb dX9_reads_36 rfl (lv_at hl 0 rfl) ?_
        refine lv_dup hx hb dX9_reads_37 rfl ?_
        refine gX9_247 C hw dX9_reads_38 ?_
        refine lv_iconst (v := 1) hx hb dX9_reads_41 (by decide) ?_
        refine lv_iadd hx hb dX9_reads_42 ?_
        refine pX9_247 C hw hS dX9_reads_43 (fun H locs hw hS => ?_)
        obtain ⟨x4, ev, hm⟩ := lt_e hm
        rw [← ev] at hw
        clear ev
        refine lv_iload_n hx hb dX9_reads_46 rfl (lv_at hl 1 rfl) ?_
        refine lv_bipush (v := 10) hx hb dX9_reads_47 (by decide) ?_
        refine lv_idiv hx hb dX9_reads_49 (by decide) ?_
        refine topI hm (fun v5 hm => ?_)
        refine lv_istore_n (lv' := [(2, .int v5), (0, .ref β)]) hx hb dX9_reads_50 rfl hl (by decide) rfl (fun ls hl => ?_)
        refine lv_goto (tgt := 7) hx hb dX9_reads_51 (by decide) ?_
        exact ih _ _ _ _ _ _ hm hw hS (lv_sub hl [1, 0] rfl) ke kr22
      · replace hm := ite_p cc hm
        refine lv_iconst (v := 0) hx hb dX9_reads_21 (by decide) ?_
        exact kr22 _ _ (Option.some.inj hm).symm _ _ _ hw hS
set_option maxHeartbeats 4000000 in
set_option maxRecDepth 100000 in
theorem lX9_reads_66 {p : Program} {l : Launch} {e : Env} {R : Room} {s : State} {m : MethodId} {args : Array Value} {below : List Frame} {meth : Method} {c : Code} {cells slots : Nat} {Q : State → Prop} {G : xG} {β N : Nat} (C : Cx p s m args meth c RX9 cX9_reads 6 (some .boolean) (KK G)) (hRf : 2 ≤ R.frames) (hRl : 46 ≤ R.locals) (hcs : cells ≤ R.cells ∧ slots ≤ R.slots) (x : MS) : ∀ (n : Nat) (u3 : Int32) (u4 : Int32) (J : (Bool × MS) ⊕ (Unit)) (H : Heap) (locs : List Loc) (ls : Array Slot), LX9_reads_66 x n u3 u4 = some J → MW β G N x H → va_S (AM β) s.heap H locs → lv_has ls 6 [(0, .ref β), (3, .int u3), (4, .int u4)] → (∀ (w : Unit), J = .inr w → ∀ (H : Heap) (locs : List Loc) (ls : Array Slot), MW β G N x H → va_S (AM β) s.heap H locs → lv_has ls 6 [(0, .ref β)] → W p l e R s m args below meth c H locs cells slots Q (F0 m 124 ls [])) → (∀ (rv : Bool) (x1 : MS), J = .inl (rv, x1) → ∀ (H : Heap) (locs : List Loc) (ls : Array Slot), MW β G N x1 H → va_S (AM β) s.heap H locs → W p l e R s m args below meth c H locs cells slots Q (F0 m 105 ls [.int (bI rv)])) → W p l e R s m args below meth c H locs cells slots Q (F0 m 66 ls []) := by
  have hx := C.1
  have hb := C.2.1
  have ho := C.2.2.2.1
  have hts := C.2.2.2.2.1
  intro n
  induction n with
  | zero =>
    intro u3 u4 J H locs ls hm
    exact absurd hm (by simp [LX9_reads_66])
  | succ n ih =>
    intro u3 u4 J H locs ls hm hw hS hl ke kr105
    replace hm : BX9_reads_66 x (LX9_reads_66 x n) u3 u4 = some J := hm
    unfold BX9_reads_66 at hm
    refine lv_iload hx hb dX9_reads_66 (lv_at hl 2 rfl) ?_
    refine lv_aload_n hx hb dX9_reads_68 rfl (lv_at hl 0 rfl) ?_
    refine gX9_247 C hw dX9_reads_69 ?_
    refine lv_icmp_ge (tgt := 124) hx hb dX9_reads_72 (by decide) (fun cc => ?_) (fun cc => ?_)
    · replace hm := ite_p cc hm
      exact ke _ (Option.some.inj hm).symm _ _ _ hw hS (lv_sub hl [0] rfl)
    · replace hm := ite_n cc hm
      refine lv_aload_n hx hb dX9_reads_75 rfl (lv_at hl 0 rfl) ?_
      refine lv_aload_n hx hb dX9_reads_76 rfl (lv_at hl 0 rfl) ?_
      refine gX9_51 C hw dX9_reads_77 ?_
      refine lv_iload hx hb dX9_reads_80 (lv_at hl 2 rfl) ?_
      obtain ⟨h8, hm⟩ := chk_e hm
      refine alM_13 C hw h8 dX9_reads_82 ?_
      obtain ⟨v9, h10, hm⟩ := bind_e hm
      refine sX9_146 C h10 hw hS hl.1 (Nat.le_of_ble_eq_true rfl) (Nat.le_trans (Nat.le_of_ble_eq_true rfl) hRf) (Nat.le_trans (Nat.le_of_ble_eq_true rfl) hRl) hcs dX9_reads_83 (fun H locs hw hS => ?_)
      refine x_ifeqB hx hb dX9_reads_86 (tgt := 104) (by decide) (fun cc => ?_) (fun cc => ?_)
      · replace hm := ite_n cc hm
        refine lv_iconst (v := 0) hx hb dX9_reads_104 (by decide) ?_
        exact kr105 _ _ (Option.some.inj hm).symm _ _ _ hw hS
      · replace hm := ite_p cc hm
        refine lv_iload_n hx hb dX9_reads_89 rfl (lv_at hl 1 rfl) ?_
        refine lv_aload_n hx hb dX9_reads_90 rfl (lv_at hl 0 rfl) ?_
        refine gX9_51 C hw dX9_reads_91 ?_
        refine lv_iload hx hb dX9_reads_94 (lv_at hl 2 rfl) ?_
        obtain ⟨h11, hm⟩ := chk_e hm
        refine alM_13 C hw h11 dX9_reads_96 ?_
        refine lv_ishr hx hb dX9_reads_97 ?_
        refine lv_iconst (v := 1) hx hb dX9_reads_98 (by decide) ?_
        refine lv_iand hx hb dX9_reads_99 ?_
        refine lv_iconst (v := 1) hx hb dX9_reads_100 (by decide) ?_
        refine lv_icmp_ne (tgt := 106) hx hb dX9_reads_101 (by decide) (fun cc => ?_) (fun cc => ?_)
        · replace hm := ite_n cc hm
          refine lv_iload_n hx hb dX9_reads_106 rfl (lv_at hl 1 rfl) ?_
          refine lv_iconst (v := 1) hx hb dX9_reads_107 (by decide) ?_
          refine lv_aload_n hx hb dX9_reads_108 rfl (lv_at hl 0 rfl) ?_
          refine gX9_51 C hw dX9_reads_109 ?_
          refine lv_iload hx hb dX9_reads_112 (lv_at hl 2 rfl) ?_
          obtain ⟨h12, hm⟩ := chk_e hm
          refine alM_13 C hw h12 dX9_reads_114 ?_
          refine lv_ishl hx hb dX9_reads_115 ?_
          refine lv_ior hx hb dX9_reads_116 ?_
          refine topI hm (fun v13 hm => ?_)
          refine lv_istore_n (lv' := [(3, .int v13), (0, .ref β), (4, .int u4)]) hx hb dX9_reads_117 rfl hl (by decide) rfl (fun ls hl => ?_)
          obtain ⟨v14, ev, hm⟩ := lt_e hm
          refine lv_iinc (v := v14) (lv' := [(4, .int v14), (3, .int v13), (0, .ref β)]) hx hb dX9_reads_118 hl (k := 2) rfl (by rw [ev]; rfl) (by decide) rfl (fun ls hl => ?_)
          clear ev
          refine lv_goto (tgt := 66) hx hb dX9_reads_121 (by decide) ?_
          exact ih _ _ _ _ _ _ hm hw hS (lv_sub hl [2, 1, 0] rfl) ke kr105
        · replace hm := ite_p cc hm
          refine lv_iconst (v := 0) hx hb dX9_reads_104 (by decide) ?_
          exact kr105 _ _ (Option.some.inj hm).symm _ _ _ hw hS
set_option maxHeartbeats 4000000 in
set_option maxRecDepth 100000 in
theorem lX9_reads_127 {p : Program} {l : Launch} {e : Env} {R : Room} {s : State} {m : MethodId} {args : Array Value} {below : List Frame} {meth : Method} {c : Code} {cells slots : Nat} {Q : State → Prop} {G : xG} {β N : Nat} (C : Cx p s m args meth c RX9 cX9_reads 6 (some .boolean) (KK G)) (hRf : 2 ≤ R.frames) (hRl : 46 ≤ R.locals) (hcs : cells ≤ R.cells ∧ slots ≤ R.slots) : ∀ (n : Nat) (u4 : Int32) (x : MS) (J : MS) (H : Heap) (locs : List Loc) (ls : Array Slot), LX9_reads_127 n u4 x = some J → MW β G N x H → va_S (AM β) s.heap H locs → lv_has ls 6 [(0, .ref β), (4, .int u4)] → (∀ (x1 : MS), J = x1 → ∀ (H : Heap) (locs : List Loc) (ls : Array Slot), MW β G N x1 H → va_S (AM β) s.heap H locs → lv_has ls 6 [] → W p l e R s m args below meth c H locs cells slots Q (F0 m 190 ls [])) → W p l e R s m args below meth c H locs cells slots Q (F0 m 127 ls []) := by
  have hx := C.1
  have hb := C.2.1
  have ho := C.2.2.2.1
  have hts := C.2.2.2.2.1
  intro n
  induction n with
  | zero =>
    intro u4 x J H locs ls hm
    exact absurd hm (by simp [LX9_reads_127])
  | succ n ih =>
    intro u4 x J H locs ls hm hw hS hl ke
    replace hm : BX9_reads_127 (LX9_reads_127 n) u4 x = some J := hm
    unfold BX9_reads_127 at hm
    refine lv_iload hx hb dX9_reads_127 (lv_at hl 1 rfl) ?_
    refine lv_aload_n hx hb dX9_reads_129 rfl (lv_at hl 0 rfl) ?_
    refine gX9_247 C hw dX9_reads_130 ?_
    refine lv_iconst (v := 2) hx hb dX9_reads_133 (by decide) ?_
    refine lv_idiv hx hb dX9_reads_134 (by decide) ?_
    refine lv_icmp_ge (tgt := 190) hx hb dX9_reads_135 (by decide) (fun cc => ?_) (fun cc => ?_)
    · replace hm := ite_p cc hm
      exact ke _ (Option.some.inj hm).symm _ _ _ hw hS (lv_sub hl [] rfl)
    · replace hm := ite_n cc hm
      refine lv_aload_n hx hb dX9_reads_138 rfl (lv_at hl 0 rfl) ?_
      refine gX9_51 C hw dX9_reads_139 ?_
      refine lv_iload hx hb dX9_reads_142 (lv_at hl 1 rfl) ?_
      obtain ⟨h15, hm⟩ := chk_e hm
      refine alM_13 C hw h15 dX9_reads_144 ?_
      refine topI hm (fun v16 hm => ?_)
      refine lv_istore (lv' := [(5, .int v16), (0, .ref β), (4, .int u4)]) hx hb dX9_reads_145 hl (by decide) rfl (fun ls hl => ?_)
      refine lv_aload_n hx hb dX9_reads_147 rfl (lv_at hl 1 rfl) ?_
      refine gX9_51 C hw dX9_reads_148 ?_
      refine lv_iload hx hb dX9_reads_151 (lv_at hl 2 rfl) ?_
      refine lv_aload_n hx hb dX9_reads_153 rfl (lv_at hl 1 rfl) ?_
      refine gX9_51 C hw dX9_reads_154 ?_
      refine lv_aload_n hx hb dX9_reads_157 rfl (lv_at hl 1 rfl) ?_
      refine gX9_247 C hw dX9_reads_158 ?_
      refine lv_iconst (v := 1) hx hb dX9_reads_161 (by decide) ?_
      refine lv_isub hx hb dX9_reads_162 ?_
      refine lv_iload hx hb dX9_reads_163 (lv_at hl 2 rfl) ?_
      refine lv_isub hx hb dX9_reads_165 ?_
      obtain ⟨h17, hm⟩ := chk_e hm
      refine alM_13 C hw h17 dX9_reads_166 ?_
      obtain ⟨h18, hm⟩ := chk_e hm
      refine asM_13 C hw hS h18 dX9_reads_167 (fun H locs hw hS => ?_)
      obtain ⟨x19, ev, hm⟩ := lt_e hm
      rw [← ev] at hw
      clear ev
      refine lv_aload_n hx hb dX9_reads_168 rfl (lv_at hl 1 rfl) ?_
      refine gX9_51 C hw dX9_reads_169 ?_
      refine lv_aload_n hx hb dX9_reads_172 rfl (lv_at hl 1 rfl) ?_
      refine gX9_247 C hw dX9_reads_173 ?_
      refine lv_iconst (v := 1) hx hb dX9_reads_176 (by decide) ?_
      refine lv_isub hx hb dX9_reads_177 ?_
      refine lv_iload hx hb dX9_reads_178 (lv_at hl 2 rfl) ?_
      refine lv_isub hx hb dX9_reads_180 ?_
      refine lv_iload hx hb dX9_reads_181 (lv_at hl 0 rfl) ?_
      obtain ⟨h20, hm⟩ := chk_e hm
      refine asM_13 C hw hS h20 dX9_reads_183 (fun H locs hw hS => ?_)
      obtain ⟨x21, ev, hm⟩ := lt_e hm
      rw [← ev] at hw
      clear ev
      obtain ⟨v22, ev, hm⟩ := lt_e hm
      refine lv_iinc (v := v22) (lv' := [(4, .int v22), (5, .int v16), (0, .ref β)]) hx hb dX9_reads_184 hl (k := 2) rfl (by rw [ev]; rfl) (by decide) rfl (fun ls hl => ?_)
      clear ev
      refine lv_goto (tgt := 127) hx hb dX9_reads_187 (by decide) ?_
      exact ih _ _ _ _ _ _ hm hw hS (lv_sub hl [2, 0] rfl) ke
abbrev rmX9_reads : Room := { frames := 2, cells := 0, slots := 0, locals := 46 }
set_option maxHeartbeats 4000000 in
set_option maxRecDepth 100000 in
theorem kX9_reads {l : Launch} {G : xG} {β N : Nat} {x x' : MS} {a1 : Int32} {r : Bool} (hm : fX9_reads x a1 = some (r, x')) : Met l yX9_reads (.code yX9_reads cX9_reads 6 (some .boolean) :: GT) rmX9_reads (PcW [.ref β, .int a1] (MW β G N x) (KK G)) (QcW (AM β) (some (.int (bI r))) (MW β G N x')) 0 0 (AM β) := by
  unfold fX9_reads at hm
  refine xpro (own := RX9) (by decide +kernel) rfl (Nat.le_of_ble_eq_true rfl) ?_
  intro p e s m args below meth c C hw ls hl
  have hx := C.1
  have hb := C.2.1
  have ho := C.2.2.2.1
  have hts := C.2.2.2.2.1
  have hS : va_S (AM β) s.heap s.heap [] := va_S.rf
  have hl : lv_has ls 6 [(0, .ref β), (1, .int a1)] := hl
  have hRf : 2 ≤ rmX9_reads.frames := Nat.le_refl _
  have hRl : 46 ≤ rmX9_reads.locals := Nat.le_refl _
  have hcs : 0 ≤ rmX9_reads.cells ∧ 0 ≤ rmX9_reads.slots := ⟨Nat.le_refl _, Nat.le_refl _⟩
  refine lv_aload_n hx hb dX9_reads_0 rfl (lv_at hl 0 rfl) ?_
  refine lv_iconst (v := 0) hx hb dX9_reads_1 (by decide) ?_
  refine pX9_247 C hw hS dX9_reads_2 (fun H locs hw hS => ?_)
  obtain ⟨x1, ev, hm⟩ := lt_e hm
  rw [← ev] at hw
  clear ev
  refine lv_iload_n hx hb dX9_reads_5 rfl (lv_at hl 1 rfl) ?_
  refine lv_istore_n (lv' := [(2, .int a1), (0, .ref β), (1, .int a1)]) hx hb dX9_reads_6 rfl hl (by decide) rfl (fun ls hl => ?_)
  rcases bs_e hm with ⟨a, hj, hm⟩ | ⟨b, hj, hm⟩
  · refine lX9_reads_7 C hRf hRl hcs NF _ _ _ _ _ _ hj hw hS (lv_sub hl [1, 0] rfl) (fun _ _ e0 => by cases e0) (fun rv x1 e0 H locs ls hw hS => ?_)
    · cases e0
      obtain ⟨rfl, rfl⟩ := inj2 hm
      exact xret_z C (bI_nar _) hw hS dX9_reads_22
  · obtain ⟨v6, x7, e1, hm⟩ := bind2_e hm
    cases e1
    refine lX9_reads_7 C hRf hRl hcs NF _ _ _ _ _ _ hj hw hS (lv_sub hl [1, 0] rfl) (fun v6_ x7_ e0 H locs ls hw hS hl => ?_) (fun _ _ e0 => by cases e0)
    cases e0
    refine lv_iload_n hx hb dX9_reads_54 rfl (lv_at hl 1 rfl) ?_
    refine lv_iconst (v := 1) hx hb dX9_reads_55 (by decide) ?_
    refine lv_icmp_eq (tgt := 61) hx hb dX9_reads_56 (by decide) (fun cc => ?_) (fun cc => ?_)
    · replace hm := ite_p cc hm
      refine lv_iconst (v := 0) hx hb dX9_reads_61 (by decide) ?_
      refine lv_istore_n (lv' := [(3, .int 0), (0, .ref β), (2, .int v6)]) hx hb dX9_reads_62 rfl hl (by decide) rfl (fun ls hl => ?_)
      refine lv_iconst (v := 0) hx hb dX9_reads_63 (by decide) ?_
      refine lv_istore (lv' := [(4, .int 0), (3, .int 0), (0, .ref β), (2, .int v6)]) hx hb dX9_reads_64 hl (by decide) rfl (fun ls hl => ?_)
      rcases bs_e hm with ⟨a, hj, hm⟩ | ⟨b, hj, hm⟩
      · refine lX9_reads_66 C hRf hRl hcs x7 NF _ _ _ _ _ _ hj hw hS (lv_sub hl [2, 1, 0] rfl) (fun _ e0 => by cases e0) (fun rv x1 e0 H locs ls hw hS => ?_)
        · cases e0
          obtain ⟨rfl, rfl⟩ := inj2 hm
          exact xret_z C (bI_nar _) hw hS dX9_reads_105
      · refine lX9_reads_66 C hRf hRl hcs x7 NF _ _ _ _ _ _ hj hw hS (lv_sub hl [2, 1, 0] rfl) (fun _ e0 H locs ls hw hS hl => ?_) (fun _ _ e0 => by cases e0)
        refine lv_iconst (v := 0) hx hb dX9_reads_124 (by decide) ?_
        refine lv_istore (lv' := [(4, .int 0), (0, .ref β)]) hx hb dX9_reads_125 hl (by decide) rfl (fun ls hl => ?_)
        obtain ⟨x23, hj, hm⟩ := bind_e hm
        refine lX9_reads_127 C hRf hRl hcs NF _ _ _ _ _ _ hj hw hS (lv_sub hl [1, 0] rfl) (fun x23_ e0 H locs ls hw hS hl => ?_)
        cases e0
        refine lv_iconst (v := 1) hx hb dX9_reads_190 (by decide) ?_
        obtain ⟨rfl, rfl⟩ := inj2 hm
        exact xret_z (v := bI true) C (bI_nar _) hw hS dX9_reads_191
    · replace hm := ite_n cc hm
      refine lv_iconst (v := 0) hx hb dX9_reads_59 (by decide) ?_
      obtain ⟨rfl, rfl⟩ := inj2 hm
      exact xret_z (v := bI false) C (bI_nar _) hw hS dX9_reads_60
theorem dX9_worse_0 : decode cX9_worse 0 = .ok (.aload_n 0, 1) := by decide +kernel
theorem dX9_worse_1 : decode cX9_worse 1 = .ok (.iload_n 1, 1) := by decide +kernel
theorem dX9_worse_2 : decode cX9_worse 2 = .ok (.invokevirtual 222, 3) := by decide +kernel
theorem dX9_worse_5 : decode cX9_worse 5 = .ok (.ifCond .eq 40, 3) := by decide +kernel
theorem dX9_worse_8 : decode cX9_worse 8 = .ok (.iload_n 2, 1) := by decide +kernel
theorem dX9_worse_9 : decode cX9_worse 9 = .ok (.invokestatic 225, 3) := by decide +kernel
theorem dX9_worse_12 : decode cX9_worse 12 = .ok (.ifCond .eq 33, 3) := by decide +kernel
theorem dX9_worse_15 : decode cX9_worse 15 = .ok (.aload_n 0, 1) := by decide +kernel
theorem dX9_worse_16 : decode cX9_worse 16 = .ok (.iload_n 1, 1) := by decide +kernel
theorem dX9_worse_17 : decode cX9_worse 17 = .ok (.iload_n 3, 1) := by decide +kernel
theorem dX9_worse_18 : decode cX9_worse 18 = .ok (.invokevirtual 196, 3) := by decide +kernel
theorem dX9_worse_21 : decode cX9_worse 21 = .ok (.ifCond .eq 24, 3) := by decide +kernel
theorem dX9_worse_24 : decode cX9_worse 24 = .ok (.iload 4, 2) := by decide +kernel
theorem dX9_worse_26 : decode cX9_worse 26 = .ok (.i2l, 1) := by decide +kernel
theorem dX9_worse_27 : decode cX9_worse 27 = .ok (.lconst 1, 1) := by decide +kernel
theorem dX9_worse_28 : decode cX9_worse 28 = .ok (.ldc2_w 156, 3) := by decide +kernel
theorem dX9_worse_31 : decode cX9_worse 31 = .ok (.invokestatic 132, 3) := by decide +kernel
theorem dX9_worse_34 : decode cX9_worse 34 = .ok (.ifCond .eq 11, 3) := by decide +kernel
theorem dX9_worse_37 : decode cX9_worse 37 = .ok (.iload 5, 2) := by decide +kernel
theorem dX9_worse_39 : decode cX9_worse 39 = .ok (.invokestatic 228, 3) := by decide +kernel
theorem dX9_worse_42 : decode cX9_worse 42 = .ok (.ifCond .ne 7, 3) := by decide +kernel
theorem dX9_worse_45 : decode cX9_worse 45 = .ok (.ldc2_w 167, 3) := by decide +kernel
theorem dX9_worse_48 : decode cX9_worse 48 = .ok (.lreturn, 1) := by decide +kernel
theorem dX9_worse_49 : decode cX9_worse 49 = .ok (.aload_n 0, 1) := by decide +kernel
theorem dX9_worse_50 : decode cX9_worse 50 = .ok (.iload_n 1, 1) := by decide +kernel
theorem dX9_worse_51 : decode cX9_worse 51 = .ok (.iload_n 2, 1) := by decide +kernel
theorem dX9_worse_52 : decode cX9_worse 52 = .ok (.invokevirtual 231, 3) := by decide +kernel
theorem dX9_worse_55 : decode cX9_worse 55 = .ok (.lconst 0, 1) := by decide +kernel
theorem dX9_worse_56 : decode cX9_worse 56 = .ok (.lstore 6, 2) := by decide +kernel
theorem dX9_worse_58 : decode cX9_worse 58 = .ok (.aload_n 0, 1) := by decide +kernel
theorem dX9_worse_59 : decode cX9_worse 59 = .ok (.getfield 44, 3) := by decide +kernel
theorem dX9_worse_62 : decode cX9_worse 62 = .ok (.iload_n 3, 1) := by decide +kernel
theorem dX9_worse_63 : decode cX9_worse 63 = .ok (.iaload, 1) := by decide +kernel
theorem dX9_worse_64 : decode cX9_worse 64 = .ok (.aload_n 0, 1) := by decide +kernel
theorem dX9_worse_65 : decode cX9_worse 65 = .ok (.getfield 124, 3) := by decide +kernel
theorem dX9_worse_68 : decode cX9_worse 68 = .ok (.isub, 1) := by decide +kernel
theorem dX9_worse_69 : decode cX9_worse 69 = .ok (.istore 8, 2) := by decide +kernel
theorem dX9_worse_71 : decode cX9_worse 71 = .ok (.iload 8, 2) := by decide +kernel
theorem dX9_worse_73 : decode cX9_worse 73 = .ok (.aload_n 0, 1) := by decide +kernel
theorem dX9_worse_74 : decode cX9_worse 74 = .ok (.getfield 44, 3) := by decide +kernel
theorem dX9_worse_77 : decode cX9_worse 77 = .ok (.iload_n 3, 1) := by decide +kernel
theorem dX9_worse_78 : decode cX9_worse 78 = .ok (.iaload, 1) := by decide +kernel
theorem dX9_worse_79 : decode cX9_worse 79 = .ok (.aload_n 0, 1) := by decide +kernel
theorem dX9_worse_80 : decode cX9_worse 80 = .ok (.getfield 124, 3) := by decide +kernel
theorem dX9_worse_83 : decode cX9_worse 83 = .ok (.iadd, 1) := by decide +kernel
theorem dX9_worse_84 : decode cX9_worse 84 = .ok (.if_icmp .gt 46, 3) := by decide +kernel
theorem dX9_worse_87 : decode cX9_worse 87 = .ok (.aload_n 0, 1) := by decide +kernel
theorem dX9_worse_88 : decode cX9_worse 88 = .ok (.iload_n 1, 1) := by decide +kernel
theorem dX9_worse_89 : decode cX9_worse 89 = .ok (.iload_n 3, 1) := by decide +kernel
theorem dX9_worse_90 : decode cX9_worse 90 = .ok (.iload 8, 2) := by decide +kernel
theorem dX9_worse_92 : decode cX9_worse 92 = .ok (.iconst 1, 1) := by decide +kernel
theorem dX9_worse_93 : decode cX9_worse 93 = .ok (.invokevirtual 214, 3) := by decide +kernel
theorem dX9_worse_96 : decode cX9_worse 96 = .ok (.iload 4, 2) := by decide +kernel
theorem dX9_worse_98 : decode cX9_worse 98 = .ok (.istore 9, 2) := by decide +kernel
theorem dX9_worse_100 : decode cX9_worse 100 = .ok (.iload 9, 2) := by decide +kernel
theorem dX9_worse_102 : decode cX9_worse 102 = .ok (.iconst 5, 1) := by decide +kernel
theorem dX9_worse_103 : decode cX9_worse 103 = .ok (.if_icmp .gt 21, 3) := by decide +kernel
theorem dX9_worse_106 : decode cX9_worse 106 = .ok (.lload 6, 2) := by decide +kernel
theorem dX9_worse_108 : decode cX9_worse 108 = .ok (.aload_n 0, 1) := by decide +kernel
theorem dX9_worse_109 : decode cX9_worse 109 = .ok (.getfield 47, 3) := by decide +kernel
theorem dX9_worse_112 : decode cX9_worse 112 = .ok (.iload 9, 2) := by decide +kernel
theorem dX9_worse_114 : decode cX9_worse 114 = .ok (.laload, 1) := by decide +kernel
theorem dX9_worse_115 : decode cX9_worse 115 = .ok (.ladd, 1) := by decide +kernel
theorem dX9_worse_116 : decode cX9_worse 116 = .ok (.lstore 6, 2) := by decide +kernel
theorem dX9_worse_118 : decode cX9_worse 118 = .ok (.iinc 9 1, 3) := by decide +kernel
theorem dX9_worse_121 : decode cX9_worse 121 = .ok (.goto (-21), 3) := by decide +kernel
theorem dX9_worse_124 : decode cX9_worse 124 = .ok (.iinc 8 1, 3) := by decide +kernel
theorem dX9_worse_127 : decode cX9_worse 127 = .ok (.goto (-56), 3) := by decide +kernel
theorem dX9_worse_130 : decode cX9_worse 130 = .ok (.lload 6, 2) := by decide +kernel
theorem dX9_worse_132 : decode cX9_worse 132 = .ok (.aload_n 0, 1) := by decide +kernel
theorem dX9_worse_133 : decode cX9_worse 133 = .ok (.iload_n 1, 1) := by decide +kernel
theorem dX9_worse_134 : decode cX9_worse 134 = .ok (.invokevirtual 239, 3) := by decide +kernel
theorem dX9_worse_137 : decode cX9_worse 137 = .ok (.iload 5, 2) := by decide +kernel
theorem dX9_worse_139 : decode cX9_worse 139 = .ok (.invokestatic 243, 3) := by decide +kernel
theorem dX9_worse_142 : decode cX9_worse 142 = .ok (.lreturn, 1) := by decide +kernel
def BX9_worse_100 (x : MS) (q1 : Int32) (q3 : Int32) (q4 : Int32) (q5 : Int32) (q8 : Int32) (lp : Int64 → Int32 → Option (Int64)) (u6 : Int64) (u9 : Int32) : Option (Int64) := if 5 < u9 then some u6 else if ib u9 6 then lt (u6 + (x.2.2 12 u9.toNatClampNeg)) fun v19 => lt (u9 + 1) fun v20 => lp v19 v20 else none
def LX9_worse_100 (x : MS) (q1 : Int32) (q3 : Int32) (q4 : Int32) (q5 : Int32) (q8 : Int32) : Nat → Int64 → Int32 → Option (Int64)
  | 0, _, _ => none
  | n + 1, u6, u9 => BX9_worse_100 x q1 q3 q4 q5 q8 (LX9_worse_100 x q1 q3 q4 q5 q8 n) u6 u9
def BX9_worse_71 (q1 : Int32) (q3 : Int32) (q4 : Int32) (q5 : Int32) (lp : Int64 → Int32 → MS → Option (Int64 × MS)) (u6 : Int64) (u8 : Int32) (x : MS) : Option (Int64 × MS) := if ib q3 10 then if ((x.2.1 11 q3.toNatClampNeg) + (x.1 0 15)) < u8 then some (u6, x) else Option.bind (fX9_others x q1 q3 u8 true) fun x16 => Option.bind (LX9_worse_100 x16 q1 q3 q4 q5 u8 NF u6 q4) fun v21 => lt (u8 + 1) fun v22 => lp v21 v22 x16 else none
def LX9_worse_71 (q1 : Int32) (q3 : Int32) (q4 : Int32) (q5 : Int32) : Nat → Int64 → Int32 → MS → Option (Int64 × MS)
  | 0, _, _, _ => none
  | n + 1, u6, u8, x => BX9_worse_71 q1 q3 q4 q5 (LX9_worse_71 q1 q3 q4 q5 n) u6 u8 x
def fX9_worse (x : MS) (a1 : Int32) (a2 : Int32) (a3 : Int32) (a4 : Int32) (a5 : Int32) : Option (Int64 × MS) := Option.bind (fX9_isField x a1) fun v1 => if v1 = true then Option.bind (fX9_isWhen a2) fun v3 => if v3 = true then Option.bind (fX9_isOf x a1 a3) fun v5 => if v5 = true then Option.bind (fX9_in (a4.toInt64) 1 4) fun v7 => if v7 = true then Option.bind (fX9_isPart a5) fun v9 => if v9 = true then Option.bind (fX9_lays x a1 a2) fun x11 => if ib a3 10 then lt ((x11.2.1 11 a3.toNatClampNeg) - (x11.1 0 15)) fun v14 => bind2 (LX9_worse_71 a1 a3 a4 a5 NF 0 v14 x11) fun v23 x24 => Option.bind (fX9_cases x24 a1) fun v25 => Option.bind (fX9_lowest v23 v25 a5) fun v27 => some (v27, x24) else none else some ((-4611686018427387904), x) else some ((-4611686018427387904), x) else some ((-4611686018427387904), x) else some ((-4611686018427387904), x) else some ((-4611686018427387904), x)
set_option maxHeartbeats 4000000 in
set_option maxRecDepth 100000 in
theorem lX9_worse_100 {p : Program} {l : Launch} {e : Env} {R : Room} {s : State} {m : MethodId} {args : Array Value} {below : List Frame} {meth : Method} {c : Code} {cells slots : Nat} {Q : State → Prop} {G : xG} {β N : Nat} (C : Cx p s m args meth c RX9 cX9_worse 10 (some .long) (KK G)) (hRf : 4 ≤ R.frames) (hRl : 96 ≤ R.locals) (hcs : cells ≤ R.cells ∧ slots ≤ R.slots) (x : MS) (q1 : Int32) (q3 : Int32) (q4 : Int32) (q5 : Int32) (q8 : Int32) : ∀ (n : Nat) (u6 : Int64) (u9 : Int32) (J : Int64) (H : Heap) (locs : List Loc) (ls : Array Slot), LX9_worse_100 x q1 q3 q4 q5 q8 n u6 u9 = some J → MW β G N x H → va_S (AM β) s.heap H locs → lv_has ls 10 [(0, .ref β), (1, .int q1), (3, .int q3), (4, .int q4), (5, .int q5), (6, .long u6), (8, .int q8), (9, .int u9)] → (∀ (w6 : Int64), J = w6 → ∀ (H : Heap) (locs : List Loc) (ls : Array Slot), MW β G N x H → va_S (AM β) s.heap H locs → lv_has ls 10 [(0, .ref β), (1, .int q1), (3, .int q3), (4, .int q4), (5, .int q5), (6, .long w6), (8, .int q8)] → W p l e R s m args below meth c H locs cells slots Q (F0 m 124 ls [])) → W p l e R s m args below meth c H locs cells slots Q (F0 m 100 ls []) := by
  have hx := C.1
  have hb := C.2.1
  have ho := C.2.2.2.1
  have hts := C.2.2.2.2.1
  intro n
  induction n with
  | zero =>
    intro u6 u9 J H locs ls hm
    exact absurd hm (by simp [LX9_worse_100])
  | succ n ih =>
    intro u6 u9 J H locs ls hm hw hS hl ke
    replace hm : BX9_worse_100 x q1 q3 q4 q5 q8 (LX9_worse_100 x q1 q3 q4 q5 q8 n) u6 u9 = some J := hm
    unfold BX9_worse_100 at hm
    refine lv_iload hx hb dX9_worse_100 (lv_at hl 7 rfl) ?_
    refine lv_iconst (v := 5) hx hb dX9_worse_102 (by decide) ?_
    refine lv_icmp_gt (tgt := 124) hx hb dX9_worse_103 (by decide) (fun cc => ?_) (fun cc => ?_)
    · replace hm := ite_p cc hm
      exact ke _ (Option.some.inj hm).symm _ _ _ hw hS (lv_sub hl [0, 1, 2, 3, 4, 5, 6] rfl)
    · replace hm := ite_n cc hm
      refine lv_lload hx hb dX9_worse_106 (lv_at hl 5 rfl) ?_
      refine lv_aload_n hx hb dX9_worse_108 rfl (lv_at hl 0 rfl) ?_
      refine gX9_47 C hw dX9_worse_109 ?_
      refine lv_iload hx hb dX9_worse_112 (lv_at hl 7 rfl) ?_
      obtain ⟨h18, hm⟩ := chk_e hm
      refine alM_12 C hw h18 dX9_worse_114 ?_
      refine lv_ladd hx hb dX9_worse_115 ?_
      refine topJ hm (fun v19 hm => ?_)
      refine lv_lstore (lv' := [(6, .long v19), (0, .ref β), (1, .int q1), (3, .int q3), (4, .int q4), (5, .int q5), (8, .int q8), (9, .int u9)]) hx hb dX9_worse_116 hl (by decide) rfl (fun ls hl => ?_)
      obtain ⟨v20, ev, hm⟩ := lt_e hm
      refine lv_iinc (v := v20) (lv' := [(9, .int v20), (6, .long v19), (0, .ref β), (1, .int q1), (3, .int q3), (4, .int q4), (5, .int q5), (8, .int q8)]) hx hb dX9_worse_118 hl (k := 7) rfl (by rw [ev]; rfl) (by decide) rfl (fun ls hl => ?_)
      clear ev
      refine lv_goto (tgt := 100) hx hb dX9_worse_121 (by decide) ?_
      exact ih _ _ _ _ _ _ hm hw hS (lv_sub hl [2, 3, 4, 5, 6, 1, 7, 0] rfl) ke
set_option maxHeartbeats 4000000 in
set_option maxRecDepth 100000 in
theorem lX9_worse_71 {p : Program} {l : Launch} {e : Env} {R : Room} {s : State} {m : MethodId} {args : Array Value} {below : List Frame} {meth : Method} {c : Code} {cells slots : Nat} {Q : State → Prop} {G : xG} {β N : Nat} (C : Cx p s m args meth c RX9 cX9_worse 10 (some .long) (KK G)) (hRf : 4 ≤ R.frames) (hRl : 96 ≤ R.locals) (hcs : cells ≤ R.cells ∧ slots ≤ R.slots) (q1 : Int32) (q3 : Int32) (q4 : Int32) (q5 : Int32) : ∀ (n : Nat) (u6 : Int64) (u8 : Int32) (x : MS) (J : Int64 × MS) (H : Heap) (locs : List Loc) (ls : Array Slot), LX9_worse_71 q1 q3 q4 q5 n u6 u8 x = some J → MW β G N x H → va_S (AM β) s.heap H locs → lv_has ls 10 [(0, .ref β), (1, .int q1), (3, .int q3), (4, .int q4), (5, .int q5), (6, .long u6), (8, .int u8)] → (∀ (w6 : Int64) (x1 : MS), J = (w6, x1) → ∀ (H : Heap) (locs : List Loc) (ls : Array Slot), MW β G N x1 H → va_S (AM β) s.heap H locs → lv_has ls 10 [(0, .ref β), (1, .int q1), (5, .int q5), (6, .long w6)] → W p l e R s m args below meth c H locs cells slots Q (F0 m 130 ls [])) → W p l e R s m args below meth c H locs cells slots Q (F0 m 71 ls []) := by
  have hx := C.1
  have hb := C.2.1
  have ho := C.2.2.2.1
  have hts := C.2.2.2.2.1
  intro n
  induction n with
  | zero =>
    intro u6 u8 x J H locs ls hm
    exact absurd hm (by simp [LX9_worse_71])
  | succ n ih =>
    intro u6 u8 x J H locs ls hm hw hS hl ke
    replace hm : BX9_worse_71 q1 q3 q4 q5 (LX9_worse_71 q1 q3 q4 q5 n) u6 u8 x = some J := hm
    unfold BX9_worse_71 at hm
    refine lv_iload hx hb dX9_worse_71 (lv_at hl 6 rfl) ?_
    refine lv_aload_n hx hb dX9_worse_73 rfl (lv_at hl 0 rfl) ?_
    refine gX9_44 C hw dX9_worse_74 ?_
    refine lv_iload_n hx hb dX9_worse_77 rfl (lv_at hl 2 rfl) ?_
    obtain ⟨h15, hm⟩ := chk_e hm
    refine alM_11 C hw h15 dX9_worse_78 ?_
    refine lv_aload_n hx hb dX9_worse_79 rfl (lv_at hl 0 rfl) ?_
    refine gX9_124 C hw dX9_worse_80 ?_
    refine lv_iadd hx hb dX9_worse_83 ?_
    refine lv_icmp_gt (tgt := 130) hx hb dX9_worse_84 (by decide) (fun cc => ?_) (fun cc => ?_)
    · replace hm := ite_p cc hm
      exact ke _ _ (Option.some.inj hm).symm _ _ _ hw hS (lv_sub hl [0, 1, 4, 5] rfl)
    · replace hm := ite_n cc hm
      refine lv_aload_n hx hb dX9_worse_87 rfl (lv_at hl 0 rfl) ?_
      refine lv_iload_n hx hb dX9_worse_88 rfl (lv_at hl 1 rfl) ?_
      refine lv_iload_n hx hb dX9_worse_89 rfl (lv_at hl 2 rfl) ?_
      refine lv_iload hx hb dX9_worse_90 (lv_at hl 6 rfl) ?_
      refine lv_iconst (v := 1) hx hb dX9_worse_92 (by decide) ?_
      obtain ⟨x16, h17, hm⟩ := bind_e hm
      refine sX9_214 (a1 := q1) (a2 := q3) (a3 := u8) (a4 := true) C h17 hw hS hl.1 (Nat.le_of_ble_eq_true rfl) (Nat.le_trans (Nat.le_of_ble_eq_true rfl) hRf) (Nat.le_trans (Nat.le_of_ble_eq_true rfl) hRl) hcs dX9_worse_93 (fun H locs hw hS => ?_)
      refine lv_iload hx hb dX9_worse_96 (lv_at hl 3 rfl) ?_
      refine lv_istore (lv' := [(9, .int q4), (0, .ref β), (1, .int q1), (3, .int q3), (4, .int q4), (5, .int q5), (6, .long u6), (8, .int u8)]) hx hb dX9_worse_98 hl (by decide) rfl (fun ls hl => ?_)
      obtain ⟨v21, hj, hm⟩ := bind_e hm
      refine lX9_worse_100 C hRf hRl hcs x16 q1 q3 q4 q5 u8 NF _ _ _ _ _ _ hj hw hS (lv_sub hl [1, 2, 3, 4, 5, 6, 7, 0] rfl) (fun v21_ e0 H locs ls hw hS hl => ?_)
      cases e0
      obtain ⟨v22, ev, hm⟩ := lt_e hm
      refine lv_iinc (v := v22) (lv' := [(8, .int v22), (0, .ref β), (1, .int q1), (3, .int q3), (4, .int q4), (5, .int q5), (6, .long v21)]) hx hb dX9_worse_124 hl (k := 6) rfl (by rw [ev]; rfl) (by decide) rfl (fun ls hl => ?_)
      clear ev
      refine lv_goto (tgt := 71) hx hb dX9_worse_127 (by decide) ?_
      exact ih _ _ _ _ _ _ _ hm hw hS (lv_sub hl [1, 2, 3, 4, 5, 6, 0] rfl) ke
abbrev rmX9_worse : Room := { frames := 4, cells := 0, slots := 0, locals := 96 }
set_option maxHeartbeats 4000000 in
set_option maxRecDepth 100000 in
theorem kX9_worse {l : Launch} {G : xG} {β N : Nat} {x x' : MS} {a1 : Int32} {a2 : Int32} {a3 : Int32} {a4 : Int32} {a5 : Int32} {r : Int64} (hm : fX9_worse x a1 a2 a3 a4 a5 = some (r, x')) : Met l yX9_worse (.code yX9_worse cX9_worse 10 (some .long) :: GT) rmX9_worse (PcW [.ref β, .int a1, .int a2, .int a3, .int a4, .int a5] (MW β G N x) (KK G)) (QcW (AM β) (some (.long r)) (MW β G N x')) 0 0 (AM β) := by
  unfold fX9_worse at hm
  refine xpro (own := RX9) (by decide +kernel) rfl (Nat.le_of_ble_eq_true rfl) ?_
  intro p e s m args below meth c C hw ls hl
  have hx := C.1
  have hb := C.2.1
  have ho := C.2.2.2.1
  have hts := C.2.2.2.2.1
  have hS : va_S (AM β) s.heap s.heap [] := va_S.rf
  have hl : lv_has ls 10 [(0, .ref β), (1, .int a1), (2, .int a2), (3, .int a3), (4, .int a4), (5, .int a5)] := hl
  have hRf : 4 ≤ rmX9_worse.frames := Nat.le_refl _
  have hRl : 96 ≤ rmX9_worse.locals := Nat.le_refl _
  have hcs : 0 ≤ rmX9_worse.cells ∧ 0 ≤ rmX9_worse.slots := ⟨Nat.le_refl _, Nat.le_refl _⟩
  refine lv_aload_n hx hb dX9_worse_0 rfl (lv_at hl 0 rfl) ?_
  refine lv_iload_n hx hb dX9_worse_1 rfl (lv_at hl 1 rfl) ?_
  obtain ⟨v1, h2, hm⟩ := bind_e hm
  refine sX9_222 C h2 hw hS hl.1 (Nat.le_of_ble_eq_true rfl) (Nat.le_trans (Nat.le_of_ble_eq_true rfl) hRf) (Nat.le_trans (Nat.le_of_ble_eq_true rfl) hRl) hcs dX9_worse_2 (fun H locs hw hS => ?_)
  refine x_ifeqB hx hb dX9_worse_5 (tgt := 45) (by decide) (fun cc => ?_) (fun cc => ?_)
  · replace hm := ite_n cc hm
    refine lv_ldc2 (v := (-4611686018427387904)) hx hb ho (hts (.constantLong RX9 167 (-4611686018427387904)) (tg 1130 (by decide +kernel) rfl)) dX9_worse_45 ?_
    obtain ⟨rfl, rfl⟩ := inj2 hm
    exact xret_l C hw hS dX9_worse_48
  · replace hm := ite_p cc hm
    refine lv_iload_n hx hb dX9_worse_8 rfl (lv_at hl 2 rfl) ?_
    obtain ⟨v3, h4, hm⟩ := bind_e hm
    refine sX9_225 C h4 hw hS hl.1 (Nat.le_of_ble_eq_true rfl) (Nat.le_trans (Nat.le_of_ble_eq_true rfl) hRf) (Nat.le_trans (Nat.le_of_ble_eq_true rfl) hRl) hcs dX9_worse_9 (fun H locs hw hS => ?_)
    refine x_ifeqB hx hb dX9_worse_12 (tgt := 45) (by decide) (fun cc => ?_) (fun cc => ?_)
    · replace hm := ite_n cc hm
      refine lv_ldc2 (v := (-4611686018427387904)) hx hb ho (hts (.constantLong RX9 167 (-4611686018427387904)) (tg 1130 (by decide +kernel) rfl)) dX9_worse_45 ?_
      obtain ⟨rfl, rfl⟩ := inj2 hm
      exact xret_l C hw hS dX9_worse_48
    · replace hm := ite_p cc hm
      refine lv_aload_n hx hb dX9_worse_15 rfl (lv_at hl 0 rfl) ?_
      refine lv_iload_n hx hb dX9_worse_16 rfl (lv_at hl 1 rfl) ?_
      refine lv_iload_n hx hb dX9_worse_17 rfl (lv_at hl 3 rfl) ?_
      obtain ⟨v5, h6, hm⟩ := bind_e hm
      refine sX9_196 C h6 hw hS hl.1 (Nat.le_of_ble_eq_true rfl) (Nat.le_trans (Nat.le_of_ble_eq_true rfl) hRf) (Nat.le_trans (Nat.le_of_ble_eq_true rfl) hRl) hcs dX9_worse_18 (fun H locs hw hS => ?_)
      refine x_ifeqB hx hb dX9_worse_21 (tgt := 45) (by decide) (fun cc => ?_) (fun cc => ?_)
      · replace hm := ite_n cc hm
        refine lv_ldc2 (v := (-4611686018427387904)) hx hb ho (hts (.constantLong RX9 167 (-4611686018427387904)) (tg 1130 (by decide +kernel) rfl)) dX9_worse_45 ?_
        obtain ⟨rfl, rfl⟩ := inj2 hm
        exact xret_l C hw hS dX9_worse_48
      · replace hm := ite_p cc hm
        refine lv_iload hx hb dX9_worse_24 (lv_at hl 4 rfl) ?_
        refine lv_i2l hx hb dX9_worse_26 rfl ?_
        refine lv_lconst (v := 1) hx hb dX9_worse_27 (by decide) ?_
        refine lv_ldc2 (v := 4) hx hb ho (hts (.constantLong RX9 156 4) (tg 1116 (by decide +kernel) rfl)) dX9_worse_28 ?_
        obtain ⟨v7, h8, hm⟩ := bind_e hm
        refine sX9_132 C h8 hw hS hl.1 (Nat.le_of_ble_eq_true rfl) (Nat.le_trans (Nat.le_of_ble_eq_true rfl) hRf) (Nat.le_trans (Nat.le_of_ble_eq_true rfl) hRl) hcs dX9_worse_31 (fun H locs hw hS => ?_)
        refine x_ifeqB hx hb dX9_worse_34 (tgt := 45) (by decide) (fun cc => ?_) (fun cc => ?_)
        · replace hm := ite_n cc hm
          refine lv_ldc2 (v := (-4611686018427387904)) hx hb ho (hts (.constantLong RX9 167 (-4611686018427387904)) (tg 1130 (by decide +kernel) rfl)) dX9_worse_45 ?_
          obtain ⟨rfl, rfl⟩ := inj2 hm
          exact xret_l C hw hS dX9_worse_48
        · replace hm := ite_p cc hm
          refine lv_iload hx hb dX9_worse_37 (lv_at hl 5 rfl) ?_
          obtain ⟨v9, h10, hm⟩ := bind_e hm
          refine sX9_228 C h10 hw hS hl.1 (Nat.le_of_ble_eq_true rfl) (Nat.le_trans (Nat.le_of_ble_eq_true rfl) hRf) (Nat.le_trans (Nat.le_of_ble_eq_true rfl) hRl) hcs dX9_worse_39 (fun H locs hw hS => ?_)
          refine x_ifneB hx hb dX9_worse_42 (tgt := 49) (by decide) (fun cc => ?_) (fun cc => ?_)
          · replace hm := ite_p cc hm
            refine lv_aload_n hx hb dX9_worse_49 rfl (lv_at hl 0 rfl) ?_
            refine lv_iload_n hx hb dX9_worse_50 rfl (lv_at hl 1 rfl) ?_
            refine lv_iload_n hx hb dX9_worse_51 rfl (lv_at hl 2 rfl) ?_
            obtain ⟨x11, h12, hm⟩ := bind_e hm
            refine sX9_231 C h12 hw hS hl.1 (Nat.le_of_ble_eq_true rfl) (Nat.le_trans (Nat.le_of_ble_eq_true rfl) hRf) (Nat.le_trans (Nat.le_of_ble_eq_true rfl) hRl) hcs dX9_worse_52 (fun H locs hw hS => ?_)
            refine lv_lconst (v := 0) hx hb dX9_worse_55 (by decide) ?_
            refine lv_lstore (lv' := [(6, .long 0), (0, .ref β), (1, .int a1), (2, .int a2), (3, .int a3), (4, .int a4), (5, .int a5)]) hx hb dX9_worse_56 hl (by decide) rfl (fun ls hl => ?_)
            refine lv_aload_n hx hb dX9_worse_58 rfl (lv_at hl 1 rfl) ?_
            refine gX9_44 C hw dX9_worse_59 ?_
            refine lv_iload_n hx hb dX9_worse_62 rfl (lv_at hl 4 rfl) ?_
            obtain ⟨h13, hm⟩ := chk_e hm
            refine alM_11 C hw h13 dX9_worse_63 ?_
            refine lv_aload_n hx hb dX9_worse_64 rfl (lv_at hl 1 rfl) ?_
            refine gX9_124 C hw dX9_worse_65 ?_
            refine lv_isub hx hb dX9_worse_68 ?_
            refine topI hm (fun v14 hm => ?_)
            refine lv_istore (lv' := [(8, .int v14), (6, .long 0), (0, .ref β), (1, .int a1), (2, .int a2), (3, .int a3), (4, .int a4), (5, .int a5)]) hx hb dX9_worse_69 hl (by decide) rfl (fun ls hl => ?_)
            obtain ⟨v23, x24, hj, hm⟩ := bind2_e hm
            refine lX9_worse_71 C hRf hRl hcs a1 a3 a4 a5 NF _ _ _ _ _ _ _ hj hw hS (lv_sub hl [2, 3, 5, 6, 7, 1, 0] rfl) (fun v23_ x24_ e0 H locs ls hw hS hl => ?_)
            cases e0
            refine lv_lload hx hb dX9_worse_130 (lv_at hl 3 rfl) ?_
            refine lv_aload_n hx hb dX9_worse_132 rfl (lv_at hl 0 rfl) ?_
            refine lv_iload_n hx hb dX9_worse_133 rfl (lv_at hl 1 rfl) ?_
            obtain ⟨v25, h26, hm⟩ := bind_e hm
            refine sX9_239 C h26 hw hS hl.1 (Nat.le_of_ble_eq_true rfl) (Nat.le_trans (Nat.le_of_ble_eq_true rfl) hRf) (Nat.le_trans (Nat.le_of_ble_eq_true rfl) hRl) hcs dX9_worse_134 (fun H locs hw hS => ?_)
            refine lv_iload hx hb dX9_worse_137 (lv_at hl 2 rfl) ?_
            obtain ⟨v27, h28, hm⟩ := bind_e hm
            refine sX9_243 C h28 hw hS hl.1 (Nat.le_of_ble_eq_true rfl) (Nat.le_trans (Nat.le_of_ble_eq_true rfl) hRf) (Nat.le_trans (Nat.le_of_ble_eq_true rfl) hRl) hcs dX9_worse_139 (fun H locs hw hS => ?_)
            obtain ⟨rfl, rfl⟩ := inj2 hm
            exact xret_l C hw hS dX9_worse_142
          · replace hm := ite_n cc hm
            refine lv_ldc2 (v := (-4611686018427387904)) hx hb ho (hts (.constantLong RX9 167 (-4611686018427387904)) (tg 1130 (by decide +kernel) rfl)) dX9_worse_45 ?_
            obtain ⟨rfl, rfl⟩ := inj2 hm
            exact xret_l C hw hS dX9_worse_48
theorem dX9_unevenness_0 : decode cX9_unevenness 0 = .ok (.ldc2_w 257, 3) := by decide +kernel
theorem dX9_unevenness_3 : decode cX9_unevenness 3 = .ok (.lstore_n 2, 1) := by decide +kernel
theorem dX9_unevenness_4 : decode cX9_unevenness 4 = .ok (.ldc2_w 257, 3) := by decide +kernel
theorem dX9_unevenness_7 : decode cX9_unevenness 7 = .ok (.lstore 4, 2) := by decide +kernel
theorem dX9_unevenness_9 : decode cX9_unevenness 9 = .ok (.iconst 0, 1) := by decide +kernel
theorem dX9_unevenness_10 : decode cX9_unevenness 10 = .ok (.istore 6, 2) := by decide +kernel
theorem dX9_unevenness_12 : decode cX9_unevenness 12 = .ok (.iload 6, 2) := by decide +kernel
theorem dX9_unevenness_14 : decode cX9_unevenness 14 = .ok (.aload_n 0, 1) := by decide +kernel
theorem dX9_unevenness_15 : decode cX9_unevenness 15 = .ok (.getfield 129, 3) := by decide +kernel
theorem dX9_unevenness_18 : decode cX9_unevenness 18 = .ok (.if_icmp .ge 71, 3) := by decide +kernel
theorem dX9_unevenness_21 : decode cX9_unevenness 21 = .ok (.aload_n 0, 1) := by decide +kernel
theorem dX9_unevenness_22 : decode cX9_unevenness 22 = .ok (.iload_n 1, 1) := by decide +kernel
theorem dX9_unevenness_23 : decode cX9_unevenness 23 = .ok (.iload 6, 2) := by decide +kernel
theorem dX9_unevenness_25 : decode cX9_unevenness 25 = .ok (.invokevirtual 196, 3) := by decide +kernel
theorem dX9_unevenness_28 : decode cX9_unevenness 28 = .ok (.ifCond .ne 6, 3) := by decide +kernel
theorem dX9_unevenness_31 : decode cX9_unevenness 31 = .ok (.goto 52, 3) := by decide +kernel
theorem dX9_unevenness_34 : decode cX9_unevenness 34 = .ok (.aload_n 0, 1) := by decide +kernel
theorem dX9_unevenness_35 : decode cX9_unevenness 35 = .ok (.iload_n 1, 1) := by decide +kernel
theorem dX9_unevenness_36 : decode cX9_unevenness 36 = .ok (.iload 6, 2) := by decide +kernel
theorem dX9_unevenness_38 : decode cX9_unevenness 38 = .ok (.invokevirtual 235, 3) := by decide +kernel
theorem dX9_unevenness_41 : decode cX9_unevenness 41 = .ok (.lstore 7, 2) := by decide +kernel
theorem dX9_unevenness_43 : decode cX9_unevenness 43 = .ok (.lload 7, 2) := by decide +kernel
theorem dX9_unevenness_45 : decode cX9_unevenness 45 = .ok (.lload_n 2, 1) := by decide +kernel
theorem dX9_unevenness_46 : decode cX9_unevenness 46 = .ok (.lcmp, 1) := by decide +kernel
theorem dX9_unevenness_47 : decode cX9_unevenness 47 = .ok (.ifCond .le 12, 3) := by decide +kernel
theorem dX9_unevenness_50 : decode cX9_unevenness 50 = .ok (.lload 7, 2) := by decide +kernel
theorem dX9_unevenness_52 : decode cX9_unevenness 52 = .ok (.lstore_n 2, 1) := by decide +kernel
theorem dX9_unevenness_53 : decode cX9_unevenness 53 = .ok (.aload_n 0, 1) := by decide +kernel
theorem dX9_unevenness_54 : decode cX9_unevenness 54 = .ok (.iload 6, 2) := by decide +kernel
theorem dX9_unevenness_56 : decode cX9_unevenness 56 = .ok (.putfield 259, 3) := by decide +kernel
theorem dX9_unevenness_59 : decode cX9_unevenness 59 = .ok (.lload 4, 2) := by decide +kernel
theorem dX9_unevenness_61 : decode cX9_unevenness 61 = .ok (.lconst 0, 1) := by decide +kernel
theorem dX9_unevenness_62 : decode cX9_unevenness 62 = .ok (.lcmp, 1) := by decide +kernel
theorem dX9_unevenness_63 : decode cX9_unevenness 63 = .ok (.ifCond .lt 11, 3) := by decide +kernel
theorem dX9_unevenness_66 : decode cX9_unevenness 66 = .ok (.lload 7, 2) := by decide +kernel
theorem dX9_unevenness_68 : decode cX9_unevenness 68 = .ok (.lload 4, 2) := by decide +kernel
theorem dX9_unevenness_70 : decode cX9_unevenness 70 = .ok (.lcmp, 1) := by decide +kernel
theorem dX9_unevenness_71 : decode cX9_unevenness 71 = .ok (.ifCond .ge 8, 3) := by decide +kernel
theorem dX9_unevenness_74 : decode cX9_unevenness 74 = .ok (.lload 7, 2) := by decide +kernel
theorem dX9_unevenness_76 : decode cX9_unevenness 76 = .ok (.goto 5, 3) := by decide +kernel
theorem dX9_unevenness_79 : decode cX9_unevenness 79 = .ok (.lload 4, 2) := by decide +kernel
theorem dX9_unevenness_81 : decode cX9_unevenness 81 = .ok (.lstore 4, 2) := by decide +kernel
theorem dX9_unevenness_83 : decode cX9_unevenness 83 = .ok (.iinc 6 1, 3) := by decide +kernel
theorem dX9_unevenness_86 : decode cX9_unevenness 86 = .ok (.goto (-74), 3) := by decide +kernel
theorem dX9_unevenness_89 : decode cX9_unevenness 89 = .ok (.lload_n 2, 1) := by decide +kernel
theorem dX9_unevenness_90 : decode cX9_unevenness 90 = .ok (.lload 4, 2) := by decide +kernel
theorem dX9_unevenness_92 : decode cX9_unevenness 92 = .ok (.lsub, 1) := by decide +kernel
theorem dX9_unevenness_93 : decode cX9_unevenness 93 = .ok (.lreturn, 1) := by decide +kernel
theorem pX9_259 {p : Program} {l : Launch} {e : Env} {R : Room} {s : State} {m : MethodId} {args : Array Value} {below : List Frame} {meth : Method} {c : Code} {H : Heap} {locs : List Loc} {cells slots : Nat} {Q : State → Prop} {cc : ByteArray} {pc nL : Nat} {ls : Array Slot} {rest : List Value} {ret : Option FieldType} {G : xG} {β N : Nat} {x : MS} {v : Int32} (C : Cx p s m args meth c RX9 cc nL ret (KK G)) (hw : MW β G N x H) (hS : va_S (AM β) s.heap H locs) (hd : decode cc pc = .ok (.putfield 259, 3)) (kk : ∀ (H1 : Heap) (locs1 : List Loc), MW β G N (msS x 0 20 v) H1 → va_S (AM β) s.heap H1 locs1 → W p l e R s m args below meth c H1 locs1 cells slots Q (F0 m (pc + 3) ls (rest))) : W p l e R s m args below meth c H locs cells slots Q (F0 m pc ls (.int v :: .ref β :: rest)) :=
  x_put C.1 C.2.1 C.2.2.2.2.1 iwX9 tyX9 tyX9_ok nmX9 C.2.2.2.1 C.K.1 hS (hw.2 0 (by decide)) (AM.in (by decide)) rfl 20 (by decide) (C.2.2.2.2.1 (.fieldLink RX9 259 RX9 "foremost" "I") (tg 936 (by decide +kernel) rfl)) (fun _ h9 => h9) rfl (ty := .int) (by decide +kernel) rfl rfl (Nat.le_of_ble_eq_true rfl) hd (fun H1 locs1 hat ho hS => kk H1 locs1 (hw.setS 0 20 v hat ho) hS)
def BX9_unevenness_12 (q1 : Int32) (lp : Int64 → Int64 → Int32 → MS → Option (Int64 × Int64 × MS)) (u2 : Int64) (u4 : Int64) (u6 : Int32) (x : MS) : Option (Int64 × Int64 × MS) := if (x.1 0 13) ≤ u6 then some (u2, u4, x) else Option.bind (fX9_isOf x q1 u6) fun v1 => if v1 = true then bind2 (fX9_sixtieths x q1 u6) fun v3 x4 => bind2 (if v3 ≤ u2 then some (u2, x4) else lt (msS x4 0 20 u6) fun x6 => some (v3, x6)) fun v7 x8 => if u4 < 0 then lt (u6 + 1) fun v9 => lp v7 v3 v9 x8 else if u4 ≤ v3 then lt (u6 + 1) fun v10 => lp v7 u4 v10 x8 else lt (u6 + 1) fun v11 => lp v7 v3 v11 x8 else lt (u6 + 1) fun v12 => lp u2 u4 v12 x
def LX9_unevenness_12 (q1 : Int32) : Nat → Int64 → Int64 → Int32 → MS → Option (Int64 × Int64 × MS)
  | 0, _, _, _, _ => none
  | n + 1, u2, u4, u6, x => BX9_unevenness_12 q1 (LX9_unevenness_12 q1 n) u2 u4 u6 x
def fX9_unevenness (x : MS) (a1 : Int32) : Option (Int64 × MS) := bind3 (LX9_unevenness_12 a1 NF (-1) (-1) 0 x) fun v13 v14 x15 => some (v13 - v14, x15)
set_option maxHeartbeats 4000000 in
set_option maxRecDepth 100000 in
theorem lX9_unevenness_12 {p : Program} {l : Launch} {e : Env} {R : Room} {s : State} {m : MethodId} {args : Array Value} {below : List Frame} {meth : Method} {c : Code} {cells slots : Nat} {Q : State → Prop} {G : xG} {β N : Nat} (C : Cx p s m args meth c RX9 cX9_unevenness 9 (some .long) (KK G)) (hRf : 5 ≤ R.frames) (hRl : 122 ≤ R.locals) (hcs : cells ≤ R.cells ∧ slots ≤ R.slots) (q1 : Int32) : ∀ (n : Nat) (u2 : Int64) (u4 : Int64) (u6 : Int32) (x : MS) (J : Int64 × Int64 × MS) (H : Heap) (locs : List Loc) (ls : Array Slot), LX9_unevenness_12 q1 n u2 u4 u6 x = some J → MW β G N x H → va_S (AM β) s.heap H locs → lv_has ls 9 [(0, .ref β), (1, .int q1), (2, .long u2), (4, .long u4), (6, .int u6)] → (∀ (w2 : Int64) (w4 : Int64) (x1 : MS), J = (w2, w4, x1) → ∀ (H : Heap) (locs : List Loc) (ls : Array Slot), MW β G N x1 H → va_S (AM β) s.heap H locs → lv_has ls 9 [(2, .long w2), (4, .long w4)] → W p l e R s m args below meth c H locs cells slots Q (F0 m 89 ls [])) → W p l e R s m args below meth c H locs cells slots Q (F0 m 12 ls []) := by
  have hx := C.1
  have hb := C.2.1
  have ho := C.2.2.2.1
  have hts := C.2.2.2.2.1
  intro n
  induction n with
  | zero =>
    intro u2 u4 u6 x J H locs ls hm
    exact absurd hm (by simp [LX9_unevenness_12])
  | succ n ih =>
    intro u2 u4 u6 x J H locs ls hm hw hS hl ke
    replace hm : BX9_unevenness_12 q1 (LX9_unevenness_12 q1 n) u2 u4 u6 x = some J := hm
    unfold BX9_unevenness_12 at hm
    refine lv_iload hx hb dX9_unevenness_12 (lv_at hl 4 rfl) ?_
    refine lv_aload_n hx hb dX9_unevenness_14 rfl (lv_at hl 0 rfl) ?_
    refine gX9_129 C hw dX9_unevenness_15 ?_
    refine lv_icmp_ge (tgt := 89) hx hb dX9_unevenness_18 (by decide) (fun cc => ?_) (fun cc => ?_)
    · replace hm := ite_p cc hm
      exact ke _ _ _ (Option.some.inj hm).symm _ _ _ hw hS (lv_sub hl [2, 3] rfl)
    · replace hm := ite_n cc hm
      refine lv_aload_n hx hb dX9_unevenness_21 rfl (lv_at hl 0 rfl) ?_
      refine lv_iload_n hx hb dX9_unevenness_22 rfl (lv_at hl 1 rfl) ?_
      refine lv_iload hx hb dX9_unevenness_23 (lv_at hl 4 rfl) ?_
      obtain ⟨v1, h2, hm⟩ := bind_e hm
      refine sX9_196 C h2 hw hS hl.1 (Nat.le_of_ble_eq_true rfl) (Nat.le_trans (Nat.le_of_ble_eq_true rfl) hRf) (Nat.le_trans (Nat.le_of_ble_eq_true rfl) hRl) hcs dX9_unevenness_25 (fun H locs hw hS => ?_)
      refine x_ifneB hx hb dX9_unevenness_28 (tgt := 34) (by decide) (fun cc => ?_) (fun cc => ?_)
      · replace hm := ite_p cc hm
        refine lv_aload_n hx hb dX9_unevenness_34 rfl (lv_at hl 0 rfl) ?_
        refine lv_iload_n hx hb dX9_unevenness_35 rfl (lv_at hl 1 rfl) ?_
        refine lv_iload hx hb dX9_unevenness_36 (lv_at hl 4 rfl) ?_
        obtain ⟨v3, x4, h5, hm⟩ := bind2_e hm
        refine sX9_235 C h5 hw hS hl.1 (Nat.le_of_ble_eq_true rfl) (Nat.le_trans (Nat.le_of_ble_eq_true rfl) hRf) (Nat.le_trans (Nat.le_of_ble_eq_true rfl) hRl) hcs dX9_unevenness_38 (fun H locs hw hS => ?_)
        refine lv_lstore (lv' := [(7, .long v3), (0, .ref β), (1, .int q1), (2, .long u2), (4, .long u4), (6, .int u6)]) hx hb dX9_unevenness_41 hl (by decide) rfl (fun ls hl => ?_)
        refine lv_lload hx hb dX9_unevenness_43 (lv_at hl 0 rfl) ?_
        refine lv_lload_n hx hb dX9_unevenness_45 rfl (lv_at hl 3 rfl) ?_
        refine W.lcmp hx hb dX9_unevenness_46 ?_
        obtain ⟨v7, x8, hj, hm⟩ := bind2_e hm
        have kk : ∀ (H : Heap) (locs : List Loc) (ls : Array Slot), MW β G N x8 H → va_S (AM β) s.heap H locs → lv_has ls 9 [(0, .ref β), (1, .int q1), (2, .long v7), (4, .long u4), (6, .int u6), (7, .long v3)] → W p l e R s m args below meth c H locs cells slots Q (F0 m 59 ls []) := by
          intro H locs ls hw hS hl
          refine lv_lload hx hb dX9_unevenness_59 (lv_at hl 3 rfl) ?_
          refine lv_lconst (v := 0) hx hb dX9_unevenness_61 (by decide) ?_
          refine W.lcmp hx hb dX9_unevenness_62 ?_
          refine lv_if_lt (tgt := 74) hx hb dX9_unevenness_63 (by decide) (fun cc => ?_) (fun cc => ?_)
          · rw [lg_cmp_lt] at cc
            replace hm := ite_p cc hm
            refine lv_lload hx hb dX9_unevenness_74 (lv_at hl 5 rfl) ?_
            refine lv_goto (tgt := 81) hx hb dX9_unevenness_76 (by decide) ?_
            refine lv_lstore (lv' := [(4, .long v3), (0, .ref β), (1, .int q1), (2, .long v7), (6, .int u6), (7, .long v3)]) hx hb dX9_unevenness_81 hl (by decide) rfl (fun ls hl => ?_)
            obtain ⟨v9, ev, hm⟩ := lt_e hm
            refine lv_iinc (v := v9) (lv' := [(6, .int v9), (4, .long v3), (0, .ref β), (1, .int q1), (2, .long v7), (7, .long v3)]) hx hb dX9_unevenness_83 hl (k := 4) rfl (by rw [ev]; rfl) (by decide) rfl (fun ls hl => ?_)
            clear ev
            refine lv_goto (tgt := 12) hx hb dX9_unevenness_86 (by decide) ?_
            exact ih _ _ _ _ _ _ _ _ hm hw hS (lv_sub hl [2, 3, 4, 1, 0] rfl) ke
          · rw [lg_cmp_lt] at cc
            replace hm := ite_n cc hm
            refine lv_lload hx hb dX9_unevenness_66 (lv_at hl 5 rfl) ?_
            refine lv_lload hx hb dX9_unevenness_68 (lv_at hl 3 rfl) ?_
            refine W.lcmp hx hb dX9_unevenness_70 ?_
            refine lv_if_ge (tgt := 79) hx hb dX9_unevenness_71 (by decide) (fun cc => ?_) (fun cc => ?_)
            · rw [lg_cmp_ge] at cc
              replace hm := ite_p cc hm
              refine lv_lload hx hb dX9_unevenness_79 (lv_at hl 3 rfl) ?_
              refine lv_lstore (lv' := [(4, .long u4), (0, .ref β), (1, .int q1), (2, .long v7), (6, .int u6), (7, .long v3)]) hx hb dX9_unevenness_81 hl (by decide) rfl (fun ls hl => ?_)
              obtain ⟨v10, ev, hm⟩ := lt_e hm
              refine lv_iinc (v := v10) (lv' := [(6, .int v10), (4, .long u4), (0, .ref β), (1, .int q1), (2, .long v7), (7, .long v3)]) hx hb dX9_unevenness_83 hl (k := 4) rfl (by rw [ev]; rfl) (by decide) rfl (fun ls hl => ?_)
              clear ev
              refine lv_goto (tgt := 12) hx hb dX9_unevenness_86 (by decide) ?_
              exact ih _ _ _ _ _ _ _ _ hm hw hS (lv_sub hl [2, 3, 4, 1, 0] rfl) ke
            · rw [lg_cmp_ge] at cc
              replace hm := ite_n cc hm
              refine lv_lload hx hb dX9_unevenness_74 (lv_at hl 5 rfl) ?_
              refine lv_goto (tgt := 81) hx hb dX9_unevenness_76 (by decide) ?_
              refine lv_lstore (lv' := [(4, .long v3), (0, .ref β), (1, .int q1), (2, .long v7), (6, .int u6), (7, .long v3)]) hx hb dX9_unevenness_81 hl (by decide) rfl (fun ls hl => ?_)
              obtain ⟨v11, ev, hm⟩ := lt_e hm
              refine lv_iinc (v := v11) (lv' := [(6, .int v11), (4, .long v3), (0, .ref β), (1, .int q1), (2, .long v7), (7, .long v3)]) hx hb dX9_unevenness_83 hl (k := 4) rfl (by rw [ev]; rfl) (by decide) rfl (fun ls hl => ?_)
              clear ev
              refine lv_goto (tgt := 12) hx hb dX9_unevenness_86 (by decide) ?_
              exact ih _ _ _ _ _ _ _ _ hm hw hS (lv_sub hl [2, 3, 4, 1, 0] rfl) ke
        clear hm
        replace hm := hj
        clear hj
        refine lv_if_le (tgt := 59) hx hb dX9_unevenness_47 (by decide) (fun cc => ?_) (fun cc => ?_)
        · rw [lg_cmp_le] at cc
          replace hm := ite_p cc hm
          obtain ⟨rfl, rfl⟩ := inj2 hm
          exact kk _ _ _ hw hS (lv_sub hl [1, 2, 3, 4, 5, 0] rfl)
        · rw [lg_cmp_le] at cc
          replace hm := ite_n cc hm
          refine lv_lload hx hb dX9_unevenness_50 (lv_at hl 0 rfl) ?_
          refine lv_lstore_n (lv' := [(2, .long v3), (7, .long v3), (0, .ref β), (1, .int q1), (4, .long u4), (6, .int u6)]) hx hb dX9_unevenness_52 rfl hl (by decide) rfl (fun ls hl => ?_)
          refine lv_aload_n hx hb dX9_unevenness_53 rfl (lv_at hl 2 rfl) ?_
          refine lv_iload hx hb dX9_unevenness_54 (lv_at hl 5 rfl) ?_
          refine pX9_259 C hw hS dX9_unevenness_56 (fun H locs hw hS => ?_)
          obtain ⟨x6, ev, hm⟩ := lt_e hm
          rw [← ev] at hw
          clear ev
          obtain ⟨rfl, rfl⟩ := inj2 hm
          exact kk _ _ _ hw hS (lv_sub hl [2, 3, 0, 4, 5, 1] rfl)
      · replace hm := ite_n cc hm
        refine lv_goto (tgt := 83) hx hb dX9_unevenness_31 (by decide) ?_
        obtain ⟨v12, ev, hm⟩ := lt_e hm
        refine lv_iinc (v := v12) (lv' := [(6, .int v12), (0, .ref β), (1, .int q1), (2, .long u2), (4, .long u4)]) hx hb dX9_unevenness_83 hl (k := 4) rfl (by rw [ev]; rfl) (by decide) rfl (fun ls hl => ?_)
        clear ev
        refine lv_goto (tgt := 12) hx hb dX9_unevenness_86 (by decide) ?_
        exact ih _ _ _ _ _ _ _ _ hm hw hS (lv_sub hl [1, 2, 3, 4, 0] rfl) ke
abbrev rmX9_unevenness : Room := { frames := 5, cells := 0, slots := 0, locals := 122 }
set_option maxHeartbeats 4000000 in
set_option maxRecDepth 100000 in
theorem kX9_unevenness {l : Launch} {G : xG} {β N : Nat} {x x' : MS} {a1 : Int32} {r : Int64} (hm : fX9_unevenness x a1 = some (r, x')) : Met l yX9_unevenness (.code yX9_unevenness cX9_unevenness 9 (some .long) :: GT) rmX9_unevenness (PcW [.ref β, .int a1] (MW β G N x) (KK G)) (QcW (AM β) (some (.long r)) (MW β G N x')) 0 0 (AM β) := by
  unfold fX9_unevenness at hm
  refine xpro (own := RX9) (by decide +kernel) rfl (Nat.le_of_ble_eq_true rfl) ?_
  intro p e s m args below meth c C hw ls hl
  have hx := C.1
  have hb := C.2.1
  have ho := C.2.2.2.1
  have hts := C.2.2.2.2.1
  have hS : va_S (AM β) s.heap s.heap [] := va_S.rf
  have hl : lv_has ls 9 [(0, .ref β), (1, .int a1)] := hl
  have hRf : 5 ≤ rmX9_unevenness.frames := Nat.le_refl _
  have hRl : 122 ≤ rmX9_unevenness.locals := Nat.le_refl _
  have hcs : 0 ≤ rmX9_unevenness.cells ∧ 0 ≤ rmX9_unevenness.slots := ⟨Nat.le_refl _, Nat.le_refl _⟩
  refine lv_ldc2 (v := (-1)) hx hb ho (hts (.constantLong RX9 257 (-1)) (tg 1164 (by decide +kernel) rfl)) dX9_unevenness_0 ?_
  refine lv_lstore_n (lv' := [(2, .long (-1)), (0, .ref β), (1, .int a1)]) hx hb dX9_unevenness_3 rfl hl (by decide) rfl (fun ls hl => ?_)
  refine lv_ldc2 (v := (-1)) hx hb ho (hts (.constantLong RX9 257 (-1)) (tg 1164 (by decide +kernel) rfl)) dX9_unevenness_4 ?_
  refine lv_lstore (lv' := [(4, .long (-1)), (2, .long (-1)), (0, .ref β), (1, .int a1)]) hx hb dX9_unevenness_7 hl (by decide) rfl (fun ls hl => ?_)
  refine lv_iconst (v := 0) hx hb dX9_unevenness_9 (by decide) ?_
  refine lv_istore (lv' := [(6, .int 0), (4, .long (-1)), (2, .long (-1)), (0, .ref β), (1, .int a1)]) hx hb dX9_unevenness_10 hl (by decide) rfl (fun ls hl => ?_)
  obtain ⟨v13, v14, x15, hj, hm⟩ := bind3_e hm
  refine lX9_unevenness_12 C hRf hRl hcs a1 NF _ _ _ _ _ _ _ _ hj hw hS (lv_sub hl [3, 4, 2, 1, 0] rfl) (fun v13_ v14_ x15_ e0 H locs ls hw hS hl => ?_)
  cases e0
  refine lv_lload_n hx hb dX9_unevenness_89 rfl (lv_at hl 0 rfl) ?_
  refine lv_lload hx hb dX9_unevenness_90 (lv_at hl 1 rfl) ?_
  refine lv_lsub hx hb dX9_unevenness_92 ?_
  obtain ⟨rfl, rfl⟩ := inj2 hm
  exact xret_l C hw hS dX9_unevenness_93
theorem dX9_even_0 : decode cX9_even 0 = .ok (.aload_n 0, 1) := by decide +kernel
theorem dX9_even_1 : decode cX9_even 1 = .ok (.iload_n 1, 1) := by decide +kernel
theorem dX9_even_2 : decode cX9_even 2 = .ok (.invokevirtual 222, 3) := by decide +kernel
theorem dX9_even_5 : decode cX9_even 5 = .ok (.ifCond .eq 17, 3) := by decide +kernel
theorem dX9_even_8 : decode cX9_even 8 = .ok (.iload_n 2, 1) := by decide +kernel
theorem dX9_even_9 : decode cX9_even 9 = .ok (.invokestatic 225, 3) := by decide +kernel
theorem dX9_even_12 : decode cX9_even 12 = .ok (.ifCond .eq 10, 3) := by decide +kernel
theorem dX9_even_15 : decode cX9_even 15 = .ok (.iload_n 3, 1) := by decide +kernel
theorem dX9_even_16 : decode cX9_even 16 = .ok (.invokestatic 228, 3) := by decide +kernel
theorem dX9_even_19 : decode cX9_even 19 = .ok (.ifCond .ne 7, 3) := by decide +kernel
theorem dX9_even_22 : decode cX9_even 22 = .ok (.ldc2_w 167, 3) := by decide +kernel
theorem dX9_even_25 : decode cX9_even 25 = .ok (.lreturn, 1) := by decide +kernel
theorem dX9_even_26 : decode cX9_even 26 = .ok (.aload_n 0, 1) := by decide +kernel
theorem dX9_even_27 : decode cX9_even 27 = .ok (.iload_n 1, 1) := by decide +kernel
theorem dX9_even_28 : decode cX9_even 28 = .ok (.iload_n 2, 1) := by decide +kernel
theorem dX9_even_29 : decode cX9_even 29 = .ok (.invokevirtual 231, 3) := by decide +kernel
theorem dX9_even_32 : decode cX9_even 32 = .ok (.aload_n 0, 1) := by decide +kernel
theorem dX9_even_33 : decode cX9_even 33 = .ok (.iload_n 1, 1) := by decide +kernel
theorem dX9_even_34 : decode cX9_even 34 = .ok (.invokevirtual 262, 3) := by decide +kernel
theorem dX9_even_37 : decode cX9_even 37 = .ok (.ldc2_w 154, 3) := by decide +kernel
theorem dX9_even_40 : decode cX9_even 40 = .ok (.aload_n 0, 1) := by decide +kernel
theorem dX9_even_41 : decode cX9_even 41 = .ok (.iload_n 1, 1) := by decide +kernel
theorem dX9_even_42 : decode cX9_even 42 = .ok (.invokevirtual 239, 3) := by decide +kernel
theorem dX9_even_45 : decode cX9_even 45 = .ok (.lmul, 1) := by decide +kernel
theorem dX9_even_46 : decode cX9_even 46 = .ok (.iload_n 3, 1) := by decide +kernel
theorem dX9_even_47 : decode cX9_even 47 = .ok (.invokestatic 243, 3) := by decide +kernel
theorem dX9_even_50 : decode cX9_even 50 = .ok (.lreturn, 1) := by decide +kernel
theorem sX9_262 {p : Program} {l : Launch} {e : Env} {R : Room} {s : State} {m : MethodId} {args : Array Value} {below : List Frame} {meth : Method} {c : Code} {H : Heap} {locs : List Loc} {cells slots : Nat} {Q : State → Prop} {cc : ByteArray} {pc nL : Nat} {ls : Array Slot} {rest : List Value} {ret : Option FieldType} {G : xG} {β N : Nat} {x x' : MS} {a1 : Int32} {r : Int64} (C : Cx p s m args meth c RX9 cc nL ret (KK G)) (h : fX9_unevenness x a1 = some (r, x')) (hw : MW β G N x H) (hS : va_S (AM β) s.heap H locs) (hsz : ls.size = nL) (hW : (rest.map fun v => v.category).sum ≤ 8) (hR : 6 ≤ R.frames) (hR2 : 150 ≤ R.locals) (hcs : cells ≤ R.cells ∧ slots ≤ R.slots) (hd : decode cc pc = .ok (.invokevirtual 262, 3)) (kk : ∀ (H1 : Heap) (locs1 : List Loc), MW β G N x' H1 → va_S (AM β) s.heap H1 locs1 → W p l e R s m args below meth c H1 locs1 cells slots Q (F0 m (pc + 3) ls (.long r :: rest))) : W p l e R s m args below meth c H locs cells slots Q (F0 m pc ls (.int a1 :: .ref β :: rest)) :=
  xcallV C (As := [.int a1]) (rest := rest) (nA := 1) (ci := 9) (kX9_unevenness h) (tg 1313 (by decide +kernel) rfl) (tg 1315 (by decide +kernel) rfl) (sg (List.mem_of_getElem? (i := 87) (by decide +kernel)) rfl) (tg 14 (by decide +kernel) rfl) (tg 1316 (by decide +kernel) rfl) ⟨rfl, by decide +kernel, by decide +kernel, by decide +kernel⟩ rfl rfl rfl ⟨hR, hR2⟩ (hw.2 0 (by decide)) hw hS (fun _ q => q) rfl rfl hsz hW hd hcs (fun H1 locs1 hw hz hk hS => kk H1 locs1 hw hS)
def fX9_even (x : MS) (a1 : Int32) (a2 : Int32) (a3 : Int32) : Option (Int64 × MS) := Option.bind (fX9_isField x a1) fun v1 => if v1 = true then Option.bind (fX9_isWhen a2) fun v3 => if v3 = true then Option.bind (fX9_isPart a3) fun v5 => if v5 = true then Option.bind (fX9_lays x a1 a2) fun x7 => bind2 (fX9_unevenness x7 a1) fun v9 x10 => Option.bind (fX9_cases x10 a1) fun v12 => Option.bind (fX9_lowest v9 (60 * v12) a3) fun v14 => some (v14, x10) else some ((-4611686018427387904), x) else some ((-4611686018427387904), x) else some ((-4611686018427387904), x)
abbrev rmX9_even : Room := { frames := 6, cells := 0, slots := 0, locals := 150 }
set_option maxHeartbeats 4000000 in
set_option maxRecDepth 100000 in
theorem kX9_even {l : Launch} {G : xG} {β N : Nat} {x x' : MS} {a1 : Int32} {a2 : Int32} {a3 : Int32} {r : Int64} (hm : fX9_even x a1 a2 a3 = some (r, x')) : Met l yX9_even (.code yX9_even cX9_even 4 (some .long) :: GT) rmX9_even (PcW [.ref β, .int a1, .int a2, .int a3] (MW β G N x) (KK G)) (QcW (AM β) (some (.long r)) (MW β G N x')) 0 0 (AM β) := by
  unfold fX9_even at hm
  refine xpro (own := RX9) (by decide +kernel) rfl (Nat.le_of_ble_eq_true rfl) ?_
  intro p e s m args below meth c C hw ls hl
  have hx := C.1
  have hb := C.2.1
  have ho := C.2.2.2.1
  have hts := C.2.2.2.2.1
  have hS : va_S (AM β) s.heap s.heap [] := va_S.rf
  have hl : lv_has ls 4 [(0, .ref β), (1, .int a1), (2, .int a2), (3, .int a3)] := hl
  have hRf : 6 ≤ rmX9_even.frames := Nat.le_refl _
  have hRl : 150 ≤ rmX9_even.locals := Nat.le_refl _
  have hcs : 0 ≤ rmX9_even.cells ∧ 0 ≤ rmX9_even.slots := ⟨Nat.le_refl _, Nat.le_refl _⟩
  refine lv_aload_n hx hb dX9_even_0 rfl (lv_at hl 0 rfl) ?_
  refine lv_iload_n hx hb dX9_even_1 rfl (lv_at hl 1 rfl) ?_
  obtain ⟨v1, h2, hm⟩ := bind_e hm
  refine sX9_222 C h2 hw hS hl.1 (Nat.le_of_ble_eq_true rfl) (Nat.le_trans (Nat.le_of_ble_eq_true rfl) hRf) (Nat.le_trans (Nat.le_of_ble_eq_true rfl) hRl) hcs dX9_even_2 (fun H locs hw hS => ?_)
  refine x_ifeqB hx hb dX9_even_5 (tgt := 22) (by decide) (fun cc => ?_) (fun cc => ?_)
  · replace hm := ite_n cc hm
    refine lv_ldc2 (v := (-4611686018427387904)) hx hb ho (hts (.constantLong RX9 167 (-4611686018427387904)) (tg 1130 (by decide +kernel) rfl)) dX9_even_22 ?_
    obtain ⟨rfl, rfl⟩ := inj2 hm
    exact xret_l C hw hS dX9_even_25
  · replace hm := ite_p cc hm
    refine lv_iload_n hx hb dX9_even_8 rfl (lv_at hl 2 rfl) ?_
    obtain ⟨v3, h4, hm⟩ := bind_e hm
    refine sX9_225 C h4 hw hS hl.1 (Nat.le_of_ble_eq_true rfl) (Nat.le_trans (Nat.le_of_ble_eq_true rfl) hRf) (Nat.le_trans (Nat.le_of_ble_eq_true rfl) hRl) hcs dX9_even_9 (fun H locs hw hS => ?_)
    refine x_ifeqB hx hb dX9_even_12 (tgt := 22) (by decide) (fun cc => ?_) (fun cc => ?_)
    · replace hm := ite_n cc hm
      refine lv_ldc2 (v := (-4611686018427387904)) hx hb ho (hts (.constantLong RX9 167 (-4611686018427387904)) (tg 1130 (by decide +kernel) rfl)) dX9_even_22 ?_
      obtain ⟨rfl, rfl⟩ := inj2 hm
      exact xret_l C hw hS dX9_even_25
    · replace hm := ite_p cc hm
      refine lv_iload_n hx hb dX9_even_15 rfl (lv_at hl 3 rfl) ?_
      obtain ⟨v5, h6, hm⟩ := bind_e hm
      refine sX9_228 C h6 hw hS hl.1 (Nat.le_of_ble_eq_true rfl) (Nat.le_trans (Nat.le_of_ble_eq_true rfl) hRf) (Nat.le_trans (Nat.le_of_ble_eq_true rfl) hRl) hcs dX9_even_16 (fun H locs hw hS => ?_)
      refine x_ifneB hx hb dX9_even_19 (tgt := 26) (by decide) (fun cc => ?_) (fun cc => ?_)
      · replace hm := ite_p cc hm
        refine lv_aload_n hx hb dX9_even_26 rfl (lv_at hl 0 rfl) ?_
        refine lv_iload_n hx hb dX9_even_27 rfl (lv_at hl 1 rfl) ?_
        refine lv_iload_n hx hb dX9_even_28 rfl (lv_at hl 2 rfl) ?_
        obtain ⟨x7, h8, hm⟩ := bind_e hm
        refine sX9_231 C h8 hw hS hl.1 (Nat.le_of_ble_eq_true rfl) (Nat.le_trans (Nat.le_of_ble_eq_true rfl) hRf) (Nat.le_trans (Nat.le_of_ble_eq_true rfl) hRl) hcs dX9_even_29 (fun H locs hw hS => ?_)
        refine lv_aload_n hx hb dX9_even_32 rfl (lv_at hl 0 rfl) ?_
        refine lv_iload_n hx hb dX9_even_33 rfl (lv_at hl 1 rfl) ?_
        obtain ⟨v9, x10, h11, hm⟩ := bind2_e hm
        refine sX9_262 C h11 hw hS hl.1 (Nat.le_of_ble_eq_true rfl) (Nat.le_trans (Nat.le_of_ble_eq_true rfl) hRf) (Nat.le_trans (Nat.le_of_ble_eq_true rfl) hRl) hcs dX9_even_34 (fun H locs hw hS => ?_)
        refine lv_ldc2 (v := 60) hx hb ho (hts (.constantLong RX9 154 60) (tg 1111 (by decide +kernel) rfl)) dX9_even_37 ?_
        refine lv_aload_n hx hb dX9_even_40 rfl (lv_at hl 0 rfl) ?_
        refine lv_iload_n hx hb dX9_even_41 rfl (lv_at hl 1 rfl) ?_
        obtain ⟨v12, h13, hm⟩ := bind_e hm
        refine sX9_239 C h13 hw hS hl.1 (Nat.le_of_ble_eq_true rfl) (Nat.le_trans (Nat.le_of_ble_eq_true rfl) hRf) (Nat.le_trans (Nat.le_of_ble_eq_true rfl) hRl) hcs dX9_even_42 (fun H locs hw hS => ?_)
        refine lv_lmul hx hb dX9_even_45 ?_
        refine lv_iload_n hx hb dX9_even_46 rfl (lv_at hl 3 rfl) ?_
        obtain ⟨v14, h15, hm⟩ := bind_e hm
        refine sX9_243 C h15 hw hS hl.1 (Nat.le_of_ble_eq_true rfl) (Nat.le_trans (Nat.le_of_ble_eq_true rfl) hRf) (Nat.le_trans (Nat.le_of_ble_eq_true rfl) hRl) hcs dX9_even_47 (fun H locs hw hS => ?_)
        obtain ⟨rfl, rfl⟩ := inj2 hm
        exact xret_l C hw hS dX9_even_50
      · replace hm := ite_n cc hm
        refine lv_ldc2 (v := (-4611686018427387904)) hx hb ho (hts (.constantLong RX9 167 (-4611686018427387904)) (tg 1130 (by decide +kernel) rfl)) dX9_even_22 ?_
        obtain ⟨rfl, rfl⟩ := inj2 hm
        exact xret_l C hw hS dX9_even_25
theorem dX9_nears_0 : decode cX9_nears 0 = .ok (.iconst 0, 1) := by decide +kernel
theorem dX9_nears_1 : decode cX9_nears 1 = .ok (.istore_n 3, 1) := by decide +kernel
theorem dX9_nears_2 : decode cX9_nears 2 = .ok (.iconst 1, 1) := by decide +kernel
theorem dX9_nears_3 : decode cX9_nears 3 = .ok (.istore 4, 2) := by decide +kernel
theorem dX9_nears_5 : decode cX9_nears 5 = .ok (.iload 4, 2) := by decide +kernel
theorem dX9_nears_7 : decode cX9_nears 7 = .ok (.ifCond .eq 115, 3) := by decide +kernel
theorem dX9_nears_10 : decode cX9_nears 10 = .ok (.aload_n 0, 1) := by decide +kernel
theorem dX9_nears_11 : decode cX9_nears 11 = .ok (.iload_n 1, 1) := by decide +kernel
theorem dX9_nears_12 : decode cX9_nears 12 = .ok (.iload_n 2, 1) := by decide +kernel
theorem dX9_nears_13 : decode cX9_nears 13 = .ok (.invokevirtual 231, 3) := by decide +kernel
theorem dX9_nears_16 : decode cX9_nears 16 = .ok (.aload_n 0, 1) := by decide +kernel
theorem dX9_nears_17 : decode cX9_nears 17 = .ok (.iload_n 1, 1) := by decide +kernel
theorem dX9_nears_18 : decode cX9_nears 18 = .ok (.invokevirtual 262, 3) := by decide +kernel
theorem dX9_nears_21 : decode cX9_nears 21 = .ok (.lstore 5, 2) := by decide +kernel
theorem dX9_nears_23 : decode cX9_nears 23 = .ok (.aload_n 0, 1) := by decide +kernel
theorem dX9_nears_24 : decode cX9_nears 24 = .ok (.getfield 259, 3) := by decide +kernel
theorem dX9_nears_27 : decode cX9_nears 27 = .ok (.istore 7, 2) := by decide +kernel
theorem dX9_nears_29 : decode cX9_nears 29 = .ok (.iload_n 3, 1) := by decide +kernel
theorem dX9_nears_30 : decode cX9_nears 30 = .ok (.bipush 40, 2) := by decide +kernel
theorem dX9_nears_32 : decode cX9_nears 32 = .ok (.if_icmp .ge 19, 3) := by decide +kernel
theorem dX9_nears_35 : decode cX9_nears 35 = .ok (.aload_n 0, 1) := by decide +kernel
theorem dX9_nears_36 : decode cX9_nears 36 = .ok (.getfield 38, 3) := by decide +kernel
theorem dX9_nears_39 : decode cX9_nears 39 = .ok (.iload 7, 2) := by decide +kernel
theorem dX9_nears_41 : decode cX9_nears 41 = .ok (.iaload, 1) := by decide +kernel
theorem dX9_nears_42 : decode cX9_nears 42 = .ok (.bipush 60, 2) := by decide +kernel
theorem dX9_nears_44 : decode cX9_nears 44 = .ok (.if_icmp .ge 7, 3) := by decide +kernel
theorem dX9_nears_47 : decode cX9_nears 47 = .ok (.iconst 1, 1) := by decide +kernel
theorem dX9_nears_48 : decode cX9_nears 48 = .ok (.goto 4, 3) := by decide +kernel
theorem dX9_nears_51 : decode cX9_nears 51 = .ok (.iconst 0, 1) := by decide +kernel
theorem dX9_nears_52 : decode cX9_nears 52 = .ok (.istore 4, 2) := by decide +kernel
theorem dX9_nears_54 : decode cX9_nears 54 = .ok (.iload 4, 2) := by decide +kernel
theorem dX9_nears_56 : decode cX9_nears 56 = .ok (.ifCond .ne 6, 3) := by decide +kernel
theorem dX9_nears_59 : decode cX9_nears 59 = .ok (.goto (-54), 3) := by decide +kernel
theorem dX9_nears_62 : decode cX9_nears 62 = .ok (.aload_n 0, 1) := by decide +kernel
theorem dX9_nears_63 : decode cX9_nears 63 = .ok (.getfield 38, 3) := by decide +kernel
theorem dX9_nears_66 : decode cX9_nears 66 = .ok (.iload 7, 2) := by decide +kernel
theorem dX9_nears_68 : decode cX9_nears 68 = .ok (.dup2, 1) := by decide +kernel
theorem dX9_nears_69 : decode cX9_nears 69 = .ok (.iaload, 1) := by decide +kernel
theorem dX9_nears_70 : decode cX9_nears 70 = .ok (.iconst 1, 1) := by decide +kernel
theorem dX9_nears_71 : decode cX9_nears 71 = .ok (.iadd, 1) := by decide +kernel
theorem dX9_nears_72 : decode cX9_nears 72 = .ok (.iastore, 1) := by decide +kernel
theorem dX9_nears_73 : decode cX9_nears 73 = .ok (.aload_n 0, 1) := by decide +kernel
theorem dX9_nears_74 : decode cX9_nears 74 = .ok (.iload_n 1, 1) := by decide +kernel
theorem dX9_nears_75 : decode cX9_nears 75 = .ok (.iload_n 2, 1) := by decide +kernel
theorem dX9_nears_76 : decode cX9_nears 76 = .ok (.invokevirtual 231, 3) := by decide +kernel
theorem dX9_nears_79 : decode cX9_nears 79 = .ok (.aload_n 0, 1) := by decide +kernel
theorem dX9_nears_80 : decode cX9_nears 80 = .ok (.iload_n 1, 1) := by decide +kernel
theorem dX9_nears_81 : decode cX9_nears 81 = .ok (.invokevirtual 262, 3) := by decide +kernel
theorem dX9_nears_84 : decode cX9_nears 84 = .ok (.lload 5, 2) := by decide +kernel
theorem dX9_nears_86 : decode cX9_nears 86 = .ok (.lcmp, 1) := by decide +kernel
theorem dX9_nears_87 : decode cX9_nears 87 = .ok (.ifCond .ge 7, 3) := by decide +kernel
theorem dX9_nears_90 : decode cX9_nears 90 = .ok (.iconst 1, 1) := by decide +kernel
theorem dX9_nears_91 : decode cX9_nears 91 = .ok (.goto 4, 3) := by decide +kernel
theorem dX9_nears_94 : decode cX9_nears 94 = .ok (.iconst 0, 1) := by decide +kernel
theorem dX9_nears_95 : decode cX9_nears 95 = .ok (.istore 4, 2) := by decide +kernel
theorem dX9_nears_97 : decode cX9_nears 97 = .ok (.iload 4, 2) := by decide +kernel
theorem dX9_nears_99 : decode cX9_nears 99 = .ok (.ifCond .eq 9, 3) := by decide +kernel
theorem dX9_nears_102 : decode cX9_nears 102 = .ok (.iinc 3 1, 3) := by decide +kernel
theorem dX9_nears_105 : decode cX9_nears 105 = .ok (.goto 14, 3) := by decide +kernel
theorem dX9_nears_108 : decode cX9_nears 108 = .ok (.aload_n 0, 1) := by decide +kernel
theorem dX9_nears_109 : decode cX9_nears 109 = .ok (.getfield 38, 3) := by decide +kernel
theorem dX9_nears_112 : decode cX9_nears 112 = .ok (.iload 7, 2) := by decide +kernel
theorem dX9_nears_114 : decode cX9_nears 114 = .ok (.dup2, 1) := by decide +kernel
theorem dX9_nears_115 : decode cX9_nears 115 = .ok (.iaload, 1) := by decide +kernel
theorem dX9_nears_116 : decode cX9_nears 116 = .ok (.iconst 1, 1) := by decide +kernel
theorem dX9_nears_117 : decode cX9_nears 117 = .ok (.isub, 1) := by decide +kernel
theorem dX9_nears_118 : decode cX9_nears 118 = .ok (.iastore, 1) := by decide +kernel
theorem dX9_nears_119 : decode cX9_nears 119 = .ok (.goto (-114), 3) := by decide +kernel
theorem dX9_nears_122 : decode cX9_nears 122 = .ok (.aload_n 0, 1) := by decide +kernel
theorem dX9_nears_123 : decode cX9_nears 123 = .ok (.iload_n 1, 1) := by decide +kernel
theorem dX9_nears_124 : decode cX9_nears 124 = .ok (.iload_n 2, 1) := by decide +kernel
theorem dX9_nears_125 : decode cX9_nears 125 = .ok (.invokevirtual 231, 3) := by decide +kernel
theorem dX9_nears_128 : decode cX9_nears 128 = .ok (.iload_n 3, 1) := by decide +kernel
theorem dX9_nears_129 : decode cX9_nears 129 = .ok (.ireturn, 1) := by decide +kernel
theorem gX9_259 {p : Program} {l : Launch} {e : Env} {R : Room} {s : State} {m : MethodId} {args : Array Value} {below : List Frame} {meth : Method} {c : Code} {H : Heap} {locs : List Loc} {cells slots : Nat} {Q : State → Prop} {cc : ByteArray} {pc nL : Nat} {ls : Array Slot} {rest : List Value} {ret : Option FieldType} {G : xG} {β N : Nat} {x : MS} (C : Cx p s m args meth c RX9 cc nL ret (KK G)) (hw : MW β G N x H) (hd : decode cc pc = .ok (.getfield 259, 3)) (kk : W p l e R s m args below meth c H locs cells slots Q (F0 m (pc + 3) ls (.int (x.1 0 20) :: rest))) : W p l e R s m args below meth c H locs cells slots Q (F0 m pc ls (.ref β :: rest)) :=
  va_get C.1 C.2.1 C.2.2.2.2.1 iwX9 C.2.2.2.1 C.K.1 (xP1 (hw.2 0 (by decide))) 0 rfl rfl 20 (by decide) (C.2.2.2.2.1 (.fieldLink RX9 259 RX9 "foremost" "I") (tg 936 (by decide +kernel) rfl)) (fun _ h9 => h9) rfl hd kk
def BX9_nears_5 (q1 : Int32) (q2 : Int32) (lp : Int32 → Bool → MS → Option (Int32 × MS)) (u3 : Int32) (u4 : Bool) (x : MS) : Option (Int32 × MS) := if u4 = true then Option.bind (fX9_lays x q1 q2) fun x1 => bind2 (fX9_unevenness x1 q1) fun v3 x4 => lt (x4.1 0 20) fun v6 => Option.bind (if 40 ≤ u3 then some false else if ib v6 10 then if 60 ≤ (x4.2.1 9 v6.toNatClampNeg) then some false else some true else none) fun v8 => if v8 = true then if ib v6 10 then if ib v6 10 then lt (msA x4 9 v6.toNatClampNeg ((x4.2.1 9 v6.toNatClampNeg) + 1)) fun x11 => Option.bind (fX9_lays x11 q1 q2) fun x12 => bind2 (fX9_unevenness x12 q1) fun v14 x15 => Option.bind (if v3 ≤ v14 then some false else some true) fun v17 => if v17 = true then lt (u3 + 1) fun v21 => lp v21 v17 x15 else if ib v6 10 then if ib v6 10 then lt (msA x15 9 v6.toNatClampNeg ((x15.2.1 9 v6.toNatClampNeg) - 1)) fun x20 => lp u3 v17 x20 else none else none else none else none else lp u3 v8 x4 else some (u3, x)
def LX9_nears_5 (q1 : Int32) (q2 : Int32) : Nat → Int32 → Bool → MS → Option (Int32 × MS)
  | 0, _, _, _ => none
  | n + 1, u3, u4, x => BX9_nears_5 q1 q2 (LX9_nears_5 q1 q2 n) u3 u4 x
def fX9_nears (x : MS) (a1 : Int32) (a2 : Int32) : Option (Int32 × MS) := bind2 (LX9_nears_5 a1 a2 NF 0 true x) fun v22 x23 => Option.bind (fX9_lays x23 a1 a2) fun x24 => some (v22, x24)
set_option maxHeartbeats 4000000 in
set_option maxRecDepth 100000 in
theorem lX9_nears_5 {p : Program} {l : Launch} {e : Env} {R : Room} {s : State} {m : MethodId} {args : Array Value} {below : List Frame} {meth : Method} {c : Code} {cells slots : Nat} {Q : State → Prop} {G : xG} {β N : Nat} (C : Cx p s m args meth c RX9 cX9_nears 8 (some .int) (KK G)) (hRf : 6 ≤ R.frames) (hRl : 150 ≤ R.locals) (hcs : cells ≤ R.cells ∧ slots ≤ R.slots) (q1 : Int32) (q2 : Int32) : ∀ (n : Nat) (u3 : Int32) (u4 : Bool) (x : MS) (J : Int32 × MS) (H : Heap) (locs : List Loc) (ls : Array Slot), LX9_nears_5 q1 q2 n u3 u4 x = some J → MW β G N x H → va_S (AM β) s.heap H locs → lv_has ls 8 [(0, .ref β), (1, .int q1), (2, .int q2), (3, .int u3), (4, .int (bI u4))] → (∀ (w3 : Int32) (x1 : MS), J = (w3, x1) → ∀ (H : Heap) (locs : List Loc) (ls : Array Slot), MW β G N x1 H → va_S (AM β) s.heap H locs → lv_has ls 8 [(0, .ref β), (1, .int q1), (2, .int q2), (3, .int w3)] → W p l e R s m args below meth c H locs cells slots Q (F0 m 122 ls [])) → W p l e R s m args below meth c H locs cells slots Q (F0 m 5 ls []) := by
  have hx := C.1
  have hb := C.2.1
  have ho := C.2.2.2.1
  have hts := C.2.2.2.2.1
  intro n
  induction n with
  | zero =>
    intro u3 u4 x J H locs ls hm
    exact absurd hm (by simp [LX9_nears_5])
  | succ n ih =>
    intro u3 u4 x J H locs ls hm hw hS hl ke
    replace hm : BX9_nears_5 q1 q2 (LX9_nears_5 q1 q2 n) u3 u4 x = some J := hm
    unfold BX9_nears_5 at hm
    refine lv_iload hx hb dX9_nears_5 (lv_at hl 4 rfl) ?_
    refine x_ifeqB hx hb dX9_nears_7 (tgt := 122) (by decide) (fun cc => ?_) (fun cc => ?_)
    · replace hm := ite_n cc hm
      exact ke _ _ (Option.some.inj hm).symm _ _ _ hw hS (lv_sub hl [0, 1, 2, 3] rfl)
    · replace hm := ite_p cc hm
      refine lv_aload_n hx hb dX9_nears_10 rfl (lv_at hl 0 rfl) ?_
      refine lv_iload_n hx hb dX9_nears_11 rfl (lv_at hl 1 rfl) ?_
      refine lv_iload_n hx hb dX9_nears_12 rfl (lv_at hl 2 rfl) ?_
      obtain ⟨x1, h2, hm⟩ := bind_e hm
      refine sX9_231 C h2 hw hS hl.1 (Nat.le_of_ble_eq_true rfl) (Nat.le_trans (Nat.le_of_ble_eq_true rfl) hRf) (Nat.le_trans (Nat.le_of_ble_eq_true rfl) hRl) hcs dX9_nears_13 (fun H locs hw hS => ?_)
      refine lv_aload_n hx hb dX9_nears_16 rfl (lv_at hl 0 rfl) ?_
      refine lv_iload_n hx hb dX9_nears_17 rfl (lv_at hl 1 rfl) ?_
      obtain ⟨v3, x4, h5, hm⟩ := bind2_e hm
      refine sX9_262 C h5 hw hS hl.1 (Nat.le_of_ble_eq_true rfl) (Nat.le_trans (Nat.le_of_ble_eq_true rfl) hRf) (Nat.le_trans (Nat.le_of_ble_eq_true rfl) hRl) hcs dX9_nears_18 (fun H locs hw hS => ?_)
      refine lv_lstore (lv' := [(5, .long v3), (0, .ref β), (1, .int q1), (2, .int q2), (3, .int u3), (4, .int (bI u4))]) hx hb dX9_nears_21 hl (by decide) rfl (fun ls hl => ?_)
      refine lv_aload_n hx hb dX9_nears_23 rfl (lv_at hl 1 rfl) ?_
      refine gX9_259 C hw dX9_nears_24 ?_
      refine topI hm (fun v6 hm => ?_)
      refine lv_istore (lv' := [(7, .int v6), (5, .long v3), (0, .ref β), (1, .int q1), (2, .int q2), (3, .int u3), (4, .int (bI u4))]) hx hb dX9_nears_27 hl (by decide) rfl (fun ls hl => ?_)
      refine lv_iload_n hx hb dX9_nears_29 rfl (lv_at hl 5 rfl) ?_
      refine lv_bipush (v := 40) hx hb dX9_nears_30 (by decide) ?_
      obtain ⟨v8, hj, hm⟩ := bind_e hm
      have kk : ∀ (H : Heap) (locs : List Loc) (ls : Array Slot), MW β G N x4 H → va_S (AM β) s.heap H locs → lv_has ls 8 [(0, .ref β), (1, .int q1), (2, .int q2), (3, .int u3), (5, .long v3), (7, .int v6)] → W p l e R s m args below meth c H locs cells slots Q (F0 m 52 ls [.int (bI v8)]) := by
        intro H locs ls hw hS hl
        refine lv_istore (lv' := [(4, .int (bI v8)), (0, .ref β), (1, .int q1), (2, .int q2), (3, .int u3), (5, .long v3), (7, .int v6)]) hx hb dX9_nears_52 hl (by decide) rfl (fun ls hl => ?_)
        refine lv_iload hx hb dX9_nears_54 (lv_at hl 0 rfl) ?_
        refine x_ifneB hx hb dX9_nears_56 (tgt := 62) (by decide) (fun cc => ?_) (fun cc => ?_)
        · replace hm := ite_p cc hm
          refine lv_aload_n hx hb dX9_nears_62 rfl (lv_at hl 1 rfl) ?_
          refine gX9_38 C hw dX9_nears_63 ?_
          refine lv_iload hx hb dX9_nears_66 (lv_at hl 6 rfl) ?_
          refine lv_dup2_11 hx hb dX9_nears_68 rfl rfl ?_
          obtain ⟨h9, hm⟩ := chk_e hm
          refine alM_9 C hw h9 dX9_nears_69 ?_
          refine lv_iconst (v := 1) hx hb dX9_nears_70 (by decide) ?_
          refine lv_iadd hx hb dX9_nears_71 ?_
          obtain ⟨h10, hm⟩ := chk_e hm
          refine asM_9 C hw hS h10 dX9_nears_72 (fun H locs hw hS => ?_)
          obtain ⟨x11, ev, hm⟩ := lt_e hm
          rw [← ev] at hw
          clear ev
          refine lv_aload_n hx hb dX9_nears_73 rfl (lv_at hl 1 rfl) ?_
          refine lv_iload_n hx hb dX9_nears_74 rfl (lv_at hl 2 rfl) ?_
          refine lv_iload_n hx hb dX9_nears_75 rfl (lv_at hl 3 rfl) ?_
          obtain ⟨x12, h13, hm⟩ := bind_e hm
          refine sX9_231 C h13 hw hS hl.1 (Nat.le_of_ble_eq_true rfl) (Nat.le_trans (Nat.le_of_ble_eq_true rfl) hRf) (Nat.le_trans (Nat.le_of_ble_eq_true rfl) hRl) hcs dX9_nears_76 (fun H locs hw hS => ?_)
          refine lv_aload_n hx hb dX9_nears_79 rfl (lv_at hl 1 rfl) ?_
          refine lv_iload_n hx hb dX9_nears_80 rfl (lv_at hl 2 rfl) ?_
          obtain ⟨v14, x15, h16, hm⟩ := bind2_e hm
          refine sX9_262 C h16 hw hS hl.1 (Nat.le_of_ble_eq_true rfl) (Nat.le_trans (Nat.le_of_ble_eq_true rfl) hRf) (Nat.le_trans (Nat.le_of_ble_eq_true rfl) hRl) hcs dX9_nears_81 (fun H locs hw hS => ?_)
          refine lv_lload hx hb dX9_nears_84 (lv_at hl 5 rfl) ?_
          refine W.lcmp hx hb dX9_nears_86 ?_
          obtain ⟨v17, hj, hm⟩ := bind_e hm
          have kk : ∀ (H : Heap) (locs : List Loc) (ls : Array Slot), MW β G N x15 H → va_S (AM β) s.heap H locs → lv_has ls 8 [(0, .ref β), (1, .int q1), (2, .int q2), (3, .int u3), (7, .int v6)] → W p l e R s m args below meth c H locs cells slots Q (F0 m 95 ls [.int (bI v17)]) := by
            intro H locs ls hw hS hl
            refine lv_istore (lv' := [(4, .int (bI v17)), (0, .ref β), (1, .int q1), (2, .int q2), (3, .int u3), (7, .int v6)]) hx hb dX9_nears_95 hl (by decide) rfl (fun ls hl => ?_)
            refine lv_iload hx hb dX9_nears_97 (lv_at hl 0 rfl) ?_
            refine x_ifeqB hx hb dX9_nears_99 (tgt := 108) (by decide) (fun cc => ?_) (fun cc => ?_)
            · replace hm := ite_n cc hm
              refine lv_aload_n hx hb dX9_nears_108 rfl (lv_at hl 1 rfl) ?_
              refine gX9_38 C hw dX9_nears_109 ?_
              refine lv_iload hx hb dX9_nears_112 (lv_at hl 5 rfl) ?_
              refine lv_dup2_11 hx hb dX9_nears_114 rfl rfl ?_
              obtain ⟨h18, hm⟩ := chk_e hm
              refine alM_9 C hw h18 dX9_nears_115 ?_
              refine lv_iconst (v := 1) hx hb dX9_nears_116 (by decide) ?_
              refine lv_isub hx hb dX9_nears_117 ?_
              obtain ⟨h19, hm⟩ := chk_e hm
              refine asM_9 C hw hS h19 dX9_nears_118 (fun H locs hw hS => ?_)
              obtain ⟨x20, ev, hm⟩ := lt_e hm
              rw [← ev] at hw
              clear ev
              refine lv_goto (tgt := 5) hx hb dX9_nears_119 (by decide) ?_
              exact ih _ _ _ _ _ _ _ hm hw hS (lv_sub hl [1, 2, 3, 4, 0] rfl) ke
            · replace hm := ite_p cc hm
              obtain ⟨v21, ev, hm⟩ := lt_e hm
              refine lv_iinc (v := v21) (lv' := [(3, .int v21), (4, .int (bI v17)), (0, .ref β), (1, .int q1), (2, .int q2), (7, .int v6)]) hx hb dX9_nears_102 hl (k := 4) rfl (by rw [ev]; rfl) (by decide) rfl (fun ls hl => ?_)
              clear ev
              refine lv_goto (tgt := 119) hx hb dX9_nears_105 (by decide) ?_
              refine lv_goto (tgt := 5) hx hb dX9_nears_119 (by decide) ?_
              exact ih _ _ _ _ _ _ _ hm hw hS (lv_sub hl [2, 3, 4, 0, 1] rfl) ke
          clear hm
          replace hm := hj
          clear hj
          refine lv_if_ge (tgt := 94) hx hb dX9_nears_87 (by decide) (fun cc => ?_) (fun cc => ?_)
          · rw [lg_cmp_ge] at cc
            replace hm := ite_p cc hm
            refine lv_iconst (v := 0) hx hb dX9_nears_94 (by decide) ?_
            obtain rfl := Option.some.inj hm
            exact kk _ _ _ hw hS (lv_sub hl [1, 2, 3, 4, 6] rfl)
          · rw [lg_cmp_ge] at cc
            replace hm := ite_n cc hm
            refine lv_iconst (v := 1) hx hb dX9_nears_90 (by decide) ?_
            refine lv_goto (tgt := 95) hx hb dX9_nears_91 (by decide) ?_
            obtain rfl := Option.some.inj hm
            exact kk _ _ _ hw hS (lv_sub hl [1, 2, 3, 4, 6] rfl)
        · replace hm := ite_n cc hm
          refine lv_goto (tgt := 5) hx hb dX9_nears_59 (by decide) ?_
          exact ih _ _ _ _ _ _ _ hm hw hS (lv_sub hl [1, 2, 3, 4, 0] rfl) ke
      clear hm
      replace hm := hj
      clear hj
      refine lv_icmp_ge (tgt := 51) hx hb dX9_nears_32 (by decide) (fun cc => ?_) (fun cc => ?_)
      · replace hm := ite_p cc hm
        refine lv_iconst (v := 0) hx hb dX9_nears_51 (by decide) ?_
        obtain rfl := Option.some.inj hm
        exact kk _ _ _ hw hS (lv_sub hl [2, 3, 4, 5, 1, 0] rfl)
      · replace hm := ite_n cc hm
        refine lv_aload_n hx hb dX9_nears_35 rfl (lv_at hl 2 rfl) ?_
        refine gX9_38 C hw dX9_nears_36 ?_
        refine lv_iload hx hb dX9_nears_39 (lv_at hl 0 rfl) ?_
        obtain ⟨h7, hm⟩ := chk_e hm
        refine alM_9 C hw h7 dX9_nears_41 ?_
        refine lv_bipush (v := 60) hx hb dX9_nears_42 (by decide) ?_
        refine lv_icmp_ge (tgt := 51) hx hb dX9_nears_44 (by decide) (fun cc => ?_) (fun cc => ?_)
        · replace hm := ite_p cc hm
          refine lv_iconst (v := 0) hx hb dX9_nears_51 (by decide) ?_
          obtain rfl := Option.some.inj hm
          exact kk _ _ _ hw hS (lv_sub hl [2, 3, 4, 5, 1, 0] rfl)
        · replace hm := ite_n cc hm
          refine lv_iconst (v := 1) hx hb dX9_nears_47 (by decide) ?_
          refine lv_goto (tgt := 52) hx hb dX9_nears_48 (by decide) ?_
          obtain rfl := Option.some.inj hm
          exact kk _ _ _ hw hS (lv_sub hl [2, 3, 4, 5, 1, 0] rfl)
abbrev rmX9_nears : Room := { frames := 6, cells := 0, slots := 0, locals := 150 }
set_option maxHeartbeats 4000000 in
set_option maxRecDepth 100000 in
theorem kX9_nears {l : Launch} {G : xG} {β N : Nat} {x x' : MS} {a1 : Int32} {a2 : Int32} {r : Int32} (hm : fX9_nears x a1 a2 = some (r, x')) : Met l yX9_nears (.code yX9_nears cX9_nears 8 (some .int) :: GT) rmX9_nears (PcW [.ref β, .int a1, .int a2] (MW β G N x) (KK G)) (QcW (AM β) (some (.int r)) (MW β G N x')) 0 0 (AM β) := by
  unfold fX9_nears at hm
  refine xpro (own := RX9) (by decide +kernel) rfl (Nat.le_of_ble_eq_true rfl) ?_
  intro p e s m args below meth c C hw ls hl
  have hx := C.1
  have hb := C.2.1
  have ho := C.2.2.2.1
  have hts := C.2.2.2.2.1
  have hS : va_S (AM β) s.heap s.heap [] := va_S.rf
  have hl : lv_has ls 8 [(0, .ref β), (1, .int a1), (2, .int a2)] := hl
  have hRf : 6 ≤ rmX9_nears.frames := Nat.le_refl _
  have hRl : 150 ≤ rmX9_nears.locals := Nat.le_refl _
  have hcs : 0 ≤ rmX9_nears.cells ∧ 0 ≤ rmX9_nears.slots := ⟨Nat.le_refl _, Nat.le_refl _⟩
  refine lv_iconst (v := 0) hx hb dX9_nears_0 (by decide) ?_
  refine lv_istore_n (lv' := [(3, .int 0), (0, .ref β), (1, .int a1), (2, .int a2)]) hx hb dX9_nears_1 rfl hl (by decide) rfl (fun ls hl => ?_)
  refine lv_iconst (v := 1) hx hb dX9_nears_2 (by decide) ?_
  refine lv_istore (lv' := [(4, .int 1), (3, .int 0), (0, .ref β), (1, .int a1), (2, .int a2)]) hx hb dX9_nears_3 hl (by decide) rfl (fun ls hl => ?_)
  obtain ⟨v22, x23, hj, hm⟩ := bind2_e hm
  refine lX9_nears_5 C hRf hRl hcs a1 a2 NF _ _ _ _ _ _ _ hj hw hS (lv_sub hl [2, 3, 4, 1, 0] rfl) (fun v22_ x23_ e0 H locs ls hw hS hl => ?_)
  cases e0
  refine lv_aload_n hx hb dX9_nears_122 rfl (lv_at hl 0 rfl) ?_
  refine lv_iload_n hx hb dX9_nears_123 rfl (lv_at hl 1 rfl) ?_
  refine lv_iload_n hx hb dX9_nears_124 rfl (lv_at hl 2 rfl) ?_
  obtain ⟨x24, h25, hm⟩ := bind_e hm
  refine sX9_231 C h25 hw hS hl.1 (Nat.le_of_ble_eq_true rfl) (Nat.le_trans (Nat.le_of_ble_eq_true rfl) hRf) (Nat.le_trans (Nat.le_of_ble_eq_true rfl) hRl) hcs dX9_nears_125 (fun H locs hw hS => ?_)
  refine lv_iload_n hx hb dX9_nears_128 rfl (lv_at hl 3 rfl) ?_
  obtain ⟨rfl, rfl⟩ := inj2 hm
  exact xret_i C hw hS dX9_nears_129
